/-! lines moved in -/
theorem en_bg {f : Nat → Int32} {n j e : Nat} (h : isEn f n j e) (hj : j < ends f n) : e < n ∧ isBg f (j + 1) (e + 1) := by
  obtain ⟨h1, h2, h3⟩ := h
  have hen : e ≠ n := by
    rintro rfl
    omega
  have h10 : f e = 10 := by
    rcases h3 with z | z
    · exact absurd z hen
    · exact z
  refine ⟨by omega, ?_, Or.inr ?_⟩
  · rw [ends_succ, if_pos h10, h2]
  · rw [Nat.add_sub_cancel]
    exact h10
theorem bg_next {f : Nat → Int32} {n j : Nat} {bf ef : Nat → Nat} (h : isLn f n bf ef) (hj : j < ends f n) : bf (j + 1) = ef j + 1 := by
  obtain ⟨h1, h2⟩ := en_bg (h j (by omega)).2.1 hj
  exact isBg.uniq (h (j + 1) (by omega)).1 h2
theorem isSp_n10 {x : Int32} (h : isSp x = true) : x ≠ 10 := by
  rintro rfl
  exact absurd h (by decide)
section R
variable {σ μ σ1 μ1 : Sto} {L B H : Nat} {f : Nat → Int32} {n c K q w : Nat} {hd : Nat → Int32} {cu : Nat → Nat} {ma lf ml : Nat → Int32} {T : Hst} {a b l : Nat → Nat} {G : Nat → Int32} {o : Int64}
theorem JP.ct (j : JP σ μ σ1 μ1 n K q a b l G w) (h : CT σ 1 L B f n) (hL : (L = 2 ∧ B = 3 ∧ H = 4) ∨ (L = 20 ∧ B = 21 ∧ H = 22)) : CT σ1 1 L B f n :=
  h.congr (j.1.1 1 (by omega)).1 (j.1.1 1 (by omega)).2.1 (j.1.1 L (by omega)).2.2.1 (j.1.1 B (by omega)).2.2.1
theorem JP.mt (j : JP σ μ σ1 μ1 n K q a b l G w) (h : MT μ f n) : MT μ1 f n :=
  h.congr (j.2.1.1 5 (by decide) (by decide) (by decide)) (j.2.1.2.1 2018 (by omega) (by omega))
/-- letters of one kind made ready -/
theorem c1_with {v : Int32} {m : Nat} (hv : isLt v = true) (hm : m ≤ 3000) : ∃ r, f1_beginWith σ v (Int32.ofNat m) = some (uI (rA (uI (uI σ 13 4 0) 13 6 0) 19 r) 18 1 (Int32.ofNat m)) ∧ ∀ i, i < m → r i = v := by
  generalize hX : uI (uI σ 13 4 0) 13 6 0 = X
  have hv2 := isLt_in hv
  have hnar := (nar_B (x := v) (by grind)).2.1
  have key : Ok (loopF (fun s_20 => f1_beginWith_b20 v (Int32.ofNat m) s_20.1 s_20.2) FU (uI X 18 1 0, 0)) (fun s => ∃ r, s = uI (rA X 19 r) 18 1 (Int32.ofNat m) ∧ ∀ i, i < m → r i = v) := by
    refine Ok_count m (fun k s => ∃ r, s = (uI (rA X 19 r) 18 1 (Int32.ofNat k), Int32.ofNat k) ∧ ∀ i, i < k → r i = v) ?_ 0 ⟨aI X 19, by rw [rA_self]; rfl, fun i hi => by omega⟩ (by omega) (by (show _ < FU; unfold FU; omega))
    rintro k s hk ⟨r, rfl, r1⟩
    unfold f1_beginWith_b20
    simp only [i32_le (show m < 2147483648 by omega) (show k < 2147483648 by omega)]
    by_cases hq : m ≤ k
    · rw [if_pos hq, Ok_some, lp_inr, show m = k by omega]
      exact ⟨r, rfl, r1⟩
    · rw [if_neg hq]
      have e1 : fI (uI (rA X 19 r) 18 1 (Int32.ofNat k)) 18 1 = Int32.ofNat k := rfl
      have e2 : ∀ x, fI (uA (uI (rA X 19 r) 18 1 (Int32.ofNat k)) 19 k x) 18 1 = Int32.ofNat k := fun _ => rfl
      have e3 : Int8.toInt32 (Int32.toInt8 v) = v := (nar_B (x := v) (by grind)).2.2
      have e4 : f6_add (uI (rA X 19 r) 18 1 (Int32.ofNat k)) 18 v = some (1, uI (rA X 19 (up1 r k v)) 18 1 (Int32.ofNat (k + 1))) := by
        unfold f6_add
        have e5 : ln (18 + 1) = 3000 := rfl
        rw [e1, e5, if_pos ((i32n_lt (by omega) (by omega)).mpr (by omega)), inb_n (by omega) (by omega), gd_true, ofNat_clamp (by omega), stp, e2, i32_succ, stp, e3, hnar, st_row]
      rw [e4, bnd_some, stp, i32_succ, Ok_some, lp_inl]
      refine ⟨by omega, _, rfl, fun i hi => ?_⟩
      unfold up1
      by_cases e : i = k
      · rw [if_pos e]
      · rw [if_neg e]
        exact r1 i (by omega)
  obtain ⟨s, h1, r, rfl, h2⟩ := key
  refine ⟨r, ?_, h2⟩
  unfold f1_beginWith f1_beginWith_j20
  rw [stp, stp, stp, stp, hX, h1, bnd_some]
/-- as many puts as are asked -/
theorem c12_putN {m : Nat} (hm : m ≤ 3000) {x y z : Int32} (hz : z = Int32.ofNat m) : ∃ r, loopF (fun s_55 => f12_indent_b55 x y z s_55.1 s_55.2) FU (uI μ 2017 28 0, 0) = some (uI (rA μ 2033 r) 2017 28 (Int32.ofNat m)) ∧ ∀ i, i < m → r i = 32 := by
  subst hz
  have key : Ok (loopF (fun s_55 => f12_indent_b55 x y (Int32.ofNat m) s_55.1 s_55.2) FU (uI μ 2017 28 0, 0)) (fun s => ∃ r, s = uI (rA μ 2033 r) 2017 28 (Int32.ofNat m) ∧ ∀ i, i < m → r i = 32) := by
    refine Ok_count m (fun k s => ∃ r, s = (uI (rA μ 2033 r) 2017 28 (Int32.ofNat k), Int32.ofNat k) ∧ ∀ i, i < k → r i = 32) ?_ 0 ⟨aI μ 2033, by rw [c12_put0]; rfl, fun i hi => by omega⟩ (by omega) (by (show _ < FU; unfold FU; omega))
    rintro k s hk ⟨r, rfl, r1⟩
    unfold f12_indent_b55
    simp only [i32_le (show m < 2147483648 by omega) (show k < 2147483648 by omega)]
    by_cases hq : m ≤ k
    · rw [if_pos hq, Ok_some, lp_inr, show m = k by omega]
      exact ⟨r, rfl, r1⟩
    · rw [if_neg hq, c12_puts1 (by omega), bnd_some, stp, i32_succ, Ok_some, lp_inl]
      refine ⟨by omega, _, rfl, fun i hi => ?_⟩
      unfold up1
      by_cases e : i = k
      · rw [if_pos e]
      · rw [if_neg e]
        exact r1 i (by omega)
  obtain ⟨s, h1, r, rfl, h2⟩ := key
  exact ⟨r, h1, h2⟩
/-- blanks from a place on -/
theorem blanks (h : CT σ 1 L B f n) {p lim : Nat} (hp : p ≤ n) (hl : lim ≤ 3000) {gb : Int32 → Option (Int32 ⊕ Int32)} (hgb : ∀ k, p + k ≤ n → gb (Int32.ofNat (p + k)) = if lim ≤ k ∨ n ≤ p + k ∨ ¬ isSp (f (p + k)) = true then some (.inr (Int32.ofNat (p + k))) else some (.inl (Int32.ofNat (p + k + 1)))) : ∃ k, f8_blanksFrom σ 1 (Int32.ofNat p) (Int32.ofNat lim) = some (Int32.ofNat k) ∧ loopF gb FU (Int32.ofNat p) = some (Int32.ofNat (p + k)) ∧ p + k ≤ n ∧ ∀ i, i < k → isSp (f (p + i)) = true := by
  obtain ⟨h1, h2, h3, h4, ⟨h5, h6, h7⟩, h8, h9, h10⟩ := h
  have key : ∃ r r', loopF (fun s_2 => f8_blanksFrom_b2 1 (Int32.ofNat p) (Int32.ofNat lim) σ s_2) FU (Int32.ofNat 0) = some r ∧ loopF gb FU (Int32.ofNat (p + 0)) = some r' ∧ ∃ k, r = Int32.ofNat k ∧ r' = Int32.ofNat (p + k) ∧ p + k ≤ n ∧ ∀ i, i < k → isSp (f (p + i)) = true := by
    refine loop2 (n - p) (fun k s s' => s = Int32.ofNat k ∧ s' = Int32.ofNat (p + k) ∧ ∀ i, i < k → isSp (f (p + i)) = true) ?_ 0 ⟨rfl, rfl, fun i hi => by omega⟩ (by omega) (by (show _ < FU; unfold FU; omega)) (by (show _ < FU; unfold FU; omega))
    rintro k s s' hk ⟨rfl, rfl, hs⟩
    rw [hgb k (by omega)]
    unfold f8_blanksFrom_b2 f8_blanksFrom_j43
    rw [h3, h5, i32_add]
    simp only [i32_le (show lim < 2147483648 by omega) (show k < 2147483648 by omega), i32_le (show n < 2147483648 by omega) (show p + k < 2147483648 by omega), okr_s.mpr h6, gd_true, Nat.add_sub_cancel, h7, ofNat_clamp (show p + k < 2147483648 by omega), i32_succ]
    by_cases c1 : lim ≤ k
    · rw [if_pos c1, if_pos (Or.inl c1)]
      exact Or.inr ⟨_, _, rfl, rfl, k, rfl, rfl, by omega, hs⟩
    · rw [if_neg c1]
      by_cases c2 : n ≤ p + k
      · rw [if_pos c2, if_pos (Or.inr (Or.inl c2))]
        exact Or.inr ⟨_, _, rfl, rfl, k, rfl, rfl, by omega, hs⟩
      · rw [if_neg c2, inb_n (show p + k < 3000 by omega) (by omega), gd_true, h9 (p + k) (by omega)]
        have e : isSp (f (p + k)) = true ↔ (f (p + k) = 32 ∨ f (p + k) = 9) := by
          unfold isSp
          simp
        by_cases c3 : f (p + k) = 32
        · rw [if_pos c3, if_neg (by rintro (z | z | z); exact c1 z; exact c2 z; exact z (e.mpr (Or.inl c3)))]
          refine Or.inl ⟨_, _, rfl, rfl, by omega, rfl, rfl, fun i hi => ?_⟩
          by_cases e9 : i = k
          · rw [e9]
            exact e.mpr (Or.inl c3)
          · exact hs i (by omega)
        · rw [if_neg c3]
          by_cases c4 : f (p + k) = 9
          · rw [if_pos c4, if_neg (by rintro (z | z | z); exact c1 z; exact c2 z; exact z (e.mpr (Or.inr c4)))]
            refine Or.inl ⟨_, _, rfl, rfl, by omega, rfl, rfl, fun i hi => ?_⟩
            by_cases e9 : i = k
            · rw [e9]
              exact e.mpr (Or.inr c4)
            · exact hs i (by omega)
          · rw [if_neg c4, if_pos (Or.inr (Or.inr (fun z => (e.mp z).elim c3 c4)))]
            exact Or.inr ⟨_, _, rfl, rfl, k, rfl, rfl, by omega, hs⟩
  obtain ⟨r, r', k1, k2, k, rfl, rfl, k3, k4⟩ := key
  refine ⟨k, ?_, k2, k3, k4⟩
  unfold f8_blanksFrom f8_blanksFrom_j2 f8_blanksFrom_j49
  rw [stp]
  show bnd (loopF (fun s_2 => f8_blanksFrom_b2 1 (Int32.ofNat p) (Int32.ofNat lim) σ s_2) FU (Int32.ofNat 0)) _ = _
  rw [k1, bnd_some]
theorem mt_ln (h : MT μ f n) {bf ef : Nat → Nat} (hbe : isLn f n bf ef) {j : Nat} (hj : j ≤ ends f n) : f12_beginOf μ (Int32.ofNat j) = some (Int32.ofNat (bf j)) ∧ f12_endOf μ (Int32.ofNat j) = some (Int32.ofNat (ef j)) := by
  obtain ⟨p, p1, p2, p3⟩ := c12_beginOf h rfl hj
  obtain ⟨e, e1, e2⟩ := c12_endOf h rfl hj
  rw [p3, e2, isBg.uniq p2 (hbe j hj).1, isEn.uniq e1 (hbe j hj).2.1]
  exact ⟨rfl, rfl⟩
theorem ct_ln (h : CT σ 1 L B f n) {bf ef : Nat → Nat} (hbe : isLn f n bf ef) {j : Nat} (hj : j ≤ ends f n) : aI σ B j = Int32.ofNat (bf j) ∧ f8_endOf σ 1 (Int32.ofNat j) = some (Int32.ofNat (ef j)) ∧ inb (Int32.ofNat j) (ln B) = true := by
  refine ⟨(h.bg hj (hbe j hj).1).1, c8_endOf h rfl (hbe j hj).2.1, ?_⟩
  rw [h.2.2.2.2.2.1.2.2]
  have := h.2.1
  exact inb_n (by omega) (by omega)
/-- a line moved in, both sides: nothing or a part -/
theorem indent1 (j : JP σ μ σ1 μ1 n K q a b l G w) (hC : CT σ 1 L B f n) (hL : (L = 2 ∧ B = 3 ∧ H = 4) ∨ (L = 20 ∧ B = 21 ∧ H = 22)) (hM : MT μ f n) {bf ef : Nat → Nat} (hbe : isLn f n bf ef) {i : Nat} (hi : i ≤ ends f n) {y : Int32} (hy : y ≠ 0) (hy1 : -8 ≤ y) (hy2 : y ≤ 8) (hw : imax y 0 = Int32.ofNat w) {x1 x2 : Int32} : (f11_indentLine σ1 (Int32.ofNat i) y = some σ1 ∧ f12_indent_b76 x1 x2 y μ1 (Int32.ofNat i) = (if x2 < Int32.ofNat i then some (.inr μ1) else some (.inl (μ1, Int32.ofNat (i + 1))))) ∨ ∃ p r e, f11_indentLine σ1 (Int32.ofNat i) y = f1_addPart σ1 (Int32.ofNat p) (Int32.ofNat r) (Int32.ofNat e) ∧ f12_indent_b76 x1 x2 y μ1 (Int32.ofNat i) = (if x2 < Int32.ofNat i then some (.inr μ1) else bnd (f12_adds μ1 (Int32.ofNat p) (Int32.ofNat r) 0 (Int32.ofNat e)) fun m => some (.inl (m, Int32.ofNat (i + 1)))) ∧ p = bf i ∧ p ≤ r ∧ r ≤ ef i ∧ ((0 < y ∧ r = p ∧ e = w) ∨ (y < 0 ∧ e = 0)) := by
  have hC1 := j.ct hC hL
  have hM1 := j.mt hM
  obtain ⟨c1, c2, c3⟩ := ct_ln hC1 hbe hi
  obtain ⟨m1, m2⟩ := mt_ln hM1 hbe hi
  obtain ⟨b1, b2, b3, b4⟩ := hbe i hi
  have hn := hC.1
  have e28 : fI μ1 2017 28 = Int32.ofNat w := j.2.1.2.2.2
  have hc9 := hC1.2.2.2.2.2.1
  unfold f11_indentLine
  rw [hc9.1, okr_s.mpr hc9.2.1, gd_true, Nat.add_sub_cancel, c3, gd_true, ofNat_clamp (by have := hC.2.1; omega), c1, stp]
  unfold f12_indent_b76
  rw [m1, bnd_some, stp, stp]
  unfold f12_indent_j94
  by_cases h0 : y ≤ 0
  · obtain ⟨d, hd, ed⟩ := of_range (x := -y) (n := 8) ⟨by grind, by grind⟩ (by decide)
    have ey : y = -Int32.ofNat d := by grind
    have hneg : ¬ 0 ≤ y := by grind
    rw [if_pos h0]
    unfold f11_indentLine_j36 f11_indentLine_j61
    rw [if_neg hneg, ed]
    obtain ⟨k, k1, k2, k3, k4⟩ := blanks hC1 (p := bf i) (lim := d) b4 (by omega) (gb := fun s_94 => f12_indent_b94 x1 x2 y μ1 (Int32.ofNat i) (Int32.ofNat (bf i)) s_94) (fun k hk => by
      have e1 : Int32.ofNat (bf i) - y = Int32.ofNat (bf i + d) := by
        rw [ey, ← i32_add]
        grind
      show f12_indent_b94 x1 x2 y μ1 (Int32.ofNat i) (Int32.ofNat (bf i)) (Int32.ofNat (bf i + k)) = _
      unfold f12_indent_b94
      rw [e1, hM1.2.1]
      simp only [i32_le (show bf i + d < 2147483648 by omega) (show bf i + k < 2147483648 by omega), i32_le (show n < 2147483648 by omega) (show bf i + k < 2147483648 by omega), ofNat_clamp (show bf i + k < 2147483648 by omega), i32_succ, c12_isSpace, bnd_some, ite_tz]
      by_cases q1 : d ≤ k
      · rw [if_pos (by omega), if_pos (Or.inl q1)]
      · rw [if_neg (by omega)]
        by_cases q2 : n ≤ bf i + k
        · rw [if_pos q2, if_pos (Or.inr (Or.inl q2))]
        · rw [if_neg q2, inb_n (show bf i + k < 3000 by omega) (by omega), gd_true, hM1.2.2 _ (by omega)]
          by_cases q3 : isSp (f (bf i + k)) = true
          · rw [if_pos q3, if_neg (by rintro (z | z | z); exact q1 z; exact q2 z; exact z q3)]
            rfl
          · rw [if_neg q3, if_pos (Or.inr (Or.inr q3))])
    refine Or.inr ⟨bf i, bf i + k, 0, ?_, ?_, rfl, by omega, ?_, Or.inr ⟨by grind, rfl⟩⟩
    · rw [k1, bnd_some, i32_add]
      show bnd (f1_addPart σ1 (Int32.ofNat (bf i)) (Int32.ofNat (bf i + k)) 0) _ = f1_addPart σ1 (Int32.ofNat (bf i)) (Int32.ofNat (bf i + k)) 0
      cases f1_addPart σ1 (Int32.ofNat (bf i)) (Int32.ofNat (bf i + k)) 0 <;> rfl
    · rw [k2, bnd_some]
      unfold f12_indent_j131 f12_indent_j172
      rw [if_neg hneg]
      simp only [stp, i32_succ]
      rfl
    · rcases Nat.lt_or_ge (ef i) (bf i + k) with z | z
      · exfalso
        have h10 : f (ef i) = 10 := by
          rcases b2.2.2 with q | q
          · omega
          · exact q
        have := k4 (ef i - bf i) (by omega)
        rw [show bf i + (ef i - bf i) = ef i by omega] at this
        exact isSp_n10 this h10
      · exact z
  · have h1 : 0 < y := by grind
    have ew : y = Int32.ofNat w := by
      rw [← hw]
      unfold imax
      rw [if_neg (by grind)]
    have hw3 : w ≤ 3000 := j.2.2.1.2.1
    have hw8 : w ≤ 8 := by
      rw [ew] at hy2
      exact (i32_le (b := 8) (by omega) (by omega)).mp hy2
    rw [if_neg h0, c2, bnd_some]
    have eL : loopF (fun s_94 => f12_indent_b94 x1 x2 y μ1 (Int32.ofNat i) (Int32.ofNat (bf i)) s_94) FU (Int32.ofNat (bf i)) = some (Int32.ofNat (bf i)) := by
      refine loop_done ?_
      show f12_indent_b94 x1 x2 y μ1 (Int32.ofNat i) (Int32.ofNat (bf i)) (Int32.ofNat (bf i)) = _
      unfold f12_indent_b94
      rw [if_pos (by rw [ew]; grind)]
    rw [eL, bnd_some]
    unfold f12_indent_j131 f12_indent_j172 f11_indentLine_j36 f11_indentLine_j61
    have h2 : 0 ≤ y := by grind
    rw [if_pos h2, m2, bnd_some, e28]
    simp only [stp, i32_succ, if_pos h2, i32_le (show ef i < 2147483648 by have := b2.1; omega) (show bf i < 2147483648 by omega)]
    by_cases q : ef i ≤ bf i
    · rw [if_pos q, if_pos q]
      exact Or.inl ⟨rfl, rfl⟩
    · rw [if_neg q, if_neg q]
      refine Or.inr ⟨bf i, bf i, w, ?_, rfl, rfl, Nat.le_refl _, b3, Or.inl ⟨h1, rfl, rfl⟩⟩
      rw [← ew]
      cases f1_addPart σ1 (Int32.ofNat (bf i)) (Int32.ofNat (bf i)) y <;> rfl
end R
