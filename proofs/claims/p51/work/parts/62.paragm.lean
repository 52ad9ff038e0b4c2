section R
variable {σ μ : Sto} {o : Int64} {L B H : Nat} {f : Nat → Int32} {n c : Nat} {bf ef : Nat → Nat}
/-- the reference's look at one line -/
theorem c12_parLine (h : MT μ f n) (hbe : BE f n bf ef) {x y a b d : Int32} {j : Nat} (hj : j ≤ ends f n) : loopF (fun s_24 => f12_paragraphFrom_b24 x y μ a b d s_24.1 s_24.2) FU (1, Int32.ofNat (bf j)) = some (tz (blk f bf ef j), Int32.ofNat (ef j)) := by
  obtain ⟨b1, ⟨e1, e2, e3⟩, b3, b4⟩ := hbe j hj
  have hin := isEn.in b1 ⟨e1, e2, e3⟩
  obtain ⟨hn, h3, hL⟩ := h
  apply Ok_eq
  refine Ok_count (ef j - bf j) (fun i s => ∃ w : Bool, s = (tz w, Int32.ofNat (bf j + i)) ∧ w = decide (∀ k, k < i → isSp (f (bf j + k)) = true)) ?_ 0 ⟨true, rfl, by rw [decide_eq_true]; intro k hk; omega⟩ (by omega) (by (show _ < FU; unfold FU; omega))
  rintro i s hi ⟨w, rfl, hw⟩
  unfold f12_paragraphFrom_b24 f12_paragraphFrom_j67 f12_paragraphFrom_j68
  have hp : bf j + i < 2147483648 := by omega
  simp only [h3, i32_le (show n < 2147483648 by omega) hp]
  by_cases hq : i = ef j - bf j
  · have hw2 : w = blk f bf ef j := by rw [hw, hq]; rfl
    have hq2 : bf j + i = ef j := by omega
    rw [hq2]
    rcases e3 with e3 | e3
    · rw [if_pos (by omega), Ok_some, lp_inr, hw2]
    · by_cases hn2 : n ≤ ef j
      · rw [if_pos hn2, Ok_some, lp_inr, hw2]
      · rw [if_neg hn2]
        simp only [inb_n (show ef j < 3000 by omega) (by omega), gd_true, ofNat_clamp (show ef j < 2147483648 by omega), hL (ef j) (by omega), if_pos e3]
        rw [Ok_some, lp_inr, hw2]
  · have hne := hin (bf j + i) (by omega) (by omega)
    simp only [if_neg (show ¬ n ≤ bf j + i by omega), inb_n (show bf j + i < 3000 by omega) (by omega), gd_true, ofNat_clamp hp, hL (bf j + i) (by omega), if_neg hne, ite_tz, c12_isSpace, bnd_some, stp, i32_succ]
    have hx : decide (∀ k, k < i + 1 → isSp (f (bf j + k)) = true) = (w && isSp (f (bf j + i))) := by
      cases hw3 : (w && isSp (f (bf j + i))) with
      | true =>
        rw [Bool.and_eq_true] at hw3
        rw [hw3.1] at hw
        have hw4 := of_decide_eq_true hw.symm
        rw [decide_eq_true]
        intro k hk
        by_cases e : k = i
        · rw [e]; exact hw3.2
        · exact hw4 k (by omega)
      | false =>
        rw [decide_eq_false]
        intro z
        have z1 := z i (by omega)
        have z2 : w = true := by rw [hw, decide_eq_true]; exact fun k hk => z k (by omega)
        rw [z1, z2] at hw3
        cases hw3
    cases w with
    | false =>
      rw [if_neg (by decide), Ok_some, lp_inl]
      exact ⟨by omega, false, rfl, by rw [hx]; rfl⟩
    | true =>
      rw [if_pos rfl]
      cases hs : isSp (f (bf j + i)) with
      | true =>
        rw [if_pos rfl, Ok_some, lp_inl]
        exact ⟨by omega, true, rfl, by rw [hx, hs]; rfl⟩
      | false =>
        rw [if_neg (by decide), Ok_some, lp_inl]
        exact ⟨by omega, false, rfl, by rw [hx, hs]; rfl⟩
theorem BE.next (hbe : BE f n bf ef) {j : Nat} (hj : j < ends f n) : bf (j + 1) = ef j + 1 := by
  obtain ⟨⟨b1, b2⟩, ⟨e1, e2, e3⟩, b3, b4⟩ := hbe j (by omega)
  refine isBg.uniq (hbe (j + 1) (by omega)).1 ?_
  have he : f (ef j) = 10 := by
    rcases e3 with e3 | e3
    · rw [e3] at e2; omega
    · exact e3
  exact ⟨by rw [ends_succ, if_pos he, e2], Or.inr he⟩
theorem BE.last (hbe : BE f n bf ef) : ef (ends f n) = n := by
  obtain ⟨⟨b1, b2⟩, ⟨e1, e2, e3⟩, b3, b4⟩ := hbe (ends f n) (by omega)
  rcases e3 with e3 | e3
  · exact e3
  · rcases Nat.lt_or_ge (ef (ends f n)) n with z | z
    · have := ends_mono (f := f) (show ef (ends f n) + 1 ≤ n by omega)
      rw [ends_succ, if_pos e3, e2] at this
      omega
    · omega
theorem c12_paragraphFrom (h : MT μ f n) (hE : ends f n < 300) (hbe : BE f n bf ef) {x y : Int32} {p : Nat} (hx : x = Int32.ofNat p) (hp : p ≤ n) : f12_paragraphFrom μ x y = some (Int32.ofNat (if y = 0 then pgB f bf ef p else pgF f n bf ef p)) := by
  subst hx
  have hpe := ends_mono (f := f) hp
  have hn := h.1
  have h3 := h.2.1
  generalize hP : par f bf ef = P
  have hbp : ∀ j, j ≤ ends f n → (bf j ≤ p ↔ j ≤ ends f p) := fun j hj => (hbe j hj).1.le_iff
  have hb0 : bf 0 = 0 := by
    obtain ⟨⟨z1, z2⟩, -⟩ := hbe 0 (by omega)
    exact isBg.uniq ⟨z1, z2⟩ ⟨rfl, Or.inl rfl⟩
  have key : Ok (loopF (fun s_8 => f12_paragraphFrom_b8 (Int32.ofNat p) y μ s_8.1 s_8.2.1 s_8.2.2) FU (0, 0, 1)) (fun r => (∃ z : Nat, r = .inl (Int32.ofNat z) ∧ (y = 0 → z = posB bf (skB (fun j => decide (bf j < p) && P j) (ends f n + 1))) ∧ (y ≠ 0 → ∀ i, ends f p < i → i ≤ ends f n → P i = false)) ∨ ∃ j, y ≠ 0 ∧ r = .inr (Int32.ofNat (bf j)) ∧ j ≤ ends f n ∧ ends f p < j ∧ P j = true ∧ ∀ i, ends f p < i → i < j → P i = false) := by
    refine Ok_count (ends f n + 1) (fun j s => ∃ z : Nat, s = (Int32.ofNat z, Int32.ofNat (if j ≤ ends f n then bf j else n + 1), tz (j == 0 || blk f bf ef (j - 1))) ∧ (y = 0 → z = posB bf (skB (fun j => decide (bf j < p) && P j) j)) ∧ (y ≠ 0 → ∀ i, ends f p < i → i < j → P i = false)) ?_ 0 ⟨0, by rw [if_pos (Nat.zero_le _), hb0]; rfl, fun _ => rfl, fun _ i i1 i2 => by omega⟩ (by omega) (by (show _ < FU; unfold FU; omega))
    rintro j s hj ⟨z, rfl, hz1, hz2⟩
    unfold f12_paragraphFrom_b8 f12_paragraphFrom_j24
    by_cases hq : j ≤ ends f n
    · obtain ⟨b1, ⟨e1, e2, e3⟩, b3, b4⟩ := hbe j hq
      simp only [if_pos hq, h3, i32n_lt (show n < 2147483648 by omega) (show bf j < 2147483648 by omega), if_neg (show ¬ n < bf j by omega), stp]
      rw [c12_parLine h hbe hq, bnd_some]
      unfold f12_paragraphFrom_j76 f12_paragraphFrom_j99 f12_paragraphFrom_j111 f12_paragraphFrom_j112
      simp only [ite_tz, stp, i32_succ, i32_le (show bf j < 2147483648 by omega) (show p < 2147483648 by omega), i32_le (show p < 2147483648 by omega) (show bf j < 2147483648 by omega)]
      have hnx : ef j + 1 = if j + 1 ≤ ends f n then bf (j + 1) else n + 1 := by
        by_cases hq2 : j + 1 ≤ ends f n
        · rw [if_pos hq2, hbe.next (by omega)]
        · rw [if_neg hq2, show j = ends f n by omega, hbe.last]
      have hpj : P j = (!blk f bf ef j && (j == 0 || blk f bf ef (j - 1))) := by rw [← hP]; rfl
      have hsk : P j = false → (y = 0 → z = posB bf (skB (fun j => decide (bf j < p) && P j) (j + 1))) ∧ (y ≠ 0 → ∀ i, ends f p < i → i < j + 1 → P i = false) := fun hf => ⟨fun hy => by rw [skB_skip (by rw [hf, Bool.and_false])]; exact hz1 hy, fun hy i i1 i2 => by
        by_cases e : i = j
        · rw [e]; exact hf
        · exact hz2 hy i i1 (by omega)⟩
      cases hb : blk f bf ef j with
      | true =>
        have hf : P j = false := by rw [hpj, hb]; rfl
        rw [if_pos rfl, Ok_some, lp_inl]
        refine ⟨by omega, z, ?_, hsk hf⟩
        rw [hnx, show j + 1 - 1 = j by omega, hb, Bool.or_true]
      | false =>
        rw [if_neg (by decide)]
        have hst : (j + 1 == 0 || blk f bf ef (j + 1 - 1)) = false := by
          rw [show j + 1 - 1 = j by omega, hb, Bool.or_false]
          rfl
        cases hv : (j == 0 || blk f bf ef (j - 1)) with
        | false =>
          have hf : P j = false := by rw [hpj, hv, Bool.and_false]
          rw [if_neg (by decide), Ok_some, lp_inl]
          refine ⟨by omega, z, ?_, hsk hf⟩
          rw [hnx, hst]
        | true =>
          have ht : P j = true := by rw [hpj, hv, hb]; rfl
          rw [if_pos rfl]
          by_cases hy : y = 0
          · rw [if_pos hy]
            by_cases hpb : p ≤ bf j
            · rw [if_pos hpb, Ok_some, lp_inl]
              refine ⟨by omega, z, ?_, fun _ => ?_, fun z => absurd hy z⟩
              · rw [hnx, hst]
              · rw [skB_skip (by rw [decide_eq_false (by omega)]; rfl)]
                exact hz1 hy
            · rw [if_neg hpb, Ok_some, lp_inl]
              refine ⟨by omega, bf j, ?_, fun _ => ?_, fun z => absurd hy z⟩
              · rw [hnx, hst]
              · rw [skB_hit (by rw [decide_eq_true (by omega), ht]; rfl)]
                rfl
          · rw [if_neg hy]
            by_cases hpb : bf j ≤ p
            · have hjp := (hbp j hq).mp hpb
              have hns : ∀ i, ends f p < i → i < j + 1 → P i = false := fun i i1 i2 => by omega
              rw [if_pos hpb]
              by_cases hpb2 : p ≤ bf j
              · rw [if_pos hpb2, Ok_some, lp_inl]
                exact ⟨by omega, z, by rw [hnx, hst], fun w => absurd w hy, fun _ => hns⟩
              · rw [if_neg hpb2, Ok_some, lp_inl]
                exact ⟨by omega, bf j, by rw [hnx, hst], fun w => absurd w hy, fun _ => hns⟩
            · have hjp : ends f p < j := by
                rcases Nat.lt_or_ge (ends f p) j with w | w
                · exact w
                · exact absurd ((hbp j hq).mpr w) hpb
              rw [if_neg hpb, Ok_some, lp_inr]
              exact Or.inr ⟨j, hy, rfl, hq, hjp, ht, hz2 hy⟩
    · simp only [if_neg hq, h3, i32n_lt (show n < 2147483648 by omega) (show n + 1 < 2147483648 by omega), if_pos (show n < n + 1 by omega)]
      rw [Ok_some, lp_inr]
      have : j = ends f n + 1 := by omega
      subst this
      exact Or.inl ⟨z, rfl, hz1, fun hy i i1 i2 => hz2 hy i i1 (by omega)⟩
  obtain ⟨r, k1, k2⟩ := key
  rw [f12_paragraphFrom, stp, stp, stp, f12_paragraphFrom_j8, k1, bnd_some]
  rcases k2 with ⟨z, rfl, z1, z2⟩ | ⟨j, hy, rfl, hj, j1, j2, j3⟩
  · by_cases hy : y = 0
    · show (if y = 0 then _ else _) = _
      rw [if_pos hy, if_pos hy, f12_paragraphFrom_j137, z1 hy]
      unfold pgB
      rw [hP]
      have hmore : ∀ d, skB (fun j => decide (bf j < p) && P j) (ends f p + 1 + d) = skB (fun j => decide (bf j < p) && P j) (ends f p + 1) ∨ ends f n + 1 < ends f p + 1 + d := by
        intro d
        induction d with
        | zero => exact Or.inl rfl
        | succ d ih =>
          by_cases hd : ends f n + 1 < ends f p + 1 + (d + 1)
          · exact Or.inr hd
          · rcases ih with ih | ih
            · left
              have : ¬ bf (ends f p + 1 + d) < p := fun w => by
                have := (hbp (ends f p + 1 + d) (by omega)).mp (by omega)
                omega
              rw [show ends f p + 1 + (d + 1) = ends f p + 1 + d + 1 by omega, skB_skip (by rw [decide_eq_false this]; rfl), ih]
            · omega
      have := hmore (ends f n - ends f p)
      rw [show ends f p + 1 + (ends f n - ends f p) = ends f n + 1 by omega] at this
      rcases this with this | this
      · rw [this]
      · omega
    · show (if y = 0 then _ else _) = _
      rw [if_neg hy, if_neg hy, f12_paragraphFrom_j137, h3]
      unfold pgF
      rw [hP, skF_uniq (q := ends f n + 1) (by omega) (Or.inl (by omega)) (fun i i1 i2 => z2 hy i (by omega) (by omega)), posF, if_neg (by omega)]
  · show some _ = _
    rw [if_neg hy]
    unfold pgF
    rw [hP, skF_uniq (q := j) (by omega) (Or.inr ⟨by omega, j2⟩) (fun i i1 i2 => j3 i (by omega) i2), posF, if_pos (by omega)]
end R
