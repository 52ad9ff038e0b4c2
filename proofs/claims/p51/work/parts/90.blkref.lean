/-! a block's parts: the reference -/
def MS (μ0 M : Sto) (J : Nat) : BD → Prop
  | (K, a, l, s, t, G) => ((∀ k, k ≠ 27 → k ≠ 28 → k ≠ 42 → fI M 2017 k = fI μ0 2017 k) ∧ (∀ a, a < 2029 ∨ 2033 < a → a ≠ 2043 → aI M a = aI μ0 a) ∧ fI M 2017 27 = Int32.ofNat J ∧ fI M 2017 28 = Int32.ofNat t) ∧ (∀ k, k < J → aI M 2029 k = Int32.ofNat (a k) ∧ aI M 2030 k = Int32.ofNat (a k) ∧ aI M 2031 k = Int32.ofNat (s k) ∧ aI M 2032 k = Int32.ofNat (l k)) ∧ ∀ q, q < t → aI M 2033 q = G q
section R
variable {μ0 M : Sto} {J : Nat} {D : BD} {g : Nat → Int32}
theorem MS.zero (h : MS μ0 M J D) (hJ : J + 1 = D.1) : MS μ0 M J (bdP g 0 D) := by
  obtain ⟨K, a, l, s, t, G⟩ := D
  obtain ⟨h1, h3, h4⟩ := h
  have hJ : J + 1 = K := hJ
  refine ⟨h1, fun k hk => ?_, fun q hq => ?_⟩
  · show _ ∧ _ ∧ _ ∧ _ = Int32.ofNat (upn l (K - 1) _ k)
    rw [upn_ne (by omega)]
    exact h3 k hk
  · show _ = if q < t then G q else g (q - t)
    rw [if_pos (show q < t from hq)]
    exact h4 q hq
theorem c12_putG {e : Nat} {x : Int32} (h : MS μ0 M J (bdP g e D)) (hJ : J + 1 = D.1) (hx : g e = x) (ht : D.2.2.2.2.1 + e < 3200) : ∃ M', f12_puts M x = some M' ∧ MS μ0 M' J (bdP g (e + 1) D) := by
  obtain ⟨K, a, l, s, t, G⟩ := D
  obtain ⟨⟨h1, h2, h27, h28⟩, h3, h4⟩ := h
  have hJ : J + 1 = K := hJ
  have ht : t + e < 3200 := ht
  have h28 : fI M 2017 28 = Int32.ofNat (t + e) := h28
  unfold f12_puts
  rw [h28, inb_n ht (by omega), gd_true, ofNat_clamp (by omega), stp, show fI (uA M 2033 (t + e) x) 2017 28 = Int32.ofNat (t + e) from h28, i32_succ, stp]
  refine ⟨_, rfl, ⟨fun k k1 k2 k3 => ?_, fun a ha ha2 => ?_, ?_, ?_⟩, fun k hk => ?_, fun q hq => ?_⟩
  · rw [fI_uI, if_pos rfl, if_neg k2]
    exact h1 k k1 k2 k3
  · show aI (uA M 2033 _ _) a = _
    rw [aI_uA' (by omega)]
    exact h2 a ha ha2
  · rw [fI_uI, if_pos rfl, if_neg (by decide)]
    exact h27
  · rw [fI_uI, if_pos rfl, if_pos rfl]
    rfl
  · show aI (uA M 2033 (t + e) x) 2029 k = _ ∧ aI (uA M 2033 (t + e) x) 2030 k = _ ∧ aI (uA M 2033 (t + e) x) 2031 k = _ ∧ aI (uA M 2033 (t + e) x) 2032 k = Int32.ofNat (upn l (K - 1) _ k)
    obtain ⟨y1, y2, y3, y4⟩ := h3 k hk
    have y4 : aI M 2032 k = Int32.ofNat (upn l (K - 1) (l (K - 1) + e) k) := y4
    rw [upn_ne (by omega)] at y4
    rw [aI_uA' (by decide), aI_uA' (by decide), aI_uA' (by decide), aI_uA' (by decide), upn_ne (by omega)]
    exact ⟨y1, y2, y3, y4⟩
  · show aI (uA M 2033 (t + e) x) 2033 q = if q < t then G q else g (q - t)
    rw [aI_uA, if_pos rfl]
    have hq : q < t + (e + 1) := hq
    by_cases eq : q = t + e
    · rw [if_pos eq, if_neg (by omega), eq, Nat.add_sub_cancel_left, hx]
    · rw [if_neg eq]
      exact h4 q (by show q < t + e; omega)
theorem c12_close {K t : Nat} {a l s : Nat → Nat} {G : Nat → Int32} (h : MS μ0 M J (K, a, l, s, t, G)) (hJ : J + 1 = K) (hK : K ≤ 3000) (hsl : s J + l J = t) (hl : l J ≠ 0) (ht : t ≤ 3000) : ∃ M', f12_adds M (Int32.ofNat (a J)) (Int32.ofNat (a J)) (Int32.ofNat (s J)) (Int32.ofNat t - Int32.ofNat (s J)) = some M' ∧ MS μ0 M' K (K, a, l, s, t, G) := by
  obtain ⟨⟨h1, h2, h27, h28⟩, h3, h4⟩ := h
  subst hJ
  unfold f12_adds
  rw [i32_sub (by omega), if_pos rfl, if_neg (fun z => hl (by have := (ofNat_z0 (by omega)).mp z; omega))]
  have y1 : ∀ r : Nat → Int32, aI (rA M 2029 r) 2030 = aI M 2030 := fun _ => rfl
  have y2 : ∀ r r' : Nat → Int32, aI (rA (rA M 2029 r) 2030 r') 2031 = aI M 2031 := fun _ _ => rfl
  have y3 : ∀ r r' r'' : Nat → Int32, aI (rA (rA (rA M 2029 r) 2030 r') 2031 r'') 2032 = aI M 2032 := fun _ _ _ => rfl
  unfold f12_adds_j11
  simp only [h27, inb_n (show J < 3001 by omega) (by omega), gd_true, stp, ofNat_clamp (show J < 2147483648 by omega), uA_up1, fI_rA, y1, y2, y3, i32_succ]
  refine ⟨_, rfl, ⟨fun k k1 k2 k3 => ?_, fun a ha ha2 => ?_, ?_, ?_⟩, fun k hk => ?_, h4⟩
  · rw [fI_uI, if_pos rfl, if_neg k1]
    exact h1 k k1 k2 k3
  · show aI (rA (rA (rA (rA M 2029 _) 2030 _) 2031 _) 2032 _) a = _
    rw [aI_rA' (by omega), aI_rA' (by omega), aI_rA' (by omega), aI_rA' (by omega)]
    exact h2 a ha ha2
  · rw [fI_uI, if_pos rfl, if_pos rfl]
  · rw [fI_uI, if_pos rfl, if_neg (by decide)]
    exact h28
  · show up1 (aI M 2029) J _ k = _ ∧ up1 (aI M 2030) J _ k = _ ∧ up1 (aI M 2031) J _ k = _ ∧ up1 (aI M 2032) J _ k = _
    unfold up1
    by_cases e : k = J
    · rw [if_pos e, if_pos e, if_pos e, if_pos e, e, show t - s J = l J by omega]
      exact ⟨rfl, rfl, rfl, rfl⟩
    · rw [if_neg e, if_neg e, if_neg e, if_neg e]
      exact h3 k (by omega)
theorem MS.opn {K t p : Nat} {a l s : Nat → Nat} {G : Nat → Int32} (h : MS μ0 M K (K, a, l, s, t, G)) : MS μ0 M K (K + 1, upn a K p, upn l K 0, upn s K t, t, G) := by
  obtain ⟨h1, h3, h4⟩ := h
  refine ⟨h1, fun k hk => ?_, h4⟩
  rw [upn_ne (by omega), upn_ne (by omega), upn_ne (by omega)]
  exact h3 k hk
theorem c12_blanks154 {e x8 col : Nat} (h : MS μ0 M J (bdP g e D)) (hJ : J + 1 = D.1) (hg : ∀ i, i < col - x8 → g (e + i) = 32) (hc : col ≤ 3000) (hx : x8 ≤ 3000) (ht : D.2.2.2.2.1 + (e + (col - x8)) ≤ 3000) {x1 x3 x4 x5 x6 x7 : Int32} : ∃ M', loopF (fun z => f12_pastesBlock_b154 x1 (Int32.ofNat col) x3 z.1 x4 x5 x6 x7 z.2) FU (M, Int32.ofNat x8) = some M' ∧ MS μ0 M' J (bdP g (e + (col - x8)) D) := by
  refine Ok_count (col - x8) (fun k z => z.2 = Int32.ofNat (x8 + k) ∧ MS μ0 z.1 J (bdP g (e + k) D)) ?_ 0 ⟨rfl, h⟩ (by omega) (by (show _ < FU; unfold FU; omega))
  rintro k ⟨M', z⟩ hk ⟨rfl, h⟩
  show Ok (f12_pastesBlock_b154 x1 (Int32.ofNat col) x3 M' x4 x5 x6 x7 (Int32.ofNat (x8 + k))) _
  unfold f12_pastesBlock_b154
  simp only [i32_le (show col < 2147483648 by omega) (show x8 + k < 2147483648 by omega)]
  by_cases hq : col ≤ x8 + k
  · rw [if_pos hq, Ok_some, lp_inr, show col - x8 = k by omega]
    exact h
  · rw [if_neg hq]
    obtain ⟨M2, k1, k2⟩ := c12_putG h hJ (hg k (by omega)) (by omega)
    rw [k1, bnd_some, stp, i32_succ, Ok_some, lp_inl]
    exact ⟨by omega, rfl, k2⟩
theorem c12_clip175 {e i w r : Nat} (h : MS μ0 M J (bdP g e D)) (hJ : J + 1 = D.1) (hg : ∀ k, k < w → g (e + k) = aI μ0 2024 (w * i + k)) (hi : i < r) (hw : w ≤ 40) (hrw : w * r ≤ 12000) (h14 : fI μ0 2017 14 = Int32.ofNat w) (ht : D.2.2.2.2.1 + (e + w) ≤ 3000) {x1 x2 x3 x4 x5 x7 : Int32} : ∃ M', loopF (fun z => f12_pastesBlock_b175 x1 x2 x3 z.1 x4 x5 (Int32.ofNat i) x7 z.2) FU (M, 0) = some M' ∧ MS μ0 M' J (bdP g (e + w) D) := by
  have hwi : w * (i + 1) ≤ w * r := Nat.mul_le_mul_left w hi
  have hwi2 : w * (i + 1) = w * i + w := Nat.mul_succ w i
  refine Ok_count w (fun k z => z.2 = Int32.ofNat k ∧ MS μ0 z.1 J (bdP g (e + k) D)) ?_ 0 ⟨rfl, h⟩ (by omega) (by (show _ < FU; unfold FU; omega))
  rintro k ⟨M', z⟩ hk ⟨rfl, h⟩
  show Ok (f12_pastesBlock_b175 x1 x2 x3 M' x4 x5 (Int32.ofNat i) x7 (Int32.ofNat k)) _
  have e14 : fI M' 2017 14 = Int32.ofNat w := by
    rw [h.1.1 14 (by decide) (by decide) (by decide)]
    exact h14
  have e24 : aI M' 2024 = aI μ0 2024 := h.1.2.1 2024 (by omega) (by omega)
  have e1 : Int32.ofNat w * Int32.ofNat i + Int32.ofNat k = Int32.ofNat (w * i + k) := by
    rw [← i32_add]
    congr 1
    exact (Int32.ofNat_mul w i).symm
  unfold f12_pastesBlock_b175
  rw [e14, e1, e24]
  simp only [i32_le (show w < 2147483648 by omega) (show k < 2147483648 by omega)]
  by_cases hq : w ≤ k
  · rw [if_pos hq, Ok_some, lp_inr, show w = k by omega]
    exact h
  · rw [if_neg hq, inb_n (by omega) (by omega), gd_true, ofNat_clamp (by omega), ← hg k (by omega)]
    obtain ⟨M2, k1, k2⟩ := c12_putG h hJ rfl (by omega)
    rw [k1, bnd_some, stp, i32_succ, Ok_some, lp_inl]
    exact ⟨by omega, rfl, k2⟩
theorem more_sub {x y : Nat} (hx : x < 2147483648) (hy : y < 2147483648) : f12_more 0 (Int32.ofNat x - Int32.ofNat y) = some (Int32.ofNat (x - y)) := by
  rw [c12_more]
  by_cases h : y ≤ x
  · rw [i32_sub h]
    exact congrArg some (by
      have := imax_n (x := 0) (y := x - y) (by omega) (by omega)
      rw [Nat.zero_max] at this
      exact this)
  · rw [show x - y = 0 by omega, if_neg (by grind)]
    rfl
theorem c12_blockLetters {f : Nat → Int32} {n l0 col w r : Nat} {bf ef : Nat → Nat} (hM : MT μ0 f n) (hE : ends f n < 300) (hbe : isLn f n bf ef) (hcol : col ≤ n) (hl0 : l0 ≤ ends f n) (hr : r ≤ 300) (h13 : fI μ0 2017 13 = Int32.ofNat r) (h14 : fI μ0 2017 14 = Int32.ofNat w) : f12_blockLetters μ0 (Int32.ofNat l0) (Int32.ofNat col) = some (Int32.ofNat (sg (bqL (ends f n) bf ef l0 col w) r)) := by
  have hn := hM.1
  have key : Ok (loopF (fun s_11 => f12_blockLetters_b11 (Int32.ofNat l0) (Int32.ofNat col) μ0 s_11.1 (Int32.ofNat (ends f n + 1)) s_11.2) FU (0, 0)) (fun z => z = Int32.ofNat (sg (bqL (ends f n) bf ef l0 col w) r)) := by
    refine Ok_count r (fun k z => z = (Int32.ofNat (sg (bqL (ends f n) bf ef l0 col w) k), Int32.ofNat k)) ?_ 0 rfl (by omega) (by (show _ < FU; unfold FU; omega))
    rintro k z hk rfl
    show Ok (f12_blockLetters_b11 (Int32.ofNat l0) (Int32.ofNat col) μ0 (Int32.ofNat (sg (bqL (ends f n) bf ef l0 col w) k)) (Int32.ofNat (ends f n + 1)) (Int32.ofNat k)) _
    unfold f12_blockLetters_b11
    rw [h13]
    simp only [i32_le (show r < 2147483648 by omega) (show k < 2147483648 by omega)]
    by_cases hq : r ≤ k
    · rw [if_pos hq, Ok_some, lp_inr, show r = k by omega]
    · rw [if_neg hq, i32_add, stp]
      simp only [i32_le (show ends f n + 1 < 2147483648 by omega) (show l0 + k < 2147483648 by omega)]
      by_cases c : l0 + k ≤ ends f n
      · rw [if_neg (by omega)]
        obtain ⟨m1, m2⟩ := mt_ln hM hbe c
        obtain ⟨b1, b2, b3, b4⟩ := hbe _ c
        have hen := b2.1
        rw [m2, m1, bnd_some, bnd_some, i32_sub b3]
        unfold f12_blockLetters_j50 f12_blockLetters_j69
        rw [stp, if_neg (fun z => by have := (i32_le (by omega) (by omega)).mp z; omega), more_sub (by omega) (by omega), bnd_some, stp, stp, h14, i32_succ, Ok_some, lp_inl]
        refine ⟨by omega, ?_⟩
        have e0 : Int32.ofNat w + 0 = Int32.ofNat (w + 0) := i32_add (q := 0)
        rw [e0, i32_add, i32_add]
        have eL : bqL (ends f n) bf ef l0 col w k = w + 0 + (col - (ef (l0 + k) - bf (l0 + k))) := by
          unfold bqL bqH bqF
          rw [if_pos c, if_pos c]
          omega
        show (_, _) = (Int32.ofNat (sg _ k + bqL (ends f n) bf ef l0 col w k), _)
        rw [eL]
      · rw [if_pos (by omega)]
        unfold f12_blockLetters_j50 f12_blockLetters_j69
        have hm0 : f12_more 0 (Int32.ofNat col - 0) = some (Int32.ofNat (col - 0)) := more_sub (y := 0) (by omega) (by omega)
        rw [stp, if_pos ((i32_le (by omega) (by omega)).mpr (by omega)), hm0, bnd_some, stp, stp, h14, i32_succ, Ok_some, lp_inl]
        refine ⟨by omega, ?_⟩
        rw [i32_succ, i32_add, i32_add]
        have eL : bqL (ends f n) bf ef l0 col w k = w + 1 + (col - 0) := by
          unfold bqL bqH bqF
          rw [if_neg c, if_neg c]
          omega
        show (_, _) = (Int32.ofNat (sg _ k + bqL (ends f n) bf ef l0 col w k), _)
        rw [eL]
  obtain ⟨z, k1, rfl⟩ := key
  unfold f12_blockLetters f12_blockLetters_j11
  rw [stp, c12_lines hM, bnd_some, stp, stp, k1, bnd_some]
end R
