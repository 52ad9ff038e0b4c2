/-! a block's parts: the reference's loop -/
/-- how a row begins: the last part stands unadded, or all are added -/
def PXp (μ0 : Sto) (m n : Nat) (bf ef : Nat → Nat) (l0 col w r : Nat) (cl : Nat → Int32) (k : Nat) (M : Sto) (x4 x5 : Int32) : Prop :=
  (∃ J, J + 1 = (bqD m n bf ef l0 col w cl k).1 ∧ MS μ0 M J (bqD m n bf ef l0 col w cl k) ∧ k ≠ 0 ∧ k < r ∧ m < l0 + k ∧ x4 = Int32.ofNat ((bqD m n bf ef l0 col w cl k).2.2.2.1 J) ∧ x5 = Int32.ofNat n ∧ (bqD m n bf ef l0 col w cl k).2.1 J = n) ∨
  (MS μ0 M (bqD m n bf ef l0 col w cl k).1 (bqD m n bf ef l0 col w cl k) ∧ (k ≠ 0 → k < r → m < l0 + k → ∃ p, p < n ∧ x5 = Int32.ofNat p ∧ (bqD m n bf ef l0 col w cl k).2.1 ((bqD m n bf ef l0 col w cl k).1 - 1) = p))
/-- what the block's parts go by -/
def BR (μ : Sto) (f : Nat → Int32) (n : Nat) (bf ef : Nat → Nat) (l0 col w r : Nat) (cl : Nat → Int32) : Prop := isLn f n bf ef ∧ ends f n < 300 ∧ MT μ f n ∧ l0 ≤ ends f n ∧ col ≤ n ∧ (1 ≤ r ∧ r ≤ 300 ∧ 1 ≤ w ∧ w ≤ 40) ∧ fI μ 2017 13 = Int32.ofNat r ∧ fI μ 2017 14 = Int32.ofNat w ∧ (∀ k, k < w * r → aI μ 2024 k = cl k ∧ isLt (cl k) = true) ∧ n + sg (bqL (ends f n) bf ef l0 col w) r ≤ 3000
section R
variable {μ0 M : Sto} {f : Nat → Int32} {n J t : Nat} {bf ef a l s : Nat → Nat} {l0 col w r : Nat} {cl G : Nat → Int32}
theorem c12_rowTail (q : BR μ0 f n bf ef l0 col w r cl) {k x8 : Nat} (hk : k < r) (hD : bqD (ends f n) n bf ef l0 col w cl (k + 1) = bdP (bqG (ends f n) bf ef l0 col w cl k) (bqL (ends f n) bf ef l0 col w k) (J + 1, a, l, s, t, G)) (hI : BI n (J + 1, a, l, s, t, G)) (hJ3 : J < 300) (ht : t = sg (bqL (ends f n) bf ef l0 col w) k) (haJ : a J = bqP (ends f n) n bf ef l0 col k) (h : MS μ0 M J (bdP (bqG (ends f n) bf ef l0 col w cl k) (bqH (ends f n) l0 k) (J + 1, a, l, s, t, G))) (hx8 : x8 ≤ 3000) (h8 : col - x8 = bqF (ends f n) bf ef l0 col k) : ∃ M' x4 x5, f12_pastesBlock_j150 (Int32.ofNat l0) (Int32.ofNat col) (Int32.ofNat (ends f n + 1)) M (Int32.ofNat (s J)) (Int32.ofNat (a J)) (Int32.ofNat k) (Int32.ofNat (l0 + k)) (Int32.ofNat x8) = some (.inl (M', x4, x5, Int32.ofNat (k + 1))) ∧ PXp μ0 (ends f n) n bf ef l0 col w r cl (k + 1) M' x4 x5 := by
  obtain ⟨hbe, hE, hM, hl0, hcol, ⟨hr1, hr3, hw1, hw4⟩, h13, h14, hcl, htot⟩ := q
  have hn := hM.1
  have hwr : w * r ≤ 12000 := Nat.le_trans (Nat.mul_le_mul hw4 hr3) (by omega)
  have hwk : w * k + w ≤ w * r := by
    have : w * (k + 1) ≤ w * r := Nat.mul_le_mul_left w hk
    rw [Nat.mul_succ] at this
    exact this
  have htk : t + bqL (ends f n) bf ef l0 col w k ≤ 3000 := by
    have h1 : sg (bqL (ends f n) bf ef l0 col w) (k + 1) ≤ sg (bqL (ends f n) bf ef l0 col w) r := sg_mono hk
    have h2 : sg (bqL (ends f n) bf ef l0 col w) (k + 1) = sg (bqL (ends f n) bf ef l0 col w) k + bqL (ends f n) bf ef l0 col w k := rfl
    omega
  have eLd : bqL (ends f n) bf ef l0 col w k = bqH (ends f n) l0 k + (col - x8) + w := by
    unfold bqL
    rw [h8]
  obtain ⟨M1, k1, k2⟩ := c12_blanks154 h rfl (fun i hi => by
    unfold bqG
    rw [if_neg (by omega), if_pos (by omega)]) (by omega) hx8 (by show t + _ ≤ 3000; omega) (x8 := x8) (col := col) (x1 := Int32.ofNat l0) (x3 := Int32.ofNat (ends f n + 1)) (x4 := Int32.ofNat (s J)) (x5 := Int32.ofNat (a J)) (x6 := Int32.ofNat k) (x7 := Int32.ofNat (l0 + k))
  obtain ⟨M2, k3, k4⟩ := c12_clip175 k2 rfl (fun i hi => by
    unfold bqG
    rw [if_neg (by omega), if_neg (by omega), ← (hcl _ (by omega)).1]
    congr 1
    omega) hk hw4 hwr h14 (by show t + _ ≤ 3000; omega) (x1 := Int32.ofNat l0) (x2 := Int32.ofNat col) (x3 := Int32.ofNat (ends f n + 1)) (x4 := Int32.ofNat (s J)) (x5 := Int32.ofNat (a J)) (x7 := Int32.ofNat (l0 + k))
  rw [← eLd] at k4
  have hM2 : MS μ0 M2 J (J + 1, a, upn l J (l J + bqL (ends f n) bf ef l0 col w k), s, t + bqL (ends f n) bf ef l0 col w k, fun q => if q < t then G q else bqG (ends f n) bf ef l0 col w cl k (q - t)) := k4
  have hsl : s J + l J = t := hI.1 (Nat.succ_ne_zero J)
  obtain ⟨M3, c1, c2⟩ := c12_close hM2 rfl (by omega) (by rw [upn_at]; omega) (by rw [upn_at]; omega) htk
  have e28 : fI M2 2017 28 = Int32.ofNat (t + bqL (ends f n) bf ef l0 col w k) := hM2.1.2.2.2
  have e13 : fI M2 2017 13 = Int32.ofNat r := by
    rw [hM2.1.1 13 (by decide) (by decide) (by decide)]
    exact h13
  have e5 : fI M2 2017 5 = Int32.ofNat n := by
    rw [hM2.1.1 5 (by decide) (by decide) (by decide)]
    exact hM.2.1
  have haJn : a J ≤ n := hI.2.2.2.1 J (Nat.lt_succ_self J)
  have eN : Int32.ofNat (a J) = Int32.ofNat n ↔ a J = n := by
    have : a J < 2147483648 := by omega
    have : n < 2147483648 := by omega
    grind
  have eDone : f12_pastesBlock_j241 (Int32.ofNat l0) (Int32.ofNat col) (Int32.ofNat (ends f n + 1)) M2 (Int32.ofNat (s J)) (Int32.ofNat (a J)) (Int32.ofNat k) = some (.inl (M3, Int32.ofNat (s J), Int32.ofNat (a J), Int32.ofNat (k + 1))) := by
    unfold f12_pastesBlock_j241 f12_pastesBlock_j242 f12_pastesBlock_j266
    rw [stp, if_pos rfl, e28, c1, bnd_some, stp, i32_succ]
  have hXdone : (k + 1 < r → ends f n < l0 + (k + 1) → a J ≠ n) → PXp μ0 (ends f n) n bf ef l0 col w r cl (k + 1) M3 (Int32.ofNat (s J)) (Int32.ofNat (a J)) := fun hz => by
    unfold PXp
    rw [hD]
    refine Or.inr ⟨c2, fun _ h1 h2 => ⟨a J, ?_, rfl, ?_⟩⟩
    · have := hz h1 h2
      omega
    · show a (J + 1 - 1) = a J
      rw [Nat.add_sub_cancel]
  unfold f12_pastesBlock_j150 f12_pastesBlock_j154 f12_pastesBlock_j175
  rw [stp, k1, bnd_some, stp, k3, bnd_some, i32_succ, e5, e13, i32_succ]
  simp only [i32n_lt (show l0 + k + 1 < 2147483648 by omega) (show ends f n + 1 < 2147483648 by omega), eN, i32_le (show r < 2147483648 by omega) (show k + 1 < 2147483648 by omega)]
  by_cases q1 : l0 + k + 1 < ends f n + 1
  · rw [if_pos q1, eDone]
    exact ⟨M3, _, _, rfl, hXdone (fun h1 h2 => by omega)⟩
  · rw [if_neg q1]
    by_cases q2 : a J = n
    · rw [if_pos q2]
      by_cases q3 : r ≤ k + 1
      · rw [if_pos q3, eDone]
        exact ⟨M3, _, _, rfl, hXdone (fun h1 h2 => by omega)⟩
      · rw [if_neg q3]
        refine ⟨M2, Int32.ofNat (s J), Int32.ofNat (a J), ?_, ?_⟩
        · unfold f12_pastesBlock_j242 f12_pastesBlock_j266
          rw [stp, if_neg (by decide), stp, i32_succ]
        · unfold PXp
          rw [hD]
          exact Or.inl ⟨J, rfl, hM2, Nat.succ_ne_zero k, by omega, by omega, rfl, by rw [q2], q2⟩
    · rw [if_neg q2, eDone]
      exact ⟨M3, _, _, rfl, hXdone (fun h1 h2 => q2)⟩
theorem c12_rowStep (q : BR μ0 f n bf ef l0 col w r cl) {k : Nat} (hk : k < r) {x4 x5 : Int32} (h : PXp μ0 (ends f n) n bf ef l0 col w r cl k M x4 x5) : ∃ M' x4' x5', f12_pastesBlock_b60 M (Int32.ofNat l0) (Int32.ofNat col) (Int32.ofNat (ends f n + 1)) x4 x5 (Int32.ofNat k) = some (.inl (M', x4', x5', Int32.ofNat (k + 1))) ∧ PXp μ0 (ends f n) n bf ef l0 col w r cl (k + 1) M' x4' x5' := by
  have q' := q
  obtain ⟨hbe, hE, hM, hl0, hcol, ⟨hr1, hr3, hw1, hw4⟩, h13, h14, hcl, htot⟩ := q
  have hn := hM.1
  obtain ⟨d1, d2, d3, d4, d5⟩ := bqD_in hbe (l0 := l0) (col := col) (fun k hk => (hcl k hk).2) k (by omega)
  have hP := bqP_le hbe (l0 := l0) (col := col) (i := k)
  have hfr : (∀ k, k ≠ 27 → k ≠ 28 → k ≠ 42 → fI M 2017 k = fI μ0 2017 k) ∧ (∀ a, a < 2029 ∨ 2033 < a → a ≠ 2043 → aI M a = aI μ0 a) := by
    rcases h with ⟨J, _, h, _⟩ | ⟨h, _⟩
    · exact ⟨h.1.1, h.1.2.1⟩
    · exact ⟨h.1.1, h.1.2.1⟩
  have hM1 : MT M f n := hM.congr (hfr.1 5 (by decide) (by decide) (by decide)) (hfr.2 2018 (by omega) (by omega))
  have e28 : fI M 2017 28 = Int32.ofNat (sg (bqL (ends f n) bf ef l0 col w) k) := by
    rw [← d3]
    rcases h with ⟨J, _, h, _⟩ | ⟨h, _⟩
    · exact h.1.2.2.2
    · exact h.1.2.2.2
  have htk : sg (bqL (ends f n) bf ef l0 col w) k ≤ 3000 := by
    have h1 : sg (bqL (ends f n) bf ef l0 col w) k ≤ sg (bqL (ends f n) bf ef l0 col w) r := sg_mono (by omega)
    omega
  unfold f12_pastesBlock_b60
  rw [hfr.1 13 (by decide) (by decide) (by decide), h13, if_neg (fun z => by have := (i32_le (by omega) (by omega)).mp z; omega), i32_add, stp, stp]
  generalize hDk : bqD (ends f n) n bf ef l0 col w cl k = D at d1 d2 d3 d4 d5
  have hDs : bqD (ends f n) n bf ef l0 col w cl (k + 1) = bdP (bqG (ends f n) bf ef l0 col w cl k) (bqL (ends f n) bf ef l0 col w k) (bdO (bqP (ends f n) n bf ef l0 col k) D) := by rw [← hDk]; rfl
  obtain ⟨K, a, l, s, t, G⟩ := D
  have d2 : K ≤ k := d2
  have d3 : t = sg (bqL (ends f n) bf ef l0 col w) k := d3
  have d5 : ∀ j, k = j + 1 → a (K - 1) = bqP (ends f n) n bf ef l0 col j := d5
  have d4 : k ≠ 0 → K ≠ 0 := d4
  have hlast : K ≠ 0 → a (K - 1) ≤ bqP (ends f n) n bf ef l0 col k := fun z => by
    cases k with
    | zero => omega
    | succ j =>
      rw [d5 j rfl]
      exact (bqP_le hbe).2.1
  obtain ⟨o1, o2, o3, o4, o5⟩ := d1.opn hP.1 hlast
  rw [bdO_eq] at hDs o1
  -- a new part
  have hnew : MS μ0 M K (K, a, l, s, t, G) → ¬ (K ≠ 0 ∧ a (K - 1) = bqP (ends f n) n bf ef l0 col k) → BI n (K + 1, upn a K (bqP (ends f n) n bf ef l0 col k), upn l K 0, upn s K t, t, G) ∧ bqD (ends f n) n bf ef l0 col w cl (k + 1) = bdP (bqG (ends f n) bf ef l0 col w cl k) (bqL (ends f n) bf ef l0 col w k) (K + 1, upn a K (bqP (ends f n) n bf ef l0 col k), upn l K 0, upn s K t, t, G) ∧ MS μ0 M K (bdP (bqG (ends f n) bf ef l0 col w cl k) 0 (K + 1, upn a K (bqP (ends f n) n bf ef l0 col k), upn l K 0, upn s K t, t, G)) := fun h1 h2 => by
    rw [if_neg h2] at hDs o1
    exact ⟨o1, hDs, (MS.opn h1).zero rfl⟩
  by_cases c : l0 + k ≤ ends f n
  · rw [if_neg (fun z => by have := (i32_le (by omega) (by omega)).mp z; omega)]
    obtain ⟨m1, m2⟩ := mt_ln hM1 hbe c
    obtain ⟨b1, b2, b3, b4⟩ := hbe _ c
    have hen := b2.1
    have eP : bqP (ends f n) n bf ef l0 col k = min (ef (l0 + k)) (bf (l0 + k) + col) := by
      unfold bqP
      rw [if_pos c]
    have eF : bqF (ends f n) bf ef l0 col k = col - (min (ef (l0 + k)) (bf (l0 + k) + col) - bf (l0 + k)) := by
      unfold bqF
      rw [if_pos c]
    have eH : bqH (ends f n) l0 k = 0 := by
      unfold bqH
      rw [if_pos c]
    have hMS : MS μ0 M K (K, a, l, s, t, G) := by
      unfold PXp at h
      rw [hDk] at h
      rcases h with ⟨J, _, _, _, _, z, _⟩ | ⟨h, _⟩
      · omega
      · exact h
    have hne : ¬ (K ≠ 0 ∧ a (K - 1) = bqP (ends f n) n bf ef l0 col k) := by
      rintro ⟨z1, z2⟩
      cases k with
      | zero => omega
      | succ j =>
        rw [d5 j rfl] at z2
        have := (bqP_le hbe (l0 := l0) (col := col) (i := j)).2.2 c
        omega
    obtain ⟨n1, n2, n3⟩ := hnew hMS hne
    have n3 : MS μ0 M K (bdP (bqG (ends f n) bf ef l0 col w cl k) (bqH (ends f n) l0 k) (K + 1, upn a K (bqP (ends f n) n bf ef l0 col k), upn l K 0, upn s K t, t, G)) := by
      rw [eH]
      exact n3
    obtain ⟨M', y4, y5, w1, w2⟩ := c12_rowTail q' hk n2 n1 (by omega) d3 upn_at n3 (x8 := ef (l0 + k) - bf (l0 + k)) (by omega) (by rw [eF]; omega)
    rw [upn_at, upn_at] at w1
    have eP2 : bf (l0 + k) + min (ef (l0 + k) - bf (l0 + k)) col = bqP (ends f n) n bf ef l0 col k := by
      rw [eP]
      omega
    simp only [m2, m1, bnd_some, i32_sub b3, stp, e28, less_n (show ef (l0 + k) - bf (l0 + k) < 2147483648 by omega) (show col < 2147483648 by omega), i32_add, eP2, ← d3]
    exact ⟨M', y4, y5, w1, w2⟩
  · rw [if_pos ((i32_le (by omega) (by omega)).mpr (by omega))]
    have hk0 : k ≠ 0 := by omega
    have eP : bqP (ends f n) n bf ef l0 col k = n := by
      unfold bqP
      rw [if_neg c]
    have eF : bqF (ends f n) bf ef l0 col k = col := by
      unfold bqF
      rw [if_neg c]
    have eH : bqH (ends f n) l0 k = 1 := by
      unfold bqH
      rw [if_neg c]
    have h5n : fI M 2017 5 = Int32.ofNat n := hM1.2.1
    rw [h5n]
    have g10 : bqG (ends f n) bf ef l0 col w cl k 0 = 10 := by
      unfold bqG
      rw [if_pos (by omega)]
    unfold PXp at h
    rw [hDk] at h
    rcases h with ⟨J, j1, j2, j3, j4, j5, rfl, rfl, j6⟩ | ⟨h, hz⟩
    · have j1 : J + 1 = K := j1
      subst j1
      have j6 : a J = n := j6
      rw [if_pos ((i32_le (a := n) (b := n) (by omega) (by omega)).mpr (Nat.le_refl _))]
      rw [if_pos ⟨Nat.succ_ne_zero J, by rw [Nat.add_sub_cancel, j6, eP]⟩] at hDs o1
      obtain ⟨M1, p1, p2⟩ := c12_putG (j2.zero (g := bqG (ends f n) bf ef l0 col w cl k) rfl) rfl g10 (by show t + 0 < 3200; omega)
      unfold f12_pastesBlock_j144
      rw [p1, bnd_some]
      have p2 : MS μ0 M1 J (bdP (bqG (ends f n) bf ef l0 col w cl k) 1 (J + 1, a, l, s, t, G)) := p2
      have p2 : MS μ0 M1 J (bdP (bqG (ends f n) bf ef l0 col w cl k) (bqH (ends f n) l0 k) (J + 1, a, l, s, t, G)) := by
        rw [eH]
        exact p2
      obtain ⟨M', y4, y5, w1, w2⟩ := c12_rowTail q' hk hDs o1 (by omega) d3 (by rw [j6, eP]) p2 (x8 := 0) (by omega) (by rw [eF]; omega)
      rw [j6] at w1
      exact ⟨M', y4, y5, w1, w2⟩
    · obtain ⟨p, z1, rfl, z3⟩ := hz hk0 hk (by omega)
      rw [if_neg (fun z => by have := (i32_le (by omega) (by omega)).mp z; omega), e28, ← d3]
      have z3 : a (K - 1) = p := z3
      obtain ⟨n1, n2, n3⟩ := hnew h (by rintro ⟨_, z⟩; omega)
      obtain ⟨M1, p1, p2⟩ := c12_putG n3 rfl g10 (by show t + 0 < 3200; omega)
      unfold f12_pastesBlock_j144
      rw [stp, stp, p1, bnd_some]
      have p2 : MS μ0 M1 K (bdP (bqG (ends f n) bf ef l0 col w cl k) 1 (K + 1, upn a K (bqP (ends f n) n bf ef l0 col k), upn l K 0, upn s K t, t, G)) := p2
      have p2 : MS μ0 M1 K (bdP (bqG (ends f n) bf ef l0 col w cl k) (bqH (ends f n) l0 k) (K + 1, upn a K (bqP (ends f n) n bf ef l0 col k), upn l K 0, upn s K t, t, G)) := by
        rw [eH]
        exact p2
      obtain ⟨M', y4, y5, w1, w2⟩ := c12_rowTail q' hk n2 n1 (by omega) d3 upn_at p2 (x8 := 0) (by omega) (by rw [eF]; omega)
      rw [upn_at, upn_at, eP] at w1
      exact ⟨M', y4, y5, w1, w2⟩
theorem c12_rows (q : BR μ0 f n bf ef l0 col w r cl) (h27 : fI μ0 2017 27 = 0) (h28 : fI μ0 2017 28 = 0) : ∃ M', loopF (fun s_60 => f12_pastesBlock_b60 s_60.1 (Int32.ofNat l0) (Int32.ofNat col) (Int32.ofNat (ends f n + 1)) s_60.2.1 s_60.2.2.1 s_60.2.2.2) FU (μ0, 0, fI μ0 2017 5, 0) = some M' ∧ MS μ0 M' (bqD (ends f n) n bf ef l0 col w cl r).1 (bqD (ends f n) n bf ef l0 col w cl r) := by
  have hr3 := q.2.2.2.2.2.1.2.1
  have h13 := q.2.2.2.2.2.2.1
  refine Ok_count r (fun k z => ∃ M x4 x5, z = (M, x4, x5, Int32.ofNat k) ∧ PXp μ0 (ends f n) n bf ef l0 col w r cl k M x4 x5) ?_ 0 ⟨μ0, 0, fI μ0 2017 5, rfl, Or.inr ⟨⟨⟨fun _ _ _ _ => rfl, fun _ _ _ => rfl, h27, h28⟩, fun k hk => absurd hk (Nat.not_lt_zero k), fun k hk => absurd hk (Nat.not_lt_zero k)⟩, fun z => absurd rfl z⟩⟩ (by omega) (by (show _ < FU; unfold FU; omega))
  rintro k z hk ⟨M, x4, x5, rfl, h⟩
  show Ok (f12_pastesBlock_b60 M (Int32.ofNat l0) (Int32.ofNat col) (Int32.ofNat (ends f n + 1)) x4 x5 (Int32.ofNat k)) _
  by_cases hq : r ≤ k
  · have e13 : fI M 2017 13 = Int32.ofNat r := by
      have : fI M 2017 13 = fI μ0 2017 13 := by
        rcases h with ⟨J, _, h, _⟩ | ⟨h, _⟩
        · exact h.1.1 13 (by decide) (by decide) (by decide)
        · exact h.1.1 13 (by decide) (by decide) (by decide)
      rw [this]
      exact h13
    unfold f12_pastesBlock_b60
    rw [e13, if_pos ((i32_le (by omega) (by omega)).mpr hq), Ok_some, lp_inr, show r = k by omega]
    rcases h with ⟨J, _, _, _, z, _⟩ | ⟨h, _⟩
    · omega
    · exact h
  · obtain ⟨M', y4, y5, k1, k2⟩ := c12_rowStep q (by omega) h
    rw [k1, Ok_some, lp_inl]
    exact ⟨by omega, M', y4, y5, rfl, k2⟩
end R
