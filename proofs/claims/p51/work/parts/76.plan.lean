/-! planning, both sides -/
theorem VP.E_k {n K : Nat} {a b l : Nat → Nat} {X : Nat → Nat → Int32} {f : Nat → Int32} (v : VP n K a b) {i : Nat} (hi : i < K) : ends (spA f K a b l X i) (nA n K a b l i) + ends f (b i) = ends f (a i) + ends (X i) (l i) + ends (spA f K a b l X (i + 1)) (nA n K a b l (i + 1)) := by
  have hb := (v.nA_ge (l := l) i (by omega) hi).2
  have hv := v.1 i hi
  have hpl := v.pre_le hi
  have := ends_sp3 (f := spA f K a b l X (i + 1)) (a := a i) (b := b i) (l := l i) (x := X i) (i := nA n K a b l (i + 1) - b i)
  rw [v.ends_pre (by omega) hpl.1, v.ends_pre (by omega) hpl.2] at this
  rw [spA_k hi, nA_k hi]
  rw [show a i + l i + (nA n K a b l (i + 1) - b i) = nA n K a b l (i + 1) - (b i - a i) + l i by omega, show b i + (nA n K a b l (i + 1) - b i) = nA n K a b l (i + 1) by omega] at this
  exact this
theorem up_le {P : Nat → Nat} {K : Nat} (h : ∀ k, k < K → P (k + 1) ≤ P k) : ∀ k, k ≤ K → P k ≤ P 0 := by
  intro k
  induction k with
  | zero => intro _; exact Nat.le_refl _
  | succ k ih =>
    intro hk
    exact Nat.le_trans (h k (by omega)) (ih (by omega))
theorem mono_of {n K : Nat} {a b l : Nat → Nat} {X : Nat → Nat → Int32} {f : Nat → Int32} (v : VP n K a b) (hn : n ≤ 3000) (hE : ends f n < 300) (hs : (∀ k, k < K → b k - a k ≤ l k) ∨ ∀ k, k < K → l k ≤ b k - a k) (hl : (∀ k, k < K → ends f (b k) ≤ ends f (a k) + ends (X k) (l k)) ∨ ∀ k, k < K → ends f (a k) + ends (X k) (l k) ≤ ends f (b k)) : nA n K a b l 0 ≤ 3000 → ends (spA f K a b l X 0) (nA n K a b l 0) < 300 → ∀ k, k ≤ K → nA n K a b l k ≤ 3000 ∧ ends (spA f K a b l X k) (nA n K a b l k) < 300 := by
  intro h1 h2
  have hA : ∀ k, k ≤ K → nA n K a b l k ≤ 3000 := by
    rcases hs with hs | hs
    · have := up_le (P := fun k => nA n K a b l k) (K := K) (fun k hk => by
        have h3 := hs k hk
        have h4 := (v.nA_ge (l := l) k (by omega) hk).2
        show nA n K a b l (k + 1) ≤ nA n K a b l k
        rw [nA_k (k := k) hk]
        omega)
      intro k hk
      exact Nat.le_trans (this k hk) h1
    · exact v.down (by rw [nA_K]; exact hn) (fun k hk ih => by
        have h3 := hs k hk
        have h4 := (v.nA_ge (l := l) k (by omega) hk).2
        have h5 := v.1 k hk
        rw [nA_k hk]
        omega)
  have hB : ∀ k, k ≤ K → ends (spA f K a b l X k) (nA n K a b l k) < 300 := by
    rcases hl with hl | hl
    · have := up_le (P := fun k => ends (spA f K a b l X k) (nA n K a b l k)) (K := K) (fun k hk => by
        have h3 := hl k hk
        have h4 := v.E_k (f := f) (l := l) (X := X) hk
        show ends (spA f K a b l X (k + 1)) (nA n K a b l (k + 1)) ≤ ends (spA f K a b l X k) (nA n K a b l k)
        omega)
      intro k hk
      exact Nat.lt_of_le_of_lt (this k hk) h2
    · exact v.down (by rw [spA_K, nA_K]; exact hE) (fun k hk ih => by
        have h3 := hl k hk
        have h4 := v.E_k (f := f) (l := l) (X := X) hk
        omega)
  exact fun k hk => ⟨hA k hk, hB k hk⟩
/-- the change and the reference's rows of parts, side by side; q: no part reaches further -/
def JP (σ0 μ0 σ μ : Sto) (n K q : Nat) (a b l : Nat → Nat) (G : Nat → Int32) (w : Nat) : Prop :=
  (Sm (fun a => ¬ (13 ≤ a ∧ a ≤ 19)) σ0 σ ∧ fR σ = fR σ0 ∧ fI σ 13 6 = 0 ∧ fI σ 13 4 = Int32.ofNat K) ∧
  ((∀ k, k ≠ 27 → k ≠ 28 → k ≠ 42 → fI μ 2017 k = fI μ0 2017 k) ∧ (∀ a, a < 2029 ∨ 2033 < a → a ≠ 2043 → aI μ a = aI μ0 a) ∧ fI μ 2017 27 = Int32.ofNat K ∧ fI μ 2017 28 = Int32.ofNat w) ∧
  (K ≤ 3000 ∧ w ≤ 3000 ∧ VP n K a b ∧ (∀ k, k < K → b k ≤ q)) ∧
  (∀ k, k < K → (aI σ 14 k = Int32.ofNat (a k) ∧ aI σ 15 k = Int32.ofNat (b k) ∧ aI σ 16 k = 0 ∧ aI σ 17 k = Int32.ofNat (l k)) ∧ (aI μ 2029 k = Int32.ofNat (a k) ∧ aI μ 2030 k = Int32.ofNat (b k) ∧ aI μ 2031 k = 0 ∧ aI μ 2032 k = Int32.ofNat (l k)) ∧ l k ≤ w) ∧
  ∀ i, i < w → aI σ 19 i = G i ∧ aI μ 2033 i = G i ∧ isLt (G i) = true
section R
variable {σ0 μ0 σ μ : Sto} {n K q w : Nat} {a b l : Nat → Nat} {G : Nat → Int32}
theorem JP.pc (j : JP σ0 μ0 σ μ n K q a b l G w) : PC σ K a b l (fun _ => G) := by
  obtain ⟨⟨j1, j2, j3, j4⟩, ⟨j5, j6, j7, j8⟩, ⟨j9, j10, j11, j12⟩, j13, j14⟩ := j
  refine ⟨j4, j9, fun _ => 0, fun k hk => ?_⟩
  obtain ⟨⟨h1, h2, h3, h4⟩, h5, h6⟩ := j13 k hk
  exact ⟨h1, h2, h3, h4, by show 0 + l k ≤ 3000; omega, fun i hi => by show aI σ 19 (0 + i) = _ ∧ _; rw [Nat.zero_add]; exact ⟨(j14 i (by omega)).1, (j14 i (by omega)).2.2⟩⟩
theorem JP.pr (j : JP σ0 μ0 σ μ n K q a b l G w) : PRp μ K a b l (fun _ => G) := by
  obtain ⟨⟨j1, j2, j3, j4⟩, ⟨j5, j6, j7, j8⟩, ⟨j9, j10, j11, j12⟩, j13, j14⟩ := j
  refine ⟨j7, j9, fun _ => 0, fun k hk => ?_⟩
  obtain ⟨h5, ⟨h1, h2, h3, h4⟩, h6⟩ := j13 k hk
  exact ⟨h1, h2, h3, h4, by show 0 + l k ≤ 3200; omega, fun i hi => by show aI μ 2033 (0 + i) = _; rw [Nat.zero_add]; exact (j14 i (by omega)).2.1⟩
/-- the next part's numbers -/
def nxK (K p q e : Nat) : Nat := if p = q ∧ e = 0 then K else K + 1
theorem JP.add (j : JP σ0 μ0 σ μ n K q a b l G w) {p r e : Nat} (hK : K < 3000) (hqp : q ≤ p) (hpr : p ≤ r) (hrn : r ≤ n) (hn : n ≤ 3000) (he : e ≤ w) : ∃ σ' μ' a' b' l', f1_addPart σ (Int32.ofNat p) (Int32.ofNat r) (Int32.ofNat e) = some σ' ∧ f12_adds μ (Int32.ofNat p) (Int32.ofNat r) 0 (Int32.ofNat e) = some μ' ∧ JP σ0 μ0 σ' μ' n (nxK K p r e) r a' b' l' G w ∧ (∀ k, k < K → a' k = a k ∧ b' k = b k ∧ l' k = l k) ∧ (K < nxK K p r e → a' K = p ∧ b' K = r ∧ l' K = e) ∧ fI μ' 2017 42 = fI μ 2017 42 ∧ aI μ' 2043 = aI μ 2043 ∧ fI σ' 18 = fI σ 18 ∧ aI σ' 19 = aI σ 19 := by
  obtain ⟨⟨j1, j2, j3, j4⟩, ⟨j5, j6, j7, j8⟩, ⟨j9, j10, j11, j12⟩, j13, j14⟩ := j
  have e1 : Int32.ofNat p = Int32.ofNat r ↔ p = r := by
    have : p < 2147483648 := by omega
    have : r < 2147483648 := by omega
    grind
  have e2 : Int32.ofNat e = 0 ↔ e = 0 := ofNat_z0 (by omega)
  have e3 : Int32.ofNat K < 3000 ↔ K < 3000 := i32n_lt (b := 3000) (by omega) (by omega)
  unfold f1_addPart f1_addPart_j10 f12_adds
  by_cases hz : p = r ∧ e = 0
  · rw [if_pos (e1.mpr hz.1), if_pos (e2.mpr hz.2), if_pos (e1.mpr hz.1), if_pos (e2.mpr hz.2)]
    refine ⟨σ, μ, a, b, l, rfl, rfl, ?_, fun k _ => ⟨rfl, rfl, rfl⟩, fun h => ?_, rfl, rfl, rfl, rfl⟩
    · unfold nxK
      rw [if_pos hz]
      exact ⟨⟨j1, j2, j3, j4⟩, ⟨j5, j6, j7, j8⟩, ⟨j9, j10, j11, fun k hk => by have := j12 k hk; omega⟩, j13, j14⟩
    · unfold nxK at h
      rw [if_pos hz] at h
      omega
  · have c1 : (if Int32.ofNat p = Int32.ofNat r then if Int32.ofNat e = 0 then some σ else bnd (f1_addRange σ (Int32.ofNat p) (Int32.ofNat r) 0 (Int32.ofNat e)) fun p_1 => some p_1 else bnd (f1_addRange σ (Int32.ofNat p) (Int32.ofNat r) 0 (Int32.ofNat e)) fun p_1 => some p_1) = bnd (f1_addRange σ (Int32.ofNat p) (Int32.ofNat r) 0 (Int32.ofNat e)) fun p_1 => some p_1 := by
      by_cases h1 : p = r
      · rw [if_pos (e1.mpr h1), if_neg (fun h => hz ⟨h1, e2.mp h⟩)]
      · rw [if_neg (fun h => h1 (e1.mp h))]
    have c2 : (if Int32.ofNat p = Int32.ofNat r then if Int32.ofNat e = 0 then some μ else f12_adds_j11 (Int32.ofNat p) (Int32.ofNat r) 0 (Int32.ofNat e) μ else f12_adds_j11 (Int32.ofNat p) (Int32.ofNat r) 0 (Int32.ofNat e) μ) = f12_adds_j11 (Int32.ofNat p) (Int32.ofNat r) 0 (Int32.ofNat e) μ := by
      by_cases h1 : p = r
      · rw [if_pos (e1.mpr h1), if_neg (fun h => hz ⟨h1, e2.mp h⟩)]
      · rw [if_neg (fun h => h1 (e1.mp h))]
    rw [c1, c2]
    clear c1 c2
    unfold f1_addRange f12_adds_j11
    have x1 : ∀ r : Nat → Int32, aI (rA σ 14 r) 15 = aI σ 15 := fun _ => rfl
    have x2 : ∀ r r' : Nat → Int32, aI (rA (rA σ 14 r) 15 r') 16 = aI σ 16 := fun _ _ => rfl
    have x3 : ∀ r r' r'' : Nat → Int32, aI (rA (rA (rA σ 14 r) 15 r') 16 r'') 17 = aI σ 17 := fun _ _ _ => rfl
    have y1 : ∀ r : Nat → Int32, aI (rA μ 2029 r) 2030 = aI μ 2030 := fun _ => rfl
    have y2 : ∀ r r' : Nat → Int32, aI (rA (rA μ 2029 r) 2030 r') 2031 = aI μ 2031 := fun _ _ => rfl
    have y3 : ∀ r r' r'' : Nat → Int32, aI (rA (rA (rA μ 2029 r) 2030 r') 2031 r'') 2032 = aI μ 2032 := fun _ _ _ => rfl
    simp only [j4, j7, e3, if_pos hK, inb_n (show K < 3000 by omega) (by omega), inb_n (show K < 3001 by omega) (by omega), gd_true, stp, ofNat_clamp (show K < 2147483648 by omega), uA_up1, fI_rA, x1, x2, x3, y1, y2, y3, i32_succ, bnd_some]
    have hnx : nxK K p r e = K + 1 := by
      unfold nxK
      rw [if_neg hz]
    have un : ∀ (h : Nat → Nat) (v k : Nat), k < K → upn h K v k = h k := fun h v k hk => if_neg (by omega)
    have uK : ∀ (h : Nat → Nat) (v : Nat), upn h K v K = v := fun h v => if_pos rfl
    refine ⟨_, _, upn a K p, upn b K r, upn l K e, rfl, rfl, ?_, fun k hk => ⟨un a p k hk, un b r k hk, un l e k hk⟩, fun _ => ⟨uK a p, uK b r, uK l e⟩, ?_, rfl, ?_, rfl⟩
    · rw [hnx]
      refine ⟨⟨?_, j2, ?_, ?_⟩, ⟨fun k k1 k2 k3 => ?_, fun a ha ha2 => ?_, ?_, ?_⟩, ⟨by omega, j10, ⟨fun k hk => ?_, fun k hk => ?_⟩, fun k hk => ?_⟩, fun k hk => ?_, j14⟩
      · exact j1.trans (Sm.trans (Sm.rA (by omega)) (Sm.trans (Sm.rA (by omega)) (Sm.trans (Sm.rA (by omega)) (Sm.trans (Sm.rA (by omega)) (Sm.uI (by omega))))))
      · rw [fI_uI, if_pos rfl, if_neg (by decide)]
        exact j3
      · rw [fI_uI, if_pos rfl, if_pos rfl]
      · rw [fI_uI, if_pos rfl, if_neg k1]
        exact j5 k k1 k2 k3
      · show aI (rA (rA (rA (rA μ 2029 _) 2030 _) 2031 _) 2032 _) a = _
        rw [aI_rA' (by omega), aI_rA' (by omega), aI_rA' (by omega), aI_rA' (by omega)]
        exact j6 a ha ha2
      · rw [fI_uI, if_pos rfl, if_pos rfl]
      · rw [fI_uI, if_pos rfl, if_neg (by decide)]
        exact j8
      · by_cases e4 : k = K
        · rw [e4, uK, uK]
          exact ⟨hpr, hrn⟩
        · rw [un _ _ _ (by omega), un _ _ _ (by omega)]
          exact j11.1 k (by omega)
      · by_cases e4 : k + 1 = K
        · rw [un _ _ _ (by omega), e4, uK]
          have := j12 k (by omega)
          omega
        · rw [un _ _ _ (by omega), un _ _ _ (by omega)]
          exact j11.2 k (by omega)
      · by_cases e4 : k = K
        · rw [e4, uK]
          exact Nat.le_refl _
        · rw [un _ _ _ (by omega)]
          have := j12 k (by omega)
          omega
      · show (up1 (aI σ 14) K _ k = _ ∧ up1 (aI σ 15) K _ k = _ ∧ up1 (aI σ 16) K _ k = 0 ∧ up1 (aI σ 17) K _ k = _) ∧ (up1 (aI μ 2029) K _ k = _ ∧ up1 (aI μ 2030) K _ k = _ ∧ up1 (aI μ 2031) K _ k = 0 ∧ up1 (aI μ 2032) K _ k = _) ∧ _
        unfold up1
        by_cases e4 : k = K
        · rw [if_pos e4, if_pos e4, if_pos e4, if_pos e4, if_pos e4, if_pos e4, if_pos e4, if_pos e4, e4, uK, uK, uK]
          exact ⟨⟨rfl, rfl, rfl, rfl⟩, ⟨rfl, rfl, rfl, rfl⟩, he⟩
        · rw [if_neg e4, if_neg e4, if_neg e4, if_neg e4, if_neg e4, if_neg e4, if_neg e4, if_neg e4, un _ _ _ (by omega), un _ _ _ (by omega), un _ _ _ (by omega)]
          exact j13 k (by omega)
    · rw [fI_uI, if_pos rfl, if_neg (by decide)]
      rfl
    · exact fI_uI' (by decide)
end R
section R
variable {σ μ σ1 μ1 : Sto} {L B H : Nat} {f : Nat → Int32} {n c K q w : Nat} {hd : Nat → Int32} {cu : Nat → Nat} {ma lf ml : Nat → Int32} {T : Hst} {a b l : Nat → Nat} {G : Nat → Int32}
/-- a planned act, done -/
theorem act_of {P : Int32 → (Nat → Int32) → Int32 → (Nat → Int32) → Prop} (h : RelT P σ μ (f, n, hd, c, cu, ma, lf, ml) L B H T) (j : JP σ μ σ1 μ1 n K q a b l G w) (hs : (∀ k, k < K → b k - a k ≤ l k) ∨ ∀ k, k < K → l k ≤ b k - a k) (hl : (∀ k, k < K → ends f (b k) ≤ ends f (a k) + ends G (l k)) ∨ ∀ k, k < K → ends f (a k) + ends G (l k) ≤ ends f (b k)) : ∃ r σ' μ' D' L' B' H' T', f11_perform σ1 = some (r, σ') ∧ f12_acts μ1 = some (r, μ') ∧ (r = 0 ∨ r = 1) ∧ RelT P σ' μ' D' L' B' H' T' ∧ (r = 1 → D'.2.1 = nA n K a b l 0) ∧ fI σ' 18 = fI σ1 18 ∧ aI σ' 19 = aI σ1 19 ∧ fI μ' 2017 42 = fI μ1 2017 42 ∧ aI μ' 2043 = aI μ1 2043 ∧ aI μ' 2049 = aI μ1 2049 ∧ PF σ σ' (f, n, hd, c, cu, ma, lf, ml) D' T T' r K a b l (fun _ => G) := by
  have jpc := j.pc
  have jpr := j.pr
  obtain ⟨⟨j1, j2, j3, j4⟩, ⟨j5, j6, j7, j8⟩, ⟨j9, j10, j11, j12⟩, j13, j14⟩ := j
  obtain ⟨L', B', H', cl, al, hne⟩ := h.2.2.2.1.alt
  have h1 : RelT P σ1 μ1 (f, n, hd, c, cu, ma, lf, ml) L B H T := by
    have hw := h.2.2.2.1.cells
    have ht := h.2.2.2.2.2.2.2.2.2.2
    refine h.act (j1.weak (by omega)) (fun k hk => j5 k (by omega) (by omega) (by omega)) (fun a ha => j6 a (by omega) (by omega)) h.1 (h.2.1.congr (j1 1 (by omega)).1 (by rw [j2]) (j1 L (by omega)).2.2.1 (j1 B (by omega)).2.2.1 (j1 H (by omega)).2.2.1 (j1 5 (by omega)).2.2.1 (j1 6 (by omega)).2.2.1 (j1 7 (by omega)).2.2.1) (h.2.2.1.congr (j5 5 (by decide) (by decide) (by decide)) (j5 6 (by decide) (by decide) (by decide)) (j6 2018 (by omega) (by omega)) (j6 2019 (by omega) (by omega)) (j6 2020 (by omega) (by omega)) (j6 2021 (by omega) (by omega)) (j6 2022 (by omega) (by omega))) ?_ ?_ ?_
    · unfold SW
      rw [j2]
      exact h.2.2.2.1
    · rw [(j1 24 (by omega)).1, j5 34 (by decide) (by decide) (by decide), j5 33 (by decide) (by decide) (by decide)]
      exact ht.1
    · exact ht.2.congr (j1.weak (by omega)) (by rw [(j1 24 (by omega)).1]) (by rw [j2]) (j5 31 (by decide) (by decide) (by decide)) (j5 32 (by decide) (by decide) (by decide)) (fun a a1 a2 => j6 a (by omega) (by omega))
  obtain ⟨r, σ', μ', D', L'', B'', H'', T', w1, w2, w3, w4, w5, w6, w7, w8, w9, w10, w11⟩ := perform h1 jpc jpr j11 j3 (mono_of j11 h.1.1 h.1.2.1 hs hl)
  exact ⟨r, σ', μ', D', L'', B'', H'', T', w1, w2, w3, w4, w5, w6, w7, w8, w9, w10, w11.pre (j1 24 (by omega)).1 (j1.weak (fun a ha => by unfold osh at ha; omega))⟩
end R
