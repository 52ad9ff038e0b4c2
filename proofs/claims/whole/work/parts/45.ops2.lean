/-! feed -/
theorem Ok_eq2 {α : Type} {x y : Option α} (h : Ok x (fun r => some r = y)) : x = y := by
  obtain ⟨b, h1, h2⟩ := h
  rw [h1, h2]
def up1 {α : Type} (r : Nat → α) (j : Nat) (x : α) : Nat → α := fun i => if i = j then x else r i
theorem st_row {σ : Sto} {a o k j : Nat} {r : Nat → Int32} {v v' x : Int32} : uI (uA (uI (rA σ a r) o k v) a j x) o k v' = uI (rA σ a (up1 r j x)) o k v' := by
  unfold uI uA rA up1
  simp only [Prod.mk.injEq, and_true, true_and]
  refine ⟨?_, ?_⟩
  · funext b i
    simp only [up2]
    grind
  · funext b i
    simp only [up2, upr]
    by_cases e : b = a
    · simp only [if_pos e]
    · simp only [if_neg e]
theorem st_row0 {σ : Sto} {a o k : Nat} : uI (rA σ a (aI σ a)) o k (fI σ o k) = σ := by
  obtain ⟨A, B, C, D⟩ := σ
  unfold uI rA
  simp only [Prod.mk.injEq, and_true, true_and]
  refine ⟨?_, ?_⟩
  · funext b i
    simp only [up2]
    grind
  · funext b
    simp only [upr]
    grind
theorem c6_add {σ : Sto} {a0 m cap : Nat} {x : Int32} (hl : fI σ a0 1 = Int32.ofNat m) (hm : m < 100000) (hc : ln (a0 + 1) = cap) (h2 : cap ≤ 12000) (hx : 0 ≤ x ∧ x ≤ 127) : f6_add σ a0 x = if m < cap then some (1, uI (uA σ (a0 + 1) m x) a0 1 (Int32.ofNat (m + 1))) else some (0, σ) := by
  have e1 : Int32.ofNat m + 1 = Int32.ofNat (m + 1) := by grind
  have e2 : Int32.ofNat m < Int32.ofNat cap ↔ m < cap := by grind
  have e3 : fI (uA σ (a0 + 1) m x) a0 1 = Int32.ofNat m := hl
  unfold f6_add
  simp (disch := omega) only [hl, hc, e2, (nar_B hx).1, ofNat_clamp, stp, e3, e1]
  by_cases h : m < cap
  · rw [if_pos h, if_pos h, inb_t (by grind), gd_true]
  · rw [if_neg h, if_neg h]
/-- the bytes of a number -/
def lby (l : Int64) (k : Nat) : Int32 := Int64.toInt32 (UInt64.toInt64 (Int64.toUInt64 l >>> (Int64.toUInt64 (Int32.toInt64 (Int32.ofNat (8 * k))) &&& Int64.toUInt64 63))) &&& 255
theorem lby_m {l : Int64} {k : Nat} {x : Int32} (hx : x = Int32.ofNat k) : Int64.toInt32 (UInt64.toInt64 (Int64.toUInt64 l >>> (Int64.toUInt64 (Int32.toInt64 ((8 : Int32) * x)) &&& Int64.toUInt64 63)) &&& (255 : Int64)) = lby l k := by
  subst hx
  unfold lby
  rw [Int32.ofNat_mul, Int64.toInt32_and]
  rfl
def nB (g : Nat → Int32) : Nat → Nat
  | 0 => 0
  | k + 1 => nB g k + (if g k = 0 then 0 else 1)
def aB (g : Nat → Int32) : Nat → Bool
  | 0 => true
  | k + 1 => aB g k && (g k == 0 || isLt (g k))
def wB (g : Nat → Int32) (n : Nat) (r : Nat → Int32) : Nat → Nat → Int32
  | 0 => r
  | k + 1 => if g k = 0 then wB g n r k else up1 (wB g n r k) (n + nB g k) (g k)
theorem nB_le {g : Nat → Int32} : ∀ k, nB g k ≤ k := by
  intro k
  induction k with
  | zero => exact Nat.le_refl _
  | succ k ih => rw [nB]; split <;> omega
theorem nB_mono {g : Nat → Int32} {a b : Nat} (h : a ≤ b) : nB g a ≤ nB g b := by
  induction b with
  | zero => have : a = 0 := by omega
            subst this; exact Nat.le_refl _
  | succ b ih =>
    by_cases e : a = b + 1
    · subst e; exact Nat.le_refl _
    · rw [nB]
      exact Nat.le_trans (ih (by omega)) (Nat.le_add_right _ _)
theorem aB_lt {g : Nat → Int32} {m : Nat} (h : aB g m = true) : ∀ k, k < m → g k ≠ 0 → isLt (g k) = true := by
  induction m with
  | zero => intro k hk; omega
  | succ m ih =>
    rw [aB, Bool.and_eq_true, Bool.or_eq_true] at h
    intro k hk hn
    by_cases e : k = m
    · subst e
      rcases h.2 with h2 | h2
      · exact absurd (by simpa using h2) hn
      · exact h2
    · exact ih h.1 k (by omega) hn
theorem wB_at {g : Nat → Int32} {n : Nat} {r r' : Nat → Int32} (hr : ∀ j, j < n → r j = r' j ∧ isLt (r' j) = true) {m : Nat} (hg : aB g m = true) : ∀ k, k ≤ m → ∀ j, j < n + nB g k → wB g n r k j = wB g n r' k j ∧ isLt (wB g n r' k j) = true := by
  intro k
  induction k with
  | zero => intro _ j hj; exact hr j hj
  | succ k ih =>
    intro hk j hj
    rw [nB] at hj
    rw [wB, wB]
    have h2 := aB_lt hg k (by omega)
    by_cases e : g k = 0
    · rw [if_pos e] at hj
      simp only [if_pos e]
      exact ih (by omega) j hj
    · rw [if_neg e] at hj
      simp only [if_neg e, up1]
      by_cases e2 : j = n + nB g k
      · simp only [if_pos e2]
        exact ⟨trivial, h2 e⟩
      · simp only [if_neg e2]
        exact ih (by omega) j (by omega)
theorem nB_rev {g : Nat → Int32} : nB (fun j => g (7 - j)) 8 = nB g 8 := by
  simp only [nB]
  show _ + (if g 0 = 0 then 0 else 1) = _
  simp only [Nat.sub_zero, show 7 - 1 = 6 from rfl, show 7 - 2 = 5 from rfl, show 7 - 3 = 4 from rfl, show 7 - 4 = 3 from rfl, show 7 - 5 = 2 from rfl, show 7 - 6 = 1 from rfl]
  omega
theorem aB_rev {g : Nat → Int32} : aB (fun j => g (7 - j)) 8 = aB g 8 := by
  simp only [aB]
  simp only [Nat.sub_zero, show 7 - 1 = 6 from rfl, show 7 - 2 = 5 from rfl, show 7 - 3 = 4 from rfl, show 7 - 4 = 3 from rfl, show 7 - 5 = 2 from rfl, show 7 - 6 = 1 from rfl, show 7 - 7 = 0 from rfl]
  ac_rfl
section R
variable {σ μ : Sto} {o : Int64}
theorem c11_feedg {l : Int64} {g : Nat → Int32} (hg : ∀ k, k < 8 → lby l (7 - k) = g k) {m : Nat} (hl : fI σ 8 1 = Int32.ofNat m) (hm : m ≤ 200) : f11_feed σ l = if aB g 8 = true then (if m + nB g 8 ≤ 200 then some (.inl (Int32.ofNat (m + nB g 8), uI (rA σ 9 (wB g m (aI σ 9) 8)) 8 1 (Int32.ofNat (m + nB g 8)))) else some (.inr (3, σ))) else some (.inr (2, σ)) := by
  apply Ok_eq2
  unfold f11_feed f11_feed_j9
  simp only [Ok_stp, Ok_bnd]
  refine Ok.imp (Q := fun r => r = (Int32.ofNat (nB g 8), tz (aB g 8))) ?_ ?_
  · refine Ok_count 8 (fun k z => z = (Int32.ofNat (nB g k), tz (aB g k), Int32.ofInt (56 - 8 * (k : Int)))) ?_ 0 rfl (by omega) (by fuel)
    rintro k z hk rfl
    have h1 := nB_le (g := g) k
    by_cases h8 : k = 8
    · subst h8
      unfold f11_feed_b9
      rw [if_pos (show (Int32.ofInt (56 - 8 * ((8 : Nat) : Int))) < 0 by decide)]
      wq
    · have e0 : Int32.ofInt (56 - 8 * (k : Int)) = Int32.ofNat (8 * (7 - k)) := by
        rw [show (56 - 8 * (k : Int)) = ((8 * (7 - k) : Nat) : Int) by omega]
        rfl
      have e1 : Int32.ofNat (8 * (7 - k)) + -8 = Int32.ofInt (56 - 8 * ((k + 1 : Nat) : Int)) := by
        rw [← e0, show ((-8 : Int32)) = Int32.ofInt (-8) from rfl, ← Int32.ofInt_add]
        congr 1
        omega
      have e2 : ¬ Int32.ofNat (8 * (7 - k)) < 0 := by grind
      have e3 : Int64.toInt32 (UInt64.toInt64 (Int64.toUInt64 l >>> (Int64.toUInt64 (Int32.toInt64 (Int32.ofNat (8 * (7 - k)))) &&& Int64.toUInt64 63))) &&& 255 = g k := hg k (by omega)
      rw [e0]
      unfold f11_feed_b9 f11_feed_j36 f11_feed_j56 f11_feed_j60 f11_feed_j61
      rw [if_neg e2]
      simp only [e3, e1, c11_isLetter, nB, aB]
      wq
      simp only [tz_0]
      clear e3 e0 e1 e2
      generalize g k = x at *
      generalize aB g k = y at *
      generalize nB g k = w at *
      have := i32n w
      cases y <;> cases isLt x <;> simp [tz] <;> grind
  · rintro r rfl
    rw [ite_tz]
    have h8 := nB_le (g := g) 8
    have e1 : fI σ 8 1 + Int32.ofNat (nB g 8) ≤ 200 ↔ m + nB g 8 ≤ 200 := by rw [hl]; grind
    simp only [e1]
    by_cases hA : aB g 8 = true
    · simp only [if_pos hA]
      by_cases hq : m + nB g 8 ≤ 200
      · simp only [if_pos hq]
        unfold f11_feed_j113
        wq
        refine Ok.imp (Q := fun r => r = uI (rA σ 9 (wB g m (aI σ 9) 8)) 8 1 (Int32.ofNat (m + nB g 8))) ?_ ?_
        · refine Ok_count 8 (fun k z => z = (uI (rA σ 9 (wB g m (aI σ 9) k)) 8 1 (Int32.ofNat (m + nB g k)), Int32.ofInt (56 - 8 * (k : Int)))) ?_ 0 ?_ (by omega) (by fuel)
          · rintro k z hk rfl
            by_cases h9 : k = 8
            · subst h9
              unfold f11_feed_b113
              rw [if_pos (show (Int32.ofInt (56 - 8 * ((8 : Nat) : Int))) < 0 by decide)]
              wq
            · have e0 : Int32.ofInt (56 - 8 * (k : Int)) = Int32.ofNat (8 * (7 - k)) := by
                rw [show (56 - 8 * (k : Int)) = ((8 * (7 - k) : Nat) : Int) by omega]
                rfl
              have e1 : Int32.ofNat (8 * (7 - k)) + -8 = Int32.ofInt (56 - 8 * ((k + 1 : Nat) : Int)) := by
                rw [← e0, show ((-8 : Int32)) = Int32.ofInt (-8) from rfl, ← Int32.ofInt_add]
                congr 1
                omega
              have e2 : ¬ Int32.ofNat (8 * (7 - k)) < 0 := by grind
              have e3 : Int64.toInt32 (UInt64.toInt64 (Int64.toUInt64 l >>> (Int64.toUInt64 (Int32.toInt64 (Int32.ofNat (8 * (7 - k)))) &&& Int64.toUInt64 63))) &&& 255 = g k := hg k (by omega)
              have h1 := nB_mono (g := g) (show k + 1 ≤ 8 by omega)
              have h2 : nB g (k + 1) = nB g k + (if g k = 0 then 0 else 1) := rfl
              have h3 : g k ≠ 0 → isLt (g k) = true := aB_lt hA k (by omega)
              rw [e0]
              unfold f11_feed_b113 f11_feed_j144
              rw [if_neg e2]
              simp only [e3, e1]
              by_cases hb : g k = 0
              · simp only [stp, if_pos hb, nB, wB]
                wq
                exact ⟨by omega, by rw [Nat.add_zero]⟩
              · have h4 := isLt_in (h3 hb)
                rw [if_neg hb] at h2
                have hcl : f6_add (uI (rA σ 9 (wB g m (aI σ 9) k)) 8 1 (Int32.ofNat (m + nB g k))) 8 (g k) = _ := c6_add (m := m + nB g k) (cap := 200) rfl (by omega) rfl (by omega) ⟨by grind, by grind⟩
                rw [if_pos (by omega)] at hcl
                simp only [stp, if_neg hb, hcl, nB, wB, st_row]
                wq
                exact ⟨by omega, by rw [Nat.add_assoc]⟩
          · rw [Prod.mk.injEq]
            refine ⟨?_, rfl⟩
            show σ = uI (rA σ 9 (aI σ 9)) 8 1 (Int32.ofNat m)
            rw [← hl, st_row0]
        · rintro r rfl
          rfl
      · simp only [if_neg hq]
        wq
    · simp only [if_neg hA]
      wq
theorem c12_feedg {l : Int64} {g : Nat → Int32} (hg : ∀ k, k < 8 → lby l (7 - k) = g k) {m : Nat} (hl : fI μ 2017 11 = Int32.ofNat m) (hm : m ≤ 200) : f12_feed μ l = if aB (lby l) 8 = true then (if m + nB (lby l) 8 ≤ 200 then some (Int32.ofNat (m + nB g 8), uI (uI (rA μ 2023 (wB g m (aI μ 2023) 8)) 2017 11 (Int32.ofNat (m + nB g 8))) 2017 18 0) else some (0, uI μ 2017 18 2)) else some (0, uI μ 2017 18 1) := by
  have eN : nB (lby l) 8 = nB g 8 := by
    rw [← nB_rev]
    have : ∀ k, k ≤ 8 → nB (fun j => lby l (7 - j)) k = nB g k := by
      intro k
      induction k with
      | zero => intro _; rfl
      | succ k ih => intro hk; rw [nB, nB, ih (by omega), hg k (by omega)]
    exact this 8 (by omega)
  have eA : aB (lby l) 8 = aB g 8 := by
    rw [← aB_rev]
    have : ∀ k, k ≤ 8 → aB (fun j => lby l (7 - j)) k = aB g k := by
      intro k
      induction k with
      | zero => intro _; rfl
      | succ k ih => intro hk; rw [aB, aB, ih (by omega), hg k (by omega)]
    exact this 8 (by omega)
  apply Ok_eq2
  unfold f12_feed f12_feed_j8
  simp only [Ok_stp, Ok_bnd]
  refine Ok.imp (Q := fun r => r = (Int32.ofNat (nB (lby l) 8), tz (aB (lby l) 8))) ?_ ?_
  · refine Ok_count 8 (fun k z => z = (Int32.ofNat (nB (lby l) k), tz (aB (lby l) k), Int32.ofNat k)) ?_ 0 rfl (by omega) (by fuel)
    rintro k z hk rfl
    have h1 := nB_le (g := lby l) k
    have e1 : Int32.ofNat k + 1 = Int32.ofNat (k + 1) := by grind
    have e2 : (8 : Int32) ≤ Int32.ofNat k ↔ k = 8 := by grind
    unfold f12_feed_b8 f12_feed_j40 f12_feed_j60 f12_feed_j64 f12_feed_j65
    by_cases h8 : k = 8
    · rw [if_pos (e2.mpr h8), h8]
      wq
    · rw [if_neg (fun z => h8 (e2.mp z))]
      simp only [lby_m rfl, c12_isLetter, nB, aB]
      wq
      simp only [tz_0]
      rw [e1]
      clear e1 e2
      generalize lby l k = x at *
      generalize aB (lby l) k = y at *
      generalize nB (lby l) k = w at *
      have := i32n w
      cases y <;> cases isLt x <;> simp [tz] <;> grind
  · rintro r rfl
    rw [ite_tz]
    have h8 := nB_le (g := g) 8
    have e1 : fI μ 2017 11 + Int32.ofNat (nB (lby l) 8) ≤ 200 ↔ m + nB (lby l) 8 ≤ 200 := by rw [hl, eN]; grind
    simp only [e1, c12_refuse, bnd_some]
    by_cases hA : aB (lby l) 8 = true
    · simp only [if_pos hA]
      by_cases hq : m + nB (lby l) 8 ≤ 200
      · simp only [if_pos hq]
        rw [eA] at hA
        rw [eN] at hq
        unfold f12_feed_j106
        simp only [c12_told]
        wq
        refine Ok.imp (Q := fun r => r = uI (rA μ 2023 (wB g m (aI μ 2023) 8)) 2017 11 (Int32.ofNat (m + nB g 8))) ?_ ?_
        · refine Ok_count 8 (fun k z => z = (uI (rA μ 2023 (wB g m (aI μ 2023) k)) 2017 11 (Int32.ofNat (m + nB g k)), Int32.ofInt (7 - (k : Int)))) ?_ 0 ?_ (by omega) (by fuel)
          · rintro k z hk rfl
            by_cases h9 : k = 8
            · subst h9
              unfold f12_feed_b106
              rw [if_pos (show (Int32.ofInt (7 - ((8 : Nat) : Int))) < 0 by decide)]
              wq
            · have e0 : Int32.ofInt (7 - (k : Int)) = Int32.ofNat (7 - k) := by
                rw [show (7 - (k : Int)) = ((7 - k : Nat) : Int) by omega]
                rfl
              have e1 : Int32.ofNat (7 - k) + -1 = Int32.ofInt (7 - ((k + 1 : Nat) : Int)) := by
                rw [← e0, show ((-1 : Int32)) = Int32.ofInt (-1) from rfl, ← Int32.ofInt_add]
                congr 1
                omega
              have e2 : ¬ Int32.ofNat (7 - k) < 0 := by grind
              have h1 := nB_mono (g := g) (show k + 1 ≤ 8 by omega)
              have h2 : nB g (k + 1) = nB g k + (if g k = 0 then 0 else 1) := rfl
              rw [e0]
              unfold f12_feed_b106 f12_feed_j151
              rw [if_neg e2]
              simp only [lby_m rfl, e1, hg k (by omega)]
              by_cases hb : g k = 0
              · simp only [stp, if_pos hb, nB, wB]
                wq
                exact ⟨by omega, by rw [Nat.add_zero]⟩
              · rw [if_neg hb] at h2
                have e4 : fI (uI (rA μ 2023 (wB g m (aI μ 2023) k)) 2017 11 (Int32.ofNat (m + nB g k))) 2017 11 = Int32.ofNat (m + nB g k) := rfl
                have e5 : ∀ a v, fI (uA (uI (rA μ 2023 (wB g m (aI μ 2023) k)) 2017 11 (Int32.ofNat (m + nB g k))) 2023 a v) 2017 11 = Int32.ofNat (m + nB g k) := fun _ _ => rfl
                have e6 : Int32.ofNat (m + nB g k) + 1 = Int32.ofNat (m + (nB g k + 1)) := by grind
                have e7 : (Int32.ofNat (m + nB g k)).toNatClampNeg = m + nB g k := ofNat_clamp (by omega)
                have e8 : wB g m (aI μ 2023) (k + 1) = up1 (wB g m (aI μ 2023) k) (m + nB g k) (g k) := if_neg hb
                have e9 : inb (Int32.ofNat (m + nB g k)) 200 = true := inb_t (by grind)
                simp only [stp, if_neg hb, e4, e7, e5, e6, h2, e8, e9, st_row, gd_true]
                wq
                omega
          · rw [Prod.mk.injEq]
            refine ⟨?_, rfl⟩
            show μ = uI (rA μ 2023 (aI μ 2023)) 2017 11 (Int32.ofNat m)
            rw [← hl, st_row0]
        · rintro r rfl
          rfl
      · simp only [if_neg hq]
        wq
    · simp only [if_neg hA]
      wq
theorem op_feed (h : Rel σ μ) {l : Int64} : stH (f11_feed σ l) [(2, 1), (3, 2)] o (f12_feed μ l) RQ := by
  obtain ⟨D, L, B, H, T, h0⟩ := id h
  obtain ⟨g, s, m, w, ⟨tn, t1, q1, q2, q3⟩, t2, t3, t4, t5, t6, t7, t8⟩ := h0
  rw [c11_feedg (g := fun k => lby l (7 - k)) (fun _ _ => rfl) q1 t1, c12_feedg (g := fun k => lby l (7 - k)) (fun _ _ => rfl) q2 t1, nB_rev, aB_rev]
  by_cases hA : aB (lby l) 8 = true
  · simp only [if_pos hA]
    by_cases hq : tn + nB (lby l) 8 ≤ 200
    · simp only [if_pos hq]
      refine stH_ok rfl rfl ?_
      have hw := wB_at (g := fun k => lby l (7 - k)) q3 (aB_rev.trans hA) 8 (by omega)
      rw [nB_rev] at hw
      have hL : L ≠ 9 ∧ B ≠ 9 ∧ H ≠ 9 := by rcases w with w | w <;> omega
      exact ⟨D, L, B, H, T, g, s.congr rfl rfl (aI_rA' hL.1) (aI_rA' hL.2.1) (aI_rA' hL.2.2) rfl rfl rfl, m.congr rfl rfl rfl rfl rfl rfl rfl, w, ⟨tn + nB (lby l) 8, hq, rfl, rfl, hw⟩, t2, t3, t4, t5.congr (Sm.trans (Sm.rA (by omega)) (Sm.uI (by omega))) rfl rfl, t6.congr (Sm.trans (Sm.rA (by omega)) (Sm.uI (by omega))) rfl rfl (fun a a1 a2 => aI_rA' (σ := μ) (by omega)), t7, t8.congr (Sm.trans (Sm.rA (by omega)) (Sm.uI (by omega))) rfl rfl rfl rfl (fun a a1 a2 => aI_rA' (σ := μ) (by omega))⟩
    · simp only [if_neg hq]
      exact stH_er (c := 3) (t := 2) rfl (by decide) (by decide) rfl h
  · simp only [if_neg hA]
    exact stH_er (c := 2) (t := 1) rfl (by decide) (by decide) rfl h
end R
