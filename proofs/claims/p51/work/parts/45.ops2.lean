/-! feed -/
theorem Ok_eq2 {α : Type} {x y : Option α} (h : Ok x (fun r => some r = y)) : x = y := by
  obtain ⟨b, h1, h2⟩ := h
  rw [h1, h2]
def up1 {α : Type} (r : Nat → α) (j : Nat) (x : α) : Nat → α := fun i => if i = j then x else r i
theorem st_row {σ : Sto} {a o k j : Nat} {r : Nat → Int32} {v v' x : Int32} : uI (uA (uI (rA σ a r) o k v) a j x) o k v' = uI (rA σ a (up1 r j x)) o k v' := by
  unfold uI uA rA up1
  simp only [Prod.mk.injEq, and_true, true_and]
  refine ⟨?_, ?_⟩
  · funext b i
    simp only [up2]
    grind
  · funext b i
    simp only [up2, upr]
    by_cases e : b = a
    · simp only [if_pos e]
    · simp only [if_neg e]
theorem st_row0 {σ : Sto} {a o k : Nat} : uI (rA σ a (aI σ a)) o k (fI σ o k) = σ := by
  obtain ⟨A, B, C, D⟩ := σ
  unfold uI rA
  simp only [Prod.mk.injEq, and_true, true_and]
  refine ⟨?_, ?_⟩
  · funext b i
    simp only [up2]
    grind
  · funext b
    simp only [upr]
    grind
theorem c6_add {σ : Sto} {a0 m cap : Nat} {x : Int32} (hl : fI σ a0 1 = Int32.ofNat m) (hm : m < 100000) (hc : ln (a0 + 1) = cap) (h2 : cap ≤ 12000) (hx : 0 ≤ x ∧ x ≤ 127) : f6_add σ a0 x = if m < cap then some (1, uI (uA σ (a0 + 1) m x) a0 1 (Int32.ofNat (m + 1))) else some (0, σ) := by
  have e1 : Int32.ofNat m + 1 = Int32.ofNat (m + 1) := by grind
  have e2 : Int32.ofNat m < Int32.ofNat cap ↔ m < cap := by grind
  have e3 : fI (uA σ (a0 + 1) m x) a0 1 = Int32.ofNat m := hl
  unfold f6_add
  simp (disch := omega) only [hl, hc, e2, (nar_B hx).1, ofNat_clamp, stp, e3, e1]
  by_cases h : m < cap
  · rw [if_pos h, if_pos h, inb_t (by grind), gd_true]
  · rw [if_neg h, if_neg h]
/-- the bytes of a number -/
def lby (l : Int64) (k : Nat) : Int32 := Int64.toInt32 (UInt64.toInt64 (Int64.toUInt64 l >>> (Int64.toUInt64 (Int32.toInt64 (Int32.ofNat (8 * k))) &&& Int64.toUInt64 63))) &&& 255
theorem lby_m {l : Int64} {k : Nat} {x : Int32} (hx : x = Int32.ofNat k) : Int64.toInt32 (UInt64.toInt64 (Int64.toUInt64 l >>> (Int64.toUInt64 (Int32.toInt64 ((8 : Int32) * x)) &&& Int64.toUInt64 63)) &&& (255 : Int64)) = lby l k := by
  subst hx
  unfold lby
  rw [Int32.ofNat_mul, Int64.toInt32_and]
  rfl
def nB (g : Nat → Int32) : Nat → Nat
  | 0 => 0
  | k + 1 => nB g k + (if g k = 0 then 0 else 1)
def aB (g : Nat → Int32) : Nat → Bool
  | 0 => true
  | k + 1 => aB g k && (g k == 0 || isLt (g k))
def wB (g : Nat → Int32) (n : Nat) (r : Nat → Int32) : Nat → Nat → Int32
  | 0 => r
  | k + 1 => if g k = 0 then wB g n r k else up1 (wB g n r k) (n + nB g k) (g k)
theorem nB_le {g : Nat → Int32} : ∀ k, nB g k ≤ k := by
  intro k
  induction k with
  | zero => exact Nat.le_refl _
  | succ k ih => rw [nB]; split <;> omega
theorem nB_mono {g : Nat → Int32} {a b : Nat} (h : a ≤ b) : nB g a ≤ nB g b := by
  induction b with
  | zero => have : a = 0 := by omega
            subst this; exact Nat.le_refl _
  | succ b ih =>
    by_cases e : a = b + 1
    · subst e; exact Nat.le_refl _
    · rw [nB]
      exact Nat.le_trans (ih (by omega)) (Nat.le_add_right _ _)
theorem aB_lt {g : Nat → Int32} {m : Nat} (h : aB g m = true) : ∀ k, k < m → g k ≠ 0 → isLt (g k) = true := by
  induction m with
  | zero => intro k hk; omega
  | succ m ih =>
    rw [aB, Bool.and_eq_true, Bool.or_eq_true] at h
    intro k hk hn
    by_cases e : k = m
    · subst e
      rcases h.2 with h2 | h2
      · exact absurd (by simpa using h2) hn
      · exact h2
    · exact ih h.1 k (by omega) hn
theorem wB_at {g : Nat → Int32} {n : Nat} {r r' : Nat → Int32} (hr : ∀ j, j < n → r j = r' j ∧ isLt (r' j) = true) {m : Nat} (hg : aB g m = true) : ∀ k, k ≤ m → ∀ j, j < n + nB g k → wB g n r k j = wB g n r' k j ∧ isLt (wB g n r' k j) = true := by
  intro k
  induction k with
  | zero => intro _ j hj; exact hr j hj
  | succ k ih =>
    intro hk j hj
    rw [nB] at hj
    rw [wB, wB]
    have h2 := aB_lt hg k (by omega)
    by_cases e : g k = 0
    · rw [if_pos e] at hj
      simp only [if_pos e]
      exact ih (by omega) j hj
    · rw [if_neg e] at hj
      simp only [if_neg e, up1]
      by_cases e2 : j = n + nB g k
      · simp only [if_pos e2]
        exact ⟨trivial, h2 e⟩
      · simp only [if_neg e2]
        exact ih (by omega) j (by omega)
theorem nB_rev {g : Nat → Int32} : nB (fun j => g (7 - j)) 8 = nB g 8 := by
  simp only [nB]
  show _ + (if g 0 = 0 then 0 else 1) = _
  simp only [Nat.sub_zero, show 7 - 1 = 6 from rfl, show 7 - 2 = 5 from rfl, show 7 - 3 = 4 from rfl, show 7 - 4 = 3 from rfl, show 7 - 5 = 2 from rfl, show 7 - 6 = 1 from rfl]
  omega
theorem aB_rev {g : Nat → Int32} : aB (fun j => g (7 - j)) 8 = aB g 8 := by
  simp only [aB]
  simp only [Nat.sub_zero, show 7 - 1 = 6 from rfl, show 7 - 2 = 5 from rfl, show 7 - 3 = 4 from rfl, show 7 - 4 = 3 from rfl, show 7 - 5 = 2 from rfl, show 7 - 6 = 1 from rfl, show 7 - 7 = 0 from rfl]
  ac_rfl
section R
variable {σ μ : Sto} {o : Int64}
theorem c11_feedg {l : Int64} {g : Nat → Int32} (hg : ∀ k, k < 8 → lby l (7 - k) = g k) {m : Nat} (hl : fI σ 8 1 = Int32.ofNat m) (hm : m ≤ 200) : f11_feed σ l = if aB g 8 = true then (if m + nB g 8 ≤ 200 then some (.inl (Int32.ofNat (m + nB g 8), uI (rA σ 9 (wB g m (aI σ 9) 8)) 8 1 (Int32.ofNat (m + nB g 8)))) else some (.inr (3, σ))) else some (.inr (2, σ)) := by
  apply Ok_eq2
  unfold f11_feed f11_feed_j9
  simp only [Ok_stp, Ok_bnd]
  refine Ok.imp (Q := fun r => r = (Int32.ofNat (nB g 8), tz (aB g 8))) ?_ ?_
  · refine Ok_count 8 (fun k z => z = (Int32.ofNat (nB g k), tz (aB g k), Int32.ofInt (56 - 8 * (k : Int)))) ?_ 0 rfl (by omega) (by (show _ < FU; unfold FU; omega))
    rintro k z hk rfl
    have h1 := nB_le (g := g) k
    by_cases h8 : k = 8
    · subst h8
      unfold f11_feed_b9
      rw [if_pos (show (Int32.ofInt (56 - 8 * ((8 : Nat) : Int))) < 0 by decide)]
      simp only [Ok_stp, Ok_bnd, Ok_bndX, Ok_some, Ok_none, Ok_ite, Ok_gd, inb_iff, isB_iff, lp_inl, lp_inr, Prod.mk.injEq, Sum.inl.injEq, Sum.inr.injEq, reduceCtorEq, forall_eq', false_imp_iff, imp_self, true_and, and_true, implies_true, forall_const]
    · have e0 : Int32.ofInt (56 - 8 * (k : Int)) = Int32.ofNat (8 * (7 - k)) := by
        rw [show (56 - 8 * (k : Int)) = ((8 * (7 - k) : Nat) : Int) by omega]
        rfl
      have e1 : Int32.ofNat (8 * (7 - k)) + -8 = Int32.ofInt (56 - 8 * ((k + 1 : Nat) : Int)) := by
        rw [← e0, show ((-8 : Int32)) = Int32.ofInt (-8) from rfl, ← Int32.ofInt_add]
        congr 1
        omega
      have e2 : ¬ Int32.ofNat (8 * (7 - k)) < 0 := by grind
      have e3 : Int64.toInt32 (UInt64.toInt64 (Int64.toUInt64 l >>> (Int64.toUInt64 (Int32.toInt64 (Int32.ofNat (8 * (7 - k)))) &&& Int64.toUInt64 63))) &&& 255 = g k := hg k (by omega)
      rw [e0]
      unfold f11_feed_b9 f11_feed_j36 f11_feed_j56 f11_feed_j60 f11_feed_j61
      rw [if_neg e2]
      simp only [e3, e1, c11_isLetter, nB, aB]
      simp only [Ok_stp, Ok_bnd, Ok_bndX, Ok_some, Ok_none, Ok_ite, Ok_gd, inb_iff, isB_iff, lp_inl, lp_inr, Prod.mk.injEq, Sum.inl.injEq, Sum.inr.injEq, reduceCtorEq, forall_eq', false_imp_iff, imp_self, true_and, and_true, implies_true, forall_const]
      simp only [tz_0]
      clear e3 e0 e1 e2
      generalize g k = x at *
      generalize aB g k = y at *
      generalize nB g k = w at *
      have := i32n w
      cases y <;> cases isLt x <;> simp [tz] <;> grind
  · rintro r rfl
    rw [ite_tz]
    have h8 := nB_le (g := g) 8
    have e1 : fI σ 8 1 + Int32.ofNat (nB g 8) ≤ 200 ↔ m + nB g 8 ≤ 200 := by rw [hl]; grind
    simp only [e1]
    by_cases hA : aB g 8 = true
    · simp only [if_pos hA]
      by_cases hq : m + nB g 8 ≤ 200
      · simp only [if_pos hq]
        unfold f11_feed_j113
        simp only [Ok_stp, Ok_bnd, Ok_bndX, Ok_some, Ok_none, Ok_ite, Ok_gd, inb_iff, isB_iff, lp_inl, lp_inr, Prod.mk.injEq, Sum.inl.injEq, Sum.inr.injEq, reduceCtorEq, forall_eq', false_imp_iff, imp_self, true_and, and_true, implies_true, forall_const]
        refine Ok.imp (Q := fun r => r = uI (rA σ 9 (wB g m (aI σ 9) 8)) 8 1 (Int32.ofNat (m + nB g 8))) ?_ ?_
        · refine Ok_count 8 (fun k z => z = (uI (rA σ 9 (wB g m (aI σ 9) k)) 8 1 (Int32.ofNat (m + nB g k)), Int32.ofInt (56 - 8 * (k : Int)))) ?_ 0 ?_ (by omega) (by (show _ < FU; unfold FU; omega))
          · rintro k z hk rfl
            by_cases h9 : k = 8
            · subst h9
              unfold f11_feed_b113
              rw [if_pos (show (Int32.ofInt (56 - 8 * ((8 : Nat) : Int))) < 0 by decide)]
              simp only [Ok_stp, Ok_bnd, Ok_bndX, Ok_some, Ok_none, Ok_ite, Ok_gd, inb_iff, isB_iff, lp_inl, lp_inr, Prod.mk.injEq, Sum.inl.injEq, Sum.inr.injEq, reduceCtorEq, forall_eq', false_imp_iff, imp_self, true_and, and_true, implies_true, forall_const]
            · have e0 : Int32.ofInt (56 - 8 * (k : Int)) = Int32.ofNat (8 * (7 - k)) := by
                rw [show (56 - 8 * (k : Int)) = ((8 * (7 - k) : Nat) : Int) by omega]
                rfl
              have e1 : Int32.ofNat (8 * (7 - k)) + -8 = Int32.ofInt (56 - 8 * ((k + 1 : Nat) : Int)) := by
                rw [← e0, show ((-8 : Int32)) = Int32.ofInt (-8) from rfl, ← Int32.ofInt_add]
                congr 1
                omega
              have e2 : ¬ Int32.ofNat (8 * (7 - k)) < 0 := by grind
              have e3 : Int64.toInt32 (UInt64.toInt64 (Int64.toUInt64 l >>> (Int64.toUInt64 (Int32.toInt64 (Int32.ofNat (8 * (7 - k)))) &&& Int64.toUInt64 63))) &&& 255 = g k := hg k (by omega)
              have h1 := nB_mono (g := g) (show k + 1 ≤ 8 by omega)
              have h2 : nB g (k + 1) = nB g k + (if g k = 0 then 0 else 1) := rfl
              have h3 : g k ≠ 0 → isLt (g k) = true := aB_lt hA k (by omega)
              rw [e0]
              unfold f11_feed_b113 f11_feed_j144
              rw [if_neg e2]
              simp only [e3, e1]
              by_cases hb : g k = 0
              · simp only [stp, if_pos hb, nB, wB]
                simp only [Ok_stp, Ok_bnd, Ok_bndX, Ok_some, Ok_none, Ok_ite, Ok_gd, inb_iff, isB_iff, lp_inl, lp_inr, Prod.mk.injEq, Sum.inl.injEq, Sum.inr.injEq, reduceCtorEq, forall_eq', false_imp_iff, imp_self, true_and, and_true, implies_true, forall_const]
                exact ⟨by omega, by rw [Nat.add_zero]⟩
              · have h4 := isLt_in (h3 hb)
                rw [if_neg hb] at h2
                have hcl : f6_add (uI (rA σ 9 (wB g m (aI σ 9) k)) 8 1 (Int32.ofNat (m + nB g k))) 8 (g k) = _ := c6_add (m := m + nB g k) (cap := 200) rfl (by omega) rfl (by omega) ⟨by grind, by grind⟩
                rw [if_pos (by omega)] at hcl
                simp only [stp, if_neg hb, hcl, nB, wB, st_row]
                simp only [Ok_stp, Ok_bnd, Ok_bndX, Ok_some, Ok_none, Ok_ite, Ok_gd, inb_iff, isB_iff, lp_inl, lp_inr, Prod.mk.injEq, Sum.inl.injEq, Sum.inr.injEq, reduceCtorEq, forall_eq', false_imp_iff, imp_self, true_and, and_true, implies_true, forall_const]
                exact ⟨by omega, by rw [Nat.add_assoc]⟩
          · rw [Prod.mk.injEq]
            refine ⟨?_, rfl⟩
            show σ = uI (rA σ 9 (aI σ 9)) 8 1 (Int32.ofNat m)
            rw [← hl, st_row0]
        · rintro r rfl
          rfl
      · simp only [if_neg hq]
        simp only [Ok_stp, Ok_bnd, Ok_bndX, Ok_some, Ok_none, Ok_ite, Ok_gd, inb_iff, isB_iff, lp_inl, lp_inr, Prod.mk.injEq, Sum.inl.injEq, Sum.inr.injEq, reduceCtorEq, forall_eq', false_imp_iff, imp_self, true_and, and_true, implies_true, forall_const]
    · simp only [if_neg hA]
      simp only [Ok_stp, Ok_bnd, Ok_bndX, Ok_some, Ok_none, Ok_ite, Ok_gd, inb_iff, isB_iff, lp_inl, lp_inr, Prod.mk.injEq, Sum.inl.injEq, Sum.inr.injEq, reduceCtorEq, forall_eq', false_imp_iff, imp_self, true_and, and_true, implies_true, forall_const]
theorem c12_feedg {l : Int64} {g : Nat → Int32} (hg : ∀ k, k < 8 → lby l (7 - k) = g k) {m : Nat} (hl : fI μ 2017 11 = Int32.ofNat m) (hm : m ≤ 200) : f12_feed μ l = if aB (lby l) 8 = true then (if m + nB (lby l) 8 ≤ 200 then some (Int32.ofNat (m + nB g 8), uI (uI (rA μ 2023 (wB g m (aI μ 2023) 8)) 2017 11 (Int32.ofNat (m + nB g 8))) 2017 18 0) else some (0, uI μ 2017 18 2)) else some (0, uI μ 2017 18 1) := by
  have eN : nB (lby l) 8 = nB g 8 := by
    rw [← nB_rev]
    have : ∀ k, k ≤ 8 → nB (fun j => lby l (7 - j)) k = nB g k := by
      intro k
      induction k with
      | zero => intro _; rfl
      | succ k ih => intro hk; rw [nB, nB, ih (by omega), hg k (by omega)]
    exact this 8 (by omega)
  have eA : aB (lby l) 8 = aB g 8 := by
    rw [← aB_rev]
    have : ∀ k, k ≤ 8 → aB (fun j => lby l (7 - j)) k = aB g k := by
      intro k
      induction k with
      | zero => intro _; rfl
      | succ k ih => intro hk; rw [aB, aB, ih (by omega), hg k (by omega)]
    exact this 8 (by omega)
  apply Ok_eq2
  unfold f12_feed f12_feed_j8
  simp only [Ok_stp, Ok_bnd]
  refine Ok.imp (Q := fun r => r = (Int32.ofNat (nB (lby l) 8), tz (aB (lby l) 8))) ?_ ?_
  · refine Ok_count 8 (fun k z => z = (Int32.ofNat (nB (lby l) k), tz (aB (lby l) k), Int32.ofNat k)) ?_ 0 rfl (by omega) (by (show _ < FU; unfold FU; omega))
    rintro k z hk rfl
    have h1 := nB_le (g := lby l) k
    have e1 : Int32.ofNat k + 1 = Int32.ofNat (k + 1) := by grind
    have e2 : (8 : Int32) ≤ Int32.ofNat k ↔ k = 8 := by grind
    unfold f12_feed_b8 f12_feed_j40 f12_feed_j60 f12_feed_j64 f12_feed_j65
    by_cases h8 : k = 8
    · rw [if_pos (e2.mpr h8), h8]
      simp only [Ok_stp, Ok_bnd, Ok_bndX, Ok_some, Ok_none, Ok_ite, Ok_gd, inb_iff, isB_iff, lp_inl, lp_inr, Prod.mk.injEq, Sum.inl.injEq, Sum.inr.injEq, reduceCtorEq, forall_eq', false_imp_iff, imp_self, true_and, and_true, implies_true, forall_const]
    · rw [if_neg (fun z => h8 (e2.mp z))]
      simp only [lby_m rfl, c12_isLetter, nB, aB]
      simp only [Ok_stp, Ok_bnd, Ok_bndX, Ok_some, Ok_none, Ok_ite, Ok_gd, inb_iff, isB_iff, lp_inl, lp_inr, Prod.mk.injEq, Sum.inl.injEq, Sum.inr.injEq, reduceCtorEq, forall_eq', false_imp_iff, imp_self, true_and, and_true, implies_true, forall_const]
      simp only [tz_0]
      rw [e1]
      clear e1 e2
      generalize lby l k = x at *
      generalize aB (lby l) k = y at *
      generalize nB (lby l) k = w at *
      have := i32n w
      cases y <;> cases isLt x <;> simp [tz] <;> grind
  · rintro r rfl
    rw [ite_tz]
    have h8 := nB_le (g := g) 8
    have e1 : fI μ 2017 11 + Int32.ofNat (nB (lby l) 8) ≤ 200 ↔ m + nB (lby l) 8 ≤ 200 := by rw [hl, eN]; grind
    simp only [e1, c12_refuse, bnd_some]
    by_cases hA : aB (lby l) 8 = true
    · simp only [if_pos hA]
      by_cases hq : m + nB (lby l) 8 ≤ 200
      · simp only [if_pos hq]
        rw [eA] at hA
        rw [eN] at hq
        unfold f12_feed_j106
        simp only [c12_told]
        simp only [Ok_stp, Ok_bnd, Ok_bndX, Ok_some, Ok_none, Ok_ite, Ok_gd, inb_iff, isB_iff, lp_inl, lp_inr, Prod.mk.injEq, Sum.inl.injEq, Sum.inr.injEq, reduceCtorEq, forall_eq', false_imp_iff, imp_self, true_and, and_true, implies_true, forall_const]
        refine Ok.imp (Q := fun r => r = uI (rA μ 2023 (wB g m (aI μ 2023) 8)) 2017 11 (Int32.ofNat (m + nB g 8))) ?_ ?_
        · refine Ok_count 8 (fun k z => z = (uI (rA μ 2023 (wB g m (aI μ 2023) k)) 2017 11 (Int32.ofNat (m + nB g k)), Int32.ofInt (7 - (k : Int)))) ?_ 0 ?_ (by omega) (by (show _ < FU; unfold FU; omega))
          · rintro k z hk rfl
            by_cases h9 : k = 8
            · subst h9
              unfold f12_feed_b106
              rw [if_pos (show (Int32.ofInt (7 - ((8 : Nat) : Int))) < 0 by decide)]
              simp only [Ok_stp, Ok_bnd, Ok_bndX, Ok_some, Ok_none, Ok_ite, Ok_gd, inb_iff, isB_iff, lp_inl, lp_inr, Prod.mk.injEq, Sum.inl.injEq, Sum.inr.injEq, reduceCtorEq, forall_eq', false_imp_iff, imp_self, true_and, and_true, implies_true, forall_const]
            · have e0 : Int32.ofInt (7 - (k : Int)) = Int32.ofNat (7 - k) := by
                rw [show (7 - (k : Int)) = ((7 - k : Nat) : Int) by omega]
                rfl
              have e1 : Int32.ofNat (7 - k) + -1 = Int32.ofInt (7 - ((k + 1 : Nat) : Int)) := by
                rw [← e0, show ((-1 : Int32)) = Int32.ofInt (-1) from rfl, ← Int32.ofInt_add]
                congr 1
                omega
              have e2 : ¬ Int32.ofNat (7 - k) < 0 := by grind
              have h1 := nB_mono (g := g) (show k + 1 ≤ 8 by omega)
              have h2 : nB g (k + 1) = nB g k + (if g k = 0 then 0 else 1) := rfl
              rw [e0]
              unfold f12_feed_b106 f12_feed_j151
              rw [if_neg e2]
              simp only [lby_m rfl, e1, hg k (by omega)]
              by_cases hb : g k = 0
              · simp only [stp, if_pos hb, nB, wB]
                simp only [Ok_stp, Ok_bnd, Ok_bndX, Ok_some, Ok_none, Ok_ite, Ok_gd, inb_iff, isB_iff, lp_inl, lp_inr, Prod.mk.injEq, Sum.inl.injEq, Sum.inr.injEq, reduceCtorEq, forall_eq', false_imp_iff, imp_self, true_and, and_true, implies_true, forall_const]
                exact ⟨by omega, by rw [Nat.add_zero]⟩
              · rw [if_neg hb] at h2
                have e4 : fI (uI (rA μ 2023 (wB g m (aI μ 2023) k)) 2017 11 (Int32.ofNat (m + nB g k))) 2017 11 = Int32.ofNat (m + nB g k) := rfl
                have e5 : ∀ a v, fI (uA (uI (rA μ 2023 (wB g m (aI μ 2023) k)) 2017 11 (Int32.ofNat (m + nB g k))) 2023 a v) 2017 11 = Int32.ofNat (m + nB g k) := fun _ _ => rfl
                have e6 : Int32.ofNat (m + nB g k) + 1 = Int32.ofNat (m + (nB g k + 1)) := by grind
                have e7 : (Int32.ofNat (m + nB g k)).toNatClampNeg = m + nB g k := ofNat_clamp (by omega)
                have e8 : wB g m (aI μ 2023) (k + 1) = up1 (wB g m (aI μ 2023) k) (m + nB g k) (g k) := if_neg hb
                have e9 : inb (Int32.ofNat (m + nB g k)) 200 = true := inb_t (by grind)
                simp only [stp, if_neg hb, e4, e7, e5, e6, h2, e8, e9, st_row, gd_true]
                simp only [Ok_stp, Ok_bnd, Ok_bndX, Ok_some, Ok_none, Ok_ite, Ok_gd, inb_iff, isB_iff, lp_inl, lp_inr, Prod.mk.injEq, Sum.inl.injEq, Sum.inr.injEq, reduceCtorEq, forall_eq', false_imp_iff, imp_self, true_and, and_true, implies_true, forall_const]
                omega
          · rw [Prod.mk.injEq]
            refine ⟨?_, rfl⟩
            show μ = uI (rA μ 2023 (aI μ 2023)) 2017 11 (Int32.ofNat m)
            rw [← hl, st_row0]
        · rintro r rfl
          rfl
      · simp only [if_neg hq]
        simp only [Ok_stp, Ok_bnd, Ok_bndX, Ok_some, Ok_none, Ok_ite, Ok_gd, inb_iff, isB_iff, lp_inl, lp_inr, Prod.mk.injEq, Sum.inl.injEq, Sum.inr.injEq, reduceCtorEq, forall_eq', false_imp_iff, imp_self, true_and, and_true, implies_true, forall_const]
    · simp only [if_neg hA]
      simp only [Ok_stp, Ok_bnd, Ok_bndX, Ok_some, Ok_none, Ok_ite, Ok_gd, inb_iff, isB_iff, lp_inl, lp_inr, Prod.mk.injEq, Sum.inl.injEq, Sum.inr.injEq, reduceCtorEq, forall_eq', false_imp_iff, imp_self, true_and, and_true, implies_true, forall_const]
theorem op_feed (h : Rel σ μ) {l : Int64} : stH (f11_feed σ l) [(2, 1), (3, 2)] o (f12_feed μ l) RQ := by
  obtain ⟨D, L, B, H, T, h0⟩ := id h
  obtain ⟨g, s, m, w, ⟨tn, t1, q1, q2, q3⟩, t2, t3, t4, t5, t6, t7, t8⟩ := h0
  rw [c11_feedg (g := fun k => lby l (7 - k)) (fun _ _ => rfl) q1 t1, c12_feedg (g := fun k => lby l (7 - k)) (fun _ _ => rfl) q2 t1, nB_rev, aB_rev]
  by_cases hA : aB (lby l) 8 = true
  · simp only [if_pos hA]
    by_cases hq : tn + nB (lby l) 8 ≤ 200
    · simp only [if_pos hq]
      refine stH_ok rfl rfl ?_
      have hw := wB_at (g := fun k => lby l (7 - k)) q3 (aB_rev.trans hA) 8 (by omega)
      rw [nB_rev] at hw
      have hL : L ≠ 9 ∧ B ≠ 9 ∧ H ≠ 9 := by rcases w with w | w <;> omega
      exact ⟨D, L, B, H, T, g, s.congr rfl rfl (aI_rA' hL.1) (aI_rA' hL.2.1) (aI_rA' hL.2.2) rfl rfl rfl, m.congr rfl rfl rfl rfl rfl rfl rfl, w, ⟨tn + nB (lby l) 8, hq, rfl, rfl, hw⟩, t2, t3, t4, t5.congr (Sm.trans (Sm.rA (by omega)) (Sm.uI (by omega))) rfl rfl, t6.congr (Sm.trans (Sm.rA (by omega)) (Sm.uI (by omega))) rfl rfl (fun a a1 a2 => aI_rA' (σ := μ) (by omega)), t7, t8.congr (Sm.trans (Sm.rA (by omega)) (Sm.uI (by omega))) rfl rfl rfl rfl (fun a a1 a2 => aI_rA' (σ := μ) (by omega))⟩
    · simp only [if_neg hq]
      exact stH_er (c := 3) (t := 2) rfl (by decide) (by decide) rfl h
  · simp only [if_neg hA]
    exact stH_er (c := 2) (t := 1) rfl (by decide) (by decide) rfl h
end R
/-! copy and copyBlock -/
theorem rA_uA {σ : Sto} {a j : Nat} {r : Nat → Int32} {x : Int32} : uA (rA σ a r) a j x = rA σ a (up1 r j x) := by
  unfold uA rA up1
  simp only [Prod.mk.injEq, and_true, true_and]
  funext b i
  simp only [up2, upr]
  by_cases e : b = a
  · simp only [if_pos e]
  · simp only [if_neg e]
theorem rA_self {σ : Sto} {a : Nat} : rA σ a (aI σ a) = σ := by
  obtain ⟨A, B, C, D⟩ := σ
  unfold rA
  simp only [Prod.mk.injEq, and_true, true_and]
  funext b
  simp only [upr]
  grind
theorem uA_up1 {σ : Sto} {a j : Nat} {x : Int32} : uA σ a j x = rA σ a (up1 (aI σ a) j x) := by
  rw [← rA_uA, rA_self]
theorem rA_rA {σ : Sto} {a : Nat} {r r' : Nat → Int32} : rA (rA σ a r) a r' = rA σ a r' := by
  unfold rA
  simp only [Prod.mk.injEq, and_true, true_and]
  funext b
  simp only [upr]
  grind
theorem cpok_t {a b c : Nat} {n0 n1 : Nat} (ha : a < 2147483648) (hb : b < 2147483648) (hc : c < 2147483648) (h1 : a + c ≤ n0) (h2 : b + c ≤ n1) : cpok (Int32.ofNat a) (Int32.ofNat b) (Int32.ofNat c) n0 n1 = true := by
  unfold cpok
  simp only [Int32.toInt_ofNat_of_lt ha, Int32.toInt_ofNat_of_lt hb, Int32.toInt_ofNat_of_lt hc, Bool.and_eq_true, decide_eq_true_eq]
  omega
theorem fitB_t {f : Nat → Int32} {s m : Nat} (h : ∀ i, i < m → 0 ≤ f (s + i) ∧ f (s + i) ≤ 127) : fitB f s m = true := by
  unfold fitB
  exact decide_eq_true (fun i hi => (nar_B (h i hi)).2.2)
theorem fitZ_t {f : Nat → Int32} {s m : Nat} (h : ∀ i, i < m → f (s + i) = 0 ∨ f (s + i) = 1) : fitZ f s m = true := decide_eq_true h
theorem c6_become {σ : Sto} {a0 a1 s m : Nat} {x y : Int32} (hx : x = Int32.ofNat s) (hy : y = Int32.ofNat m) (hs : s < 2147483648) (hm : m < 2147483648) (h1 : s + m ≤ ln a1) (h2 : m ≤ ln (a0 + 1)) (hl : ∀ i, i < m → 0 ≤ aI σ a1 (s + i) ∧ aI σ a1 (s + i) ≤ 127) : f6_become σ a0 a1 x y = some (uI (rA σ (a0 + 1) (va_cpy (aI σ a1) (aI σ (a0 + 1)) s 0 m)) a0 1 (Int32.ofNat m)) := by
  subst hx hy
  unfold f6_become
  have e0 : (0 : Int32) = Int32.ofNat 0 := rfl
  rw [e0, cpok_t hs (by omega) hm h1 (by omega), ofNat_clamp hs, ofNat_clamp hm, ofNat_clamp (by omega), fitB_t hl]
  rfl
theorem cpy_at {f g : Nat → Int32} {s m i : Nat} (h : i < m) : va_cpy f g s 0 m i = f (s + i) := by
  unfold va_cpy
  rw [if_pos (by omega), Nat.sub_zero]
section R
variable {σ μ : Sto} {o : Int64} {L B : Nat} {f : Nat → Int32} {n : Nat}
theorem c11_requirePart (h : CT σ 1 L B f n) {x y : Int32} : f11_requirePart σ x y = if (0 ≤ x ∧ x ≤ Int32.ofNat n) ∧ (0 ≤ y ∧ y ≤ Int32.ofNat n) then (if x ≤ y then some (.inl σ) else some (.inr (2, σ))) else some (.inr (1, σ)) := by
  unfold f11_requirePart
  rw [c11_requirePlace h]
  by_cases hx : 0 ≤ x ∧ x ≤ Int32.ofNat n
  · simp only [if_pos hx, bndX_inl, c11_requirePlace h]
    by_cases hy : 0 ≤ y ∧ y ≤ Int32.ofNat n
    · simp only [if_pos hy, bndX_inl, if_pos (And.intro hx hy)]
    · simp only [if_neg hy, bndX_inr, if_neg (fun z : (0 ≤ x ∧ x ≤ Int32.ofNat n) ∧ (0 ≤ y ∧ y ≤ Int32.ofNat n) => hy z.2)]
  · simp only [if_neg hx, bndX_inr, if_neg (fun z : (0 ≤ x ∧ x ≤ Int32.ofNat n) ∧ (0 ≤ y ∧ y ≤ Int32.ofNat n) => hx z.1)]
theorem c12_clips (h : MT μ f n) {a b : Nat} {x y : Int32} (hx : x = Int32.ofNat a) (hy : y = Int32.ofNat b) (hab : a ≤ b) (hb : b ≤ n) : ∃ r, f12_clips μ x y = some (rA (uI (uI μ 2017 13 0) 2017 12 (Int32.ofNat (b - a))) 2024 r) ∧ ∀ i, i < b - a → r i = f (a + i) := by
  subst hx hy
  have hn := h.1
  have e1 : Int32.ofNat b - Int32.ofNat a = Int32.ofNat (b - a) := by grind
  unfold f12_clips f12_clips_j14
  simp only [stp, e1]
  have hM : ∀ k, k < n → aI (uI (uI μ 2017 13 0) 2017 12 (Int32.ofNat (b - a))) 2018 k = f k := h.2.2
  generalize uI (uI μ 2017 13 0) 2017 12 (Int32.ofNat (b - a)) = M at hM ⊢
  have key : Ok (bnd (loopF (fun s_14 => f12_clips_b14 (Int32.ofNat a) (Int32.ofNat b) s_14.1 s_14.2) FU (M, Int32.ofNat a)) fun r_14 => some r_14) (fun s => ∃ r, s = rA M 2024 r ∧ ∀ i, i < b - a → r i = f (a + i)) := by
    simp only [Ok_stp, Ok_bnd, Ok_bndX, Ok_some, Ok_none, Ok_ite, Ok_gd, inb_iff, isB_iff, lp_inl, lp_inr, Prod.mk.injEq, Sum.inl.injEq, Sum.inr.injEq, reduceCtorEq, forall_eq', false_imp_iff, imp_self, true_and, and_true, implies_true, forall_const]
    refine Ok_count (b - a) (fun k z => ∃ r, z = (rA M 2024 r, Int32.ofNat (a + k)) ∧ ∀ i, i < k → r i = f (a + i)) ?_ 0 ⟨aI M 2024, by rw [rA_self]; rfl, fun i hi => by omega⟩ (by omega) (by (show _ < FU; unfold FU; omega))
    rintro k z hk ⟨r, rfl, hr⟩
    have e2 : Int32.ofNat (a + k) - Int32.ofNat a = Int32.ofNat k := by grind
    have e3 : Int32.ofNat b ≤ Int32.ofNat (a + k) ↔ k = b - a := by grind
    have e4 : Int32.ofNat (a + k) + 1 = Int32.ofNat (a + (k + 1)) := by grind
    have e5 : ∀ r, aI (rA M 2024 r) 2018 = aI M 2018 := fun r => rfl
    unfold f12_clips_b14
    simp (disch := omega) only [e2, e3, e4, ofNat_clamp, rA_uA, stp, e5]
    by_cases hq : k = b - a
    · simp only [if_pos hq]
      simp only [Ok_stp, Ok_bnd, Ok_bndX, Ok_some, Ok_none, Ok_ite, Ok_gd, inb_iff, isB_iff, lp_inl, lp_inr, Prod.mk.injEq, Sum.inl.injEq, Sum.inr.injEq, reduceCtorEq, forall_eq', false_imp_iff, imp_self, true_and, and_true, implies_true, forall_const]
      exact ⟨r, rfl, fun i hi => hr i (by omega)⟩
    · simp only [if_neg hq]
      simp only [Ok_stp, Ok_bnd, Ok_bndX, Ok_some, Ok_none, Ok_ite, Ok_gd, inb_iff, isB_iff, lp_inl, lp_inr, Prod.mk.injEq, Sum.inl.injEq, Sum.inr.injEq, reduceCtorEq, forall_eq', false_imp_iff, imp_self, true_and, and_true, implies_true, forall_const]
      refine ⟨by grind, by grind, by omega, up1 r k (aI M 2018 (a + k)), rfl, fun i hi => ?_⟩
      unfold up1
      by_cases e : i = k
      · rw [if_pos e, e, hM _ (by omega)]
      · rw [if_neg e]
        exact hr i (by omega)
  obtain ⟨s, h1, r, rfl, h2⟩ := key
  exact ⟨r, h1, h2⟩
theorem op_copy (h : Rel σ μ) {x y : Int32} : stH (f11_copy σ x y) [(1, 1), (2, 2)] o (f12_copy μ x y) RQ := by
  obtain ⟨⟨f, n, hd, c, cu, ma, lf, ml⟩, L, B, H, T, h0⟩ := id h
  have hC : CT σ 1 L B f n := h0.2.1.1
  have hM : MT μ f n := h0.2.2.1.1
  have hlt : ∀ k, k < n → isLt (f k) = true := h0.1.2.2.1
  unfold f11_copy f12_copy f12_copy_j16
  rw [c11_requirePart hC, c12_isPlace hM, c12_isPlace hM, bnd_some, bnd_some]
  simp only [ite_tz, decide_eq_true_eq, c12_refuse, c12_told, bnd_some]
  by_cases hx : 0 ≤ x ∧ x ≤ Int32.ofNat n
  · by_cases hy : 0 ≤ y ∧ y ≤ Int32.ofNat n
    · simp only [if_pos hx, if_pos hy, if_pos (And.intro hx hy)]
      by_cases hxy : x ≤ y
      · simp only [if_pos hxy, bndX_inl]
        have hn := hC.1
        obtain ⟨a, ha, rfl⟩ := of_range hx (by omega)
        obtain ⟨b, hb, rfl⟩ := of_range hy (by omega)
        have hab : a ≤ b := by grind
        have e1 : Int32.ofNat b - Int32.ofNat a = Int32.ofNat (b - a) := by grind
        obtain ⟨r, r1, r2⟩ := c12_clips hM rfl rfl hab hb
        obtain ⟨c1, c2, c3⟩ := hC.2.2.2.2.1
        have hLl : ∀ k, k < n → aI σ L k = f k := hC.2.2.2.2.2.2.1
        have hbc : f6_become σ 11 L (Int32.ofNat a) (Int32.ofNat (b - a)) = _ := c6_become (s := a) (m := b - a) rfl rfl (by omega) (by omega) (by omega) (by show b - a ≤ 12000; omega) (fun i hi => by
          rw [hLl _ (by omega)]
          have := isLt_in (hlt (a + i) (by omega))
          grind)
        unfold f2_takeLetters
        simp only [c1, okr_s.mpr c2, gd_true, Nat.add_sub_cancel, e1, hbc, bnd_some, stp, r1]
        refine stH_ok rfl rfl ?_
        obtain ⟨g, s, m, w, t1, t2, t3, t4, t5, t6, t7, t8⟩ := h0
        have hL : L ≠ 12 ∧ B ≠ 12 ∧ H ≠ 12 := by rcases w with w | w <;> omega
        refine ⟨_, L, B, H, T, g, s.congr rfl rfl (aI_rA' hL.1) (aI_rA' hL.2.1) (aI_rA' hL.2.2) rfl rfl rfl, m.congr rfl rfl rfl rfl rfl rfl rfl, w, t1, ⟨b - a, by omega, rfl, rfl, fun k hk => ?_, Or.inl ⟨rfl, rfl, by omega⟩⟩, t3, t4, t5.congr (Sm.trans (Sm.rA (by omega)) (Sm.trans (Sm.uI (by omega)) (Sm.uI (by omega)))) rfl rfl, t6.congr (Sm.trans (Sm.rA (by omega)) (Sm.trans (Sm.uI (by omega)) (Sm.uI (by omega)))) rfl rfl (fun a a1 a2 => aI_rA' (by omega)), t7, t8.congr (Sm.trans (Sm.rA (by omega)) (Sm.trans (Sm.uI (by omega)) (Sm.uI (by omega)))) rfl rfl rfl rfl (fun a a1 a2 => aI_rA' (by omega))⟩
        show va_cpy (aI σ L) (aI σ 12) a 0 (b - a) k = r k ∧ isLt (r k) = true
        rw [cpy_at hk, hLl _ (by omega), r2 k hk]
        exact ⟨rfl, hlt _ (by omega)⟩
      · simp only [if_neg hxy]
        exact stH_er (c := 2) (t := 2) rfl (by decide) (by decide) rfl h
    · simp only [if_pos hx, if_neg hy, if_neg (fun z : (0 ≤ x ∧ x ≤ Int32.ofNat n) ∧ (0 ≤ y ∧ y ≤ Int32.ofNat n) => hy z.2)]
      exact stH_er (c := 1) (t := 1) rfl (by decide) (by decide) rfl h
  · simp only [if_neg hx, if_neg (fun z : (0 ≤ x ∧ x ≤ Int32.ofNat n) ∧ (0 ≤ y ∧ y ≤ Int32.ofNat n) => hx z.1)]
    exact stH_er (c := 1) (t := 1) rfl (by decide) (by decide) rfl h
theorem lines_fn (f : Nat → Int32) (n : Nat) : ∃ B E : Nat → Nat, ∀ j, j ≤ ends f n → isBg f j (B j) ∧ isEn f n j (E j) ∧ B j ≤ E j ∧ B j ≤ n := by
  have h : ∀ j : Nat, ∃ p : Nat × Nat, j ≤ ends f n → isBg f j p.1 ∧ isEn f n j p.2 ∧ p.1 ≤ p.2 ∧ p.1 ≤ n := by
    intro j
    by_cases hj : j ≤ ends f n
    · obtain ⟨b, hb1, hb⟩ := isBg.ex hj
      obtain ⟨e, he1, he⟩ := isEn.ex hb1 hb.1
      exact ⟨(b, e), fun _ => ⟨hb, he, he1, hb1⟩⟩
    · exact ⟨(0, 0), fun z => absurd z hj⟩
  exact ⟨fun j => (Classical.choose (h j)).1, fun j => (Classical.choose (h j)).2, fun j hj => Classical.choose_spec (h j) hj⟩
/-- a block's letters one behind the other, and which of them the text had -/
def bkR (B E : Nat → Nat) (line first w i : Nat) : Bool := decide (B (line + i / w) + first + i % w < E (line + i / w))
def bkL (f : Nat → Int32) (B E : Nat → Nat) (line first w i : Nat) : Int32 := if bkR B E line first w i = true then f (B (line + i / w) + first + i % w) else 32
def bkN (B E : Nat → Nat) (line first w : Nat) : Nat → Nat
  | 0 => 0
  | i + 1 => bkN B E line first w i + (if bkR B E line first w i = true then 1 else 0)
theorem bkN_le {B E : Nat → Nat} {line first w : Nat} : ∀ i, bkN B E line first w i ≤ i := by
  intro i
  induction i with
  | zero => exact Nat.le_refl _
  | succ i ih => rw [bkN]; split <;> omega
theorem dm_at {w r k : Nat} (hk : k < w) : (w * r + k) / w = r ∧ (w * r + k) % w = k := by
  refine ⟨?_, ?_⟩
  · rw [Nat.mul_add_div (by omega), Nat.div_eq_of_lt hk, Nat.add_zero]
  · rw [Nat.mul_add_mod, Nat.mod_eq_of_lt hk]
set_option maxHeartbeats 1000000 in
theorem c2_takeBlock (h : CT σ 1 L B f n) (hlt : ∀ k, k < n → isLt (f k) = true) (hL : L ≠ 12 ∧ B ≠ 12) {bf ef : Nat → Nat} (hbe : ∀ j, j ≤ ends f n → isBg f j (bf j) ∧ isEn f n j (ef j) ∧ bf j ≤ ef j ∧ bf j ≤ n) {a m fi w : Nat} {x y z v : Int32} (hx : x = Int32.ofNat a) (hy : y = Int32.ofNat m) (hz : z = Int32.ofNat fi) (hv : v = Int32.ofNat w) (hm : a + m ≤ ends f n + 1) (hfi : fi ≤ 200) (hw : 1 ≤ w) (hw2 : w ≤ 40) : ∃ r, f2_takeBlock σ 1 x y z v = some (Int32.ofNat (bkN bf ef a fi w (w * m)), uI (uI (uI (uI (rA σ 12 r) 11 1 (Int32.ofNat (w * m))) 10 1 1) 10 2 y) 10 3 v) ∧ ∀ i, i < w * m → r i = bkL f bf ef a fi w i := by
  subst hx hy hz hv
  have hn := h.1
  have hE := h.2.1
  have key : Ok (loopF (fun s_14 => f2_takeBlock_b14 1 (Int32.ofNat a) (Int32.ofNat m) (Int32.ofNat fi) (Int32.ofNat w) s_14.1 s_14.2.1 s_14.2.2) FU (uI σ 11 1 0, 0, Int32.ofNat a)) (fun s => ∃ r, s = (uI (rA σ 12 r) 11 1 (Int32.ofNat (w * m)), Int32.ofNat (bkN bf ef a fi w (w * m))) ∧ ∀ i, i < w * m → r i = bkL f bf ef a fi w i) := by
    refine Ok_count m (fun q s => ∃ r, s = (uI (rA σ 12 r) 11 1 (Int32.ofNat (w * q)), Int32.ofNat (bkN bf ef a fi w (w * q)), Int32.ofNat (a + q)) ∧ ∀ i, i < w * q → r i = bkL f bf ef a fi w i) ?_ 0 ⟨aI σ 12, ?_, fun i hi => by simp at hi⟩ (by omega) (by (show _ < FU; unfold FU; omega))
    · rintro q s hq ⟨r, rfl, hr⟩
      have hwq : w * q ≤ 12000 := by
        have := Nat.mul_le_mul hw2 (show q ≤ 300 by omega)
        omega
      have e1 : Int32.ofNat a + Int32.ofNat m ≤ Int32.ofNat (a + q) ↔ q = m := by grind
      unfold f2_takeBlock_b14
      simp only [e1]
      by_cases hqm : q = m
      · simp only [if_pos hqm]
        simp only [Ok_stp, Ok_bnd, Ok_bndX, Ok_some, Ok_none, Ok_ite, Ok_gd, inb_iff, isB_iff, lp_inl, lp_inr, Prod.mk.injEq, Sum.inl.injEq, Sum.inr.injEq, reduceCtorEq, forall_eq', false_imp_iff, imp_self, true_and, and_true, implies_true, forall_const]
        subst hqm
        exact ⟨r, ⟨rfl, rfl⟩, hr⟩
      · simp only [if_neg hqm]
        have hC1 : CT (uI (rA σ 12 r) 11 1 (Int32.ofNat (w * q))) 1 L B f n := h.congr rfl rfl (aI_rA' hL.1) (aI_rA' hL.2)
        obtain ⟨hb, he, hle, hbn⟩ := hbe (a + q) (by omega)
        have hbg := hC1.bg (j := a + q) (by omega) hb
        rw [c8_endOf hC1 rfl he, bnd_some]
        obtain ⟨i1, i2, i3⟩ := hC1.2.2.2.2.2.1
        have hen := he.1
        have e2 : (Int32.ofNat (a + q)).toNatClampNeg = a + q := ofNat_clamp (by omega)
        have e3 : inb (Int32.ofNat (a + q)) 300 = true := inb_t (by grind)
        have e4 : Int32.ofNat (bf (a + q)) + Int32.ofNat fi = Int32.ofNat (bf (a + q) + fi) := by grind
        simp only [i1, okr_s.mpr i2, i3, Nat.add_sub_cancel, gd_true, stp, e2, e3, hbg.1, e4]
        unfold f2_takeBlock_j46
        simp only [Ok_bnd]
        refine Ok.imp (Q := fun s => ∃ r, s = (uI (rA σ 12 r) 11 1 (Int32.ofNat (w * q + w)), Int32.ofNat (bkN bf ef a fi w (w * q + w))) ∧ ∀ i, i < w * q + w → r i = bkL f bf ef a fi w i) ?_ ?_
        · refine Ok_count w (fun k s => ∃ r, s = (uI (rA σ 12 r) 11 1 (Int32.ofNat (w * q + k)), Int32.ofNat (bkN bf ef a fi w (w * q + k)), Int32.ofNat (bf (a + q) + fi + k)) ∧ ∀ i, i < w * q + k → r i = bkL f bf ef a fi w i) ?_ 0 ⟨r, rfl, hr⟩ (by omega) (by (show _ < FU; unfold FU; omega))
          rintro k s hk ⟨r, rfl, hr⟩
          have e5 : Int32.ofNat (bf (a + q) + fi) + Int32.ofNat w ≤ Int32.ofNat (bf (a + q) + fi + k) ↔ k = w := by grind
          unfold f2_takeBlock_b46
          simp only [e5]
          by_cases hkw : k = w
          · simp only [if_pos hkw]
            simp only [Ok_stp, Ok_bnd, Ok_bndX, Ok_some, Ok_none, Ok_ite, Ok_gd, inb_iff, isB_iff, lp_inl, lp_inr, Prod.mk.injEq, Sum.inl.injEq, Sum.inr.injEq, reduceCtorEq, forall_eq', false_imp_iff, imp_self, true_and, and_true, implies_true, forall_const]
            subst hkw
            exact ⟨r, ⟨rfl, rfl⟩, hr⟩
          · simp only [if_neg hkw]
            have hkw : k < w := by omega
            have hd := dm_at (r := q) hkw
            have hR : bkR bf ef a fi w (w * q + k) = decide (bf (a + q) + fi + k < ef (a + q)) := by unfold bkR; rw [hd.1, hd.2]
            have hLt : bkL f bf ef a fi w (w * q + k) = if bf (a + q) + fi + k < ef (a + q) then f (bf (a + q) + fi + k) else 32 := by unfold bkL; rw [hR, hd.1, hd.2]; simp only [decide_eq_true_eq]
            have hcap : w * q + k < 12000 := by
              have := Nat.mul_le_mul hw2 (show q + 1 ≤ 300 by omega)
              rw [Nat.mul_add, Nat.mul_one] at this
              omega
            have hNN := bkN_le (B := bf) (E := ef) (line := a) (first := fi) (w := w) (w * q + k)
            have hNs : bkN bf ef a fi w (w * q + (k + 1)) = bkN bf ef a fi w (w * q + k) + (if bf (a + q) + fi + k < ef (a + q) then 1 else 0) := by
              show bkN bf ef a fi w (w * q + k) + (if bkR bf ef a fi w (w * q + k) = true then 1 else 0) = _
              rw [hR]
              simp only [decide_eq_true_eq]
            have e6 : Int32.ofNat (ef (a + q)) ≤ Int32.ofNat (bf (a + q) + fi + k) ↔ ¬ bf (a + q) + fi + k < ef (a + q) := by grind
            have e7 : Int32.ofNat (bf (a + q) + fi + k) + 1 = Int32.ofNat (bf (a + q) + fi + (k + 1)) := by grind
            have e8 : bf (a + q) + fi + k < ef (a + q) → inb (Int32.ofNat (bf (a + q) + fi + k)) 3000 = true := fun _ => inb_t (by grind)
            obtain ⟨j1, j2, j3⟩ := h.2.2.2.2.1
            have j4 : fR (uI (rA σ 12 r) 11 1 (Int32.ofNat (w * q + k))) 1 0 = L + 1 := j1
            have j5 : bf (a + q) + fi + k < ef (a + q) → aI (uI (rA σ 12 r) 11 1 (Int32.ofNat (w * q + k))) L (bf (a + q) + fi + k) = f (bf (a + q) + fi + k) := fun z => by
              show aI (rA σ 12 r) L _ = _
              rw [aI_rA' hL.1]
              exact h.2.2.2.2.2.2.1 _ (by omega)
            have j6 : (Int32.ofNat (bf (a + q) + fi + k)).toNatClampNeg = bf (a + q) + fi + k := ofNat_clamp (by omega)
            have add : ∀ c, 0 ≤ c ∧ c ≤ 127 → f6_add (uI (rA σ 12 r) 11 1 (Int32.ofNat (w * q + k))) 11 c = some (1, uI (rA σ 12 (up1 r (w * q + k) c)) 11 1 (Int32.ofNat (w * q + (k + 1)))) := by
              intro c hc
              have := c6_add (σ := uI (rA σ 12 r) 11 1 (Int32.ofNat (w * q + k))) (a0 := 11) (m := w * q + k) (cap := 12000) (x := c) rfl (by omega) rfl (by omega) hc
              rw [if_pos hcap, st_row] at this
              exact this
            have nx : ∀ c, c = bkL f bf ef a fi w (w * q + k) → ∀ i, i < w * q + (k + 1) → up1 r (w * q + k) c i = bkL f bf ef a fi w i := by
              intro c hc i hi
              unfold up1
              by_cases e : i = w * q + k
              · rw [if_pos e, hc, e]
              · rw [if_neg e]
                exact hr i (by omega)
            unfold f2_takeBlock_j79 f2_takeBlock_j97
            simp only [e6, j4, okr_s.mpr j2, j3, Nat.add_sub_cancel, gd_true, j6, stp, e7]
            by_cases hin : bf (a + q) + fi + k < ef (a + q)
            · rw [if_pos hin] at hLt hNs
              simp only [hin, not_true, if_false, e8 hin, gd_true, j5 hin]
              have := isLt_in (hlt (bf (a + q) + fi + k) (by omega))
              rw [add _ ⟨by grind, by grind⟩, bnd_some]
              simp only [Ok_stp, Ok_bnd, Ok_bndX, Ok_some, Ok_none, Ok_ite, Ok_gd, inb_iff, isB_iff, lp_inl, lp_inr, Prod.mk.injEq, Sum.inl.injEq, Sum.inr.injEq, reduceCtorEq, forall_eq', false_imp_iff, imp_self, true_and, and_true, implies_true, forall_const]
              refine ⟨by omega, _, ⟨rfl, ?_⟩, nx _ hLt.symm⟩
              rw [hNs]
              grind
            · rw [if_neg hin] at hLt hNs
              simp only [hin, not_false_eq_true, if_true]
              rw [add _ (by decide), bnd_some]
              simp only [Ok_stp, Ok_bnd, Ok_bndX, Ok_some, Ok_none, Ok_ite, Ok_gd, inb_iff, isB_iff, lp_inl, lp_inr, Prod.mk.injEq, Sum.inl.injEq, Sum.inr.injEq, reduceCtorEq, forall_eq', false_imp_iff, imp_self, true_and, and_true, implies_true, forall_const]
              refine ⟨by omega, _, ⟨rfl, ?_⟩, nx _ hLt.symm⟩
              rw [hNs]
              grind
        · rintro s ⟨r, rfl, hr⟩
          simp only [Ok_stp, Ok_bnd, Ok_bndX, Ok_some, Ok_none, Ok_ite, Ok_gd, inb_iff, isB_iff, lp_inl, lp_inr, Prod.mk.injEq, Sum.inl.injEq, Sum.inr.injEq, reduceCtorEq, forall_eq', false_imp_iff, imp_self, true_and, and_true, implies_true, forall_const]
          have e9 : w * (q + 1) = w * q + w := by rw [Nat.mul_add, Nat.mul_one]
          refine ⟨by omega, r, ?_, by rw [e9]; exact hr⟩
          rw [e9]
          refine ⟨rfl, rfl, ?_⟩
          grind
    · rw [Nat.mul_zero, rA_self]
      rfl
  unfold f2_takeBlock f2_takeBlock_j14
  obtain ⟨s, h1, r, rfl, hr⟩ := key
  refine ⟨r, ?_, hr⟩
  simp only [stp]
  have h1' : loopF (fun s_14 => f2_takeBlock_b14 1 (Int32.ofNat a) (Int32.ofNat m) (Int32.ofNat fi) (Int32.ofNat w) s_14.1 s_14.2.1 s_14.2.2) FU (uI σ 11 1 0, 0, Int32.ofNat a) = _ := h1
  rw [h1', bnd_some]
set_option maxHeartbeats 1000000 in
theorem c12_copyBlock (h : MT μ f n) (hE : ends f n < 300) {bf ef : Nat → Nat} (hbe : ∀ j, j ≤ ends f n → isBg f j (bf j) ∧ isEn f n j (ef j) ∧ bf j ≤ ef j ∧ bf j ≤ n) {a m fi w : Nat} {x y z v : Int32} (hx : x = Int32.ofNat a) (hy : y = Int32.ofNat m) (hz : z = Int32.ofNat fi) (hv : v = Int32.ofNat w) (hm : a + m ≤ ends f n + 1) (hfi : fi ≤ 200) (hw : 1 ≤ w) (hw2 : w ≤ 40) : ∃ r, f12_copyBlock_j63 x y z v μ 0 0 = some (Int32.ofNat (bkN bf ef a fi w (w * m)), uI (uI (uI (uI (rA μ 2024 r) 2017 13 y) 2017 14 v) 2017 12 (y * v)) 2017 18 0) ∧ ∀ i, i < w * m → r i = bkL f bf ef a fi w i := by
  subst hx hy hz hv
  have hn := h.1
  have key : Ok (loopF (fun s_63 => f12_copyBlock_b63 (Int32.ofNat a) (Int32.ofNat m) (Int32.ofNat fi) (Int32.ofNat w) s_63.1 s_63.2.1 s_63.2.2) FU (μ, 0, 0)) (fun s => ∃ r, s = (rA μ 2024 r, Int32.ofNat (bkN bf ef a fi w (w * m))) ∧ ∀ i, i < w * m → r i = bkL f bf ef a fi w i) := by
    refine Ok_count m (fun q s => ∃ r, s = (rA μ 2024 r, Int32.ofNat (bkN bf ef a fi w (w * q)), Int32.ofNat q) ∧ ∀ i, i < w * q → r i = bkL f bf ef a fi w i) ?_ 0 ⟨aI μ 2024, ?_, fun i hi => by simp at hi⟩ (by omega) (by (show _ < FU; unfold FU; omega))
    · rintro q s hq ⟨r, rfl, hr⟩
      have hwq : w * q ≤ 12000 := by
        have := Nat.mul_le_mul hw2 (show q ≤ 300 by omega)
        omega
      have e1 : Int32.ofNat m ≤ Int32.ofNat q ↔ q = m := by grind
      unfold f12_copyBlock_b63
      simp only [e1]
      by_cases hqm : q = m
      · simp only [if_pos hqm]
        simp only [Ok_stp, Ok_bnd, Ok_bndX, Ok_some, Ok_none, Ok_ite, Ok_gd, inb_iff, isB_iff, lp_inl, lp_inr, Prod.mk.injEq, Sum.inl.injEq, Sum.inr.injEq, reduceCtorEq, forall_eq', false_imp_iff, imp_self, true_and, and_true, implies_true, forall_const]
        subst hqm
        exact ⟨r, ⟨rfl, rfl⟩, hr⟩
      · simp only [if_neg hqm]
        have hM1 : MT (rA μ 2024 r) f n := h
        obtain ⟨hb, he, hle, hbn⟩ := hbe (a + q) (by omega)
        obtain ⟨b', b1, b2, b3⟩ := c12_beginOf hM1 (j := a + q) (x := Int32.ofNat a + Int32.ofNat q) (by grind) (by omega)
        cases b2.uniq hb
        obtain ⟨e', c1, c2⟩ := c12_endOf hM1 (j := a + q) (x := Int32.ofNat a + Int32.ofNat q) (by grind) (by omega)
        cases c1.uniq he
        rw [b3, c2]
        have hen := he.1
        simp only [stp, bnd_some]
        unfold f12_copyBlock_j92
        simp only [Ok_bnd]
        refine Ok.imp (Q := fun s => ∃ r, s = (rA μ 2024 r, Int32.ofNat (bkN bf ef a fi w (w * q + w))) ∧ ∀ i, i < w * q + w → r i = bkL f bf ef a fi w i) ?_ ?_
        · refine Ok_count w (fun k s => ∃ r, s = (rA μ 2024 r, Int32.ofNat (bkN bf ef a fi w (w * q + k)), Int32.ofNat k) ∧ ∀ i, i < w * q + k → r i = bkL f bf ef a fi w i) ?_ 0 ⟨r, rfl, hr⟩ (by omega) (by (show _ < FU; unfold FU; omega))
          rintro k s hk ⟨r, rfl, hr⟩
          have e5 : Int32.ofNat w ≤ Int32.ofNat k ↔ k = w := by grind
          unfold f12_copyBlock_b92
          simp only [e5]
          by_cases hkw : k = w
          · simp only [if_pos hkw]
            simp only [Ok_stp, Ok_bnd, Ok_bndX, Ok_some, Ok_none, Ok_ite, Ok_gd, inb_iff, isB_iff, lp_inl, lp_inr, Prod.mk.injEq, Sum.inl.injEq, Sum.inr.injEq, reduceCtorEq, forall_eq', false_imp_iff, imp_self, true_and, and_true, implies_true, forall_const]
            subst hkw
            exact ⟨r, ⟨rfl, rfl⟩, hr⟩
          · simp only [if_neg hkw]
            have hkw : k < w := by omega
            have hd := dm_at (r := q) hkw
            have hR : bkR bf ef a fi w (w * q + k) = decide (bf (a + q) + fi + k < ef (a + q)) := by unfold bkR; rw [hd.1, hd.2]
            have hLt : bkL f bf ef a fi w (w * q + k) = if bf (a + q) + fi + k < ef (a + q) then f (bf (a + q) + fi + k) else 32 := by unfold bkL; rw [hR, hd.1, hd.2]; simp only [decide_eq_true_eq]
            have hcap : w * q + k < 12000 := by
              have := Nat.mul_le_mul hw2 (show q + 1 ≤ 300 by omega)
              rw [Nat.mul_add, Nat.mul_one] at this
              omega
            have hNN := bkN_le (B := bf) (E := ef) (line := a) (first := fi) (w := w) (w * q + k)
            have hNs : bkN bf ef a fi w (w * q + (k + 1)) = bkN bf ef a fi w (w * q + k) + (if bf (a + q) + fi + k < ef (a + q) then 1 else 0) := by
              show bkN bf ef a fi w (w * q + k) + (if bkR bf ef a fi w (w * q + k) = true then 1 else 0) = _
              rw [hR]
              simp only [decide_eq_true_eq]
            have e6 : Int32.ofNat (bf (a + q)) + Int32.ofNat fi + Int32.ofNat k = Int32.ofNat (bf (a + q) + fi + k) := by grind
            have e7 : Int32.ofNat (ef (a + q)) ≤ Int32.ofNat (bf (a + q) + fi + k) ↔ ¬ bf (a + q) + fi + k < ef (a + q) := by grind
            have e8 : bf (a + q) + fi + k < ef (a + q) → inb (Int32.ofNat (bf (a + q) + fi + k)) 3000 = true := fun _ => inb_t (by grind)
            have e9 : Int32.ofNat w * Int32.ofNat q + Int32.ofNat k = Int32.ofNat (w * q + k) := by rw [← Int32.ofNat_mul, ← Int32.ofNat_add]
            have e10 : inb (Int32.ofNat (w * q + k)) 12000 = true := inb_t (by grind)
            have e11 : (Int32.ofNat (w * q + k)).toNatClampNeg = w * q + k := ofNat_clamp (by omega)
            have j5 : bf (a + q) + fi + k < ef (a + q) → aI (rA μ 2024 r) 2018 (bf (a + q) + fi + k) = f (bf (a + q) + fi + k) := fun z => h.2.2 _ (by omega)
            have j6 : (Int32.ofNat (bf (a + q) + fi + k)).toNatClampNeg = bf (a + q) + fi + k := ofNat_clamp (by omega)
            have nx : ∀ c, c = bkL f bf ef a fi w (w * q + k) → ∀ i, i < w * q + (k + 1) → up1 r (w * q + k) c i = bkL f bf ef a fi w i := by
              intro c hc i hi
              unfold up1
              by_cases e : i = w * q + k
              · rw [if_pos e, hc, e]
              · rw [if_neg e]
                exact hr i (by omega)
            unfold f12_copyBlock_j116 f12_copyBlock_j152 f12_copyBlock_j165
            simp only [e6, e7, e9, e10, e11, gd_true, j6, stp, rA_uA]
            by_cases hin : bf (a + q) + fi + k < ef (a + q)
            · rw [if_pos hin] at hLt hNs
              simp only [hin, not_true, if_false, e8 hin, gd_true, j5 hin, show ¬ ((1 : Int32) = 0) by decide]
              simp only [Ok_stp, Ok_bnd, Ok_bndX, Ok_some, Ok_none, Ok_ite, Ok_gd, inb_iff, isB_iff, lp_inl, lp_inr, Prod.mk.injEq, Sum.inl.injEq, Sum.inr.injEq, reduceCtorEq, forall_eq', false_imp_iff, imp_self, true_and, and_true, implies_true, forall_const]
              refine ⟨by omega, _, ⟨rfl, ?_, ?_⟩, nx _ hLt.symm⟩
              · rw [hNs]
                grind
              · grind
            · rw [if_neg hin] at hLt hNs
              simp only [hin, not_false_eq_true, if_true]
              simp only [Ok_stp, Ok_bnd, Ok_bndX, Ok_some, Ok_none, Ok_ite, Ok_gd, inb_iff, isB_iff, lp_inl, lp_inr, Prod.mk.injEq, Sum.inl.injEq, Sum.inr.injEq, reduceCtorEq, forall_eq', false_imp_iff, imp_self, true_and, and_true, implies_true, forall_const]
              refine ⟨by omega, _, ⟨rfl, ?_, ?_⟩, nx _ hLt.symm⟩
              · rw [hNs]
                grind
              · grind
        · rintro s ⟨r, rfl, hr⟩
          simp only [Ok_stp, Ok_bnd, Ok_bndX, Ok_some, Ok_none, Ok_ite, Ok_gd, inb_iff, isB_iff, lp_inl, lp_inr, Prod.mk.injEq, Sum.inl.injEq, Sum.inr.injEq, reduceCtorEq, forall_eq', false_imp_iff, imp_self, true_and, and_true, implies_true, forall_const]
          have e9 : w * (q + 1) = w * q + w := by rw [Nat.mul_add, Nat.mul_one]
          refine ⟨by omega, r, ?_, by rw [e9]; exact hr⟩
          rw [e9]
          refine ⟨rfl, rfl, ?_⟩
          grind
    · rw [Nat.mul_zero, rA_self]
      rfl
  unfold f12_copyBlock_j63
  obtain ⟨s, h1, r, rfl, hr⟩ := key
  refine ⟨r, ?_, hr⟩
  have h1' : loopF (fun s_63 => f12_copyBlock_b63 (Int32.ofNat a) (Int32.ofNat m) (Int32.ofNat fi) (Int32.ofNat w) s_63.1 s_63.2.1 s_63.2.2) FU (μ, 0, 0) = _ := h1
  rw [h1', bnd_some]
  rfl
theorem op_copyBlock (h : Rel σ μ) {x y z v : Int32} : stH (f11_copyBlock σ x y z v) [(1, 1), (2, 2)] o (f12_copyBlock μ x y z v) RQ := by
  obtain ⟨⟨f, n, hd, c, cu, ma, lf, ml⟩, L, B, H, T, h0⟩ := id h
  have hC : CT σ 1 L B f n := h0.2.1.1
  have hM : MT μ f n := h0.2.2.1.1
  have hlt : ∀ k, k < n → isLt (f k) = true := h0.1.2.2.1
  have hE := hC.2.1
  unfold f11_copyBlock f11_copyBlock_j57 f12_copyBlock f12_copyBlock_j18 f12_copyBlock_j51
  rw [c11_requireLine hC, c12_isLine hM, bnd_some]
  simp only [ite_tz, decide_eq_true_eq, c12_refuse, bnd_some, c12_in, c12_lines hM]
  by_cases hx : 0 ≤ x ∧ x ≤ Int32.ofNat (ends f n)
  · simp only [if_pos hx, bndX_inl, hC.2.2.2.1]
    by_cases hy : y ≤ Int32.ofNat (ends f n + 1) - x
    · simp only [if_pos hy]
      by_cases hy1 : y < 1
      · simp only [if_pos hy1]
        exact stH_er (c := 2) (t := 2) rfl (by decide) (by decide) rfl h
      · simp only [if_neg hy1]
        by_cases hz : 0 ≤ z ∧ z ≤ 200
        · have hz1 : ¬ z < 0 := by grind
          have hz2 : ¬ 200 < z := by grind
          simp only [if_pos hz, if_neg hz1, if_neg hz2]
          by_cases hv : 1 ≤ v ∧ v ≤ 40
          · have hv1 : ¬ v < 1 := by grind
            simp only [if_pos hv, if_neg hv1, if_pos hv.2, stp]
            obtain ⟨a, ha, rfl⟩ := of_range hx (by omega)
            obtain ⟨fi, hfi, rfl⟩ := of_range (n := 200) hz (by omega)
            obtain ⟨w, hw, rfl⟩ : ∃ w : Nat, (1 ≤ w ∧ w ≤ 40) ∧ v = Int32.ofNat w := ⟨v.toNatClampNeg, by grind, by grind⟩
            obtain ⟨m, hm, rfl⟩ : ∃ m : Nat, (1 ≤ m ∧ a + m ≤ ends f n + 1) ∧ y = Int32.ofNat m := ⟨y.toNatClampNeg, by grind, by grind⟩
            obtain ⟨bf, ef, hbe⟩ := lines_fn f n
            obtain ⟨g, s, mm, w0, t1, t2, t3, t4, t5, t6, t7, t8⟩ := h0
            have hL : L ≠ 12 ∧ B ≠ 12 ∧ H ≠ 12 := by rcases w0 with w0 | w0 <;> omega
            obtain ⟨r, r1, r2⟩ := c2_takeBlock hC hlt ⟨hL.1, hL.2.1⟩ hbe rfl rfl rfl rfl hm.2 hfi hw.1 hw.2
            obtain ⟨r', r1', r2'⟩ := c12_copyBlock hM hE hbe rfl rfl rfl rfl hm.2 hfi hw.1 hw.2
            rw [r1, r1', bnd_some]
            refine stH_ok rfl rfl ?_
            have hwm : w * m ≤ 12000 := by
              have := Nat.mul_le_mul hw.2 (show m ≤ 300 by omega)
              omega
            have e1 : Int32.ofNat m * Int32.ofNat w = Int32.ofNat (w * m) := by rw [← Int32.ofNat_mul, Nat.mul_comm]
            refine ⟨_, L, B, H, T, g, s.congr rfl rfl (aI_rA' hL.1) (aI_rA' hL.2.1) (aI_rA' hL.2.2) rfl rfl rfl, mm.congr rfl rfl rfl rfl rfl rfl rfl, w0, t1, ⟨w * m, hwm, rfl, e1, fun k hk => ?_, Or.inr ⟨rfl, m, w, hm.1, by omega, hw.1, hw.2, Nat.mul_comm _ _, rfl, rfl, rfl, rfl⟩⟩, t3, t4, t5.congr (Sm.trans (Sm.rA (by omega)) (Sm.trans (Sm.uI (by omega)) (Sm.trans (Sm.uI (by omega)) (Sm.trans (Sm.uI (by omega)) (Sm.uI (by omega)))))) rfl rfl, t6.congr (Sm.trans (Sm.rA (by omega)) (Sm.trans (Sm.uI (by omega)) (Sm.trans (Sm.uI (by omega)) (Sm.trans (Sm.uI (by omega)) (Sm.uI (by omega)))))) rfl rfl (fun a a1 a2 => aI_rA' (σ := μ) (by omega)), t7, t8.congr (Sm.trans (Sm.rA (by omega)) (Sm.trans (Sm.uI (by omega)) (Sm.trans (Sm.uI (by omega)) (Sm.trans (Sm.uI (by omega)) (Sm.uI (by omega)))))) rfl rfl rfl rfl (fun a a1 a2 => aI_rA' (σ := μ) (by omega))⟩
            show r k = r' k ∧ isLt (r' k) = true
            rw [r2 k hk, r2' k hk]
            refine ⟨rfl, ?_⟩
            unfold bkL
            by_cases hb : bkR bf ef a fi w k = true
            · rw [if_pos hb]
              have hb2 := of_decide_eq_true hb
              have hkm : k / w < m := (Nat.div_lt_iff_lt_mul (by omega)).mpr (by rw [Nat.mul_comm]; exact hk)
              have he := (hbe (a + k / w) (by omega)).2.1.1
              exact hlt _ (by omega)
            · rw [if_neg hb]
              rfl
          · simp only [if_neg hv]
            refine stH_er (c := 2) (t := 2) (σ' := σ) ?_ (by decide) (by decide) rfl h
            grind
        · simp only [if_neg hz]
          refine stH_er (c := 2) (t := 2) (σ' := σ) ?_ (by decide) (by decide) rfl h
          grind
    · simp only [if_neg hy]
      exact stH_er (c := 1) (t := 1) rfl (by decide) (by decide) rfl h
  · simp only [if_neg hx]
    exact stH_er (c := 1) (t := 1) rfl (by decide) (by decide) rfl h
end R
