/-! the kept text: the most lines that stay, in order -/
def lc (e : Nat → Nat → Bool) : Nat → Nat → Nat
  | 0, _ => 0
  | _ + 1, 0 => 0
  | i + 1, j + 1 => if e i j = true then lc e i j + 1 else (if lc e i (j + 1) < lc e (i + 1) j then lc e (i + 1) j else lc e i (j + 1))
theorem lc_z {e : Nat → Nat → Bool} : ∀ i, lc e i 0 = 0 := by
  intro i
  cases i <;> rw [lc]
theorem lc_0 {e : Nat → Nat → Bool} {j : Nat} : lc e 0 j = 0 := by rw [lc]
theorem lc_s {e : Nat → Nat → Bool} {i j : Nat} : lc e (i + 1) (j + 1) = if e i j = true then lc e i j + 1 else (if lc e i (j + 1) < lc e (i + 1) j then lc e (i + 1) j else lc e i (j + 1)) := by rw [lc]
theorem lc_flip {e : Nat → Nat → Bool} : ∀ i j, lc e i j = lc (fun a b => e b a) j i := by
  intro i
  induction i with
  | zero => intro j; rw [lc_z, lc_0]
  | succ i ih =>
    intro j
    induction j with
    | zero => rw [lc_z, lc_0]
    | succ j ihj =>
      rw [lc_s, lc_s, ih j, ih (j + 1), ihj]
      split
      · rfl
      · split <;> split <;> omega
theorem lc_le {e : Nat → Nat → Bool} : ∀ i j, lc e i j ≤ i := by
  intro i
  induction i with
  | zero => intro j; rw [lc_0]; exact Nat.le_refl 0
  | succ i ih =>
    intro j
    induction j with
    | zero => rw [lc_z]; omega
    | succ j ihj =>
      rw [lc_s]
      have h1 := ih j
      have h2 := ih (j + 1)
      split
      · omega
      · split <;> omega
def eqL (f k : Nat → Int32) (bf ef bk ek : Nat → Nat) (i j : Nat) : Bool := decide (ef i - bf i = ek j - bk j) && decide (∀ t, t < ef i - bf i → f (bf i + t) = k (bk j + t))
theorem sm_ext {f k : Nat → Int32} {a b : Nat} : ∀ m, (∀ t, t < m → f (a + t) = k (b + t)) → sm f a m = sm k b m := by
  intro m
  induction m with
  | zero => intro _; rfl
  | succ m ih => intro h; rw [sm, sm, ih (fun t ht => h t (by omega)), h m (by omega)]
/-- the lines of a text: where they begin and end -/
def isLn (f : Nat → Int32) (n : Nat) (bf ef : Nat → Nat) : Prop := ∀ j, j ≤ ends f n → isBg f j (bf j) ∧ isEn f n j (ef j) ∧ bf j ≤ ef j ∧ bf j ≤ n
theorem isLn.next {f : Nat → Int32} {n : Nat} {bf ef : Nat → Nat} (h : isLn f n bf ef) {j : Nat} (hj : j < ends f n) : bf (j + 1) = ef j + 1 := by
  obtain ⟨a1, a2, a3, a4⟩ := h j (by omega)
  obtain ⟨b1, -⟩ := h (j + 1) (by omega)
  have h1 : f (ef j) = 10 := by
    rcases a2.2.2 with e | e
    · have := a2.2.1
      rw [e] at this
      omega
    · exact e
  exact b1.uniq ⟨by rw [ends_succ, if_pos h1, a2.2.1], Or.inr h1⟩
theorem isLn.last {f : Nat → Int32} {n : Nat} {bf ef : Nat → Nat} (h : isLn f n bf ef) : ef (ends f n) = n := by
  obtain ⟨a1, a2, a3, a4⟩ := h (ends f n) (Nat.le_refl _)
  exact a2.uniq ⟨Nat.le_refl _, rfl, Or.inl rfl⟩
section R
variable {σ μ : Sto} {o : Int64} {L B : Nat} {f k : Nat → Int32} {n kn : Nat} {bf ef bk ek : Nat → Nat}
theorem c3_fillSums {s t : Nat} (h : CT σ s L B f n) (hl : isLn f n bf ef) (ht : ln t = 300) (hne : L ≠ t ∧ B ≠ t) : ∃ r, f3_fillSums σ s t = some (rA σ t r) ∧ ∀ j, j ≤ ends f n → r j = sm f (bf j) (ef j - bf j) := by
  have hE := h.2.1
  have key : Ok (f3_fillSums σ s t) (fun z => ∃ r, z = rA σ t r ∧ ∀ j, j ≤ ends f n → r j = sm f (bf j) (ef j - bf j)) := by
    unfold f3_fillSums f3_fillSums_j2
    simp only [Ok_stp, Ok_bnd, Ok_some]
    refine Ok_count (ends f n + 1) (fun q z => ∃ r, z = (rA σ t r, Int32.ofNat q) ∧ ∀ j, j < q → r j = sm f (bf j) (ef j - bf j)) ?_ 0 ⟨aI σ t, by rw [rA_self]; rfl, fun j hj => by omega⟩ (by omega) (by (show _ < FU; unfold FU; omega))
    rintro q z hq ⟨r, rfl, hr⟩
    have hC : CT (rA σ t r) s L B f n := h.congr rfl rfl (aI_rA' hne.1) (aI_rA' hne.2)
    have e1 : fI (rA σ t r) s 4 = Int32.ofNat (ends f n + 1) := h.2.2.2.1
    unfold f3_fillSums_b2
    simp only [e1, i32_le (show ends f n + 1 < 2147483648 by omega) (show q < 2147483648 by omega)]
    by_cases hqq : ends f n + 1 ≤ q
    · simp only [if_pos hqq]
      simp only [Ok_stp, Ok_bnd, Ok_bndX, Ok_some, Ok_none, Ok_ite, Ok_gd, inb_iff, isB_iff, lp_inl, lp_inr, Prod.mk.injEq, Sum.inl.injEq, Sum.inr.injEq, reduceCtorEq, forall_eq', false_imp_iff, imp_self, true_and, and_true, implies_true, forall_const]
      exact ⟨r, rfl, fun j hj => hr j (by omega)⟩
    · obtain ⟨a1, a2, a3, a4⟩ := hl q (by omega)
      have hb := hC.bg (j := q) (by omega) a1
      obtain ⟨i1, i2, i3⟩ := hC.2.2.2.2.2.1
      simp only [if_neg hqq, i1, okr_s.mpr i2, Nat.add_sub_cancel, i3, gd_true, inb_n (show q < 300 by omega) (by omega), c8_endOf hC rfl a2, bnd_some, ofNat_clamp (show q < 2147483648 by omega), hb.1, c8_sumOf hC rfl rfl a3 a2.1, ht, stp, rA_uA, i32_succ]
      simp only [Ok_stp, Ok_bnd, Ok_bndX, Ok_some, Ok_none, Ok_ite, Ok_gd, inb_iff, isB_iff, lp_inl, lp_inr, Prod.mk.injEq, Sum.inl.injEq, Sum.inr.injEq, reduceCtorEq, forall_eq', false_imp_iff, imp_self, true_and, and_true, implies_true, forall_const]
      refine ⟨by omega, up1 r q (sm f (bf q) (ef q - bf q)), rfl, fun j hj => ?_⟩
      unfold up1
      by_cases e : j = q
      · rw [if_pos e, e]
      · rw [if_neg e]
        exact hr j (by omega)
  obtain ⟨z, h1, r, rfl, h2⟩ := key
  exact ⟨r, h1, h2⟩
theorem c3_isSame (h : CT σ 1 L B f n) (hk : CT σ 1998 1999 2000 k kn) (hl : isLn f n bf ef) (hlk : isLn k kn bk ek) (hs : ∀ j, j ≤ ends f n → aI σ 2013 j = sm f (bf j) (ef j - bf j)) (hsk : ∀ j, j ≤ ends k kn → aI σ 2012 j = sm k (bk j) (ek j - bk j)) {a b : Nat} {x y : Int32} (hx : x = Int32.ofNat a) (hy : y = Int32.ofNat b) (ha : a ≤ ends k kn) (hb : b ≤ ends f n) : f3_isSame σ x 1 y = some (tz (eqL f k bf ef bk ek b a)) := by
  subst hx hy
  apply Ok_eq
  have hE := h.2.1
  have hEk := hk.2.1
  obtain ⟨a1, a2, a3, a4⟩ := hl b hb
  obtain ⟨b1, b2, b3, b4⟩ := hlk a ha
  have hbg := h.bg hb a1
  have hbk := hk.bg ha b1
  obtain ⟨i1, i2, i3⟩ := h.2.2.2.2.1
  obtain ⟨i4, i5, i6⟩ := h.2.2.2.2.2.1
  obtain ⟨j1, j2, j3⟩ := hk.2.2.2.2.1
  obtain ⟨j4, j5, j6⟩ := hk.2.2.2.2.2.1
  have hf : ∀ t, t < n → aI σ L t = f t := h.2.2.2.2.2.2.1
  have hkf : ∀ t, t < kn → aI σ 1999 t = k t := hk.2.2.2.2.2.2.1
  have hn := h.1
  have hkn := hk.1
  have a5 := a2.1
  have b5 := b2.1
  unfold f3_isSame
  simp only [inb_n (show a < 300 by omega) (by omega), inb_n (show b < 300 by omega) (by omega), gd_true, ofNat_clamp (show a < 2147483648 by omega), ofNat_clamp (show b < 2147483648 by omega), hs b hb, hsk a ha]
  by_cases hsum : sm k (bk a) (ek a - bk a) = sm f (bf b) (ef b - bf b)
  · simp only [if_pos hsum, j4, okr_s.mpr j5, Nat.add_sub_cancel, j6, i4, okr_s.mpr i5, i6, inb_n (show a < 300 by omega) (by omega), inb_n (show b < 300 by omega) (by omega), gd_true, stp, hbg.1, hbk.1, c8_endOf h rfl a2, c8_endOf hk rfl b2, bnd_some]
    have e1 : Int32.ofNat (ef b) - Int32.ofNat (bf b) = Int32.ofNat (ef b - bf b) := by clear h hk hl hlk; grind
    have e2 : Int32.ofNat (ek a) - Int32.ofNat (bk a) = Int32.ofNat (ek a - bk a) := by clear h hk hl hlk; grind
    rw [e1, e2]
    simp only [i32_eq (show ek a - bk a < 2147483648 by omega) (show ef b - bf b < 2147483648 by omega)]
    unfold f3_isSame_j67 f3_isSame_j72 f3_isSame_j123
    have main : ∀ bb : Bool, (bb = decide (ef b - bf b = ek a - bk a)) → Ok (bnd (loopF (fun s_72 => f3_isSame_b72 (Int32.ofNat a) 1 (Int32.ofNat b) σ (Int32.ofNat (bk a)) (Int32.ofNat (bf b)) (Int32.ofNat (ef b - bf b)) s_72.1 s_72.2) FU (tz bb, 0)) fun r_72 => gd (isB r_72) (some r_72)) (fun r => r = tz (eqL f k bf ef bk ek b a)) := by
      intro bb hbb
      simp only [Ok_bnd]
      refine Ok.imp (Q := fun r => r = tz (eqL f k bf ef bk ek b a)) ?_ (fun r hr => by rw [hr, tz_B, gd_true, Ok_some])
      refine Ok_count (ef b - bf b) (fun q z => z = (tz (decide (ef b - bf b = ek a - bk a) && decide (∀ t, t < q → f (bf b + t) = k (bk a + t))), Int32.ofNat q)) ?_ 0 ?_ (by omega) (by (show _ < FU; unfold FU; omega))
      · rintro q z hq rfl
        unfold f3_isSame_b72 f3_isSame_j115
        simp only [ite_tz]
        by_cases hp : (decide (ef b - bf b = ek a - bk a) && decide (∀ t, t < q → f (bf b + t) = k (bk a + t))) = true
        · simp only [if_pos hp, i32_le (show ef b - bf b < 2147483648 by omega) (show q < 2147483648 by omega)]
          simp only [Bool.and_eq_true, decide_eq_true_eq] at hp
          by_cases hqe : ef b - bf b ≤ q
          · simp only [if_pos hqe]
            simp only [Ok_stp, Ok_bnd, Ok_bndX, Ok_some, Ok_none, Ok_ite, Ok_gd, inb_iff, isB_iff, lp_inl, lp_inr, Prod.mk.injEq, Sum.inl.injEq, Sum.inr.injEq, reduceCtorEq, forall_eq', false_imp_iff, imp_self, true_and, and_true, implies_true, forall_const]
            have : q = ef b - bf b := by omega
            unfold eqL
            rw [this]
          · simp only [if_neg hqe, j1, okr_s.mpr j2, Nat.add_sub_cancel, j3, i1, okr_s.mpr i2, i3, gd_true, ← Int32.ofNat_add, inb_n (show bk a + q < 3000 by omega) (by omega), inb_n (show bf b + q < 3000 by omega) (by omega), ofNat_clamp (show bk a + q < 2147483648 by omega), ofNat_clamp (show bf b + q < 2147483648 by omega), hkf (bk a + q) (by omega), hf (bf b + q) (by omega), i32_succ]
            by_cases hc : k (bk a + q) = f (bf b + q)
            · simp only [if_pos hc, stp]
              simp only [Ok_stp, Ok_bnd, Ok_bndX, Ok_some, Ok_none, Ok_ite, Ok_gd, inb_iff, isB_iff, lp_inl, lp_inr, Prod.mk.injEq, Sum.inl.injEq, Sum.inr.injEq, reduceCtorEq, forall_eq', false_imp_iff, imp_self, true_and, and_true, implies_true, forall_const]
              refine ⟨by omega, ?_⟩
              rw [decide_eq_true hp.1, decide_eq_true (show ∀ t, t < q + 1 → f (bf b + t) = k (bk a + t) from fun t ht => by
                by_cases e : t = q
                · rw [e, hc]
                · exact hp.2 t (by omega))]
              rfl
            · simp only [if_neg hc, stp]
              simp only [Ok_stp, Ok_bnd, Ok_bndX, Ok_some, Ok_none, Ok_ite, Ok_gd, inb_iff, isB_iff, lp_inl, lp_inr, Prod.mk.injEq, Sum.inl.injEq, Sum.inr.injEq, reduceCtorEq, forall_eq', false_imp_iff, imp_self, true_and, and_true, implies_true, forall_const]
              refine ⟨by omega, ?_⟩
              rw [decide_eq_false (show ¬ ∀ t, t < q + 1 → f (bf b + t) = k (bk a + t) from fun z => hc (z q (by omega)).symm), Bool.and_false]
              rfl
        · simp only [if_neg hp]
          simp only [Ok_stp, Ok_bnd, Ok_bndX, Ok_some, Ok_none, Ok_ite, Ok_gd, inb_iff, isB_iff, lp_inl, lp_inr, Prod.mk.injEq, Sum.inl.injEq, Sum.inr.injEq, reduceCtorEq, forall_eq', false_imp_iff, imp_self, true_and, and_true, implies_true, forall_const]
          have h1 : eqL f k bf ef bk ek b a = false := by
            cases he : eqL f k bf ef bk ek b a
            · rfl
            · exfalso
              unfold eqL at he
              simp only [Bool.and_eq_true, decide_eq_true_eq] at he
              apply hp
              simp only [Bool.and_eq_true, decide_eq_true_eq]
              exact ⟨he.1, fun t ht => he.2 t (by omega)⟩
          have h2 : (decide (ef b - bf b = ek a - bk a) && decide (∀ t, t < q → f (bf b + t) = k (bk a + t))) = false := by
            cases hh : (decide (ef b - bf b = ek a - bk a) && decide (∀ t, t < q → f (bf b + t) = k (bk a + t)))
            · rfl
            · exact absurd hh hp
          rw [h1, h2]
      · rw [hbb, decide_eq_true (show ∀ t, t < 0 → f (bf b + t) = k (bk a + t) from fun t ht => by omega), Bool.and_true]
        rfl
    by_cases hlen : ek a - bk a = ef b - bf b
    · simp only [if_pos hlen]
      exact main true (decide_eq_true hlen.symm).symm
    · simp only [if_neg hlen]
      exact main false (decide_eq_false (fun z => hlen z.symm)).symm
  · simp only [if_neg hsum, Ok_some]
    have h1 : eqL f k bf ef bk ek b a = false := by
      cases he : eqL f k bf ef bk ek b a
      · rfl
      · exfalso
        unfold eqL at he
        simp only [Bool.and_eq_true, decide_eq_true_eq] at he
        apply hsum
        rw [← he.1]
        exact (sm_ext _ he.2).symm
    rw [h1]
    rfl
theorem c3_countSame (h : CT σ 1 L B f n) (hk : CT σ 1998 1999 2000 k kn) (hl : isLn f n bf ef) (hlk : isLn k kn bk ek) (hne : L < 2000 ∧ B < 2000) : ∃ r1 r2 r3, f3_countSame σ 1 = some (Int32.ofNat (lc (fun a b => eqL f k bf ef bk ek b a) (ends k kn + 1) (ends f n + 1)), rA (rA (rA σ 2012 r1) 2013 r2) 2014 r3) := by
  have hE := h.2.1
  have hEk := hk.2.1
  obtain ⟨r1, p1, p2⟩ := c3_fillSums (t := 2012) hk hlk rfl (by omega)
  have hC1 : CT (rA σ 2012 r1) 1 L B f n := h.congr rfl rfl (aI_rA' (by omega)) (aI_rA' (by omega))
  obtain ⟨r2, p3, p4⟩ := c3_fillSums (σ := rA σ 2012 r1) (t := 2013) hC1 hl rfl (by omega)
  have hC : CT (rA (rA σ 2012 r1) 2013 r2) 1 L B f n := hC1.congr rfl rfl (aI_rA' (by omega)) (aI_rA' (by omega))
  have hK : CT (rA (rA σ 2012 r1) 2013 r2) 1998 1999 2000 k kn := hk.congr rfl rfl rfl rfl
  have hs : ∀ j, j ≤ ends f n → aI (rA (rA σ 2012 r1) 2013 r2) 2013 j = sm f (bf j) (ef j - bf j) := fun j hj => by rw [aI_rA, if_pos rfl]; exact p4 j hj
  have hsk : ∀ j, j ≤ ends k kn → aI (rA (rA σ 2012 r1) 2013 r2) 2012 j = sm k (bk j) (ek j - bk j) := fun j hj => by rw [aI_rA' (by omega), aI_rA, if_pos rfl]; exact p2 j hj
  generalize hM : rA (rA σ 2012 r1) 2013 r2 = M at hC hK hs hsk
  have e4 : ∀ r, fI (rA M 2014 r) 1 4 = Int32.ofNat (ends f n + 1) := fun r => hC.2.2.2.1
  have e4k : ∀ r, fI (rA M 2014 r) 1998 4 = Int32.ofNat (ends k kn + 1) := fun r => hK.2.2.2.1
  have key : Ok (f3_countSame_j21 1 M 0) (fun z => ∃ r3, z = (Int32.ofNat (lc (fun a b => eqL f k bf ef bk ek b a) (ends k kn + 1) (ends f n + 1)), rA M 2014 r3)) := by
    unfold f3_countSame_j21
    simp only [Ok_bnd]
    refine Ok.imp (Q := fun z => ∃ r, z = rA M 2014 r ∧ ∀ j, j ≤ ends f n + 1 → r j = 0) ?_ ?_
    · refine Ok_count (ends f n + 2) (fun q z => ∃ r, z = (rA M 2014 r, Int32.ofNat q) ∧ ∀ j, j < q → r j = 0) ?_ 0 ⟨aI M 2014, by rw [rA_self]; rfl, fun j hj => by omega⟩ (by omega) (by (show _ < FU; unfold FU; omega))
      rintro q z hq ⟨r, rfl, hr⟩
      unfold f3_countSame_b21
      simp only [e4, i32n_lt (show ends f n + 1 < 2147483648 by omega) (show q < 2147483648 by omega)]
      by_cases hqq : ends f n + 1 < q
      · simp only [if_pos hqq]
        simp only [Ok_stp, Ok_bnd, Ok_bndX, Ok_some, Ok_none, Ok_ite, Ok_gd, inb_iff, isB_iff, lp_inl, lp_inr, Prod.mk.injEq, Sum.inl.injEq, Sum.inr.injEq, reduceCtorEq, forall_eq', false_imp_iff, imp_self, true_and, and_true, implies_true, forall_const]
        exact ⟨r, rfl, fun j hj => hr j (by omega)⟩
      · simp only [if_neg hqq, inb_n (show q < 301 by omega) (by omega), gd_true, ofNat_clamp (show q < 2147483648 by omega), stp, rA_uA, i32_succ]
        simp only [Ok_stp, Ok_bnd, Ok_bndX, Ok_some, Ok_none, Ok_ite, Ok_gd, inb_iff, isB_iff, lp_inl, lp_inr, Prod.mk.injEq, Sum.inl.injEq, Sum.inr.injEq, reduceCtorEq, forall_eq', false_imp_iff, imp_self, true_and, and_true, implies_true, forall_const]
        refine ⟨by omega, up1 r q 0, rfl, fun j hj => ?_⟩
        unfold up1
        by_cases e : j = q
        · rw [if_pos e]
        · rw [if_neg e]
          exact hr j (by omega)
    · rintro z ⟨r, rfl, hr⟩
      unfold f3_countSame_j44
      simp only [Ok_stp, Ok_bnd]
      refine Ok.imp (Q := fun z => ∃ r, z = rA M 2014 r ∧ ∀ j, j ≤ ends f n + 1 → r j = Int32.ofNat (lc (fun a b => eqL f k bf ef bk ek b a) (ends k kn + 1) j)) ?_ ?_
      · refine Ok_count (ends k kn + 1) (fun q z => ∃ r, z = (rA M 2014 r, Int32.ofNat q) ∧ ∀ j, j ≤ ends f n + 1 → r j = Int32.ofNat (lc (fun a b => eqL f k bf ef bk ek b a) q j)) ?_ 0 ⟨r, rfl, fun j hj => by rw [hr j hj, lc_0]; rfl⟩ (by omega) (by (show _ < FU; unfold FU; omega))
        rintro q z hq ⟨r, rfl, hr⟩
        unfold f3_countSame_b44
        simp only [e4k, i32_le (show ends k kn + 1 < 2147483648 by omega) (show q < 2147483648 by omega)]
        by_cases hqq : ends k kn + 1 ≤ q
        · simp only [if_pos hqq]
          simp only [Ok_stp, Ok_bnd, Ok_bndX, Ok_some, Ok_none, Ok_ite, Ok_gd, inb_iff, isB_iff, lp_inl, lp_inr, Prod.mk.injEq, Sum.inl.injEq, Sum.inr.injEq, reduceCtorEq, forall_eq', false_imp_iff, imp_self, true_and, and_true, implies_true, forall_const]
          have : q = ends k kn + 1 := by omega
          rw [← this]
          exact ⟨r, rfl, hr⟩
        · simp only [if_neg hqq, stp]
          unfold f3_countSame_j60
          simp only [Ok_bnd]
          refine Ok.imp (Q := fun z => ∃ r, z = rA M 2014 r ∧ ∀ j, j ≤ ends f n + 1 → r j = Int32.ofNat (lc (fun a b => eqL f k bf ef bk ek b a) (q + 1) j)) ?_ ?_
          · refine Ok_count (ends f n + 1) (fun l z => ∃ r, z = (rA M 2014 r, Int32.ofNat (lc (fun a b => eqL f k bf ef bk ek b a) q l), Int32.ofNat l) ∧ (∀ j, j ≤ l → r j = Int32.ofNat (lc (fun a b => eqL f k bf ef bk ek b a) (q + 1) j)) ∧ ∀ j, l < j → j ≤ ends f n + 1 → r j = Int32.ofNat (lc (fun a b => eqL f k bf ef bk ek b a) q j)) ?_ 0 ⟨r, by rw [lc_z]; rfl, fun j hj => by rw [show j = 0 by omega, hr 0 (by omega), lc_z, lc_z], fun j a b => hr j b⟩ (by omega) (by (show _ < FU; unfold FU; omega))
            rintro l z hlq ⟨r, rfl, hr1, hr2⟩
            unfold f3_countSame_b60 f3_countSame_j127
            simp only [e4, i32_le (show ends f n + 1 < 2147483648 by omega) (show l < 2147483648 by omega)]
            by_cases hll : ends f n + 1 ≤ l
            · simp only [if_pos hll]
              simp only [Ok_stp, Ok_bnd, Ok_bndX, Ok_some, Ok_none, Ok_ite, Ok_gd, inb_iff, isB_iff, lp_inl, lp_inr, Prod.mk.injEq, Sum.inl.injEq, Sum.inr.injEq, reduceCtorEq, forall_eq', false_imp_iff, imp_self, true_and, and_true, implies_true, forall_const]
              exact ⟨r, rfl, fun j hj => hr1 j (by omega)⟩
            · have hCr : CT (rA M 2014 r) 1 L B f n := hC.congr rfl rfl (aI_rA' (by omega)) (aI_rA' (by omega))
              have hKr : CT (rA M 2014 r) 1998 1999 2000 k kn := hK.congr rfl rfl rfl rfl
              have hsame := c3_isSame (x := Int32.ofNat q) (y := Int32.ofNat l) hCr hKr hl hlk (fun j hj => hs j hj) (fun j hj => hsk j hj) rfl rfl (show q ≤ ends k kn by omega) (show l ≤ ends f n by omega)
              have h3 := lc_le (e := fun a b => eqL f k bf ef bk ek b a) q l
              have h4 := lc_le (e := fun a b => eqL f k bf ef bk ek b a) q (l + 1)
              have h5 := lc_le (e := fun a b => eqL f k bf ef bk ek b a) (q + 1) l
              have h6 : lc (fun a b => eqL f k bf ef bk ek b a) (q + 1) (l + 1) = _ := lc_s
              have e5 : aI (rA M 2014 r) 2014 = r := by rw [aI_rA, if_pos rfl]
              simp only [if_neg hll, i32_succ, inb_n (show l + 1 < 301 by omega) (by omega), inb_n (show l < 301 by omega) (by omega), gd_true, stp, hsame, bnd_some, ite_tz, ofNat_clamp (show l + 1 < 2147483648 by omega), ofNat_clamp (show l < 2147483648 by omega), e5, hr1 l (Nat.le_refl _), hr2 (l + 1) (by omega) (by omega), rA_uA]
              have nx : ∀ v, v = Int32.ofNat (lc (fun a b => eqL f k bf ef bk ek b a) (q + 1) (l + 1)) → ∃ r', (rA M 2014 (up1 r (l + 1) v) = rA M 2014 r') ∧ (∀ j, j ≤ l + 1 → r' j = Int32.ofNat (lc (fun a b => eqL f k bf ef bk ek b a) (q + 1) j)) ∧ ∀ j, l + 1 < j → j ≤ ends f n + 1 → r' j = Int32.ofNat (lc (fun a b => eqL f k bf ef bk ek b a) q j) := by
                intro v hv
                refine ⟨up1 r (l + 1) v, rfl, fun j hj => ?_, fun j a b => ?_⟩
                · unfold up1
                  by_cases e : j = l + 1
                  · rw [if_pos e, e]; exact hv
                  · rw [if_neg e]; exact hr1 j (by omega)
                · unfold up1
                  rw [if_neg (by omega)]
                  exact hr2 j (by omega) b
              by_cases he : eqL f k bf ef bk ek l q = true
              · rw [if_pos he] at h6
                simp only [if_pos he]
                obtain ⟨r', n1, n2⟩ := nx (Int32.ofNat (lc (fun a b => eqL f k bf ef bk ek b a) q l + 1)) (by rw [h6])
                rw [n1]
                simp only [Ok_stp, Ok_bnd, Ok_bndX, Ok_some, Ok_none, Ok_ite, Ok_gd, inb_iff, isB_iff, lp_inl, lp_inr, Prod.mk.injEq, Sum.inl.injEq, Sum.inr.injEq, reduceCtorEq, forall_eq', false_imp_iff, imp_self, true_and, and_true, implies_true, forall_const]
                exact ⟨by omega, r', rfl, n2⟩
              · rw [if_neg he] at h6
                simp only [if_neg he]
                have e6 : imax (Int32.ofNat (lc (fun a b => eqL f k bf ef bk ek b a) q (l + 1))) (Int32.ofNat (lc (fun a b => eqL f k bf ef bk ek b a) (q + 1) l)) = Int32.ofNat (lc (fun a b => eqL f k bf ef bk ek b a) (q + 1) (l + 1)) := by
                  rw [h6]
                  unfold imax
                  simp only [i32n_lt (show lc (fun a b => eqL f k bf ef bk ek b a) q (l + 1) < 2147483648 by omega) (show lc (fun a b => eqL f k bf ef bk ek b a) (q + 1) l < 2147483648 by omega)]
                  split <;> rfl
                obtain ⟨r', n1, n2⟩ := nx _ e6
                rw [n1]
                simp only [Ok_stp, Ok_bnd, Ok_bndX, Ok_some, Ok_none, Ok_ite, Ok_gd, inb_iff, isB_iff, lp_inl, lp_inr, Prod.mk.injEq, Sum.inl.injEq, Sum.inr.injEq, reduceCtorEq, forall_eq', false_imp_iff, imp_self, true_and, and_true, implies_true, forall_const]
                exact ⟨by omega, r', rfl, n2⟩
          · rintro z ⟨r, rfl, hr⟩
            simp only [i32_succ]
            simp only [Ok_stp, Ok_bnd, Ok_bndX, Ok_some, Ok_none, Ok_ite, Ok_gd, inb_iff, isB_iff, lp_inl, lp_inr, Prod.mk.injEq, Sum.inl.injEq, Sum.inr.injEq, reduceCtorEq, forall_eq', false_imp_iff, imp_self, true_and, and_true, implies_true, forall_const]
            exact ⟨by omega, r, rfl, hr⟩
      · rintro z ⟨r, rfl, hr⟩
        have e5 : aI (rA M 2014 r) 2014 = r := by rw [aI_rA, if_pos rfl]
        simp only [e4, inb_n (show ends f n + 1 < 301 by omega) (by omega), gd_true, ofNat_clamp (show ends f n + 1 < 2147483648 by omega), e5, hr (ends f n + 1) (Nat.le_refl _), Ok_some]
        exact ⟨r, rfl⟩
  obtain ⟨z, k1, r3, rfl⟩ := key
  unfold f3_countSame
  rw [p1, bnd_some, p3, bnd_some]
  simp only [stp]
  rw [hM, k1]
  exact ⟨r1, r2, r3, by rw [hM]⟩
end R
