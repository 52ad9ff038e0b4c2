section R
variable {σ μ : Sto} {o : Int64} {L B : Nat} {f k : Nat → Int32} {n kn : Nat} {bf ef bk ek : Nat → Nat}
theorem c12_lays {s t : Nat} {x : Int32} (hs : ln s = 3000) (ht : ln t = 302) (hne : s ≠ t) (hf : ∀ j, j < n → aI μ s j = f j) (hn : n ≤ 3000) (hE : ends f n < 300) (hl : isLn f n bf ef) (hx : x = Int32.ofNat n) : ∃ r, f12_lays μ s x t = some (Int32.ofNat (ends f n + 1), rA μ t r) ∧ (∀ j, j ≤ ends f n → r j = Int32.ofNat (bf j)) ∧ r (ends f n + 1) = Int32.ofNat (n + 1) := by
  subst hx
  have key : Ok (f12_lays μ s (Int32.ofNat n) t) (fun z => ∃ r, z = (Int32.ofNat (ends f n + 1), rA μ t r) ∧ (∀ j, j ≤ ends f n → r j = Int32.ofNat (bf j)) ∧ r (ends f n + 1) = Int32.ofNat (n + 1)) := by
    have e0 : (0 : Int32).toNatClampNeg = 0 := by decide
    unfold f12_lays
    simp only [Ok_stp, ht, e0, show inb 0 302 = true from by decide, gd_true, uA_up1]
    unfold f12_lays_j9
    simp only [Ok_bnd]
    refine Ok.imp (Q := fun z => ∃ r, z = (rA μ t r, Int32.ofNat (ends f n + 1)) ∧ ∀ j, j ≤ ends f n → r j = Int32.ofNat (bf j)) ?_ ?_
    · refine Ok_count n (fun q z => ∃ r, z = (rA μ t r, Int32.ofNat (ends f q + 1), Int32.ofNat q) ∧ ∀ j, j ≤ ends f q → r j = Int32.ofNat (bf j)) ?_ 0 ⟨_, rfl, fun j hj => ?_⟩ (by omega) (by (show _ < FU; unfold FU; omega))
      · rintro q z hq ⟨r, rfl, hr⟩
        have hm := ends_mono (f := f) hq
        unfold f12_lays_b9 f12_lays_j34
        simp only [hs, ht, i32_le (show n < 2147483648 by omega) (show q < 2147483648 by omega)]
        by_cases hqq : n ≤ q
        · simp only [if_pos hqq]
          have : q = n := by omega
          subst this
          simp only [Ok_stp, Ok_bnd, Ok_bndX, Ok_some, Ok_none, Ok_ite, Ok_gd, inb_iff, isB_iff, lp_inl, lp_inr, Prod.mk.injEq, Sum.inl.injEq, Sum.inr.injEq, reduceCtorEq, forall_eq', false_imp_iff, imp_self, true_and, and_true, implies_true, forall_const]
          exact ⟨r, rfl, hr⟩
        · have e1 : aI (rA μ t r) s q = f q := by rw [aI_rA' hne]; exact hf q (by omega)
          simp only [if_neg hqq, inb_n (show q < 3000 by omega) (by omega), inb_n (show ends f q + 1 < 302 by omega) (by omega), gd_true, ofNat_clamp (show q < 2147483648 by omega), ofNat_clamp (show ends f q + 1 < 2147483648 by omega), e1, i32_succ, stp, rA_uA]
          have h1 := ends_succ f q
          by_cases hc : f q = 10
          · rw [if_pos hc] at h1
            simp only [if_pos hc]
            simp only [Ok_stp, Ok_bnd, Ok_bndX, Ok_some, Ok_none, Ok_ite, Ok_gd, inb_iff, isB_iff, lp_inl, lp_inr, Prod.mk.injEq, Sum.inl.injEq, Sum.inr.injEq, reduceCtorEq, forall_eq', false_imp_iff, imp_self, true_and, and_true, implies_true, forall_const]
            refine ⟨by omega, up1 r (ends f q + 1) (Int32.ofNat (q + 1)), ⟨rfl, ?_⟩, fun j hj => ?_⟩
            · rw [h1]
            · unfold up1
              by_cases e : j = ends f q + 1
              · have hq1 : ends f (q + 1) ≤ ends f n := ends_mono (by omega)
                obtain ⟨a1, -⟩ := hl (ends f (q + 1)) hq1
                have : bf (ends f (q + 1)) = q + 1 := a1.uniq ⟨rfl, Or.inr hc⟩
                rw [if_pos e, e, ← h1, this]
              · rw [if_neg e]
                exact hr j (by omega)
          · rw [if_neg hc] at h1
            simp only [if_neg hc]
            simp only [Ok_stp, Ok_bnd, Ok_bndX, Ok_some, Ok_none, Ok_ite, Ok_gd, inb_iff, isB_iff, lp_inl, lp_inr, Prod.mk.injEq, Sum.inl.injEq, Sum.inr.injEq, reduceCtorEq, forall_eq', false_imp_iff, imp_self, true_and, and_true, implies_true, forall_const]
            exact ⟨by omega, r, by rw [h1]; first | rfl | exact ⟨rfl, rfl⟩, fun j hj => hr j (by omega)⟩
      · have : j = 0 := by have : ends f 0 = 0 := rfl; omega
        subst this
        obtain ⟨a1, -⟩ := hl 0 (Nat.zero_le _)
        have h0 : bf 0 = 0 := a1.uniq ⟨rfl, Or.inl rfl⟩
        unfold up1
        rw [if_pos rfl, h0]
        rfl
    · rintro z ⟨r, rfl, hr⟩
      simp only [ht, inb_n (show ends f n + 1 < 302 by omega) (by omega), gd_true, ofNat_clamp (show ends f n + 1 < 2147483648 by omega), i32_succ, stp, rA_uA, Ok_some]
      refine ⟨up1 r (ends f n + 1) (Int32.ofNat (n + 1)), rfl, fun j hj => ?_, ?_⟩
      · unfold up1
        rw [if_neg (by omega)]
        exact hr j hj
      · unfold up1
        rw [if_pos rfl]
  obtain ⟨z, h1, r, rfl, h2⟩ := key
  exact ⟨r, h1, h2⟩
/-- the laid row says where each line ends too -/
theorem lays_next {r : Nat → Int32} (hl : isLn f n bf ef) (h1 : ∀ j, j ≤ ends f n → r j = Int32.ofNat (bf j)) (h2 : r (ends f n + 1) = Int32.ofNat (n + 1)) {j : Nat} (hj : j ≤ ends f n) : r (j + 1) = Int32.ofNat (ef j + 1) := by
  by_cases h : j < ends f n
  · rw [h1 (j + 1) (by omega), hl.next h]
  · have : j = ends f n := by omega
    rw [this, h2, hl.last]
theorem c12_areAlike (hf : ∀ j, j < n → aI μ 2018 j = f j) (hk : ∀ j, j < kn → aI μ 2026 j = k j) (hn : n ≤ 3000) (hkn : kn ≤ 3000) (hE : ends f n < 300) (hEk : ends k kn < 300) (hl : isLn f n bf ef) (hlk : isLn k kn bk ek) (h1 : ∀ j, j ≤ ends f n → aI μ 2051 j = Int32.ofNat (bf j)) (h2 : ∀ j, j ≤ ends f n → aI μ 2051 (j + 1) = Int32.ofNat (ef j + 1)) (h3 : ∀ j, j ≤ ends k kn → aI μ 2050 j = Int32.ofNat (bk j)) (h4 : ∀ j, j ≤ ends k kn → aI μ 2050 (j + 1) = Int32.ofNat (ek j + 1)) {a b : Nat} {x y : Int32} (hx : x = Int32.ofNat b) (hy : y = Int32.ofNat a) (ha : a ≤ ends k kn) (hb : b ≤ ends f n) : f12_areAlike μ x y = some (tz (eqL f k bf ef bk ek b a)) := by
  subst hx hy
  apply Ok_eq
  obtain ⟨a1, a2, a3, a4⟩ := hl b hb
  obtain ⟨b1, b2, b3, b4⟩ := hlk a ha
  have a5 := a2.1
  have b5 := b2.1
  have e1 : Int32.ofNat (ef b + 1) - Int32.ofNat (bf b) = Int32.ofNat (ef b + 1 - bf b) := by clear hl hlk; grind
  have e2 : Int32.ofNat (ek a + 1) - Int32.ofNat (bk a) = Int32.ofNat (ek a + 1 - bk a) := by clear hl hlk; grind
  unfold f12_areAlike
  simp only [i32_succ, inb_n (show b + 1 < 302 by omega) (by omega), inb_n (show b < 302 by omega) (by omega), inb_n (show a + 1 < 302 by omega) (by omega), inb_n (show a < 302 by omega) (by omega), gd_true, stp, ofNat_clamp (show b + 1 < 2147483648 by omega), ofNat_clamp (show b < 2147483648 by omega), ofNat_clamp (show a + 1 < 2147483648 by omega), ofNat_clamp (show a < 2147483648 by omega), h2 b hb, h1 b hb, h4 a ha, h3 a ha, e1, e2, i32_eq (show ef b + 1 - bf b < 2147483648 by omega) (show ek a + 1 - bk a < 2147483648 by omega)]
  unfold f12_areAlike_j40 f12_areAlike_j45 f12_areAlike_j102
  have main : ∀ bb : Bool, (bb = decide (ef b - bf b = ek a - bk a)) → Ok (bnd (loopF (fun s_45 => f12_areAlike_b45 (Int32.ofNat b) (Int32.ofNat a) μ (Int32.ofNat (ef b + 1 - bf b)) s_45.1 s_45.2) FU (tz bb, 0)) fun r_45 => gd (isB r_45) (some r_45)) (fun r => r = tz (eqL f k bf ef bk ek b a)) := by
    intro bb hbb
    simp only [Ok_bnd]
    refine Ok.imp (Q := fun r => r = tz (eqL f k bf ef bk ek b a)) ?_ (fun r hr => by rw [hr, tz_B, gd_true, Ok_some])
    refine Ok_count (ef b - bf b) (fun q z => z = (tz (decide (ef b - bf b = ek a - bk a) && decide (∀ t, t < q → f (bf b + t) = k (bk a + t))), Int32.ofNat q)) ?_ 0 ?_ (by omega) (by (show _ < FU; unfold FU; omega))
    · rintro q z hq rfl
      unfold f12_areAlike_b45 f12_areAlike_j94
      have e3 : ef b + 1 - bf b ≤ q + 1 ↔ ef b - bf b ≤ q := by omega
      simp only [ite_tz, i32_succ, i32_le (show ef b + 1 - bf b < 2147483648 by omega) (show q + 1 < 2147483648 by omega), e3]
      by_cases hqe : ef b - bf b ≤ q
      · simp only [if_pos hqe]
        simp only [Ok_stp, Ok_bnd, Ok_bndX, Ok_some, Ok_none, Ok_ite, Ok_gd, inb_iff, isB_iff, lp_inl, lp_inr, Prod.mk.injEq, Sum.inl.injEq, Sum.inr.injEq, reduceCtorEq, forall_eq', false_imp_iff, imp_self, true_and, and_true, implies_true, forall_const]
        have : q = ef b - bf b := by omega
        unfold eqL
        rw [this]
      · simp only [if_neg hqe]
        by_cases hp : (decide (ef b - bf b = ek a - bk a) && decide (∀ t, t < q → f (bf b + t) = k (bk a + t))) = true
        · simp only [hp, Bool.true_eq_false, if_false, if_true]
          simp only [Bool.and_eq_true, decide_eq_true_eq] at hp
          simp only [inb_n (show b < 302 by omega) (by omega), inb_n (show a < 302 by omega) (by omega), gd_true, ofNat_clamp (show b < 2147483648 by omega), ofNat_clamp (show a < 2147483648 by omega), h1 b hb, h3 a ha, ← Int32.ofNat_add, inb_n (show bk a + q < 3000 by omega) (by omega), inb_n (show bf b + q < 3000 by omega) (by omega), ofNat_clamp (show bk a + q < 2147483648 by omega), ofNat_clamp (show bf b + q < 2147483648 by omega), hk (bk a + q) (by omega), hf (bf b + q) (by omega)]
          by_cases hc : f (bf b + q) = k (bk a + q)
          · simp only [if_pos hc, stp]
            simp only [Ok_stp, Ok_bnd, Ok_bndX, Ok_some, Ok_none, Ok_ite, Ok_gd, inb_iff, isB_iff, lp_inl, lp_inr, Prod.mk.injEq, Sum.inl.injEq, Sum.inr.injEq, reduceCtorEq, forall_eq', false_imp_iff, imp_self, true_and, and_true, implies_true, forall_const]
            refine ⟨by omega, ?_⟩
            rw [decide_eq_true hp.1, decide_eq_true (show ∀ t, t < q + 1 → f (bf b + t) = k (bk a + t) from fun t ht => by
              by_cases e : t = q
              · rw [e, hc]
              · exact hp.2 t (by omega))]
            rfl
          · simp only [if_neg hc, stp]
            simp only [Ok_stp, Ok_bnd, Ok_bndX, Ok_some, Ok_none, Ok_ite, Ok_gd, inb_iff, isB_iff, lp_inl, lp_inr, Prod.mk.injEq, Sum.inl.injEq, Sum.inr.injEq, reduceCtorEq, forall_eq', false_imp_iff, imp_self, true_and, and_true, implies_true, forall_const]
            refine ⟨by omega, ?_⟩
            rw [decide_eq_false (show ¬ ∀ t, t < q + 1 → f (bf b + t) = k (bk a + t) from fun z => hc (z q (by omega))), Bool.and_false]
            rfl
        · have h2 : (decide (ef b - bf b = ek a - bk a) && decide (∀ t, t < q → f (bf b + t) = k (bk a + t))) = false := by
            cases hh : (decide (ef b - bf b = ek a - bk a) && decide (∀ t, t < q → f (bf b + t) = k (bk a + t)))
            · rfl
            · exact absurd hh hp
          have h1 : eqL f k bf ef bk ek b a = false := by
            cases he : eqL f k bf ef bk ek b a
            · rfl
            · exfalso
              unfold eqL at he
              simp only [Bool.and_eq_true, decide_eq_true_eq] at he
              apply hp
              simp only [Bool.and_eq_true, decide_eq_true_eq]
              exact ⟨he.1, fun t ht => he.2 t (by omega)⟩
          simp only [h2, Bool.false_eq_true, if_false]
          simp only [Ok_stp, Ok_bnd, Ok_bndX, Ok_some, Ok_none, Ok_ite, Ok_gd, inb_iff, isB_iff, lp_inl, lp_inr, Prod.mk.injEq, Sum.inl.injEq, Sum.inr.injEq, reduceCtorEq, forall_eq', false_imp_iff, imp_self, true_and, and_true, implies_true, forall_const]
          rw [h1]
    · rw [hbb, decide_eq_true (show ∀ t, t < 0 → f (bf b + t) = k (bk a + t) from fun t ht => by omega), Bool.and_true]
      rfl
  by_cases hlen : ef b + 1 - bf b = ek a + 1 - bk a
  · simp only [if_pos hlen]
    exact main true (decide_eq_true (show ef b - bf b = ek a - bk a by omega)).symm
  · simp only [if_neg hlen]
    exact main false (decide_eq_false (show ¬ ef b - bf b = ek a - bk a by omega)).symm
theorem rA_comm {a b : Nat} {r q : Nat → Int32} (h : a ≠ b) : rA (rA σ a r) b q = rA (rA σ b q) a r := by
  unfold rA
  simp only [Prod.mk.injEq, and_true, true_and]
  funext c
  simp only [upr]
  grind
theorem c12_staying (hM : MT μ f n) (hkl : fI μ 2017 16 = Int32.ofNat kn) (hk : ∀ j, j < kn → aI μ 2026 j = k j) (hkn : kn ≤ 3000) (hE : ends f n < 300) (hEk : ends k kn < 300) (hl : isLn f n bf ef) (hlk : isLn k kn bk ek) : ∃ μ', f12_staying μ = some (Int32.ofNat (lc (eqL f k bf ef bk ek) (ends f n + 1) (ends k kn + 1)), μ') ∧ fI μ' = fI μ ∧ fR μ' = fR μ ∧ ∀ a, a < 2050 → aI μ' a = aI μ a := by
  have hn := hM.1
  obtain ⟨r1, p1, p2, p3⟩ := c12_lays (μ := μ) (s := 2018) (t := 2051) rfl rfl (by omega) hM.2.2 hn hE hl hM.2.1
  obtain ⟨r2, p4, p5, p6⟩ := c12_lays (μ := rA μ 2051 r1) (s := 2026) (t := 2050) rfl rfl (by omega) (fun j hj => hk j hj) hkn hEk hlk (x := fI (rA μ 2051 r1) 2017 16) hkl
  generalize hMd : rA (rA μ 2051 r1) 2050 r2 = M
  have gI : fI M = fI μ := by rw [← hMd]; rfl
  have gR : fR M = fR μ := by rw [← hMd]; rfl
  have gA : ∀ a, a < 2050 → aI M a = aI μ a := fun a ha => by rw [← hMd, aI_rA' (by omega), aI_rA' (by omega)]
  have hb1 : ∀ j, j ≤ ends f n → aI M 2051 j = Int32.ofNat (bf j) := fun j hj => by rw [← hMd, aI_rA' (by omega), aI_rA, if_pos rfl]; exact p2 j hj
  have hb2 : ∀ j, j ≤ ends f n → aI M 2051 (j + 1) = Int32.ofNat (ef j + 1) := fun j hj => by rw [← hMd, aI_rA' (by omega), aI_rA, if_pos rfl]; exact lays_next hl p2 p3 hj
  have hb3 : ∀ j, j ≤ ends k kn → aI M 2050 j = Int32.ofNat (bk j) := fun j hj => by rw [← hMd, aI_rA, if_pos rfl]; exact p5 j hj
  have hb4 : ∀ j, j ≤ ends k kn → aI M 2050 (j + 1) = Int32.ofNat (ek j + 1) := fun j hj => by rw [← hMd, aI_rA, if_pos rfl]; exact lays_next hlk p5 p6 hj
  have hMf : ∀ j, j < n → aI M 2018 j = f j := fun j hj => by rw [gA 2018 (by omega)]; exact hM.2.2 j hj
  have hMk : ∀ j, j < kn → aI M 2026 j = k j := fun j hj => by rw [gA 2026 (by omega)]; exact hk j hj
  have alike : ∀ r q a b, a ≤ ends k kn → b ≤ ends f n → f12_areAlike (rA (rA M 2053 q) 2052 r) (Int32.ofNat b) (Int32.ofNat a) = some (tz (eqL f k bf ef bk ek b a)) := fun r q a b ha hb => c12_areAlike (μ := rA (rA M 2053 q) 2052 r) hMf hMk hn hkn hE hEk hl hlk hb1 hb2 hb3 hb4 rfl rfl ha hb
  have key : Ok (f12_staying_j34 M (Int32.ofNat (ends f n + 1)) (Int32.ofNat (ends k kn + 1)) 0) (fun z => ∃ r q, z = (Int32.ofNat (lc (eqL f k bf ef bk ek) (ends f n + 1) (ends k kn + 1)), rA (rA M 2053 q) 2052 r)) := by
    unfold f12_staying_j34
    simp only [Ok_bnd]
    refine Ok.imp (Q := fun z => ∃ q, z = rA M 2053 q ∧ ∀ j, j ≤ ends k kn + 1 → q j = 0) ?_ ?_
    · refine Ok_count (ends k kn + 2) (fun t z => ∃ q, z = (rA M 2053 q, Int32.ofNat t) ∧ ∀ j, j < t → q j = 0) ?_ 0 ⟨aI M 2053, by rw [rA_self]; rfl, fun j hj => by omega⟩ (by omega) (by (show _ < FU; unfold FU; omega))
      rintro t z ht ⟨q, rfl, hr⟩
      unfold f12_staying_b34
      simp only [i32n_lt (show ends k kn + 1 < 2147483648 by omega) (show t < 2147483648 by omega)]
      by_cases hqq : ends k kn + 1 < t
      · simp only [if_pos hqq]
        simp only [Ok_stp, Ok_bnd, Ok_bndX, Ok_some, Ok_none, Ok_ite, Ok_gd, inb_iff, isB_iff, lp_inl, lp_inr, Prod.mk.injEq, Sum.inl.injEq, Sum.inr.injEq, reduceCtorEq, forall_eq', false_imp_iff, imp_self, true_and, and_true, implies_true, forall_const]
        exact ⟨q, rfl, fun j hj => hr j (by omega)⟩
      · simp only [if_neg hqq, inb_n (show t < 302 by omega) (by omega), gd_true, ofNat_clamp (show t < 2147483648 by omega), stp, rA_uA, i32_succ]
        simp only [Ok_stp, Ok_bnd, Ok_bndX, Ok_some, Ok_none, Ok_ite, Ok_gd, inb_iff, isB_iff, lp_inl, lp_inr, Prod.mk.injEq, Sum.inl.injEq, Sum.inr.injEq, reduceCtorEq, forall_eq', false_imp_iff, imp_self, true_and, and_true, implies_true, forall_const]
        refine ⟨by omega, up1 q t 0, rfl, fun j hj => ?_⟩
        unfold up1
        by_cases e : j = t
        · rw [if_pos e]
        · rw [if_neg e]
          exact hr j (by omega)
    · rintro z ⟨q, rfl, hq0⟩
      unfold f12_staying_j54
      simp only [Ok_stp, Ok_bnd]
      refine Ok.imp (Q := fun z => ∃ r q, z = rA (rA M 2053 q) 2052 r ∧ ∀ j, j ≤ ends k kn + 1 → q j = Int32.ofNat (lc (eqL f k bf ef bk ek) (ends f n + 1) j)) ?_ ?_
      · refine Ok_count (ends f n + 1) (fun i z => ∃ r q, z = (rA (rA M 2053 q) 2052 r, Int32.ofNat i) ∧ ∀ j, j ≤ ends k kn + 1 → q j = Int32.ofNat (lc (eqL f k bf ef bk ek) i j)) ?_ 0 ⟨aI (rA M 2053 q) 2052, q, by rw [rA_self]; rfl, fun j hj => by rw [hq0 j hj, lc_0]; rfl⟩ (by omega) (by (show _ < FU; unfold FU; omega))
        rintro i z hi ⟨r, q, rfl, hr⟩
        unfold f12_staying_b54
        simp only [i32_le (show ends f n + 1 < 2147483648 by omega) (show i < 2147483648 by omega)]
        by_cases hii : ends f n + 1 ≤ i
        · simp only [if_pos hii]
          simp only [Ok_stp, Ok_bnd, Ok_bndX, Ok_some, Ok_none, Ok_ite, Ok_gd, inb_iff, isB_iff, lp_inl, lp_inr, Prod.mk.injEq, Sum.inl.injEq, Sum.inr.injEq, reduceCtorEq, forall_eq', false_imp_iff, imp_self, true_and, and_true, implies_true, forall_const]
          have : i = ends f n + 1 := by omega
          rw [← this]
          exact ⟨r, q, rfl, hr⟩
        · simp only [if_neg hii, show inb 0 302 = true from by decide, gd_true, show (0 : Int32).toNatClampNeg = 0 from by decide, stp, rA_uA]
          unfold f12_staying_j69
          simp only [Ok_bnd]
          refine Ok.imp (Q := fun z => ∃ r, z = rA (rA M 2053 q) 2052 r ∧ ∀ j, j ≤ ends k kn + 1 → r j = Int32.ofNat (lc (eqL f k bf ef bk ek) (i + 1) j)) ?_ ?_
          · refine Ok_count (ends k kn + 1) (fun l z => ∃ r, z = (rA (rA M 2053 q) 2052 r, Int32.ofNat l) ∧ ∀ j, j ≤ l → r j = Int32.ofNat (lc (eqL f k bf ef bk ek) (i + 1) j)) ?_ 0 ⟨_, rfl, fun j hj => ?_⟩ (by omega) (by (show _ < FU; unfold FU; omega))
            · rintro l z hlq ⟨r, rfl, hr1⟩
              unfold f12_staying_b69 f12_staying_j124
              simp only [i32_le (show ends k kn + 1 < 2147483648 by omega) (show l < 2147483648 by omega)]
              by_cases hll : ends k kn + 1 ≤ l
              · simp only [if_pos hll]
                simp only [Ok_stp, Ok_bnd, Ok_bndX, Ok_some, Ok_none, Ok_ite, Ok_gd, inb_iff, isB_iff, lp_inl, lp_inr, Prod.mk.injEq, Sum.inl.injEq, Sum.inr.injEq, reduceCtorEq, forall_eq', false_imp_iff, imp_self, true_and, and_true, implies_true, forall_const]
                exact ⟨r, rfl, fun j hj => hr1 j (by omega)⟩
              · have h3 := lc_le (e := eqL f k bf ef bk ek) i l
                have h4 := lc_le (e := eqL f k bf ef bk ek) i (l + 1)
                have h5 := lc_le (e := eqL f k bf ef bk ek) (i + 1) l
                have h6 : lc (eqL f k bf ef bk ek) (i + 1) (l + 1) = _ := lc_s
                have e5 : aI (rA (rA M 2053 q) 2052 r) 2052 = r := by rw [aI_rA, if_pos rfl]
                have e6 : aI (rA (rA M 2053 q) 2052 r) 2053 = q := by rw [aI_rA' (by omega), aI_rA, if_pos rfl]
                simp only [if_neg hll, alike r q l i (by omega) (by omega), bnd_some, ite_tz, i32_succ, inb_n (show l + 1 < 302 by omega) (by omega), inb_n (show l < 302 by omega) (by omega), gd_true, ofNat_clamp (show l + 1 < 2147483648 by omega), ofNat_clamp (show l < 2147483648 by omega), e5, e6, hr1 l (Nat.le_refl _), hr (l + 1) (by omega), hr l (by omega), c12_more, stp, rA_uA, i32n_lt (show lc (eqL f k bf ef bk ek) i (l + 1) < 2147483648 by omega) (show lc (eqL f k bf ef bk ek) (i + 1) l < 2147483648 by omega)]
                have nx : ∀ v, v = Int32.ofNat (lc (eqL f k bf ef bk ek) (i + 1) (l + 1)) → ∀ j, j ≤ l + 1 → up1 r (l + 1) v j = Int32.ofNat (lc (eqL f k bf ef bk ek) (i + 1) j) := by
                  intro v hv j hj
                  unfold up1
                  by_cases e : j = l + 1
                  · rw [if_pos e, e]; exact hv
                  · rw [if_neg e]; exact hr1 j (by omega)
                by_cases he : eqL f k bf ef bk ek i l = true
                · rw [if_pos he] at h6
                  simp only [if_pos he]
                  simp only [Ok_stp, Ok_bnd, Ok_bndX, Ok_some, Ok_none, Ok_ite, Ok_gd, inb_iff, isB_iff, lp_inl, lp_inr, Prod.mk.injEq, Sum.inl.injEq, Sum.inr.injEq, reduceCtorEq, forall_eq', false_imp_iff, imp_self, true_and, and_true, implies_true, forall_const]
                  exact ⟨by omega, _, rfl, nx _ (by rw [h6])⟩
                · rw [if_neg he] at h6
                  simp only [if_neg he]
                  simp only [Ok_stp, Ok_bnd, Ok_bndX, Ok_some, Ok_none, Ok_ite, Ok_gd, inb_iff, isB_iff, lp_inl, lp_inr, Prod.mk.injEq, Sum.inl.injEq, Sum.inr.injEq, reduceCtorEq, forall_eq', false_imp_iff, imp_self, true_and, and_true, implies_true, forall_const]
                  refine ⟨by omega, _, rfl, nx _ ?_⟩
                  rw [h6]
                  split <;> rfl
            · have : j = 0 := by omega
              subst this
              unfold up1
              rw [if_pos rfl, lc_z]
              rfl
          · rintro z ⟨r, rfl, hr1⟩
            unfold f12_staying_j134
            simp only [Ok_stp, Ok_bnd]
            rw [rA_comm (by omega)]
            refine Ok.imp (Q := fun z => ∃ q, z = rA (rA M 2052 r) 2053 q ∧ ∀ j, j ≤ ends k kn + 1 → q j = Int32.ofNat (lc (eqL f k bf ef bk ek) (i + 1) j)) ?_ ?_
            · refine Ok_count (ends k kn + 2) (fun t z => ∃ q, z = (rA (rA M 2052 r) 2053 q, Int32.ofNat t) ∧ ∀ j, j < t → q j = Int32.ofNat (lc (eqL f k bf ef bk ek) (i + 1) j)) ?_ 0 ⟨q, rfl, fun j hj => by omega⟩ (by omega) (by (show _ < FU; unfold FU; omega))
              rintro t z ht ⟨q, rfl, hq1⟩
              have e6 : aI (rA (rA M 2052 r) 2053 q) 2052 = r := by rw [aI_rA' (by omega), aI_rA, if_pos rfl]
              unfold f12_staying_b134
              simp only [i32n_lt (show ends k kn + 1 < 2147483648 by omega) (show t < 2147483648 by omega)]
              by_cases htt : ends k kn + 1 < t
              · simp only [if_pos htt]
                simp only [Ok_stp, Ok_bnd, Ok_bndX, Ok_some, Ok_none, Ok_ite, Ok_gd, inb_iff, isB_iff, lp_inl, lp_inr, Prod.mk.injEq, Sum.inl.injEq, Sum.inr.injEq, reduceCtorEq, forall_eq', false_imp_iff, imp_self, true_and, and_true, implies_true, forall_const]
                exact ⟨q, rfl, fun j hj => hq1 j (by omega)⟩
              · simp only [if_neg htt, inb_n (show t < 302 by omega) (by omega), gd_true, ofNat_clamp (show t < 2147483648 by omega), stp, e6, rA_uA, i32_succ]
                simp only [Ok_stp, Ok_bnd, Ok_bndX, Ok_some, Ok_none, Ok_ite, Ok_gd, inb_iff, isB_iff, lp_inl, lp_inr, Prod.mk.injEq, Sum.inl.injEq, Sum.inr.injEq, reduceCtorEq, forall_eq', false_imp_iff, imp_self, true_and, and_true, implies_true, forall_const]
                refine ⟨by omega, up1 q t (r t), rfl, fun j hj => ?_⟩
                unfold up1
                by_cases e : j = t
                · rw [if_pos e, e]
                  exact hr1 t (by omega)
                · rw [if_neg e]
                  exact hq1 j (by omega)
            · rintro z ⟨q, rfl, hq1⟩
              simp only [stp, i32_succ]
              simp only [Ok_stp, Ok_bnd, Ok_bndX, Ok_some, Ok_none, Ok_ite, Ok_gd, inb_iff, isB_iff, lp_inl, lp_inr, Prod.mk.injEq, Sum.inl.injEq, Sum.inr.injEq, reduceCtorEq, forall_eq', false_imp_iff, imp_self, true_and, and_true, implies_true, forall_const]
              exact ⟨by omega, r, q, by rw [rA_comm (by omega)], hq1⟩
      · rintro z ⟨r, q, rfl, hr⟩
        have e6 : aI (rA (rA M 2053 q) 2052 r) 2053 = q := by rw [aI_rA' (by omega), aI_rA, if_pos rfl]
        simp only [inb_n (show ends k kn + 1 < 302 by omega) (by omega), gd_true, ofNat_clamp (show ends k kn + 1 < 2147483648 by omega), e6, hr (ends k kn + 1) (Nat.le_refl _), Ok_some]
        exact ⟨r, q, rfl⟩
  obtain ⟨z, k1, r, q, rfl⟩ := key
  unfold f12_staying
  rw [p1, bnd_some]
  simp only [stp]
  rw [p4, bnd_some, hMd, k1]
  refine ⟨_, rfl, gI, gR, fun a ha => ?_⟩
  rw [aI_rA' (by omega), aI_rA' (by omega)]
  exact gA a ha
theorem c12_keptLines (hkl : fI μ 2017 16 = Int32.ofNat kn) (hk : ∀ j, j < kn → aI μ 2026 j = k j) (hkn : kn ≤ 3000) : f12_keptLines μ = some (Int32.ofNat (ends k kn + 1)) := by
  apply Ok_eq
  unfold f12_keptLines f12_keptLines_j4
  simp only [Ok_stp, Ok_bnd, Ok_some, Ok_none, Ok_ite, Ok_gd, inb_iff, isB_iff, lp_inl, lp_inr, Prod.mk.injEq]
  refine Ok_count kn (fun q s => s = (Int32.ofNat (ends k q + 1), Int32.ofNat q)) ?_ 0 rfl (by omega) (by (show _ < FU; unfold FU; omega))
  rintro q s hq rfl
  unfold f12_keptLines_b4 f12_keptLines_j29
  rw [hkl]
  simp only [Ok_stp, Ok_bnd, Ok_some, Ok_none, Ok_ite, Ok_gd, inb_iff, isB_iff, lp_inl, lp_inr, Prod.mk.injEq]
  simp (disch := omega) only [ofNat_clamp]
  have := ends_le k q
  generalize aI μ 2026 = g at *
  ((repeat' (first | apply And.intro | intro _)); all_goals grind)
theorem mfr.of {μ μ' : Sto} (h1 : fI μ' = fI μ) (h2 : ∀ a, a < 2050 → aI μ' a = aI μ a) : mfr μ μ' := ⟨fun q _ => by rw [h1], fun a ha => h2 a (by omega)⟩
theorem op_differences (h : Rel σ μ) : Ok (f11_differences σ) (fun p => Ok (f12_differences μ) (fun r => p.1 = r.1 ∧ RQ p.2 r.2 o)) := by
  obtain ⟨⟨f, n, hd, c, cu, ma, lf, ml⟩, L, B, H, T, h0⟩ := id h
  obtain ⟨g, s, m, w, t1, t2, t3, t4, t5, t6, t7, t8⟩ := id h0
  obtain ⟨⟨z1, z2, z3, z4⟩, k, kn, z5, z6, z7⟩ := t5
  have hw := w.cells
  obtain ⟨bf, ef, hl⟩ := lines_fn f n
  obtain ⟨bk, ek, hlk⟩ := lines_fn k kn
  obtain ⟨r1, r2, r3, q1⟩ := c3_countSame s.1 z5 hl hlk (by omega)
  obtain ⟨μ', u1, u2, u3, u4⟩ := c12_staying m.1 z6 z7 z5.1 g.2.1 z5.2.1 hl hlk
  unfold f11_differences f12_differences
  rw [q1, bnd_some]
  simp only [stp, Ok_some]
  rw [c12_lines m.1, bnd_some, c12_keptLines z6 z7 z5.1, bnd_some, u1, bnd_some, c12_told, bnd_some, Ok_some]
  have e1 : fI (rA (rA (rA σ 2012 r1) 2013 r2) 2014 r3) 1998 4 = Int32.ofNat (ends k kn + 1) := z5.2.2.2.1
  have e2 : fI (rA (rA (rA σ 2012 r1) 2013 r2) 2014 r3) 1 4 = Int32.ofNat (ends f n + 1) := s.1.2.2.2.1
  rw [e1, e2, ← lc_flip]
  have fS : ∀ a, ¬ (2012 ≤ a ∧ a ≤ 2014) → aI (rA (rA (rA σ 2012 r1) 2013 r2) 2014 r3) a = aI σ a := fun a ha => by rw [aI_rA' (by omega), aI_rA' (by omega), aI_rA' (by omega)]
  refine ⟨by rw [Int32.add_comm], Rel.thr ⟨_, L, B, H, T, h0.sheet ?_ (mfr.of u2 u4) g (s.congr rfl rfl (fS L (by omega)) (fS B (by omega)) (fS H (by omega)) (fS _ (by omega)) (fS _ (by omega)) (fS _ (by omega))) (m.congr (by rw [u2]) (by rw [u2]) (u4 _ (by omega)) (u4 _ (by omega)) (u4 _ (by omega)) (u4 _ (by omega)) (u4 _ (by omega))) w⟩⟩
  exact Sm.trans (Sm.rA (by unfold nsh; omega)) (Sm.trans (Sm.rA (by unfold nsh; omega)) (Sm.rA (by unfold nsh; omega)))
end R
