/-! the law puts the text together by itself -/
def SCI (x0 x : LawS) (f : Nat → Int32) (n K : Nat) (a b l : Nat → Nat) (X : Nat → Nat → Int32) (j at_ q : Nat) : Prop :=
  at_ ≤ n + 1 ∧ j ≤ K ∧ eA b j ≤ at_ ∧ (at_ ≤ pre n K a j ∨ (j = K ∧ at_ = n + 1)) ∧ q = mA a b l j + (min at_ n - eA b j) ∧ x.2 = x0.2 ∧ FR (fun b => b ≠ 42 ∧ b ≠ 46) x0 x ∧ (∀ i, i < q → x.1 42 (400 + i) = spA f K a b l X 0 i) ∧ ∀ i, i < 3500 → (x.1 46 i = 0 ∨ x.1 46 i = 1) ∧ ((∃ k, k < j ∧ pbg a b l k ≤ i ∧ i ≤ pbg a b l k + l k) → x.1 46 i = 1)
section SC
variable {x0 x : LawS} {f : Nat → Int32} {n pn m K j at_ q : Nat} {a b l : Nat → Nat} {X : Nat → Nat → Int32} {v : Int32} {l14 l15 l17 l18 : Int32}
theorem scan_put (hq : q + m ≤ 3000) (hm : m ≤ 40) : ∃ y, loopF (fun s_386 => fL_replacesAll_b386 (Int32.ofNat pn) v (Int32.ofNat m) l14 l15 s_386.1 (Int32.ofNat q) l17 l18 s_386.2) FU (x, 0) = some y ∧ y.2 = x.2 ∧ FR (fun b => b ≠ 42) x y ∧ (∀ i, i < 400 + q → y.1 42 i = x.1 42 i) ∧ ∀ t, t < m → y.1 42 (400 + (q + t)) = x.1 43 t := by
  have key : Ok (loopF (fun s_386 => fL_replacesAll_b386 (Int32.ofNat pn) v (Int32.ofNat m) l14 l15 s_386.1 (Int32.ofNat q) l17 l18 s_386.2) FU (x, 0)) (fun y => y.2 = x.2 ∧ FR (fun b => b ≠ 42) x y ∧ (∀ i, i < 400 + q → y.1 42 i = x.1 42 i) ∧ ∀ t, t < m → y.1 42 (400 + (q + t)) = x.1 43 t) := by
    refine Ok_count m (fun k z => ∃ y, z = (y, Int32.ofNat k) ∧ y.2 = x.2 ∧ FR (fun b => b ≠ 42) x y ∧ (∀ i, i < 400 + q → y.1 42 i = x.1 42 i) ∧ ∀ t, t < k → y.1 42 (400 + (q + t)) = x.1 43 t) ?_ 0 ⟨x, rfl, rfl, FR.rf, fun _ _ => rfl, fun t ht => by omega⟩ (Nat.zero_le _) (by (show _ < FU; unfold FU; omega))
    rintro k z hk ⟨y, rfl, e1, e2, e3, e4⟩
    show Ok (fL_replacesAll_b386 (Int32.ofNat pn) v (Int32.ofNat m) l14 l15 y (Int32.ofNat q) l17 l18 (Int32.ofNat k)) _
    unfold fL_replacesAll_b386
    by_cases h : m ≤ k
    · rw [if_pos ((i32_le (by omega) (by omega)).mpr h), Ok_some, lp_inr]
      exact ⟨e1, e2, e3, fun t ht => e4 t (by omega)⟩
    · have e5 : ((400 : Int32) + Int32.ofNat q) + Int32.ofNat k = Int32.ofNat (400 + (q + k)) := by
        rw [show (400 : Int32) + Int32.ofNat q = Int32.ofNat (400 + q) from i32_add (p := 400), i32_add, show 400 + q + k = 400 + (q + k) by omega]
      rw [if_neg (fun z => h ((i32_le (by omega) (by omega)).mp z)), inb_n (show k < 40 by omega) (by omega), gd_true, e5, i35 (by omega), gd_true, ofNat_clamp (by omega), ofNat_clamp (by omega), stp, stp, i32_succ, Ok_some, lp_inl]
      refine ⟨by omega, _, rfl, e1, e2.trans (FR.uT (fun b hb => hb)), fun i hi => ?_, fun t ht => ?_⟩
      · show up2 y.1 42 (400 + (q + k)) _ 42 i = _
        rw [up2_at, if_neg (by omega)]
        exact e3 i hi
      · show up2 y.1 42 (400 + (q + k)) (y.1 43 k) 42 (400 + (q + t)) = _
        rw [up2_at]
        by_cases e : t = k
        · rw [if_pos (by omega), e, e2 43 (by decide)]
        · rw [if_neg (by omega)]
          exact e4 t (by omega)
  obtain ⟨y, k1, k2⟩ := key
  exact ⟨y, k1, k2⟩
theorem scan_mark (hq : q + m ≤ 3000) (hm : m ≤ 40) : ∃ y, loopF (fun s_418 => fL_replacesAll_b418 (Int32.ofNat pn) v (Int32.ofNat m) l14 l15 s_418.1 (Int32.ofNat q) l17 l18 s_418.2) FU (x, 0) = some y ∧ y.2 = x.2 ∧ FR (fun b => b ≠ 46) x y ∧ ∀ i, y.1 46 i = if q ≤ i ∧ i ≤ q + m then 1 else x.1 46 i := by
  have key : Ok (loopF (fun s_418 => fL_replacesAll_b418 (Int32.ofNat pn) v (Int32.ofNat m) l14 l15 s_418.1 (Int32.ofNat q) l17 l18 s_418.2) FU (x, 0)) (fun y => y.2 = x.2 ∧ FR (fun b => b ≠ 46) x y ∧ ∀ i, y.1 46 i = if q ≤ i ∧ i ≤ q + m then 1 else x.1 46 i) := by
    refine Ok_count (m + 1) (fun k z => ∃ y, z = (y, Int32.ofNat k) ∧ y.2 = x.2 ∧ FR (fun b => b ≠ 46) x y ∧ ∀ i, y.1 46 i = if q ≤ i ∧ i < q + k then 1 else x.1 46 i) ?_ 0 ⟨x, rfl, rfl, FR.rf, fun i => by rw [if_neg (by omega)]⟩ (Nat.zero_le _) (by (show _ < FU; unfold FU; omega))
    rintro k z hk ⟨y, rfl, e1, e2, e3⟩
    show Ok (fL_replacesAll_b418 (Int32.ofNat pn) v (Int32.ofNat m) l14 l15 y (Int32.ofNat q) l17 l18 (Int32.ofNat k)) _
    unfold fL_replacesAll_b418
    by_cases h : m < k
    · rw [if_pos ((i32n_lt (by omega) (by omega)).mpr h), Ok_some, lp_inr]
      refine ⟨e1, e2, fun i => ?_⟩
      rw [e3 i]
      by_cases z : q ≤ i ∧ i < q + k
      · rw [if_pos z, if_pos (by omega)]
      · rw [if_neg z, if_neg (by omega)]
    · rw [if_neg (fun z => h ((i32n_lt (by omega) (by omega)).mp z)), i32_add, i35 (by omega), gd_true, ofNat_clamp (by omega), stp, stp, i32_succ, nar_b (Or.inr rfl), Ok_some, lp_inl]
      refine ⟨by omega, _, rfl, e1, e2.trans (FR.uT (fun b hb => hb)), fun i => ?_⟩
      show up2 y.1 46 (q + k) 1 46 i = _
      rw [up2_at, e3 i]
      by_cases e : i = q + k
      · rw [if_pos e, if_pos (by omega)]
      · rw [if_neg e]
        by_cases z : q ≤ i ∧ i < q + k
        · rw [if_pos z, if_pos (by omega)]
        · rw [if_neg z, if_neg (by omega)]
  obtain ⟨y, k1, k2⟩ := key
  exact ⟨y, k1, k2⟩
theorem scan_step {P : Nat → Bool} (F : Fnd P n pn m K a b l) (hpn : 1 ≤ pn ∧ pn ≤ 8) (hn : n ≤ 3000) (hm : m ≤ 12) (hN : nA n K a b l 0 ≤ 3000) (hK : K ≤ 3000) (hX : ∀ k t, k < K → t < m → X k t = x0.1 43 t) (hf : ∀ i, i < n → x0.1 41 (400 + i) = f i) (h0 : x0.1 41 0 = Int32.ofNat n) (hP : ∀ p, p ≤ n → lkP x0 41 n pn v p = P p) (I : SCI x0 x f n K a b l X j at_ q) (hat : at_ ≤ n) : ∃ x' j' at' q', fL_replacesAll_b352 x (Int32.ofNat pn) v (Int32.ofNat m) l14 l15 (Int32.ofNat q) (Int32.ofNat at_) (Int32.ofNat j) = some (.inl (x', Int32.ofNat q', Int32.ofNat at', Int32.ofNat j')) ∧ at_ < at' ∧ SCI x0 x' f n K a b l X j' at' q' := by
  obtain ⟨V, f1, f2⟩ := F
  obtain ⟨s1, s2, s3, s4, s5, s6, s7, s8, s9⟩ := I
  have hmin : min at_ n = at_ := by omega
  have i0 : inb (0 : Int32) 3500 = true := by decide
  have c0 : (0 : Int32).toNatClampNeg = 0 := by decide
  have hpre : at_ ≤ pre n K a j := by
    rcases s4 with z | ⟨-, z⟩
    · exact z
    · omega
  have hn41 : x.1 41 = x0.1 41 := s7 41 (by decide)
  have hn43 : x.1 43 = x0.1 43 := s7 43 (by decide)
  have hn44 : x.1 44 = x0.1 44 := s7 44 (by decide)
  have h41 : x.1 41 0 = Int32.ofNat n := by rw [hn41]; exact h0
  have hNj := V.nA_m (l := l) j s2
  have hpn2 := V.pre_nA (l := l) s2
  have hq3 : q ≤ nA n K a b l 0 := by rw [s5, hmin]; omega
  have eAP := V.eA_le s2
  -- what does not match is copied
  have copy : (at_ < n → P at_ = false) → ∃ x' j' at' q', fL_replacesAll_j460 (Int32.ofNat pn) v (Int32.ofNat m) l14 l15 x (Int32.ofNat q) (Int32.ofNat at_) (Int32.ofNat j) = some (.inl (x', Int32.ofNat q', Int32.ofNat at', Int32.ofNat j')) ∧ at_ < at' ∧ SCI x0 x' f n K a b l X j' at' q' := by
    intro hno
    unfold fL_replacesAll_j460
    rw [i0, gd_true, c0, h41]
    by_cases z : n ≤ at_
    · have hatn : at_ = n := by omega
      have hjK : j = K := by
        rcases Nat.lt_or_ge j K with y | y
        · unfold pre at hpre
          rw [if_pos y] at hpre
          have h1 := (f1 j y).2.1
          have h2 := V.1 j y
          omega
        · omega
      rw [if_pos ((i32_le (by omega) (by omega)).mpr z)]
      unfold fL_replacesAll_j484
      rw [i0, gd_true, c0, h41, if_pos ((i32_le (by omega) (by omega)).mpr z)]
      unfold fL_replacesAll_j499
      rw [show fL_one 0 = some 0 from rfl, bnd_some, stp, stp, Int32.add_zero, i32_succ]
      exact ⟨x, j, at_ + 1, q, rfl, by omega, by omega, s2, by omega, Or.inr ⟨hjK, by omega⟩, by rw [s5]; congr 1; omega, s6, s7, s8, s9⟩
    · have hlt : at_ < pre n K a j := by
        rcases Nat.lt_or_ge at_ (pre n K a j) with y | y
        · exact y
        · exfalso
          have he : at_ = pre n K a j := by omega
          unfold pre at he
          split at he <;> rename_i w
          · have h1 := (f1 j w).2.2
            rw [← he, hno (by omega)] at h1
            cases h1
          · omega
      have e4 : (400 : Int32) + Int32.ofNat at_ = Int32.ofNat (400 + at_) := i32_add (p := 400)
      have e5 : (400 : Int32) + Int32.ofNat q = Int32.ofNat (400 + q) := i32_add (p := 400)
      have h41' : (uT x 42 (400 + q) (x.1 41 (400 + at_))).1 41 0 = Int32.ofNat n := by
        show up2 x.1 42 (400 + q) (x.1 41 (400 + at_)) 41 0 = _
        rw [up2_ne (by decide)]
        exact h41
      rw [if_neg (fun y => z ((i32_le (by omega) (by omega)).mp y)), e4, e5, i35 (by omega), i35 (by omega), gd_true, gd_true, ofNat_clamp (by omega), ofNat_clamp (by omega), stp]
      unfold fL_replacesAll_j484
      rw [i0, gd_true, c0, h41', if_neg (fun y => z ((i32_le (by omega) (by omega)).mp y))]
      unfold fL_replacesAll_j499
      rw [show fL_one 1 = some 1 from rfl, bnd_some, stp, stp, i32_succ, i32_succ]
      refine ⟨_, j, at_ + 1, q + 1, rfl, by omega, by omega, s2, by omega, Or.inl (by omega), by omega, s6, s7.trans (FR.uT (fun b hb => hb.1)), fun i hi => ?_, fun i hi => ?_⟩
      · show up2 x.1 42 (400 + q) (x.1 41 (400 + at_)) 42 (400 + i) = _
        rw [up2_at]
        by_cases e : i = q
        · rw [if_pos (by omega), hn41, hf _ (by omega), e, s5, hmin]
          exact (sp_gap V s2 s3 hlt).symm
        · rw [if_neg (by omega)]
          exact s8 i (by omega)
      · show (up2 x.1 42 (400 + q) (x.1 41 (400 + at_)) 46 i = 0 ∨ up2 x.1 42 (400 + q) (x.1 41 (400 + at_)) 46 i = 1) ∧ (_ → up2 x.1 42 (400 + q) (x.1 41 (400 + at_)) 46 i = 1)
        rw [up2_ne (by decide)]
        exact s9 i hi
  unfold fL_replacesAll_b352
  rw [i0, gd_true, c0, h41, if_neg (fun y => by have := (i32n_lt (by omega) (by omega)).mp y; omega), gd_true]
  by_cases z : n ≤ at_
  · rw [if_pos ((i32_le (by omega) (by omega)).mpr z)]
    exact copy (fun y => by omega)
  · have hfd := fL_find (τ := x) (a0 := 41) (v := v) (by decide) h41 hn hpn.2 (show at_ ≤ 3000 by omega)
    have hfd : fL_isFind x 41 (Int32.ofNat at_) (Int32.ofNat pn) v = some (tz (P at_)) := by
      rw [hfd, hn41, hn44]
      exact congrArg (fun b => some (tz b)) (hP at_ hat)
    rw [if_neg (fun y => z ((i32_le (by omega) (by omega)).mp y)), hfd, bnd_some, ite_tz]
    by_cases hf2 : P at_ = true
    · -- a find
      have hjK : j < K := by
        rcases Nat.lt_or_ge j K with y | y
        · exact y
        · have hpn3 : pre n K a j = n := by unfold pre; rw [if_neg (by omega)]
          have := f2 j s2 at_ s3 (by omega)
          rw [this] at hf2
          cases hf2
      have hpj : pre n K a j = a j := by unfold pre; rw [if_pos hjK]
      have hata : at_ = a j := by
        rcases Nat.lt_or_ge at_ (a j) with y | y
        · have := f2 j s2 at_ s3 (by omega)
          rw [this] at hf2
          cases hf2
        · omega
      obtain ⟨g1, g2, g3⟩ := f1 j hjK
      have hqb : q = pbg a b l j := by rw [s5, hmin, hata]; rfl
      have hNj1 := V.nA_m (l := l) (j + 1) (by omega)
      rw [mA_s, ← hqb, g1] at hNj1
      have hqm : q + m ≤ 3000 := by omega
      rw [if_pos hf2, stp]
      unfold fL_replacesAll_j386
      obtain ⟨y, y1, y2, y3, y4, y5⟩ := scan_put (x := x) (pn := pn) (v := v) (l14 := l14) (l15 := l15) (l17 := Int32.ofNat at_) (l18 := Int32.ofNat j) hqm (show m ≤ 40 by omega)
      rw [y1, bnd_some, stp]
      unfold fL_replacesAll_j418
      obtain ⟨w, w1, w2, w3, w4⟩ := scan_mark (x := y) (pn := pn) (v := v) (l14 := l14) (l15 := l15) (l17 := Int32.ofNat at_) (l18 := Int32.ofNat j) hqm (show m ≤ 40 by omega)
      rw [w1, bnd_some, i32_add, i32_add, i32_succ, stp, stp, stp]
      have hpl := (V.pre_le hjK).2
      have hpnn := V.pre_n (k := j + 1)
      refine ⟨w, j + 1, at_ + pn, q + m, rfl, by omega, by omega, by omega, ?_, Or.inl (by omega), ?_, ?_, ?_, fun i hi => ?_, fun i hi => ?_⟩
      · show b j ≤ at_ + pn
        omega
      · rw [mA_s, ← hqb, g1]
        show q + m = q + m + (min (at_ + pn) n - b j)
        omega
      · rw [w2, y2, s6]
      · exact s7.trans ((y3.weak (fun b hb => hb.1) : FR (fun b => b ≠ 42 ∧ b ≠ 46) x y).trans (w3.weak (fun b hb => hb.2)))
      · rw [w3 42 (by decide)]
        by_cases e : i < q
        · rw [y4 (400 + i) (by omega)]
          exact s8 i e
        · obtain ⟨t, rfl⟩ : ∃ t, i = q + t := ⟨i - q, by omega⟩
          rw [y5 t (by omega), hn43, ← hX j t hjK (by omega), hqb]
          exact (sp_put V hjK (by omega)).symm
      · rw [w4 i, y3 46 (by decide)]
        by_cases e : q ≤ i ∧ i ≤ q + m
        · rw [if_pos e]
          exact ⟨Or.inr rfl, fun _ => rfl⟩
        · rw [if_neg e]
          refine ⟨(s9 i hi).1, fun hh => (s9 i hi).2 ?_⟩
          obtain ⟨k, k1, k2, k3⟩ := hh
          by_cases ek : k = j
          · rw [ek, ← hqb, g1] at k3
            rw [ek, ← hqb] at k2
            omega
          · exact ⟨k, by omega, k2, k3⟩
    · rw [if_neg hf2]
      exact copy (fun _ => by simpa using hf2)
theorem scan_all {P : Nat → Bool} (F : Fnd P n pn m K a b l) (hpn : 1 ≤ pn ∧ pn ≤ 8) (hn : n ≤ 3000) (hm : m ≤ 12) (hN : nA n K a b l 0 ≤ 3000) (hK : K ≤ 3000) (hX : ∀ k t, k < K → t < m → X k t = x0.1 43 t) (hf : ∀ i, i < n → x0.1 41 (400 + i) = f i) (h0 : x0.1 41 0 = Int32.ofNat n) (hP : ∀ p, p ≤ n → lkP x0 41 n pn v p = P p) (hz : ∀ i, i < 3500 → x0.1 46 i = 0) : ∃ x, loopF (fun s_352 => fL_replacesAll_b352 s_352.1 (Int32.ofNat pn) v (Int32.ofNat m) l14 l15 s_352.2.1 s_352.2.2.1 s_352.2.2.2) FU (x0, 0, 0, 0) = some (x, Int32.ofNat (nA n K a b l 0), Int32.ofNat K) ∧ SCI x0 x f n K a b l X K (n + 1) (nA n K a b l 0) := by
  have key : Ok (loopF (fun s_352 => fL_replacesAll_b352 s_352.1 (Int32.ofNat pn) v (Int32.ofNat m) l14 l15 s_352.2.1 s_352.2.2.1 s_352.2.2.2) FU (x0, 0, 0, 0)) (fun r => ∃ x, r = (x, Int32.ofNat (nA n K a b l 0), Int32.ofNat K) ∧ SCI x0 x f n K a b l X K (n + 1) (nA n K a b l 0)) := by
    refine Ok_count (n + 1) (fun k z => ∃ x j at_ q, z = (x, Int32.ofNat q, Int32.ofNat at_, Int32.ofNat j) ∧ k ≤ at_ ∧ SCI x0 x f n K a b l X j at_ q) ?_ 0 ⟨x0, 0, 0, 0, rfl, Nat.le_refl _, by omega, Nat.zero_le _, Nat.zero_le _, Or.inl (Nat.zero_le _), by rw [Nat.zero_min, Nat.zero_sub]; rfl, rfl, FR.rf, fun i hi => by omega, fun i hi => ⟨Or.inl (hz i hi), fun ⟨k, k1, _⟩ => by omega⟩⟩ (Nat.zero_le _) (by (show _ < FU; unfold FU; omega))
    rintro k z hk ⟨x, j, at_, q, rfl, hka, I⟩
    show Ok (fL_replacesAll_b352 x (Int32.ofNat pn) v (Int32.ofNat m) l14 l15 (Int32.ofNat q) (Int32.ofNat at_) (Int32.ofNat j)) _
    by_cases z : at_ ≤ n
    · obtain ⟨x', j', at', q', e1, e2, e3⟩ := scan_step (l14 := l14) (l15 := l15) F hpn hn hm hN hK hX hf h0 hP I z
      rw [e1, Ok_some, lp_inl]
      have := e3.1
      exact ⟨by omega, x', j', at', q', rfl, by omega, e3⟩
    · have hI := I
      obtain ⟨s1, s2, s3, s4, s5, s6, s7, s8, s9⟩ := I
      have i0 : inb (0 : Int32) 3500 = true := by decide
      have c0 : (0 : Int32).toNatClampNeg = 0 := by decide
      have hat : at_ = n + 1 := by omega
      have hjK : j = K := by
        rcases s4 with y | ⟨y, -⟩
        · have := F.1.pre_n (k := j)
          omega
        · exact y
      have hNK := F.1.nA_m (l := l) K (Nat.le_refl _)
      rw [nA_K] at hNK
      have hqN : q = nA n K a b l 0 := by
        rw [s5, hat, hjK, show min (n + 1) n = n by omega]
        exact hNK.1
      subst hat hjK
      rw [hqN] at hI
      unfold fL_replacesAll_b352
      rw [i0, gd_true, c0, s7 41 (by decide), h0, if_pos ((i32n_lt (by omega) (by omega)).mpr (by omega)), Ok_some, lp_inr, hqN]
      exact ⟨x, rfl, hI⟩
  obtain ⟨r, k1, x, rfl, k2⟩ := key
  exact ⟨x, k1, k2⟩
end SC
