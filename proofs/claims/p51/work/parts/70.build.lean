section R
variable {σ σ0 μ : Sto} {K : Nat} {a b l : Nat → Nat} {X : Nat → Nat → Int32} {L B H L' B' H' : Nat} {f O Fg S hd : Nat → Int32} {n m : Nat}
theorem nA_bound {w : Nat} (v : VP n K a b) (hl : ∀ k, k < K → l k ≤ w) : ∀ k, k ≤ K → nA n K a b l k ≤ n + (K - k) * w := by
  refine v.down (by rw [nA_K]; omega) (fun k hk ih => ?_)
  have := hl k hk
  rw [nA_k hk, show K - k = (K - (k + 1)) + 1 by omega, Nat.add_mul, Nat.one_mul]
  omega
theorem ofInt_nat {p : Nat} : Int32.ofNat p = Int32.ofInt (p : Int) := rfl
theorem i32_part {p q r : Nat} (h : p ≤ q) : Int32.ofNat r - (Int32.ofNat q - Int32.ofNat p) = Int32.ofInt ((r : Int) - ((q - p : Nat) : Int)) := by
  rw [i32_sub h, ofInt_nat, ofInt_nat, ← Int32.ofInt_sub]
theorem c1_growth (pc : PC σ K a b l X) (v : VP n K a b) : f1_growth σ = some (Int32.ofInt ((nA n K a b l 0 : Int) - (n : Int))) := by
  obtain ⟨p1, p2, s, p3⟩ := pc
  have key : loopF (fun s_4 => f1_growth_b4 σ s_4.1 s_4.2) FU (0, 0) = some (Int32.ofInt ((nA n K a b l 0 : Int) - (n : Int))) := by
    apply Ok_eq
    refine Ok_count K (fun i t => t = (Int32.ofInt ((nA n K a b l 0 : Int) - (nA n K a b l i : Int)), Int32.ofNat i)) ?_ 0 (by rw [Int.sub_self]; rfl) (by omega) (by (show _ < FU; unfold FU; omega))
    rintro i t hi rfl
    unfold f1_growth_b4
    simp only [p1, i32_le (show K < 2147483648 by omega) (show i < 2147483648 by omega), ofNat_clamp (show i < 2147483648 by omega), stp, i32_succ]
    by_cases hq : K ≤ i
    · have : i = K := by omega
      subst this
      rw [if_pos hq, Ok_some, lp_inr, nA_K]
    · obtain ⟨q1, q2, q3, q4, q5, q6⟩ := p3 i (by omega)
      have hv := v.1 i (by omega)
      have hb := (v.nA_ge (l := l) i (by omega) (by omega)).2
      have hn := nA_k (n := n) (a := a) (b := b) (l := l) (show i < K by omega)
      simp only [if_neg hq, inb_n (show i < 3000 by omega) (by omega), gd_true, q1, q2, q4]
      rw [i32_part hv.1, ← Int32.ofInt_add, Ok_some, lp_inl]
      refine ⟨by omega, ?_⟩
      rw [show ((nA n K a b l 0 : Int) - (nA n K a b l i : Int) + ((l i : Int) - ((b i - a i : Nat) : Int))) = (nA n K a b l 0 : Int) - (nA n K a b l (i + 1) : Int) by omega]
  rw [f1_growth, stp, stp, f1_growth_j4, key, bnd_some]
theorem c1_grown (hn : n ≤ 3000) {N : Nat} (hN : N < 2147483648) : (Int32.ofNat n + Int32.ofInt ((N : Int) - (n : Int)) ≤ 3000 ↔ N ≤ 3000) := by
  rw [ofInt_nat, ← Int32.ofInt_add, show (n : Int) + ((N : Int) - (n : Int)) = (N : Int) by omega, ← ofInt_nat]
  exact i32_le (b := 3000) hN (by omega)
theorem c1_findStillHidden (ct : CT σ 1 L B f n) (cl : CL L B H) (hH : fR σ 1 3 = H + 1) {hd : Nat → Int32} (hh : ∀ j, j ≤ ends f n → aI σ H j = hd j) (h01 : ∀ j, j ≤ ends f n → hd j = 0 ∨ hd j = 1) (pc : PC σ K a b l X) (v : VP n K a b) : ∃ r S, f1_findStillHidden σ 1 = some (rA σ 23 r) ∧ OP (TK f K a b 0) hd (ends f n + 1) S ∧ (∀ j, j ≤ ends f n → r j = S j) ∧ ∀ j, j ≤ ends f n → S j = 0 ∨ S j = 1 := by
  obtain ⟨p1, p2, s, p3⟩ := id pc
  have hn := ct.1
  have hE := ct.2.1
  have u4 := ct.2.2.2.1
  have hL23 : L ≠ 23 ∧ B ≠ 23 := by
    unfold CL at cl
    omega
  have key : ∀ r0 : Nat → Int32, (∀ j, j ≤ ends f n → r0 j = hd j) → Ok (loopF (fun s_19 => f1_findStillHidden_b19 1 s_19.1 s_19.2) FU (rA σ 23 r0, 0)) (fun t => ∃ r S, t = rA σ 23 r ∧ OP (TK f K a b 0) hd (ends f n + 1) S ∧ ∀ j, j ≤ ends f n → r j = S j) := by
    intro r0 hr0
    refine Ok_count K (fun i t => ∃ r S, t = (rA σ 23 r, Int32.ofNat i) ∧ OP (fun t => ∃ j, j < i ∧ ends f (a j) ≤ t ∧ t ≤ ends f (b j)) hd (ends f n + 1) S ∧ ∀ j, j ≤ ends f n → r j = S j) ?_ 0 ⟨r0, hd, rfl, OP.rf.weak (fun t _ => ⟨fun z => z.elim, fun ⟨j, j1, _⟩ => by omega⟩), hr0⟩ (by omega) (by (show _ < FU; unfold FU; omega))
    rintro i t hi ⟨r, S, rfl, o1, o2⟩
    unfold f1_findStillHidden_b19
    have e1 : fI (rA σ 23 r) 13 4 = Int32.ofNat K := p1
    have e2 : aI (rA σ 23 r) 15 = aI σ 15 := rfl
    have e3 : aI (rA σ 23 r) 14 = aI σ 14 := rfl
    simp only [e1, e2, e3, i32_le (show K < 2147483648 by omega) (show i < 2147483648 by omega), ofNat_clamp (show i < 2147483648 by omega)]
    by_cases hq : K ≤ i
    · rw [if_pos hq, Ok_some, lp_inr]
      exact ⟨r, S, rfl, o1.weak (fun t _ => ⟨fun ⟨j, j1, j2⟩ => ⟨j, Nat.zero_le _, by omega, j2⟩, fun ⟨j, _, j1, j2⟩ => ⟨j, by omega, j2⟩⟩), o2⟩
    · obtain ⟨q1, q2, q3, q4, q5, q6⟩ := p3 i (by omega)
      have hv := v.1 i (by omega)
      have ctr : ∀ r, CT (rA σ 23 r) 1 L B f n := fun r => ct.congr rfl rfl (aI_rA' hL23.1) (aI_rA' hL23.2)
      have ha := ends_mono (f := f) hv.1
      have hb := ends_mono (f := f) hv.2
      simp only [if_neg hq, inb_n (show i < 3000 by omega) (by omega), gd_true, q1, q2]
      rw [c8_lineWith (ctr r) rfl hv.2, bnd_some, stp, c8_lineWith (ctr r) rfl (by omega : a i ≤ n), bnd_some, stp]
      have inner : Ok (loopF (fun s_50 => f1_findStillHidden_b50 1 s_50.1 (Int32.ofNat i) (Int32.ofNat (ends f (b i))) s_50.2) FU (rA σ 23 r, Int32.ofNat (ends f (a i)))) (fun t => ∃ r S, t = rA σ 23 r ∧ OP (fun t => ∃ j, j < i + 1 ∧ ends f (a j) ≤ t ∧ t ≤ ends f (b j)) hd (ends f n + 1) S ∧ ∀ j, j ≤ ends f n → r j = S j) := by
        refine Ok_count (ends f (b i) + 1 - ends f (a i)) (fun k t => ∃ r S', t = (rA σ 23 r, Int32.ofNat (ends f (a i) + k)) ∧ OP (fun t => ends f (a i) ≤ t ∧ t < ends f (a i) + k) S (ends f n + 1) S' ∧ ∀ j, j ≤ ends f n → r j = S' j) ?_ 0 ⟨r, S, rfl, OP.rf.weak (fun t _ => ⟨fun z => z.elim, fun z => by omega⟩), o2⟩ (by omega) (by (show _ < FU; unfold FU; omega))
        rintro k t hk ⟨r, S', rfl, o3, o4⟩
        unfold f1_findStillHidden_b50
        simp only [i32n_lt (show ends f (b i) < 2147483648 by omega) (show ends f (a i) + k < 2147483648 by omega)]
        by_cases hq2 : ends f (b i) < ends f (a i) + k
        · rw [if_pos hq2, Ok_some, lp_inr]
          refine ⟨r, S', rfl, (o1.trans o3).weak (fun t _ => ?_), o4⟩
          constructor
          · rintro (⟨j, j1, j2⟩ | j2)
            · exact ⟨j, by omega, j2⟩
            · exact ⟨i, by omega, by omega⟩
          · rintro ⟨j, j1, j2⟩
            by_cases e : j = i
            · rw [e] at j2
              exact Or.inr (by omega)
            · exact Or.inl ⟨j, by omega, j2⟩
        · have u4r : fI (rA σ 23 r) 1 4 = Int32.ofNat (ends f n + 1) := u4
          obtain ⟨h2, c2, ho⟩ := isOp.ex (h := S') (m := ends f n + 1) (j := ends f (a i) + k) (by omega)
          obtain ⟨r3, x1, x2⟩ := c11_openFold (σ := rA σ 23 r) (H := 23) (x := fI (rA σ 23 r) 1 4) rfl (by omega) (by omega) u4r rfl (fun j hj => by rw [aI_rA, if_pos rfl]; exact o4 j (by omega)) ho
          rw [if_neg hq2, x1, bnd_some]
          simp only [stp, i32_succ, rA_rA]
          rw [Ok_some, lp_inl]
          exact ⟨by omega, r3, h2, rfl, (o3.trans (ho.OP (by omega))).weak (fun t _ => by omega), fun j hj => x2 j (by omega)⟩
      obtain ⟨t, k1, r', S', rfl, k2, k3⟩ := inner
      rw [f1_findStillHidden_j50, k1, bnd_some]
      simp only [stp, i32_succ]
      rw [Ok_some, lp_inl]
      exact ⟨by omega, r', S', rfl, k2, k3⟩
  have l23 : ln 23 = 300 := rfl
  have e0 : (0 : Int32) = Int32.ofNat 0 := rfl
  have cp : cpok (0 : Int32) (0 : Int32) (Int32.ofNat (ends f n + 1)) 300 300 = true := cpok_t (a := 0) (b := 0) (by omega) (by omega) (by omega) (by omega) (by omega)
  have k0 : (0 : Int32).toNatClampNeg = 0 := by decide
  have fz : fitZ (aI σ H) 0 (ends f n + 1) = true := fitZ_t (fun i hi => by
    rw [Nat.zero_add, hh i (by omega)]
    exact h01 i (by omega))
  obtain ⟨t, k1, r, S, rfl, k2, k3⟩ := key (va_cpy (aI σ H) (aI σ 23) 0 0 (ends f n + 1)) (fun j hj => by
    rw [cpy_at (by omega), Nat.zero_add]
    exact hh j hj)
  refine ⟨r, S, ?_, k2, k3, fun j hj => ?_⟩
  · unfold f1_findStillHidden
    rw [hH, Nat.add_sub_cancel, okr_s.mpr cl.kcs.2.2.2.2.1, cl.kcs.2.2.2.2.2, u4]
    simp only [gd_true, cp, k0, ofNat_clamp (show ends f n + 1 < 2147483648 by omega), fz, stp]
    rw [f1_findStillHidden_j19, k1, bnd_some]
  · rcases k2.or j (by omega) with w | w
    · rw [w]
      exact h01 j hj
    · exact Or.inl w
/-- the whole build -/
theorem c1_build (ct : CT σ 1 L B f n) (cl : CL L B H) (al : AL σ L' B' H') (hne : L ≠ L') (hlt : ∀ i, i < n → isLt (f i) = true) (hH : fR σ 1 3 = H + 1) {hd : Nat → Int32} (hh : ∀ j, j ≤ ends f n → aI σ H j = hd j) (h01 : ∀ j, j ≤ ends f n → hd j = 0 ∨ hd j = 1) (pc : PC σ K a b l X) (v : VP n K a b) (h6 : fI σ 13 6 = 0) : (3000 < nA n K a b l 0 ∧ f1_build σ 1 = some (0, σ)) ∨ (nA n K a b l 0 ≤ 3000 ∧ ∃ σ' S, f1_build σ 1 = some ((if ends (spA f K a b l X 0) (nA n K a b l 0) < 300 then 1 else 0), σ') ∧ OP (TK f K a b 0) hd (ends f n + 1) S ∧ Sm (fun a => a ≠ 13 ∧ a ≠ L' ∧ a ≠ B' ∧ a ≠ H' ∧ a ≠ 23) σ σ' ∧ fR σ' = fR σ ∧ (∀ k, k ≠ 8 → k ≠ 11 → fI σ' 13 k = fI σ 13 k) ∧ fI σ' 13 8 = Int32.ofNat (nA n K a b l 0) ∧ fI σ' 13 11 = Int32.ofNat (ends (spA f K a b l X 0) (nA n K a b l 0) + 1) ∧ (∀ j, j < nA n K a b l 0 → aI σ' L' j = spA f K a b l X 0 j) ∧ ∀ j, j ≤ ends (spA f K a b l X 0) (nA n K a b l 0) → j < 300 → ∃ p, isBg (spA f K a b l X 0) j p ∧ aI σ' B' j = Int32.ofNat p ∧ aI σ' H' j = if p = 0 then 0 else spA (fl f S) K a b l (fun _ _ => 0) 0 (p - 1)) := by
  obtain ⟨p1, p2, s, p3⟩ := id pc
  have hn := ct.1
  have hE := ct.2.1
  have u3 := ct.2.2.1
  have hcs := cl.sep al.1 hne
  have hb0 := nA_bound (n := n) (l := l) (w := 3000) v (fun k hk => by have := (p3 k hk).2.2.2.2.1; omega) 0 (Nat.zero_le _)
  have hb : nA n K a b l 0 < 2147483648 := by
    have : (K - 0) * 3000 ≤ 3000 * 3000 := Nat.mul_le_mul (by omega) (Nat.le_refl _)
    omega
  unfold f1_build f1_build_j22
  rw [h6, if_pos rfl, c1_growth pc v, bnd_some, u3]
  simp only [c1_grown hn hb]
  by_cases hN : nA n K a b l 0 ≤ 3000
  · right
    rw [if_pos hN]
    refine ⟨hN, ?_⟩
    obtain ⟨r, S, k1, k2, k3, k4⟩ := c1_findStillHidden ct cl hH hh h01 pc v
    rw [k1, bnd_some, stp, stp]
    have ne23 : L ≠ 23 ∧ B ≠ 23 := by
      unfold CL at cl
      omega
    have ne23' : L' ≠ 23 ∧ B' ≠ 23 ∧ H' ≠ 23 := ⟨Ne.symm hcs.2.2.2.2.1, Ne.symm hcs.2.2.2.2.2.1, Ne.symm hcs.2.2.2.2.2.2.1⟩
    generalize hσ0 : uI (uI (rA σ 23 r) 13 8 0) 13 11 0 = σ0
    have f1 : Sm (fun a => a ≠ 13 ∧ a ≠ 23) σ σ0 := by
      rw [← hσ0]
      exact Sm.trans (Sm.rA (by omega)) (Sm.trans (Sm.uI (by omega)) (Sm.uI (by omega)))
    have f2 : fR σ0 = fR σ := by rw [← hσ0]; rfl
    have f3 : ∀ k, k ≠ 8 → k ≠ 11 → fI σ0 13 k = fI σ 13 k := fun k k1 k2 => by
      rw [← hσ0, fI_uI, if_pos rfl, if_neg k2, fI_uI, if_pos rfl, if_neg k1]
      rfl
    have f4 : fI σ0 13 8 = 0 := by rw [← hσ0]; rfl
    have f5 : fI σ0 13 11 = 0 := by rw [← hσ0]; rfl
    have f6 : ∀ j, j ≤ ends f n → aI σ0 23 j = S j ∧ (S j = 0 ∨ S j = 1) := fun j hj => by
      refine ⟨?_, k4 j hj⟩
      rw [← hσ0]
      show aI (rA σ 23 r) 23 j = _
      rw [aI_rA, if_pos rfl]
      exact k3 j hj
    have f7 : ∀ a, a ≠ 23 → aI σ0 a = aI σ a := fun a ha => by
      rw [← hσ0]
      show aI (rA σ 23 r) a = _
      rw [aI_rA' ha]
    clear hσ0
    have ct0 : CT σ0 1 L B f n := ct.congr (f1 1 (by decide)).1 (by rw [f2]) (f7 L ne23.1) (f7 B ne23.2)
    have al0 : AL σ0 L' B' H' := ⟨al.1, by rw [f2]; exact al.2.1, by rw [f2]; exact al.2.2.1, by rw [f2]; exact al.2.2.2⟩
    have pc0 : PC σ0 K a b l X := pc.congr (f3 4 (by decide) (by decide)) (fun r r1 r2 => f7 r (by omega))
    generalize hO : spA f K a b l X 0 = O
    generalize hFg : spA (fl f S) K a b l (fun _ _ => 0) 0 = Fg
    have hB0 : BC σ0 L' B' H' O Fg σ0 0 0 0 := ⟨Sm.rf, rfl, fun _ _ _ => rfl, f4, f5, fun j hj => by omega, fun j hj => by omega⟩
    obtain ⟨σ1, a1, a2⟩ := c1_addLine hB0 al0 (q := 0) (x := 0) (v := 0) rfl ⟨rfl, Or.inl rfl⟩ (by omega) (Or.inl rfl) (by rw [if_pos rfl])
    rw [a1, bnd_some, stp, stp]
    have hNm : ∀ k, k ≤ K → mA a b l k ≤ nA n K a b l 0 := fun k hk => by have := (v.nA_m (l := l) k hk).1; omega
    have key : Ok (loopF (fun s_49 => f1_build_b49 1 s_49.1 s_49.2.1 s_49.2.2) FU (σ1, 0, 0)) (fun t => t.2 = Int32.ofNat (eA b K) ∧ BC σ0 L' B' H' O Fg t.1 (mA a b l K) (mA a b l K) (ends O (mA a b l K) + 1)) := by
      refine Ok_count K (fun i t => t.2 = (Int32.ofNat (eA b i), Int32.ofNat i) ∧ BC σ0 L' B' H' O Fg t.1 (mA a b l i) (mA a b l i) (ends O (mA a b l i) + 1)) ?_ 0 ⟨rfl, a2⟩ (by omega) (by (show _ < FU; unfold FU; omega))
      rintro i ⟨M, y⟩ hi ⟨e, hM⟩
      have e : y = (Int32.ofNat (eA b i), Int32.ofNat i) := e
      subst e
      have hM : BC σ0 L' B' H' O Fg M (mA a b l i) (mA a b l i) (ends O (mA a b l i) + 1) := hM
      have w4 : fI M 13 4 = Int32.ofNat K := by rw [hM.2.2.1 4 (by decide) (by decide), f3 4 (by decide) (by decide)]; exact p1
      unfold f1_build_b49
      simp only [w4, i32_le (show K < 2147483648 by omega) (show i < 2147483648 by omega), ofNat_clamp (show i < 2147483648 by omega)]
      by_cases hq : K ≤ i
      · rw [if_pos hq, Ok_some, lp_inr, show K = i by omega]
        exact ⟨rfl, hM⟩
      · have hiK : i < K := by omega
        obtain ⟨q1, q2, q3, q4, q5, q6⟩ := p3 i hiK
        have hv := v.1 i hiK
        have he := (v.eA_le (show i ≤ K by omega)).1
        unfold pre at he
        rw [if_pos hiK] at he
        have hm1 := hNm (i + 1) (by omega)
        rw [mA] at hm1
        have w14 : aI M 14 = aI σ 14 := by rw [(hM.1 14 ⟨by decide, by have := al.1; unfold CL at this; omega⟩).2.2.1, f7 14 (by decide)]
        have hsp := v.spA_m (f := f) (l := l) (X := X) i (by omega)
        have hsf := v.spA_m (f := fl f S) (l := l) (X := fun _ _ => 0) i (by omega)
        rw [hO] at hsp
        rw [hFg] at hsf
        have hO1 : ∀ j, j < a i - eA b i → O (mA a b l i + j) = f (eA b i + j) := fun j hj => by
          rw [hsp j, v.spA_pre i (by omega) _ (by unfold pre; rw [if_pos hiK]; omega)]
        have hF1 : ∀ j, j < a i - eA b i → Fg (mA a b l i + j) = S (ends f (eA b i + j + 1)) := fun j hj => by
          rw [hsf j, v.spA_pre i (by omega) _ (by unfold pre; rw [if_pos hiK]; omega)]
          rfl
        have hO2 : ∀ j, j < l i → O (mA a b l i + (a i - eA b i) + j) = X i j := fun j hj => by
          rw [Nat.add_assoc, hsp, spA_k hiK, sp, if_neg (by omega), if_pos (by omega)]
          congr 1
          omega
        have hF2 : ∀ j, j < l i → Fg (mA a b l i + (a i - eA b i) + j) = 0 := fun j hj => by
          rw [Nat.add_assoc, hsf, spA_k hiK, sp, if_neg (by omega), if_pos (by omega)]
        obtain ⟨M1, b1, b2⟩ := c1_takeOver hM al0 ct0 cl hne hlt f6 (p := eA b i) (q := a i) rfl rfl he (by omega) (by omega) hO1 hF1
        obtain ⟨M2, b3, b4⟩ := c1_putPart b2 al0 pc0 hiK (by omega) hO2 hF2
        have w15 : aI M2 15 = aI σ 15 := by rw [(b4.1 15 ⟨by decide, by have := al.1; unfold CL at this; omega⟩).2.2.1, f7 15 (by decide)]
        rw [if_neg hq]
        simp only [inb_n (show i < 3000 by omega) (by omega), gd_true, w14, q1]
        rw [b1, bnd_some, b3, bnd_some]
        simp only [w15, q2, stp, i32_succ]
        rw [Ok_some, lp_inl]
        exact ⟨by omega, rfl, b4⟩
    obtain ⟨⟨M, y⟩, c1, c2, c3⟩ := key
    have c2 : y = Int32.ofNat (eA b K) := c2
    subst c2
    have c3 : BC σ0 L' B' H' O Fg M (mA a b l K) (mA a b l K) (ends O (mA a b l K) + 1) := c3
    have hsp := v.spA_m (f := f) (l := l) (X := X) K (Nat.le_refl _)
    have hsf := v.spA_m (f := fl f S) (l := l) (X := fun _ _ => 0) K (Nat.le_refl _)
    rw [hO, spA_K] at hsp
    rw [hFg, spA_K] at hsf
    obtain ⟨hm1, hm2⟩ := v.nA_m (l := l) K (Nat.le_refl _)
    rw [nA_K] at hm1 hm2
    have m1 : fI M 1 1 = Int32.ofNat n := by rw [(c3.1 1 ⟨by decide, hcs.2.2.2.2.2.2.2⟩).1]; exact ct0.2.2.1
    obtain ⟨M1, b1, b2⟩ := c1_takeOver c3 al0 ct0 cl hne hlt f6 (p := eA b K) (q := n) rfl rfl hm2 (Nat.le_refl _) (by omega) (fun j _ => hsp j) (fun j _ => hsf j)
    rw [hm1] at b2
    obtain ⟨g1, g2, g3, g4, g5, g6, g7⟩ := b2
    rw [f1_build_j49, c1, bnd_some, m1, b1, bnd_some, g5]
    have hEN := ends_le O (nA n K a b l 0)
    have e300 : (300 : Int32) < Int32.ofNat (ends O (nA n K a b l 0) + 1) ↔ ¬ ends O (nA n K a b l 0) < 300 := by
      have := i32n_lt (a := 300) (b := ends O (nA n K a b l 0) + 1) (by omega) (by omega)
      rw [show (300 : Int32) = Int32.ofNat 300 from rfl, this]
      omega
    have z1 : isB 1 = true := rfl
    have z0 : isB 0 = true := rfl
    unfold f1_build_j112
    simp only [e300, z1, z0, gd_true]
    refine ⟨M1, S, ?_, k2, ?_, by rw [g2, f2], fun k k1 k2 => by rw [g3 k k1 k2, f3 k k1 k2], g4, g5, g6, fun j j1 j2 => by rw [hFg]; exact g7 j (by omega) j2⟩
    · by_cases w : ends O (nA n K a b l 0) < 300
      · rw [if_neg (fun z => z w), if_pos w]
      · rw [if_pos w, if_neg w]
    · exact (f1.weak (fun a ha => ⟨ha.1, ha.2.2.2.2⟩)).trans (g1.weak (fun a ha => ⟨ha.1, ha.2.1, ha.2.2.1, ha.2.2.2.1⟩))
  · left
    rw [if_neg hN]
    exact ⟨by omega, rfl⟩
/-- the reference's count of it -/
theorem c12_isTooMuch (mt : MT μ f n) (pr : PRp μ K a b l X) (v : VP n K a b) : f12_isTooMuch μ = some (tz (decide (3000 < nA n K a b l 0 ∨ 300 ≤ ends (spA f K a b l X 0) (nA n K a b l 0)))) := by
  obtain ⟨p1, p2, s, p3⟩ := id pr
  have hn := mt.1
  have hLN : ∀ i, i < K → ends (spA f K a b l X i) (nA n K a b l i) + (ends f (b i)) = ends f (a i) + ends (X i) (l i) + ends (spA f K a b l X (i + 1)) (nA n K a b l (i + 1)) := fun i hi => by
    have hb := (v.nA_ge (l := l) i (by omega) hi).2
    have hv := v.1 i hi
    have hpl := v.pre_le hi
    have := ends_sp3 (f := spA f K a b l X (i + 1)) (a := a i) (b := b i) (l := l i) (x := X i) (i := nA n K a b l (i + 1) - b i)
    rw [v.ends_pre (by omega) hpl.1, v.ends_pre (by omega) hpl.2] at this
    rw [spA_k hi, nA_k hi]
    rw [show a i + l i + (nA n K a b l (i + 1) - b i) = nA n K a b l (i + 1) - (b i - a i) + l i by omega, show b i + (nA n K a b l (i + 1) - b i) = nA n K a b l (i + 1) by omega] at this
    exact this
  generalize hE : (fun i => ends (spA f K a b l X i) (nA n K a b l i)) = E at *
  have hEi : ∀ i, ends (spA f K a b l X i) (nA n K a b l i) = E i := fun i => by rw [← hE]
  simp only [hEi] at hLN ⊢
  have hEK : E K = ends f n := by rw [← hE]; show ends (spA f K a b l X K) (nA n K a b l K) = _; rw [spA_K, nA_K]
  have key : loopF (fun s_12 => f12_isTooMuch_b12 μ s_12.1 s_12.2.1 s_12.2.2) FU (Int32.ofNat n, Int32.ofNat (ends f n + 1), 0) = some (Int32.ofNat (nA n K a b l 0), Int32.ofNat (E 0 + 1)) := by
    apply Ok_eq
    refine Ok_count K (fun i t => t = (Int32.ofInt ((n : Int) + (nA n K a b l 0 : Int) - (nA n K a b l i : Int)), Int32.ofInt ((ends f n : Int) + 1 + (E 0 : Int) - (E i : Int)), Int32.ofNat i)) ?_ 0 ?_ (by omega) (by (show _ < FU; unfold FU; omega))
    · rintro i t hi rfl
      unfold f12_isTooMuch_b12
      simp only [p1, i32_le (show K < 2147483648 by omega) (show i < 2147483648 by omega), ofNat_clamp (show i < 2147483648 by omega), stp, i32_succ]
      by_cases hq : K ≤ i
      · have : i = K := by omega
        subst this
        rw [if_pos hq, Ok_some, lp_inr, nA_K, hEK]
        rw [show (n : Int) + (nA n i a b l 0 : Int) - (n : Int) = (nA n i a b l 0 : Int) by omega, show (ends f n : Int) + 1 + (E 0 : Int) - (ends f n : Int) = ((E 0 + 1 : Nat) : Int) by omega]
        rfl
      · have hiK : i < K := by omega
        obtain ⟨q1, q2, q3, q4, q5, q6⟩ := p3 i hiK
        have hv := v.1 i hiK
        have hab := ends_mono (f := f) hv.1
        have hb := (v.nA_ge (l := l) i (by omega) hiK).2
        have hn2 := nA_k (n := n) (a := a) (b := b) (l := l) hiK
        simp only [if_neg hq, inb_n (show i < 3001 by omega) (by omega), gd_true, q1, q2, q4]
        rw [i32_part hv.1, ← Int32.ofInt_add, c12_endsIn pr rfl hiK, bnd_some]
        have hl2 := hLN i hiK
        have inner : ∀ y0 : Int, loopF (fun s_59 => f12_isTooMuch_b59 μ (Int32.ofInt ((n : Int) + (nA n K a b l 0 : Int) - (nA n K a b l i : Int) + ((l i : Int) - ((b i - a i : Nat) : Int)))) s_59.1 (Int32.ofNat i) s_59.2) FU (Int32.ofInt y0, Int32.ofNat (a i)) = some (Int32.ofInt (y0 - ((ends f (b i) : Int) - (ends f (a i) : Int)))) := by
          intro y0
          apply Ok_eq
          refine Ok_count (b i - a i) (fun j t => t = (Int32.ofInt (y0 - ((ends f (a i + j) : Int) - (ends f (a i) : Int))), Int32.ofNat (a i + j))) ?_ 0 (by rw [Nat.add_zero, Int.sub_self, Int.sub_zero]) (by omega) (by (show _ < FU; unfold FU; omega))
          rintro j t hj rfl
          unfold f12_isTooMuch_b59 f12_isTooMuch_j88
          simp only [inb_n (show i < 3001 by omega) (by omega), gd_true, ofNat_clamp (show i < 2147483648 by omega), q2, i32_le (show b i < 2147483648 by omega) (show a i + j < 2147483648 by omega), stp, i32_succ]
          by_cases hq2 : b i ≤ a i + j
          · rw [if_pos hq2, Ok_some, lp_inr, show a i + j = b i by omega]
          · have hs := ends_succ f (a i + j)
            simp only [if_neg hq2, inb_n (show a i + j < 3000 by omega) (by omega), gd_true, ofNat_clamp (show a i + j < 2147483648 by omega), mt.2.2 _ (show a i + j < n by omega)]
            by_cases h10 : f (a i + j) = 10
            · rw [if_pos h10] at hs
              rw [if_pos h10, Ok_some, lp_inl]
              refine ⟨by omega, ?_⟩
              rw [show (1 : Int32) = Int32.ofInt 1 from rfl, ← Int32.ofInt_sub, show a i + (j + 1) = a i + j + 1 by omega, hs]
              congr 2
              omega
            · rw [if_neg h10] at hs
              rw [if_neg h10, Ok_some, lp_inl]
              refine ⟨by omega, ?_⟩
              rw [show (0 : Int32) = Int32.ofInt 0 from rfl, ← Int32.ofInt_sub, show a i + (j + 1) = a i + j + 1 by omega, hs]
              congr 2
              omega
        rw [f12_isTooMuch_j59, ofInt_nat (p := ends (X i) (l i)), ← Int32.ofInt_add, inner, bnd_some, stp, i32_succ, Ok_some, lp_inl]
        refine ⟨by omega, ?_⟩
        rw [show (n : Int) + (nA n K a b l 0 : Int) - (nA n K a b l i : Int) + ((l i : Int) - ((b i - a i : Nat) : Int)) = (n : Int) + (nA n K a b l 0 : Int) - (nA n K a b l (i + 1) : Int) by omega, show (ends f n : Int) + 1 + (E 0 : Int) - (E i : Int) + (ends (X i) (l i) : Int) - ((ends f (b i) : Int) - (ends f (a i) : Int)) = (ends f n : Int) + 1 + (E 0 : Int) - (E (i + 1) : Int) by omega]
    · rw [show (n : Int) + (nA n K a b l 0 : Int) - (nA n K a b l 0 : Int) = (n : Int) by omega, show (ends f n : Int) + 1 + (E 0 : Int) - (E 0 : Int) = ((ends f n + 1 : Nat) : Int) by omega]
      rfl
  have hb0 := nA_bound (n := n) (l := l) (w := 3200) v (fun k hk => by have := (p3 k hk).2.2.2.2.1; omega) 0 (Nat.zero_le _)
  have hmul : (K - 0) * 3200 ≤ 3000 * 3200 := Nat.mul_le_mul (by omega) (Nat.le_refl _)
  have hE0 : E 0 ≤ nA n K a b l 0 := by rw [← hE]; exact ends_le _ _
  have e1 : (3000 : Int32) < Int32.ofNat (nA n K a b l 0) ↔ 3000 < nA n K a b l 0 := i32n_lt (a := 3000) (by omega) (by omega)
  have e2 : Int32.ofNat (E 0 + 1) ≤ 300 ↔ E 0 + 1 ≤ 300 := i32_le (b := 300) (by omega) (by omega)
  unfold f12_isTooMuch f12_isTooMuch_j12 f12_isTooMuch_j116 f12_isTooMuch_j121
  have z1 : isB 1 = true := rfl
  have z0 : isB 0 = true := rfl
  rw [mt.2.1, stp, c12_lines mt, bnd_some, stp, stp, key, bnd_some]
  simp only [e1, e2, z1, z0, gd_true]
  by_cases c1 : 3000 < nA n K a b l 0
  · rw [if_pos c1, decide_eq_true (Or.inl c1)]
    rfl
  · rw [if_neg c1]
    by_cases c2 : E 0 + 1 ≤ 300
    · rw [if_pos c2, decide_eq_false (by omega)]
      rfl
    · rw [if_neg c2, decide_eq_true (by omega)]
      rfl
end R
