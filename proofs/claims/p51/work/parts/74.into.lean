/-! an act done -/
/-- the relation, whatever is said of the tapes -/
def RelT (P : Int32 → (Nat → Int32) → Int32 → (Nat → Int32) → Prop) (σ μ : Sto) (D : Doc) (L B H : Nat) (T : Hst) : Prop :=
  GD D ∧ SC σ 1 L B H D ∧ SM μ D ∧ SW σ L B H ∧ P (fI σ 8 1) (aI σ 9) (fI μ 2017 11) (aI μ 2023) ∧ RC (fI σ 10) (fI σ 11 1) (aI σ 12) (fI μ 2017 12) (fI μ 2017 13) (fI μ 2017 14) (aI μ 2024) ∧ RP (fI σ 1990 1) (fI σ 1989 1) (aI σ 1991) (fI μ 2017 15) (fI μ 2017 19) (aI μ 2025) ∧ RV (fI σ 0 10) (fI μ 2017 17) (aI σ 2015) (aI σ 2016) (aI μ 2027) (aI μ 2028) ∧ RKp σ μ ∧ RS σ μ ∧ RG (fI σ 24 3) (fI σ 24 4) (fI μ 2017 34) (fI μ 2017 33) ∧ RH σ μ T
section R
variable {K n : Nat} {a b l : Nat → Nat} {X : Nat → Nat → Int32} {f : Nat → Int32}
theorem VP.spA_ext2 (v : VP n K a b) {g g' : Nat → Int32} {Y : Nat → Nat → Int32} (e : ∀ i, i < n → g i = g' i) : ∀ k, k ≤ K → ∀ q, q < nA n K a b l k → spA g K a b l Y k q = spA g' K a b l Y k q := by
  refine v.down (fun q hq => by rw [spA_K, spA_K]; rw [nA_K] at hq; exact e q hq) (fun k hk ih q hq => ?_)
  have h2 := v.1 k hk
  have h3 := (v.nA_ge (l := l) k (by omega) hk).2
  rw [nA_k hk] at hq
  rw [spA_k hk, spA_k hk, sp, sp]
  by_cases c1 : q < a k
  · rw [if_pos c1, if_pos c1, ih q (by omega)]
  · by_cases c2 : q < a k + l k
    · rw [if_neg c1, if_pos c2, if_neg c1, if_pos c2]
    · rw [if_neg c1, if_neg c2, if_neg c1, if_neg c2, ih _ (by omega)]
theorem VP.spA_lt (v : VP n K a b) (hf : ∀ i, i < n → isLt (f i) = true) (hx : ∀ k, k < K → ∀ i, i < l k → isLt (X k i) = true) : ∀ k, k ≤ K → ∀ q, q < nA n K a b l k → isLt (spA f K a b l X k q) = true := by
  refine v.down (fun q hq => by rw [spA_K]; rw [nA_K] at hq; exact hf q hq) (fun k hk ih q hq => ?_)
  have h2 := v.1 k hk
  have h3 := (v.nA_ge (l := l) k (by omega) hk).2
  rw [nA_k hk] at hq
  rw [spA_k hk, sp]
  by_cases c1 : q < a k
  · rw [if_pos c1]
    exact ih q (by omega)
  · by_cases c2 : q < a k + l k
    · rw [if_neg c1, if_pos c2]
      exact hx k hk _ (by omega)
    · rw [if_neg c1, if_neg c2]
      exact ih _ (by omega)
end R
section R
variable {σ μ : Sto} {K : Nat} {a b l : Nat → Nat} {X : Nat → Nat → Int32} {L B H L' B' H' : Nat} {f : Nat → Int32} {n c : Nat} {hd : Nat → Int32} {cu : Nat → Nat} {ma lf ml : Nat → Int32} {T : Hst}
theorem RelT.act {P : Int32 → (Nat → Int32) → Int32 → (Nat → Int32) → Prop} {σ' μ' : Sto} {D D' : Doc} {T' : Hst} (h : RelT P σ μ D L B H T) (hs : Sm (fun a => a = 0 ∨ (8 ≤ a ∧ a ≤ 12) ∨ (1989 ≤ a ∧ a ≤ 2005) ∨ a = 2015 ∨ a = 2016) σ σ') (hm1 : ∀ k, ((11 ≤ k ∧ k ≤ 19 ∧ k ≠ 18) ∨ k = 50 ∨ k = 51) → fI μ' 2017 k = fI μ 2017 k) (hm2 : ∀ a, ((2023 ≤ a ∧ a ≤ 2028) ∨ (2044 ≤ a ∧ a ≤ 2048)) → aI μ' a = aI μ a) (g : GD D') (s : SC σ' 1 L' B' H' D') (m : SM μ' D') (w : SW σ' L' B' H') (rg : RG (fI σ' 24 3) (fI σ' 24 4) (fI μ' 2017 34) (fI μ' 2017 33)) (rh : RH σ' μ' T') : RelT P σ' μ' D' L' B' H' T' := by
  obtain ⟨_, _, _, _, t1, t2, t3, t4, t5, t6, t7, t8⟩ := h
  refine ⟨g, s, m, w, ?_, ?_, ?_, ?_, t5.congr (hs.weak (by omega)) (hm1 16 (by omega)) (hm2 2026 (by omega)), t6.congr (hs.weak (by omega)) (hm1 50 (by omega)) (hm1 51 (by omega)) (fun a a1 a2 => hm2 a (by omega)), rg, rh⟩
  · rw [(hs 8 (by omega)).1, (hs 9 (by omega)).2.2.1, hm1 11 (by omega), hm2 2023 (by omega)]
    exact t1
  · rw [(hs 10 (by omega)).1, (hs 11 (by omega)).1, (hs 12 (by omega)).2.2.1, hm1 12 (by omega), hm1 13 (by omega), hm1 14 (by omega), hm2 2024 (by omega)]
    exact t2
  · rw [(hs 1990 (by omega)).1, (hs 1989 (by omega)).1, (hs 1991 (by omega)).2.2.1, hm1 15 (by omega), hm1 19 (by omega), hm2 2025 (by omega)]
    exact t3
  · rw [(hs 0 (by omega)).1, (hs 2015 (by omega)).2.2.1, (hs 2016 (by omega)).2.2.1, hm1 17 (by omega), hm2 2027 (by omega), hm2 2028 (by omega)]
    exact t4
/-- what only planning and building write -/
def scr (L' B' H' a : Nat) : Prop := (13 ≤ a ∧ a ≤ 19) ∨ a = 23 ∨ a = L' ∨ a = B' ∨ a = H'
theorem RelT.plan {P : Int32 → (Nat → Int32) → Int32 → (Nat → Int32) → Prop} {σ' μ' : Sto} {D : Doc} (h : RelT P σ μ D L B H T) (al : AL σ L' B' H') (cl : CL L B H) (hne : L ≠ L') (hs : Sm (fun a => ¬ scr L' B' H' a) σ σ') (hr : fR σ' = fR σ) (hm1 : ∀ k, k ≠ 27 → k ≠ 28 → k ≠ 42 → fI μ' 2017 k = fI μ 2017 k) (hm2 : ∀ a, a < 2029 ∨ 2033 < a → a ≠ 2043 → aI μ' a = aI μ a) : RelT P σ' μ' D L B H T := by
  have hc : (¬ scr L' B' H' 1 ∧ ¬ scr L' B' H' L ∧ ¬ scr L' B' H' B ∧ ¬ scr L' B' H' H ∧ ¬ scr L' B' H' 5 ∧ ¬ scr L' B' H' 6 ∧ ¬ scr L' B' H' 7) ∧ ∀ a, nsh a → ¬ scr L' B' H' a := by
    have acl := al.1
    unfold scr nsh
    rcases cl with ⟨rfl, rfl, rfl⟩ | ⟨rfl, rfl, rfl⟩ <;> rcases acl with ⟨rfl, rfl, rfl⟩ | ⟨rfl, rfl, rfl⟩ <;> first | exact absurd rfl hne | (exact ⟨by decide, fun a ha => by omega⟩)
  obtain ⟨⟨c1, c2, c3, c4, c5, c6, c7⟩, c8⟩ := hc
  have hs2 := hs.weak c8
  have ht := h.2.2.2.2.2.2.2.2.2.2
  refine h.act (hs2.weak (fun a ha => by unfold nsh; omega)) (fun k hk => hm1 k (by omega) (by omega) (by omega)) (fun a ha => hm2 a (by omega) (by omega)) h.1 (h.2.1.congr (hs 1 c1).1 (by rw [hr]) (hs L c2).2.2.1 (hs B c3).2.2.1 (hs H c4).2.2.1 (hs 5 c5).2.2.1 (hs 6 c6).2.2.1 (hs 7 c7).2.2.1) (h.2.2.1.congr (hm1 5 (by decide) (by decide) (by decide)) (hm1 6 (by decide) (by decide) (by decide)) (hm2 2018 (by omega) (by omega)) (hm2 2019 (by omega) (by omega)) (hm2 2020 (by omega) (by omega)) (hm2 2021 (by omega) (by omega)) (hm2 2022 (by omega) (by omega))) ?_ ?_ ?_
  · have w := h.2.2.2.1
    unfold SW
    rw [hr]
    exact w
  · rw [(hs2 24 (Or.inr (Or.inr (Or.inl (by omega))))).1, hm1 34 (by decide) (by decide) (by decide), hm1 33 (by decide) (by decide) (by decide)]
    exact ht.1
  · exact ht.2.congr (hs2.weak (fun a ha => Or.inr (Or.inr (Or.inl (by omega))))) (by rw [(hs2 24 (Or.inr (Or.inr (Or.inl (by omega))))).1]) (by rw [hr]) (hm1 31 (by decide) (by decide) (by decide)) (hm1 32 (by decide) (by decide) (by decide)) (fun a a1 a2 => hm2 a (by omega) (by omega))
theorem SW.alt (w : SW σ L B H) : ∃ L' B' H', CL L B H ∧ AL σ L' B' H' ∧ L ≠ L' := by
  rcases w with ⟨rfl, rfl, rfl, h1, h2, h3⟩ | ⟨rfl, rfl, rfl, h1, h2, h3⟩
  · exact ⟨20, 21, 22, Or.inl ⟨rfl, rfl, rfl⟩, ⟨Or.inr ⟨rfl, rfl, rfl⟩, h1, h2, h3⟩, by decide⟩
  · exact ⟨2, 3, 4, Or.inr ⟨rfl, rfl, rfl⟩, ⟨Or.inl ⟨rfl, rfl, rfl⟩, h1, h2, h3⟩, by decide⟩
theorem c8_settleF (s : SC σ 1 L B H (f, n, hd, c, cu, ma, lf, ml)) (w : CL L B H) (hc : 1 ≤ c ∧ c ≤ 8) (hb : ∀ i, i < c → cu i ≤ n) {σ' : Sto} (e : f8_settleCursors σ 1 = some σ') : Sm (fun a => a ≠ 1 ∧ a ≠ 5 ∧ a ≠ H) σ σ' := by
  have hne : H ≠ 5 ∧ L ≠ 5 ∧ B ≠ 5 ∧ L ≠ H ∧ B ≠ H := by
    unfold CL at w
    omega
  obtain ⟨s1, ⟨s2, s3, s4, s5⟩, ⟨s6, s7⟩, s8, s9⟩ := s
  obtain ⟨r, q, d, r', h', k1, k2, k3, k4, k5⟩ := c8_settle s1 ⟨s2, s3, s4⟩ hne s5 s6 hc.1 hc.2 s7 hb
  rw [k1] at e
  cases e
  exact Sm.trans (Sm.rA (by omega)) (Sm.trans (Sm.uI (by omega)) (Sm.rA (by omega)))
theorem c1_moveInto {O : Nat → Int32} {N : Nat} {Hd : Nat → Int32} (cl : CL L B H) (al : AL σ L' B' H') (hne : L ≠ L') (r0 : fR σ 1 0 = L + 1) (r2 : fR σ 1 2 = B + 1) (r3 : fR σ 1 3 = H + 1) (h8 : fI σ 13 8 = Int32.ofNat N) (h11 : fI σ 13 11 = Int32.ofNat (ends O N + 1)) (hN : N ≤ 3000) (hE : ends O N < 300) (hL : ∀ j, j < N → aI σ L' j = O j) (hB : ∀ j, j ≤ ends O N → ∃ p, isBg O j p ∧ aI σ B' j = Int32.ofNat p) (hH : ∀ j, j ≤ ends O N → aI σ H' j = Hd j) (pc : PC σ K a b l X) (v : VP n K a b) (hn : n ≤ 3000) (eN : N = nA n K a b l 0) (h6 : fI σ 1 6 = Int32.ofNat c) (hc : 1 ≤ c ∧ c ≤ 8) (h5 : ∀ i, i < c → aI σ 5 i = Int32.ofNat (cu i)) (hcu : ∀ i, i < c → cu i ≤ n) (hma : ∀ i, i < 16 → aI σ 6 i = ma i) (hlf : ∀ i, i < 16 → aI σ 7 i = lf i) (hm : ∀ i, i < 16 → ma i = -1 ∨ ∃ p, p ≤ n ∧ ma i = Int32.ofNat p) (hvis : ∀ i, i < c → Hd (ends O (mvA K a b l 0 0 (cu i))) = 0) : ∃ σ' q d, f1_moveInto σ 1 = some σ' ∧ isCu c (fun i => mvA K a b l 0 0 (cu i)) q d ∧ SC σ' 1 L' B' H' (O, N, Hd, q, d, (fun i => mvN' K a b l (lf i) (ma i) 0), lf, ml) ∧ SW σ' L' B' H' ∧ Sm nsh σ σ' ∧ (∀ a, a ≠ 1 → a ≠ 13 → fR σ' a = fR σ a) ∧ fI σ' 18 = fI σ 18 ∧ aI σ' 19 = aI σ 19 := by
  have acl := al.1
  have hsep := cl.sep acl hne
  have cells : 5 ≠ L' ∧ 5 ≠ B' ∧ 5 ≠ H' ∧ 6 ≠ L' ∧ 6 ≠ B' ∧ 6 ≠ H' := by
    rcases acl with ⟨rfl, rfl, rfl⟩ | ⟨rfl, rfl, rfl⟩ <;> decide
  generalize hM : uR (uR (uR (uI (uI (uR (uR (uR σ 1 0 (L' + 1)) 1 2 (B' + 1)) 1 3 (H' + 1)) 1 1 (Int32.ofNat N)) 1 4 (Int32.ofNat (ends O N + 1))) 13 7 (L + 1)) 13 9 (B + 1)) 13 10 (H + 1) = M
  have mA : aI M = aI σ := by rw [← hM]; rfl
  have mI : ∀ a, a ≠ 1 → fI M a = fI σ a := fun a ha => by
    rw [← hM]
    show fI (uI (uI _ 1 1 _) 1 4 _) a = _
    rw [fI_uI' ha, fI_uI' ha]
    rfl
  have m11 : fI M 1 1 = Int32.ofNat N := by rw [← hM]; rfl
  have m14 : fI M 1 4 = Int32.ofNat (ends O N + 1) := by rw [← hM]; rfl
  have m16 : fI M 1 6 = Int32.ofNat c := by rw [← hM]; exact h6
  have mR1 : fR M 1 0 = L' + 1 ∧ fR M 1 2 = B' + 1 ∧ fR M 1 3 = H' + 1 ∧ fR M 13 7 = L + 1 ∧ fR M 13 9 = B + 1 ∧ fR M 13 10 = H + 1 := by
    rw [← hM]
    exact ⟨rfl, rfl, rfl, rfl, rfl, rfl⟩
  have mRo : ∀ a, a ≠ 1 → a ≠ 13 → fR M a = fR σ a := fun a a1 a2 => by
    rw [← hM]
    show fR (uR (uR (uR (uI (uI (uR (uR (uR σ 1 0 _) 1 2 _) 1 3 _) 1 1 _) 1 4 _) 13 7 _) 13 9 _) 13 10 _) a = _
    rw [fR_uR' a2, fR_uR' a2, fR_uR' a2]
    show fR (uR (uR (uR σ 1 0 _) 1 2 _) 1 3 _) a = _
    rw [fR_uR' a1, fR_uR' a1, fR_uR' a1]
  have mS : Sm nsh σ M := by
    rw [← hM]
    exact Sm.trans (Sm.uR (fun b hb => nsh_ne hb (by omega))) (Sm.trans (Sm.uR (fun b hb => nsh_ne hb (by omega))) (Sm.trans (Sm.uR (fun b hb => nsh_ne hb (by omega))) (Sm.trans (Sm.uI (fun b hb => nsh_ne hb (by omega))) (Sm.trans (Sm.uI (fun b hb => nsh_ne hb (by omega))) (Sm.trans (Sm.uR (fun b hb => nsh_ne hb (by omega))) (Sm.trans (Sm.uR (fun b hb => nsh_ne hb (by omega))) (Sm.uR (fun b hb => nsh_ne hb (by omega)))))))))
  have pcM : PC M K a b l X := pc.congr (by rw [mI 13 (by decide)]) (fun r _ _ => by rw [mA])
  obtain ⟨q5, k1, k2⟩ := c1_cursors pcM v hn m16 hc.2 (fun i hi => by rw [mA]; exact h5 i hi) hcu
  obtain ⟨q6, k3, k4⟩ := c1_marks (σ := rA M 5 q5) (pcM.congr rfl (fun r _ _ => aI_rA' (by omega))) v hn (ma := ma) (lf := lf) (fun i hi => by rw [aI_rA' (by omega), mA]; exact hma i hi) (fun i hi => by rw [aI_rA' (by omega), mA]; exact hlf i hi) hm
  have sM : SC (rA (rA M 5 q5) 6 q6) 1 L' B' H' (O, N, Hd, c, (fun i => mvA K a b l 0 0 (cu i)), (fun i => mvN' K a b l (lf i) (ma i) 0), lf, ml) := by
    refine ⟨⟨hN, hE, m11, m14, ⟨mR1.1, acl.kcs.1, acl.kcs.2.1⟩, ⟨mR1.2.1, acl.kcs.2.2.1, acl.kcs.2.2.2.1⟩, fun k hk => ?_, fun j hj => ?_⟩, ⟨mR1.2.2.1, acl.kcs.2.2.2.2.1, acl.kcs.2.2.2.2.2, fun j hj => ?_⟩, ⟨m16, fun i hi => ?_⟩, fun i hi => ?_, fun i hi => ?_⟩
    · rw [aI_rA' (Ne.symm cells.2.2.2.1), aI_rA' (Ne.symm cells.1), mA]
      exact hL k hk
    · rw [aI_rA' (Ne.symm cells.2.2.2.2.1), aI_rA' (Ne.symm cells.2.1), mA]
      obtain ⟨p, p1, p2⟩ := hB j hj
      exact ⟨p, p1.le_iff.mpr hj, p1, p2⟩
    · rw [aI_rA' (Ne.symm cells.2.2.2.2.2), aI_rA' (Ne.symm cells.2.2.1), mA]
      exact hH j hj
    · show aI (rA (rA M 5 q5) 6 q6) 5 i = _
      rw [aI_rA' (by omega), aI_rA, if_pos rfl]
      exact k2 i hi
    · show aI (rA (rA M 5 q5) 6 q6) 6 i = _
      rw [aI_rA, if_pos rfl]
      exact k4 i hi
    · show aI (rA (rA M 5 q5) 6 q6) 7 i = _
      rw [aI_rA' (by omega), aI_rA' (by omega), mA]
      exact hlf i hi
  have hF := fun σ' => c8_settleF (σ' := σ') sM acl hc (fun i hi => by rw [eN]; exact mvA_le v (hcu i hi) 0 (Nat.zero_le _))
  obtain ⟨σ', q, d, h', z1, z2, z3, z4, z5, z6⟩ := c8_settleS sM acl hc (fun i hi => by rw [eN]; exact mvA_le v (hcu i hi) 0 (Nat.zero_le _))
  have hdn : ∀ i, i < q → ∃ j, j < c ∧ mvA K a b l 0 0 (cu j) = d i := fun i hi => (z2.2.2.2 (d i)).mp ⟨i, hi, rfl⟩
  have hh : ∀ k, k < ends O N + 1 → h' k = Hd k := isOps.none z3 (fun i hi => by
    obtain ⟨j, hj, e⟩ := hdn i hi
    show ends O (d i) < _ ∧ Hd (ends O (d i)) = 0
    rw [← e]
    have := mvA_le (l := l) (z := 0) v (hcu j hj) 0 (Nat.zero_le _)
    rw [← eN] at this
    have := ends_mono (f := O) this
    exact ⟨by omega, hvis j hj⟩)
  refine ⟨σ', q, d, ?_, z2, ?_, ?_, mS.trans (Sm.trans (Sm.rA (fun b hb => nsh_ne hb (by omega))) (Sm.trans (Sm.rA (fun b hb => nsh_ne hb (by omega))) z5)), fun a a1 a2 => by rw [z6]; exact mRo a a1 a2, ?_, ?_⟩
  · have e7 : fR σ 13 7 = L' + 1 := al.2.1
    have e9 : fR σ 13 9 = B' + 1 := al.2.2.1
    have e10 : fR σ 13 10 = H' + 1 := al.2.2.2
    have f9 : fR (uR σ 1 0 (L' + 1)) 13 9 = B' + 1 := by rw [fR_uR, if_neg (by decide)]; exact e9
    have f10 : fR (uR (uR σ 1 0 (L' + 1)) 1 2 (B' + 1)) 13 10 = H' + 1 := by rw [fR_uR, if_neg (by decide), fR_uR, if_neg (by decide)]; exact e10
    have f8 : fI (uR (uR (uR σ 1 0 (L' + 1)) 1 2 (B' + 1)) 1 3 (H' + 1)) 13 8 = Int32.ofNat N := h8
    have f11 : fI (uI (uR (uR (uR σ 1 0 (L' + 1)) 1 2 (B' + 1)) 1 3 (H' + 1)) 1 1 (Int32.ofNat N)) 13 11 = Int32.ofNat (ends O N + 1) := by
      rw [fI_uI, if_neg (by decide)]
      exact h11
    unfold f1_moveInto
    simp only [stp, r0, r2, r3, e7, f9, f10, f8, f11, hM]
    rw [f1_moveInto_j75, k1, bnd_some, stp, f1_moveInto_j112, k3, bnd_some, z1, bnd_some]
  · obtain ⟨s1, ⟨s2, s3, s4, s5⟩, s6⟩ := z4
    exact ⟨s1, ⟨s2, s3, s4, fun j hj => by rw [s5 j hj]; exact hh j (by omega)⟩, s6⟩
  · have w : fR σ' 13 7 = L + 1 ∧ fR σ' 13 9 = B + 1 ∧ fR σ' 13 10 = H + 1 := by
      rw [z6]
      exact ⟨mR1.2.2.2.1, mR1.2.2.2.2.1, mR1.2.2.2.2.2⟩
    unfold SW
    rcases cl with ⟨rfl, rfl, rfl⟩ | ⟨rfl, rfl, rfl⟩ <;> rcases acl with ⟨rfl, rfl, rfl⟩ | ⟨rfl, rfl, rfl⟩ <;> first | exact absurd rfl hne | exact Or.inl ⟨rfl, rfl, rfl, w⟩ | exact Or.inr ⟨rfl, rfl, rfl, w⟩
  · rw [((hF _ z1) 18 ⟨by decide, by decide, by rcases acl with ⟨rfl, rfl, rfl⟩ | ⟨rfl, rfl, rfl⟩ <;> decide⟩).1]
    exact mI 18 (by decide)
  · rw [((hF _ z1) 19 ⟨by decide, by decide, by rcases acl with ⟨rfl, rfl, rfl⟩ | ⟨rfl, rfl, rfl⟩ <;> decide⟩).2.2.1, aI_rA' (by omega), aI_rA' (by omega), mA]
end R
