theorem ofNat_m1 {p : Nat} (h : p < 2147483648) : ¬ Int32.ofNat p = -1 := by grind
theorem ofNat_150 {p : Nat} (h : p ≤ 150) : Int32.ofNat p = 150 ↔ p = 150 := by grind
theorem ofNat_z0 {p : Nat} (h : p < 2147483648) : Int32.ofNat p = 0 ↔ p = 0 := by grind
theorem c12_aheadN {p : Nat} (hp : p ≤ 150) : f12_ahead (Int32.ofNat (p + 1)) = some (Int32.ofNat (2 * p)) := by
  unfold f12_ahead
  congr 1
  grind
/-! what an act does, told in full -/
/-- one more node, with what was before it -/
def newT (D : Doc) : Hst → Hst
  | (N, at_, par, cho, Bf, Af) => (N + 1, N + 1, upn par (N + 1) at_, upn (upn cho (N + 1) 0) at_ (N + 1), upD Bf (N + 1) D, Af)
/-- an act is kept: with a node of its own, or as a part -/
def AK (σ σ' : Sto) (D : Doc) (T T' : Hst) : Prop := fI σ' 24 3 = fI σ 24 3 ∧ ((fI σ 24 4 = 0 ∧ T.1 < 150 ∧ T' = newT D T ∧ fI σ' 24 4 = fI σ 24 3) ∨ (fI σ 24 4 ≠ 0 ∧ T' = T ∧ fI σ' 24 4 = fI σ 24 4))
/-- nothing is as it was not -/
def NK (σ σ' : Sto) (D D' : Doc) (T T' : Hst) : Prop := D' = D ∧ T' = T ∧ fI σ' 24 3 = fI σ 24 3 ∧ fI σ' 24 4 = fI σ 24 4
/-- the class's cells that no act writes -/
def osh (a : Nat) : Prop := a = 0 ∨ (8 ≤ a ∧ a ≤ 12) ∨ (1989 ≤ a ∧ a ≤ 2005) ∨ a = 2015 ∨ a = 2016
/-- the document behind an act -/
def PD (K : Nat) (a b l : Nat → Nat) (X : Nat → Nat → Int32) : Doc → Doc → Prop
  | (f, n, hd, c, cu, ma, lf, ml), (f', n', hd', c', cu', ma', lf', ml') => f' = spA f K a b l X 0 ∧ n' = nA n K a b l 0 ∧ isCu c (fun i => mvA K a b l 0 0 (cu i)) c' cu' ∧ ma' = (fun i => mvN' K a b l (lf i) (ma i) 0) ∧ lf' = lf ∧ ml' = ml ∧ ∃ S, OP (TK f K a b 0) hd (ends f n + 1) S ∧ ∀ j, j ≤ ends f' n' → ∃ p, isBg f' j p ∧ hd' j = if p = 0 then 0 else spA (fl f S) K a b l (fun _ _ => 0) 0 (p - 1)
def PF (σ σ' : Sto) (D D' : Doc) (T T' : Hst) (r : Int32) (K : Nat) (a b l : Nat → Nat) (X : Nat → Nat → Int32) : Prop :=
  Sm osh σ σ' ∧ (r = 0 → NK σ σ' D D' T T' ∧ ((fI σ 24 4 = 0 ∧ T.1 = 150) ∨ 3000 < nA D.2.1 K a b l 0 ∨ 300 ≤ ends (spA D.1 K a b l X 0) (nA D.2.1 K a b l 0))) ∧
  (r = 1 → (K = 0 ∧ NK σ σ' D D' T T') ∨ (K ≠ 0 ∧ nA D.2.1 K a b l 0 ≤ 3000 ∧ ends (spA D.1 K a b l X 0) (nA D.2.1 K a b l 0) < 300 ∧ AK σ σ' D T T' ∧ PD K a b l X D D'))
theorem NK.pre {σ σ1 σ' : Sto} {D D' : Doc} {T T' : Hst} (e : fI σ1 24 = fI σ 24) (h : NK σ1 σ' D D' T T') : NK σ σ' D D' T T' := by
  unfold NK at h ⊢
  rw [← e]
  exact h
theorem AK.pre {σ σ1 σ' : Sto} {D : Doc} {T T' : Hst} (e : fI σ1 24 = fI σ 24) (h : AK σ1 σ' D T T') : AK σ σ' D T T' := by
  unfold AK at h ⊢
  rw [← e]
  exact h
theorem PF.pre {σ σ1 σ' : Sto} {D D' : Doc} {T T' : Hst} {r : Int32} {K : Nat} {a b l : Nat → Nat} {X : Nat → Nat → Int32} (e : fI σ1 24 = fI σ 24) (hs : Sm osh σ σ1) (h : PF σ1 σ' D D' T T' r K a b l X) : PF σ σ' D D' T T' r K a b l X := by
  obtain ⟨h1, h2, h3⟩ := h
  refine ⟨hs.trans h1, fun z => ?_, fun z => ?_⟩
  · obtain ⟨k1, k2⟩ := h2 z
    refine ⟨k1.pre e, ?_⟩
    rw [e] at k2
    exact k2
  · rcases h3 z with ⟨k1, k2⟩ | ⟨k1, k2, k3, k4, k5⟩
    · exact Or.inl ⟨k1, k2.pre e⟩
    · exact Or.inr ⟨k1, k2, k3, k4.pre e, k5⟩
section R
variable {σ μ : Sto} {K : Nat} {a b l : Nat → Nat} {X : Nat → Nat → Int32} {L B H L' B' H' : Nat} {f : Nat → Int32} {n c : Nat} {hd : Nat → Int32} {cu : Nat → Nat} {ma lf ml : Nat → Int32} {T : Hst} {P : Int32 → (Nat → Int32) → Int32 → (Nat → Int32) → Prop}
/-- the node, where one is made -/
theorem actNode (h : RelT P σ μ (f, n, hd, c, cu, ma, lf, ml) L B H T) {σ1 : Sto} (s1 : SC σ1 1 L B H (f, n, hd, c, cu, ma, lf, ml)) (hs : Sm (fun a => 24 ≤ a ∧ a < 1989) σ σ1) (hr : fR σ1 = fR σ) (hroom : fI σ 24 4 = 0 → fI σ 24 1 ≠ 150) : ∃ σ2 μ1 T', f4_keepAct σ1 1 = some σ2 ∧ (if fI μ 2017 34 = 0 ∨ fI μ 2017 33 = -1 then f12_acts_j53 μ 1 else f12_acts_j53 μ 0) = f12_acts_j141 μ1 ∧ RH σ2 μ1 T' ∧ RG (fI σ2 24 3) (fI σ2 24 4) (fI μ1 2017 34) (fI μ1 2017 33) ∧ Sm (fun a => a < 24 ∨ 1989 ≤ a) σ1 σ2 ∧ (∀ k, k ≠ 31 → k ≠ 32 → k ≠ 33 → fI μ1 2017 k = fI μ 2017 k) ∧ (∀ a, a ≠ 2034 → a ≠ 2035 → (a < 2036 ∨ 2042 < a) → aI μ1 a = aI μ a) ∧ AK σ σ2 (f, n, hd, c, cu, ma, lf, ml) T T' := by
  obtain ⟨g, s, m, w, t1, t2, t3, t4, t5, t6, ⟨t7, t8, t9, t10⟩, t11⟩ := h
  obtain ⟨N, at_, par, cho, Bf, Af⟩ := T
  have t11' := t11
  obtain ⟨⟨g1, g2, g3, g4, g5, g6, g7, g8⟩, h5, h6, h7, h8, h9, h10⟩ := t11
  have i24 : fI σ1 24 = fI σ 24 := (hs 24 (by omega)).1
  have hyv : fI σ 24 4 = 0 ↔ (fI μ 2017 34 = 0 ∨ fI μ 2017 33 = -1) := by
    rw [t9, t8]
    by_cases z : fI μ 2017 33 = -1
    · rw [if_pos z]
      exact ⟨fun _ => Or.inr z, fun _ => rfl⟩
    · rw [if_neg z]
      have := t10 z
      rw [this]
      constructor
      · intro q; exact absurd q (by decide)
      · rintro (q | q)
        · exact absurd q (by decide)
        · exact absurd q z
  by_cases h4 : fI σ 24 4 = 0
  · have hN150 : N < 150 := by
      have := hroom h4
      rw [g3] at this
      rcases Nat.lt_or_ge N 150 with z | z
      · exact z
      · exact absurd (show Int32.ofNat N = 150 by rw [show N = 150 by omega]; rfl) this
    obtain ⟨σt, k1, k2, k3, k4⟩ := c4_keepAct s1 g w.cells (by rw [i24]; exact g3) hN150 (by rw [i24]; exact h4) (by rw [hr]; exact g5) g2 (by rw [i24]; exact t7)
    have r2 : aI (uI μ 2017 31 (Int32.ofNat (N + 1))) = aI μ := rfl
    generalize hM0 : uI (rA (rA (uI μ 2017 31 (Int32.ofNat (N + 1))) 2034 (up1 (aI μ 2034) (N + 1) (Int32.ofNat at_))) 2035 (up1 (up1 (aI μ 2035) (N + 1) 0) at_ (Int32.ofNat (N + 1)))) 2017 32 (Int32.ofNat (N + 1)) = M0
    have mI : ∀ k, k ≠ 31 → k ≠ 32 → fI M0 2017 k = fI μ 2017 k := fun k k1 k2 => by
      rw [← hM0, fI_uI, if_pos rfl, if_neg k2]
      show fI (uI μ 2017 31 _) 2017 k = _
      rw [fI_uI, if_pos rfl, if_neg k1]
    have m31 : fI M0 2017 31 = Int32.ofNat (N + 1) := by
      rw [← hM0, fI_uI, if_pos rfl, if_neg (by decide)]
      rfl
    have m32 : fI M0 2017 32 = Int32.ofNat (N + 1) := by rw [← hM0]; rfl
    have mA : ∀ a, a ≠ 2034 → a ≠ 2035 → aI M0 a = aI μ a := fun a a1 a2 => by
      rw [← hM0]
      show aI (rA (rA (uI μ 2017 31 _) 2034 _) 2035 _) a = _
      rw [aI_rA' a2, aI_rA' a1]
      rfl
    have m34 : aI M0 2034 = up1 (aI μ 2034) (N + 1) (Int32.ofNat at_) := by rw [← hM0]; rfl
    have m35 : aI M0 2035 = up1 (up1 (aI μ 2035) (N + 1) 0) at_ (Int32.ofNat (N + 1)) := by rw [← hM0]; rfl
    have mm : ∀ v : Int32, SM (uI M0 2017 33 v) (f, n, hd, c, cu, ma, lf, ml) := fun v => m.congr (by show fI (uI M0 2017 33 v) 2017 5 = _; rw [fI_uI, if_pos rfl, if_neg (by decide)]; exact mI 5 (by decide) (by decide)) (by rw [fI_uI, if_pos rfl, if_neg (by decide)]; exact mI 6 (by decide) (by decide)) (mA _ (by decide) (by decide)) (mA _ (by decide) (by decide)) (mA _ (by decide) (by decide)) (mA _ (by decide) (by decide)) (mA _ (by decide) (by decide))
    generalize hv : (if fI μ 2017 34 = 0 then (-1 : Int32) else Int32.ofNat (N + 1)) = v
    obtain ⟨μ1, q1, q2, q3, q4, q5⟩ := c12_keeps (mm v) g (q := 2 * N) (by omega)
    have e53 : f12_acts_j53 μ 1 = f12_acts_j141 μ1 := by
      unfold f12_acts_j53 f12_acts_j127
      have x1 : fI (uI μ 2017 31 (Int32.ofNat (N + 1))) 2017 31 = Int32.ofNat (N + 1) := rfl
      have x2 : fI (uI μ 2017 31 (Int32.ofNat (N + 1))) 2017 32 = Int32.ofNat at_ := g6
      have x3 : ∀ r : Nat → Int32, aI (rA (uI μ 2017 31 (Int32.ofNat (N + 1))) 2034 r) 2035 = aI μ 2035 := fun _ => rfl
      have x4 : aI (uI μ 2017 31 (Int32.ofNat (N + 1))) 2034 = aI μ 2034 := rfl
      have x5 : ∀ r : Nat → Int32, rA (rA (rA (uI μ 2017 31 (Int32.ofNat (N + 1))) 2034 (up1 (aI μ 2034) (N + 1) (Int32.ofNat at_))) 2035 (up1 (aI μ 2035) (N + 1) 0)) 2035 r = rA (rA (uI μ 2017 31 (Int32.ofNat (N + 1))) 2034 (up1 (aI μ 2034) (N + 1) (Int32.ofNat at_))) 2035 r := fun _ => rA_rA
      rw [if_neg (show ¬ (1 : Int32) = 0 by decide), g4]
      simp only [i32_succ, stp, x1, x2, x4, fI_rA, inb_n (show N + 1 < 151 by omega) (by omega), inb_n (show at_ < 151 by omega) (by omega), gd_true, ofNat_clamp (show N + 1 < 2147483648 by omega), ofNat_clamp (show at_ < 2147483648 by omega), uA_up1, x3, aI_rA, if_true, rA_rA, hM0, m31]
      rw [mI 34 (by decide) (by decide)]
      have ea := c12_aheadN (p := N) (by omega)
      have x6 : ∀ v : Int32, fI (uI M0 2017 33 v) 2017 31 = Int32.ofNat (N + 1) := fun v => by
        rw [fI_uI, if_pos rfl, if_neg (by decide)]
        exact m31
      by_cases z : fI μ 2017 34 = 0
      · rw [if_pos z] at hv ⊢
        rw [hv, x6, ea, bnd_some, q1, bnd_some]
      · rw [if_neg z] at hv ⊢
        rw [hv, x6, ea, bnd_some, q1, bnd_some]
    refine ⟨_, μ1, (N + 1, N + 1, upn par (N + 1) at_, upn (upn cho (N + 1) 0) at_ (N + 1), upD Bf (N + 1) (f, n, hd, c, cu, ma, lf, ml), Af), k4, ?_, ?_, ?_, ?_, ?_, ?_, ?_⟩
    · rw [if_pos (hyv.mp h4)]
      exact e53
    · refine hist_new (σ := σ) (μ := μ) t11' hN150 g ?_ ?_ ?_ ?_ ?_ ?_ ?_ ?_ ?_ ?_ q2 ?_
      · rw [fI_uI, if_pos rfl, if_neg (by decide), fI_uI, if_pos rfl, if_pos rfl]
      · rfl
      · intro i hi
        show fR (uR (uR (uR σt (26 + 13 * (N + 1)) 0 _) (26 + 13 * at_) 1 _) 24 2 _) (26 + 13 * i) 0 = _
        rw [fR_uR, if_neg (by omega), fR_uR]
        by_cases e : i = N + 1
        · rw [if_neg (by omega), fR_uR, if_pos (by omega), if_pos rfl, if_pos e]
        · rw [if_neg e]
          by_cases e2 : i = at_
          · rw [if_pos (by omega), if_neg (by decide), fR_uR, if_neg (by omega), k3, hr]
          · rw [if_neg (by omega), fR_uR, if_neg (by omega), k3, hr]
      · intro i hi
        show fR (uR (uR (uR σt (26 + 13 * (N + 1)) 0 _) (26 + 13 * at_) 1 _) 24 2 _) (26 + 13 * i) 1 = _
        rw [fR_uR, if_neg (by omega), fR_uR]
        by_cases e2 : i = at_
        · rw [if_pos (by omega), if_pos rfl, if_pos e2]
        · rw [if_neg (by omega), fR_uR, if_neg e2]
          by_cases e : i = N + 1
          · rw [if_pos (by omega), if_neg (by decide), k3, hr]
          · rw [if_neg (by omega), k3, hr]
      · refine k1.congr (fun a a1 a2 => ⟨?_, rfl, rfl⟩)
        show fI (uI (uI _ 24 1 _) 24 4 _) a = _
        rw [fI_uI' (by omega), fI_uI' (by omega)]
        rfl
      · intro a a1 a2
        refine ⟨?_, ?_, ?_⟩
        · show fI (uI (uI _ 24 1 _) 24 4 _) a = _
          rw [fI_uI' (by omega), fI_uI' (by omega)]
          exact ((k2 a (Or.inl (by omega))).1).trans ((hs a (by omega)).1)
        · exact ((k2 a (Or.inl (by omega))).2.2.1).trans ((hs a (by omega)).2.2.1)
        · exact ((k2 a (Or.inl (by omega))).2.2.2).trans ((hs a (by omega)).2.2.2)
      · rw [q4, fI_uI, if_pos rfl, if_neg (by decide)]
        exact m31
      · rw [q4, fI_uI, if_pos rfl, if_neg (by decide)]
        exact m32
      · intro i
        rw [q5 2034 (Or.inl (by omega))]
        show aI M0 2034 i = _
        rw [m34]
        rfl
      · intro i
        rw [q5 2035 (Or.inl (by omega))]
        show aI M0 2035 i = _
        rw [m35]
        rfl
      · intro q D' hq gD sD
        exact q3 q D' hq gD (sD.congr (fun a a1 a2 => mA a (by omega) (by omega)))
    · have x3 : fI (uI (uI (uR (uR (uR σt (26 + 13 * (N + 1)) 0 (26 + 13 * at_ + 1)) (26 + 13 * at_) 1 (26 + 13 * (N + 1) + 1)) 24 2 (26 + 13 * (N + 1) + 1)) 24 1 (Int32.ofNat (N + 1))) 24 4 (fI σ1 24 3)) 24 3 = fI σ 24 3 := by
        rw [fI_uI, if_pos rfl, if_neg (by decide), fI_uI, if_pos rfl, if_neg (by decide)]
        show fI σt 24 3 = _
        rw [(k2 24 (Or.inl (by omega))).1, i24]
      have x4 : fI (uI (uI (uR (uR (uR σt (26 + 13 * (N + 1)) 0 (26 + 13 * at_ + 1)) (26 + 13 * at_) 1 (26 + 13 * (N + 1) + 1)) 24 2 (26 + 13 * (N + 1) + 1)) 24 1 (Int32.ofNat (N + 1))) 24 4 (fI σ1 24 3)) 24 4 = fI σ 24 3 := by
        rw [fI_uI, if_pos rfl, if_pos rfl, i24]
      have x5 : fI μ1 2017 34 = fI σ 24 3 := by
        rw [q4, fI_uI, if_pos rfl, if_neg (by decide), mI 34 (by decide) (by decide), t8]
      have x6 : fI μ1 2017 33 = v := by
        rw [q4, fI_uI, if_pos rfl, if_pos rfl]
      rw [x3, x4, x5, x6, ← hv, t8]
      have hne := ofNat_m1 (show N + 1 < 2147483648 by omega)
      refine ⟨t7, rfl, ?_, ?_⟩
      · rcases t7 with z | z
        · rw [z, if_pos rfl, if_pos rfl]
        · rw [z, if_neg (show ¬ (1 : Int32) = 0 by decide), if_neg hne]
      · rcases t7 with z | z
        · rw [z]; intro q; exact absurd rfl q
        · intro _; exact z
    · exact Sm.trans (k2.weak (by omega)) (Sm.trans (Sm.uR (by omega)) (Sm.trans (Sm.uR (by omega)) (Sm.trans (Sm.uR (by omega)) (Sm.trans (Sm.uI (by omega)) (Sm.uI (by omega))))))
    · intro k k1 k2 k3
      rw [q4, fI_uI, if_pos rfl, if_neg k3]
      exact mI k k1 k2
    · intro a a1 a2 a3
      rw [q5 a a3]
      exact mA a a1 a2
    · refine ⟨?_, Or.inl ⟨h4, hN150, rfl, ?_⟩⟩
      · rw [fI_uI, if_pos rfl, if_neg (by decide), fI_uI, if_pos rfl, if_neg (by decide)]
        show fI σt 24 3 = _
        rw [(k2 24 (Or.inl (by omega))).1, i24]
      · rw [fI_uI, if_pos rfl, if_pos rfl, i24]
  · refine ⟨σ1, μ, (N, at_, par, cho, Bf, Af), c4_keepNone (by rw [i24]; exact h4) (by rw [i24]; exact g3) g1, ?_, ?_, ?_, Sm.rf, fun _ _ _ _ => rfl, fun _ _ _ _ => rfl, ⟨by rw [i24], Or.inr ⟨h4, rfl, by rw [i24]⟩⟩⟩
    · rw [if_neg (fun z => h4 (hyv.mpr z)), f12_acts_j53, if_pos rfl]
    · exact t11'.congr (hs.weak (by omega)) (by rw [i24]) (by rw [hr]) rfl rfl (fun _ _ _ => rfl)
    · rw [i24]
      exact ⟨t7, t8, t9, t10⟩
set_option maxHeartbeats 1000000 in
theorem perform (h : RelT P σ μ (f, n, hd, c, cu, ma, lf, ml) L B H T) (pc : PC σ K a b l X) (pr : PRp μ K a b l X) (v : VP n K a b) (h6 : fI σ 13 6 = 0) (mono : nA n K a b l 0 ≤ 3000 → ends (spA f K a b l X 0) (nA n K a b l 0) < 300 → ∀ k, k ≤ K → nA n K a b l k ≤ 3000 ∧ ends (spA f K a b l X k) (nA n K a b l k) < 300) : ∃ r σ' μ' D' L' B' H' T', f11_perform σ = some (r, σ') ∧ f12_acts μ = some (r, μ') ∧ (r = 0 ∨ r = 1) ∧ RelT P σ' μ' D' L' B' H' T' ∧ (r = 1 → D'.2.1 = nA n K a b l 0) ∧ fI σ' 18 = fI σ 18 ∧ aI σ' 19 = aI σ 19 ∧ fI μ' 2017 42 = fI μ 2017 42 ∧ aI μ' 2043 = aI μ 2043 ∧ aI μ' 2049 = aI μ 2049 ∧ PF σ σ' (f, n, hd, c, cu, ma, lf, ml) D' T T' r K a b l X := by
  obtain ⟨g, s, m, w, t1, t2, t3, t4, t5, t6, t7, t8⟩ := id h
  obtain ⟨L', B', H', cl, al, hne⟩ := w.alt
  obtain ⟨s1, ⟨s2, s3, s4, s5⟩, ⟨s6, s7⟩, s8, s9⟩ := id s
  obtain ⟨g1, g2, g3, g4, g5, g6', g7, g8, g9, g10, g11⟩ := id g
  have hK := pc.2.1
  unfold f11_perform f11_perform_j36 f12_acts
  rw [pc.1, pr.1]
  have eK0 : Int32.ofNat K = 0 ↔ K = 0 := ofNat_z0 (by omega)
  simp only [eK0]
  by_cases hK0 : K = 0
  · rw [if_pos hK0, if_pos hK0]
    exact ⟨1, σ, μ, _, L, B, H, T, rfl, rfl, Or.inr rfl, h, fun _ => by show n = _; rw [← hK0, nA_K], rfl, rfl, rfl, rfl, rfl, Sm.rf, fun z => absurd z (by decide), fun _ => Or.inl ⟨hK0, rfl, rfl, rfl, rfl⟩⟩
  rw [if_neg hK0, if_neg hK0]
  -- the reference's way to the count
  have hun : (fI σ 24 4 = 0) ↔ (fI μ 2017 34 = 0 ∨ fI μ 2017 33 = -1) := by
    obtain ⟨r1, r2, r3, r4⟩ := t7
    rw [r3, r2]
    by_cases z : fI μ 2017 33 = -1
    · rw [if_pos z]
      exact ⟨fun _ => Or.inr z, fun _ => rfl⟩
    · rw [if_neg z]
      have := r4 z
      rw [this]
      constructor
      · intro q; exact absurd q (by decide)
      · rintro (q | q)
        · exact absurd q (by decide)
        · exact absurd q z
  have eRef : (if fI μ 2017 34 = 0 then f12_acts_j24 μ else if fI μ 2017 33 = -1 then f12_acts_j24 μ else f12_acts_j29 μ 0) = f12_acts_j29 μ (if fI σ 24 4 = 0 then 1 else 0) := by
    unfold f12_acts_j24
    by_cases z : fI μ 2017 34 = 0
    · rw [if_pos z, if_pos (hun.mpr (Or.inl z))]
    · rw [if_neg z]
      by_cases z2 : fI μ 2017 33 = -1
      · rw [if_pos z2, if_pos (hun.mpr (Or.inr z2))]
      · rw [if_neg z2, if_neg (fun q => (hun.mp q).elim z z2)]
  rw [eRef, f12_acts_j29, stp, c12_isTooMuch m.1 pr v, bnd_some]
  simp only [ite_tz, decide_eq_true_eq]
  obtain ⟨N, at_, par, cho, Bf, Af⟩ := T
  have hNn : N ≤ 150 := t8.1.1
  have hN1 : fI σ 24 1 = Int32.ofNat N := t8.1.2.2.1
  have hN2 : fI μ 2017 31 = Int32.ofNat N := t8.1.2.2.2.1
  have z1 : isB 1 = true := rfl
  have z0 : isB 0 = true := rfl
  have e150 : (150 : Int32) ≤ Int32.ofNat N ↔ N = 150 := by
    rw [show (150 : Int32) = Int32.ofNat 150 from rfl, i32_le (by omega) (by omega)]
    omega
  have e150' : Int32.ofNat N = 150 ↔ N = 150 := ofNat_150 hNn
  have eRoom : f4_hasRoom σ = some (if fI σ 24 4 = 0 ∧ N = 150 then 0 else 1) := by
    unfold f4_hasRoom f4_hasRoom_j17 f4_hasRoom_j22
    rw [hN1]
    simp only [e150, z1, z0, gd_true]
    by_cases q : fI σ 24 4 = 0
    · rw [if_pos q]
      by_cases q2 : N = 150
      · rw [if_pos q2, if_pos ⟨q, q2⟩]
      · rw [if_neg q2, if_neg (fun z => q2 z.2)]
    · rw [if_neg q, if_neg (fun z => q z.1)]
  rw [eRoom, bnd_some]
  unfold f12_acts_j51
  by_cases hroom : fI σ 24 4 = 0 ∧ N = 150
  · rw [if_pos hroom, if_pos rfl]
    refine ⟨0, σ, μ, _, L, B, H, _, rfl, ?_, Or.inl rfl, h, fun z => absurd z (by decide), rfl, rfl, rfl, rfl, rfl, Sm.rf, fun _ => ⟨⟨rfl, rfl, rfl, rfl⟩, Or.inl ⟨hroom.1, hroom.2⟩⟩, fun z => absurd z (by decide)⟩
    by_cases q : 3000 < nA n K a b l 0 ∨ 300 ≤ ends (spA f K a b l X 0) (nA n K a b l 0)
    · rw [if_pos q]
    · rw [if_neg q, if_pos hroom.1, if_neg (by decide), hN2, if_pos (e150'.mpr hroom.2)]
  rw [if_neg hroom, if_neg (by decide)]
  rcases c1_build s1 cl al hne g3 s2 s5 g5 pc v h6 with ⟨b1, b2⟩ | ⟨b1, σ1, S, b2, b3, b4, b5, b6, b7, b8, b9, b10⟩
  · rw [b2, bnd_some, if_pos rfl, if_pos (Or.inl b1)]
    exact ⟨0, σ, μ, _, L, B, H, _, rfl, rfl, Or.inl rfl, h, fun z => absurd z (by decide), rfl, rfl, rfl, rfl, rfl, Sm.rf, fun _ => ⟨⟨rfl, rfl, rfl, rfl⟩, Or.inr (Or.inl b1)⟩, fun z => absurd z (by decide)⟩
  have h1 : RelT P σ1 μ (f, n, hd, c, cu, ma, lf, ml) L B H (N, at_, par, cho, Bf, Af) := h.plan al cl hne (b4.weak (fun a ha => by unfold scr at ha; omega)) b5 (fun _ _ _ _ => rfl) (fun _ _ _ => rfl)
  have hb18 : fI σ1 18 = fI σ 18 ∧ aI σ1 19 = aI σ 19 := by
    have hal := al.1
    refine ⟨(b4 18 ⟨by decide, ?_⟩).1, (b4 19 ⟨by decide, ?_⟩).2.2.1⟩
    · rcases hal with ⟨rfl, rfl, rfl⟩ | ⟨rfl, rfl, rfl⟩ <;> decide
    · rcases hal with ⟨rfl, rfl, rfl⟩ | ⟨rfl, rfl, rfl⟩ <;> decide
  rw [b2, bnd_some]
  by_cases hE' : ¬ ends (spA f K a b l X 0) (nA n K a b l 0) < 300
  · have hE := hE'
    rw [if_neg hE, if_pos rfl, if_pos (Or.inr (by omega))]
    have i24 : fI σ1 24 = fI σ 24 := (b4 24 ⟨by decide, by rcases al.1 with ⟨rfl, rfl, rfl⟩ | ⟨rfl, rfl, rfl⟩ <;> decide⟩).1
    exact ⟨0, σ1, μ, _, L, B, H, _, rfl, rfl, Or.inl rfl, h1, fun z => absurd z (by decide), hb18.1, hb18.2, rfl, rfl, rfl, b4.weak (fun a ha => by unfold osh at ha; rcases al.1 with ⟨rfl, rfl, rfl⟩ | ⟨rfl, rfl, rfl⟩ <;> omega), fun _ => ⟨⟨rfl, rfl, by rw [i24], by rw [i24]⟩, Or.inr (Or.inr (Nat.not_lt.mp hE))⟩, fun z => absurd z (by decide)⟩
  have hE := Decidable.not_not.mp hE'
  rw [if_pos hE, if_neg (show ¬ (1 : Int32) = 0 by decide), if_neg (show ¬ (3000 < nA n K a b l 0 ∨ 300 ≤ ends (spA f K a b l X 0) (nA n K a b l 0)) by omega)]
  have i24 : fI σ1 24 = fI σ 24 := (b4 24 ⟨by decide, by rcases al.1 with ⟨rfl, rfl, rfl⟩ | ⟨rfl, rfl, rfl⟩ <;> decide⟩).1
  obtain ⟨σ2, μ1, T', k1, k2, k3, k4, k5, k6, k7, k8⟩ := actNode h1 h1.2.1 Sm.rf rfl (by
    rw [i24, hN1]
    exact fun q1 q2 => hroom ⟨q1, e150'.mp q2⟩)
  have eRef2 : (if (if fI σ 24 4 = 0 then (1 : Int32) else 0) = 0 then f12_acts_j53 μ (if fI σ 24 4 = 0 then 1 else 0) else if fI μ 2017 31 = 150 then some (0, μ) else f12_acts_j53 μ (if fI σ 24 4 = 0 then 1 else 0)) = f12_acts_j141 μ1 := by
    rw [← k2]
    by_cases q : fI σ 24 4 = 0
    · rw [if_pos q, if_neg (by decide), hN2, if_neg (fun z => hroom ⟨q, e150'.mp z⟩), if_pos (hun.mp q)]
    · rw [if_neg q, if_pos rfl, if_neg (fun z => q (hun.mpr z))]
  rw [eRef2, k1, bnd_some]
  -- the reference's replacements
  have m1 : SM μ1 (f, n, hd, c, cu, ma, lf, ml) := m.congr (k6 5 (by decide) (by decide) (by decide)) (k6 6 (by decide) (by decide) (by decide)) (k7 2018 (by decide) (by decide) (by omega)) (k7 2019 (by decide) (by decide) (by omega)) (k7 2020 (by decide) (by decide) (by omega)) (k7 2021 (by decide) (by decide) (by omega)) (k7 2022 (by decide) (by decide) (by omega))
  have pr1 : PRp μ1 K a b l X := pr.congr (k6 27 (by decide) (by decide) (by decide)) (fun r r1 r2 => k7 r (by omega) (by omega) (by omega))
  obtain ⟨μ2, Hd, S2, x1, x2, ⟨x3, x4⟩, x5, x6, x7, x8⟩ := c12_actsLoop m1 g pr1 v (mono b1 hE)
  have hcu0 : ∀ i, i < c → mvA K a b l 0 0 (cu i) ≤ nA n K a b l 0 := fun i hi => mvA_le v (g8 i hi) 0 (Nat.zero_le _)
  obtain ⟨μ3, q', d', y1, y2, y3, y4⟩ := c12_ordersS x6 g6' (fun i hi => by have := hcu0 i hi; omega)
  have eRef3 : f12_acts_j141 μ1 = some (1, μ3) := by
    rw [f12_acts_j141, stp, pr1.1, f12_acts_j148, x1, bnd_some, y1, bnd_some]
  -- the class's
  have al2 : L' ≠ 24 ∧ L' < 24 ∧ B' < 24 ∧ H' < 24 := by rcases al.1 with ⟨rfl, rfl, rfl⟩ | ⟨rfl, rfl, rfl⟩ <;> decide
  have cl2 : L < 24 ∧ B < 24 ∧ H < 24 := by rcases cl with ⟨rfl, rfl, rfl⟩ | ⟨rfl, rfl, rfl⟩ <;> decide
  have hr2 : ∀ a, a < 24 → fR σ2 a = fR σ a := fun a ha => ((k5 a (Or.inl ha)).2.1).trans (by rw [b5])
  have hI13 : ∀ k, k ≠ 8 → k ≠ 11 → fI σ2 13 k = fI σ 13 k := fun k k1 k2 => by rw [(k5 13 (Or.inl (by omega))).1]; exact b6 k k1 k2
  have hsc := h1.2.1
  obtain ⟨u1, ⟨u2, u3, u4, u5⟩, ⟨u6, u7⟩, u8, u9⟩ := hsc
  have hS12 : ∀ j, j < ends f n + 1 → S j = S2 j := b3.uniq x2
  have hfl : ∀ q, q < nA n K a b l 0 → spA (fl f S) K a b l (fun _ _ => 0) 0 q = spA (fl f S2) K a b l (fun _ _ => 0) 0 q := v.spA_ext2 (fun i hi => by
    unfold fl
    have := ends_mono (f := f) (show i + 1 ≤ n by omega)
    exact hS12 _ (by omega)) 0 (Nat.zero_le _)
  have hHd : ∀ j, j ≤ ends (spA f K a b l X 0) (nA n K a b l 0) → aI σ2 H' j = Hd j := fun j hj => by
    obtain ⟨p, p1, p2, p3⟩ := b10 j hj (by omega)
    have hpN := p1.le_iff.mpr hj
    rw [(k5 H' (Or.inl al2.2.2.2)).2.2.1, p3]
    by_cases hp0 : p = 0
    · rw [if_pos hp0]
      have : j = 0 := by rw [← p1.1, hp0]; rfl
      rw [this, x3]
    · rw [if_neg hp0, hfl _ (by omega)]
      have hnl : spA f K a b l X 0 (p - 1) = 10 := by
        rcases p1.2 with z | z
        · exact absurd z hp0
        · exact z
      rw [← x4 (p - 1) (by omega) hnl, show p - 1 + 1 = p by omega, p1.1]
  obtain ⟨σ3, q, d, v1, v2, v3, v4, v5, v6, v7, v8⟩ := c1_moveInto (σ := σ2) (L := L) (B := B) (H := H) (L' := L') (B' := B') (H' := H') (O := spA f K a b l X 0) (N := nA n K a b l 0) (Hd := Hd) (cu := cu) (ma := ma) (lf := lf) (ml := ml) (c := c) cl ⟨al.1, by rw [hr2 13 (by omega)]; exact al.2.1, by rw [hr2 13 (by omega)]; exact al.2.2.1, by rw [hr2 13 (by omega)]; exact al.2.2.2⟩ hne (by rw [hr2 1 (by omega)]; exact s1.2.2.2.2.1.1) (by rw [hr2 1 (by omega)]; exact s1.2.2.2.2.2.1.1) (by rw [hr2 1 (by omega)]; exact s2) (by rw [(k5 13 (Or.inl (by omega))).1]; exact b7) (by rw [(k5 13 (Or.inl (by omega))).1]; exact b8) b1 hE (fun j hj => by rw [(k5 L' (Or.inl al2.2.1)).2.2.1]; exact b9 j hj) (fun j hj => by
    obtain ⟨p, p1, p2, p3⟩ := b10 j hj (by omega)
    exact ⟨p, p1, by rw [(k5 B' (Or.inl al2.2.2.1)).2.2.1]; exact p2⟩) hHd (pc.congr (hI13 4 (by decide) (by decide)) (fun r r1 r2 => by
    rw [(k5 r (Or.inl (by omega))).2.2.1]
    exact (b4 r ⟨by omega, by rcases al.1 with ⟨rfl, rfl, rfl⟩ | ⟨rfl, rfl, rfl⟩ <;> omega⟩).2.2.1)) v g1 rfl (by rw [(k5 1 (Or.inl (by omega))).1]; exact u6) g6' (fun i hi => by rw [(k5 5 (Or.inl (by omega))).2.2.1]; exact u7 i hi) g8 (fun i hi => by rw [(k5 6 (Or.inl (by omega))).2.2.1]; exact u8 i hi) (fun i hi => by rw [(k5 7 (Or.inl (by omega))).2.2.1]; exact u9 i hi) g10 x7
  obtain ⟨rfl, hdd⟩ := v2.uniq y2
  have hdn : ∀ i, i < q → ∃ j, j < c ∧ mvA K a b l 0 0 (cu j) = d i := fun i hi => (v2.2.2.2 (d i)).mp ⟨i, hi, rfl⟩
  have hmaE : ∀ i, i < 16 → mvN' K a b l (lf i) (ma i) 0 = mvN' K a b l (ml i) (ma i) 0 := fun i hi => by
    by_cases z : ma i = -1
    · unfold mvN'
      rw [if_pos z, if_pos z]
    · rw [(g11 i hi).2.2 z]
  have gD : GD (spA f K a b l X 0, nA n K a b l 0, Hd, q, d, (fun i => mvN' K a b l (lf i) (ma i) 0), lf, ml) := by
    refine ⟨b1, hE, v.spA_lt g3 (fun k hk i hi => ?_) 0 (Nat.zero_le _), x3, x5, ⟨v2.1, by have := v2.2.1; omega⟩, v2.2.2.1, fun i hi => ?_, fun i hi => ?_, fun i hi => ?_, fun i hi => ?_⟩
    · obtain ⟨p1, p2, ss, p3⟩ := pc
      exact ((p3 k hk).2.2.2.2.2 i hi).2
    · obtain ⟨j, hj, e⟩ := hdn i hi
      rw [← e]
      exact hcu0 j hj
    · obtain ⟨j, hj, e⟩ := hdn i hi
      rw [← e]
      exact x7 j hj
    · show mvN' K a b l (lf i) (ma i) 0 = -1 ∨ _
      unfold mvN'
      rcases g10 i hi with z | ⟨p, p1, p2⟩
      · exact Or.inl (by rw [if_pos z])
      · by_cases z : ma i = -1
        · exact Or.inl (by rw [if_pos z])
        · refine Or.inr ⟨_, mvA_le (l := l) (z := lf i) v p1 0 (Nat.zero_le _), ?_⟩
          show (if ma i = -1 then _ else _) = _
          rw [if_neg z, p2, ofNat_clamp (by omega)]
    · obtain ⟨o1, o2, o3⟩ := g11 i hi
      refine ⟨o1, o2, fun z => o3 (fun e => z ?_)⟩
      show mvN' K a b l (lf i) (ma i) 0 = -1
      unfold mvN'
      rw [if_pos e]
  have mD : SM μ3 (spA f K a b l X 0, nA n K a b l 0, Hd, q, d, (fun i => mvN' K a b l (lf i) (ma i) 0), lf, ml) := by
    obtain ⟨o1, o2, o3, o4, o5⟩ := y3.cext rfl hdd
    exact ⟨o1, o2, o3, fun i hi => by rw [o4 i hi]; exact (hmaE i hi).symm, o5⟩
  have fm : mfr μ1 μ3 := x8.trans y4
  refine ⟨1, σ3, μ3, _, L', B', H', T', by rw [v1, bnd_some], eRef3, Or.inr rfl, h.act ?_ ?_ ?_ gD v3 mD v4 ?_ ?_, fun _ => rfl, ?_, ?_, ?_, ?_, ?_, ?_, fun z => absurd z (by decide), fun _ => Or.inr ⟨hK0, b1, hE, ?_, rfl, rfl, v2, rfl, rfl, rfl, S, b3, ?_⟩⟩
  · refine Sm.trans (b4.weak (fun a ha => ?_)) (Sm.trans (k5.weak (fun a ha => ?_)) (v5.weak (fun a ha => ?_)))
    · rcases al.1 with ⟨rfl, rfl, rfl⟩ | ⟨rfl, rfl, rfl⟩ <;> omega
    · omega
    · unfold nsh
      omega
  · intro k hk
    rw [fm.1 k (by omega), k6 k (by omega) (by omega) (by omega)]
  · intro a ha
    rw [fm.2 a (by omega), k7 a (by omega) (by omega) (by omega)]
  · rw [(v5 24 (Or.inr (Or.inr (Or.inl (by omega))))).1, fm.1 34 (by omega), fm.1 33 (by omega)]
    exact k4
  · exact k3.congr (v5.weak (fun a ha => Or.inr (Or.inr (Or.inl (by omega))))) (by rw [(v5 24 (Or.inr (Or.inr (Or.inl (by omega))))).1]) (by rw [v6 24 (by decide) (by decide)]) (fm.1 31 (by omega)) (fm.1 32 (by omega)) (fun a a1 a2 => fm.2 a (by omega))
  · rw [v7, (k5 18 (Or.inl (by omega))).1]
    exact hb18.1
  · rw [v8, (k5 19 (Or.inl (by omega))).2.2.1]
    exact hb18.2
  · rw [fm.1 42 (by omega), k6 42 (by decide) (by decide) (by decide)]
  · rw [fm.2 2043 (by omega), k7 2043 (by decide) (by decide) (by omega)]
  · rw [fm.2 2049 (by omega), k7 2049 (by decide) (by decide) (by omega)]
  · refine Sm.trans (b4.weak (fun a ha => ?_)) (Sm.trans (k5.weak (fun a ha => ?_)) (v5.weak (fun a ha => ?_)))
    · unfold osh at ha
      rcases al.1 with ⟨rfl, rfl, rfl⟩ | ⟨rfl, rfl, rfl⟩ <;> omega
    · unfold osh at ha
      omega
    · unfold osh at ha
      unfold nsh
      omega
  · have e24 : fI σ3 24 = fI σ2 24 := (v5 24 (Or.inr (Or.inr (Or.inl (by omega))))).1
    have k8 := k8.pre i24
    unfold AK at k8 ⊢
    rw [e24]
    exact k8
  · intro j hj
    obtain ⟨p, p1, p2, p3⟩ := b10 j hj (by omega)
    refine ⟨p, p1, ?_⟩
    rw [← p3, ← hHd j hj, (k5 H' (Or.inl al2.2.2.2)).2.2.1]
end R
