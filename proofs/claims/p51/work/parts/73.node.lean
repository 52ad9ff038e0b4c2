/-! one more node of the tree -/
theorem kc_node : ∀ i, i < 151 → kc (26 + 13 * i) = 0 := by decide +kernel
theorem upw_le {par : Nat → Nat} {N : Nat} (h : ∀ i, 1 ≤ i → i ≤ N → par i < i) (h0 : par 0 = 0) : ∀ k x, x ≤ N → upw par k x ≤ x := by
  intro k
  induction k with
  | zero => intro x _; exact Nat.le_refl _
  | succ k ih =>
    intro x hx
    rw [upw]
    have hp : par x ≤ x := by
      by_cases e : x = 0
      · rw [e, h0]; exact Nat.le_refl _
      · have := h x (by omega) hx
        omega
    have := ih (par x) (by omega)
    omega
theorem upw_eq {par par' : Nat → Nat} {N : Nat} (h : ∀ i, 1 ≤ i → i ≤ N → par i < i) (h0 : par 0 = 0) (e : ∀ i, i ≤ N → par' i = par i) : ∀ k x, x ≤ N → upw par' k x = upw par k x := by
  intro k
  induction k with
  | zero => intro x _; rfl
  | succ k ih =>
    intro x hx
    have hp : par x ≤ N := by
      by_cases e : x = 0
      · rw [e, h0]; exact Nat.zero_le _
      · have := h x (by omega) hx
        omega
    rw [upw, upw, e x hx, ih _ hp]
def upn (f : Nat → Nat) (j v i : Nat) : Nat := if i = j then v else f i
def upD (f : Nat → Doc) (j : Nat) (v : Doc) (i : Nat) : Doc := if i = j then v else f i
theorem hist_new {σ σ' μ μ' : Sto} {N at_ : Nat} {par cho : Nat → Nat} {Bf Af : Nat → Doc} {D : Doc} (h : RH σ μ (N, at_, par, cho, Bf, Af)) (hN : N < 150) (g : GD D) (a1 : fI σ' 24 1 = Int32.ofNat (N + 1)) (a2 : fR σ' 24 2 = 26 + 13 * (N + 1) + 1) (hR0 : ∀ i, i ≤ 150 → fR σ' (26 + 13 * i) 0 = if i = N + 1 then 26 + 13 * at_ + 1 else fR σ (26 + 13 * i) 0) (hR1 : ∀ i, i ≤ 150 → fR σ' (26 + 13 * i) 1 = if i = at_ then 26 + 13 * (N + 1) + 1 else fR σ (26 + 13 * i) 1) (hM : MO σ' (26 + 13 * (N + 1) + 1) D) (hMo : ∀ a, 26 ≤ a → a < 26 + 13 * (N + 1) → fI σ' a = fI σ a ∧ aI σ' a = aI σ a ∧ aL σ' a = aL σ a) (b1 : fI μ' 2017 31 = Int32.ofNat (N + 1)) (b2 : fI μ' 2017 32 = Int32.ofNat (N + 1)) (b3 : ∀ i, aI μ' 2034 i = if i = N + 1 then Int32.ofNat at_ else aI μ 2034 i) (b4 : ∀ i, aI μ' 2035 i = if i = at_ then Int32.ofNat (N + 1) else if i = N + 1 then 0 else aI μ 2035 i) (b5 : ST μ' (2 * N) D) (b6 : ∀ q D', q ≠ 2 * N → GD D' → ST μ q D' → ST μ' q D') : RH σ' μ' (N + 1, N + 1, upn par (N + 1) at_, upn (upn cho (N + 1) 0) at_ (N + 1), upD Bf (N + 1) D, Af) := by
  obtain ⟨⟨g1, g2, g3, g4, g5, g6, g7, g8⟩, h5, h6, h7, h8, h9, h10⟩ := h
  have hpl : ∀ i, 1 ≤ i → i ≤ N → par i < i := fun i i1 i2 => (h5 i i1 i2).1
  have hpe : ∀ i, i ≤ N → upn par (N + 1) at_ i = par i := fun i hi => if_neg (by omega)
  have hpN : upn par (N + 1) at_ (N + 1) = at_ := if_pos rfl
  have hanc : ∀ i, Anc (upn par (N + 1) at_) (N + 1) i → i = N + 1 ∨ Anc par at_ i := by
    rintro i ⟨k, hk⟩
    cases k with
    | zero => exact Or.inl hk.symm
    | succ k =>
      rw [upw, hpN, upw_eq hpl g8 hpe k at_ g2] at hk
      exact Or.inr ⟨k, hk⟩
  have hanc2 : ∀ i, Anc par at_ i → Anc (upn par (N + 1) at_) (N + 1) i := by
    rintro i ⟨k, hk⟩
    exact ⟨k + 1, by rw [upw, hpN, upw_eq hpl g8 hpe k at_ g2]; exact hk⟩
  refine ⟨⟨by omega, Nat.le_refl _, a1, b1, a2, b2, ?_, ?_⟩, fun i i1 i2 => ?_, fun i i2 => ?_, fun i i1 i2 => ?_, fun i i1 i2 => ?_, fun i i1 i2 i3 => ?_, fun i i1 i2 => ?_⟩
  · have := hR0 0 (by omega)
    rw [if_neg (by omega)] at this
    exact this.trans g7
  · rw [hpe 0 (by omega)]
    exact g8
  · rw [hR0 i (by omega), b3 i]
    by_cases e : i = N + 1
    · rw [if_pos e, if_pos e, e, hpN]
      exact ⟨by omega, rfl, rfl⟩
    · rw [if_neg e, if_neg e, hpe i (by omega)]
      exact h5 i i1 (by omega)
  · rw [hR1 i (by omega), b4 i]
    by_cases e : i = at_
    · have hc : upn (upn cho (N + 1) 0) at_ (N + 1) i = N + 1 := if_pos e
      rw [if_pos e, if_pos e, hc]
      exact ⟨by omega, fun _ => by rw [hpN, e], by rw [if_neg (by omega)], rfl⟩
    · by_cases e2 : i = N + 1
      · have hc : upn (upn cho (N + 1) 0) at_ (N + 1) i = 0 := by
          unfold upn
          rw [if_neg e, if_pos e2]
        rw [if_neg e, if_neg e, if_pos e2, hc, e2]
        exact ⟨by omega, fun z => absurd rfl z, by rw [if_pos rfl]; exact h7 (N + 1) (by omega) (by omega), rfl⟩
      · have hc : upn (upn cho (N + 1) 0) at_ (N + 1) i = cho i := by
          unfold upn
          rw [if_neg e, if_neg e2]
        obtain ⟨c1, c2, c3, c4⟩ := h6 i (by omega)
        rw [if_neg e, if_neg e, if_neg e2, hc]
        exact ⟨by omega, fun z => by rw [hpe _ c1]; exact c2 z, c3, c4⟩
  · rw [hR1 i i2, if_neg (by omega)]
    exact h7 i (by omega) i2
  · by_cases e : i = N + 1
    · have hb : upD Bf (N + 1) D i = D := if_pos e
      rw [hb, e]
      exact ⟨g, hM, by rw [show 2 * (N + 1) - 2 = 2 * N by omega]; exact b5⟩
    · have hb : upD Bf (N + 1) D i = Bf i := if_neg e
      obtain ⟨c1, c2, c3⟩ := h8 i i1 (by omega)
      rw [hb]
      exact ⟨c1, c2.congr (fun a a1 a2 => hMo a (by omega) (by omega)), b6 _ _ (by omega) c1 c3⟩
  · by_cases e : i = N + 1
    · exact absurd ⟨0, e.symm⟩ i3
    · obtain ⟨c1, c2, c3⟩ := h9 i i1 (by omega) (fun z => i3 (hanc2 i z))
      exact ⟨c1, c2.congr (fun a a1 a2 => hMo a (by omega) (by omega)), b6 _ _ (by omega) c1 c3⟩
  · rcases hanc i i2 with e | ⟨k, hk⟩
    · rw [e, hpN]
      exact if_pos rfl
    · have hi : i ≤ at_ := by
        have := upw_le hpl g8 k at_ g2
        omega
      have hpi := hpl i i1 (by omega)
      rw [hpe i (by omega)]
      unfold upn
      rw [if_neg (by omega), if_neg (by omega)]
      exact h10 i i1 ⟨k, hk⟩
section R
variable {σ μ : Sto} {L B H : Nat} {f : Nat → Int32} {n c : Nat} {hd : Nat → Int32} {cu : Nat → Nat} {ma lf ml : Nat → Int32}
theorem c4_keepAct (s : SC σ 1 L B H (f, n, hd, c, cu, ma, lf, ml)) (g : GD (f, n, hd, c, cu, ma, lf, ml)) (cl : CL L B H) {N at_ : Nat} (hN : fI σ 24 1 = Int32.ofNat N) (hN2 : N < 150) (h4 : fI σ 24 4 = 0) (h2 : fR σ 24 2 = 26 + 13 * at_ + 1) (ha : at_ ≤ N) (h3 : fI σ 24 3 = 0 ∨ fI σ 24 3 = 1) : ∃ σt, MO σt (26 + 13 * (N + 1) + 1) (f, n, hd, c, cu, ma, lf, ml) ∧ Sm (fun a => a < 26 + 13 * (N + 1) + 1 ∨ 26 + 13 * (N + 1) + 1 + 5 < a) σ σt ∧ fR σt = fR σ ∧ f4_keepAct σ 1 = some (uI (uI (uR (uR (uR σt (26 + 13 * (N + 1)) 0 (26 + 13 * at_ + 1)) (26 + 13 * at_) 1 (26 + 13 * (N + 1) + 1)) 24 2 (26 + 13 * (N + 1) + 1)) 24 1 (Int32.ofNat (N + 1))) 24 4 (fI σ 24 3)) := by
  obtain ⟨σt, k1, k2, k3, k4⟩ := c5_take s g cl (t := 26 + 13 * (N + 1) + 1) (by omega)
  refine ⟨σt, k2, k3, k4, ?_⟩
  have e150 : (150 : Int32) ≤ Int32.ofNat N ↔ 150 ≤ N := i32_le (a := 150) (by omega) (by omega)
  have ex : 39 + 13 * N + 1 = 26 + 13 * (N + 1) + 1 := by omega
  unfold f4_keepAct f4_keepAct_j23
  rw [hN]
  simp only [e150, if_neg (show ¬ 150 ≤ N by omega), inb_n (show N < 150 by omega) (by omega), gd_true, ofNat_clamp (show N < 2147483648 by omega), stp, h4, if_true, ex, if_neg (show ¬ 26 + 13 * (N + 1) + 1 = 0 by omega), okr_s.mpr (kc_node (N + 1) (by omega)), Nat.add_sub_cancel, k1, bnd_some]
  have t24 : fI σt 24 = fI σ 24 := (k3 24 (Or.inl (by omega))).1
  have f1 : fR σt 24 2 = 26 + 13 * at_ + 1 := by rw [k4]; exact h2
  have f2 : fR (uR σt (26 + 13 * (N + 1)) 0 (26 + 13 * at_ + 1)) 24 2 = 26 + 13 * at_ + 1 := by
    rw [fR_uR, if_neg (by omega)]
    exact f1
  rw [f1, f2, okr_s.mpr (kc_node at_ (by omega)), gd_true, Nat.add_sub_cancel]
  have f3 : fI (uR (uR (uR σt (26 + 13 * (N + 1)) 0 (26 + 13 * at_ + 1)) (26 + 13 * at_) 1 (26 + 13 * (N + 1) + 1)) 24 2 (26 + 13 * (N + 1) + 1)) 24 1 = Int32.ofNat N := by
    show fI σt 24 1 = _
    rw [t24]
    exact hN
  have f4 : ∀ v : Int32, fI (uI (uR (uR (uR σt (26 + 13 * (N + 1)) 0 (26 + 13 * at_ + 1)) (26 + 13 * at_) 1 (26 + 13 * (N + 1) + 1)) 24 2 (26 + 13 * (N + 1) + 1)) 24 1 v) 24 3 = fI σ 24 3 := fun v => by
    rw [fI_uI, if_pos rfl, if_neg (by decide)]
    show fI σt 24 3 = _
    rw [t24]
  have b3 : isB (fI σ 24 3) = true := isB_iff.mpr h3
  rw [f3, f4, b3, gd_true, i32_succ]
theorem c4_keepNone (h4 : fI σ 24 4 ≠ 0) {N : Nat} (hN : fI σ 24 1 = Int32.ofNat N) (hN2 : N ≤ 150) : f4_keepAct σ 1 = some σ := by
  have e150 : (150 : Int32) ≤ Int32.ofNat N ↔ 150 ≤ N := i32_le (a := 150) (by omega) (by omega)
  unfold f4_keepAct f4_keepAct_j23 f4_keepAct_j35
  rw [hN]
  simp only [e150, stp, if_neg h4]
  by_cases hq : 150 ≤ N
  · rw [if_pos hq]
  · rw [if_neg hq, inb_n (show N < 150 by omega) (by omega), gd_true]
end R
