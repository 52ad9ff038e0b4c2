/-! the class: a new sheet built -/
def PC (σ : Sto) (K : Nat) (a b l : Nat → Nat) (X : Nat → Nat → Int32) : Prop := fI σ 13 4 = Int32.ofNat K ∧ K ≤ 3000 ∧ ∃ s : Nat → Nat, ∀ k, k < K → aI σ 14 k = Int32.ofNat (a k) ∧ aI σ 15 k = Int32.ofNat (b k) ∧ aI σ 16 k = Int32.ofNat (s k) ∧ aI σ 17 k = Int32.ofNat (l k) ∧ s k + l k ≤ 3000 ∧ ∀ i, i < l k → aI σ 19 (s k + i) = X k i ∧ isLt (X k i) = true
theorem PC.congr {σ σ' : Sto} {K : Nat} {a b l : Nat → Nat} {X : Nat → Nat → Int32} (h : PC σ K a b l X) (h1 : fI σ' 13 4 = fI σ 13 4) (h2 : ∀ r, 14 ≤ r → r ≤ 19 → aI σ' r = aI σ r) : PC σ' K a b l X := by
  unfold PC at h ⊢
  rw [h1, h2 14 (by omega) (by omega), h2 15 (by omega) (by omega), h2 16 (by omega) (by omega), h2 17 (by omega) (by omega), h2 19 (by omega) (by omega)]
  exact h
def CL (L B H : Nat) : Prop := (L = 2 ∧ B = 3 ∧ H = 4) ∨ (L = 20 ∧ B = 21 ∧ H = 22)
theorem CL.kcs {L B H : Nat} (h : CL L B H) : kc L = 13 ∧ ln L = 3000 ∧ kc B = 12 ∧ ln B = 300 ∧ kc H = 14 ∧ ln H = 300 := by
  rcases h with ⟨rfl, rfl, rfl⟩ | ⟨rfl, rfl, rfl⟩ <;> exact ⟨rfl, rfl, rfl, rfl, rfl, rfl⟩
/-- cells that differ -/
def CSep (L B H L' B' H' : Nat) : Prop := (L ≠ L' ∧ L ≠ B' ∧ L ≠ H' ∧ B ≠ L' ∧ B ≠ B' ∧ B ≠ H') ∧ (L ≠ 13 ∧ B ≠ 13) ∧ (L' ≠ 13 ∧ B' ≠ 13 ∧ H' ≠ 13) ∧ (L' ≠ B' ∧ L' ≠ H') ∧ (23 ≠ L' ∧ 23 ≠ B' ∧ 23 ≠ H' ∧ 1 ≠ L' ∧ 1 ≠ B' ∧ 1 ≠ H')
theorem CL.sep {L B H L' B' H' : Nat} (cl : CL L B H) (acl : CL L' B' H') (hne : L ≠ L') : CSep L B H L' B' H' := by
  rcases cl with ⟨rfl, rfl, rfl⟩ | ⟨rfl, rfl, rfl⟩ <;> rcases acl with ⟨rfl, rfl, rfl⟩ | ⟨rfl, rfl, rfl⟩ <;> first | exact absurd rfl hne | (unfold CSep; decide)
/-- the change's own rows -/
def AL (σ : Sto) (L B H : Nat) : Prop := CL L B H ∧ fR σ 13 7 = L + 1 ∧ fR σ 13 9 = B + 1 ∧ fR σ 13 10 = H + 1
/-- so far built: letters of O up to mL, the field for that, so many lines -/
def BC (σ0 : Sto) (L B H : Nat) (O Fg : Nat → Int32) (σ : Sto) (mL m8 cnt : Nat) : Prop := Sm (fun a => a ≠ 13 ∧ a ≠ L ∧ a ≠ B ∧ a ≠ H) σ0 σ ∧ fR σ = fR σ0 ∧ (∀ k, k ≠ 8 → k ≠ 11 → fI σ 13 k = fI σ0 13 k) ∧ fI σ 13 8 = Int32.ofNat m8 ∧ fI σ 13 11 = Int32.ofNat cnt ∧ (∀ j, j < mL → aI σ L j = O j) ∧ ∀ j, j < cnt → j < 300 → ∃ p, isBg O j p ∧ aI σ B j = Int32.ofNat p ∧ aI σ H j = if p = 0 then 0 else Fg (p - 1)
section R
variable {σ σ0 : Sto} {K : Nat} {a b l : Nat → Nat} {X : Nat → Nat → Int32} {L B H L' B' H' : Nat} {f O Fg S : Nat → Int32} {n m mL m8 cnt : Nat}
theorem c1_addLine (h : BC σ0 L' B' H' O Fg σ mL m8 cnt) (al : AL σ0 L' B' H') {q : Nat} {x v : Int32} (hx : x = Int32.ofNat q) (hq : isBg O cnt q) (hc : cnt < 1000000) (hv : v = 0 ∨ v = 1) (hv2 : v = if q = 0 then 0 else Fg (q - 1)) : ∃ σ', f1_addLine σ x v = some σ' ∧ BC σ0 L' B' H' O Fg σ' mL m8 (cnt + 1) := by
  obtain ⟨cl, al7, al9, al10⟩ := al
  obtain ⟨z1, z2, z3, z4, z5, z6⟩ := cl.kcs
  obtain ⟨h1, h2, h3, h4, h5, h6, h7⟩ := h
  have hne : L' ≠ 13 ∧ B' ≠ 13 ∧ H' ≠ 13 ∧ L' ≠ B' ∧ L' ≠ H' ∧ B' ≠ H' := by unfold CL at cl; omega
  subst hx
  have e1 : (300 : Int32) ≤ Int32.ofNat cnt ↔ 300 ≤ cnt := i32_le (a := 300) (by omega) (by omega)
  unfold f1_addLine f1_addLine_j30
  simp only [h5, e1, stp, i32_succ]
  by_cases hq3 : 300 ≤ cnt
  · rw [if_pos hq3]
    refine ⟨_, rfl, h1.trans (Sm.uI (by omega)), h2, fun k k1 k2 => ?_, ?_, ?_, h6, fun j j1 j2 => ?_⟩
    · rw [fI_uI, if_pos rfl, if_neg k2]
      exact h3 k k1 k2
    · rw [fI_uI, if_pos rfl, if_neg (by decide)]
      exact h4
    · rw [fI_uI, if_pos rfl, if_pos rfl]
    · exact h7 j (by omega) j2
  · have f1 : ∀ (r : Nat → Int32), fR (rA σ B' r) = fR σ := fun _ => rfl
    have f2 : ∀ (r : Nat → Int32), aI (rA σ B' r) H' = aI σ H' := fun _ => aI_rA' (Ne.symm hne.2.2.2.2.2)
    have f3 : ∀ (r r' : Nat → Int32), fI (rA (rA σ B' r) H' r') = fI σ := fun _ _ => rfl
    rw [if_neg hq3]
    simp only [h2, al9, al10, okr_s.mpr z3, okr_s.mpr z5, Nat.add_sub_cancel, z4, z6, inb_n (show cnt < 300 by omega) (by omega), gd_true, ofNat_clamp (show cnt < 2147483648 by omega), uA_up1, f1, f2, f3, fI_rA, h5, nar_b hv, i32_succ]
    refine ⟨_, rfl, h1.trans (Sm.trans (Sm.rA (by omega)) (Sm.trans (Sm.rA (by omega)) (Sm.uI (by omega)))), h2, fun k k1 k2 => ?_, ?_, ?_, fun j hj => ?_, fun j j1 j2 => ?_⟩
    · rw [fI_uI, if_pos rfl, if_neg k2]
      exact h3 k k1 k2
    · rw [fI_uI, if_pos rfl, if_neg (by decide)]
      exact h4
    · rw [fI_uI, if_pos rfl, if_pos rfl]
    · show aI (rA (rA σ B' _) H' _) L' j = _
      rw [aI_rA' hne.2.2.2.2.1, aI_rA' hne.2.2.2.1]
      exact h6 j hj
    · show ∃ p, isBg O j p ∧ aI (rA (rA σ B' _) H' _) B' j = Int32.ofNat p ∧ aI (rA (rA σ B' _) H' _) H' j = _
      rw [aI_rA' hne.2.2.2.2.2, aI_rA, if_pos rfl, aI_rA, if_pos rfl]
      unfold up1
      by_cases e : j = cnt
      · rw [if_pos e, if_pos e, e]
        exact ⟨q, hq, rfl, hv2⟩
      · rw [if_neg e, if_neg e]
        exact h7 j (by omega) j2
theorem c1_putPart (h : BC σ0 L' B' H' O Fg σ m m (ends O m + 1)) (al : AL σ0 L' B' H') (pc : PC σ0 K a b l X) {k : Nat} (hk : k < K) (hm : m + l k ≤ 3000) (hO : ∀ i, i < l k → O (m + i) = X k i) (hF : ∀ i, i < l k → Fg (m + i) = 0) : ∃ σ', f1_putPart σ (Int32.ofNat k) = some σ' ∧ BC σ0 L' B' H' O Fg σ' (m + l k) (m + l k) (ends O (m + l k) + 1) := by
  obtain ⟨p1, p2, s, p3⟩ := pc
  obtain ⟨q1, q2, q3, q4, q5, q6⟩ := p3 k hk
  obtain ⟨cl, al7, al9, al10⟩ := id al
  obtain ⟨z1, z2, z3, z4, z5, z6⟩ := cl.kcs
  have hcl : CL L' B' H' := cl
  unfold CL at cl
  have key : Ok (loopF (fun s_9 => f1_putPart_b9 (Int32.ofNat k) s_9.1 (Int32.ofNat (s k)) s_9.2) FU (σ, Int32.ofNat (s k))) (fun σ' => BC σ0 L' B' H' O Fg σ' (m + l k) (m + l k) (ends O (m + l k) + 1)) := by
    refine Ok_count (l k) (fun i t => t.2 = Int32.ofNat (s k + i) ∧ BC σ0 L' B' H' O Fg t.1 (m + i) (m + i) (ends O (m + i) + 1)) ?_ 0 ⟨rfl, h⟩ (by omega) (by (show _ < FU; unfold FU; omega))
    rintro i ⟨M, y⟩ hi ⟨e, hM⟩
    have e : y = Int32.ofNat (s k + i) := e
    subst e
    have hM : BC σ0 L' B' H' O Fg M (m + i) (m + i) (ends O (m + i) + 1) := hM
    obtain ⟨h1, h2, h3, h4, h5, h6, h7⟩ := id hM
    have r17 : aI M 17 = aI σ0 17 := (h1 17 (by omega)).2.2.1
    have r19 : aI M 19 = aI σ0 19 := (h1 19 (by omega)).2.2.1
    have hes := ends_le O (m + i)
    unfold f1_putPart_b9 f1_putPart_j72
    simp only [inb_n (show k < 3000 by omega) (by omega), gd_true, ofNat_clamp (show k < 2147483648 by omega), r17, q4, i32_add, i32_le (show s k + l k < 2147483648 by omega) (show s k + i < 2147483648 by omega)]
    by_cases hq : l k ≤ i
    · rw [if_pos (by omega), Ok_some, lp_inr, show l k = i by omega]
      exact hM
    · obtain ⟨x1, x2⟩ := q6 i (by omega)
      have hx := isLt_in x2
      have hxb : vp_nar .byte (X k i) = X k i := (nar_B ⟨by grind, by grind⟩).2.1
      have hL13 : L' ≠ 13 := by omega
      have g19 : ∀ (r : Nat → Int32) (v : Int32), aI (uI (rA M L' r) 13 8 v) 19 = aI σ0 19 := fun r v => by
        show aI (rA M L' r) 19 = _
        rw [aI_rA' (by omega), r19]
      have g8 : ∀ (r : Nat → Int32) (v : Int32), fI (uI (rA M L' r) 13 8 v) 13 8 = v := fun r v => by rw [fI_uI, if_pos rfl, if_pos rfl]
      rw [if_neg (by omega)]
      simp only [h2, al7, okr_s.mpr z1, Nat.add_sub_cancel, z2, h4, inb_n (show s k + i < 3000 by omega) (by omega), inb_n (show m + i < 3000 by omega) (by omega), gd_true, ofNat_clamp (show s k + i < 2147483648 by omega), ofNat_clamp (show m + i < 2147483648 by omega), r19, x1, hxb, uA_up1, stp, fI_rA, i32_succ, g19, g8]
      have hB : BC σ0 L' B' H' O Fg (uI (rA M L' (up1 (aI M L') (m + i) (X k i))) 13 8 (Int32.ofNat (m + i + 1))) (m + (i + 1)) (m + (i + 1)) (ends O (m + i) + 1) := by
        refine ⟨h1.trans (Sm.trans (Sm.rA (by omega)) (Sm.uI (by omega))), h2, fun j j1 j2 => ?_, ?_, ?_, fun j hj => ?_, fun j j1 j2 => ?_⟩
        · rw [fI_uI, if_pos rfl, if_neg j1]
          exact h3 j j1 j2
        · rw [fI_uI, if_pos rfl, if_pos rfl]
          rfl
        · rw [fI_uI, if_pos rfl, if_neg (by decide)]
          exact h5
        · show aI (rA M L' _) L' j = _
          rw [aI_rA, if_pos rfl]
          unfold up1
          by_cases e : j = m + i
          · rw [if_pos e, e, hO i (by omega)]
          · rw [if_neg e]
            exact h6 j (by omega)
        · show ∃ p, isBg O j p ∧ aI (rA M L' _) B' j = _ ∧ aI (rA M L' _) H' j = _
          rw [aI_rA' (by omega), aI_rA' (by omega)]
          exact h7 j j1 j2
      have hs := ends_succ O (m + i)
      rw [hO i (by omega)] at hs
      by_cases h10 : X k i = 10
      · rw [if_pos h10] at hs
        rw [if_pos h10]
        obtain ⟨σ', u1, u2⟩ := c1_addLine hB al (q := m + i + 1) (v := 0) rfl ⟨hs, Or.inr (by rw [Nat.add_sub_cancel, hO i (by omega), h10])⟩ (by omega) (Or.inl rfl) (by rw [if_neg (by omega), Nat.add_sub_cancel, hF i (by omega)])
        rw [u1, bnd_some, Ok_some, lp_inl]
        refine ⟨by omega, rfl, ?_⟩
        rw [show ends O (m + (i + 1)) + 1 = ends O (m + i) + 1 + 1 by rw [← hs]; rfl]
        exact u2
      · rw [if_neg h10] at hs
        rw [if_neg h10, Ok_some, lp_inl]
        refine ⟨by omega, rfl, ?_⟩
        have hs2 : ends O (m + (i + 1)) = ends O (m + i) := hs
        rw [hs2]
        exact hB
  obtain ⟨σ', k1, k2⟩ := key
  have r16 : aI σ 16 = aI σ0 16 := (h.1 16 (by omega)).2.2.1
  unfold f1_putPart
  rw [inb_n (show k < 3000 by omega) (by omega), gd_true, ofNat_clamp (show k < 2147483648 by omega), r16, q3, stp, stp, f1_putPart_j9, k1, bnd_some]
  exact ⟨σ', rfl, k2⟩
theorem i32_sub {p q : Nat} (h : p ≤ q) : Int32.ofNat q - Int32.ofNat p = Int32.ofNat (q - p) := by
  have : Int32.ofNat (q - p) + Int32.ofNat p = Int32.ofNat q := by rw [i32_add]; congr 1; omega
  rw [← this]
  grind
theorem c1_takeOver (h : BC σ0 L' B' H' O Fg σ m m (ends O m + 1)) (al : AL σ0 L' B' H') (ct : CT σ0 1 L B f n) (cl : CL L B H) (hne : L ≠ L') (hlt : ∀ i, i < n → isLt (f i) = true) (hS : ∀ j, j ≤ ends f n → aI σ0 23 j = S j ∧ (S j = 0 ∨ S j = 1)) {p q : Nat} {x y : Int32} (hx : x = Int32.ofNat p) (hy : y = Int32.ofNat q) (hpq : p ≤ q) (hqn : q ≤ n) (hm : m + (q - p) ≤ 3000) (hO : ∀ i, i < q - p → O (m + i) = f (p + i)) (hF : ∀ i, i < q - p → Fg (m + i) = S (ends f (p + i + 1))) : ∃ σ', f1_takeOver σ 1 x y = some σ' ∧ BC σ0 L' B' H' O Fg σ' (m + (q - p)) (m + (q - p)) (ends O (m + (q - p)) + 1) := by
  subst hx hy
  obtain ⟨h1, h2, h3, h4, h5, h6, h7⟩ := id h
  obtain ⟨acl, al7, al9, al10⟩ := id al
  have hc := cl.sep acl hne
  have ctM : ∀ M : Sto, Sm (fun a => a ≠ 13 ∧ a ≠ L' ∧ a ≠ B' ∧ a ≠ H') σ0 M → CT M 1 L B f n := fun M hM => ct.congr (hM 1 ⟨by decide, hc.2.2.2.2.2.2.2.1, hc.2.2.2.2.2.2.2.2.1, hc.2.2.2.2.2.2.2.2.2⟩).1 (hM 1 ⟨by decide, hc.2.2.2.2.2.2.2.1, hc.2.2.2.2.2.2.2.2.1, hc.2.2.2.2.2.2.2.2.2⟩).2.1 (hM L ⟨hc.2.1.1, hc.1.1, hc.1.2.1, hc.1.2.2.1⟩).2.2.1 (hM B ⟨hc.2.1.2, hc.1.2.2.2.1, hc.1.2.2.2.2.1, hc.1.2.2.2.2.2⟩).2.2.1
  have ctS := ctM σ h1
  have hn := ctS.1
  have hE := ctS.2.1
  have uL := ctS.2.2.2.2.2.2.1
  have hpe := ends_mono (f := f) hpq
  have hqe := ends_mono (f := f) hqn
  have e0 := i32_sub hpq
  have cp : cpok (Int32.ofNat p) (Int32.ofNat m) (Int32.ofNat (q - p)) 3000 3000 = true := cpok_t (by omega) (by omega) (by omega) (by omega) (by omega)
  have fb : fitB (aI σ L) p (q - p) = true := fitB_t (fun i hi => by
    rw [uL (p + i) (by omega)]
    have := isLt_in (hlt (p + i) (by omega))
    grind)
  have hOm : ∀ i, i ≤ q - p → ends O (m + i) + ends f p = ends O m + ends f (p + i) := fun i hi => ends_from i (fun j hj => hO j (by omega))
  have hB1 : BC σ0 L' B' H' O Fg (rA σ L' (va_cpy (aI σ L) (aI σ L') p m (q - p))) (m + (q - p)) m (ends O m + 1) := by
    refine ⟨h1.trans (Sm.rA (by omega)), h2, h3, h4, h5, fun j hj => ?_, fun j j1 j2 => ?_⟩
    · rw [aI_rA, if_pos rfl]
      show (if m ≤ j ∧ j < m + (q - p) then aI σ L (p + (j - m)) else aI σ L' j) = _
      by_cases e : m ≤ j
      · rw [if_pos ⟨e, hj⟩, uL _ (by omega), ← hO _ (by omega)]
        congr 1
        omega
      · rw [if_neg (by omega)]
        exact h6 j (by omega)
    · rw [aI_rA' (Ne.symm hc.2.2.2.1.1), aI_rA' (Ne.symm hc.2.2.2.1.2)]
      exact h7 j j1 j2
  have key : Ok (loopF (fun s_28 => f1_takeOver_b28 1 (Int32.ofNat p) (Int32.ofNat q) s_28.1 s_28.2) FU (rA σ L' (va_cpy (aI σ L) (aI σ L') p m (q - p)), Int32.ofNat (ends f p + 1))) (fun r => ∃ M, (r = .inl M ∨ r = .inr M) ∧ BC σ0 L' B' H' O Fg M (m + (q - p)) m (ends O (m + (q - p)) + 1)) := by
    refine Ok_count (ends f q - ends f p) (fun i t => t.2 = Int32.ofNat (ends f p + 1 + i) ∧ BC σ0 L' B' H' O Fg t.1 (m + (q - p)) m (ends O m + 1 + i)) ?_ 0 ⟨rfl, hB1⟩ (by omega) (by (show _ < FU; unfold FU; omega))
    rintro i ⟨M, y⟩ hi ⟨e, hM⟩
    have e : y = Int32.ofNat (ends f p + 1 + i) := e
    subst e
    have hM : BC σ0 L' B' H' O Fg M (m + (q - p)) m (ends O m + 1 + i) := hM
    obtain ⟨w1, w2, w3, w4, w5, w6, w7⟩ := id hM
    have v4 := (ctM M w1).2.2.2.1
    have hend := hOm (q - p) (Nat.le_refl _)
    rw [show p + (q - p) = q by omega] at hend
    unfold f1_takeOver_b28
    simp only [v4, i32_le (show ends f n + 1 < 2147483648 by omega) (show ends f p + 1 + i < 2147483648 by omega)]
    by_cases hq : ends f n + 1 ≤ ends f p + 1 + i
    · rw [if_pos hq, Ok_some, lp_inr]
      refine ⟨M, Or.inl rfl, ?_⟩
      rw [show ends O (m + (q - p)) + 1 = ends O m + 1 + i by omega]
      exact hM
    · rw [if_neg hq]
      obtain ⟨bj, b1, b2⟩ := isBg.ex (f := f) (n := n) (j := ends f p + 1 + i) (by omega)
      obtain ⟨b3, -⟩ := (ctM M w1).bg (by omega) b2
      simp only [(ctM M w1).2.2.2.2.2.1.1, okr_s.mpr (ctM M w1).2.2.2.2.2.1.2.1, Nat.add_sub_cancel, (ctM M w1).2.2.2.2.2.1.2.2, inb_n (show ends f p + 1 + i < 300 by omega) (by omega), gd_true, ofNat_clamp (show ends f p + 1 + i < 2147483648 by omega), b3, i32_le (show bj < 2147483648 by omega) (show q < 2147483648 by omega)]
      by_cases hbq : bj ≤ q
      · have hjq := b2.le_iff.mp hbq
        rw [if_pos hbq]
        have hpb : p < bj := by
          rcases Nat.lt_or_ge p bj with z | z
          · exact z
          · have := b2.le_iff.mp z
            omega
        obtain ⟨s1, s2⟩ := hS (ends f p + 1 + i) (by omega)
        have m23 : aI M 23 = aI σ0 23 := (w1 23 ⟨by decide, hc.2.2.2.2.1, hc.2.2.2.2.2.1, hc.2.2.2.2.2.2.1⟩).2.2.1
        have e8 : Int32.ofNat m + Int32.ofNat bj - Int32.ofNat p = Int32.ofNat (m + (bj - p)) := by
          have : Int32.ofNat m + Int32.ofNat bj = Int32.ofNat (m + (bj - p)) + Int32.ofNat p := by rw [i32_add, i32_add]; congr 1; omega
          rw [this]
          grind
        have hbo := hOm (bj - p) (by omega)
        rw [show p + (bj - p) = bj by omega, b2.1] at hbo
        have hbe : m + (bj - p) ≤ 3000 := by omega
        have hol := ends_le O (m + (bj - p))
        obtain ⟨σ', t1, t2⟩ := c1_addLine hM al (q := m + (bj - p)) (v := S (ends f p + 1 + i)) rfl ⟨by omega, Or.inr (by
          rw [show m + (bj - p) - 1 = m + (bj - p - 1) by omega, hO _ (by omega), show p + (bj - p - 1) = bj - 1 by omega]
          rcases b2.2 with z | z
          · omega
          · exact z)⟩ (by omega) s2 (by
          rw [if_neg (by omega), show m + (bj - p) - 1 = m + (bj - p - 1) by omega, hF _ (by omega), show p + (bj - p - 1) + 1 = bj by omega, b2.1])
        rw [w4, e8, m23, s1, t1, bnd_some]
        simp only [stp, i32_succ]
        rw [Ok_some, lp_inl]
        exact ⟨by omega, rfl, t2⟩
      · have hjq : ends f q < ends f p + 1 + i := by
          rcases Nat.lt_or_ge (ends f q) (ends f p + 1 + i) with z | z
          · exact z
          · exact absurd (b2.le_iff.mpr z) hbq
        rw [if_neg hbq, Ok_some, lp_inr]
        refine ⟨M, Or.inr rfl, ?_⟩
        rw [show ends O (m + (q - p)) + 1 = ends O m + 1 + i by omega]
        exact hM
  obtain ⟨r, k1, M, k2, k3⟩ := key
  obtain ⟨w1, w2, w3, w4, w5, w6, w7⟩ := k3
  have hlast : f1_takeOver_j82 1 (Int32.ofNat p) (Int32.ofNat q) M = some (uI M 13 8 (Int32.ofNat (m + (q - p)))) := by
    rw [f1_takeOver_j82, stp, w4, e0, i32_add]
  have hres : f1_takeOver σ 1 (Int32.ofNat p) (Int32.ofNat q) = some (uI M 13 8 (Int32.ofNat (m + (q - p)))) := by
    unfold f1_takeOver
    rw [e0]
    simp only [ctS.2.2.2.2.1.1, okr_s.mpr ctS.2.2.2.2.1.2.1, Nat.add_sub_cancel, ctS.2.2.2.2.1.2.2, h2, al7, okr_s.mpr acl.kcs.1, acl.kcs.2.1, h4, cp, gd_true, ofNat_clamp (show p < 2147483648 by omega), ofNat_clamp (show m < 2147483648 by omega), ofNat_clamp (show q - p < 2147483648 by omega)]
    rw [fb, gd_true, stp, c8_lineWith (ctM _ hB1.1) rfl (by omega : p ≤ n), bnd_some, stp, i32_succ, f1_takeOver_j28, k1, bnd_some]
    rcases k2 with rfl | rfl
    · exact hlast
    · exact hlast
  refine ⟨_, hres, w1.trans (Sm.uI (by omega)), w2, fun k k1 k2 => ?_, ?_, ?_, w6, w7⟩
  · rw [fI_uI, if_pos rfl, if_neg k1]
    exact w3 k k1 k2
  · rw [fI_uI, if_pos rfl, if_pos rfl]
  · rw [fI_uI, if_pos rfl, if_neg (by decide)]
    exact w5
end R
