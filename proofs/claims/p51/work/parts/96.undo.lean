/-! undone, and done again -/
section R
variable {σ μ σ' S M : Sto} {L B H : Nat} {D D0 : Doc} {T T0 : Hst} {o : Int64}
theorem Rel0.close (h : Rel0 σ μ D L B H T) : Rel0 (uI (uI σ 24 3 0) 24 4 0) (uI (uI μ 2017 34 0) 2017 33 (-1)) D L B H T := by
  have hm : ∀ k, k ≠ 33 → k ≠ 34 → fI (uI (uI μ 2017 34 0) 2017 33 (-1)) 2017 k = fI μ 2017 k := fun k k1 k2 => by
    rw [fI_uI, if_pos rfl, if_neg k1, fI_uI, if_pos rfl, if_neg k2]
  have hs : Sm (fun a => a ≠ 24) σ (uI (uI σ 24 3 0) 24 4 0) := Sm.trans (Sm.uI (by omega)) (Sm.uI (by omega))
  have hw := h.2.2.2.1.cells
  refine RelT.act (P := RT) h (hs.weak (by omega)) (fun k hk => hm k (by omega) (by omega)) (fun _ _ => rfl) h.1 (h.2.1.congr (hs 1 (by omega)).1 rfl rfl rfl rfl rfl rfl rfl) (h.2.2.1.congr (hm 5 (by decide) (by decide)) (hm 6 (by decide) (by decide)) rfl rfl rfl rfl rfl) h.2.2.2.1 ⟨Or.inl rfl, rfl, ?_, fun z => absurd rfl z⟩ (h.2.2.2.2.2.2.2.2.2.2.2.congr (hs.weak (by omega)) ?_ rfl (hm 31 (by decide) (by decide)) (hm 32 (by decide) (by decide)) (fun _ _ _ => rfl))
  · show (0 : Int32) = if (-1 : Int32) = -1 then 0 else 1
    rw [if_pos rfl]
  · rw [fI_uI, if_pos rfl, if_neg (by decide), fI_uI, if_pos rfl, if_neg (by decide)]
theorem HS.of (h : Rel0 σ μ D L B H T) (h33 : fI μ 2017 33 = -1) (h34 : fI μ 2017 34 = 0) : HS σ μ σ μ T D := ⟨h.2.2.2.2.2.2.2.2.2.2.2, h.2.2.1, h.1, ⟨Sm.rf, rfl⟩, fun _ _ _ _ _ _ _ => rfl, fun _ _ => rfl, h33, h34⟩
theorem Rel0.came (h : Rel0 σ μ D0 L B H T0) (h3 : fI σ 24 3 = 0) (h4 : fI σ 24 4 = 0) (hs : HS σ μ S M T D) (sc : SC σ' 1 L B H D) (fr : Sm (fun a => a ≠ 1 ∧ a ≠ L ∧ a ≠ B ∧ a ≠ H ∧ a ≠ 5 ∧ a ≠ 6 ∧ a ≠ 7) S σ') (rr : fR σ' = fR S) : Rel0 σ' M D L B H T := by
  obtain ⟨rh, m, g, ⟨f1, f2⟩, f3, f4, f5, f6⟩ := hs
  have hw := h.2.2.2.1.cells
  refine RelT.act (P := RT) h ((f1.weak (by omega)).trans (fr.weak (by omega))) (fun k hk => f3 k (by omega) (by omega) (by omega) (by omega) (by omega) (by omega)) (fun a ha => f4 a (by omega)) g sc m ?_ ⟨?_, ?_, ?_, ?_⟩ (rh.congr (fr.weak (by omega)) (by rw [(fr 24 (by omega)).1]) (by rw [rr]) rfl rfl (fun _ _ _ => rfl))
  · have w := h.2.2.2.1
    unfold SW at w ⊢
    rw [rr, (f1 13 (by omega)).2.1]
    exact w
  · rw [(fr 24 (by omega)).1, f2, h3]
    exact Or.inl rfl
  · rw [(fr 24 (by omega)).1, f2, h3]
    exact f6
  · rw [(fr 24 (by omega)).1, f2, h4, f5, if_pos rfl]
  · intro z
    exact absurd f5 z
/-- the present moment taken at the node -/
theorem take0 (h : Rel0 σ μ D L B H T) (h33 : fI μ 2017 33 = -1) (h34 : fI μ 2017 34 = 0) : ∃ S, f5_take σ (26 + 13 * T.2.1 + 7) 1 = some S ∧ HS σ μ S μ T D ∧ MO S (26 + 13 * T.2.1 + 7) D ∧ fR S = fR σ ∧ fI S 24 = fI σ 24 := by
  obtain ⟨f, n, hd, c, cu, ma, lf, ml⟩ := D
  obtain ⟨N, x, par, cho, Bf, Af⟩ := T
  obtain ⟨rh, m, g, hf⟩ := HS.of h h33 h34
  have g2 : x ≤ N := rh.1.2.1
  have g1 : N ≤ 150 := rh.1.1
  obtain ⟨S, k1, k2, k3, k4⟩ := c5_take h.2.1 h.1 h.2.2.2.1.cells (t := 26 + 13 * x + 7) (by omega)
  have e24 : fI S 24 = fI σ 24 := (k3 24 (by omega)).1
  refine ⟨S, k1, ⟨rh.again g2 (by rw [e24]) (by rw [k4]; exact rh.1.2.2.2.2.1) (fun i hi => by rw [k4]) rfl rh.1.2.2.2.2.2.1 rfl rfl (fun i i1 i2 => ?_) (fun i i1 i2 i3 => ?_) (fun i i1 i2 => rh.2.2.2.2.2.2 i i1 i2), m, g, ⟨k3.weak (by omega), e24⟩, fun _ _ _ _ _ _ _ => rfl, fun _ _ => rfl, h33, h34⟩, k2, k4, e24⟩
  · obtain ⟨c1, c2, c3⟩ := rh.2.2.2.2.1 i i1 i2
    exact ⟨c2.congr (fun a a1 a2 => by have := k3 a (by omega); exact ⟨this.1, this.2.2.1, this.2.2.2⟩), c3⟩
  · have hne : i ≠ x := fun e => i3 (e ▸ Anc.self)
    obtain ⟨c1, c2, c3⟩ := rh.2.2.2.2.2.1 i i1 i2 i3
    exact ⟨c1, c2.congr (fun a a1 a2 => by have := k3 a (by omega); exact ⟨this.1, this.2.2.1, this.2.2.2⟩), c3⟩
theorem pRf_0 {par : Nat → Nat} {x : Nat} : pRf par x = 0 ↔ x = 0 := by
  unfold pRf
  by_cases h : x = 0
  · rw [if_pos h]
    exact ⟨fun _ => h, fun _ => rfl⟩
  · rw [if_neg h]
    omega
theorem cRf_0 {cho : Nat → Nat} {x : Nat} : cRf cho x = 0 ↔ cho x = 0 := by
  unfold cRf
  by_cases h : cho x = 0
  · rw [if_pos h]
    exact ⟨fun _ => h, fun _ => rfl⟩
  · rw [if_neg h]
    omega
theorem RH.pRf {N x : Nat} {par cho : Nat → Nat} {Bf Af : Nat → Doc} (h : RH σ μ (N, x, par, cho, Bf, Af)) : fR σ (26 + 13 * x) 0 = pRf par x := by
  unfold Jvm.Pilot.CCursorroomLaw_law_r8226_a7a0bf.pRf
  by_cases e : x = 0
  · rw [if_pos e, e]
    exact h.1.2.2.2.2.2.2.1
  · rw [if_neg e]
    exact (h.2.1 x (by omega) h.1.2.1).2.1
theorem RH.cRf {N x : Nat} {par cho : Nat → Nat} {Bf Af : Nat → Doc} (h : RH σ μ (N, x, par, cho, Bf, Af)) : fR σ (26 + 13 * x) 1 = cRf cho x := (h.2.2.1 x h.1.2.1).2.2.1
theorem okr_node {i : Nat} (h : i ≤ 150) : okr (26 + 13 * i + 1) 0 = true := okr_s.mpr (kc_node i (by omega))
theorem op_undo (h : Rel σ μ) {x : Int32} : stH (f11_undo σ x) [(2, 1)] o (f12_undo μ x) RQ := by
  obtain ⟨D, L, B, H, T, h0⟩ := id h
  unfold f11_undo f11_undo_j12 f12_undo
  simp only [c12_in, c12_refuse, bnd_some, ite_tz, decide_eq_true_eq]
  by_cases hx0 : x < 1
  · rw [if_pos hx0, if_neg (by grind)]
    exact stH_er (c := 2) (t := 1) rfl (by decide) (by decide) rfl h
  rw [if_neg hx0]
  by_cases hx1 : x ≤ 150
  · rw [if_pos hx1, if_pos (by grind)]
    obtain ⟨l, hl, rfl⟩ := of_range (x := x) (n := 150) ⟨by grind, hx1⟩ (by decide)
    unfold f4_closeGroup f12_closes
    rw [stp, stp, bnd_some, stp, stp, bnd_some, stp]
    have hc := h0.close
    have c33 : fI (uI (uI μ 2017 34 0) 2017 33 (-1)) 2017 33 = -1 := by rw [fI_uI, if_pos rfl, if_pos rfl]
    have c34 : fI (uI (uI μ 2017 34 0) 2017 33 (-1)) 2017 34 = 0 := by rw [fI_uI, if_pos rfl, if_neg (by decide), fI_uI, if_pos rfl, if_pos rfl]
    have c3 : fI (uI (uI σ 24 3 0) 24 4 0) 24 3 = 0 := by rw [fI_uI, if_pos rfl, if_neg (by decide), fI_uI, if_pos rfl, if_pos rfl]
    have c4 : fI (uI (uI σ 24 3 0) 24 4 0) 24 4 = 0 := by rw [fI_uI, if_pos rfl, if_pos rfl]
    generalize uI (uI σ 24 3 0) 24 4 0 = σc at hc c3 c4
    generalize uI (uI μ 2017 34 0) 2017 33 (-1) = μc at hc c33 c34
    obtain ⟨S0, k1, k2, k3, k4, k5⟩ := take0 hc c33 c34
    obtain ⟨N, x, par, cho, Bf, Af⟩ := T
    have g2 : x ≤ N := k2.1.1.2.1
    have g1 : N ≤ 150 := k2.1.1.1
    have key : ∃ r r', loopF (fun s_22 => f4_goBack_b22 1 (Int32.ofNat l) s_22.1 s_22.2.1 s_22.2.2) FU (S0, 0, pRf par x) = some r ∧ loopF (fun s_23 => f12_undo_b23 (Int32.ofNat l) s_23.1 s_23.2) FU (μc, 0) = some r' ∧ ∃ k S M x Af D, r = (S, Int32.ofNat k) ∧ r' = (M, Int32.ofNat k) ∧ HS σc μc S M (N, x, par, cho, Bf, Af) D ∧ MO S (26 + 13 * x + 7) D := by
      refine loop2 l (fun k s s' => ∃ S M x Af D, s = (S, Int32.ofNat k, pRf par x) ∧ s' = (M, Int32.ofNat k) ∧ HS σc μc S M (N, x, par, cho, Bf, Af) D ∧ MO S (26 + 13 * x + 7) D) ?_ 0 ⟨S0, μc, x, Af, D, rfl, rfl, k2, k3⟩ (by omega) (by (show _ < FU; unfold FU; omega)) (by (show _ < FU; unfold FU; omega))
      rintro k s s' hk ⟨S, M, x, Af, D, rfl, rfl, hs, hm⟩
      show (∃ t t', f4_goBack_b22 1 (Int32.ofNat l) S (Int32.ofNat k) (pRf par x) = _ ∧ f12_undo_b23 (Int32.ofNat l) M (Int32.ofNat k) = _ ∧ _) ∨ ∃ r r', f4_goBack_b22 1 (Int32.ofNat l) S (Int32.ofNat k) (pRf par x) = _ ∧ f12_undo_b23 (Int32.ofNat l) M (Int32.ofNat k) = _ ∧ _
      have e32 : fI M 2017 32 = Int32.ofNat x := hs.1.1.2.2.2.2.2.1
      have hxN : x ≤ N := hs.1.1.2.1
      by_cases hz : k < l ∧ x ≠ 0
      · obtain ⟨S', M', t1, t2, t3, t4, _⟩ := back_step hs hm hz.2
        rw [t1 l k hz.1 (by omega), t2 l k hz.1 (by omega)]
        exact Or.inl ⟨_, _, rfl, rfl, by omega, S', M', par x, upD Af x D, Bf x, rfl, rfl, t3, t4⟩
      · have e1 : f4_goBack_b22 1 (Int32.ofNat l) S (Int32.ofNat k) (pRf par x) = some (.inr (S, Int32.ofNat k)) := by
          unfold f4_goBack_b22
          by_cases q : l ≤ k
          · rw [if_pos ((i32_le (by omega) (by omega)).mpr q)]
          · rw [if_neg (fun z => q ((i32_le (by omega) (by omega)).mp z)), if_pos (pRf_0.mpr (Decidable.not_not.mp (fun w => hz ⟨by omega, w⟩)))]
        have e2 : f12_undo_b23 (Int32.ofNat l) M (Int32.ofNat k) = some (.inr (M, Int32.ofNat k)) := by
          unfold f12_undo_b23
          by_cases q : l ≤ k
          · rw [if_pos ((i32_le (by omega) (by omega)).mpr q)]
          · rw [if_neg (fun z => q ((i32_le (by omega) (by omega)).mp z)), e32, if_pos ((ofNat_z0 (by omega)).mpr (Decidable.not_not.mp (fun w => hz ⟨by omega, w⟩)))]
        rw [e1, e2]
        exact Or.inr ⟨_, _, rfl, rfl, k, S, M, x, Af, D, rfl, rfl, hs, hm⟩
    obtain ⟨r, r', j1, j2, k, S, M, x', Af', D', rfl, rfl, hs, hm⟩ := key
    have hx' : x' ≤ N := hs.1.1.2.1
    have e24 : fR σc 24 2 = 26 + 13 * x + 1 := by rw [← k4]; exact k2.1.1.2.2.2.2.1
    have e24' : fR S 24 2 = 26 + 13 * x' + 1 := hs.1.1.2.2.2.2.1
    have hr1 : fR S 1 = fR σc 1 := (hs.2.2.2.1.1 1 (by omega)).2.1
    obtain ⟨σ', b1, b2, b3, b4⟩ : ∃ σ', f5_bringBack S (26 + 13 * x' + 7) 1 = some σ' ∧ SC σ' 1 L B H D' ∧ Sm (fun a => a ≠ 1 ∧ a ≠ L ∧ a ≠ B ∧ a ≠ H ∧ a ≠ 5 ∧ a ≠ 6 ∧ a ≠ 7) S σ' ∧ fR σ' = fR S := by
      obtain ⟨f, n, hd, c, cu, ma, lf, ml⟩ := D'
      obtain ⟨f0, n0, hd0, c0, cu0, ma0, lf0, ml0⟩ := D
      exact c5_bringBack hm hs.2.2.1 h0.2.2.2.1.cells (by omega) (by rw [hr1]; exact hc.2.1.1.2.2.2.2.1.1) (by rw [hr1]; exact hc.2.1.1.2.2.2.2.2.1.1) (by rw [hr1]; exact hc.2.1.2.1.1)
    have eC : f4_goBack σc 1 (Int32.ofNat l) = some (Int32.ofNat k, σ') := by
      unfold f4_goBack f4_goBack_j22 f4_goBack_j68
      rw [stp, e24, okr_node (by omega), gd_true, Nat.add_sub_cancel, k1, bnd_some, k4, e24, okr_node (by omega), gd_true, Nat.add_sub_cancel, ← k4, k2.1.pRf, stp, j1, bnd_some]
      show gd (okr (fR S 24 2) 0) _ = _
      rw [e24', okr_node (by omega), gd_true, Nat.add_sub_cancel, b1, bnd_some]
    unfold f12_undo_j23 f12_undo_j94
    rw [eC, bnd_some, j2, bnd_some, c12_told, bnd_some]
    exact stH_ok rfl rfl ⟨_, _, _, _, _, hc.came c3 c4 hs b2 b3 b4⟩
  · rw [if_neg hx1, if_neg (by grind)]
    exact stH_er (c := 2) (t := 1) rfl (by decide) (by decide) rfl h
theorem op_redo (h : Rel σ μ) {x : Int32} : stH (f11_redo σ x) [(2, 1)] o (f12_redo μ x) RQ := by
  obtain ⟨D, L, B, H, T, h0⟩ := id h
  unfold f11_redo f11_redo_j12 f12_redo
  simp only [c12_in, c12_refuse, bnd_some, ite_tz, decide_eq_true_eq]
  by_cases hx0 : x < 1
  · rw [if_pos hx0, if_neg (by grind)]
    exact stH_er (c := 2) (t := 1) rfl (by decide) (by decide) rfl h
  rw [if_neg hx0]
  by_cases hx1 : x ≤ 150
  · rw [if_pos hx1, if_pos (by grind)]
    obtain ⟨l, hl, rfl⟩ := of_range (x := x) (n := 150) ⟨by grind, hx1⟩ (by decide)
    unfold f4_closeGroup f12_closes
    rw [stp, stp, bnd_some, stp, stp, bnd_some, stp]
    have hc := h0.close
    have c33 : fI (uI (uI μ 2017 34 0) 2017 33 (-1)) 2017 33 = -1 := by rw [fI_uI, if_pos rfl, if_pos rfl]
    have c34 : fI (uI (uI μ 2017 34 0) 2017 33 (-1)) 2017 34 = 0 := by rw [fI_uI, if_pos rfl, if_neg (by decide), fI_uI, if_pos rfl, if_pos rfl]
    have c3 : fI (uI (uI σ 24 3 0) 24 4 0) 24 3 = 0 := by rw [fI_uI, if_pos rfl, if_neg (by decide), fI_uI, if_pos rfl, if_pos rfl]
    have c4 : fI (uI (uI σ 24 3 0) 24 4 0) 24 4 = 0 := by rw [fI_uI, if_pos rfl, if_pos rfl]
    generalize uI (uI σ 24 3 0) 24 4 0 = σc at hc c3 c4
    generalize uI (uI μ 2017 34 0) 2017 33 (-1) = μc at hc c33 c34
    have k2 := HS.of hc c33 c34
    obtain ⟨N, x, par, cho, Bf, Af⟩ := T
    have g2 : x ≤ N := k2.1.1.2.1
    have g1 : N ≤ 150 := k2.1.1.1
    have key : ∃ r r', loopF (fun s_11 => f4_goOn_b11 1 (Int32.ofNat l) s_11.1 s_11.2.1 s_11.2.2) FU (σc, 0, cRf cho x) = some r ∧ loopF (fun s_23 => f12_redo_b23 (Int32.ofNat l) s_23.1 s_23.2) FU (μc, 0) = some r' ∧ ∃ k S M x D, r = (S, Int32.ofNat k) ∧ r' = (M, Int32.ofNat k) ∧ k ≤ l ∧ HS σc μc S M (N, x, par, cho, Bf, Af) D ∧ ((k = 0 ∧ S = σc ∧ M = μc) ∨ (k ≠ 0 ∧ MO S (26 + 13 * x + 7) D)) := by
      refine loop2 l (fun k s s' => ∃ S M x D, s = (S, Int32.ofNat k, cRf cho x) ∧ s' = (M, Int32.ofNat k) ∧ HS σc μc S M (N, x, par, cho, Bf, Af) D ∧ ((k = 0 ∧ S = σc ∧ M = μc) ∨ (k ≠ 0 ∧ MO S (26 + 13 * x + 7) D))) ?_ 0 ⟨σc, μc, x, D, rfl, rfl, k2, Or.inl ⟨rfl, rfl, rfl⟩⟩ (by omega) (by (show _ < FU; unfold FU; omega)) (by (show _ < FU; unfold FU; omega))
      rintro k s s' hk ⟨S, M, x, D, rfl, rfl, hs, hm⟩
      show (∃ t t', f4_goOn_b11 1 (Int32.ofNat l) S (Int32.ofNat k) (cRf cho x) = _ ∧ f12_redo_b23 (Int32.ofNat l) M (Int32.ofNat k) = _ ∧ _) ∨ ∃ r r', f4_goOn_b11 1 (Int32.ofNat l) S (Int32.ofNat k) (cRf cho x) = _ ∧ f12_redo_b23 (Int32.ofNat l) M (Int32.ofNat k) = _ ∧ _
      have e32 : fI M 2017 32 = Int32.ofNat x := hs.1.1.2.2.2.2.2.1
      have hxN : x ≤ N := hs.1.1.2.1
      have hcx := hs.1.2.2.1 x hxN
      by_cases hz : k < l ∧ cho x ≠ 0
      · obtain ⟨M', t1, t2, t3, t4, _⟩ := on_step hs hz.2
        rw [t1 l k hz.1 (by omega), t2 l k hz.1 (by omega)]
        exact Or.inl ⟨_, _, rfl, rfl, by omega, _, M', cho x, Af (cho x), rfl, rfl, t3, Or.inr ⟨by omega, t4⟩⟩
      · have e1 : f4_goOn_b11 1 (Int32.ofNat l) S (Int32.ofNat k) (cRf cho x) = some (.inr (S, Int32.ofNat k)) := by
          unfold f4_goOn_b11
          by_cases q : l ≤ k
          · rw [if_pos ((i32_le (by omega) (by omega)).mpr q)]
          · rw [if_neg (fun z => q ((i32_le (by omega) (by omega)).mp z)), if_pos (cRf_0.mpr (Decidable.not_not.mp (fun w => hz ⟨by omega, w⟩)))]
        have e2 : f12_redo_b23 (Int32.ofNat l) M (Int32.ofNat k) = some (.inr (M, Int32.ofNat k)) := by
          unfold f12_redo_b23
          by_cases q : l ≤ k
          · rw [if_pos ((i32_le (by omega) (by omega)).mpr q)]
          · rw [if_neg (fun z => q ((i32_le (by omega) (by omega)).mp z)), e32, inb_n (show x < 151 by omega) (by omega), gd_true, ofNat_clamp (by omega), hcx.2.2.2, if_pos ((ofNat_z0 (by omega)).mpr (Decidable.not_not.mp (fun w => hz ⟨by omega, w⟩)))]
        rw [e1, e2]
        exact Or.inr ⟨_, _, rfl, rfl, k, S, M, x, D, rfl, rfl, hk, hs, hm⟩
    obtain ⟨r, r', j1, j2, k, S, M, x', D', rfl, rfl, hkl, hs, hm⟩ := key
    have hx' : x' ≤ N := hs.1.1.2.1
    have e24 : fR σc 24 2 = 26 + 13 * x + 1 := k2.1.1.2.2.2.2.1
    have e24' : fR S 24 2 = 26 + 13 * x' + 1 := hs.1.1.2.2.2.2.1
    have hr1 : fR S 1 = fR σc 1 := (hs.2.2.2.1.1 1 (by omega)).2.1
    have eK0 : Int32.ofNat k ≤ 0 ↔ k = 0 := i32_le0 (by omega)
    unfold f12_redo_j23 f12_redo_j70 f4_goOn f4_goOn_j11
    rw [stp, e24, okr_node (by omega), gd_true, Nat.add_sub_cancel, k2.1.cRf, stp, j1, bnd_some, j2, bnd_some, c12_told, bnd_some]
    show stH (bnd (f4_goOn_j42 1 (Int32.ofNat l) S (Int32.ofNat k)) _) _ _ _ _
    unfold f4_goOn_j42 f4_goOn_j57
    rcases hm with ⟨hk0, hS, hM⟩ | ⟨hk0, hm⟩
    · rw [if_pos (eK0.mpr hk0), bnd_some, hS, hM]
      exact stH_ok rfl rfl ⟨_, _, _, _, _, hc⟩
    · obtain ⟨σ', b1, b2, b3, b4⟩ : ∃ σ', f5_bringBack S (26 + 13 * x' + 7) 1 = some σ' ∧ SC σ' 1 L B H D' ∧ Sm (fun a => a ≠ 1 ∧ a ≠ L ∧ a ≠ B ∧ a ≠ H ∧ a ≠ 5 ∧ a ≠ 6 ∧ a ≠ 7) S σ' ∧ fR σ' = fR S := by
        obtain ⟨f, n, hd, c, cu, ma, lf, ml⟩ := D'
        obtain ⟨f0, n0, hd0, c0, cu0, ma0, lf0, ml0⟩ := D
        exact c5_bringBack hm hs.2.2.1 h0.2.2.2.1.cells (by omega) (by rw [hr1]; exact hc.2.1.1.2.2.2.2.1.1) (by rw [hr1]; exact hc.2.1.1.2.2.2.2.2.1.1) (by rw [hr1]; exact hc.2.1.2.1.1)
      rw [if_neg (fun z => hk0 (eK0.mp z)), e24', okr_node (by omega), gd_true, Nat.add_sub_cancel, b1, bnd_some, bnd_some]
      exact stH_ok rfl rfl ⟨_, _, _, _, _, hc.came c3 c4 hs b2 b3 b4⟩
  · rw [if_neg hx1, if_neg (by grind)]
    exact stH_er (c := 2) (t := 1) rfl (by decide) (by decide) rfl h
end R
