/-! undoing, doing again, branches: with the tree told -/
/-- one act undone, done again: the tree and the document -/
def ud1 : Hst × Doc → Hst × Doc
  | ((N, x, par, cho, Bf, Af), D) => ((N, par x, par, cho, Bf, upD Af x D), Bf x)
def udk : Nat → Hst × Doc → Hst × Doc
  | 0, s => s
  | k + 1, s => ud1 (udk k s)
def rd1 : Hst × Doc → Hst × Doc
  | ((N, x, par, cho, Bf, Af), _) => ((N, cho x, par, cho, Bf, Af), Af (cho x))
def rdk : Nat → Hst × Doc → Hst × Doc
  | 0, s => s
  | k + 1, s => rd1 (rdk k s)
section R
variable {σ μ : Sto} {L B H N x : Nat} {par cho : Nat → Nat} {Bf Af : Nat → Doc} {D0 : Doc} {o : Int64}
theorem osh_back {σc S σ' : Sto} (h1 : Sm (fun a => a ≠ 24) σ σc) (h2 : Sm (fun a => a < 24 ∨ 1989 ≤ a) σc S) (hw : CL L B H) (h3 : Sm (fun a => a ≠ 1 ∧ a ≠ L ∧ a ≠ B ∧ a ≠ H ∧ a ≠ 5 ∧ a ≠ 6 ∧ a ≠ 7) S σ') : Sm osh σ σ' := by
  refine Sm.trans (h1.weak (fun a ha => ?_)) (Sm.trans (h2.weak (fun a ha => ?_)) (h3.weak (fun a ha => ?_)))
  · unfold osh at ha; omega
  · unfold osh at ha; omega
  · unfold osh at ha
    rcases hw with ⟨rfl, rfl, rfl⟩ | ⟨rfl, rfl, rfl⟩ <;> omega
theorem sp_undo (h0 : Rel0 σ μ D0 L B H (N, x, par, cho, Bf, Af)) {l : Nat} (hl1 : 1 ≤ l) (hl : l ≤ 150) : ∃ k σ' μ', f11_undo σ (Int32.ofNat l) = some (.inl (Int32.ofNat k, σ')) ∧ k ≤ l ∧ (k = l ∨ (udk k ((N, x, par, cho, Bf, Af), D0)).1.2.1 = 0) ∧ (∀ j, j < k → (udk j ((N, x, par, cho, Bf, Af), D0)).1.2.1 ≠ 0) ∧ Rel0 σ' μ' (udk k ((N, x, par, cho, Bf, Af), D0)).2 L B H (udk k ((N, x, par, cho, Bf, Af), D0)).1 ∧ (fI σ' 24 3 = 0 ∧ fI σ' 24 4 = 0) ∧ Sm osh σ σ' := by
  have hx0 : ¬ Int32.ofNat l < 1 := by grind
  have hx1 : Int32.ofNat l ≤ 150 := by grind
  unfold f11_undo f11_undo_j12
  rw [if_neg hx0, if_pos hx1]
  unfold f4_closeGroup
  rw [stp, stp, bnd_some]
  have hsc : Sm (fun a => a ≠ 24) σ (uI (uI σ 24 3 0) 24 4 0) := Sm.trans (Sm.uI (by omega)) (Sm.uI (by omega))
  have hc := h0.close
  have c33 : fI (uI (uI μ 2017 34 0) 2017 33 (-1)) 2017 33 = -1 := by rw [fI_uI, if_pos rfl, if_pos rfl]
  have c34 : fI (uI (uI μ 2017 34 0) 2017 33 (-1)) 2017 34 = 0 := by rw [fI_uI, if_pos rfl, if_neg (by decide), fI_uI, if_pos rfl, if_pos rfl]
  have c3 : fI (uI (uI σ 24 3 0) 24 4 0) 24 3 = 0 := by rw [fI_uI, if_pos rfl, if_neg (by decide), fI_uI, if_pos rfl, if_pos rfl]
  have c4 : fI (uI (uI σ 24 3 0) 24 4 0) 24 4 = 0 := by rw [fI_uI, if_pos rfl, if_pos rfl]
  generalize uI (uI σ 24 3 0) 24 4 0 = σc at hc c3 c4 hsc
  generalize uI (uI μ 2017 34 0) 2017 33 (-1) = μc at hc c33 c34
  obtain ⟨S0, k1, k2, k3, k4, k5⟩ := take0 hc c33 c34
  have g2 : x ≤ N := k2.1.1.2.1
  have g1 : N ≤ 150 := k2.1.1.1
  have key : ∃ r r', loopF (fun s_22 => f4_goBack_b22 1 (Int32.ofNat l) s_22.1 s_22.2.1 s_22.2.2) FU (S0, 0, pRf par x) = some r ∧ loopF (fun s_23 => f12_undo_b23 (Int32.ofNat l) s_23.1 s_23.2) FU (μc, 0) = some r' ∧ ∃ k S M x1 Af1 D1, r = (S, Int32.ofNat k) ∧ r' = (M, Int32.ofNat k) ∧ HS σc μc S M (N, x1, par, cho, Bf, Af1) D1 ∧ MO S (26 + 13 * x1 + 7) D1 ∧ (udk k ((N, x, par, cho, Bf, Af), D0) = ((N, x1, par, cho, Bf, Af1), D1) ∧ ∀ j, j < k → (udk j ((N, x, par, cho, Bf, Af), D0)).1.2.1 ≠ 0) ∧ k ≤ l ∧ (k = l ∨ x1 = 0) := by
    refine loop2 l (fun k s s' => ∃ S M x1 Af1 D1, s = (S, Int32.ofNat k, pRf par x1) ∧ s' = (M, Int32.ofNat k) ∧ HS σc μc S M (N, x1, par, cho, Bf, Af1) D1 ∧ MO S (26 + 13 * x1 + 7) D1 ∧ (udk k ((N, x, par, cho, Bf, Af), D0) = ((N, x1, par, cho, Bf, Af1), D1) ∧ ∀ j, j < k → (udk j ((N, x, par, cho, Bf, Af), D0)).1.2.1 ≠ 0)) ?_ 0 ⟨S0, μc, x, Af, D0, rfl, rfl, k2, k3, rfl, fun j hj => absurd hj (Nat.not_lt_zero j)⟩ (by omega) (by (show _ < FU; unfold FU; omega)) (by (show _ < FU; unfold FU; omega))
    rintro k s s' hk ⟨S, M, x1, Af1, D1, rfl, rfl, hs, hm, hue, hun⟩
    show (∃ t t', f4_goBack_b22 1 (Int32.ofNat l) S (Int32.ofNat k) (pRf par x1) = _ ∧ f12_undo_b23 (Int32.ofNat l) M (Int32.ofNat k) = _ ∧ _) ∨ ∃ r r', f4_goBack_b22 1 (Int32.ofNat l) S (Int32.ofNat k) (pRf par x1) = _ ∧ f12_undo_b23 (Int32.ofNat l) M (Int32.ofNat k) = _ ∧ _
    have e32 : fI M 2017 32 = Int32.ofNat x1 := hs.1.1.2.2.2.2.2.1
    have hxN : x1 ≤ N := hs.1.1.2.1
    by_cases hz : k < l ∧ x1 ≠ 0
    · obtain ⟨S', M', t1, t2, t3, t4, _⟩ := back_step hs hm hz.2
      rw [t1 l k hz.1 (by omega), t2 l k hz.1 (by omega)]
      exact Or.inl ⟨_, _, rfl, rfl, by omega, S', M', par x1, upD Af1 x1 D1, Bf x1, rfl, rfl, t3, t4, by rw [udk, hue]; rfl, fun j hj => by
        rcases Nat.lt_or_ge j k with z | z
        · exact hun j z
        · rw [show j = k by omega, hue]
          exact hz.2⟩
    · have e1 : f4_goBack_b22 1 (Int32.ofNat l) S (Int32.ofNat k) (pRf par x1) = some (.inr (S, Int32.ofNat k)) := by
        unfold f4_goBack_b22
        by_cases q : l ≤ k
        · rw [if_pos ((i32_le (by omega) (by omega)).mpr q)]
        · rw [if_neg (fun z => q ((i32_le (by omega) (by omega)).mp z)), if_pos (pRf_0.mpr (Decidable.not_not.mp (fun w => hz ⟨by omega, w⟩)))]
      have e2 : f12_undo_b23 (Int32.ofNat l) M (Int32.ofNat k) = some (.inr (M, Int32.ofNat k)) := by
        unfold f12_undo_b23
        by_cases q : l ≤ k
        · rw [if_pos ((i32_le (by omega) (by omega)).mpr q)]
        · rw [if_neg (fun z => q ((i32_le (by omega) (by omega)).mp z)), e32, if_pos ((ofNat_z0 (by omega)).mpr (Decidable.not_not.mp (fun w => hz ⟨by omega, w⟩)))]
      rw [e1, e2]
      exact Or.inr ⟨_, _, rfl, rfl, k, S, M, x1, Af1, D1, rfl, rfl, hs, hm, ⟨hue, hun⟩, hk, by
        by_cases q : k = l
        · exact Or.inl q
        · exact Or.inr (Decidable.not_not.mp (fun w => hz ⟨by omega, w⟩))⟩
  obtain ⟨r, r', j1, j2, k, S, M, x', Af', D', rfl, rfl, hs, hm, ⟨hue, hun⟩, hkl, hke⟩ := key
  have hx' : x' ≤ N := hs.1.1.2.1
  have e24 : fR σc 24 2 = 26 + 13 * x + 1 := by rw [← k4]; exact k2.1.1.2.2.2.2.1
  have e24' : fR S 24 2 = 26 + 13 * x' + 1 := hs.1.1.2.2.2.2.1
  have hr1 : fR S 1 = fR σc 1 := (hs.2.2.2.1.1 1 (by omega)).2.1
  obtain ⟨σ', b1, b2, b3, b4⟩ : ∃ σ', f5_bringBack S (26 + 13 * x' + 7) 1 = some σ' ∧ SC σ' 1 L B H D' ∧ Sm (fun a => a ≠ 1 ∧ a ≠ L ∧ a ≠ B ∧ a ≠ H ∧ a ≠ 5 ∧ a ≠ 6 ∧ a ≠ 7) S σ' ∧ fR σ' = fR S := by
    obtain ⟨f, n, hd, c, cu, ma, lf, ml⟩ := D'
    obtain ⟨f0, n0, hd0, c0, cu0, ma0, lf0, ml0⟩ := D0
    exact c5_bringBack hm hs.2.2.1 h0.2.2.2.1.cells (by omega) (by rw [hr1]; exact hc.2.1.1.2.2.2.2.1.1) (by rw [hr1]; exact hc.2.1.1.2.2.2.2.2.1.1) (by rw [hr1]; exact hc.2.1.2.1.1)
  have eC : f4_goBack σc 1 (Int32.ofNat l) = some (Int32.ofNat k, σ') := by
    unfold f4_goBack f4_goBack_j22 f4_goBack_j68
    rw [stp, e24, okr_node (by omega), gd_true, Nat.add_sub_cancel, k1, bnd_some, k4, e24, okr_node (by omega), gd_true, Nat.add_sub_cancel, ← k4, k2.1.pRf, stp, j1, bnd_some]
    show gd (okr (fR S 24 2) 0) _ = _
    rw [e24', okr_node (by omega), gd_true, Nat.add_sub_cancel, b1, bnd_some]
  rw [eC, bnd_some]
  refine ⟨k, σ', M, rfl, hkl, ?_, hun, ?_, ?_, osh_back hsc hs.2.2.2.1.1 h0.2.2.2.1.cells b3⟩
  · rw [hue]
    exact hke
  · rw [hue]
    exact hc.came c3 c4 hs b2 b3 b4
  · have hw := h0.2.2.2.1.cells
    have e : fI σ' 24 = fI σc 24 := ((b3 24 (by rcases hw with ⟨rfl, rfl, rfl⟩ | ⟨rfl, rfl, rfl⟩ <;> omega)).1).trans hs.2.2.2.1.2
    rw [e]
    exact ⟨c3, c4⟩
theorem sp_redo (h0 : Rel0 σ μ D0 L B H (N, x, par, cho, Bf, Af)) {l : Nat} (hl1 : 1 ≤ l) (hl : l ≤ 150) : ∃ k σ' μ', f11_redo σ (Int32.ofNat l) = some (.inl (Int32.ofNat k, σ')) ∧ k ≤ l ∧ (k = l ∨ cho (rdk k ((N, x, par, cho, Bf, Af), D0)).1.2.1 = 0) ∧ (∀ j, j < k → cho (rdk j ((N, x, par, cho, Bf, Af), D0)).1.2.1 ≠ 0) ∧ Rel0 σ' μ' (rdk k ((N, x, par, cho, Bf, Af), D0)).2 L B H (rdk k ((N, x, par, cho, Bf, Af), D0)).1 ∧ (fI σ' 24 3 = 0 ∧ fI σ' 24 4 = 0) ∧ Sm osh σ σ' := by
  have hx0 : ¬ Int32.ofNat l < 1 := by grind
  have hx1 : Int32.ofNat l ≤ 150 := by grind
  unfold f11_redo f11_redo_j12
  rw [if_neg hx0, if_pos hx1]
  unfold f4_closeGroup
  rw [stp, stp, bnd_some]
  have hsc : Sm (fun a => a ≠ 24) σ (uI (uI σ 24 3 0) 24 4 0) := Sm.trans (Sm.uI (by omega)) (Sm.uI (by omega))
  have hc := h0.close
  have c33 : fI (uI (uI μ 2017 34 0) 2017 33 (-1)) 2017 33 = -1 := by rw [fI_uI, if_pos rfl, if_pos rfl]
  have c34 : fI (uI (uI μ 2017 34 0) 2017 33 (-1)) 2017 34 = 0 := by rw [fI_uI, if_pos rfl, if_neg (by decide), fI_uI, if_pos rfl, if_pos rfl]
  have c3 : fI (uI (uI σ 24 3 0) 24 4 0) 24 3 = 0 := by rw [fI_uI, if_pos rfl, if_neg (by decide), fI_uI, if_pos rfl, if_pos rfl]
  have c4 : fI (uI (uI σ 24 3 0) 24 4 0) 24 4 = 0 := by rw [fI_uI, if_pos rfl, if_pos rfl]
  generalize uI (uI σ 24 3 0) 24 4 0 = σc at hc c3 c4 hsc
  generalize uI (uI μ 2017 34 0) 2017 33 (-1) = μc at hc c33 c34
  have k2 := HS.of hc c33 c34
  have g2 : x ≤ N := k2.1.1.2.1
  have g1 : N ≤ 150 := k2.1.1.1
  have key : ∃ r r', loopF (fun s_11 => f4_goOn_b11 1 (Int32.ofNat l) s_11.1 s_11.2.1 s_11.2.2) FU (σc, 0, cRf cho x) = some r ∧ loopF (fun s_23 => f12_redo_b23 (Int32.ofNat l) s_23.1 s_23.2) FU (μc, 0) = some r' ∧ ∃ k S M x1 D1, r = (S, Int32.ofNat k) ∧ r' = (M, Int32.ofNat k) ∧ k ≤ l ∧ HS σc μc S M (N, x1, par, cho, Bf, Af) D1 ∧ ((k = 0 ∧ S = σc ∧ M = μc) ∨ (k ≠ 0 ∧ MO S (26 + 13 * x1 + 7) D1)) ∧ (rdk k ((N, x, par, cho, Bf, Af), D0) = ((N, x1, par, cho, Bf, Af), D1) ∧ ∀ j, j < k → cho (rdk j ((N, x, par, cho, Bf, Af), D0)).1.2.1 ≠ 0) ∧ (k = l ∨ cho x1 = 0) := by
    refine loop2 l (fun k s s' => ∃ S M x1 D1, s = (S, Int32.ofNat k, cRf cho x1) ∧ s' = (M, Int32.ofNat k) ∧ HS σc μc S M (N, x1, par, cho, Bf, Af) D1 ∧ ((k = 0 ∧ S = σc ∧ M = μc) ∨ (k ≠ 0 ∧ MO S (26 + 13 * x1 + 7) D1)) ∧ (rdk k ((N, x, par, cho, Bf, Af), D0) = ((N, x1, par, cho, Bf, Af), D1) ∧ ∀ j, j < k → cho (rdk j ((N, x, par, cho, Bf, Af), D0)).1.2.1 ≠ 0)) ?_ 0 ⟨σc, μc, x, D0, rfl, rfl, k2, Or.inl ⟨rfl, rfl, rfl⟩, rfl, fun j hj => absurd hj (Nat.not_lt_zero j)⟩ (by omega) (by (show _ < FU; unfold FU; omega)) (by (show _ < FU; unfold FU; omega))
    rintro k s s' hk ⟨S, M, x1, D1, rfl, rfl, hs, hm, hue, hun⟩
    show (∃ t t', f4_goOn_b11 1 (Int32.ofNat l) S (Int32.ofNat k) (cRf cho x1) = _ ∧ f12_redo_b23 (Int32.ofNat l) M (Int32.ofNat k) = _ ∧ _) ∨ ∃ r r', f4_goOn_b11 1 (Int32.ofNat l) S (Int32.ofNat k) (cRf cho x1) = _ ∧ f12_redo_b23 (Int32.ofNat l) M (Int32.ofNat k) = _ ∧ _
    have e32 : fI M 2017 32 = Int32.ofNat x1 := hs.1.1.2.2.2.2.2.1
    have hxN : x1 ≤ N := hs.1.1.2.1
    have hcx := hs.1.2.2.1 x1 hxN
    by_cases hz : k < l ∧ cho x1 ≠ 0
    · obtain ⟨M', t1, t2, t3, t4, _⟩ := on_step hs hz.2
      rw [t1 l k hz.1 (by omega), t2 l k hz.1 (by omega)]
      exact Or.inl ⟨_, _, rfl, rfl, by omega, _, M', cho x1, Af (cho x1), rfl, rfl, t3, Or.inr ⟨by omega, t4⟩, by rw [rdk, hue]; rfl, fun j hj => by
        rcases Nat.lt_or_ge j k with z | z
        · exact hun j z
        · rw [show j = k by omega, hue]
          exact hz.2⟩
    · have e1 : f4_goOn_b11 1 (Int32.ofNat l) S (Int32.ofNat k) (cRf cho x1) = some (.inr (S, Int32.ofNat k)) := by
        unfold f4_goOn_b11
        by_cases q : l ≤ k
        · rw [if_pos ((i32_le (by omega) (by omega)).mpr q)]
        · rw [if_neg (fun z => q ((i32_le (by omega) (by omega)).mp z)), if_pos (cRf_0.mpr (Decidable.not_not.mp (fun w => hz ⟨by omega, w⟩)))]
      have e2 : f12_redo_b23 (Int32.ofNat l) M (Int32.ofNat k) = some (.inr (M, Int32.ofNat k)) := by
        unfold f12_redo_b23
        by_cases q : l ≤ k
        · rw [if_pos ((i32_le (by omega) (by omega)).mpr q)]
        · rw [if_neg (fun z => q ((i32_le (by omega) (by omega)).mp z)), e32, inb_n (show x1 < 151 by omega) (by omega), gd_true, ofNat_clamp (by omega), hcx.2.2.2, if_pos ((ofNat_z0 (by omega)).mpr (Decidable.not_not.mp (fun w => hz ⟨by omega, w⟩)))]
      rw [e1, e2]
      exact Or.inr ⟨_, _, rfl, rfl, k, S, M, x1, D1, rfl, rfl, hk, hs, hm, ⟨hue, hun⟩, by
        by_cases q : k = l
        · exact Or.inl q
        · exact Or.inr (Decidable.not_not.mp (fun w => hz ⟨by omega, w⟩))⟩
  obtain ⟨r, r', j1, j2, k, S, M, x', D', rfl, rfl, hkl, hs, hm, ⟨hue, hun⟩, hke⟩ := key
  have hx' : x' ≤ N := hs.1.1.2.1
  have e24 : fR σc 24 2 = 26 + 13 * x + 1 := k2.1.1.2.2.2.2.1
  have e24' : fR S 24 2 = 26 + 13 * x' + 1 := hs.1.1.2.2.2.2.1
  have hr1 : fR S 1 = fR σc 1 := (hs.2.2.2.1.1 1 (by omega)).2.1
  have eK0 : Int32.ofNat k ≤ 0 ↔ k = 0 := i32_le0 (by omega)
  unfold f4_goOn f4_goOn_j11
  rw [stp, e24, okr_node (by omega), gd_true, Nat.add_sub_cancel, k2.1.cRf, stp, j1, bnd_some]
  show ∃ k' σ' μ', bnd (f4_goOn_j42 1 (Int32.ofNat l) S (Int32.ofNat k)) _ = _ ∧ _
  unfold f4_goOn_j42 f4_goOn_j57
  have hw := h0.2.2.2.1.cells
  rcases hm with ⟨hk0, hS, hM⟩ | ⟨hk0, hm⟩
  · rw [if_pos (eK0.mpr hk0), bnd_some]
    refine ⟨k, S, M, rfl, hkl, ?_, hun, ?_, ?_, ?_⟩
    · rw [hue]
      exact hke
    · rw [hue, hS, hM]
      rw [hk0] at hue
      have e : ((N, x, par, cho, Bf, Af), D0) = ((N, x', par, cho, Bf, Af), D') := hue
      injection e with e1 e2
      rw [← e1, ← e2]
      exact hc
    · rw [hS]
      exact ⟨c3, c4⟩
    · rw [hS]
      exact hsc.weak (fun a ha => by unfold osh at ha; omega)
  · obtain ⟨σ', b1, b2, b3, b4⟩ : ∃ σ', f5_bringBack S (26 + 13 * x' + 7) 1 = some σ' ∧ SC σ' 1 L B H D' ∧ Sm (fun a => a ≠ 1 ∧ a ≠ L ∧ a ≠ B ∧ a ≠ H ∧ a ≠ 5 ∧ a ≠ 6 ∧ a ≠ 7) S σ' ∧ fR σ' = fR S := by
      obtain ⟨f, n, hd, c, cu, ma, lf, ml⟩ := D'
      obtain ⟨f0, n0, hd0, c0, cu0, ma0, lf0, ml0⟩ := D0
      exact c5_bringBack hm hs.2.2.1 hw (by omega) (by rw [hr1]; exact hc.2.1.1.2.2.2.2.1.1) (by rw [hr1]; exact hc.2.1.1.2.2.2.2.2.1.1) (by rw [hr1]; exact hc.2.1.2.1.1)
    rw [if_neg (fun z => hk0 (eK0.mp z)), e24', okr_node (by omega), gd_true, Nat.add_sub_cancel, b1, bnd_some, bnd_some]
    refine ⟨k, σ', M, rfl, hkl, ?_, hun, ?_, ?_, osh_back hsc hs.2.2.2.1.1 hw b3⟩
    · rw [hue]
      exact hke
    · rw [hue]
      exact hc.came c3 c4 hs b2 b3 b4
    · have e : fI σ' 24 = fI σc 24 := ((b3 24 (by rcases hw with ⟨rfl, rfl, rfl⟩ | ⟨rfl, rfl, rfl⟩ <;> omega)).1).trans hs.2.2.2.1.2
      rw [e]
      exact ⟨c3, c4⟩
end R
