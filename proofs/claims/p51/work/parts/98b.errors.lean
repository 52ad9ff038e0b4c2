/-! errors -/
def CHNb (cho : Nat → Nat) (Af : Nat → Doc) (x0 : Nat) (D0 : Doc) : Nat → Nat → Doc → Prop
  | 0, x, D => x = x0 ∧ D = D0
  | k + 1, x, _ => x < cho x ∧ CHNb cho Af x0 D0 k (cho x) (Af (cho x))
theorem CHNb.ext {cho : Nat → Nat} {Af Af' : Nat → Doc} {x0 : Nat} {D0 : Doc} : ∀ {k x : Nat} {D : Doc}, (∀ i, x < i → Af' i = Af i) → CHNb cho Af x0 D0 k x D → CHNb cho Af' x0 D0 k x D := by
  intro k
  induction k with
  | zero => intro x D _ h; exact h
  | succ k ih =>
    intro x D e h
    obtain ⟨h1, h2⟩ := h
    refine ⟨h1, ?_⟩
    rw [e _ h1]
    exact ih (fun i hi => e i (by omega)) h2
theorem uI_same {σ : Sto} {a k : Nat} {v : Int32} (h : fI σ a k = v) : uI σ a k v = σ := by
  obtain ⟨i, r, ar, al⟩ := σ
  show (up2 i a k v, r, ar, al) = (i, r, ar, al)
  have : up2 i a k v = i := by
    funext b j
    show (if b = a then (if j = k then v else i b j) else i b j) = i b j
    by_cases e1 : b = a
    · by_cases e2 : j = k
      · rw [if_pos e1, if_pos e2, e1, e2]
        exact h.symm
      · rw [if_pos e1, if_neg e2]
    · rw [if_neg e1]
  rw [this]
section R
variable {σ0 μ0 σ μ S M M' : Sto} {L B H k0 : Nat} {D D0 : Doc} {T : Hst} {N x x0 : Nat} {par cho : Nat → Nat} {Bf Af : Nat → Doc} {o : Int64}
theorem HS.u18 {v : Int32} (h : HS σ0 μ0 S M T D) : HS σ0 μ0 S (uI M 2017 18 v) T D := by
  obtain ⟨rh, m, g, f1, f3, f4, f5, f6⟩ := h
  have e : ∀ k, k ≠ 18 → fI (uI M 2017 18 v) 2017 k = fI M 2017 k := fun k hk => by rw [fI_uI, if_pos rfl, if_neg hk]
  exact ⟨rh.congr Sm.rf rfl rfl (e 31 (by decide)) (e 32 (by decide)) (fun _ _ _ => rfl), m.congr (e 5 (by decide)) (e 6 (by decide)) rfl rfl rfl rfl rfl, g, f1, fun k k1 k2 k3 k4 k5 k6 => (e k k3).trans (f3 k k1 k2 k3 k4 k5 k6), f4, (e 33 (by decide)).trans f5, (e 34 (by decide)).trans f6⟩
theorem closes_same (h33 : fI M 2017 33 = -1) (h34 : fI M 2017 34 = 0) : f12_closes M = some M := by
  unfold f12_closes
  rw [stp, uI_same h34, stp, uI_same h33]
theorem undo1 (h : ∀ l k : Nat, k < l → l < 1000 → f12_undo_b23 (Int32.ofNat l) M (Int32.ofNat k) = some (.inl (M', Int32.ofNat (k + 1)))) (h33 : fI M 2017 33 = -1) (h34 : fI M 2017 34 = 0) : f12_undo M 1 = some (1, uI M' 2017 18 0) := by
  have e1 : f12_undo_b23 1 M 0 = some (.inl (M', 1)) := h 1 0 (by omega) (by omega)
  have e2 : f12_undo_b23 1 M' 1 = some (.inr (M', 1)) := by
    unfold f12_undo_b23
    rw [if_pos (by decide)]
  unfold f12_undo f12_undo_j23 f12_undo_j94
  rw [c12_in, bnd_some, closes_same h33 h34, bnd_some]
  have e3 : loopF (fun s_23 => f12_undo_b23 1 s_23.1 s_23.2) FU (M, 0) = some (M', 1) := (loopF_inl (m := 999999) (f := fun s_23 => f12_undo_b23 1 s_23.1 s_23.2) e1).trans (loopF_inr (m := 999998) (f := fun s_23 => f12_undo_b23 1 s_23.1 s_23.2) e2)
  rw [stp, e3, bnd_some]
  rfl
theorem redo1 (h : ∀ l k : Nat, k < l → l < 1000 → f12_redo_b23 (Int32.ofNat l) M (Int32.ofNat k) = some (.inl (M', Int32.ofNat (k + 1)))) (h33 : fI M 2017 33 = -1) (h34 : fI M 2017 34 = 0) : f12_redo M 1 = some (1, uI M' 2017 18 0) := by
  have e1 : f12_redo_b23 1 M 0 = some (.inl (M', 1)) := h 1 0 (by omega) (by omega)
  have e2 : f12_redo_b23 1 M' 1 = some (.inr (M', 1)) := by
    unfold f12_redo_b23
    rw [if_pos (by decide)]
  unfold f12_redo f12_redo_j23 f12_redo_j70
  rw [c12_in, bnd_some, closes_same h33 h34, bnd_some]
  have e3 : loopF (fun s_23 => f12_redo_b23 1 s_23.1 s_23.2) FU (M, 0) = some (M', 1) := (loopF_inl (m := 999999) (f := fun s_23 => f12_redo_b23 1 s_23.1 s_23.2) e1).trans (loopF_inr (m := 999998) (f := fun s_23 => f12_redo_b23 1 s_23.1 s_23.2) e2)
  rw [stp, e3, bnd_some]
  rfl
theorem ST.u18 {v : Int32} {q : Nat} (h : ST M q D) : ST (uI M 2017 18 v) q D := h.congr (fun _ _ _ => rfl)
theorem brought (hs : HS σ μ S M (N, x, par, cho, Bf, Af) D) (hm : MO S (26 + 13 * x + 7) D) (hr : SC σ 1 L B H D0) (cl : CL L B H) : ∃ σ', f5_bringBack S (26 + 13 * x + 7) 1 = some σ' ∧ SC σ' 1 L B H D ∧ Sm (fun a => a ≠ 1 ∧ a ≠ L ∧ a ≠ B ∧ a ≠ H ∧ a ≠ 5 ∧ a ≠ 6 ∧ a ≠ 7) S σ' ∧ fR σ' = fR S := by
  have hr1 : fR S 1 = fR σ 1 := (hs.2.2.2.1.1 1 (by omega)).2.1
  obtain ⟨f, n, hd, c, cu, ma, lf, ml⟩ := D
  obtain ⟨f0, n0, hd0, c0, cu0, ma0, lf0, ml0⟩ := D0
  exact c5_bringBack hm hs.2.2.1 cl (by omega) (by rw [hr1]; exact hr.1.2.2.2.2.1.1) (by rw [hr1]; exact hr.1.2.2.2.2.2.1.1) (by rw [hr1]; exact hr.2.1.1)
/-- closed, with a state kept -/
def CLO (σ μ : Sto) (D0 : Doc) : Prop := (fI σ 24 3 = 0 ∧ fI σ 24 4 = 0) ∧ fI μ 2017 33 = -1 ∧ fI μ 2017 34 = 0 ∧ ST μ 300 D0
theorem err_back (h : Rel0 σ μ D0 L B H (N, x0, par, cho, Bf, Af)) (hc : CLO σ μ D0) (hk0 : k0 ≤ 150) (hup : upw par k0 x0 = 0) (hne : ∀ j, j < k0 → upw par j x0 ≠ 0) {y z : Int32} : ∃ σ' M Af' D, f4_goBack σ 1 150 = some (Int32.ofNat k0, σ') ∧ loopF (fun s_73 => f12_errors_b73 s_73.1 y (Int32.ofNat k0) s_73.2) FU (μ, 0) = some M ∧ Rel0 σ' M D L B H (N, 0, par, cho, Bf, Af') ∧ CHNb cho Af' x0 D0 k0 0 D ∧ CLO σ' M D0 ∧ Sm (fun a => 1989 ≤ a) σ σ' := by
  obtain ⟨⟨c3, c4⟩, c33, c34, hst⟩ := hc
  obtain ⟨S0, k1, k2, k3, k4, k5⟩ := take0 h c33 c34
  have g2 : x0 ≤ N := k2.1.1.2.1
  have g1 : N ≤ 150 := k2.1.1.1
  have hup2 : ∀ k y, upw par (k + 1) y = par (upw par k y) := by
    intro k
    induction k with
    | zero => intro y; rfl
    | succ k ih =>
      intro y
      show upw par (k + 1) (par y) = par (upw par k (par y))
      exact ih (par y)
  have key : ∃ r r', loopF (fun s_22 => f4_goBack_b22 1 150 s_22.1 s_22.2.1 s_22.2.2) FU (S0, 0, pRf par x0) = some r ∧ loopF (fun s_73 => f12_errors_b73 s_73.1 y (Int32.ofNat k0) s_73.2) FU (μ, 0) = some r' ∧ ∃ S M Af D, r = (S, Int32.ofNat k0) ∧ r' = M ∧ HS σ μ S M (N, 0, par, cho, Bf, Af) D ∧ MO S (26 + 13 * 0 + 7) D ∧ CHNb cho Af x0 D0 k0 0 D ∧ ST M 300 D0 := by
    refine loop2 k0 (fun k s s' => ∃ S M Af D, s = (S, Int32.ofNat k, pRf par (upw par k x0)) ∧ s' = (M, Int32.ofNat k) ∧ HS σ μ S M (N, upw par k x0, par, cho, Bf, Af) D ∧ MO S (26 + 13 * upw par k x0 + 7) D ∧ CHNb cho Af x0 D0 k (upw par k x0) D ∧ ST M 300 D0) ?_ 0 ⟨S0, μ, Af, D0, rfl, rfl, k2, k3, ⟨rfl, rfl⟩, hst⟩ (by omega) (by (show _ < FU; unfold FU; omega)) (by (show _ < FU; unfold FU; omega))
    rintro k s s' hk ⟨S, M, Af, D, rfl, rfl, hs, hm, hch, hst⟩
    show (∃ t t', f4_goBack_b22 1 150 S (Int32.ofNat k) (pRf par (upw par k x0)) = _ ∧ f12_errors_b73 M y (Int32.ofNat k0) (Int32.ofNat k) = _ ∧ _) ∨ ∃ r r', f4_goBack_b22 1 150 S (Int32.ofNat k) (pRf par (upw par k x0)) = _ ∧ f12_errors_b73 M y (Int32.ofNat k0) (Int32.ofNat k) = _ ∧ _
    have e150 : (150 : Int32) ≤ Int32.ofNat k ↔ 150 ≤ k := i32_le (a := 150) (by omega) (by omega)
    unfold f12_errors_b73
    simp only [i32_le (show k0 < 2147483648 by omega) (show k < 2147483648 by omega)]
    by_cases hz : k0 ≤ k
    · have hkk : k = k0 := by omega
      have e1 : f4_goBack_b22 1 150 S (Int32.ofNat k) (pRf par (upw par k x0)) = some (.inr (S, Int32.ofNat k)) := by
        unfold f4_goBack_b22
        rw [if_pos (pRf_0.mpr (by rw [hkk]; exact hup))]
        split <;> rfl
      rw [e1, if_pos hz]
      rw [hkk, hup] at hs hm hch
      exact Or.inr ⟨_, _, rfl, rfl, S, M, Af, D, by rw [hkk], rfl, hs, hm, hch, hst⟩
    · have hx := hne k (by omega)
      obtain ⟨S', M', t1, t2, t3, t4, t5⟩ := back_step hs hm hx
      have hch2 : cho (par (upw par k x0)) = upw par k x0 := hs.1.2.2.2.2.2.2 _ (by omega) Anc.self
      have hlt := (hs.1.2.1 (upw par k x0) (by omega) hs.1.1.2.1).1
      rw [if_neg hz, undo1 t2 hs.2.2.2.2.2.2.1 hs.2.2.2.2.2.2.2, bnd_some, stp, stp, i32_succ]
      have t1' := t1 150 k (by omega) (by omega)
      refine Or.inl ⟨_, _, t1', rfl, by omega, S', _, upD Af (upw par k x0) D, Bf (upw par k x0), by rw [hup2], rfl, by rw [hup2]; exact t3.u18, by rw [hup2]; exact t4, ?_, (t5 D0 h.1 hst).u18⟩
      rw [hup2]
      refine ⟨by rw [hch2]; exact hlt, ?_⟩
      rw [hch2]
      have hD : upD Af (upw par k x0) D (upw par k x0) = D := if_pos rfl
      rw [hD]
      exact hch.ext (fun i hi => if_neg (by omega))
  obtain ⟨r, M, j1, j2, S, M0, Af', D, rfl, rfl, hs, hm, hch, hst'⟩ := key
  have e24 : fR σ 24 2 = 26 + 13 * x0 + 1 := h.2.2.2.2.2.2.2.2.2.2.2.1.2.2.2.2.1
  have e24' : fR S 24 2 = 26 + 13 * 0 + 1 := hs.1.1.2.2.2.2.1
  obtain ⟨σ', b1, b2, b3, b4⟩ := brought hs hm h.2.1 h.2.2.2.1.cells
  have hw := h.2.2.2.1.cells
  have hfr : Sm (fun a => 1989 ≤ a) σ σ' := (hs.2.2.2.1.1.weak (by omega)).trans (b3.weak (by omega))
  refine ⟨σ', M, Af', D, ?_, j2, h.came c3 c4 hs b2 b3 b4, hch, ⟨⟨?_, ?_⟩, hs.2.2.2.2.2.2.1, hs.2.2.2.2.2.2.2, hst'⟩, hfr⟩
  · unfold f4_goBack f4_goBack_j22 f4_goBack_j68
    rw [stp, e24, okr_node (by omega), gd_true, Nat.add_sub_cancel, k1, bnd_some, k4, e24, okr_node (by omega), gd_true, Nat.add_sub_cancel, ← k4, k2.1.pRf, stp, j1, bnd_some]
    show gd (okr (fR S 24 2) 0) _ = _
    rw [e24', show okr (26 + 13 * 0 + 1) 0 = true from okr_node (i := 0) (by omega), gd_true]
    show bnd (f5_bringBack S (26 + 13 * 0 + 7) 1) _ = _
    rw [b1, bnd_some]
  · rw [(b3 24 (by omega)).1, hs.2.2.2.1.2]
    exact c3
  · rw [(b3 24 (by omega)).1, hs.2.2.2.1.2]
    exact c4
theorem err_on (h : Rel0 σ μ D L B H (N, x, par, cho, Bf, Af)) (hc : CLO σ μ D0) (hk0 : k0 ≤ 150) (hch : CHNb cho Af x0 D0 k0 x D) {y : Int32} : ∃ σ' M, f4_goOn σ 1 (Int32.ofNat k0) = some (Int32.ofNat k0, σ') ∧ loopF (fun s_95 => f12_errors_b95 s_95.1 y (Int32.ofNat k0) s_95.2) FU (μ, 0) = some M ∧ Rel0 σ' M D0 L B H (N, x0, par, cho, Bf, Af) ∧ CLO σ' M D0 ∧ Sm (fun a => 1989 ≤ a) σ σ' := by
  have hcl := hc
  obtain ⟨⟨c3, c4⟩, c33, c34, hst⟩ := hc
  have k2 := HS.of h c33 c34
  have g2 : x ≤ N := k2.1.1.2.1
  have g1 : N ≤ 150 := k2.1.1.1
  have key : ∃ r r', loopF (fun s_11 => f4_goOn_b11 1 (Int32.ofNat k0) s_11.1 s_11.2.1 s_11.2.2) FU (σ, 0, cRf cho x) = some r ∧ loopF (fun s_95 => f12_errors_b95 s_95.1 y (Int32.ofNat k0) s_95.2) FU (μ, 0) = some r' ∧ ∃ S M x' D', r = (S, Int32.ofNat k0) ∧ r' = M ∧ HS σ μ S M (N, x', par, cho, Bf, Af) D' ∧ x' = x0 ∧ D' = D0 ∧ ST M 300 D0 ∧ ((k0 = 0 ∧ S = σ ∧ M = μ) ∨ (k0 ≠ 0 ∧ MO S (26 + 13 * x' + 7) D')) := by
    refine loop2 k0 (fun k s s' => ∃ S M x' D', s = (S, Int32.ofNat k, cRf cho x') ∧ s' = (M, Int32.ofNat k) ∧ HS σ μ S M (N, x', par, cho, Bf, Af) D' ∧ CHNb cho Af x0 D0 (k0 - k) x' D' ∧ ST M 300 D0 ∧ ((k = 0 ∧ S = σ ∧ M = μ) ∨ (k ≠ 0 ∧ MO S (26 + 13 * x' + 7) D'))) ?_ 0 ⟨σ, μ, x, D, rfl, rfl, k2, hch, hst, Or.inl ⟨rfl, rfl, rfl⟩⟩ (by omega) (by (show _ < FU; unfold FU; omega)) (by (show _ < FU; unfold FU; omega))
    rintro k s s' hk ⟨S, M, x', D', rfl, rfl, hs, hch, hst, hm⟩
    show (∃ t t', f4_goOn_b11 1 (Int32.ofNat k0) S (Int32.ofNat k) (cRf cho x') = _ ∧ f12_errors_b95 M y (Int32.ofNat k0) (Int32.ofNat k) = _ ∧ _) ∨ ∃ r r', f4_goOn_b11 1 (Int32.ofNat k0) S (Int32.ofNat k) (cRf cho x') = _ ∧ f12_errors_b95 M y (Int32.ofNat k0) (Int32.ofNat k) = _ ∧ _
    unfold f12_errors_b95
    simp only [i32_le (show k0 < 2147483648 by omega) (show k < 2147483648 by omega)]
    by_cases hz : k0 ≤ k
    · have hkk : k = k0 := by omega
      have e1 : f4_goOn_b11 1 (Int32.ofNat k0) S (Int32.ofNat k) (cRf cho x') = some (.inr (S, Int32.ofNat k)) := by
        unfold f4_goOn_b11
        rw [if_pos ((i32_le (by omega) (by omega)).mpr hz)]
      rw [e1, if_pos hz]
      rw [hkk, Nat.sub_self] at hch
      rw [hkk] at hm
      exact Or.inr ⟨_, _, rfl, rfl, S, M, x', D', by rw [hkk], rfl, hs, hch.1, hch.2, hst, hm⟩
    · obtain ⟨w, hw⟩ : ∃ w, k0 - k = w + 1 := ⟨k0 - k - 1, by omega⟩
      rw [hw] at hch
      obtain ⟨hlt, hch2⟩ := hch
      obtain ⟨M', t1, t2, t3, t4, t5⟩ := on_step hs (show cho x' ≠ 0 by omega)
      rw [if_neg hz, redo1 t2 hs.2.2.2.2.2.2.1 hs.2.2.2.2.2.2.2, bnd_some, stp, stp, i32_succ, t1 k0 k (by omega) (by omega)]
      refine Or.inl ⟨_, _, rfl, rfl, by omega, _, _, cho x', Af (cho x'), rfl, rfl, t3.u18, ?_, (t5 D0 hst).u18, Or.inr ⟨by omega, t4⟩⟩
      rw [show k0 - (k + 1) = w by omega]
      exact hch2
  obtain ⟨r, M, j1, j2, S, M0, x', D', rfl, rfl, hs, hx', rfl, hst', hm⟩ := key
  subst hx'
  have e24 : fR σ 24 2 = 26 + 13 * x + 1 := k2.1.1.2.2.2.2.1
  have e24' : fR S 24 2 = 26 + 13 * x' + 1 := hs.1.1.2.2.2.2.1
  have hxN := hs.1.1.2.1
  have eK0 : Int32.ofNat k0 ≤ 0 ↔ k0 = 0 := i32_le0 (by omega)
  have eG : f4_goOn σ 1 (Int32.ofNat k0) = f4_goOn_j42 1 (Int32.ofNat k0) S (Int32.ofNat k0) := by
    unfold f4_goOn f4_goOn_j11
    rw [stp, e24, okr_node (by omega), gd_true, Nat.add_sub_cancel, k2.1.cRf, stp, j1, bnd_some]
  rcases hm with ⟨hk, hS, hM⟩ | ⟨hk, hm⟩
  · refine ⟨σ, M, ?_, j2, ?_, ?_, Sm.rf⟩
    · rw [eG]
      unfold f4_goOn_j42 f4_goOn_j57
      rw [if_pos (eK0.mpr hk), hS]
    · rw [hk] at hch
      obtain ⟨h1, h2⟩ := hch
      rw [hM, ← h1, ← h2]
      exact h
    · rw [hM]
      exact hcl
  · obtain ⟨σ', b1, b2, b3, b4⟩ := brought hs hm h.2.1 h.2.2.2.1.cells
    have hw := h.2.2.2.1.cells
    refine ⟨σ', M, ?_, j2, h.came c3 c4 hs b2 b3 b4, ⟨⟨?_, ?_⟩, hs.2.2.2.2.2.2.1, hs.2.2.2.2.2.2.2, hst'⟩, (hs.2.2.2.1.1.weak (by omega)).trans (b3.weak (by omega))⟩
    · rw [eG]
      unfold f4_goOn_j42 f4_goOn_j57
      rw [if_neg (fun z => hk (eK0.mp z)), e24', okr_node (by omega), gd_true, Nat.add_sub_cancel, b1, bnd_some]
    · rw [(b3 24 (by omega)).1, hs.2.2.2.1.2]
      exact c3
    · rw [(b3 24 (by omega)).1, hs.2.2.2.1.2]
      exact c4
theorem Rel0.spare {σ' : Sto} (h : Rel0 σ μ D L B H T) (hs : Sm (fun a => a < 2005 ∨ a = 2015 ∨ a = 2016) σ σ') (hr : fR σ' = fR σ) : Rel0 σ' μ D L B H T := by
  obtain ⟨g, s, m, w, t1, t2, t3, t4, t5, t6, t7, t8⟩ := h
  have hw := w.cells
  refine ⟨g, s.congr (hs 1 (by omega)).1 (hs 1 (by omega)).2.1 (hs L (by omega)).2.2.1 (hs B (by omega)).2.2.1 (hs H (by omega)).2.2.1 (hs (1 + 4) (by omega)).2.2.1 (hs (1 + 5) (by omega)).2.2.1 (hs (1 + 6) (by omega)).2.2.1, m, ?_, ?_, ?_, ?_, ?_, ?_, t6.congr (hs.weak (by omega)) rfl rfl (fun _ _ _ => rfl), ?_, t8.congr (hs.weak (by omega)) ?_ ?_ rfl rfl (fun _ _ _ => rfl)⟩
  · unfold SW
    rw [hr]
    exact w
  · rw [(hs 8 (by omega)).1, (hs 9 (by omega)).2.2.1]
    exact t1
  · rw [(hs 10 (by omega)).1, (hs 11 (by omega)).1, (hs 12 (by omega)).2.2.1]
    exact t2
  · rw [(hs 1990 (by omega)).1, (hs 1989 (by omega)).1, (hs 1991 (by omega)).2.2.1]
    exact t3
  · rw [(hs 0 (by omega)).1, (hs 2015 (by omega)).2.2.1, (hs 2016 (by omega)).2.2.1]
    exact t4
  · obtain ⟨h0, f, n, h3, h4⟩ := t5
    unfold RKp
    rw [hr]
    exact ⟨h0, f, n, h3.congr (hs 1998 (by omega)).1 (by rw [hr]) (hs 1999 (by omega)).2.2.1 (hs 2000 (by omega)).2.2.1, h4⟩
  · rw [(hs 24 (by omega)).1]
    exact t7
  · rw [(hs 24 (by omega)).1]
  · rw [hr]
theorem op_errors (h : Rel σ μ) : Ok (f11_errors σ) (fun p => Ok (f12_errors μ) (fun r => p.1 = r.1 ∧ RQ p.2 r.2 o)) := by
  obtain ⟨⟨f, n, hd, c, cu, ma, lf, ml⟩, L, B, H, ⟨N, x, par, cho, Bf, Af⟩, h0⟩ := id h
  have hcl := h0.close
  have c33 : fI (uI (uI μ 2017 34 0) 2017 33 (-1)) 2017 33 = -1 := by rw [fI_uI, if_pos rfl, if_pos rfl]
  have c34 : fI (uI (uI μ 2017 34 0) 2017 33 (-1)) 2017 34 = 0 := by rw [fI_uI, if_pos rfl, if_neg (by decide), fI_uI, if_pos rfl, if_pos rfl]
  have c3 : fI (uI (uI σ 24 3 0) 24 4 0) 24 3 = 0 := by rw [fI_uI, if_pos rfl, if_neg (by decide), fI_uI, if_pos rfl, if_pos rfl]
  have c4 : fI (uI (uI σ 24 3 0) 24 4 0) 24 4 = 0 := by rw [fI_uI, if_pos rfl, if_pos rfl]
  have eCl : f4_closeGroup σ = some (uI (uI σ 24 3 0) 24 4 0) := rfl
  have eCm : f12_closes μ = some (uI (uI μ 2017 34 0) 2017 33 (-1)) := rfl
  generalize uI (uI σ 24 3 0) 24 4 0 = σc at hcl c3 c4 eCl
  generalize uI (uI μ 2017 34 0) 2017 33 (-1) = μc at hcl c33 c34 eCm
  have hM : MT μc f n := hcl.2.2.1.1
  have hE := hcl.1.2.1
  have rc := hcl.2.2.2.2.2.2.2.2.2.2.2
  -- the copies
  obtain ⟨kp1, kp2⟩ := hcl.2.2.2.2.2.2.2.2.1
  obtain ⟨σb, b1, b2, b3, b4⟩ := c8_become hcl.2.1 hcl.1 hcl.2.2.2.1.cells (t := 2005) (by omega) ⟨kp1.2.1, by decide, by decide⟩ ⟨kp1.2.2.1, by decide, by decide⟩ ⟨kp1.2.2.2, by decide, by decide⟩
  obtain ⟨μk, m1, m2, m3, m4, m5⟩ := c12_keeps hcl.2.2.1 hcl.1 (q := 300) (by omega)
  have rk : RH σc μk (N, x, par, cho, Bf, Af) := rc.again rc.1.2.1 rfl rc.1.2.2.2.2.1 (fun _ _ => rfl) (by rw [m4]) (by rw [m4]; exact rc.1.2.2.2.2.2.1) (m5 2034 (by omega)) (m5 2035 (by omega)) (fun i i1 i2 => by
    obtain ⟨d1, d2, d3⟩ := rc.2.2.2.2.1 i i1 i2
    exact ⟨d2, m3 _ _ (by have := rc.1.1; omega) d1 d3⟩) (fun i i1 i2 i3 => by
    obtain ⟨d1, d2, d3⟩ := rc.2.2.2.2.2.1 i i1 i2 i3
    exact ⟨d1, d2, m3 _ _ (by have := rc.1.1; omega) d1 d3⟩) rc.2.2.2.2.2.2
  have hk : Rel0 σc μk (f, n, hd, c, cu, ma, lf, ml) L B H (N, x, par, cho, Bf, Af) := RelT.act (P := RT) hcl Sm.rf (fun k hk => by rw [m4]) (fun a ha => m5 a (by omega)) hcl.1 hcl.2.1 (hcl.2.2.1.congr (by rw [m4]) (by rw [m4]) (m5 _ (by omega)) (m5 _ (by omega)) (m5 _ (by omega)) (m5 _ (by omega)) (m5 _ (by omega))) hcl.2.2.2.1 (by rw [m4]; exact hcl.2.2.2.2.2.2.2.2.2.2.1) rk
  have hb : Rel0 σb μk (f, n, hd, c, cu, ma, lf, ml) L B H (N, x, par, cho, Bf, Af) := hk.spare (b3.weak (by omega)) b4
  have hCLO : CLO σb μk (f, n, hd, c, cu, ma, lf, ml) := ⟨⟨by rw [(b3 24 (by omega)).1]; exact c3, by rw [(b3 24 (by omega)).1]; exact c4⟩, by rw [m4]; exact c33, by rw [m4]; exact c34, m2⟩
  obtain ⟨k0, _, dp, k150, dz, dn⟩ := depth_both rk
  obtain ⟨σ1, M1, Af1, D1, e1, e2, e3, e4, e5, e6⟩ := err_back hb hCLO k150 dz dn (y := 0) (z := 0)
  obtain ⟨σ2, M2, f1, f2, f3, f4, f5⟩ := err_on e3 e5 k150 e4 (y := 0)
  have hS2 : SC σ2 2005 2006 2007 2008 (f, n, hd, c, cu, ma, lf, ml) := by
    have fr : Sm (fun a => 1989 ≤ a) σb σ2 := e6.trans f5
    exact b2.congr (fr 2005 (by omega)).1 (fr 2005 (by omega)).2.1 (fr _ (by omega)).2.2.1 (fr _ (by omega)).2.2.1 (fr _ (by omega)).2.2.1 (fr _ (by omega)).2.2.1 (fr _ (by omega)).2.2.1 (fr _ (by omega)).2.2.1
  have eU : f8_countUnlike σ2 1 2005 = some 0 := c8_countUnlike f3.2.1 hS2 hcl.1.2.2.2.2.2.1.2
  have eI : f12_isState M2 300 = some 1 := c12_isState f3.2.2.1 f4.2.2.2 hcl.1 (q := 300) (by omega)
  have hMk : MT μk f n := hk.2.2.1.1
  have eT := c12_trueBegins hMk hE
  have eC : f11_errors σ = some (0 + 0, σ2) := by
    unfold f11_errors f11_errors_j22
    rw [eCl, bnd_some, c8_trueBegins hcl.2.1.1, bnd_some, if_neg (by decide), stp, b1, bnd_some, e1, bnd_some, stp, f1, bnd_some, eU, bnd_some]
  have eM : f12_errors μ = some (0 + 0, uI M2 2017 18 0) := by
    unfold f12_errors f12_errors_j20 f12_errors_j73 f12_errors_j95 f12_errors_j131
    have m1 : f12_keeps μc 300 = some μk := m1
    rw [eCm, bnd_some, m1, bnd_some, stp, c12_lines hMk, bnd_some, stp, stp, eT, bnd_some, dp, bnd_some, stp, stp, e2, bnd_some, stp, f2, bnd_some, eI, bnd_some, if_neg (by decide), c12_told, bnd_some]
  rw [eC, Ok_some, eM, Ok_some]
  exact ⟨rfl, Rel.thr ⟨_, _, _, _, _, f3⟩⟩
end R
