/-! calls that leave the document and the tree; the tape -/
/-- the room holds a document, and a tree of acts -/
def In (σ : Sto) (D : Doc) (T : Hst) : Prop := ∃ μ L B H, Rel0 σ μ D L B H T
theorem In.ob {σ : Sto} {D : Doc} {T : Hst} (h : In σ D T) : OB σ D := by
  obtain ⟨μ, L, B, H, h⟩ := h
  exact h.ob
theorem In.gd {σ : Sto} {D : Doc} {T : Hst} (h : In σ D T) : GD D := h.ob.1
/-- no group is open, nothing is recorded -/
def Rst (σ : Sto) : Prop := fI σ 24 3 = 0 ∧ fI σ 1992 5 = 0
theorem In.grp {σ : Sto} {D : Doc} {T : Hst} (h : In σ D T) (h3 : fI σ 24 3 = 0) : fI σ 24 4 = 0 := by
  obtain ⟨μ, L, B, H, h⟩ := h
  obtain ⟨q1, q2, q3, q4⟩ := h.2.2.2.2.2.2.2.2.2.2.1
  rw [q3]
  by_cases z : fI μ 2017 33 = -1
  · rw [if_pos z]
  · have := q4 z
    rw [h3] at this
    exact absurd this (by decide)
section Q
variable {σ μ : Sto} {L B H : Nat} {D : Doc} {T : Hst}
/-- the tape alone is another -/
theorem Rel0.tape {σ' : Sto} (h : Rel0 σ μ D L B H T) (hs : Sm (fun a => a ≠ 8 ∧ a ≠ 9) σ σ') {m : Nat} (hm : m ≤ 200) (h8 : fI σ' 8 1 = Int32.ofNat m) (hl : ∀ k, k < m → isLt (aI σ' 9 k) = true) : Rel0 σ' (uI (rA μ 2023 (aI σ' 9)) 2017 11 (Int32.ofNat m)) D L B H T := by
  obtain ⟨g, s, mm, w, t1, t2, t3, t4, t5, t6, t7, t8⟩ := h
  have hw := w.cells
  have hm1 : ∀ k, k ≠ 11 → fI (uI (rA μ 2023 (aI σ' 9)) 2017 11 (Int32.ofNat m)) 2017 k = fI μ 2017 k := fun k hk => by
    rw [fI_uI, if_pos rfl, if_neg hk]
    rfl
  have hm2 : ∀ a, a ≠ 2023 → aI (uI (rA μ 2023 (aI σ' 9)) 2017 11 (Int32.ofNat m)) a = aI μ a := fun a ha => by
    show aI (rA μ 2023 _) a = _
    rw [aI_rA' ha]
  generalize hM : uI (rA μ 2023 (aI σ' 9)) 2017 11 (Int32.ofNat m) = M at hm1 hm2
  have m11 : fI M 2017 11 = Int32.ofNat m := by rw [← hM, fI_uI, if_pos rfl, if_pos rfl]
  have m23 : aI M 2023 = aI σ' 9 := by rw [← hM]; rfl
  refine ⟨g, s.congr (hs 1 (by omega)).1 (hs 1 (by omega)).2.1 (hs L (by omega)).2.2.1 (hs B (by omega)).2.2.1 (hs H (by omega)).2.2.1 (hs (1 + 4) (by omega)).2.2.1 (hs (1 + 5) (by omega)).2.2.1 (hs (1 + 6) (by omega)).2.2.1, mm.congr (hm1 _ (by decide)) (hm1 _ (by decide)) (hm2 _ (by omega)) (hm2 _ (by omega)) (hm2 _ (by omega)) (hm2 _ (by omega)) (hm2 _ (by omega)), ?_, ⟨m, hm, h8, m11, fun k hk => ?_⟩, ?_, ?_, ?_, t5.congr (hs.weak (by omega)) (hm1 _ (by decide)) (hm2 _ (by omega)), t6.congr (hs.weak (by omega)) (hm1 _ (by decide)) (hm1 _ (by decide)) (fun a a1 a2 => hm2 _ (by omega)), ?_, t8.congr (hs.weak (by omega)) (by rw [(hs 24 (by omega)).1]) (by rw [(hs 24 (by omega)).2.1]) (hm1 _ (by decide)) (hm1 _ (by decide)) (fun a a1 a2 => hm2 _ (by omega))⟩
  · unfold SW
    rw [(hs 13 (by omega)).2.1]
    exact w
  · rw [m23]
    exact ⟨rfl, hl k hk⟩
  · rw [(hs 10 (by omega)).1, (hs 11 (by omega)).1, (hs 12 (by omega)).2.2.1, hm1 12 (by decide), hm1 13 (by decide), hm1 14 (by decide), hm2 2024 (by omega)]
    exact t2
  · rw [(hs 1990 (by omega)).1, (hs 1989 (by omega)).1, (hs 1991 (by omega)).2.2.1, hm1 15 (by decide), hm1 19 (by decide), hm2 2025 (by omega)]
    exact t3
  · rw [(hs 0 (by omega)).1, (hs 2015 (by omega)).2.2.1, (hs 2016 (by omega)).2.2.1, hm1 17 (by decide), hm2 2027 (by omega), hm2 2028 (by omega)]
    exact t4
  · rw [(hs 24 (by omega)).1, hm1 34 (by decide), hm1 33 (by decide)]
    exact t7
theorem In.tape {σ' : Sto} (h : In σ D T) (hs : Sm (fun a => a ≠ 8 ∧ a ≠ 9) σ σ') {m : Nat} (hm : m ≤ 200) (h8 : fI σ' 8 1 = Int32.ofNat m) (hl : ∀ k, k < m → isLt (aI σ' 9 k) = true) : In σ' D T := by
  obtain ⟨μ, L, B, H, h⟩ := h
  exact ⟨_, L, B, H, h.tape hs hm h8 hl⟩
theorem q_clear : f11_clearTape σ = some (fI σ 8 1, uI σ 8 1 0) := rfl
end Q
