/-! the relation at the start -/
def doc0 : Doc := (fun _ => 0, 0, fun _ => 0, 1, fun _ => 0, fun _ => -1, fun _ => 0, fun _ => 0)
theorem gd0 : GD doc0 := by
  refine ⟨by omega, by decide, fun k hk => by omega, rfl, fun j _ => Or.inl rfl, ⟨by omega, by omega⟩, fun i j _ _ => by omega, fun i _ => Nat.le_refl 0, fun i _ => rfl, fun k _ => Or.inl rfl, fun k _ => ⟨Or.inl rfl, Or.inl rfl, fun z => absurd rfl z⟩⟩
theorem ct0 {s L B : Nat} (h1 : fI σ0 s 1 = 0) (h4 : fI σ0 s 4 = 1) (h2 : fR σ0 s 0 = L + 1 ∧ kc L = 13 ∧ ln L = 3000) (h3 : fR σ0 s 2 = B + 1 ∧ kc B = 12 ∧ ln B = 300) (hb : aI σ0 B 0 = 0) : CT σ0 s L B (fun _ => 0) 0 := by
  refine ⟨by omega, by decide, h1, h4, h2, h3, fun k hk => by omega, fun j hj => ?_⟩
  have e : j = 0 := by
    have : ends (fun _ => (0 : Int32)) 0 = 0 := rfl
    omega
  subst e
  exact ⟨0, by omega, ⟨rfl, Or.inl rfl⟩, hb⟩
theorem rel0 : Rel σ0 μ0 := by
  refine ⟨doc0, 2, 3, 4, (0, 0, fun _ => 0, fun _ => 0, fun _ => doc0, fun _ => doc0), gd0, ?_, ?_, ?_, ?_, ?_, ?_, ?_, ?_, ?_, ?_, ?_⟩
  · refine ⟨ct0 (by decide) (by decide) ⟨by decide, by decide, by decide⟩ ⟨by decide, by decide, by decide⟩ (by decide), ⟨by decide, by decide, by decide, fun j _ => ?_⟩, ⟨by decide, fun k hk => ?_⟩, fun k hk => ?_, fun k hk => ?_⟩
    · exact rfl
    · exact rfl
    · show fil 16 (-1) k = -1
      unfold fil
      rw [if_pos hk]
    · exact rfl
  · refine ⟨⟨by omega, rfl, fun k hk => by omega⟩, fun j _ => ?_, ⟨rfl, fun k _ => rfl⟩, fun k hk => ?_, fun k _ => rfl⟩
    · show (0 : Int32) = if _ then (0 : Int32) else 0
      split <;> rfl
    · show fil 16 (-1) k = -1
      unfold fil
      rw [if_pos hk]
  · exact Or.inl ⟨rfl, rfl, rfl, by decide, by decide, by decide⟩
  · exact ⟨0, by omega, by decide, by decide, fun k hk => by omega⟩
  · exact ⟨0, by omega, by decide, by decide, fun k hk => by omega, Or.inl ⟨by decide, by decide, by omega⟩⟩
  · exact ⟨by decide, Or.inl (by decide), 0, by omega, by decide, by decide, fun k hk => by omega⟩
  · refine ⟨⟨4, by omega, by omega, by decide, by decide⟩, fun k hk => ?_⟩
    have e : k = 0 ∨ k = 1 := by omega
    rcases e with rfl | rfl <;> decide
  · refine ⟨⟨by decide, by decide, by decide, by decide⟩, fun _ => 0, 0, ct0 (by decide) (by decide) ⟨by decide, by decide, by decide⟩ ⟨by decide, by decide, by decide⟩ (by decide), by decide, fun k hk => by omega⟩
  · exact ⟨0, by omega, by decide, by decide, by decide, Or.inl (by decide), fun k hk => by omega⟩
  · exact ⟨Or.inl (by decide), by decide, by decide, by decide⟩
  · refine ⟨⟨by omega, by omega, by decide, by decide, by decide, by decide, by decide, rfl⟩, fun i h1 h2 => absurd (Nat.le_trans h1 h2) (by decide), fun i hi => ?_, fun i h1 h2 => ?_, fun i h1 h2 => absurd (Nat.le_trans h1 h2) (by decide), fun i h1 h2 => absurd (Nat.le_trans h1 h2) (by decide), fun i h1 h2 => ?_⟩
    · have e : i = 0 := by omega
      subst e
      exact ⟨by omega, fun z => absurd rfl z, by decide, by decide⟩
    · have h0 : ∀ i, i < 151 → fR σ0 (26 + 13 * i) 1 = 0 := by decide +kernel
      exact h0 i (by omega)
    · obtain ⟨k, hk⟩ := h2
      have : ∀ k, upw (fun _ => 0) k 0 = 0 := fun k => by
        induction k with
        | zero => rfl
        | succ k ih => exact ih
      rw [this k] at hk
      omega
