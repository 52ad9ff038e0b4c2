/-! the law's records -/
section RF
variable {σ : Sto} {τ x : LawS} {f : Nat → Int32} {n c : Nat} {hd : Nat → Int32} {cu : Nat → Nat} {ma lf ml : Nat → Int32} {D D0 D1 : Doc} {T T0 : Hst} {s m : Nat} {ok : Prop}
theorem In.grp1 (h : In σ D T) : In (uI σ 24 3 1) D T := by
  obtain ⟨μ, L, B, H, h⟩ := h
  exact ⟨_, L, B, H, h.grp1⟩
theorem In.closed (h : In σ D T) : In (uI (uI σ 24 3 0) 24 4 0) D T := by
  obtain ⟨μ, L, B, H, h⟩ := h
  exact ⟨_, L, B, H, h.close⟩
/-- the first step: letters are typed, and recorded -/
theorem rec_type (h : In τ.2 D T) (h3 : fI τ.2 24 3 = 1) (h40 : fI τ.2 24 4 = 0) (h5 : fI τ.2 1992 5 = 1) (h4 : fI τ.2 1992 4 = 0) (h8 : fI τ.2 8 1 = Int32.ofNat m) (hm : 1 ≤ m ∧ m ≤ 200) (hl : ∀ i, i < m → isLt (aI τ.2 9 i) = true) : ∃ v σ', fL_done τ 0 0 0 0 = some (v, (τ.1, σ')) ∧ ((v < 0 ∧ RI False D T σ' 0) ∨ (0 ≤ v ∧ RI True D T σ' 1)) := by
  obtain ⟨f, n, hd, c, cu, ma, lf, ml⟩ := D
  obtain ⟨K, a, b, l, X, ⟨r, σ3, D1, T1, e1, e2, e3, e4⟩, hK⟩ := one_typed h (a1 := 9) (s := 0) (m := m) (by omega) (by omega) (by show 0 + m ≤ 200; omega) (fun i hi => by rw [Nat.zero_add]; exact hl i hi)
  obtain ⟨σ2, y1, y2⟩ := bnd_split e1
  have y1 : f11_planAtCursors τ.2 9 0 (Int32.ofNat m) = some σ2 := y1
  have sm := e4.1
  have e92 := (sm 1992 (by unfold osh; omega)).1
  rw [dn_0]
  unfold f11_type
  rw [h8, y1, bnd_some, y2, bnd_some]
  rcases e2 with rfl | rfl
  · rw [if_pos rfl, hdl_inr (v := -1000003) rfl]
    exact ⟨_, σ3, rfl, Or.inl ⟨by decide, RI.refused (ok := False) h h3 h5 h4 rfl (fun z => z.elim) e3 sm (e4.2.1 rfl).1⟩⟩
  · rw [if_neg (show ¬ (1 : Int32) = 0 by decide)]
    obtain ⟨ak, pd⟩ : AK τ.2 σ3 (f, n, hd, c, cu, ma, lf, ml) T T1 ∧ PD K a b l X (f, n, hd, c, cu, ma, lf, ml) D1 := by
      rcases e4.2.2 rfl with ⟨z, -⟩ | ⟨-, -, -, k1, k2⟩
      · exact absurd z (hK hm.1)
      · exact ⟨k1, k2⟩
    obtain ⟨g1, g2, g3⟩ := ak.first h40 h3
    subst g1
    have s9 := (sm 9 (by unfold osh; omega)).2.2.1
    obtain ⟨σ4, a1, a2, a3, a4, a5, a6, a7⟩ := typed_on (σ := σ3) (m := m) (by rw [e92]; exact h5) (by rw [e92]; exact h4) (by rw [(sm 8 (by unfold osh; omega)).1]; exact h8) hm.2 (fun i hi => by rw [s9]; exact hl i hi)
    have i4 : In σ4 D1 (newT (f, n, hd, c, cu, ma, lf, ml) T) := by
      obtain ⟨μ, L, B, H, r0⟩ := e3
      obtain ⟨σ4', μ4, w1, w2, w3⟩ := addTyped r0
      rw [a1] at w1
      cases w1
      exact ⟨μ4, L, B, H, w3⟩
    have e24 := (a2 24 (by omega)).1
    have hln := pd.lns
    obtain ⟨f1, n1, hd1, c1, cu1, ma1, lf1, ml1⟩ := D1
    obtain ⟨L', B', H', sc', -⟩ := i4.sc
    have hn1 := i4.gd.1
    rw [a1, bnd_some, hdl_inl, sc'.1.2.2.1]
    refine ⟨_, σ4, rfl, Or.inr ⟨z_le (by omega), _, _, i4, by rw [e24]; exact g2, a4, a3, hln, fun _ => ⟨rfl, by rw [e24]; exact g3, ⟨by omega, a5, m, hm.1, hm.2, a6, fun i hi => by rw [a7 i hi, s9]; exact hl i hi⟩, fun τ' T' t1 t2 t3 t4 t5 => ?_⟩⟩⟩
    obtain ⟨x1, x2, x3, x4⟩ := t5.2.2.2.2 0 (by omega)
    have hrep := rep_typed h t1 (r1 := 9) (r2 := 1996) (s1 := 0) (s2 := 0) (m := m) (by omega) (by omega) (by omega) (by show 0 + m ≤ 200; omega) (by show 0 + m ≤ 8000; omega) (g := aI τ.2 9) (fun i hi => ⟨by rw [Nat.zero_add], hl i hi⟩) (fun i hi => by
      have := x4 i (by omega)
      rw [show 200 * 0 + i = 0 + i by omega] at this
      rw [this, Nat.zero_add, a7 i hi, s9])
    obtain ⟨σ5, T5, k1, k2, k3, k4⟩ := hrep σ3 _ _ e1 e3 (fun z => by have := z.2; omega)
    obtain ⟨p, q1, q2⟩ := bnd_split k1
    have q1 : f11_planAtCursors τ' 1996 0 (Int32.ofNat m) = some p := q1
    have hps : f11_playStep τ' (Int32.ofNat 0) = some (1, σ5) := by
      have ik : inb (Int32.ofNat 0) 40 = true := inb_n (by omega) (by omega)
      unfold f11_playStep
      simp only [ik, gd_true, ofNat_clamp (show 0 < 2147483648 by omega), stp]
      have e0 : Int32.ofNat 0 * (200 : Int32) = 0 := by decide
      rw [x1, x3, a5, a6, if_pos (by decide), e0, q1, bnd_some, q2, bnd_some]
      rfl
    rcases k4 with ⟨-, -, -, z⟩ | z
    · exact absurd hm.1 z
    · obtain ⟨z1, z2, z3⟩ := z.first t3 t2
      rw [z1] at k2
      exact ⟨σ5, ⟨τ', rfl, hps, k3⟩, k2, z2, z3, k3⟩
theorem rec_next (hR : RI ok D0 T0 x.2 s) (hs : s < 40) {k : Nat} (hk : k < 4) {l6 l7 l8 : Int32} {v9 : Nat} (h9 : v9 < 5) : ∃ x' s', fL_records_b117 x l6 l7 l8 (Int32.ofNat v9) (Int32.ofNat s) (Int32.ofNat (k + 1)) = some (.inl (x', Int32.ofNat s', Int32.ofNat k)) ∧ RI ok D0 T0 x'.2 s' ∧ s' ≤ s + 1 ∧ s ≤ s' ∧ FR (fun b => b ≠ 0) x x' := by
  have fin : ∀ (y : LawS) (z : Option (Int32 × LawS)), FR (fun b => b ≠ 0) x y → RStep ok D0 T0 y s z → ∃ x' s', (bnd z fun p => fL_records_j184 l6 l7 l8 (Int32.ofNat v9) p.2 (Int32.ofNat s) (Int32.ofNat (k + 1)) p.1) = some (.inl (x', Int32.ofNat s', Int32.ofNat k)) ∧ RI ok D0 T0 x'.2 s' ∧ s' ≤ s + 1 ∧ s ≤ s' ∧ FR (fun b => b ≠ 0) x x' := by
    intro y z hf hz
    obtain ⟨v, σ', s', z1, z2, z3⟩ := hz
    have e1 : Int32.ofNat (k + 1) + (-1 : Int32) = Int32.ofNat k := by
      have : Int32.ofNat (k + 1) - Int32.ofNat 1 = Int32.ofNat k := by rw [i32_sub (by omega)]; rfl
      rw [← this, show Int32.ofNat 1 = (1 : Int32) from rfl]
      grind
    rw [z1, bnd_some]
    unfold fL_records_j184
    rw [stp]
    rcases z3 with ⟨w1, w2⟩ | ⟨w1, w2⟩
    · rw [if_pos w1]
      unfold fL_records_j198
      rw [show fL_one 0 = some 0 from rfl, bnd_some, stp, stp, e1, Int32.add_zero]
      subst w2
      exact ⟨_, s', rfl, z2, by omega, by omega, fun b hb => hf b hb⟩
    · rw [if_neg (by grind)]
      unfold fL_records_j198
      rw [show fL_one 1 = some 1 from rfl, bnd_some, stp, stp, e1, i32_succ]
      subst w2
      exact ⟨_, s + 1, rfl, z2, by omega, by omega, fun b hb => hf b hb⟩
  unfold fL_records_b117
  rw [if_neg (fun z => by have := (i32_le0 (by omega)).mp z; omega)]
  obtain ⟨v1, z1, x1, a1, a2, a3, a4, a5⟩ := nextm x 2 (by decide) (by decide)
  have a3 : z1 - z1 / (2 : Int32) * (2 : Int32) = Int32.ofNat v1 := a3
  rw [a2, bnd_some, a3]
  by_cases q : Int32.ofNat v1 = 0
  · rw [if_pos q]
    obtain ⟨v2, x2, i1, i2, i4, i5⟩ := from_ok x1 (lo := -3) (hi := 3) 7 (by decide) (by decide) (by decide)
    rw [i2, bnd_some]
    exact fin x2 _ (a5.trans i5) (rec_move (by rw [i4, a4]; exact hR) hs (in_p (p := v9) (n := 4) (by omega) (by omega)) (by
      have : ∀ v : Nat, v < 7 → -50 ≤ -3 + Int32.ofNat v ∧ -3 + Int32.ofNat v ≤ 50 := by decide
      exact this v2 i1))
  · rw [if_neg q]
    obtain ⟨v2, z2, x2, b1, b2, b3, b4, b5⟩ := nextm x1 3 (by decide) (by decide)
    have b3 : z2 - z2 / (3 : Int32) * (3 : Int32) = Int32.ofNat v2 := b3
    rw [b2, bnd_some, b3]
    by_cases q2 : Int32.ofNat v2 = 0
    · rw [if_pos q2]
      exact fin x2 _ (a5.trans b5) (rec_paste (by rw [b4, a4]; exact hR) hs)
    · rw [if_neg q2]
      obtain ⟨v3, x3, i1, i2, i4, i5⟩ := from_ok x2 (lo := -4) (hi := 4) 9 (by decide) (by decide) (by decide)
      rw [i2, bnd_some]
      have hr : ∀ v : Nat, v < 9 → -100 ≤ -4 + Int32.ofNat v ∧ -4 + Int32.ofNat v ≤ 100 := by decide
      exact fin x3 _ (a5.trans (b5.trans i5)) (rec_erase (by rw [i4, b4, a4]; exact hR) hs (hr v3 i1).1 (hr v3 i1).2)
/-- all steps played, once -/
theorem play_all {s : Nat} {τ0 τ' : Sto} (hs : 1 ≤ s ∧ s ≤ 40) (h92 : fI σ 1992 5 = 0) (h3 : fI σ 24 3 = 0) (hc : fI σ 1992 4 = Int32.ofNat s) (e0 : uI σ 24 3 1 = τ0) (hp : PLY s τ0 τ') : f11_play σ 1 = some (.inl (Int32.ofNat s, uI (uI τ' 24 3 0) 24 4 0)) := by
  have hcnt : ∀ {k : Nat} {u : Sto}, PLY k τ0 u → fI u 1992 4 = Int32.ofNat s := fun {k u} hu => by
    rw [(hu.sm 1992 (by unfold osh; omega)).1, ← e0]
    exact hc
  have inner : loopF (fun s_89 => f11_play_b89 1 1 s_89.1 s_89.2.1 s_89.2.2.1 0 s_89.2.2.2) FU (τ0, 0, 0, 0) = some (τ', Int32.ofNat s, 0) := by
    apply Ok_eq
    refine Ok_count s (fun k z => ∃ u, z = (u, Int32.ofNat k, 0, Int32.ofNat k) ∧ PLY k τ0 u) ?_ 0 ⟨τ0, rfl, rfl⟩ (by omega) (by (show _ < FU; unfold FU; omega))
    rintro k z hk ⟨u, rfl, hu⟩
    show Ok (f11_play_b89 1 1 u (Int32.ofNat k) 0 0 (Int32.ofNat k)) _
    unfold f11_play_b89
    rw [hcnt hu]
    by_cases q : s ≤ k
    · have : k = s := by omega
      subst this
      rw [if_pos ((i32_le (by omega) (by omega)).mpr q), Ok_some, lp_inr, hu.fn hp]
    · rw [if_neg (fun z => q ((i32_le (by omega) (by omega)).mp z)), if_pos rfl]
      obtain ⟨v, y, y1, y2, y3⟩ := hp.upto (k + 1) (by omega)
      have ey := y1.fn hu
      subst ey
      rw [y2, bnd_some, if_neg (show ¬ (1 : Int32) = 0 by decide)]
      unfold f11_play_j120 f11_play_j133
      rw [stp, if_pos rfl, stp, stp, i32_succ, Ok_some, lp_inl]
      exact ⟨by omega, v, rfl, y, y1, y2, y3⟩
  have outer : loopF (fun s_75 => f11_play_b75 1 s_75.1 1 s_75.2.1 s_75.2.2.1 s_75.2.2.2) FU (τ0, 0, 0, 0) = some (τ', Int32.ofNat s) := by
    have b1 : f11_play_b75 1 τ0 1 0 0 0 = some (.inl (τ', Int32.ofNat s, 0, 1)) := by
      unfold f11_play_b75
      rw [if_neg (by decide), if_pos rfl, stp]
      unfold f11_play_j89
      rw [inner, bnd_some]
      rfl
    have b2 : f11_play_b75 1 τ' 1 (Int32.ofNat s) 0 1 = some (.inr (τ', Int32.ofNat s)) := by
      unfold f11_play_b75
      rw [if_pos (by decide)]
    exact (loopF_inl (m := 999999) (f := fun s_75 => f11_play_b75 1 s_75.1 1 s_75.2.1 s_75.2.2.1 s_75.2.2.2) b1).trans (loopF_inr (m := 999998) (f := fun s_75 => f11_play_b75 1 s_75.1 1 s_75.2.1 s_75.2.2.1 s_75.2.2.2) b2)
  unfold f11_play
  rw [if_neg (by decide), if_pos (by decide), if_pos h92, if_pos h3]
  unfold f11_play_j58
  rw [stp, e0, stp, stp, stp, stp]
  unfold f11_play_j75
  rw [outer, bnd_some]
  unfold f11_play_j147
  rw [if_neg (show ¬ (1 : Int32) = 0 by decide)]
  rfl
/-- the first step refused: nothing is played -/
theorem play_none {τ0 τ1 : Sto} {s : Nat} (hs : 1 ≤ s ∧ s ≤ 40) (h92 : fI σ 1992 5 = 0) (h3 : fI σ 24 3 = 0) (hc : fI σ 1992 4 = Int32.ofNat s) (e0 : uI σ 24 3 1 = τ0) (hp : f11_playStep τ0 0 = some (0, τ1)) : f11_play σ 1 = some (.inl (0, uI (uI τ1 24 3 0) 24 4 0)) := by
  have hc0 : fI τ0 1992 4 = Int32.ofNat s := by rw [← e0]; exact hc
  have i1 : f11_play_b89 1 1 τ0 0 0 0 0 = some (.inl (τ1, 0, 1, 1)) := by
    unfold f11_play_b89
    rw [hc0, if_neg (fun z => by have := (i32_le0 (by omega)).mp z; omega), if_pos rfl, hp, bnd_some, if_pos rfl]
    rfl
  have i2 : f11_play_b89 1 1 τ1 0 1 0 1 = some (.inr (τ1, 0, 1)) := by
    unfold f11_play_b89
    split
    · rfl
    · rw [if_neg (show ¬ (1 : Int32) = 0 by decide)]
  have inner : loopF (fun s_89 => f11_play_b89 1 1 s_89.1 s_89.2.1 s_89.2.2.1 0 s_89.2.2.2) FU (τ0, 0, 0, 0) = some (τ1, 0, 1) := (loopF_inl (m := 999999) (f := fun s_89 => f11_play_b89 1 1 s_89.1 s_89.2.1 s_89.2.2.1 0 s_89.2.2.2) i1).trans (loopF_inr (m := 999998) (f := fun s_89 => f11_play_b89 1 1 s_89.1 s_89.2.1 s_89.2.2.1 0 s_89.2.2.2) i2)
  have outer : loopF (fun s_75 => f11_play_b75 1 s_75.1 1 s_75.2.1 s_75.2.2.1 s_75.2.2.2) FU (τ0, 0, 0, 0) = some (τ1, 0) := by
    have b1 : f11_play_b75 1 τ0 1 0 0 0 = some (.inl (τ1, 0, 1, 1)) := by
      unfold f11_play_b75
      rw [if_neg (by decide), if_pos rfl, stp]
      unfold f11_play_j89
      rw [inner, bnd_some]
      rfl
    have b2 : f11_play_b75 1 τ1 1 0 1 1 = some (.inr (τ1, 0)) := by
      unfold f11_play_b75
      rw [if_pos (by decide)]
    exact (loopF_inl (m := 999999) (f := fun s_75 => f11_play_b75 1 s_75.1 1 s_75.2.1 s_75.2.2.1 s_75.2.2.2) b1).trans (loopF_inr (m := 999998) (f := fun s_75 => f11_play_b75 1 s_75.1 1 s_75.2.1 s_75.2.2.1 s_75.2.2.2) b2)
  unfold f11_play
  rw [if_neg (by decide), if_pos (by decide), if_pos h92, if_pos h3]
  unfold f11_play_j58
  rw [stp, e0, stp, stp, stp, stp]
  unfold f11_play_j75
  rw [outer, bnd_some]
  unfold f11_play_j147
  rw [if_neg (show ¬ (1 : Int32) = 0 by decide)]
  rfl
end RF
