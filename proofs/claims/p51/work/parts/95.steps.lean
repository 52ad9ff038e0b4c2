/-! a node back, a node on -/
theorem Anc.self {par : Nat → Nat} {x : Nat} : Anc par x x := ⟨0, rfl⟩
theorem Anc.up {par : Nat → Nat} {x i : Nat} (h : Anc par (par x) i) : Anc par x i := by
  obtain ⟨k, hk⟩ := h
  exact ⟨k + 1, hk⟩
theorem Anc.cases {par : Nat → Nat} {x i : Nat} (h : Anc par x i) : i = x ∨ Anc par (par x) i := by
  obtain ⟨k, hk⟩ := h
  cases k with
  | zero => exact Or.inl hk.symm
  | succ k => exact Or.inr ⟨k, hk⟩
def pRf (par : Nat → Nat) (x : Nat) : Nat := if x = 0 then 0 else 26 + 13 * par x + 1
def cRf (cho : Nat → Nat) (x : Nat) : Nat := if cho x = 0 then 0 else 26 + 13 * cho x + 1
theorem RH.again {σ σ' μ μ' : Sto} {N x y : Nat} {par cho : Nat → Nat} {Bf Af Af' : Nat → Doc} (h : RH σ μ (N, x, par, cho, Bf, Af)) (hy : y ≤ N) (a1 : fI σ' 24 1 = fI σ 24 1) (a2 : fR σ' 24 2 = 26 + 13 * y + 1) (a3 : ∀ i, i ≤ 150 → fR σ' (26 + 13 * i) = fR σ (26 + 13 * i)) (b1 : fI μ' 2017 31 = fI μ 2017 31) (b2 : fI μ' 2017 32 = Int32.ofNat y) (b3 : aI μ' 2034 = aI μ 2034) (b4 : aI μ' 2035 = aI μ 2035) (hB : ∀ i, 1 ≤ i → i ≤ N → MO σ' (26 + 13 * i + 1) (Bf i) ∧ ST μ' (2 * i - 2) (Bf i)) (hA : ∀ i, 1 ≤ i → i ≤ N → ¬ Anc par y i → GD (Af' i) ∧ MO σ' (26 + 13 * i + 7) (Af' i) ∧ ST μ' (2 * i - 1) (Af' i)) (hc : ∀ i, 1 ≤ i → Anc par y i → cho (par i) = i) : RH σ' μ' (N, y, par, cho, Bf, Af') := by
  obtain ⟨⟨g1, g2, g3, g4, g5, g6, g7, g8⟩, h5, h6, h7, h8, h9, h10⟩ := h
  refine ⟨⟨g1, hy, by rw [a1]; exact g3, by rw [b1]; exact g4, a2, b2, ?_, g8⟩, fun i i1 i2 => ?_, fun i i2 => ?_, fun i i1 i2 => ?_, fun i i1 i2 => ⟨(h8 i i1 i2).1, hB i i1 i2⟩, hA, hc⟩
  · have := a3 0 (by omega)
    rw [show 26 + 13 * 0 = 26 from rfl] at this
    rw [this]
    exact g7
  · rw [a3 i (by omega), b3]
    exact h5 i i1 i2
  · rw [a3 i (by omega), b4]
    exact h6 i i2
  · rw [a3 i i2]
    exact h7 i i1 i2
/-- what going along the tree leaves as it is -/
def HQ (σ0 μ0 S M : Sto) : Prop := (Sm (fun a => a < 24 ∨ 1989 ≤ a) σ0 S ∧ fI S 24 = fI σ0 24) ∧ (∀ k, k ≠ 5 → k ≠ 6 → k ≠ 18 → k ≠ 32 → k ≠ 33 → k ≠ 34 → fI M 2017 k = fI μ0 2017 k) ∧ (∀ a, a < 2018 ∨ (2022 < a ∧ a < 2035) ∨ 2042 < a → aI M a = aI μ0 a) ∧ fI M 2017 33 = -1 ∧ fI M 2017 34 = 0
def HS (σ0 μ0 S M : Sto) (T : Hst) (D : Doc) : Prop := RH S M T ∧ SM M D ∧ GD D ∧ HQ σ0 μ0 S M
section R
variable {σ0 μ0 S M : Sto} {N x : Nat} {par cho : Nat → Nat} {Bf Af : Nat → Doc} {D : Doc}
theorem SM.r300 {μ : Sto} {D : Doc} (m : SM μ D) (g : GD D) : aI μ 2022 300 = 0 := by
  obtain ⟨f, n, hd, c, cu, ma, lf, ml⟩ := D
  rw [m.2.1 300 (by omega), if_neg (by have := g.2.1; omega)]
theorem c12_undoneN {p : Nat} (hp : p ≤ 150) : f12_undone (Int32.ofNat (p + 1)) = some (Int32.ofNat (2 * p + 1)) := by
  unfold f12_undone
  congr 1
  grind
theorem back_step (h : HS σ0 μ0 S M (N, x, par, cho, Bf, Af) D) (hmo : MO S (26 + 13 * x + 7) D) (hx : x ≠ 0) : ∃ S' M', (∀ l k : Nat, k < l → l < 1000 → f4_goBack_b22 1 (Int32.ofNat l) S (Int32.ofNat k) (pRf par x) = some (.inl (S', Int32.ofNat (k + 1), pRf par (par x)))) ∧ (∀ l k : Nat, k < l → l < 1000 → f12_undo_b23 (Int32.ofNat l) M (Int32.ofNat k) = some (.inl (M', Int32.ofNat (k + 1)))) ∧ HS σ0 μ0 S' M' (N, par x, par, cho, Bf, upD Af x D) (Bf x) ∧ MO S' (26 + 13 * par x + 7) (Bf x) ∧ ∀ D', GD D' → ST M 300 D' → ST M' 300 D' := by
  obtain ⟨rh, m, g, hf⟩ := h
  have rh' := rh
  obtain ⟨⟨g1, g2, g3, g4, g5, g6, g7, g8⟩, h5, h6, h7, h8, h9, h10⟩ := rh
  obtain ⟨p1, p2, p3⟩ := h5 x (by omega) g2
  obtain ⟨q1, q2, q3⟩ := h8 x (by omega) g2
  have hchx : cho (par x) = x := h10 x (by omega) Anc.self
  have hB : ∃ f n hd c cu ma lf ml, Bf x = (f, n, hd, c, cu, ma, lf, ml) := ⟨_, _, _, _, _, _, _, _, rfl⟩
  -- the class
  obtain ⟨S1, s1, s2, s3, s4⟩ : ∃ S1, f5_become S (26 + 13 * par x + 7) (26 + 13 * x + 1) = some S1 ∧ MO S1 (26 + 13 * par x + 7) (Bf x) ∧ Sm (fun b => b < 26 + 13 * par x + 7 ∨ 26 + 13 * par x + 7 + 5 < b) S S1 ∧ fR S1 = fR S := by
    obtain ⟨f, n, hd, c, cu, ma, lf, ml, hD⟩ := hB
    rw [hD] at q1 q2 ⊢
    exact c5_become q2 q1 (by omega)
  have hy : par x ≤ N := by omega
  have hnode : ∀ i, i ≤ 150 → okr (26 + 13 * i + 1) 0 = true := fun i hi => okr_s.mpr (kc_node i (by omega))
  have r24 : fR S1 24 2 = 26 + 13 * x + 1 := by rw [s4]; exact g5
  have hpp : ∀ i, i ≤ 150 → fR (uR S1 24 2 (26 + 13 * par x + 1)) (26 + 13 * i) = fR S (26 + 13 * i) := fun i hi => by
    rw [fR_uR' (by omega), s4]
  -- the reference
  obtain ⟨w, hw⟩ : ∃ w, x = w + 1 := ⟨x - 1, by omega⟩
  obtain ⟨M1, m1, m2, m3, m4, m5⟩ : ∃ M1, f12_keeps M (Int32.ofNat (2 * w + 1)) = some M1 ∧ ST M1 (2 * w + 1) D ∧ (∀ q' D', q' ≠ 2 * w + 1 → GD D' → ST M q' D' → ST M1 q' D') ∧ fI M1 = fI M ∧ ∀ a, a < 2036 ∨ 2042 < a → aI M1 a = aI M a := by
    obtain ⟨f, n, hd, c, cu, ma, lf, ml⟩ := D
    exact c12_keeps m g (q := 2 * w + 1) (by omega)
  have h300 : aI M1 2022 300 = 0 := by rw [m5 2022 (by omega)]; exact m.r300 g
  obtain ⟨M2, n1, n2, n3, n4, n5⟩ : ∃ M2, f12_brings M1 (Int32.ofNat (2 * w)) = some M2 ∧ SM M2 (Bf x) ∧ (∀ k, k ≠ 5 → k ≠ 6 → fI M2 2017 k = fI M1 2017 k) ∧ (∀ a, a < 2018 ∨ 2022 < a → aI M2 a = aI M1 a) ∧ fR M2 = fR M1 := by
    have q3' := m3 (2 * x - 2) (Bf x) (by omega) q1 q3
    rw [show 2 * x - 2 = 2 * w by omega] at q3'
    obtain ⟨f, n, hd, c, cu, ma, lf, ml, hD⟩ := hB
    rw [hD] at q1 q3' ⊢
    exact c12_brings q3' q1 (by omega) h300
  have e32 : fI M 2017 32 = Int32.ofNat x := g6
  have e32' : fI M2 2017 32 = Int32.ofNat x := by rw [n3 32 (by decide) (by decide), m4]; exact g6
  have a34 : aI M2 2034 = aI M 2034 := by rw [n4 2034 (by omega), m5 2034 (by omega)]
  have a35 : aI M2 2035 = aI M 2035 := by rw [n4 2035 (by omega), m5 2035 (by omega)]
  have hcx := (h6 (par x) hy).2.2.2
  rw [hchx] at hcx
  have same35 : aI (uA M2 2035 (par x) (Int32.ofNat x)) 2035 = aI M 2035 := by
    funext j
    rw [aI_uA, if_pos rfl]
    by_cases e : j = par x
    · rw [if_pos e, e, hcx]
    · rw [if_neg e, a35]
  have hxz : ¬ Int32.ofNat x = 0 := fun z => hx ((ofNat_z0 (by omega)).mp z)
  refine ⟨uR S1 24 2 (26 + 13 * par x + 1), uI (uA M2 2035 (par x) (Int32.ofNat x)) 2017 32 (Int32.ofNat (par x)), fun l k hk hl => ?_, fun l k hk hl => ?_, ⟨rh'.again hy ?_ ?_ hpp ?_ ?_ ?_ ?_ (fun i i1 i2 => ?_) (fun i i1 i2 i3 => ?_) (fun i i1 i2 => h10 i i1 i2.up), ?_, q1, ?_⟩, ?_, fun D' hD1 hD2 => ?_⟩
  · unfold f4_goBack_b22 pRf
    rw [if_neg hx, if_neg (fun z => by have := (i32_le (by omega) (by omega)).mp z; omega), if_neg (by omega), hnode _ (by omega), gd_true, g5, hnode _ (by omega), gd_true, Nat.add_sub_cancel, Nat.add_sub_cancel, s1, bnd_some, stp, fR_uR, if_pos rfl, if_pos rfl, hnode _ (by omega), gd_true, Nat.add_sub_cancel, stp, i32_succ, stp, hpp _ (by omega)]
    congr 4
    by_cases e : par x = 0
    · rw [if_pos e, e]
      exact g7
    · rw [if_neg e]
      exact (h5 (par x) (by omega) hy).2.1
  · unfold f12_undo_b23
    rw [if_neg (fun z => by have := (i32_le (by omega) (by omega)).mp z; omega), e32, if_neg hxz]
    have e1 : f12_undone (Int32.ofNat x) = some (Int32.ofNat (2 * w + 1)) := by
      rw [hw]
      exact c12_undoneN (by omega)
    have e2 : f12_ahead (Int32.ofNat x) = some (Int32.ofNat (2 * w)) := by
      rw [hw]
      exact c12_aheadN (by omega)
    rw [e1, bnd_some, m1, bnd_some, m4, e32, e2, bnd_some, n1, bnd_some, e32', inb_n (show x < 151 by omega) (by omega), gd_true, ofNat_clamp (by omega), a34, p3, inb_n (show par x < 151 by omega) (by omega), gd_true, ofNat_clamp (by omega), stp]
    have e3 : fI (uA M2 2035 (par x) (Int32.ofNat x)) 2017 32 = Int32.ofNat x := e32'
    have e4 : aI (uA M2 2035 (par x) (Int32.ofNat x)) 2034 x = Int32.ofNat (par x) := by
      rw [aI_uA' (by decide), a34]
      exact p3
    rw [e3, inb_n (show x < 151 by omega) (by omega), gd_true, ofNat_clamp (by omega), e4, stp, i32_succ, stp]
  · show fI S1 24 1 = _
    rw [(s3 24 (by omega)).1]
  · rw [fR_uR, if_pos rfl, if_pos rfl]
  · rw [fI_uI, if_pos rfl, if_neg (by decide)]
    show fI M2 2017 31 = _
    rw [n3 31 (by decide) (by decide), m4]
  · rw [fI_uI, if_pos rfl, if_pos rfl]
  · show aI (uA M2 2035 _ _) 2034 = _
    rw [aI_uA' (by decide), a34]
  · exact same35
  · obtain ⟨c1, c2, c3⟩ := h8 i i1 i2
    refine ⟨c2.congr (fun a a1 a2 => ?_), ?_⟩
    · have := s3 a (by omega)
      exact ⟨this.1, this.2.2.1, this.2.2.2⟩
    · exact (m3 _ _ (by omega) c1 c3).congr (fun a a1 a2 => by
        show aI (uA M2 2035 _ _) a = _
        rw [aI_uA' (by omega), n4 a (by omega)])
  · have hst : ∀ q D', ST M1 q D' → ST (uI (uA M2 2035 (par x) (Int32.ofNat x)) 2017 32 (Int32.ofNat (par x))) q D' := fun q D' hq => hq.congr (fun a a1 a2 => by
      show aI (uA M2 2035 _ _) a = _
      rw [aI_uA' (by omega), n4 a (by omega)])
    have hne : i ≠ par x := fun e => i3 (e ▸ Anc.self)
    by_cases e : i = x
    · have hb : upD Af x D i = D := if_pos e
      rw [hb, e]
      refine ⟨g, hmo.congr (fun a a1 a2 => ?_), ?_⟩
      · have := s3 a (by omega)
        exact ⟨this.1, this.2.2.1, this.2.2.2⟩
      · rw [show 2 * x - 1 = 2 * w + 1 by omega]
        exact hst _ _ m2
    · have hb : upD Af x D i = Af i := if_neg e
      obtain ⟨c1, c2, c3⟩ := h9 i i1 i2 (fun z => z.cases.elim e i3)
      rw [hb]
      refine ⟨c1, c2.congr (fun a a1 a2 => ?_), hst _ _ (m3 _ _ (by omega) c1 c3)⟩
      have := s3 a (by omega)
      exact ⟨this.1, this.2.2.1, this.2.2.2⟩
  · have key : ∀ D', SM M2 D' → SM (uI (uA M2 2035 (par x) (Int32.ofNat x)) 2017 32 (Int32.ofNat (par x))) D' := fun D' h => h.congr (by rw [fI_uI, if_pos rfl, if_neg (by decide)]; rfl) (by rw [fI_uI, if_pos rfl, if_neg (by decide)]; rfl) (aI_uA' (by decide)) (aI_uA' (by decide)) (aI_uA' (by decide)) (aI_uA' (by decide)) (aI_uA' (by decide))
    exact key _ n2
  · obtain ⟨⟨f1, f2⟩, f3, f4, f5, f6⟩ := hf
    refine ⟨⟨f1.trans ((s3.weak (by omega)).trans (Sm.uR (by omega))), ?_⟩, fun k k1 k2 k3 k4 k5 k6 => ?_, fun a ha => ?_, ?_, ?_⟩
    · show fI S1 24 = _
      rw [(s3 24 (by omega)).1]
      exact f2
    · rw [fI_uI, if_pos rfl, if_neg k4]
      show fI M2 2017 k = _
      rw [n3 k k1 k2, m4]
      exact f3 k k1 k2 k3 k4 k5 k6
    · show aI (uA M2 2035 _ _) a = _
      rw [aI_uA' (by omega), n4 a (by omega), m5 a (by omega)]
      exact f4 a ha
    · rw [fI_uI, if_pos rfl, if_neg (by decide)]
      show fI M2 2017 33 = _
      rw [n3 33 (by decide) (by decide), m4]
      exact f5
    · rw [fI_uI, if_pos rfl, if_neg (by decide)]
      show fI M2 2017 34 = _
      rw [n3 34 (by decide) (by decide), m4]
      exact f6
  · exact s2.congr (fun a a1 a2 => ⟨rfl, rfl, rfl⟩)
  · exact (m3 300 D' (by omega) hD1 hD2).congr (fun a a1 a2 => by
      show aI (uA M2 2035 _ _) a = _
      rw [aI_uA' (by omega), n4 a (by omega)])
theorem on_step (h : HS σ0 μ0 S M (N, x, par, cho, Bf, Af) D) (hx : cho x ≠ 0) : ∃ M', (∀ l k : Nat, k < l → l < 1000 → f4_goOn_b11 1 (Int32.ofNat l) S (Int32.ofNat k) (cRf cho x) = some (.inl (uR S 24 2 (26 + 13 * cho x + 1), Int32.ofNat (k + 1), cRf cho (cho x)))) ∧ (∀ l k : Nat, k < l → l < 1000 → f12_redo_b23 (Int32.ofNat l) M (Int32.ofNat k) = some (.inl (M', Int32.ofNat (k + 1)))) ∧ HS σ0 μ0 (uR S 24 2 (26 + 13 * cho x + 1)) M' (N, cho x, par, cho, Bf, Af) (Af (cho x)) ∧ MO (uR S 24 2 (26 + 13 * cho x + 1)) (26 + 13 * cho x + 7) (Af (cho x)) ∧ ∀ D', ST M 300 D' → ST M' 300 D' := by
  obtain ⟨rh, m, g, hf⟩ := h
  have rh' := rh
  obtain ⟨⟨g1, g2, g3, g4, g5, g6, g7, g8⟩, h5, h6, h7, h8, h9, h10⟩ := rh
  obtain ⟨k1, k2, k3, k4⟩ := h6 x g2
  have hpy := k2 hx
  have hlt : x < cho x := by
    have := (h5 (cho x) (by omega) k1).1
    omega
  have hpl : ∀ i, 1 ≤ i → i ≤ N → par i < i := fun i i1 i2 => (h5 i i1 i2).1
  have hna : ¬ Anc par x (cho x) := by
    rintro ⟨k, hk⟩
    have := upw_le hpl g8 k x g2
    omega
  obtain ⟨q1, q2, q3⟩ := h9 (cho x) (by omega) k1 hna
  obtain ⟨w, hw⟩ : ∃ w, cho x = w + 1 := ⟨cho x - 1, by omega⟩
  have hA : ∃ f n hd c cu ma lf ml, Af (cho x) = (f, n, hd, c, cu, ma, lf, ml) := ⟨_, _, _, _, _, _, _, _, rfl⟩
  have hnode : ∀ i, i ≤ 150 → okr (26 + 13 * i + 1) 0 = true := fun i hi => okr_s.mpr (kc_node i (by omega))
  obtain ⟨M2, n1, n2, n3, n4, n5⟩ : ∃ M2, f12_brings (uI M 2017 32 (Int32.ofNat (cho x))) (Int32.ofNat (2 * w + 1)) = some M2 ∧ SM M2 (Af (cho x)) ∧ (∀ k, k ≠ 5 → k ≠ 6 → fI M2 2017 k = fI (uI M 2017 32 (Int32.ofNat (cho x))) 2017 k) ∧ (∀ a, a < 2018 ∨ 2022 < a → aI M2 a = aI M a) ∧ fR M2 = fR M := by
    have h300 : aI (uI M 2017 32 (Int32.ofNat (cho x))) 2022 300 = 0 := m.r300 g
    rw [show 2 * cho x - 1 = 2 * w + 1 by omega] at q3
    have q3' : ST (uI M 2017 32 (Int32.ofNat (cho x))) (2 * w + 1) (Af (cho x)) := q3.congr (fun _ _ _ => rfl)
    obtain ⟨f, n, hd, c, cu, ma, lf, ml, hD⟩ := hA
    rw [hD] at q1 q3' ⊢
    exact c12_brings q3' q1 (by omega) h300
  have hxz : ¬ Int32.ofNat (cho x) = 0 := fun z => hx ((ofNat_z0 (by omega)).mp z)
  refine ⟨M2, fun l k hk hl => ?_, fun l k hk hl => ?_, ⟨rh'.again k1 rfl ?_ (fun i hi => fR_uR' (by omega)) ?_ ?_ ?_ ?_ (fun i i1 i2 => ?_) (fun i i1 i2 i3 => ?_) (fun i i1 i2 => ?_), n2, q1, ?_⟩, ?_, fun D' hD2 => hD2.congr (fun a a1 a2 => n4 a (by omega))⟩
  · unfold f4_goOn_b11 cRf
    rw [if_neg hx, if_neg (fun z => by have := (i32_le (by omega) (by omega)).mp z; omega), if_neg (by omega), stp, fR_uR, if_pos rfl, if_pos rfl, hnode _ (by omega), gd_true, Nat.add_sub_cancel, stp, i32_succ, stp, fR_uR' (by omega)]
    congr 4
    exact (h6 (cho x) k1).2.2.1
  · unfold f12_redo_b23
    have e1 : f12_undone (Int32.ofNat (cho x)) = some (Int32.ofNat (2 * w + 1)) := by
      rw [hw]
      exact c12_undoneN (by omega)
    rw [if_neg (fun z => by have := (i32_le (by omega) (by omega)).mp z; omega), g6, inb_n (show x < 151 by omega) (by omega), gd_true, ofNat_clamp (by omega), k4, if_neg hxz, gd_true, stp, fI_uI, if_pos rfl, if_pos rfl, e1, bnd_some, n1, bnd_some, i32_succ, stp]
  · rw [fR_uR, if_pos rfl, if_pos rfl]
  · rw [n3 31 (by decide) (by decide), fI_uI, if_pos rfl, if_neg (by decide)]
  · rw [n3 32 (by decide) (by decide), fI_uI, if_pos rfl, if_pos rfl]
  · exact n4 2034 (by omega)
  · exact n4 2035 (by omega)
  · obtain ⟨c1, c2, c3⟩ := h8 i i1 i2
    exact ⟨c2.congr (fun a a1 a2 => ⟨rfl, rfl, rfl⟩), c3.congr (fun a a1 a2 => n4 a (by omega))⟩
  · have i4 : ¬ Anc par x i := fun z => i3 (Anc.up (by rw [hpy]; exact z))
    obtain ⟨c1, c2, c3⟩ := h9 i i1 i2 i4
    exact ⟨c1, c2.congr (fun a a1 a2 => ⟨rfl, rfl, rfl⟩), c3.congr (fun a a1 a2 => n4 a (by omega))⟩
  · rcases i2.cases with e | z
    · rw [e, hpy]
    · rw [hpy] at z
      exact h10 i i1 z
  · obtain ⟨⟨f1, f2⟩, f3, f4, f5, f6⟩ := hf
    refine ⟨⟨f1.trans (Sm.uR (by omega)), f2⟩, fun k k1 k2 k3 k4 k5 k6 => ?_, fun a ha => ?_, ?_, ?_⟩
    · rw [n3 k k1 k2, fI_uI, if_pos rfl, if_neg k4]
      exact f3 k k1 k2 k3 k4 k5 k6
    · rw [n4 a (by omega)]
      exact f4 a ha
    · rw [n3 33 (by decide) (by decide), fI_uI, if_pos rfl, if_neg (by decide)]
      exact f5
    · rw [n3 34 (by decide) (by decide), fI_uI, if_pos rfl, if_neg (by decide)]
      exact f6
  · exact q2.congr (fun a a1 a2 => ⟨rfl, rfl, rfl⟩)
end R
