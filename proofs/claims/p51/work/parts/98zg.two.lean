/-! two runs of one step -/
def One (c : Option (Int32 × Sto)) (σ : Sto) (D : Doc) (T : Hst) (K : Nat) (a b l : Nat → Nat) (X : Nat → Nat → Int32) : Prop := ∃ r σ' D' T', c = some (r, σ') ∧ (r = 0 ∨ r = 1) ∧ In σ' D' T' ∧ PF σ σ' D D' T T' r K a b l X
/-- what the first run gave, the second gives -/
def Rep (c1 c2 : Option (Int32 × Sto)) (σ2 : Sto) (D : Doc) (T2 : Hst) (p : Prop) : Prop := ∀ σ1' D1 T1', c1 = some (1, σ1') → In σ1' D1 T1' → ¬ (fI σ2 24 4 = 0 ∧ T2.1 = 150) → ∃ σ2' T2', c2 = some (1, σ2') ∧ In σ2' D1 T2' ∧ Sm osh σ2 σ2' ∧ ((T2' = T2 ∧ fI σ2' 24 3 = fI σ2 24 3 ∧ fI σ2' 24 4 = fI σ2 24 4 ∧ ¬ p) ∨ AK σ2 σ2' D T2 T2')
section R
variable {σ σ1 σ2 μ μ1 μ2 σp μp : Sto} {L B H L1 B1 H1 L2 B2 H2 : Nat} {D : Doc} {T T1 T2 : Hst} {f : Nat → Int32} {n c K q w : Nat} {hd : Nat → Int32} {cu : Nat → Nat} {ma lf ml : Nat → Int32} {a b l a2 b2 l2 : Nat → Nat} {X X2 : Nat → Nat → Int32} {G : Nat → Int32} {c1 c2 : Option (Int32 × Sto)}
theorem One.rep {p : Prop} (h1 : One c1 σ1 (f, n, hd, c, cu, ma, lf, ml) T1 K a b l X) (h2 : One c2 σ2 (f, n, hd, c, cu, ma, lf, ml) T2 K a2 b2 l2 X2) (v : VP n K a b) (ag : Agr K a b l X a2 b2 l2 X2) (g : GD (f, n, hd, c, cu, ma, lf, ml)) (hp : p → K ≠ 0) : Rep c1 c2 σ2 (f, n, hd, c, cu, ma, lf, ml) T2 p := by
  intro σ1' D1 T1' e1 i1 room
  obtain ⟨r, s', D', T', k1, k2, k3, k4⟩ := h1
  obtain ⟨r2, s2', D2', T2', j1, j2, j3, j4⟩ := h2
  rw [k1] at e1
  injection e1 with e1
  injection e1 with e1 e2
  subst e1 e2
  have v0 : VQ D1 D' := i1.same k3
  have hfit : nA n K a b l 0 ≤ 3000 ∧ ends (spA f K a b l X 0) (nA n K a b l 0) < 300 := by
    rcases k4.2.2 rfl with ⟨z, -⟩ | ⟨-, z1, z2, -⟩
    · subst z
      rw [nA_K, spA_K]
      exact ⟨g.1, g.2.1⟩
    · exact ⟨z1, z2⟩
  rcases j2 with rfl | rfl
  · obtain ⟨-, z | z | z⟩ := j4.2.1 rfl
    · exact absurd z room
    · have z : 3000 < nA n K a2 b2 l2 0 := z
      rw [ag.nn] at z
      omega
    · have z : 300 ≤ ends (spA f K a2 b2 l2 X2 0) (nA n K a2 b2 l2 0) := z
      rw [ag.nn, ag.spl 0 (Nat.zero_le _)] at z
      omega
  · refine ⟨s2', T2', j1, ?_, j4.1, ?_⟩
    · refine j3.vq ?_ i1.gd
      rcases j4.2.2 rfl with ⟨z, y1, -⟩ | ⟨z, -, -, -, y⟩
      · rcases k4.2.2 rfl with ⟨-, x1, -⟩ | ⟨z', -⟩
        · rw [y1, ← x1]
          exact v0
        · exact absurd z z'
      · rcases k4.2.2 rfl with ⟨z', -⟩ | ⟨-, -, -, -, x⟩
        · exact absurd z' z
        · exact v0.trans (PD.eq v ag x y)
    · rcases j4.2.2 rfl with ⟨z, -, y1, y2, y3⟩ | ⟨-, -, -, y, -⟩
      · exact Or.inl ⟨y1, y2, y3, fun w => hp w z⟩
      · exact Or.inr y
theorem one_of (h : Rel0 σ μ (f, n, hd, c, cu, ma, lf, ml) L B H T) (j : JP σ μ σp μp n K q a b l G w) (hs : (∀ k, k < K → b k - a k ≤ l k) ∨ ∀ k, k < K → l k ≤ b k - a k) (hl : (∀ k, k < K → ends f (b k) ≤ ends f (a k) + ends G (l k)) ∨ ∀ k, k < K → ends f (a k) + ends G (l k) ≤ ends f (b k)) : One (f11_perform σp) σ (f, n, hd, c, cu, ma, lf, ml) T K a b l (fun _ => G) := by
  obtain ⟨r, σ3, μ3, D', L', B', H', T', v1, v2, v3, v4, v5, v6, v7, v8, v9⟩ := act_of (P := RT) h j hs hl
  exact ⟨r, σ3, D', T', v1, v3, ⟨μ3, L', B', H', v4⟩, v9.2.2⟩
/-- letters put at the cursors -/
theorem one_typed (h : In σ (f, n, hd, c, cu, ma, lf, ml) T) {a1 s m : Nat} (hm : m ≤ 3000) (hs : s ≤ 12000) (h1 : s + m ≤ ln a1) (hl : ∀ i, i < m → isLt (aI σ a1 (s + i)) = true) : ∃ K a b l X, One (bnd (f11_planAtCursors σ a1 (Int32.ofNat s) (Int32.ofNat m)) f11_perform) σ (f, n, hd, c, cu, ma, lf, ml) T K a b l X ∧ (1 ≤ m → K ≠ 0) := by
  obtain ⟨μ, L, B, H, h0⟩ := h
  have hc := h0.1.2.2.2.2.2.1
  obtain ⟨r, k1, k2⟩ := c1_begin (σ := σ) (a1 := a1) (s := s) (m := m) (x := Int32.ofNat s) (y := Int32.ofNat m) rfl rfl hs (by omega) h1 hl
  have j : JP σ μ _ _ n 0 0 (fun _ => 0) (fun _ => 0) (fun _ => 0) (fun i => aI σ a1 (s + i)) m := JP.zero (r := r) (r' := fun i => aI σ a1 (s + i)) (m := m) (Nat.le_refl _) hm (fun i hi => ⟨k2 i hi, rfl, hl i hi⟩)
  obtain ⟨K, q, a, b, l, σ2, μ2, p1, p2, p3, p4, p5, p6⟩ := plan_cursorsK h0.1 h0.2.1 h0.2.2.1 j (a1 := a1) (x2 := Int32.ofNat s) (x3 := Int32.ofNat m) rfl (gb := fun s_10 => f12_types_b10 s_10.1 s_10.2) (fun _ _ => rfl)
  refine ⟨K, a, b, l, (fun _ i => aI σ a1 (s + i)), ?_, fun z => by rw [p6 (by omega)]; omega⟩
  have e : f11_planAtCursors σ a1 (Int32.ofNat s) (Int32.ofNat m) = some σ2 := by
    unfold f11_planAtCursors
    rw [k1, bnd_some, stp, p1]
  rw [e, bnd_some]
  exact one_of h0 p3 (ins_s p4) (ins_l p4)
theorem rep_typed (h1 : In σ1 (f, n, hd, c, cu, ma, lf, ml) T1) (h2 : In σ2 (f, n, hd, c, cu, ma, lf, ml) T2) {r1 s1 r2 s2 m : Nat} (hm : m ≤ 3000) (hs1 : s1 ≤ 12000) (hs2 : s2 ≤ 12000) (b1 : s1 + m ≤ ln r1) (b2 : s2 + m ≤ ln r2) {g : Nat → Int32} (hl1 : ∀ i, i < m → aI σ1 r1 (s1 + i) = g i ∧ isLt (g i) = true) (hl2 : ∀ i, i < m → aI σ2 r2 (s2 + i) = g i) : Rep (bnd (f11_planAtCursors σ1 r1 (Int32.ofNat s1) (Int32.ofNat m)) f11_perform) (bnd (f11_planAtCursors σ2 r2 (Int32.ofNat s2) (Int32.ofNat m)) f11_perform) σ2 (f, n, hd, c, cu, ma, lf, ml) T2 (1 ≤ m) := by
  obtain ⟨μ1, L1, B1, H1, h1⟩ := h1
  obtain ⟨μ2, L2, B2, H2, h2⟩ := h2
  have hc := h1.1.2.2.2.2.2.1
  obtain ⟨u1, k1, k1'⟩ := c1_begin (σ := σ1) (a1 := r1) (s := s1) (m := m) (x := Int32.ofNat s1) (y := Int32.ofNat m) rfl rfl hs1 (by omega) b1 (fun i hi => by rw [(hl1 i hi).1]; exact (hl1 i hi).2)
  obtain ⟨u2, k2, k2'⟩ := c1_begin (σ := σ2) (a1 := r2) (s := s2) (m := m) (x := Int32.ofNat s2) (y := Int32.ofNat m) rfl rfl hs2 (by omega) b2 (fun i hi => by rw [hl2 i hi]; exact (hl1 i hi).2)
  have j1 : JP σ1 μ1 (uI (rA (uI (uI σ1 13 4 0) 13 6 0) 19 u1) 18 1 (Int32.ofNat m)) (uI (rA (uI μ1 2017 27 0) 2033 g) 2017 28 (Int32.ofNat m)) n 0 0 (fun _ => 0) (fun _ => 0) (fun _ => 0) g m := JP.zero (Nat.le_refl _) hm (fun i hi => ⟨by rw [k1' i hi, (hl1 i hi).1], rfl, (hl1 i hi).2⟩)
  have j2 : JP σ2 μ2 (uI (rA (uI (uI σ2 13 4 0) 13 6 0) 19 u2) 18 1 (Int32.ofNat m)) (uI (rA (uI μ2 2017 27 0) 2033 g) 2017 28 (Int32.ofNat m)) n 0 0 (fun _ => 0) (fun _ => 0) (fun _ => 0) g m := JP.zero (Nat.le_refl _) hm (fun i hi => ⟨by rw [k2' i hi, hl2 i hi], rfl, (hl1 i hi).2⟩)
  have j3 : JP σ2 μ1 (uI (rA (uI (uI σ2 13 4 0) 13 6 0) 19 u2) 18 1 (Int32.ofNat m)) (uI (rA (uI μ1 2017 27 0) 2033 g) 2017 28 (Int32.ofNat m)) n 0 0 (fun _ => 0) (fun _ => 0) (fun _ => 0) g m := JP.zero (Nat.le_refl _) hm (fun i hi => ⟨by rw [k2' i hi, hl2 i hi], rfl, (hl1 i hi).2⟩)
  obtain ⟨K, q, a, b, l, σp, μp, p1, p2, p3, p4, p5, p6⟩ := plan_cursorsK h1.1 h1.2.1 h1.2.2.1 j1 (a1 := r1) (x2 := Int32.ofNat s1) (x3 := Int32.ofNat m) rfl (gb := fun s_10 => f12_types_b10 s_10.1 s_10.2) (fun _ _ => rfl)
  obtain ⟨K2, q2, a2, b2', l2, σp2, μp2, o1, o2, o3, o4, o5, o6⟩ := plan_cursorsK h2.1 h2.2.1 h2.2.2.1 j2 (a1 := r2) (x2 := Int32.ofNat s2) (x3 := Int32.ofNat m) rfl (gb := fun s_10 => f12_types_b10 s_10.1 s_10.2) (fun _ _ => rfl)
  obtain ⟨K3, q3, a3, b3, l3, σp3, μp3, t1, t2, t3, t4, t5, t6⟩ := plan_cursorsK h1.1 h2.2.1 h1.2.2.1 j3 (a1 := r2) (x2 := Int32.ofNat s2) (x3 := Int32.ofNat m) rfl (gb := fun s_10 => f12_types_b10 s_10.1 s_10.2) (fun _ _ => rfl)
  have e1 : μp3 = μp := Option.some.inj (t2.symm.trans p2)
  have e2 : σp3 = σp2 := Option.some.inj (t1.symm.trans o1)
  subst e1 e2
  obtain ⟨eK, ag⟩ := JP.agr h1.1.1 p3 o3 t3
  subst eK
  have c1 : f11_planAtCursors σ1 r1 (Int32.ofNat s1) (Int32.ofNat m) = some σp := by
    unfold f11_planAtCursors
    rw [k1, bnd_some, stp, p1]
  have c2 : f11_planAtCursors σ2 r2 (Int32.ofNat s2) (Int32.ofNat m) = some σp3 := by
    unfold f11_planAtCursors
    rw [k2, bnd_some, stp, o1]
  rw [c1, c2, bnd_some, bnd_some]
  exact One.rep (one_of h1 p3 (ins_s p4) (ins_l p4)) (one_of h2 o3 (ins_s o4) (ins_l o4)) p3.2.2.1.2.2.1 ag h1.1 (fun z => by rw [p6 (by omega)]; omega)
theorem era_s (p4 : ∀ k, k < K → l k = 0) : (∀ k, k < K → b k - a k ≤ l k) ∨ ∀ k, k < K → l k ≤ b k - a k := Or.inr (fun k hk => by rw [p4 k hk]; omega)
theorem era_l (v : VP n K a b) (p4 : ∀ k, k < K → l k = 0) : (∀ k, k < K → ends f (b k) ≤ ends f (a k) + ends G (l k)) ∨ ∀ k, k < K → ends f (a k) + ends G (l k) ≤ ends f (b k) := Or.inr (fun k hk => by
  rw [p4 k hk]
  have := ends_mono (f := f) (v.1 k hk).1
  show ends f (a k) + 0 ≤ _
  omega)
theorem rep_erased (h1 : In σ1 (f, n, hd, c, cu, ma, lf, ml) T1) (h2 : In σ2 (f, n, hd, c, cu, ma, lf, ml) T2) {x : Int32} (hx0 : -100 ≤ x) (hx1 : x ≤ 100) : Rep (bnd (f11_planErasing σ1 x) f11_perform) (bnd (f11_planErasing σ2 x) f11_perform) σ2 (f, n, hd, c, cu, ma, lf, ml) T2 False := by
  obtain ⟨μ1, L1, B1, H1, h1⟩ := h1
  obtain ⟨μ2, L2, B2, H2, h2⟩ := h2
  obtain ⟨u1, k1, k1'⟩ := c1_begin (σ := σ1) (a1 := 9) (s := 0) (m := 0) (x := 0) (y := 0) rfl rfl (by omega) (by omega) (by omega) (fun i hi => by omega)
  obtain ⟨u2, k2, k2'⟩ := c1_begin (σ := σ2) (a1 := 9) (s := 0) (m := 0) (x := 0) (y := 0) rfl rfl (by omega) (by omega) (by omega) (fun i hi => by omega)
  have j1 : JP σ1 μ1 (uI (rA (uI (uI σ1 13 4 0) 13 6 0) 19 u1) 18 1 (Int32.ofNat 0)) (uI (uI (rA (uI μ1 2017 27 0) 2033 (fun _ => 0)) 2017 28 (Int32.ofNat 0)) 2017 42 0) n 0 0 (fun _ => 0) (fun _ => 0) (fun _ => 0) (fun _ => 0) 0 := (JP.zero (w := 0) (m := 0) (G := fun _ => 0) (by omega) (by omega) (fun i hi => by omega)).u42
  have j2 : JP σ2 μ2 (uI (rA (uI (uI σ2 13 4 0) 13 6 0) 19 u2) 18 1 (Int32.ofNat 0)) (uI (uI (rA (uI μ2 2017 27 0) 2033 (fun _ => 0)) 2017 28 (Int32.ofNat 0)) 2017 42 0) n 0 0 (fun _ => 0) (fun _ => 0) (fun _ => 0) (fun _ => 0) 0 := (JP.zero (w := 0) (m := 0) (G := fun _ => 0) (by omega) (by omega) (fun i hi => by omega)).u42
  have j3 : JP σ2 μ1 (uI (rA (uI (uI σ2 13 4 0) 13 6 0) 19 u2) 18 1 (Int32.ofNat 0)) (uI (uI (rA (uI μ1 2017 27 0) 2033 (fun _ => 0)) 2017 28 (Int32.ofNat 0)) 2017 42 0) n 0 0 (fun _ => 0) (fun _ => 0) (fun _ => 0) (fun _ => 0) 0 := (JP.zero (w := 0) (m := 0) (G := fun _ => 0) (by omega) (by omega) (fun i hi => by omega)).u42
  obtain ⟨K, q, a, b, l, σp, μp, p1, p2, p3, p4, p5⟩ := plan_erasing h1.1 h1.2.1 h1.2.2.1 j1 rfl (x := x) hx0 hx1
  obtain ⟨K2, q2, a2, b2', l2, σp2, μp2, o1, o2, o3, o4, o5⟩ := plan_erasing h2.1 h2.2.1 h2.2.2.1 j2 rfl (x := x) hx0 hx1
  obtain ⟨K3, q3, a3, b3, l3, σp3, μp3, t1, t2, t3, t4, t5⟩ := plan_erasing h1.1 h2.2.1 h1.2.2.1 j3 rfl (x := x) hx0 hx1
  have e1 : μp3 = μp := Option.some.inj (t2.symm.trans p2)
  have e2 : σp3 = σp2 := Option.some.inj (t1.symm.trans o1)
  subst e1 e2
  obtain ⟨eK, ag⟩ := JP.agr h1.1.1 p3 o3 t3
  subst eK
  have c1 : f11_planErasing σ1 x = some σp := by
    unfold f11_planErasing
    rw [k1, bnd_some, stp, stp, p1]
  have c2 : f11_planErasing σ2 x = some σp3 := by
    unfold f11_planErasing
    rw [k2, bnd_some, stp, stp, o1]
  rw [c1, c2, bnd_some, bnd_some]
  exact One.rep (one_of h1 p3 (era_s p4) (era_l p3.2.2.1.2.2.1 p4)) (one_of h2 o3 (era_s o4) (era_l o3.2.2.1.2.2.1 o4)) p3.2.2.1.2.2.1 ag h1.1 (fun z => z.elim)
/-- the cursors moved, in both -/
theorem rep_moved (h1 : In σ1 (f, n, hd, c, cu, ma, lf, ml) T1) (h2 : In σ2 (f, n, hd, c, cu, ma, lf, ml) T2) (h0 : fI σ2 0 10 = fI σ1 0 10) {y x : Int32} (hy : 0 ≤ y ∧ y ≤ 4) (hx : -50 ≤ x ∧ x ≤ 50) {σ1' : Sto} {D1 : Doc} {T1' : Hst} (e1 : f11_moveAll σ1 y x = some σ1') (i1 : In σ1' D1 T1') : ∃ σ2', f11_moveAll σ2 y x = some σ2' ∧ In σ2' D1 T2 ∧ Sm nsh σ2 σ2' := by
  obtain ⟨s1, h', q, d, gg, t, a1, a2, a3, a4, a5, a6, a7, a8⟩ := q_moveAll h1 hy hx
  obtain ⟨s2, h'', q', d', gg', t', b1, b2, b3, b4, b5, b6, b7, b8⟩ := q_moveAll h2 hy hx
  rw [a1] at e1
  have e1 := Option.some.inj e1
  subst e1
  have v0 := i1.same a2
  obtain ⟨μ1, L1, B1, H1, r1⟩ := h1
  obtain ⟨⟨tt, t1, t8, ht, hu⟩, -⟩ := r1.2.2.2.2.2.2.2.1
  have g := r1.1
  have hn := g.1
  have et : Int32.ofNat t' = Int32.ofNat t := by rw [← b6, h0, a6]
  have hFM : ∀ t0, Int32.ofNat t0 = Int32.ofNat t → FM μ1 f n hd t0 := fun t0 e => ⟨r1.2.2.1.1, r1.2.2.1.2.1, by rw [hu, ← ht, a6, e]⟩
  have hgg : ∀ p, p ≤ n → gg' p = gg p := fun p hp => by
    have u1 := a8 p hp μ1 (hFM t rfl)
    have u2 := b8 p hp μ1 (hFM t' et)
    rw [u1] at u2
    have := Option.some.inj u2
    have w1 := a7 p hp
    have w2 := b7 p hp
    exact ((ofNat_eq (by omega) (by omega)).mp this).symm
  have hcu := g.2.2.2.2.2.2.2.1
  have b4' : isCu c (fun i => gg (cu i)) q' d' := by
    refine ⟨b4.1, b4.2.1, b4.2.2.1, fun z => ?_⟩
    rw [b4.2.2.2 z]
    constructor
    · rintro ⟨i, i1, i2⟩
      exact ⟨i, i1, by rw [← i2]; exact (hgg _ (hcu i i1)).symm⟩
    · rintro ⟨i, i1, i2⟩
      exact ⟨i, i1, by rw [← i2]; exact hgg _ (hcu i i1)⟩
  obtain ⟨eq, ed⟩ := a4.uniq b4'
  subst eq
  have gd2 := a2.gd
  have hdn := gd2.2.2.2.2.2.2.2.1
  have eh : ∀ k, k < ends f n + 1 → h'' k = h' k := isOps.uniq b5 a5 (fun i hi => by
    have e := ed i hi
    have := ends_mono (f := f) (hdn i hi)
    refine ⟨?_, ?_⟩
    · show ends f (d' i) < _
      rw [← e]
      omega
    · show ends f (d i) = ends f (d' i)
      rw [e])
  refine ⟨s2, b1, b2.vq (v0.trans ⟨⟨rfl, fun _ _ => rfl, fun j hj => eh j (by omega), rfl, fun i hi => (ed i hi).symm, fun _ _ => rfl⟩, fun _ _ => rfl⟩) i1.gd, b3⟩
end R
