/-! the same text, the same act: what comes of it is the same -/
def VQ (D D' : Doc) : Prop := VI D D' ∧ ∀ k, k < 16 → (lns D').1 k = (lns D).1 k
section Q
variable {σ σ1 σ2 μ1 μ2 : Sto} {L B H : Nat} {D D' D1 D2 : Doc} {T T' T1 T2 : Hst}
theorem SC.vq (v : VQ D D') (h : SC σ 1 L B H D') : SC σ 1 L B H D := by
  obtain ⟨f, n, hd, c, cu, ma, lf, ml⟩ := D
  obtain ⟨f', n', hd', c', cu', ma', lf', ml'⟩ := D'
  obtain ⟨⟨v1, v2, v3, v4, v5, v6⟩, v7⟩ := v
  subst v1 v4
  have he : ends f' n' = ends f n' := ends_congr v2 (Nat.le_refl _)
  obtain ⟨⟨u1, u2, u3, u4, u5, u6, u7, u8⟩, ⟨s2, s3, s4, s5⟩, ⟨s6, s7⟩, s8, s9⟩ := h
  rw [he] at u2 u4 u8 s5
  refine ⟨⟨u1, u2, u3, u4, u5, u6, fun k hk => by rw [u7 k hk, v2 k hk], fun j hj => ?_⟩, ⟨s2, s3, s4, fun j hj => by rw [s5 j hj, v3 j hj]⟩, ⟨s6, fun k hk => by rw [s7 k hk, v5 k hk]⟩, fun k hk => by rw [s8 k hk, v6 k hk], fun k hk => by rw [s9 k hk]; exact v7 k hk⟩
  obtain ⟨p, p1, p2, p3⟩ := u8 j hj
  exact ⟨p, p1, p2.ext p1 (fun i hi => (v2 i hi).symm), p3⟩
theorem In.vq (h : In σ D' T) (v : VQ D D') (g : GD D) : In σ D T := by
  obtain ⟨L, B, H, s, w⟩ := h.sc
  exact h.sheet Sm.rf g (SC.vq v s) w
/-- one room, one document, as far as it is seen -/
theorem In.same (h1 : In σ D T) (h2 : In σ D' T') : VQ D D' := by
  obtain ⟨L, B, H, s, w⟩ := h1.sc
  obtain ⟨L', B', H', s', w'⟩ := h2.sc
  have g := h1.gd
  have g' := h2.gd
  obtain ⟨f, n, hd, c, cu, ma, lf, ml⟩ := D
  obtain ⟨f', n', hd', c', cu', ma', lf', ml'⟩ := D'
  obtain ⟨⟨u1, u2, u3, u4, u5, u6, u7, u8⟩, ⟨s2, s3, s4, s5⟩, ⟨s6, s7⟩, s8, s9⟩ := s
  obtain ⟨⟨y1, y2, y3, y4, y5, y6, y7, y8⟩, ⟨t2, t3, t4, t5⟩, ⟨t6, t7⟩, t8, t9⟩ := s'
  have eL : L' = L := by have := u5.1; have := y5.1; omega
  have eH : H' = H := by omega
  subst eL eH
  have en : n' = n := (ofNat_eq (by omega) (by omega)).mp (y3.symm.trans u3)
  subst en
  have hf : ∀ k, k < n' → f' k = f k := fun k hk => (y7 k hk).symm.trans (u7 k hk)
  have he : ends f' n' = ends f n' := ends_congr hf (Nat.le_refl _)
  have hc := g.2.2.2.2.2.1
  have hc' := g'.2.2.2.2.2.1
  have ec : c' = c := (ofNat_eq (by omega) (by omega)).mp (t6.symm.trans s6)
  subst ec
  refine ⟨⟨rfl, hf, fun j hj => (t5 j (by omega)).symm.trans (s5 j hj), rfl, fun i hi => ?_, fun k hk => (t8 k hk).symm.trans (s8 k hk)⟩, fun k hk => (t9 k hk).symm.trans (s9 k hk)⟩
  have b1 := g.2.2.2.2.2.2.2.1 i hi
  have b2 := g'.2.2.2.2.2.2.2.1 i hi
  exact (ofNat_eq (by omega) (by omega)).mp ((t7 i hi).symm.trans (s7 i hi))
theorem VQ.trans (h : VQ D D1) (h2 : VQ D1 D2) : VQ D D2 := by
  obtain ⟨f, n, hd, c, cu, ma, lf, ml⟩ := D
  obtain ⟨f1, n1, hd1, c1, cu1, ma1, lf1, ml1⟩ := D1
  obtain ⟨f2, n2, hd2, c2, cu2, ma2, lf2, ml2⟩ := D2
  obtain ⟨⟨v1, v2, v3, v4, v5, v6⟩, v7⟩ := h
  obtain ⟨⟨w1, w2, w3, w4, w5, w6⟩, w7⟩ := h2
  subst v1 v4 w1 w4
  have he : ends f1 n2 = ends f n2 := ends_congr v2 (Nat.le_refl _)
  exact ⟨⟨rfl, fun k hk => (w2 k hk).trans (v2 k hk), fun j hj => (w3 j (by omega)).trans (v3 j hj), rfl, fun i hi => (w5 i hi).trans (v5 i hi), fun k hk => (w6 k hk).trans (v6 k hk)⟩, fun k hk => (w7 k hk).trans (v7 k hk)⟩
theorem VQ.symm (h : VQ D D1) : VQ D1 D := by
  obtain ⟨f, n, hd, c, cu, ma, lf, ml⟩ := D
  obtain ⟨f1, n1, hd1, c1, cu1, ma1, lf1, ml1⟩ := D1
  obtain ⟨⟨v1, v2, v3, v4, v5, v6⟩, v7⟩ := h
  subst v1 v4
  have he : ends f1 n1 = ends f n1 := ends_congr v2 (Nat.le_refl _)
  exact ⟨⟨rfl, fun k hk => (v2 k hk).symm, fun j hj => (v3 j (by omega)).symm, rfl, fun i hi => (v5 i hi).symm, fun k hk => (v6 k hk).symm⟩, fun k hk => (v7 k hk).symm⟩
end Q
/-- two plans that agree -/
def Agr (K : Nat) (a b l : Nat → Nat) (X : Nat → Nat → Int32) (a' b' l' : Nat → Nat) (X' : Nat → Nat → Int32) : Prop := ∀ k, k < K → a' k = a k ∧ b' k = b k ∧ l' k = l k ∧ ∀ i, i < l k → X' k i = X k i
section P
variable {f : Nat → Int32} {n K : Nat} {a b l a' b' l' : Nat → Nat} {X X' : Nat → Nat → Int32}
theorem Agr.spl (g : Agr K a b l X a' b' l' X') : ∀ k, k ≤ K → spA f K a' b' l' X' k = spA f K a b l X k := by
  have key : ∀ d, d ≤ K → spA f K a' b' l' X' (K - d) = spA f K a b l X (K - d) := by
    intro d
    induction d with
    | zero => intro _; rw [Nat.sub_zero, spA_K, spA_K]
    | succ d ih =>
      intro hd
      have hk : K - (d + 1) < K := by omega
      obtain ⟨g1, g2, g3, g4⟩ := g _ hk
      rw [spA_k hk, spA_k hk, show K - (d + 1) + 1 = K - d by omega, ih (by omega), g1, g2, g3]
      funext i
      show sp _ _ _ _ _ i = sp _ _ _ _ _ i
      unfold sp
      split
      · rfl
      · split
        · exact g4 _ (by omega)
        · rfl
  intro k hk
  have := key (K - k) (by omega)
  rw [show K - (K - k) = k by omega] at this
  exact this
theorem Agr.nn (g : Agr K a b l X a' b' l' X') : nA n K a' b' l' 0 = nA n K a b l 0 := by
  have key : ∀ d, d ≤ K → nA n K a' b' l' (K - d) = nA n K a b l (K - d) := by
    intro d
    induction d with
    | zero => intro _; rw [Nat.sub_zero, nA_K, nA_K]
    | succ d ih =>
      intro hd
      have hk : K - (d + 1) < K := by omega
      obtain ⟨g1, g2, g3, g4⟩ := g _ hk
      rw [nA_k hk, nA_k hk, show K - (d + 1) + 1 = K - d by omega, ih (by omega), g1, g2, g3]
  have := key K (Nat.le_refl _)
  rw [Nat.sub_self] at this
  exact this
theorem Agr.mv (g : Agr K a b l X a' b' l' X') {z : Int32} {p : Nat} : mvA K a' b' l' z 0 p = mvA K a b l z 0 p := by
  have key : ∀ d, d ≤ K → mvA K a' b' l' z (K - d) p = mvA K a b l z (K - d) p := by
    intro d
    induction d with
    | zero => intro _; rw [Nat.sub_zero, mvA_K, mvA_K]
    | succ d ih =>
      intro hd
      have hk : K - (d + 1) < K := by omega
      obtain ⟨g1, g2, g3, g4⟩ := g _ hk
      rw [mvA_k hk, mvA_k hk, show K - (d + 1) + 1 = K - d by omega, ih (by omega), g1, g2, g3]
  have := key K (Nat.le_refl _)
  rw [Nat.sub_self] at this
  exact this
theorem Agr.zero (g : Agr K a b l X a' b' l' X') : Agr K a b l (fun _ _ => 0) a' b' l' (fun _ _ => 0) := fun k hk => ⟨(g k hk).1, (g k hk).2.1, (g k hk).2.2.1, fun _ _ => rfl⟩
theorem OP.unq2 {S S' : Nat → Int32} {P P' : Nat → Prop} {h : Nat → Int32} {m : Nat} (e : ∀ t, P t ↔ P' t) (o : OP P h m S) (o' : OP P' h m S') : ∀ j, j < m → S' j = S j := by
  intro j hj
  by_cases z : ∃ t, P t ∧ t < m ∧ sr h t j
  · rw [(o j hj).1 z]
    obtain ⟨t, t1, t2⟩ := z
    exact (o' j hj).1 ⟨t, (e t).mp t1, t2⟩
  · rw [(o j hj).2 z]
    refine (o' j hj).2 (fun y => z ?_)
    obtain ⟨t, t1, t2⟩ := y
    exact ⟨t, (e t).mpr t1, t2⟩
theorem PD.eq {D1 D2 : Doc} {c : Nat} {hd : Nat → Int32} {cu : Nat → Nat} {ma lf ml : Nat → Int32} (v : VP n K a b) (g : Agr K a b l X a' b' l' X') (h1 : PD K a b l X (f, n, hd, c, cu, ma, lf, ml) D1) (h2 : PD K a' b' l' X' (f, n, hd, c, cu, ma, lf, ml) D2) : VQ D1 D2 := by
  obtain ⟨f1, n1, hd1, c1, cu1, ma1, lf1, ml1⟩ := D1
  obtain ⟨f2, n2, hd2, c2, cu2, ma2, lf2, ml2⟩ := D2
  obtain ⟨p1, p2, p3, p4, p5, p6, S, p7, p8⟩ := h1
  obtain ⟨q1, q2, q3, q4, q5, q6, S', q7, q8⟩ := h2
  have ef : f2 = f1 := by rw [q1, p1, g.spl 0 (Nat.zero_le _)]
  have en : n2 = n1 := by rw [q2, p2, g.nn]
  subst ef en
  have ecu : (fun i => mvA K a' b' l' 0 0 (cu i)) = fun i => mvA K a b l 0 0 (cu i) := funext (fun i => g.mv)
  rw [ecu] at q3
  obtain ⟨e1, e2⟩ := p3.uniq q3
  have eS := OP.unq2 (fun t => by
    unfold TK
    constructor
    · rintro ⟨j, j1, j2, j3, j4⟩
      exact ⟨j, j1, j2, by rw [(g j j2).1]; exact j3, by rw [(g j j2).2.1]; exact j4⟩
    · rintro ⟨j, j1, j2, j3, j4⟩
      exact ⟨j, j1, j2, by rw [← (g j j2).1]; exact j3, by rw [← (g j j2).2.1]; exact j4⟩) p7 q7
  refine ⟨⟨rfl, fun _ _ => rfl, fun j hj => ?_, e1.symm, fun i hi => (e2 i hi).symm, fun k hk => ?_⟩, fun k hk => ?_⟩
  · obtain ⟨p, u1, u2⟩ := p8 j hj
    obtain ⟨p', u1', u2'⟩ := q8 j hj
    have ep := u1'.uniq u1
    subst ep
    rw [u2, u2']
    by_cases z : p' = 0
    · rw [if_pos z, if_pos z]
    · rw [if_neg z, if_neg z, g.zero.spl 0 (Nat.zero_le _)]
      have hp : p' ≤ n2 := u1.le_iff.mpr hj
      refine v.spA_ext2 (fun i hi => ?_) 0 (Nat.zero_le _) (p' - 1) (by rw [← p2]; omega)
      unfold fl
      have := ends_mono (f := f) (show i + 1 ≤ n by omega)
      exact eS _ (by omega)
  · show ma2 k = ma1 k
    rw [q4, p4]
    show mvN' K a' b' l' (lf k) (ma k) 0 = mvN' K a b l (lf k) (ma k) 0
    unfold mvN'
    rw [g.mv]
  · show lf2 k = lf1 k
    rw [q5, p5]
end P
/-- two plans, side by side with one and the same other -/
theorem JP.agr {σ1 μ1 τ1 m1 σ2 μ2 τ2 m2 ν : Sto} {n K q w K2 q2 w2 K3 q3 : Nat} {a b l a2 b2 l2 a3 b3 l3 : Nat → Nat} {G G2 G3 : Nat → Int32} (hn : n ≤ 3000) (j1 : JP σ1 μ1 τ1 m1 n K q a b l G w) (j2 : JP σ2 μ2 τ2 m2 n K2 q2 a2 b2 l2 G2 w2) (j3 : JP σ2 ν τ2 m1 n K3 q3 a3 b3 l3 G3 w) : K2 = K ∧ Agr K a b l (fun _ => G) a2 b2 l2 (fun _ => G2) := by
  obtain ⟨⟨-, -, -, x1⟩, ⟨-, -, x2, -⟩, ⟨x3, x4, x5, -⟩, x6, x7⟩ := j1
  obtain ⟨⟨-, -, -, y1⟩, ⟨-, -, y2, -⟩, ⟨y3, y4, y5, -⟩, y6, y7⟩ := j2
  obtain ⟨⟨-, -, -, z1⟩, ⟨-, -, z2, -⟩, ⟨z3, z4, z5, -⟩, z6, z7⟩ := j3
  have e31 : K3 = K := (ofNat_eq (by omega) (by omega)).mp (z2.symm.trans x2)
  have e32 : K3 = K2 := (ofNat_eq (by omega) (by omega)).mp (z1.symm.trans y1)
  subst e31
  subst e32
  refine ⟨rfl, fun k hk => ?_⟩
  obtain ⟨u1, ⟨u2, u3, -, u4⟩, u5⟩ := x6 k hk
  obtain ⟨⟨v1, v2, -, v3⟩, -, v5⟩ := y6 k hk
  obtain ⟨⟨w1, w2', -, w3⟩, ⟨w4, w5, -, w6⟩, w7⟩ := z6 k hk
  have b1 := x5.1 k hk
  have b2 := y5.1 k hk
  have b3 := z5.1 k hk
  have el : l2 k = l k := by
    have h1 := (ofNat_eq (by omega) (by omega)).mp (v3.symm.trans w3)
    have h2 := (ofNat_eq (by omega) (by omega)).mp (w6.symm.trans u4)
    omega
  refine ⟨?_, ?_, el, fun i hi => ?_⟩
  · have h1 := (ofNat_eq (by omega) (by omega)).mp (v1.symm.trans w1)
    have h2 := (ofNat_eq (by omega) (by omega)).mp (w4.symm.trans u2)
    omega
  · have h1 := (ofNat_eq (by omega) (by omega)).mp (v2.symm.trans w2')
    have h2 := (ofNat_eq (by omega) (by omega)).mp (w5.symm.trans u3)
    omega
  · have h1 := (y7 i (by omega)).1
    have h2 := z7 i (by omega)
    have h3 := x7 i (by omega)
    show G2 i = G i
    rw [← h1, h2.1, ← h2.2.1, h3.2.1]
