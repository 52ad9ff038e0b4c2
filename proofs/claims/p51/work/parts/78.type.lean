/-! planning at the cursors; typing -/
/-- two loops side by side -/
theorem loop2 {S R S' R' : Type} {f : S → Option (S ⊕ R)} {g : S' → Option (S' ⊕ R')} {Q : R → R' → Prop} (N : Nat) (I : Nat → S → S' → Prop) (hs : ∀ k s s', k ≤ N → I k s s' → (∃ t t', f s = some (.inl t) ∧ g s' = some (.inl t') ∧ k + 1 ≤ N ∧ I (k + 1) t t') ∨ ∃ r r', f s = some (.inr r) ∧ g s' = some (.inr r') ∧ Q r r') : ∀ {n m : Nat} {s : S} {s' : S'} (k : Nat), I k s s' → k ≤ N → N - k < n → N - k < m → ∃ r r', loopF f n s = some r ∧ loopF g m s' = some r' ∧ Q r r' := by
  intro n
  induction n with
  | zero => intro m s s' k _ _ h; omega
  | succ n ih =>
    intro m s s' k hI hk hn hm
    cases m with
    | zero => omega
    | succ m =>
      rcases hs k s s' hk hI with ⟨t, t', h1, h2, h3, h4⟩ | ⟨r, r', h1, h2, h3⟩
      · unfold loopF
        rw [h1, h2]
        exact ih (k + 1) h4 h3 (by omega) (by omega)
      · unfold loopF
        rw [h1, h2]
        exact ⟨r, r', rfl, rfl, h3⟩
/-- a sum -/
def sg (h : Nat → Nat) : Nat → Nat
  | 0 => 0
  | k + 1 => sg h k + h k
theorem sg_ext {h h' : Nat → Nat} : ∀ {K : Nat}, (∀ k, k < K → h k = h' k) → sg h K = sg h' K := by
  intro K
  induction K with
  | zero => intro _; rfl
  | succ K ih =>
    intro e
    show sg h K + h K = sg h' K + h' K
    rw [ih (fun k hk => e k (by omega)), e K (by omega)]
theorem VP.sum {n K : Nat} {a b l : Nat → Nat} (v : VP n K a b) : nA n K a b l 0 + sg (fun k => b k - a k) K = n + sg l K := by
  have key : ∀ d, d ≤ K → nA n K a b l (K - d) + sg (fun k => b k - a k) K + sg l (K - d) = n + sg l K + sg (fun k => b k - a k) (K - d) := by
    intro d
    induction d with
    | zero =>
      intro _
      rw [Nat.sub_zero, nA_K]
      omega
    | succ d ih =>
      intro hd
      have h1 := ih (by omega)
      have hk : K - (d + 1) < K := by omega
      have h2 := (v.nA_ge (l := l) (K - (d + 1)) (by omega) hk).2
      have h3 := v.1 _ hk
      have e : K - d = K - (d + 1) + 1 := by omega
      rw [e] at h1
      rw [nA_k hk]
      generalize K - (d + 1) = j at h1 h2 h3
      have e2 : sg l (j + 1) = sg l j + l j := rfl
      have e3 : sg (fun k => b k - a k) (j + 1) = sg (fun k => b k - a k) j + (b j - a j) := rfl
      rw [e2, e3] at h1
      omega
  have := key K (Nat.le_refl _)
  rw [Nat.sub_self] at this
  have e2 : sg l 0 = 0 := rfl
  have e3 : sg (fun k => b k - a k) 0 = 0 := rfl
  rw [e2, e3] at this
  omega
section R
variable {σ μ σ1 μ1 : Sto} {L B H : Nat} {f : Nat → Int32} {n c K q w : Nat} {hd : Nat → Int32} {cu : Nat → Nat} {ma lf ml : Nat → Int32} {T : Hst} {a b l : Nat → Nat} {G : Nat → Int32}
theorem JP.frC (j : JP σ μ σ1 μ1 n K q a b l G w) (s : SC σ 1 L B H (f, n, hd, c, cu, ma, lf, ml)) (m : SM μ (f, n, hd, c, cu, ma, lf, ml)) : fI σ1 1 6 = Int32.ofNat c ∧ fI μ1 2017 6 = Int32.ofNat c ∧ fI σ1 1 1 = Int32.ofNat n ∧ fI μ1 2017 5 = Int32.ofNat n ∧ ∀ i, i < c → aI σ1 5 i = Int32.ofNat (cu i) ∧ aI μ1 2019 i = Int32.ofNat (cu i) := by
  obtain ⟨⟨j1, j2, j3, j4⟩, ⟨j5, j6, j7, j8⟩, _⟩ := j
  rw [(j1 1 (by omega)).1, (j1 5 (by omega)).2.2.1, j5 6 (by decide) (by decide) (by decide), j5 5 (by decide) (by decide) (by decide), j6 2019 (by omega) (by omega)]
  exact ⟨s.2.2.1.1, m.2.2.1.1, s.1.2.2.1, m.1.2.1, fun i hi => ⟨s.2.2.1.2 i hi, m.2.2.1.2 i hi⟩⟩
/-- what planning leaves -/
def plk (σ1 μ1 σ2 μ2 : Sto) : Prop := fI μ2 2017 42 = fI μ1 2017 42 ∧ aI μ2 2043 = aI μ1 2043 ∧ fI σ2 18 = fI σ1 18 ∧ aI σ2 19 = aI σ1 19
theorem plk.rf : plk σ μ σ μ := ⟨rfl, rfl, rfl, rfl⟩
theorem plk.trans {σ2 μ2 : Sto} (h : plk σ μ σ1 μ1) (h2 : plk σ1 μ1 σ2 μ2) : plk σ μ σ2 μ2 := ⟨h2.1.trans h.1, h2.2.1.trans h.2.1, h2.2.2.1.trans h.2.2.1, h2.2.2.2.trans h.2.2.2⟩
theorem plan_cursors (g : GD (f, n, hd, c, cu, ma, lf, ml)) (s : SC σ 1 L B H (f, n, hd, c, cu, ma, lf, ml)) (m : SM μ (f, n, hd, c, cu, ma, lf, ml)) (j : JP σ μ σ1 μ1 n 0 0 a b l G w) {a1 : Nat} {x2 x3 : Int32} (hx : x3 = Int32.ofNat w) {gb : Sto × Int32 → Option ((Sto × Int32) ⊕ Sto)} (hgb : ∀ M k, gb (M, k) = f12_types_b10 M k) : ∃ K q a b l σ2 μ2, f11_planAtCursors_j13 a1 x2 x3 σ1 0 = some σ2 ∧ loopF gb FU (μ1, 0) = some μ2 ∧ JP σ μ σ2 μ2 n K q a b l G w ∧ (∀ k, k < K → a k = b k ∧ l k = w) ∧ plk σ1 μ1 σ2 μ2 := by
  have hc := g.2.2.2.2.2.1
  have hn := g.1
  have hcu := g.2.2.2.2.2.2.2.1
  have hsc := g.2.2.2.2.2.2.1
  have key : ∃ r r', loopF (fun s_13 => f11_planAtCursors_b13 a1 x2 x3 s_13.1 s_13.2) FU (σ1, 0) = some r ∧ loopF gb FU (μ1, 0) = some r' ∧ ∃ K q a b l, JP σ μ r r' n K q a b l G w ∧ (∀ k, k < K → a k = b k ∧ l k = w) ∧ plk σ1 μ1 r r' := by
    refine loop2 c (fun k s s' => s.2 = Int32.ofNat k ∧ s'.2 = Int32.ofNat k ∧ ∃ K q a b l, JP σ μ s.1 s'.1 n K q a b l G w ∧ K ≤ k ∧ (∀ i, k ≤ i → i < c → q ≤ cu i) ∧ (∀ k, k < K → a k = b k ∧ l k = w) ∧ plk σ1 μ1 s.1 s'.1) ?_ 0 ⟨rfl, rfl, 0, 0, a, b, l, j, Nat.le_refl _, fun _ _ _ => Nat.zero_le _, fun k hk => by omega, plk.rf⟩ (by omega) (by (show _ < FU; unfold FU; omega)) (by (show _ < FU; unfold FU; omega))
    rintro k ⟨S, y⟩ ⟨M, z⟩ hk ⟨e1, e2, K, q, a, b, l, j, hK, hq, hl, hp⟩
    have e1 : y = Int32.ofNat k := e1
    have e2 : z = Int32.ofNat k := e2
    subst e1 e2
    have j : JP σ μ S M n K q a b l G w := j
    have hp : plk σ1 μ1 S M := hp
    obtain ⟨f1, f2, f3, f4, f5⟩ := j.frC s m
    rw [hgb]
    unfold f11_planAtCursors_b13 f12_types_b10
    have e8 : fI M 2017 28 = Int32.ofNat w := j.2.1.2.2.2
    simp only [f1, f2, i32_le (show c < 2147483648 by omega) (show k < 2147483648 by omega), ofNat_clamp (show k < 2147483648 by omega)]
    by_cases hq2 : c ≤ k
    · rw [if_pos hq2, if_pos hq2]
      exact Or.inr ⟨_, _, rfl, rfl, K, q, a, b, l, j, hl, hp⟩
    · rw [if_neg hq2, if_neg hq2, inb_n (show k < 8 by omega) (by omega), gd_true, gd_true, gd_true, (f5 k (by omega)).1, (f5 k (by omega)).2, stp, hx, e8]
      obtain ⟨S', M', a', b', l', k1, k2, k3, k4, k5, k6, k7, k8, k9⟩ := j.add (p := cu k) (r := cu k) (e := w) (by omega) (hq k (Nat.le_refl _) (by omega)) (Nat.le_refl _) (hcu k (by omega)) hn (Nat.le_refl _)
      rw [k1, k2, bnd_some, bnd_some, i32_succ]
      refine Or.inl ⟨_, _, rfl, rfl, by omega, rfl, rfl, _, _, a', b', l', k3, ?_, fun i h1 h2 => ?_, fun i hi => ?_, hp.trans ⟨k6, k7, k8, k9⟩⟩
      · unfold nxK
        split <;> omega
      · exact Nat.le_of_lt (hsc k i (by omega) h2)
      · by_cases e : i < K
        · obtain ⟨y1, y2, y3⟩ := k4 i e
          rw [y1, y2, y3]
          exact hl i e
        · have e3 : K < nxK K (cu k) (cu k) w ∧ i = K := by
            unfold nxK at hi ⊢
            split at hi <;> rename_i z
            · omega
            · rw [if_neg z]
              omega
          obtain ⟨y1, y2, y3⟩ := k5 e3.1
          rw [e3.2, y1, y2, y3]
          exact ⟨rfl, rfl⟩
  obtain ⟨r, r', k1, k2, K, q, a, b, l, k3, k4, k5⟩ := key
  refine ⟨K, q, a, b, l, r, r', ?_, k2, k3, k4, k5⟩
  unfold f11_planAtCursors_j13
  rw [k1, bnd_some]
theorem ins_s (h : ∀ k, k < K → a k = b k ∧ l k = w) : (∀ k, k < K → b k - a k ≤ l k) ∨ ∀ k, k < K → l k ≤ b k - a k := Or.inl (fun k hk => by have := h k hk; omega)
theorem ins_l (h : ∀ k, k < K → a k = b k ∧ l k = w) : (∀ k, k < K → ends f (b k) ≤ ends f (a k) + ends G (l k)) ∨ ∀ k, k < K → ends f (a k) + ends G (l k) ≤ ends f (b k) := Or.inl (fun k hk => by rw [(h k hk).1]; omega)
theorem isB_r {r : Int32} (h : r = 0 ∨ r = 1) : isB r = true := isB_iff.mpr h
theorem RelT.RT0 (h : RelT RT σ μ (f, n, hd, c, cu, ma, lf, ml) L B H T) : Rel0 σ μ (f, n, hd, c, cu, ma, lf, ml) L B H T := h
theorem op_type {o : Int64} (h : Rel σ μ) : stH (f11_type σ) [(3, 1)] o (f12_type μ) RQ := by
  obtain ⟨⟨f, n, hd, c, cu, ma, lf, ml⟩, L, B, H, T, h0⟩ := id h
  obtain ⟨tn, σ1, μ1, G, t1, t2, t3, k1, k2, k3, j⟩ := JP.tape h0
  obtain ⟨K, q, a, b, l, σ2, μ2, p1, p2, p3, p4, p5⟩ := plan_cursors h0.1 h0.2.1 h0.2.2.1 j (a1 := 9) (x2 := 0) (x3 := fI σ 8 1) t2 (gb := fun s_10 => f12_types_b10 s_10.1 s_10.2) (fun _ _ => rfl)
  obtain ⟨r, σ3, μ3, D', L', B', H', T', v1, v2, v3, v4, v5, v6, v7, v8, v9⟩ := act_of (P := RT) h0 p3 (ins_s p4) (ins_l p4)
  have v4 : Rel0 σ3 μ3 D' L' B' H' T' := v4
  have eC : f11_planAtCursors σ 9 0 (fI σ 8 1) = some σ2 := by
    unfold f11_planAtCursors
    rw [k1, bnd_some, stp, p1]
  have eM : f12_types μ = some (r, μ3) := by
    unfold f12_types f12_types_j10
    rw [k2, bnd_some, k3, bnd_some, stp, p2, bnd_some, v2, bnd_some, isB_r v3, gd_true]
  unfold f11_type f12_type
  rw [eC, bnd_some, v1, bnd_some, eM, bnd_some]
  rcases v3 with rfl | rfl
  · rw [if_pos rfl, if_pos rfl, c12_refuse, bnd_some]
    exact stH_er (c := 3) (t := 1) rfl (by decide) (by decide) rfl ⟨_, _, _, _, _, v4⟩
  · rw [if_neg (show ¬ (1 : Int32) = 0 by decide), if_neg (show ¬ (1 : Int32) = 0 by decide)]
    obtain ⟨σ4, μ4, a1, a2, a3⟩ := addTyped v4
    simp only [a1, a2, bnd_some, c12_told]
    obtain ⟨f', n', hd', c', cu', ma', lf', ml'⟩ := D'
    have eS : fI σ4 1 1 = Int32.ofNat n' := a3.2.1.1.2.2.1
    have eT : fI μ4 2017 5 = Int32.ofNat n' := a3.2.2.1.1.2.1
    rw [eS, eT]
    exact stH_ok rfl rfl ⟨_, _, _, _, _, a3⟩
end R
