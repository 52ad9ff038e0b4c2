/-! lines moved in: the call -/
section R
variable {σ μ σ1 μ1 : Sto} {L B H : Nat} {f : Nat → Int32} {n c K q w : Nat} {hd : Nat → Int32} {cu : Nat → Nat} {ma lf ml : Nat → Int32} {T : Hst} {a b l : Nat → Nat} {G : Nat → Int32} {o : Int64}
theorem indents (j : JP σ μ σ1 μ1 n 0 0 a b l G w) (hC : CT σ 1 L B f n) (hL : (L = 2 ∧ B = 3 ∧ H = 4) ∨ (L = 20 ∧ B = 21 ∧ H = 22)) (hM : MT μ f n) {bf ef : Nat → Nat} (hbe : isLn f n bf ef) {lo hi : Nat} (hlh : lo ≤ hi) (hhi : hi ≤ ends f n) {y : Int32} (hy : y ≠ 0) (hy1 : -8 ≤ y) (hy2 : y ≤ 8) (hw : imax y 0 = Int32.ofNat w) {x1 z1 : Int32} : ∃ K q a b l σ2 μ2, loopF (fun s_58 => f11_indent_b58 x1 (Int32.ofNat hi) y s_58.1 s_58.2) FU (σ1, Int32.ofNat lo) = some σ2 ∧ loopF (fun s_76 => f12_indent_b76 z1 (Int32.ofNat hi) y s_76.1 s_76.2) FU (μ1, Int32.ofNat lo) = some μ2 ∧ JP σ μ σ2 μ2 n K q a b l G w ∧ ((∀ k, k < K → a k = b k ∧ l k = w) ∨ ∀ k, k < K → l k = 0) := by
  have hn := hC.1
  have hE := hC.2.1
  have key : ∃ r r', loopF (fun s_58 => f11_indent_b58 x1 (Int32.ofNat hi) y s_58.1 s_58.2) FU (σ1, Int32.ofNat (lo + 0)) = some r ∧ loopF (fun s_76 => f12_indent_b76 z1 (Int32.ofNat hi) y s_76.1 s_76.2) FU (μ1, Int32.ofNat (lo + 0)) = some r' ∧ ∃ K q a b l, JP σ μ r r' n K q a b l G w ∧ ((0 < y → ∀ k, k < K → a k = b k ∧ l k = w) ∧ (y < 0 → ∀ k, k < K → l k = 0)) := by
    refine loop2 (hi + 1 - lo) (fun k s s' => ∃ S M K q a b l, s = (S, Int32.ofNat (lo + k)) ∧ s' = (M, Int32.ofNat (lo + k)) ∧ JP σ μ S M n K q a b l G w ∧ K ≤ k ∧ (∀ i, lo + k ≤ i → i ≤ hi → q ≤ bf i) ∧ ((0 < y → ∀ k, k < K → a k = b k ∧ l k = w) ∧ (y < 0 → ∀ k, k < K → l k = 0))) ?_ 0 ⟨σ1, μ1, 0, 0, a, b, l, rfl, rfl, j, Nat.le_refl _, fun _ _ _ => Nat.zero_le _, fun _ k hk => by omega, fun _ k hk => by omega⟩ (by omega) (by (show _ < FU; unfold FU; omega)) (by (show _ < FU; unfold FU; omega))
    rintro k s s' hk ⟨S, M, K, q, a, b, l, rfl, rfl, j, hK, hq, hl1, hl2⟩
    show (∃ t t', f11_indent_b58 x1 (Int32.ofNat hi) y S (Int32.ofNat (lo + k)) = _ ∧ f12_indent_b76 z1 (Int32.ofNat hi) y M (Int32.ofNat (lo + k)) = _ ∧ _) ∨ ∃ r r', f11_indent_b58 x1 (Int32.ofNat hi) y S (Int32.ofNat (lo + k)) = _ ∧ f12_indent_b76 z1 (Int32.ofNat hi) y M (Int32.ofNat (lo + k)) = _ ∧ _
    have elt : Int32.ofNat hi < Int32.ofNat (lo + k) ↔ hi < lo + k := i32n_lt (by omega) (by omega)
    by_cases hz : hi < lo + k
    · have e1 : f11_indent_b58 x1 (Int32.ofNat hi) y S (Int32.ofNat (lo + k)) = some (.inr S) := by
        unfold f11_indent_b58
        rw [if_pos (elt.mpr hz)]
      have e2 : f12_indent_b76 z1 (Int32.ofNat hi) y M (Int32.ofNat (lo + k)) = some (.inr M) := by
        unfold f12_indent_b76
        rw [if_pos (elt.mpr hz)]
      rw [e1, e2]
      exact Or.inr ⟨_, _, rfl, rfl, K, q, a, b, l, j, hl1, hl2⟩
    · have hi2 : lo + k ≤ ends f n := by omega
      have hnext : ∀ i, lo + (k + 1) ≤ i → i ≤ hi → ef (lo + k) ≤ bf i := fun i h1 h2 => by
        have h3 := bg_next hbe (j := lo + k) (by omega)
        have h4 : bf (lo + k + 1) ≤ bf i := (hbe (lo + k + 1) (by omega)).1.le_iff.mpr (by rw [(hbe i (by omega)).1.1]; omega)
        omega
      unfold f11_indent_b58
      rw [if_neg (fun z => hz (elt.mp z))]
      rcases indent1 j hC hL hM hbe hi2 hy hy1 hy2 hw (x1 := z1) (x2 := Int32.ofNat hi) with ⟨e1, e2⟩ | ⟨p, r, e, e1, e2, e3, e4, e5, e6⟩
      · rw [if_neg (fun z => hz (elt.mp z))] at e2
        rw [e1, bnd_some, stp, i32_succ, e2]
        exact Or.inl ⟨_, _, rfl, rfl, by omega, S, M, K, q, a, b, l, rfl, rfl, j, by omega, fun i h1 h2 => hq i (by omega) h2, hl1, hl2⟩
      · rw [if_neg (fun z => hz (elt.mp z))] at e2
        have hb := hbe (lo + k) hi2
        obtain ⟨S', M', a', b', l', k1, k2, k3, k4, k5, k6⟩ := j.add (p := p) (r := r) (e := e) (by omega) (by rw [e3]; exact hq _ (Nat.le_refl _) (by omega)) e4 (by have := hb.2.1.1; omega) hn (by rcases e6 with ⟨_, _, z⟩ | ⟨_, z⟩ <;> omega)
        rw [e1, k1, bnd_some, stp, i32_succ, e2, k2, bnd_some]
        have hin : ∀ i, i < nxK K p r e → i < K ∨ (K < nxK K p r e ∧ i = K) := fun i h => by
          have := nxK_le (K := K) (p := p) (q := r) (e := e)
          omega
        refine Or.inl ⟨_, _, rfl, rfl, by omega, S', M', _, _, a', b', l', rfl, rfl, k3, Nat.le_trans nxK_le (by omega), fun i h1 h2 => Nat.le_trans e5 (hnext i h1 h2), fun h i hi => ?_, fun h i hi => ?_⟩
        · rcases e6 with ⟨_, e7, e8⟩ | ⟨e7, _⟩
          · rcases hin i hi with z | ⟨z, z2⟩
            · rw [(k4 i z).1, (k4 i z).2.1, (k4 i z).2.2]
              exact hl1 h i z
            · rw [z2, (k5 z).1, (k5 z).2.1, (k5 z).2.2]
              omega
          · grind
        · rcases e6 with ⟨e7, _⟩ | ⟨_, e7⟩
          · grind
          · rcases hin i hi with z | ⟨z, z2⟩
            · rw [(k4 i z).2.2]
              exact hl2 h i z
            · rw [z2, (k5 z).2.2]
              omega
  obtain ⟨r, r', k1, k2, K, q, a, b, l, k3, k4, k5⟩ := key
  refine ⟨K, q, a, b, l, r, r', k1, k2, k3, ?_⟩
  by_cases h0 : 0 < y
  · exact Or.inl (k4 h0)
  · exact Or.inr (k5 (by grind))
theorem del_s (h : ∀ k, k < K → l k = 0) : (∀ k, k < K → b k - a k ≤ l k) ∨ ∀ k, k < K → l k ≤ b k - a k := Or.inr (fun k hk => by rw [h k hk]; omega)
theorem del_l (v : VP n K a b) (h : ∀ k, k < K → l k = 0) : (∀ k, k < K → ends f (b k) ≤ ends f (a k) + ends G (l k)) ∨ ∀ k, k < K → ends f (a k) + ends G (l k) ≤ ends f (b k) := Or.inr (fun k hk => by
  rw [h k hk]
  have := ends_mono (f := f) (v.1 k hk).1
  show ends f (a k) + 0 ≤ _
  omega)
theorem op_indent (h : Rel σ μ) {x y z : Int32} : stH (f11_indent σ x y z) [(1, 1), (2, 2), (3, 3)] o (f12_indent μ x y z) RQ := by
  obtain ⟨⟨f, n, hd, c, cu, ma, lf, ml⟩, L, B, H, T, h0⟩ := id h
  have hC : CT σ 1 L B f n := h0.2.1.1
  have hM : MT μ f n := h0.2.2.1.1
  have hn := hC.1
  have hE := hC.2.1
  unfold f11_indent f12_indent f12_indent_j16 f12_indent_j42 f11_indent_j31
  rw [c11_requireLine hC, c12_isLine hM, c12_isLine hM, bnd_some, bnd_some]
  simp only [ite_tz, decide_eq_true_eq, c12_in, c12_refuse, bnd_some]
  by_cases hx : 0 ≤ x ∧ x ≤ Int32.ofNat (ends f n)
  · rw [if_pos hx, bndX_inl, c11_requireLine hC, if_pos hx]
    by_cases hy : 0 ≤ y ∧ y ≤ Int32.ofNat (ends f n)
    · rw [if_pos hy, bndX_inl, if_pos hy]
      by_cases hxy : y < x
      · rw [if_pos hxy, if_pos hxy]
        exact stH_er (c := 2) (t := 2) rfl (by decide) (by decide) rfl h
      rw [if_neg hxy, if_neg hxy]
      by_cases hz0 : z = 0
      · rw [if_pos hz0, if_pos hz0]
        exact stH_er (c := 2) (t := 2) rfl (by decide) (by decide) rfl h
      rw [if_neg hz0, if_neg hz0]
      by_cases hz1 : z < -8
      · rw [if_pos hz1, if_neg (by grind)]
        exact stH_er (c := 2) (t := 2) rfl (by decide) (by decide) rfl h
      rw [if_neg hz1]
      by_cases hz2 : z ≤ 8
      · rw [if_pos hz2, if_pos (by grind)]
        obtain ⟨lo, hlo, rfl⟩ := of_range hx (by omega)
        obtain ⟨hi, hhi, rfl⟩ := of_range hy (by omega)
        have hlh : lo ≤ hi := by
          rcases Nat.lt_or_ge hi lo with q | q
          · exact absurd ((i32n_lt (by omega) (by omega)).mpr q) hxy
          · exact q
        obtain ⟨w, hw, hw8⟩ : ∃ w : Nat, imax z 0 = Int32.ofNat w ∧ w ≤ 8 := by
          unfold imax
          by_cases q : z < 0
          · exact ⟨0, by rw [if_pos q]; rfl, by omega⟩
          · obtain ⟨w, w1, w2⟩ := of_range (x := z) (n := 8) ⟨by grind, by grind⟩ (by decide)
            exact ⟨w, by rw [if_neg q, w2], w1⟩
        obtain ⟨bf, ef, hbe⟩ := lines_fn f n
        obtain ⟨u, u1, u2⟩ := c1_with (σ := σ) (v := 32) (m := w) (by decide) (by omega)
        have putz : ∃ u', loopF (fun s_55 => f12_indent_b55 (Int32.ofNat lo) (Int32.ofNat hi) z s_55.1 s_55.2) FU (uI (uI μ 2017 27 0) 2017 28 0, 0) = some (uI (rA (uI μ 2017 27 0) 2033 u') 2017 28 (Int32.ofNat w)) ∧ ∀ i, i < w → u' i = 32 := by
          by_cases q : z < 0
          · refine ⟨aI (uI μ 2017 27 0) 2033, ?_, fun i hi => ?_⟩
            · have w0 : Int32.ofNat w = Int32.ofNat 0 := by
                rw [← hw]
                unfold imax
                rw [if_pos q]
                rfl
              rw [w0, ← c12_put0]
              refine loop_done ?_
              show f12_indent_b55 _ _ _ _ 0 = _
              unfold f12_indent_b55
              rw [if_pos (by grind)]
            · have w0 : Int32.ofNat w = Int32.ofNat 0 := by
                rw [← hw]
                unfold imax
                rw [if_pos q]
                rfl
              have : w = 0 := (ofNat_z0 (by omega)).mp w0
              omega
          · exact c12_putN (by omega) (by
              rw [← hw]
              unfold imax
              rw [if_neg q])
        obtain ⟨u', u3, u4⟩ := putz
        have j : JP σ μ _ _ n 0 0 (fun _ => 0) (fun _ => 0) (fun _ => 0) (fun _ => 32) w := JP.zero (w := w) (r := u) (r' := u') (m := w) (by omega) (by omega) (fun i hi => ⟨u2 i hi, u4 i hi, by decide⟩)
        obtain ⟨K, q, a, b, l, σ2, μ2, p1, p2, p3, p4⟩ := indents j hC h0.2.2.2.1.cells hM hbe hlh hhi hz0 (by grind) hz2 hw (x1 := Int32.ofNat lo) (z1 := Int32.ofNat lo)
        have hs : (∀ k, k < K → b k - a k ≤ l k) ∨ ∀ k, k < K → l k ≤ b k - a k := by
          rcases p4 with p4 | p4
          · exact ins_s p4
          · exact del_s p4
        have hl : (∀ k, k < K → ends f (b k) ≤ ends f (a k) + ends (fun _ => 32) (l k)) ∨ ∀ k, k < K → ends f (a k) + ends (fun _ => 32) (l k) ≤ ends f (b k) := by
          rcases p4 with p4 | p4
          · exact ins_l p4
          · exact del_l p3.2.2.1.2.2.1 p4
        obtain ⟨r, σ3, μ3, D', L', B', H', T', v1, v2, v3, v4, v5⟩ := act_of (P := RT) h0 p3 hs hl
        have v4 : Rel0 σ3 μ3 D' L' B' H' T' := v4
        rw [hw, u1, bnd_some, stp, c12_begins1, bnd_some, stp]
        unfold f11_indent_j58 f12_indent_j55
        rw [p1, bnd_some, stp, v1, bnd_some, u3, bnd_some, stp]
        unfold f12_indent_j76
        rw [p2, bnd_some, stp, v2, bnd_some, p3.1.2.2.2, p3.2.1.2.2.1]
        rcases v3 with rfl | rfl
        · rw [if_pos rfl, if_pos rfl, c12_refuse, bnd_some]
          exact stH_er (c := 3) (t := 3) rfl (by decide) (by decide) rfl ⟨_, _, _, _, _, v4⟩
        · rw [if_neg (show ¬ (1 : Int32) = 0 by decide), if_neg (show ¬ (1 : Int32) = 0 by decide), c12_told, bnd_some]
          exact stH_ok rfl rfl ⟨_, _, _, _, _, v4⟩
      · rw [if_neg hz2, if_neg (by grind)]
        exact stH_er (c := 2) (t := 2) rfl (by decide) (by decide) rfl h
    · rw [if_neg hy, bndX_inr, if_neg hy]
      exact stH_er (c := 1) (t := 1) rfl (by decide) (by decide) rfl h
  · rw [if_neg hx, bndX_inr, if_neg hx]
    exact stH_er (c := 1) (t := 1) rfl (by decide) (by decide) rfl h
end R
