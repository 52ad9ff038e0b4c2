/-! two runs of pasting -/
section R
variable {σ σ1 σ2 μ S M : Sto} {L B H : Nat} {f : Nat → Int32} {n c K : Nat} {hd : Nat → Int32} {cu : Nat → Nat} {ma lf ml : Nat → Int32} {T T1 T2 : Hst}
theorem one_block (h : Rel0 σ μ (f, n, hd, c, cu, ma, lf, ml) L B H T) {bf ef : Nat → Nat} (hbe : isLn f n bf ef) {r w : Nat} (q1 : ¬ fI σ 10 1 = 0) (p1 : 1 ≤ r) (p2 : r ≤ 300) (p3 : 1 ≤ w) (p4 : w ≤ 40) (p6 : fI σ 10 2 = Int32.ofNat r) (p7 : fI σ 10 3 = Int32.ofNat w) {lc0 : Nat → Int32} (hc12 : ∀ k, k < w * r → aI σ 12 k = lc0 k) : ∀ D, bqD (ends f n) n bf ef (ends f (cu 0)) (cu 0 - bf (ends f (cu 0))) w lc0 r = D → One (bnd (f11_planPasting σ) f11_perform) σ (f, n, hd, c, cu, ma, lf, ml) T D.1 D.2.1 D.2.1 D.2.2.1 (fun k i => D.2.2.2.2.2 (D.2.2.2.1 k + i)) ∧ VP n D.1 D.2.1 D.2.1 := by
  intro D hD
  have g := h.1
  have hC : CT σ 1 L B f n := h.2.1.1
  have hM : MT μ f n := h.2.2.1.1
  have hn := hC.1
  obtain ⟨cn, p5, p8, p9, r4⟩ : ∃ cn, cn = r * w ∧ fI μ 2017 13 = Int32.ofNat r ∧ fI μ 2017 14 = Int32.ofNat w ∧ ∀ k, k < cn → aI σ 12 k = aI μ 2024 k ∧ isLt (aI μ 2024 k) = true := by
    obtain ⟨cn, r1, r2, r3, r4, r5⟩ := h.2.2.2.2.2.1
    rcases r5 with ⟨z, -, -⟩ | ⟨z, r', w', a1, a2, a3, a4, a5, a6, a7, a8, a9⟩
    · exact absurd z q1
    · have er : r' = r := (ofNat_eq (by omega) (by omega)).mp (a6.symm.trans p6)
      have ew : w' = w := (ofNat_eq (by omega) (by omega)).mp (a7.symm.trans p7)
      subst er ew
      exact ⟨cn, a5, a8, a9, r4⟩
  have hMb : MT (uI (uI μ 2017 27 0) 2017 28 0) f n := hM.congr (by rw [fI_uI, if_pos rfl, if_neg (by decide)]; show fI (uI μ 2017 27 0) 2017 5 = _; rw [fI_uI, if_pos rfl, if_neg (by decide)]) rfl
  have fb : ∀ k, k ≠ 27 → k ≠ 28 → fI (uI (uI μ 2017 27 0) 2017 28 0) 2017 k = fI μ 2017 k := fun k k1 k2 => by
    rw [fI_uI, if_pos rfl, if_neg k2, fI_uI, if_pos rfl, if_neg k1]
  have hc := g.2.2.2.2.2.1
  have hcu := g.2.2.2.2.2.2.2.1 0 (by omega)
  have hE := g.2.1
  have hl0 := ends_mono (f := f) hcu
  have hcl : ∀ k, k < w * r → aI σ 12 k = lc0 k ∧ isLt (lc0 k) = true := fun k hk => by
    obtain ⟨y1, y2⟩ := r4 k (by rw [p5, Nat.mul_comm]; exact hk)
    refine ⟨hc12 k hk, ?_⟩
    rw [← hc12 k hk, y1]
    exact y2
  have hclm : ∀ k, k < w * r → aI μ 2024 k = lc0 k := fun k hk => by
    obtain ⟨y1, y2⟩ := r4 k (by rw [p5, Nat.mul_comm]; exact hk)
    rw [← y1, hc12 k hk]
  have hb := hbe _ hl0
  have hbp : bf (ends f (cu 0)) ≤ cu 0 := hb.1.le_iff.mpr (Nat.le_refl _)
  obtain ⟨S, s1, s2⟩ := c2_planBlock (σ := σ) (f := f) (n := n) (bf := bf) (ef := ef) (l0 := ends f (cu 0)) (col := cu 0 - bf (ends f (cu 0))) (w := w) (r := r) (cl := lc0) ⟨hbe, hE, hn, hl0, by omega, ⟨p1, p2, p3, p4⟩, p6, p7, hcl⟩ hC h.2.2.2.1.cells hcu (h.2.1.2.2.1.2 0 (by omega)) rfl rfl
  obtain ⟨d1, d2, d3, d4, d5⟩ := bqD_in hbe (l0 := ends f (cu 0)) (col := cu 0 - bf (ends f (cu 0))) (w := w) (r := r) (cl := lc0) (fun k hk => (hcl k hk).2) r (Nat.le_refl _)
  rw [hD] at d1 d2 d3 d4 d5 s2
  generalize hT : sg (bqL (ends f n) bf ef (ends f (cu 0)) (cu 0 - bf (ends f (cu 0))) w) r = tt at d3 s2
  have hfr : Sm (fun a => ¬ (13 ≤ a ∧ a ≤ 19)) σ S ∧ fR S = fR σ := by
    rcases s2 with h | h
    · obtain ⟨K, a, l, s, t, G⟩ := D
      exact ⟨h.1.1, h.1.2.1⟩
    · exact h.1
  obtain ⟨L', B', H', cl, al, hne⟩ := h.2.2.2.1.alt
  have hplan : ∀ M, (∀ k, k ≠ 27 → k ≠ 28 → k ≠ 42 → fI M 2017 k = fI μ 2017 k) → (∀ a, a < 2029 ∨ 2033 < a → a ≠ 2043 → aI M a = aI μ a) → RelT RT S M (f, n, hd, c, cu, ma, lf, ml) L B H T := fun M m1 m2 => RelT.plan (P := RT) h al cl hne (hfr.1.weak (fun a ha => by unfold scr at ha; omega)) hfr.2 m1 m2
  have htt : n + tt < 2147483648 := by
    have hb2 : ∀ k, bqL (ends f n) bf ef (ends f (cu 0)) (cu 0 - bf (ends f (cu 0))) w k ≤ 3041 := fun k => by
      unfold bqL bqH bqF
      split <;> omega
    have hs : ∀ r, sg (bqL (ends f n) bf ef (ends f (cu 0)) (cu 0 - bf (ends f (cu 0))) w) r ≤ r * 3041 := fun r => by
      induction r with
      | zero => exact Nat.le_refl _
      | succ r ih =>
        show sg _ r + bqL _ _ _ _ _ _ r ≤ (r + 1) * 3041
        have := hb2 r
        omega
    have := hs r
    omega
  have eS : f11_planPasting σ = some S := by
    unfold f11_planPasting f11_planPasting_j53
    rw [if_neg q1, s1, bnd_some]
  rw [eS, bnd_some]
  by_cases hfit : n + tt ≤ 3000
  · have hCS : CS σ S D := by
      rcases s2 with h | h
      · exact h
      · have := h.2.2.2
        omega
    obtain ⟨M, x1, x2⟩ := c12_rows (μ0 := uI (uI μ 2017 27 0) 2017 28 0) (f := f) (n := n) (bf := bf) (ef := ef) (l0 := ends f (cu 0)) (col := cu 0 - bf (ends f (cu 0))) (w := w) (r := r) (cl := lc0) ⟨hbe, hE, hMb, hl0, by omega, ⟨p1, p2, p3, p4⟩, by rw [fb 13 (by decide) (by decide)]; exact p8, by rw [fb 14 (by decide) (by decide)]; exact p9, fun k hk => ⟨hclm k hk, (hcl k hk).2⟩, by rw [hT]; exact hfit⟩ (by rw [fI_uI, if_pos rfl, if_neg (by decide)]; rfl) rfl
    rw [hD] at x2
    have x3 : (∀ k, k ≠ 27 → k ≠ 28 → k ≠ 42 → fI M 2017 k = fI μ 2017 k) ∧ (∀ a, a < 2029 ∨ 2033 < a → a ≠ 2043 → aI M a = aI μ a) := by
      obtain ⟨K, a, l, s, t, G⟩ := D
      exact ⟨fun k k1 k2 k3 => by rw [x2.1.1 k k1 k2 k3]; exact fb k k1 k2, fun a a1 a2 => x2.1.2.1 a a1 a2⟩
    obtain ⟨vp, hnA⟩ := d1.vp
    have h6 : fI S 13 6 = 0 := by
      obtain ⟨K, a, l, s, t, G⟩ := D
      exact hCS.1.2.2.1
    obtain ⟨r', σ3, μ3, D', L', B', H', T', v1, v2, v3, v4, v5, v6, v7, v8, v9⟩ := perform (hplan M x3.1 x3.2) (hCS.pc d1) (x2.pr d1 (by omega) (by omega)) vp h6 (mono_of vp hn hE (Or.inl (fun k hk => by omega)) (Or.inl (fun k hk => by omega)))
    have hPF := v9.2.2.pre (σ := σ) (hfr.1 24 (by omega)).1 (hfr.1.weak (fun a ha => by unfold osh at ha; omega))
    have v4 : Rel0 σ3 μ3 D' L' B' H' T' := v4
    exact ⟨⟨r', σ3, D', T', v1, v3, ⟨μ3, L', B', H', v4⟩, hPF⟩, vp⟩
  · obtain ⟨vp, hnA⟩ := d1.vp
    have hin : In S (f, n, hd, c, cu, ma, lf, ml) T := ⟨μ, L, B, H, hplan μ (fun _ _ _ _ => rfl) (fun _ _ _ => rfl)⟩
    refine ⟨⟨0, S, _, T, ?_, Or.inl rfl, hin, hfr.1.weak (fun a ha => by unfold osh at ha; omega), fun _ => ⟨⟨rfl, rfl, by rw [(hfr.1 24 (by omega)).1], by rw [(hfr.1 24 (by omega)).1]⟩, Or.inr (Or.inl ?_)⟩, fun z => absurd z (by decide)⟩, vp⟩
    rotate_left
    · show 3000 < nA n D.1 D.2.1 D.2.1 D.2.2.1 0
      rw [hnA, d3]
      omega
    rcases s2 with hcs | hfl
    · have hS := hplan μ (fun _ _ _ _ => rfl) (fun _ _ _ => rfl)
      obtain ⟨u1, ⟨u2, u3, u4, u5⟩, u6⟩ := hS.2.1
      obtain ⟨vp, hnA⟩ := d1.vp
      have h6 : fI S 13 6 = 0 ∧ fI S 13 4 = Int32.ofNat D.1 := by
        obtain ⟨K, a, l, s, t, G⟩ := D
        exact ⟨hcs.1.2.2.1, hcs.1.2.2.2.1⟩
      refine perform_no (fun z => d4 (by omega) ((ofNat_z0 (by omega)).mp (by rw [← h6.2]; exact z))) ?_
      have al' : AL S L' B' H' := by
        unfold AL
        rw [hfr.2]
        exact al
      rcases c1_build u1 cl al' hne g.2.2.1 u2 u5 g.2.2.2.2.1 (hcs.pc d1) vp h6.1 with ⟨_, b2⟩ | ⟨b1, _⟩
      · exact b2
      · omega
    · refine perform_no hfl.2.2.1 ?_
      unfold f1_build f1_build_j22
      rw [if_neg hfl.2.1]
theorem Rep.weak {c1 c2 : Option (Int32 × Sto)} {D : Doc} {p p' : Prop} (h : Rep c1 c2 σ2 D T2 p) (hp : p' → p) : Rep c1 c2 σ2 D T2 p' := by
  intro s D1 T1' e1 i1 room
  obtain ⟨s2, T2', k1, k2, k3, k4⟩ := h s D1 T1' e1 i1 room
  refine ⟨s2, T2', k1, k2, k3, ?_⟩
  rcases k4 with ⟨y1, y2, y3, y4⟩ | y
  · exact Or.inl ⟨y1, y2, y3, fun z => y4 (hp z)⟩
  · exact Or.inr y
theorem rep_pasted (h1 : In σ1 (f, n, hd, c, cu, ma, lf, ml) T1) (h2 : In σ2 (f, n, hd, c, cu, ma, lf, ml) T2) (e10 : fI σ2 10 = fI σ1 10) (e11 : fI σ2 11 = fI σ1 11) (e12 : aI σ2 12 = aI σ1 12) : Rep (bnd (f11_planPasting σ1) f11_perform) (bnd (f11_planPasting σ2) f11_perform) σ2 (f, n, hd, c, cu, ma, lf, ml) T2 False := by
  obtain ⟨μ1, L1, B1, H1, h1'⟩ := id h1
  obtain ⟨μ2, L2, B2, H2, h2'⟩ := id h2
  obtain ⟨cn, r1, r2, r3, r4, r5⟩ := h1'.2.2.2.2.2.1
  rcases r5 with ⟨z, -, z3⟩ | ⟨z, r, w, a1, a2, a3, a4, a5, a6, a7, a8, a9⟩
  · have z2 : fI σ2 10 1 = 0 := by rw [e10]; exact z
    have c1 : f11_planPasting σ1 = f11_planAtCursors σ1 12 0 (Int32.ofNat cn) := by
      unfold f11_planPasting f11_planPasting_j53
      rw [if_pos z, r2]
      generalize f11_planAtCursors σ1 12 0 (Int32.ofNat cn) = o
      cases o <;> rfl
    have c2 : f11_planPasting σ2 = f11_planAtCursors σ2 12 0 (Int32.ofNat cn) := by
      unfold f11_planPasting f11_planPasting_j53
      rw [if_pos z2, e11, r2]
      generalize f11_planAtCursors σ2 12 0 (Int32.ofNat cn) = o
      cases o <;> rfl
    have e0 : (0 : Int32) = Int32.ofNat 0 := rfl
    rw [c1, c2, e0]
    exact (rep_typed h1 h2 (r1 := 12) (r2 := 12) (s1 := 0) (s2 := 0) (m := cn) z3 (by omega) (by omega) (by show 0 + cn ≤ 12000; omega) (by show 0 + cn ≤ 12000; omega) (g := aI σ1 12) (fun i hi => ⟨by rw [Nat.zero_add], by rw [(r4 i hi).1]; exact (r4 i hi).2⟩) (fun i hi => by rw [Nat.zero_add, e12])).weak (fun y => y.elim)
  · obtain ⟨bf, ef, hbe⟩ := lines_fn f n
    have zn : ¬ fI σ1 10 1 = 0 := by rw [z]; decide
    obtain ⟨o1, v1⟩ := one_block h1' hbe zn a1 a2 a3 a4 a6 a7 (lc0 := aI σ1 12) (fun _ _ => rfl) _ rfl
    obtain ⟨o2, v2⟩ := one_block h2' hbe (by rw [e10]; exact zn) a1 a2 a3 a4 (by rw [e10]; exact a6) (by rw [e10]; exact a7) (lc0 := aI σ1 12) (fun k _ => by rw [e12]) _ rfl
    exact One.rep o1 o2 v1 (fun k hk => ⟨rfl, rfl, rfl, fun _ _ => rfl⟩) h1'.1 (fun y => y.elim)
end R
