/-! pasting once more, with what becomes of the document and of the tree -/
section R
variable {σ μ S M : Sto} {L B H : Nat} {f : Nat → Int32} {n c K : Nat} {hd : Nat → Int32} {cu : Nat → Nat} {ma lf ml : Nat → Int32} {T : Hst} {a b l : Nat → Nat} {X : Nat → Nat → Int32} {o : Int64}
/-- both sides' planning and act, whatever is said of the tapes -/
theorem pastesT {P : Int32 → (Nat → Int32) → Int32 → (Nat → Int32) → Prop} (h : RelT P σ μ (f, n, hd, c, cu, ma, lf, ml) L B H T) : ∃ r σ1 σ' μ' D' L' B' H' T', f11_planPasting σ = some σ1 ∧ f11_perform σ1 = some (r, σ') ∧ f12_pastes μ = some (r, μ') ∧ (r = 0 ∨ r = 1) ∧ RelT P σ' μ' D' L' B' H' T' ∧ Sm osh σ σ' ∧ (r = 0 → NK σ σ' (f, n, hd, c, cu, ma, lf, ml) D' T T') ∧ (r = 1 → NK σ σ' (f, n, hd, c, cu, ma, lf, ml) D' T T' ∨ (AK σ σ' (f, n, hd, c, cu, ma, lf, ml) T T' ∧ lns D' = lns (f, n, hd, c, cu, ma, lf, ml))) := by
  have g := h.1
  have hC : CT σ 1 L B f n := h.2.1.1
  have hM : MT μ f n := h.2.2.1.1
  have hn := hC.1
  obtain ⟨cn, r1, r2, r3, r4, r5⟩ := h.2.2.2.2.2.1
  have hMb : MT (uI (uI μ 2017 27 0) 2017 28 0) f n := hM.congr (by rw [fI_uI, if_pos rfl, if_neg (by decide)]; show fI (uI μ 2017 27 0) 2017 5 = _; rw [fI_uI, if_pos rfl, if_neg (by decide)]) rfl
  have fb : ∀ k, k ≠ 27 → k ≠ 28 → fI (uI (uI μ 2017 27 0) 2017 28 0) 2017 k = fI μ 2017 k := fun k k1 k2 => by
    rw [fI_uI, if_pos rfl, if_neg k2, fI_uI, if_pos rfl, if_neg k1]
  unfold f11_planPasting f11_planPasting_j53 f12_pastes
  rw [c12_begins1, bnd_some, fb 13 (by decide) (by decide), fb 12 (by decide) (by decide)]
  rcases r5 with ⟨q1, q2, q3⟩ | ⟨q1, r, w, p1, p2, p3, p4, p5, p6, p7, p8, p9⟩
  · rw [if_pos q1, if_pos (by rw [q2]; decide), r3, if_pos (show Int32.ofNat cn ≤ 3000 from (i32_le (a := cn) (b := 3000) (by omega) (by omega)).mpr q3), stp]
    obtain ⟨u, k1, k2⟩ := c1_begin (σ := σ) (a1 := 12) (s := 0) (m := cn) (x := 0) (y := fI σ 11 1) rfl r2 (by omega) q3 (by show 0 + cn ≤ 12000; omega) (fun i hi => by rw [Nat.zero_add, (r4 i hi).1]; exact (r4 i hi).2)
    obtain ⟨u', k3, k4⟩ := c12_putsClip (μ := uI μ 2017 27 0) (cn := cn) (by rw [fI_uI, if_pos rfl, if_neg (by decide)]; exact r3) q3
    have j : JP σ μ _ _ n 0 0 (fun _ => 0) (fun _ => 0) (fun _ => 0) (aI μ 2024) cn := JP.zero (w := cn) (m := cn) (r := u) (r' := u') (G := aI μ 2024) (Nat.le_refl _) q3 (fun i hi => ⟨by rw [k2 i hi, Nat.zero_add, (r4 i hi).1], k4 i hi, (r4 i hi).2⟩)
    obtain ⟨K, q, a, b, l, σ2, μ2, z1, z2, z3, z4, z5⟩ := plan_cursors g h.2.1 h.2.2.1 j (a1 := 12) (x2 := 0) (x3 := fI σ 11 1) r2 (gb := fun s_56 => f12_pastes_b56 s_56.1 s_56.2) (fun _ _ => rfl)
    obtain ⟨r, σ3, μ3, D', L', B', H', T', v1, v2, v3, v4, v5, v6, v7, v8, v9⟩ := act_of h z3 (ins_s z4) (ins_l z4)
    have eC : f11_planAtCursors σ 12 0 (fI σ 11 1) = some σ2 := by
      unfold f11_planAtCursors
      rw [k1, bnd_some, stp, z1]
    unfold f12_pastes_j30 f12_pastes_j56
    rw [eC, bnd_some, k3, bnd_some, stp, z2, bnd_some, v2, bnd_some, isB_r v3, gd_true]
    exact ⟨r, σ2, σ3, μ3, D', L', B', H', T', rfl, v1, rfl, v3, v4, v9.2.2.1, fun z => (v9.2.2.2.1 z).1, fun z => by
      rcases v9.2.2.2.2 z with ⟨-, k⟩ | ⟨-, -, -, k1, k2⟩
      · exact Or.inl k
      · exact Or.inr ⟨k1, k2.lns⟩⟩
  · rw [if_neg (by rw [q1]; decide), if_neg (by rw [p8]; exact fun z => by have := (i32_le (b := 0) (by omega) (by omega)).mp z; omega)]
    obtain ⟨bf, ef, hbe⟩ := lines_fn f n
    have hc := g.2.2.2.2.2.1
    have hcu := g.2.2.2.2.2.2.2.1 0 (by omega)
    have hE := g.2.1
    have hl0 := ends_mono (f := f) hcu
    have hcl : ∀ k, k < w * r → aI σ 12 k = aI μ 2024 k ∧ isLt (aI μ 2024 k) = true := fun k hk => r4 k (by rw [p5, Nat.mul_comm]; exact hk)
    have hb := hbe _ hl0
    have hbp : bf (ends f (cu 0)) ≤ cu 0 := hb.1.le_iff.mpr (Nat.le_refl _)
    obtain ⟨S, s1, s2⟩ := c2_planBlock (σ := σ) (f := f) (n := n) (bf := bf) (ef := ef) (l0 := ends f (cu 0)) (col := cu 0 - bf (ends f (cu 0))) (w := w) (r := r) (cl := aI μ 2024) ⟨hbe, hE, hn, hl0, by omega, ⟨p1, p2, p3, p4⟩, p6, p7, hcl⟩ hC h.2.2.2.1.cells hcu (h.2.1.2.2.1.2 0 (by omega)) rfl rfl
    obtain ⟨d1, d2, d3, d4, d5⟩ := bqD_in hbe (l0 := ends f (cu 0)) (col := cu 0 - bf (ends f (cu 0))) (w := w) (r := r) (cl := aI μ 2024) (fun k hk => (hcl k hk).2) r (Nat.le_refl _)
    generalize hD : bqD (ends f n) n bf ef (ends f (cu 0)) (cu 0 - bf (ends f (cu 0))) w (aI μ 2024) r = D at d1 d2 d3 d4 d5 s2
    generalize hT : sg (bqL (ends f n) bf ef (ends f (cu 0)) (cu 0 - bf (ends f (cu 0))) w) r = tt at d3 s2
    have hfr : Sm (fun a => ¬ (13 ≤ a ∧ a ≤ 19)) σ S ∧ fR S = fR σ := by
      rcases s2 with h | h
      · obtain ⟨K, a, l, s, t, G⟩ := D
        exact ⟨h.1.1, h.1.2.1⟩
      · exact h.1
    obtain ⟨L', B', H', cl, al, hne⟩ := h.2.2.2.1.alt
    have hplan : ∀ M, (∀ k, k ≠ 27 → k ≠ 28 → k ≠ 42 → fI M 2017 k = fI μ 2017 k) → (∀ a, a < 2029 ∨ 2033 < a → a ≠ 2043 → aI M a = aI μ a) → RelT P S M (f, n, hd, c, cu, ma, lf, ml) L B H T := fun M m1 m2 => h.plan al cl hne (hfr.1.weak (fun a ha => by unfold scr at ha; omega)) hfr.2 m1 m2
    have i0 : inb 0 8 = true := by decide
    have e0 : (0 : Int32).toNatClampNeg = 0 := by decide
    have htt : n + tt < 2147483648 := by
      have hb2 : ∀ k, bqL (ends f n) bf ef (ends f (cu 0)) (cu 0 - bf (ends f (cu 0))) w k ≤ 3041 := fun k => by
        unfold bqL bqH bqF
        split <;> omega
      have hs : ∀ r, sg (bqL (ends f n) bf ef (ends f (cu 0)) (cu 0 - bf (ends f (cu 0))) w) r ≤ r * 3041 := fun r => by
        induction r with
        | zero => exact Nat.le_refl _
        | succ r ih =>
          show sg _ r + bqL _ _ _ _ _ _ r ≤ (r + 1) * 3041
          have := hb2 r
          omega
      have := hs r
      omega
    have eBL := c12_blockLetters (w := w) hMb hE hbe (l0 := ends f (cu 0)) (col := cu 0 - bf (ends f (cu 0))) (by omega) hl0 p2 (by rw [fb 13 (by decide) (by decide)]; exact p8) (by rw [fb 14 (by decide) (by decide)]; exact p9)
    rw [hT] at eBL
    obtain ⟨m1, m2⟩ := mt_ln hMb hbe hl0
    have ePB : f12_pastesBlock (uI (uI μ 2017 27 0) 2017 28 0) = if n + tt ≤ 3000 then f12_pastesBlock_j60 (uI (uI μ 2017 27 0) 2017 28 0) (Int32.ofNat (ends f (cu 0))) (Int32.ofNat (cu 0 - bf (ends f (cu 0)))) (Int32.ofNat (ends f n + 1)) 0 (fI (uI (uI μ 2017 27 0) 2017 28 0) 2017 5) 0 else some (0, uI (uI μ 2017 27 0) 2017 28 0) := by
      have e19 : aI (uI (uI μ 2017 27 0) 2017 28 0) 2019 0 = Int32.ofNat (cu 0) := h.2.2.1.2.2.1.2 0 (by omega)
      unfold f12_pastesBlock
      rw [i0, gd_true, e0, e19, c12_lineAt hMb rfl hcu, bnd_some, stp, gd_true, m1, bnd_some, i32_sub hbp, stp, eBL, bnd_some, c12_lines hMb, bnd_some, hMb.2.1, i32_add]
      simp only [stp, show Int32.ofNat (n + tt) ≤ 3000 ↔ n + tt ≤ 3000 from i32_le (b := 3000) (by omega) (by omega)]
    rw [s1, bnd_some, ePB]
    by_cases hfit : n + tt ≤ 3000
    · rw [if_pos hfit]
      have hCS : CS σ S D := by
        rcases s2 with h | h
        · exact h
        · have := h.2.2.2
          omega
      obtain ⟨M, x1, x2⟩ := c12_rows (μ0 := uI (uI μ 2017 27 0) 2017 28 0) (f := f) (n := n) (bf := bf) (ef := ef) (l0 := ends f (cu 0)) (col := cu 0 - bf (ends f (cu 0))) (w := w) (r := r) (cl := aI μ 2024) ⟨hbe, hE, hMb, hl0, by omega, ⟨p1, p2, p3, p4⟩, by rw [fb 13 (by decide) (by decide)]; exact p8, by rw [fb 14 (by decide) (by decide)]; exact p9, fun k hk => ⟨rfl, (hcl k hk).2⟩, by rw [hT]; exact hfit⟩ (by rw [fI_uI, if_pos rfl, if_neg (by decide)]; rfl) rfl
      rw [hD] at x2
      have x3 : (∀ k, k ≠ 27 → k ≠ 28 → k ≠ 42 → fI M 2017 k = fI μ 2017 k) ∧ (∀ a, a < 2029 ∨ 2033 < a → a ≠ 2043 → aI M a = aI μ a) := by
        obtain ⟨K, a, l, s, t, G⟩ := D
        exact ⟨fun k k1 k2 k3 => by rw [x2.1.1 k k1 k2 k3]; exact fb k k1 k2, fun a a1 a2 => x2.1.2.1 a a1 a2⟩
      obtain ⟨vp, hnA⟩ := d1.vp
      have h6 : fI S 13 6 = 0 := by
        obtain ⟨K, a, l, s, t, G⟩ := D
        exact hCS.1.2.2.1
      obtain ⟨r', σ3, μ3, D', L', B', H', T', v1, v2, v3, v4, v5, v6, v7, v8, v9⟩ := perform (hplan M x3.1 x3.2) (hCS.pc d1) (x2.pr d1 (by omega) (by omega)) vp h6 (mono_of vp hn hE (Or.inl (fun k hk => by omega)) (Or.inl (fun k hk => by omega)))
      unfold f12_pastesBlock_j60
      rw [x1, bnd_some, v2, bnd_some, isB_r v3, gd_true, bnd_some, isB_r v3, gd_true]
      have hPF := v9.2.2.pre (σ := σ) (hfr.1 24 (by omega)).1 (hfr.1.weak (fun a ha => by unfold osh at ha; omega))
      exact ⟨r', S, σ3, μ3, D', L', B', H', T', rfl, v1, rfl, v3, v4, hPF.1, fun z => (hPF.2.1 z).1, fun z => by
        rcases hPF.2.2 z with ⟨-, k⟩ | ⟨-, -, -, k1, k2⟩
        · exact Or.inl k
        · exact Or.inr ⟨k1, k2.lns⟩⟩
    · rw [if_neg hfit, bnd_some, show isB 0 = true from rfl, gd_true]
      refine ⟨0, S, S, _, _, L, B, H, T, rfl, ?_, rfl, Or.inl rfl, hplan _ (fun k k1 k2 k3 => fb k k1 k2) (fun _ _ _ => rfl), hfr.1.weak (fun a ha => by unfold osh at ha; omega), fun _ => ⟨rfl, rfl, by rw [(hfr.1 24 (by omega)).1], by rw [(hfr.1 24 (by omega)).1]⟩, fun z => absurd z (by decide)⟩
      rcases s2 with hcs | hfl
      · have hS := hplan μ (fun _ _ _ _ => rfl) (fun _ _ _ => rfl)
        obtain ⟨u1, ⟨u2, u3, u4, u5⟩, u6⟩ := hS.2.1
        obtain ⟨vp, hnA⟩ := d1.vp
        have h6 : fI S 13 6 = 0 ∧ fI S 13 4 = Int32.ofNat D.1 := by
          obtain ⟨K, a, l, s, t, G⟩ := D
          exact ⟨hcs.1.2.2.1, hcs.1.2.2.2.1⟩
        refine perform_no (fun z => d4 (by omega) ((ofNat_z0 (by omega)).mp (by rw [← h6.2]; exact z))) ?_
        have al' : AL S L' B' H' := by
          unfold AL
          rw [hfr.2]
          exact al
        rcases c1_build u1 cl al' hne g.2.2.1 u2 u5 g.2.2.2.2.1 (hcs.pc d1) vp h6.1 with ⟨_, b2⟩ | ⟨b1, _⟩
        · exact b2
        · omega
      · refine perform_no hfl.2.2.1 ?_
        unfold f1_build f1_build_j22
        rw [if_neg hfl.2.1]
theorem ga_paste (h0 : Rel0 σ μ (f, n, hd, c, cu, ma, lf, ml) L B H T) (hrec : fI σ 1992 5 = 0) : stH (f11_paste σ) [(3, 1)] (Int32.toInt64 0) (f12_paste μ) (QA σ (f, n, hd, c, cu, ma, lf, ml) T) := by
  obtain ⟨r, σ1, σ3, μ3, D', L', B', H', T', v0, v1, v2, v3, v4, v5, v6, v7⟩ := pastesT (P := RT) h0
  have h5 : fI σ3 1992 5 = fI σ 1992 5 := by rw [(v5 1992 (by unfold osh; omega)).1]
  have hr3 : fI σ3 1992 5 = 0 := h5.trans hrec
  have v4 : Rel0 σ3 μ3 D' L' B' H' T' := v4
  unfold f11_paste f12_paste
  rw [v0, bnd_some, v1, bnd_some, v2, bnd_some]
  rcases v3 with rfl | rfl
  · rw [if_pos rfl, if_pos rfl, c12_refuse, bnd_some]
    exact stA_er (c := 3) (t := 1) rfl (by decide) (by decide) rfl v4 ⟨h5, Or.inl (v6 rfl)⟩
  · rw [if_neg (show ¬ (1 : Int32) = 0 by decide), if_neg (show ¬ (1 : Int32) = 0 by decide)]
    obtain ⟨σ4, μ4, a1, a2, a3⟩ := addStep v4 (k := 3) (a := 0) (b := 0) (u := 0) (v := 0) (Or.inr (Or.inr rfl))
    simp only [a1, a2, bnd_some, c12_told]
    obtain ⟨f', n', hd', c', cu', ma', lf', ml'⟩ := D'
    have eS : fI σ4 1 1 = Int32.ofNat n' := a3.2.1.1.2.2.1
    have eT : fI μ4 2017 5 = Int32.ofNat n' := a3.2.2.1.1.2.1
    rw [eS, eT]
    have e4 : σ4 = σ3 := by
      rw [add_off hr3] at a1
      exact (Option.some.inj a1).symm
    have := a3.1.1
    exact stA_ok rfl rfl (nn_ofNat (by omega)) a3 (GA.more (σ1 := σ3) ⟨h5, v7 rfl⟩ (by rw [e4]) (by rw [e4]) rfl)
end R
