/-! the acts once more, with what becomes of the document and of the tree -/
def lns : Doc → (Nat → Int32) × (Nat → Int32)
  | (_, _, _, _, _, _, lf, ml) => (lf, ml)
/-- nothing is as it was not, or an act is kept; the marks lean as they did -/
def GA (σ σ' : Sto) (D D' : Doc) (T T' : Hst) : Prop := fI σ' 1992 5 = fI σ 1992 5 ∧ (NK σ σ' D D' T T' ∨ (AK σ σ' D T T' ∧ lns D' = lns D))
theorem PD.lns {K : Nat} {a b l : Nat → Nat} {X : Nat → Nat → Int32} {D D' : Doc} (h : PD K a b l X D D') : lns D' = lns D := by
  obtain ⟨f, n, hd, c, cu, ma, lf, ml⟩ := D
  obtain ⟨f', n', hd', c', cu', ma', lf', ml'⟩ := D'
  obtain ⟨-, -, -, -, h5, h6, -⟩ := h
  show (lf', ml') = (lf, ml)
  rw [h5, h6]
theorem PF.ga {σ σ' : Sto} {D D' : Doc} {T T' : Hst} {r : Int32} {K : Nat} {a b l : Nat → Nat} {X : Nat → Nat → Int32} (h : PF σ σ' D D' T T' r K a b l X) (hr : r = 0 ∨ r = 1) : GA σ σ' D D' T T' := by
  obtain ⟨h1, h2, h3⟩ := h
  refine ⟨by rw [(h1 1992 (by unfold osh; omega)).1], ?_⟩
  rcases hr with rfl | rfl
  · exact Or.inl (h2 rfl).1
  · rcases h3 rfl with ⟨-, k⟩ | ⟨-, -, -, k1, k2⟩
    · exact Or.inl k
    · exact Or.inr ⟨k1, k2.lns⟩
theorem NK.rf {σ : Sto} {D : Doc} {T : Hst} : NK σ σ D D T T := ⟨rfl, rfl, rfl, rfl⟩
theorem GA.rf {σ : Sto} {D : Doc} {T : Hst} : GA σ σ D D T T := ⟨rfl, Or.inl NK.rf⟩
/-- what comes behind and leaves the tree -/
theorem GA.more {σ σ1 σ' : Sto} {D D1 D' : Doc} {T T' : Hst} (h : GA σ σ1 D D1 T T') (e24 : fI σ' 24 = fI σ1 24) (e5 : fI σ' 1992 5 = fI σ1 1992 5) (hD : D' = D1) : GA σ σ' D D' T T' := by
  subst hD
  obtain ⟨h1, h2⟩ := h
  refine ⟨e5.trans h1, ?_⟩
  unfold NK AK at h2 ⊢
  rw [e24]
  exact h2
def QA (σ : Sto) (D : Doc) (T : Hst) : Sto → Sto → Int64 → Prop := fun σ' μ' o => (∃ v : Int32, o = v.toInt64 ∧ -1 ≤ v) ∧ ∃ D' L' B' H' T', Rel0 σ' μ' D' L' B' H' T' ∧ GA σ σ' D D' T T'
theorem QA.thr {σ σ' μ' : Sto} {D : Doc} {T : Hst} {o : Int64} {v : Int32} (h : QA σ D T σ' μ' o) : QA σ D T σ' (uI μ' 2017 18 v) o := by
  obtain ⟨h1, D', L', B', H', T', h2, h3⟩ := h
  exact ⟨h1, D', L', B', H', T', uI_ext (fun k hk => by rw [fI_uI, if_pos rfl, if_neg hk]) rfl rfl h2, h3⟩
theorem stA_ok {σ σ' μ' : Sto} {D D' : Doc} {T T' : Hst} {L' B' H' : Nat} {fc : Option ((Int32 × Sto) ⊕ (Nat × Sto))} {tab : List (Nat × Int32)} {fm : Option (Int32 × Sto)} {v : Int32} (h1 : fc = some (.inl (v, σ'))) (h2 : fm = some (v, uI μ' 2017 18 0)) (hv : -1 ≤ v) (h : Rel0 σ' μ' D' L' B' H' T') (g : GA σ σ' D D' T T') : stH fc tab (Int32.toInt64 0) fm (QA σ D T) := by
  unfold stH
  rw [h1, h2, Ok_some]
  exact Ok_some.mpr (Ok_some.mpr ⟨rfl, fun _ => rfl, QA.thr ⟨⟨v, rfl, hv⟩, D', L', B', H', T', h, g⟩⟩)
theorem stA_er {σ σ' μ' : Sto} {D D' : Doc} {T T' : Hst} {L' B' H' : Nat} {fc : Option ((Int32 × Sto) ⊕ (Nat × Sto))} {tab : List (Nat × Int32)} {fm : Option (Int32 × Sto)} {c : Nat} {t v : Int32} (h1 : fc = some (.inr (c, σ'))) (ht : (c, t) ∈ tab) (hn : t ≠ 0) (h2 : fm = some (v, uI μ' 2017 18 t)) (h : Rel0 σ' μ' D' L' B' H' T') (g : GA σ σ' D D' T T') : stH fc tab (Int32.toInt64 0) fm (QA σ D T) := by
  unfold stH
  rw [h1, h2, Ok_some]
  exact ⟨t, ht, Ok_some.mpr (Ok_some.mpr ⟨rfl, fun e => absurd e hn, QA.thr ⟨⟨0, rfl, by decide⟩, D', L', B', H', T', h, g⟩⟩)⟩
theorem toInt64_inj {x y : Int32} (h : x.toInt64 = y.toInt64) : x = y := by
  apply Int32.toInt_inj.mp
  have := congrArg Int64.toInt h
  rwa [Int32.toInt_toInt64, Int32.toInt_toInt64] at this
/-- what a call gives -/
def AR (fc : Option ((Int32 × Sto) ⊕ (Nat × Sto))) (tab : List (Nat × Int32)) (σ : Sto) (D : Doc) (T : Hst) : Prop := ∃ σ' μ' D' L' B' H' T', Rel0 σ' μ' D' L' B' H' T' ∧ GA σ σ' D D' T T' ∧ ((∃ v, fc = some (.inl (v, σ')) ∧ -1 ≤ v) ∨ ∃ c t, (c, t) ∈ tab ∧ fc = some (.inr (c, σ')))
theorem stA_get {σ : Sto} {D : Doc} {T : Hst} {fc : Option ((Int32 × Sto) ⊕ (Nat × Sto))} {tab : List (Nat × Int32)} {fm : Option (Int32 × Sto)} (h : stH fc tab (Int32.toInt64 0) fm (QA σ D T)) : AR fc tab σ D T := by
  unfold stH at h
  obtain ⟨r, h1, h2⟩ := h
  cases r with
  | inl p =>
    obtain ⟨m, -, t, -, -, -, ⟨v, e, hv⟩, D', L', B', H', T', h3, h4⟩ := h2
    exact ⟨p.2, _, D', L', B', H', T', h3, h4, Or.inl ⟨p.1, h1, by rw [toInt64_inj e]; exact hv⟩⟩
  | inr c =>
    obtain ⟨v, hv, m, -, t, -, -, -, -, D', L', B', H', T', h3, h4⟩ := h2
    exact ⟨c.2, _, D', L', B', H', T', h3, h4, Or.inr ⟨c.1, v, hv, h1⟩⟩
theorem nn_ofNat {n : Nat} (h : n < 2147483648) : -1 ≤ Int32.ofNat n := by grind
section R
variable {σ μ σ1 μ1 : Sto} {L B H : Nat} {f : Nat → Int32} {n c K q w pn : Nat} {hd : Nat → Int32} {cu : Nat → Nat} {ma lf ml pt : Nat → Int32} {T : Hst} {a b l : Nat → Nat} {G : Nat → Int32} {v : Int32}
/-- nothing is recorded -/
theorem add_off (h : fI σ 1992 5 = 0) {k a b : Int32} : f9_add σ k a b = some σ := by
  unfold f9_add
  rw [if_pos h]
  rfl
theorem typed_off (h : fI σ 1992 5 = 0) {a : Nat} : f9_addTyped σ a = some σ := by
  unfold f9_addTyped f9_addTyped_j40
  rw [if_pos h, add_off h]
  rfl
theorem ga_type (h0 : Rel0 σ μ (f, n, hd, c, cu, ma, lf, ml) L B H T) (hrec : fI σ 1992 5 = 0) : stH (f11_type σ) [(3, 1)] (Int32.toInt64 0) (f12_type μ) (QA σ (f, n, hd, c, cu, ma, lf, ml) T) := by
  obtain ⟨tn, σ1, μ1, G, t1, t2, t3, k1, k2, k3, j⟩ := JP.tape h0
  obtain ⟨K, q, a, b, l, σ2, μ2, p1, p2, p3, p4, p5⟩ := plan_cursors h0.1 h0.2.1 h0.2.2.1 j (a1 := 9) (x2 := 0) (x3 := fI σ 8 1) t2 (gb := fun s_10 => f12_types_b10 s_10.1 s_10.2) (fun _ _ => rfl)
  obtain ⟨r, σ3, μ3, D', L', B', H', T', v1, v2, v3, v4, v5, v6, v7, v8, v9⟩ := act_of (P := RT) h0 p3 (ins_s p4) (ins_l p4)
  have v4 : Rel0 σ3 μ3 D' L' B' H' T' := v4
  have eC : f11_planAtCursors σ 9 0 (fI σ 8 1) = some σ2 := by
    unfold f11_planAtCursors
    rw [k1, bnd_some, stp, p1]
  have eM : f12_types μ = some (r, μ3) := by
    unfold f12_types f12_types_j10
    rw [k2, bnd_some, k3, bnd_some, stp, p2, bnd_some, v2, bnd_some, isB_r v3, gd_true]
  unfold f11_type f12_type
  rw [eC, bnd_some, v1, bnd_some, eM, bnd_some]
  rcases v3 with rfl | rfl
  · rw [if_pos rfl, if_pos rfl, c12_refuse, bnd_some]
    exact stA_er (c := 3) (t := 1) rfl (by decide) (by decide) rfl v4 (v9.2.2.ga (Or.inl rfl))
  · rw [if_neg (show ¬ (1 : Int32) = 0 by decide), if_neg (show ¬ (1 : Int32) = 0 by decide)]
    obtain ⟨σ4, μ4, a1, a2, a3⟩ := addTyped v4
    have hr3 : fI σ3 1992 5 = 0 := (by rw [(v9.2.2.1 1992 (by unfold osh; omega)).1]; exact hrec)
    have e4 : σ4 = σ3 := by
      rw [typed_off hr3] at a1
      exact (Option.some.inj a1).symm
    simp only [a1, a2, bnd_some, c12_told]
    obtain ⟨f', n', hd', c', cu', ma', lf', ml'⟩ := D'
    have eS : fI σ4 1 1 = Int32.ofNat n' := a3.2.1.1.2.2.1
    have eT : fI μ4 2017 5 = Int32.ofNat n' := a3.2.2.1.1.2.1
    rw [eS, eT]
    have := a3.1.1
    exact stA_ok rfl rfl (nn_ofNat (by omega)) a3 (GA.more (v9.2.2.ga (Or.inr rfl)) (by rw [e4]) (by rw [e4]) rfl)
theorem ga_erase (h0 : Rel0 σ μ (f, n, hd, c, cu, ma, lf, ml) L B H T) (hrec : fI σ 1992 5 = 0) {x : Int32} : stH (f11_erase σ x) [(2, 1), (3, 2)] (Int32.toInt64 0) (f12_erase μ x) (QA σ (f, n, hd, c, cu, ma, lf, ml) T) := by
  unfold f11_erase f11_erase_j12 f12_erase
  simp only [c12_in, c12_refuse, bnd_some, ite_tz, decide_eq_true_eq]
  by_cases hx0 : x < -100
  · rw [if_pos hx0, if_neg (by grind)]
    exact stA_er (c := 2) (t := 1) rfl (by decide) (by decide) rfl h0 GA.rf
  rw [if_neg hx0]
  by_cases hx1 : x ≤ 100
  · rw [if_pos hx1, if_pos (by grind)]
    obtain ⟨r, k1, k2⟩ := c1_begin (σ := σ) (a1 := 9) (s := 0) (m := 0) (x := 0) (y := 0) rfl rfl (by omega) (by omega) (by omega) (fun i hi => by omega)
    have j : JP σ μ (uI (rA (uI (uI σ 13 4 0) 13 6 0) 19 r) 18 1 (Int32.ofNat 0)) (uI (uI (rA (uI μ 2017 27 0) 2033 (aI (uI μ 2017 27 0) 2033)) 2017 28 (Int32.ofNat 0)) 2017 42 0) n 0 0 (fun _ => 0) (fun _ => 0) (fun _ => 0) (fun _ => 0) 0 := (JP.zero (w := 0) (m := 0) (G := fun _ => 0) (by omega) (by omega) (fun i hi => by omega)).u42
    obtain ⟨K, q, a, b, l, σ2, μ2, p1, p2, p3, p4, p5⟩ := plan_erasing h0.1 h0.2.1 h0.2.2.1 j rfl (x := x) (by grind) hx1
    obtain ⟨r, σ3, μ3, D', L', B', H', T', v1, v2, v3, v4, v5, v6, v7, v8, v9⟩ := act_of (P := RT) h0 p3 (Or.inr (fun k hk => by rw [p4 k hk]; omega)) (Or.inr (fun k hk => by
      rw [p4 k hk]
      have := ends_mono (f := f) (p3.2.2.1.2.2.1.1 k hk).1
      show ends f (a k) + 0 ≤ _
      omega))
    have v4 : Rel0 σ3 μ3 D' L' B' H' T' := v4
    have eC : f11_planErasing σ x = some σ2 := by
      unfold f11_planErasing
      rw [k1, bnd_some, stp, stp, p1]
    have eM : f12_erases μ x = some (r, μ3) := by
      unfold f12_erases f12_erases_j13
      rw [c12_begins1, bnd_some, stp, stp, stp, c12_put0, p2, bnd_some, v2, bnd_some, isB_r v3, gd_true]
    rw [stp, eC, bnd_some, v1, bnd_some, eM, bnd_some]
    rcases v3 with rfl | rfl
    · rw [if_pos rfl, if_pos rfl]
      exact stA_er (c := 3) (t := 2) rfl (by decide) (by decide) rfl v4 (v9.2.2.ga (Or.inl rfl))
    · rw [if_neg (show ¬ (1 : Int32) = 0 by decide), if_neg (show ¬ (1 : Int32) = 0 by decide)]
      have hr3 : fI σ3 1992 5 = 0 := (by rw [(v9.2.2.1 1992 (by unfold osh; omega)).1]; exact hrec)
      obtain ⟨σ4, μ4, a1, a2, a3⟩ := addStep v4 (k := 1) (a := 0) (b := x) (u := x) (v := 0) (Or.inl ⟨rfl, rfl, by grind, hx1⟩)
      obtain ⟨tn, t1, t2, t3, t4⟩ := v4.2.2.2.2.1
      obtain ⟨sn, s1, s2, s3, s4⟩ := v4.2.2.2.2.2.2.2.2.2.1
      have e42 := steps42 s3 s1 t3 t1 a2
      simp only [a1, a2, bnd_some, c12_told]
      obtain ⟨f', n', hd', c', cu', ma', lf', ml'⟩ := D'
      have eS : fI σ4 1 1 = Int32.ofNat n' := a3.2.1.1.2.2.1
      have e0 : fI σ 1 1 = Int32.ofNat n := h0.2.1.1.2.2.1
      have hn' : n' = nA n K a b l 0 := v5 rfl
      have hsum := p3.2.2.1.2.2.1.sum (l := l)
      have hl0 : sg l K = 0 := by
        rw [sg_ext (h' := fun _ => 0) p4]
        have : ∀ K, sg (fun _ => 0) K = 0 := fun K => by
          induction K with
          | zero => rfl
          | succ K ih => show sg _ K + 0 = 0; rw [ih]
        exact this K
      rw [eS, e0, e42, v8, p5, i32_sub (by omega), show n - n' = sg (fun k => b k - a k) K by omega]
      have e4 : σ4 = σ3 := by
        rw [add_off hr3] at a1
        exact (Option.some.inj a1).symm
      have := h0.1.1
      exact stA_ok rfl rfl (nn_ofNat (by omega)) a3 (GA.more (v9.2.2.ga (Or.inr rfl)) (by rw [e4]) (by rw [e4]) rfl)
  · rw [if_neg hx1, if_neg (by grind)]
    exact stA_er (c := 2) (t := 1) rfl (by decide) (by decide) rfl h0 GA.rf
theorem ga_replace (h0 : Rel0 σ μ (f, n, hd, c, cu, ma, lf, ml) L B H T) (hrec : fI σ 1992 5 = 0) {x y : Int32} : stH (f11_replace σ x y) [(1, 1), (2, 2), (3, 3)] (Int32.toInt64 0) (f12_replace μ x y) (QA σ (f, n, hd, c, cu, ma, lf, ml) T) := by
  have hC : CT σ 1 L B f n := h0.2.1.1
  have hM : MT μ f n := h0.2.2.1.1
  unfold f11_replace f12_replace f12_replace_j16
  rw [c11_requirePart hC, c12_isPlace hM, c12_isPlace hM, bnd_some, bnd_some]
  simp only [ite_tz, decide_eq_true_eq]
  by_cases hx : 0 ≤ x ∧ x ≤ Int32.ofNat n
  · by_cases hy : 0 ≤ y ∧ y ≤ Int32.ofNat n
    · rw [if_pos hx, if_pos hy, if_pos (And.intro hx hy)]
      by_cases hxy : x ≤ y
      · rw [if_pos hxy, if_pos hxy, bndX_inl]
        have hn := hC.1
        obtain ⟨p, hp, rfl⟩ := of_range hx (by omega)
        obtain ⟨r, hr, rfl⟩ := of_range hy (by omega)
        have hpr : p ≤ r := (i32_le (by omega) (by omega)).mp hxy
        obtain ⟨tn, σ1, μ1, G, t1, t2, t3, k1, k2, k3, j⟩ := JP.tape h0
        obtain ⟨σ2, μ2, a, b, l, p1, p2, p3, p4, p5, p6, p7, p8, p9⟩ := j.add (p := p) (r := r) (e := tn) (by omega) (by omega) hpr hr hn (Nat.le_refl _)
        have e1 : fI σ1 8 1 = Int32.ofNat tn := by
          rw [(j.1.1 8 (by omega)).1]
          exact t2
        obtain ⟨r1, σ3, μ3, D', L', B', H', T', v1, v2, v3, v4, v5, v6, v7, v8, v9⟩ := act_of (P := RT) h0 p3 (one_s nxK_le) (one_l nxK_le)
        have v4 : Rel0 σ3 μ3 D' L' B' H' T' := v4
        rw [k1, bnd_some, e1, p1, bnd_some, v1, bnd_some, k2, bnd_some, k3, bnd_some, j.2.1.2.2.2, p2, bnd_some, v2, bnd_some]
        rcases v3 with rfl | rfl
        · rw [if_pos rfl, if_pos rfl, c12_refuse, bnd_some]
          exact stA_er (c := 3) (t := 3) rfl (by decide) (by decide) rfl v4 (v9.2.2.ga (Or.inl rfl))
        · rw [if_neg (show ¬ (1 : Int32) = 0 by decide), if_neg (show ¬ (1 : Int32) = 0 by decide), c12_told, bnd_some]
          obtain ⟨f', n', hd', c', cu', ma', lf', ml'⟩ := D'
          have eS : fI σ3 1 1 = Int32.ofNat n' := v4.2.1.1.2.2.1
          have eT : fI μ3 2017 5 = Int32.ofNat n' := v4.2.2.1.1.2.1
          show stH (some (.inl (fI σ3 1 1, σ3))) _ _ (f12_replace_j75 _ _ (uI μ3 2017 18 0) (fI μ3 2017 5)) _
          rw [eS, eT]
          have := v4.1.1
          exact stA_ok rfl rfl (nn_ofNat (by omega)) v4 (v9.2.2.ga (Or.inr rfl))
      · rw [if_neg hxy, if_neg hxy, bndX_inr, c12_refuse, bnd_some]
        exact stA_er (c := 2) (t := 2) rfl (by decide) (by decide) rfl h0 GA.rf
    · rw [if_pos hx, if_neg hy, if_neg (fun z : (0 ≤ x ∧ x ≤ Int32.ofNat n) ∧ (0 ≤ y ∧ y ≤ Int32.ofNat n) => hy z.2), bndX_inr, c12_refuse, bnd_some]
      exact stA_er (c := 1) (t := 1) rfl (by decide) (by decide) rfl h0 GA.rf
  · rw [if_neg hx, if_neg (fun z : (0 ≤ x ∧ x ≤ Int32.ofNat n) ∧ (0 ≤ y ∧ y ≤ Int32.ofNat n) => hx z.1), bndX_inr, c12_refuse, bnd_some]
    exact stA_er (c := 1) (t := 1) rfl (by decide) (by decide) rfl h0 GA.rf
theorem ga_cut (h0 : Rel0 σ μ (f, n, hd, c, cu, ma, lf, ml) L B H T) (hrec : fI σ 1992 5 = 0) {x y : Int32} : stH (f11_cut σ x y) [(1, 1), (2, 2), (3, 3)] (Int32.toInt64 0) (f12_cut μ x y) (QA σ (f, n, hd, c, cu, ma, lf, ml) T) := by
  have hC : CT σ 1 L B f n := h0.2.1.1
  have hM : MT μ f n := h0.2.2.1.1
  have hlt : ∀ k, k < n → isLt (f k) = true := h0.1.2.2.1
  unfold f11_cut f12_cut f12_cut_j16
  rw [c11_requirePart hC, c12_isPlace hM, c12_isPlace hM, bnd_some, bnd_some]
  simp only [ite_tz, decide_eq_true_eq]
  by_cases hx : 0 ≤ x ∧ x ≤ Int32.ofNat n
  · by_cases hy : 0 ≤ y ∧ y ≤ Int32.ofNat n
    · rw [if_pos hx, if_pos hy, if_pos (And.intro hx hy)]
      by_cases hxy : x ≤ y
      · rw [if_pos hxy, if_pos hxy, bndX_inl]
        have hn := hC.1
        obtain ⟨p, hp, rfl⟩ := of_range hx (by omega)
        obtain ⟨r, hr, rfl⟩ := of_range hy (by omega)
        have hpr : p ≤ r := (i32_le (by omega) (by omega)).mp hxy
        obtain ⟨c1, c2, c3⟩ := hC.2.2.2.2.1
        have hLl : ∀ k, k < n → aI σ L k = f k := hC.2.2.2.2.2.2.1
        rw [c1, okr_s.mpr c2, gd_true, Nat.add_sub_cancel, i32_sub hpr]
        obtain ⟨u, k1, k2⟩ := c1_begin (σ := σ) (a1 := L) (s := p) (m := r - p) rfl rfl (by omega) (by omega) (by omega) (fun i hi => by rw [hLl _ (by omega)]; exact hlt _ (by omega))
        obtain ⟨t, q1, q2⟩ := c12_cut35 hM hpr hr rfl rfl
        have h43 := h0.r43 (r := t)
        generalize hM4 : rA μ 2043 t = M4 at h43 q1
        have m43 : aI M4 2043 = t := by rw [← hM4]; rfl
        have j : JP σ M4 _ _ n 0 0 (fun _ => 0) (fun _ => 0) (fun _ => 0) (fun _ => 0) 0 := JP.zero (w := 0) (r := u) (r' := aI (uI M4 2017 27 0) 2033) (m := r - p) (by omega) (by omega) (fun i hi => by omega)
        obtain ⟨σ2, μ2, a, b, l, p1, p2, p3, p4, p5, p6, p7, p8, p9⟩ := j.add (p := p) (r := r) (e := 0) (by omega) (by omega) hpr hr hn (Nat.le_refl _)
        obtain ⟨r1, σ3, μ3, D', L', B', H', T', v1, v2, v3, v4, v5, v6, v7, v8, v9⟩ := act_of (P := RT) h43 p3 (one_s nxK_le) (one_l nxK_le)
        have v4 : Rel0 σ3 μ3 D' L' B' H' T' := v4
        have p1' : f1_addPart (uI (rA (uI (uI σ 13 4 0) 13 6 0) 19 u) 18 1 (Int32.ofNat (r - p))) (Int32.ofNat p) (Int32.ofNat r) 0 = some σ2 := p1
        have p2' : f12_adds (uI (uI M4 2017 27 0) 2017 28 0) (Int32.ofNat p) (Int32.ofNat r) 0 0 = some μ2 := by
          rw [c12_put0]
          exact p2
        rw [k1, bnd_some, p1', bnd_some, v1, bnd_some]
        show stH _ _ _ (f12_cut_j35 (Int32.ofNat p) (Int32.ofNat r) μ (Int32.ofNat p)) _
        unfold f12_cut_j35
        rw [q1, bnd_some, c12_begins1, bnd_some, p2', bnd_some, v2, bnd_some]
        rcases v3 with rfl | rfl
        · rw [if_pos rfl, if_pos rfl, c12_refuse, bnd_some]
          exact stA_er (c := 3) (t := 3) rfl (by decide) (by decide) rfl v4 (v9.2.2.ga (Or.inl rfl))
        · rw [if_neg (show ¬ (1 : Int32) = 0 by decide), if_neg (show ¬ (1 : Int32) = 0 by decide)]
          have e18 : fI σ3 18 1 = Int32.ofNat (r - p) := by
            rw [v6, p8]
            rfl
          have e19 : aI σ3 19 = u := by
            rw [v7, p9]
            rfl
          have e43 : aI μ3 2043 = t := by
            rw [v9.1, p7]
            exact m43
          have hu : ∀ i, i < r - p → u i = f (p + i) := fun i hi => by
            rw [k2 i hi, hLl _ (by omega)]
          have hbc : f6_become σ3 11 19 0 (Int32.ofNat (r - p)) = _ := c6_become (s := 0) (m := r - p) rfl rfl (by omega) (by omega) (by show 0 + (r - p) ≤ 3000; omega) (by show r - p ≤ 12000; omega) (fun i hi => by
            rw [e19, Nat.zero_add, hu i hi]
            have := isLt_in (hlt (p + i) (by omega))
            grind)
          unfold f2_takeLetters f12_cut_j99
          rw [e18, hbc, bnd_some, stp, stp, stp, stp, bnd_some, i32_sub hpr]
          obtain ⟨z, z1, z2⟩ := c12_cut99 (μ := uI (uI μ3 2017 13 0) 2017 12 (Int32.ofNat (r - p))) (m := r - p) rfl (by omega) (x := Int32.ofNat p) (y := Int32.ofNat r)
          rw [z1, bnd_some, c12_told, bnd_some]
          refine stA_ok (v := Int32.ofNat (r - p)) rfl rfl (nn_ofNat (by omega)) (v4.clip ?_ ?_ ?_ ?_) (GA.more (v9.2.2.ga (Or.inr rfl)) rfl rfl rfl)
          · exact Sm.trans (Sm.rA (by omega)) (Sm.trans (Sm.uI (by omega)) (Sm.uI (by omega)))
          · intro k k1 k2 k3
            show fI (uI (uI μ3 2017 13 0) 2017 12 _) 2017 k = _
            rw [fI_uI, if_pos rfl, if_neg k1, fI_uI, if_pos rfl, if_neg k2]
          · intro a ha
            show aI (rA _ 2024 z) a = _
            rw [aI_rA' ha]
            rfl
          · refine ⟨r - p, by omega, rfl, rfl, fun k hk => ?_, Or.inl ⟨rfl, rfl, by omega⟩⟩
            show va_cpy (aI σ3 19) (aI σ3 (11 + 1)) 0 0 (r - p) k = z k ∧ isLt (z k) = true
            rw [cpy_at hk, z2 k hk]
            show aI σ3 19 (0 + k) = aI μ3 2043 k ∧ isLt (aI μ3 2043 k) = true
            rw [e19, e43, Nat.zero_add, hu k hk, q2 k hk]
            exact ⟨rfl, hlt _ (by omega)⟩
      · rw [if_neg hxy, if_neg hxy, bndX_inr, c12_refuse, bnd_some]
        exact stA_er (c := 2) (t := 2) rfl (by decide) (by decide) rfl h0 GA.rf
    · rw [if_pos hx, if_neg hy, if_neg (fun z : (0 ≤ x ∧ x ≤ Int32.ofNat n) ∧ (0 ≤ y ∧ y ≤ Int32.ofNat n) => hy z.2), bndX_inr, c12_refuse, bnd_some]
      exact stA_er (c := 1) (t := 1) rfl (by decide) (by decide) rfl h0 GA.rf
  · rw [if_neg hx, if_neg (fun z : (0 ≤ x ∧ x ≤ Int32.ofNat n) ∧ (0 ≤ y ∧ y ≤ Int32.ofNat n) => hx z.1), bndX_inr, c12_refuse, bnd_some]
    exact stA_er (c := 1) (t := 1) rfl (by decide) (by decide) rfl h0 GA.rf
theorem ga_indent (h0 : Rel0 σ μ (f, n, hd, c, cu, ma, lf, ml) L B H T) (hrec : fI σ 1992 5 = 0) {x y z : Int32} : stH (f11_indent σ x y z) [(1, 1), (2, 2), (3, 3)] (Int32.toInt64 0) (f12_indent μ x y z) (QA σ (f, n, hd, c, cu, ma, lf, ml) T) := by
  have hC : CT σ 1 L B f n := h0.2.1.1
  have hM : MT μ f n := h0.2.2.1.1
  have hn := hC.1
  have hE := hC.2.1
  unfold f11_indent f12_indent f12_indent_j16 f12_indent_j42 f11_indent_j31
  rw [c11_requireLine hC, c12_isLine hM, c12_isLine hM, bnd_some, bnd_some]
  simp only [ite_tz, decide_eq_true_eq, c12_in, c12_refuse, bnd_some]
  by_cases hx : 0 ≤ x ∧ x ≤ Int32.ofNat (ends f n)
  · rw [if_pos hx, bndX_inl, c11_requireLine hC, if_pos hx]
    by_cases hy : 0 ≤ y ∧ y ≤ Int32.ofNat (ends f n)
    · rw [if_pos hy, bndX_inl, if_pos hy]
      by_cases hxy : y < x
      · rw [if_pos hxy, if_pos hxy]
        exact stA_er (c := 2) (t := 2) rfl (by decide) (by decide) rfl h0 GA.rf
      rw [if_neg hxy, if_neg hxy]
      by_cases hz0 : z = 0
      · rw [if_pos hz0, if_pos hz0]
        exact stA_er (c := 2) (t := 2) rfl (by decide) (by decide) rfl h0 GA.rf
      rw [if_neg hz0, if_neg hz0]
      by_cases hz1 : z < -8
      · rw [if_pos hz1, if_neg (by grind)]
        exact stA_er (c := 2) (t := 2) rfl (by decide) (by decide) rfl h0 GA.rf
      rw [if_neg hz1]
      by_cases hz2 : z ≤ 8
      · rw [if_pos hz2, if_pos (by grind)]
        obtain ⟨lo, hlo, rfl⟩ := of_range hx (by omega)
        obtain ⟨hi, hhi, rfl⟩ := of_range hy (by omega)
        have hlh : lo ≤ hi := by
          rcases Nat.lt_or_ge hi lo with q | q
          · exact absurd ((i32n_lt (by omega) (by omega)).mpr q) hxy
          · exact q
        obtain ⟨w, hw, hw8⟩ : ∃ w : Nat, imax z 0 = Int32.ofNat w ∧ w ≤ 8 := by
          unfold imax
          by_cases q : z < 0
          · exact ⟨0, by rw [if_pos q]; rfl, by omega⟩
          · obtain ⟨w, w1, w2⟩ := of_range (x := z) (n := 8) ⟨by grind, by grind⟩ (by decide)
            exact ⟨w, by rw [if_neg q, w2], w1⟩
        obtain ⟨bf, ef, hbe⟩ := lines_fn f n
        obtain ⟨u, u1, u2⟩ := c1_with (σ := σ) (v := 32) (m := w) (by decide) (by omega)
        have putz : ∃ u', loopF (fun s_55 => f12_indent_b55 (Int32.ofNat lo) (Int32.ofNat hi) z s_55.1 s_55.2) FU (uI (uI μ 2017 27 0) 2017 28 0, 0) = some (uI (rA (uI μ 2017 27 0) 2033 u') 2017 28 (Int32.ofNat w)) ∧ ∀ i, i < w → u' i = 32 := by
          by_cases q : z < 0
          · refine ⟨aI (uI μ 2017 27 0) 2033, ?_, fun i hi => ?_⟩
            · have w0 : Int32.ofNat w = Int32.ofNat 0 := by
                rw [← hw]
                unfold imax
                rw [if_pos q]
                rfl
              rw [w0, ← c12_put0]
              refine loop_done ?_
              show f12_indent_b55 _ _ _ _ 0 = _
              unfold f12_indent_b55
              rw [if_pos (by grind)]
            · have w0 : Int32.ofNat w = Int32.ofNat 0 := by
                rw [← hw]
                unfold imax
                rw [if_pos q]
                rfl
              have : w = 0 := (ofNat_z0 (by omega)).mp w0
              omega
          · exact c12_putN (by omega) (by
              rw [← hw]
              unfold imax
              rw [if_neg q])
        obtain ⟨u', u3, u4⟩ := putz
        have j : JP σ μ _ _ n 0 0 (fun _ => 0) (fun _ => 0) (fun _ => 0) (fun _ => 32) w := JP.zero (w := w) (r := u) (r' := u') (m := w) (by omega) (by omega) (fun i hi => ⟨u2 i hi, u4 i hi, by decide⟩)
        obtain ⟨K, q, a, b, l, σ2, μ2, p1, p2, p3, p4⟩ := indents j hC h0.2.2.2.1.cells hM hbe hlh hhi hz0 (by grind) hz2 hw (x1 := Int32.ofNat lo) (z1 := Int32.ofNat lo)
        have hs : (∀ k, k < K → b k - a k ≤ l k) ∨ ∀ k, k < K → l k ≤ b k - a k := by
          rcases p4 with p4 | p4
          · exact ins_s p4
          · exact del_s p4
        have hl : (∀ k, k < K → ends f (b k) ≤ ends f (a k) + ends (fun _ => 32) (l k)) ∨ ∀ k, k < K → ends f (a k) + ends (fun _ => 32) (l k) ≤ ends f (b k) := by
          rcases p4 with p4 | p4
          · exact ins_l p4
          · exact del_l p3.2.2.1.2.2.1 p4
        obtain ⟨r, σ3, μ3, D', L', B', H', T', v1, v2, v3, v4, v5⟩ := act_of (P := RT) h0 p3 hs hl
        have v4 : Rel0 σ3 μ3 D' L' B' H' T' := v4
        rw [hw, u1, bnd_some, stp, c12_begins1, bnd_some, stp]
        unfold f11_indent_j58 f12_indent_j55
        rw [p1, bnd_some, stp, v1, bnd_some, u3, bnd_some, stp]
        unfold f12_indent_j76
        rw [p2, bnd_some, stp, v2, bnd_some, p3.1.2.2.2, p3.2.1.2.2.1]
        rcases v3 with rfl | rfl
        · rw [if_pos rfl, if_pos rfl, c12_refuse, bnd_some]
          exact stA_er (c := 3) (t := 3) rfl (by decide) (by decide) rfl v4 (v5.2.2.2.2.2.2.ga (Or.inl rfl))
        · rw [if_neg (show ¬ (1 : Int32) = 0 by decide), if_neg (show ¬ (1 : Int32) = 0 by decide), c12_told, bnd_some]
          have := p3.pc.2.1
          exact stA_ok rfl rfl (nn_ofNat (by omega)) v4 (v5.2.2.2.2.2.2.ga (Or.inr rfl))
      · rw [if_neg hz2, if_neg (by grind)]
        exact stA_er (c := 2) (t := 2) rfl (by decide) (by decide) rfl h0 GA.rf
    · rw [if_neg hy, bndX_inr, if_neg hy]
      exact stA_er (c := 1) (t := 1) rfl (by decide) (by decide) rfl h0 GA.rf
  · rw [if_neg hx, bndX_inr, if_neg hx]
    exact stA_er (c := 1) (t := 1) rfl (by decide) (by decide) rfl h0 GA.rf
theorem ga_joinLines (h0 : Rel0 σ μ (f, n, hd, c, cu, ma, lf, ml) L B H T) (hrec : fI σ 1992 5 = 0) {x y : Int32} : stH (f11_joinLines σ x y) [(1, 1), (2, 2), (3, 3)] (Int32.toInt64 0) (f12_joinLines μ x y) (QA σ (f, n, hd, c, cu, ma, lf, ml) T) := by
  have hC : CT σ 1 L B f n := h0.2.1.1
  have hM : MT μ f n := h0.2.2.1.1
  have hn := hC.1
  have hE := hC.2.1
  unfold f11_joinLines f12_joinLines f12_joinLines_j16
  rw [c11_requireLine hC, c12_isLine hM, c12_isLine hM, bnd_some, bnd_some]
  simp only [ite_tz, decide_eq_true_eq, c12_refuse, bnd_some]
  by_cases hx : 0 ≤ x ∧ x ≤ Int32.ofNat (ends f n)
  · rw [if_pos hx, bndX_inl, c11_requireLine hC, if_pos hx]
    by_cases hy : 0 ≤ y ∧ y ≤ Int32.ofNat (ends f n)
    · rw [if_pos hy, bndX_inl, if_pos hy]
      by_cases hxy : x ≤ y
      · rw [if_pos hxy, if_pos hxy]
        obtain ⟨lo, hlo, rfl⟩ := of_range hx (by omega)
        obtain ⟨hi, hhi, rfl⟩ := of_range hy (by omega)
        have hlh : lo ≤ hi := (i32_le (by omega) (by omega)).mp hxy
        obtain ⟨u, u1, u2⟩ := c1_with (σ := σ) (v := 32) (m := 1) (by decide) (by omega)
        have u1 : f1_beginWith σ 32 1 = _ := u1
        have j : JP σ μ _ _ n 0 0 (fun _ => 0) (fun _ => 0) (fun _ => 0) (fun _ => 32) 1 := JP.zero (w := 1) (r := u) (r' := up1 (aI (uI μ 2017 27 0) 2033) 0 32) (m := 1) (by omega) (by omega) (fun i hi => ⟨u2 i hi, by rw [show i = 0 by omega]; rfl, by decide⟩)
        obtain ⟨K, q, a, b, l, σ2, μ2, p1, p2, p3, p4⟩ := joins j hC h0.2.2.2.1.cells hM hlh hhi (x1 := Int32.ofNat lo) (z1 := Int32.ofNat lo)
        obtain ⟨r, σ3, μ3, D', L', B', H', T', v1, v2, v3, v4, v5⟩ := act_of (P := RT) h0 p3 (Or.inr (fun k hk => by have := p4 k hk; omega)) (Or.inr (fun k hk => by
          rw [(p4 k hk).1]
          have := ends_mono (f := f) (p3.2.2.1.2.2.1.1 k hk).1
          show ends f (a k) + (0 + if (32 : Int32) = 10 then 1 else 0) ≤ _
          rw [if_neg (by decide)]
          omega))
        have v4 : Rel0 σ3 μ3 D' L' B' H' T' := v4
        have eP : f12_puts (uI (uI μ 2017 27 0) 2017 28 0) 32 = some (uI (rA (uI μ 2017 27 0) 2033 (up1 (aI (uI μ 2017 27 0) 2033) 0 32)) 2017 28 (Int32.ofNat (0 + 1))) := by
          rw [c12_put0, c12_puts1 (by omega)]
        rw [u1, bnd_some, stp, c12_begins1, bnd_some, eP, bnd_some, stp, i32_succ]
        unfold f11_joinLines_j39 f12_joinLines_j45
        rw [p1, bnd_some, v1, bnd_some, p2, bnd_some, v2, bnd_some]
        rcases v3 with rfl | rfl
        · rw [if_pos rfl, if_pos rfl, c12_refuse, bnd_some]
          exact stA_er (c := 3) (t := 3) rfl (by decide) (by decide) rfl v4 (v5.2.2.2.2.2.2.ga (Or.inl rfl))
        · obtain ⟨f', n', hd', c', cu', ma', lf', ml'⟩ := D'
          have eS : fI σ3 1 4 = Int32.ofNat (ends f' n' + 1) := v4.2.1.1.2.2.2.1
          have eT := c12_lines v4.2.2.1.1
          rw [if_neg (show ¬ (1 : Int32) = 0 by decide), if_neg (show ¬ (1 : Int32) = 0 by decide)]
          simp only [eT, bnd_some, c12_told, eS]
          have := v4.1.2.1
          exact stA_ok rfl rfl (nn_ofNat (by omega)) v4 (v5.2.2.2.2.2.2.ga (Or.inr rfl))
      · rw [if_neg hxy, if_neg hxy]
        exact stA_er (c := 2) (t := 2) rfl (by decide) (by decide) rfl h0 GA.rf
    · rw [if_neg hy, bndX_inr, if_neg hy]
      exact stA_er (c := 1) (t := 1) rfl (by decide) (by decide) rfl h0 GA.rf
  · rw [if_neg hx, bndX_inr, if_neg hx]
    exact stA_er (c := 1) (t := 1) rfl (by decide) (by decide) rfl h0 GA.rf
theorem ga_wrap (h0 : Rel0 σ μ (f, n, hd, c, cu, ma, lf, ml) L B H T) (hrec : fI σ 1992 5 = 0) {x y : Int32} : stH (f11_wrap σ x y) [(1, 1), (2, 2), (3, 3)] (Int32.toInt64 0) (f12_wrap μ x y) (QA σ (f, n, hd, c, cu, ma, lf, ml) T) := by
  have hC : CT σ 1 L B f n := h0.2.1.1
  have hM : MT μ f n := h0.2.2.1.1
  have hn := hC.1
  have hE := hC.2.1
  unfold f11_wrap f12_wrap f11_wrap_j16
  rw [c11_requireLine hC, c12_isLine hM, bnd_some]
  simp only [ite_tz, decide_eq_true_eq, c12_in, c12_refuse, bnd_some]
  by_cases hx : 0 ≤ x ∧ x ≤ Int32.ofNat (ends f n)
  · rw [if_pos hx, bndX_inl, if_pos hx]
    by_cases hy1 : y < 1
    · rw [if_pos hy1, if_neg (by grind)]
      exact stA_er (c := 2) (t := 2) rfl (by decide) (by decide) rfl h0 GA.rf
    rw [if_neg hy1]
    by_cases hy2 : y ≤ 100
    · rw [if_pos hy2, if_pos (by grind)]
      obtain ⟨i, hi, rfl⟩ := of_range hx (by omega)
      obtain ⟨w, hw, rfl⟩ := of_range (x := y) (n := 100) ⟨by grind, hy2⟩ (by decide)
      obtain ⟨bf, ef, hbe⟩ := lines_fn f n
      obtain ⟨u, u1, u2⟩ := c1_with (σ := σ) (v := 10) (m := 1) (by decide) (by omega)
      have u1 : f1_beginWith σ 10 1 = _ := u1
      have j : JP σ μ _ _ n 0 0 (fun _ => 0) (fun _ => 0) (fun _ => 0) (fun _ => 10) 1 := JP.zero (w := 1) (r := u) (r' := up1 (aI (uI μ 2017 27 0) 2033) 0 10) (m := 1) (by omega) (by omega) (fun i hi => ⟨u2 i hi, by rw [show i = 0 by omega]; rfl, by decide⟩)
      have hb := hbe i hi
      obtain ⟨K, q, a, b, l, σ2, μ2, p1, p2, p3, p4⟩ := wraps j hC h0.2.2.2.1.cells hM (p := bf i) (e := ef i) (w := w) hb.2.2.1 hb.2.1.1 hw (x1 := Int32.ofNat i) (z1 := Int32.ofNat i)
      obtain ⟨r, σ3, μ3, D', L', B', H', T', v1, v2, v3, v4, v5⟩ := act_of (P := RT) h0 p3 (Or.inl (fun k hk => by have := p4 k hk; omega)) (Or.inl (fun k hk => by
        have := p4 k hk
        omega))
      have v4 : Rel0 σ3 μ3 D' L' B' H' T' := v4
      have hC1 := j.ct hC h0.2.2.2.1.cells
      have hM1 := j.mt hM
      obtain ⟨c1, c2, c3⟩ := ct_ln hC1 hbe hi
      obtain ⟨m1, m2⟩ := mt_ln hM1 hbe hi
      have hc9 := hC1.2.2.2.2.2.1
      have eP : f12_puts (uI (uI μ 2017 27 0) 2017 28 0) 10 = some (uI (rA (uI μ 2017 27 0) 2033 (up1 (aI (uI μ 2017 27 0) 2033) 0 10)) 2017 28 (Int32.ofNat 1)) := by
        rw [c12_put0, c12_puts1 (by omega)]
      have hfor := c11_breakFor hC1 (s := bf i) (e := ef i) (w := w) hb.2.2.1 hb.2.1.1 hw
      rw [u1, bnd_some, c2, bnd_some, stp, hc9.1, okr_s.mpr hc9.2.1, gd_true, Nat.add_sub_cancel, c3, gd_true, ofNat_clamp (by omega), c1, hfor, bnd_some, stp, stp, c12_begins1, bnd_some, eP, bnd_some, m1, bnd_some, stp, m2, bnd_some, stp, stp]
      unfold f11_wrap_j65 f12_wrap_j56
      rw [p1, bnd_some, p2, bnd_some]
      unfold f11_wrap_j111 f12_wrap_j175
      rw [stp, v1, bnd_some, stp, v2, bnd_some, p3.1.2.2.2, p3.2.1.2.2.1]
      rcases v3 with rfl | rfl
      · rw [if_pos rfl, if_pos rfl, c12_refuse, bnd_some]
        exact stA_er (c := 3) (t := 3) rfl (by decide) (by decide) rfl v4 (v5.2.2.2.2.2.2.ga (Or.inl rfl))
      · rw [if_neg (show ¬ (1 : Int32) = 0 by decide), if_neg (show ¬ (1 : Int32) = 0 by decide), c12_told, bnd_some]
        have := p3.pc.2.1
        exact stA_ok rfl rfl (nn_ofNat (by omega)) v4 (v5.2.2.2.2.2.2.ga (Or.inr rfl))
    · rw [if_neg hy2, if_neg (by grind)]
      exact stA_er (c := 2) (t := 2) rfl (by decide) (by decide) rfl h0 GA.rf
  · rw [if_neg hx, bndX_inr, if_neg hx]
    exact stA_er (c := 1) (t := 1) rfl (by decide) (by decide) rfl h0 GA.rf
theorem one_cursorE (h0 : Rel0 σ μ (f, n, hd, c, cu, ma, lf, ml) L B H T) {p : Nat} (hp : p ≤ n) : ∃ σ' μ', f8_leaveOneCursor σ 1 (Int32.ofNat p) = some σ' ∧ f12_opensAt (uA (uI μ 2017 6 1) 2019 0 (Int32.ofNat p)) (Int32.ofNat p) = some μ' ∧ ∃ h2 d, Rel0 σ' μ' (f, n, h2, 1, d, ma, lf, ml) L B H T ∧ d 0 = p ∧ Sm nsh σ σ' := by
  obtain ⟨g, s, m, w, t⟩ := id h0
  obtain ⟨s1, ⟨s2, s3, s4, s5⟩, ⟨s6, s7⟩, s8, s9⟩ := s
  obtain ⟨m1, m2, ⟨m3, m4⟩, m5, m6⟩ := m
  have hw := w.cells
  unfold f8_leaveOneCursor
  have i0 : inb 0 8 = true := by decide
  have e0 : (0 : Int32).toNatClampNeg = 0 := by decide
  simp only [stp, i0, gd_true, e0]
  have hpe := ends_mono (f := f) hp
  obtain ⟨h', cc, ho⟩ := isOp.ex (h := hd) (m := ends f n + 1) (j := ends f p) (by omega)
  have a1 : CT (uA σ (1 + 4) 0 (Int32.ofNat p)) 1 L B f n := s1.congr rfl rfl (aI_uA' (by omega)) (aI_uA' (by omega))
  have sS : SC (uI (uA σ (1 + 4) 0 (Int32.ofNat p)) 1 6 1) 1 L B H (f, n, hd, 1, (fun _ => p), ma, lf, ml) := by
    refine ⟨a1.uI (by omega) (by omega), ⟨s2, s3, s4, fun j hj => ?_⟩, ⟨rfl, fun k hk => ?_⟩, fun k hk => ?_, fun k hk => ?_⟩
    · show aI (uA σ (1 + 4) 0 (Int32.ofNat p)) H j = _
      rw [aI_uA' (by omega)]
      exact s5 j hj
    · show aI (uA σ (1 + 4) 0 (Int32.ofNat p)) 5 k = _
      rw [aI_uA, if_pos rfl, if_pos (by omega)]
    · show aI (uA σ (1 + 4) 0 (Int32.ofNat p)) 6 k = _
      rw [aI_uA' (by omega)]
      exact s8 k hk
    · show aI (uA σ (1 + 4) 0 (Int32.ofNat p)) 7 k = _
      rw [aI_uA' (by omega)]
      exact s9 k hk
  have mS : SM (uA (uI μ 2017 6 1) 2019 0 (Int32.ofNat p)) (f, n, hd, 1, (fun _ => p), ma, lf, ml) := by
    refine ⟨m1.congr rfl rfl, m2, ⟨rfl, fun k hk => ?_⟩, m5, m6⟩
    rw [aI_uA, if_pos rfl, if_pos (by omega)]
  obtain ⟨σ', q, d, h2, k1, k2, k4, k5, k6, k7⟩ := c8_settleS sS hw ⟨by omega, by omega⟩ (fun _ _ => hp)
  obtain ⟨μ', p1, p2, p3⟩ := c12_opensAtS mS g.2.1 g.2.2.2.1 rfl hp ho
  have hq : q = 1 := by have := k2.1; have := k2.2.1; omega
  subst hq
  have hd0 : ∀ i, i < 1 → d i = p := fun i hi => by
    obtain ⟨j, hj, e⟩ := (k2.2.2.2 (d i)).mp ⟨i, hi, rfl⟩
    exact e.symm
  have hh : ∀ k, k ≤ ends f n → h2 k = h' k := by
    intro k hk
    obtain ⟨h1, c1, o1, o2⟩ := k4
    have o2 : isOp h1 (ends f n + 1) (ends f (d 0)) h2 c1 := o2
    rw [hd0 0 (by omega)] at o2
    exact ((o2.ext (by omega) o1).uniq ho (by omega)).2 k (by omega)
  rw [k1, bnd_some, p1]
  have hSm : Sm nsh σ σ' := Sm.trans (Sm.trans (Sm.uA (fun b hb => nsh_ne hb (by omega))) (Sm.uI (fun b hb => nsh_ne hb (by omega)))) k6
  refine ⟨_, _, rfl, rfl, h2, d, h0.sheet hSm ?_ ?_ k5 ((p2.hext hh).cext rfl hd0) ?_, hd0 0 (by omega), hSm⟩
  · have f1 : mfr μ (uI μ 2017 6 1) := mfr.uI (by omega)
    have f2 : mfr (uI μ 2017 6 1) (uA (uI μ 2017 6 1) 2019 0 (Int32.ofNat p)) := by rw [uA_up1]; exact mfr.rA (by omega)
    exact (f1.trans f2).trans p3
  · refine g.opened (fun k hk => isOps.or k4 k (by omega)) ⟨by omega, by omega⟩ (fun i j a b => by omega) (fun i hi => by rw [hd0 i hi]; exact hp) (fun i hi => ?_)
    rw [hd0 i hi, hh _ hpe]
    exact ho.at (by omega)
  · unfold SW
    rw [k7]
    exact w
theorem ga_rplNext (h0 : Rel0 σ μ (f, n, hd, c, cu, ma, lf, ml) L B H T) (hp : PT σ μ pn pt v) (hp1 : 1 ≤ pn) {r : Int32} (hr : r = -1 ∨ ∃ p, r = Int32.ofNat p ∧ p + pn ≤ n) : stH (f11_replaceNext_j59 σ r) [(3, 1)] (Int32.toInt64 0) (f12_replaceNext_j38 μ r) (QA σ (f, n, hd, c, cu, ma, lf, ml) T) := by
  have hn := h0.1.1
  unfold f11_replaceNext_j59 f12_replaceNext_j38
  rcases hr with rfl | ⟨p, rfl, hpn⟩
  · rw [if_pos rfl, stp, if_pos rfl, c12_told, bnd_some]
    exact stA_ok rfl rfl (by decide) h0 GA.rf
  · rw [if_neg (ofNat_m1 (by omega)), stp, if_neg (ofNat_m1 (by omega))]
    obtain ⟨tn, σ1, μ1, G, t1, t2, t3, k1, k2, k3, j⟩ := JP.tape h0
    obtain ⟨σ2, μ2, a, b, l, p1, p2, p3, p4, p5, p6, p7, p8, p9⟩ := j.add (p := p) (r := p + pn) (e := tn) (by omega) (by omega) (by omega) hpn hn (Nat.le_refl _)
    have e1 : fI σ1 8 1 = Int32.ofNat tn := by
      rw [(j.1.1 8 (by omega)).1]
      exact t2
    have hPT : RelT (fun x a y b => RT x a y b ∧ x = Int32.ofNat tn) σ μ (f, n, hd, c, cu, ma, lf, ml) L B H T := by
      obtain ⟨g1, g2, g3, g4, g5, g6⟩ := h0
      exact ⟨g1, g2, g3, g4, ⟨g5, t2⟩, g6⟩
    obtain ⟨r1, σ3, μ3, D', L', B', H', T', v1, v2, v3, v4, v5, v6, v7, v8, v9⟩ := act_of hPT p3 (one_s nxK_le) (one_l nxK_le)
    obtain ⟨g1, g2, g3, g4, ⟨g5, g5'⟩, g6⟩ := v4
    have v4 : Rel0 σ3 μ3 D' L' B' H' T' := ⟨g1, g2, g3, g4, g5, g6⟩
    rw [k1, bnd_some, e1, (j.pat hp).1, i32_add, p1, bnd_some, v1, bnd_some, k2, bnd_some, k3, bnd_some, j.2.1.2.2.2, (j.pat hp).2.2.2.1, i32_add, p2, bnd_some, v2, bnd_some]
    rcases v3 with rfl | rfl
    · rw [if_pos rfl, if_pos rfl, c12_refuse, bnd_some]
      exact stA_er (c := 3) (t := 1) rfl (by decide) (by decide) rfl v4 (v9.2.2.ga (Or.inl rfl))
    · rw [if_neg (show ¬ (1 : Int32) = 0 by decide), if_neg (show ¬ (1 : Int32) = 0 by decide)]
      obtain ⟨f', n', hd', c', cu', ma', lf', ml'⟩ := D'
      have hn' : n' = nA n (nxK 0 p (p + pn) tn) a b l 0 := v5 rfl
      have hnx : nxK 0 p (p + pn) tn = 1 := by
        unfold nxK
        rw [if_neg (by omega)]
      have hAP : AK σ σ3 (f, n, hd, c, cu, ma, lf, ml) T T' ∧ lns (f', n', hd', c', cu', ma', lf', ml') = lns (f, n, hd, c, cu, ma, lf, ml) := by
        rcases v9.2.2.2.2 rfl with ⟨z, -⟩ | ⟨-, -, -, k, k2⟩
        · rw [hnx] at z
          omega
        · exact ⟨k, k2.lns⟩
      rw [hnx] at hn' p5
      obtain ⟨y1, y2, y3⟩ := p5 (by omega)
      have e0 : nA n 1 a b l 0 = n - (b 0 - a 0) + l 0 := by
        rw [nA_k (by omega), nA_K]
      rw [e0, y1, y2, y3] at hn'
      obtain ⟨tm, tm1, tm2, tm3, tm4⟩ := g5
      have etm : tm = tn := by
        rw [g5'] at tm2
        have h1 := (i32_le (a := tn) (b := tm) (by omega) (by omega)).mp (by rw [tm2]; grind)
        have h2 := (i32_le (a := tm) (b := tn) (by omega) (by omega)).mp (by rw [tm2]; grind)
        omega
      obtain ⟨σ4, μ4, o1, o2, h2, d2, o3, o4, o5⟩ := one_cursorE v4 (p := p + tn) (by omega)
      have i0 : inb 0 8 = true := by decide
      have e0 : (0 : Int32).toNatClampNeg = 0 := by decide
      have e11 : fI (uI μ3 2017 6 1) 2017 11 = Int32.ofNat tm := by
        rw [fI_uI, if_pos rfl, if_neg (by decide)]
        exact tm3
      have e19 : aI (uA (uI μ3 2017 6 1) 2019 0 (Int32.ofNat (p + tn))) 2019 0 = Int32.ofNat (p + tn) := by
        rw [aI_uA, if_pos rfl, if_pos rfl]
      simp only [g5', stp, i0, gd_true, e0, e11, etm, i32_add, e19, o1, o2, bnd_some, c12_told]
      have e24 : fI σ4 24 = fI σ3 24 := (o5 24 (Or.inr (Or.inr (Or.inl (by omega))))).1
      have e5 : fI σ4 1992 = fI σ3 1992 := (o5 1992 (Or.inr (Or.inr (Or.inl (by omega))))).1
      refine stA_ok rfl rfl (nn_ofNat (by omega)) o3 ⟨by rw [e5, (v9.2.2.1 1992 (by unfold osh; omega)).1], Or.inr ⟨?_, hAP.2⟩⟩
      have hk := hAP.1
      unfold AK at hk ⊢
      rw [e24]
      exact hk
theorem ga_replaceAll (h0 : Rel0 σ μ (f, n, hd, c, cu, ma, lf, ml) L B H T) (hrec : fI σ 1992 5 = 0) : stH (f11_replaceAll σ) [(3, 1)] (Int32.toInt64 0) (f12_replaceAll μ) (QA σ (f, n, hd, c, cu, ma, lf, ml) T) := by
  have hC : CT σ 1 L B f n := h0.2.1.1
  have hM : MT μ f n := h0.2.2.1.1
  have hn := hC.1
  obtain ⟨pn, hp⟩ := h0.pat
  have e0 : Int32.ofNat pn = 0 ↔ ¬ 1 ≤ pn := by have := hp.2.2.2.2.2.2; grind
  unfold f11_replaceAll f12_replaceAll
  rw [c7_isSet hp.1 hp.2.2.2.2.2.2, bnd_some, hp.2.2.2.1]
  simp only [ite_tz, decide_eq_true_eq, e0]
  by_cases hp1 : 1 ≤ pn
  · rw [if_pos hp1, if_neg (fun z : ¬ 1 ≤ pn => z hp1)]
    obtain ⟨tn, σ1, μ1, G, t1, t2, t3, k1, k2, k3, j⟩ := JP.tape h0
    obtain ⟨r, r1, r2, r3⟩ := find_both (j.ct hC h0.2.2.2.1.cells) (j.mt hM) (j.pat hp) hp1 (Nat.zero_le n)
    have r1 : f7_next σ1 1 0 = some r := r1
    have r2 : f12_findFrom μ1 0 = some r := r2
    obtain ⟨K, q, a, b, l, σ2, μ2, p1, p2, p3, p4⟩ := finds_all j hC h0.2.2.2.1.cells hM hp hp1 t2 r3
    obtain ⟨r4, σ3, μ3, D', L', B', H', T', v1, v2, v3, v4, v5⟩ := act_of (P := RT) h0 p3 (by
      by_cases z : pn ≤ tn
      · exact Or.inl (fun k hk => by have := p4 k hk; omega)
      · exact Or.inr (fun k hk => by have := p4 k hk; omega)) (by
      by_cases z : ends (aI μ 2025) pn ≤ ends G tn
      · exact Or.inl (fun k hk => by rw [(p4 k hk).1, (p4 k hk).2.2]; omega)
      · exact Or.inr (fun k hk => by rw [(p4 k hk).1, (p4 k hk).2.2]; omega))
    have v4 : Rel0 σ3 μ3 D' L' B' H' T' := v4
    rw [k1, bnd_some, r1, bnd_some, stp, stp, k2, bnd_some, k3, bnd_some, r2, bnd_some, stp]
    unfold f11_replaceAll_j57 f12_replaceAll_j27
    rw [p1, bnd_some, p2, bnd_some]
    unfold f11_replaceAll_j117
    rw [stp, v1, bnd_some, stp, v2, bnd_some, p3.1.2.2.2, p3.2.1.2.2.1]
    rcases v3 with rfl | rfl
    · rw [if_pos rfl, if_pos rfl, c12_refuse, bnd_some]
      exact stA_er (c := 3) (t := 1) rfl (by decide) (by decide) rfl v4 (v5.2.2.2.2.2.2.ga (Or.inl rfl))
    · rw [if_neg (show ¬ (1 : Int32) = 0 by decide), if_neg (show ¬ (1 : Int32) = 0 by decide), c12_told, bnd_some]
      have := p3.pc.2.1
      exact stA_ok rfl rfl (nn_ofNat (by omega)) v4 (v5.2.2.2.2.2.2.ga (Or.inr rfl))
  · rw [if_neg hp1, if_pos hp1, c12_refuse, bnd_some]
    exact stA_er (c := 3) (t := 1) rfl (by decide) (by decide) rfl h0 GA.rf
theorem ga_replaceNext (h0 : Rel0 σ μ (f, n, hd, c, cu, ma, lf, ml) L B H T) (hrec : fI σ 1992 5 = 0) : stH (f11_replaceNext σ) [(3, 1)] (Int32.toInt64 0) (f12_replaceNext μ) (QA σ (f, n, hd, c, cu, ma, lf, ml) T) := by
  have hC : CT σ 1 L B f n := h0.2.1.1
  have hM : MT μ f n := h0.2.2.1.1
  have hn := hC.1
  obtain ⟨pn, hp⟩ := h0.pat
  have e0 : Int32.ofNat pn = 0 ↔ ¬ 1 ≤ pn := by have := hp.2.2.2.2.2.2; grind
  unfold f11_replaceNext f12_replaceNext
  rw [c7_isSet hp.1 hp.2.2.2.2.2.2, bnd_some, hp.2.2.2.1]
  simp only [ite_tz, decide_eq_true_eq, e0]
  by_cases hp1 : 1 ≤ pn
  · rw [if_pos hp1, if_neg (fun z : ¬ 1 ≤ pn => z hp1)]
    have i0 : inb 0 8 = true := by decide
    have e0 : (0 : Int32).toNatClampNeg = 0 := by decide
    have hc := h0.1.2.2.2.2.2.1
    have hcu := h0.1.2.2.2.2.2.2.2.1 0 (by omega)
    obtain ⟨r, r1, r2, r3⟩ := find_both hC hM hp hp1 hcu
    obtain ⟨r', r1', r2', r3'⟩ := find_both hC hM hp hp1 (Nat.zero_le n)
    have r1' : f7_next σ 1 0 = some r' := r1'
    have r2' : f12_findFrom μ 0 = some r' := r2'
    rw [i0, gd_true, gd_true, e0, h0.2.1.2.2.1.2 0 (by omega), h0.2.2.1.2.2.1.2 0 (by omega), r1, r2, bnd_some, bnd_some, stp, stp]
    by_cases hz : r = -1
    · rw [if_pos hz, if_pos hz, r1', r2', bnd_some, bnd_some, stp]
      exact ga_rplNext h0 hp hp1 (r3'.at.imp_right (fun ⟨p, q1, q2, q3, _⟩ => ⟨p, q2, q3⟩))
    · rw [if_neg hz, if_neg hz]
      exact ga_rplNext h0 hp hp1 (r3.at.imp_right (fun ⟨p, q1, q2, q3, _⟩ => ⟨p, q2, q3⟩))
  · rw [if_neg hp1, if_pos hp1, c12_refuse, bnd_some]
    exact stA_er (c := 3) (t := 1) rfl (by decide) (by decide) rfl h0 GA.rf
end R
