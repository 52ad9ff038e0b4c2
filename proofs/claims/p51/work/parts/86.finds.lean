/-! finds replaced -/
theorem ends_seg {f g : Nat → Int32} {p : Nat} : ∀ m, (∀ k, k < m → f (p + k) = g k) → ends f (p + m) = ends f p + ends g m := by
  intro m
  induction m with
  | zero => intro _; rfl
  | succ m ih =>
    intro h
    show ends f (p + m) + (if f (p + m) = 10 then 1 else 0) = ends f p + (ends g m + if g m = 10 then 1 else 0)
    rw [ih (fun k hk => h k (by omega)), h m (by omega)]
    omega
/-- the pattern, both sides -/
def PT (σ μ : Sto) (pn : Nat) (pt : Nat → Int32) (v : Int32) : Prop := fI σ 1990 1 = Int32.ofNat pn ∧ fI σ 1989 1 = v ∧ (∀ k, k < pn → aI σ 1991 k = pt k) ∧ fI μ 2017 15 = Int32.ofNat pn ∧ fI μ 2017 19 = v ∧ (∀ k, k < pn → aI μ 2025 k = pt k) ∧ pn ≤ 40
section R
variable {σ μ σ1 μ1 : Sto} {L B H : Nat} {f : Nat → Int32} {n c K q w pn : Nat} {hd : Nat → Int32} {cu : Nat → Nat} {ma lf ml : Nat → Int32} {T : Hst} {a b l : Nat → Nat} {G pt : Nat → Int32} {v : Int32} {o : Int64}
theorem Rel0.pat {D : Doc} (h : Rel0 σ μ D L B H T) : ∃ pn, PT σ μ pn (aI μ 2025) (fI σ 1989 1) := by
  obtain ⟨p1, p2, pn, p3, p4, p5, p6⟩ := h.2.2.2.2.2.2.1
  exact ⟨pn, p4, rfl, p6, p5, p1.symm, fun _ _ => rfl, p3⟩
theorem JP.pat (j : JP σ μ σ1 μ1 n K q a b l G w) (h : PT σ μ pn pt v) : PT σ1 μ1 pn pt v := by
  unfold PT at h ⊢
  rw [(j.1.1 1990 (by omega)).1, (j.1.1 1989 (by omega)).1, (j.1.1 1991 (by omega)).2.2.1, j.2.1.1 15 (by decide) (by decide) (by decide), j.2.1.1 19 (by decide) (by decide) (by decide), j.2.1.2.1 2025 (by omega) (by omega)]
  exact h
theorem find_both (hC : CT σ 1 L B f n) (hM : MT μ f n) (h : PT σ μ pn pt v) (hp : 1 ≤ pn) {i : Nat} (hi : i ≤ n) : ∃ r, f7_next σ 1 (Int32.ofNat i) = some r ∧ f12_findFrom μ (Int32.ofNat i) = some r ∧ isNx (fdB f n pt pn v) n i r := by
  obtain ⟨h1, h2, h3, h4, h5, h6, h7⟩ := h
  obtain ⟨r, r1, r2⟩ := c7_next hC h1 h2 h3 h7 hp rfl hi
  obtain ⟨r', r1', r2'⟩ := c12_findFrom hM h4 h5 h6 h7 rfl hi
  exact ⟨r, r1, by rw [r1', r2'.uniq r2], r2⟩
theorem isNx.at {i : Nat} {r : Int32} (h : isNx (fdB f n pt pn v) n i r) : r = -1 ∨ ∃ p, i ≤ p ∧ r = Int32.ofNat p ∧ p + pn ≤ n ∧ p < n ∧ ∀ k, k < pn → f (p + k) = pt k := by
  rcases h with ⟨p, a1, a2, a3, a4, rfl⟩ | ⟨a1, rfl⟩
  · refine Or.inr ⟨p, a1, rfl, fdB_in a3, a2, ?_⟩
    unfold fdB at a3
    simp only [Bool.and_eq_true, decide_eq_true_eq] at a3
    exact a3.1.2
  · exact Or.inl rfl
/-- one cursor left, both sides -/
theorem one_cursor (h0 : Rel0 σ μ (f, n, hd, c, cu, ma, lf, ml) L B H T) {p : Nat} (hp : p ≤ n) : ∃ σ' μ', f8_leaveOneCursor σ 1 (Int32.ofNat p) = some σ' ∧ f12_opensAt (uA (uI μ 2017 6 1) 2019 0 (Int32.ofNat p)) (Int32.ofNat p) = some μ' ∧ Rel σ' μ' := by
  obtain ⟨g, s, m, w, t⟩ := id h0
  obtain ⟨s1, ⟨s2, s3, s4, s5⟩, ⟨s6, s7⟩, s8, s9⟩ := s
  obtain ⟨m1, m2, ⟨m3, m4⟩, m5, m6⟩ := m
  have hw := w.cells
  unfold f8_leaveOneCursor
  have i0 : inb 0 8 = true := by decide
  have e0 : (0 : Int32).toNatClampNeg = 0 := by decide
  simp only [stp, i0, gd_true, e0]
  have hpe := ends_mono (f := f) hp
  obtain ⟨h', cc, ho⟩ := isOp.ex (h := hd) (m := ends f n + 1) (j := ends f p) (by omega)
  have a1 : CT (uA σ (1 + 4) 0 (Int32.ofNat p)) 1 L B f n := s1.congr rfl rfl (aI_uA' (by omega)) (aI_uA' (by omega))
  have sS : SC (uI (uA σ (1 + 4) 0 (Int32.ofNat p)) 1 6 1) 1 L B H (f, n, hd, 1, (fun _ => p), ma, lf, ml) := by
    refine ⟨a1.uI (by omega) (by omega), ⟨s2, s3, s4, fun j hj => ?_⟩, ⟨rfl, fun k hk => ?_⟩, fun k hk => ?_, fun k hk => ?_⟩
    · show aI (uA σ (1 + 4) 0 (Int32.ofNat p)) H j = _
      rw [aI_uA' (by omega)]
      exact s5 j hj
    · show aI (uA σ (1 + 4) 0 (Int32.ofNat p)) 5 k = _
      rw [aI_uA, if_pos rfl, if_pos (by omega)]
    · show aI (uA σ (1 + 4) 0 (Int32.ofNat p)) 6 k = _
      rw [aI_uA' (by omega)]
      exact s8 k hk
    · show aI (uA σ (1 + 4) 0 (Int32.ofNat p)) 7 k = _
      rw [aI_uA' (by omega)]
      exact s9 k hk
  have mS : SM (uA (uI μ 2017 6 1) 2019 0 (Int32.ofNat p)) (f, n, hd, 1, (fun _ => p), ma, lf, ml) := by
    refine ⟨m1.congr rfl rfl, m2, ⟨rfl, fun k hk => ?_⟩, m5, m6⟩
    rw [aI_uA, if_pos rfl, if_pos (by omega)]
  obtain ⟨σ', q, d, h2, k1, k2, k4, k5, k6, k7⟩ := c8_settleS sS hw ⟨by omega, by omega⟩ (fun _ _ => hp)
  obtain ⟨μ', p1, p2, p3⟩ := c12_opensAtS mS g.2.1 g.2.2.2.1 rfl hp ho
  have hq : q = 1 := by have := k2.1; have := k2.2.1; omega
  subst hq
  have hd0 : ∀ i, i < 1 → d i = p := fun i hi => by
    obtain ⟨j, hj, e⟩ := (k2.2.2.2 (d i)).mp ⟨i, hi, rfl⟩
    exact e.symm
  have hh : ∀ k, k ≤ ends f n → h2 k = h' k := by
    intro k hk
    obtain ⟨h1, c1, o1, o2⟩ := k4
    have o2 : isOp h1 (ends f n + 1) (ends f (d 0)) h2 c1 := o2
    rw [hd0 0 (by omega)] at o2
    exact ((o2.ext (by omega) o1).uniq ho (by omega)).2 k (by omega)
  rw [k1, bnd_some, p1]
  refine ⟨_, _, rfl, rfl, (f, n, h2, 1, d, ma, lf, ml), L, B, H, T, h0.sheet ?_ ?_ ?_ k5 ((p2.hext hh).cext rfl hd0) ?_⟩
  · exact Sm.trans (Sm.trans (Sm.uA (fun b hb => nsh_ne hb (by omega))) (Sm.uI (fun b hb => nsh_ne hb (by omega)))) k6
  · have f1 : mfr μ (uI μ 2017 6 1) := mfr.uI (by omega)
    have f2 : mfr (uI μ 2017 6 1) (uA (uI μ 2017 6 1) 2019 0 (Int32.ofNat p)) := by rw [uA_up1]; exact mfr.rA (by omega)
    exact (f1.trans f2).trans p3
  · refine g.opened (fun k hk => isOps.or k4 k (by omega)) ⟨by omega, by omega⟩ (fun i j a b => by omega) (fun i hi => by rw [hd0 i hi]; exact hp) (fun i hi => ?_)
    rw [hd0 i hi, hh _ hpe]
    exact ho.at (by omega)
  · unfold SW
    rw [k7]
    exact w
theorem rplNext (h0 : Rel0 σ μ (f, n, hd, c, cu, ma, lf, ml) L B H T) (hp : PT σ μ pn pt v) (hp1 : 1 ≤ pn) {r : Int32} (hr : r = -1 ∨ ∃ p, r = Int32.ofNat p ∧ p + pn ≤ n) : stH (f11_replaceNext_j59 σ r) [(3, 1)] o (f12_replaceNext_j38 μ r) RQ := by
  have hn := h0.1.1
  unfold f11_replaceNext_j59 f12_replaceNext_j38
  rcases hr with rfl | ⟨p, rfl, hpn⟩
  · rw [if_pos rfl, stp, if_pos rfl, c12_told, bnd_some]
    exact stH_ok rfl rfl ⟨_, _, _, _, _, h0⟩
  · rw [if_neg (ofNat_m1 (by omega)), stp, if_neg (ofNat_m1 (by omega))]
    obtain ⟨tn, σ1, μ1, G, t1, t2, t3, k1, k2, k3, j⟩ := JP.tape h0
    obtain ⟨σ2, μ2, a, b, l, p1, p2, p3, p4, p5, p6, p7, p8, p9⟩ := j.add (p := p) (r := p + pn) (e := tn) (by omega) (by omega) (by omega) hpn hn (Nat.le_refl _)
    have e1 : fI σ1 8 1 = Int32.ofNat tn := by
      rw [(j.1.1 8 (by omega)).1]
      exact t2
    have hPT : RelT (fun x a y b => RT x a y b ∧ x = Int32.ofNat tn) σ μ (f, n, hd, c, cu, ma, lf, ml) L B H T := by
      obtain ⟨g1, g2, g3, g4, g5, g6⟩ := h0
      exact ⟨g1, g2, g3, g4, ⟨g5, t2⟩, g6⟩
    obtain ⟨r1, σ3, μ3, D', L', B', H', T', v1, v2, v3, v4, v5, v6, v7, v8, v9⟩ := act_of hPT p3 (one_s nxK_le) (one_l nxK_le)
    obtain ⟨g1, g2, g3, g4, ⟨g5, g5'⟩, g6⟩ := v4
    have v4 : Rel0 σ3 μ3 D' L' B' H' T' := ⟨g1, g2, g3, g4, g5, g6⟩
    rw [k1, bnd_some, e1, (j.pat hp).1, i32_add, p1, bnd_some, v1, bnd_some, k2, bnd_some, k3, bnd_some, j.2.1.2.2.2, (j.pat hp).2.2.2.1, i32_add, p2, bnd_some, v2, bnd_some]
    rcases v3 with rfl | rfl
    · rw [if_pos rfl, if_pos rfl, c12_refuse, bnd_some]
      exact stH_er (c := 3) (t := 1) rfl (by decide) (by decide) rfl ⟨_, _, _, _, _, v4⟩
    · rw [if_neg (show ¬ (1 : Int32) = 0 by decide), if_neg (show ¬ (1 : Int32) = 0 by decide)]
      obtain ⟨f', n', hd', c', cu', ma', lf', ml'⟩ := D'
      have hn' : n' = nA n (nxK 0 p (p + pn) tn) a b l 0 := v5 rfl
      have hnx : nxK 0 p (p + pn) tn = 1 := by
        unfold nxK
        rw [if_neg (by omega)]
      rw [hnx] at hn' p5
      obtain ⟨y1, y2, y3⟩ := p5 (by omega)
      have e0 : nA n 1 a b l 0 = n - (b 0 - a 0) + l 0 := by
        rw [nA_k (by omega), nA_K]
      rw [e0, y1, y2, y3] at hn'
      obtain ⟨tm, tm1, tm2, tm3, tm4⟩ := g5
      have etm : tm = tn := by
        rw [g5'] at tm2
        have h1 := (i32_le (a := tn) (b := tm) (by omega) (by omega)).mp (by rw [tm2]; grind)
        have h2 := (i32_le (a := tm) (b := tn) (by omega) (by omega)).mp (by rw [tm2]; grind)
        omega
      obtain ⟨σ4, μ4, o1, o2, o3⟩ := one_cursor v4 (p := p + tn) (by omega)
      have i0 : inb 0 8 = true := by decide
      have e0 : (0 : Int32).toNatClampNeg = 0 := by decide
      have e11 : fI (uI μ3 2017 6 1) 2017 11 = Int32.ofNat tm := by
        rw [fI_uI, if_pos rfl, if_neg (by decide)]
        exact tm3
      have e19 : aI (uA (uI μ3 2017 6 1) 2019 0 (Int32.ofNat (p + tn))) 2019 0 = Int32.ofNat (p + tn) := by
        rw [aI_uA, if_pos rfl, if_pos rfl]
      simp only [g5', stp, i0, gd_true, e0, e11, etm, i32_add, e19, o1, o2, bnd_some, c12_told]
      exact stH_ok rfl rfl o3
theorem op_replaceNext (h : Rel σ μ) : stH (f11_replaceNext σ) [(3, 1)] o (f12_replaceNext μ) RQ := by
  obtain ⟨⟨f, n, hd, c, cu, ma, lf, ml⟩, L, B, H, T, h0⟩ := id h
  have hC : CT σ 1 L B f n := h0.2.1.1
  have hM : MT μ f n := h0.2.2.1.1
  have hn := hC.1
  obtain ⟨pn, hp⟩ := h0.pat
  have e0 : Int32.ofNat pn = 0 ↔ ¬ 1 ≤ pn := by have := hp.2.2.2.2.2.2; grind
  unfold f11_replaceNext f12_replaceNext
  rw [c7_isSet hp.1 hp.2.2.2.2.2.2, bnd_some, hp.2.2.2.1]
  simp only [ite_tz, decide_eq_true_eq, e0]
  by_cases hp1 : 1 ≤ pn
  · rw [if_pos hp1, if_neg (fun z : ¬ 1 ≤ pn => z hp1)]
    have i0 : inb 0 8 = true := by decide
    have e0 : (0 : Int32).toNatClampNeg = 0 := by decide
    have hc := h0.1.2.2.2.2.2.1
    have hcu := h0.1.2.2.2.2.2.2.2.1 0 (by omega)
    obtain ⟨r, r1, r2, r3⟩ := find_both hC hM hp hp1 hcu
    obtain ⟨r', r1', r2', r3'⟩ := find_both hC hM hp hp1 (Nat.zero_le n)
    have r1' : f7_next σ 1 0 = some r' := r1'
    have r2' : f12_findFrom μ 0 = some r' := r2'
    rw [i0, gd_true, gd_true, e0, h0.2.1.2.2.1.2 0 (by omega), h0.2.2.1.2.2.1.2 0 (by omega), r1, r2, bnd_some, bnd_some, stp, stp]
    by_cases hz : r = -1
    · rw [if_pos hz, if_pos hz, r1', r2', bnd_some, bnd_some, stp]
      exact rplNext h0 hp hp1 (r3'.at.imp_right (fun ⟨p, q1, q2, q3, _⟩ => ⟨p, q2, q3⟩))
    · rw [if_neg hz, if_neg hz]
      exact rplNext h0 hp hp1 (r3.at.imp_right (fun ⟨p, q1, q2, q3, _⟩ => ⟨p, q2, q3⟩))
  · rw [if_neg hp1, if_pos hp1, c12_refuse, bnd_some]
    exact stH_er (c := 3) (t := 1) rfl (by decide) (by decide) rfl h
theorem finds_all (j : JP σ μ σ1 μ1 n 0 0 a b l G w) (hC : CT σ 1 L B f n) (hL : (L = 2 ∧ B = 3 ∧ H = 4) ∨ (L = 20 ∧ B = 21 ∧ H = 22)) (hM : MT μ f n) (hp : PT σ μ pn pt v) (hp1 : 1 ≤ pn) (ht : fI σ 8 1 = Int32.ofNat w) {r0 : Int32} (hr0 : isNx (fdB f n pt pn v) n 0 r0) : ∃ K q a b l σ2 μ2, loopF (fun s_57 => f11_replaceAll_b57 s_57.1 s_57.2.1 s_57.2.2) FU (σ1, r0, 0) = some σ2 ∧ loopF (fun s_27 => f12_replaceAll_b27 s_27.1 s_27.2) FU (μ1, r0) = some μ2 ∧ JP σ μ σ2 μ2 n K q a b l G w ∧ ∀ k, k < K → l k = w ∧ b k = a k + pn ∧ ends f (b k) = ends f (a k) + ends pt pn := by
  have hn := hC.1
  have key : ∃ r r', loopF (fun s_57 => f11_replaceAll_b57 s_57.1 s_57.2.1 s_57.2.2) FU (σ1, r0, 0) = some r ∧ loopF (fun s_27 => f12_replaceAll_b27 s_27.1 s_27.2) FU (μ1, r0) = some r' ∧ ∃ K q a b l, JP σ μ r r' n K q a b l G w ∧ ∀ k, k < K → l k = w ∧ b k = a k + pn ∧ ends f (b k) = ends f (a k) + ends pt pn := by
    refine loop2 3000 (fun k s s' => ∃ S M K q a b l i r, s = (S, r, Int32.ofNat k) ∧ s' = (M, r) ∧ JP σ μ S M n K q a b l G w ∧ K ≤ k ∧ k ≤ i ∧ q ≤ i ∧ isNx (fdB f n pt pn v) n i r ∧ ∀ k, k < K → l k = w ∧ b k = a k + pn ∧ ends f (b k) = ends f (a k) + ends pt pn) ?_ 0 ⟨σ1, μ1, 0, 0, a, b, l, 0, r0, rfl, rfl, j, Nat.le_refl _, Nat.zero_le _, Nat.zero_le _, hr0, fun k hk => by omega⟩ (by omega) (by (show _ < FU; unfold FU; omega)) (by (show _ < FU; unfold FU; omega))
    rintro k s s' hk ⟨S, M, K, q, a, b, l, i, r, rfl, rfl, j, hK, hki, hqi, hr, hl⟩
    show (∃ t t', f11_replaceAll_b57 S r (Int32.ofNat k) = _ ∧ f12_replaceAll_b27 M r = _ ∧ _) ∨ ∃ r₁ r', f11_replaceAll_b57 S r (Int32.ofNat k) = _ ∧ f12_replaceAll_b27 M r = _ ∧ _
    rcases hr.at with rfl | ⟨p, q1, rfl, q2, q3, q4⟩
    · refine Or.inr ⟨S, M, ?_, ?_, K, q, a, b, l, j, hl⟩
      · unfold f11_replaceAll_b57
        rw [if_pos rfl]
        split <;> rfl
      · unfold f12_replaceAll_b27
        rw [if_pos rfl]
    · obtain ⟨S', M', a', b', l', k1, k2, k3, k4, k5, k6⟩ := j.add (p := p) (r := p + pn) (e := w) (by omega) (by omega) (by omega) q2 hn (Nat.le_refl _)
      have hnx : nxK K p (p + pn) w = K + 1 := by
        unfold nxK
        rw [if_neg (by omega)]
      rw [hnx] at k3 k5
      obtain ⟨r2, e1, e2, e3⟩ := find_both (k3.ct hC hL) (k3.mt hM) (k3.pat hp) hp1 q2
      have hk3 : ¬ (3000 : Int32) ≤ Int32.ofNat k := fun z => by
        have := (i32_le (a := 3000) (by omega) (by omega)).mp z
        omega
      have hS := j.pat hp
      have hS' := k3.pat hp
      have e8 : fI S 8 1 = Int32.ofNat w := by
        rw [(j.1.1 8 (by omega)).1]
        exact ht
      have f1 : f11_replaceAll_b57 S (Int32.ofNat p) (Int32.ofNat k) = some (.inl (S', r2, Int32.ofNat (k + 1))) := by
        unfold f11_replaceAll_b57
        rw [if_neg hk3, if_neg (ofNat_m1 (by omega)), hS.1, i32_add, stp, e8, k1, bnd_some, e1, bnd_some, stp, i32_succ]
        rfl
      have f2 : f12_replaceAll_b27 M (Int32.ofNat p) = some (.inl (M', r2)) := by
        unfold f12_replaceAll_b27
        rw [if_neg (ofNat_m1 (by omega)), hS.2.2.2.1, j.2.1.2.2.2, i32_add, k2, bnd_some, hS'.2.2.2.1, i32_add, e2, bnd_some]
        rfl
      rw [f1, f2]
      refine Or.inl ⟨_, _, rfl, rfl, by omega, S', M', K + 1, p + pn, a', b', l', p + pn, r2, rfl, rfl, k3, by omega, by omega, Nat.le_refl _, e3, fun i hi => ?_⟩
      by_cases e : i < K
      · rw [(k4 i e).1, (k4 i e).2.1, (k4 i e).2.2]
        exact hl i e
      · rw [show i = K by omega, (k5 (by omega)).1, (k5 (by omega)).2.1, (k5 (by omega)).2.2]
        exact ⟨rfl, rfl, ends_seg pn q4⟩
  obtain ⟨r, r', k1, k2, K, q, a, b, l, k3, k4⟩ := key
  exact ⟨K, q, a, b, l, r, r', k1, k2, k3, k4⟩
theorem op_replaceAll (h : Rel σ μ) : stH (f11_replaceAll σ) [(3, 1)] o (f12_replaceAll μ) RQ := by
  obtain ⟨⟨f, n, hd, c, cu, ma, lf, ml⟩, L, B, H, T, h0⟩ := id h
  have hC : CT σ 1 L B f n := h0.2.1.1
  have hM : MT μ f n := h0.2.2.1.1
  have hn := hC.1
  obtain ⟨pn, hp⟩ := h0.pat
  have e0 : Int32.ofNat pn = 0 ↔ ¬ 1 ≤ pn := by have := hp.2.2.2.2.2.2; grind
  unfold f11_replaceAll f12_replaceAll
  rw [c7_isSet hp.1 hp.2.2.2.2.2.2, bnd_some, hp.2.2.2.1]
  simp only [ite_tz, decide_eq_true_eq, e0]
  by_cases hp1 : 1 ≤ pn
  · rw [if_pos hp1, if_neg (fun z : ¬ 1 ≤ pn => z hp1)]
    obtain ⟨tn, σ1, μ1, G, t1, t2, t3, k1, k2, k3, j⟩ := JP.tape h0
    obtain ⟨r, r1, r2, r3⟩ := find_both (j.ct hC h0.2.2.2.1.cells) (j.mt hM) (j.pat hp) hp1 (Nat.zero_le n)
    have r1 : f7_next σ1 1 0 = some r := r1
    have r2 : f12_findFrom μ1 0 = some r := r2
    obtain ⟨K, q, a, b, l, σ2, μ2, p1, p2, p3, p4⟩ := finds_all j hC h0.2.2.2.1.cells hM hp hp1 t2 r3
    obtain ⟨r4, σ3, μ3, D', L', B', H', T', v1, v2, v3, v4, v5⟩ := act_of (P := RT) h0 p3 (by
      by_cases z : pn ≤ tn
      · exact Or.inl (fun k hk => by have := p4 k hk; omega)
      · exact Or.inr (fun k hk => by have := p4 k hk; omega)) (by
      by_cases z : ends (aI μ 2025) pn ≤ ends G tn
      · exact Or.inl (fun k hk => by rw [(p4 k hk).1, (p4 k hk).2.2]; omega)
      · exact Or.inr (fun k hk => by rw [(p4 k hk).1, (p4 k hk).2.2]; omega))
    have v4 : Rel0 σ3 μ3 D' L' B' H' T' := v4
    rw [k1, bnd_some, r1, bnd_some, stp, stp, k2, bnd_some, k3, bnd_some, r2, bnd_some, stp]
    unfold f11_replaceAll_j57 f12_replaceAll_j27
    rw [p1, bnd_some, p2, bnd_some]
    unfold f11_replaceAll_j117
    rw [stp, v1, bnd_some, stp, v2, bnd_some, p3.1.2.2.2, p3.2.1.2.2.1]
    rcases v3 with rfl | rfl
    · rw [if_pos rfl, if_pos rfl, c12_refuse, bnd_some]
      exact stH_er (c := 3) (t := 1) rfl (by decide) (by decide) rfl ⟨_, _, _, _, _, v4⟩
    · rw [if_neg (show ¬ (1 : Int32) = 0 by decide), if_neg (show ¬ (1 : Int32) = 0 by decide), c12_told, bnd_some]
      exact stH_ok rfl rfl ⟨_, _, _, _, _, v4⟩
  · rw [if_neg hp1, if_pos hp1, c12_refuse, bnd_some]
    exact stH_er (c := 3) (t := 1) rfl (by decide) (by decide) rfl h
end R
