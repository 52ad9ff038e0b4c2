/-! the law's branches -/
section R
variable {σ μ σ1 μ1 : Sto} {L B H : Nat} {f : Nat → Int32} {n c K q w : Nat} {hd : Nat → Int32} {cu : Nat → Nat} {ma lf ml : Nat → Int32} {T : Hst} {a b l : Nat → Nat} {G : Nat → Int32}
theorem plan_cursorsK (g : GD (f, n, hd, c, cu, ma, lf, ml)) (s : SC σ 1 L B H (f, n, hd, c, cu, ma, lf, ml)) (m : SM μ (f, n, hd, c, cu, ma, lf, ml)) (j : JP σ μ σ1 μ1 n 0 0 a b l G w) {a1 : Nat} {x2 x3 : Int32} (hx : x3 = Int32.ofNat w) {gb : Sto × Int32 → Option ((Sto × Int32) ⊕ Sto)} (hgb : ∀ M k, gb (M, k) = f12_types_b10 M k) : ∃ K q a b l σ2 μ2, f11_planAtCursors_j13 a1 x2 x3 σ1 0 = some σ2 ∧ loopF gb FU (μ1, 0) = some μ2 ∧ JP σ μ σ2 μ2 n K q a b l G w ∧ (∀ k, k < K → a k = b k ∧ l k = w) ∧ plk σ1 μ1 σ2 μ2 ∧ (w ≠ 0 → K = c) := by
  have hc := g.2.2.2.2.2.1
  have hn := g.1
  have hcu := g.2.2.2.2.2.2.2.1
  have hsc := g.2.2.2.2.2.2.1
  have key : ∃ r r', loopF (fun s_13 => f11_planAtCursors_b13 a1 x2 x3 s_13.1 s_13.2) FU (σ1, 0) = some r ∧ loopF gb FU (μ1, 0) = some r' ∧ ∃ K q a b l, JP σ μ r r' n K q a b l G w ∧ (∀ k, k < K → a k = b k ∧ l k = w) ∧ plk σ1 μ1 r r' ∧ (w ≠ 0 → K = c) := by
    refine loop2 c (fun k s s' => s.2 = Int32.ofNat k ∧ s'.2 = Int32.ofNat k ∧ ∃ K q a b l, JP σ μ s.1 s'.1 n K q a b l G w ∧ K ≤ k ∧ (∀ i, k ≤ i → i < c → q ≤ cu i) ∧ (∀ k, k < K → a k = b k ∧ l k = w) ∧ plk σ1 μ1 s.1 s'.1 ∧ (w ≠ 0 → K = k)) ?_ 0 ⟨rfl, rfl, 0, 0, a, b, l, j, Nat.le_refl _, fun _ _ _ => Nat.zero_le _, fun k hk => by omega, plk.rf, fun _ => rfl⟩ (by omega) (by (show _ < FU; unfold FU; omega)) (by (show _ < FU; unfold FU; omega))
    rintro k ⟨S, y⟩ ⟨M, z⟩ hk ⟨e1, e2, K, q, a, b, l, j, hK, hq, hl, hp, hw⟩
    have e1 : y = Int32.ofNat k := e1
    have e2 : z = Int32.ofNat k := e2
    subst e1 e2
    have j : JP σ μ S M n K q a b l G w := j
    have hp : plk σ1 μ1 S M := hp
    obtain ⟨f1, f2, f3, f4, f5⟩ := j.frC s m
    rw [hgb]
    unfold f11_planAtCursors_b13 f12_types_b10
    have e8 : fI M 2017 28 = Int32.ofNat w := j.2.1.2.2.2
    simp only [f1, f2, i32_le (show c < 2147483648 by omega) (show k < 2147483648 by omega), ofNat_clamp (show k < 2147483648 by omega)]
    by_cases hq2 : c ≤ k
    · rw [if_pos hq2, if_pos hq2]
      exact Or.inr ⟨_, _, rfl, rfl, K, q, a, b, l, j, hl, hp, fun z => by rw [hw z]; omega⟩
    · rw [if_neg hq2, if_neg hq2, inb_n (show k < 8 by omega) (by omega), gd_true, gd_true, gd_true, (f5 k (by omega)).1, (f5 k (by omega)).2, stp, hx, e8]
      obtain ⟨S', M', a', b', l', k1, k2, k3, k4, k5, k6, k7, k8, k9⟩ := j.add (p := cu k) (r := cu k) (e := w) (by omega) (hq k (Nat.le_refl _) (by omega)) (Nat.le_refl _) (hcu k (by omega)) hn (Nat.le_refl _)
      rw [k1, k2, bnd_some, bnd_some, i32_succ]
      refine Or.inl ⟨_, _, rfl, rfl, by omega, rfl, rfl, _, _, a', b', l', k3, ?_, fun i h1 h2 => ?_, fun i hi => ?_, hp.trans ⟨k6, k7, k8, k9⟩, fun z => ?_⟩
      · unfold nxK
        split <;> omega
      · exact Nat.le_of_lt (hsc k i (by omega) h2)
      · by_cases e : i < K
        · obtain ⟨y1, y2, y3⟩ := k4 i e
          rw [y1, y2, y3]
          exact hl i e
        · have e3 : K < nxK K (cu k) (cu k) w ∧ i = K := by
            unfold nxK at hi ⊢
            split at hi <;> rename_i z
            · omega
            · rw [if_neg z]
              omega
          obtain ⟨y1, y2, y3⟩ := k5 e3.1
          rw [e3.2, y1, y2, y3]
          exact ⟨rfl, rfl⟩
      · unfold nxK
        rw [if_neg (fun y => z y.2), hw z]
  obtain ⟨r, r', k1, k2, K, q, a, b, l, k3, k4, k5, k6⟩ := key
  refine ⟨K, q, a, b, l, r, r', ?_, k2, k3, k4, k5, k6⟩
  unfold f11_planAtCursors_j13
  rw [k1, bnd_some]

/-- letters typed: at least one cursor takes them -/
theorem q_type (h : In σ (f, n, hd, c, cu, ma, lf, ml) T) {m : Nat} (h8 : fI σ 8 1 = Int32.ofNat m) (hm : 1 ≤ m ∧ m ≤ 200) (hrec : fI σ 1992 5 = 0) : Ref σ (f, n, hd, c, cu, ma, lf, ml) T (f11_type σ) ∨ ∃ n' σ' D' T', 1 ≤ n' ∧ n' ≤ 3000 ∧ f11_type σ = some (.inl (Int32.ofNat n', σ')) ∧ In σ' D' T' ∧ Sm osh σ σ' ∧ AK σ σ' (f, n, hd, c, cu, ma, lf, ml) T T' ∧ lns D' = lns (f, n, hd, c, cu, ma, lf, ml) := by
  obtain ⟨μ, L, B, H, h0⟩ := h
  have hc18 := h0.1.2.2.2.2.2.1
  obtain ⟨σ1, μ1, G, k1, j, hG⟩ := JP.tapeG h0 h8 hm.2
  obtain ⟨K, q, a, b, l, σ2, μ2, p1, p2, p3, p4, p5, p6⟩ := plan_cursorsK h0.1 h0.2.1 h0.2.2.1 j (a1 := 9) (x2 := 0) (x3 := fI σ 8 1) h8 (gb := fun s_10 => f12_types_b10 s_10.1 s_10.2) (fun _ _ => rfl)
  obtain ⟨r, σ3, μ3, D', L', B', H', T', v1, v2, v3, v4, v5, v6, v7, v8, v9⟩ := act_of (P := RT) h0 p3 (ins_s p4) (ins_l p4)
  have v4 : Rel0 σ3 μ3 D' L' B' H' T' := v4
  have hPF := v9.2.2
  have eC : f11_planAtCursors σ 9 0 (fI σ 8 1) = some σ2 := by
    unfold f11_planAtCursors
    rw [k1, bnd_some, stp, p1]
  unfold f11_type
  rw [eC, bnd_some, v1, bnd_some]
  rcases v3 with rfl | rfl
  · rw [if_pos rfl]
    obtain ⟨n1, n2, n3, n4⟩ := (hPF.2.1 rfl).1
    subst n1 n2
    exact Or.inl ⟨σ3, rfl, ⟨_, _, _, _, v4⟩, hPF.1, n3, n4⟩
  · rw [if_neg (show ¬ (1 : Int32) = 0 by decide)]
    have hr3 : fI σ3 1992 5 = 0 := (by rw [(hPF.1 1992 (by unfold osh; omega)).1]; exact hrec)
    rw [typed_off hr3, bnd_some]
    have hK : K = c := p6 (by omega)
    have hn' : D'.2.1 = nA n K a b l 0 := v5 rfl
    rcases hPF.2.2 rfl with ⟨k, -⟩ | ⟨-, k0, -, k1, k2⟩
    · omega
    · have hsum := p3.2.2.1.2.2.1.sum (l := l)
      have hab : sg (fun k => b k - a k) K = 0 := by
        rw [sg_ext (h' := fun _ => 0) (fun k hk => by rw [(p4 k hk).1, Nat.sub_self])]
        have : ∀ K, sg (fun _ => 0) K = 0 := fun K => by
          induction K with
          | zero => rfl
          | succ K ih => show sg _ K + 0 = 0; rw [ih]
        exact this K
      have hl1 : 1 ≤ sg l K := by
        have e : sg l K = sg l (K - 1) + l (K - 1) := by
          rw [show sg l K = sg l (K - 1 + 1) by rw [show K - 1 + 1 = K by omega]]
          rfl
        rw [e, (p4 (K - 1) (by omega)).2]
        omega
      obtain ⟨f', n', hd', c', cu', ma', lf', ml'⟩ := D'
      have hn' : n' = nA n K a b l 0 := hn'
      have eS : fI σ3 1 1 = Int32.ofNat n' := v4.2.1.1.2.2.1
      rw [eS]
      have k0 : nA n K a b l 0 ≤ 3000 := k0
      exact Or.inr ⟨n', σ3, _, T', by omega, by omega, rfl, ⟨_, _, _, _, v4⟩, hPF.1, k1, k2.lns⟩
end R
section B
variable {σ : Sto} {τ : LawS} {N x : Nat} {par cho : Nat → Nat} {Bf Af : Nat → Doc} {D D' : Doc} {T T' : Hst}
theorem AK.new {σ' : Sto} (h : AK σ σ' D T T') (h4 : fI σ 24 4 = 0) (h3 : fI σ 24 3 = 0) : T' = newT D T ∧ fI σ' 24 3 = 0 := by
  obtain ⟨h1, ⟨-, -, k, -⟩ | ⟨k, -⟩⟩ := h
  · exact ⟨k, h1.trans h3⟩
  · exact absurd h4 k
theorem undo_1 (h : In σ D (N, x, par, cho, Bf, Af)) (hx : x ≠ 0) (hr : Rst σ) : ∃ σ', f11_undo σ 1 = some (.inl (1, σ')) ∧ In σ' (Bf x) (N, par x, par, cho, Bf, upD Af x D) ∧ Rst σ' := by
  obtain ⟨σ', k1, k2, k3, k4⟩ := q_undo (l := 1) h (by omega) (by omega) (fun i hi => by rw [show i = 0 by omega]; exact hx)
  exact ⟨σ', k1, k2, k3.1, by rw [(k4 1992 (by unfold osh; omega)).1]; exact hr.2⟩
theorem redo_1 (h : In σ D (N, x, par, cho, Bf, Af)) (hx : cho x ≠ 0) (hr : Rst σ) : ∃ σ', f11_redo σ 1 = some (.inl (1, σ')) ∧ In σ' (Af (cho x)) (N, cho x, par, cho, Bf, Af) ∧ Rst σ' := by
  obtain ⟨μ, L, B, H, h0⟩ := h
  obtain ⟨k, σ', μ', k1, k2, k3, k4, k5, k6, k7⟩ := sp_redo h0 (l := 1) (by omega) (by omega)
  have hk : k = 1 := by
    rcases Nat.lt_or_ge k 1 with z | z
    · rcases k3 with y | y
      · exact y
      · rw [show k = 0 by omega] at y
        exact absurd y hx
    · omega
  subst hk
  exact ⟨σ', k1, ⟨μ', L, B, H, k5⟩, k6.1, by rw [(k7 1992 (by unfold osh; omega)).1]; exact hr.2⟩
theorem cB_lt {P : Nat → Bool} {j n : Nat} (hj : j < n) (h : P j = true) : cB P j < cB P n := by
  have h1 := cB_mono (P := P) (show j + 1 ≤ n by omega)
  have h2 : cB P (j + 1) = cB P j + (if P j = true then 1 else 0) := rfl
  rw [if_pos h] at h2
  omega
theorem cB_ext {P P' : Nat → Bool} : ∀ n, (∀ j, j < n → P' j = P j) → cB P' n = cB P n := by
  intro n
  induction n with
  | zero => intro _; rfl
  | succ n ih =>
    intro h
    rw [cB, cB, ih (fun j hj => h j (by omega)), h n (by omega)]
/-- a node more: its number among the continuations -/
theorem cB_new {p : Nat → Nat} {n x : Nat} (e : ∀ j, j < n → par (j + 1) = p (j + 1)) (h : par (n + 1) = x) : cB (ctB par x) n = cB (ctB p x) n ∧ cB (ctB par x) (n + 1) = cB (ctB p x) n + 1 ∧ ctB par x n = true := by
  have h1 : cB (ctB par x) n = cB (ctB p x) n := cB_ext n (fun j hj => by unfold ctB; rw [e j hj])
  have h2 : ctB par x n = true := by
    unfold ctB
    rw [h]
    exact decide_eq_true rfl
  refine ⟨h1, ?_, h2⟩
  rw [cB, h1, if_pos h2]
/-- no such branch -/
theorem branches_end (h : In τ.2 D T) (hr : Rst τ.2) (hl : Ln τ D) : Turn (fL_branches_j310 τ 1) := by
  obtain ⟨N, x, par, cho, Bf, Af⟩ := T
  obtain ⟨k1, k2⟩ := q_acts3 h
  have k3 : f11_branch (τ.1, τ.2).2 (Int32.ofNat (cB (ctB par x) N)) = some (.inr (4, τ.2)) := q_branchNo h (fun j hj hc e => by
    have h1 := cB_lt hj hc
    have h2 := (ofNat_eq (by omega) (by omega)).mp e
    omega)
  unfold fL_branches_j310
  rw [stp, if_neg (show ¬ (1 : Int32) = 0 by decide), k1, nox_inl, bnd_some, dn_12, k3, hdl_inr (v := -1000004) rfl, bnd_some, if_pos rfl]
  exact ⟨1, _, D, _, rfl, h, hr, hl, rfl⟩
theorem branches_ok (h : In τ.2 D T) (hr : Rst τ.2) (hl : Ln τ D) : Turn (fL_branches τ) := by
  obtain ⟨N, x, par, cho, Bf, Af⟩ := T
  have w := h.wf
  obtain ⟨x1, s1, s2, s3, s4⟩ := sees_D (a1 := 2) (by decide) h
  have h1 : In x1.2 D (N, x, par, cho, Bf, Af) := by rw [s2]; exact h
  have r1 : Rst x1.2 := by rw [s2]; exact hr
  obtain ⟨c1, c2⟩ := q_acts3 h1
  generalize hcc : cB (ctB par x) N = c at c1 c2
  have i0 : inb (0 : Int32) 40 = true := by decide
  have c0 : (0 : Int32).toNatClampNeg = 0 := by decide
  have hu : In (uT (x1.1, x1.2) 43 0 120).2 D (N, x, par, cho, Bf, Af) := h1
  obtain ⟨σ1, f1, f2, f3, f4, f5⟩ := feeds_ok (a1 := 43) (m := 1) hu (by omega) (by decide) (fun k hk => by
    show isLt (up2 x1.1 43 0 120 43 k) = true
    rw [up2_at, if_pos (by omega)]
    decide)
  have f1 : fL_feeds (uT (x1.1, x1.2) 43 0 120) 43 1 = _ := f1
  unfold fL_branches
  rw [s1, bnd_some, c1, nox_inl, bnd_some, stp, i0, gd_true, c0, stp, f1, bnd_some, if_neg (show ¬ (1 : Int32) = 0 by decide)]
  -- the rows
  generalize hR : (uT (x1.1, x1.2) 43 0 120).1 = R
  have R2 : SR (R 2) D := by
    rw [← hR]
    show SR (up2 x1.1 43 0 120 2) D
    rw [up2_ne (by decide)]
    exact s4
  have R45 : ∀ k, k < 16 → (lns D).1 k = R 45 k := fun k hk => by
    rw [← hR]
    show _ = up2 x1.1 43 0 120 45 k
    rw [up2_ne (by decide), s3 45 (by decide)]
    exact hl k hk
  obtain ⟨q24, q92⟩ := f3.q (by omega) (by omega)
  have r2 : Rst σ1 := ⟨by rw [q24]; exact r1.1, by rw [q92]; exact r1.2⟩
  have g4 := f2.grp r2.1
  by_cases z8 : Int32.ofNat c ≤ 8
  · rw [if_pos z8, dn_0]
    obtain ⟨f, n, hd, m, cu, ma, lf, ml⟩ := D
    rcases q_type (σ := (R, σ1).2) f2 (m := 1) f4 ⟨by omega, by omega⟩ r2.2 with ⟨σ2, t1, t2, t3, t4, t5⟩ | ⟨n1, σ2, D1, T1, t1, t2, t3, t4, t5, t6, t7⟩
    · rw [t1, hdl_inr (v := -1000003) rfl, bnd_some, stp, if_pos rfl]
      exact Turn.like (τ := (R, σ2)) t2 ⟨t4.trans r2.1, by show fI σ2 1992 5 = 0; rw [(t3 1992 (by unfold osh; omega)).1]; exact r2.2⟩ R45 (by decide) (by decide) R2
    · obtain ⟨e1, e2⟩ := t6.new g4 r2.1
      subst e1
      have r3 : Rst σ2 := ⟨e2, by rw [(t5 1992 (by unfold osh; omega)).1]; exact r2.2⟩
      have t4 : In σ2 D1 (N + 1, N + 1, upn par (N + 1) x, upn (upn cho (N + 1) 0) x (N + 1), upD Bf (N + 1) (f, n, hd, m, cu, ma, lf, ml), Af) := t4
      obtain ⟨x2, a1, a2, a3, a4⟩ := sees_D (τ := (R, σ2)) (a1 := 3) (by decide) t4
      have a2 : x2.2 = σ2 := a2
      obtain ⟨σ3, b1, b2, b3⟩ := undo_1 (σ := x2.2) (by rw [a2]; exact t4) (by omega) (by rw [a2]; exact r3)
      have eB : upD Bf (N + 1) (f, n, hd, m, cu, ma, lf, ml) (N + 1) = (f, n, hd, m, cu, ma, lf, ml) := if_pos rfl
      rw [eB, upn_at] at b2
      have hno : ¬ Int32.ofNat n1 = -1000003 := fun w => by
        have := i32_lt0 (a := n1) (by omega)
        rw [w] at this
        exact this (by decide)
      obtain ⟨x3, d1, d2, d3⟩ := like_D (τ := (x2.1, σ3)) (a1 := 2) (by decide) (by decide) b2 (by
        show SR (x2.1 2) _
        rw [a3 2 (by decide)]
        exact R2)
      have d2 : x3.2 = σ3 := d2
      rw [t3, hdl_inl, bnd_some, stp, if_neg hno, a1, bnd_some, dn_10, b1, hdl_inl, bnd_some, if_pos rfl, d1, bnd_some, if_neg (show ¬ (1 : Int32) = 0 by decide), dn_2]
      -- a part replaced at the beginning
      have b8 : fI σ3 8 1 = Int32.ofNat 1 := by
        obtain ⟨σ3', b1', b2', b3', b4'⟩ := q_undo (l := 1) (σ := x2.2) (D := D1) (by rw [a2]; exact t4) (by omega) (by omega) (fun i hi => by rw [show i = 0 by omega]; show N + 1 ≠ 0; omega)
        have b1' : f11_undo x2.2 1 = some (.inl (1, σ3')) := b1'
        rw [b1'] at b1
        cases b1
        rw [(b4' 8 (by unfold osh; omega)).1, a2, (t5 8 (by unfold osh; omega)).1]
        exact f4
      have hx3 : In x3.2 (f, n, hd, m, cu, ma, lf, ml) (N + 1, x, upn par (N + 1) x, upn (upn cho (N + 1) 0) x (N + 1), upD Bf (N + 1) (f, n, hd, m, cu, ma, lf, ml), upD Af (N + 1) D1) := by rw [d2]; exact b2
      have rx3 : Rst x3.2 := by rw [d2]; exact b3
      have hn3 := h.gd.1
      have hL3 : ∀ v : Nat → Nat → Int32, v 45 = x3.1 45 → ∀ k, k < 16 → lf k = v 45 k := fun v hv k hk => by
        rw [hv, d3 45 (by decide)]
        show _ = x2.1 45 k
        rw [a3 45 (by decide)]
        exact R45 k hk
      rcases q_replace hx3 (p := 0) (r := 0) (m := 1) (Nat.le_refl _) (Nat.zero_le _) (by rw [d2]; exact b8) (by omega) with ⟨σ4, g1, g2, g3, g4, g5⟩ | ⟨σ4, f', hd', c', cu', ma', ml', T', g1, g2, g3, g4', g5, g6, g7⟩
      · have g1 : f11_replace x3.2 0 0 = some (.inr (3, σ4)) := g1
        rw [g1, hdl_inr (v := -1000003) rfl, bnd_some, stp, if_pos rfl]
        exact ⟨1, _, _, _, rfl, g2, ⟨by show fI σ4 24 3 = 0; rw [g4]; exact rx3.1, by show fI σ4 1992 5 = 0; rw [(g3 1992 (by unfold osh; omega)).1]; exact rx3.2⟩, hL3 _ rfl, rfl⟩
      · have g1 : f11_replace x3.2 0 0 = some (.inl (Int32.ofNat (n - (0 - 0) + 1), σ4)) := g1
        obtain ⟨e3, e4⟩ := (g5 (by omega)).new (hx3.grp rx3.1) rx3.1
        subst e3
        have r4 : Rst σ4 := ⟨e4, by rw [(g3 1992 (by unfold osh; omega)).1]; exact rx3.2⟩
        have hN2 := g2.gd.1
        have hN2 : n - (0 - 0) + 1 ≤ 3000 := hN2
        -- names for the tree now
        generalize hD : (f, n, hd, m, cu, ma, lf, ml) = D at *
        generalize hD2 : (f', n - (0 - 0) + 1, hd', c', cu', ma', lf, ml') = D2 at *
        have hlD2 : ∀ k, (lns D2).1 k = lf k := fun k => by rw [← hD2]; rfl
        generalize hp2 : upn (upn par (N + 1) x) (N + 1 + 1) x = p2
        generalize hc2 : upn (upn (upn (upn cho (N + 1) 0) x (N + 1)) (N + 1 + 1) 0) x (N + 1 + 1) = ch2
        generalize hB2 : upD (upD Bf (N + 1) D) (N + 1 + 1) D = B2
        have g2 : In σ4 D2 (N + 1 + 1, N + 1 + 1, p2, ch2, B2, upD Af (N + 1) D1) := by
          rw [← hp2, ← hc2, ← hB2]
          exact g2
        have hp1 : p2 (N + 1) = x := by rw [← hp2, upn_ne (by omega), upn_at]
        have hp3 : p2 (N + 1 + 1) = x := by rw [← hp2, upn_at]
        have hp0 : ∀ j, j < N → p2 (j + 1) = par (j + 1) := fun j hj => by rw [← hp2, upn_ne (by omega), upn_ne (by omega)]
        have hB1 : B2 (N + 1) = D := by
          rw [← hB2]
          unfold upD
          rw [if_neg (by omega), if_pos rfl]
        have hB3 : B2 (N + 1 + 1) = D := by
          rw [← hB2]
          unfold upD
          rw [if_pos rfl]
        obtain ⟨y1, y2, y3⟩ := cB_new (par := p2) (p := par) (n := N) (x := x) hp0 hp1
        obtain ⟨y4, y5, y6⟩ := cB_new (par := p2) (p := p2) (n := N + 1) (x := x) (fun _ _ => rfl) hp3
        rw [hcc] at y1 y2
        rw [y2] at y5
        obtain ⟨x4, m1, m2, m3, m4⟩ := sees_D (τ := (x3.1, σ4)) (a1 := 4) (by decide) g2
        have m2 : x4.2 = σ4 := m2
        have hno2 : ¬ Int32.ofNat (n - (0 - 0) + 1) = -1000003 := fun w => by
          have := i32_lt0 (a := n - (0 - 0) + 1) (by omega)
          rw [w] at this
          exact this (by decide)
        rw [g1, hdl_inl, bnd_some, stp, if_neg hno2, m1, bnd_some, if_neg (fun w => by have := (i32_le0 (by omega)).mp w; omega), if_neg (fun w => by have := (i32_le0 (by omega)).mp w; omega)]
        -- rows 3 and 4
        have S3 : SR (x4.1 3) D1 := by
          rw [m3 3 (by decide)]
          show SR (x3.1 3) D1
          rw [d3 3 (by decide)]
          exact a4
        have L4 : ∀ v : LawS, v.1 45 = x4.1 45 → Ln v D2 := fun v hv k hk => by
          rw [hlD2, hv, m3 45 (by decide)]
          exact hL3 _ rfl k hk
        -- undone; the first branch
        obtain ⟨σ5, n1', n2', n3'⟩ := undo_1 (σ := x4.2) (by rw [m2]; exact g2) (by omega) (by rw [m2]; exact r4)
        rw [hB3, hp3] at n2'
        obtain ⟨o1, o2⟩ := q_acts3 n2'
        rw [y5] at o1
        obtain ⟨σ6, p1, p2', p3, p4, p5⟩ := q_branch n2' (j := N) (by omega) y3
        rw [y1, y5] at p1
        have r6 : Rst σ6 := ⟨p4, by rw [(p3 1992 (by unfold osh; omega)).1]; exact n3'.2⟩
        obtain ⟨σ7, z1, z2, z3⟩ := redo_1 p2' (by rw [upn_at]; omega) r6
        have eA : upD (upD Af (N + 1) D1) (N + 1 + 1) D2 (N + 1) = D1 := by
          unfold upD
          rw [if_neg (by omega), if_pos rfl]
        rw [upn_at, eA] at z2
        obtain ⟨x5, l1, l2, l3⟩ := like_D (τ := (x4.1, σ7)) (a1 := 3) (by decide) (by decide) z2 S3
        have l2 : x5.2 = σ7 := l2
        have eC2 : Int32.ofNat c + 2 = Int32.ofNat (c + 1 + 1) := i32_add (q := 2)
        have eC1 : Int32.ofNat c + 1 = Int32.ofNat (c + 1) := i32_succ
        rw [dn_10, n1', hdl_inl, bnd_some, if_pos rfl, show ((x4.1, σ5) : LawS).2 = σ5 from rfl, o1, nox_inl, bnd_some, eC2, if_pos rfl, dn_12, show ((x4.1, σ5) : LawS).2 = σ5 from rfl, p1, hdl_inl, bnd_some, if_pos rfl, dn_11, show ((x4.1, σ6) : LawS).2 = σ6 from rfl, z1, hdl_inl, bnd_some, if_pos rfl, l1, bnd_some, if_neg (show ¬ (1 : Int32) = 0 by decide)]
        unfold fL_branches_j205
        rw [stp, if_neg (show ¬ (1 : Int32) = 0 by decide)]
        -- back and on again
        obtain ⟨σ8, aa1, aa2, aa3⟩ := undo_1 (σ := x5.2) (by rw [l2]; exact z2) (by omega) (by rw [l2]; exact z3)
        rw [hB1, hp1] at aa2
        obtain ⟨σ9, ab1, ab2, ab3⟩ := redo_1 aa2 (by rw [upn_at]; omega) aa3
        have eA2 : upD (upD (upD Af (N + 1) D1) (N + 1 + 1) D2) (N + 1) D1 (N + 1) = D1 := by
          unfold upD
          rw [if_pos rfl]
        rw [upn_at, eA2] at ab2
        obtain ⟨x6, ac1, ac2, ac3⟩ := like_D (τ := (x5.1, σ9)) (a1 := 3) (by decide) (by decide) ab2 (by
          show SR (x5.1 3) D1
          rw [l3 3 (by decide)]
          exact S3)
        have ac2 : x6.2 = σ9 := ac2
        rw [dn_10, aa1, hdl_inl, bnd_some, if_pos rfl, dn_11, show ((x5.1, σ8) : LawS).2 = σ8 from rfl, ab1, hdl_inl, bnd_some, if_pos rfl, ac1, bnd_some, if_neg (show ¬ (1 : Int32) = 0 by decide)]
        -- the second branch
        obtain ⟨σ10, ad1, ad2, ad3⟩ := undo_1 (σ := x6.2) (by rw [ac2]; exact ab2) (by omega) (by rw [ac2]; exact ab3)
        rw [hB1, hp1] at ad2
        obtain ⟨σ11, ae1, ae2, ae3, ae4, ae5⟩ := q_branch ad2 (j := N + 1) (by omega) y6
        rw [y2, y5] at ae1
        have r11 : Rst σ11 := ⟨ae4, by rw [(ae3 1992 (by unfold osh; omega)).1]; exact ad3.2⟩
        obtain ⟨σ12, af1, af2, af3⟩ := redo_1 ae2 (by rw [upn_at]; omega) r11
        have eA3 : upD (upD (upD (upD Af (N + 1) D1) (N + 1 + 1) D2) (N + 1) D1) (N + 1) D1 (N + 1 + 1) = D2 := by
          unfold upD
          rw [if_neg (by omega), if_neg (by omega), if_pos rfl]
        rw [upn_at, eA3] at af2
        obtain ⟨x7, ag1, ag2, ag3⟩ := like_D (τ := (x6.1, σ12)) (a1 := 4) (by decide) (by decide) af2 (by
          show SR (x6.1 4) D2
          rw [ac3 4 (by decide)]
          show SR (x5.1 4) D2
          rw [l3 4 (by decide)]
          exact m4)
        have ag2 : x7.2 = σ12 := ag2
        rw [dn_10, ad1, hdl_inl, bnd_some, if_pos rfl, dn_12, eC1, show ((x6.1, σ10) : LawS).2 = σ10 from rfl, ae1, hdl_inl, bnd_some, eC2, if_pos rfl, dn_11, show ((x6.1, σ11) : LawS).2 = σ11 from rfl, af1, hdl_inl, bnd_some, if_pos rfl, ag1, bnd_some, if_neg (show ¬ (1 : Int32) = 0 by decide)]
        refine branches_end (by rw [ag2]; exact af2) (by rw [ag2]; exact af3) (L4 x7 ?_)
        rw [ag3 45 (by decide)]
        show x6.1 45 = _
        rw [ac3 45 (by decide)]
        show x5.1 45 = _
        rw [l3 45 (by decide)]
  · rw [if_neg z8]
    exact ⟨1, (R, σ1), _, _, rfl, f2, r2, R45, rfl⟩
end B
