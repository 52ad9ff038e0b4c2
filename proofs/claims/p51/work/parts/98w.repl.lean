/-! a part replaced, told in full; the law's replaces -/
section R
variable {σ μ : Sto} {L B H : Nat} {f : Nat → Int32} {n c : Nat} {hd : Nat → Int32} {cu : Nat → Nat} {ma lf ml : Nat → Int32} {T : Hst}
theorem JP.tapeG (h : Rel0 σ μ (f, n, hd, c, cu, ma, lf, ml) L B H T) {tn : Nat} (e : fI σ 8 1 = Int32.ofNat tn) (htn : tn ≤ 200) : ∃ σ1 μ1 G, f1_begin σ 9 0 (fI σ 8 1) = some σ1 ∧ JP σ μ σ1 μ1 n 0 0 (fun _ => 0) (fun _ => 0) (fun _ => 0) G tn ∧ ∀ i, i < tn → G i = aI σ 9 i := by
  obtain ⟨tm, t1, t2, t3, t4⟩ := h.2.2.2.2.1
  have etm : tm = tn := by
    rw [e] at t2
    exact ((ofNat_eq (by omega) (by omega)).mp t2).symm
  subst etm
  obtain ⟨r, k1, k2⟩ := c1_begin (σ := σ) (a1 := 9) (s := 0) (m := tm) (x := 0) (y := fI σ 8 1) rfl t2 (by omega) (by omega) (by rw [show ln 9 = 200 from rfl]; omega) (fun i hi => by rw [Nat.zero_add, (t4 i hi).1]; exact (t4 i hi).2)
  obtain ⟨r', k3, k4⟩ := c12_putsTape (μ := uI μ 2017 27 0) (tn := tm) (by rw [fI_uI, if_pos rfl, if_neg (by decide)]; exact t3) t1
  refine ⟨_, _, aI μ 2023, k1, JP.zero (Nat.le_refl _) (by omega) (fun i hi => ⟨?_, k4 i hi, (t4 i hi).2⟩), fun i hi => ((t4 i hi).1).symm⟩
  rw [k2 i hi, Nat.zero_add, (t4 i hi).1]
/-- refused, nothing is changed -/
def Ref (σ : Sto) (D : Doc) (T : Hst) (x : Option ((Int32 × Sto) ⊕ (Nat × Sto))) : Prop := ∃ σ', x = some (.inr (3, σ')) ∧ In σ' D T ∧ Sm osh σ σ' ∧ fI σ' 24 3 = fI σ 24 3 ∧ fI σ' 24 4 = fI σ 24 4
theorem q_replace (h : In σ (f, n, hd, c, cu, ma, lf, ml) T) {p r m : Nat} (hpr : p ≤ r) (hr : r ≤ n) (h8 : fI σ 8 1 = Int32.ofNat m) (hm : m ≤ 200) : Ref σ (f, n, hd, c, cu, ma, lf, ml) T (f11_replace σ (Int32.ofNat p) (Int32.ofNat r)) ∨ ∃ σ' f' hd' c' cu' ma' ml' T', f11_replace σ (Int32.ofNat p) (Int32.ofNat r) = some (.inl (Int32.ofNat (n - (r - p) + m), σ')) ∧ In σ' (f', n - (r - p) + m, hd', c', cu', ma', lf, ml') T' ∧ Sm osh σ σ' ∧ GA σ σ' (f, n, hd, c, cu, ma, lf, ml) (f', n - (r - p) + m, hd', c', cu', ma', lf, ml') T T' ∧ (m ≠ 0 → AK σ σ' (f, n, hd, c, cu, ma, lf, ml) T T') ∧ (∀ i, i < n - (r - p) + m → f' i = sp f p r m (aI σ 9) i) ∧ ∀ k, k < 16 → ma' k = if ma k = -1 then -1 else Int32.ofNat (mvp p r m (lf k) (ma k).toNatClampNeg) := by
  obtain ⟨μ, L, B, H, h0⟩ := h
  have hC : CT σ 1 L B f n := h0.2.1.1
  have hn := hC.1
  unfold f11_replace
  rw [c11_requirePart hC, if_pos ⟨in_p (p := p) (n := n) (by omega) (by omega), in_p (p := r) (n := n) (by omega) (by omega)⟩, if_pos ((i32_le (by omega) (by omega)).mpr hpr), bndX_inl]
  obtain ⟨σ1, μ1, G, k1, j, hG⟩ := JP.tapeG h0 h8 hm
  obtain ⟨σ2, μ2, a, b, l, p1, p2, p3, p4, p5, p6, p7, p8, p9⟩ := j.add (p := p) (r := r) (e := m) (by omega) (by omega) hpr hr hn (Nat.le_refl _)
  have e1 : fI σ1 8 1 = Int32.ofNat m := by
    rw [(j.1.1 8 (by omega)).1]
    exact h8
  obtain ⟨r1, σ3, μ3, D', L', B', H', T', v1, v2, v3, v4, v5, v6, v7, v8, v9⟩ := act_of (P := RT) h0 p3 (one_s nxK_le) (one_l nxK_le)
  have v4 : Rel0 σ3 μ3 D' L' B' H' T' := v4
  have hPF := v9.2.2
  rw [k1, bnd_some, e1, p1, bnd_some, v1, bnd_some]
  rcases v3 with rfl | rfl
  · rw [if_pos rfl]
    obtain ⟨n1, n2, n3, n4⟩ := (hPF.2.1 rfl).1
    subst n1 n2
    exact Or.inl ⟨σ3, rfl, ⟨_, _, _, _, v4⟩, hPF.1, n3, n4⟩
  · rw [if_neg (show ¬ (1 : Int32) = 0 by decide)]
    have hga := hPF.ga (Or.inr rfl)
    obtain ⟨f', n', hd', c', cu', ma', lf', ml'⟩ := D'
    have eS : fI σ3 1 1 = Int32.ofNat n' := v4.2.1.1.2.2.1
    have hn' : n' = nA n (nxK 0 p r m) a b l 0 := v5 rfl
    rw [eS]
    refine Or.inr ?_
    by_cases hz : p = r ∧ m = 0
    · have hK : nxK 0 p r m = 0 := by
        unfold nxK
        rw [if_pos hz]
      rcases hPF.2.2 rfl with ⟨-, k⟩ | ⟨k, -⟩
      · have k' := k
        obtain ⟨n1, n2, n3, n4⟩ := k
        cases n1
        subst n2
        have e : n - (r - p) + m = n := by omega
        rw [e]
        refine ⟨σ3, f, hd, c, cu, ma, ml, _, rfl, ⟨_, _, _, _, v4⟩, hPF.1, hga, fun w => absurd hz.2 w, fun i hi => ?_, fun k hk => ?_⟩
        · unfold sp
          split
          · rfl
          · rw [if_neg (by omega), show i - (p + m) + r = i by omega]
        · by_cases z : ma k = -1
          · rw [if_pos z, z]
          · obtain ⟨q, q1, q2⟩ := (h0.1.2.2.2.2.2.2.2.2.2.1 k hk).resolve_left z
            rw [if_neg z, q2, ofNat_clamp (by omega)]
            congr 1
            unfold mvp
            split
            · rfl
            · split
              · split <;> omega
              · split <;> omega
      · exact absurd hK k
    · have hK : nxK 0 p r m = 1 := by
        unfold nxK
        rw [if_neg hz]
      rw [hK] at hn' hPF p5
      obtain ⟨y1, y2, y3⟩ := p5 (by omega)
      have e0 : nA n 1 a b l 0 = n - (r - p) + m := by
        rw [nA_k (by omega), nA_K, y1, y2, y3]
      rw [e0] at hn'
      subst hn'
      rcases hPF.2.2 rfl with ⟨k, -⟩ | ⟨-, -, -, k1, k2⟩
      · exact absurd k (by decide)
      · obtain ⟨d1, d2, d3, d4, d5, d6, d7⟩ := k2
        subst d5
        refine ⟨σ3, f', hd', c', cu', ma', ml', T', rfl, ⟨_, _, _, _, v4⟩, hPF.1, hga, fun _ => k1, fun i hi => ?_, fun k hk => ?_⟩
        · rw [d1, spA_k (by omega), spA_K, y1, y2, y3]
          unfold sp
          split
          · rfl
          · split
            · exact hG _ (by omega)
            · rfl
        · rw [d4]
          show mvN' 1 a b l (lf' k) (ma k) 0 = _
          unfold mvN'
          rw [mvA_k (by omega), mvA_K, y1, y2, y3]
theorem mvp_mono {a b l p q : Nat} {z z' : Int32} (hab : a ≤ b) (h : p < q) : mvp a b l z p ≤ mvp a b l z' q := by
  unfold mvp
  repeat (first | split | omega)
theorem i32_psub {p m d : Nat} (h : d ≤ p) : Int32.ofNat p + (Int32.ofNat m - Int32.ofNat d) = Int32.ofNat (p - d + m) := by
  obtain ⟨u, rfl⟩ : ∃ u, p = u + d := ⟨p - d, by omega⟩
  rw [show u + d - d + m = u + m by omega, ← i32_add, ← i32_add]
  grind
end R
/-- a turn of the law: the room is as it must be -/
def Trn (τ : LawS) (v : Int32) (D : Doc) (T : Hst) : Prop := In τ.2 D T ∧ Rst τ.2 ∧ Ln τ D ∧ v = 1
def Turn (x : Option (Int32 × LawS)) : Prop := ∃ v τ D T, x = some (v, τ) ∧ Trn τ v D T
section L
variable {τ x : LawS} {f f' : Nat → Int32} {n c : Nat} {hd hd' : Nat → Int32} {cu cu' : Nat → Nat} {ma lf ml ma' lf' ml' : Nat → Int32} {T : Hst} {c' a b m : Nat}
theorem repl_order (g : GD (f, n, hd, c, cu, ma, lf, ml)) (hab : a ≤ b) (hb : b ≤ n) (hm : m ≤ 200) (s1 : ∀ k, k < 16 → x.1 41 (10 + k) = ma k) (s2 : ∀ k, k < 16 → x.1 42 (10 + k) = if ma k = -1 then -1 else Int32.ofNat (mvp a b m (lf k) (ma k).toNatClampNeg)) {k p : Nat} (hk : k < 16) (hp : ma k = Int32.ofNat p) (hpn : p ≤ n) : fL_replaces_j353 x (Int32.ofNat m) (Int32.ofNat a) (Int32.ofNat b) (Int32.ofNat k) (Int32.ofNat p) = some (.inl (Int32.ofNat (k + 1))) := by
  have hn := g.1
  have hmv : ∀ k q, q ≤ n → mvp a b m (lf k) q ≤ n + 200 := fun k q hq => by
    have := mvp_le (z := lf k) (l := m) hab hb hq
    omega
  have hk2 : x.1 42 (10 + k) = Int32.ofNat (mvp a b m (lf k) p) := by
    rw [s2 k hk, if_neg (by rw [hp]; exact ofNat_m1 (by omega)), hp, ofNat_clamp (by omega)]
  have ck : (10 : Int32) + Int32.ofNat k = Int32.ofNat (10 + k) := i32_add (p := 10)
  have l1 : loopF (fun s_356 => fL_replaces_b356 x (Int32.ofNat m) (Int32.ofNat a) (Int32.ofNat b) (Int32.ofNat k) (Int32.ofNat p) s_356) FU 0 = some (.inl ()) := by
    apply Ok_eq
    refine Ok_count 16 (fun i z => z = Int32.ofNat i) ?_ 0 rfl (Nat.zero_le _) (by (show _ < FU; unfold FU; omega))
    rintro i z hi rfl
    show Ok (fL_replaces_b356 x (Int32.ofNat m) (Int32.ofNat a) (Int32.ofNat b) (Int32.ofNat k) (Int32.ofNat p) (Int32.ofNat i)) _
    unfold fL_replaces_b356
    have e16 : (16 : Int32) ≤ Int32.ofNat i ↔ 16 ≤ i := i32_le (a := 16) (by omega) (by omega)
    simp only [e16]
    by_cases q : 16 ≤ i
    · rw [if_pos q, Ok_some, lp_inr]
    · have ci : (10 : Int32) + Int32.ofNat i = Int32.ofNat (10 + i) := i32_add (p := 10)
      have tail : Ok (fL_replaces_j404 x (Int32.ofNat m) (Int32.ofNat a) (Int32.ofNat b) (Int32.ofNat k) (Int32.ofNat p) (Int32.ofNat i)) (lp (fun s' => i + 1 ≤ 16 ∧ s' = Int32.ofNat (i + 1)) (fun v => v = Sum.inl ())) := by
        unfold fL_replaces_j404
        rw [stp, Ok_some, lp_inl, i32_succ]
        exact ⟨by omega, rfl⟩
      rw [if_neg q, ci, ck, i35 (by omega), gd_true, ofNat_clamp (by omega), s1 i (by omega)]
      rcases g.2.2.2.2.2.2.2.2.2.1 i (by omega) with e | ⟨w, w1, w2⟩
      · rw [e, if_pos (by decide)]
        exact tail
      · rw [w2, if_neg (i32_lt0 (by omega)), gd_true]
        by_cases q2 : Int32.ofNat p ≤ Int32.ofNat w
        · rw [if_pos q2]
          exact tail
        · have hlt : w < p := by
            rcases Nat.lt_or_ge w p with y | y
            · exact y
            · exact absurd ((i32_le (by omega) (by omega)).mpr y) q2
          have hi2 : x.1 42 (10 + i) = Int32.ofNat (mvp a b m (lf i) w) := by
            rw [s2 i (by omega), if_neg (by rw [w2]; exact ofNat_m1 (by omega)), w2, ofNat_clamp (by omega)]
          have h1 := hmv i w w1
          have h2 := hmv k p hpn
          rw [if_neg q2, gd_true, i35 (by omega), gd_true, ofNat_clamp (by omega), hi2, hk2, if_pos ((i32_le (by omega) (by omega)).mpr (mvp_mono hab hlt))]
          exact tail
  unfold fL_replaces_j353
  rw [stp]
  unfold fL_replaces_j356
  rw [l1, bnd_some]
  show fL_replaces_j410 _ _ _ _ _ = _
  unfold fL_replaces_j410
  rw [stp, i32_succ]
theorem repl_marks (g : GD (f, n, hd, c, cu, ma, lf, ml)) (hab : a ≤ b) (hb : b ≤ n) (hm : m ≤ 200) (s1 : ∀ k, k < 16 → x.1 41 (10 + k) = ma k) (s2 : ∀ k, k < 16 → x.1 42 (10 + k) = if ma k = -1 then -1 else Int32.ofNat (mvp a b m (lf k) (ma k).toNatClampNeg)) (s3 : ∀ k, k < 16 → x.1 45 k = lf k) : fL_replaces_j195 x (Int32.ofNat m) (Int32.ofNat a) (Int32.ofNat b) 0 = some (1, x) := by
  have hn := g.1
  have l1 : loopF (fun s_195 => fL_replaces_b195 x (Int32.ofNat m) (Int32.ofNat a) (Int32.ofNat b) s_195) FU 0 = some (.inl ()) := by
    apply Ok_eq
    refine Ok_count 16 (fun i z => z = Int32.ofNat i) ?_ 0 rfl (Nat.zero_le _) (by (show _ < FU; unfold FU; omega))
    rintro i z hi rfl
    show Ok (fL_replaces_b195 x (Int32.ofNat m) (Int32.ofNat a) (Int32.ofNat b) (Int32.ofNat i)) _
    unfold fL_replaces_b195
    have e16 : (16 : Int32) ≤ Int32.ofNat i ↔ 16 ≤ i := i32_le (a := 16) (by omega) (by omega)
    simp only [e16]
    by_cases q : 16 ≤ i
    · rw [if_pos q, Ok_some, lp_inr]
    · have ci : (10 : Int32) + Int32.ofNat i = Int32.ofNat (10 + i) := i32_add (p := 10)
      have i16 : inb (Int32.ofNat i) 16 = true := inb_n (by omega) (by omega)
      rw [if_neg q, ci, i35 (by omega), gd_true, ofNat_clamp (by omega), s1 i (by omega), stp]
      rcases g.2.2.2.2.2.2.2.2.2.1 i (by omega) with e | ⟨p, w1, w2⟩
      · rw [e, if_neg (by decide), gd_true, s2 i (by omega), if_pos e, if_pos (by decide)]
        unfold fL_replaces_j410
        rw [stp, Ok_some, lp_inl, i32_succ]
        exact ⟨by omega, rfl⟩
      · have hor := repl_order g hab hb hm s1 s2 (k := i) (p := p) (by omega) w2 w1
        have hnow : x.1 42 (10 + i) = Int32.ofNat (mvp a b m (lf i) p) := by
          rw [s2 i (by omega), if_neg (by rw [w2]; exact ofNat_m1 (by omega)), w2, ofNat_clamp (by omega)]
        have fin : Ok (fL_replaces_j353 x (Int32.ofNat m) (Int32.ofNat a) (Int32.ofNat b) (Int32.ofNat i) (Int32.ofNat p)) (lp (fun s' => i + 1 ≤ 16 ∧ s' = Int32.ofNat (i + 1)) (fun v => v = Sum.inl ())) := by
          rw [hor, Ok_some, lp_inl]
          exact ⟨by omega, rfl⟩
        have st0 : Ok (fL_replaces_j314 x (Int32.ofNat m) (Int32.ofNat a) (Int32.ofNat b) (Int32.ofNat i) (Int32.ofNat p) 0 0) (lp (fun s' => i + 1 ≤ 16 ∧ s' = Int32.ofNat (i + 1)) (fun v => v = Sum.inl ())) := by
          unfold fL_replaces_j314
          rw [stp, if_pos rfl]
          exact fin
        have st1 : mvp a b m (lf i) p = p → Ok (fL_replaces_j314 x (Int32.ofNat m) (Int32.ofNat a) (Int32.ofNat b) (Int32.ofNat i) (Int32.ofNat p) 0 1) (lp (fun s' => i + 1 ≤ 16 ∧ s' = Int32.ofNat (i + 1)) (fun v => v = Sum.inl ())) := fun e => by
          unfold fL_replaces_j314
          rw [stp, if_neg (show ¬ (1 : Int32) = 0 by decide), ci, i35 (by omega), gd_true, if_pos rfl, ofNat_clamp (by omega), hnow, e]
          unfold fL_replaces_j347
          rw [Int32.add_zero, if_pos rfl]
          exact fin
        have st2 : mvp a b m (lf i) p = p - (b - a) + m → b - a ≤ p → Ok (fL_replaces_j314 x (Int32.ofNat m) (Int32.ofNat a) (Int32.ofNat b) (Int32.ofNat i) (Int32.ofNat p) 1 1) (lp (fun s' => i + 1 ≤ 16 ∧ s' = Int32.ofNat (i + 1)) (fun v => v = Sum.inl ())) := fun e e2 => by
          unfold fL_replaces_j314
          rw [stp, if_neg (show ¬ (1 : Int32) = 0 by decide), ci, i35 (by omega), gd_true, if_neg (show ¬ (1 : Int32) = 0 by decide), ofNat_clamp (by omega), hnow, e]
          unfold fL_replaces_j347
          rw [i32_sub hab, i32_psub e2, if_pos rfl]
          exact fin
        rw [w2, if_pos (z_le (by omega)), i16, gd_true, ofNat_clamp (by omega), s3 i (by omega)]
        have h01 := (g.2.2.2.2.2.2.2.2.2.2 i (by omega)).1
        rcases h01 with z | z
        · rw [if_pos z]
          by_cases q2 : Int32.ofNat p < Int32.ofNat b
          · have q2' := (i32n_lt (by omega) (by omega)).mp q2
            rw [if_pos q2]
            unfold fL_replaces_j265
            rw [stp, i16, gd_true, ofNat_clamp (by omega), s3 i (by omega), if_pos z]
            by_cases q3 : Int32.ofNat p < Int32.ofNat a
            · have q3' := (i32n_lt (by omega) (by omega)).mp q3
              rw [if_pos q3]
              exact st1 (by unfold mvp; rw [if_pos q3'])
            · rw [if_neg q3, if_pos rfl]
              exact st0
          · have q2' : b ≤ p := by
              rcases Nat.lt_or_ge p b with y | y
              · exact absurd ((i32n_lt (by omega) (by omega)).mpr y) q2
              · exact y
            have hmv : mvp a b m (lf i) p = p - (b - a) + m := by
              unfold mvp
              rw [if_neg (by omega), if_pos z]
              split
              · omega
              · rw [if_neg (by omega)]
                omega
            rw [if_neg q2]
            unfold fL_replaces_j265
            rw [stp, i16, gd_true, ofNat_clamp (by omega), s3 i (by omega), if_pos z, if_neg (fun w => by have := (i32n_lt (by omega) (by omega)).mp w; omega), if_neg (show ¬ (1 : Int32) = 0 by decide)]
            exact st2 hmv (by omega)
        · have zn : ¬ lf i = 0 := by rw [z]; decide
          rw [if_neg zn]
          have hsub : ∀ d : Nat, d ≤ 3000 → (Int32.ofNat p - (1 : Int32) < Int32.ofNat d ↔ p ≤ d) := fun d hd => by
            by_cases y : p = 0
            · rw [y]
              have : Int32.ofNat 0 - (1 : Int32) = -1 := by decide
              rw [this]
              have : (0 : Int32) ≤ Int32.ofNat d := z_le (by omega)
              constructor
              · intro _; omega
              · intro _; grind
            · rw [show (1 : Int32) = Int32.ofNat 1 from rfl, i32_sub (by omega), i32n_lt (by omega) (by omega)]
              omega
          by_cases q2 : p ≤ b
          · rw [if_pos ((hsub b (by omega)).mpr q2)]
            unfold fL_replaces_j265
            rw [stp, i16, gd_true, ofNat_clamp (by omega), s3 i (by omega), if_neg zn]
            by_cases q3 : p ≤ a
            · rw [if_pos ((hsub a (by omega)).mpr q3)]
              refine st1 ?_
              unfold mvp
              split
              · rfl
              · split
                · first | omega | (rw [if_neg zn]; omega)
                · rw [if_pos (by omega)]
                  omega
            · rw [if_neg (fun w => q3 ((hsub a (by omega)).mp w)), if_pos rfl]
              exact st0
          · have hmv : mvp a b m (lf i) p = p - (b - a) + m := by
              unfold mvp
              rw [if_neg (by omega), if_neg (by omega), if_neg (by omega)]
              omega
            rw [if_neg (fun w => q2 ((hsub b (by omega)).mp w))]
            unfold fL_replaces_j265
            rw [stp, i16, gd_true, ofNat_clamp (by omega), s3 i (by omega), if_neg zn, if_neg (fun w => by have := (hsub a (by omega)).mp w; omega), if_neg (show ¬ (1 : Int32) = 0 by decide)]
            exact st2 hmv (by omega)
  unfold fL_replaces_j195
  rw [l1, bnd_some]
theorem repl_text (hn : n ≤ 3000) (hab : a ≤ b) (hb : b ≤ n) (hm : m ≤ 12) (hN : n - (b - a) + m ≤ 3000) (s0 : x.1 42 0 = Int32.ofNat (n - (b - a) + m)) (s1 : ∀ k, k < n → x.1 41 (400 + k) = f k) (s2 : ∀ k, k < n - (b - a) + m → x.1 42 (400 + k) = sp f a b m (x.1 43) k) : loopF (fun s_109 => fL_replaces_b109 x (Int32.ofNat m) (Int32.ofNat a) (Int32.ofNat b) s_109) FU 0 = some (.inl ()) := by
  apply Ok_eq
  refine Ok_count (n - (b - a) + m) (fun k z => z = Int32.ofNat k) ?_ 0 rfl (Nat.zero_le _) (by (show _ < FU; unfold FU; omega))
  rintro k z hk rfl
  show Ok (fL_replaces_b109 x (Int32.ofNat m) (Int32.ofNat a) (Int32.ofNat b) (Int32.ofNat k)) _
  unfold fL_replaces_b109
  have c0 : (0 : Int32).toNatClampNeg = 0 := by decide
  have i0 : inb (0 : Int32) 3500 = true := by decide
  rw [i0, gd_true, c0, s0]
  by_cases q : n - (b - a) + m ≤ k
  · rw [if_pos ((i32_le (by omega) (by omega)).mpr q), Ok_some, lp_inr]
  · have ck : (400 : Int32) + Int32.ofNat k = Int32.ofNat (400 + k) := i32_add (p := 400)
    have tail : ∀ u v : Int32, u = v → Ok (fL_replaces_j181 x (Int32.ofNat m) (Int32.ofNat a) (Int32.ofNat b) (Int32.ofNat k) u v) (lp (fun s' => k + 1 ≤ n - (b - a) + m ∧ s' = Int32.ofNat (k + 1)) (fun v => v = Sum.inl ())) := fun u v e => by
      unfold fL_replaces_j181
      rw [if_pos e, stp, Ok_some, lp_inl, i32_succ]
      exact ⟨by omega, rfl⟩
    rw [if_neg (fun z => q ((i32_le (by omega) (by omega)).mp z)), ck, i35 (by omega), gd_true, ofNat_clamp (by omega), s2 k (by omega), i32_add]
    unfold sp
    by_cases q1 : Int32.ofNat a ≤ Int32.ofNat k
    · have q1' := (i32_le (by omega) (by omega)).mp q1
      rw [if_pos q1]
      by_cases q2 : Int32.ofNat (a + m) ≤ Int32.ofNat k
      · have q2' := (i32_le (by omega) (by omega)).mp q2
        rw [if_pos q2, i32_sub (by omega), i32_add, i32_sub (by omega), i35 (by omega), gd_true, ofNat_clamp (by omega), if_neg (by omega), if_neg (by omega), show 400 + k - m + b - a = 400 + (k - (a + m) + b) by omega, s1 _ (by omega)]
        exact tail _ _ rfl
      · have q2' : ¬ a + m ≤ k := fun w => q2 ((i32_le (by omega) (by omega)).mpr w)
        rw [if_neg q2, i32_sub q1', inb_n (show k - a < 40 by omega) (by omega), gd_true, ofNat_clamp (by omega), if_neg (by omega), if_pos (by omega)]
        exact tail _ _ rfl
    · have q1' : ¬ a ≤ k := fun w => q1 ((i32_le (by omega) (by omega)).mpr w)
      rw [if_neg q1, gd_true, if_pos (by omega), s1 k (by omega)]
      exact tail _ _ rfl
theorem Turn.like (h : In τ.2 (f, n, hd, c, cu, ma, lf, ml) T) (hr : Rst τ.2) (hl : Ln τ (f, n, hd, c, cu, ma, lf, ml)) {a1 : Nat} (ha : lq a1 = 3500) (h42 : a1 ≠ 42) (s : SR (τ.1 a1) (f, n, hd, c, cu, ma, lf, ml)) : Turn (bnd (fL_isLike τ a1) fun p => gd (isB p.1) <| some (p.1, p.2)) := by
  obtain ⟨x, k1, k2, k3, k4⟩ := isLike_ok ha h42 h.ob s VI.rf
  rw [k1, bnd_some]
  exact ⟨1, x, _, T, rfl, by rw [k2]; exact h, by rw [k2]; exact hr, fun k hk => by rw [k3 45 (by decide)]; exact hl k hk, rfl⟩
theorem replaces_ok (h : In τ.2 (f, n, hd, c, cu, ma, lf, ml) T) (hr : Rst τ.2) (hl : Ln τ (f, n, hd, c, cu, ma, lf, ml)) : Turn (fL_replaces τ) := by
  have hn := h.gd.1
  unfold fL_replaces
  obtain ⟨x1, k1, k2, k3, k4⟩ := sees_ok (a1 := 41) (by decide) h.ob
  obtain ⟨m, x2, d1, d2, d3, d4, d5⟩ := draws_ok x1
  have e2 : x2.2 = τ.2 := d3.trans k2
  have h2 : In x2.2 (f, n, hd, c, cu, ma, lf, ml) T := by rw [e2]; exact h
  obtain ⟨σ', f1, f2, f3, f4, f5⟩ := feeds_ok (a1 := 43) h2 (show m ≤ 40 by omega) (show m ≤ 40 by omega) d5
  rw [k1, bnd_some, d2, bnd_some, stp, f1, bnd_some, if_neg (show ¬ (1 : Int32) = 0 by decide)]
  have c0 : (0 : Int32).toNatClampNeg = 0 := by decide
  have i0 : inb (0 : Int32) 3500 = true := by decide
  obtain ⟨va, za, x3, a1, a2, a3, a4, a5⟩ := nextm (x2.1, σ') (n + 1) (by omega) (by omega)
  have r41 : x3.1 41 = x1.1 41 := (a5 41 (by decide)).trans (d4 41 (by decide))
  have s41 : SR (x3.1 41) (f, n, hd, c, cu, ma, lf, ml) := by rw [r41]; exact k4
  have a3 : za - za / (Int32.ofNat n + 1) * (Int32.ofNat n + 1) = Int32.ofNat va := by rw [i32_succ]; exact a3
  have nz2 : nz (Int32.ofNat n + 1) = true := nz_iff.mpr (fun z => by rw [i32_succ] at z; have := (ofNat_z0 (by omega)).mp z; omega)
  rw [a2, bnd_some, i0, gd_true, c0, s41.1, nz2, gd_true, a3, stp, gd_true]
  obtain ⟨vb, zb, x4, b1, b2, b3, b4, b5⟩ := nextm x3 6 (by decide) (by decide)
  have b3 : zb - zb / (6 : Int32) * (6 : Int32) = Int32.ofNat vb := b3
  rw [b2, bnd_some, b3, i32_add]
  obtain ⟨vc, t1, t2, t3⟩ : ∃ vc, imin (Int32.ofNat n) (Int32.ofNat (va + vb)) = Int32.ofNat vc ∧ va ≤ vc ∧ vc ≤ n := by
    unfold imin
    by_cases z : Int32.ofNat (va + vb) < Int32.ofNat n
    · have := (i32n_lt (by omega) (by omega)).mp z
      exact ⟨va + vb, by rw [if_pos z], by omega, by omega⟩
    · exact ⟨n, by rw [if_neg z], by omega, Nat.le_refl _⟩
  have e4 : x4.2 = σ' := b4.trans a4
  have h4 : In x4.2 (f, n, hd, c, cu, ma, lf, ml) T := by rw [e4]; exact f2
  have r4 : FR (fun b => b ≠ 0 ∧ b ≠ 41 ∧ b ≠ 43) τ x4 := (k3.weak (fun b hb => hb.2.1)).trans ((d4.weak (fun b hb => ⟨hb.1, hb.2.2⟩)).trans ((a5.weak (fun b hb => hb.1) : FR (fun b => b ≠ 0 ∧ b ≠ 41 ∧ b ≠ 43) x2 x3).trans (b5.weak (fun b hb => hb.1))))
  have s41' : SR (x4.1 41) (f, n, hd, c, cu, ma, lf, ml) := by rw [b5 41 (by decide)]; exact s41
  have t8 : fI x4.2 8 1 = Int32.ofNat m := by rw [e4]; exact f4
  have t9 : ∀ k, k < m → aI x4.2 9 k = x4.1 43 k := fun k hk => by
    rw [e4, f5 k hk, b5 43 (by decide), a5 43 (by decide)]
  obtain ⟨q24, q92⟩ := f3.q (by omega) (by omega)
  have hr4 : Rst x4.2 := by
    rw [e4]
    exact ⟨by rw [q24, e2]; exact hr.1, by rw [q92, e2]; exact hr.2⟩
  have hl4 : Ln x4 (f, n, hd, c, cu, ma, lf, ml) := fun k hk => by rw [r4 45 (by decide)]; exact hl k hk
  rw [t1, stp, dn_2]
  rcases q_replace h4 t2 t3 t8 (by omega) with ⟨σ3, g1, g2, g3, g4, g5⟩ | ⟨σ3, f', hd', c', cu', ma', ml', T', g1, g2, g3, g4, g5, g6, g7⟩
  · rw [g1, hdl_inr (v := -1000003) rfl, bnd_some, stp, if_pos rfl]
    exact Turn.like (τ := (x4.1, σ3)) g2 ⟨by show fI σ3 24 3 = 0; rw [g4]; exact hr4.1, by show fI σ3 1992 5 = 0; rw [(g3 1992 (by unfold osh; omega)).1]; exact hr4.2⟩ hl4 (by decide) (by decide) s41'
  · have hN := g2.gd.1
    have hN : n - (vc - va) + m ≤ 3000 := hN
    have eN : (Int32.ofNat n + Int32.ofNat m) - (Int32.ofNat vc - Int32.ofNat va) = Int32.ofNat (n - (vc - va) + m) := by
      rw [i32_sub t2, i32_add, i32_sub (by omega)]
      congr 1
      omega
    rw [g1, hdl_inl, bnd_some, stp, if_neg (fun w => by
      have := i32_lt0 (a := n - (vc - va) + m) (by omega)
      have w : Int32.ofNat (n - (vc - va) + m) = -1000003 := w
      rw [w] at this
      exact this (by decide)), gd_true, s41'.1, eN, if_pos rfl]
    obtain ⟨x5, y1, y2, y3, y4⟩ := sees_ok (τ := (x4.1, σ3)) (a1 := 42) (by decide) g2.ob
    have r41 : x5.1 41 = x4.1 41 := y3 41 (by decide)
    have r43 : x5.1 43 = x4.1 43 := y3 43 (by decide)
    have r45 : x5.1 45 = x4.1 45 := y3 45 (by decide)
    rw [y1, bnd_some, stp]
    unfold fL_replaces_j109
    rw [repl_text (f := f) hn t2 t3 (by omega) hN y4.1 (fun k hk => by rw [r41]; exact s41'.2.2.2.2.2.2 k hk) (fun k hk => by
      rw [y4.2.2.2.2.2.2 k hk, g6 k hk, r43]
      unfold sp
      split
      · rfl
      · split
        · exact t9 _ (by omega)
        · rfl), bnd_some]
    show Turn (stp (0 : Int32) fun x10_9 => fL_replaces_j195 x5 (Int32.ofNat m) (Int32.ofNat va) (Int32.ofNat vc) x10_9)
    rw [stp, repl_marks h.gd t2 t3 (by omega) (fun k hk => by rw [r41]; exact s41'.2.2.2.1 k hk) (fun k hk => by rw [y4.2.2.2.1 k hk]; exact g7 k hk) (fun k hk => by rw [r45]; exact (hl4 k hk).symm)]
    refine ⟨1, x5, _, T', rfl, by rw [y2]; exact g2, ?_, fun k hk => by rw [r45]; exact hl4 k hk, rfl⟩
    rw [y2]
    refine ⟨?_, ?_⟩
    · show fI σ3 24 3 = 0
      rcases g4.2 with ⟨-, -, z, -⟩ | ⟨⟨z, -⟩, -⟩
      · rw [z]; exact hr4.1
      · rw [z]; exact hr4.1
    · show fI σ3 1992 5 = 0
      rw [g4.1]
      exact hr4.2
end L
