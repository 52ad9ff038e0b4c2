/-! all finds replaced, told in full -/
section R
variable {σ μ σ1 μ1 : Sto} {L B H : Nat} {f : Nat → Int32} {n c K q w pn : Nat} {hd : Nat → Int32} {cu : Nat → Nat} {ma lf ml : Nat → Int32} {T : Hst} {a b l : Nat → Nat} {G pt : Nat → Int32} {v : Int32} {o : Int64}
theorem finds_allG (j : JP σ μ σ1 μ1 n 0 0 a b l G w) (hC : CT σ 1 L B f n) (hL : (L = 2 ∧ B = 3 ∧ H = 4) ∨ (L = 20 ∧ B = 21 ∧ H = 22)) (hM : MT μ f n) (hp : PT σ μ pn pt v) (hp1 : 1 ≤ pn) (ht : fI σ 8 1 = Int32.ofNat w) {r0 : Int32} (hr0 : isNx (fdB f n pt pn v) n 0 r0) : ∃ K q a b l σ2 μ2, loopF (fun s_57 => f11_replaceAll_b57 s_57.1 s_57.2.1 s_57.2.2) FU (σ1, r0, 0) = some σ2 ∧ loopF (fun s_27 => f12_replaceAll_b27 s_27.1 s_27.2) FU (μ1, r0) = some μ2 ∧ JP σ μ σ2 μ2 n K q a b l G w ∧ (∀ k, k < K → l k = w ∧ b k = a k + pn ∧ ends f (b k) = ends f (a k) + ends pt pn) ∧ (∀ k, k < K → fdB f n pt pn v (a k) = true) ∧ ∀ k, k ≤ K → ∀ q, eA b k ≤ q → q < pre n K a k → fdB f n pt pn v q = false := by
  have hn := hC.1
  have key : ∃ r r', loopF (fun s_57 => f11_replaceAll_b57 s_57.1 s_57.2.1 s_57.2.2) FU (σ1, r0, 0) = some r ∧ loopF (fun s_27 => f12_replaceAll_b27 s_27.1 s_27.2) FU (μ1, r0) = some r' ∧ ∃ K q a b l, JP σ μ r r' n K q a b l G w ∧ (∀ k, k < K → l k = w ∧ b k = a k + pn ∧ ends f (b k) = ends f (a k) + ends pt pn) ∧ (∀ k, k < K → fdB f n pt pn v (a k) = true) ∧ ∀ k, k ≤ K → ∀ q, eA b k ≤ q → q < pre n K a k → fdB f n pt pn v q = false := by
    refine loop2 3000 (fun k s s' => ∃ S M K q a b l i r, s = (S, r, Int32.ofNat k) ∧ s' = (M, r) ∧ JP σ μ S M n K q a b l G w ∧ K ≤ k ∧ k ≤ i ∧ q ≤ i ∧ isNx (fdB f n pt pn v) n i r ∧ (∀ k, k < K → l k = w ∧ b k = a k + pn ∧ ends f (b k) = ends f (a k) + ends pt pn) ∧ i = eA b K ∧ (∀ k, k < K → fdB f n pt pn v (a k) = true) ∧ ∀ k, k < K → ∀ q, eA b k ≤ q → q < a k → fdB f n pt pn v q = false) ?_ 0 ⟨σ1, μ1, 0, 0, a, b, l, 0, r0, rfl, rfl, j, Nat.le_refl _, Nat.zero_le _, Nat.zero_le _, hr0, fun k hk => by omega, rfl, fun k hk => by omega, fun k hk => by omega⟩ (by omega) (by (show _ < FU; unfold FU; omega)) (by (show _ < FU; unfold FU; omega))
    rintro k s s' hk ⟨S, M, K, q, a, b, l, i, r, rfl, rfl, j, hK, hki, hqi, hr, hl, hie, hP, hgap⟩
    show (∃ t t', f11_replaceAll_b57 S r (Int32.ofNat k) = _ ∧ f12_replaceAll_b27 M r = _ ∧ _) ∨ ∃ r₁ r', f11_replaceAll_b57 S r (Int32.ofNat k) = _ ∧ f12_replaceAll_b27 M r = _ ∧ _
    have hr' := hr
    rcases hr.at with rfl | ⟨p, q1, rfl, q2, q3, q4⟩
    · refine Or.inr ⟨S, M, ?_, ?_, K, q, a, b, l, j, hl, hP, fun k hk q q1 q2 => ?_⟩
      · unfold f11_replaceAll_b57
        rw [if_pos rfl]
        split <;> rfl
      · unfold f12_replaceAll_b27
        rw [if_pos rfl]
      · unfold pre at q2
        by_cases z : k < K
        · rw [if_pos z] at q2
          exact hgap k z q q1 q2
        · rw [if_neg z] at q2
          rcases hr' with ⟨p, -, p2, -, -, p5⟩ | ⟨p1, -⟩
          · exact absurd p5.symm (ofNat_m1 (by omega))
          · rw [show k = K by omega, ← hie] at q1
            exact p1 q q1 q2
    · obtain ⟨S', M', a', b', l', k1, k2, k3, k4, k5, k6⟩ := j.add (p := p) (r := p + pn) (e := w) (by omega) (by omega) (by omega) q2 hn (Nat.le_refl _)
      have hnx : nxK K p (p + pn) w = K + 1 := by
        unfold nxK
        rw [if_neg (by omega)]
      rw [hnx] at k3 k5
      obtain ⟨r2, e1, e2, e3⟩ := find_both (k3.ct hC hL) (k3.mt hM) (k3.pat hp) hp1 q2
      have hk3 : ¬ (3000 : Int32) ≤ Int32.ofNat k := fun z => by
        have := (i32_le (a := 3000) (by omega) (by omega)).mp z
        omega
      have hS := j.pat hp
      have hS' := k3.pat hp
      have e8 : fI S 8 1 = Int32.ofNat w := by
        rw [(j.1.1 8 (by omega)).1]
        exact ht
      have f1 : f11_replaceAll_b57 S (Int32.ofNat p) (Int32.ofNat k) = some (.inl (S', r2, Int32.ofNat (k + 1))) := by
        unfold f11_replaceAll_b57
        rw [if_neg hk3, if_neg (ofNat_m1 (by omega)), hS.1, i32_add, stp, e8, k1, bnd_some, e1, bnd_some, stp, i32_succ]
        rfl
      have f2 : f12_replaceAll_b27 M (Int32.ofNat p) = some (.inl (M', r2)) := by
        unfold f12_replaceAll_b27
        rw [if_neg (ofNat_m1 (by omega)), hS.2.2.2.1, j.2.1.2.2.2, i32_add, k2, bnd_some, hS'.2.2.2.1, i32_add, e2, bnd_some]
        rfl
      rw [f1, f2]
      refine Or.inl ⟨_, _, rfl, rfl, by omega, S', M', K + 1, p + pn, a', b', l', p + pn, r2, rfl, rfl, k3, by omega, by omega, Nat.le_refl _, e3, fun i hi => ?_, ?_, fun i hi => ?_, fun i hi q q1 q2 => ?_⟩
      by_cases e : i < K
      · rw [(k4 i e).1, (k4 i e).2.1, (k4 i e).2.2]
        exact hl i e
      · rw [show i = K by omega, (k5 (by omega)).1, (k5 (by omega)).2.1, (k5 (by omega)).2.2]
        exact ⟨rfl, rfl, ends_seg pn q4⟩
      · show p + pn = b' K
        exact ((k5 (by omega)).2.1).symm
      · by_cases e : i < K
        · rw [(k4 i e).1]
          exact hP i e
        · rw [show i = K by omega, (k5 (by omega)).1]
          rcases hr' with ⟨p', a1, a2, a3, a4, a5⟩ | ⟨-, a1⟩
          · rw [(ofNat_eq (by omega) (by omega)).mp a5]
            exact a3
          · exact absurd a1 (ofNat_m1 (by omega))
      · have hEA : ∀ i, i ≤ K → eA b' i = eA b i := fun i hi => by
          cases i with
          | zero => rfl
          | succ i => exact (k4 i (by omega)).2.1
        by_cases e : i < K
        · rw [hEA i (by omega)] at q1
          rw [(k4 i e).1] at q2
          exact hgap i e q q1 q2
        · have hiK : i = K := by omega
          subst hiK
          rw [hEA i (Nat.le_refl _), ← hie] at q1
          rw [(k5 (by omega)).1] at q2
          rcases hr' with ⟨p', a1, a2, a3, a4, a5⟩ | ⟨-, a1⟩
          · rw [(ofNat_eq (by omega) (by omega)).mp a5] at q2
            exact a4 q q1 q2
          · exact absurd a1 (ofNat_m1 (by omega))
  obtain ⟨r, r', k1, k2, K, q, a, b, l, k3, k4⟩ := key
  exact ⟨K, q, a, b, l, r, r', k1, k2, k3, k4⟩
theorem Rel0.patG {D : Doc} (h : Rel0 σ μ D L B H T) (h1 : fI σ 1990 1 = Int32.ofNat pn) (h40 : pn ≤ 40) : PT σ μ pn (aI σ 1991) (fI σ 1989 1) := by
  obtain ⟨p1, p2, pm, p3, p4, p5, p6⟩ := h.2.2.2.2.2.2.1
  have e : pm = pn := by
    rw [h1] at p4
    exact ((ofNat_eq (by omega) (by omega)).mp p4).symm
  subst e
  exact ⟨p4, rfl, fun _ _ => rfl, p5, p1.symm, fun k hk => (p6 k hk).symm, p3⟩
/-- parts at all finds, each behind the one before -/
def Fnd (P : Nat → Bool) (n pn m K : Nat) (a b l : Nat → Nat) : Prop := VP n K a b ∧ (∀ k, k < K → l k = m ∧ b k = a k + pn ∧ P (a k) = true) ∧ ∀ k, k ≤ K → ∀ q, eA b k ≤ q → q < pre n K a k → P q = false
theorem q_replaceAll (h : In σ (f, n, hd, c, cu, ma, lf, ml) T) {m : Nat} (h1 : fI σ 1990 1 = Int32.ofNat pn) (hpn : 1 ≤ pn ∧ pn ≤ 40) (h8 : fI σ 8 1 = Int32.ofNat m) (hm : m ≤ 200) : Ref σ (f, n, hd, c, cu, ma, lf, ml) T (f11_replaceAll σ) ∨ ∃ K a b l σ' f' hd' c' cu' ma' ml' T', K ≤ 3000 ∧ f11_replaceAll σ = some (.inl (Int32.ofNat K, σ')) ∧ Fnd (fdB f n (aI σ 1991) pn (fI σ 1989 1)) n pn m K a b l ∧ In σ' (f', nA n K a b l 0, hd', c', cu', ma', lf, ml') T' ∧ Sm osh σ σ' ∧ GA σ σ' (f, n, hd, c, cu, ma, lf, ml) (f', nA n K a b l 0, hd', c', cu', ma', lf, ml') T T' ∧ (K = 0 → T' = T) ∧ (K ≠ 0 → AK σ σ' (f, n, hd, c, cu, ma, lf, ml) T T') ∧ ∃ G : Nat → Int32, (∀ i, i < m → G i = aI σ 9 i) ∧ ∀ i, i < nA n K a b l 0 → f' i = spA f K a b l (fun _ => G) 0 i := by
  obtain ⟨μ, L, B, H, h0⟩ := h
  have hC : CT σ 1 L B f n := h0.2.1.1
  have hM : MT μ f n := h0.2.2.1.1
  have hn := hC.1
  have hp := h0.patG h1 hpn.2
  unfold f11_replaceAll
  rw [c7_isSet hp.1 hp.2.2.2.2.2.2, bnd_some, ite_tz, if_pos (decide_eq_true hpn.1)]
  obtain ⟨σ1, μ1, G, k1, j, hG⟩ := JP.tapeG h0 h8 hm
  obtain ⟨r, r1, r2, r3⟩ := find_both (j.ct hC h0.2.2.2.1.cells) (j.mt hM) (j.pat hp) hpn.1 (Nat.zero_le n)
  have r1 : f7_next σ1 1 0 = some r := r1
  obtain ⟨K, q, a, b, l, σ2, μ2, p1, p2, p3, p4, p5, p6⟩ := finds_allG j hC h0.2.2.2.1.cells hM hp hpn.1 h8 r3
  obtain ⟨r4, σ3, μ3, D', L', B', H', T', v1, v2, v3, v4, v5, v6, v7, v8, v9⟩ := act_of (P := RT) h0 p3 (by
    by_cases z : pn ≤ m
    · exact Or.inl (fun k hk => by have := p4 k hk; omega)
    · exact Or.inr (fun k hk => by have := p4 k hk; omega)) (by
    by_cases z : ends (aI σ 1991) pn ≤ ends G m
    · exact Or.inl (fun k hk => by rw [(p4 k hk).1, (p4 k hk).2.2]; omega)
    · exact Or.inr (fun k hk => by rw [(p4 k hk).1, (p4 k hk).2.2]; omega))
  have v4 : Rel0 σ3 μ3 D' L' B' H' T' := v4
  have hPF := v9.2.2
  rw [k1, bnd_some, r1, bnd_some, stp, stp]
  unfold f11_replaceAll_j57
  rw [p1, bnd_some]
  unfold f11_replaceAll_j117
  rw [stp, v1, bnd_some, p3.1.2.2.2]
  rcases v3 with rfl | rfl
  · rw [if_pos rfl]
    obtain ⟨n1, n2, n3, n4⟩ := (hPF.2.1 rfl).1
    subst n1 n2
    exact Or.inl ⟨σ3, rfl, ⟨_, _, _, _, v4⟩, hPF.1, n3, n4⟩
  · rw [if_neg (show ¬ (1 : Int32) = 0 by decide)]
    have hga := hPF.ga (Or.inr rfl)
    have hK := p3.pc.2.1
    have hF : Fnd (fdB f n (aI σ 1991) pn (fI σ 1989 1)) n pn m K a b l := ⟨p3.2.2.1.2.2.1, fun k hk => ⟨(p4 k hk).1, (p4 k hk).2.1, p5 k hk⟩, p6⟩
    refine Or.inr ?_
    rcases hPF.2.2 rfl with ⟨k0, k⟩ | ⟨k0, -, -, k1, k2⟩
    · have k' := k
      obtain ⟨n1, n2, n3, n4⟩ := k
      subst n2
      subst k0
      cases n1
      exact ⟨0, a, b, l, σ3, f, hd, c, cu, ma, ml, _, by omega, rfl, hF, ⟨_, _, _, _, v4⟩, hPF.1, hga, fun _ => rfl, fun z => absurd rfl z, G, hG, fun i _ => by rw [spA_K]⟩
    · obtain ⟨f', n', hd', c', cu', ma', lf', ml'⟩ := D'
      have hga' := hga
      obtain ⟨d1, d2, d3, d4, d5, d6, d7⟩ := k2
      subst d5
      subst d2
      exact ⟨K, a, b, l, σ3, f', hd', c', cu', ma', ml', T', hK, rfl, hF, ⟨_, _, _, _, v4⟩, hPF.1, hga, fun z => absurd z k0, fun _ => k1, G, hG, fun i _ => by rw [d1]⟩
end R
section F
variable {f : Nat → Int32} {n pn m K : Nat} {a b l : Nat → Nat} {X : Nat → Nat → Int32} {P : Nat → Bool}
/-- where a part begins in the text behind the act -/
def pbg (a b l : Nat → Nat) (k : Nat) : Nat := mA a b l k + (a k - eA b k)
theorem mA_s {k : Nat} : mA a b l (k + 1) = pbg a b l k + l k := rfl
/-- a letter that stays -/
theorem sp_gap (v : VP n K a b) {k at_ : Nat} (hk : k ≤ K) (h1 : eA b k ≤ at_) (h2 : at_ < pre n K a k) : spA f K a b l X 0 (mA a b l k + (at_ - eA b k)) = f at_ := by
  rw [v.spA_m k hk, show eA b k + (at_ - eA b k) = at_ by omega]
  exact v.spA_pre k hk _ h2
/-- a letter that is put -/
theorem sp_put (v : VP n K a b) {k t : Nat} (hk : k < K) (ht : t < l k) : spA f K a b l X 0 (pbg a b l k + t) = X k t := by
  have h1 := (v.eA_le (show k ≤ K by omega)).1
  unfold pre at h1
  rw [if_pos hk] at h1
  unfold pbg
  rw [show mA a b l k + (a k - eA b k) + t = mA a b l k + (a k - eA b k + t) by omega, v.spA_m k (by omega), spA_k hk, sp, if_neg (by omega), if_pos (by omega)]
  congr 1
  omega
/-- a find that no part touches would have been one before -/
theorem find_left (g : Nat → Int32) (pt : Nat → Int32) (w : Int32) (F : Fnd (fdB f n pt pn w) n pn m K a b l) (hg : ∀ i, i < nA n K a b l 0 → g i = spA f K a b l X 0 i) {p : Nat} (hp : fdB g (nA n K a b l 0) pt pn w p = true) (hpn : 1 ≤ pn) : ∃ k, k < K ∧ p ≤ pbg a b l k + l k ∧ pbg a b l k ≤ p + pn := by
  obtain ⟨v, f1, f2⟩ := F
  have hin := fdB_in hp
  apply Classical.byContradiction
  intro hno
  have hno : ∀ k, k < K → p + pn < pbg a b l k ∨ pbg a b l k + l k < p := fun k hk => by
    rcases Nat.lt_or_ge (p + pn) (pbg a b l k) with z | z
    · exact Or.inl z
    · rcases Nat.lt_or_ge (pbg a b l k + l k) p with y | y
      · exact Or.inr y
      · exact absurd ⟨k, hk, y, z⟩ hno
  have hex : ∀ J, J ≤ K → (∃ j, j < J ∧ p + pn < pbg a b l j ∧ ∀ i, i < j → pbg a b l i + l i < p) ∨ ∀ i, i < J → pbg a b l i + l i < p := by
    intro J
    induction J with
    | zero => intro _; exact Or.inr (fun i hi => by omega)
    | succ J ih =>
      intro hJ
      rcases ih (by omega) with ⟨j, j1, j2, j3⟩ | h
      · exact Or.inl ⟨j, by omega, j2, j3⟩
      · rcases hno J (by omega) with z | z
        · exact Or.inl ⟨J, by omega, z, h⟩
        · refine Or.inr (fun i hi => ?_)
          by_cases e : i = J
          · rw [e]; exact z
          · exact h i (by omega)
  obtain ⟨j, hj, hlo, hhi⟩ : ∃ j, j ≤ K ∧ (∀ i, i < j → pbg a b l i + l i < p) ∧ (j < K → p + pn < pbg a b l j) := by
    rcases hex K (Nat.le_refl _) with ⟨j, j1, j2, j3⟩ | h
    · exact ⟨j, by omega, j3, fun _ => j2⟩
    · exact ⟨K, Nat.le_refl _, h, fun z => by omega⟩
  have hm0 : mA a b l j ≤ p ∧ (j ≠ 0 → mA a b l j < p) := by
    cases j with
    | zero => exact ⟨Nat.zero_le _, fun z => absurd rfl z⟩
    | succ i =>
      have := hlo i (by omega)
      rw [mA_s]
      exact ⟨by omega, fun _ => this⟩
  have hE := v.eA_le hj
  have hN := v.nA_m (l := l) j hj
  have hNK := v.nA_m (l := l) K (Nat.le_refl _)
  rw [nA_K] at hNK
  -- the place before
  obtain ⟨q, hq⟩ : ∃ q, q = eA b j + (p - mA a b l j) := ⟨_, rfl⟩
  have hpre : q + pn ≤ pre n K a j ∧ (j < K → q + pn < pre n K a j) := by
    unfold pre at hE ⊢
    by_cases z : j < K
    · rw [if_pos z] at hE ⊢
      have := hhi z
      unfold pbg at this
      exact ⟨by omega, fun _ => by omega⟩
    · have : j = K := by omega
      subst this
      rw [if_neg z]
      exact ⟨by omega, fun y => by omega⟩
  have hpn2 := v.pre_n (k := j)
  have hlet : ∀ t, eA b j ≤ q + t → q + t < pre n K a j → p + t < nA n K a b l 0 → g (p + t) = f (q + t) := fun t t1 t2 t3 => by
    rw [hg _ t3, ← sp_gap (f := f) (l := l) (X := X) v hj t1 t2]
    congr 1
    omega
  have hfalse := f2 j hj q (by omega) (by omega)
  have htrue : fdB f n pt pn w q = true := by
    unfold fdB at hp ⊢
    simp only [Bool.and_eq_true, decide_eq_true_eq, Bool.or_eq_true] at hp ⊢
    obtain ⟨⟨h1, h2⟩, h3⟩ := hp
    refine ⟨⟨by omega, fun t ht => ?_⟩, ?_⟩
    · rw [← h2 t ht]
      exact (hlet t (by omega) (by omega) (by omega)).symm
    · rcases h3 with h3 | ⟨h3, h4⟩
      · exact Or.inl h3
      · refine Or.inr ⟨?_, ?_⟩
        · by_cases z : q = 0
          · exact Or.inl (by rw [z]; rfl)
          · refine Or.inr ?_
            rcases h3 with h3 | h3
            · have hp0 : p = 0 := by simpa using h3
              exfalso
              have hj0 : j = 0 := by
                rcases Nat.eq_zero_or_pos j with y | y
                · exact y
                · have := hm0.2 (by omega)
                  omega
              subst hj0
              have e1 : eA b 0 = 0 := rfl
              omega
            · have hp0 : p ≠ 0 := by
                intro e
                have hj0 : j = 0 := by
                  rcases Nat.eq_zero_or_pos j with y | y
                  · exact y
                  · have := hm0.2 (by omega)
                    omega
                subst hj0
                have e1 : eA b 0 = 0 := rfl
                omega
              have hge : eA b j ≤ q - 1 := by
                by_cases y : j = 0
                · rw [y]
                  exact Nat.zero_le _
                · have := hm0.2 y
                  omega
              have hx : g (p - 1) = f (q - 1) := by
                rw [hg _ (by omega), ← sp_gap (f := f) (l := l) (X := X) v hj hge (by omega)]
                congr 1
                by_cases y : j = 0
                · subst y
                  have e1 : eA b 0 = 0 := rfl
                  have e2 : mA a b l 0 = 0 := rfl
                  omega
                · have := hm0.2 y
                  omega
              rw [← hx]
              exact h3
        · by_cases z : n ≤ q + pn
          · exact Or.inl z
          · refine Or.inr ?_
            rcases h4 with h4 | h4
            · exfalso
              rcases Nat.lt_or_ge j K with y | y
              · have h5 := hhi y
                have h6 := v.nA_m (l := l) j hj
                have h7 := v.nA_ge (l := l) j (by omega) y
                unfold pbg at h5
                omega
              · have : j = K := by omega
                subst this
                omega
            · have h5 : p + pn < nA n K a b l 0 := by
                rcases Nat.lt_or_ge j K with y | y
                · have h5 := hhi y
                  have h6 := v.nA_m (l := l) j hj
                  have h7 := v.nA_ge (l := l) j (by omega) y
                  unfold pbg at h5
                  omega
                · have : j = K := by omega
                  subst this
                  omega
              have h6 : q + pn < pre n K a j := by
                rcases Nat.lt_or_ge j K with y | y
                · exact hpre.2 y
                · unfold pre
                  rw [if_neg (by omega)]
                  omega
              rw [← hlet pn (by omega) h6 h5]
              exact h4
  rw [hfalse] at htrue
  cases htrue
end F
