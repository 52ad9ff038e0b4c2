/-! all parts replaced, from the last to the first -/
def mvD (a b l : Nat → Nat) (z : Int32) (p : Nat) : Nat → Nat → Nat
  | 0, _ => p
  | d + 1, k => mvp (a k) (b k) (l k) z (mvD a b l z p d (k + 1))
def mvA (K : Nat) (a b l : Nat → Nat) (z : Int32) (k p : Nat) : Nat := mvD a b l z p (K - k) k
def mvN' (K : Nat) (a b l : Nat → Nat) (z x : Int32) (k : Nat) : Int32 := if x = -1 then -1 else Int32.ofNat (mvA K a b l z k x.toNatClampNeg)
theorem mvA_K {K : Nat} {a b l : Nat → Nat} {z : Int32} {p : Nat} : mvA K a b l z K p = p := by
  unfold mvA
  rw [Nat.sub_self]
  rfl
theorem mvA_k {K : Nat} {a b l : Nat → Nat} {z : Int32} {k p : Nat} (h : k < K) : mvA K a b l z k p = mvp (a k) (b k) (l k) z (mvA K a b l z (k + 1) p) := by
  unfold mvA
  rw [show K - k = (K - (k + 1)) + 1 by omega]
  rfl
theorem mvA_le {n K : Nat} {a b l : Nat → Nat} (v : VP n K a b) {z : Int32} {p : Nat} (hp : p ≤ n) : ∀ k, k ≤ K → mvA K a b l z k p ≤ nA n K a b l k := by
  refine v.down (by rw [mvA_K, nA_K]; exact hp) (fun k hk ih => ?_)
  rw [mvA_k hk, nA_k hk]
  exact mvp_le (v.1 k hk).1 ((v.nA_ge (l := l) k (by omega) hk).2) ih
theorem OP.ex {T : Nat → Prop} {h : Nat → Int32} {m : Nat} : ∃ h', OP T h m h' ∧ ∀ j, m ≤ j → h' j = h j := by
  refine ⟨fun j => @ite _ (j < m ∧ ∃ t, T t ∧ t < m ∧ sr h t j) (Classical.propDecidable _) 0 (h j), fun j hj => ⟨fun z => ?_, fun z => ?_⟩, fun j hj => ?_⟩
  · exact if_pos ⟨hj, z⟩
  · exact if_neg (fun w => z w.2)
  · exact if_neg (fun w => by omega)
theorem nl_ex {f : Nat → Int32} : ∀ {p i : Nat}, 1 ≤ i → i ≤ ends f p → ∃ q, q < p ∧ f q = 10 ∧ ends f (q + 1) = i := by
  intro p
  induction p with
  | zero => intro i h1 h2; exact absurd h2 (by show ¬ i ≤ 0; omega)
  | succ p ih =>
    intro i h1 h2
    rw [ends_succ] at h2
    by_cases e : i ≤ ends f p
    · obtain ⟨q, q1, q2, q3⟩ := ih h1 e
      exact ⟨q, by omega, q2, q3⟩
    · by_cases h10 : f p = 10
      · rw [if_pos h10] at h2
        exact ⟨p, by omega, h10, by rw [ends_succ, if_pos h10]; omega⟩
      · rw [if_neg h10] at h2
        omega
/-- the lines that parts touch -/
def TK (f : Nat → Int32) (K : Nat) (a b : Nat → Nat) (k : Nat) : Nat → Prop := fun t => ∃ j, k ≤ j ∧ j < K ∧ ends f (a j) ≤ t ∧ t ≤ ends f (b j)
/-- for each letter, whether the line behind it is hidden -/
def fl (f S : Nat → Int32) (q : Nat) : Int32 := S (ends f (q + 1))
section R
variable {f : Nat → Int32} {n K : Nat} {a b l : Nat → Nat} {X : Nat → Nat → Int32}
theorem VP.spA_ext (v : VP n K a b) {g g' : Nat → Int32} {Y : Nat → Nat → Int32} {lo : Nat} (e : ∀ i, lo ≤ i → g i = g' i) : ∀ k, k ≤ K → (k < K → lo ≤ a k) → ∀ q, lo ≤ q → spA g K a b l Y k q = spA g' K a b l Y k q := by
  refine v.down (P := fun k => (k < K → lo ≤ a k) → ∀ q, lo ≤ q → spA g K a b l Y k q = spA g' K a b l Y k q) (fun _ q hq => by rw [spA_K, spA_K]; exact e q hq) (fun k hk ih hlo q hq => ?_)
  have h1 := hlo hk
  have h2 := v.1 k hk
  have ih := ih (fun hk2 => by have := v.2 k hk2; omega)
  rw [spA_k hk, spA_k hk, sp, sp]
  by_cases c1 : q < a k
  · rw [if_pos c1, if_pos c1, ih q hq]
  · by_cases c2 : q < a k + l k
    · rw [if_neg c1, if_pos c2, if_neg c1, if_pos c2]
    · rw [if_neg c1, if_neg c2, if_neg c1, if_neg c2, ih _ (by omega)]
theorem VP.ends_pre (v : VP n K a b) {k : Nat} (hk : k ≤ K) {p : Nat} (hp : p ≤ pre n K a k) : ends (spA f K a b l X k) p = ends f p := ends_congr (fun i hi => v.spA_pre k hk i hi) hp
theorem VP.pre_nA (v : VP n K a b) {k : Nat} (hk : k ≤ K) : pre n K a k ≤ nA n K a b l k := by
  unfold pre
  split
  · have := (v.nA_ge (l := l) k hk ‹_›).1
    omega
  · rw [show k = K by omega, nA_K]
    exact Nat.le_refl _
/-- the step of hidden lines -/
theorem hid_step (v : VP n K a b) {k : Nat} (hk : k < K) {hd H S h1 : Nat → Int32} (h0 : hd 0 = 0) (oS : OP (TK f K a b (k + 1)) hd (ends f n + 1) S) (H0 : H 0 = 0) (hF : ∀ q, q < nA n K a b l (k + 1) → spA f K a b l X (k + 1) q = 10 → H (ends (spA f K a b l X (k + 1)) (q + 1)) = spA (fl f S) K a b l (fun _ _ => 0) (k + 1) q) (o1 : OP (fun t => ends f (a k) ≤ t ∧ t ≤ ends f (b k)) H (ends (spA f K a b l X (k + 1)) (nA n K a b l (k + 1)) + 1) h1) : ∃ S', OP (TK f K a b k) hd (ends f n + 1) S' ∧ h1 0 = 0 ∧ ∀ q, q < nA n K a b l (k + 1) → spA f K a b l X (k + 1) q = 10 → h1 (ends (spA f K a b l X (k + 1)) (q + 1)) = spA (fl f S') K a b l (fun _ _ => 0) (k + 1) q := by
  have hpl := v.pre_le hk
  have hpn := v.pre_n (k := k + 1)
  have hpN := v.pre_nA (l := l) (show k + 1 ≤ K by omega)
  have hM := ends_mono (f := f) hpn
  have hbM := ends_mono (f := f) hpl.2
  have hEN := ends_mono (f := spA f K a b l X (k + 1)) hpN
  rw [v.ends_pre (by omega) (Nat.le_refl _)] at hEN
  have hab := ends_mono (f := f) (v.1 k hk).1
  have S0 : S 0 = 0 := by
    rcases oS.or 0 (by omega) with w | w
    · rw [w, h0]
    · exact w
  obtain ⟨S', s1, s2⟩ := OP.ex (T := fun t => ends f (a k) ≤ t ∧ t ≤ ends f (b k)) (h := S) (m := ends f n + 1)
  have hHS : ∀ i, i ≤ ends f (pre n K a (k + 1)) → H i = S i := by
    intro i hi
    by_cases i0 : i = 0
    · rw [i0, H0, S0]
    · obtain ⟨q, q1, q2, q3⟩ := nl_ex (f := f) (show 1 ≤ i by omega) hi
      have h1 := hF q (by omega) (by rw [v.spA_pre _ (by omega) q q1]; exact q2)
      rw [v.ends_pre (by omega) (by omega), q3, v.spA_pre _ (by omega) q q1] at h1
      unfold fl at h1
      rw [q3] at h1
      exact h1
  have hin : ∀ i, i ≤ ends f (pre n K a (k + 1)) → h1 i = S' i := by
    intro i hi
    have e : (∃ t, (ends f (a k) ≤ t ∧ t ≤ ends f (b k)) ∧ t < ends (spA f K a b l X (k + 1)) (nA n K a b l (k + 1)) + 1 ∧ sr H t i) ↔ ∃ t, (ends f (a k) ≤ t ∧ t ≤ ends f (b k)) ∧ t < ends f n + 1 ∧ sr S t i := by
      constructor
      · rintro ⟨t, t1, t2, t3⟩
        exact ⟨t, t1, by omega, fun j j1 j2 => by rw [← hHS j (by omega)]; exact t3 j j1 j2⟩
      · rintro ⟨t, t1, t2, t3⟩
        exact ⟨t, t1, by omega, fun j j1 j2 => by rw [hHS j (by omega)]; exact t3 j j1 j2⟩
    by_cases z : ∃ t, (ends f (a k) ≤ t ∧ t ≤ ends f (b k)) ∧ t < ends f n + 1 ∧ sr S t i
    · rw [(s1 i (by omega)).1 z, (o1 i (by omega)).1 (e.mpr z)]
    · rw [(s1 i (by omega)).2 z, (o1 i (by omega)).2 (fun w => z (e.mp w)), hHS i hi]
  refine ⟨S', (oS.trans s1).weak (fun t _ => ?_), ?_, fun q hq hq10 => ?_⟩
  · constructor
    · rintro (⟨j, j1, j2, j3, j4⟩ | ⟨j3, j4⟩)
      · exact ⟨j, by omega, j2, j3, j4⟩
      · exact ⟨k, by omega, hk, j3, j4⟩
    · rintro ⟨j, j1, j2, j3, j4⟩
      by_cases e : j = k
      · rw [e] at j3 j4
        exact Or.inr ⟨j3, j4⟩
      · exact Or.inl ⟨j, by omega, j2, j3, j4⟩
  · rcases o1.or 0 (by omega) with w | w
    · rw [w, H0]
    · exact w
  · rcases Nat.lt_or_ge q (pre n K a (k + 1)) with z | z
    · have hm := ends_mono (f := f) (show q + 1 ≤ pre n K a (k + 1) by omega)
      rw [v.ends_pre (by omega) (by omega), v.spA_pre _ (by omega) q z, hin _ hm]
      rfl
    · have hk2 : k + 1 < K := by
        rcases Nat.lt_or_ge (k + 1) K with w | w
        · exact w
        · exfalso
          have : k + 1 = K := by omega
          rw [this, nA_K] at hq
          unfold pre at z
          rw [if_neg (by omega)] at z
          omega
      have hp : pre n K a (k + 1) = a (k + 1) := by
        unfold pre
        rw [if_pos hk2]
      rw [hp] at z hHS hpl hbM hM hEN
      have hv := v.1 (k + 1) hk2
      have hME := v.ends_pre (f := f) (l := l) (X := X) (k := k + 1) (by omega) (p := a (k + 1)) (by rw [hp]; exact Nat.le_refl _)
      have hi : ends f (a (k + 1)) < ends (spA f K a b l X (k + 1)) (q + 1) := by
        have := ends_mono (f := spA f K a b l X (k + 1)) z
        rw [ends_succ, if_pos hq10]
        omega
      have SM : S (ends f (a (k + 1))) = 0 := oS.at (by omega) ⟨k + 1, Nat.le_refl _, hk2, Nat.le_refl _, ends_mono (by omega)⟩
      have hno : ¬ ∃ t, (ends f (a k) ≤ t ∧ t ≤ ends f (b k)) ∧ t < ends (spA f K a b l X (k + 1)) (nA n K a b l (k + 1)) + 1 ∧ sr H t (ends (spA f K a b l X (k + 1)) (q + 1)) := by
        rintro ⟨t, t1, t2, t3⟩
        exact t3 (ends f (a (k + 1))) (by omega) (by omega) (by rw [hHS _ (Nat.le_refl _)]; exact SM)
      have hqE := ends_mono (f := spA f K a b l X (k + 1)) (show q + 1 ≤ nA n K a b l (k + 1) by omega)
      rw [(o1 _ (by omega)).2 hno, hF q hq hq10]
      refine v.spA_ext (lo := a (k + 1)) (fun i hi => ?_) (k + 1) (by omega) (fun _ => Nat.le_refl _) q z
      unfold fl
      have hi2 := ends_mono (f := f) (show a (k + 1) ≤ i + 1 by omega)
      rcases Nat.lt_or_ge (ends f (i + 1)) (ends f n + 1) with w | w
      · by_cases e : ends f (i + 1) = ends f (a (k + 1))
        · rw [e, SM]
          rcases s1.or _ (show ends f (a (k + 1)) < ends f n + 1 by omega) with u | u
          · rw [u, SM]
          · exact u.symm
        · refine ((s1 _ w).2 ?_).symm
          rintro ⟨t, t1, t2, t3⟩
          exact t3 (ends f (a (k + 1))) (by omega) (by omega) SM
      · exact (s2 _ w).symm
end R
section R
variable {σ μ : Sto} {K : Nat} {a b l : Nat → Nat} {X : Nat → Nat → Int32} {f : Nat → Int32} {n c : Nat} {hd : Nat → Int32} {cu : Nat → Nat} {ma lf ml : Nat → Int32}
/-- hidden lines after all parts -/
def HF (f : Nat → Int32) (n K : Nat) (a b l : Nat → Nat) (X : Nat → Nat → Int32) (S H : Nat → Int32) (k : Nat) : Prop := H 0 = 0 ∧ ∀ q, q < nA n K a b l k → spA f K a b l X k q = 10 → H (ends (spA f K a b l X k) (q + 1)) = spA (fl f S) K a b l (fun _ _ => 0) k q
theorem c12_actsLoop (m : SM μ (f, n, hd, c, cu, ma, lf, ml)) (g : GD (f, n, hd, c, cu, ma, lf, ml)) (pr : PRp μ K a b l X) (v : VP n K a b) (hN : ∀ k, k ≤ K → nA n K a b l k ≤ 3000 ∧ ends (spA f K a b l X k) (nA n K a b l k) < 300) : ∃ μ' H S, loopF (fun s_148 => f12_acts_b148 s_148.1 s_148.2) FU (μ, Int32.ofNat K - 1) = some μ' ∧ OP (TK f K a b 0) hd (ends f n + 1) S ∧ HF f n K a b l X S H 0 ∧ (∀ j, j ≤ ends (spA f K a b l X 0) (nA n K a b l 0) → H j = 0 ∨ H j = 1) ∧ SM μ' (spA f K a b l X 0, nA n K a b l 0, H, c, (fun i => mvA K a b l 0 0 (cu i)), (fun i => mvN' K a b l (ml i) (ma i) 0), lf, ml) ∧ (∀ i, i < c → H (ends (spA f K a b l X 0) (mvA K a b l 0 0 (cu i))) = 0) ∧ mfr μ μ' := by
  obtain ⟨g1, g2, g3, g4, g5, g6, g7, g8, g9, g10, g11⟩ := g
  have hK : K ≤ 3000 := pr.2.1
  have key : Ok (loopF (fun s_148 => f12_acts_b148 s_148.1 s_148.2) FU (μ, Int32.ofNat K - 1)) (fun μ' => ∃ H S, OP (TK f K a b 0) hd (ends f n + 1) S ∧ HF f n K a b l X S H 0 ∧ (∀ j, j ≤ ends (spA f K a b l X 0) (nA n K a b l 0) → H j = 0 ∨ H j = 1) ∧ SM μ' (spA f K a b l X 0, nA n K a b l 0, H, c, (fun i => mvA K a b l 0 0 (cu i)), (fun i => mvN' K a b l (ml i) (ma i) 0), lf, ml) ∧ (∀ i, i < c → H (ends (spA f K a b l X 0) (mvA K a b l 0 0 (cu i))) = 0) ∧ mfr μ μ') := by
    refine Ok_count K (fun i s => s.2 = Int32.ofNat (K - i) - 1 ∧ PRp s.1 K a b l X ∧ mfr μ s.1 ∧ ∃ H S, OP (TK f K a b (K - i)) hd (ends f n + 1) S ∧ HF f n K a b l X S H (K - i) ∧ (∀ j, j ≤ ends (spA f K a b l X (K - i)) (nA n K a b l (K - i)) → H j = 0 ∨ H j = 1) ∧ SM s.1 (spA f K a b l X (K - i), nA n K a b l (K - i), H, c, (fun j => mvA K a b l 0 (K - i) (cu j)), (fun j => mvN' K a b l (ml j) (ma j) (K - i)), lf, ml) ∧ ∀ j, j < c → H (ends (spA f K a b l X (K - i)) (mvA K a b l 0 (K - i) (cu j))) = 0) ?_ 0 ?_ (by omega) (by (show _ < FU; unfold FU; omega))
    · rintro i ⟨M, y⟩ hi ⟨e, pM, fM, H, S, oS, ⟨H0, hF⟩, H01, mM, vM⟩
      have e : y = Int32.ofNat (K - i) - 1 := e
      subst e
      have pM : PRp M K a b l X := pM
      have fM : mfr μ M := fM
      have mM : SM M (spA f K a b l X (K - i), nA n K a b l (K - i), H, c, (fun j => mvA K a b l 0 (K - i) (cu j)), (fun j => mvN' K a b l (ml j) (ma j) (K - i)), lf, ml) := mM
      unfold f12_acts_b148
      simp only [i32_p0 (show K - i < 2147483648 by omega)]
      by_cases hq : K - i = 0
      · rw [if_pos hq, Ok_some, lp_inr]
        rw [hq] at oS hF H01 mM vM
        exact ⟨H, S, oS, ⟨H0, hF⟩, H01, mM, vM, fM⟩
      · obtain ⟨k, hk⟩ : ∃ k, K - i = k + 1 := ⟨K - i - 1, by omega⟩
        have hkK : k < K := by omega
        rw [hk] at oS hF H01 mM vM
        have hv := v.1 k hkK
        have hb := (v.nA_ge (l := l) k (by omega) hkK).2
        have hpl := v.pre_le hkK
        obtain ⟨M', h1, r1, r2, r3, r4, r5⟩ := c12_replaces mM pM hkK rfl rfl rfl rfl hv.1 hb (nA_k hkK) (hN k (by omega)).1 (hN (k + 1) (by omega)).2 (by have := (hN k (by omega)).2; rw [spA_k hkK] at this; exact this) H0 H01 g6.2 (fun j hj => mvA_le v (g8 j hj) (k + 1) (by omega)) (fun j hj => by
          unfold mvN'
          rcases g10 j hj with w | ⟨p, p1, p2⟩
          · exact Or.inl (by rw [if_pos w])
          · by_cases w : ma j = -1
            · exact Or.inl (by rw [if_pos w])
            · refine Or.inr ⟨_, mvA_le (l := l) (z := ml j) v (p := p) p1 (k + 1) (by omega), ?_⟩
              rw [if_neg w, p2, ofNat_clamp (by omega)])
        have ea : ends (spA f K a b l X (k + 1)) (a k) = ends f (a k) := v.ends_pre (by omega) hpl.1
        have eb : ends (spA f K a b l X (k + 1)) (b k) = ends f (b k) := v.ends_pre (by omega) hpl.2
        have eab := ends_mono (f := f) hv.1
        have ebN := ends_mono (f := spA f K a b l X (k + 1)) hb
        rw [ea, eb] at r2
        rw [eb] at ebN
        obtain ⟨S', o1, h10, hF1⟩ := hid_step v hkK g4 oS H0 hF r2
        have hor : ∀ j, j ≤ ends (spA f K a b l X (k + 1)) (nA n K a b l (k + 1)) → H j = 0 → h1 j = 0 := fun j hj hz => by
          rcases r2.or j (by omega) with w | w
          · rw [w, hz]
          · exact w
        have h1a : h1 (ends f (a k)) = 0 := r2.at (by omega) ⟨Nat.le_refl _, eab⟩
        rw [hk, i32_pred.1, if_neg (by omega), r1, bnd_some, stp, i32_dec, Ok_some, lp_inl, show K - (i + 1) = k by omega]
        have eN : ends (spA f K a b l X k) (nA n K a b l k) + ends f (b k) = ends f (a k) + ends (X k) (l k) + ends (spA f K a b l X (k + 1)) (nA n K a b l (k + 1)) := by
          have := ends_sp3 (f := spA f K a b l X (k + 1)) (a := a k) (b := b k) (l := l k) (x := X k) (i := nA n K a b l (k + 1) - b k)
          rw [ea, eb] at this
          rw [spA_k hkK, nA_k hkK]
          rw [show a k + l k + (nA n K a b l (k + 1) - b k) = nA n K a b l (k + 1) - (b k - a k) + l k by omega, show b k + (nA n K a b l (k + 1) - b k) = nA n K a b l (k + 1) by omega] at this
          exact this
        refine ⟨by omega, rfl, r4, fM.trans r5, (fun j => if j ≤ ends f (a k) then h1 j else if j ≤ ends f (a k) + ends (X k) (l k) then 0 else h1 (j + ends f (b k) - (ends f (a k) + ends (X k) (l k)))), S', o1, ⟨?_, fun q hqN hq10 => ?_⟩, fun j hj => ?_, ?_, fun j hj => ?_⟩
        · show (if 0 ≤ ends f (a k) then _ else _) = _
          rw [if_pos (Nat.zero_le _)]
          exact h10
        · rw [spA_k hkK] at hq10 ⊢
          rw [spA_k (f := fl f S') hkK]
          show (if ends (sp _ _ _ _ _) (q + 1) ≤ ends f (a k) then _ else _) = _
          by_cases c1 : q < a k
          · have h2 : ends (sp (spA f K a b l X (k + 1)) (a k) (b k) (l k) (X k)) (q + 1) = ends (spA f K a b l X (k + 1)) (q + 1) := ends_sp1 (by omega)
            have h3 : ends (spA f K a b l X (k + 1)) (q + 1) = ends f (q + 1) := v.ends_pre (by omega) (by omega)
            have h4 := ends_mono (f := f) (show q + 1 ≤ a k by omega)
            rw [sp, if_pos c1] at hq10
            rw [h2, if_pos (by omega), hF1 q (by omega) hq10, sp, if_pos c1]
          · by_cases c2 : q < a k + l k
            · have h2 := ends_sp2 (f := spA f K a b l X (k + 1)) (a := a k) (b := b k) (l := l k) (x := X k) (p := q + 1 - a k) (by omega)
              have h3 := ends_sp2 (f := spA f K a b l X (k + 1)) (a := a k) (b := b k) (l := l k) (x := X k) (p := q - a k) (by omega)
              have h4 := ends_mono (f := X k) (show q + 1 - a k ≤ l k by omega)
              rw [show a k + (q + 1 - a k) = q + 1 by omega, ea] at h2
              rw [show a k + (q - a k) = q by omega, ea] at h3
              have h5 := ends_succ (sp (spA f K a b l X (k + 1)) (a k) (b k) (l k) (X k)) q
              rw [if_pos hq10] at h5
              rw [if_neg (by omega), if_pos (by omega), sp, if_neg c1, if_pos c2]
            · have h2 := ends_sp3 (f := spA f K a b l X (k + 1)) (a := a k) (b := b k) (l := l k) (x := X k) (i := q + 1 - (a k + l k))
              rw [show a k + l k + (q + 1 - (a k + l k)) = q + 1 by omega, ea, eb, show b k + (q + 1 - (a k + l k)) = q - (a k + l k) + b k + 1 by omega] at h2
              rw [sp, if_neg c1, if_neg c2] at hq10
              have h3 := ends_mono (f := spA f K a b l X (k + 1)) (show b k ≤ q - (a k + l k) + b k by omega)
              have h4 := ends_succ (spA f K a b l X (k + 1)) (q - (a k + l k) + b k)
              rw [if_pos hq10] at h4
              rw [nA_k hkK] at hqN
              rw [if_neg (by omega), if_neg (by omega), sp, if_neg c1, if_neg c2, ← hF1 _ (by omega) hq10]
              congr 1
              omega
        · show (if j ≤ ends f (a k) then h1 j else if j ≤ ends f (a k) + ends (X k) (l k) then 0 else h1 (j + ends f (b k) - (ends f (a k) + ends (X k) (l k)))) = 0 ∨ (if j ≤ ends f (a k) then h1 j else if j ≤ ends f (a k) + ends (X k) (l k) then 0 else h1 (j + ends f (b k) - (ends f (a k) + ends (X k) (l k)))) = 1
          have h01 : ∀ j, j ≤ ends (spA f K a b l X (k + 1)) (nA n K a b l (k + 1)) → h1 j = 0 ∨ h1 j = 1 := fun j hj => by
            rcases r2.or j (by omega) with w | w
            · rw [w]; exact H01 j hj
            · exact Or.inl w
          split
          · exact h01 j (by omega)
          · split
            · exact Or.inl rfl
            · exact h01 _ (by omega)
        · rw [spA_k hkK]
          have e1 : (fun j => mvA K a b l 0 k (cu j)) = fun j => mvp (a k) (b k) (l k) 0 (mvA K a b l 0 (k + 1) (cu j)) := by
            funext j
            rw [mvA_k hkK]
          have e2 : ∀ j, j < 16 → mvM (a k) (b k) (l k) (ml j) (mvN' K a b l (ml j) (ma j) (k + 1)) = mvN' K a b l (ml j) (ma j) k := by
            intro j hj
            unfold mvM mvN'
            by_cases w : ma j = -1
            · rw [if_pos w, if_pos rfl, if_pos w]
            · rcases g10 j hj with z | ⟨p, p1, p2⟩
              · exact absurd z w
              · have hle := mvA_le (l := l) (z := ml j) v p1 (k + 1) (by omega)
                have hl3 := (hN (k + 1) (by omega)).1
                have hne : ¬ Int32.ofNat (mvA K a b l (ml j) (k + 1) (ma j).toNatClampNeg) = -1 := by
                  rw [p2, ofNat_clamp (by omega)]
                  grind
                rw [if_neg w, if_neg hne, if_neg w, mvA_k hkK]
                congr 2
                rw [p2, show (Int32.ofNat p).toNatClampNeg = p from ofNat_clamp (by omega), ofNat_clamp (by omega)]
          rw [ea, eb] at r3
          obtain ⟨w1, w2, w3, w4, w5⟩ := r3
          rw [e1]
          exact ⟨w1, w2, w3, fun j hj => by rw [w4 j hj]; exact e2 j hj, w5⟩
        · have hvis := vM j hj
          have hpn := mvA_le (l := l) (z := 0) v (g8 j hj) (k + 1) (by omega)
          rw [mvA_k hkK, spA_k hkK]
          generalize mvA K a b l 0 (k + 1) (cu j) = p at hvis hpn
          have hpE := ends_mono (f := spA f K a b l X (k + 1)) hpn
          have hz : h1 (ends (spA f K a b l X (k + 1)) p) = 0 := hor _ hpE hvis
          have hL : (if ends f (a k) + ends (X k) (l k) ≤ ends f (a k) then h1 (ends f (a k) + ends (X k) (l k)) else if ends f (a k) + ends (X k) (l k) ≤ ends f (a k) + ends (X k) (l k) then 0 else h1 (ends f (a k) + ends (X k) (l k) + ends f (b k) - (ends f (a k) + ends (X k) (l k)))) = 0 := by
            by_cases w : ends f (a k) + ends (X k) (l k) ≤ ends f (a k)
            · rw [if_pos w, show ends f (a k) + ends (X k) (l k) = ends f (a k) by omega]
              exact h1a
            · rw [if_neg w, if_pos (Nat.le_refl _)]
          unfold mvp
          by_cases c1 : p < a k
          · have h2 : ends (sp (spA f K a b l X (k + 1)) (a k) (b k) (l k) (X k)) p = ends (spA f K a b l X (k + 1)) p := ends_sp1 (by omega)
            have h3 : ends (spA f K a b l X (k + 1)) p = ends f p := v.ends_pre (by omega) (by omega)
            have h4 := ends_mono (f := f) (show p ≤ a k by omega)
            rw [if_pos c1, h2]
            show (if ends (spA f K a b l X (k + 1)) p ≤ _ then _ else _) = _
            rw [if_pos (by omega)]
            exact hz
          · rw [if_neg c1]
            by_cases c2 : p = b k
            · have h2 := ends_sp2 (f := spA f K a b l X (k + 1)) (a := a k) (b := b k) (l := l k) (x := X k) (Nat.le_refl _)
              rw [if_pos c2, if_pos rfl, h2, ea]
              exact hL
            · rw [if_neg c2]
              by_cases c3 : p < b k
              · have h2 : ends (sp (spA f K a b l X (k + 1)) (a k) (b k) (l k) (X k)) (a k) = ends (spA f K a b l X (k + 1)) (a k) := ends_sp1 (Nat.le_refl _)
                rw [if_pos c3, h2, ea]
                show (if ends f (a k) ≤ ends f (a k) then _ else _) = _
                rw [if_pos (Nat.le_refl _)]
                exact h1a
              · have h2 := ends_sp3 (f := spA f K a b l X (k + 1)) (a := a k) (b := b k) (l := l k) (x := X k) (i := p - b k)
                rw [show b k + (p - b k) = p by omega, ea, eb] at h2
                have h3 := ends_mono (f := spA f K a b l X (k + 1)) (show b k ≤ p by omega)
                rw [eb] at h3
                rw [if_neg c3, show p + l k - (b k - a k) = a k + l k + (p - b k) by omega]
                by_cases c4 : ends (spA f K a b l X (k + 1)) p = ends f (b k)
                · rw [show ends (sp (spA f K a b l X (k + 1)) (a k) (b k) (l k) (X k)) (a k + l k + (p - b k)) = ends f (a k) + ends (X k) (l k) by omega]
                  exact hL
                · show (if ends (sp (spA f K a b l X (k + 1)) (a k) (b k) (l k) (X k)) (a k + l k + (p - b k)) ≤ _ then _ else _) = _
                  rw [if_neg (by omega), if_neg (by omega), show ends (sp (spA f K a b l X (k + 1)) (a k) (b k) (l k) (X k)) (a k + l k + (p - b k)) + ends f (b k) - (ends f (a k) + ends (X k) (l k)) = ends (spA f K a b l X (k + 1)) p by omega]
                  exact hz
    · rw [Nat.sub_zero]
      refine ⟨rfl, pr, mfr.rf, hd, hd, OP.rf.weak (fun t _ => ⟨fun z => z.elim, fun ⟨j, j1, j2, _⟩ => by omega⟩), ⟨g4, fun q hq hq10 => by rw [spA_K, spA_K]; rfl⟩, fun j hj => ?_, ?_, fun j hj => ?_⟩
      · rw [spA_K, nA_K] at hj
        exact g5 j hj
      · rw [spA_K, nA_K]
        obtain ⟨w1, w2, w3, w4, w5⟩ := m
        refine ⟨w1, w2, ⟨w3.1, fun j hj => by show _ = Int32.ofNat (mvA K a b l 0 K (cu j)); rw [mvA_K]; exact w3.2 j hj⟩, fun j hj => ?_, w5⟩
        rw [w4 j hj]
        show ma j = mvN' K a b l (ml j) (ma j) K
        unfold mvN'
        rcases g10 j hj with z | ⟨p, p1, p2⟩
        · rw [if_pos z, z]
        · by_cases w : ma j = -1
          · rw [if_pos w, w]
          · rw [if_neg w, mvA_K, p2, ofNat_clamp (by omega)]
      · rw [spA_K, mvA_K]
        exact g9 j hj
  obtain ⟨μ', k1, H, S, k2⟩ := key
  exact ⟨μ', H, S, k1, k2⟩
end R
