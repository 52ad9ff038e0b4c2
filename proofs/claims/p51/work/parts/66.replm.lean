/-! the reference: one part replaced -/
def PRp (μ : Sto) (K : Nat) (a b l : Nat → Nat) (X : Nat → Nat → Int32) : Prop := fI μ 2017 27 = Int32.ofNat K ∧ K ≤ 3000 ∧ ∃ s : Nat → Nat, ∀ k, k < K → aI μ 2029 k = Int32.ofNat (a k) ∧ aI μ 2030 k = Int32.ofNat (b k) ∧ aI μ 2031 k = Int32.ofNat (s k) ∧ aI μ 2032 k = Int32.ofNat (l k) ∧ s k + l k ≤ 3200 ∧ ∀ i, i < l k → aI μ 2033 (s k + i) = X k i
theorem PRp.congr {μ μ' : Sto} {K : Nat} {a b l : Nat → Nat} {X : Nat → Nat → Int32} (h : PRp μ K a b l X) (h1 : fI μ' 2017 27 = fI μ 2017 27) (h2 : ∀ r, 2029 ≤ r → r ≤ 2033 → aI μ' r = aI μ r) : PRp μ' K a b l X := by
  unfold PRp at h ⊢
  rw [h1, h2 2029 (by omega) (by omega), h2 2030 (by omega) (by omega), h2 2031 (by omega) (by omega), h2 2032 (by omega) (by omega), h2 2033 (by omega) (by omega)]
  exact h
section R
variable {σ μ : Sto} {K : Nat} {a b l : Nat → Nat} {X : Nat → Nat → Int32}
theorem c12_endsIn (p : PRp μ K a b l X) {k : Nat} {x : Int32} (hx : x = Int32.ofNat k) (hk : k < K) : f12_endsIn μ x = some (Int32.ofNat (ends (X k) (l k))) := by
  subst hx
  obtain ⟨p1, p2, s, p3⟩ := p
  obtain ⟨q1, q2, q3, q4, q5, q6⟩ := p3 k hk
  have key : loopF (fun s_4 => f12_endsIn_b4 (Int32.ofNat k) μ s_4.1 s_4.2) FU (0, 0) = some (Int32.ofNat (ends (X k) (l k))) := by
    apply Ok_eq
    refine Ok_count (l k) (fun i z => z = (Int32.ofNat (ends (X k) i), Int32.ofNat i)) ?_ 0 rfl (by omega) (by (show _ < FU; unfold FU; omega))
    rintro i z hi rfl
    have e1 : Int32.ofNat (s k) + Int32.ofNat i = Int32.ofNat (s k + i) := by grind
    unfold f12_endsIn_b4 f12_endsIn_j38
    simp only [inb_n (show k < 3001 by omega) (by omega), gd_true, ofNat_clamp (show k < 2147483648 by omega), q4, q3, e1, i32_le (show l k < 2147483648 by omega) (show i < 2147483648 by omega), stp, i32_succ]
    by_cases hq : l k ≤ i
    · rw [if_pos hq, Ok_some, lp_inr, show i = l k by omega]
    · simp only [if_neg hq, inb_n (show s k + i < 3200 by omega) (by omega), gd_true, ofNat_clamp (show s k + i < 2147483648 by omega), q6 i (by omega)]
      by_cases h10 : X k i = 10
      · rw [if_pos h10, Ok_some, lp_inl, ends_succ, if_pos h10]
        exact ⟨by omega, rfl⟩
      · rw [if_neg h10, Ok_some, lp_inl, ends_succ, if_neg h10, Nat.add_zero]
        refine ⟨by omega, ?_⟩
        have : Int32.ofNat (ends (X k) i) + 0 = Int32.ofNat (ends (X k) i) := by grind
        rw [this]
        rfl
  rw [f12_endsIn, stp, stp, f12_endsIn_j4, key, bnd_some]
theorem c12_opensRange {m lo hi : Nat} {h : Nat → Int32} {x y z u v : Int32} (hm : m ≤ 300) (h0 : h 0 = 0) (hr : ∀ k, k < 301 → aI μ 2022 k = if k < m then h k else 0) (hl : lo ≤ hi) (hh : hi < m) : ∃ r h', loopF (fun s_40 => f12_replaces_b40 x s_40.1 y z u v (Int32.ofNat hi) s_40.2) FU (μ, Int32.ofNat lo) = some (rA μ 2022 r) ∧ OP (fun t => lo ≤ t ∧ t ≤ hi) h m h' ∧ ∀ k, k < 301 → r k = if k < m then h' k else 0 := by
  have key : Ok (loopF (fun s_40 => f12_replaces_b40 x s_40.1 y z u v (Int32.ofNat hi) s_40.2) FU (μ, Int32.ofNat lo)) (fun s => ∃ r h', s = rA μ 2022 r ∧ OP (fun t => lo ≤ t ∧ t ≤ hi) h m h' ∧ ∀ k, k < 301 → r k = if k < m then h' k else 0) := by
    refine Ok_count (hi + 1 - lo) (fun i s => ∃ r h', s = (rA μ 2022 r, Int32.ofNat (lo + i)) ∧ OP (fun t => lo ≤ t ∧ t < lo + i) h m h' ∧ ∀ k, k < 301 → r k = if k < m then h' k else 0) ?_ 0 ⟨aI μ 2022, h, by rw [rA_self]; rfl, OP.rf.weak (fun t _ => ⟨fun z => z.elim, fun z => by omega⟩), hr⟩ (by omega) (by (show _ < FU; unfold FU; omega))
    rintro i s hi' ⟨r, h', rfl, o1, o2⟩
    unfold f12_replaces_b40
    simp only [i32n_lt (show hi < 2147483648 by omega) (show lo + i < 2147483648 by omega), stp, i32_succ]
    by_cases hq : hi < lo + i
    · rw [if_pos hq, Ok_some, lp_inr]
      exact ⟨r, h', rfl, o1.weak (fun t _ => by omega), o2⟩
    · rw [if_neg hq]
      obtain ⟨h2, c2, o3⟩ := isOp.ex (h := h') (m := m) (j := lo + i) (by omega)
      have z0 : h' 0 = 0 := by
        rcases o1.or 0 (by omega) with w | w
        · rw [w, h0]
        · exact w
      obtain ⟨r3, p1, p2⟩ := c12_opens (μ := rA μ 2022 r) hm (by omega) z0 rfl (fun k hk => by rw [aI_rA, if_pos rfl]; exact o2 k hk) o3
      rw [p1, bnd_some, Ok_some, lp_inl, rA_rA]
      exact ⟨by omega, r3, h2, rfl, (o1.trans (o3.OP (by omega))).weak (fun t _ => by omega), p2⟩
  obtain ⟨s, k1, r, h', rfl, k2, k3⟩ := key
  exact ⟨r, h', k1, k2, k3⟩
theorem c12_rows134 {r0 : Nat → Int32} {s d : Nat} {x y z u v w x7 : Int32} (h7 : x7 + Int32.ofNat d = 0) (hd : d ≤ 300) (hs : s ≤ 300) (hr : aI μ 2022 = r0) (h01 : ∀ i, i < 301 → r0 i = 0 ∨ r0 i = 1) : ∃ r, loopF (fun s_134 => f12_replaces_b134 x s_134.1 y z u v w x7 s_134.2) FU (μ, Int32.ofNat s) = some (rA μ 2022 r) ∧ ∀ j, r j = if s ≤ j ∧ j < 300 then (if j + d < 300 then r0 (j + d) else 0) else r0 j := by
  have key : Ok (loopF (fun s_134 => f12_replaces_b134 x s_134.1 y z u v w x7 s_134.2) FU (μ, Int32.ofNat s)) (fun t => ∃ r, t = rA μ 2022 r ∧ ∀ j, r j = if s ≤ j ∧ j < 300 then (if j + d < 300 then r0 (j + d) else 0) else r0 j) := by
    refine Ok_count (300 - s) (fun i t => ∃ r, t = (rA μ 2022 r, Int32.ofNat (s + i)) ∧ ∀ j, r j = if s ≤ j ∧ j < s + i then (if j + d < 300 then r0 (j + d) else 0) else r0 j) ?_ 0 ⟨r0, by rw [← hr, rA_self]; rfl, fun j => by rw [if_neg (by omega)]⟩ (by omega) (by (show _ < FU; unfold FU; omega))
    rintro i t hi ⟨r, rfl, r1⟩
    have e1 : (300 : Int32) ≤ Int32.ofNat (s + i) ↔ 300 ≤ s + i := i32_le (a := 300) (by omega) (by omega)
    have e2 : Int32.ofNat (s + i) - x7 = Int32.ofNat (s + i + d) := by grind
    have e3 : (300 : Int32) ≤ Int32.ofNat (s + i + d) ↔ 300 ≤ s + i + d := i32_le (a := 300) (by omega) (by omega)
    have e5 : aI (rA μ 2022 r) 2022 = r := by rw [aI_rA, if_pos rfl]
    have n0 : vp_nar .boolean 0 = 0 := nar_b (Or.inl rfl)
    have n1 : vp_nar .boolean 1 = 1 := nar_b (Or.inr rfl)
    unfold f12_replaces_b134 f12_replaces_j176 f12_replaces_j177
    simp only [e1, e2, e3, e5, stp, i32_succ, n0, n1, rA_uA, ofNat_clamp (show s + i < 2147483648 by omega), ofNat_clamp (show s + i + d < 2147483648 by omega)]
    have hset : ∀ q : Int32, s + i < 300 → q = (if s + i + d < 300 then r0 (s + i + d) else 0) → ∀ j, up1 r (s + i) q j = if s ≤ j ∧ j < s + (i + 1) then (if j + d < 300 then r0 (j + d) else 0) else r0 j := by
      intro q hsi hq j
      unfold up1
      by_cases e : j = s + i
      · rw [if_pos e, if_pos (by omega), hq, e]
      · rw [if_neg e, r1 j]
        by_cases e2 : s ≤ j ∧ j < s + i
        · rw [if_pos e2, if_pos (show s ≤ j ∧ j < s + (i + 1) by omega)]
        · rw [if_neg e2, if_neg (show ¬ (s ≤ j ∧ j < s + (i + 1)) by omega)]
    by_cases hq : 300 ≤ s + i
    · rw [if_pos hq, Ok_some, lp_inr]
      refine ⟨r, rfl, fun j => ?_⟩
      rw [r1 j, show s + i = 300 by omega]
    · simp only [if_neg hq, inb_n (show s + i < 301 by omega) (by omega), gd_true]
      by_cases hq2 : 300 ≤ s + i + d
      · rw [if_pos hq2, Ok_some, lp_inl]
        exact ⟨by omega, _, rfl, hset 0 (by omega) (by rw [if_neg (by omega)])⟩
      · simp only [if_neg hq2, inb_n (show s + i + d < 301 by omega) (by omega), gd_true]
        have hv : r (s + i + d) = r0 (s + i + d) := by rw [r1, if_neg (by omega)]
        rw [hv]
        by_cases hz : r0 (s + i + d) = 0
        · rw [if_pos hz, Ok_some, lp_inl]
          exact ⟨by omega, _, rfl, hset 0 (by omega) (by rw [if_pos (by omega), hz])⟩
        · rw [if_neg hz, Ok_some, lp_inl]
          refine ⟨by omega, _, rfl, hset 1 (by omega) ?_⟩
          rw [if_pos (by omega)]
          rcases h01 (s + i + d) (by omega) with w | w
          · exact absurd w hz
          · rw [w]
  obtain ⟨t, k1, r, rfl, k2⟩ := key
  exact ⟨r, k1, k2⟩
theorem c12_rows84 {r0 : Nat → Int32} {s d : Nat} {x y z u v w x7 : Int32} (h7 : x7 = Int32.ofNat d) (hd : d ≤ s) (hs : s < 300) (hw : w + x7 = Int32.ofNat s) (hr : aI μ 2022 = r0) (h01 : ∀ i, i < 301 → r0 i = 0 ∨ r0 i = 1) : ∃ r, loopF (fun s_84 => f12_replaces_b84 x s_84.1 y z u v w x7 s_84.2) FU (μ, 299) = some (rA μ 2022 r) ∧ ∀ j, r j = if s < j ∧ j < 300 then r0 (j - d) else r0 j := by
  have key : Ok (loopF (fun s_84 => f12_replaces_b84 x s_84.1 y z u v w x7 s_84.2) FU (μ, 299)) (fun t => ∃ r, t = rA μ 2022 r ∧ ∀ j, r j = if s < j ∧ j < 300 then r0 (j - d) else r0 j) := by
    refine Ok_count (299 - s) (fun i t => ∃ r, t = (rA μ 2022 r, Int32.ofNat (299 - i)) ∧ ∀ j, r j = if 299 - i < j ∧ j < 300 then r0 (j - d) else r0 j) ?_ 0 ⟨r0, by rw [← hr, rA_self]; rfl, fun j => by rw [if_neg (by omega)]⟩ (by omega) (by (show _ < FU; unfold FU; omega))
    rintro i t hi ⟨r, rfl, r1⟩
    have e5 : aI (rA μ 2022 r) 2022 = r := by rw [aI_rA, if_pos rfl]
    have e2 : Int32.ofNat (299 - i) - x7 = Int32.ofNat (299 - i - d) := by rw [h7]; grind
    have hv : r (299 - i - d) = r0 (299 - i - d) := by rw [r1, if_neg (by omega)]
    unfold f12_replaces_b84
    simp only [hw, i32_le (show 299 - i < 2147483648 by omega) (show s < 2147483648 by omega), e2, e5, inb_n (show 299 - i - d < 301 by omega) (by omega), inb_n (show 299 - i < 301 by omega) (by omega), gd_true, ofNat_clamp (show 299 - i < 2147483648 by omega), ofNat_clamp (show 299 - i - d < 2147483648 by omega), hv, nar_b (h01 (299 - i - d) (by omega)), rA_uA, stp]
    by_cases hq : 299 - i ≤ s
    · rw [if_pos hq, Ok_some, lp_inr]
      refine ⟨r, rfl, fun j => ?_⟩
      rw [r1 j, show 299 - i = s by omega]
    · rw [if_neg hq, Ok_some, lp_inl]
      have e3 : Int32.ofNat (299 - i) + -1 = Int32.ofNat (299 - (i + 1)) := by
        rw [show 299 - i = 299 - (i + 1) + 1 by omega]
        exact i32_pred.2
      refine ⟨by omega, _, by rw [e3], fun j => ?_⟩
      unfold up1
      by_cases e : j = 299 - i
      · rw [if_pos e, if_pos (by omega), e]
      · rw [if_neg e, r1 j]
        by_cases e2 : 299 - i < j ∧ j < 300
        · rw [if_pos e2, if_pos (by omega)]
        · rw [if_neg e2, if_neg (by omega)]
  obtain ⟨t, k1, r, rfl, k2⟩ := key
  exact ⟨r, k1, k2⟩
theorem c12_rows190 {r0 : Nat → Int32} {s p : Nat} {x y z u w x7 : Int32} (hp : p ≤ s) (hs : s < 300) (hw : w + x7 = Int32.ofNat s) (hr : aI μ 2022 = r0) : ∃ r, loopF (fun s_190 => f12_replaces_b190 x s_190.1 y z u w x7 s_190.2) FU (μ, Int32.ofNat (p + 1)) = some (rA μ 2022 r) ∧ ∀ j, r j = if p < j ∧ j ≤ s then 0 else r0 j := by
  have key : Ok (loopF (fun s_190 => f12_replaces_b190 x s_190.1 y z u w x7 s_190.2) FU (μ, Int32.ofNat (p + 1))) (fun t => ∃ r, t = rA μ 2022 r ∧ ∀ j, r j = if p < j ∧ j ≤ s then 0 else r0 j) := by
    refine Ok_count (s - p) (fun i t => ∃ r, t = (rA μ 2022 r, Int32.ofNat (p + 1 + i)) ∧ ∀ j, r j = if p < j ∧ j < p + 1 + i then 0 else r0 j) ?_ 0 ⟨r0, by rw [← hr, rA_self], fun j => by rw [if_neg (by omega)]⟩ (by omega) (by (show _ < FU; unfold FU; omega))
    rintro i t hi ⟨r, rfl, r1⟩
    have n0 : vp_nar .boolean 0 = 0 := nar_b (Or.inl rfl)
    unfold f12_replaces_b190
    simp only [hw, i32n_lt (show s < 2147483648 by omega) (show p + 1 + i < 2147483648 by omega), n0, rA_uA, stp, i32_succ, ofNat_clamp (show p + 1 + i < 2147483648 by omega)]
    by_cases hq : s < p + 1 + i
    · rw [if_pos hq, Ok_some, lp_inr]
      refine ⟨r, rfl, fun j => ?_⟩
      rw [r1 j]
      by_cases e2 : p < j ∧ j < p + 1 + i
      · rw [if_pos e2, if_pos (by omega)]
      · rw [if_neg e2, if_neg (by omega)]
    · rw [if_neg hq]
      simp only [inb_n (show p + 1 + i < 301 by omega) (by omega), gd_true]
      rw [Ok_some, lp_inl]
      refine ⟨by omega, _, rfl, fun j => ?_⟩
      unfold up1
      by_cases e : j = p + 1 + i
      · rw [if_pos e, if_pos (by omega)]
      · rw [if_neg e, r1 j]
        by_cases e2 : p < j ∧ j < p + 1 + i
        · rw [if_pos e2, if_pos (by omega)]
        · rw [if_neg e2, if_neg (by omega)]
  obtain ⟨t, k1, r, rfl, k2⟩ := key
  exact ⟨r, k1, k2⟩
theorem c12_rows270 {r0 : Nat → Int32} {p d N : Nat} {x y z u x8 : Int32} (h8 : x8 + Int32.ofNat d = 0) (hd : d ≤ p) (hp : p ≤ N) (hN : N ≤ 3000) (h5 : fI μ 2017 5 = Int32.ofNat N) (hr : aI μ 2018 = r0) : ∃ r, loopF (fun s_270 => f12_replaces_b270 x s_270.1 y z u x8 s_270.2) FU (μ, Int32.ofNat p) = some (rA μ 2018 r) ∧ ∀ j, r j = if p ≤ j + d ∧ j + d < N then r0 (j + d) else r0 j := by
  have key : Ok (loopF (fun s_270 => f12_replaces_b270 x s_270.1 y z u x8 s_270.2) FU (μ, Int32.ofNat p)) (fun t => ∃ r, t = rA μ 2018 r ∧ ∀ j, r j = if p ≤ j + d ∧ j + d < N then r0 (j + d) else r0 j) := by
    refine Ok_count (N - p) (fun i t => ∃ r, t = (rA μ 2018 r, Int32.ofNat (p + i)) ∧ ∀ j, r j = if p ≤ j + d ∧ j + d < p + i then r0 (j + d) else r0 j) ?_ 0 ⟨r0, by rw [← hr, rA_self]; rfl, fun j => by rw [if_neg (by omega)]⟩ (by omega) (by (show _ < FU; unfold FU; omega))
    rintro i t hi ⟨r, rfl, r1⟩
    have e5 : aI (rA μ 2018 r) 2018 = r := by rw [aI_rA, if_pos rfl]
    have e2 : Int32.ofNat (p + i) + x8 = Int32.ofNat (p + i - d) := by grind
    unfold f12_replaces_b270
    simp only [fI_rA, h5, i32_le (show N < 2147483648 by omega) (show p + i < 2147483648 by omega), e2, e5, rA_uA, stp, i32_succ, ofNat_clamp (show p + i < 2147483648 by omega), ofNat_clamp (show p + i - d < 2147483648 by omega)]
    by_cases hq : N ≤ p + i
    · rw [if_pos hq, Ok_some, lp_inr]
      refine ⟨r, rfl, fun j => ?_⟩
      rw [r1 j, show p + i = N by omega]
    · have hv : r (p + i) = r0 (p + i) := by
        rw [r1]
        by_cases hd0 : d = 0
        · rw [if_neg (by omega)]
        · rw [if_neg (by omega)]
      rw [if_neg hq]
      simp only [inb_n (show p + i < 3000 by omega) (by omega), inb_n (show p + i - d < 3000 by omega) (by omega), gd_true, hv]
      rw [Ok_some, lp_inl]
      refine ⟨by omega, _, rfl, fun j => ?_⟩
      unfold up1
      by_cases e : j = p + i - d
      · rw [if_pos e, if_pos (by omega), e]
        congr 1
        omega
      · rw [if_neg e, r1 j]
        by_cases e2 : p ≤ j + d ∧ j + d < p + i
        · rw [if_pos e2, if_pos (by omega)]
        · rw [if_neg e2, if_neg (by omega)]
  obtain ⟨t, k1, r, rfl, k2⟩ := key
  exact ⟨r, k1, k2⟩
theorem c12_rows235 {r0 : Nat → Int32} {p d N : Nat} {x y z u x8 : Int32} (h8 : x8 = Int32.ofNat d) (hz : z = Int32.ofNat p) (hp : p ≤ N) (hN : N + d ≤ 3000) (hd : 1 ≤ d) (hr : aI μ 2018 = r0) : ∃ r, loopF (fun s_235 => f12_replaces_b235 x s_235.1 y z u x8 s_235.2) FU (μ, Int32.ofNat N - 1) = some (rA μ 2018 r) ∧ ∀ j, r j = if p + d ≤ j ∧ j < N + d then r0 (j - d) else r0 j := by
  have key : Ok (loopF (fun s_235 => f12_replaces_b235 x s_235.1 y z u x8 s_235.2) FU (μ, Int32.ofNat N - 1)) (fun t => ∃ r, t = rA μ 2018 r ∧ ∀ j, r j = if p + d ≤ j ∧ j < N + d then r0 (j - d) else r0 j) := by
    refine Ok_count (N - p) (fun i t => ∃ r, t = (rA μ 2018 r, Int32.ofNat (N - i) - 1) ∧ ∀ j, r j = if N - i + d ≤ j ∧ j < N + d then r0 (j - d) else r0 j) ?_ 0 ⟨r0, by rw [← hr, rA_self]; rfl, fun j => by rw [if_neg (by omega)]⟩ (by omega) (by (show _ < FU; unfold FU; omega))
    rintro i t hi ⟨r, rfl, r1⟩
    have e5 : aI (rA μ 2018 r) 2018 = r := by rw [aI_rA, if_pos rfl]
    have e1 : Int32.ofNat (N - i) - 1 < z ↔ N - i ≤ p := by
      rw [hz]
      cases hq : N - i with
      | zero => exact ⟨fun _ => Nat.zero_le _, fun _ => by grind⟩
      | succ q =>
        rw [i32_pred.1, i32n_lt (by omega) (by omega)]
        omega
    unfold f12_replaces_b235
    simp only [e1]
    by_cases hq : N - i ≤ p
    · rw [if_pos hq, Ok_some, lp_inr]
      refine ⟨r, rfl, fun j => ?_⟩
      rw [r1 j, show N - i = p by omega]
    · obtain ⟨q, hq2⟩ : ∃ q, N - i = q + 1 := ⟨N - i - 1, by omega⟩
      have e2 : Int32.ofNat q + x8 = Int32.ofNat (q + d) := by rw [h8]; grind
      have hv : r q = r0 q := by rw [r1, if_neg (by omega)]
      rw [if_neg hq]
      simp only [hq2, i32_pred.1, e2, e5, hv, inb_n (show q < 3000 by omega) (by omega), inb_n (show q + d < 3000 by omega) (by omega), gd_true, rA_uA, stp, i32_dec, ofNat_clamp (show q < 2147483648 by omega), ofNat_clamp (show q + d < 2147483648 by omega)]
      rw [Ok_some, lp_inl]
      refine ⟨by omega, _, by rw [show N - (i + 1) = q by omega], fun j => ?_⟩
      unfold up1
      by_cases e : j = q + d
      · rw [if_pos e, if_pos (by omega), e]
        congr 1
        omega
      · rw [if_neg e, r1 j]
        by_cases e2 : N - i + d ≤ j ∧ j < N + d
        · rw [if_pos e2, if_pos (by omega)]
        · rw [if_neg e2, if_neg (by omega)]
  obtain ⟨t, k1, r, rfl, k2⟩ := key
  exact ⟨r, k1, k2⟩
theorem c12_rows305 (pr : PRp μ K a b l X) {k : Nat} (hk : k < K) {r0 : Nat → Int32} {p : Nat} {z x8 : Int32} (hp : p + l k ≤ 3000) (hr : aI μ 2018 = r0) : ∃ r, loopF (fun s_305 => f12_replaces_b305 (Int32.ofNat k) s_305.1 (Int32.ofNat p) z (Int32.ofNat (l k)) x8 s_305.2) FU (μ, 0) = some (rA μ 2018 r) ∧ ∀ j, r j = if p ≤ j ∧ j < p + l k then X k (j - p) else r0 j := by
  obtain ⟨p1, p2, s, p3⟩ := pr
  obtain ⟨q1, q2, q3, q4, q5, q6⟩ := p3 k hk
  have key : Ok (loopF (fun s_305 => f12_replaces_b305 (Int32.ofNat k) s_305.1 (Int32.ofNat p) z (Int32.ofNat (l k)) x8 s_305.2) FU (μ, 0)) (fun t => ∃ r, t = rA μ 2018 r ∧ ∀ j, r j = if p ≤ j ∧ j < p + l k then X k (j - p) else r0 j) := by
    refine Ok_count (l k) (fun i t => ∃ r, t = (rA μ 2018 r, Int32.ofNat i) ∧ ∀ j, r j = if p ≤ j ∧ j < p + i then X k (j - p) else r0 j) ?_ 0 ⟨r0, by rw [← hr, rA_self]; rfl, fun j => by rw [if_neg (by omega)]⟩ (by omega) (by (show _ < FU; unfold FU; omega))
    rintro i t hi ⟨r, rfl, r1⟩
    have f1 : aI (rA μ 2018 r) 2031 = aI μ 2031 := rfl
    have f2 : aI (rA μ 2018 r) 2033 = aI μ 2033 := rfl
    have e1 : Int32.ofNat (s k) + Int32.ofNat i = Int32.ofNat (s k + i) := by grind
    have e2 : Int32.ofNat p + Int32.ofNat i = Int32.ofNat (p + i) := by grind
    unfold f12_replaces_b305
    simp only [i32_le (show l k < 2147483648 by omega) (show i < 2147483648 by omega), inb_n (show k < 3001 by omega) (by omega), gd_true, ofNat_clamp (show k < 2147483648 by omega), f1, f2, q3, e1, e2, rA_uA, stp, i32_succ]
    by_cases hq : l k ≤ i
    · rw [if_pos hq, Ok_some, lp_inr]
      refine ⟨r, rfl, fun j => ?_⟩
      rw [r1 j, show i = l k by omega]
    · rw [if_neg hq]
      simp only [inb_n (show s k + i < 3200 by omega) (by omega), inb_n (show p + i < 3000 by omega) (by omega), gd_true, ofNat_clamp (show s k + i < 2147483648 by omega), ofNat_clamp (show p + i < 2147483648 by omega), q6 i (by omega)]
      rw [Ok_some, lp_inl]
      refine ⟨by omega, _, rfl, fun j => ?_⟩
      unfold up1
      by_cases e : j = p + i
      · rw [if_pos e, if_pos (by omega), e, Nat.add_sub_cancel_left]
      · rw [if_neg e, r1 j]
        by_cases e2 : p ≤ j ∧ j < p + i
        · rw [if_pos e2, if_pos (by omega)]
        · rw [if_neg e2, if_neg (by omega)]
  obtain ⟨t, k1, r, rfl, k2⟩ := key
  exact ⟨r, k1, k2⟩
/-- where a place comes to -/
def mvp (a b l : Nat) (z : Int32) (p : Nat) : Nat := if p < a then p else if p = b then (if z = 0 then a + l else a) else if p < b then a else p + l - (b - a)
theorem mvp_le {a b l p N : Nat} {z : Int32} (h : a ≤ b) (hb : b ≤ N) (hp : p ≤ N) : mvp a b l z p ≤ N - (b - a) + l := by
  unfold mvp
  split
  · omega
  · split
    · split <;> omega
    · split <;> omega
theorem c12_moved {a b l p : Nat} {z : Int32} (h : a ≤ b) (hb : b ≤ 3000) (hl : l ≤ 3200) (hp : p ≤ 3000) : f12_moved (Int32.ofNat p) z (Int32.ofNat a) (Int32.ofNat b) (Int32.ofNat l) = some (Int32.ofNat (mvp a b l z p)) := by
  unfold f12_moved f12_moved_j24 f12_moved_j42 mvp
  have e1 : Int32.ofNat p = Int32.ofNat b ↔ p = b := by grind
  simp only [i32_le (show a < 2147483648 by omega) (show p < 2147483648 by omega), i32_le (show b < 2147483648 by omega) (show p < 2147483648 by omega), e1]
  by_cases h1 : p < a
  · rw [if_neg (by omega), if_pos h1]
  · rw [if_pos (by omega), if_neg h1]
    by_cases h2 : p = b
    · rw [if_pos h2, if_pos h2]
      split
      · congr 1; grind
      · rfl
    · rw [if_neg h2, if_neg h2]
      by_cases h3 : p < b
      · rw [if_neg (by omega), if_pos h3]
      · rw [if_pos (by omega), if_neg h3]
        congr 1
        grind
theorem c12_rows355 {a b l c : Nat} {cu : Nat → Nat} {x : Int32} (h : a ≤ b) (hb : b ≤ 3000) (hl : l ≤ 3200) (hc : c ≤ 8) (h6 : fI μ 2017 6 = Int32.ofNat c) (hr : ∀ i, i < c → aI μ 2019 i = Int32.ofNat (cu i)) (hn : ∀ i, i < c → cu i ≤ 3000) : ∃ r, loopF (fun s_355 => f12_replaces_b355 x s_355.1 (Int32.ofNat a) (Int32.ofNat b) (Int32.ofNat l) s_355.2) FU (μ, 0) = some (rA μ 2019 r) ∧ ∀ i, i < c → r i = Int32.ofNat (mvp a b l 0 (cu i)) := by
  have key : Ok (loopF (fun s_355 => f12_replaces_b355 x s_355.1 (Int32.ofNat a) (Int32.ofNat b) (Int32.ofNat l) s_355.2) FU (μ, 0)) (fun t => ∃ r, t = rA μ 2019 r ∧ ∀ i, i < c → r i = Int32.ofNat (mvp a b l 0 (cu i))) := by
    refine Ok_count c (fun i t => ∃ r, t = (rA μ 2019 r, Int32.ofNat i) ∧ (∀ j, j < i → r j = Int32.ofNat (mvp a b l 0 (cu j))) ∧ ∀ j, i ≤ j → j < c → r j = Int32.ofNat (cu j)) ?_ 0 ⟨aI μ 2019, by rw [rA_self]; rfl, fun j hj => by omega, fun j _ hj => hr j hj⟩ (by omega) (by (show _ < FU; unfold FU; omega))
    rintro i t hi ⟨r, rfl, r1, r2⟩
    have e5 : aI (rA μ 2019 r) 2019 = r := by rw [aI_rA, if_pos rfl]
    unfold f12_replaces_b355
    simp only [fI_rA, h6, i32_le (show c < 2147483648 by omega) (show i < 2147483648 by omega), e5, ofNat_clamp (show i < 2147483648 by omega), rA_uA, stp, i32_succ]
    by_cases hq : c ≤ i
    · rw [if_pos hq, Ok_some, lp_inr]
      exact ⟨r, rfl, fun j hj => r1 j (by omega)⟩
    · rw [if_neg hq]
      simp only [inb_n (show i < 8 by omega) (by omega), gd_true, r2 i (Nat.le_refl _) (by omega), c12_moved h hb hl (hn i (by omega)), bnd_some]
      rw [Ok_some, lp_inl]
      refine ⟨by omega, _, rfl, fun j hj => ?_, fun j h1 h2 => ?_⟩
      · unfold up1
        by_cases e : j = i
        · rw [if_pos e, e]
        · rw [if_neg e]
          exact r1 j (by omega)
      · unfold up1
        rw [if_neg (by omega)]
        exact r2 j (by omega) h2
  obtain ⟨t, k1, r, rfl, k2⟩ := key
  exact ⟨r, k1, k2⟩
def mvM (a b l : Nat) (z x : Int32) : Int32 := if x = -1 then -1 else Int32.ofNat (mvp a b l z x.toNatClampNeg)
theorem c12_rows395 {a b l : Nat} {ma ml : Nat → Int32} {x : Int32} (h : a ≤ b) (hb : b ≤ 3000) (hl : l ≤ 3200) (hr : ∀ i, i < 16 → aI μ 2020 i = ma i) (hz : ∀ i, i < 16 → aI μ 2021 i = ml i) (hn : ∀ i, i < 16 → ma i = -1 ∨ ∃ p, p ≤ 3000 ∧ ma i = Int32.ofNat p) : ∃ r, loopF (fun s_395 => f12_replaces_b395 x s_395.1 (Int32.ofNat a) (Int32.ofNat b) (Int32.ofNat l) s_395.2) FU (μ, 0) = some (rA μ 2020 r) ∧ ∀ i, i < 16 → r i = mvM a b l (ml i) (ma i) := by
  have key : Ok (loopF (fun s_395 => f12_replaces_b395 x s_395.1 (Int32.ofNat a) (Int32.ofNat b) (Int32.ofNat l) s_395.2) FU (μ, 0)) (fun t => ∃ r, t = rA μ 2020 r ∧ ∀ i, i < 16 → r i = mvM a b l (ml i) (ma i)) := by
    refine Ok_count 16 (fun i t => ∃ r, t = (rA μ 2020 r, Int32.ofNat i) ∧ (∀ j, j < i → r j = mvM a b l (ml j) (ma j)) ∧ ∀ j, i ≤ j → j < 16 → r j = ma j) ?_ 0 ⟨aI μ 2020, by rw [rA_self]; rfl, fun j hj => by omega, fun j _ hj => hr j hj⟩ (by omega) (by (show _ < FU; unfold FU; omega))
    rintro i t hi ⟨r, rfl, r1, r2⟩
    have e5 : aI (rA μ 2020 r) 2020 = r := by rw [aI_rA, if_pos rfl]
    have e6 : aI (rA μ 2020 r) 2021 = aI μ 2021 := rfl
    have e1 : (16 : Int32) ≤ Int32.ofNat i ↔ 16 ≤ i := i32_le (a := 16) (by omega) (by omega)
    unfold f12_replaces_b395 f12_replaces_j444
    simp only [e1, e5, e6, ofNat_clamp (show i < 2147483648 by omega), rA_uA, stp, i32_succ]
    have hset : i < 16 → ∀ q : Int32, q = mvM a b l (ml i) (ma i) → (∀ j, j < i + 1 → up1 r i q j = mvM a b l (ml j) (ma j)) ∧ ∀ j, i + 1 ≤ j → j < 16 → up1 r i q j = ma j := by
      intro hi q hq
      refine ⟨fun j hj => ?_, fun j h1 h2 => ?_⟩
      · unfold up1
        by_cases e : j = i
        · rw [if_pos e, e, hq]
        · rw [if_neg e]
          exact r1 j (by omega)
      · unfold up1
        rw [if_neg (by omega)]
        exact r2 j (by omega) h2
    by_cases hq : 16 ≤ i
    · rw [if_pos hq, Ok_some, lp_inr]
      exact ⟨r, rfl, fun j hj => r1 j (by omega)⟩
    · rw [if_neg hq]
      simp only [inb_n (show i < 16 by omega) (by omega), gd_true, r2 i (Nat.le_refl _) (by omega)]
      by_cases hm : ma i = -1
      · rw [if_pos hm, Ok_some, lp_inl]
        exact ⟨by omega, _, rfl, hset (by omega) (-1) (by unfold mvM; rw [if_pos hm])⟩
      · rw [if_neg hm]
        rcases hn i (by omega) with z | ⟨p, hp, z⟩
        · exact absurd z hm
        · have : mvM a b l (ml i) (ma i) = Int32.ofNat (mvp a b l (ml i) p) := by
            unfold mvM
            rw [if_neg hm, z, ofNat_clamp (by omega)]
          rw [z, hz i (by omega), c12_moved h hb hl hp, bnd_some, Ok_some, lp_inl]
          exact ⟨by omega, _, rfl, hset (by omega) _ this.symm⟩
  obtain ⟨t, k1, r, rfl, k2⟩ := key
  exact ⟨r, k1, k2⟩
end R
