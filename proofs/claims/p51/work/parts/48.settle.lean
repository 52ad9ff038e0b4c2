theorem asc_uniq {q q' : Nat} {d d' : Nat → Nat} (h1 : ∀ i j, i < j → j < q → d i < d j) (h2 : ∀ i j, i < j → j < q' → d' i < d' j) (h : ∀ x, (∃ i, i < q ∧ d i = x) ↔ ∃ i, i < q' ∧ d' i = x) : q = q' ∧ ∀ i, i < q → d i = d' i := by
  have key : ∀ i, i < q → i < q' → d i = d' i := by
    intro i
    induction i using Nat.strongRecOn with
    | ind i ih =>
      intro a b
      have le1 : d' i ≤ d i := by
        obtain ⟨j, hj, e⟩ := (h (d i)).mp ⟨i, a, rfl⟩
        by_cases hji : j < i
        · have := ih j hji (by omega) hj
          have := h1 j i hji a
          omega
        · by_cases e2 : i = j
          · subst e2; omega
          · have := h2 i j (by omega) hj
            omega
      have le2 : d i ≤ d' i := by
        obtain ⟨j, hj, e⟩ := (h (d' i)).mpr ⟨i, b, rfl⟩
        by_cases hji : j < i
        · have := ih j hji hj (by omega)
          have := h2 j i hji b
          omega
        · by_cases e2 : i = j
          · subst e2; omega
          · have := h1 i j (by omega) hj
            omega
      omega
  have hq : q = q' := by
    rcases Nat.lt_trichotomy q q' with hl | hl | hl
    · obtain ⟨j, hj, e⟩ := (h (d' q)).mpr ⟨q, hl, rfl⟩
      have := key j hj (by omega)
      have := h2 j q hj hl
      omega
    · exact hl
    · obtain ⟨j, hj, e⟩ := (h (d q')).mp ⟨q', hl, rfl⟩
      have := key j (by omega) hj
      have := h1 j q' hj hl
      omega
  exact ⟨hq, fun i hi => key i hi (by omega)⟩
/-- cursors put in order: the set of their places, ascending -/
def isCu (c : Nat) (cu : Nat → Nat) (q : Nat) (d : Nat → Nat) : Prop := 1 ≤ q ∧ q ≤ c ∧ (∀ i j, i < j → j < q → d i < d j) ∧ ∀ x, (∃ i, i < q ∧ d i = x) ↔ ∃ i, i < c ∧ cu i = x
theorem isCu.uniq {c q q' : Nat} {cu d d' : Nat → Nat} (a : isCu c cu q d) (b : isCu c cu q' d') : q = q' ∧ ∀ i, i < q → d i = d' i := asc_uniq a.2.2.1 b.2.2.1 (fun x => (a.2.2.2 x).trans (b.2.2.2 x).symm)
theorem c12_orders {μ : Sto} {c : Nat} {cu : Nat → Nat} (hc : fI μ 2017 6 = Int32.ofNat c) (hc1 : 1 ≤ c) (hc2 : c ≤ 8) (hr : ∀ k, k < c → aI μ 2019 k = Int32.ofNat (cu k)) (hb : ∀ k, k < c → cu k ≤ 3000) : ∃ (r : Nat → Int32) (q : Nat) (d : Nat → Nat), f12_orders μ = some (uI (rA μ 2019 r) 2017 6 (Int32.ofNat q)) ∧ isCu c cu q d ∧ ∀ k, k < q → r k = Int32.ofNat (d k) := by
  unfold f12_orders f12_orders_j2
  obtain ⟨s, h1, r, v, rfl, h2, h3, h4⟩ := c12_sortL hc hc1 hc2 hr hb
  simp only [stp]
  rw [h1, bnd_some]
  have hv : ∀ k, k < c → v k ≤ 3000 := fun i hi => by
    obtain ⟨j, hj, e⟩ := (h4 (v i)).mp ⟨i, hi, rfl⟩
    rw [← e]
    exact hb j hj
  obtain ⟨s, g1, r', d, q, rfl, g2, g3, g4, g5, g6⟩ := c12_dedupL (μ := rA μ 2019 r) (v := v) hc hc1 hc2 (fun k hk => by rw [aI_rA, if_pos rfl]; exact h2 k hk) hv h3
  unfold f12_orders_j72
  rw [g1, bnd_some, rA_rA]
  exact ⟨r', q, d, rfl, ⟨g2, g3, g5, fun x => (g6 x).trans (h4 x)⟩, g4⟩
/-- folds opened one after the other -/
def isOps (h : Nat → Int32) (m : Nat) (l : Nat → Nat) : Nat → (Nat → Int32) → Prop
  | 0, h' => ∀ k, k < m → h' k = h k
  | q + 1, h' => ∃ h1 c, isOps h m l q h1 ∧ isOp h1 m (l q) h' c
theorem isOp.ext {h g h' : Nat → Int32} {m j c : Nat} (a : isOp h m j h' c) (hj : j < m) (e : ∀ k, k < m → h k = g k) : isOp g m j h' c := by
  rcases a with ⟨a1, a2, a3⟩ | ⟨lo, hi, a1, a2, a3⟩
  · exact Or.inl ⟨by rw [← e j hj]; exact a1, a2, fun k hk => (a3 k hk).trans (e k hk)⟩
  · obtain ⟨b1, b2, b3, b4, b5, b6⟩ := a1
    refine Or.inr ⟨lo, hi, ⟨b1, b2, b3, fun k c d => ?_, ?_, ?_⟩, a2, fun k hk => ?_⟩
    · rw [← e k (by omega)]
      exact b4 k c d
    · rcases b5 with b5 | b5
      · exact Or.inl b5
      · exact Or.inr (by rw [← e (lo - 1) (by omega)]; exact b5)
    · by_cases h9 : hi = m
      · exact Or.inl h9
      · rcases b6 with b6 | b6
        · exact Or.inl b6
        · exact Or.inr (by rw [← e hi (by omega)]; exact b6)
    · rw [a3 k hk]
      unfold clr
      rw [e k hk]
theorem isOps.ex {h : Nat → Int32} {m : Nat} {l : Nat → Nat} : ∀ {q : Nat}, (∀ i, i < q → l i < m) → ∃ h', isOps h m l q h' := by
  intro q
  induction q with
  | zero => intro _; exact ⟨h, fun _ _ => rfl⟩
  | succ q ih =>
    intro hl
    obtain ⟨h1, a⟩ := ih (fun i hi => hl i (by omega))
    obtain ⟨h', c, b⟩ := isOp.ex (h := h1) (hl q (by omega))
    exact ⟨h', h1, c, a, b⟩
theorem isOps.or {h : Nat → Int32} {m : Nat} {l : Nat → Nat} : ∀ {q : Nat} {h' : Nat → Int32}, isOps h m l q h' → ∀ k, k < m → h' k = h k ∨ h' k = 0 := by
  intro q
  induction q with
  | zero => intro h' a k hk; exact Or.inl (a k hk)
  | succ q ih =>
    rintro h' ⟨h1, c, a, b⟩ k hk
    rcases b.or k hk with e | e
    · rw [e]; exact ih a k hk
    · exact Or.inr e
theorem isOps.at {h : Nat → Int32} {m : Nat} {l : Nat → Nat} : ∀ {q : Nat} {h' : Nat → Int32}, isOps h m l q h' → (∀ i, i < q → l i < m) → ∀ i, i < q → h' (l i) = 0 := by
  intro q
  induction q with
  | zero => intro h' _ _ i hi; omega
  | succ q ih =>
    rintro h' ⟨h1, c, a, b⟩ hl i hi
    by_cases e : i = q
    · rw [e]; exact b.at (hl q (by omega))
    · have := ih a (fun i hi => hl i (by omega)) i (by omega)
      rcases b.or (l i) (hl i hi) with e2 | e2
      · rw [e2]; exact this
      · exact e2
theorem isOps.none {h : Nat → Int32} {m : Nat} {l : Nat → Nat} : ∀ {q : Nat} {h' : Nat → Int32}, isOps h m l q h' → (∀ i, i < q → l i < m ∧ h (l i) = 0) → ∀ k, k < m → h' k = h k := by
  intro q
  induction q with
  | zero => intro h' a _ k hk; exact a k hk
  | succ q ih =>
    rintro h' ⟨h1, c, a, b⟩ hl k hk
    have e := ih a (fun i hi => hl i (by omega))
    have hq := hl q (by omega)
    rw [(b.none' (by rw [e _ hq.1]; exact hq.2)).2 k hk]
    exact e k hk
/-- only one of the lines is hidden -/
theorem isOps.one {h : Nat → Int32} {m i0 : Nat} {l : Nat → Nat} {h2 : Nat → Int32} {c2 : Nat} (o : isOp h m (l i0) h2 c2) (hm : l i0 < m) : ∀ {q : Nat} {h' : Nat → Int32}, isOps h m l q h' → (∀ i, i < q → l i < m ∧ (i ≠ i0 → h (l i) = 0)) → ∀ k, k < m → h' k = if i0 < q then h2 k else h k := by
  intro q
  induction q with
  | zero => intro h' a _ k hk; rw [if_neg (by omega)]; exact a k hk
  | succ q ih =>
    rintro h' ⟨h1, c, a, b⟩ hl k hk
    have e := ih a (fun i hi => hl i (by omega))
    have hq := hl q (by omega)
    by_cases hi : q = i0
    · subst hi
      rw [if_pos (by omega)]
      have e1 : ∀ k, k < m → h1 k = h k := fun k hk => by rw [e k hk, if_neg (by omega)]
      exact ((b.ext hq.1 e1).uniq o hm).2 k hk
    · have hz : h1 (l q) = 0 := by
        rw [e _ hq.1]
        split
        · rcases o.or _ hq.1 with e2 | e2
          · rw [e2]; exact hq.2 hi
          · exact e2
        · exact hq.2 hi
      rw [(b.none' hz).2 k hk, e k hk]
      by_cases h9 : i0 < q
      · rw [if_pos h9, if_pos (by omega)]
      · rw [if_neg h9, if_neg (by omega)]
theorem isOps.uniq {h : Nat → Int32} {m : Nat} {l l' : Nat → Nat} : ∀ {q : Nat} {h1 h2 : Nat → Int32}, isOps h m l q h1 → isOps h m l' q h2 → (∀ i, i < q → l i < m ∧ l' i = l i) → ∀ k, k < m → h1 k = h2 k := by
  intro q
  induction q with
  | zero => intro h1 h2 a b _ k hk; rw [a k hk, b k hk]
  | succ q ih =>
    rintro h1 h2 ⟨a1, c1, a2, a3⟩ ⟨b1, c2, b2, b3⟩ hl k hk
    have hq := hl q (by omega)
    have e := ih a2 b2 (fun i hi => hl i (by omega))
    rw [hq.2] at b3
    exact ((a3.ext hq.1 e).uniq b3 hq.1).2 k hk
section R
variable {σ μ : Sto} {o : Int64} {L B H : Nat} {f : Nat → Int32} {n : Nat}
theorem c8_settle (h : CT σ 1 L B f n) (hH : fR σ 1 3 = H + 1 ∧ kc H = 14 ∧ ln H = 300) (hne : H ≠ 5 ∧ L ≠ 5 ∧ B ≠ 5 ∧ L ≠ H ∧ B ≠ H) {hd : Nat → Int32} (hh : ∀ j, j ≤ ends f n → aI σ H j = hd j) {c : Nat} {cu : Nat → Nat} (hc : fI σ 1 6 = Int32.ofNat c) (hc1 : 1 ≤ c) (hc2 : c ≤ 8) (hr : ∀ k, k < c → aI σ 5 k = Int32.ofNat (cu k)) (hb : ∀ k, k < c → cu k ≤ n) : ∃ (r : Nat → Int32) (q : Nat) (d : Nat → Nat) (r' h' : Nat → Int32), f8_settleCursors σ 1 = some (rA (uI (rA σ 5 r) 1 6 (Int32.ofNat q)) H r') ∧ isCu c cu q d ∧ (∀ k, k < q → r k = Int32.ofNat (d k)) ∧ isOps hd (ends f n + 1) (fun i => ends f (d i)) q h' ∧ ∀ k, k ≤ ends f n → r' k = h' k := by
  have hn := h.1
  have hE := h.2.1
  unfold f8_settleCursors f8_sortCursors f8_sortCursors_j2
  obtain ⟨s, h1, r, v, rfl, h2, h3, h4⟩ := c8_sortL hc hc1 hc2 hr (fun k hk => by have := hb k hk; omega)
  simp only [stp]
  rw [h1, bnd_some, bnd_some]
  have hv : ∀ k, k < c → v k ≤ n := fun i hi => by
    obtain ⟨j, hj, e⟩ := (h4 (v i)).mp ⟨i, hi, rfl⟩
    rw [← e]
    exact hb j hj
  obtain ⟨s, g1, r', d, q, rfl, g2, g3, g4, g5, g6⟩ := c8_dedupL (σ := rA σ 5 r) (v := v) hc hc1 hc2 (fun k hk => by rw [aI_rA, if_pos rfl]; exact h2 k hk) (fun k hk => by have := hv k hk; omega) h3
  have hcu : isCu c cu q d := ⟨g2, g3, g5, fun x => (g6 x).trans (h4 x)⟩
  have hdn : ∀ i, i < q → d i ≤ n := fun i hi => by
    obtain ⟨j, hj, e⟩ := (hcu.2.2.2 (d i)).mp ⟨i, hi, rfl⟩
    rw [← e]
    exact hb j hj
  unfold f8_settleCursors_j8
  rw [g1, bnd_some, rA_rA]
  obtain ⟨h', hops⟩ := isOps.ex (h := hd) (m := ends f n + 1) (l := fun i => ends f (d i)) (q := q) (fun i hi => by have := ends_mono (f := f) (hdn i hi); omega)
  have key : Ok (f8_settleCursors_j65 1 (uI (rA σ 5 r') 1 6 (Int32.ofNat q)) 0) (fun s => ∃ r2 h', s = rA (uI (rA σ 5 r') 1 6 (Int32.ofNat q)) H r2 ∧ isOps hd (ends f n + 1) (fun i => ends f (d i)) q h' ∧ ∀ k, k ≤ ends f n → r2 k = h' k) := by
    unfold f8_settleCursors_j65
    simp only [Ok_stp, Ok_bnd, Ok_bndX, Ok_some, Ok_none, Ok_ite, Ok_gd, inb_iff, isB_iff, lp_inl, lp_inr, Prod.mk.injEq, Sum.inl.injEq, Sum.inr.injEq, reduceCtorEq, forall_eq', false_imp_iff, imp_self, true_and, and_true, implies_true, forall_const]
    generalize hM : uI (rA σ 5 r') 1 6 (Int32.ofNat q) = M
    have mI : ∀ j, j ≠ 6 → fI M 1 j = fI σ 1 j := fun j hj => by rw [← hM, fI_uI, if_pos rfl, if_neg hj]; rfl
    have m6 : fI M 1 6 = Int32.ofNat q := by rw [← hM]; rfl
    have mR : fR M = fR σ := by rw [← hM]; rfl
    have mA : ∀ a, a ≠ 5 → aI M a = aI σ a := fun a ha => by rw [← hM]; exact aI_rA' ha
    have m5 : aI M 5 = r' := by rw [← hM]; show aI (rA σ 5 r') 5 = r'; rw [aI_rA, if_pos rfl]
    clear hM
    refine Ok_count q (fun k s => ∃ r2 h', s = (rA M H r2, Int32.ofNat k) ∧ isOps hd (ends f n + 1) (fun i => ends f (d i)) k h' ∧ ∀ j, j ≤ ends f n → r2 j = h' j) ?_ 0 ⟨aI M H, hd, by rw [rA_self]; rfl, fun _ _ => rfl, fun j hj => by rw [mA H hne.1]; exact hh j hj⟩ (by omega) (by (show _ < FU; unfold FU; omega))
    rintro k s hk ⟨r2, h1', rfl, o1, o2⟩
    have hc' : fI (rA M H r2) 1 6 = Int32.ofNat q := m6
    have e1 : Int32.ofNat q ≤ Int32.ofNat k ↔ k = q := by grind
    unfold f8_settleCursors_b65
    simp only [hc', e1]
    by_cases hkq : k = q
    · simp only [if_pos hkq]
      simp only [Ok_stp, Ok_bnd, Ok_bndX, Ok_some, Ok_none, Ok_ite, Ok_gd, inb_iff, isB_iff, lp_inl, lp_inr, Prod.mk.injEq, Sum.inl.injEq, Sum.inr.injEq, reduceCtorEq, forall_eq', false_imp_iff, imp_self, true_and, and_true, implies_true, forall_const]
      subst hkq
      exact ⟨r2, h1', rfl, o1, o2⟩
    · have i1 : inb (Int32.ofNat k) 8 = true := inb_t (by grind)
      have i2 : (Int32.ofNat k).toNatClampNeg = k := ofNat_clamp (by omega)
      have i3 : aI (rA M H r2) (1 + 4) k = Int32.ofNat (d k) := by
        show aI (rA M H r2) 5 k = _
        rw [aI_rA' (Ne.symm hne.1), m5]
        exact g4 k (by omega)
      have hC2 : CT (rA M H r2) 1 L B f n := by
        have hC1 : CT M 1 L B f n := by
          unfold CT at h ⊢
          rw [mI 1 (by decide), mI 4 (by decide), mR, mA L hne.2.1, mA B hne.2.2.1]
          exact h
        exact hC1.congr rfl rfl (aI_rA' hne.2.2.2.1) (aI_rA' hne.2.2.2.2)
      have hdk := hdn k (by omega)
      have hme := ends_mono (f := f) hdk
      have i4 : fR (rA M H r2) 1 3 = H + 1 := by
        show fR M 1 3 = _
        rw [mR]; exact hH.1
      have i5 : fI (rA M H r2) 1 4 = Int32.ofNat (ends f n + 1) := hC2.2.2.2.1
      obtain ⟨h2', c2, o3⟩ := isOp.ex (h := h1') (m := ends f n + 1) (j := ends f (d k)) (by omega)
      obtain ⟨r3, p1, p2⟩ := c11_openFold (σ := rA M H r2) (H := H) hH.2.2 (by omega) (by omega) rfl rfl (fun j hj => by rw [aI_rA, if_pos rfl]; exact o2 j (by omega)) o3
      have e2 : Int32.ofNat k + 1 = Int32.ofNat (k + 1) := by grind
      simp only [if_neg hkq, i1, i2, gd_true, i3, c8_lineWith hC2 rfl hdk, bnd_some, i4, okr_s.mpr hH.2.1, Nat.add_sub_cancel, i5, p1, stp, e2, rA_rA]
      simp only [Ok_stp, Ok_bnd, Ok_bndX, Ok_some, Ok_none, Ok_ite, Ok_gd, inb_iff, isB_iff, lp_inl, lp_inr, Prod.mk.injEq, Sum.inl.injEq, Sum.inr.injEq, reduceCtorEq, forall_eq', false_imp_iff, imp_self, true_and, and_true, implies_true, forall_const]
      exact ⟨by omega, r3, h2', rfl, ⟨h1', c2, o1, o3⟩, fun j hj => p2 j (by omega)⟩
  obtain ⟨s, k1, r2, h2', rfl, k2, k3⟩ := key
  simp only [stp]
  exact ⟨r', q, d, r2, h2', k1, hcu, g4, k2, k3⟩
end R
