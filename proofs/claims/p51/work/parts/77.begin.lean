/-! how planning begins -/
section R
variable {σ μ : Sto} {L B H : Nat} {f : Nat → Int32} {n c K q w : Nat} {hd : Nat → Int32} {cu : Nat → Nat} {ma lf ml : Nat → Int32} {T : Hst} {a b l : Nat → Nat} {G : Nat → Int32}
theorem c1_begin {a1 s m : Nat} {x y : Int32} (hx : x = Int32.ofNat s) (hy : y = Int32.ofNat m) (hs : s ≤ 12000) (hm : m ≤ 3000) (h1 : s + m ≤ ln a1) (hl : ∀ i, i < m → isLt (aI σ a1 (s + i)) = true) : ∃ r, f1_begin σ a1 x y = some (uI (rA (uI (uI σ 13 4 0) 13 6 0) 19 r) 18 1 (Int32.ofNat m)) ∧ ∀ i, i < m → r i = aI σ a1 (s + i) := by
  have k1 := c6_become (σ := uI (uI σ 13 4 0) 13 6 0) (a0 := 18) (a1 := a1) hx hy (by omega) (by omega) h1 (by show m ≤ ln 19; rw [show ln 19 = 3000 from rfl]; exact hm) (fun i hi => by
    have := isLt_in (hl i hi)
    show 0 ≤ aI σ a1 (s + i) ∧ aI σ a1 (s + i) ≤ 127
    grind)
  unfold f1_begin
  rw [stp, stp, k1, bnd_some]
  exact ⟨_, rfl, fun i hi => cpy_at hi⟩
theorem c12_begins1 : f12_begins μ = some (uI (uI μ 2017 27 0) 2017 28 0) := rfl
theorem c12_puts1 {r : Nat → Int32} {i : Nat} {x : Int32} (hi : i < 3200) : f12_puts (uI (rA μ 2033 r) 2017 28 (Int32.ofNat i)) x = some (uI (rA μ 2033 (up1 r i x)) 2017 28 (Int32.ofNat (i + 1))) := by
  have e1 : fI (uI (rA μ 2033 r) 2017 28 (Int32.ofNat i)) 2017 28 = Int32.ofNat i := rfl
  have e2 : fI (uA (uI (rA μ 2033 r) 2017 28 (Int32.ofNat i)) 2033 i x) 2017 28 = Int32.ofNat i := rfl
  unfold f12_puts
  rw [e1, inb_n hi (by omega), gd_true, ofNat_clamp (by omega), stp, e2, i32_succ, stp, st_row]
theorem c12_put0 : uI μ 2017 28 0 = uI (rA μ 2033 (aI μ 2033)) 2017 28 (Int32.ofNat 0) := by
  rw [rA_self]
  rfl
theorem c12_putsTape {tn : Nat} (h11 : fI μ 2017 11 = Int32.ofNat tn) (ht : tn ≤ 200) : ∃ r, f12_putsTape (uI μ 2017 28 0) = some (uI (rA μ 2033 r) 2017 28 (Int32.ofNat tn)) ∧ ∀ i, i < tn → r i = aI μ 2023 i := by
  have key : Ok (loopF (fun s_2 => f12_putsTape_b2 s_2.1 s_2.2) FU (uI μ 2017 28 0, 0)) (fun s => ∃ r, s = uI (rA μ 2033 r) 2017 28 (Int32.ofNat tn) ∧ ∀ i, i < tn → r i = aI μ 2023 i) := by
    refine Ok_count tn (fun k s => ∃ r, s = (uI (rA μ 2033 r) 2017 28 (Int32.ofNat k), Int32.ofNat k) ∧ ∀ i, i < k → r i = aI μ 2023 i) ?_ 0 ⟨aI μ 2033, by rw [c12_put0]; rfl, fun i hi => by omega⟩ (by omega) (by (show _ < FU; unfold FU; omega))
    rintro k s hk ⟨r, rfl, r1⟩
    have e1 : fI (uI (rA μ 2033 r) 2017 28 (Int32.ofNat k)) 2017 11 = Int32.ofNat tn := by
      rw [fI_uI, if_pos rfl, if_neg (by decide)]
      exact h11
    have e2 : aI (uI (rA μ 2033 r) 2017 28 (Int32.ofNat k)) 2023 = aI μ 2023 := rfl
    unfold f12_putsTape_b2
    simp only [e1, e2, i32_le (show tn < 2147483648 by omega) (show k < 2147483648 by omega), ofNat_clamp (show k < 2147483648 by omega)]
    by_cases hq : tn ≤ k
    · rw [if_pos hq, Ok_some, lp_inr, show tn = k by omega]
      exact ⟨r, rfl, r1⟩
    · rw [if_neg hq, inb_n (show k < 200 by omega) (by omega), gd_true, c12_puts1 (by omega), bnd_some, stp, i32_succ, Ok_some, lp_inl]
      refine ⟨by omega, _, rfl, fun i hi => ?_⟩
      unfold up1
      by_cases e : i = k
      · rw [if_pos e, e]
      · rw [if_neg e]
        exact r1 i (by omega)
  obtain ⟨s, k1, r, rfl, k2⟩ := key
  rw [f12_putsTape, stp, f12_putsTape_j2, k1, bnd_some]
  exact ⟨r, rfl, k2⟩
/-- planning has begun: nothing planned, w letters ready -/
theorem JP.zero {r r' : Nat → Int32} {m : Nat} (hw : w ≤ m) (hm : w ≤ 3000) (hr : ∀ i, i < w → r i = G i ∧ r' i = G i ∧ isLt (G i) = true) : JP σ μ (uI (rA (uI (uI σ 13 4 0) 13 6 0) 19 r) 18 1 (Int32.ofNat m)) (uI (rA (uI μ 2017 27 0) 2033 r') 2017 28 (Int32.ofNat w)) n 0 0 (fun _ => 0) (fun _ => 0) (fun _ => 0) G w := by
  refine ⟨⟨?_, rfl, rfl, rfl⟩, ⟨fun k k1 k2 k3 => ?_, fun a h1 h2 => ?_, rfl, rfl⟩, ⟨by omega, hm, ⟨fun k hk => by omega, fun k hk => by omega⟩, fun k hk => by omega⟩, fun k hk => by omega, fun i hi => hr i hi⟩
  · exact Sm.trans (Sm.uI (by omega)) (Sm.trans (Sm.uI (by omega)) (Sm.trans (Sm.rA (by omega)) (Sm.uI (by omega))))
  · rw [fI_uI, if_pos rfl, if_neg k2]
    show fI (uI μ 2017 27 0) 2017 k = _
    rw [fI_uI, if_pos rfl, if_neg k1]
  · show aI (rA (uI μ 2017 27 0) 2033 r') a = _
    rw [aI_rA' (by omega)]
    rfl
theorem JP.tape (h : Rel0 σ μ (f, n, hd, c, cu, ma, lf, ml) L B H T) : ∃ tn σ1 μ1 G, tn ≤ 200 ∧ fI σ 8 1 = Int32.ofNat tn ∧ fI μ 2017 11 = Int32.ofNat tn ∧ f1_begin σ 9 0 (fI σ 8 1) = some σ1 ∧ f12_begins μ = some (uI (uI μ 2017 27 0) 2017 28 0) ∧ f12_putsTape (uI (uI μ 2017 27 0) 2017 28 0) = some μ1 ∧ JP σ μ σ1 μ1 n 0 0 (fun _ => 0) (fun _ => 0) (fun _ => 0) G tn := by
  obtain ⟨tn, t1, t2, t3, t4⟩ := h.2.2.2.2.1
  obtain ⟨r, k1, k2⟩ := c1_begin (σ := σ) (a1 := 9) (s := 0) (m := tn) (x := 0) (y := fI σ 8 1) rfl t2 (by omega) (by omega) (by rw [show ln 9 = 200 from rfl]; omega) (fun i hi => by rw [Nat.zero_add, (t4 i hi).1]; exact (t4 i hi).2)
  obtain ⟨r', k3, k4⟩ := c12_putsTape (μ := uI μ 2017 27 0) (tn := tn) (by rw [fI_uI, if_pos rfl, if_neg (by decide)]; exact t3) t1
  refine ⟨tn, _, _, aI μ 2023, t1, t2, t3, k1, c12_begins1, k3, JP.zero (Nat.le_refl _) (by omega) (fun i hi => ⟨?_, k4 i hi, (t4 i hi).2⟩)⟩
  rw [k2 i hi, Nat.zero_add, (t4 i hi).1]
end R
