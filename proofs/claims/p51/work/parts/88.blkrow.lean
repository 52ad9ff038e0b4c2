/-! a block's parts: rows -/
def bqP (m n : Nat) (bf ef : Nat → Nat) (l0 col i : Nat) : Nat := if l0 + i ≤ m then min (ef (l0 + i)) (bf (l0 + i) + col) else n
def bqF (m : Nat) (bf ef : Nat → Nat) (l0 col i : Nat) : Nat := if l0 + i ≤ m then col - (min (ef (l0 + i)) (bf (l0 + i) + col) - bf (l0 + i)) else col
def bqH (m l0 i : Nat) : Nat := if l0 + i ≤ m then 0 else 1
def bqL (m : Nat) (bf ef : Nat → Nat) (l0 col w i : Nat) : Nat := bqH m l0 i + bqF m bf ef l0 col i + w
def bqG (m : Nat) (bf ef : Nat → Nat) (l0 col w : Nat) (cl : Nat → Int32) (i q : Nat) : Int32 := if q < bqH m l0 i then 10 else if q < bqH m l0 i + bqF m bf ef l0 col i then 32 else cl (w * i + (q - (bqH m l0 i + bqF m bf ef l0 col i)))
def bqD (m n : Nat) (bf ef : Nat → Nat) (l0 col w : Nat) (cl : Nat → Int32) : Nat → BD
  | 0 => (0, fun _ => 0, fun _ => 0, fun _ => 0, 0, fun _ => 0)
  | i + 1 => bdP (bqG m bf ef l0 col w cl i) (bqL m bf ef l0 col w i) (bdO (bqP m n bf ef l0 col i) (bqD m n bf ef l0 col w cl i))
theorem bqP_le {f : Nat → Int32} {n : Nat} {bf ef : Nat → Nat} (hbe : isLn f n bf ef) {l0 col i : Nat} : bqP (ends f n) n bf ef l0 col i ≤ n ∧ bqP (ends f n) n bf ef l0 col i ≤ bqP (ends f n) n bf ef l0 col (i + 1) ∧ (l0 + (i + 1) ≤ ends f n → bqP (ends f n) n bf ef l0 col i < bqP (ends f n) n bf ef l0 col (i + 1)) := by
  have h1 : bqP (ends f n) n bf ef l0 col i ≤ n := by
    unfold bqP
    by_cases c : l0 + i ≤ ends f n
    · rw [if_pos c]
      have := (hbe _ c).2.1.1
      omega
    · rw [if_neg c]
      exact Nat.le_refl _
  have h2 : l0 + (i + 1) ≤ ends f n → bqP (ends f n) n bf ef l0 col i < bqP (ends f n) n bf ef l0 col (i + 1) := fun c => by
    unfold bqP
    rw [if_pos c, if_pos (show l0 + i ≤ ends f n by omega)]
    have h3 := bg_next hbe (j := l0 + i) (by omega)
    have h4 := (hbe (l0 + (i + 1)) c).2.2.1
    rw [show l0 + (i + 1) = l0 + i + 1 by omega] at h4 ⊢
    omega
  refine ⟨h1, ?_, h2⟩
  by_cases c : l0 + (i + 1) ≤ ends f n
  · exact Nat.le_of_lt (h2 c)
  · have : bqP (ends f n) n bf ef l0 col (i + 1) = n := by
      unfold bqP
      rw [if_neg c]
    omega
theorem bqG_lt {m : Nat} {bf ef : Nat → Nat} {l0 col w : Nat} {cl : Nat → Int32} {i q : Nat} (hc : ∀ k, k < w → isLt (cl (w * i + k)) = true) (hq : q < bqL m bf ef l0 col w i) : isLt (bqG m bf ef l0 col w cl i q) = true := by
  unfold bqL at hq
  unfold bqG
  by_cases c1 : q < bqH m l0 i
  · rw [if_pos c1]
    decide
  · rw [if_neg c1]
    by_cases c2 : q < bqH m l0 i + bqF m bf ef l0 col i
    · rw [if_pos c2]
      decide
    · rw [if_neg c2]
      exact hc _ (by omega)
theorem bqD_in {f : Nat → Int32} {n : Nat} {bf ef : Nat → Nat} (hbe : isLn f n bf ef) {l0 col w r : Nat} {cl : Nat → Int32} (hc : ∀ k, k < w * r → isLt (cl k) = true) : ∀ i, i ≤ r → BI n (bqD (ends f n) n bf ef l0 col w cl i) ∧ (bqD (ends f n) n bf ef l0 col w cl i).1 ≤ i ∧ (bqD (ends f n) n bf ef l0 col w cl i).2.2.2.2.1 = sg (bqL (ends f n) bf ef l0 col w) i ∧ (i ≠ 0 → (bqD (ends f n) n bf ef l0 col w cl i).1 ≠ 0) ∧ ∀ j, i = j + 1 → (bqD (ends f n) n bf ef l0 col w cl i).2.1 ((bqD (ends f n) n bf ef l0 col w cl i).1 - 1) = bqP (ends f n) n bf ef l0 col j := by
  intro i
  induction i with
  | zero =>
    intro _
    exact ⟨⟨fun z => absurd rfl z, fun k hk => absurd hk (Nat.not_lt_zero k), fun k hk => absurd hk (Nat.not_lt_zero _), fun k hk => absurd hk (Nat.not_lt_zero k), rfl, fun q hq => absurd hq (Nat.not_lt_zero q)⟩, Nat.le_refl _, rfl, fun z => absurd rfl z, fun j hj => by omega⟩
  | succ i ih =>
    intro hi
    obtain ⟨h1, h2, h3, h4, h5⟩ := ih (by omega)
    have hlt : (bqD (ends f n) n bf ef l0 col w cl i).1 ≠ 0 → (bqD (ends f n) n bf ef l0 col w cl i).2.1 ((bqD (ends f n) n bf ef l0 col w cl i).1 - 1) ≤ bqP (ends f n) n bf ef l0 col i := fun z => by
      cases i with
      | zero => exact absurd rfl z
      | succ j =>
        rw [h5 j rfl]
        exact (bqP_le hbe).2.1
    obtain ⟨o1, o2, o3, o4, o5⟩ := h1.opn (bqP_le hbe).1 hlt
    have hG : ∀ q, q < bqL (ends f n) bf ef l0 col w i → isLt (bqG (ends f n) bf ef l0 col w cl i q) = true := fun q hq => bqG_lt (fun k hk => hc _ (by
      have : w * (i + 1) ≤ w * r := Nat.mul_le_mul_left w hi
      rw [Nat.mul_succ] at this
      omega)) hq
    have hp := o1.put (g := bqG (ends f n) bf ef l0 col w cl i) o2 hG
    generalize hE : bdO (bqP (ends f n) n bf ef l0 col i) (bqD (ends f n) n bf ef l0 col w cl i) = E at o1 o2 o3 o4 o5 hp
    show BI n (bdP _ _ (bdO _ _)) ∧ (bdP _ _ (bdO _ _)).1 ≤ i + 1 ∧ (bdP _ _ (bdO _ _)).2.2.2.2.1 = _ ∧ (_ → (bdP _ _ (bdO _ _)).1 ≠ 0) ∧ ∀ j, _ → (bdP _ _ (bdO _ _)).2.1 ((bdP _ _ (bdO _ _)).1 - 1) = _
    rw [hE]
    obtain ⟨K, a, l, s, t, G⟩ := E
    refine ⟨hp, ?_, ?_, fun _ => o2, fun j hj => ?_⟩
    · show K ≤ i + 1
      have o5 : K ≤ (bqD (ends f n) n bf ef l0 col w cl i).1 + 1 := o5
      omega
    · have o4 : t = (bqD (ends f n) n bf ef l0 col w cl i).2.2.2.2.1 := o4
      show t + bqL (ends f n) bf ef l0 col w i = sg _ i + bqL (ends f n) bf ef l0 col w i
      omega
    · have : j = i := by omega
      rw [this]
      exact o3
theorem FL.mono {σ0 S : Sto} {t t' : Nat} (h : FL σ0 S t) (ht : t ≤ t') : FL σ0 S t' := ⟨h.1, h.2.1, h.2.2.1, Nat.lt_of_lt_of_le h.2.2.2 ht⟩
section R
variable {σ0 S : Sto} {K t : Nat} {a l s : Nat → Nat} {G g : Nat → Int32} {D : BD}
theorem c2_blanks {e d : Nat} (h : CS σ0 S (bdP g e D) ∨ FL σ0 S (D.2.2.2.2.1 + e)) (hK : D.1 ≠ 0) (hg : ∀ i, i < d → g (e + i) = 32) (hd : d ≤ 3000) {x y : Int32} (hy : y = Int32.ofNat d) : ∃ S', loopF (fun z => f2_putRow_b3 x y z.1 z.2) FU (S, 0) = some S' ∧ (CS σ0 S' (bdP g (e + d) D) ∨ FL σ0 S' (D.2.2.2.2.1 + (e + d))) := by
  subst hy
  refine Ok_count d (fun k z => z.2 = Int32.ofNat k ∧ (CS σ0 z.1 (bdP g (e + k) D) ∨ FL σ0 z.1 (D.2.2.2.2.1 + (e + k)))) ?_ 0 ⟨rfl, h⟩ (by omega) (by (show _ < FU; unfold FU; omega))
  rintro k ⟨M, z⟩ hk ⟨rfl, h⟩
  show Ok (f2_putRow_b3 x (Int32.ofNat d) M (Int32.ofNat k)) _
  unfold f2_putRow_b3
  simp only [i32_le (show d < 2147483648 by omega) (show k < 2147483648 by omega)]
  by_cases hq : d ≤ k
  · rw [if_pos hq, Ok_some, lp_inr]
    rw [show d = k by omega]
    exact h
  · rw [if_neg hq]
    rcases h with h | h
    · rw [if_pos h.1.2.2.1]
      obtain ⟨S', k1, k2⟩ := c1_put h hK (hg k (by omega)) (by decide)
      rw [k1, bnd_some, stp, i32_succ, Ok_some, lp_inl]
      exact ⟨by omega, rfl, k2⟩
    · have h2 : ¬ fI M 13 6 = 0 := h.2.1
      rw [if_neg h2, Ok_some, lp_inr]
      exact Or.inr (h.mono (by omega))
theorem c2_cliprow {e i w r : Nat} (h : CS σ0 S (bdP g e D) ∨ FL σ0 S (D.2.2.2.2.1 + e)) (hK : D.1 ≠ 0) (hg : ∀ k, k < w → g (e + k) = aI σ0 12 (w * i + k) ∧ isLt (g (e + k)) = true) (hi : i < r) (hr : r ≤ 300) (hw : w ≤ 40) (hrw : w * r ≤ 12000) (h10 : fI σ0 10 3 = Int32.ofNat w) {x y : Int32} (hx : x = Int32.ofNat i) : ∃ S', loopF (fun z => f2_putRow_b36 x y z.1 z.2) FU (S, Int32.ofNat (w * i)) = some S' ∧ (CS σ0 S' (bdP g (e + w) D) ∨ FL σ0 S' (D.2.2.2.2.1 + (e + w))) := by
  subst hx
  have hwi : w * (i + 1) ≤ w * r := Nat.mul_le_mul_left w hi
  have hwi2 : w * (i + 1) = w * i + w := Nat.mul_succ w i
  refine Ok_count w (fun k z => z.2 = Int32.ofNat (w * i + k) ∧ (CS σ0 z.1 (bdP g (e + k) D) ∨ FL σ0 z.1 (D.2.2.2.2.1 + (e + k)))) ?_ 0 ⟨rfl, h⟩ (by omega) (by (show _ < FU; unfold FU; omega))
  rintro k ⟨M, z⟩ hk ⟨rfl, h⟩
  show Ok (f2_putRow_b36 (Int32.ofNat i) y M (Int32.ofNat (w * i + k))) _
  have hfr : Sm (fun a => ¬ (13 ≤ a ∧ a ≤ 19)) σ0 M := by
    rcases h with h | h
    · exact h.1.1
    · exact h.1.1
  have e10 : fI M 10 3 = Int32.ofNat w := by
    rw [(hfr 10 (by omega)).1]
    exact h10
  have e1 : (Int32.ofNat i + 1) * Int32.ofNat w = Int32.ofNat (w * i + w) := by
    rw [i32_succ, ← hwi2, Nat.mul_comm w (i + 1)]
    exact (Int32.ofNat_mul (i + 1) w).symm
  unfold f2_putRow_b36
  rw [e10, e1]
  simp only [i32_le (show w * i + w < 2147483648 by omega) (show w * i + k < 2147483648 by omega)]
  by_cases hq : w ≤ k
  · rw [if_pos (by omega), Ok_some, lp_inr]
    rw [show k = w by omega] at h
    exact h
  · rw [if_neg (by omega)]
    rcases h with h | h
    · rw [if_pos h.1.2.2.1, inb_n (by omega) (by omega), gd_true, ofNat_clamp (by omega), (hfr 12 (by omega)).2.2.1, ← (hg k (by omega)).1]
      obtain ⟨S', k1, k2⟩ := c1_put h hK rfl (hg k (by omega)).2
      rw [k1, bnd_some, stp, i32_succ, Ok_some, lp_inl]
      exact ⟨by omega, rfl, k2⟩
    · have h2 : ¬ fI M 13 6 = 0 := h.2.1
      rw [if_neg h2, Ok_some, lp_inr]
      exact Or.inr (h.mono (by omega))
theorem c2_putRow {e d i w r : Nat} (h : CS σ0 S (bdP g e D) ∨ FL σ0 S (D.2.2.2.2.1 + e)) (hK : D.1 ≠ 0) (hb : ∀ k, k < d → g (e + k) = 32) (hd : d ≤ 3000) (hg : ∀ k, k < w → g (e + d + k) = aI σ0 12 (w * i + k) ∧ isLt (g (e + d + k)) = true) (hi : i < r) (hr : r ≤ 300) (hw : w ≤ 40) (hrw : w * r ≤ 12000) (h10 : fI σ0 10 3 = Int32.ofNat w) {x y : Int32} (hx : x = Int32.ofNat i) (hy : y = Int32.ofNat d) : ∃ S', f2_putRow S x y = some S' ∧ (CS σ0 S' (bdP g (e + d + w) D) ∨ FL σ0 S' (D.2.2.2.2.1 + (e + d + w))) := by
  unfold f2_putRow f2_putRow_j3 f2_putRow_j28 f2_putRow_j36 f2_putRow_j76
  obtain ⟨S1, k1, k2⟩ := c2_blanks h hK hb hd hy (x := x)
  obtain ⟨S2, k3, k4⟩ := c2_cliprow k2 hK hg hi hr hw hrw h10 hx (y := y)
  have hfr : Sm (fun a => ¬ (13 ≤ a ∧ a ≤ 19)) σ0 S1 := by
    rcases k2 with h | h
    · exact h.1.1
    · exact h.1.1
  have e10 : fI S1 10 3 = Int32.ofNat w := by
    rw [(hfr 10 (by omega)).1]
    exact h10
  have e1 : x * Int32.ofNat w = Int32.ofNat (w * i) := by
    rw [hx, Nat.mul_comm w i]
    exact (Int32.ofNat_mul i w).symm
  rw [stp, k1, bnd_some, stp, e10, e1, k3, bnd_some]
  exact ⟨S2, rfl, k4⟩
end R
