/-! a block's parts, the class -/
/-- parts (places, numbers of letters, first letters), letters in all and which -/
abbrev BD : Type := Nat × (Nat → Nat) × (Nat → Nat) × (Nat → Nat) × Nat × (Nat → Int32)
def bdO (p : Nat) : BD → BD
  | (K, a, l, s, t, G) => if K ≠ 0 ∧ a (K - 1) = p then (K, a, l, s, t, G) else (K + 1, upn a K p, upn l K 0, upn s K t, t, G)
def bdP (g : Nat → Int32) (e : Nat) : BD → BD
  | (K, a, l, s, t, G) => (K, a, upn l (K - 1) (l (K - 1) + e), s, t + e, fun q => if q < t then G q else g (q - t))
def CS (σ0 S : Sto) : BD → Prop
  | (K, a, l, s, t, G) => (Sm (fun a => ¬ (13 ≤ a ∧ a ≤ 19)) σ0 S ∧ fR S = fR σ0 ∧ fI S 13 6 = 0 ∧ fI S 13 4 = Int32.ofNat K ∧ fI S 18 1 = Int32.ofNat t) ∧ (K ≤ 3000 ∧ t ≤ 3000) ∧ (∀ k, k < K → aI S 14 k = Int32.ofNat (a k) ∧ aI S 15 k = Int32.ofNat (a k) ∧ aI S 16 k = Int32.ofNat (s k) ∧ aI S 17 k = Int32.ofNat (l k)) ∧ ∀ q, q < t → aI S 19 q = G q
/-- full -/
def FL (σ0 S : Sto) (t : Nat) : Prop := (Sm (fun a => ¬ (13 ≤ a ∧ a ≤ 19)) σ0 S ∧ fR S = fR σ0) ∧ ¬ fI S 13 6 = 0 ∧ ¬ fI S 13 4 = 0 ∧ 3000 < t
def BI (n : Nat) : BD → Prop
  | (K, a, l, s, t, G) => (K ≠ 0 → s (K - 1) + l (K - 1) = t) ∧ (∀ k, k < K → s k + l k ≤ t) ∧ (∀ k, k + 1 < K → a k < a (k + 1)) ∧ (∀ k, k < K → a k ≤ n) ∧ sg l K = t ∧ ∀ q, q < t → isLt (G q) = true
theorem upn_at {h : Nat → Nat} {k v : Nat} : upn h k v k = v := if_pos rfl
theorem upn_ne {h : Nat → Nat} {k v i : Nat} (e : i ≠ k) : upn h k v i = h i := if_neg e
theorem bdO_eq {p K t : Nat} {a l s : Nat → Nat} {G : Nat → Int32} : bdO p (K, a, l, s, t, G) = if K ≠ 0 ∧ a (K - 1) = p then (K, a, l, s, t, G) else (K + 1, upn a K p, upn l K 0, upn s K t, t, G) := rfl
theorem BI.opn {n p : Nat} {D : BD} (h : BI n D) (hp : p ≤ n) (hlt : D.1 ≠ 0 → D.2.1 (D.1 - 1) ≤ p) : BI n (bdO p D) ∧ (bdO p D).1 ≠ 0 ∧ (bdO p D).2.1 ((bdO p D).1 - 1) = p ∧ (bdO p D).2.2.2.2.1 = D.2.2.2.2.1 ∧ (bdO p D).1 ≤ D.1 + 1 := by
  obtain ⟨K, a, l, s, t, G⟩ := D
  obtain ⟨h1, h2, h3, h4, h5, h6⟩ := h
  have hlt : K ≠ 0 → a (K - 1) ≤ p := hlt
  rw [bdO_eq]
  by_cases c : K ≠ 0 ∧ a (K - 1) = p
  · rw [if_pos c]
    exact ⟨⟨h1, h2, h3, h4, h5, h6⟩, c.1, c.2, rfl, Nat.le_succ _⟩
  · rw [if_neg c]
    refine ⟨⟨fun _ => ?_, fun k hk => ?_, fun k hk => ?_, fun k hk => ?_, ?_, h6⟩, Nat.succ_ne_zero K, upn_at, rfl, Nat.le_refl _⟩
    · show upn s K t (K + 1 - 1) + upn l K 0 (K + 1 - 1) = t
      rw [Nat.add_sub_cancel, upn_at, upn_at]
      rfl
    · show upn s K t k + upn l K 0 k ≤ t
      by_cases e : k = K
      · rw [e, upn_at, upn_at]
        exact Nat.le_refl _
      · rw [upn_ne e, upn_ne e]
        exact h2 k (by omega)
    · show upn a K p k < upn a K p (k + 1)
      by_cases e : k + 1 = K
      · rw [upn_ne (by omega), e, upn_at]
        have h7 := hlt (by omega)
        have : a (K - 1) ≠ p := fun z => c ⟨by omega, z⟩
        rw [show k = K - 1 by omega]
        omega
      · rw [upn_ne (by omega), upn_ne (by omega)]
        exact h3 k (by omega)
    · show upn a K p k ≤ n
      by_cases e : k = K
      · rw [e, upn_at]
        exact hp
      · rw [upn_ne e]
        exact h4 k (by omega)
    · show sg (upn l K 0) K + upn l K 0 K = t
      rw [upn_at, sg_ext (h' := l) (fun k hk => upn_ne (by omega)), h5]
      rfl
theorem BI.put {n e : Nat} {g : Nat → Int32} {D : BD} (h : BI n D) (hK : D.1 ≠ 0) (hg : ∀ i, i < e → isLt (g i) = true) : BI n (bdP g e D) := by
  obtain ⟨K, a, l, s, t, G⟩ := D
  obtain ⟨h1, h2, h3, h4, h5, h6⟩ := h
  have hK : K ≠ 0 := hK
  refine ⟨fun _ => ?_, fun k hk => ?_, h3, h4, ?_, fun q hq => ?_⟩
  · show s (K - 1) + upn l (K - 1) _ (K - 1) = t + e
    rw [upn_at]
    have := h1 hK
    omega
  · show s k + upn l (K - 1) _ k ≤ t + e
    by_cases c : k = K - 1
    · rw [c, upn_at]
      have := h1 hK
      omega
    · rw [upn_ne c]
      have := h2 k hk
      omega
  · obtain ⟨J, rfl⟩ : ∃ J, K = J + 1 := ⟨K - 1, by omega⟩
    show sg (upn l J _) J + upn l J _ J = t + e
    have h5 : sg l J + l J = t := h5
    rw [upn_at, sg_ext (h' := l) (fun k hk => upn_ne (by omega))]
    show sg l J + (l J + e) = t + e
    omega
  · show isLt (if q < t then G q else g (q - t)) = true
    have hq : q < t + e := hq
    by_cases c : q < t
    · rw [if_pos c]
      exact h6 q c
    · rw [if_neg c]
      exact hg _ (by omega)
section R
variable {σ0 S : Sto} {K t : Nat} {a l s : Nat → Nat} {G g : Nat → Int32} {D : BD}
theorem CS.zero (h : CS σ0 S D) : CS σ0 S (bdP g 0 D) := by
  obtain ⟨K, a, l, s, t, G⟩ := D
  obtain ⟨h1, h2, h3, h4⟩ := h
  refine ⟨h1, h2, fun k hk => ?_, fun q hq => ?_⟩
  · obtain ⟨y1, y2, y3, y4⟩ := h3 k hk
    refine ⟨y1, y2, y3, ?_⟩
    show _ = Int32.ofNat (upn l (K - 1) (l (K - 1) + 0) k)
    by_cases c : k = K - 1
    · rw [c, upn_at, ← c]
      exact y4
    · rw [upn_ne c]
      exact y4
  · show _ = if q < t then G q else g (q - t)
    rw [if_pos (show q < t from hq)]
    exact h4 q hq
theorem c1_open (h : CS σ0 S D) {p : Nat} (hK : D.1 < 3000) (hp : p ≤ 3000) (ha : ∀ k, k < D.1 → D.2.1 k ≤ 3000) : ∃ S', f1_openPart S (Int32.ofNat p) = some S' ∧ CS σ0 S' (bdO p D) := by
  obtain ⟨K, a, l, s, t, G⟩ := D
  obtain ⟨⟨h1, h2, h3, h4, h5⟩, ⟨h6, h7⟩, h8, h9⟩ := h
  have hK : K < 3000 := hK
  have ha : ∀ k, k < K → a k ≤ 3000 := ha
  have new : ∃ S', f1_openPart_j22 (Int32.ofNat p) S = some S' ∧ CS σ0 S' (K + 1, upn a K p, upn l K 0, upn s K t, t, G) := by
    unfold f1_openPart_j22 f1_addRange f1_openPart_j36
    have e3 : Int32.ofNat K < 3000 ↔ K < 3000 := i32n_lt (b := 3000) (by omega) (by omega)
    have x1 : ∀ r : Nat → Int32, aI (rA S 14 r) 15 = aI S 15 := fun _ => rfl
    have x2 : ∀ r r' : Nat → Int32, aI (rA (rA S 14 r) 15 r') 16 = aI S 16 := fun _ _ => rfl
    have x3 : ∀ r r' r'' : Nat → Int32, aI (rA (rA (rA S 14 r) 15 r') 16 r'') 17 = aI S 17 := fun _ _ _ => rfl
    simp only [h4, h5, e3, if_pos hK, inb_n (show K < 3000 by omega) (by omega), gd_true, stp, ofNat_clamp (show K < 2147483648 by omega), uA_up1, fI_rA, x1, x2, x3, i32_succ, bnd_some]
    refine ⟨_, rfl, ⟨?_, h2, ?_, ?_, ?_⟩, ⟨by omega, h7⟩, fun k hk => ?_, h9⟩
    · exact h1.trans (Sm.trans (Sm.rA (by omega)) (Sm.trans (Sm.rA (by omega)) (Sm.trans (Sm.rA (by omega)) (Sm.trans (Sm.rA (by omega)) (Sm.uI (by omega))))))
    · rw [fI_uI, if_pos rfl, if_neg (by decide)]
      exact h3
    · rw [fI_uI, if_pos rfl, if_pos rfl]
    · rw [fI_uI' (by decide)]
      exact h5
    · show up1 (aI S 14) K _ k = Int32.ofNat (upn a K p k) ∧ up1 (aI S 15) K _ k = Int32.ofNat (upn a K p k) ∧ up1 (aI S 16) K _ k = Int32.ofNat (upn s K t k) ∧ up1 (aI S 17) K _ k = Int32.ofNat (upn l K 0 k)
      unfold up1
      by_cases e : k = K
      · rw [if_pos e, if_pos e, if_pos e, if_pos e, e, upn_at, upn_at, upn_at]
        exact ⟨rfl, rfl, rfl, rfl⟩
      · rw [if_neg e, if_neg e, if_neg e, if_neg e, upn_ne e, upn_ne e, upn_ne e]
        exact h8 k (by omega)
  have hh : CS σ0 S (K, a, l, s, t, G) := ⟨⟨h1, h2, h3, h4, h5⟩, ⟨h6, h7⟩, h8, h9⟩
  unfold f1_openPart
  rw [bdO_eq, h4]
  by_cases c0 : K = 0
  · rw [if_pos (by rw [c0]; rfl), if_neg (fun z : K ≠ 0 ∧ a (K - 1) = p => z.1 c0)]
    exact new
  · rw [if_neg (fun z => c0 ((ofNat_z0 (by omega)).mp z))]
    obtain ⟨J, rfl⟩ : ∃ J, K = J + 1 := ⟨K - 1, by omega⟩
    rw [i32_pred.1, inb_n (show J < 3000 by omega) (by omega), gd_true, ofNat_clamp (by omega), (h8 J (by omega)).1, Nat.add_sub_cancel]
    have eq : Int32.ofNat (a J) = Int32.ofNat p ↔ a J = p := by
      have := ha J (by omega)
      have : a J < 2147483648 := by omega
      have : p < 2147483648 := by omega
      grind
    by_cases c1 : a J = p
    · rw [if_pos (eq.mpr c1), if_pos ⟨c0, c1⟩]
      exact ⟨S, rfl, hh⟩
    · rw [if_neg (fun z => c1 (eq.mp z)), if_neg (fun z => c1 z.2)]
      exact new
theorem c1_put {e : Nat} {x : Int32} (h : CS σ0 S (bdP g e D)) (hK : D.1 ≠ 0) (hx : g e = x) (hlt : isLt x = true) : ∃ S', f1_putLetter S x = some S' ∧ (CS σ0 S' (bdP g (e + 1) D) ∨ FL σ0 S' (D.2.2.2.2.1 + (e + 1))) := by
  obtain ⟨K, a, l, s, t, G⟩ := D
  have hK : K ≠ 0 := hK
  obtain ⟨⟨h1, h2, h3, h4, h5⟩, ⟨h6, h7⟩, h8, h9⟩ := h
  have hx2 := isLt_in hlt
  have hnar := (nar_B (x := x) (by grind)).2.1
  have hcast : Int8.toInt32 (Int32.toInt8 x) = x := (nar_B (x := x) (by grind)).2.2
  obtain ⟨J, rfl⟩ : ∃ J, K = J + 1 := ⟨K - 1, by omega⟩
  unfold f1_putLetter f1_putLetter_j18
  rw [h4, if_neg (fun z => hK ((ofNat_z0 (by omega)).mp z))]
  have h5 : fI S 18 1 = Int32.ofNat (t + e) := h5
  have h7 : t + e ≤ 3000 := h7
  unfold f6_add
  have e5 : ln (18 + 1) = 3000 := rfl
  rw [h5, e5]
  by_cases c : t + e < 3000
  · rw [if_pos ((i32n_lt (by omega) (by omega)).mpr c), inb_n (by omega) (by omega), gd_true, ofNat_clamp (by omega), hcast, hnar, stp]
    have e2 : fI (uA S (18 + 1) (t + e) x) 18 1 = Int32.ofNat (t + e) := h5
    rw [e2, i32_succ, stp, bnd_some, if_neg (show ¬ (1 : Int32) = 0 by decide)]
    have e3 : fI (uI (uA S (18 + 1) (t + e) x) 18 1 (Int32.ofNat (t + e + 1))) 13 4 = Int32.ofNat (J + 1) := h4
    have e4 : aI (uI (uA S (18 + 1) (t + e) x) 18 1 (Int32.ofNat (t + e + 1))) 17 J = Int32.ofNat (upn l J (l J + e) J) := by
      show aI (uA S 19 (t + e) x) 17 J = _
      rw [aI_uA' (by decide)]
      exact (h8 J (by omega)).2.2.2
    rw [e3, i32_pred.1, inb_n (show J < 3000 by omega) (by omega), gd_true, gd_true, ofNat_clamp (by omega), e4, upn_at, i32_succ, stp]
    refine ⟨_, rfl, Or.inl ⟨⟨?_, h2, h3, h4, ?_⟩, ⟨h6, by show t + (e + 1) ≤ 3000; omega⟩, fun k hk => ?_, fun q hq => ?_⟩⟩
    · exact h1.trans (Sm.trans (Sm.uA (by omega)) (Sm.trans (Sm.uI (by omega)) (Sm.uA (by omega))))
    · show (Int32.ofNat (t + e + 1)) = Int32.ofNat (t + (e + 1))
      rw [Nat.add_assoc]
    · obtain ⟨y1, y2, y3, y4⟩ := h8 k hk
      refine ⟨?_, ?_, ?_, ?_⟩
      · rw [aI_uA' (by decide)]
        show aI (uA S 19 (t + e) x) 14 k = _
        rw [aI_uA' (by decide)]
        exact y1
      · rw [aI_uA' (by decide)]
        show aI (uA S 19 (t + e) x) 15 k = _
        rw [aI_uA' (by decide)]
        exact y2
      · rw [aI_uA' (by decide)]
        show aI (uA S 19 (t + e) x) 16 k = _
        rw [aI_uA' (by decide)]
        exact y3
      · rw [aI_uA, if_pos rfl]
        show _ = Int32.ofNat (upn l J (l J + (e + 1)) k)
        by_cases ek : k = J
        · rw [if_pos ek, ek, upn_at]
          congr 1
        · rw [if_neg ek, upn_ne ek]
          show aI (uA S 19 (t + e) x) 17 k = _
          rw [aI_uA' (by decide)]
          have y4 : aI S 17 k = Int32.ofNat (upn l J (l J + e) k) := y4
          rw [upn_ne ek] at y4
          exact y4
    · rw [aI_uA' (by decide)]
      show aI (uA S 19 (t + e) x) 19 q = if q < t then G q else g (q - t)
      rw [aI_uA, if_pos rfl]
      have hq : q < t + (e + 1) := hq
      by_cases eq : q = t + e
      · rw [if_pos eq, if_neg (by omega), eq, Nat.add_sub_cancel_left, hx]
      · rw [if_neg eq]
        exact h9 q (by show q < t + e; omega)
  · rw [if_neg (fun z => c ((i32n_lt (by omega) (by omega)).mp z)), bnd_some, if_pos rfl, stp]
    refine ⟨_, rfl, Or.inr ⟨⟨h1.trans (Sm.uI (by omega)), h2⟩, ?_, ?_, by show 3000 < t + (e + 1); omega⟩⟩
    · rw [fI_uI, if_pos rfl, if_pos rfl]
      decide
    · rw [fI_uI, if_pos rfl, if_neg (by decide), h4]
      exact fun z => hK ((ofNat_z0 (by omega)).mp z)
end R
