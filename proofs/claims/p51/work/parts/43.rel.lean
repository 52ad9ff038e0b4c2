/-! the two stores side by side. A document: its letters and their number, the hidden lines, the cursors' number and places, the marks, which way they lean (the class's row, the reference's row) -/
abbrev Doc : Type := (Nat → Int32) × Nat × (Nat → Int32) × Nat × (Nat → Nat) × (Nat → Int32) × (Nat → Int32) × (Nat → Int32)
def GD : Doc → Prop
  | (f, n, h, c, cu, ma, lf, ml) => n ≤ 3000 ∧ ends f n < 300 ∧ (∀ k, k < n → isLt (f k) = true) ∧ h 0 = 0 ∧ (∀ j, j ≤ ends f n → h j = 0 ∨ h j = 1) ∧ (1 ≤ c ∧ c ≤ 8) ∧ (∀ i j, i < j → j < c → cu i < cu j) ∧ (∀ i, i < c → cu i ≤ n) ∧ (∀ i, i < c → h (ends f (cu i)) = 0) ∧ (∀ k, k < 16 → ma k = -1 ∨ ∃ p, p ≤ n ∧ ma k = Int32.ofNat p) ∧ ∀ k, k < 16 → (lf k = 0 ∨ lf k = 1) ∧ (ml k = 0 ∨ ml k = 1) ∧ (ma k ≠ -1 → lf k = ml k)
/-- a sheet of the class -/
def SC (σ : Sto) (s L B H : Nat) : Doc → Prop
  | (f, n, h, c, cu, ma, lf, ml) => CT σ s L B f n ∧ (fR σ s 3 = H + 1 ∧ kc H = 14 ∧ ln H = 300 ∧ ∀ j, j ≤ ends f n → aI σ H j = h j) ∧ (fI σ s 6 = Int32.ofNat c ∧ ∀ k, k < c → aI σ (s + 4) k = Int32.ofNat (cu k)) ∧ (∀ k, k < 16 → aI σ (s + 5) k = ma k) ∧ ∀ k, k < 16 → aI σ (s + 6) k = lf k
/-- the reference's own -/
def SM (μ : Sto) : Doc → Prop
  | (f, n, h, c, cu, ma, lf, ml) => MT μ f n ∧ (∀ j, j < 301 → aI μ 2022 j = if j ≤ ends f n then h j else 0) ∧ (fI μ 2017 6 = Int32.ofNat c ∧ ∀ k, k < c → aI μ 2019 k = Int32.ofNat (cu k)) ∧ (∀ k, k < 16 → aI μ 2020 k = ma k) ∧ ∀ k, k < 16 → aI μ 2021 k = ml k
/-- which rows the room's sheet has now, and which the change has -/
def SW (σ : Sto) (L B H : Nat) : Prop := (L = 2 ∧ B = 3 ∧ H = 4 ∧ fR σ 13 7 = 21 ∧ fR σ 13 9 = 22 ∧ fR σ 13 10 = 23) ∨ (L = 20 ∧ B = 21 ∧ H = 22 ∧ fR σ 13 7 = 3 ∧ fR σ 13 9 = 4 ∧ fR σ 13 10 = 5)
/-- the tape: numbers of letters and rows -/
def RT (x : Int32) (a : Nat → Int32) (y : Int32) (b : Nat → Int32) : Prop := ∃ n : Nat, n ≤ 200 ∧ x = Int32.ofNat n ∧ y = Int32.ofNat n ∧ ∀ k, k < n → a k = b k ∧ isLt (b k) = true
/-- the clip -/
def RC (u : Nat → Int32) (x : Int32) (a : Nat → Int32) (y rows width : Int32) (b : Nat → Int32) : Prop := ∃ n : Nat, n ≤ 12000 ∧ x = Int32.ofNat n ∧ y = Int32.ofNat n ∧ (∀ k, k < n → a k = b k ∧ isLt (b k) = true) ∧ ((u 1 = 0 ∧ rows = 0 ∧ n ≤ 3000) ∨ (u 1 = 1 ∧ ∃ r w : Nat, 1 ≤ r ∧ r ≤ 300 ∧ 1 ≤ w ∧ w ≤ 40 ∧ n = r * w ∧ u 2 = Int32.ofNat r ∧ u 3 = Int32.ofNat w ∧ rows = Int32.ofNat r ∧ width = Int32.ofNat w))
/-- the pattern -/
def RP (x isw : Int32) (a : Nat → Int32) (y isv : Int32) (b : Nat → Int32) : Prop := isw = isv ∧ (isw = 0 ∨ isw = 1) ∧ ∃ n : Nat, n ≤ 40 ∧ x = Int32.ofNat n ∧ y = Int32.ofNat n ∧ ∀ k, k < n → a k = b k
/-- the views and the tab -/
def RV (t u : Int32) (a b a' b' : Nat → Int32) : Prop := (∃ n : Nat, 1 ≤ n ∧ n ≤ 8 ∧ t = Int32.ofNat n ∧ u = Int32.ofNat n) ∧ ∀ k, k < 2 → a k = a' k ∧ b k = b' k ∧ 0 ≤ a k ∧ 1 ≤ b k ∧ b k ≤ 40
/-- the kept text: the class's three sheets' rows stay -/
def RKp (σ μ : Sto) : Prop := (fR σ 1998 3 = 2002 ∧ fR σ 2005 0 = 2007 ∧ fR σ 2005 2 = 2008 ∧ fR σ 2005 3 = 2009) ∧ ∃ (f : Nat → Int32) (n : Nat), CT σ 1998 1999 2000 f n ∧ fI μ 2017 16 = Int32.ofNat n ∧ ∀ k, k < n → aI μ 2026 k = f k
/-- the steps -/
def RS (σ μ : Sto) : Prop := ∃ n : Nat, n ≤ 40 ∧ fI σ 1992 4 = Int32.ofNat n ∧ fI μ 2017 50 = Int32.ofNat n ∧ fI σ 1992 5 = fI μ 2017 51 ∧ (fI σ 1992 5 = 0 ∨ fI σ 1992 5 = 1) ∧ ∀ k, k < n → aI σ 1993 k = aI μ 2044 k ∧
  ((aI σ 1993 k = 0 ∧ ∃ m : Nat, m ≤ 200 ∧ aI σ 1995 k = Int32.ofNat m ∧ aI μ 2047 k = Int32.ofNat m ∧ ∀ i, i < m → aI σ 1996 (200 * k + i) = aI μ 2048 (200 * k + i) ∧ isLt (aI μ 2048 (200 * k + i)) = true) ∨
   (aI σ 1993 k = 1 ∧ aI σ 1995 k = aI μ 2045 k ∧ -100 ≤ aI σ 1995 k ∧ aI σ 1995 k ≤ 100) ∨
   (aI σ 1993 k = 2 ∧ aI σ 1994 k = aI μ 2045 k ∧ aI σ 1995 k = aI μ 2046 k ∧ 0 ≤ aI σ 1994 k ∧ aI σ 1994 k ≤ 4 ∧ -50 ≤ aI σ 1995 k ∧ aI σ 1995 k ≤ 50) ∨
   aI σ 1993 k = 3)
/-- a letter out of eight, a line out of 64 -/
def bl (x : Int64) (i : Nat) : Int32 := Int8.toInt32 (Int32.toInt8 (Int64.toInt32 (UInt64.toInt64 (Int64.toUInt64 x >>> UInt64.ofNat (8 * i)))))
def hb (x : Int64) (i : Nat) : Int32 := if (UInt64.toInt64 (Int64.toUInt64 x >>> UInt64.ofNat i)) &&& 1 = 1 then 1 else 0
/-- a moment of the class -/
def MO (σ : Sto) (m : Nat) : Doc → Prop
  | (f, n, h, c, cu, ma, lf, ml) => fI σ m 1 = Int32.ofNat n ∧ (∀ k, k < n → bl (aL σ (m + 1) (k / 8)) (k % 8) = f k) ∧ (∀ j, j ≤ ends f n → hb (aL σ (m + 2) (j / 64)) (j % 64) = h j) ∧ (fI σ m 4 = Int32.ofNat c ∧ ∀ k, k < c → aI σ (m + 3) k = Int32.ofNat (cu k)) ∧ (∀ k, k < 16 → aI σ (m + 4) k = ma k) ∧ ∀ k, k < 16 → aI σ (m + 5) k = lf k
/-- a state of the reference -/
def ST (μ : Sto) (q : Nat) : Doc → Prop
  | (f, n, h, c, cu, ma, lf, ml) => aI μ 2037 q = Int32.ofNat n ∧ aI μ 2039 q = Int32.ofNat c ∧ (∀ k, k < n → aI μ 2036 (3000 * q + k) = f k) ∧ (∀ k, k < c → aI μ 2038 (8 * q + k) = Int32.ofNat (cu k)) ∧ (∀ k, k < 16 → aI μ 2040 (16 * q + k) = ma k ∧ aI μ 2041 (16 * q + k) = ml k) ∧ ∀ j, j < 300 → aI μ 2042 (300 * q + j) = if j ≤ ends f n then h j else 0
/-- so many steps towards the beginning -/
def upw (par : Nat → Nat) : Nat → Nat → Nat
  | 0, x => x
  | k + 1, x => upw par k (par x)
def Anc (par : Nat → Nat) (at_ i : Nat) : Prop := ∃ k, upw par k at_ = i
/-- the tree: nodes 1 to N, the current one, parents and choices, what was before each, what was behind those that are undone -/
abbrev Hst : Type := Nat × Nat × (Nat → Nat) × (Nat → Nat) × (Nat → Doc) × (Nat → Doc)
def RH (σ μ : Sto) : Hst → Prop
  | (N, at_, par, cho, Bf, Af) => (N ≤ 150 ∧ at_ ≤ N ∧ fI σ 24 1 = Int32.ofNat N ∧ fI μ 2017 31 = Int32.ofNat N ∧ fR σ 24 2 = 26 + 13 * at_ + 1 ∧ fI μ 2017 32 = Int32.ofNat at_ ∧ fR σ 26 0 = 0 ∧ par 0 = 0) ∧
    (∀ i, 1 ≤ i → i ≤ N → par i < i ∧ fR σ (26 + 13 * i) 0 = 26 + 13 * par i + 1 ∧ aI μ 2034 i = Int32.ofNat (par i)) ∧
    (∀ i, i ≤ N → cho i ≤ N ∧ (cho i ≠ 0 → par (cho i) = i) ∧ fR σ (26 + 13 * i) 1 = (if cho i = 0 then 0 else 26 + 13 * cho i + 1) ∧ aI μ 2035 i = Int32.ofNat (cho i)) ∧
    (∀ i, N < i → i ≤ 150 → fR σ (26 + 13 * i) 1 = 0) ∧
    (∀ i, 1 ≤ i → i ≤ N → GD (Bf i) ∧ MO σ (26 + 13 * i + 1) (Bf i) ∧ ST μ (2 * i - 2) (Bf i)) ∧
    (∀ i, 1 ≤ i → i ≤ N → ¬ Anc par at_ i → GD (Af i) ∧ MO σ (26 + 13 * i + 7) (Af i) ∧ ST μ (2 * i - 1) (Af i)) ∧
    (∀ i, 1 ≤ i → Anc par at_ i → cho (par i) = i)
/-- the group -/
def RG (x y u v : Int32) : Prop := (x = 0 ∨ x = 1) ∧ u = x ∧ y = (if v = -1 then 0 else 1) ∧ (v ≠ -1 → x = 1)
/-- all of it -/
def Rel0 (σ μ : Sto) (D : Doc) (L B H : Nat) (T : Hst) : Prop :=
  GD D ∧ SC σ 1 L B H D ∧ SM μ D ∧ SW σ L B H ∧ RT (fI σ 8 1) (aI σ 9) (fI μ 2017 11) (aI μ 2023) ∧ RC (fI σ 10) (fI σ 11 1) (aI σ 12) (fI μ 2017 12) (fI μ 2017 13) (fI μ 2017 14) (aI μ 2024) ∧ RP (fI σ 1990 1) (fI σ 1989 1) (aI σ 1991) (fI μ 2017 15) (fI μ 2017 19) (aI μ 2025) ∧ RV (fI σ 0 10) (fI μ 2017 17) (aI σ 2015) (aI σ 2016) (aI μ 2027) (aI μ 2028) ∧ RKp σ μ ∧ RS σ μ ∧ RG (fI σ 24 3) (fI σ 24 4) (fI μ 2017 34) (fI μ 2017 33) ∧ RH σ μ T
def Rel (σ μ : Sto) : Prop := ∃ (D : Doc) (L B H : Nat) (T : Hst), Rel0 σ μ D L B H T
/-! fields and rows after a writing -/
theorem fI_uI {σ : Sto} {a k b j : Nat} {v : Int32} : fI (uI σ a k v) b j = if b = a then (if j = k then v else fI σ b j) else fI σ b j := rfl
theorem fI_uI' {σ : Sto} {a k b : Nat} {v : Int32} (h : b ≠ a) : fI (uI σ a k v) b = fI σ b := by
  funext j
  rw [fI_uI, if_neg h]
theorem uI_ext {μ μ' : Sto} (h1 : ∀ k, k ≠ 18 → fI μ' 2017 k = fI μ 2017 k) (h2 : aI μ' = aI μ) (h3 : fR μ' = fR μ) : ∀ {σ : Sto} {D : Doc} {L B H : Nat} {T : Hst}, Rel0 σ μ D L B H T → Rel0 σ μ' D L B H T := by
  intro σ D L B H T h
  obtain ⟨f, n, hd, c, cu, ma, lf, ml⟩ := D
  obtain ⟨N, at_, par, cho, Bf, Af⟩ := T
  unfold Rel0 SM MT RKp RS RH at h ⊢
  simp only [h2, h1 5 (by decide), h1 6 (by decide), h1 11 (by decide), h1 12 (by decide), h1 13 (by decide), h1 14 (by decide), h1 15 (by decide), h1 16 (by decide), h1 17 (by decide), h1 19 (by decide), h1 31 (by decide), h1 32 (by decide), h1 33 (by decide), h1 34 (by decide), h1 50 (by decide), h1 51 (by decide)]
  have hS : ∀ q D, ST μ' q D = ST μ q D := by
    rintro q ⟨f, n, hd, c, cu, ma, lf, ml⟩
    unfold ST
    simp only [h2]
  simp only [hS]
  exact h
theorem Rel.thr {σ μ : Sto} {v : Int32} (h : Rel σ μ) : Rel σ (uI μ 2017 18 v) := by
  obtain ⟨D, L, B, H, T, h⟩ := h
  exact ⟨D, L, B, H, T, uI_ext (fun k hk => by rw [fI_uI, if_pos rfl, if_neg hk]) rfl rfl h⟩
abbrev RQ : Sto → Sto → Int64 → Prop := fun σ μ _ => Rel σ μ
theorem stH_ok {fc : Option ((Int32 × Sto) ⊕ (Nat × Sto))} {tab : List (Nat × Int32)} {o : Int64} {fm : Option (Int32 × Sto)} {v : Int32} {σ' μ' : Sto} (h1 : fc = some (.inl (v, σ'))) (h2 : fm = some (v, uI μ' 2017 18 0)) (h : Rel σ' μ') : stH fc tab o fm RQ := by
  unfold stH
  rw [h1, h2, Ok_some]
  exact Ok_some.mpr (Ok_some.mpr ⟨rfl, fun _ => rfl, h.thr⟩)
theorem stH_er {fc : Option ((Int32 × Sto) ⊕ (Nat × Sto))} {tab : List (Nat × Int32)} {o : Int64} {fm : Option (Int32 × Sto)} {c : Nat} {t v : Int32} {σ' μ' : Sto} (h1 : fc = some (.inr (c, σ'))) (ht : (c, t) ∈ tab) (hn : t ≠ 0) (h2 : fm = some (v, uI μ' 2017 18 t)) (h : Rel σ' μ') : stH fc tab o fm RQ := by
  unfold stH
  rw [h1, h2, Ok_some]
  exact ⟨t, ht, Ok_some.mpr (Ok_some.mpr ⟨rfl, fun e => absurd e hn, h.thr⟩)⟩
section R
variable {σ μ : Sto} {L B H : Nat} {f : Nat → Int32} {n : Nat} {o : Int64}
theorem c11_requirePlace (h : CT σ 1 L B f n) {x : Int32} : f11_requirePlace σ x = if 0 ≤ x ∧ x ≤ Int32.ofNat n then some (.inl σ) else some (.inr (1, σ)) := by
  unfold f11_requirePlace f11_requirePlace_j15
  rw [h.2.2.1]
  grind
theorem c11_requireLine (h : CT σ 1 L B f n) {x : Int32} : f11_requireLine σ x = if 0 ≤ x ∧ x ≤ Int32.ofNat (ends f n) then some (.inl σ) else some (.inr (1, σ)) := by
  unfold f11_requireLine f11_requireLine_j15
  rw [h.2.2.2.1]
  have := h.2.1
  have e : ∀ x : Int32, x < Int32.ofNat (ends f n + 1) ↔ x ≤ Int32.ofNat (ends f n) := by intro x; grind
  simp only [e]
  grind
theorem bndX_inl {α β γ : Type} {a : α} {k : α → Option (β ⊕ γ)} : bndX (some (Sum.inl a)) k = k a := rfl
theorem bndX_inr {α β γ : Type} {c : γ} {k : α → Option (β ⊕ γ)} : bndX (some (Sum.inr c)) k = some (.inr c) := rfl
theorem bnd_some {α β : Type} {a : α} {k : α → Option β} : bnd (some a) k = k a := rfl
theorem gd_true {α : Type} {x : Option α} : gd true x = x := by unfold gd; rw [if_pos rfl]
/-- a number in a range is a natural one's -/
theorem of_range {x : Int32} {n : Nat} (h : 0 ≤ x ∧ x ≤ Int32.ofNat n) (hn : n < 2147483648) : ∃ p, p ≤ n ∧ x = Int32.ofNat p := ⟨x.toNatClampNeg, by grind, by grind⟩
end R
theorem ite_tz {α : Type} {b : Bool} {x y : α} : (if tz b = 0 then x else y) = if b = true then y else x := by cases b <;> rfl
theorem aI_uA {σ : Sto} {a k b j : Nat} {v : Int32} : aI (uA σ a k v) b j = if b = a then (if j = k then v else aI σ b j) else aI σ b j := by
  show up2 σ.2.2.1 a k v b j = _
  rfl
theorem aI_uA' {σ : Sto} {a k b : Nat} {v : Int32} (h : b ≠ a) : aI (uA σ a k v) b = aI σ b := by
  funext j
  rw [aI_uA, if_neg h]
theorem aI_rA {σ : Sto} {a b : Nat} {r : Nat → Int32} : aI (rA σ a r) b = if b = a then r else aI σ b := rfl
theorem aI_rA' {σ : Sto} {a b : Nat} {r : Nat → Int32} (h : b ≠ a) : aI (rA σ a r) b = aI σ b := by rw [aI_rA, if_neg h]
theorem aL_rL {σ : Sto} {a b : Nat} {r : Nat → Int64} : aL (rL σ a r) b = if b = a then r else aL σ b := rfl
theorem aL_uL {σ : Sto} {a k b j : Nat} {v : Int64} : aL (uL σ a k v) b j = if b = a then (if j = k then v else aL σ b j) else aL σ b j := rfl
theorem fR_uR {σ : Sto} {a k b j : Nat} {v : Nat} : fR (uR σ a k v) b j = if b = a then (if j = k then v else fR σ b j) else fR σ b j := rfl
theorem fR_uR' {σ : Sto} {a k b : Nat} {v : Nat} (h : b ≠ a) : fR (uR σ a k v) b = fR σ b := by
  funext j
  rw [fR_uR, if_neg h]
/-- cells that are as they were -/
def Sm (P : Nat → Prop) (σ σ' : Sto) : Prop := ∀ a, P a → fI σ' a = fI σ a ∧ fR σ' a = fR σ a ∧ aI σ' a = aI σ a ∧ aL σ' a = aL σ a
theorem Sm.rf {P : Nat → Prop} {σ : Sto} : Sm P σ σ := fun _ _ => ⟨rfl, rfl, rfl, rfl⟩
theorem Sm.trans {P : Nat → Prop} {σ1 σ2 σ3 : Sto} (h : Sm P σ1 σ2) (h2 : Sm P σ2 σ3) : Sm P σ1 σ3 := fun a ha => ⟨(h2 a ha).1.trans (h a ha).1, (h2 a ha).2.1.trans (h a ha).2.1, (h2 a ha).2.2.1.trans (h a ha).2.2.1, (h2 a ha).2.2.2.trans (h a ha).2.2.2⟩
theorem Sm.weak {P Q : Nat → Prop} {σ1 σ2 : Sto} (h : Sm P σ1 σ2) (hq : ∀ a, Q a → P a) : Sm Q σ1 σ2 := fun a ha => h a (hq a ha)
theorem Sm.uI {P : Nat → Prop} {σ : Sto} {a k : Nat} {v : Int32} (h : ∀ b, P b → b ≠ a) : Sm P σ (uI σ a k v) := fun b hb => ⟨fI_uI' (h b hb), rfl, rfl, rfl⟩
theorem Sm.uR {P : Nat → Prop} {σ : Sto} {a k : Nat} {v : Nat} (h : ∀ b, P b → b ≠ a) : Sm P σ (uR σ a k v) := fun b hb => ⟨rfl, fR_uR' (h b hb), rfl, rfl⟩
theorem Sm.uA {P : Nat → Prop} {σ : Sto} {a k : Nat} {v : Int32} (h : ∀ b, P b → b ≠ a) : Sm P σ (uA σ a k v) := fun b hb => ⟨rfl, rfl, aI_uA' (h b hb), rfl⟩
theorem Sm.rA {P : Nat → Prop} {σ : Sto} {a : Nat} {r : Nat → Int32} (h : ∀ b, P b → b ≠ a) : Sm P σ (rA σ a r) := fun b hb => ⟨rfl, rfl, aI_rA' (h b hb), rfl⟩
theorem Sm.uL {P : Nat → Prop} {σ : Sto} {a k : Nat} {v : Int64} (h : ∀ b, P b → b ≠ a) : Sm P σ (uL σ a k v) := fun b hb => ⟨rfl, rfl, rfl, by funext j; rw [aL_uL, if_neg (h b hb)]⟩
theorem Sm.rL {P : Nat → Prop} {σ : Sto} {a : Nat} {r : Nat → Int64} (h : ∀ b, P b → b ≠ a) : Sm P σ (rL σ a r) := fun b hb => ⟨rfl, rfl, rfl, by rw [aL_rL, if_neg (h b hb)]⟩
theorem CT.congr {σ σ' : Sto} {s L B : Nat} {f : Nat → Int32} {n : Nat} (h : CT σ s L B f n) (h1 : fI σ' s = fI σ s) (h2 : fR σ' s = fR σ s) (h3 : aI σ' L = aI σ L) (h4 : aI σ' B = aI σ B) : CT σ' s L B f n := by
  unfold CT at h ⊢
  rw [h1, h2, h3, h4]
  exact h
theorem MT.congr {μ μ' : Sto} {f : Nat → Int32} {n : Nat} (h : MT μ f n) (h1 : fI μ' 2017 5 = fI μ 2017 5) (h2 : aI μ' 2018 = aI μ 2018) : MT μ' f n := by
  unfold MT at h ⊢
  rw [h1, h2]
  exact h
theorem SC.congr {σ σ' : Sto} {s L B H : Nat} {D : Doc} (h : SC σ s L B H D) (h1 : fI σ' s = fI σ s) (h2 : fR σ' s = fR σ s) (h3 : aI σ' L = aI σ L) (h4 : aI σ' B = aI σ B) (h5 : aI σ' H = aI σ H) (h6 : aI σ' (s + 4) = aI σ (s + 4)) (h7 : aI σ' (s + 5) = aI σ (s + 5)) (h8 : aI σ' (s + 6) = aI σ (s + 6)) : SC σ' s L B H D := by
  obtain ⟨f, n, hd, c, cu, ma, lf, ml⟩ := D
  unfold SC at h ⊢
  rw [h1, h2, h5, h6, h7, h8]
  exact ⟨h.1.congr h1 h2 h3 h4, h.2⟩
theorem SM.congr {μ μ' : Sto} {D : Doc} (h : SM μ D) (h1 : fI μ' 2017 5 = fI μ 2017 5) (h2 : fI μ' 2017 6 = fI μ 2017 6) (h3 : aI μ' 2018 = aI μ 2018) (h4 : aI μ' 2019 = aI μ 2019) (h5 : aI μ' 2020 = aI μ 2020) (h6 : aI μ' 2021 = aI μ 2021) (h7 : aI μ' 2022 = aI μ 2022) : SM μ' D := by
  obtain ⟨f, n, hd, c, cu, ma, lf, ml⟩ := D
  unfold SM at h ⊢
  rw [h2, h4, h5, h6, h7]
  exact ⟨h.1.congr h1 h3, h.2⟩
theorem RKp.congr {σ σ' μ μ' : Sto} (h : RKp σ μ) (hs : Sm (fun a => 1998 ≤ a ∧ a ≤ 2005) σ σ') (h1 : fI μ' 2017 16 = fI μ 2017 16) (h2 : aI μ' 2026 = aI μ 2026) : RKp σ' μ' := by
  unfold RKp at h ⊢
  rw [(hs 1998 (by omega)).2.1, (hs 2005 (by omega)).2.1, h1, h2]
  obtain ⟨h0, f, n, h3, h4⟩ := h
  exact ⟨h0, f, n, h3.congr (hs 1998 (by omega)).1 (hs 1998 (by omega)).2.1 (hs 1999 (by omega)).2.2.1 (hs 2000 (by omega)).2.2.1, h4⟩
theorem RS.congr {σ σ' μ μ' : Sto} (h : RS σ μ) (hs : Sm (fun a => 1992 ≤ a ∧ a ≤ 1996) σ σ') (h1 : fI μ' 2017 50 = fI μ 2017 50) (h2 : fI μ' 2017 51 = fI μ 2017 51) (h3 : ∀ a, 2044 ≤ a → a ≤ 2048 → aI μ' a = aI μ a) : RS σ' μ' := by
  unfold RS at h ⊢
  rw [h1, h2, h3 2044 (by omega) (by omega), h3 2045 (by omega) (by omega), h3 2046 (by omega) (by omega), h3 2047 (by omega) (by omega), h3 2048 (by omega) (by omega), (hs 1992 (by omega)).1, (hs 1993 (by omega)).2.2.1, (hs 1994 (by omega)).2.2.1, (hs 1995 (by omega)).2.2.1, (hs 1996 (by omega)).2.2.1]
  exact h
theorem MO.congr {σ σ' : Sto} {m : Nat} {D : Doc} (h : MO σ m D) (hs : ∀ a, m ≤ a → a ≤ m + 5 → fI σ' a = fI σ a ∧ aI σ' a = aI σ a ∧ aL σ' a = aL σ a) : MO σ' m D := by
  obtain ⟨f, n, hd, c, cu, ma, lf, ml⟩ := D
  unfold MO at h ⊢
  rw [(hs m (by omega) (by omega)).1, (hs (m + 1) (by omega) (by omega)).2.2, (hs (m + 2) (by omega) (by omega)).2.2, (hs (m + 3) (by omega) (by omega)).2.1, (hs (m + 4) (by omega) (by omega)).2.1, (hs (m + 5) (by omega) (by omega)).2.1]
  exact h
theorem ST.congr {μ μ' : Sto} {q : Nat} {D : Doc} (h : ST μ q D) (hs : ∀ a, 2036 ≤ a → a ≤ 2042 → aI μ' a = aI μ a) : ST μ' q D := by
  obtain ⟨f, n, hd, c, cu, ma, lf, ml⟩ := D
  unfold ST at h ⊢
  rw [hs 2036 (by omega) (by omega), hs 2037 (by omega) (by omega), hs 2038 (by omega) (by omega), hs 2039 (by omega) (by omega), hs 2040 (by omega) (by omega), hs 2041 (by omega) (by omega), hs 2042 (by omega) (by omega)]
  exact h
theorem RH.congr {σ σ' μ μ' : Sto} {T : Hst} (h : RH σ μ T) (hs : Sm (fun a => 26 ≤ a ∧ a < 1989) σ σ') (h1 : fI σ' 24 1 = fI σ 24 1) (h2 : fR σ' 24 2 = fR σ 24 2) (h3 : fI μ' 2017 31 = fI μ 2017 31) (h4 : fI μ' 2017 32 = fI μ 2017 32) (hm : ∀ a, 2034 ≤ a → a ≤ 2042 → aI μ' a = aI μ a) : RH σ' μ' T := by
  obtain ⟨N, at_, par, cho, Bf, Af⟩ := T
  unfold RH at h ⊢
  obtain ⟨⟨g1, g2, g3, g4, g5, g6, g7, g8⟩, h5, h6, h7, h8, h9, h10⟩ := h
  refine ⟨⟨g1, g2, h1.trans g3, h3.trans g4, h2.trans g5, h4.trans g6, by rw [(hs 26 (by omega)).2.1]; exact g7, g8⟩, ?_, ?_, ?_, ?_, ?_, h10⟩
  · intro i i1 i2
    rw [(hs (26 + 13 * i) (by omega)).2.1, hm 2034 (by omega) (by omega)]
    exact h5 i i1 i2
  · intro i i1
    rw [(hs (26 + 13 * i) (by omega)).2.1, hm 2035 (by omega) (by omega)]
    exact h6 i i1
  · intro i i1 i2
    rw [(hs (26 + 13 * i) (by omega)).2.1]
    exact h7 i i1 i2
  · intro i i1 i2
    obtain ⟨k1, k2, k3⟩ := h8 i i1 i2
    exact ⟨k1, k2.congr (fun a a1 a2 => ⟨(hs a (by omega)).1, (hs a (by omega)).2.2⟩), k3.congr (fun a a1 a2 => hm a (by omega) a2)⟩
  · intro i i1 i2 i3
    obtain ⟨k1, k2, k3⟩ := h9 i i1 i2 i3
    exact ⟨k1, k2.congr (fun a a1 a2 => ⟨(hs a (by omega)).1, (hs a (by omega)).2.2⟩), k3.congr (fun a a1 a2 => hm a (by omega) a2)⟩
theorem nar_b {x : Int32} (h : x = 0 ∨ x = 1) : vp_nar .boolean x = x := by rcases h with rfl | rfl <;> decide
theorem nar_Bk : ∀ k : Nat, k < 128 → vp_nar .byte (Int8.toInt32 (Int32.toInt8 (Int32.ofNat k))) = Int32.ofNat k ∧ vp_nar .byte (Int32.ofNat k) = Int32.ofNat k ∧ Int8.toInt32 (Int32.toInt8 (Int32.ofNat k)) = Int32.ofNat k := by decide +kernel
theorem nar_B {x : Int32} (h : 0 ≤ x ∧ x ≤ 127) : vp_nar .byte (Int8.toInt32 (Int32.toInt8 x)) = x ∧ vp_nar .byte x = x ∧ Int8.toInt32 (Int32.toInt8 x) = x := by
  obtain ⟨k, hk, rfl⟩ : ∃ k : Nat, k < 128 ∧ x = Int32.ofNat k := ⟨x.toNatClampNeg, by grind, by grind⟩
  exact nar_Bk k hk
theorem isLt_in {x : Int32} (h : isLt x = true) : 9 ≤ x ∧ x ≤ 126 := by
  unfold isLt at h
  simp at h
  grind
