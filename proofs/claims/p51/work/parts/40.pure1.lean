/-! the pure part: rules of outcomes -/
theorem Ok_some {α : Type} {a : α} {Q : α → Prop} : Ok (some a) Q ↔ Q a := ⟨fun ⟨b, h1, h2⟩ => (Option.some.inj h1) ▸ h2, fun h => ⟨a, rfl, h⟩⟩
theorem Ok_none {α : Type} {Q : α → Prop} : Ok (none : Option α) Q ↔ False := ⟨fun ⟨b, h1, h2⟩ => (by cases h1), fun h => h.elim⟩
theorem Ok_gd {α : Type} {b : Bool} {x : Option α} {Q : α → Prop} : Ok (gd b x) Q ↔ b = true ∧ Ok x Q := by
  unfold gd
  cases b
  · simp [Ok_none]
  · simp
theorem Ok_stp {α β : Type} {x : α} {f : α → Option β} {Q : β → Prop} : Ok (stp x f) Q ↔ Ok (f x) Q := Iff.rfl
theorem Ok_bnd {α β : Type} {x : Option α} {f : α → Option β} {Q : β → Prop} : Ok (bnd x f) Q ↔ Ok x (fun a => Ok (f a) Q) := by
  cases x with
  | none => simp [bnd, Ok_none]
  | some a => simp [bnd, Ok_some]
theorem Ok_bndX {α β γ : Type} {x : Option (α ⊕ γ)} {f : α → Option (β ⊕ γ)} {Q : β ⊕ γ → Prop} : Ok (bndX x f) Q ↔ Ok x (fun r => (∀ a, r = .inl a → Ok (f a) Q) ∧ (∀ c, r = .inr c → Q (.inr c))) := by
  cases x with
  | none => simp [bndX, Ok_none]
  | some a => cases a <;> simp [bndX, Ok_some]
theorem Ok_ite {α : Type} {c : Prop} [Decidable c] {x y : Option α} {Q : α → Prop} : Ok (if c then x else y) Q ↔ (c → Ok x Q) ∧ (¬ c → Ok y Q) := by
  by_cases h : c <;> simp [h]
theorem Ok.imp {α : Type} {x : Option α} {Q Q' : α → Prop} (h : Ok x Q) (hq : ∀ a, Q a → Q' a) : Ok x Q' := by
  obtain ⟨a, h1, h2⟩ := h
  exact ⟨a, h1, hq a h2⟩
theorem Ok.both {α : Type} {x : Option α} {Q Q' : α → Prop} (h : Ok x Q) (h' : Ok x Q') : Ok x (fun a => Q a ∧ Q' a) := by
  obtain ⟨a, h1, h2⟩ := h
  obtain ⟨b, h3, h4⟩ := h'
  rw [h1] at h3
  cases h3
  exact ⟨a, h1, h2, h4⟩
/-- a loop by an invariant and a number that falls -/
theorem Ok_loop {S R : Type} {f : S → Option (S ⊕ R)} {Q : R → Prop} (I : S → Prop) (m : S → Nat) (hs : ∀ s, I s → Ok (f s) (fun x => (∀ s', x = .inl s' → I s' ∧ m s' < m s) ∧ (∀ r, x = .inr r → Q r))) : ∀ {n : Nat} {s : S}, I s → m s < n → Ok (loopF f n s) Q := by
  intro n
  induction n with
  | zero => intro s _ h; omega
  | succ n ih =>
    intro s hI hm
    obtain ⟨x, h1, h2, h3⟩ := hs s hI
    unfold loopF
    rw [h1]
    cases x with
    | inl s' =>
      have := h2 s' rfl
      exact ih this.1 (by omega)
    | inr r => exact ⟨r, rfl, h3 r rfl⟩
/-- what a turn gives: a next one, or the end -/
def lp {S R : Type} (A : S → Prop) (B : R → Prop) : S ⊕ R → Prop
  | .inl s => A s
  | .inr r => B r
theorem lp_inl {S R : Type} {A : S → Prop} {B : R → Prop} {s : S} : lp A B (.inl s) ↔ A s := Iff.rfl
theorem lp_inr {S R : Type} {A : S → Prop} {B : R → Prop} {r : R} : lp A B (.inr r) ↔ B r := Iff.rfl
/-- a loop whose turns are counted, at most N -/
theorem Ok_count {S R : Type} {f : S → Option (S ⊕ R)} {Q : R → Prop} (N : Nat) (I : Nat → S → Prop) (hs : ∀ k s, k ≤ N → I k s → Ok (f s) (lp (fun s' => k + 1 ≤ N ∧ I (k + 1) s') Q)) : ∀ {n : Nat} {s : S} (k : Nat), I k s → k ≤ N → N - k < n → Ok (loopF f n s) Q := by
  intro n
  induction n with
  | zero => intro s k _ _ h; omega
  | succ n ih =>
    intro s k hI hk hm
    obtain ⟨x, h1, h2⟩ := hs k s hk hI
    unfold loopF
    rw [h1]
    cases x with
    | inl s' => exact ih (k + 1) h2.2 h2.1 (by have := h2.1; omega)
    | inr r => exact ⟨r, rfl, h2⟩
/-! numbers -/
theorem i32t (x : Int32) : Lean.Grind.ToInt.toInt x = x.toInt := rfl
grind_pattern i32t => Int32.toInt x
theorem i32n (n : Nat) : n < 2147483648 → Lean.Grind.ToInt.toInt (Int32.ofNat n) = n := fun h => Int32.toInt_ofNat_of_lt h
grind_pattern i32n => Int32.ofNat n
theorem i32c (x : Int32) : 0 ≤ x → Int32.ofNat x.toNatClampNeg = x ∧ x.toNatClampNeg < 2147483648 := by
  intro h
  have := Int32.le_iff_toInt_le.mp h
  have e : (0 : Int32).toInt = 0 := rfl
  have e2 := Int32.toInt_lt x
  have h3 : x.toNatClampNeg < 2147483648 := by unfold Int32.toNatClampNeg; omega
  refine ⟨?_, h3⟩
  apply Int32.toInt_inj.mp
  rw [Int32.toInt_ofNat_of_lt h3]
  unfold Int32.toNatClampNeg; omega
grind_pattern i32c => Int32.toNatClampNeg x
theorem inb_iff {i : Int32} {n : Nat} : (inb i n = true) ↔ (0 ≤ i ∧ i.toInt < n) := by
  unfold inb
  rw [Bool.and_eq_true, decide_eq_true_eq, decide_eq_true_eq]
  refine and_congr_left fun _ => ?_
  exact (Int32.le_iff_toInt_le (x := 0) (y := i)).symm
theorem isB_iff {v : Int32} : (isB v = true) ↔ (v = 0 ∨ v = 1) := by simp [isB]
/-! rows of letters -/
/-- how many line ends stand ahead of a place -/
def ends (f : Nat → Int32) : Nat → Nat
  | 0 => 0
  | k + 1 => ends f k + (if f k = 10 then 1 else 0)
theorem ends_succ (f : Nat → Int32) (k : Nat) : ends f (k + 1) = ends f k + (if f k = 10 then 1 else 0) := rfl
grind_pattern ends_succ => ends f (k + 1)
theorem ends_le (f : Nat → Int32) (k : Nat) : ends f k ≤ k := by
  induction k with
  | zero => exact Nat.le_refl 0
  | succ k ih => rw [ends_succ]; split <;> omega
grind_pattern ends_le => ends f k
theorem ofNat_clamp {n : Nat} (h : n < 2147483648) : (Int32.ofNat n).toNatClampNeg = n := Int32.toNatClampNeg_ofNat_of_lt h
theorem ends_mono {f : Nat → Int32} {a b : Nat} (h : a ≤ b) : ends f a ≤ ends f b := by
  induction b with
  | zero => have : a = 0 := by omega
            subst this; exact Nat.le_refl _
  | succ b ih =>
    by_cases e : a = b + 1
    · subst e; exact Nat.le_refl _
    · rw [ends_succ]
      exact Nat.le_trans (ih (by omega)) (Nat.le_add_right _ _)
/-- where a line begins, where it ends -/
def isBg (f : Nat → Int32) (j p : Nat) : Prop := ends f p = j ∧ (p = 0 ∨ f (p - 1) = 10)
def isEn (f : Nat → Int32) (n j e : Nat) : Prop := e ≤ n ∧ ends f e = j ∧ (e = n ∨ f e = 10)
theorem isBg.uniq {f : Nat → Int32} {j p q : Nat} (h : isBg f j p) (h2 : isBg f j q) : p = q := by
  have key : ∀ a b : Nat, a < b → ends f a = ends f b → (b = 0 ∨ f (b - 1) = 10) → False := by
    intro a b hab he hb
    obtain ⟨c, rfl⟩ : ∃ c, b = c + 1 := ⟨b - 1, by omega⟩
    have h1 := ends_mono (f := f) (show a ≤ c by omega)
    rw [ends_succ, Nat.add_sub_cancel] at *
    rcases hb with hb | hb
    · omega
    · rw [if_pos hb] at he; omega
  rcases Nat.lt_trichotomy p q with hl | hl | hl
  · exact (key p q hl (h.1.trans h2.1.symm) h2.2).elim
  · exact hl
  · exact (key q p hl (h2.1.trans h.1.symm) h.2).elim
theorem isEn.uniq {f : Nat → Int32} {n j p q : Nat} (h : isEn f n j p) (h2 : isEn f n j q) : p = q := by
  have key : ∀ a b : Nat, a < b → b ≤ n → ends f a = ends f b → (a = n ∨ f a = 10) → False := by
    intro a b hab hbn he ha
    have h1 := ends_mono (f := f) (show a + 1 ≤ b by omega)
    rw [ends_succ] at h1
    rcases ha with ha | ha
    · omega
    · rw [if_pos ha] at h1; omega
  rcases Nat.lt_trichotomy p q with hl | hl | hl
  · exact (key p q hl h2.1 (h.2.1.trans h2.2.1.symm) h.2.2).elim
  · exact hl
  · exact (key q p hl h.1 (h2.2.1.trans h.2.1.symm) h2.2.2).elim
/-- a line's beginning is behind a place where the line is behind the place's -/
theorem isBg.le_iff {f : Nat → Int32} {j p q : Nat} (h : isBg f j p) : p ≤ q ↔ j ≤ ends f q := by
  constructor
  · intro hq
    rw [← h.1]
    exact ends_mono hq
  · intro hj
    by_cases hq : p ≤ q
    · exact hq
    · obtain ⟨c, rfl⟩ : ∃ c, p = c + 1 := ⟨p - 1, by omega⟩
      have h1 := ends_mono (f := f) (show q ≤ c by omega)
      obtain ⟨h2, h3⟩ := h
      rw [ends_succ, Nat.add_sub_cancel] at *
      rcases h3 with h3 | h3
      · omega
      · rw [if_pos h3] at h2; omega
theorem isBg.ex {f : Nat → Int32} : ∀ {n j : Nat}, j ≤ ends f n → ∃ p, p ≤ n ∧ isBg f j p := by
  intro n
  induction n with
  | zero => intro j h; exact ⟨0, Nat.le_refl _, by have : ends f 0 = 0 := rfl; omega, Or.inl rfl⟩
  | succ n ih =>
    intro j h
    rw [ends_succ] at h
    by_cases hj : j ≤ ends f n
    · obtain ⟨p, h1, h2⟩ := ih hj
      exact ⟨p, by omega, h2⟩
    · by_cases hf : f n = 10
      · rw [if_pos hf] at h
        exact ⟨n + 1, Nat.le_refl _, by rw [ends_succ, if_pos hf]; omega, Or.inr hf⟩
      · rw [if_neg hf] at h
        omega
theorem isEn.ex {f : Nat → Int32} {n j p : Nat} (hp : p ≤ n) (h : ends f p = j) : ∃ e, p ≤ e ∧ isEn f n j e := by
  obtain ⟨d, hd⟩ : ∃ d, d = n - p := ⟨_, rfl⟩
  induction d generalizing p with
  | zero => exact ⟨p, Nat.le_refl _, hp, h, Or.inl (by omega)⟩
  | succ d ih =>
    by_cases hf : f p = 10
    · exact ⟨p, Nat.le_refl _, hp, h, Or.inr hf⟩
    · obtain ⟨e, h1, h2⟩ := ih (p := p + 1) (by omega) (by rw [ends_succ, if_neg hf]; omega) (by omega)
      exact ⟨e, by omega, h2⟩
theorem Ok_eq {α : Type} {x : Option α} {a : α} (h : Ok x (fun r => r = a)) : x = some a := by
  obtain ⟨b, h1, h2⟩ := h
  rw [h1, h2]
theorem ends_congr {f g : Nat → Int32} {n : Nat} (h : ∀ k, k < n → f k = g k) : ∀ {p : Nat}, p ≤ n → ends f p = ends g p := by
  intro p
  induction p with
  | zero => intro _; rfl
  | succ p ih => intro hp; rw [ends_succ, ends_succ, ih (by omega), h p (by omega)]
/-- a truth as a number -/
def tz (b : Bool) : Int32 := if b then 1 else 0
theorem tz_0 {b : Bool} : tz b = 0 ↔ b = false := by cases b <;> decide
theorem tz_B {b : Bool} : isB (tz b) = true := by cases b <;> rfl
theorem tz_t : tz true = 1 := rfl
theorem tz_f : tz false = 0 := rfl
theorem i32_div {a b : Nat} (ha : a < 2147483648) (hb : b < 2147483648) : Int32.ofNat a / Int32.ofNat b = Int32.ofNat (a / b) := by
  have h1 : a / b ≤ a := Nat.div_le_self a b
  apply Int32.toInt_inj.mp
  rw [Int32.toInt_div, Int32.toInt_ofNat_of_lt ha, Int32.toInt_ofNat_of_lt hb, Int32.toInt_ofNat_of_lt (by omega), ← Int.ofNat_tdiv]
  generalize a / b = q at *
  exact Int.bmod_eq_of_le (by omega) (by omega)
theorem i32_mod {a b : Nat} (ha : a < 2147483648) (hb : b < 2147483648) : Int32.ofNat a % Int32.ofNat b = Int32.ofNat (a % b) := by
  have h1 : a % b ≤ a := Nat.mod_le a b
  apply Int32.toInt_inj.mp
  rw [Int32.toInt_mod, Int32.toInt_ofNat_of_lt ha, Int32.toInt_ofNat_of_lt hb, Int32.toInt_ofNat_of_lt (by omega), ← Int.ofNat_tmod]
theorem nz_iff {x : Int32} : (nz x = true) ↔ ¬ x = 0 := by simp [nz]
/-- the column reached from b after i letters, tabs of t -/
def cw (t : Nat) (f : Nat → Int32) (b : Nat) : Nat → Nat
  | 0 => 0
  | i + 1 => if f (b + i) = 9 then (cw t f b i / t + 1) * t else cw t f b i + 1
theorem cw_le {t : Nat} {f : Nat → Int32} {b : Nat} (ht : 1 ≤ t) (h8 : t ≤ 8) : ∀ i, cw t f b i ≤ 8 * i := by
  intro i
  induction i with
  | zero => exact Nat.le_refl _
  | succ i ih =>
    rw [cw]
    split
    · have h1 := Nat.div_mul_le_self (cw t f b i) t
      rw [Nat.add_mul]
      omega
    · omega
def isPl (t : Nat) (f : Nat → Int32) (b e c q : Nat) : Prop := b ≤ q ∧ q ≤ e ∧ (q = e ∨ c ≤ cw t f b (q - b)) ∧ ∀ i, b + i < q → cw t f b i < c
theorem isPl.uniq {t : Nat} {f : Nat → Int32} {b e c p q : Nat} (h : isPl t f b e c p) (h2 : isPl t f b e c q) : p = q := by
  have key : ∀ p q : Nat, isPl t f b e c p → isPl t f b e c q → p < q → False := by
    intro p q h h2 hl
    have := h2.2.2.2 (p - b) (by have := h.1; omega)
    rcases h.2.2.1 with e1 | e1
    · have := h2.2.1; omega
    · omega
  rcases Nat.lt_trichotomy p q with hl | hl | hl
  · exact (key p q h h2 hl).elim
  · exact hl
  · exact (key q p h2 h hl).elim
theorem isPl.ex {t : Nat} {f : Nat → Int32} {b e c : Nat} (h : b ≤ e) : ∃ q, isPl t f b e c q := by
  have key : ∀ d p, b ≤ p → p + d = e → (∀ i, b + i < p → cw t f b i < c) → ∃ q, isPl t f b e c q := by
    intro d
    induction d with
    | zero => intro p h1 h2 h3; exact ⟨p, h1, by omega, Or.inl (by omega), h3⟩
    | succ d ih =>
      intro p h1 h2 h3
      by_cases hc : c ≤ cw t f b (p - b)
      · exact ⟨p, h1, by omega, Or.inr hc, h3⟩
      · refine ih (p + 1) (by omega) (by omega) (fun i hi => ?_)
        by_cases he : b + i < p
        · exact h3 i he
        · have : i = p - b := by omega
          subst this
          omega
  exact key (e - b) b (Nat.le_refl _) (by omega) (fun i hi => by omega)
