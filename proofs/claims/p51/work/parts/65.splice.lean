/-! texts with parts replaced -/
def sp {α : Type} (f : Nat → α) (a b l : Nat) (x : Nat → α) (i : Nat) : α := if i < a then f i else if i < a + l then x (i - a) else f (i - (a + l) + b)
def spD {α : Type} (f : Nat → α) (a b l : Nat → Nat) (X : Nat → Nat → α) : Nat → Nat → Nat → α
  | 0, _ => f
  | d + 1, k => sp (spD f a b l X d (k + 1)) (a k) (b k) (l k) (X k)
def nD (n : Nat) (a b l : Nat → Nat) : Nat → Nat → Nat
  | 0, _ => n
  | d + 1, k => nD n a b l d (k + 1) - (b k - a k) + l k
/-- the text after the parts from the k-th on, and its length -/
def spA {α : Type} (f : Nat → α) (K : Nat) (a b l : Nat → Nat) (X : Nat → Nat → α) (k : Nat) : Nat → α := spD f a b l X (K - k) k
def nA (n K : Nat) (a b l : Nat → Nat) (k : Nat) : Nat := nD n a b l (K - k) k
/-- parts in their order -/
def VP (n K : Nat) (a b : Nat → Nat) : Prop := (∀ k, k < K → a k ≤ b k ∧ b k ≤ n) ∧ ∀ k, k + 1 < K → b k ≤ a (k + 1)
section R
variable {α : Type} {f g : Nat → α} {n K : Nat} {a b l : Nat → Nat} {X : Nat → Nat → α}
theorem spA_K : spA f K a b l X K = f := by
  unfold spA
  rw [Nat.sub_self]
  rfl
theorem spA_k {k : Nat} (h : k < K) : spA f K a b l X k = sp (spA f K a b l X (k + 1)) (a k) (b k) (l k) (X k) := by
  unfold spA
  rw [show K - k = (K - (k + 1)) + 1 by omega]
  rfl
theorem nA_K : nA n K a b l K = n := by
  unfold nA
  rw [Nat.sub_self]
  rfl
theorem nA_k {k : Nat} (h : k < K) : nA n K a b l k = nA n K a b l (k + 1) - (b k - a k) + l k := by
  unfold nA
  rw [show K - k = (K - (k + 1)) + 1 by omega]
  rfl
theorem VP.down (v : VP n K a b) {P : Nat → Prop} (h0 : P K) (h : ∀ k, k < K → P (k + 1) → P k) : ∀ k, k ≤ K → P k := by
  have : ∀ d, d ≤ K → P (K - d) := by
    intro d
    induction d with
    | zero => intro _; exact h0
    | succ d ih =>
      intro hd
      refine h _ (by omega) ?_
      rw [show K - (d + 1) + 1 = K - d by omega]
      exact ih (by omega)
  intro k hk
  have := this (K - k) (by omega)
  rw [show K - (K - k) = k by omega] at this
  exact this
theorem VP.nA_ge (v : VP n K a b) : ∀ k, k ≤ K → (k < K → a k + l k ≤ nA n K a b l k ∧ b k ≤ nA n K a b l (k + 1)) := by
  intro k
  refine v.down (P := fun k => k < K → a k + l k ≤ nA n K a b l k ∧ b k ≤ nA n K a b l (k + 1)) (fun h => by omega) (fun k hk ih _ => ?_) k
  have hb : b k ≤ nA n K a b l (k + 1) := by
    by_cases hq : k + 1 < K
    · have h1 := (ih hq).1
      have h2 := v.2 k hq
      omega
    · rw [show k + 1 = K by omega, nA_K]
      exact (v.1 k hk).2
  have := v.1 k hk
  rw [nA_k hk]
  exact ⟨by omega, hb⟩
/-- what lies before a part -/
def pre (n K : Nat) (a : Nat → Nat) (k : Nat) : Nat := if k < K then a k else n
theorem VP.pre_le (v : VP n K a b) {k : Nat} (hk : k < K) : a k ≤ pre n K a (k + 1) ∧ b k ≤ pre n K a (k + 1) := by
  have h1 := v.1 k hk
  unfold pre
  split
  · have := v.2 k ‹_›
    omega
  · omega
theorem VP.pre_n (v : VP n K a b) {k : Nat} : pre n K a k ≤ n := by
  unfold pre
  split
  · have := v.1 k ‹_›
    omega
  · omega
theorem VP.spA_pre (v : VP n K a b) : ∀ k, k ≤ K → ∀ i, i < pre n K a k → spA f K a b l X k i = f i := by
  refine v.down (by rw [spA_K]; intros; rfl) (fun k hk ih i hi => ?_)
  have h1 : i < a k := by
    unfold pre at hi
    rw [if_pos hk] at hi
    exact hi
  have := (v.pre_le hk).1
  rw [spA_k hk, sp, if_pos h1, ih i (by omega)]
/-- the same, further on -/
def eA (b : Nat → Nat) : Nat → Nat
  | 0 => 0
  | k + 1 => b k
def mA (a b l : Nat → Nat) : Nat → Nat
  | 0 => 0
  | k + 1 => mA a b l k + (a k - eA b k) + l k
theorem VP.eA_le (v : VP n K a b) {k : Nat} (hk : k ≤ K) : eA b k ≤ pre n K a k ∧ eA b k ≤ n := by
  cases k with
  | zero => exact ⟨Nat.zero_le _, Nat.zero_le _⟩
  | succ k => exact ⟨(v.pre_le (by omega)).2, (v.1 k (by omega)).2⟩
theorem VP.spA_m (v : VP n K a b) : ∀ k, k ≤ K → ∀ i, spA f K a b l X 0 (mA a b l k + i) = spA f K a b l X k (eA b k + i) := by
  intro k
  induction k with
  | zero => intro _ i; rfl
  | succ k ih =>
    intro hk i
    have h1 := (v.eA_le (show k ≤ K by omega)).1
    unfold pre at h1
    rw [if_pos (by omega)] at h1
    rw [mA, show mA a b l k + (a k - eA b k) + l k + i = mA a b l k + ((a k - eA b k) + l k + i) by omega, ih (by omega), spA_k (by omega), sp, if_neg (by omega), if_neg (by omega), eA]
    congr 1
    omega
theorem VP.nA_m (v : VP n K a b) : ∀ k, k ≤ K → mA a b l k + (nA n K a b l k - eA b k) = nA n K a b l 0 ∧ eA b k ≤ nA n K a b l k := by
  intro k
  induction k with
  | zero => intro _; exact ⟨by rw [mA, eA]; omega, Nat.zero_le _⟩
  | succ k ih =>
    intro hk
    obtain ⟨h2, h3⟩ := ih (by omega)
    have h1 := (v.eA_le (show k ≤ K by omega)).1
    unfold pre at h1
    rw [if_pos (by omega)] at h1
    have h4 := v.nA_ge (l := l) k (by omega) (by omega)
    have h5 := v.1 k (by omega)
    rw [nA_k (show k < K by omega)] at h2 h3 h4
    rw [mA, eA]
    exact ⟨by omega, h4.2⟩
end R
theorem ends_from {f g : Nat → Int32} {m e : Nat} : ∀ j, (∀ i, i < j → f (m + i) = g (e + i)) → ends f (m + j) + ends g e = ends f m + ends g (e + j) := by
  intro j
  induction j with
  | zero => intro _; rfl
  | succ j ih =>
    intro h
    have := ih (fun i hi => h i (by omega))
    rw [show m + (j + 1) = m + j + 1 by omega, show e + (j + 1) = e + j + 1 by omega, ends_succ, ends_succ, h j (by omega)]
    omega
section S
variable {f x : Nat → Int32} {a b l : Nat}
theorem ends_sp1 {p : Nat} (h : p ≤ a) : ends (sp f a b l x) p = ends f p := ends_congr (fun k hk => by rw [sp, if_pos hk]) h
theorem ends_sp2 {p : Nat} (h : p ≤ l) : ends (sp f a b l x) (a + p) = ends f a + ends x p := by
  have h1 := ends_from (f := sp f a b l x) (g := x) (m := a) (e := 0) p (fun i hi => by rw [sp, if_neg (by omega), if_pos (by omega), Nat.zero_add, Nat.add_sub_cancel_left])
  rw [ends_sp1 (Nat.le_refl _), Nat.zero_add] at h1
  have : ends x 0 = 0 := rfl
  omega
theorem ends_sp3 {i : Nat} : ends (sp f a b l x) (a + l + i) + ends f b = ends f a + ends x l + ends f (b + i) := by
  have h1 := ends_from (f := sp f a b l x) (g := f) (m := a + l) (e := b) i (fun j hj => by
    rw [sp, if_neg (by omega), if_neg (by omega)]
    congr 1
    omega)
  rw [ends_sp2 (Nat.le_refl _)] at h1
  exact h1
end S
/-! lines that are opened, in whatever order -/
def sr (h : Nat → Int32) (t j : Nat) : Prop := ∀ i, (t ≤ i ∨ j ≤ i) → (i ≤ t ∨ i ≤ j) → h i ≠ 0
def OP (T : Nat → Prop) (h : Nat → Int32) (m : Nat) (h' : Nat → Int32) : Prop := ∀ j, j < m → ((∃ t, T t ∧ t < m ∧ sr h t j) → h' j = 0) ∧ ((¬ ∃ t, T t ∧ t < m ∧ sr h t j) → h' j = h j)
theorem sr.symm {h : Nat → Int32} {t j : Nat} (a : sr h t j) : sr h j t := fun i h1 h2 => a i h1.symm h2.symm
theorem sr.trans {h : Nat → Int32} {t j k : Nat} (a : sr h t j) (b : sr h j k) : sr h t k := by
  intro i h1 h2
  by_cases h3 : (t ≤ i ∨ j ≤ i) ∧ (i ≤ t ∨ i ≤ j)
  · exact a i h3.1 h3.2
  · exact b i (by omega) (by omega)
theorem sr.sub {h : Nat → Int32} {t j i : Nat} (a : sr h t j) (h1 : t ≤ i ∨ j ≤ i) (h2 : i ≤ t ∨ i ≤ j) : sr h i j := by
  intro q h3 h4
  exact a q (by omega) (by omega)
theorem OP.rf {h : Nat → Int32} {m : Nat} : OP (fun _ => False) h m h := fun j hj => ⟨fun ⟨t, z, _⟩ => z.elim, fun _ => rfl⟩
theorem OP.trans {T T' : Nat → Prop} {h h' h'' : Nat → Int32} {m : Nat} (a : OP T h m h') (b : OP T' h' m h'') : OP (fun t => T t ∨ T' t) h m h'' := by
  have hor : ∀ i, i < m → h' i ≠ 0 → h' i = h i ∧ ¬ ∃ t, T t ∧ t < m ∧ sr h t i := fun i hi hz => by
    by_cases z : ∃ t, T t ∧ t < m ∧ sr h t i
    · exact absurd ((a i hi).1 z) hz
    · exact ⟨(a i hi).2 z, z⟩
  have key : ∀ j t, j < m → t < m → (¬ ∃ t, T t ∧ t < m ∧ sr h t j) → (sr h' t j ↔ sr h t j) := by
    intro j t hj ht hno
    refine ⟨fun z i h1 h2 => ?_, fun z i h1 h2 => ?_⟩
    · have := z i h1 h2
      rw [(hor i (by omega) this).1] at this
      exact this
    · have h3 : ¬ ∃ t, T t ∧ t < m ∧ sr h t i := fun ⟨u, u1, u2, u3⟩ => hno ⟨u, u1, u2, u3.trans (z.sub h1 h2)⟩
      rw [(a i (by omega)).2 h3]
      exact z i h1 h2
  intro j hj
  refine ⟨fun ⟨t, t1, t2, t3⟩ => ?_, fun hno => ?_⟩
  · by_cases z : ∃ t, T t ∧ t < m ∧ sr h t j
    · have e := (a j hj).1 z
      by_cases w : ∃ t, T' t ∧ t < m ∧ sr h' t j
      · exact (b j hj).1 w
      · rw [(b j hj).2 w, e]
    · rcases t1 with t1 | t1
      · exact absurd ⟨t, t1, t2, t3⟩ z
      · exact (b j hj).1 ⟨t, t1, t2, (key j t hj t2 z).mpr t3⟩
  · have z : ¬ ∃ t, T t ∧ t < m ∧ sr h t j := fun ⟨t, t1, t2, t3⟩ => hno ⟨t, Or.inl t1, t2, t3⟩
    have w : ¬ ∃ t, T' t ∧ t < m ∧ sr h' t j := fun ⟨t, t1, t2, t3⟩ => hno ⟨t, Or.inr t1, t2, (key j t hj t2 z).mp t3⟩
    rw [(b j hj).2 w, (a j hj).2 z]
theorem OP.weak {T T' : Nat → Prop} {h h' : Nat → Int32} {m : Nat} (a : OP T h m h') (e : ∀ t, t < m → (T t ↔ T' t)) : OP T' h m h' := fun j hj => ⟨fun ⟨t, t1, t2, t3⟩ => (a j hj).1 ⟨t, (e t t2).mpr t1, t2, t3⟩, fun hno => (a j hj).2 (fun ⟨t, t1, t2, t3⟩ => hno ⟨t, (e t t2).mp t1, t2, t3⟩)⟩
theorem OP.uniq {T : Nat → Prop} {h h1 h2 : Nat → Int32} {m : Nat} (a : OP T h m h1) (b : OP T h m h2) : ∀ j, j < m → h1 j = h2 j := by
  intro j hj
  by_cases z : ∃ t, T t ∧ t < m ∧ sr h t j
  · rw [(a j hj).1 z, (b j hj).1 z]
  · rw [(a j hj).2 z, (b j hj).2 z]
theorem OP.or {T : Nat → Prop} {h h' : Nat → Int32} {m : Nat} (a : OP T h m h') : ∀ j, j < m → h' j = h j ∨ h' j = 0 := by
  intro j hj
  by_cases z : ∃ t, T t ∧ t < m ∧ sr h t j
  · exact Or.inr ((a j hj).1 z)
  · exact Or.inl ((a j hj).2 z)
theorem OP.at {T : Nat → Prop} {h h' : Nat → Int32} {m : Nat} (a : OP T h m h') {j : Nat} (hj : j < m) (ht : T j) : h' j = 0 := by
  by_cases z : h j = 0
  · rcases a.or j hj with e | e
    · rw [e, z]
    · exact e
  · refine (a j hj).1 ⟨j, ht, hj, fun i h1 h2 => ?_⟩
    rw [show i = j by omega]
    exact z
theorem isOp.OP {h h' : Nat → Int32} {m j c : Nat} (o : isOp h m j h' c) (hj : j < m) : OP (fun t => t = j) h m h' := by
  intro i hi
  rcases o with ⟨o1, -, o2⟩ | ⟨lo, hi', ⟨r1, r2, r3, r4, r5, r6⟩, -, o2⟩
  · refine ⟨fun ⟨t, t1, t2, t3⟩ => ?_, fun _ => o2 i hi⟩
    subst t1
    exact absurd o1 (t3 t (Or.inl (Nat.le_refl _)) (Or.inl (Nat.le_refl _)))
  · rw [o2 i hi]
    unfold clr
    refine ⟨fun ⟨t, t1, t2, t3⟩ => ?_, fun hno => ?_⟩
    · subst t1
      rw [if_pos]
      refine ⟨?_, ?_⟩
      · rcases r5 with r5 | r5
        · omega
        · rcases Nat.lt_or_ge i lo with z | z
          · exact absurd r5 (t3 (lo - 1) (by omega) (by omega))
          · exact z
      · rcases r6 with r6 | r6
        · omega
        · rcases Nat.lt_or_ge i hi' with z | z
          · exact z
          · exact absurd r6 (t3 hi' (by omega) (by omega))
    · rw [if_neg]
      rintro ⟨z1, z2⟩
      exact hno ⟨j, rfl, hj, fun q h1 h2 => r4 q (by omega) (by omega)⟩
