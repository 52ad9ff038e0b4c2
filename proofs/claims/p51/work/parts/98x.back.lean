/-! undoing and doing again, along the tree -/
def WF : Hst → Prop
  | (N, x, par, cho, _, _) => N ≤ 150 ∧ x ≤ N ∧ par 0 = 0 ∧ (∀ i, 1 ≤ i → i ≤ N → par i < i) ∧ (∀ i, i ≤ N → cho i ≤ N) ∧ ∀ i, 1 ≤ i → Anc par x i → cho (par i) = i
theorem In.wf {σ : Sto} {D : Doc} {T : Hst} (h : In σ D T) : WF T := by
  obtain ⟨N, x, par, cho, Bf, Af⟩ := T
  obtain ⟨μ, ⟨g1, g2, g3, g4, g5, g6, g7, g8⟩, h5, h6, h7, h8, h9, h10⟩ := h.rh
  exact ⟨g1, g2, g8, fun i i1 i2 => (h5 i i1 i2).1, fun i hi => (h6 i hi).1, h10⟩
def DJ (Bf : Nat → Doc) (par : Nat → Nat) (x : Nat) (D : Doc) : Nat → Doc
  | 0 => D
  | j + 1 => Bf (upw par j x)
def AJ (Af Bf : Nat → Doc) (par : Nat → Nat) (x : Nat) (D : Doc) : Nat → Nat → Doc
  | 0 => Af
  | j + 1 => upD (AJ Af Bf par x D j) (upw par j x) (DJ Bf par x D j)
section W
variable {N x n : Nat} {par cho : Nat → Nat} {Bf Af : Nat → Doc} {D : Doc} {T : Hst} {σ : Sto}
theorem udk_eq : ∀ j, udk j ((N, x, par, cho, Bf, Af), D) = ((N, upw par j x, par, cho, Bf, AJ Af Bf par x D j), DJ Bf par x D j) := by
  intro j
  induction j with
  | zero => rfl
  | succ j ih =>
    rw [udk, ih]
    show ((N, par (upw par j x), par, cho, Bf, upD (AJ Af Bf par x D j) (upw par j x) (DJ Bf par x D j)), Bf (upw par j x)) = _
    rw [← upw_s (par := par)]
    rfl
theorem WF.upN (w : WF (N, x, par, cho, Bf, Af)) (j : Nat) : upw par j x ≤ N := Nat.le_trans (upw_le w.2.2.2.1 w.2.2.1 j x w.2.1) w.2.1
theorem WF.lt1 (w : WF (N, x, par, cho, Bf, Af)) {j : Nat} (h : upw par j x ≠ 0) : upw par (j + 1) x < upw par j x := by
  rw [upw_s]
  exact w.2.2.2.1 _ (by omega) (w.upN j)
theorem WF.lts (w : WF (N, x, par, cho, Bf, Af)) {j : Nat} : ∀ d, (∀ i, i < j + d → upw par i x ≠ 0) → upw par (j + d + 1) x < upw par j x ∨ upw par (j + d) x = 0 := by
  intro d
  induction d with
  | zero =>
    intro _
    by_cases z : upw par j x = 0
    · exact Or.inr z
    · exact Or.inl (w.lt1 z)
  | succ d ih =>
    intro h
    by_cases z : upw par (j + (d + 1)) x = 0
    · exact Or.inr z
    · rcases ih (fun i hi => h i (by omega)) with h1 | h1
      · have := w.lt1 z
        exact Or.inl (by rw [show j + d + 1 = j + (d + 1) by omega] at h1; omega)
      · exact absurd h1 (h (j + d) (by omega))
theorem WF.ne (w : WF (N, x, par, cho, Bf, Af)) {n i : Nat} (h : ∀ i, i < n → upw par i x ≠ 0) (hi : i < n) : upw par i x ≠ upw par n x := by
  rcases w.lts (j := i) (n - 1 - i) (fun k hk => h k (by omega)) with z | z
  · rw [show i + (n - 1 - i) + 1 = n by omega] at z
    omega
  · exact absurd z (h _ (by omega))
theorem AJ_at (w : WF (N, x, par, cho, Bf, Af)) : ∀ n, (∀ i, i < n → upw par i x ≠ 0) → ∀ i, i < n → AJ Af Bf par x D n (upw par i x) = DJ Bf par x D i := by
  intro n
  induction n with
  | zero => intro _ i hi; omega
  | succ n ih =>
    intro h i hi
    show (if upw par i x = upw par n x then DJ Bf par x D n else AJ Af Bf par x D n (upw par i x)) = _
    by_cases z : i = n
    · rw [z, if_pos rfl]
    · rw [if_neg (w.ne (fun i hi => h i (by omega)) (by omega))]
      exact ih (fun i hi => h i (by omega)) i (by omega)
theorem WF.chz (w : WF (N, x, par, cho, Bf, Af)) {j : Nat} (h : upw par j x ≠ 0) : cho (upw par (j + 1) x) = upw par j x := by
  rw [upw_s]
  exact w.2.2.2.2.2 _ (by omega) ⟨j, rfl⟩
theorem rdk_eq (w : WF (N, x, par, cho, Bf, Af)) (h : ∀ i, i < n → upw par i x ≠ 0) : ∀ i, i ≤ n → rdk i ((N, upw par n x, par, cho, Bf, AJ Af Bf par x D n), DJ Bf par x D n) = ((N, upw par (n - i) x, par, cho, Bf, AJ Af Bf par x D n), DJ Bf par x D (n - i)) := by
  intro i
  induction i with
  | zero => intro _; rfl
  | succ i ih =>
    intro hi
    have hc : cho (upw par (n - i) x) = upw par (n - (i + 1)) x := by
      rw [show n - i = n - (i + 1) + 1 by omega]
      exact w.chz (h _ (by omega))
    rw [rdk, ih (by omega)]
    show ((N, cho (upw par (n - i) x), par, cho, Bf, AJ Af Bf par x D n), AJ Af Bf par x D n (cho (upw par (n - i) x))) = _
    rw [hc, AJ_at w n h _ (by omega)]
theorem q_undo (h : In σ D (N, x, par, cho, Bf, Af)) {l : Nat} (h1 : 1 ≤ l) (h2 : l ≤ 150) (hn : ∀ i, i < l → upw par i x ≠ 0) : ∃ σ', f11_undo σ (Int32.ofNat l) = some (.inl (Int32.ofNat l, σ')) ∧ In σ' (DJ Bf par x D l) (N, upw par l x, par, cho, Bf, AJ Af Bf par x D l) ∧ (fI σ' 24 3 = 0 ∧ fI σ' 24 4 = 0) ∧ Sm osh σ σ' := by
  obtain ⟨μ, L, B, H, h0⟩ := h
  obtain ⟨k, σ', μ', k1, k2, k3, k4, k5, k6, k7⟩ := sp_undo h0 h1 h2
  have hk : k = l := by
    rcases k3 with z | z
    · exact z
    · rw [udk_eq] at z
      rcases Nat.lt_or_ge k l with y | y
      · exact absurd z (hn k y)
      · omega
  subst hk
  rw [udk_eq] at k5
  exact ⟨σ', k1, ⟨μ', L, B, H, k5⟩, k6, k7⟩
/-- nothing can be undone -/
theorem q_undo0 (h : In σ D (N, 0, par, cho, Bf, Af)) : ∃ σ', f11_undo σ 1 = some (.inl (0, σ')) ∧ In σ' D (N, 0, par, cho, Bf, Af) ∧ (fI σ' 24 3 = 0 ∧ fI σ' 24 4 = 0) ∧ Sm osh σ σ' := by
  obtain ⟨μ, L, B, H, h0⟩ := h
  obtain ⟨k, σ', μ', k1, k2, k3, k4, k5, k6, k7⟩ := sp_undo h0 (l := 1) (by omega) (by omega)
  have hk : k = 0 := by
    rcases Nat.eq_zero_or_pos k with z | z
    · exact z
    · exact absurd rfl (k4 0 z)
  subst hk
  exact ⟨σ', k1, ⟨μ', L, B, H, k5⟩, k6, k7⟩
theorem q_redo (w : WF (N, x, par, cho, Bf, Af)) (hn : ∀ i, i < n → upw par i x ≠ 0) {l m : Nat} (h1 : 1 ≤ l) (h2 : l ≤ 150) (hm : m + l ≤ n) {σ1 : Sto} (hin : In σ1 (DJ Bf par x D (n - m)) (N, upw par (n - m) x, par, cho, Bf, AJ Af Bf par x D n)) : ∃ σ', f11_redo σ1 (Int32.ofNat l) = some (.inl (Int32.ofNat l, σ')) ∧ In σ' (DJ Bf par x D (n - (m + l))) (N, upw par (n - (m + l)) x, par, cho, Bf, AJ Af Bf par x D n) ∧ (fI σ' 24 3 = 0 ∧ fI σ' 24 4 = 0) ∧ Sm osh σ1 σ' := by
  obtain ⟨μ, L, B, H, h0⟩ := hin
  obtain ⟨k, σ', μ', k1, k2, k3, k4, k5, k6, k7⟩ := sp_redo h0 h1 h2
  have key : ∀ i, i ≤ l → rdk i ((N, upw par (n - m) x, par, cho, Bf, AJ Af Bf par x D n), DJ Bf par x D (n - m)) = ((N, upw par (n - (m + i)) x, par, cho, Bf, AJ Af Bf par x D n), DJ Bf par x D (n - (m + i))) := fun i hi => by
    induction i with
    | zero => rfl
    | succ i ih =>
      rw [rdk, ih (by omega)]
      have hc : cho (upw par (n - (m + i)) x) = upw par (n - (m + (i + 1))) x := by
        rw [show n - (m + i) = n - (m + (i + 1)) + 1 by omega]
        exact w.chz (hn _ (by omega))
      show ((N, cho (upw par (n - (m + i)) x), par, cho, Bf, AJ Af Bf par x D n), AJ Af Bf par x D n (cho (upw par (n - (m + i)) x))) = _
      rw [hc, AJ_at w n hn _ (by omega)]
  have hk : k = l := by
    rcases k3 with z | z
    · exact z
    · rcases Nat.lt_or_ge k l with y | y
      · rw [key k (by omega)] at z
        have hc : cho (upw par (n - (m + k)) x) = upw par (n - (m + (k + 1))) x := by
          rw [show n - (m + k) = n - (m + (k + 1)) + 1 by omega]
          exact w.chz (hn _ (by omega))
        have z : cho (upw par (n - (m + k)) x) = 0 := z
        rw [hc] at z
        exact absurd z (hn _ (by omega))
      · omega
  subst hk
  rw [key k (Nat.le_refl _)] at k5
  exact ⟨σ', k1, ⟨μ', L, B, H, k5⟩, k6, k7⟩
theorem upw_new (w : WF (N, x, par, cho, Bf, Af)) : ∀ i y, y ≤ N → upw (upn par (N + 1) x) i y = upw par i y := by
  intro i
  induction i with
  | zero => intro y _; rfl
  | succ i ih =>
    intro y hy
    show upw (upn par (N + 1) x) i (upn par (N + 1) x y) = upw par i (par y)
    rw [upn_ne (by omega)]
    refine ih _ ?_
    by_cases z : y = 0
    · rw [z, w.2.2.1]; omega
    · have := w.2.2.2.1 y (by omega) hy
      omega
theorem upw_newS (w : WF (N, x, par, cho, Bf, Af)) (i : Nat) : upw (upn par (N + 1) x) (i + 1) (N + 1) = upw par i x := by
  show upw (upn par (N + 1) x) i (upn par (N + 1) x (N + 1)) = _
  rw [upn_at, upw_new w i x w.2.1]
theorem Dp.new (w : WF T) {d : Nat} (h : Dp T d) : Dp (newT D T) (d + 1) := by
  obtain ⟨N, x, par, cho, Bf, Af⟩ := T
  obtain ⟨h1, h2⟩ := h
  refine ⟨?_, fun j hj => ?_⟩
  · show upw (upn par (N + 1) x) (d + 1) (N + 1) = 0
    rw [upw_newS w]
    exact h1
  · show upw (upn par (N + 1) x) j (N + 1) ≠ 0
    cases j with
    | zero => show N + 1 ≠ 0; omega
    | succ j =>
      rw [upw_newS w]
      exact h2 j (by omega)
/-- the document ahead of the i-th act back -/
def bk (T : Hst) (i : Nat) : Doc := T.2.2.2.2.1 (upw T.2.2.1 i T.2.1)
theorem bk_new0 : bk (newT D T) 0 = D := by
  obtain ⟨N, x, par, cho, Bf, Af⟩ := T
  show upD Bf (N + 1) D (N + 1) = D
  unfold upD
  rw [if_pos rfl]
theorem bk_newS (w : WF T) (i : Nat) : bk (newT D T) (i + 1) = bk T i := by
  obtain ⟨N, x, par, cho, Bf, Af⟩ := T
  show upD Bf (N + 1) D (upw (upn par (N + 1) x) (i + 1) (N + 1)) = Bf (upw par i x)
  rw [upw_newS w]
  unfold upD
  have := w.upN i
  rw [if_neg (by omega)]
/-- at most one act is kept -/
def Chg (D : Doc) (T : Hst) (D' : Doc) (T' : Hst) : Prop := (D' = D ∧ T' = T) ∨ (T' = newT D T ∧ lns D' = lns D)
theorem GA.chg {σ' : Sto} {D' : Doc} {T' : Hst} (h : GA σ σ' D D' T T') (h4 : fI σ 24 4 = 0) : Chg D T D' T' := by
  obtain ⟨-, ⟨h1, h2, -⟩ | ⟨⟨-, ⟨-, -, k, -⟩ | ⟨k, -⟩⟩, k2⟩⟩ := h
  · exact Or.inl ⟨h1, h2⟩
  · exact Or.inr ⟨k, k2⟩
  · exact absurd h4 k
theorem GA.g3 {σ' : Sto} {D' : Doc} {T' : Hst} (h : GA σ σ' D D' T T') : fI σ' 24 3 = fI σ 24 3 := by
  obtain ⟨-, ⟨-, -, k, -⟩ | ⟨⟨k, -⟩, -⟩⟩ := h
  · exact k
  · exact k
/-- acts within a group -/
def Grp (σ : Sto) (D0 : Doc) (T0 : Hst) (D : Doc) (T : Hst) : Prop := fI σ 24 3 = 1 ∧ ((fI σ 24 4 = 0 ∧ D = D0 ∧ T = T0) ∨ (fI σ 24 4 ≠ 0 ∧ T = newT D0 T0 ∧ lns D = lns D0))
theorem Grp.act {σ' : Sto} {D0 D' : Doc} {T0 T' : Hst} (g : Grp σ D0 T0 D T) (h : GA σ σ' D D' T T') : Grp σ' D0 T0 D' T' := by
  have h3 := h.g3
  refine ⟨h3.trans g.1, ?_⟩
  obtain ⟨-, ⟨h1, h2, -, h4⟩ | ⟨⟨-, k⟩, k2⟩⟩ := h
  · rcases g.2 with ⟨a1, a2, a3⟩ | ⟨a1, a2, a3⟩
    · exact Or.inl ⟨h4.trans a1, h1.trans a2, h2.trans a3⟩
    · exact Or.inr ⟨by rw [h4]; exact a1, h2.trans a2, by rw [h1]; exact a3⟩
  · rcases g.2 with ⟨a1, a2, a3⟩ | ⟨a1, a2, a3⟩
    · rcases k with ⟨b1, b2, b3, b4⟩ | ⟨b1, -⟩
      · refine Or.inr ⟨?_, by rw [b3, a2, a3], by rw [k2, a2]⟩
        rw [b4, g.1]
        decide
      · exact absurd a1 b1
    · rcases k with ⟨b1, -⟩ | ⟨b1, b2, b3⟩
      · exact absurd b1 a1
      · exact Or.inr ⟨by rw [b3]; exact a1, b2.trans a2, k2.trans a3⟩
theorem Grp.chg {D0 : Doc} {T0 : Hst} (g : Grp σ D0 T0 D T) : Chg D0 T0 D T := by
  rcases g.2 with ⟨a1, a2, a3⟩ | ⟨a1, a2, a3⟩
  · exact Or.inl ⟨a2, a3⟩
  · exact Or.inr ⟨a2, a3⟩
end W
