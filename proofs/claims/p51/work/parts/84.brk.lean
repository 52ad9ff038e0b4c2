/-! a line wrapped -/
/-- like loop2, the second loop may take one turn more at its end -/
theorem loop2b {S R S' R' : Type} {f : S → Option (S ⊕ R)} {g : S' → Option (S' ⊕ R')} {Q : R → R' → Prop} (N : Nat) (I : Nat → S → S' → Prop) (hs : ∀ k s s', k ≤ N → I k s s' → (∃ t t', f s = some (.inl t) ∧ g s' = some (.inl t') ∧ k + 1 ≤ N ∧ I (k + 1) t t') ∨ ∃ r r', f s = some (.inr r) ∧ (g s' = some (.inr r') ∨ ∃ t', g s' = some (.inl t') ∧ g t' = some (.inr r')) ∧ Q r r') : ∀ {n m : Nat} {s : S} {s' : S'} (k : Nat), I k s s' → k ≤ N → N - k < n → N - k + 1 < m → ∃ r r', loopF f n s = some r ∧ loopF g m s' = some r' ∧ Q r r' := by
  intro n
  induction n with
  | zero => intro m s s' k _ _ h; omega
  | succ n ih =>
    intro m s s' k hI hk hn hm
    cases m with
    | zero => omega
    | succ m =>
      rcases hs k s s' hk hI with ⟨t, t', h1, h2, h3, h4⟩ | ⟨r, r', h1, h2 | ⟨t', h2, h2'⟩, h3⟩
      · unfold loopF
        rw [h1, h2]
        exact ih (k + 1) h4 h3 (by omega) (by omega)
      · unfold loopF
        rw [h1, h2]
        exact ⟨r, r', rfl, rfl, h3⟩
      · cases m with
        | zero => omega
        | succ m =>
          refine ⟨r, r', ?_, ?_, h3⟩
          · unfold loopF
            rw [h1]
          · unfold loopF
            rw [h2]
            show loopF g (m + 1) t' = _
            unfold loopF
            rw [h2']
theorem loopF_inr {S R : Type} {f : S → Option (S ⊕ R)} {s : S} {r : R} {m : Nat} (h : f s = some (.inr r)) : loopF f (m + 1) s = some r := by
  unfold loopF
  rw [h]
theorem loopF_inl {S R : Type} {f : S → Option (S ⊕ R)} {s t : S} {m : Nat} (h : f s = some (.inl t)) : loopF f (m + 1) s = loopF f m t := by
  rw [loopF]
  rw [h]
/-- down to a blank, not as far as s -/
def dn (f : Nat → Int32) (s : Nat) : Nat → Nat
  | 0 => s
  | d + 1 => if f (s + d + 1) = 32 then s + d + 1 else dn f s d
theorem dn_in {f : Nat → Int32} {s : Nat} : ∀ d, s ≤ dn f s d ∧ dn f s d ≤ s + d ∧ (dn f s d ≠ s → f (dn f s d) = 32) := by
  intro d
  induction d with
  | zero => exact ⟨Nat.le_refl _, Nat.le_refl _, fun h => absurd rfl h⟩
  | succ d ih =>
    unfold dn
    by_cases h : f (s + d + 1) = 32
    · rw [if_pos h]
      exact ⟨by omega, by omega, fun _ => h⟩
    · rw [if_neg h]
      exact ⟨ih.1, by omega, ih.2.2⟩
/-- up to a blank -/
def upb (f : Nat → Int32) : Nat → Nat → Nat
  | 0, x => x
  | d + 1, x => if f x = 32 then x else upb f d (x + 1)
theorem upb_in {f : Nat → Int32} : ∀ d x, x ≤ upb f d x ∧ upb f d x ≤ x + d ∧ (upb f d x < x + d → f (upb f d x) = 32) := by
  intro d
  induction d with
  | zero =>
    intro x
    exact ⟨Nat.le_refl _, Nat.le_refl _, fun h => by unfold upb at h; omega⟩
  | succ d ih =>
    intro x
    unfold upb
    by_cases h : f x = 32
    · rw [if_pos h]
      exact ⟨Nat.le_refl _, by omega, fun _ => h⟩
    · rw [if_neg h]
      have := ih (x + 1)
      refine ⟨by omega, by omega, fun q => this.2.2 (by omega)⟩
/-- where to break -/
def brk (f : Nat → Int32) (e w s : Nat) : Option Nat := if w < e - s then (if dn f s w ≠ s then some (dn f s w) else if upb f (e - (s + w + 1)) (s + w + 1) < e then some (upb f (e - (s + w + 1)) (s + w + 1)) else none) else none
theorem brk_in {f : Nat → Int32} {e w s x : Nat} (hs : s ≤ e) (h : brk f e w s = some x) : s < x ∧ x < e ∧ f x = 32 := by
  unfold brk at h
  by_cases h1 : w < e - s
  · rw [if_pos h1] at h
    have hd := dn_in (f := f) (s := s) w
    by_cases h2 : dn f s w ≠ s
    · rw [if_pos h2] at h
      have h := Option.some.inj h
      subst h
      exact ⟨by omega, by omega, hd.2.2 h2⟩
    · rw [if_neg h2] at h
      have hu := upb_in (f := f) (e - (s + w + 1)) (s + w + 1)
      by_cases h3 : upb f (e - (s + w + 1)) (s + w + 1) < e
      · rw [if_pos h3] at h
        have h := Option.some.inj h
        subst h
        exact ⟨by omega, h3, hu.2.2 (by omega)⟩
      · rw [if_neg h3] at h
        exact absurd h (by simp)
  · rw [if_neg h1] at h
    exact absurd h (by simp)
def ofO : Option Nat → Int32
  | none => -1
  | some x => Int32.ofNat x
section R
variable {σ μ σ1 μ1 : Sto} {L B H : Nat} {f : Nat → Int32} {n c K q w : Nat} {hd : Nat → Int32} {cu : Nat → Nat} {ma lf ml : Nat → Int32} {T : Hst} {a b l : Nat → Nat} {G : Nat → Int32} {o : Int64}
theorem c11_break14 (h : CT σ 1 L B f n) {s : Nat} {x y : Int32} : ∀ d m, d < m → s + d < n → loopF (fun z => f11_breakFor_b14 (Int32.ofNat s) x y σ z) m (Int32.ofNat (s + d)) = some (if dn f s d = s then .inl () else .inr (Int32.ofNat (dn f s d))) := by
  intro d
  have hn := h.1
  have hc := h.2.2.2.2.1
  induction d with
  | zero =>
    intro m hm hd
    obtain ⟨m, rfl⟩ : ∃ m', m = m' + 1 := ⟨m - 1, by omega⟩
    have e1 : f11_breakFor_b14 (Int32.ofNat s) x y σ (Int32.ofNat (s + 0)) = some (.inr (.inl ())) := by
      unfold f11_breakFor_b14
      rw [if_pos ((i32_le (by omega) (by omega)).mpr (by omega))]
    rw [loopF_inr e1]
    show _ = some (if s = s then _ else _)
    rw [if_pos rfl]
  | succ d ih =>
    intro m hm hd
    obtain ⟨m, rfl⟩ : ∃ m', m = m' + 1 := ⟨m - 1, by omega⟩
    have e1 : f11_breakFor_b14 (Int32.ofNat s) x y σ (Int32.ofNat (s + d + 1)) = if f (s + d + 1) = 32 then some (.inr (.inr (Int32.ofNat (s + d + 1)))) else some (.inl (Int32.ofNat (s + d))) := by
      unfold f11_breakFor_b14
      rw [if_neg (fun z => by have := (i32_le (by omega) (by omega)).mp z; omega), hc.1, okr_s.mpr hc.2.1, gd_true, Nat.add_sub_cancel, hc.2.2, inb_n (by omega) (by omega), gd_true, ofNat_clamp (by omega), h.2.2.2.2.2.2.1 _ (by omega), i32_pred.2]
      rfl
    unfold dn
    rw [show s + (d + 1) = s + d + 1 by omega]
    by_cases q : f (s + d + 1) = 32
    · rw [if_pos q] at e1
      rw [if_pos q, if_neg (by omega), loopF_inr e1]
    · rw [if_neg q] at e1
      rw [if_neg q, loopF_inl e1]
      exact ih m (by omega) (by omega)
theorem c12_break74 (h : MT μ f n) {s : Nat} {x y z : Int32} : ∀ d m, d < m → s + d < n → loopF (fun t => f12_wrap_b74 x y z μ (Int32.ofNat s) t) m (Int32.ofNat (s + d)) = some (Int32.ofNat (dn f s d)) := by
  intro d
  have hn := h.1
  induction d with
  | zero =>
    intro m hm hd
    obtain ⟨m, rfl⟩ : ∃ m', m = m' + 1 := ⟨m - 1, by omega⟩
    have e1 : f12_wrap_b74 x y z μ (Int32.ofNat s) (Int32.ofNat (s + 0)) = some (.inr (Int32.ofNat (s + 0))) := by
      unfold f12_wrap_b74
      rw [if_pos ((i32_le (by omega) (by omega)).mpr (by omega))]
    rw [loopF_inr e1]
    rfl
  | succ d ih =>
    intro m hm hd
    obtain ⟨m, rfl⟩ : ∃ m', m = m' + 1 := ⟨m - 1, by omega⟩
    have e1 : f12_wrap_b74 x y z μ (Int32.ofNat s) (Int32.ofNat (s + d + 1)) = if f (s + d + 1) = 32 then some (.inr (Int32.ofNat (s + d + 1))) else some (.inl (Int32.ofNat (s + d))) := by
      unfold f12_wrap_b74
      rw [if_neg (fun z => by have := (i32_le (by omega) (by omega)).mp z; omega), inb_n (by omega) (by omega), gd_true, ofNat_clamp (by omega), h.2.2 _ (by omega), i32_pred.2]
      rfl
    unfold dn
    rw [show s + (d + 1) = s + d + 1 by omega]
    by_cases q : f (s + d + 1) = 32
    · rw [if_pos q] at e1
      rw [if_pos q, loopF_inr e1]
    · rw [if_neg q] at e1
      rw [if_neg q, loopF_inl e1]
      exact ih m (by omega) (by omega)
theorem c11_break51 (h : CT σ 1 L B f n) {e : Nat} (he : e ≤ n) {x y : Int32} : ∀ d m u, d < m → u + d = e → loopF (fun z => f11_breakFor_b51 x (Int32.ofNat e) y σ z) m (Int32.ofNat u) = some (if upb f d u < e then .inr (Int32.ofNat (upb f d u)) else .inl ()) := by
  intro d
  have hn := h.1
  have hc := h.2.2.2.2.1
  induction d with
  | zero =>
    intro m u hm hd
    obtain ⟨m, rfl⟩ : ∃ m', m = m' + 1 := ⟨m - 1, by omega⟩
    have e1 : f11_breakFor_b51 x (Int32.ofNat e) y σ (Int32.ofNat u) = some (.inr (.inl ())) := by
      unfold f11_breakFor_b51
      rw [if_pos ((i32_le (by omega) (by omega)).mpr (by omega))]
    rw [loopF_inr e1]
    show _ = some (if u < e then _ else _)
    rw [if_neg (by omega)]
  | succ d ih =>
    intro m u hm hd
    obtain ⟨m, rfl⟩ : ∃ m', m = m' + 1 := ⟨m - 1, by omega⟩
    have e1 : f11_breakFor_b51 x (Int32.ofNat e) y σ (Int32.ofNat u) = if f u = 32 then some (.inr (.inr (Int32.ofNat u))) else some (.inl (Int32.ofNat (u + 1))) := by
      unfold f11_breakFor_b51
      rw [if_neg (fun z => by have := (i32_le (by omega) (by omega)).mp z; omega), hc.1, okr_s.mpr hc.2.1, gd_true, Nat.add_sub_cancel, hc.2.2, inb_n (by omega) (by omega), gd_true, ofNat_clamp (by omega), h.2.2.2.2.2.2.1 _ (by omega), i32_succ]
      rfl
    unfold upb
    by_cases q : f u = 32
    · rw [if_pos q] at e1
      rw [if_pos q, if_pos (by omega), loopF_inr e1]
    · rw [if_neg q] at e1
      rw [if_neg q, loopF_inl e1]
      exact ih m (u + 1) (by omega) (by omega)
theorem c12_break111 (h : MT μ f n) {e : Nat} (he : e ≤ n) {x y t : Int32} : ∀ d m u, d < m → u + d = e → loopF (fun z => f12_wrap_b111 x y (Int32.ofNat e) μ t z) m (Int32.ofNat u) = some (Int32.ofNat (upb f d u)) := by
  intro d
  have hn := h.1
  induction d with
  | zero =>
    intro m u hm hd
    obtain ⟨m, rfl⟩ : ∃ m', m = m' + 1 := ⟨m - 1, by omega⟩
    have e1 : f12_wrap_b111 x y (Int32.ofNat e) μ t (Int32.ofNat u) = some (.inr (Int32.ofNat u)) := by
      unfold f12_wrap_b111
      rw [if_pos ((i32_le (by omega) (by omega)).mpr (by omega))]
    rw [loopF_inr e1]
    rfl
  | succ d ih =>
    intro m u hm hd
    obtain ⟨m, rfl⟩ : ∃ m', m = m' + 1 := ⟨m - 1, by omega⟩
    have e1 : f12_wrap_b111 x y (Int32.ofNat e) μ t (Int32.ofNat u) = if f u = 32 then some (.inr (Int32.ofNat u)) else some (.inl (Int32.ofNat (u + 1))) := by
      unfold f12_wrap_b111
      rw [if_neg (fun z => by have := (i32_le (by omega) (by omega)).mp z; omega), inb_n (by omega) (by omega), gd_true, ofNat_clamp (by omega), h.2.2 _ (by omega), i32_succ]
      rfl
    unfold upb
    by_cases q : f u = 32
    · rw [if_pos q] at e1
      rw [if_pos q, loopF_inr e1]
    · rw [if_neg q] at e1
      rw [if_neg q, loopF_inl e1]
      exact ih m (u + 1) (by omega) (by omega)
theorem c11_breakFor (h : CT σ 1 L B f n) {s e w : Nat} (hs : s ≤ e) (he : e ≤ n) (hw : w ≤ 100) : f11_breakFor σ (Int32.ofNat s) (Int32.ofNat e) (Int32.ofNat w) = some (ofO (brk f e w s)) := by
  have hn := h.1
  unfold f11_breakFor brk
  rw [i32_sub hs]
  simp only [i32n_lt (show w < 2147483648 by omega) (show e - s < 2147483648 by omega)]
  by_cases h1 : w < e - s
  · rw [if_pos h1, if_pos h1, i32_add, stp]
    unfold f11_breakFor_j14
    rw [c11_break14 h w FU (by (show _ < FU; unfold FU; omega)) (by omega), bnd_some]
    by_cases h2 : dn f s w = s
    · rw [if_pos h2, if_neg (fun z => z h2)]
      show stp (Int32.ofNat s + Int32.ofNat w + 1) _ = _
      rw [i32_add, i32_succ, stp]
      unfold f11_breakFor_j51
      rw [c11_break51 h he (e - (s + w + 1)) FU (s + w + 1) (by (show _ < FU; unfold FU; omega)) (by omega), bnd_some]
      by_cases h3 : upb f (e - (s + w + 1)) (s + w + 1) < e
      · rw [if_pos h3, if_pos h3]
        rfl
      · rw [if_neg h3, if_neg h3]
        rfl
    · rw [if_neg h2, if_pos h2]
      rfl
  · rw [if_neg h1, if_neg h1]
    rfl
theorem c12_wrapB (h : MT μ f n) {s e w : Nat} (hs : s ≤ e) (he : e ≤ n) (hw : w ≤ 100) {x : Int32} : (∀ y, brk f e w s = some y → f12_wrap_b56 x (Int32.ofNat w) μ (Int32.ofNat s) (Int32.ofNat e) 1 = bnd (f12_adds μ (Int32.ofNat y) (Int32.ofNat (y + 1)) 0 1) fun m => some (.inl (m, Int32.ofNat (y + 1), 1))) ∧ (brk f e w s = none → f12_wrap_b56 x (Int32.ofNat w) μ (Int32.ofNat s) (Int32.ofNat e) 1 = some (.inr μ) ∨ f12_wrap_b56 x (Int32.ofNat w) μ (Int32.ofNat s) (Int32.ofNat e) 1 = some (.inl (μ, Int32.ofNat s, 0))) := by
  have hn := h.1
  unfold f12_wrap_b56 brk
  rw [if_neg (show ¬ (1 : Int32) = 0 by decide), i32_sub hs]
  simp only [i32_le (show e - s < 2147483648 by omega) (show w < 2147483648 by omega)]
  by_cases h1 : w < e - s
  · rw [if_pos h1, if_neg (show ¬ e - s ≤ w by omega), i32_add, stp]
    unfold f12_wrap_j74
    rw [c12_break74 h w FU (by (show _ < FU; unfold FU; omega)) (by omega), bnd_some]
    unfold f12_wrap_j98
    have hd := dn_in (f := f) (s := s) w
    have ed : Int32.ofNat (dn f s w) = Int32.ofNat s ↔ dn f s w = s := by
      constructor
      · intro z
        have := (i32_le (by omega) (by omega)).mp (show Int32.ofNat (dn f s w) ≤ Int32.ofNat s by rw [z]; grind)
        omega
      · intro z
        rw [z]
    have tailJ : ∀ y, y < e → f12_wrap_j136 x (Int32.ofNat w) (Int32.ofNat e) μ (Int32.ofNat s) (Int32.ofNat y) = bnd (f12_adds μ (Int32.ofNat y) (Int32.ofNat (y + 1)) 0 1) fun m => some (.inl (m, Int32.ofNat (y + 1), 1)) := fun y hy => by
      unfold f12_wrap_j136 f12_wrap_j148 f12_wrap_j172
      rw [if_neg (fun z => by have := (i32_le (by omega) (by omega)).mp z; omega), stp, if_neg (show ¬ (1 : Int32) = 0 by decide), i32_succ]
      rfl
    have tailN : f12_wrap_j136 x (Int32.ofNat w) (Int32.ofNat e) μ (Int32.ofNat s) (Int32.ofNat e) = some (.inl (μ, Int32.ofNat s, 0)) := by
      unfold f12_wrap_j136 f12_wrap_j148 f12_wrap_j172
      rw [if_pos ((i32_le (by omega) (by omega)).mpr (Nat.le_refl _)), stp, if_pos rfl]
    by_cases h2 : dn f s w = s
    · rw [if_neg (show ¬ dn f s w ≠ s from fun z => z h2), if_pos (ed.mpr h2), i32_add, i32_succ, stp]
      unfold f12_wrap_j111
      rw [c12_break111 h he (e - (s + w + 1)) FU (s + w + 1) (by (show _ < FU; unfold FU; omega)) (by omega), bnd_some]
      have hu := upb_in (f := f) (e - (s + w + 1)) (s + w + 1)
      by_cases h3 : upb f (e - (s + w + 1)) (s + w + 1) < e
      · rw [if_pos h3]
        refine ⟨fun y hy => ?_, fun z => by simp at z⟩
        rw [← Option.some.inj hy]
        exact tailJ _ h3
      · rw [if_neg h3]
        refine ⟨fun y hy => by simp at hy, fun _ => Or.inr ?_⟩
        rw [show upb f (e - (s + w + 1)) (s + w + 1) = e by omega]
        exact tailN
    · rw [if_pos h2, if_neg (fun z => h2 (ed.mp z))]
      refine ⟨fun y hy => ?_, fun z => by simp at z⟩
      rw [← Option.some.inj hy]
      exact tailJ _ (by omega)
  · rw [if_neg h1, if_pos (show e - s ≤ w by omega)]
    exact ⟨fun y hy => by simp at hy, fun _ => Or.inl rfl⟩
end R
