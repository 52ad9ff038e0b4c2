/-! the law's own level: its 47 rows lie ahead of the class's cells. KU K: the class's own numbers, out of the law's -/
def KU (K : JK) : JK := (K.1, K.2.1, K.2.2 + 47)
/-- the law's rows, the class's store -/
abbrev LawS : Type := (Nat → Nat → Int32) × Sto
def uT (τ : LawS) (a k : Nat) (v : Int32) : LawS := (up2 τ.1 a k v, τ.2)
/-- the kinds (12 ints, 14 booleans, 17 the grid) and lengths of the law's rows: r; the grid and its 41 rows; letters; pattern; isLeft; isPut -/
def kl (a : Nat) : Nat := if a = 1 then 17 else if a < 45 then 12 else if a < 47 then 14 else 99
def lq (a : Nat) : Nat := if a = 0 then 1 else if a = 1 then 41 else if a < 43 then 3500 else if a = 43 then 40 else if a = 44 then 8 else if a = 45 then 16 else 3500
def lcell (K : JK) (r : Nat → Nat → Int32) (a : Nat) : va_E :=
  if kl a = 12 then .inl (K.2.1.1, lq a, .inl (r a))
  else if kl a = 14 then .inl (K.2.1.2.2.1, lq a, .inl (r a))
  else .inl (K.1.1 99, 41, .inr (.inr (.inr (.inr (fun i => some (K.2.2 + (2 + i)))))))
def upW (w0 w : JW) : JW := fun a => if a < 47 then w0 a else w (a - 47)
def jl (K : JK) (τ : LawS) : JW := upW (lcell K τ.1) (jw (KU K) τ.2)
theorem kl_spec {a c : Nat} (h : kl a = c) (hc : c < 99) : a < 47 := by
  unfold kl at h
  split at h
  · omega
  · split at h
    · omega
    · split at h
      · assumption
      · omega
theorem jl_l {K : JK} {τ : LawS} {a : Nat} (h : a < 47) : jl K τ a = lcell K τ.1 a := if_pos h
theorem lc_I {K : JK} {r : Nat → Nat → Int32} {a : Nat} (h : kl a = 12) : lcell K r a = .inl (K.2.1.1, lq a, .inl (r a)) := if_pos h
theorem lc_Z {K : JK} {r : Nat → Nat → Int32} {a : Nat} (h : kl a = 14) : lcell K r a = .inl (K.2.1.2.2.1, lq a, .inl (r a)) := by
  unfold lcell
  rw [if_neg (by omega), if_pos h]
theorem lcell_ne {K : JK} {r : Nat → Nat → Int32} {a b k : Nat} {v : Int32} (h : b ≠ a) : lcell K (up2 r a k v) b = lcell K r b := by
  have e : up2 r a k v b = r b := by
    funext j
    unfold up2
    rw [if_neg h]
  unfold lcell
  rw [e]
theorem up2_row {r : Nat → Nat → Int32} {a k : Nat} {v : Int32} : up2 r a k v a = upd (r a) k v := by
  funext j
  unfold up2 upd
  rw [if_pos rfl]
theorem jl_up {K : JK} {τ : LawS} {a k : Nat} {v : Int32} {e : va_E} (h : a < 47) (he : e = lcell K (up2 τ.1 a k v) a) : jup (jl K τ) a e = jl K (uT τ a k v) := by
  funext b
  unfold jup
  by_cases hb : b = a
  · rw [if_pos hb, hb, jl_l h, he]
    rfl
  · rw [if_neg hb]
    by_cases h2 : b < 47
    · rw [jl_l h2, jl_l h2]
      exact (lcell_ne hb).symm
    · unfold jl upW
      rw [if_neg h2, if_neg h2]
      rfl
theorem EV.ku {K : JK} {U : State} (h : EV K U) : EV (KU K) U := by
  obtain ⟨h1, h2, h3, h4, h5, h6, h7, h8⟩ := h
  exact ⟨h1, h2, h3, h4, h5.narrow (fun q hq => Nat.le_trans (Nat.le_add_right _ 47) hq), h6.narrow (fun q hq => Nat.le_trans (Nat.le_add_right _ 47) hq), h7, h8⟩
theorem jA_ku {K : JK} {q : Nat} (h : jA (KU K) q) : jA K q := Nat.le_trans (Nat.le_add_right _ 47) h
theorem upW_lo {K : JK} {n : Nat} {w0 w : JW} {i : Nat} (h : i < 47) : (jwl K.2.2 (47 + n) (upW w0 w))[i]? = some (K.2.2 + i, w0 i) := by
  rw [jwl_at (by omega)]
  unfold upW
  rw [if_pos h]
theorem upW_hi {K : JK} {n : Nat} {w0 w : JW} {i : Nat} (h : i < n) : (jwl K.2.2 (47 + n) (upW w0 w))[47 + i]? = some (K.2.2 + 47 + i, w i) := by
  rw [jwl_at (by omega)]
  unfold upW
  rw [if_neg (by omega), show 47 + i - 47 = i by omega, Nat.add_assoc]
theorem upW_dn {K : JK} {n : Nat} {w0 w : JW} {H : Heap} (h : va_P K.1 vwCl (jwl K.2.2 (47 + n) (upW w0 w)) H) : va_P (KU K).1 vwCl (jwl (KU K).2.2 n w) H := by
  intro i q hq
  by_cases hi : i < n
  · rw [jwl_at hi] at hq
    cases hq
    exact h _ _ (upW_hi hi)
  · rw [List.getElem?_eq_none_iff.mpr (by rw [jwl_len]; omega)] at hq
    cases hq
theorem upW_back {K : JK} {n n1 : Nat} {w0 w w1 : JW} {H H1 : Heap} (h : va_P K.1 vwCl (jwl K.2.2 (47 + n) (upW w0 w)) H) (hk : ∀ q : Nat, q < H.size → ¬ jA (KU K) q → H1[q]? = H[q]?) (h1 : va_P (KU K).1 vwCl (jwl (KU K).2.2 n1 w1) H1) : va_P K.1 vwCl (jwl K.2.2 (47 + n1) (upW w0 w1)) H1 := by
  intro i q hq
  by_cases hi : i < 47
  · rw [upW_lo hi] at hq
    cases hq
    have h2 := h i _ (upW_lo (n := n) (w := w) hi)
    exact h2.kept (hk _ h2.lt (by show ¬ (K.2.2 + 47 ≤ K.2.2 + i); omega))
  · obtain ⟨j, rfl⟩ : ∃ j, i = 47 + j := ⟨i - 47, by omega⟩
    by_cases hj : j < n1
    · rw [upW_hi hj] at hq
      cases hq
      exact h1 j _ (by rw [jwl_at hj]; rfl)
    · rw [List.getElem?_eq_none_iff.mpr (by rw [jwl_len]; omega)] at hq
      cases hq
/-- a contract of the class, as the law's level sees it -/
theorem Con.up {l : Launch} {K : JK} {y : MethodName} {ws : List Cond} {d mc ms : Nat} {g : Prop} {av : List Value} {n : Nat} {w : JW} {Qr : Option Value → Nat → JW → Prop} {Qx : String → Nat → JW → Prop} (w0 : JW) (con : Con l (KU K) y ws d mc ms g av n w Qr Qx) :
    Con l K y ws d mc ms g av (47 + n) (upW w0 w) (fun v n' w' => ∃ n1 w1, Qr v n1 w1 ∧ n' = 47 + n1 ∧ w' = upW w0 w1) (fun E n' w' => ∃ n1 w1, Qx E n1 w1 ∧ n' = 47 + n1 ∧ w' = upW w0 w1) := by
  refine Jvm.Free.MetFree.mono con (fun a s h => ?_) (fun _ _ _ _ _ h => h) (fun a s o t hp h => ?_)
  · obtain ⟨h1, h2, h3, h4⟩ := h
    exact ⟨h1, h2.ku, upW_dn h3, fun z => by rw [h4 z]; show K.2.2 + (47 + n) = K.2.2 + 47 + n; omega⟩
  · obtain ⟨-, -, hP, -⟩ := hp
    rcases h with ⟨⟨⟨v, n1, w1, h1, h2, h3, h4⟩, h5⟩, L, h6, h7⟩ | ⟨q, h1, E, ce, L, ⟨⟨n1, w1, hx, hx2⟩, hx3⟩, h3, h4, h5, h6, h7, h8⟩
    · refine Or.inl ⟨⟨⟨v, 47 + n1, upW w0 w1, h1, ⟨n1, w1, h2, rfl, rfl⟩, upW_back hP h5.2 h3, fun z => by rw [h4 z]; show K.2.2 + 47 + n1 = K.2.2 + (47 + n1); omega⟩, h5.1, fun q hq hA => h5.2 q hq (fun z => hA (jA_ku z))⟩, L, h6, fun q hq => jA_ku (h7 q hq)⟩
    · exact Or.inr ⟨q, h1, E, ce, L, ⟨⟨47 + n1, upW w0 w1, ⟨n1, w1, hx, rfl, rfl⟩, upW_back hP hx3.2 hx2⟩, hx3.1, fun q hq hA => hx3.2 q hq (fun z => hA (jA_ku z))⟩, h3, h4, h5, h6, h7, fun q hq => jA_ku (h8 q hq)⟩
