/-! steps recorded and played: the same comes of it -/
/-- the first so many steps, played -/
def PLY : Nat → Sto → Sto → Prop
  | 0, τ, τ' => τ' = τ
  | s + 1, τ, τ' => ∃ τ1, PLY s τ τ1 ∧ f11_playStep τ1 (Int32.ofNat s) = some (1, τ') ∧ Sm osh τ1 τ'
/-- the same tab, clip and first steps -/
def Aux (s : Nat) (σ τ : Sto) : Prop := fI τ 0 = fI σ 0 ∧ fI τ 10 = fI σ 10 ∧ fI τ 11 = fI σ 11 ∧ aI τ 12 = aI σ 12 ∧ ∀ k, k < s → aI τ 1993 k = aI σ 1993 k ∧ aI τ 1994 k = aI σ 1994 k ∧ aI τ 1995 k = aI σ 1995 k ∧ ∀ i, i < 200 → aI τ 1996 (200 * k + i) = aI σ 1996 (200 * k + i)
theorem Aux.trans {s : Nat} {σ1 σ2 σ3 : Sto} (h : Aux s σ1 σ2) (h2 : Aux s σ2 σ3) : Aux s σ1 σ3 := by
  obtain ⟨a1, a2, a3, a4, a5⟩ := h
  obtain ⟨b1, b2, b3, b4, b5⟩ := h2
  refine ⟨b1.trans a1, b2.trans a2, b3.trans a3, b4.trans a4, fun k hk => ?_⟩
  obtain ⟨x1, x2, x3, x4⟩ := a5 k hk
  obtain ⟨y1, y2, y3, y4⟩ := b5 k hk
  exact ⟨y1.trans x1, y2.trans x2, y3.trans x3, fun i hi => (y4 i hi).trans (x4 i hi)⟩
theorem Aux.of {s : Nat} {σ τ : Sto} {P : Nat → Prop} (h : Sm P σ τ) (h0 : P 0) (h1 : P 10) (h2 : P 11) (h3 : P 12) (h4 : P 1993) (h5 : P 1994) (h6 : P 1995) (h7 : P 1996) : Aux s σ τ := ⟨(h 0 h0).1, (h 10 h1).1, (h 11 h2).1, (h 12 h3).2.2.1, fun k _ => ⟨by rw [(h 1993 h4).2.2.1], by rw [(h 1994 h5).2.2.1], by rw [(h 1995 h6).2.2.1], fun i _ => by rw [(h 1996 h7).2.2.1]⟩⟩
theorem Aux.ofo {s : Nat} {σ τ : Sto} (h : Sm osh σ τ) : Aux s σ τ := Aux.of h (by unfold osh; omega) (by unfold osh; omega) (by unfold osh; omega) (by unfold osh; omega) (by unfold osh; omega) (by unfold osh; omega) (by unfold osh; omega) (by unfold osh; omega)
theorem Aux.less {s s' : Nat} {σ τ : Sto} (h : Aux s σ τ) (hs : s' ≤ s) : Aux s' σ τ := ⟨h.1, h.2.1, h.2.2.1, h.2.2.2.1, fun k hk => h.2.2.2.2 k (by omega)⟩
theorem Aux.symm {s : Nat} {σ τ : Sto} (h : Aux s σ τ) : Aux s τ σ := by
  obtain ⟨a1, a2, a3, a4, a5⟩ := h
  refine ⟨a1.symm, a2.symm, a3.symm, a4.symm, fun k hk => ?_⟩
  obtain ⟨x1, x2, x3, x4⟩ := a5 k hk
  exact ⟨x1.symm, x2.symm, x3.symm, fun i hi => (x4 i hi).symm⟩
/-- the first step is letters -/
def Fst (σ : Sto) : Prop := aI σ 1993 0 = 0 ∧ ∃ m : Nat, 1 ≤ m ∧ m ≤ 200 ∧ aI σ 1995 0 = Int32.ofNat m ∧ ∀ i, i < m → isLt (aI σ 1996 i) = true
theorem Fst.aux {s : Nat} {σ τ : Sto} (h : Fst σ) (a : Aux s σ τ) (hs : 1 ≤ s) : Fst τ := by
  obtain ⟨h1, m, h2, h3, h4, h5⟩ := h
  obtain ⟨x1, x2, x3, x4⟩ := a.2.2.2.2 0 (by omega)
  refine ⟨x1.trans h1, m, h2, h3, x3.trans h4, fun i hi => ?_⟩
  have := x4 i (by omega)
  rw [show 200 * 0 + i = i by omega] at this
  rw [this]
  exact h5 i hi
/-- what the recorded steps give again, from the same document, in any room -/
def Rpl (D0 : Doc) (σ : Sto) (D : Doc) (s : Nat) : Prop := (1 ≤ s ∧ Fst σ) ∧ ∀ τ T, In τ D0 T → fI τ 24 3 = 1 → fI τ 24 4 = 0 → T.1 < 150 → Aux s σ τ → ∃ τ', PLY s τ τ' ∧ In τ' D (newT D0 T) ∧ fI τ' 24 3 = 1 ∧ fI τ' 24 4 ≠ 0 ∧ Sm osh τ τ'
theorem Rpl.aux {D0 D : Doc} {σ σ' : Sto} {s : Nat} (h : Rpl D0 σ D s) (a : Aux s σ σ') : Rpl D0 σ' D s := ⟨⟨h.1.1, h.1.2.aux a h.1.1⟩, fun τ T h1 h2 h3 h4 h5 => h.2 τ T h1 h2 h3 h4 (a.trans h5)⟩
section RC
variable {σ τ : Sto} {D D0 D1 : Doc} {T T1 : Hst} {s m : Nat} {x y : Int32}
theorem PLY.fn : ∀ {s : Nat} {τ a b : Sto}, PLY s τ a → PLY s τ b → a = b := by
  intro s
  induction s with
  | zero => intro τ a b h1 h2; rw [h1, h2]
  | succ s ih =>
    intro τ a b h1 h2
    obtain ⟨u, u1, u2, -⟩ := h1
    obtain ⟨v, v1, v2, -⟩ := h2
    have e := ih u1 v1
    subst e
    rw [u2] at v2
    cases v2
    rfl
theorem PLY.upto : ∀ {s : Nat} {τ a : Sto}, PLY s τ a → ∀ k, k ≤ s → ∃ u, PLY k τ u := by
  intro s
  induction s with
  | zero => intro τ a h k hk; exact ⟨a, by rw [show k = 0 by omega]; exact h⟩
  | succ s ih =>
    intro τ a h k hk
    by_cases e : k = s + 1
    · rw [e]; exact ⟨a, h⟩
    · obtain ⟨u, u1, -⟩ := h
      exact ih u1 k (by omega)
theorem PLY.sm : ∀ {s : Nat} {τ a : Sto}, PLY s τ a → Sm osh τ a := by
  intro s
  induction s with
  | zero => intro τ a h; rw [h]; exact Sm.rf
  | succ s ih =>
    intro τ a h
    obtain ⟨u, u1, -, u3⟩ := h
    exact (ih u1).trans u3
theorem AK.in_group {σ' : Sto} {T' : Hst} (h : AK σ σ' D T T') (h4 : fI σ 24 4 ≠ 0) : T' = T ∧ fI σ' 24 3 = fI σ 24 3 ∧ fI σ' 24 4 ≠ 0 := by
  obtain ⟨h1, ⟨k, -⟩ | ⟨k1, k2, k3⟩⟩ := h
  · exact absurd k h4
  · exact ⟨k2, h1, by rw [k3]; exact k1⟩
theorem AK.first {σ' : Sto} {T' : Hst} (h : AK σ σ' D T T') (h4 : fI σ 24 4 = 0) (h3 : fI σ 24 3 = 1) : T' = newT D T ∧ fI σ' 24 3 = 1 ∧ fI σ' 24 4 ≠ 0 := by
  obtain ⟨h1, ⟨-, -, k, k4⟩ | ⟨k, -⟩⟩ := h
  · exact ⟨k, h1.trans h3, by rw [k4, h3]; decide⟩
  · exact absurd h4 k
/-- one more step that was an act -/
theorem Rpl.act {c1 : Option (Int32 × Sto)} {σ1 σ' : Sto} (h : Rpl D0 σ D s) (hc : c1 = some (1, σ1)) (hi : In σ1 D1 T1) (ha : Aux s σ σ') (hstep : ∀ τ T, In τ D T → Aux (s + 1) σ' τ → ∃ c2, (∀ τ', c2 = some (1, τ') → f11_playStep τ (Int32.ofNat s) = some (1, τ')) ∧ Rep c1 c2 τ D T False) : Rpl D0 σ' D1 (s + 1) := by
  refine ⟨⟨by omega, h.1.2.aux ha h.1.1⟩, ?_⟩
  intro τ T h1 h2 h3 h4 h5
  obtain ⟨τ', p1, p2, p3, p4, p5⟩ := h.2 τ T h1 h2 h3 h4 (ha.trans (h5.less (by omega)))
  obtain ⟨c2, e1, e2⟩ := hstep τ' (newT D0 T) p2 (h5.trans (Aux.ofo p5))
  obtain ⟨τ'', T'', k1, k2, k3, k4⟩ := e2 σ1 D1 T1 hc hi (fun z => p4 z.1)
  refine ⟨τ'', ⟨τ', p1, e1 τ'' k1, k3⟩, ?_⟩
  rcases k4 with ⟨y1, y2, y3, -⟩ | y
  · rw [y1] at k2
    exact ⟨k2, y2.trans p3, by rw [y3]; exact p4, p5.trans k3⟩
  · obtain ⟨z1, z2, z3⟩ := y.in_group p4
    rw [z1] at k2
    exact ⟨k2, z2.trans p3, z3, p5.trans k3⟩
/-- one more step that moved the cursors -/
theorem Rpl.move {σ1 σ' : Sto} (h : Rpl D0 σ D s) (hs : s < 40) (hi0 : In σ D T) (hc : f11_moveAll σ y x = some σ1) (hi : In σ1 D1 T1) (ha : Aux s σ σ') (hy : 0 ≤ y ∧ y ≤ 4) (hx : -50 ≤ x ∧ x ≤ 50) (r1 : aI σ' 1993 s = 2) (r2 : aI σ' 1994 s = y) (r3 : aI σ' 1995 s = x) : Rpl D0 σ' D1 (s + 1) := by
  refine ⟨⟨by omega, h.1.2.aux ha h.1.1⟩, ?_⟩
  intro τ T h1 h2 h3 h4 h5
  obtain ⟨τ', p1, p2, p3, p4, p5⟩ := h.2 τ T h1 h2 h3 h4 (ha.trans (h5.less (by omega)))
  have a2 : Aux (s + 1) σ' τ' := h5.trans (Aux.ofo p5)
  obtain ⟨f, n, hd, c, cu, ma, lf, ml⟩ := D
  obtain ⟨τ'', k1, k2, k3⟩ := rep_moved hi0 p2 (by rw [a2.1, ha.1]) hy hx hc hi
  obtain ⟨x1, x2, x3, -⟩ := a2.2.2.2.2 s (by omega)
  have k24 := (k3 24 (by unfold nsh; omega)).1
  have k3' : Sm osh τ' τ'' := k3.weak (fun a ha => by unfold osh at ha; unfold nsh; omega)
  refine ⟨τ'', ⟨τ', p1, ?_, k3'⟩, k2, by rw [k24]; exact p3, by rw [k24]; exact p4, p5.trans k3'⟩
  have ik : inb (Int32.ofNat s) 40 = true := inb_n hs (by omega)
  unfold f11_playStep
  simp only [ik, gd_true, ofNat_clamp (show s < 2147483648 by omega), stp]
  rw [x1, x2, x3, r1, r2, r3, if_neg (by decide), if_neg (by decide), if_pos (by decide), k1, bnd_some]
end RC
/-! recording, the class's side -/
section RD
variable {σ : Sto} {f : Nat → Int32} {n c K : Nat} {hd : Nat → Int32} {cu : Nat → Nat} {ma lf ml : Nat → Int32} {T : Hst} {s m : Nat} {k a b x : Int32}
theorem add_on (h5 : fI σ 1992 5 = 1) (h4 : fI σ 1992 4 = Int32.ofNat s) (hs : s < 40) : ∃ σ', f9_add σ k a b = some σ' ∧ Sm (fun a => a < 1992 ∨ 1995 < a) σ σ' ∧ fI σ' 1992 4 = Int32.ofNat (s + 1) ∧ fI σ' 1992 5 = 1 ∧ aI σ' 1993 = up1 (aI σ 1993) s k ∧ aI σ' 1994 = up1 (aI σ 1994) s a ∧ aI σ' 1995 = up1 (aI σ 1995) s b := by
  have e4 : ∀ r : Nat → Int32, aI (rA σ 1993 r) 1994 = aI σ 1994 := fun _ => rfl
  have e5 : ∀ r r' : Nat → Int32, aI (rA (rA σ 1993 r) 1994 r') 1995 = aI σ 1995 := fun _ _ => rfl
  refine ⟨uI (rA (rA (rA σ 1993 (up1 (aI σ 1993) s k)) 1994 (up1 (aI σ 1994) s a)) 1995 (up1 (aI σ 1995) s b)) 1992 4 (Int32.ofNat (s + 1)), ?_, ?_, ?_, ?_, rfl, rfl, rfl⟩
  · unfold f9_add
    rw [if_neg (by rw [h5]; decide), h4, if_pos (show Int32.ofNat s < 40 from (i32n_lt (b := 40) (by omega) (by omega)).mpr hs)]
    simp only [inb_n (show s < 40 by omega) (by omega), gd_true, stp, ofNat_clamp (show s < 2147483648 by omega), uA_up1, fI_rA, h4, e4, e5, i32_succ]
  · exact Sm.trans (Sm.rA (by omega)) (Sm.trans (Sm.rA (by omega)) (Sm.trans (Sm.rA (by omega)) (Sm.uI (by omega))))
  · rw [fI_uI, if_pos rfl, if_pos rfl]
  · rw [fI_uI, if_pos rfl, if_neg (by decide)]
    exact h5
theorem up1_at {r : Nat → Int32} {i : Nat} {v : Int32} : up1 r i v i = v := if_pos rfl
theorem up1_ne {r : Nat → Int32} {i j : Nat} {v : Int32} (h : j ≠ i) : up1 r i v j = r j := if_neg h
/-- the first steps stay -/
theorem add_aux {σ' : Sto} (h : Sm (fun a => a < 1992 ∨ 1995 < a) σ σ') (h3 : aI σ' 1993 = up1 (aI σ 1993) s k) (h4 : aI σ' 1994 = up1 (aI σ 1994) s a) (h5 : aI σ' 1995 = up1 (aI σ 1995) s b) : Aux s σ σ' := ⟨(h 0 (by omega)).1, (h 10 (by omega)).1, (h 11 (by omega)).1, (h 12 (by omega)).2.2.1, fun i hi => ⟨by rw [h3, up1_ne (by omega)], by rw [h4, up1_ne (by omega)], by rw [h5, up1_ne (by omega)], fun j _ => by rw [(h 1996 (by omega)).2.2.1]⟩⟩
theorem typed_on (h5 : fI σ 1992 5 = 1) (h4 : fI σ 1992 4 = 0) (h8 : fI σ 8 1 = Int32.ofNat m) (hm : m ≤ 200) (hl : ∀ i, i < m → isLt (aI σ 9 i) = true) : ∃ σ', f9_addTyped σ 8 = some σ' ∧ Sm (fun a => a < 1992 ∨ 1996 < a) σ σ' ∧ fI σ' 1992 4 = 1 ∧ fI σ' 1992 5 = 1 ∧ aI σ' 1993 0 = 0 ∧ aI σ' 1995 0 = Int32.ofNat m ∧ ∀ i, i < m → aI σ' 1996 i = aI σ 9 i := by
  have c1 : cpok (Int32.ofNat 0) (Int32.ofNat 0) (Int32.ofNat m) 200 8000 = true := cpok_t (by omega) (by omega) (by omega) (by omega) (by omega)
  have c1 : cpok (0 : Int32) (0 : Int32) (Int32.ofNat m) 200 8000 = true := c1
  have l9 : ln (8 + 1) = 200 := rfl
  have k0 : (0 : Int32).toNatClampNeg = 0 := by decide
  have f1 : fitB (aI σ (8 + 1)) 0 m = true := fitB_t (fun i hi => by
    rw [Nat.zero_add]
    have := isLt_in (hl i hi)
    grind)
  generalize hcp : va_cpy (aI σ (8 + 1)) (aI σ 1996) 0 0 m = cp
  have hcp2 : ∀ i, i < m → cp i = aI σ 9 i := fun i hi => by
    rw [← hcp, cpy_at hi, Nat.zero_add]
  obtain ⟨σ', a1, a2, a3, a4, a5, a6, a7⟩ := add_on (σ := rA σ 1996 cp) (s := 0) (k := 0) (a := 0) (b := Int32.ofNat m) h5 h4 (by omega)
  refine ⟨σ', ?_, Sm.trans (Sm.rA (by omega)) (a2.weak (fun b hb => by omega)), a3, a4, by rw [a5, up1_at], by rw [a7, up1_at], fun i hi => ?_⟩
  · unfold f9_addTyped f9_addTyped_j40
    rw [if_neg (by rw [h5]; decide), h4, if_neg (by decide), h8, l9]
    have e0 : (0 : Int32) * (200 : Int32) = 0 := by decide
    rw [e0, c1, gd_true, k0, ofNat_clamp (by omega), f1, gd_true, hcp, stp]
    have e8 : fI (rA σ 1996 cp) 8 1 = Int32.ofNat m := h8
    rw [e8, a1, bnd_some]
  · rw [(a2 1996 (by omega)).2.2.1, aI_rA, if_pos rfl]
    exact hcp2 i hi
end RD
