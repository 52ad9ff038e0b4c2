/-! what the law's done gives -/
theorem hdl_inl {α : Type} {r : Nat → Nat → Int32} {p : α × Sto} {f : α × Sto → Option (Int32 × LawS)} : hdl r (some (.inl p)) f = f p := rfl
theorem hdl_inr {α : Type} {r : Nat → Nat → Int32} {c : Nat} {σ : Sto} {v : Int32} {f : α × Sto → Option (Int32 × LawS)} (h : ecode c = some v) : hdl r (some (.inr (c, σ)) : Option ((α × Sto) ⊕ (Nat × Sto))) f = some (v, (r, σ)) := by
  show (ecode c).bind (fun v => some (v, (r, σ))) = _
  rw [h]
  rfl
section DN
variable {τ : LawS} {a b c : Int32}
theorem dn_0 : fL_done τ 0 a b c = hdl τ.1 (f11_type τ.2) fun p => some (p.1, (τ.1, p.2)) := by
  unfold fL_done
  rw [if_pos (by decide)]
theorem dn_1 : fL_done τ 1 a b c = hdl τ.1 (f11_erase τ.2 a) fun p => some (p.1, (τ.1, p.2)) := by
  unfold fL_done
  rw [if_neg (by decide), if_pos (by decide)]
theorem dn_2 : fL_done τ 2 a b c = hdl τ.1 (f11_replace τ.2 a b) fun p => some (p.1, (τ.1, p.2)) := by
  unfold fL_done
  rw [if_neg (by decide), if_neg (by decide), if_pos (by decide)]
theorem dn_3 : fL_done τ 3 a b c = hdl τ.1 (f11_cut τ.2 a b) fun p => some (p.1, (τ.1, p.2)) := by
  unfold fL_done
  rw [if_neg (by decide), if_neg (by decide), if_neg (by decide), if_pos (by decide)]
theorem dn_4 : fL_done τ 4 a b c = hdl τ.1 (f11_paste τ.2) fun p => some (p.1, (τ.1, p.2)) := by
  unfold fL_done
  rw [if_neg (by decide), if_neg (by decide), if_neg (by decide), if_neg (by decide), if_pos (by decide)]
theorem dn_5 : fL_done τ 5 a b c = hdl τ.1 (f11_indent τ.2 a b c) fun p => some (p.1, (τ.1, p.2)) := by
  unfold fL_done
  rw [if_neg (by decide), if_neg (by decide), if_neg (by decide), if_neg (by decide), if_neg (by decide), if_pos (by decide)]
theorem dn_6 : fL_done τ 6 a b c = hdl τ.1 (f11_wrap τ.2 a b) fun p => some (p.1, (τ.1, p.2)) := by
  unfold fL_done
  rw [if_neg (by decide), if_neg (by decide), if_neg (by decide), if_neg (by decide), if_neg (by decide), if_neg (by decide), if_pos (by decide)]
theorem dn_7 : fL_done τ 7 a b c = hdl τ.1 (f11_joinLines τ.2 a b) fun p => some (p.1, (τ.1, p.2)) := by
  unfold fL_done
  rw [if_neg (by decide), if_neg (by decide), if_neg (by decide), if_neg (by decide), if_neg (by decide), if_neg (by decide), if_neg (by decide), if_pos (by decide)]
theorem dn_8 : fL_done τ 8 a b c = hdl τ.1 (f11_replaceNext τ.2) fun p => some (p.1, (τ.1, p.2)) := by
  unfold fL_done
  rw [if_neg (by decide), if_neg (by decide), if_neg (by decide), if_neg (by decide), if_neg (by decide), if_neg (by decide), if_neg (by decide), if_neg (by decide), if_pos (by decide)]
theorem dn_9 : fL_done τ 9 a b c = hdl τ.1 (f11_replaceAll τ.2) fun p => some (p.1, (τ.1, p.2)) := by
  unfold fL_done
  rw [if_neg (by decide), if_neg (by decide), if_neg (by decide), if_neg (by decide), if_neg (by decide), if_neg (by decide), if_neg (by decide), if_neg (by decide), if_neg (by decide), if_pos (by decide)]
theorem dn_10 : fL_done τ 10 a b c = hdl τ.1 (f11_undo τ.2 a) fun p => some (p.1, (τ.1, p.2)) := by
  unfold fL_done
  rw [if_neg (by decide), if_neg (by decide), if_neg (by decide), if_neg (by decide), if_neg (by decide), if_neg (by decide), if_neg (by decide), if_neg (by decide), if_neg (by decide), if_neg (by decide), if_pos (by decide)]
theorem dn_11 : fL_done τ 11 a b c = hdl τ.1 (f11_redo τ.2 a) fun p => some (p.1, (τ.1, p.2)) := by
  unfold fL_done
  rw [if_neg (by decide), if_neg (by decide), if_neg (by decide), if_neg (by decide), if_neg (by decide), if_neg (by decide), if_neg (by decide), if_neg (by decide), if_neg (by decide), if_neg (by decide), if_neg (by decide), if_pos (by decide)]
theorem dn_12 : fL_done τ 12 a b c = hdl τ.1 (f11_branch τ.2 a) fun p => some (p.1, (τ.1, p.2)) := by
  unfold fL_done
  rw [if_neg (by decide), if_neg (by decide), if_neg (by decide), if_neg (by decide), if_neg (by decide), if_neg (by decide), if_neg (by decide), if_neg (by decide), if_neg (by decide), if_neg (by decide), if_neg (by decide), if_neg (by decide), if_pos (by decide)]
theorem dn_14 : fL_done τ 14 a b c = hdl τ.1 (f11_setCursor τ.2 a) fun p => some (p.1, (τ.1, p.2)) := by
  unfold fL_done
  rw [if_neg (by decide), if_neg (by decide), if_neg (by decide), if_neg (by decide), if_neg (by decide), if_neg (by decide), if_neg (by decide), if_neg (by decide), if_neg (by decide), if_neg (by decide), if_neg (by decide), if_neg (by decide), if_neg (by decide), if_neg (by decide), if_pos (by decide)]
theorem dn_15 : fL_done τ 15 a b c = hdl τ.1 (f11_addCursor τ.2 a) fun p => some (p.1, (τ.1, p.2)) := by
  unfold fL_done
  rw [if_neg (by decide), if_neg (by decide), if_neg (by decide), if_neg (by decide), if_neg (by decide), if_neg (by decide), if_neg (by decide), if_neg (by decide), if_neg (by decide), if_neg (by decide), if_neg (by decide), if_neg (by decide), if_neg (by decide), if_neg (by decide), if_neg (by decide), if_pos (by decide)]
theorem dn_16 : fL_done τ 16 a b c = hdl τ.1 (f11_moveCursors τ.2 a b) fun p => some (p.1, (τ.1, p.2)) := by
  unfold fL_done
  rw [if_neg (by decide), if_neg (by decide), if_neg (by decide), if_neg (by decide), if_neg (by decide), if_neg (by decide), if_neg (by decide), if_neg (by decide), if_neg (by decide), if_neg (by decide), if_neg (by decide), if_neg (by decide), if_neg (by decide), if_neg (by decide), if_neg (by decide), if_neg (by decide), if_pos (by decide)]
theorem dn_19 : fL_done τ 19 a b c = hdl τ.1 (f11_fold τ.2 a b) fun p => some (p.1, (τ.1, p.2)) := by
  unfold fL_done
  rw [if_neg (by decide), if_neg (by decide), if_neg (by decide), if_neg (by decide), if_neg (by decide), if_neg (by decide), if_neg (by decide), if_neg (by decide), if_neg (by decide), if_neg (by decide), if_neg (by decide), if_neg (by decide), if_neg (by decide), if_neg (by decide), if_neg (by decide), if_neg (by decide), if_neg (by decide), if_neg (by decide), if_neg (by decide), if_pos (by decide)]
theorem dn_20 : fL_done τ 20 a b c = hdl τ.1 (f11_unfold τ.2 a) fun p => some (p.1, (τ.1, p.2)) := by
  unfold fL_done
  rw [if_neg (by decide), if_neg (by decide), if_neg (by decide), if_neg (by decide), if_neg (by decide), if_neg (by decide), if_neg (by decide), if_neg (by decide), if_neg (by decide), if_neg (by decide), if_neg (by decide), if_neg (by decide), if_neg (by decide), if_neg (by decide), if_neg (by decide), if_neg (by decide), if_neg (by decide), if_neg (by decide), if_neg (by decide), if_neg (by decide), if_pos (by decide)]
theorem dn_24 : fL_done τ 24 a b c = hdl τ.1 (f11_play τ.2 a) fun p => some (p.1, (τ.1, p.2)) := by
  unfold fL_done
  rw [if_neg (by decide), if_neg (by decide), if_neg (by decide), if_neg (by decide), if_neg (by decide), if_neg (by decide), if_neg (by decide), if_neg (by decide), if_neg (by decide), if_neg (by decide), if_neg (by decide), if_neg (by decide), if_neg (by decide), if_neg (by decide), if_neg (by decide), if_neg (by decide), if_neg (by decide), if_neg (by decide), if_neg (by decide), if_neg (by decide), if_neg (by decide), if_neg (by decide), if_neg (by decide), if_neg (by decide), if_pos (by decide)]
theorem dn_25 : fL_done τ 25 a b c = hdl τ.1 (f11_copyBlock τ.2 a b c ((1 : Int32) + (c - c / (5 : Int32) * (5 : Int32)))) fun p => some (p.1, (τ.1, p.2)) := by
  unfold fL_done
  rw [if_neg (by decide), if_neg (by decide), if_neg (by decide), if_neg (by decide), if_neg (by decide), if_neg (by decide), if_neg (by decide), if_neg (by decide), if_neg (by decide), if_neg (by decide), if_neg (by decide), if_neg (by decide), if_neg (by decide), if_neg (by decide), if_neg (by decide), if_neg (by decide), if_neg (by decide), if_neg (by decide), if_neg (by decide), if_neg (by decide), if_neg (by decide), if_neg (by decide), if_neg (by decide), if_neg (by decide), if_neg (by decide), if_pos (by decide)]
theorem dn_26 : fL_done τ 26 a b c = hdl τ.1 (f11_letterAt τ.2 a) fun p => some (p.1, (τ.1, p.2)) := by
  unfold fL_done
  rw [if_neg (by decide), if_neg (by decide), if_neg (by decide), if_neg (by decide), if_neg (by decide), if_neg (by decide), if_neg (by decide), if_neg (by decide), if_neg (by decide), if_neg (by decide), if_neg (by decide), if_neg (by decide), if_neg (by decide), if_neg (by decide), if_neg (by decide), if_neg (by decide), if_neg (by decide), if_neg (by decide), if_neg (by decide), if_neg (by decide), if_neg (by decide), if_neg (by decide), if_neg (by decide), if_neg (by decide), if_neg (by decide), if_neg (by decide), if_pos (by decide)]
theorem dn_27 : fL_done τ 27 a b c = hdl τ.1 (f11_lineOf τ.2 a) fun p => some (p.1, (τ.1, p.2)) := by
  unfold fL_done
  rw [if_neg (by decide), if_neg (by decide), if_neg (by decide), if_neg (by decide), if_neg (by decide), if_neg (by decide), if_neg (by decide), if_neg (by decide), if_neg (by decide), if_neg (by decide), if_neg (by decide), if_neg (by decide), if_neg (by decide), if_neg (by decide), if_neg (by decide), if_neg (by decide), if_neg (by decide), if_neg (by decide), if_neg (by decide), if_neg (by decide), if_neg (by decide), if_neg (by decide), if_neg (by decide), if_neg (by decide), if_neg (by decide), if_neg (by decide), if_neg (by decide)]
theorem dn_13t : fL_done τ 13 1 b c = bnd (f11_group τ.2 1) fun p => bnd (fL_one p.1) fun q => some (q, (τ.1, p.2)) := by
  unfold fL_done fL_done_j216
  rw [if_neg (by decide), if_neg (by decide), if_neg (by decide), if_neg (by decide), if_neg (by decide), if_neg (by decide), if_neg (by decide), if_neg (by decide), if_neg (by decide), if_neg (by decide), if_neg (by decide), if_neg (by decide), if_neg (by decide), if_pos (by decide), if_pos (by decide)]
theorem dn_13f : fL_done τ 13 0 b c = bnd (f11_group τ.2 0) fun p => bnd (fL_one p.1) fun q => some (q, (τ.1, p.2)) := by
  unfold fL_done fL_done_j216
  rw [if_neg (by decide), if_neg (by decide), if_neg (by decide), if_neg (by decide), if_neg (by decide), if_neg (by decide), if_neg (by decide), if_neg (by decide), if_neg (by decide), if_neg (by decide), if_neg (by decide), if_neg (by decide), if_neg (by decide), if_pos (by decide), if_neg (by decide)]
theorem dn_17t : fL_done τ 17 a b 1 = hdl τ.1 (f11_setMark τ.2 a b 1) fun p => some (p.1, (τ.1, p.2)) := by
  unfold fL_done fL_done_j256
  rw [if_neg (by decide), if_neg (by decide), if_neg (by decide), if_neg (by decide), if_neg (by decide), if_neg (by decide), if_neg (by decide), if_neg (by decide), if_neg (by decide), if_neg (by decide), if_neg (by decide), if_neg (by decide), if_neg (by decide), if_neg (by decide), if_neg (by decide), if_neg (by decide), if_neg (by decide), if_pos (by decide), if_pos (by decide)]
theorem dn_17f : fL_done τ 17 a b 0 = hdl τ.1 (f11_setMark τ.2 a b 0) fun p => some (p.1, (τ.1, p.2)) := by
  unfold fL_done fL_done_j256
  rw [if_neg (by decide), if_neg (by decide), if_neg (by decide), if_neg (by decide), if_neg (by decide), if_neg (by decide), if_neg (by decide), if_neg (by decide), if_neg (by decide), if_neg (by decide), if_neg (by decide), if_neg (by decide), if_neg (by decide), if_neg (by decide), if_neg (by decide), if_neg (by decide), if_neg (by decide), if_pos (by decide), if_neg (by decide)]
theorem dn_22t : fL_done τ 22 1 b c = hdl τ.1 (f11_setPattern τ.2 1) fun p => some (p.1, (τ.1, p.2)) := by
  unfold fL_done fL_done_j297
  rw [if_neg (by decide), if_neg (by decide), if_neg (by decide), if_neg (by decide), if_neg (by decide), if_neg (by decide), if_neg (by decide), if_neg (by decide), if_neg (by decide), if_neg (by decide), if_neg (by decide), if_neg (by decide), if_neg (by decide), if_neg (by decide), if_neg (by decide), if_neg (by decide), if_neg (by decide), if_neg (by decide), if_neg (by decide), if_neg (by decide), if_neg (by decide), if_neg (by decide), if_pos (by decide), if_pos (by decide)]
theorem dn_22f : fL_done τ 22 0 b c = hdl τ.1 (f11_setPattern τ.2 0) fun p => some (p.1, (τ.1, p.2)) := by
  unfold fL_done fL_done_j297
  rw [if_neg (by decide), if_neg (by decide), if_neg (by decide), if_neg (by decide), if_neg (by decide), if_neg (by decide), if_neg (by decide), if_neg (by decide), if_neg (by decide), if_neg (by decide), if_neg (by decide), if_neg (by decide), if_neg (by decide), if_neg (by decide), if_neg (by decide), if_neg (by decide), if_neg (by decide), if_neg (by decide), if_neg (by decide), if_neg (by decide), if_neg (by decide), if_neg (by decide), if_pos (by decide), if_neg (by decide)]
theorem dn_23t : fL_done τ 23 a 1 c = hdl τ.1 (f11_find τ.2 a 1) fun p => some (p.1, (τ.1, p.2)) := by
  unfold fL_done fL_done_j313
  rw [if_neg (by decide), if_neg (by decide), if_neg (by decide), if_neg (by decide), if_neg (by decide), if_neg (by decide), if_neg (by decide), if_neg (by decide), if_neg (by decide), if_neg (by decide), if_neg (by decide), if_neg (by decide), if_neg (by decide), if_neg (by decide), if_neg (by decide), if_neg (by decide), if_neg (by decide), if_neg (by decide), if_neg (by decide), if_neg (by decide), if_neg (by decide), if_neg (by decide), if_neg (by decide), if_pos (by decide), if_pos (by decide)]
theorem dn_23f : fL_done τ 23 a 0 c = hdl τ.1 (f11_find τ.2 a 0) fun p => some (p.1, (τ.1, p.2)) := by
  unfold fL_done fL_done_j313
  rw [if_neg (by decide), if_neg (by decide), if_neg (by decide), if_neg (by decide), if_neg (by decide), if_neg (by decide), if_neg (by decide), if_neg (by decide), if_neg (by decide), if_neg (by decide), if_neg (by decide), if_neg (by decide), if_neg (by decide), if_neg (by decide), if_neg (by decide), if_neg (by decide), if_neg (by decide), if_neg (by decide), if_neg (by decide), if_neg (by decide), if_neg (by decide), if_neg (by decide), if_neg (by decide), if_pos (by decide), if_neg (by decide)]
end DN
/-- before it, nothing that counts -/
theorem GA.pre {σ σ1 σ' : Sto} {D D' : Doc} {T T' : Hst} (e24 : fI σ1 24 = fI σ 24) (e5 : fI σ1 1992 = fI σ 1992) (h : GA σ1 σ' D D' T T') : GA σ σ' D D' T T' := by
  obtain ⟨h1, h2⟩ := h
  refine ⟨by rw [h1, e5], ?_⟩
  unfold NK AK at h2 ⊢
  rw [← e24]
  exact h2
theorem AR.done {fc : Option ((Int32 × Sto) ⊕ (Nat × Sto))} {tab : List (Nat × Int32)} {σ : Sto} {D : Doc} {T : Hst} (h : AR fc tab σ D T) (ht : ∀ p, p ∈ tab → p.1 = 1 ∨ p.1 = 2 ∨ p.1 = 3) (r : Nat → Nat → Int32) : ∃ v σ' D' T', hdl r fc (fun p => some (p.1, (r, p.2))) = some (v, (r, σ')) ∧ -1000003 ≤ v ∧ In σ' D' T' ∧ GA σ σ' D D' T T' := by
  obtain ⟨σ', μ', D', L', B', H', T', h1, h2, ⟨v, h3, h4⟩ | ⟨c, t, h3, h4⟩⟩ := h
  · exact ⟨v, σ', D', T', by rw [h3, hdl_inl], by grind, ⟨μ', L', B', H', h1⟩, h2⟩
  · rcases ht _ h3 with e | e | e
    · have e : c = 1 := e
      exact ⟨-1000001, σ', D', T', by rw [h4, e, hdl_inr rfl], by decide, ⟨μ', L', B', H', h1⟩, h2⟩
    · have e : c = 2 := e
      exact ⟨-1000002, σ', D', T', by rw [h4, e, hdl_inr rfl], by decide, ⟨μ', L', B', H', h1⟩, h2⟩
    · have e : c = 3 := e
      exact ⟨-1000003, σ', D', T', by rw [h4, e, hdl_inr rfl], by decide, ⟨μ', L', B', H', h1⟩, h2⟩
/-- an act of the law: what it gives -/
def Act (τ : LawS) (D : Doc) (T : Hst) (x : Option (Int32 × LawS)) : Prop := ∃ v τ' D' T', x = some (v, τ') ∧ -1000003 ≤ v ∧ In τ'.2 D' T' ∧ GA τ.2 τ'.2 D D' T T' ∧ FR (fun b => b ≠ 0 ∧ b ≠ 43) τ τ'
theorem Act.of {τ τ1 : LawS} {D : Doc} {T : Hst} {x : Option (Int32 × LawS)} (h : Act τ1 D T x) (e24 : fI τ1.2 24 = fI τ.2 24) (e5 : fI τ1.2 1992 = fI τ.2 1992) (hf : FR (fun b => b ≠ 0 ∧ b ≠ 43) τ τ1) : Act τ D T x := by
  obtain ⟨v, τ', D', T', h1, h2, h3, h4, h5⟩ := h
  exact ⟨v, τ', D', T', h1, h2, h3, h4.pre e24 e5, hf.trans h5⟩
theorem Act.ar {τ : LawS} {D : Doc} {T : Hst} {fc : Option ((Int32 × Sto) ⊕ (Nat × Sto))} {tab : List (Nat × Int32)} (h : AR fc tab τ.2 D T) (ht : ∀ p, p ∈ tab → p.1 = 1 ∨ p.1 = 2 ∨ p.1 = 3) : Act τ D T (hdl τ.1 fc fun p => some (p.1, (τ.1, p.2))) := by
  obtain ⟨v, σ', D', T', k1, k2, k3, k4⟩ := h.done ht τ.1
  exact ⟨v, (τ.1, σ'), D', T', k1, k2, k3, k4, FR.rf⟩
theorem Act.bnd {τ : LawS} {D : Doc} {T : Hst} {x : Option (Int32 × LawS)} (h : Act τ D T x) : Act τ D T (bnd x fun p => some (p.1, p.2)) := by
  obtain ⟨v, τ', D', T', h1, h2⟩ := h
  refine ⟨v, τ', D', T', ?_, h2⟩
  rw [h1, bnd_some]
section AC
variable {τ : LawS} {D : Doc} {T : Hst} {a b c x y : Int32}
theorem act_0 (h : In τ.2 D T) (hr : fI τ.2 1992 5 = 0) : Act τ D T (fL_done τ 0 a b c) := by
  obtain ⟨μ, L, B, H, h0⟩ := h
  obtain ⟨f, n, hd, m, cu, ma, lf, ml⟩ := D
  rw [dn_0]
  exact Act.ar (stA_get (ga_type h0 hr)) (by decide)
theorem act_1 (h : In τ.2 D T) (hr : fI τ.2 1992 5 = 0) : Act τ D T (fL_done τ 1 a b c) := by
  obtain ⟨μ, L, B, H, h0⟩ := h
  obtain ⟨f, n, hd, m, cu, ma, lf, ml⟩ := D
  rw [dn_1]
  exact Act.ar (stA_get (ga_erase h0 hr)) (by decide)
theorem act_2 (h : In τ.2 D T) (hr : fI τ.2 1992 5 = 0) : Act τ D T (fL_done τ 2 a b c) := by
  obtain ⟨μ, L, B, H, h0⟩ := h
  obtain ⟨f, n, hd, m, cu, ma, lf, ml⟩ := D
  rw [dn_2]
  exact Act.ar (stA_get (ga_replace h0 hr)) (by decide)
theorem act_3 (h : In τ.2 D T) (hr : fI τ.2 1992 5 = 0) : Act τ D T (fL_done τ 3 a b c) := by
  obtain ⟨μ, L, B, H, h0⟩ := h
  obtain ⟨f, n, hd, m, cu, ma, lf, ml⟩ := D
  rw [dn_3]
  exact Act.ar (stA_get (ga_cut h0 hr)) (by decide)
theorem act_4 (h : In τ.2 D T) (hr : fI τ.2 1992 5 = 0) : Act τ D T (fL_done τ 4 a b c) := by
  obtain ⟨μ, L, B, H, h0⟩ := h
  obtain ⟨f, n, hd, m, cu, ma, lf, ml⟩ := D
  rw [dn_4]
  exact Act.ar (stA_get (ga_paste h0 hr)) (by decide)
theorem act_5 (h : In τ.2 D T) (hr : fI τ.2 1992 5 = 0) : Act τ D T (fL_done τ 5 a b c) := by
  obtain ⟨μ, L, B, H, h0⟩ := h
  obtain ⟨f, n, hd, m, cu, ma, lf, ml⟩ := D
  rw [dn_5]
  exact Act.ar (stA_get (ga_indent h0 hr)) (by decide)
theorem act_6 (h : In τ.2 D T) (hr : fI τ.2 1992 5 = 0) : Act τ D T (fL_done τ 6 a b c) := by
  obtain ⟨μ, L, B, H, h0⟩ := h
  obtain ⟨f, n, hd, m, cu, ma, lf, ml⟩ := D
  rw [dn_6]
  exact Act.ar (stA_get (ga_wrap h0 hr)) (by decide)
theorem act_7 (h : In τ.2 D T) (hr : fI τ.2 1992 5 = 0) : Act τ D T (fL_done τ 7 a b c) := by
  obtain ⟨μ, L, B, H, h0⟩ := h
  obtain ⟨f, n, hd, m, cu, ma, lf, ml⟩ := D
  rw [dn_7]
  exact Act.ar (stA_get (ga_joinLines h0 hr)) (by decide)
theorem act_8 (h : In τ.2 D T) (hr : fI τ.2 1992 5 = 0) : Act τ D T (fL_done τ 8 a b c) := by
  obtain ⟨μ, L, B, H, h0⟩ := h
  obtain ⟨f, n, hd, m, cu, ma, lf, ml⟩ := D
  rw [dn_8]
  exact Act.ar (stA_get (ga_replaceNext h0 hr)) (by decide)
theorem act_9 (h : In τ.2 D T) (hr : fI τ.2 1992 5 = 0) : Act τ D T (fL_done τ 9 a b c) := by
  obtain ⟨μ, L, B, H, h0⟩ := h
  obtain ⟨f, n, hd, m, cu, ma, lf, ml⟩ := D
  rw [dn_9]
  exact Act.ar (stA_get (ga_replaceAll h0 hr)) (by decide)
/-- a quiet call ahead of it -/
theorem Sm.q {σ σ' : Sto} {P : Nat → Prop} (h : Sm P σ σ') (h1 : P 24) (h2 : P 1992) : fI σ' 24 = fI σ 24 ∧ fI σ' 1992 = fI σ 1992 := ⟨(h 24 h1).1, (h 1992 h2).1⟩
end AC
