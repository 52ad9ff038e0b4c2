/-! the law's steps as they are recorded -/
theorem bnd_split {α β : Type} {a : Option α} {g : α → Option β} {r : β} (h : bnd a g = some r) : ∃ p, a = some p ∧ g p = some r := by
  cases a with
  | none => cases h
  | some p => exact ⟨p, rfl, h⟩
/-- what is known while it is recorded; ok: the first step was done -/
def RI (ok : Prop) (D0 : Doc) (T0 : Hst) (σ : Sto) (s : Nat) : Prop := ∃ D T, In σ D T ∧ fI σ 24 3 = 1 ∧ fI σ 1992 5 = 1 ∧ fI σ 1992 4 = Int32.ofNat s ∧ lns D = lns D0 ∧ (ok → T = newT D0 T0 ∧ fI σ 24 4 ≠ 0 ∧ Rpl D0 σ D s)
/-- a step's answer -/
def RStep (ok : Prop) (D0 : Doc) (T0 : Hst) (τ : LawS) (s : Nat) (x : Option (Int32 × LawS)) : Prop := ∃ v σ' s', x = some (v, (τ.1, σ')) ∧ RI ok D0 T0 σ' s' ∧ ((v < 0 ∧ s' = s) ∨ (0 ≤ v ∧ s' = s + 1))
section RE
variable {σ : Sto} {τ : LawS} {f : Nat → Int32} {n c : Nat} {hd : Nat → Int32} {cu : Nat → Nat} {ma lf ml : Nat → Int32} {D D0 : Doc} {T T0 : Hst} {s : Nat} {a b x y : Int32} {ok : Prop}
theorem one_erased (h : In σ (f, n, hd, c, cu, ma, lf, ml) T) (hx0 : -100 ≤ x) (hx1 : x ≤ 100) : ∃ r σ2 σ' D' T', f11_planErasing σ x = some σ2 ∧ f11_perform σ2 = some (r, σ') ∧ (r = 0 ∨ r = 1) ∧ In σ' D' T' ∧ Sm osh σ σ' ∧ (r = 0 → NK σ σ' (f, n, hd, c, cu, ma, lf, ml) D' T T') ∧ (r = 1 → GA σ σ' (f, n, hd, c, cu, ma, lf, ml) D' T T' ∧ D'.2.1 ≤ n) := by
  obtain ⟨μ, L, B, H, h0⟩ := h
  obtain ⟨u1, k1, k1'⟩ := c1_begin (σ := σ) (a1 := 9) (s := 0) (m := 0) (x := 0) (y := 0) rfl rfl (by omega) (by omega) (by omega) (fun i hi => by omega)
  have j1 : JP σ μ (uI (rA (uI (uI σ 13 4 0) 13 6 0) 19 u1) 18 1 (Int32.ofNat 0)) (uI (uI (rA (uI μ 2017 27 0) 2033 (fun _ => 0)) 2017 28 (Int32.ofNat 0)) 2017 42 0) n 0 0 (fun _ => 0) (fun _ => 0) (fun _ => 0) (fun _ => 0) 0 := (JP.zero (w := 0) (m := 0) (G := fun _ => 0) (by omega) (by omega) (fun i hi => by omega)).u42
  obtain ⟨K, q, a, b, l, σp, μp, p1, p2, p3, p4, p5⟩ := plan_erasing h0.1 h0.2.1 h0.2.2.1 j1 rfl (x := x) hx0 hx1
  obtain ⟨r, σ3, μ3, D', L', B', H', T', v1, v2, v3, v4, v5, v6, v7, v8, v9⟩ := act_of (P := RT) h0 p3 (era_s p4) (era_l p3.2.2.1.2.2.1 p4)
  refine ⟨r, σp, σ3, D', T', ?_, v1, v3, ⟨μ3, L', B', H', v4⟩, v9.2.2.1, fun z => (v9.2.2.2.1 z).1, fun z => ⟨v9.2.2.ga (Or.inr z), ?_⟩⟩
  · unfold f11_planErasing
    rw [k1, bnd_some, stp, stp, p1]
  · rw [v5 z]
    have hsum := p3.2.2.1.2.2.1.sum (l := l)
    have hl0 : sg l K = 0 := by
      rw [sg_ext (h' := fun _ => 0) p4]
      have : ∀ K, sg (fun _ => 0) K = 0 := fun K => by
        induction K with
        | zero => rfl
        | succ K ih => show sg _ K + 0 = 0; rw [ih]
      exact this K
    omega
theorem one_pasted (h : In σ (f, n, hd, c, cu, ma, lf, ml) T) : ∃ r σ2 σ' D' T', f11_planPasting σ = some σ2 ∧ f11_perform σ2 = some (r, σ') ∧ (r = 0 ∨ r = 1) ∧ In σ' D' T' ∧ Sm osh σ σ' ∧ (r = 0 → NK σ σ' (f, n, hd, c, cu, ma, lf, ml) D' T T') ∧ (r = 1 → GA σ σ' (f, n, hd, c, cu, ma, lf, ml) D' T T') := by
  obtain ⟨μ, L, B, H, h0⟩ := h
  obtain ⟨r, σ1, σ3, μ3, D', L', B', H', T', v0, v1, v2, v3, v4, v5, v6, v7⟩ := pastesT (P := RT) h0
  exact ⟨r, σ1, σ3, D', T', v0, v1, v3, ⟨μ3, L', B', H', v4⟩, v5, v6, fun z => ⟨by rw [(v5 1992 (by unfold osh; omega)).1], v7 z⟩⟩
/-- what an act within the group leaves -/
theorem GA.ln {σ' : Sto} {D' : Doc} {T' : Hst} (h : GA σ σ' D D' T T') : lns D' = lns D := by
  obtain ⟨-, ⟨h1, -⟩ | ⟨-, k2⟩⟩ := h
  · rw [h1]
  · exact k2
theorem GA.in_group {σ' : Sto} {D' : Doc} {T' : Hst} (h : GA σ σ' D D' T T') (h4 : fI σ 24 4 ≠ 0) : T' = T ∧ fI σ' 24 4 ≠ 0 ∧ lns D' = lns D := by
  obtain ⟨-, ⟨h1, h2, -, h5⟩ | ⟨k, k2⟩⟩ := h
  · exact ⟨h2, by rw [h5]; exact h4, by rw [h1]⟩
  · obtain ⟨z1, -, z3⟩ := k.in_group h4
    exact ⟨z1, z3, k2⟩
/-- a recorded act: what is known behind it -/
theorem RI.acted {σ3 σ4 : Sto} {D1 : Doc} {T1 : Hst} {c1 : Option (Int32 × Sto)} {k u v : Int32} (hin : In σ D T) (h3 : fI σ 24 3 = 1) (hln : lns D = lns D0) (hok : ok → T = newT D0 T0 ∧ fI σ 24 4 ≠ 0 ∧ Rpl D0 σ D s) (hc : c1 = some (1, σ3)) (i1 : In σ3 D1 T1) (i4 : In σ4 D1 T1) (sm : Sm osh σ σ3) (ga : GA σ σ3 D D1 T T1) (a2 : Sm (fun a => a < 1992 ∨ 1995 < a) σ3 σ4) (a3 : fI σ4 1992 4 = Int32.ofNat (s + 1)) (a4 : fI σ4 1992 5 = 1) (a5 : aI σ4 1993 = up1 (aI σ3 1993) s k) (a6 : aI σ4 1994 = up1 (aI σ3 1994) s u) (a7 : aI σ4 1995 = up1 (aI σ3 1995) s v) (hstep : ∀ τ T, In τ D T → Aux (s + 1) σ4 τ → ∃ c2, (∀ τ', c2 = some (1, τ') → f11_playStep τ (Int32.ofNat s) = some (1, τ')) ∧ Rep c1 c2 τ D T False) : RI ok D0 T0 σ4 (s + 1) := by
  have e24 := (a2 24 (by omega)).1
  refine ⟨D1, T1, i4, by rw [e24, ga.g3]; exact h3, a4, a3, ga.ln.trans hln, fun z => ?_⟩
  obtain ⟨o1, o2, o4⟩ := hok z
  obtain ⟨g1, g2, g3⟩ := ga.in_group o2
  exact ⟨g1.trans o1, by rw [e24]; exact g2, o4.act hc i1 ((Aux.ofo sm).trans (add_aux a2 a5 a6 a7)) hstep⟩
theorem RI.refused {σ3 : Sto} {D1 : Doc} {T1 : Hst} (hin : In σ D T) (h3 : fI σ 24 3 = 1) (h5 : fI σ 1992 5 = 1) (h4 : fI σ 1992 4 = Int32.ofNat s) (hln : lns D = lns D0) (hok : ok → T = newT D0 T0 ∧ fI σ 24 4 ≠ 0 ∧ Rpl D0 σ D s) (i1 : In σ3 D1 T1) (sm : Sm osh σ σ3) (nk : NK σ σ3 D D1 T T1) : RI ok D0 T0 σ3 s := by
  obtain ⟨n1, n2, n3, n4⟩ := nk
  subst n1 n2
  have e92 := (sm 1992 (by unfold osh; omega)).1
  refine ⟨_, _, i1, by rw [n3]; exact h3, by rw [e92]; exact h5, by rw [e92]; exact h4, hln, fun z => ?_⟩
  obtain ⟨o1, o2, o4⟩ := hok z
  exact ⟨o1, by rw [n4]; exact o2, o4.aux (Aux.ofo sm)⟩
theorem rec_erase (h : RI ok D0 T0 τ.2 s) (hs : s < 40) (hx0 : -100 ≤ x) (hx1 : x ≤ 100) : RStep ok D0 T0 τ s (fL_done τ 1 x a b) := by
  obtain ⟨D, T, h1, h3, h5, h4, hln, hok⟩ := h
  obtain ⟨f, n, hd, c, cu, ma, lf, ml⟩ := D
  obtain ⟨L, B, H, sc, -⟩ := h1.sc
  have hn := h1.gd.1
  obtain ⟨r, σ2, σ3, D1, T1, e1, e2, e3, e4, e5, e6, e7⟩ := one_erased h1 hx0 hx1
  have e92 := (e5 1992 (by unfold osh; omega)).1
  rw [dn_1]
  unfold f11_erase f11_erase_j12
  rw [if_neg (by grind), if_pos hx1, stp, e1, bnd_some, e2, bnd_some]
  rcases e3 with rfl | rfl
  · rw [if_pos rfl, hdl_inr (v := -1000003) rfl]
    exact ⟨_, σ3, s, rfl, RI.refused h1 h3 h5 h4 hln hok e4 e5 (e6 rfl), Or.inl ⟨by decide, rfl⟩⟩
  · rw [if_neg (show ¬ (1 : Int32) = 0 by decide)]
    obtain ⟨σ4, a1, a2, a3, a4, a5, a6, a7⟩ := add_on (σ := σ3) (s := s) (k := 1) (a := 0) (b := x) (by rw [e92]; exact h5) (by rw [e92]; exact h4) hs
    have i4 : In σ4 D1 T1 := by
      obtain ⟨μ, L, B, H, r0⟩ := e4
      obtain ⟨σ4', μ4, w1, w2, w3⟩ := addStep r0 (k := 1) (a := 0) (b := x) (u := x) (v := 0) (Or.inl ⟨rfl, rfl, hx0, hx1⟩)
      rw [a1] at w1
      cases w1
      exact ⟨μ4, L, B, H, w3⟩
    obtain ⟨f1, n1, hd1, c1, cu1, ma1, lf1, ml1⟩ := D1
    obtain ⟨L', B', H', sc', -⟩ := i4.sc
    have hle : n1 ≤ n := (e7 rfl).2
    have ev : fI τ.2 1 1 - fI σ4 1 1 = Int32.ofNat (n - n1) := by
      rw [sc.1.2.2.1, sc'.1.2.2.1, i32_sub hle]
    rw [a1, bnd_some, hdl_inl, ev]
    refine ⟨_, σ4, s + 1, rfl, RI.acted h1 h3 hln hok (c1 := bnd (f11_planErasing τ.2 x) f11_perform) (by rw [e1, bnd_some, e2]) e4 i4 e5 (e7 rfl).1 a2 a3 a4 a5 a6 a7 (fun τ' T' t1 t2 => ?_), Or.inr ⟨z_le (by omega), rfl⟩⟩
    refine ⟨bnd (f11_planErasing τ' x) f11_perform, fun τ'' hc => ?_, rep_erased h1 t1 hx0 hx1⟩
    obtain ⟨p, y1, y2⟩ := bnd_split hc
    obtain ⟨x1, x2, x3, -⟩ := t2.2.2.2.2 s (by omega)
    have ik : inb (Int32.ofNat s) 40 = true := inb_n hs (by omega)
    unfold f11_playStep
    simp only [ik, gd_true, ofNat_clamp (show s < 2147483648 by omega), stp]
    rw [x1, x3, a5, a7, up1_at, up1_at, if_neg (by decide), if_pos (by decide), y1, bnd_some, y2, bnd_some]
    rfl
theorem rec_paste (h : RI ok D0 T0 τ.2 s) (hs : s < 40) : RStep ok D0 T0 τ s (fL_done τ 4 a b x) := by
  obtain ⟨D, T, h1, h3, h5, h4, hln, hok⟩ := h
  obtain ⟨f, n, hd, c, cu, ma, lf, ml⟩ := D
  obtain ⟨r, σ2, σ3, D1, T1, e1, e2, e3, e4, e5, e6, e7⟩ := one_pasted h1
  have e92 := (e5 1992 (by unfold osh; omega)).1
  rw [dn_4]
  unfold f11_paste
  rw [e1, bnd_some, e2, bnd_some]
  rcases e3 with rfl | rfl
  · rw [if_pos rfl, hdl_inr (v := -1000003) rfl]
    exact ⟨_, σ3, s, rfl, RI.refused h1 h3 h5 h4 hln hok e4 e5 (e6 rfl), Or.inl ⟨by decide, rfl⟩⟩
  · rw [if_neg (show ¬ (1 : Int32) = 0 by decide)]
    obtain ⟨σ4, a1, a2, a3, a4, a5, a6, a7⟩ := add_on (σ := σ3) (s := s) (k := 3) (a := 0) (b := 0) (by rw [e92]; exact h5) (by rw [e92]; exact h4) hs
    have i4 : In σ4 D1 T1 := by
      obtain ⟨μ, L, B, H, r0⟩ := e4
      obtain ⟨σ4', μ4, w1, w2, w3⟩ := addStep r0 (k := 3) (a := 0) (b := 0) (u := 0) (v := 0) (Or.inr (Or.inr rfl))
      rw [a1] at w1
      cases w1
      exact ⟨μ4, L, B, H, w3⟩
    obtain ⟨f1, n1, hd1, c1, cu1, ma1, lf1, ml1⟩ := D1
    obtain ⟨L', B', H', sc', -⟩ := i4.sc
    have hn1 := i4.gd.1
    rw [a1, bnd_some, hdl_inl, sc'.1.2.2.1]
    refine ⟨_, σ4, s + 1, rfl, RI.acted h1 h3 hln hok (c1 := bnd (f11_planPasting τ.2) f11_perform) (by rw [e1, bnd_some, e2]) e4 i4 e5 (e7 rfl) a2 a3 a4 a5 a6 a7 (fun τ' T' t1 t2 => ?_), Or.inr ⟨z_le (by omega), rfl⟩⟩
    have b1 := e5 10 (by unfold osh; omega)
    have b2 := a2 10 (by omega)
    have d1 := e5 11 (by unfold osh; omega)
    have d2 := a2 11 (by omega)
    have g1 := e5 12 (by unfold osh; omega)
    have g2 := a2 12 (by omega)
    refine ⟨bnd (f11_planPasting τ') f11_perform, fun τ'' hc => ?_, rep_pasted h1 t1 (t2.2.1.trans (b2.1.trans b1.1)) (t2.2.2.1.trans (d2.1.trans d1.1)) (t2.2.2.2.1.trans (g2.2.2.1.trans g1.2.2.1))⟩
    obtain ⟨p, y1, y2⟩ := bnd_split hc
    obtain ⟨x1, x2, x3, -⟩ := t2.2.2.2.2 s (by omega)
    have ik : inb (Int32.ofNat s) 40 = true := inb_n hs (by omega)
    unfold f11_playStep
    simp only [ik, gd_true, ofNat_clamp (show s < 2147483648 by omega), stp]
    rw [x1, a5, up1_at, if_neg (by decide), if_neg (by decide), if_neg (by decide), if_pos (by decide), y1, bnd_some, y2, bnd_some]
    rfl
theorem rec_move (h : RI ok D0 T0 τ.2 s) (hs : s < 40) (hy : 0 ≤ y ∧ y ≤ 4) (hx : -50 ≤ x ∧ x ≤ 50) : RStep ok D0 T0 τ s (fL_done τ 16 y x a) := by
  obtain ⟨D, T, h1, h3, h5, h4, hln, hok⟩ := h
  obtain ⟨f, n, hd, c, cu, ma, lf, ml⟩ := D
  obtain ⟨σ1, h', q, d, gg, t, k1, k2, k3, -⟩ := q_moveAll h1 hy hx
  have e92 := (k3 1992 (by unfold nsh; omega)).1
  have e24 := (k3 24 (by unfold nsh; omega)).1
  obtain ⟨σ4, a1, a2, a3, a4, a5, a6, a7⟩ := add_on (σ := σ1) (s := s) (k := 2) (a := y) (b := x) (by rw [e92]; exact h5) (by rw [e92]; exact h4) hs
  have i4 : In σ4 (f, n, h', q, d, ma, lf, ml) T := by
    obtain ⟨μ, L, B, H, r0⟩ := k2
    obtain ⟨σ4', μ4, w1, w2, w3⟩ := addStep r0 (k := 2) (a := y) (b := x) (u := y) (v := x) (Or.inr (Or.inl ⟨rfl, rfl, rfl, hy.1, hy.2, hx.1, hx.2⟩))
    rw [a1] at w1
    cases w1
    exact ⟨μ4, L, B, H, w3⟩
  obtain ⟨L', B', H', sc', -⟩ := i4.sc
  have hq := i4.gd.2.2.2.2.2.1
  have g24 := (a2 24 (by omega)).1
  rw [dn_16]
  unfold f11_moveCursors
  rw [if_neg (by grind), if_neg (by grind), if_neg (by grind), if_pos hx.2, k1, bnd_some, a1, bnd_some, hdl_inl, sc'.2.2.1.1]
  refine ⟨_, σ4, s + 1, rfl, ⟨_, T, i4, by rw [g24, e24]; exact h3, a4, a3, hln, fun z => ?_⟩, Or.inr ⟨z_le (by omega), rfl⟩⟩
  obtain ⟨o1, o2, o4⟩ := hok z
  have ha : Aux s τ.2 σ4 := (Aux.of k3 (by unfold nsh; omega) (by unfold nsh; omega) (by unfold nsh; omega) (by unfold nsh; omega) (by unfold nsh; omega) (by unfold nsh; omega) (by unfold nsh; omega) (by unfold nsh; omega)).trans (add_aux a2 a5 a6 a7)
  exact ⟨o1, by rw [g24, e24]; exact o2, o4.move hs h1 k1 k2 ha hy hx (by rw [a5, up1_at]) (by rw [a6, up1_at]) (by rw [a7, up1_at])⟩
end RE
