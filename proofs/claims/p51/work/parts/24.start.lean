/-! the stores at the start -/
def f0I (a k : Nat) : Int32 := if kd a = 8 then (if k = 4 then 1 else if k = 6 then 1 else 0) else if a = 0 then (if k = 10 then 4 else 0) else 0
def f0R (a k : Nat) : Nat := if kd a = 8 then (if k = 0 then a + 2 else if k = 2 then a + 3 else if k = 3 then a + 4 else 0) else if a = 13 then (if k = 7 then 21 else if k = 9 then 22 else if k = 10 then 23 else 0) else if a = 24 then (if k = 2 then 27 else 0) else 0
def a0I (a : Nat) : Nat → Int32 := if a = 6 then fil 16 (-1) else if a = 2003 then fil 16 (-1) else if a = 2010 then fil 16 (-1) else if a = 2016 then fil 2 10 else z0
def σ0 : Sto := (f0I, f0R, a0I, fun _ => zL)
def js (K : JK) (σ : Sto) (a n : Nat) : List va_E := (List.range n).map (fun i => jcell K σ (a + i))
theorem js_app {K : JK} {σ : Sto} {a m n : Nat} : js K σ a (m + n) = js K σ a m ++ js K σ (a + m) n := by
  unfold js
  rw [List.range_add, List.map_append, List.map_map]
  congr 1
  apply List.map_congr_left
  intro i _
  show jcell K σ (a + (m + i)) = jcell K σ (a + m + i)
  rw [Nat.add_assoc]
theorem js_len {K : JK} {σ : Sto} {a n : Nat} : (js K σ a n).length = n := by simp [js]
theorem js_at {K : JK} {σ : Sto} {a n i : Nat} (h : i < n) : (js K σ a n)[i]? = some (jcell K σ (a + i)) := by simp [js, h]
theorem s0_sheet1 {K : JK} : cE8 K 1 = js K σ0 1 7 := rfl
theorem s0_row {K : JK} : [.inr (6, [.ref (K.2.2 + 9), .int 0]), .inl (K.2.1.2.1, 200, .inl z0)] = js K σ0 8 2 := rfl
theorem s0_clip {K : JK} : cE2 K 10 = js K σ0 10 3 := rfl
theorem s0_change {K : JK} : cE1 K 13 = js K σ0 13 11 := rfl
theorem s0_search {K : JK} : cE7 K 1989 = js K σ0 1989 3 := rfl
theorem s0_steps {K : JK} : cE9 K 1992 = js K σ0 1992 5 := rfl
theorem s0_comp {K : JK} : cE3 K 1997 = js K σ0 1997 18 := rfl
theorem s0_room {K : JK} : [.inl (K.2.1.1, 2, .inl z0), .inl (K.2.1.1, 2, .inl (fil 2 10))] = js K σ0 2015 2 := rfl
theorem s0_hist {K : JK} : [histE K 24] = js K σ0 24 1 := rfl
theorem lay_act {i r : Nat} (hi : i < 151) (hr : r < 13) : lay (26 + 13 * i + r) = actL r := by
  unfold lay
  rw [if_neg (by omega), if_pos (by omega)]
  congr 1
  omega
theorem f0R_act {a k : Nat} (h : 26 ≤ a) (h8 : kd a ≠ 8) : f0R a k = 0 := by
  unfold f0R
  rw [if_neg h8, if_neg (by omega), if_neg (by omega)]
theorem f0I_act {a k : Nat} (h : 26 ≤ a) (h8 : kd a ≠ 8) : f0I a k = 0 := by
  unfold f0I
  rw [if_neg h8, if_neg (by omega)]
theorem a0I_act {a : Nat} (h : 26 ≤ a) (h2 : a < 1989) : a0I a = z0 := by
  unfold a0I
  rw [if_neg (by omega), if_neg (by omega), if_neg (by omega), if_neg (by omega)]
theorem s0_cell {K : JK} {a c n : Nat} (h : 26 ≤ a) (h2 : a < 1989) (hl : lay a = (c, n)) (h8 : c ≠ 8) : jcell K σ0 a =
  if c < 12 then .inr (c, (List.range (nf c)).map (fun k => match ft c k with | 0 => .int 0 | 1 => .null | o + 2 => .ref (K.2.2 + (a + o))))
  else if c = 12 then .inl (K.2.1.1, n, .inl z0)
  else if c = 13 then .inl (K.2.1.2.1, n, .inl z0)
  else if c = 14 then .inl (K.2.1.2.2.1, n, .inl z0)
  else if c = 15 then .inl (K.2.1.2.2.2.1, n, .inr (.inl zL))
  else .inl (K.2.1.2.2.2.2, 150, .inr (.inr (.inr (.inr (fun i => some (K.2.2 + (39 + 13 * i))))))) := by
  have hk : kd a = c := by show (lay a).1 = c; rw [hl]
  have hn : ln a = n := by show (lay a).2 = n; rw [hl]
  have e1 : aI σ0 a = z0 := a0I_act h h2
  have e2 : aL σ0 a = zL := rfl
  have e3 : (fv K.2.2 σ0 a c : Nat → Value) = fun k => match ft c k with | 0 => .int 0 | 1 => .null | o + 2 => .ref (K.2.2 + (a + o)) := by
    funext k
    unfold fv
    have g1 : fI σ0 a k = 0 := f0I_act h (by rw [hk]; exact h8)
    have g2 : fR σ0 a k = 0 := f0R_act h (by rw [hk]; exact h8)
    rw [g1, g2]
    rfl
  unfold jcell
  rw [hk, hn, e1, e2, e3]
theorem s0_act {K : JK} {i : Nat} (hi : i < 151) : cE0 K (26 + 13 * i) = js K σ0 (26 + 13 * i) 13 := by
  have c : ∀ r c n, r < 13 → actL r = (c, n) → c ≠ 8 → jcell K σ0 (26 + 13 * i + r) = _ := fun r c n hr he h8 => s0_cell (by omega) (by omega) ((lay_act hi hr).trans he) h8
  show cE0 K (26 + 13 * i) = [jcell K σ0 (26 + 13 * i + 0), jcell K σ0 (26 + 13 * i + 1), jcell K σ0 (26 + 13 * i + 2), jcell K σ0 (26 + 13 * i + 3), jcell K σ0 (26 + 13 * i + 4), jcell K σ0 (26 + 13 * i + 5), jcell K σ0 (26 + 13 * i + 6), jcell K σ0 (26 + 13 * i + 7), jcell K σ0 (26 + 13 * i + 8), jcell K σ0 (26 + 13 * i + 9), jcell K σ0 (26 + 13 * i + 10), jcell K σ0 (26 + 13 * i + 11), jcell K σ0 (26 + 13 * i + 12)]
  rw [c 0 0 0 (by omega) rfl (by decide), c 1 5 0 (by omega) rfl (by decide), c 2 15 375 (by omega) rfl (by decide), c 3 15 5 (by omega) rfl (by decide), c 4 12 8 (by omega) rfl (by decide), c 5 12 16 (by omega) rfl (by decide), c 6 14 16 (by omega) rfl (by decide), c 7 5 0 (by omega) rfl (by decide), c 8 15 375 (by omega) rfl (by decide), c 9 15 5 (by omega) rfl (by decide), c 10 12 8 (by omega) rfl (by decide), c 11 12 16 (by omega) rfl (by decide), c 12 14 16 (by omega) rfl (by decide)]
  rfl
theorem s0_acts {K : JK} : ∀ m, m ≤ 150 → actsE K 24 m = js K σ0 39 (13 * m) := by
  intro m
  induction m with
  | zero => intro _; rfl
  | succ m ih =>
    intro h
    have e : 24 + (15 + 13 * m) = 26 + 13 * (m + 1) := by omega
    rw [actsE, ih (by omega), e, s0_act (by omega), Nat.mul_succ, js_app, show 39 + 13 * m = 26 + 13 * (m + 1) by omega]
    rfl
/-- cells that say the same -/
def RE (e e' : va_E) : Prop := ∀ (D : va_G) (q : Nat) (H : Heap), va_at D vwCl (q, e) H → va_at D vwCl (q, e') H
def LR (l l' : List va_E) : Prop := l.length = l'.length ∧ ∀ (i : Nat) (e e' : va_E), l[i]? = some e → l'[i]? = some e' → RE e e'
theorem LR.rfl' {l : List va_E} : LR l l := ⟨rfl, fun i e e' h h' => by rw [h] at h'; cases h'; exact fun _ _ _ z => z⟩
theorem LR.of {l l' : List va_E} (h : l = l') : LR l l' := h ▸ LR.rfl'
theorem LR.app {a b c d : List va_E} (h : LR a b) (h2 : LR c d) : LR (a ++ c) (b ++ d) := by
  refine ⟨by simp [h.1, h2.1], fun i e e' p q => ?_⟩
  by_cases hi : i < a.length
  · rw [List.getElem?_append_left hi] at p
    rw [List.getElem?_append_left (h.1 ▸ hi)] at q
    exact h.2 i e e' p q
  · rw [List.getElem?_append_right (by omega)] at p
    rw [List.getElem?_append_right (by have := h.1; omega), ← h.1] at q
    exact h2.2 _ e e' p q
theorem s0_rowE {K : JK} : LR [rowE K 24 150] (js K σ0 25 1) := by
  refine ⟨rfl, fun i e e' p q => ?_⟩
  cases i with
  | succ i => cases p
  | zero =>
    have hp : rowE K 24 150 = e := Option.some.inj p
    have hq : jcell K σ0 25 = e' := Option.some.inj q
    subst hp hq
    intro D q H h
    have e : vp_cell K.2.1.2.2.2.2 (150, .inr (.inr (.inr (.inr (fun t => if t < 150 then some (K.2.2 + (24 + (15 + 13 * t))) else none))))) = vp_cell K.2.1.2.2.2.2 (150, .inr (.inr (.inr (.inr (fun i => some (K.2.2 + (39 + 13 * i))))))) := by
      rw [vp_cell_q, vp_cell_q]
      unfold arrV
      congr 1
    show H[q]? = some (vp_cell _ _)
    have h : H[q]? = some (vp_cell _ _) := h
    rw [h]
    exact congrArg some e
theorem s0_all {K : JK} : LR (cE10 K 0) (js K σ0 0 2017) := by
  have e : js K σ0 0 2017 = js K σ0 0 1 ++ (js K σ0 1 7 ++ (js K σ0 8 2 ++ (js K σ0 10 3 ++ (js K σ0 13 11 ++ ((js K σ0 24 1 ++ (js K σ0 25 1 ++ (js K σ0 26 13 ++ js K σ0 39 1950))) ++ (js K σ0 1989 3 ++ (js K σ0 1992 5 ++ (js K σ0 1997 18 ++ js K σ0 2015 2)))))))) := by
    have e0 : js K σ0 0 2017 = js K σ0 0 1 ++ js K σ0 1 2016 := js_app (a := 0) (m := 1) (n := 2016)
    have e1 : js K σ0 1 2016 = js K σ0 1 7 ++ js K σ0 8 2009 := js_app (a := 1) (m := 7) (n := 2009)
    have e2 : js K σ0 8 2009 = js K σ0 8 2 ++ js K σ0 10 2007 := js_app (a := 8) (m := 2) (n := 2007)
    have e3 : js K σ0 10 2007 = js K σ0 10 3 ++ js K σ0 13 2004 := js_app (a := 10) (m := 3) (n := 2004)
    have e4 : js K σ0 13 2004 = js K σ0 13 11 ++ js K σ0 24 1993 := js_app (a := 13) (m := 11) (n := 1993)
    have e5 : js K σ0 24 1993 = js K σ0 24 1965 ++ js K σ0 1989 28 := js_app (a := 24) (m := 1965) (n := 28)
    have e6 : js K σ0 24 1965 = js K σ0 24 1 ++ js K σ0 25 1964 := js_app (a := 24) (m := 1) (n := 1964)
    have e7 : js K σ0 25 1964 = js K σ0 25 1 ++ js K σ0 26 1963 := js_app (a := 25) (m := 1) (n := 1963)
    have e8 : js K σ0 26 1963 = js K σ0 26 13 ++ js K σ0 39 1950 := js_app (a := 26) (m := 13) (n := 1950)
    have e9 : js K σ0 1989 28 = js K σ0 1989 3 ++ js K σ0 1992 25 := js_app (a := 1989) (m := 3) (n := 25)
    have e10 : js K σ0 1992 25 = js K σ0 1992 5 ++ js K σ0 1997 20 := js_app (a := 1992) (m := 5) (n := 20)
    have e11 : js K σ0 1997 20 = js K σ0 1997 18 ++ js K σ0 2015 2 := js_app (a := 1997) (m := 18) (n := 2)
    rw [e0, e1, e2, e3, e4, e5, e6, e7, e8, e9, e10, e11]
  rw [e]
  have hh : LR (cE4 K 24) (js K σ0 24 1 ++ (js K σ0 25 1 ++ (js K σ0 26 13 ++ js K σ0 39 1950))) := by
    show LR ([histE K 24] ++ ([rowE K 24 150] ++ (cE0 K (26 + 13 * 0) ++ actsE K 24 150))) _
    exact (LR.of s0_hist).app (s0_rowE.app ((LR.of (s0_act (by omega))).app (LR.of (s0_acts 150 (by omega)))))
  have hr : cE10 K 0 = js K σ0 0 1 ++ (cE8 K 1 ++ ([.inr (6, [.ref (K.2.2 + 9), .int 0]), .inl (K.2.1.2.1, 200, .inl z0)] ++ (cE2 K 10 ++ (cE1 K 13 ++ (cE4 K 24 ++ (cE7 K 1989 ++ (cE9 K 1992 ++ (cE3 K 1997 ++ [.inl (K.2.1.1, 2, .inl z0), .inl (K.2.1.1, 2, .inl (fil 2 10))])))))))) := by
    unfold cE10 roomE
    simp only [List.cons_append, List.nil_append, List.append_assoc, Nat.zero_add]
    rfl
  rw [hr]
  exact LR.rfl'.app ((LR.of s0_sheet1).app ((LR.of s0_row).app ((LR.of s0_clip).app ((LR.of s0_change).app (hh.app ((LR.of s0_search).app ((LR.of s0_steps).app ((LR.of s0_comp).app (LR.of s0_room)))))))))
def m0I (a k : Nat) : Int32 := if a = 2017 then (if k = 6 then 1 else if k = 17 then 4 else if k = 33 then -1 else 0) else 0
def m0A (a : Nat) : Nat → Int32 := if a = 2020 then fil 16 (-1) else if a = 2027 then fil 2 0 else if a = 2028 then fil 2 10 else z0
def μ0 : Sto := (m0I, fun _ _ => 0, m0A, fun _ => zL)
/-- another world that says the same -/
theorem J.wequiv {X : JX} {K : JK} {nL : Nat} {g : Prop} {Q : State → Prop} {k sl n : Nat} {w w' : JW} {pc : Nat} {lv : List (Nat × Value)} {st : List Value} (e : ∀ j, j < n → RE (w j) (w' j)) (h : J X K nL g Q k sl n w' pc lv st) : J X K nL g Q k sl n w pc lv st := by
  intro H locs ls h1 h2 h3 h4
  refine h H locs ls (fun i q hq => ?_) h2 h3 h4
  by_cases hi : i < n
  · rw [jwl_at hi] at hq
    cases hq
    exact e i hi K.1 (K.2.2 + i) H (h1 i _ (jwl_at hi))
  · rw [List.getElem?_eq_none_iff.mpr (by rw [jwl_len]; omega)] at hq
    cases hq
theorem RE.rfl' {e : va_E} : RE e e := fun _ _ _ h => h
