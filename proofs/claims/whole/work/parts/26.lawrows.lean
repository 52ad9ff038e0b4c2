/-! rows of the law's body -/
section LB
variable {X : JX} {K : JK} {nL : Nat} {g : Prop} {Q : State → Prop} {k sl n : Nat} {w : JW} {pc q : Nat} {lv : List (Nat × Value)} {st rest : List Value} {own : String} {cc : ByteArray} {σ μ : Sto} {o : Int64}
theorem J_sld (C : Cx X K nL own cc) {b L : Nat} {xs : Nat → Int32} (hx : va_X b L xs X.2.2.2.2.1 X.2.2.2.2.1.heap) (hb : b < X.2.2.2.2.1.heap.size) (hbA : ¬ jA K b) {i : Int32} (hin : vp_in i L) (d : decode cc pc = .ok (.iaload, 1)) (hq : pc + 1 = q) (h : J X K nL g Q k sl n w q lv (.int (xs i.toNatClampNeg) :: st)) : J X K nL g Q k sl n w pc lv (.int i :: .ref b :: st) := by
  subst hq
  intro H locs ls h1 h2 h3 h4
  exact va_sld C.1 C.2.1 hx hb hbA h2 hin d (h H locs ls h1 h2 h3 h4)
theorem J_slen (C : Cx X K nL own cc) {b L : Nat} {xs : Nat → Int32} (hx : va_X b L xs X.2.2.2.2.1 X.2.2.2.2.1.heap) (hb : b < X.2.2.2.2.1.heap.size) (hbA : ¬ jA K b) (d : decode cc pc = .ok (.arraylength, 1)) (hq : pc + 1 = q) (h : J X K nL g Q k sl n w q lv (.int (Int32.ofNat L) :: st)) : J X K nL g Q k sl n w pc lv (.ref b :: st) := by
  subst hq
  intro H locs ls h1 h2 h3 h4
  exact va_slen C.1 C.2.1 hx hb hbA h2 d (h H locs ls h1 h2 h3 h4)
/-- a call of a helper from the law's body: nothing is thrown out of it -/
theorem Jl_cH {index maxL na d mc ms : Nat} {y : MethodName} {bytes : ByteArray} {hh : List (Nat × Nat × Nat × Nat)} {As st0 : List Value} {α : Type} {Qf : α → Prop} {val : α → Option Value} {wd : α → JW} {st9 : α → List Value} {ret : Option FieldType} (C : Cx X K nL own cc) (cw : CH own index y bytes maxL ret hh na) (con : Con X.2.1 K y (.codeWith y bytes maxL ret hh :: TB) d mc ms g As 2055 (jw K σ μ o) (PR Qf val wd) PN) (hs0 : st0 = As.reverse ++ rest) (hn : As.length = na) (hf : d + 1 ≤ X.2.2.2.1.frames) (hlo : 8 + (maxL + 11) + 36 * d ≤ X.2.2.2.1.locals) (hsum : (rest.map fun v => v.category).sum ≤ 8) (hcells : k + mc ≤ X.2.2.2.1.cells ∧ sl + ms ≤ X.2.2.2.1.slots) (dg : decode cc pc = .ok (.invokestatic index, 3)) (hq : pc + 3 = q) (hst : ∀ p, (val p).toList ++ rest = st9 p) (kr : ∀ p, Qf p → J X K nL g Q (k + mc) (sl + ms) 2055 (wd p) q lv (st9 p)) : J X K nL g Q k sl 2055 (jw K σ μ o) pc lv st0 :=
  J_callH C cw con hs0 hn hf hlo hsum hcells dg hq (fun E n9 w9 hx => JT_n hx) (fun v n' w' hr => by obtain ⟨p, hp, rfl, rfl, rfl⟩ := hr; rw [hst]; exact kr p hp)
/-- a call of the class's method from the law's body -/
theorem Jl_cV {index maxL na d mc ms : Nat} {y : MethodName} {bytes : ByteArray} {ret : Option FieldType} {As st0 : List Value} {α : Type} {Qf : α → Prop} {val : α → Option Value} {wd : α → JW} {st9 : α → List Value} (C : Cx X K nL own cc) {a ci : Nat} (cw : CV own index ci y bytes maxL ret na) (hk : kc a = ci) (hci : ci < 12) (con : Con X.2.1 K y (.code y bytes maxL ret :: TB) d mc ms g (.ref (K.2.2 + a) :: As) 2055 (jw K σ μ o) (PR Qf val wd) PN) (hs0 : st0 = As.reverse ++ .ref (K.2.2 + a) :: rest) (hn : As.length = na) (hf : d + 1 ≤ X.2.2.2.1.frames) (hlo : 8 + (maxL + 11) + 36 * d ≤ X.2.2.2.1.locals) (hsum : (rest.map fun v => v.category).sum ≤ 8) (hcells : k + mc ≤ X.2.2.2.1.cells ∧ sl + ms ≤ X.2.2.2.1.slots) (dg : decode cc pc = .ok (.invokevirtual index, 3)) (hq : pc + 3 = q) (hst : ∀ p, (val p).toList ++ rest = st9 p) (kr : ∀ p, Qf p → J X K nL g Q (k + mc) (sl + ms) 2055 (wd p) q lv (st9 p)) : J X K nL g Q k sl 2055 (jw K σ μ o) pc lv st0 := by
  obtain ⟨cw, hsel, hinst, T, N, hc⟩ := cw
  exact J_callV C cw rfl hsel hinst (Nat.lt_trans (kc_spec hk (by omega)).1 (by omega)) ((jw_c (kc_spec hk (by omega)).1).trans (jc_obj (kc_spec hk (by omega)).2 hci)) hc con hs0 hn hf hlo hsum hcells dg hq (fun E n9 w9 hx => JT_n hx) (fun v n' w' hr => by obtain ⟨p, hp, rfl, rfl, rfl⟩ := hr; rw [hst]; exact kr p hp)
/-- a call of the reference's method from the law's body -/
theorem Jl_mV {index maxL na d mc ms : Nat} {y : MethodName} {bytes : ByteArray} {ret : Option FieldType} {As st0 : List Value} {α : Type} {Qf : α → Prop} {val : α → Option Value} {wd : α → JW} {st9 : α → List Value} (C : Cx X K nL own cc) {a ci : Nat} (cw : CV own index ci y bytes maxL ret na) (hk : km a = ci) (hci : ci < 12) (con : Con X.2.1 K y (.code y bytes maxL ret :: TB) d mc ms g (.ref (K.2.2 + a) :: As) 2055 (jw K σ μ o) (PR Qf val wd) PN) (hs0 : st0 = As.reverse ++ .ref (K.2.2 + a) :: rest) (hn : As.length = na) (hf : d + 1 ≤ X.2.2.2.1.frames) (hlo : 8 + (maxL + 11) + 36 * d ≤ X.2.2.2.1.locals) (hsum : (rest.map fun v => v.category).sum ≤ 8) (hcells : k + mc ≤ X.2.2.2.1.cells ∧ sl + ms ≤ X.2.2.2.1.slots) (dg : decode cc pc = .ok (.invokevirtual index, 3)) (hq : pc + 3 = q) (hst : ∀ p, (val p).toList ++ rest = st9 p) (kr : ∀ p, Qf p → J X K nL g Q (k + mc) (sl + ms) 2055 (wd p) q lv (st9 p)) : J X K nL g Q k sl 2055 (jw K σ μ o) pc lv st0 := by
  obtain ⟨cw, hsel, hinst, T, N, hc⟩ := cw
  exact J_callV C cw rfl hsel hinst (Nat.lt_trans (km_spec hk (by omega)).2.1 (by omega)) ((jw_m (km_spec hk (by omega)).1 (km_spec hk (by omega)).2.1).trans (jc_obj (km_spec hk (by omega)).2.2 hci)) hc con hs0 hn hf hlo hsum hcells dg hq (fun E n9 w9 hx => JT_n hx) (fun v n' w' hr => by obtain ⟨p, hp, rfl, rfl, rfl⟩ := hr; rw [hst]; exact kr p hp)
end LB
/-- a constructor of an object that lies last; the room's bounds as they are -/
theorem L_ctorD {X : JX} {K : JK} {nL : Nat} {Q : State → Prop} {k sl : Nat} {pc q : Nat} {lv : List (Nat × Value)} {st : List Value} {own : String} {cc : ByteArray} {a m r : Nat} {w0 : JW} {es : List va_E} {index maxL d mc ms c kc sc : Nat} {y : MethodName} {bytes : ByteArray} {e0 : va_E} {cs : List va_E} (C : Cx X K nL own cc) (cw : CW own index y bytes maxL none 0) (hy : y.name = "<init>") (hinst : Cond.instanceMethod y ∈ TB) (hm : es.length = m) (hr : r = a + m)
    (con : ∀ w0 : JW, Con X.2.1 K y (.code y bytes maxL none :: TB) d mc ms True [.ref (K.2.2 + (a + m))] (a + m + 1) (wl (a + m) w0 [e0]) (fun v n w => v = none ∧ n = a + m + c ∧ w = wl (a + m) w0 cs) PN) (hf : d + 1 ≤ X.2.2.2.1.frames) (hlo : 8 + (maxL + 11) + 36 * d ≤ X.2.2.2.1.locals) (hsum : (st.map fun v => v.category).sum ≤ 8) (hk : k + mc = kc) (hs : sl + ms = sc) (hcells : kc ≤ X.2.2.2.1.cells ∧ sc ≤ X.2.2.2.1.slots) (dg : decode cc pc = .ok (.invokespecial index, 3)) (hq : pc + 3 = q)
    (h : J X K nL True Q kc sc (a + (m + c)) (wl a w0 (es ++ cs)) q lv st) : J X K nL True Q k sl (a + (m + 1)) (wl a w0 (es ++ [e0])) pc lv (.ref (K.2.2 + r) :: st) := by
  subst hk hs hr
  rw [← wl_nest hm]
  rw [← wl_nest hm] at h
  have kr : ∀ (v : Option Value) (n' : Nat) (w' : JW), (v = none ∧ n' = a + m + c ∧ w' = wl (a + m) (wl a w0 es) cs) → J X K nL True Q (k + mc) (sl + ms) n' w' q lv (v.toList ++ st) := by
    rintro v n' w' ⟨rfl, rfl, rfl⟩
    rw [Nat.add_assoc a m c]
    exact h
  exact J_callI (a := K.2.2 + (a + m)) (As := []) C cw hy hinst (con (wl a w0 es)) rfl rfl hf hlo hsum hcells dg hq (fun E n9 w9 hx => JT_n hx) kr
/-- from a world with the heap's size in view to one without -/
theorem J.forget {X : JX} {K : JK} {nL : Nat} {Q : State → Prop} {k sl n : Nat} {w : JW} {pc : Nat} {lv : List (Nat × Value)} {st : List Value} (h : J X K nL False Q k sl n w pc lv st) : J X K nL True Q k sl n w pc lv st :=
  fun H locs ls h1 h2 _ h4 => h H locs ls h1 h2 (fun z => z.elim) h4
