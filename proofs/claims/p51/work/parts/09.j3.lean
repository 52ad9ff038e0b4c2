section JC
variable {X : JX} {K : JK} {nL : Nat} {g : Prop} {Q : State → Prop} {k sl n : Nat} {w : JW} {pc q : Nat} {lv lv' : List (Nat × Value)} {st rest : List Value} {own : String} {cc : ByteArray}
/-- the frame at pc, with an object of the class E thrown over it -/
def JT (X : JX) (K : JK) (nL : Nat) (g : Prop) (Q : State → Prop) (k sl n : Nat) (w : JW) (pc : Nat) (lv : List (Nat × Value)) (rest : List Value) (E : String) : Prop :=
  ∀ (H : Heap) (locs : List Loc) (ls : Array Slot) (z : Addr) (ce : Cell), va_P K.1 vwCl (jwl K.2.2 n w) H → va_S (jA K) X.2.2.2.2.1.heap H locs → lv_has ls nL lv → H[z]? = some ce → ce.vm = .none → X.2.2.2.2.1.vm.findClass E = some ce.cls → vx_W X.1 X.2.1 X.2.2.1 X.2.2.2.1 X.2.2.2.2.1 X.2.2.2.2.2.1 X.2.2.2.2.2.2.1 X.2.2.2.2.2.2.2.1 X.2.2.2.2.2.2.2.2.1 X.2.2.2.2.2.2.2.2.2 H locs k sl Q (F0 X.2.2.2.2.2.1 pc ls rest) z
theorem JT_out {mc ms : Nat} {Qr : Option Value → Nat → JW → Prop} {Qx : String → Nat → JW → Prop} {E : String} (C : Cx X K nL own cc) (hnt : jNoT X) (hk : k ≤ mc) (hs : sl ≤ ms) (hx : Qx E n w) : JT X K nL g (jQ X K mc ms Qr Qx g) k sl n w pc lv rest E := by
  intro H locs ls z ce h1 h2 h3 h4 h5 h6
  exact vx_out (fun x hx => (hnt x hx).elim) C.2.2.2.2.2.2.1 h4 h5 h6 (fun t ht _ => ⟨⟨n, w, hx, by rw [ht]; exact h1⟩, h2.F ht⟩) h2.2.2 hk hs
/-- caught by the row x of the body's table -/
theorem JT_catch {E : String} (C : Cx X K nL own cc) (pre : List ExceptionTableEntry) (x : ExceptionTableEntry) (suf : List ExceptionTableEntry) (hsplit : X.2.2.2.2.2.2.2.2.2.exceptionTable.toList = pre ++ x :: suf)
    (hpass : ∀ z ∈ pre, covers z pc = false ∨ (z.catchType ≠ 0 ∧ ∃ nm : String, Cond.classLink own z.catchType nm ∈ TB ∧ (E, nm) ∈ NCS)) (hx : covers x pc = true) (h0 : x.catchType ≠ 0) (hlink : Cond.classLink own x.catchType E ∈ TB) (hcast : E ∈ EXCS)
    (h : ∀ z : Nat, J X K nL False Q k sl n w x.handlerPc lv [.ref z]) : JT X K nL g Q k sl n w pc lv rest E := by
  intro H locs ls z ce h1 h2 h3 h4 h5 h6
  exact vx_catch C.2.2.2.1 pre x suf hsplit (fun y hy => (hpass y hy).imp id (fun ⟨a, nm, b, c⟩ => ⟨a, nm, C.2.2.2.2.1 _ b, C.2.2.2.2.2.1.2.2.2.1 _ c⟩)) hx h0 (C.2.2.2.2.1 _ hlink) (va_Nw.use rfl (C.2.2.2.2.2.1.2.2.2.2.2.2.1 _ hcast)) h4 h5 h6 (h z H locs ls h1 h2 (fun a => a.elim) h3)
/-- behind a call -/
theorem J_run {mc ms : Nat} {Qr : Option Value → Nat → JW → Prop} {Qx : String → Nat → JW → Prop} {av : Array Value} {st0 : List Value}
    (hr : ∀ (H : Heap) (locs : List Loc) (ls : Array Slot), va_P K.1 vwCl (jwl K.2.2 n w) H → va_S (jA K) X.2.2.2.2.1.heap H locs → (g → H.size = K.2.2 + n) → lv_has ls nL lv → vx_Run X.1 X.2.1 X.2.2.1 X.2.2.2.1 X.2.2.2.2.1 X.2.2.2.2.2.1 X.2.2.2.2.2.2.1 X.2.2.2.2.2.2.2.1 X.2.2.2.2.2.2.2.2.1 X.2.2.2.2.2.2.2.2.2 H locs k sl mc ms (F0 X.2.2.2.2.2.1 pc ls st0) rest (jQc K Qr g av) (jXc K Qx) (jA K))
    (hq : pc + 3 = q) (kx : ∀ (E : String) (n' : Nat) (w' : JW), Qx E n' w' → JT X K nL g Q (k + mc) (sl + ms) n' w' pc lv rest E)
    (kr : ∀ (v : Option Value) (n' : Nat) (w' : JW), Qr v n' w' → J X K nL g Q (k + mc) (sl + ms) n' w' q lv (v.toList ++ rest)) : J X K nL g Q k sl n w pc lv st0 := by
  subst hq
  intro H locs ls h1 h2 h3 h4 T hT XS
  rcases hr H locs ls h1 h2 h3 h4 T hT XS with ⟨v, st₀, t, T', L, e0, X', hL, e1, e2, ⟨⟨v2, n2, w2, hv, hp, hw2, hg2⟩, hF⟩, stp⟩ | ⟨z, st₀, t, T', L, E, ce, e0, X', hL, e1, e2, ⟨⟨n2, w2, hp, hw2⟩, hF⟩, hce, hcv, hcl, stp⟩
  · cases hv
    obtain ⟨-, -, k3⟩ := vx_keep e0 e1 h2 (fun q _ h => h) (fun q h => h) hL hF
    obtain ⟨t2, a1, b1⟩ := kr v n2 w2 hp T'.heap (locs ++ L) ls (by rw [e1]; exact hw2) k3 (fun z => by rw [e1]; exact hg2 z) h4 T' rfl X'
    exact ⟨t2, stp t2 a1, b1⟩
  · obtain ⟨-, -, k3⟩ := vx_keep e0 e1 h2 (fun q _ h => h) (fun q h => h) hL hF
    obtain ⟨t2, a1, b1⟩ := kx E n2 w2 hp T'.heap (locs ++ L) ls z ce (by rw [e1]; exact hw2) k3 h4 (by rw [e1]; exact hce) hcv hcl T' rfl X'
    exact ⟨t2, stp.trans a1, b1⟩
theorem jblind {K : JK} {av : List Value} {g : Prop} {n : Nat} {w : JW} : FrameBlind (va_Pc av (fun U => EV K U ∧ va_P K.1 vwCl (jwl K.2.2 n w) U.heap ∧ (g → U.heap.size = K.2.2 + n))) :=
  fun _ _ _ _ ⟨h1, h2, h3, h4⟩ => ⟨h1, h2.calling, h3, h4⟩
theorem jpre {s : State} {H : Heap} {locs : List Loc} {av : List Value} (hev : EV K s) (h1 : va_P K.1 vwCl (jwl K.2.2 n w) H) (h2 : va_S (jA K) s.heap H locs) (h3 : g → H.size = K.2.2 + n) (U : State) (hU : U.heap = H) (hW : s.WarmedH U.vm) : va_Pc av (fun U => EV K U ∧ va_P K.1 vwCl (jwl K.2.2 n w) U.heap ∧ (g → U.heap.size = K.2.2 + n)) av.toArray U :=
  ⟨rfl, hev.warm hW h2 hU, by rw [hU]; exact h1, fun z => by rw [hU]; exact h3 z⟩
/-- what the tables say of a call -/
def CW (own : String) (index : Nat) (y : MethodName) (bytes : ByteArray) (maxL : Nat) (ret : Option FieldType) (na : Nat) : Prop :=
  Cond.methodLink own index y ∈ TB ∧ Cond.initialized y.cls ∈ TB ∧ Cond.code y bytes maxL ret ∈ TB ∧ y.cls ≠ "java/lang/invoke/MethodHandle" ∧ y.cls ≠ "java/lang/invoke/VarHandle" ∧ (parseMethodDescriptor y.desc).map (fun d => d.parameters.length) = some na
def CN (own : String) (index : Nat) (y : MethodName) (bytes : ByteArray) (maxL : Nat) (ret : Option FieldType) (na : Nat) : Prop :=
  (own, index, y, "Cursorroom") ∈ NEST ∧ Cond.initialized y.cls ∈ TB ∧ Cond.code y bytes maxL ret ∈ TB ∧ y.cls ≠ "java/lang/invoke/MethodHandle" ∧ y.cls ≠ "java/lang/invoke/VarHandle" ∧ (parseMethodDescriptor y.desc).map (fun d => d.parameters.length) = some na
def CH (own : String) (index : Nat) (y : MethodName) (bytes : ByteArray) (maxL : Nat) (ret : Option FieldType) (hh : List (Nat × Nat × Nat × Nat)) (na : Nat) : Prop :=
  Cond.methodLink own index y ∈ TB ∧ Cond.initialized y.cls ∈ TB ∧ Cond.codeWith y bytes maxL ret hh ∈ TB ∧ Cond.static y ∈ TB ∧ y.cls ≠ "java/lang/invoke/MethodHandle" ∧ y.cls ≠ "java/lang/invoke/VarHandle" ∧ (parseMethodDescriptor y.desc).map (fun d => d.parameters.length) = some na
theorem CW.callB {R : Room} {s : State} {args : Array Value} {index maxL na d mc ms : Nat} {y : MethodName} {bytes : ByteArray} {ret : Option FieldType} (h : CW own index y bytes maxL ret na) (hts : ∀ w ∈ TB, w.before args s = true) (hf : d + 1 ≤ R.frames) (hlo : 8 + (maxL + 11) + 36 * d ≤ R.locals) : CallB R s args own index y bytes maxL ret (.code y bytes maxL ret :: TB) (jR d mc ms) mc ms na :=
  callB_of na hts (TB_in (fun w hw => (List.mem_cons.mp hw).elim (fun e => e ▸ h.2.2.1) id)) rfl rfl rfl (hts _ h.2.1) (hts _ h.1) ⟨h.2.2.2.1, h.2.2.2.2.1, h.2.2.2.2.2⟩ ⟨hf, hlo⟩
theorem CN.cn {R : Room} {s : State} {args : Array Value} {index maxL na d mc ms : Nat} {y : MethodName} {bytes : ByteArray} {ret : Option FieldType} (h : CN own index y bytes maxL ret na) (hts : ∀ w ∈ TB, w.before args s = true) (hn : jnest s) (hf : d + 1 ≤ R.frames) (hlo : 8 + (maxL + 11) + 36 * d ≤ R.locals) : va_CN R s args own index y "Cursorroom" bytes maxL ret (.code y bytes maxL ret :: TB) (jR d mc ms) mc ms na :=
  va_cnB na hts (TB_in (fun w hw => (List.mem_cons.mp hw).elim (fun e => e ▸ h.2.2.1) id)) rfl rfl rfl (hn _ h.1) (hts _ h.2.1) ⟨h.2.2.2.1, h.2.2.2.2.1, h.2.2.2.2.2⟩ ⟨hf, hlo⟩
section CALLS
variable {index maxL na d mc ms : Nat} {y : MethodName} {bytes : ByteArray} {ret : Option FieldType} {Qr : Option Value → Nat → JW → Prop} {Qx : String → Nat → JW → Prop} {As st0 : List Value}
theorem J_callS (C : Cx X K nL own cc) (cw : CW own index y bytes maxL ret na) (hst : Cond.static y ∈ TB) (con : Con X.2.1 K y (.code y bytes maxL ret :: TB) d mc ms g As n w Qr Qx) (hs0 : st0 = As.reverse ++ rest) (hn : As.length = na) (hf : d + 1 ≤ X.2.2.2.1.frames) (hlo : 8 + (maxL + 11) + 36 * d ≤ X.2.2.2.1.locals) (hsum : (rest.map fun v => v.category).sum ≤ 8) (hcells : k + mc ≤ X.2.2.2.1.cells ∧ sl + ms ≤ X.2.2.2.1.slots) (dg : decode cc pc = .ok (.invokestatic index, 3)) (hq : pc + 3 = q)
    (kx : ∀ (E : String) (n' : Nat) (w' : JW), Qx E n' w' → JT X K nL g Q (k + mc) (sl + ms) n' w' pc lv rest E) (kr : ∀ (v : Option Value) (n' : Nat) (w' : JW), Qr v n' w' → J X K nL g Q (k + mc) (sl + ms) n' w' q lv (v.toList ++ rest)) : J X K nL g Q k sl n w pc lv st0 :=
  J_run (av := As.toArray) (fun H locs ls h1 h2 h3 h4 => vx_runS ⟨C.1, C.2.1, C.2.2.1, C.2.2.2.1, C.2.2.2.2.1⟩ con ⟨cw.callB C.2.2.2.2.1 hf hlo, C.2.2.2.2.1 _ hst⟩ ⟨jblind, jpre C.2.2.2.2.2.1 h1 h2 h3⟩ rfl hn h4.1 hs0 (lv_room hsum) dg hcells) hq kx kr
theorem J_callSN (C : Cx X K nL own cc) (cw : CN own index y bytes maxL ret na) (hst : Cond.static y ∈ TB) (con : Con X.2.1 K y (.code y bytes maxL ret :: TB) d mc ms g As n w Qr Qx) (hs0 : st0 = As.reverse ++ rest) (hn : As.length = na) (hf : d + 1 ≤ X.2.2.2.1.frames) (hlo : 8 + (maxL + 11) + 36 * d ≤ X.2.2.2.1.locals) (hsum : (rest.map fun v => v.category).sum ≤ 8) (hcells : k + mc ≤ X.2.2.2.1.cells ∧ sl + ms ≤ X.2.2.2.1.slots) (dg : decode cc pc = .ok (.invokestatic index, 3)) (hq : pc + 3 = q)
    (kx : ∀ (E : String) (n' : Nat) (w' : JW), Qx E n' w' → JT X K nL g Q (k + mc) (sl + ms) n' w' pc lv rest E) (kr : ∀ (v : Option Value) (n' : Nat) (w' : JW), Qr v n' w' → J X K nL g Q (k + mc) (sl + ms) n' w' q lv (v.toList ++ rest)) : J X K nL g Q k sl n w pc lv st0 :=
  J_run (av := As.toArray) (fun H locs ls h1 h2 h3 h4 => vx_runSN ⟨C.1, C.2.1, C.2.2.1, C.2.2.2.1, C.2.2.2.2.1⟩ con ⟨cw.cn C.2.2.2.2.1 C.2.2.2.2.2.1.2.2.1 hf hlo, C.2.2.2.2.1 _ hst, trivial⟩ ⟨jblind, jpre C.2.2.2.2.2.1 h1 h2 h3⟩ rfl hn h4.1 hs0 (lv_room hsum) dg hcells) hq kx kr
theorem J_callH {hh : List (Nat × Nat × Nat × Nat)} (C : Cx X K nL own cc) (cw : CH own index y bytes maxL ret hh na) (con : Con X.2.1 K y (.codeWith y bytes maxL ret hh :: TB) d mc ms g As n w Qr Qx) (hs0 : st0 = As.reverse ++ rest) (hn : As.length = na) (hf : d + 1 ≤ X.2.2.2.1.frames) (hlo : 8 + (maxL + 11) + 36 * d ≤ X.2.2.2.1.locals) (hsum : (rest.map fun v => v.category).sum ≤ 8) (hcells : k + mc ≤ X.2.2.2.1.cells ∧ sl + ms ≤ X.2.2.2.1.slots) (dg : decode cc pc = .ok (.invokestatic index, 3)) (hq : pc + 3 = q)
    (kx : ∀ (E : String) (n' : Nat) (w' : JW), Qx E n' w' → JT X K nL g Q (k + mc) (sl + ms) n' w' pc lv rest E) (kr : ∀ (v : Option Value) (n' : Nat) (w' : JW), Qr v n' w' → J X K nL g Q (k + mc) (sl + ms) n' w' q lv (v.toList ++ rest)) : J X K nL g Q k sl n w pc lv st0 :=
  J_run (av := As.toArray) (fun H locs ls h1 h2 h3 h4 => vx_runSX ⟨C.1, C.2.1, C.2.2.1, C.2.2.2.1, C.2.2.2.2.1⟩ con
    (vx_cwSW na C.2.2.2.2.1 (TB_in (fun w hw => by
      unfold va_wsS at hw
      rcases List.mem_append.mp hw with hw | hw
      · simp only [List.mem_cons, List.not_mem_nil, or_false] at hw
        rcases hw with rfl | rfl | rfl
        · exact cw.1
        · exact cw.2.2.2.1
        · exact cw.2.1
      · exact (List.mem_cons.mp hw).elim (fun e => e ▸ cw.2.2.1) id)) rfl rfl rfl ⟨cw.2.2.2.2.1, cw.2.2.2.2.2.1, cw.2.2.2.2.2.2⟩ ⟨hf, hlo⟩) ⟨jblind, jpre C.2.2.2.2.2.1 h1 h2 h3⟩ rfl hn h4.1 hs0 (lv_room hsum) dg hcells) hq kx kr
theorem J_callV (C : Cx X K nL own cc) {Cn : String} {T : u_T} {N ci a : Nat} {fs : List Value} (cw : CW own index y bytes maxL ret na) (hcls : y.cls = Cn) (hsel : Cond.selects Cn y y ∈ TB) (hinst : Cond.instanceMethod y ∈ TB) (ha : a < n) (he : w a = .inr (ci, fs)) (hc : vwCl[ci]? = some (Cn, T, N)) (con : Con X.2.1 K y (.code y bytes maxL ret :: TB) d mc ms g (.ref (K.2.2 + a) :: As) n w Qr Qx) (hs0 : st0 = As.reverse ++ .ref (K.2.2 + a) :: rest) (hn : As.length = na) (hf : d + 1 ≤ X.2.2.2.1.frames) (hlo : 8 + (maxL + 11) + 36 * d ≤ X.2.2.2.1.locals) (hsum : (rest.map fun v => v.category).sum ≤ 8) (hcells : k + mc ≤ X.2.2.2.1.cells ∧ sl + ms ≤ X.2.2.2.1.slots) (dg : decode cc pc = .ok (.invokevirtual index, 3)) (hq : pc + 3 = q)
    (kx : ∀ (E : String) (n' : Nat) (w' : JW), Qx E n' w' → JT X K nL g Q (k + mc) (sl + ms) n' w' pc lv rest E) (kr : ∀ (v : Option Value) (n' : Nat) (w' : JW), Qr v n' w' → J X K nL g Q (k + mc) (sl + ms) n' w' q lv (v.toList ++ rest)) : J X K nL g Q k sl n w pc lv st0 :=
  J_run (av := (.ref (K.2.2 + a) :: As).toArray) (fun H locs ls h1 h2 h3 h4 => vx_runV (C := Cn) ⟨C.1, C.2.1, C.2.2.1, C.2.2.2.1, C.2.2.2.2.1⟩ con ⟨cw.callB C.2.2.2.2.1 hf hlo, C.2.2.2.2.1 _ hinst, C.2.2.2.2.1 _ hsel⟩ ⟨jblind, va_recv C.2.2.2.2.2.1.1 h1 hc ((jwl_at ha).trans (by rw [he])), jpre C.2.2.2.2.2.1 h1 h2 h3⟩ rfl hn h4.1 hs0 (lv_room hsum) dg hcells) hq kx kr
theorem J_callI (C : Cx X K nL own cc) {a : Nat} (cw : CW own index y bytes maxL none na) (hy : y.name = "<init>") (hinst : Cond.instanceMethod y ∈ TB) (con : Con X.2.1 K y (.code y bytes maxL none :: TB) d mc ms g (.ref a :: As) n w Qr Qx) (hs0 : st0 = As.reverse ++ .ref a :: rest) (hn : As.length = na) (hf : d + 1 ≤ X.2.2.2.1.frames) (hlo : 8 + (maxL + 11) + 36 * d ≤ X.2.2.2.1.locals) (hsum : (rest.map fun v => v.category).sum ≤ 8) (hcells : k + mc ≤ X.2.2.2.1.cells ∧ sl + ms ≤ X.2.2.2.1.slots) (dg : decode cc pc = .ok (.invokespecial index, 3)) (hq : pc + 3 = q)
    (kx : ∀ (E : String) (n' : Nat) (w' : JW), Qx E n' w' → JT X K nL g Q (k + mc) (sl + ms) n' w' pc lv rest E) (kr : ∀ (v : Option Value) (n' : Nat) (w' : JW), Qr v n' w' → J X K nL g Q (k + mc) (sl + ms) n' w' q lv (v.toList ++ rest)) : J X K nL g Q k sl n w pc lv st0 :=
  J_run (av := (.ref a :: As).toArray) (fun H locs ls h1 h2 h3 h4 => vx_runI ⟨C.1, C.2.1, C.2.2.1, C.2.2.2.1, C.2.2.2.2.1⟩ con ⟨cw.callB C.2.2.2.2.1 hf hlo, hy, C.2.2.2.2.1 _ hinst⟩ ⟨jblind, jpre C.2.2.2.2.2.1 h1 h2 h3⟩ rfl hn h4.1 hs0 (lv_room hsum) dg hcells) hq kx kr
theorem J_callIN (C : Cx X K nL own cc) {a : Nat} (cw : CN own index y bytes maxL none na) (hy : y.name = "<init>") (hinst : Cond.instanceMethod y ∈ TB) (con : Con X.2.1 K y (.code y bytes maxL none :: TB) d mc ms g (.ref a :: As) n w Qr Qx) (hs0 : st0 = As.reverse ++ .ref a :: rest) (hn : As.length = na) (hf : d + 1 ≤ X.2.2.2.1.frames) (hlo : 8 + (maxL + 11) + 36 * d ≤ X.2.2.2.1.locals) (hsum : (rest.map fun v => v.category).sum ≤ 8) (hcells : k + mc ≤ X.2.2.2.1.cells ∧ sl + ms ≤ X.2.2.2.1.slots) (dg : decode cc pc = .ok (.invokespecial index, 3)) (hq : pc + 3 = q)
    (kx : ∀ (E : String) (n' : Nat) (w' : JW), Qx E n' w' → JT X K nL g Q (k + mc) (sl + ms) n' w' pc lv rest E) (kr : ∀ (v : Option Value) (n' : Nat) (w' : JW), Qr v n' w' → J X K nL g Q (k + mc) (sl + ms) n' w' q lv (v.toList ++ rest)) : J X K nL g Q k sl n w pc lv st0 :=
  J_run (av := (.ref a :: As).toArray) (fun H locs ls h1 h2 h3 h4 => vx_runIN ⟨C.1, C.2.1, C.2.2.1, C.2.2.2.1, C.2.2.2.2.1⟩ con ⟨cw.cn C.2.2.2.2.1 C.2.2.2.2.2.1.2.2.1 hf hlo, hy, C.2.2.2.2.1 _ hinst⟩ ⟨jblind, jpre C.2.2.2.2.2.1 h1 h2 h3⟩ rfl hn h4.1 hs0 (lv_room hsum) dg hcells) hq kx kr
end CALLS
/-- a body with handlers -/
theorem Con.enterH {l : Launch} {K : JK} {y : MethodName} {own : String} {cc : ByteArray} {maxL : Nat} {ret : Option FieldType} {hh : List (Nat × Nat × Nat × Nat)} {d mc ms : Nat} {g : Prop} {av : List Value} {n : Nat} {w : JW} {Qr : Option Value → Nat → JW → Prop} {Qx : String → Nat → JW → Prop}
    (hl : l.stackTraces = false) (hy : plainName y.cls = true) (hown : y.cls = own) (hlen : (lg_sl av).length ≤ maxL)
    (body : ∀ X : JX, X.2.1 = l → X.2.2.2.1 = jR d mc ms → Cx X K maxL own cc → X.2.2.2.2.2.2.2.2.1.sig.returnType = ret → X.2.2.2.2.2.2.2.2.2.exceptionTable.toList = tableOf hh → J X K maxL g (jQ X K mc ms Qr Qx g) 0 0 n w 0 (lv_args 0 av) []) :
    Con l K y (.codeWith y cc maxL ret hh :: TB) d mc ms g av n w Qr Qx := by
  refine vx_ofWH (cc := cc) (maxL := maxL) (ret := ret) (hh := hh) hy rfl ?_
  intro p e s m args below meth c s₁ B hml hv
  obtain ⟨rfl, hev, hP, hg⟩ := hv
  have hts := atoms_spec (ws := Cond.codeWith y cc maxL ret hh :: TB) B.pre
  have hown2 : s.vm.findClass own = some m.cls := by rw [← hown]; exact findClass_of_methodNamed B.named
  have h := body (p, l, e, jR d mc ms, s, m, av.toArray, below, meth, c) rfl rfl ⟨B.exec, B.bytes, hml, hown2, fun w hw => hts w (List.mem_cons_of_mem _ hw), hev, B.notSynchronized, hl⟩ B.returns (vx_table (x := y) (y := y) (bytes := cc) (maxL' := maxL) (ret' := ret) B (hts _ List.mem_cons_self))
  have hl2 := lv_entry av (n := maxL) hlen
  rw [lg_entry_eq]
  exact h s.heap [] _ hP va_S.rf hg hl2
end JC

/-! throws -/
def TH (ik ic : Nat) (cls : String) : Prop :=
  Bundle.fit cls = true ∧ Cond.classLink RX11 ik cls ∈ TB ∧ Cond.initialized cls ∈ TB ∧ (∀ w ∈ vx_atS RX11 ic cls ["java/lang/RuntimeException", "java/lang/Exception"], w ∈ TB ∨ w = .castable cls cls ∨ w ∈ CHN.map (fun q => Cond.declares (Bundle.initS q))) ∧ cls ∈ EXCS ∧ (∀ w ∈ Cond.classLink RX11 ik cls :: Cond.initialized cls :: vx_atS RX11 ic cls ["java/lang/RuntimeException", "java/lang/Exception"], vx_ot w = true)
section JTH
variable {X : JX} {K : JK} {nL : Nat} {g : Prop} {k sl n : Nat} {w : JW} {pc : Nat} {lv : List (Nat × Value)} {st : List Value} {cc : ByteArray} {mc ms : Nat} {Qr : Option Value → Nat → JW → Prop} {Qx : String → Nat → JW → Prop}
theorem TH.at {ik ic : Nat} {cls : String} (C : Cx X K nL RX11 cc) (t : TH ik ic cls) : ∀ w ∈ vx_atS RX11 ic cls ["java/lang/RuntimeException", "java/lang/Exception"], w.before X.2.2.2.2.2.2.1 X.2.2.2.2.1 = true := by
  intro w hw
  rcases t.2.2.2.1 w hw with h | rfl | h
  · exact C.2.2.2.2.1 _ h
  · exact va_Nw.use rfl (C.2.2.2.2.2.1.2.2.2.2.2.2.1 _ t.2.2.2.2.1)
  · obtain ⟨q, hq, rfl⟩ := List.mem_map.mp h
    exact va_Nw.use rfl (C.2.2.2.2.2.1.2.2.2.2.2.2.2.1 _ hq)
theorem J_throw {ik is ic : Nat} {cls text : String} (C : Cx X K nL RX11 cc) (hnt : jNoT X) (t : TH ik ic cls) (hs : (RX11, is, text) ∈ STRS)
    (d0 : decode cc pc = .ok (.new ik, 3)) (d3 : decode cc (pc + 3) = .ok (.dup, 1)) (d4 : decode cc (pc + 4) = .ok (.ldc is, 2)) (d6 : decode cc (pc + 6) = .ok (.invokespecial ic, 3)) (d9 : decode cc (pc + 9) = .ok (.athrow, 1))
    (hf : 5 < X.2.2.2.1.frames) (hlo : (st.map fun v => v.category).sum + 82 ≤ X.2.2.2.1.locals) (hc : k + 1 ≤ X.2.2.2.1.cells) (hsl : sl + 6 ≤ X.2.2.2.1.slots) (hmc : k + 1 ≤ mc) (hms : sl + 6 ≤ ms) (hx : Qx cls n w) : J X K nL g (jQ X K mc ms Qr Qx g) k sl n w pc lv st := by
  intro H locs ls h1 h2 h3 h4
  obtain ⟨sa, hstr⟩ := C.2.2.2.2.2.1.2.1 _ hs
  exact vx_throwS (names := ["java/lang/RuntimeException", "java/lang/Exception"]) C.1 C.2.1 C.2.2.2.2.2.2.2 C.2.2.2.1 t.1 (by decide +kernel) (C.2.2.2.2.1 _ t.2.1) (C.2.2.2.2.1 _ t.2.2.1) hstr (t.at C) t.2.2.2.2.2 C.2.2.2.2.2.1.2.2.2.2.1 C.2.2.2.2.2.1.2.2.2.2.2.1 h2 (h4.1.trans C.2.2.1.symm) d0 d3 d4 d6 d9 (fun x hx => (hnt x hx).elim) hf hlo hc hsl C.2.2.2.2.2.2.1 (fun t _ hz hq => ⟨⟨n, w, hx, h1.kept (fun k q hk => hq _ (h1 k q hk).lt)⟩, ⟨Nat.le_trans h2.1 hz, fun q a b => (hq q (Nat.lt_of_lt_of_le a h2.1)).trans (h2.2.1 q a b)⟩⟩) h2.2.2 hmc hms
theorem J_throwW {ik is ic : Nat} {cls text : String} (C : Cx X K nL RX11 cc) (hnt : jNoT X) (t : TH ik ic cls) (hs : (RX11, is, text) ∈ STRS)
    (d0 : decode cc pc = .ok (.new ik, 3)) (d3 : decode cc (pc + 3) = .ok (.dup, 1)) (d4 : decode cc (pc + 4) = .ok (.ldc_w is, 3)) (d7 : decode cc (pc + 7) = .ok (.invokespecial ic, 3)) (d10 : decode cc (pc + 10) = .ok (.athrow, 1))
    (hf : 5 < X.2.2.2.1.frames) (hlo : (st.map fun v => v.category).sum + 82 ≤ X.2.2.2.1.locals) (hc : k + 1 ≤ X.2.2.2.1.cells) (hsl : sl + 6 ≤ X.2.2.2.1.slots) (hmc : k + 1 ≤ mc) (hms : sl + 6 ≤ ms) (hx : Qx cls n w) : J X K nL g (jQ X K mc ms Qr Qx g) k sl n w pc lv st := by
  intro H locs ls h1 h2 h3 h4
  obtain ⟨sa, hstr⟩ := C.2.2.2.2.2.1.2.1 _ hs
  exact vx_throwSW (names := ["java/lang/RuntimeException", "java/lang/Exception"]) C.1 C.2.1 C.2.2.2.2.2.2.2 C.2.2.2.1 t.1 (by decide +kernel) (C.2.2.2.2.1 _ t.2.1) (C.2.2.2.2.1 _ t.2.2.1) hstr (t.at C) t.2.2.2.2.2 C.2.2.2.2.2.1.2.2.2.2.1 C.2.2.2.2.2.1.2.2.2.2.2.1 h2 (h4.1.trans C.2.2.1.symm) d0 d3 d4 d7 d10 (fun x hx => (hnt x hx).elim) hf hlo hc hsl C.2.2.2.2.2.2.1 (fun t _ hz hq => ⟨⟨n, w, hx, h1.kept (fun k q hk => hq _ (h1 k q hk).lt)⟩, ⟨Nat.le_trans h2.1 hz, fun q a b => (hq q (Nat.lt_of_lt_of_le a h2.1)).trans (h2.2.1 q a b)⟩⟩) h2.2.2 hmc hms
end JTH
