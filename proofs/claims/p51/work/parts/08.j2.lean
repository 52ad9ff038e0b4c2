section JH
variable {X : JX} {K : JK} {nL : Nat} {g : Prop} {Q : State → Prop} {k sl n : Nat} {w : JW} {pc q : Nat} {lv lv' : List (Nat × Value)} {st : List Value} {own : String} {cc : ByteArray}
theorem J_get (C : Cx X K nL own cc) {Cn : String} {T : u_T} {N ci index a kf : Nat} {fs : List Value} {v : Value} (hin : ∀ w ∈ u_ws Cn T N, w ∈ TB) (ha : a < n) (he : w a = .inr (ci, fs)) (hc : vwCl[ci]? = some (Cn, T, N)) (hk : kf < N) (hl : Cond.fieldLink own index (T kf).1 (T kf).2.1 (T kf).2.2.1 ∈ TB) (hv : fs[kf]? = some v) (d : decode cc pc = .ok (.getfield index, 3)) (hq : pc + 3 = q) (h : J X K nL g Q k sl n w q lv (v :: st)) : J X K nL g Q k sl n w pc lv (.ref (K.2.2 + a) :: st) := by
  subst hq
  intro H locs ls h1 h2 h3 h4
  exact va_get C.1 C.2.1 C.2.2.2.2.1 hin C.2.2.2.1 C.2.2.2.2.2.1.1 h1 a ((jwl_at ha).trans (by rw [he])) hc kf hk (C.2.2.2.2.1 _ hl) (fun _ h => h) hv d (h H locs ls h1 h2 h3 h4)
theorem J_put (C : Cx X K nL own cc) (hg : ¬ g) {Cn : String} {T : u_T} {N ci index a kf : Nat} {fs : List Value} {v : Value} {ty0 : Nat → FieldType} (hin : ∀ w ∈ u_ws Cn T N, w ∈ TB) (hty : ∀ k, k < N → parseFieldDescriptor (T k).2.2.1 = some (ty0 k)) (hnm : ∀ a, a < N → ∀ b, b < N → a ≠ b → (T a).2.1 ≠ (T b).2.1) (ha : a < n) (he : w a = .inr (ci, fs)) (hc : vwCl[ci]? = some (Cn, T, N)) (hk : kf < N) (hl : Cond.fieldLink own index (T kf).1 (T kf).2.1 (T kf).2.2.1 ∈ TB) (hfin : (T kf).2.2.2 = false) (hn : narrow (ty0 kf) v = v) (hfit : fits (ty0 kf) v = true) (hlen : kf < fs.length) (d : decode cc pc = .ok (.putfield index, 3)) (hq : pc + 3 = q) (h : J X K nL g Q k sl n (jup w a (.inr (ci, fs.set kf v))) q lv st) : J X K nL g Q k sl n w pc lv (v :: .ref (K.2.2 + a) :: st) := by
  subst hq
  intro H locs ls h1 h2 h3 h4
  exact va_put C.1 C.2.1 C.2.2.2.2.1 hin ty0 hty hnm C.2.2.2.1 C.2.2.2.2.2.1.1 h1 jwl_D h2 a ((jwl_at ha).trans (by rw [he])) hc kf hk (C.2.2.2.2.1 _ hl) (fun _ h => h) hfin (hty kf hk) hn hfit hlen d (fun H1 locs1 p1 _ p3 => h H1 locs1 ls (by rw [← jwl_set]; exact p1) p3 (fun z => absurd z hg) h4)
theorem J_alen (C : Cx X K nL own cc) {a t0 : Nat} {cA : ClassId} {x : vp_A} {ty : FieldType} {v : Int32} (ha : a < n) (he : w a = .inl (cA, x)) (ht : (jtys K)[t0]? = some (cA, ty)) (hv : Int32.ofNat x.1 = v) (d : decode cc pc = .ok (.arraylength, 1)) (hq : pc + 1 = q) (h : J X K nL g Q k sl n w q lv (.int v :: st)) : J X K nL g Q k sl n w pc lv (.ref (K.2.2 + a) :: st) := by
  subst hq
  intro H locs ls h1 h2 h3 h4
  exact va_alen C.1 C.2.1 C.2.2.2.2.2.1.1 h1 a t0 ((jwl_at ha).trans (by rw [he])) ht hv d (h H locs ls h1 h2 h3 h4)
theorem J_iald (C : Cx X K nL own cc) {a len : Nat} {f : Nat → Int32} {i : Int32} (ha : a < n) (he : w a = .inl (K.2.1.1, len, .inl f)) (hin : vp_in i len) (d : decode cc pc = .ok (.iaload, 1)) (hq : pc + 1 = q) (h : J X K nL g Q k sl n w q lv (.int (f i.toNatClampNeg) :: st)) : J X K nL g Q k sl n w pc lv (.int i :: .ref (K.2.2 + a) :: st) := by
  subst hq
  intro H locs ls h1 h2 h3 h4
  exact va_iald C.1 C.2.1 C.2.2.2.2.2.1.1 h1 a 0 ((jwl_at ha).trans (by rw [he])) rfl hin d (h H locs ls h1 h2 h3 h4)
theorem J_bald (C : Cx X K nL own cc) {a len : Nat} {f : Nat → Int32} {i : Int32} (ha : a < n) (he : w a = .inl (K.2.1.2.1, len, .inl f)) (hin : vp_in i len) (d : decode cc pc = .ok (.baload, 1)) (hq : pc + 1 = q) (h : J X K nL g Q k sl n w q lv (.int (f i.toNatClampNeg) :: st)) : J X K nL g Q k sl n w pc lv (.int i :: .ref (K.2.2 + a) :: st) := by
  subst hq
  intro H locs ls h1 h2 h3 h4
  exact va_bald C.1 C.2.1 C.2.2.2.2.2.1.1 h1 a 1 ((jwl_at ha).trans (by rw [he])) rfl hin d (h H locs ls h1 h2 h3 h4)
theorem J_zald (C : Cx X K nL own cc) {a len : Nat} {f : Nat → Int32} {i : Int32} (ha : a < n) (he : w a = .inl (K.2.1.2.2.1, len, .inl f)) (hin : vp_in i len) (d : decode cc pc = .ok (.baload, 1)) (hq : pc + 1 = q) (h : J X K nL g Q k sl n w q lv (.int (f i.toNatClampNeg) :: st)) : J X K nL g Q k sl n w pc lv (.int i :: .ref (K.2.2 + a) :: st) := by
  subst hq
  intro H locs ls h1 h2 h3 h4
  exact va_zald C.1 C.2.1 C.2.2.2.2.2.1.1 h1 a 2 ((jwl_at ha).trans (by rw [he])) rfl hin d (h H locs ls h1 h2 h3 h4)
theorem J_lald (C : Cx X K nL own cc) {a len : Nat} {f : Nat → Int64} {i : Int32} (ha : a < n) (he : w a = .inl (K.2.1.2.2.2.1, len, .inr (.inl f))) (hin : vp_in i len) (d : decode cc pc = .ok (.laload, 1)) (hq : pc + 1 = q) (h : J X K nL g Q k sl n w q lv (.long (f i.toNatClampNeg) :: st)) : J X K nL g Q k sl n w pc lv (.int i :: .ref (K.2.2 + a) :: st) := by
  subst hq
  intro H locs ls h1 h2 h3 h4
  exact va_lald C.1 C.2.1 C.2.2.2.2.2.1.1 h1 a 3 ((jwl_at ha).trans (by rw [he])) rfl hin d (h H locs ls h1 h2 h3 h4)
theorem J_iast (C : Cx X K nL own cc) (hg : ¬ g) {a len : Nat} {f : Nat → Int32} {i : Int32} {x : Int32} (ha : a < n) (he : w a = .inl (K.2.1.1, len, .inl f)) (hin : vp_in i len) (d : decode cc pc = .ok (.iastore, 1)) (hq : pc + 1 = q) (h : J X K nL g Q k sl n (jup w a (.inl (K.2.1.1, len, .inl (upd f i.toNatClampNeg x)))) q lv st) : J X K nL g Q k sl n w pc lv (.int x :: .int i :: .ref (K.2.2 + a) :: st) := by
  subst hq
  intro H locs ls h1 h2 h3 h4
  exact va_iast C.1 C.2.1 C.2.2.2.2.2.1.1 h1 jwl_D h2 a 0 ((jwl_at ha).trans (by rw [he])) rfl hin d (fun H1 locs1 p1 _ p3 => h H1 locs1 ls (by rw [← jwl_set]; exact p1) p3 (fun z => absurd z hg) h4)
theorem J_bast (C : Cx X K nL own cc) (hg : ¬ g) {a len : Nat} {f : Nat → Int32} {i : Int32} {x : Int32} (ha : a < n) (he : w a = .inl (K.2.1.2.1, len, .inl f)) (hin : vp_in i len) (d : decode cc pc = .ok (.bastore, 1)) (hq : pc + 1 = q) (h : J X K nL g Q k sl n (jup w a (.inl (K.2.1.2.1, len, .inl (upd f i.toNatClampNeg (vp_nar .byte x))))) q lv st) : J X K nL g Q k sl n w pc lv (.int x :: .int i :: .ref (K.2.2 + a) :: st) := by
  subst hq
  intro H locs ls h1 h2 h3 h4
  exact va_bast C.1 C.2.1 C.2.2.2.2.2.1.1 h1 jwl_D h2 a 1 ((jwl_at ha).trans (by rw [he])) rfl hin d (fun H1 locs1 p1 _ p3 => h H1 locs1 ls (by rw [← jwl_set]; exact p1) p3 (fun z => absurd z hg) h4)
theorem J_zast (C : Cx X K nL own cc) (hg : ¬ g) {a len : Nat} {f : Nat → Int32} {i : Int32} {x : Int32} (ha : a < n) (he : w a = .inl (K.2.1.2.2.1, len, .inl f)) (hin : vp_in i len) (d : decode cc pc = .ok (.bastore, 1)) (hq : pc + 1 = q) (h : J X K nL g Q k sl n (jup w a (.inl (K.2.1.2.2.1, len, .inl (upd f i.toNatClampNeg (vp_nar .boolean x))))) q lv st) : J X K nL g Q k sl n w pc lv (.int x :: .int i :: .ref (K.2.2 + a) :: st) := by
  subst hq
  intro H locs ls h1 h2 h3 h4
  exact va_zast C.1 C.2.1 C.2.2.2.2.2.1.1 h1 jwl_D h2 a 2 ((jwl_at ha).trans (by rw [he])) rfl hin d (fun H1 locs1 p1 _ p3 => h H1 locs1 ls (by rw [← jwl_set]; exact p1) p3 (fun z => absurd z hg) h4)
theorem J_last (C : Cx X K nL own cc) (hg : ¬ g) {a len : Nat} {f : Nat → Int64} {i : Int32} {x : Int64} (ha : a < n) (he : w a = .inl (K.2.1.2.2.2.1, len, .inr (.inl f))) (hin : vp_in i len) (d : decode cc pc = .ok (.lastore, 1)) (hq : pc + 1 = q) (h : J X K nL g Q k sl n (jup w a (.inl (K.2.1.2.2.2.1, len, .inr (.inl (vp_updL f i.toNatClampNeg x))))) q lv st) : J X K nL g Q k sl n w pc lv (.long x :: .int i :: .ref (K.2.2 + a) :: st) := by
  subst hq
  intro H locs ls h1 h2 h3 h4
  exact va_last C.1 C.2.1 C.2.2.2.2.2.1.1 h1 jwl_D h2 a 3 ((jwl_at ha).trans (by rw [he])) rfl hin d (fun H1 locs1 p1 _ p3 => h H1 locs1 ls (by rw [← jwl_set]; exact p1) p3 (fun z => absurd z hg) h4)
theorem J_copyi (C : Cx X K nL own cc) (hg : ¬ g) {index a a0 t0 : Nat} {c0 : ClassId} {n0 n1 : Nat} {f f1 : Nat → Int32} {ty : FieldType} {sp dp m : Int32} (hl : Cond.methodLink own index arraycopyName ∈ TB) (hnat : Cond.native arraycopyName ∈ TB) (hst : Cond.static arraycopyName ∈ TB) (hini : Cond.initialized "java/lang/System" ∈ TB) (ha0 : a0 < n) (ha : a < n) (he0 : w a0 = .inl (c0, n0, .inl f)) (he1 : w a = .inl (c0, n1, .inl f1)) (ht : (jtys K)[t0]? = some (c0, ty)) (hprim : refKind ty = false)
    (h1 : ¬ sp < 0) (h2 : ¬ dp < 0) (h3 : ¬ m < 0) (h4 : sp.toNatClampNeg + m.toNatClampNeg ≤ n0) (h5 : dp.toNatClampNeg + m.toNatClampNeg ≤ n1) (hfit : ∀ i, i < m.toNatClampNeg → fits ty (.int (f (sp.toNatClampNeg + i))) = true) (hfr : 1 ≤ X.2.2.2.1.frames) (hlo : (st.map fun v => v.category).sum + (nativeFrameWords "java/lang/System" "arraycopy" 5 + 11) ≤ X.2.2.2.1.locals)
    (d : decode cc pc = .ok (.invokestatic index, 3)) (hq : pc + 3 = q) (h : J X K nL g Q k sl n (jup w a (.inl (c0, n1, .inl (va_cpy f f1 sp.toNatClampNeg dp.toNatClampNeg m.toNatClampNeg)))) q lv st) : J X K nL g Q k sl n w pc lv (.int m :: .int dp :: .ref (K.2.2 + a) :: .int sp :: .ref (K.2.2 + a0) :: st) := by
  subst hq
  intro H locs ls p1 p2 p3 p4
  exact va_copyi C.1 C.2.1 (C.2.2.1.trans p4.1.symm) C.2.2.2.1 (C.2.2.2.2.1 _ hl) (C.2.2.2.2.1 _ hnat) (C.2.2.2.2.1 _ hst) (C.2.2.2.2.1 _ hini) C.2.2.2.2.2.1.1 p1 jwl_D p2 a0 a t0 t0 ((jwl_at ha0).trans (by rw [he0])) ((jwl_at ha).trans (by rw [he1])) ht ht hprim h1 h2 h3 h4 h5 hfit hfr hlo d (fun H1 locs1 r1 _ r3 => h H1 locs1 ls (by rw [← jwl_set]; exact r1) r3 (fun z => absurd z hg) p4)
theorem J_copyl (C : Cx X K nL own cc) (hg : ¬ g) {index a a0 : Nat} {n0 n1 : Nat} {f f1 : Nat → Int64} {sp dp m : Int32} (hl : Cond.methodLink own index arraycopyName ∈ TB) (hnat : Cond.native arraycopyName ∈ TB) (hst : Cond.static arraycopyName ∈ TB) (hini : Cond.initialized "java/lang/System" ∈ TB) (ha0 : a0 < n) (ha : a < n) (he0 : w a0 = .inl (K.2.1.2.2.2.1, n0, .inr (.inl f))) (he1 : w a = .inl (K.2.1.2.2.2.1, n1, .inr (.inl f1)))
    (h1 : ¬ sp < 0) (h2 : ¬ dp < 0) (h3 : ¬ m < 0) (h4 : sp.toNatClampNeg + m.toNatClampNeg ≤ n0) (h5 : dp.toNatClampNeg + m.toNatClampNeg ≤ n1) (hfr : 1 ≤ X.2.2.2.1.frames) (hlo : (st.map fun v => v.category).sum + (nativeFrameWords "java/lang/System" "arraycopy" 5 + 11) ≤ X.2.2.2.1.locals)
    (d : decode cc pc = .ok (.invokestatic index, 3)) (hq : pc + 3 = q) (h : J X K nL g Q k sl n (jup w a (.inl (K.2.1.2.2.2.1, n1, .inr (.inl (va_cpy f f1 sp.toNatClampNeg dp.toNatClampNeg m.toNatClampNeg))))) q lv st) : J X K nL g Q k sl n w pc lv (.int m :: .int dp :: .ref (K.2.2 + a) :: .int sp :: .ref (K.2.2 + a0) :: st) := by
  subst hq
  intro H locs ls p1 p2 p3 p4
  exact va_copyl C.1 C.2.1 (C.2.2.1.trans p4.1.symm) C.2.2.2.1 (C.2.2.2.2.1 _ hl) (C.2.2.2.2.1 _ hnat) (C.2.2.2.2.1 _ hst) (C.2.2.2.2.1 _ hini) C.2.2.2.2.2.1.1 p1 jwl_D p2 a0 a 3 3 ((jwl_at ha0).trans (by rw [he0])) ((jwl_at ha).trans (by rw [he1])) rfl rfl rfl h1 h2 h3 h4 h5 (fun _ _ => rfl) hfr hlo d (fun H1 locs1 r1 _ r3 => h H1 locs1 ls (by rw [← jwl_set]; exact r1) r3 (fun z => absurd z hg) p4)
/-! ends -/
section JE
variable {mc ms : Nat} {Qr : Option Value → Nat → JW → Prop} {Qx : String → Nat → JW → Prop}
theorem J_end {o : Option Value} {f : JFrame} (hk : k ≤ mc) (hs : sl ≤ ms) {H : Heap} {locs : List Loc} (h1 : va_P K.1 vwCl (jwl K.2.2 n w) H) (h2 : va_S (jA K) X.2.2.2.2.1.heap H locs) (h3 : g → H.size = K.2.2 + n) (hr : Qr o n w)
    (kk : (∀ t : State, t.heap = H → X.2.2.2.2.1.WarmedH t.vm → jQc K Qr g X.2.2.2.2.2.2.1 X.2.2.2.2.1 (.returned o) t) → (∀ q ∈ locs, jA K q.base) → W X.1 X.2.1 X.2.2.1 X.2.2.2.1 X.2.2.2.2.1 X.2.2.2.2.2.1 X.2.2.2.2.2.2.1 X.2.2.2.2.2.2.2.1 X.2.2.2.2.2.2.2.2.1 X.2.2.2.2.2.2.2.2.2 H locs mc ms (MQ X.2.2.2.2.2.2.2.1 (jQc K Qr g) X.2.2.2.2.2.2.1 X.2.2.2.2.1 mc ms (jA K)) f) :
    W X.1 X.2.1 X.2.2.1 X.2.2.2.1 X.2.2.2.2.1 X.2.2.2.2.2.1 X.2.2.2.2.2.2.1 X.2.2.2.2.2.2.2.1 X.2.2.2.2.2.2.2.2.1 X.2.2.2.2.2.2.2.2.2 H locs k sl (jQ X K mc ms Qr Qx g) f :=
  W.widen hk hs (vx_ret (kk (fun t ht _ => ⟨⟨o, n, w, rfl, hr, by rw [ht]; exact h1, fun z => by rw [ht]; exact h3 z⟩, h2.F ht⟩) h2.2.2))
theorem J_iret (C : Cx X K nL own cc) {v : Int32} (hret : X.2.2.2.2.2.2.2.2.1.sig.returnType = some .int) (hk : k ≤ mc) (hs : sl ≤ ms) (hr : Qr (some (.int v)) n w) (d : decode cc pc = .ok (.ireturn, 1)) : J X K nL g (jQ X K mc ms Qr Qx g) k sl n w pc lv [.int v] := by
  intro H locs ls h1 h2 h3 h4
  exact J_end hk hs h1 h2 h3 hr (fun a b => W.iret C.1 C.2.1 hret a b d C.2.2.2.2.2.2.1)
theorem J_zret (C : Cx X K nL own cc) {v : Int32} (hret : X.2.2.2.2.2.2.2.2.1.sig.returnType = some .boolean) (hn : narrow .boolean (.int v) = .int v) (hk : k ≤ mc) (hs : sl ≤ ms) (hr : Qr (some (.int v)) n w) (d : decode cc pc = .ok (.ireturn, 1)) : J X K nL g (jQ X K mc ms Qr Qx g) k sl n w pc lv [.int v] := by
  intro H locs ls h1 h2 h3 h4
  exact J_end hk hs h1 h2 h3 hr (fun a b => W.zret C.1 C.2.1 hret hn a b d C.2.2.2.2.2.2.1)
theorem J_vret (C : Cx X K nL own cc) (hret : X.2.2.2.2.2.2.2.2.1.sig.returnType = none) (hk : k ≤ mc) (hs : sl ≤ ms) (hr : Qr none n w) (d : decode cc pc = .ok (.return_, 1)) : J X K nL g (jQ X K mc ms Qr Qx g) k sl n w pc lv [] := by
  intro H locs ls h1 h2 h3 h4
  exact J_end hk hs h1 h2 h3 hr (fun a b => W.vret C.1 C.2.1 hret a b d C.2.2.2.2.2.2.1)
theorem J_aret (C : Cx X K nL own cc) {v : Value} {rt : FieldType} (hret : X.2.2.2.2.2.2.2.2.1.sig.returnType = some rt) (hrt : (∃ n, rt = .object n) ∨ ∃ t, rt = .array t) (hv : v = .null ∨ ∃ a, v = .ref a) (hk : k ≤ mc) (hs : sl ≤ ms) (hr : Qr (some v) n w) (d : decode cc pc = .ok (.areturn, 1)) : J X K nL g (jQ X K mc ms Qr Qx g) k sl n w pc lv [v] := by
  intro H locs ls h1 h2 h3 h4
  exact J_end hk hs h1 h2 h3 hr (fun a b => W.aret C.1 C.2.1 hret hrt hv a b d C.2.2.2.2.2.2.1)
theorem J_dret (C : Cx X K nL own cc) {v : UInt64} (hret : X.2.2.2.2.2.2.2.2.1.sig.returnType = some .double) (hk : k ≤ mc) (hs : sl ≤ ms) (hr : Qr (some (.double v)) n w) (d : decode cc pc = .ok (.dreturn, 1)) : J X K nL g (jQ X K mc ms Qr Qx g) k sl n w pc lv [.double v] := by
  intro H locs ls h1 h2 h3 h4
  exact J_end hk hs h1 h2 h3 hr (fun a b => W.dret C.1 C.2.1 hret a b d C.2.2.2.2.2.2.1)
theorem J_fret (C : Cx X K nL own cc) {v : UInt32} (hret : X.2.2.2.2.2.2.2.2.1.sig.returnType = some .float) (hk : k ≤ mc) (hs : sl ≤ ms) (hr : Qr (some (.float v)) n w) (d : decode cc pc = .ok (.freturn, 1)) : J X K nL g (jQ X K mc ms Qr Qx g) k sl n w pc lv [.float v] := by
  intro H locs ls h1 h2 h3 h4
  exact J_end hk hs h1 h2 h3 hr (fun a b => W.fret C.1 C.2.1 hret a b d C.2.2.2.2.2.2.1)
end JE
end JH
