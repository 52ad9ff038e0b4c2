abbrev STRS : List (String × Nat × String) := [("Cursorroom", 84, "a byte is no letter"), ("Cursorroom", 94, "the tape would be too long"), ("Cursorroom", 397, "there is no such place"), ("Cursorroom", 195, "from is greater than to"), ("Cursorroom", 399, "there is no such line"), ("Cursorroom", 121, "there are fewer lines"), ("Cursorroom", 124, "no such block"), ("Cursorroom", 138, "refused"), ("Cursorroom", 145, "many is out of range"), ("Cursorroom", 165, "no such range or number"), ("Cursorroom", 182, "width is out of range"), ("Cursorroom", 203, "there is no pattern"), ("Cursorroom", 233, "there is no such continuation"), ("Cursorroom", 262, "what is out of range"), ("Cursorroom", 273, "there are 8 cursors"), ("Cursorroom", 278, "way or by is out of range"), ("Cursorroom", 283, "there is no such cursor"), ("Cursorroom", 401, "there is no such mark"), ("Cursorroom", 301, "the tape is no pattern"), ("Cursorroom", 316, "from is not less than to"), ("Cursorroom", 322, "a cursor is in one of the lines"), ("Cursorroom", 348, "times is out of range"), ("Cursorroom", 350, "it records"), ("Cursorroom", 363, "there is no such letter"), ("Cursorroom", 371, "column is below 0")]
abbrev NEST : List (String × Nat × MethodName × String) := [("Cursorroom", 27, ⟨"Cursorroom$Clip", "<init>", "()V"⟩, "Cursorroom"), ("Cursorroom", 34, ⟨"Cursorroom$Change", "<init>", "()V"⟩, "Cursorroom"), ("Cursorroom$History", 21, ⟨"Cursorroom$Act", "<init>", "()V"⟩, "Cursorroom"), ("Cursorroom$Act", 18, ⟨"Cursorroom$Moment", "<init>", "()V"⟩, "Cursorroom"), ("Cursorroom", 48, ⟨"Cursorroom$Search", "<init>", "()V"⟩, "Cursorroom"), ("Cursorroom", 55, ⟨"Cursorroom$Steps", "<init>", "()V"⟩, "Cursorroom"), ("Cursorroom", 62, ⟨"Cursorroom$Comparison", "<init>", "()V"⟩, "Cursorroom"), ("Cursorroom$Change", 115, ⟨"Cursorroom", "openFold", "([ZII)I"⟩, "Cursorroom"), ("Cursorroom$Sheet", 69, ⟨"Cursorroom", "openFold", "([ZII)I"⟩, "Cursorroom"), ("Cursorroom$Search", 46, ⟨"Cursorroom", "isOfWord", "(I)Z"⟩, "Cursorroom"), ("Cursorroom$Sheet", 52, ⟨"Cursorroom", "columnBehind", "(III)I"⟩, "Cursorroom"), ("Cursorroom$Walk", 50, ⟨"Cursorroom", "isOfWord", "(I)Z"⟩, "Cursorroom"), ("Cursorroom$Sheet", 73, ⟨"Cursorroom", "isOfWord", "(I)Z"⟩, "Cursorroom")]
abbrev EXCS : List String := ["java/lang/IndexOutOfBoundsException", "java/lang/IllegalArgumentException", "java/lang/IllegalStateException", "java/util/NoSuchElementException"]
abbrev CHN : List String := ["java/lang/RuntimeException", "java/lang/Exception", "java/lang/Throwable"]
abbrev NCS : List (String × String) := [("java/lang/IndexOutOfBoundsException", "java/lang/IllegalArgumentException"), ("java/lang/IndexOutOfBoundsException", "java/lang/IllegalStateException"), ("java/lang/IndexOutOfBoundsException", "java/util/NoSuchElementException"), ("java/lang/IndexOutOfBoundsException", "java/lang/StringIndexOutOfBoundsException"), ("java/lang/IllegalArgumentException", "java/lang/IndexOutOfBoundsException"), ("java/lang/IllegalArgumentException", "java/lang/IllegalStateException"), ("java/lang/IllegalArgumentException", "java/util/NoSuchElementException"), ("java/lang/IllegalArgumentException", "java/lang/StringIndexOutOfBoundsException"), ("java/lang/IllegalStateException", "java/lang/IndexOutOfBoundsException"), ("java/lang/IllegalStateException", "java/lang/IllegalArgumentException"), ("java/lang/IllegalStateException", "java/util/NoSuchElementException"), ("java/lang/IllegalStateException", "java/lang/StringIndexOutOfBoundsException"), ("java/util/NoSuchElementException", "java/lang/IndexOutOfBoundsException"), ("java/util/NoSuchElementException", "java/lang/IllegalArgumentException"), ("java/util/NoSuchElementException", "java/lang/IllegalStateException"), ("java/util/NoSuchElementException", "java/lang/StringIndexOutOfBoundsException")]
theorem TB_in {ws : List Cond} (h : ∀ w ∈ ws, w ∈ TB) : GoodIn TB ws := fun w hw => ⟨h w hw, TB_good (h w hw)⟩
/-! what a body stands in: program, launch, environment, room, start, method, arguments, frames below, method, code -/
abbrev JX : Type := Program × Launch × Env × Room × State × MethodId × Array Value × List Frame × Method × Code
/-- the claim's own: classes and slots, the five array classes (int, byte, boolean, long, acts), the first address -/
abbrev JK : Type := va_G × (ClassId × ClassId × ClassId × ClassId × ClassId) × Nat
/-- what the cells hold, by their numbers -/
abbrev JW : Type := Nat → va_E
def jtys (K : JK) : List (ClassId × FieldType) := [(K.2.1.1, .int), (K.2.1.2.1, .byte), (K.2.1.2.2.1, .boolean), (K.2.1.2.2.2.1, .long), (K.2.1.2.2.2.2, .object "Cursorroom$Act")]
def jA (K : JK) : Nat → Prop := fun q => K.2.2 ≤ q
def jwl (b n : Nat) (w : JW) : va_W := (List.range n).map (fun k => (b + k, w k))
def jup (w : JW) (a : Nat) (e : va_E) : JW := fun j => if j = a then e else w j
theorem jwl_at {b n a : Nat} {w : JW} (h : a < n) : (jwl b n w)[a]? = some (b + a, w a) := by
  simp [jwl, h]
theorem jwl_len {b n : Nat} {w : JW} : (jwl b n w).length = n := by simp [jwl]
theorem jwl_set {b n a : Nat} {w : JW} (e : va_E) : (jwl b n w).set a (b + a, e) = jwl b n (jup w a e) := by
  apply List.ext_getElem?
  intro i
  rw [List.getElem?_set]
  by_cases hi : i < n
  · rw [jwl_at hi, jwl_len]
    by_cases ha : a = i
    · subst ha
      simp [hi, jwl_at hi, jup]
    · rw [if_neg ha, jwl_at hi]
      simp [jup, Ne.symm ha]
  · have h1 : (jwl b n (jup w a e))[i]? = none := by rw [List.getElem?_eq_none_iff, jwl_len]; omega
    have h2 : (jwl b n w)[i]? = none := by rw [List.getElem?_eq_none_iff, jwl_len]; omega
    rw [h1, h2, jwl_len]
    by_cases ha : a = i
    · subst ha
      simp [hi]
    · simp [ha]
theorem jwl_push {b n : Nat} {w : JW} (e : va_E) : jwl b n w ++ [(b + n, e)] = jwl b (n + 1) (jup w n e) := by
  unfold jwl
  rw [List.range_succ, List.map_append]
  congr 1
  · apply List.map_congr_left
    intro k hk
    have := List.mem_range.mp hk
    simp [jup, Nat.ne_of_lt this]
  · simp [jup]
theorem jwl_D {K : JK} {n : Nat} {w : JW} : va_D (jA K) (jwl K.2.2 n w) := by
  have key : ∀ (k : Nat) (q : Nat × va_E), (jwl K.2.2 n w)[k]? = some q → q.1 = K.2.2 + k := by
    intro k q h
    by_cases hk : k < n
    · rw [jwl_at hk] at h
      rw [← Option.some.inj h]
    · rw [List.getElem?_eq_none_iff.mpr (by rw [jwl_len]; omega)] at h
      cases h
  refine ⟨fun i j p q hi hj h => ?_, fun k q h => ?_⟩
  · have h1 := key i p hi
    have h2 := key j q hj
    omega
  · have h1 := key k q h
    show K.2.2 ≤ q.1
    omega
/-! what else of the start is needed: words that are not of the tables alone -/
def jstr (U : State) : Prop := ∀ q ∈ (STRS : List (String × Nat × String)), ∃ sa : Nat, vk_R q.1 q.2.1 q.2.2 sa U
def jnest (U : State) : Prop := ∀ q ∈ (NEST : List (String × Nat × MethodName × String)), va_Nw (.methodLinkNest q.1 q.2.1 q.2.2.1 q.2.2.2) U
def jnc (U : State) : Prop := ∀ q ∈ (NCS : List (String × String)), va_Nc q.1 q.2 U
def jcast (U : State) : Prop := ∀ q ∈ (EXCS : List String), va_Nw (.castable q q) U
def jdecl (K : JK) (U : State) : Prop := (∀ q ∈ (CHN : List String), va_Nw (.declares (Bundle.initS q)) U) ∧ va_AO "Cursorroom$Act" U ∧ ArrOfT U (K.1.1 99) (.array .int)
def EV (K : JK) (U : State) : Prop := va_K K.1 vwCl (jtys K) U ∧ jstr U ∧ jnest U ∧ jnc U ∧ vx_Zq Bundle.tN "UNASSIGNED_STACK" Bundle.steD (jA K) U U.heap ∧ vx_Zq Bundle.tN "SUPPRESSED_SENTINEL" Bundle.listD (jA K) U U.heap ∧ jcast U ∧ jdecl K U
theorem EV.same {K : JK} {u U : State} (hv : u.vm = U.vm) (hh : u.heap = U.heap) (h : EV K u) : EV K U := by
  have ha : u.vm.Alike U.vm := by rw [hv]; exact Vm.Alike.refl _
  obtain ⟨h1, h2, h3, h4, h5, h6, h7, h8⟩ := h
  refine ⟨va_K.moved ha h1, fun q hq => ?_, fun q hq => va_Nw.same rfl hv (h3 q hq), fun q hq => (h4 q hq).moved ha, ?_, ?_, fun q hq => va_Nw.same rfl hv (h7 q hq), fun q hq => va_Nw.same rfl hv (h8.1 q hq), h8.2.1.moved ha, arrOfT_moved ha h8.2.2⟩
  · obtain ⟨sa, hs⟩ := h2 q hq
    exact ⟨sa, hs.same hv.symm⟩
  · rw [← hh]; exact h5.moved ha
  · rw [← hh]; exact h6.moved ha
theorem EV.warm {K : JK} {s U : State} {H : Heap} {locs : List Loc} (hW : s.WarmedH U.vm) (hS : va_S (jA K) s.heap H locs) (hh : U.heap = H) (h : EV K s) : EV K U := by
  obtain ⟨h1, h2, h3, h4, h5, h6, h7, h8⟩ := h
  refine ⟨va_K.moved hW.alike h1, fun q hq => ?_, fun q hq => va_Nw.warmM hW (h3 q hq), fun q hq => (h4 q hq).moved hW.alike, ?_, ?_, fun q hq => va_Nw.warmC hW (h7 q hq), fun q hq => va_Nw.warmD hW (h8.1 q hq), h8.2.1.moved hW.alike, arrOfT_moved hW.alike h8.2.2⟩
  · obtain ⟨sa, hs⟩ := h2 q hq
    exact ⟨sa, hs.warm hW⟩
  · rw [hh]; exact (h5.kept hS.2.1).moved hW.alike
  · rw [hh]; exact (h6.kept hS.2.1).moved hW.alike
theorem EV.calling {K : JK} {U : State} {g : JFrame} {mk : MethodId} {a : Array Value} (h : EV K U) : EV K (U.calling g mk a) := h.same (u := U) (U := U.calling g mk a) rfl rfl
/-- what holds at a body's start -/
def Cx (X : JX) (K : JK) (nL : Nat) (own : String) (cc : ByteArray) : Prop :=
  X.1.tables.exec = Jvm.exec ∧ X.2.2.2.2.2.2.2.2.2.code = cc ∧ X.2.2.2.2.2.2.2.2.2.maxLocals = nL ∧ X.2.2.2.2.1.vm.findClass own = some X.2.2.2.2.2.1.cls ∧ (∀ w ∈ TB, w.before X.2.2.2.2.2.2.1 X.2.2.2.2.1 = true) ∧ EV K X.2.2.2.2.1 ∧ X.2.2.2.2.2.2.2.2.1.locks = false ∧ X.2.1.stackTraces = false
def J (X : JX) (K : JK) (nL : Nat) (g : Prop) (Q : State → Prop) (k sl n : Nat) (w : JW) (pc : Nat) (lv : List (Nat × Value)) (st : List Value) : Prop :=
  ∀ (H : Heap) (locs : List Loc) (ls : Array Slot), va_P K.1 vwCl (jwl K.2.2 n w) H → va_S (jA K) X.2.2.2.2.1.heap H locs → (g → H.size = K.2.2 + n) → lv_has ls nL lv → W X.1 X.2.1 X.2.2.1 X.2.2.2.1 X.2.2.2.2.1 X.2.2.2.2.2.1 X.2.2.2.2.2.2.1 X.2.2.2.2.2.2.2.1 X.2.2.2.2.2.2.2.2.1 X.2.2.2.2.2.2.2.2.2 H locs k sl Q (F0 X.2.2.2.2.2.1 pc ls st)
/-- a method's end: what it answers and leaves, what it throws and leaves -/
def jQc (K : JK) (Qr : Option Value → Nat → JW → Prop) (g : Prop) : Array Value → State → Outcome → State → Prop := fun _ st o t => (∃ (v : Option Value) (n : Nat) (w : JW), o = .returned v ∧ Qr v n w ∧ va_P K.1 vwCl (jwl K.2.2 n w) t.heap ∧ (g → t.heap.size = K.2.2 + n)) ∧ va_F (jA K) st t
def jXc (K : JK) (Qx : String → Nat → JW → Prop) : String → State → State → Prop := fun E st t => (∃ (n : Nat) (w : JW), Qx E n w ∧ va_P K.1 vwCl (jwl K.2.2 n w) t.heap) ∧ va_F (jA K) st t
def jQ (X : JX) (K : JK) (mc ms : Nat) (Qr : Option Value → Nat → JW → Prop) (Qx : String → Nat → JW → Prop) (g : Prop) : State → Prop := vx_MQ X.2.2.2.2.2.2.2.1 (jQc K Qr g) (jXc K Qx) X.2.2.2.2.2.2.1 X.2.2.2.2.1 mc ms (jA K)
def jR (d mc ms : Nat) : Room := { frames := d, cells := mc, slots := ms, locals := 36 * d }
/-- a contract -/
def Con (l : Launch) (K : JK) (y : MethodName) (ws : List Cond) (d mc ms : Nat) (g : Prop) (av : List Value) (n : Nat) (w : JW) (Qr : Option Value → Nat → JW → Prop) (Qx : String → Nat → JW → Prop) : Prop :=
  vx_Met l y ws (jR d mc ms) (va_Pc av (fun U => EV K U ∧ va_P K.1 vwCl (jwl K.2.2 n w) U.heap ∧ (g → U.heap.size = K.2.2 + n))) (jQc K Qr g) (jXc K Qx) mc ms (jA K)
def jNoT (X : JX) : Prop := ∀ x ∈ X.2.2.2.2.2.2.2.2.2.exceptionTable.toList, False
set_option maxHeartbeats 1000000 in
theorem Con.enter {l : Launch} {K : JK} {y : MethodName} {own : String} {cc : ByteArray} {maxL : Nat} {ret : Option FieldType} {d mc ms : Nat} {g : Prop} {av : List Value} {n : Nat} {w : JW} {Qr : Option Value → Nat → JW → Prop} {Qx : String → Nat → JW → Prop}
    (hl : l.stackTraces = false) (hy : plainName y.cls = true) (hown : y.cls = own) (hlen : (lg_sl av).length ≤ maxL)
    (body : ∀ X : JX, X.2.1 = l → X.2.2.2.1 = jR d mc ms → Cx X K maxL own cc → X.2.2.2.2.2.2.2.2.1.sig.returnType = ret → jNoT X → J X K maxL g (jQ X K mc ms Qr Qx g) 0 0 n w 0 (lv_args 0 av) []) :
    Con l K y (.code y cc maxL ret :: TB) d mc ms g av n w Qr Qx := by
  refine vx_ofW (cc := cc) (maxL := maxL) (ret := ret) hy rfl ?_
  intro p e s m args below meth c s₁ B hml hnt hv
  obtain ⟨rfl, hev, hP, hg⟩ := hv
  have hts := atoms_spec (ws := Cond.code y cc maxL ret :: TB) B.pre
  have hown2 : s.vm.findClass own = some m.cls := by rw [← hown]; exact findClass_of_methodNamed B.named
  have h := body (p, l, e, jR d mc ms, s, m, av.toArray, below, meth, c) rfl rfl ⟨B.exec, B.bytes, hml, hown2, fun w hw => hts w (List.mem_cons_of_mem _ hw), hev, B.notSynchronized, hl⟩ B.returns hnt
  have hl2 := lv_entry av (n := maxL) hlen
  rw [lg_entry_eq]
  exact h s.heap [] _ hP va_S.rf hg hl2
theorem J.widen {X : JX} {K : JK} {nL : Nat} {g : Prop} {Q : State → Prop} {k sl k' sl' n : Nat} {w : JW} {pc : Nat} {lv : List (Nat × Value)} {st : List Value} (h1 : k ≤ k') (h2 : sl ≤ sl') (h : J X K nL g Q k' sl' n w pc lv st) : J X K nL g Q k sl n w pc lv st :=
  fun H locs ls a1 a2 a3 a4 => W.widen h1 h2 (h H locs ls a1 a2 a3 a4)
/-- fewer or reordered locals -/
theorem J.sub {X : JX} {K : JK} {nL : Nat} {g : Prop} {Q : State → Prop} {k sl n : Nat} {w : JW} {pc : Nat} {lv lv' : List (Nat × Value)} {st : List Value} (ks : List Nat) (hl : lv_pick lv ks = lv') (h : J X K nL g Q k sl n w pc lv' st) : J X K nL g Q k sl n w pc lv st :=
  fun H locs ls a1 a2 a3 a4 => h H locs ls a1 a2 a3 (lv_sub a4 ks hl)
section JR
variable {X : JX} {K : JK} {nL : Nat} {g : Prop} {Q : State → Prop} {k sl n : Nat} {w : JW} {pc q : Nat} {lv lv' : List (Nat × Value)} {st : List Value} {own : String} {cc : ByteArray}

theorem J_iadd (C : Cx X K nL own cc) {x y : Int32} (d : decode cc pc = .ok (.iadd, 1)) (hq : pc + 1 = q) (h : J X K nL g Q k sl n w q lv (.int (x + y) :: st)) : J X K nL g Q k sl n w pc lv (.int y :: .int x :: st) := by
  subst hq
  intro H locs ls h1 h2 h3 h4
  exact lv_iadd C.1 C.2.1 d (h H locs ls h1 h2 h3 h4)
theorem J_isub (C : Cx X K nL own cc) {x y : Int32} (d : decode cc pc = .ok (.isub, 1)) (hq : pc + 1 = q) (h : J X K nL g Q k sl n w q lv (.int (x - y) :: st)) : J X K nL g Q k sl n w pc lv (.int y :: .int x :: st) := by
  subst hq
  intro H locs ls h1 h2 h3 h4
  exact lv_isub C.1 C.2.1 d (h H locs ls h1 h2 h3 h4)
theorem J_imul (C : Cx X K nL own cc) {x y : Int32} (d : decode cc pc = .ok (.imul, 1)) (hq : pc + 1 = q) (h : J X K nL g Q k sl n w q lv (.int (x * y) :: st)) : J X K nL g Q k sl n w pc lv (.int y :: .int x :: st) := by
  subst hq
  intro H locs ls h1 h2 h3 h4
  exact lv_imul C.1 C.2.1 d (h H locs ls h1 h2 h3 h4)
theorem J_iand (C : Cx X K nL own cc) {x y : Int32} (d : decode cc pc = .ok (.iand, 1)) (hq : pc + 1 = q) (h : J X K nL g Q k sl n w q lv (.int (x &&& y) :: st)) : J X K nL g Q k sl n w pc lv (.int y :: .int x :: st) := by
  subst hq
  intro H locs ls h1 h2 h3 h4
  exact lv_iand C.1 C.2.1 d (h H locs ls h1 h2 h3 h4)
theorem J_ishr (C : Cx X K nL own cc) {x y : Int32} (d : decode cc pc = .ok (.ishr, 1)) (hq : pc + 1 = q) (h : J X K nL g Q k sl n w q lv (.int (x >>> (y &&& 31)) :: st)) : J X K nL g Q k sl n w pc lv (.int y :: .int x :: st) := by
  subst hq
  intro H locs ls h1 h2 h3 h4
  exact lv_ishr C.1 C.2.1 d (h H locs ls h1 h2 h3 h4)
theorem J_land (C : Cx X K nL own cc) {x y : Int64} (d : decode cc pc = .ok (.land, 1)) (hq : pc + 1 = q) (h : J X K nL g Q k sl n w q lv (.long (x &&& y) :: st)) : J X K nL g Q k sl n w pc lv (.long y :: .long x :: st) := by
  subst hq
  intro H locs ls h1 h2 h3 h4
  exact lv_land C.1 C.2.1 d (h H locs ls h1 h2 h3 h4)
theorem J_lor (C : Cx X K nL own cc) {x y : Int64} (d : decode cc pc = .ok (.lor, 1)) (hq : pc + 1 = q) (h : J X K nL g Q k sl n w q lv (.long (x ||| y) :: st)) : J X K nL g Q k sl n w pc lv (.long y :: .long x :: st) := by
  subst hq
  intro H locs ls h1 h2 h3 h4
  exact lv_lor C.1 C.2.1 d (h H locs ls h1 h2 h3 h4)
theorem J_idiv (C : Cx X K nL own cc) {x y : Int32} (hne : ¬ y = 0) (d : decode cc pc = .ok (.idiv, 1)) (hq : pc + 1 = q) (h : J X K nL g Q k sl n w q lv (.int (x / y) :: st)) : J X K nL g Q k sl n w pc lv (.int y :: .int x :: st) := by
  subst hq
  intro H locs ls h1 h2 h3 h4
  exact lv_idiv C.1 C.2.1 d hne (h H locs ls h1 h2 h3 h4)
theorem J_irem (C : Cx X K nL own cc) {x y : Int32} (hne : ¬ y = 0) (d : decode cc pc = .ok (.irem, 1)) (hq : pc + 1 = q) (h : J X K nL g Q k sl n w q lv (.int (x - x / y * y) :: st)) : J X K nL g Q k sl n w pc lv (.int y :: .int x :: st) := by
  subst hq
  intro H locs ls h1 h2 h3 h4
  exact lv_irem C.1 C.2.1 d hne (h H locs ls h1 h2 h3 h4)
theorem J_ineg (C : Cx X K nL own cc) {x : Int32} (d : decode cc pc = .ok (.ineg, 1)) (hq : pc + 1 = q) (h : J X K nL g Q k sl n w q lv (.int (-x) :: st)) : J X K nL g Q k sl n w pc lv (.int x :: st) := by
  subst hq
  intro H locs ls h1 h2 h3 h4
  exact lv_ineg C.1 C.2.1 d (h H locs ls h1 h2 h3 h4)
theorem J_i2l (C : Cx X K nL own cc) {x : Int32} (d : decode cc pc = .ok (.i2l, 1)) (hq : pc + 1 = q) (h : J X K nL g Q k sl n w q lv (.long x.toInt64 :: st)) : J X K nL g Q k sl n w pc lv (.int x :: st) := by
  subst hq
  intro H locs ls h1 h2 h3 h4
  exact lv_i2l C.1 C.2.1 d rfl (h H locs ls h1 h2 h3 h4)
theorem J_l2i (C : Cx X K nL own cc) {x : Int64} (d : decode cc pc = .ok (.l2i, 1)) (hq : pc + 1 = q) (h : J X K nL g Q k sl n w q lv (.int x.toInt32 :: st)) : J X K nL g Q k sl n w pc lv (.long x :: st) := by
  subst hq
  intro H locs ls h1 h2 h3 h4
  exact lv_l2i C.1 C.2.1 d rfl (h H locs ls h1 h2 h3 h4)
theorem J_i2b (C : Cx X K nL own cc) {x : Int32} (d : decode cc pc = .ok (.i2b, 1)) (hq : pc + 1 = q) (h : J X K nL g Q k sl n w q lv (.int x.toInt8.toInt32 :: st)) : J X K nL g Q k sl n w pc lv (.int x :: st) := by
  subst hq
  intro H locs ls h1 h2 h3 h4
  exact lv_i2b C.1 C.2.1 d rfl (h H locs ls h1 h2 h3 h4)
theorem J_lushr (C : Cx X K nL own cc) {x : Int64} {y : Int32} (d : decode cc pc = .ok (.lushr, 1)) (hq : pc + 1 = q) (h : J X K nL g Q k sl n w q lv (.long (x.toUInt64 >>> (y.toInt64.toUInt64 &&& Int64.toUInt64 63)).toInt64 :: st)) : J X K nL g Q k sl n w pc lv (.int y :: .long x :: st) := by
  subst hq
  intro H locs ls h1 h2 h3 h4
  exact lv_lushr C.1 C.2.1 d rfl (h H locs ls h1 h2 h3 h4)
theorem J_lshl (C : Cx X K nL own cc) {x : Int64} {y : Int32} (d : decode cc pc = .ok (.lshl, 1)) (hq : pc + 1 = q) (h : J X K nL g Q k sl n w q lv (.long (x <<< (y.toInt64 &&& 63)) :: st)) : J X K nL g Q k sl n w pc lv (.int y :: .long x :: st) := by
  subst hq
  intro H locs ls h1 h2 h3 h4
  exact lv_lshl C.1 C.2.1 d rfl (h H locs ls h1 h2 h3 h4)
theorem J_lcmp (C : Cx X K nL own cc) {x y : Int64} (d : decode cc pc = .ok (.lcmp, 1)) (hq : pc + 1 = q) (h : J X K nL g Q k sl n w q lv (.int (lg_cmp x y) :: st)) : J X K nL g Q k sl n w pc lv (.long y :: .long x :: st) := by
  subst hq
  intro H locs ls h1 h2 h3 h4
  exact W.lcmp C.1 C.2.1 d (h H locs ls h1 h2 h3 h4)
theorem J_i2d (C : Cx X K nL own cc) {x : Int32} (d : decode cc pc = .ok (.i2d, 1)) (hq : pc + 1 = q) (h : J X K nL g Q k sl n w q lv (.double (FP.i2d x) :: st)) : J X K nL g Q k sl n w pc lv (.int x :: st) := by
  subst hq
  intro H locs ls h1 h2 h3 h4
  exact lv_i2d C.1 C.2.1 d (h H locs ls h1 h2 h3 h4)
theorem J_i2f (C : Cx X K nL own cc) {x : Int32} (d : decode cc pc = .ok (.i2f, 1)) (hq : pc + 1 = q) (h : J X K nL g Q k sl n w q lv (.float (FP.i2f x) :: st)) : J X K nL g Q k sl n w pc lv (.int x :: st) := by
  subst hq
  intro H locs ls h1 h2 h3 h4
  exact lv_i2f C.1 C.2.1 d (h H locs ls h1 h2 h3 h4)
theorem J_f2d (C : Cx X K nL own cc) {x : UInt32} (hne : vf_n64 (FP.f2d x)) (d : decode cc pc = .ok (.f2d, 1)) (hq : pc + 1 = q) (h : J X K nL g Q k sl n w q lv (.double (FP.f2d x) :: st)) : J X K nL g Q k sl n w pc lv (.float x :: st) := by
  subst hq
  intro H locs ls h1 h2 h3 h4
  exact lv_f2d C.1 C.2.1 d hne (h H locs ls h1 h2 h3 h4)
theorem J_fdiv (C : Cx X K nL own cc) {x y : UInt32} (hne : vf_n32 (FP.fdiv x y)) (d : decode cc pc = .ok (.fdiv, 1)) (hq : pc + 1 = q) (h : J X K nL g Q k sl n w q lv (.float (FP.fdiv x y) :: st)) : J X K nL g Q k sl n w pc lv (.float y :: .float x :: st) := by
  subst hq
  intro H locs ls h1 h2 h3 h4
  exact lv_fdiv C.1 C.2.1 d hne (h H locs ls h1 h2 h3 h4)
theorem J_ddiv (C : Cx X K nL own cc) {x y : UInt64} (hne : vf_n64 (FP.ddiv x y)) (d : decode cc pc = .ok (.ddiv, 1)) (hq : pc + 1 = q) (h : J X K nL g Q k sl n w q lv (.double (FP.ddiv x y) :: st)) : J X K nL g Q k sl n w pc lv (.double y :: .double x :: st) := by
  subst hq
  intro H locs ls h1 h2 h3 h4
  exact lv_ddiv C.1 C.2.1 d hne (h H locs ls h1 h2 h3 h4)
theorem J_dcmp (C : Cx X K nL own cc) {x y : UInt64} {op : CmpOp} (d : decode cc pc = .ok (.dcmp op, 1)) (hq : pc + 1 = q) (h : J X K nL g Q k sl n w q lv (.int (Op.cmpValue (FP.dcmp x y) op) :: st)) : J X K nL g Q k sl n w pc lv (.double y :: .double x :: st) := by
  subst hq
  intro H locs ls h1 h2 h3 h4
  exact lv_dcmp C.1 C.2.1 d (h H locs ls h1 h2 h3 h4)
theorem J_dup (C : Cx X K nL own cc) {va : Value} (hva : va.category = 1) (d : decode cc pc = .ok (.dup, 1)) (hq : pc + 1 = q) (h : J X K nL g Q k sl n w q lv (va :: va :: st)) : J X K nL g Q k sl n w pc lv (va :: st) := by
  subst hq
  intro H locs ls h1 h2 h3 h4
  exact lv_dup C.1 C.2.1 d hva (h H locs ls h1 h2 h3 h4)
theorem J_pop (C : Cx X K nL own cc) {va : Value} (hva : va.category = 1) (d : decode cc pc = .ok (.pop, 1)) (hq : pc + 1 = q) (h : J X K nL g Q k sl n w q lv (st)) : J X K nL g Q k sl n w pc lv (va :: st) := by
  subst hq
  intro H locs ls h1 h2 h3 h4
  exact lv_pop C.1 C.2.1 d hva (h H locs ls h1 h2 h3 h4)
theorem J_dup2 (C : Cx X K nL own cc) {va vb : Value} (hva : va.category = 1) (hvb : vb.category = 1) (d : decode cc pc = .ok (.dup2, 1)) (hq : pc + 1 = q) (h : J X K nL g Q k sl n w q lv (va :: vb :: va :: vb :: st)) : J X K nL g Q k sl n w pc lv (va :: vb :: st) := by
  subst hq
  intro H locs ls h1 h2 h3 h4
  exact lv_dup2_11 C.1 C.2.1 d hva hvb (h H locs ls h1 h2 h3 h4)
theorem J_null (C : Cx X K nL own cc)  (d : decode cc pc = .ok (.aconst_null, 1)) (hq : pc + 1 = q) (h : J X K nL g Q k sl n w q lv (.null :: st)) : J X K nL g Q k sl n w pc lv (st) := by
  subst hq
  intro H locs ls h1 h2 h3 h4
  exact lv_null C.1 C.2.1 d (h H locs ls h1 h2 h3 h4)
theorem J_iconst (C : Cx X K nL own cc) {i : Int} {v : Int32} (hv : Int32.ofInt i = v) (d : decode cc pc = .ok (.iconst i, 1)) (hq : pc + 1 = q) (h : J X K nL g Q k sl n w q lv (.int v :: st)) : J X K nL g Q k sl n w pc lv (st) := by
  subst hq
  intro H locs ls h1 h2 h3 h4
  exact lv_iconst C.1 C.2.1 d hv (h H locs ls h1 h2 h3 h4)
theorem J_bipush (C : Cx X K nL own cc) {i : Int} {v : Int32} (hv : (Int8.ofInt i).toInt32 = v) (d : decode cc pc = .ok (.bipush i, 2)) (hq : pc + 2 = q) (h : J X K nL g Q k sl n w q lv (.int v :: st)) : J X K nL g Q k sl n w pc lv (st) := by
  subst hq
  intro H locs ls h1 h2 h3 h4
  exact lv_bipush C.1 C.2.1 d hv (h H locs ls h1 h2 h3 h4)
theorem J_sipush (C : Cx X K nL own cc) {i : Int} {v : Int32} (hv : (Int16.ofInt i).toInt32 = v) (d : decode cc pc = .ok (.sipush i, 3)) (hq : pc + 3 = q) (h : J X K nL g Q k sl n w q lv (.int v :: st)) : J X K nL g Q k sl n w pc lv (st) := by
  subst hq
  intro H locs ls h1 h2 h3 h4
  exact lv_sipush C.1 C.2.1 d hv (h H locs ls h1 h2 h3 h4)
theorem J_lconst (C : Cx X K nL own cc) {i : Fin 2} {v : Int64} (hv : Int64.ofNat (i : Nat) = v) (d : decode cc pc = .ok (.lconst i, 1)) (hq : pc + 1 = q) (h : J X K nL g Q k sl n w q lv (.long v :: st)) : J X K nL g Q k sl n w pc lv (st) := by
  subst hq
  intro H locs ls h1 h2 h3 h4
  exact lv_lconst C.1 C.2.1 d hv (h H locs ls h1 h2 h3 h4)
theorem J_ldc (C : Cx X K nL own cc) {index : Nat} {v : Int32} (hw : Cond.constant own index v ∈ TB) (d : decode cc pc = .ok (.ldc index, 2)) (hq : pc + 2 = q) (h : J X K nL g Q k sl n w q lv (.int v :: st)) : J X K nL g Q k sl n w pc lv (st) := by
  subst hq
  intro H locs ls h1 h2 h3 h4
  exact lv_ldc C.1 C.2.1 C.2.2.2.1 (C.2.2.2.2.1 _ hw) d (h H locs ls h1 h2 h3 h4)
theorem J_ldc2 (C : Cx X K nL own cc) {index : Nat} {v : Int64} (hw : Cond.constantLong own index v ∈ TB) (d : decode cc pc = .ok (.ldc2_w index, 3)) (hq : pc + 3 = q) (h : J X K nL g Q k sl n w q lv (.long v :: st)) : J X K nL g Q k sl n w pc lv (st) := by
  subst hq
  intro H locs ls h1 h2 h3 h4
  exact lv_ldc2 C.1 C.2.1 C.2.2.2.1 (C.2.2.2.2.1 _ hw) d (h H locs ls h1 h2 h3 h4)
theorem J_iload_n (C : Cx X K nL own cc) {kk : Fin 4} {i p : Nat} {x : Int32} (d : decode cc pc = .ok (.iload_n kk, 1)) (hi : (kk : Nat) = i) (hl : lv[p]? = some (i, .int x)) (hq : pc + 1 = q) (h : J X K nL g Q k sl n w q lv (.int x :: st)) : J X K nL g Q k sl n w pc lv (st) := by
  subst hq
  intro H locs ls h1 h2 h3 h4
  exact lv_iload_n C.1 C.2.1 d hi (lv_at h4 p hl) (h H locs ls h1 h2 h3 h4)
theorem J_iload (C : Cx X K nL own cc) {i p : Nat} {x : Int32} (d : decode cc pc = .ok (.iload i, 2)) (hl : lv[p]? = some (i, .int x)) (hq : pc + 2 = q) (h : J X K nL g Q k sl n w q lv (.int x :: st)) : J X K nL g Q k sl n w pc lv (st) := by
  subst hq
  intro H locs ls h1 h2 h3 h4
  exact lv_iload C.1 C.2.1 d (lv_at h4 p hl) (h H locs ls h1 h2 h3 h4)
theorem J_lload_n (C : Cx X K nL own cc) {kk : Fin 4} {i p : Nat} {x : Int64} (d : decode cc pc = .ok (.lload_n kk, 1)) (hi : (kk : Nat) = i) (hl : lv[p]? = some (i, .long x)) (hq : pc + 1 = q) (h : J X K nL g Q k sl n w q lv (.long x :: st)) : J X K nL g Q k sl n w pc lv (st) := by
  subst hq
  intro H locs ls h1 h2 h3 h4
  exact lv_lload_n C.1 C.2.1 d hi (lv_at h4 p hl) (h H locs ls h1 h2 h3 h4)
theorem J_dload (C : Cx X K nL own cc) {i p : Nat} {x : UInt64} (d : decode cc pc = .ok (.dload i, 2)) (hl : lv[p]? = some (i, .double x)) (hq : pc + 2 = q) (h : J X K nL g Q k sl n w q lv (.double x :: st)) : J X K nL g Q k sl n w pc lv (st) := by
  subst hq
  intro H locs ls h1 h2 h3 h4
  exact lv_dload C.1 C.2.1 d (lv_at h4 p hl) (h H locs ls h1 h2 h3 h4)
theorem J_aload_n (C : Cx X K nL own cc) {kk : Fin 4} {i p : Nat} {x : Nat} (d : decode cc pc = .ok (.aload_n kk, 1)) (hi : (kk : Nat) = i) (hl : lv[p]? = some (i, .ref x)) (hq : pc + 1 = q) (h : J X K nL g Q k sl n w q lv (.ref x :: st)) : J X K nL g Q k sl n w pc lv (st) := by
  subst hq
  intro H locs ls h1 h2 h3 h4
  exact lv_aload_n C.1 C.2.1 d hi (lv_at h4 p hl) (h H locs ls h1 h2 h3 h4)
theorem J_aload (C : Cx X K nL own cc) {i p : Nat} {x : Nat} (d : decode cc pc = .ok (.aload i, 2)) (hl : lv[p]? = some (i, .ref x)) (hq : pc + 2 = q) (h : J X K nL g Q k sl n w q lv (.ref x :: st)) : J X K nL g Q k sl n w pc lv (st) := by
  subst hq
  intro H locs ls h1 h2 h3 h4
  exact lv_aload C.1 C.2.1 d (lv_at h4 p hl) (h H locs ls h1 h2 h3 h4)
theorem J_istore_n (C : Cx X K nL own cc) {kk : Fin 4} {i : Nat} {x : Int32} (d : decode cc pc = .ok (.istore_n kk, 1)) (hi : (kk : Nat) = i) (hn : i < nL) (hl : (i, Value.int x) :: lv.filter (fun q => !(q.1 == i) && !(q.1 + 1 == i && q.2.category == 2)) = lv') (hq : pc + 1 = q) (h : J X K nL g Q k sl n w q lv' (st)) : J X K nL g Q k sl n w pc lv (.int x :: st) := by
  subst hq
  intro H locs ls h1 h2 h3 h4
  exact lv_istore_n C.1 C.2.1 d hi h4 hn hl (fun ls h4 => h H locs ls h1 h2 h3 h4)
theorem J_istore (C : Cx X K nL own cc) {i : Nat} {x : Int32} (d : decode cc pc = .ok (.istore i, 2)) (hn : i < nL) (hl : (i, Value.int x) :: lv.filter (fun q => !(q.1 == i) && !(q.1 + 1 == i && q.2.category == 2)) = lv') (hq : pc + 2 = q) (h : J X K nL g Q k sl n w q lv' (st)) : J X K nL g Q k sl n w pc lv (.int x :: st) := by
  subst hq
  intro H locs ls h1 h2 h3 h4
  exact lv_istore C.1 C.2.1 d h4 hn hl (fun ls h4 => h H locs ls h1 h2 h3 h4)
theorem J_astore_n (C : Cx X K nL own cc) {kk : Fin 4} {i : Nat} {x : Nat} (d : decode cc pc = .ok (.astore_n kk, 1)) (hi : (kk : Nat) = i) (hn : i < nL) (hl : (i, Value.ref x) :: lv.filter (fun q => !(q.1 == i) && !(q.1 + 1 == i && q.2.category == 2)) = lv') (hq : pc + 1 = q) (h : J X K nL g Q k sl n w q lv' (st)) : J X K nL g Q k sl n w pc lv (.ref x :: st) := by
  subst hq
  intro H locs ls h1 h2 h3 h4
  exact lv_astore_n C.1 C.2.1 d hi h4 hn hl (fun ls h4 => h H locs ls h1 h2 h3 h4)
theorem J_astore (C : Cx X K nL own cc) {i : Nat} {x : Nat} (d : decode cc pc = .ok (.astore i, 2)) (hn : i < nL) (hl : (i, Value.ref x) :: lv.filter (fun q => !(q.1 == i) && !(q.1 + 1 == i && q.2.category == 2)) = lv') (hq : pc + 2 = q) (h : J X K nL g Q k sl n w q lv' (st)) : J X K nL g Q k sl n w pc lv (.ref x :: st) := by
  subst hq
  intro H locs ls h1 h2 h3 h4
  exact lv_astore C.1 C.2.1 d h4 hn hl (fun ls h4 => h H locs ls h1 h2 h3 h4)
theorem J_lstore_n (C : Cx X K nL own cc) {kk : Fin 4} {i : Nat} {x : Int64} (d : decode cc pc = .ok (.lstore_n kk, 1)) (hi : (kk : Nat) = i) (hn : i + 1 < nL) (hl : (i, Value.long x) :: lv.filter (fun q => !(q.1 == i) && (!(q.1 == i + 1) && !(q.1 + 1 == i && q.2.category == 2))) = lv') (hq : pc + 1 = q) (h : J X K nL g Q k sl n w q lv' (st)) : J X K nL g Q k sl n w pc lv (.long x :: st) := by
  subst hq
  intro H locs ls h1 h2 h3 h4
  exact lv_lstore_n C.1 C.2.1 d hi h4 hn hl (fun ls h4 => h H locs ls h1 h2 h3 h4)
theorem J_dstore (C : Cx X K nL own cc) {i : Nat} {x : UInt64} (d : decode cc pc = .ok (.dstore i, 2)) (hn : i + 1 < nL) (hl : (i, Value.double x) :: lv.filter (fun q => !(q.1 == i) && (!(q.1 == i + 1) && !(q.1 + 1 == i && q.2.category == 2))) = lv') (hq : pc + 2 = q) (h : J X K nL g Q k sl n w q lv' (st)) : J X K nL g Q k sl n w pc lv (.double x :: st) := by
  subst hq
  intro H locs ls h1 h2 h3 h4
  exact lv_dstore C.1 C.2.1 d h4 hn hl (fun ls h4 => h H locs ls h1 h2 h3 h4)
theorem J_iinc (C : Cx X K nL own cc) {i p : Nat} {z : Int} {x v : Int32} (d : decode cc pc = .ok (.iinc i z, 3)) (hk : lv[p]? = some (i, .int x)) (hv : x + Int32.ofInt z = v) (hn : i < nL) (hl : (i, Value.int v) :: lv.filter (fun q => !(q.1 == i) && !(q.1 + 1 == i && q.2.category == 2)) = lv') (hq : pc + 3 = q) (h : J X K nL g Q k sl n w q lv' (st)) : J X K nL g Q k sl n w pc lv (st) := by
  subst hq
  intro H locs ls h1 h2 h3 h4
  exact lv_iinc C.1 C.2.1 d h4 hk hv hn hl (fun ls h4 => h H locs ls h1 h2 h3 h4)
theorem J_if_eq (C : Cx X K nL own cc) {x : Int32} {off : Int} {t : Nat} (d : decode cc pc = .ok (.ifCond .eq off, 3)) (ht : (pc : Int) + off = (t : Int)) (hq : pc + 3 = q) (kt : x = 0 → J X K nL g Q k sl n w t lv st) (kf : ¬ x = 0 → J X K nL g Q k sl n w q lv st) : J X K nL g Q k sl n w pc lv (.int x :: st) := by
  subst hq
  intro H locs ls h1 h2 h3 h4
  exact lv_if_eq C.1 C.2.1 d ht (fun c => kt c H locs ls h1 h2 h3 h4) (fun c => kf c H locs ls h1 h2 h3 h4)
theorem J_icmp_eq (C : Cx X K nL own cc) {x y : Int32} {off : Int} {t : Nat} (d : decode cc pc = .ok (.if_icmp .eq off, 3)) (ht : (pc : Int) + off = (t : Int)) (hq : pc + 3 = q) (kt : x = y → J X K nL g Q k sl n w t lv st) (kf : ¬ x = y → J X K nL g Q k sl n w q lv st) : J X K nL g Q k sl n w pc lv (.int y :: .int x :: st) := by
  subst hq
  intro H locs ls h1 h2 h3 h4
  exact lv_icmp_eq C.1 C.2.1 d ht (fun c => kt c H locs ls h1 h2 h3 h4) (fun c => kf c H locs ls h1 h2 h3 h4)
theorem J_if_ne (C : Cx X K nL own cc) {x : Int32} {off : Int} {t : Nat} (d : decode cc pc = .ok (.ifCond .ne off, 3)) (ht : (pc : Int) + off = (t : Int)) (hq : pc + 3 = q) (kt : ¬ x = 0 → J X K nL g Q k sl n w t lv st) (kf : ¬ ¬ x = 0 → J X K nL g Q k sl n w q lv st) : J X K nL g Q k sl n w pc lv (.int x :: st) := by
  subst hq
  intro H locs ls h1 h2 h3 h4
  exact lv_if_ne C.1 C.2.1 d ht (fun c => kt c H locs ls h1 h2 h3 h4) (fun c => kf (fun z => z c) H locs ls h1 h2 h3 h4)
theorem J_icmp_ne (C : Cx X K nL own cc) {x y : Int32} {off : Int} {t : Nat} (d : decode cc pc = .ok (.if_icmp .ne off, 3)) (ht : (pc : Int) + off = (t : Int)) (hq : pc + 3 = q) (kt : ¬ x = y → J X K nL g Q k sl n w t lv st) (kf : ¬ ¬ x = y → J X K nL g Q k sl n w q lv st) : J X K nL g Q k sl n w pc lv (.int y :: .int x :: st) := by
  subst hq
  intro H locs ls h1 h2 h3 h4
  exact lv_icmp_ne C.1 C.2.1 d ht (fun c => kt c H locs ls h1 h2 h3 h4) (fun c => kf (fun z => z c) H locs ls h1 h2 h3 h4)
theorem J_if_lt (C : Cx X K nL own cc) {x : Int32} {off : Int} {t : Nat} (d : decode cc pc = .ok (.ifCond .lt off, 3)) (ht : (pc : Int) + off = (t : Int)) (hq : pc + 3 = q) (kt : x < 0 → J X K nL g Q k sl n w t lv st) (kf : ¬ x < 0 → J X K nL g Q k sl n w q lv st) : J X K nL g Q k sl n w pc lv (.int x :: st) := by
  subst hq
  intro H locs ls h1 h2 h3 h4
  exact lv_if_lt C.1 C.2.1 d ht (fun c => kt c H locs ls h1 h2 h3 h4) (fun c => kf c H locs ls h1 h2 h3 h4)
theorem J_icmp_lt (C : Cx X K nL own cc) {x y : Int32} {off : Int} {t : Nat} (d : decode cc pc = .ok (.if_icmp .lt off, 3)) (ht : (pc : Int) + off = (t : Int)) (hq : pc + 3 = q) (kt : x < y → J X K nL g Q k sl n w t lv st) (kf : ¬ x < y → J X K nL g Q k sl n w q lv st) : J X K nL g Q k sl n w pc lv (.int y :: .int x :: st) := by
  subst hq
  intro H locs ls h1 h2 h3 h4
  exact lv_icmp_lt C.1 C.2.1 d ht (fun c => kt c H locs ls h1 h2 h3 h4) (fun c => kf c H locs ls h1 h2 h3 h4)
theorem J_if_ge (C : Cx X K nL own cc) {x : Int32} {off : Int} {t : Nat} (d : decode cc pc = .ok (.ifCond .ge off, 3)) (ht : (pc : Int) + off = (t : Int)) (hq : pc + 3 = q) (kt : 0 ≤ x → J X K nL g Q k sl n w t lv st) (kf : ¬ 0 ≤ x → J X K nL g Q k sl n w q lv st) : J X K nL g Q k sl n w pc lv (.int x :: st) := by
  subst hq
  intro H locs ls h1 h2 h3 h4
  exact lv_if_ge C.1 C.2.1 d ht (fun c => kt c H locs ls h1 h2 h3 h4) (fun c => kf c H locs ls h1 h2 h3 h4)
theorem J_icmp_ge (C : Cx X K nL own cc) {x y : Int32} {off : Int} {t : Nat} (d : decode cc pc = .ok (.if_icmp .ge off, 3)) (ht : (pc : Int) + off = (t : Int)) (hq : pc + 3 = q) (kt : y ≤ x → J X K nL g Q k sl n w t lv st) (kf : ¬ y ≤ x → J X K nL g Q k sl n w q lv st) : J X K nL g Q k sl n w pc lv (.int y :: .int x :: st) := by
  subst hq
  intro H locs ls h1 h2 h3 h4
  exact lv_icmp_ge C.1 C.2.1 d ht (fun c => kt c H locs ls h1 h2 h3 h4) (fun c => kf c H locs ls h1 h2 h3 h4)
theorem J_if_gt (C : Cx X K nL own cc) {x : Int32} {off : Int} {t : Nat} (d : decode cc pc = .ok (.ifCond .gt off, 3)) (ht : (pc : Int) + off = (t : Int)) (hq : pc + 3 = q) (kt : 0 < x → J X K nL g Q k sl n w t lv st) (kf : ¬ 0 < x → J X K nL g Q k sl n w q lv st) : J X K nL g Q k sl n w pc lv (.int x :: st) := by
  subst hq
  intro H locs ls h1 h2 h3 h4
  exact lv_if_gt C.1 C.2.1 d ht (fun c => kt c H locs ls h1 h2 h3 h4) (fun c => kf c H locs ls h1 h2 h3 h4)
theorem J_icmp_gt (C : Cx X K nL own cc) {x y : Int32} {off : Int} {t : Nat} (d : decode cc pc = .ok (.if_icmp .gt off, 3)) (ht : (pc : Int) + off = (t : Int)) (hq : pc + 3 = q) (kt : y < x → J X K nL g Q k sl n w t lv st) (kf : ¬ y < x → J X K nL g Q k sl n w q lv st) : J X K nL g Q k sl n w pc lv (.int y :: .int x :: st) := by
  subst hq
  intro H locs ls h1 h2 h3 h4
  exact lv_icmp_gt C.1 C.2.1 d ht (fun c => kt c H locs ls h1 h2 h3 h4) (fun c => kf c H locs ls h1 h2 h3 h4)
theorem J_if_le (C : Cx X K nL own cc) {x : Int32} {off : Int} {t : Nat} (d : decode cc pc = .ok (.ifCond .le off, 3)) (ht : (pc : Int) + off = (t : Int)) (hq : pc + 3 = q) (kt : x ≤ 0 → J X K nL g Q k sl n w t lv st) (kf : ¬ x ≤ 0 → J X K nL g Q k sl n w q lv st) : J X K nL g Q k sl n w pc lv (.int x :: st) := by
  subst hq
  intro H locs ls h1 h2 h3 h4
  exact lv_if_le C.1 C.2.1 d ht (fun c => kt c H locs ls h1 h2 h3 h4) (fun c => kf c H locs ls h1 h2 h3 h4)
theorem J_icmp_le (C : Cx X K nL own cc) {x y : Int32} {off : Int} {t : Nat} (d : decode cc pc = .ok (.if_icmp .le off, 3)) (ht : (pc : Int) + off = (t : Int)) (hq : pc + 3 = q) (kt : x ≤ y → J X K nL g Q k sl n w t lv st) (kf : ¬ x ≤ y → J X K nL g Q k sl n w q lv st) : J X K nL g Q k sl n w pc lv (.int y :: .int x :: st) := by
  subst hq
  intro H locs ls h1 h2 h3 h4
  exact lv_icmp_le C.1 C.2.1 d ht (fun c => kt c H locs ls h1 h2 h3 h4) (fun c => kf c H locs ls h1 h2 h3 h4)
theorem J_goto (C : Cx X K nL own cc) {off : Int} {t : Nat} (d : decode cc pc = .ok (.goto off, 3)) (ht : (pc : Int) + off = (t : Int)) (h : J X K nL g Q k sl n w t lv st) : J X K nL g Q k sl n w pc lv st := by
  intro H locs ls h1 h2 h3 h4
  exact lv_goto C.1 C.2.1 d ht (h H locs ls h1 h2 h3 h4)
theorem J_ifnullR (C : Cx X K nL own cc) {x : Nat} {off : Int} (d : decode cc pc = .ok (.ifnull off, 3)) (hq : pc + 3 = q) (h : J X K nL g Q k sl n w q lv st) : J X K nL g Q k sl n w pc lv (.ref x :: st) := by
  subst hq
  intro H locs ls h1 h2 h3 h4
  exact lv_ifnull C.1 C.2.1 d (h H locs ls h1 h2 h3 h4)
theorem J_ifnullN (C : Cx X K nL own cc) {off : Int} {t : Nat} (d : decode cc pc = .ok (.ifnull off, 3)) (ht : (pc : Int) + off = (t : Int)) (h : J X K nL g Q k sl n w t lv st) : J X K nL g Q k sl n w pc lv (.null :: st) := by
  intro H locs ls h1 h2 h3 h4
  exact lv_ifnullN C.1 C.2.1 d ht (h H locs ls h1 h2 h3 h4)
theorem J_ifnonnullR (C : Cx X K nL own cc) {x : Nat} {off : Int} {t : Nat} (d : decode cc pc = .ok (.ifnonnull off, 3)) (ht : (pc : Int) + off = (t : Int)) (h : J X K nL g Q k sl n w t lv st) : J X K nL g Q k sl n w pc lv (.ref x :: st) := by
  intro H locs ls h1 h2 h3 h4
  exact lv_ifnonnull C.1 C.2.1 d ht (h H locs ls h1 h2 h3 h4)
theorem J_ifnonnullN (C : Cx X K nL own cc) {off : Int} (d : decode cc pc = .ok (.ifnonnull off, 3)) (hq : pc + 3 = q) (h : J X K nL g Q k sl n w q lv st) : J X K nL g Q k sl n w pc lv (.null :: st) := by
  subst hq
  intro H locs ls h1 h2 h3 h4
  exact lv_ifnonnullN C.1 C.2.1 d (h H locs ls h1 h2 h3 h4)
end JR
