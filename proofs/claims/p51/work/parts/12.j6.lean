theorem Ok.nm {α β : Type} {x : α} {f : α → Option β} {Q : β → Prop} (h : Ok (stp x f) Q) : ∃ y, y = x ∧ Ok (f y) Q := ⟨x, rfl, h⟩
def okr (r c : Nat) : Bool := decide (¬ r = 0) && decide (kc (r - 1) = c)
theorem okr_spec {r c : Nat} (h : okr r c = true) : ¬ r = 0 ∧ kc (r - 1) = c := by
  simpa [okr] using h
def bndX {α β γ : Type} (x : Option (α ⊕ γ)) (f : α → Option (β ⊕ γ)) : Option (β ⊕ γ) := x.bind fun r => match r with
  | .inl a => f a
  | .inr c => some (.inr c)
theorem Ok.ofbndX {α β γ : Type} {x : Option (α ⊕ γ)} {f : α → Option (β ⊕ γ)} {Q : β ⊕ γ → Prop} (h : Ok (bndX x f) Q) : Ok x (fun r => match r with
  | .inl a => Ok (f a) Q
  | .inr c => Q (.inr c)) := by
  obtain ⟨b, h1, h2⟩ := h
  cases x with
  | none => cases h1
  | some r =>
    cases r with
    | inl a => exact ⟨_, rfl, b, h1, h2⟩
    | inr c =>
      refine ⟨_, rfl, ?_⟩
      have : some (Sum.inr c) = some b := h1
      cases this
      exact h2
def PR {α : Type} (Qf : α → Prop) (val : α → Option Value) (wd : α → JW) : Option Value → Nat → JW → Prop := fun v n w => ∃ p, Qf p ∧ v = val p ∧ n = 2017 ∧ w = wd p
def exn : Nat → String
  | 1 => "java/lang/IndexOutOfBoundsException"
  | 2 => "java/lang/IllegalArgumentException"
  | 3 => "java/lang/IllegalStateException"
  | _ => "java/util/NoSuchElementException"
def PX {α : Type} (Qf : α ⊕ (Nat × Sto) → Prop) (wd : Sto → JW) : String → Nat → JW → Prop := fun E n w => ∃ (c : Nat) (s9 : Sto), Qf (.inr (c, s9)) ∧ E = exn c ∧ n = 2017 ∧ w = wd s9
def PN : String → Nat → JW → Prop := fun _ _ _ => False
/-- the loop's law with a name for what one turn gives -/
theorem loop_gen {S R : Type} {f : S → Option (S ⊕ R)} {P : S → Prop} {E : R → Prop} (hs : ∀ B : S ⊕ R → Prop, (∀ s, B (.inl s) → P s) → (∀ r, B (.inr r) → E r) → ∀ s, Ok (f s) B → P s) (n : Nat) (s : S) (h : Ok (loopF f n s) E) : P s :=
  loop_ok (fun s h => hs (fun x => match x with | .inl s' => P s' | .inr r => E r) (fun _ h => h) (fun _ h => h) s h) n s h
def FU : Nat := 1000000
def nz (x : Int32) : Bool := decide (¬ x = 0)
theorem nz_spec {x : Int32} (h : nz x = true) : ¬ x = 0 := by simpa [nz] using h
def nf64 (r : UInt64) : Bool := decide (r &&& 0x7fffffffffffffff ≤ 0x7ff0000000000000)
theorem nf64_spec {r : UInt64} (h : nf64 r = true) : vf_n64 r := by
  have h2 : r &&& 0x7fffffffffffffff ≤ 0x7ff0000000000000 := of_decide_eq_true h
  exact h2
def nf32 (r : UInt32) : Bool := decide (r &&& 0x7fffffff ≤ 0x7f800000)
theorem nf32_spec {r : UInt32} (h : nf32 r = true) : vf_n32 r := by
  have h2 : r &&& 0x7fffffff ≤ 0x7f800000 := of_decide_eq_true h
  exact h2
def fitB (f : Nat → Int32) (s m : Nat) : Bool := decide (∀ i, i < m → (f (s + i)).toInt8.toInt32 = f (s + i))
def fitZ (f : Nat → Int32) (s m : Nat) : Bool := decide (∀ i, i < m → f (s + i) = 0 ∨ f (s + i) = 1)
theorem i8_fits (x : Int8) : Jvm.fits .byte (.int x.toInt32) = true := by
  have h1 := Int8.le_toInt x
  have h2 := Int8.toInt_lt x
  simp only [Jvm.fits, Bool.and_eq_true, decide_eq_true_eq, Int32.le_iff_toInt_le, Int8.toInt_toInt32]
  constructor
  · show (-128 : Int) ≤ _
    exact h1
  · show _ ≤ (127 : Int)
    omega
theorem fitB_spec {f : Nat → Int32} {s m : Nat} (h : fitB f s m = true) : ∀ i, i < m → Jvm.fits .byte (.int (f (s + i))) = true := by
  intro i hi
  have h2 := of_decide_eq_true h i hi
  rw [← h2]
  exact i8_fits _
theorem fitZ_spec {f : Nat → Int32} {s m : Nat} (h : fitZ f s m = true) : ∀ i, i < m → Jvm.fits .boolean (.int (f (s + i))) = true := by
  intro i hi
  rcases of_decide_eq_true h i hi with h2 | h2 <;> rw [h2] <;> decide
def CV (own : String) (index ci : Nat) (y : MethodName) (bytes : ByteArray) (maxL : Nat) (ret : Option FieldType) (na : Nat) : Prop :=
  CW own index y bytes maxL ret na ∧ Cond.selects y.cls y y ∈ TB ∧ Cond.instanceMethod y ∈ TB ∧ ∃ (T : u_T) (N : Nat), vwCl[ci]? = some (y.cls, T, N)
theorem cat_i (x : Int32) : (Value.int x).category = 1 := rfl
theorem cat_l (x : Int64) : (Value.long x).category = 2 := rfl
theorem cat_d (x : UInt64) : (Value.double x).category = 2 := rfl
theorem cat_r (x : Nat) : (Value.ref x).category = 1 := rfl
theorem jv_cat (b r : Nat) : (jv b r).category = 1 := by cases r <;> rfl
def imax (x y : Int32) : Int32 := if x < y then y else x
def imin (x y : Int32) : Int32 := if y < x then y else x
def iabs (x : Int32) : Int32 := if 0 ≤ x then x else 0 - x
section J6
variable {X : JX} {K : JK} {nL : Nat} {g : Prop} {Q : State → Prop} {k sl n : Nat} {w : JW} {pc q : Nat} {lv lv' : List (Nat × Value)} {st rest : List Value} {own : String} {cc : ByteArray} {σ : Sto}
theorem J_istoreE_n (C : Cx X K nL own cc) {kk : Fin 4} {i : Nat} {x x' : Int32} (e : x' = x) (d : decode cc pc = .ok (.istore_n kk, 1)) (hi : (kk : Nat) = i) (hn : i < nL) (hl : (i, Value.int x') :: lv.filter (fun q => !(q.1 == i) && !(q.1 + 1 == i && q.2.category == 2)) = lv') (hq : pc + 1 = q) (h : J X K nL g Q k sl n w q lv' st) : J X K nL g Q k sl n w pc lv (.int x :: st) := by
  subst e
  exact J_istore_n C d hi hn hl hq h
theorem J_istoreE (C : Cx X K nL own cc) {i : Nat} {x x' : Int32} (e : x' = x) (d : decode cc pc = .ok (.istore i, 2)) (hn : i < nL) (hl : (i, Value.int x') :: lv.filter (fun q => !(q.1 == i) && !(q.1 + 1 == i && q.2.category == 2)) = lv') (hq : pc + 2 = q) (h : J X K nL g Q k sl n w q lv' st) : J X K nL g Q k sl n w pc lv (.int x :: st) := by
  subst e
  exact J_istore C d hn hl hq h
theorem J_astoreE_n (C : Cx X K nL own cc) {kk : Fin 4} {i : Nat} {x x' : Nat} (e : x' = x) (d : decode cc pc = .ok (.astore_n kk, 1)) (hi : (kk : Nat) = i) (hn : i < nL) (hl : (i, Value.ref x') :: lv.filter (fun q => !(q.1 == i) && !(q.1 + 1 == i && q.2.category == 2)) = lv') (hq : pc + 1 = q) (h : J X K nL g Q k sl n w q lv' st) : J X K nL g Q k sl n w pc lv (.ref x :: st) := by
  subst e
  exact J_astore_n C d hi hn hl hq h
theorem J_astoreE (C : Cx X K nL own cc) {i : Nat} {x x' : Nat} (e : x' = x) (d : decode cc pc = .ok (.astore i, 2)) (hn : i < nL) (hl : (i, Value.ref x') :: lv.filter (fun q => !(q.1 == i) && !(q.1 + 1 == i && q.2.category == 2)) = lv') (hq : pc + 2 = q) (h : J X K nL g Q k sl n w q lv' st) : J X K nL g Q k sl n w pc lv (.ref x :: st) := by
  subst e
  exact J_astore C d hn hl hq h
theorem J_lstoreE_n (C : Cx X K nL own cc) {kk : Fin 4} {i : Nat} {x x' : Int64} (e : x' = x) (d : decode cc pc = .ok (.lstore_n kk, 1)) (hi : (kk : Nat) = i) (hn : i + 1 < nL) (hl : (i, Value.long x') :: lv.filter (fun q => !(q.1 == i) && (!(q.1 == i + 1) && !(q.1 + 1 == i && q.2.category == 2))) = lv') (hq : pc + 1 = q) (h : J X K nL g Q k sl n w q lv' st) : J X K nL g Q k sl n w pc lv (.long x :: st) := by
  subst e
  exact J_lstore_n C d hi hn hl hq h
theorem J_dstoreE (C : Cx X K nL own cc) {i : Nat} {x x' : UInt64} (e : x' = x) (d : decode cc pc = .ok (.dstore i, 2)) (hn : i + 1 < nL) (hl : (i, Value.double x') :: lv.filter (fun q => !(q.1 == i) && (!(q.1 == i + 1) && !(q.1 + 1 == i && q.2.category == 2))) = lv') (hq : pc + 2 = q) (h : J X K nL g Q k sl n w q lv' st) : J X K nL g Q k sl n w pc lv (.double x :: st) := by
  subst e
  exact J_dstore C d hn hl hq h
theorem J_astoreqE_n (C : Cx X K nL own cc) {kk : Fin 4} {i r r' : Nat} (e : r' = r) (d : decode cc pc = .ok (.astore_n kk, 1)) (hi : (kk : Nat) = i) (hn : i < nL) (hl : (i, jv K.2.2 r') :: lv.filter (fun q => !(q.1 == i) && !(q.1 + 1 == i && q.2.category == 2)) = lv') (hq : pc + 1 = q) (h : J X K nL g Q k sl n w q lv' st) : J X K nL g Q k sl n w pc lv (jv K.2.2 r :: st) := by
  subst e
  exact J_astoreq_n C d hi hn hl hq h
theorem J_astoreqE (C : Cx X K nL own cc) {i r r' : Nat} (e : r' = r) (d : decode cc pc = .ok (.astore i, 2)) (hn : i < nL) (hl : (i, jv K.2.2 r') :: lv.filter (fun q => !(q.1 == i) && !(q.1 + 1 == i && q.2.category == 2)) = lv') (hq : pc + 2 = q) (h : J X K nL g Q k sl n w q lv' st) : J X K nL g Q k sl n w pc lv (jv K.2.2 r :: st) := by
  subst e
  exact J_astoreq C d hn hl hq h
theorem J_iincE (C : Cx X K nL own cc) {i p : Nat} {z : Int} {x c v : Int32} (e : v = x + c) (d : decode cc pc = .ok (.iinc i z, 3)) (hk : lv[p]? = some (i, .int x)) (hz : Int32.ofInt z = c) (hn : i < nL) (hl : (i, Value.int v) :: lv.filter (fun q => !(q.1 == i) && !(q.1 + 1 == i && q.2.category == 2)) = lv') (hq : pc + 3 = q) (h : J X K nL g Q k sl n w q lv' st) : J X K nL g Q k sl n w pc lv st :=
  J_iinc C d hk (by rw [hz, e]) hn hl hq h
theorem J_cS {α : Type} {Qf : α → Prop} {val : α → Option Value} {wd : α → JW} {Qx : String → Nat → JW → Prop} {l : Launch} {index maxL na d mc ms D MC M2 : Nat} {y : MethodName} {bytes : ByteArray} {ret : Option FieldType} {As st0 : List Value} {st9 : α → List Value} (C : Cx X K nL own cc) (hR : X.2.2.2.1 = jR D MC M2) (hX : X.2.1 = l) (cw : CW own index y bytes maxL ret na ∧ Cond.static y ∈ TB) (con : Con l K y (.code y bytes maxL ret :: TB) d mc ms g As 2017 w (PR Qf val wd) Qx) (hs0 : st0 = As.reverse ++ rest) (hn : As.length = na) (hf : d + 1 ≤ D) (hlo : 8 + (maxL + 11) + 36 * d ≤ 36 * D) (hsum : (rest.map fun v => v.category).sum ≤ 8) (hcells : k + mc ≤ MC ∧ sl + ms ≤ M2) (dg : decode cc pc = .ok (.invokestatic index, 3)) (hq : pc + 3 = q) (kx : ∀ (E : String) (n' : Nat) (w' : JW), Qx E n' w' → JT X K nL g Q (k + mc) (sl + ms) n' w' pc lv rest E) (hst : ∀ p, (val p).toList ++ rest = st9 p) (kr : ∀ p, Qf p → J X K nL g Q (k + mc) (sl + ms) 2017 (wd p) q lv (st9 p)) : J X K nL g Q k sl 2017 w pc lv st0 := by
  subst hX
  exact J_callS C cw.1 cw.2 con hs0 hn (by rw [hR]; exact hf) (by rw [hR]; exact hlo) hsum (by rw [hR]; exact hcells) dg hq kx (fun v n' w' hr => by obtain ⟨p, hp, rfl, rfl, rfl⟩ := hr; rw [hst]; exact kr p hp)
theorem J_cSN {α : Type} {Qf : α → Prop} {val : α → Option Value} {wd : α → JW} {Qx : String → Nat → JW → Prop} {l : Launch} {index maxL na d mc ms D MC M2 : Nat} {y : MethodName} {bytes : ByteArray} {ret : Option FieldType} {As st0 : List Value} {st9 : α → List Value} (C : Cx X K nL own cc) (hR : X.2.2.2.1 = jR D MC M2) (hX : X.2.1 = l) (cw : CN own index y bytes maxL ret na ∧ Cond.static y ∈ TB) (con : Con l K y (.code y bytes maxL ret :: TB) d mc ms g As 2017 w (PR Qf val wd) Qx) (hs0 : st0 = As.reverse ++ rest) (hn : As.length = na) (hf : d + 1 ≤ D) (hlo : 8 + (maxL + 11) + 36 * d ≤ 36 * D) (hsum : (rest.map fun v => v.category).sum ≤ 8) (hcells : k + mc ≤ MC ∧ sl + ms ≤ M2) (dg : decode cc pc = .ok (.invokestatic index, 3)) (hq : pc + 3 = q) (kx : ∀ (E : String) (n' : Nat) (w' : JW), Qx E n' w' → JT X K nL g Q (k + mc) (sl + ms) n' w' pc lv rest E) (hst : ∀ p, (val p).toList ++ rest = st9 p) (kr : ∀ p, Qf p → J X K nL g Q (k + mc) (sl + ms) 2017 (wd p) q lv (st9 p)) : J X K nL g Q k sl 2017 w pc lv st0 := by
  subst hX
  exact J_callSN C cw.1 cw.2 con hs0 hn (by rw [hR]; exact hf) (by rw [hR]; exact hlo) hsum (by rw [hR]; exact hcells) dg hq kx (fun v n' w' hr => by obtain ⟨p, hp, rfl, rfl, rfl⟩ := hr; rw [hst]; exact kr p hp)
theorem Jc_cV {α : Type} {Qf : α → Prop} {val : α → Option Value} {wd : α → JW} {Qx : String → Nat → JW → Prop} {l : Launch} {index maxL na d mc ms D MC M2 : Nat} {y : MethodName} {bytes : ByteArray} {ret : Option FieldType} {As st0 : List Value} {st9 : α → List Value} (C : Cx X K nL own cc) (hR : X.2.2.2.1 = jR D MC M2) (hX : X.2.1 = l) {a ci : Nat} (cw : CV own index ci y bytes maxL ret na) (hk : kc a = ci) (hci : ci < 12) (con : Con l K y (.code y bytes maxL ret :: TB) d mc ms g (.ref (K.2.2 + a) :: As) 2017 (jw K σ) (PR Qf val wd) Qx) (hs0 : st0 = As.reverse ++ .ref (K.2.2 + a) :: rest) (hn : As.length = na) (hf : d + 1 ≤ D) (hlo : 8 + (maxL + 11) + 36 * d ≤ 36 * D) (hsum : (rest.map fun v => v.category).sum ≤ 8) (hcells : k + mc ≤ MC ∧ sl + ms ≤ M2) (dg : decode cc pc = .ok (.invokevirtual index, 3)) (hq : pc + 3 = q) (kx : ∀ (E : String) (n' : Nat) (w' : JW), Qx E n' w' → JT X K nL g Q (k + mc) (sl + ms) n' w' pc lv rest E) (hst : ∀ p, (val p).toList ++ rest = st9 p) (kr : ∀ p, Qf p → J X K nL g Q (k + mc) (sl + ms) 2017 (wd p) q lv (st9 p)) : J X K nL g Q k sl 2017 (jw K σ) pc lv st0 := by
  subst hX
  obtain ⟨cw, hsel, hinst, T, N, hc⟩ := cw
  exact J_callV C cw rfl hsel hinst ((kc_spec hk (by omega)).1) ((jw_c (kc_spec hk (by omega)).1).trans (jc_obj (kc_spec hk (by omega)).2 hci)) hc con hs0 hn (by rw [hR]; exact hf) (by rw [hR]; exact hlo) hsum (by rw [hR]; exact hcells) dg hq kx (fun v n' w' hr => by obtain ⟨p, hp, rfl, rfl, rfl⟩ := hr; rw [hst]; exact kr p hp)
theorem J_mmax (C : Cx X K nL own cc) {D MC M2 index : Nat} (hR : X.2.2.2.1 = jR D MC M2) (mw : Cond.methodLink own index Lib.Math.max.name ∈ TB ∧ Cond.static Lib.Math.max.name ∈ TB ∧ Cond.initialized "java/lang/Math" ∈ TB ∧ Cond.code Lib.Math.max.name Lib.Math.max.code 2 (some .int) ∈ TB) {x y : Int32} (hf : 1 ≤ D) (hlo : (st.map fun v => v.category).sum + 13 ≤ 36 * D) (hc : k ≤ MC) (hs : sl ≤ M2) (d : decode cc pc = .ok (.invokestatic index, 3)) (hq : pc + 3 = q) (h : J X K nL g Q k sl n w q lv (.int (imax x y) :: st)) : J X K nL g Q k sl n w pc lv (.int y :: .int x :: st) := by
  subst hq
  intro H locs ls h1 h2 h3 h4
  exact va_mmax C.1 C.2.1 (C.2.2.1.trans h4.1.symm) C.2.2.2.1 (C.2.2.2.2.1 _ mw.1) (C.2.2.2.2.1 _ mw.2.1) (C.2.2.2.2.1 _ mw.2.2.1) (C.2.2.2.2.1 _ mw.2.2.2) (by rw [hR]; exact hf) (by rw [hR]; exact hlo) (by rw [hR]; exact hc) (by rw [hR]; exact hs) d (h H locs ls h1 h2 h3 h4)
theorem J_mmin (C : Cx X K nL own cc) {D MC M2 index : Nat} (hR : X.2.2.2.1 = jR D MC M2) (mw : Cond.methodLink own index Lib.Math.min.name ∈ TB ∧ Cond.static Lib.Math.min.name ∈ TB ∧ Cond.initialized "java/lang/Math" ∈ TB ∧ Cond.code Lib.Math.min.name Lib.Math.min.code 2 (some .int) ∈ TB) {x y : Int32} (hf : 1 ≤ D) (hlo : (st.map fun v => v.category).sum + 13 ≤ 36 * D) (hc : k ≤ MC) (hs : sl ≤ M2) (d : decode cc pc = .ok (.invokestatic index, 3)) (hq : pc + 3 = q) (h : J X K nL g Q k sl n w q lv (.int (imin x y) :: st)) : J X K nL g Q k sl n w pc lv (.int y :: .int x :: st) := by
  subst hq
  intro H locs ls h1 h2 h3 h4
  exact va_mmin C.1 C.2.1 (C.2.2.1.trans h4.1.symm) C.2.2.2.1 (C.2.2.2.2.1 _ mw.1) (C.2.2.2.2.1 _ mw.2.1) (C.2.2.2.2.1 _ mw.2.2.1) (C.2.2.2.2.1 _ mw.2.2.2) (by rw [hR]; exact hf) (by rw [hR]; exact hlo) (by rw [hR]; exact hc) (by rw [hR]; exact hs) d (h H locs ls h1 h2 h3 h4)
theorem J_mabs (C : Cx X K nL own cc) {D MC M2 index : Nat} (hR : X.2.2.2.1 = jR D MC M2) (mw : Cond.methodLink own index Lib.Math.abs.name ∈ TB ∧ Cond.static Lib.Math.abs.name ∈ TB ∧ Cond.initialized "java/lang/Math" ∈ TB ∧ Cond.code Lib.Math.abs.name Lib.Math.abs.code 1 (some .int) ∈ TB) {x : Int32} (hf : 1 ≤ D) (hlo : (st.map fun v => v.category).sum + 13 ≤ 36 * D) (hc : k ≤ MC) (hs : sl ≤ M2) (d : decode cc pc = .ok (.invokestatic index, 3)) (hq : pc + 3 = q) (h : J X K nL g Q k sl n w q lv (.int (iabs x) :: st)) : J X K nL g Q k sl n w pc lv (.int x :: st) := by
  subst hq
  intro H locs ls h1 h2 h3 h4
  exact va_mabs C.1 C.2.1 (C.2.2.1.trans h4.1.symm) C.2.2.2.1 (C.2.2.2.2.1 _ mw.1) (C.2.2.2.2.1 _ mw.2.1) (C.2.2.2.2.1 _ mw.2.2.1) (C.2.2.2.2.1 _ mw.2.2.2) (by rw [hR]; exact hf) (by rw [hR]; exact hlo) (by rw [hR]; exact hc) (by rw [hR]; exact hs) d (h H locs ls h1 h2 h3 h4)
theorem J_tab (C : Cx X K nL own cc) {dflt lo hi : Int} {offs : Array Int} {len : Nat} {x : Int32} {off : Int} {t : Nat} (z : Int) (hz : x.toInt = z) (d : decode cc pc = .ok (.tableswitch dflt lo hi offs, len)) (h1 : ¬ z < lo) (h2 : ¬ hi < z) (ho : offs[(z - lo).toNat]? = some off) (ht : (pc : Int) + off = (t : Int)) (h : J X K nL g Q k sl n w t lv st) : J X K nL g Q k sl n w pc lv (.int x :: st) := by
  subst hz
  intro H locs ls a1 a2 a3 a4
  exact lv_tableIn C.1 C.2.1 d h1 h2 ho ht (h H locs ls a1 a2 a3 a4)
theorem J_tabO (C : Cx X K nL own cc) {dflt lo hi : Int} {offs : Array Int} {len : Nat} {x : Int32} {t : Nat} (d : decode cc pc = .ok (.tableswitch dflt lo hi offs, len)) (hx : x.toInt < lo ∨ hi < x.toInt) (ht : (pc : Int) + dflt = (t : Int)) (h : J X K nL g Q k sl n w t lv st) : J X K nL g Q k sl n w pc lv (.int x :: st) := by
  intro H locs ls a1 a2 a3 a4
  exact lv_tableOut C.1 C.2.1 d hx ht (h H locs ls a1 a2 a3 a4)
theorem tab_o {x : Int32} {m : Nat} (h : ∀ i : Nat, i ≤ m → ¬ x.toInt = (i : Int)) : x.toInt < 0 ∨ (m : Int) < x.toInt := by
  by_cases h1 : x.toInt < 0
  · exact Or.inl h1
  · by_cases h2 : (m : Int) < x.toInt
    · exact Or.inr h2
    · exact absurd (by omega) (h x.toInt.toNat (by omega))
theorem JT_x {mc ms : Nat} {α β : Type} {Qr : Option Value → Nat → JW → Prop} {Qg : α ⊕ (Nat × Sto) → Prop} {Qf : β ⊕ (Nat × Sto) → Prop} (C : Cx X K nL own cc) (hnt : jNoT X) (hk : k ≤ mc) (hs : sl ≤ ms) (hx : ∀ c, Qg (.inr c) → Qf (.inr c)) (E : String) (n' : Nat) (w' : JW) (h : PX Qg (fun s => jw K s) E n' w') : JT X K nL g (jQ X K mc ms Qr (PX Qf (fun s => jw K s)) g) k sl n' w' pc lv rest E := by
  obtain ⟨c, s9, h1, h2⟩ := h
  exact JT_out C hnt hk hs ⟨c, s9, hx _ h1, h2⟩
theorem JT_n {E : String} {n' : Nat} {w' : JW} (h : PN E n' w') : JT X K nL g Q k sl n' w' pc lv rest E := h.elim
end J6
set_option maxRecDepth 100000 in
theorem ks8 : ∀ a, a < 2017 → kc a = 8 → kc (a + 4) = 12 ∧ ln (a + 4) = 8 ∧ kc (a + 5) = 12 ∧ ln (a + 5) = 16 ∧ kc (a + 6) = 14 ∧ ln (a + 6) = 16 := by decide +kernel
set_option maxRecDepth 100000 in
theorem ks6 : ∀ a, a < 2017 → kc a = 6 → kc (a + 1) = 13 := by decide +kernel
set_option maxRecDepth 100000 in
theorem ks0 : ∀ a, a < 2017 → kc a = 0 → kc (a + 1) = 5 ∧ kc (a + 7) = 5 := by decide +kernel
set_option maxRecDepth 100000 in
theorem ks5 : ∀ a, a < 2017 → kc a = 5 → kc (a + 1) = 15 ∧ ln (a + 1) = 375 ∧ kc (a + 2) = 15 ∧ ln (a + 2) = 5 ∧ kc (a + 3) = 12 ∧ ln (a + 3) = 8 ∧ kc (a + 4) = 12 ∧ ln (a + 4) = 16 ∧ kc (a + 5) = 14 ∧ ln (a + 5) = 16 := by decide +kernel
theorem kc_lt {a c : Nat} (h : kc a = c) (hc : c < 99) : a < 2017 := (kc_spec h hc).1
theorem ks_8_5 {a : Nat} (h : kc a = 8) : kc (a + 4) = 12 := (ks8 a (kc_lt h (by omega)) h).1
theorem ls_8_5 {a : Nat} (h : kc a = 8) : ln (a + 4) = 8 := (ks8 a (kc_lt h (by omega)) h).2.1
theorem ks_8_7 {a : Nat} (h : kc a = 8) : kc (a + 5) = 12 := (ks8 a (kc_lt h (by omega)) h).2.2.1
theorem ls_8_7 {a : Nat} (h : kc a = 8) : ln (a + 5) = 16 := (ks8 a (kc_lt h (by omega)) h).2.2.2.1
theorem ks_8_8 {a : Nat} (h : kc a = 8) : kc (a + 6) = 14 := (ks8 a (kc_lt h (by omega)) h).2.2.2.2.1
theorem ls_8_8 {a : Nat} (h : kc a = 8) : ln (a + 6) = 16 := (ks8 a (kc_lt h (by omega)) h).2.2.2.2.2
theorem ks_6_0 {a : Nat} (h : kc a = 6) : kc (a + 1) = 13 := (ks6 a (kc_lt h (by omega)) h)
theorem ks_0_2 {a : Nat} (h : kc a = 0) : kc (a + 1) = 5 := (ks0 a (kc_lt h (by omega)) h).1
theorem ks_0_3 {a : Nat} (h : kc a = 0) : kc (a + 7) = 5 := (ks0 a (kc_lt h (by omega)) h).2
theorem ks_5_0 {a : Nat} (h : kc a = 5) : kc (a + 1) = 15 := (ks5 a (kc_lt h (by omega)) h).1
theorem ls_5_0 {a : Nat} (h : kc a = 5) : ln (a + 1) = 375 := (ks5 a (kc_lt h (by omega)) h).2.1
theorem ks_5_2 {a : Nat} (h : kc a = 5) : kc (a + 2) = 15 := (ks5 a (kc_lt h (by omega)) h).2.2.1
theorem ls_5_2 {a : Nat} (h : kc a = 5) : ln (a + 2) = 5 := (ks5 a (kc_lt h (by omega)) h).2.2.2.1
theorem ks_5_3 {a : Nat} (h : kc a = 5) : kc (a + 3) = 12 := (ks5 a (kc_lt h (by omega)) h).2.2.2.2.1
theorem ls_5_3 {a : Nat} (h : kc a = 5) : ln (a + 3) = 8 := (ks5 a (kc_lt h (by omega)) h).2.2.2.2.2.1
theorem ks_5_5 {a : Nat} (h : kc a = 5) : kc (a + 4) = 12 := (ks5 a (kc_lt h (by omega)) h).2.2.2.2.2.2.1
theorem ls_5_5 {a : Nat} (h : kc a = 5) : ln (a + 4) = 16 := (ks5 a (kc_lt h (by omega)) h).2.2.2.2.2.2.2.1
theorem ks_5_6 {a : Nat} (h : kc a = 5) : kc (a + 5) = 14 := (ks5 a (kc_lt h (by omega)) h).2.2.2.2.2.2.2.2.1
theorem ls_5_6 {a : Nat} (h : kc a = 5) : ln (a + 5) = 16 := (ks5 a (kc_lt h (by omega)) h).2.2.2.2.2.2.2.2.2
