/-! rows of the law's level -/
section L1
variable {p : Program} {l : Launch} {e : Env} {R : Room} {s : State} {m : MethodId} {args : Array Value} {below : List Frame} {meth : Method} {c : Code} {H : Heap} {locs : List Loc} {cells slots : Nat} {Q : State → Prop}
variable {cc : ByteArray} {pc : Nat} {ls : Array Slot} {rest : List Value} {a : Nat}
theorem va_aldG (hexec : p.tables.exec = Jvm.exec) (hb : c.code = cc) {cA : ClassId} {n : Nat} {f : Nat → Option Nat} (ho : ArrOfT s cA (.array .int)) (ha : H[a]? = some (vp_cell cA (n, .inr (.inr (.inr (.inr f)))))) {i : Int32} (hin : vp_in i n) (hdg : decode cc pc = .ok (.aaload, 1))
    (kk : W p l e R s m args below meth c H locs cells slots Q (F0 m (pc + 1) ls (va_rf (f i.toNatClampNeg) :: rest))) : W p l e R s m args below meth c H locs cells slots Q (F0 m pc ls (.int i :: .ref a :: rest)) := by
  have hlt : i.toNatClampNeg < n := Nat.not_le.mp fun q => hin (Or.inr q)
  exact W.aald (v := va_rf (f i.toNatClampNeg)) (ty := .array .int) hexec hb ha (ho n (fun j => va_rf (f j))) rfl (fun q => by cases q) (by show ¬ (i < 0 ∨ (arrV _ _ _).slots.size ≤ _); rw [arrV_size]; exact hin) (by show (arrV _ _ _).slots[_]? = _; rw [arrV_read _ _ hlt]) rfl rfl hdg kk
end L1
section L2
variable {X : JX} {K : JK} {nL : Nat} {g : Prop} {Q : State → Prop} {k sl n : Nat} {w : JW} {pc q : Nat} {lv lv' : List (Nat × Value)} {st rest : List Value} {own : String} {cc : ByteArray} {τ : LawS} {a : Nat}
theorem J_ixor (C : Cx X K nL own cc) {x y : Int32} (d : decode cc pc = .ok (.ixor, 1)) (hq : pc + 1 = q) (h : J X K nL g Q k sl n w q lv (.int (x ^^^ y) :: st)) : J X K nL g Q k sl n w pc lv (.int y :: .int x :: st) := by
  subst hq
  intro H locs ls h1 h2 h3 h4
  exact lv_ixor C.1 C.2.1 d (h H locs ls h1 h2 h3 h4)
theorem J_ior (C : Cx X K nL own cc) {x y : Int32} (d : decode cc pc = .ok (.ior, 1)) (hq : pc + 1 = q) (h : J X K nL g Q k sl n w q lv (.int (x ||| y) :: st)) : J X K nL g Q k sl n w pc lv (.int y :: .int x :: st) := by
  subst hq
  intro H locs ls h1 h2 h3 h4
  exact lv_ior C.1 C.2.1 d (h H locs ls h1 h2 h3 h4)
theorem J_iushr (C : Cx X K nL own cc) {x y : Int32} (d : decode cc pc = .ok (.iushr, 1)) (hq : pc + 1 = q) (h : J X K nL g Q k sl n w q lv (.int (x.toUInt32 >>> (y.toUInt32 &&& Int32.toUInt32 31)).toInt32 :: st)) : J X K nL g Q k sl n w pc lv (.int y :: .int x :: st) := by
  subst hq
  intro H locs ls h1 h2 h3 h4
  exact lv_iushr C.1 C.2.1 d rfl (h H locs ls h1 h2 h3 h4)
theorem J_fconst1 (C : Cx X K nL own cc) (d : decode cc pc = .ok (.fconst 1, 1)) (hq : pc + 1 = q) (h : J X K nL g Q k sl n w q lv (.float FP.fconst1 :: st)) : J X K nL g Q k sl n w pc lv st := by
  subst hq
  intro H locs ls h1 h2 h3 h4
  exact lv_fconst1 C.1 C.2.1 d (h H locs ls h1 h2 h3 h4)
theorem J_fcmp (C : Cx X K nL own cc) {x y : UInt32} {op : CmpOp} (d : decode cc pc = .ok (.fcmp op, 1)) (hq : pc + 1 = q) (h : J X K nL g Q k sl n w q lv (.int (Op.cmpValue (FP.fcmp x y) op) :: st)) : J X K nL g Q k sl n w pc lv (.float y :: .float x :: st) := by
  subst hq
  intro H locs ls h1 h2 h3 h4
  exact lv_fcmp C.1 C.2.1 d (h H locs ls h1 h2 h3 h4)
theorem Jl_iald (C : Cx X K nL own cc) {i : Int32} {len : Nat} (hk : kl a = 12) (hl : lq a = len) (hi : inb i len = true) (d : decode cc pc = .ok (.iaload, 1)) (hq : pc + 1 = q) (h : J X K nL g Q k sl 2064 (jl K τ) q lv (.int (τ.1 a i.toNatClampNeg) :: st)) : J X K nL g Q k sl 2064 (jl K τ) pc lv (.int i :: .ref (K.2.2 + a) :: st) := by
  have hm := kl_spec hk (by omega)
  exact J_iald C (by omega) ((jl_l hm).trans (lc_I hk)) (inb_spec (hl ▸ hi)) d hq h
theorem Jl_zald (C : Cx X K nL own cc) {i : Int32} {len : Nat} (hk : kl a = 14) (hl : lq a = len) (hi : inb i len = true) (d : decode cc pc = .ok (.baload, 1)) (hq : pc + 1 = q) (h : J X K nL g Q k sl 2064 (jl K τ) q lv (.int (τ.1 a i.toNatClampNeg) :: st)) : J X K nL g Q k sl 2064 (jl K τ) pc lv (.int i :: .ref (K.2.2 + a) :: st) := by
  have hm := kl_spec hk (by omega)
  exact J_zald C (by omega) ((jl_l hm).trans (lc_Z hk)) (inb_spec (hl ▸ hi)) d hq h
theorem Jl_iast (C : Cx X K nL own cc) (hg : ¬ g) {i x : Int32} {len : Nat} (hk : kl a = 12) (hl : lq a = len) (hi : inb i len = true) {s9 : LawS} (e9 : s9 = uT τ a i.toNatClampNeg x) (d : decode cc pc = .ok (.iastore, 1)) (hq : pc + 1 = q) (h : J X K nL g Q k sl 2064 (jl K s9) q lv st) : J X K nL g Q k sl 2064 (jl K τ) pc lv (.int x :: .int i :: .ref (K.2.2 + a) :: st) := by
  subst e9
  have hm := kl_spec hk (by omega)
  refine J_iast C hg (by omega) ((jl_l hm).trans (lc_I hk)) (inb_spec (hl ▸ hi)) d hq ?_
  rw [jl_up (k := i.toNatClampNeg) (v := x) hm (by rw [lc_I hk, up2_row])]
  exact h
theorem Jl_zast (C : Cx X K nL own cc) (hg : ¬ g) {i x : Int32} {len : Nat} (hk : kl a = 14) (hl : lq a = len) (hi : inb i len = true) {s9 : LawS} (e9 : s9 = uT τ a i.toNatClampNeg (vp_nar .boolean x)) (d : decode cc pc = .ok (.bastore, 1)) (hq : pc + 1 = q) (h : J X K nL g Q k sl 2064 (jl K s9) q lv st) : J X K nL g Q k sl 2064 (jl K τ) pc lv (.int x :: .int i :: .ref (K.2.2 + a) :: st) := by
  subst e9
  have hm := kl_spec hk (by omega)
  refine J_zast C hg (by omega) ((jl_l hm).trans (lc_Z hk)) (inb_spec (hl ▸ hi)) d hq ?_
  rw [jl_up (k := i.toNatClampNeg) (v := vp_nar .boolean x) hm (by rw [lc_Z hk, up2_row])]
  exact h
/-- a row of the grid -/
theorem Jl_aald (C : Cx X K nL own cc) {i : Int32} {r2 : Nat} (hr : 2 + i.toNatClampNeg = r2) (hi : inb i 41 = true) (d : decode cc pc = .ok (.aaload, 1)) (hq : pc + 1 = q) (h : J X K nL g Q k sl 2064 (jl K τ) q lv (.ref (K.2.2 + r2) :: st)) : J X K nL g Q k sl 2064 (jl K τ) pc lv (.int i :: .ref (K.2.2 + 1) :: st) := by
  subst hq hr
  intro H locs ls h1 h2 h3 h4
  have e : (jwl K.2.2 2064 (jl K τ))[1]? = some (K.2.2 + 1, .inl (K.1.1 99, 41, .inr (.inr (.inr (.inr (fun i => some (K.2.2 + (2 + i)))))))) := by
    rw [jwl_at (by omega)]
    rfl
  have hat := h1 1 _ e
  exact va_aldG (f := fun i => some (K.2.2 + (2 + i))) C.1 C.2.1 C.2.2.2.2.2.1.2.2.2.2.2.2.2.2.2 hat (inb_spec hi) d (h H locs ls h1 h2 h3 h4)
theorem kl_row {i : Int32} (h : inb i 41 = true) : kl (2 + i.toNatClampNeg) = 12 := by
  have hin := inb_spec h
  have hlt : i.toNatClampNeg < 41 := Nat.not_le.mp fun q => hin (Or.inr q)
  unfold kl
  rw [if_neg (by omega), if_pos (by omega)]
theorem lq_row {i : Int32} (h : inb i 41 = true) : lq (2 + i.toNatClampNeg) = 3500 := by
  have hin := inb_spec h
  have hlt : i.toNatClampNeg < 41 := Nat.not_le.mp fun q => hin (Or.inr q)
  unfold lq
  rw [if_neg (by omega), if_neg (by omega), if_pos (by omega)]
/-- what a law's method gives -/
def PL {α : Type} (Qf : α → Prop) (val : α → Option Value) (wd : α → JW) : Option Value → Nat → JW → Prop := fun v n w => ∃ p, Qf p ∧ v = val p ∧ n = 2064 ∧ w = wd p
/-- a call of a law's method -/
theorem Jl_cS {α : Type} {Qf : α → Prop} {val : α → Option Value} {wd : α → JW} {l : Launch} {index maxL na d mc ms D MC M2 : Nat} {y : MethodName} {bytes : ByteArray} {ret : Option FieldType} {As st0 : List Value} {st9 : α → List Value} (C : Cx X K nL own cc) (hR : X.2.2.2.1 = jR D MC M2) (hX : X.2.1 = l) (cw : CW own index y bytes maxL ret na ∧ Cond.static y ∈ TB) (con : Con l K y (.code y bytes maxL ret :: TB) d mc ms g As 2064 w (PL Qf val wd) PN) (hs0 : st0 = As.reverse ++ rest) (hn : As.length = na) (hf : d + 1 ≤ D) (hlo : 8 + (maxL + 11) + 36 * d ≤ 36 * D) (hsum : (rest.map fun v => v.category).sum ≤ 8) (hcells : k + mc ≤ MC ∧ sl + ms ≤ M2) (dg : decode cc pc = .ok (.invokestatic index, 3)) (hq : pc + 3 = q) (hst : ∀ p, (val p).toList ++ rest = st9 p) (kr : ∀ p, Qf p → J X K nL g Q (k + mc) (sl + ms) 2064 (wd p) q lv (st9 p)) : J X K nL g Q k sl 2064 w pc lv st0 := by
  subst hX
  exact J_callS C cw.1 cw.2 con hs0 hn (by rw [hR]; exact hf) (by rw [hR]; exact hlo) hsum (by rw [hR]; exact hcells) dg hq (fun E n9 w9 hx => JT_n hx) (fun v n' w' hr => by obtain ⟨p, hp, rfl, rfl, rfl⟩ := hr; rw [hst]; exact kr p hp)
/-- the same, of one with a table of its own -/
theorem Jl_cH {α : Type} {Qf : α → Prop} {val : α → Option Value} {wd : α → JW} {l : Launch} {index maxL na d mc ms D MC M2 : Nat} {y : MethodName} {bytes : ByteArray} {ret : Option FieldType} {hh : List (Nat × Nat × Nat × Nat)} {As st0 : List Value} {st9 : α → List Value} (C : Cx X K nL own cc) (hR : X.2.2.2.1 = jR D MC M2) (hX : X.2.1 = l) (cw : CH own index y bytes maxL ret hh na) (con : Con l K y (.codeWith y bytes maxL ret hh :: TB) d mc ms g As 2064 w (PL Qf val wd) PN) (hs0 : st0 = As.reverse ++ rest) (hn : As.length = na) (hf : d + 1 ≤ D) (hlo : 8 + (maxL + 11) + 36 * d ≤ 36 * D) (hsum : (rest.map fun v => v.category).sum ≤ 8) (hcells : k + mc ≤ MC ∧ sl + ms ≤ M2) (dg : decode cc pc = .ok (.invokestatic index, 3)) (hq : pc + 3 = q) (hst : ∀ p, (val p).toList ++ rest = st9 p) (kr : ∀ p, Qf p → J X K nL g Q (k + mc) (sl + ms) 2064 (wd p) q lv (st9 p)) : J X K nL g Q k sl 2064 w pc lv st0 := by
  subst hX
  exact J_callH C cw con hs0 hn (by rw [hR]; exact hf) (by rw [hR]; exact hlo) hsum (by rw [hR]; exact hcells) dg hq (fun E n9 w9 hx => JT_n hx) (fun v n' w' hr => by obtain ⟨p, hp, rfl, rfl, rfl⟩ := hr; rw [hst]; exact kr p hp)
theorem jl_cls {K : JK} {τ : LawS} : jl K τ 47 = .inr (10, (List.range (nf 10)).map (fv (KU K).2.2 τ.2 0 10)) := by
  show jcell (KU K) τ.2 (47 - 47) = _
  exact jc_obj (a := 0) (by decide) (by omega)
/-- a call of a method of the class -/
theorem Jl_cV {α : Type} {Qf : α → Prop} {val : α → Option Value} {wd : α → Sto} {Qx : String → Nat → JW → Prop} {l : Launch} {index maxL na d mc ms D MC M2 : Nat} {y : MethodName} {bytes : ByteArray} {ret : Option FieldType} {As st0 : List Value} {st9 : α → List Value} (C : Cx X K nL own cc) (hR : X.2.2.2.1 = jR D MC M2) (hX : X.2.1 = l) (cw : CV own index 10 y bytes maxL ret na) (con : Con l (KU K) y (.code y bytes maxL ret :: TB) d mc ms g (.ref ((KU K).2.2 + 0) :: As) 2017 (jw (KU K) τ.2) (PR Qf val (fun p => jw (KU K) (wd p))) Qx) (hs0 : st0 = As.reverse ++ .ref (K.2.2 + 47) :: rest) (hn : As.length = na) (hf : d + 1 ≤ D) (hlo : 8 + (maxL + 11) + 36 * d ≤ 36 * D) (hsum : (rest.map fun v => v.category).sum ≤ 8) (hcells : k + mc ≤ MC ∧ sl + ms ≤ M2) (dg : decode cc pc = .ok (.invokevirtual index, 3)) (hq : pc + 3 = q)
    (kx : ∀ (E : String) (n1 : Nat) (w1 : JW), Qx E n1 w1 → JT X K nL g Q (k + mc) (sl + ms) (47 + n1) (upW (lcell K τ.1) w1) pc lv rest E) (hst : ∀ p, (val p).toList ++ rest = st9 p) (kr : ∀ p, Qf p → J X K nL g Q (k + mc) (sl + ms) 2064 (jl K (τ.1, wd p)) q lv (st9 p)) : J X K nL g Q k sl 2064 (jl K τ) pc lv st0 := by
  subst hX
  obtain ⟨cw, hsel, hinst, T, N, hc⟩ := cw
  exact J_callV C cw rfl hsel hinst (a := 47) (by omega) jl_cls hc (con.up (lcell K τ.1)) hs0 hn (by rw [hR]; exact hf) (by rw [hR]; exact hlo) hsum (by rw [hR]; exact hcells) dg hq (fun E n9 w9 hx => by obtain ⟨n1, w1, h1, rfl, rfl⟩ := hx; exact kx E n1 w1 h1) (fun v n' w' hr => by obtain ⟨n1, w1, ⟨p, hp, rfl, rfl, rfl⟩, rfl, rfl⟩ := hr; rw [hst]; exact kr p hp)
end L2
/-- a call that does not throw -/
def nox {α β : Type} (x : Option (α ⊕ β)) : Option α := x.bind fun r => match r with
  | .inl a => some a
  | .inr _ => none
theorem Ok.ofnox {α β γ : Type} {x : Option (α ⊕ β)} {f : α → Option γ} {Q : γ → Prop} (h : Ok (bnd (nox x) f) Q) : Ok x (fun r => match r with
  | .inl a => Ok (f a) Q
  | .inr _ => False) := by
  obtain ⟨b, h1, h2⟩ := h
  cases x with
  | none => cases h1
  | some r =>
    cases r with
    | inl a => exact ⟨_, rfl, b, h1, h2⟩
    | inr c => cases h1
/-- loops that may make cells: the room's part that is left goes by the turns that are left -/
theorem loop_room {S R : Type} {f : S → Option (S ⊕ R)} {P : Nat → S → Prop} {E : R → Prop} (hs : ∀ (m : Nat) (B : S ⊕ R → Prop), (∀ s, B (.inl s) → P m s) → (∀ r, B (.inr r) → E r) → ∀ s, Ok (f s) B → P (m + 1) s) : ∀ (n : Nat) (s : S), Ok (loopF f n s) E → P n s := by
  intro n
  induction n with
  | zero =>
    intro s h
    obtain ⟨b, h1, h2⟩ := h
    cases h1
  | succ n ih =>
    intro s h
    refine hs n (fun x => match x with | .inl s' => Ok (loopF f n s') E | .inr r => E r) (fun s' h' => ih s' h') (fun _ h' => h') s ?_
    obtain ⟨b, h1, h2⟩ := h
    unfold loopF at h1
    cases hf : f s with
    | none => rw [hf] at h1; cases h1
    | some r =>
      rw [hf] at h1
      cases r with
      | inl s' => exact ⟨_, rfl, b, h1, h2⟩
      | inr r => 
        cases h1
        exact ⟨_, rfl, h2⟩
