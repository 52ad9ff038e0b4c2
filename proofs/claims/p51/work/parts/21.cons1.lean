/-! rows of a constructor: they keep the heap's size in view -/
section JZ
variable {X : JX} {K : JK} {nL : Nat} {g : Prop} {Q : State → Prop} {k sl n : Nat} {w : JW} {pc q : Nat} {lv lv' : List (Nat × Value)} {st : List Value} {own : String} {cc : ByteArray}
theorem J_putZ (C : Cx X K nL own cc) {Cn : String} {T : u_T} {N ci index a kf : Nat} {fs : List Value} {v : Value} {ty0 : Nat → FieldType} (hin : ∀ w ∈ u_ws Cn T N, w ∈ TB) (hty : ∀ k, k < N → parseFieldDescriptor (T k).2.2.1 = some (ty0 k)) (hnm : ∀ a, a < N → ∀ b, b < N → a ≠ b → (T a).2.1 ≠ (T b).2.1) (ha : a < n) (he : w a = .inr (ci, fs)) (hc : vwCl[ci]? = some (Cn, T, N)) (hk : kf < N) (hl : Cond.fieldLink own index (T kf).1 (T kf).2.1 (T kf).2.2.1 ∈ TB)
    (hfin : (T kf).2.2.2 = false ∨ ((T kf).2.2.2 = true ∧ X.2.2.2.2.2.2.2.2.1.name = "<init>" ∧ (T kf).1 = own)) (hn : narrow (ty0 kf) v = v) (hfit : fits (ty0 kf) v = true) (hlen : kf < fs.length) (d : decode cc pc = .ok (.putfield index, 3)) (hq : pc + 3 = q) (h : J X K nL g Q k sl n (jup w a (.inr (ci, fs.set kf v))) q lv st) : J X K nL g Q k sl n w pc lv (v :: .ref (K.2.2 + a) :: st) := by
  subst hq
  intro H locs ls h1 h2 h3 h4
  have hat : (jwl K.2.2 n w)[a]? = some (K.2.2 + a, .inr (ci, fs)) := (jwl_at ha).trans (by rw [he])
  obtain ⟨r, hr1, cell, q1, q2, q3, q4⟩ := h1 a _ hat
  obtain rfl : r = (Cn, T, N) := Option.some.inj (hr1.symm.trans hc)
  have hK := C.2.2.2.2.2.1.1
  have hts := C.2.2.2.2.1
  have hap := va_apart (own := own) hts hin ty0 hty hnm hK hc
  obtain ⟨hS, hfc, kC, hkC, hkind⟩ := hK.1 ci _ hc
  obtain ⟨cf, kk, fi, f, hi, hsl⟩ := hS kf hk
  have hlay := hts _ (hin _ (u_in_lay hk))
  have hst := (u_facts hfc hkC (u_lays hts hin hk) hi).1
  have hslot : f.slot < cell.slots.size := by rw [hsl]; exact k2_hasslot (q4 kf hk)
  have fin : ∀ H' : Heap, H'[K.2.2 + a]? = some (cell.setSlot f.slot v) → H'.size = H.size → (∀ q, q ≠ K.2.2 + a → H'[q]? = H[q]?) → W X.1 X.2.1 X.2.2.1 X.2.2.2.1 X.2.2.2.2.1 X.2.2.2.2.2.1 X.2.2.2.2.2.2.1 X.2.2.2.2.2.2.2.1 X.2.2.2.2.2.2.2.2.1 X.2.2.2.2.2.2.2.2.2 H' (locs ++ [{ base := K.2.2 + a, slot := f.slot }]) k sl Q (F0 X.2.2.2.2.2.1 (pc + 3) ls st) := by
    intro H' e1 e2 e3
    rw [hsl] at e1 ⊢
    refine h H' _ ls ?_ (h2.put e2 e3 (jwl_D.2 a _ hat)) (fun z => e2.trans (h3 z)) h4
    rw [← jwl_set]
    exact h1.set jwl_D hat ⟨_, hc, t_OB.to (V := updV (vp_V fs) kf v) ⟨_, e1, q2, q3, t_set q4 hap hk v⟩ (fun j _ => vp_updV_set hlen v j)⟩ e3
  have hd := hty kf hk
  rcases hfin with hfin | ⟨hfin, hin2, hdecl⟩
  · unfold u_lay at hlay
    rw [if_neg (by rw [hfin]; decide)] at hlay
    have h6 := u_store hfc hkC hkind hlay hi hd hn hfit
    exact W.putK C.1 C.2.1 (f := f) ⟨C.2.2.2.1, C.2.2.2.2.1 _ hl, ⟨_, _, _, hi⟩, hst⟩ (by rw [q2]; exact h6) q1 q3 hslot rfl rfl d fin
  · unfold u_lay at hlay
    rw [if_pos hfin] at hlay
    have hcf : X.2.2.2.2.2.1.cls = cf := by
      obtain ⟨_, _, c', _, _, _, -, -, hf', -, -, -, hown2, -⟩ := Cond.laysFinal_spec hlay
      have e1 : c' = cf := by have := hi.symm.trans hf'; simp at this; exact this.1.symm
      rw [hdecl] at hown2
      rw [← e1]; exact Option.some.inj (C.2.2.2.1.symm.trans hown2)
    have h6 := u_fits hfc hkC hkind (Or.inr hlay) hi hd hn hfit
    exact W.putFinK C.1 C.2.1 C.2.2.2.1 (C.2.2.2.2.1 _ hl) hi hst hcf hin2 (by rw [q2]; exact h6) q1 q3 hslot rfl rfl d fin
theorem J_iastZ (C : Cx X K nL own cc) {a len : Nat} {f : Nat → Int32} {i : Int32} {x : Int32} (ha : a < n) (he : w a = .inl (K.2.1.1, len, .inl f)) (hin : vp_in i len) (d : decode cc pc = .ok (.iastore, 1)) (hq : pc + 1 = q) (h : J X K nL g Q k sl n (jup w a (.inl (K.2.1.1, len, .inl (upd f i.toNatClampNeg x)))) q lv st) : J X K nL g Q k sl n w pc lv (.int x :: .int i :: .ref (K.2.2 + a) :: st) := by
  subst hq
  intro H locs ls h1 h2 h3 h4
  have hat : (jwl K.2.2 n w)[a]? = some (K.2.2 + a, .inl (K.2.1.1, len, .inl f)) := (jwl_at ha).trans (by rw [he])
  refine W.iast C.1 C.2.1 (h1 a _ hat) ((C.2.2.2.2.2.1.1.2 0 _ rfl).1 len (fun j => .int (f j))) (fun q => by cases q) (by show ¬ (i < 0 ∨ (arrV _ _ _).slots.size ≤ _); rw [arrV_size]; exact hin) rfl rfl d fun H1 e z oq => ?_
  refine h H1 _ ls ?_ (h2.put z oq (jwl_D.2 a _ hat)) (fun y => z.trans (h3 y)) h4
  rw [← jwl_set]
  refine h1.set jwl_D hat ?_ oq
  show H1[K.2.2 + a]? = some (vp_cell _ _)
  rw [e, vp_cell_i, vp_cell_i, arrV_store]
  congr 2
  funext q
  by_cases hq : q = i.toNatClampNeg
  · subst hq
    simp [updV, upd]
  · simp [updV, upd, hq]
theorem J_aastZ (C : Cx X K nL own cc) {a b ci : Nat} {T : u_T} {N : Nat} {fs : List Value} {len : Nat} {f : Nat → Option Nat} {i : Int32} (ha : a < n) (hb : b < n) (he : w a = .inl (K.2.1.2.2.2.2, len, .inr (.inr (.inr (.inr f))))) (hv : w b = .inr (ci, fs)) (hc : vwCl[ci]? = some ("Cursorroom$Act", T, N)) (hin : vp_in i len) (d : decode cc pc = .ok (.aastore, 1)) (hq : pc + 1 = q) (h : J X K nL g Q k sl n (jup w a (.inl (K.2.1.2.2.2.2, len, .inr (.inr (.inr (.inr (va_up f i.toNatClampNeg (some (K.2.2 + b))))))))) q lv st) : J X K nL g Q k sl n w pc lv (.ref (K.2.2 + b) :: .int i :: .ref (K.2.2 + a) :: st) := by
  subst hq
  intro H locs ls h1 h2 h3 h4
  have hat : (jwl K.2.2 n w)[a]? = some (K.2.2 + a, .inl (K.2.1.2.2.2.2, len, .inr (.inr (.inr (.inr f))))) := (jwl_at ha).trans (by rw [he])
  have hbt : (jwl K.2.2 n w)[b]? = some (K.2.2 + b, .inr (ci, fs)) := (jwl_at hb).trans (by rw [hv])
  have hlt : i.toNatClampNeg < len := Nat.not_le.mp fun q => hin (Or.inr q)
  have h0 : ¬ i < 0 := fun q => hin (Or.inl q)
  have hK := C.2.2.2.2.2.1.1
  obtain ⟨r', hr', cellV, g1, g2, g3, -⟩ := h1 b _ hbt
  have hcls := (hK.1 ci _ hc).2
  obtain ⟨kA, comp, k1, k2, k3, -⟩ := (hK.2 4 _ rfl).2
  have hcomp : comp = K.1.1 ci := Option.some.inj (k3.symm.trans hcls.1)
  subst hcomp
  obtain ⟨kC, hkC, -⟩ := hcls.2
  refine W.aast C.1 C.2.1 (h1 a _ hat) (fun q h => by cases h) (fun h => by cases h) k1 k2 rfl hkC ⟨h0, by show _ < (arrV _ _ _).slots.size; rw [arrV_size]; exact hlt⟩ g1 (fun q h => by rw [g3] at h; cases h) (by rw [g2]; exact hkC) (by rw [g2]; exact va_assign hcls) rfl rfl d fun H1 e z oq => ?_
  refine h H1 _ ls ?_ (h2.put z oq (jwl_D.2 a _ hat)) (fun y => z.trans (h3 y)) h4
  rw [← jwl_set]
  refine h1.set jwl_D hat ?_ oq
  show H1[K.2.2 + a]? = some (vp_cell _ _)
  rw [e, vp_cell_q, vp_cell_q, arrV_store]
  congr 2
  funext q
  by_cases hq : q = i.toNatClampNeg
  · subst hq
    simp [updV, va_up, va_rf]
  · simp [updV, va_up, hq]
end JZ
section JN
variable {X : JX} {K : JK} {nL : Nat} {Q : State → Prop} {k sl n : Nat} {w : JW} {pc q : Nat} {lv lv' : List (Nat × Value)} {st : List Value} {own : String} {cc : ByteArray}
/-- 'new' at the heap's end -/
theorem J_newZ (C : Cx X K nL own cc) {Cn : String} {T : u_T} {N ci index : Nat} {fs : List Value} {ty0 : Nat → FieldType} (hin : ∀ w ∈ u_ws Cn T N, w ∈ TB) (hty : ∀ k, k < N → parseFieldDescriptor (T k).2.2.1 = some (ty0 k)) (hc : vwCl[ci]? = some (Cn, T, N)) (hl : Cond.classLink own index Cn ∈ TB) (hi : Cond.instantiable Cn N ∈ TB) (hz : Cond.initialized Cn ∈ TB) (hfs : ∀ j, j < N → defaultValue (ty0 j) = vp_V fs j) (hcells : k + 1 ≤ X.2.2.2.1.cells) (hslots : sl + N ≤ X.2.2.2.1.slots) (d : decode cc pc = .ok (.new index, 3)) (hq : pc + 3 = q) (h : J X K nL True Q (k + 1) (sl + N) (n + 1) (jup w n (.inr (ci, fs))) q lv (.ref (K.2.2 + n) :: st)) : J X K nL True Q k sl n w pc lv st := by
  subst hq
  intro H locs ls h1 h2 h3 h4
  have hKn := C.2.2.2.2.2.1.1.1 ci _ hc
  refine W.newcK C.1 C.2.1 C.2.2.2.1 (C.2.2.2.2.1 _ hl) (C.2.2.2.2.1 _ hi) (C.2.2.2.2.1 _ hz) rfl d hcells hslots hKn.2.1 (h3 trivial) fun H1 kC hkC e1 z1 o1 => ?_
  have hk : ∀ (k : Nat) (x : Nat × va_E), (jwl K.2.2 n w)[k]? = some x → H1[x.1]? = H[x.1]? := fun k x hx => o1 x.1 ((h3 trivial) ▸ (h1 k x hx).lt)
  refine h H1 locs ls ?_ ⟨Nat.le_trans h2.1 (by rw [z1, h3 trivial]; omega), fun x a b => (o1 x (h3 trivial ▸ Nat.lt_of_lt_of_le a h2.1)).trans (h2.2.1 x a b), h2.2.2⟩ (fun _ => z1) h4
  rw [← jwl_push]
  refine (h1.kept hk).app fun k x hx => ?_
  have hz : k < 1 := (List.getElem?_eq_some_iff.mp hx).1
  rw [show k = 0 by omega] at hx
  cases hx
  exact ⟨_, hc, (u_born ty0 C.2.2.2.2.1 hin hKn hkC e1 hty).to hfs⟩
/-- 'newarray' at the heap's end; t0 is the place of its type among the row classes -/
theorem J_newaZ (C : Cx X K nL own cc) {atype : ArrayType} {t0 N : Nat} {cA : ClassId} {a0 : vp_A} {m : Int32} (harr : Cond.arrayClass (newarray.typeOf atype) ∈ TB) (ht : (jtys K)[t0]? = some (cA, newarray.typeOf atype)) (hnm : ∀ {c : ClassId}, X.2.2.2.2.1.vm.findClass ("[" ++ (newarray.typeOf atype).toString) = some c → va_RA X.2.2.2.2.1 cA (newarray.typeOf atype) → c = cA) (ha : ∀ c : ClassId, vp_cell c a0 = arrV c N (fun _ => defaultValue (newarray.typeOf atype))) (hn : ¬ m < 0) (hN : m.toNatClampNeg = N) (hbytes : N * componentBytes (newarray.typeOf atype) ≤ 536870912) (hcells : k + 1 ≤ X.2.2.2.1.cells) (hslots : sl + N ≤ X.2.2.2.1.slots) (d : decode cc pc = .ok (.newarray atype, 2)) (hq : pc + 2 = q) (h : J X K nL True Q (k + 1) (sl + N) (n + 1) (jup w n (.inl (cA, a0))) q lv (.ref (K.2.2 + n) :: st)) : J X K nL True Q k sl n w pc lv (.int m :: st) := by
  subst hq
  intro H locs ls h1 h2 h3 h4
  refine va_newaK C.1 C.2.1 (C.2.2.2.2.1 _ harr) rfl d rfl hn hN hbytes hcells hslots (h3 trivial) fun H1 c e1 z1 o1 hAr hNm => ?_
  obtain rfl := hnm hNm (C.2.2.2.2.2.1.1.2 t0 _ ht).2
  have hk : ∀ (k : Nat) (x : Nat × va_E), (jwl K.2.2 n w)[k]? = some x → H1[x.1]? = H[x.1]? := fun k x hx => o1 x.1 ((h3 trivial) ▸ (h1 k x hx).lt)
  refine h H1 locs ls ?_ ⟨Nat.le_trans h2.1 (by rw [z1, h3 trivial]; omega), fun x a b => (o1 x (h3 trivial ▸ Nat.lt_of_lt_of_le a h2.1)).trans (h2.2.1 x a b), h2.2.2⟩ (fun _ => z1) h4
  rw [← jwl_push]
  refine (h1.kept hk).app fun k x hx => ?_
  have hz : k < 1 := (List.getElem?_eq_some_iff.mp hx).1
  rw [show k = 0 by omega] at hx
  cases hx
  show H1[K.2.2 + n]? = some (vp_cell _ _)
  rw [ha]
  exact e1
/-- 'anewarray' of acts at the heap's end -/
theorem J_anewZ (C : Cx X K nL own cc) {index N : Nat} {m : Int32} (hl : Cond.classLink own index "Cursorroom$Act" ∈ TB) (hn : ¬ m < 0) (hN : m.toNatClampNeg = N) (hbytes : N * 4 ≤ 536870912) (hcells : k + 1 ≤ X.2.2.2.1.cells) (hslots : sl + N ≤ X.2.2.2.1.slots) (d : decode cc pc = .ok (.anewarray index, 3)) (hq : pc + 3 = q) (h : J X K nL True Q (k + 1) (sl + N) (n + 1) (jup w n (.inl (K.2.1.2.2.2.2, N, .inr (.inr (.inr (.inr (fun _ => none))))))) q lv (.ref (K.2.2 + n) :: st)) : J X K nL True Q k sl n w pc lv (.int m :: st) := by
  subst hq
  subst hN
  intro H locs ls h1 h2 h3 h4
  have hRA := (C.2.2.2.2.2.1.1.2 4 _ rfl).2
  refine W.anew C.1 C.2.1 C.2.2.2.1 (C.2.2.2.2.1 _ hl) (va_AO.use C.2.2.2.2.2.1.2.2.2.2.2.2.2.2.1) rfl d rfl hn hbytes hcells hslots fun cA kA comp f1 f2 f3 f4 => ?_
  obtain ⟨kA', comp', k1, k2, k3, k4⟩ := hRA
  have e9 : cA = K.2.1.2.2.2.2 := Option.some.inj (f1.symm.trans k4)
  subst e9
  generalize hH1 : H.push ({ cls := K.2.1.2.2.2.2, slots := Array.replicate m.toNatClampNeg .null, vm := .none } : Cell) = H1
  have z1 : H1.size = H.size + 1 := by rw [← hH1, Array.size_push]
  have e1 : H1[K.2.2 + n]? = some (arrV K.2.1.2.2.2.2 m.toNatClampNeg (fun _ => .null)) := by rw [← h3 trivial, ← hH1, Array.getElem?_push_size, ← arrV_new]
  have o1 : ∀ q : Nat, q < H.size → H1[q]? = H[q]? := fun q hq => by rw [← hH1, Array.getElem?_push, if_neg (Nat.ne_of_lt hq)]
  have hk : ∀ (k : Nat) (x : Nat × va_E), (jwl K.2.2 n w)[k]? = some x → H1[x.1]? = H[x.1]? := fun k x hx => o1 x.1 (h1 k x hx).lt
  rw [h3 trivial]
  refine h H1 locs ls ?_ ⟨Nat.le_trans h2.1 (by omega), fun x a b => (o1 x (Nat.lt_of_lt_of_le a h2.1)).trans (h2.2.1 x a b), h2.2.2⟩ (fun _ => by rw [z1, h3 trivial]; rfl) h4
  rw [← jwl_push]
  refine (h1.kept hk).app fun k x hx => ?_
  have hz : k < 1 := (List.getElem?_eq_some_iff.mp hx).1
  rw [show k = 0 by omega] at hx
  cases hx
  show H1[K.2.2 + n]? = some (vp_cell _ _)
  rw [vp_cell_q]
  exact e1
theorem J_objZ (C : Cx X K nL own cc) {g : Prop} {idx a : Nat} (hl : Cond.methodLink own idx Lib.objectInit ∈ TB) (hi : Cond.instanceMethod Lib.objectInit ∈ TB) (hco : Cond.code Lib.objectInit { data := #[177] } 1 none ∈ TB) (hf : 1 ≤ X.2.2.2.1.frames) (hlo : (st.map fun v => v.category).sum + 12 ≤ X.2.2.2.1.locals) (d : decode cc pc = .ok (.invokespecial idx, 3)) (hq : pc + 3 = q) (h : J X K nL g Q k sl n w q lv st) : J X K nL g Q k sl n w pc lv (.ref a :: st) := by
  subst hq
  intro H locs ls h1 h2 h3 h4
  exact W.objInit C.1 C.2.1 C.2.2.2.1 (C.2.2.2.2.1 _ hl) (C.2.2.2.2.1 _ hi) (C.2.2.2.2.1 _ hco) (g := F0 X.2.2.2.2.2.1 pc ls (.ref a :: st)) rfl (h4.1.trans C.2.2.1.symm) rfl d hf (by show 2 * 0 + _ + 12 ≤ _; omega) (h H locs ls h1 h2 h3 h4)
/-- the world counts only below n -/
theorem J.wcongr {g : Prop} {w' : JW} (e : ∀ j, j < n → w j = w' j) (h : J X K nL g Q k sl n w' pc lv st) : J X K nL g Q k sl n w pc lv st := by
  have e2 : jwl K.2.2 n w = jwl K.2.2 n w' := by
    unfold jwl
    apply List.map_congr_left
    intro j hj
    rw [e j (List.mem_range.mp hj)]
  intro H locs ls h1 h2 h3 h4
  rw [e2] at h1
  exact h H locs ls h1 h2 h3 h4
end JN
set_option maxHeartbeats 1000000 in
theorem Con.enterI {l : Launch} {K : JK} {y : MethodName} {own : String} {cc : ByteArray} {maxL : Nat} {ret : Option FieldType} {d mc ms : Nat} {g : Prop} {av : List Value} {n : Nat} {w : JW} {Qr : Option Value → Nat → JW → Prop} {Qx : String → Nat → JW → Prop}
    (hl : l.stackTraces = false) (hy : plainName y.cls = true) (hown : y.cls = own) (hnm : y.name = "<init>") (hlen : (lg_sl av).length ≤ maxL)
    (body : ∀ X : JX, X.2.1 = l → X.2.2.2.1 = jR d mc ms → Cx X K maxL own cc → X.2.2.2.2.2.2.2.2.1.sig.returnType = ret → X.2.2.2.2.2.2.2.2.1.name = "<init>" → J X K maxL g (jQ X K mc ms Qr Qx g) 0 0 n w 0 (lv_args 0 av) []) :
    Con l K y (.code y cc maxL ret :: TB) d mc ms g av n w Qr Qx := by
  refine vx_ofW (cc := cc) (maxL := maxL) (ret := ret) hy rfl ?_
  intro p e s m args below meth c s₁ B hml hnt hv
  obtain ⟨rfl, hev, hP, hg⟩ := hv
  have hts := atoms_spec (ws := Cond.code y cc maxL ret :: TB) B.pre
  have hown2 : s.vm.findClass own = some m.cls := by rw [← hown]; exact findClass_of_methodNamed B.named
  have h := body (p, l, e, jR d mc ms, s, m, av.toArray, below, meth, c) rfl rfl ⟨B.exec, B.bytes, hml, hown2, fun w hw => hts w (List.mem_cons_of_mem _ hw), hev, B.notSynchronized, hl⟩ B.returns (((name_of_methodNamed B.named B.method).1).trans hnm)
  have hl2 := lv_entry av (n := maxL) hlen
  rw [lg_entry_eq]
  exact h s.heap [] _ hP va_S.rf hg hl2
/-! worlds written as a list of cells behind a place -/
def wl (a : Nat) (w0 : JW) (es : List va_E) : JW := fun j => if j < a then w0 j else (es[j - a]?).getD (.inr (0, []))
theorem wl_at {a i : Nat} {w0 : JW} {es : List va_E} {e : va_E} (h : es[i]? = some e) : wl a w0 es (a + i) = e := by
  simp [wl, h]
  intro hh
  omega
theorem wl_set {a i : Nat} {w0 : JW} {es : List va_E} {e : va_E} (h : i < es.length) : jup (wl a w0 es) (a + i) e = wl a w0 (es.set i e) := by
  funext j
  unfold jup wl
  by_cases hj : j = a + i
  · subst hj
    simp [h]
    intro hh
    omega
  · rw [if_neg hj]
    by_cases hl : j < a
    · simp [hl]
    · rw [if_neg hl, if_neg hl, List.getElem?_set_ne (by omega)]
theorem wl_push {a m : Nat} {w0 : JW} {es : List va_E} {e : va_E} (hm : es.length = m) : ∀ j, j < a + (m + 1) → jup (wl a w0 es) (a + m) e j = wl a w0 (es ++ [e]) j := by
  subst hm
  intro j hj
  unfold jup wl
  by_cases h : j = a + es.length
  · subst h
    simp
    intro hh
    omega
  · rw [if_neg h]
    by_cases hl : j < a
    · simp [hl]
    · rw [if_neg hl, if_neg hl, List.getElem?_append_left (by omega)]
theorem wl_nest {a m : Nat} {w0 : JW} {es fs : List va_E} (hm : es.length = m) : wl (a + m) (wl a w0 es) fs = wl a w0 (es ++ fs) := by
  subst hm
  funext j
  unfold wl
  by_cases h : j < a + es.length
  · rw [if_pos h]
    by_cases hl : j < a
    · simp [hl]
    · rw [if_neg hl, if_neg hl, List.getElem?_append_left (by omega)]
  · rw [if_neg h, if_neg (by omega), List.getElem?_append_right (by omega)]
    congr 2
    omega
def z0 : Nat → Int32 := fun _ => 0
def zL : Nat → Int64 := fun _ => 0
section LZ
variable {X : JX} {K : JK} {nL : Nat} {Q : State → Prop} {k sl : Nat} {pc q : Nat} {lv lv' : List (Nat × Value)} {st : List Value} {own : String} {cc : ByteArray} {a m i r : Nat} {w0 : JW} {es : List va_E}
theorem L_put {g : Prop} (C : Cx X K nL own cc) (hname : X.2.2.2.2.2.2.2.2.1.name = "<init>") {index ci kf N : Nat} {Cn : String} {T : u_T} {ty : Nat → FieldType} {fs : List Value} {v : Value} (hm : es.length = m) (hr : r = a + i) (hi : i < m) (he : es[i]? = some (.inr (ci, fs))) (fp : FP own index ci kf Cn T N) (hty : ∀ k, k < N → parseFieldDescriptor (T k).2.2.1 = some (ty k)) (hnm : ∀ a, a < N → ∀ b, b < N → a ≠ b → (T a).2.1 ≠ (T b).2.1) (hfin : (T kf).2.2.2 = false ∨ ((T kf).2.2.2 = true ∧ (T kf).1 = own)) (hn : narrow (ty kf) v = v) (hfit : fits (ty kf) v = true) (hlen : kf < fs.length) (d : decode cc pc = .ok (.putfield index, 3)) (hq : pc + 3 = q) (h : J X K nL g Q k sl (a + m) (wl a w0 (es.set i (.inr (ci, fs.set kf v)))) q lv st) : J X K nL g Q k sl (a + m) (wl a w0 es) pc lv (v :: .ref (K.2.2 + r) :: st) := by
  subst hr
  refine J_putZ C fp.2.1 hty hnm (by omega) (wl_at he) fp.1 fp.2.2.1 fp.2.2.2.1 (hfin.imp id (fun z => ⟨z.1, hname, z.2⟩)) hn hfit hlen d hq ?_
  rw [wl_set (by omega)]
  exact h
theorem L_iast {g : Prop} (C : Cx X K nL own cc) {len : Nat} {f : Nat → Int32} {j x : Int32} (hm : es.length = m) (hr : r = a + i) (hi : i < m) (he : es[i]? = some (.inl (K.2.1.1, len, .inl f))) (hin : vp_in j len) (d : decode cc pc = .ok (.iastore, 1)) (hq : pc + 1 = q) (h : J X K nL g Q k sl (a + m) (wl a w0 (es.set i (.inl (K.2.1.1, len, .inl (upd f j.toNatClampNeg x))))) q lv st) : J X K nL g Q k sl (a + m) (wl a w0 es) pc lv (.int x :: .int j :: .ref (K.2.2 + r) :: st) := by
  subst hr
  refine J_iastZ C (by omega) (wl_at he) hin d hq ?_
  rw [wl_set (by omega)]
  exact h
theorem L_get {g : Prop} (C : Cx X K nL own cc) {index ci kf N : Nat} {Cn : String} {T : u_T} {fs : List Value} {v : Value} (hm : es.length = m) (hr : r = a + i) (hi : i < m) (he : es[i]? = some (.inr (ci, fs))) (fp : FP own index ci kf Cn T N) (hv : fs[kf]? = some v) (d : decode cc pc = .ok (.getfield index, 3)) (hq : pc + 3 = q) (h : J X K nL g Q k sl (a + m) (wl a w0 es) q lv (v :: st)) : J X K nL g Q k sl (a + m) (wl a w0 es) pc lv (.ref (K.2.2 + r) :: st) := by
  subst hr
  exact J_get C fp.2.1 (by omega) (wl_at he) fp.1 fp.2.2.1 fp.2.2.2.1 hv d hq h
theorem L_new (C : Cx X K nL own cc) {Cn : String} {T : u_T} {N ci index sl' : Nat} {fs : List Value} {ty0 : Nat → FieldType} (hm : es.length = m) (hin : ∀ w ∈ u_ws Cn T N, w ∈ TB) (hty : ∀ k, k < N → parseFieldDescriptor (T k).2.2.1 = some (ty0 k)) (hc : vwCl[ci]? = some (Cn, T, N)) (hl : Cond.classLink own index Cn ∈ TB) (hi : Cond.instantiable Cn N ∈ TB) (hz : Cond.initialized Cn ∈ TB) (hfs : ∀ j, j < N → defaultValue (ty0 j) = vp_V fs j) (hsl : sl + N = sl') (hcells : k + 1 ≤ X.2.2.2.1.cells) (hslots : sl' ≤ X.2.2.2.1.slots) (d : decode cc pc = .ok (.new index, 3)) (hq : pc + 3 = q) (h : J X K nL True Q (k + 1) sl' (a + (m + 1)) (wl a w0 (es ++ [.inr (ci, fs)])) q lv (.ref (K.2.2 + (a + m)) :: st)) : J X K nL True Q k sl (a + m) (wl a w0 es) pc lv st := by
  subst hsl
  exact J_newZ C hin hty hc hl hi hz hfs hcells hslots d hq (J.wcongr (wl_push hm) h)
theorem L_newa (C : Cx X K nL own cc) {atype : ArrayType} {t0 N sl' : Nat} {cA : ClassId} {a0 : vp_A} {c : Int32} (hm : es.length = m) (harr : Cond.arrayClass (newarray.typeOf atype) ∈ TB) (ht : (jtys K)[t0]? = some (cA, newarray.typeOf atype)) (hnm : ∀ {c : ClassId}, X.2.2.2.2.1.vm.findClass ("[" ++ (newarray.typeOf atype).toString) = some c → va_RA X.2.2.2.2.1 cA (newarray.typeOf atype) → c = cA) (ha : ∀ c : ClassId, vp_cell c a0 = arrV c N (fun _ => defaultValue (newarray.typeOf atype))) (hn : ¬ c < 0) (hN : c.toNatClampNeg = N) (hbytes : N * componentBytes (newarray.typeOf atype) ≤ 536870912) (hsl : sl + N = sl') (hcells : k + 1 ≤ X.2.2.2.1.cells) (hslots : sl' ≤ X.2.2.2.1.slots) (d : decode cc pc = .ok (.newarray atype, 2)) (hq : pc + 2 = q) (h : J X K nL True Q (k + 1) sl' (a + (m + 1)) (wl a w0 (es ++ [.inl (cA, a0)])) q lv (.ref (K.2.2 + (a + m)) :: st)) : J X K nL True Q k sl (a + m) (wl a w0 es) pc lv (.int c :: st) := by
  subst hsl
  exact J_newaZ C harr ht hnm ha hn hN hbytes hcells hslots d hq (J.wcongr (wl_push hm) h)
theorem L_newI (C : Cx X K nL own cc) {N sl' : Nat} {c : Int32} (hm : es.length = m) (harr : Cond.arrayClass .int ∈ TB) (hn : ¬ c < 0) (hN : c.toNatClampNeg = N) (hbytes : N * 4 ≤ 536870912) (hsl : sl + N = sl') (hcells : k + 1 ≤ X.2.2.2.1.cells) (hslots : sl' ≤ X.2.2.2.1.slots) (d : decode cc pc = .ok (.newarray .int, 2)) (hq : pc + 2 = q) (h : J X K nL True Q (k + 1) sl' (a + (m + 1)) (wl a w0 (es ++ [.inl (K.2.1.1, N, .inl z0)])) q lv (.ref (K.2.2 + (a + m)) :: st)) : J X K nL True Q k sl (a + m) (wl a w0 es) pc lv (.int c :: st) :=
  L_newa C (atype := .int) (t0 := 0) hm harr rfl (fun h1 h2 => Option.some.inj (h1.symm.trans h2)) (fun c => vp_cell_i ..) hn hN hbytes hsl hcells hslots d hq h
theorem L_newB (C : Cx X K nL own cc) {N sl' : Nat} {c : Int32} (hm : es.length = m) (harr : Cond.arrayClass .byte ∈ TB) (hn : ¬ c < 0) (hN : c.toNatClampNeg = N) (hbytes : N * 1 ≤ 536870912) (hsl : sl + N = sl') (hcells : k + 1 ≤ X.2.2.2.1.cells) (hslots : sl' ≤ X.2.2.2.1.slots) (d : decode cc pc = .ok (.newarray .byte, 2)) (hq : pc + 2 = q) (h : J X K nL True Q (k + 1) sl' (a + (m + 1)) (wl a w0 (es ++ [.inl (K.2.1.2.1, N, .inl z0)])) q lv (.ref (K.2.2 + (a + m)) :: st)) : J X K nL True Q k sl (a + m) (wl a w0 es) pc lv (.int c :: st) :=
  L_newa C (atype := .byte) (t0 := 1) hm harr rfl (fun h1 h2 => Option.some.inj (h1.symm.trans h2)) (fun c => vp_cell_i ..) hn hN hbytes hsl hcells hslots d hq h
theorem L_newZ (C : Cx X K nL own cc) {N sl' : Nat} {c : Int32} (hm : es.length = m) (harr : Cond.arrayClass .boolean ∈ TB) (hn : ¬ c < 0) (hN : c.toNatClampNeg = N) (hbytes : N * 1 ≤ 536870912) (hsl : sl + N = sl') (hcells : k + 1 ≤ X.2.2.2.1.cells) (hslots : sl' ≤ X.2.2.2.1.slots) (d : decode cc pc = .ok (.newarray .boolean, 2)) (hq : pc + 2 = q) (h : J X K nL True Q (k + 1) sl' (a + (m + 1)) (wl a w0 (es ++ [.inl (K.2.1.2.2.1, N, .inl z0)])) q lv (.ref (K.2.2 + (a + m)) :: st)) : J X K nL True Q k sl (a + m) (wl a w0 es) pc lv (.int c :: st) :=
  L_newa C (atype := .boolean) (t0 := 2) hm harr rfl (fun h1 h2 => Option.some.inj (h1.symm.trans h2)) (fun c => vp_cell_i ..) hn hN hbytes hsl hcells hslots d hq h
theorem L_newJ (C : Cx X K nL own cc) {N sl' : Nat} {c : Int32} (hm : es.length = m) (harr : Cond.arrayClass .long ∈ TB) (hn : ¬ c < 0) (hN : c.toNatClampNeg = N) (hbytes : N * 8 ≤ 536870912) (hsl : sl + N = sl') (hcells : k + 1 ≤ X.2.2.2.1.cells) (hslots : sl' ≤ X.2.2.2.1.slots) (d : decode cc pc = .ok (.newarray .long, 2)) (hq : pc + 2 = q) (h : J X K nL True Q (k + 1) sl' (a + (m + 1)) (wl a w0 (es ++ [.inl (K.2.1.2.2.2.1, N, .inr (.inl zL))])) q lv (.ref (K.2.2 + (a + m)) :: st)) : J X K nL True Q k sl (a + m) (wl a w0 es) pc lv (.int c :: st) :=
  L_newa C (atype := .long) (t0 := 3) hm harr rfl (fun h1 h2 => Option.some.inj (h1.symm.trans h2)) (fun c => vp_cell_l ..) hn hN hbytes hsl hcells hslots d hq h
end LZ
def fil (p : Nat) (v : Int32) : Nat → Int32 := fun i => if i < p then v else 0
theorem fil_zero (v : Int32) : z0 = fil 0 v := by funext i; simp [z0, fil]
theorem fil_succ (p : Nat) (v : Int32) : upd (fil p v) p v = fil (p + 1) v := by
  funext i
  unfold upd fil
  by_cases h : i = p
  · subst h; simp
  · by_cases h2 : i < p
    · simp [h, h2, Nat.lt_succ_of_lt h2]
    · simp only [if_neg h, if_neg h2]
      rw [if_neg (by omega)]
section LF
variable {X : JX} {K : JK} {nL : Nat} {Q : State → Prop} {k sl : Nat} {pc q : Nat} {lv lv' : List (Nat × Value)} {st : List Value} {own : String} {cc : ByteArray} {a m i r : Nat} {w0 : JW} {es : List va_E}
theorem L_fil {g : Prop} (C : Cx X K nL own cc) {len p : Nat} {f : Nat → Int32} {j x : Int32} (hm : es.length = m) (hr : r = a + i) (hi : i < m) (he : es[i]? = some (.inl (K.2.1.1, len, .inl f))) (hf : f = fil p x) (hp : j.toNatClampNeg = p) (hin : vp_in j len) (d : decode cc pc = .ok (.iastore, 1)) (hq : pc + 1 = q) (h : J X K nL g Q k sl (a + m) (wl a w0 (es.set i (.inl (K.2.1.1, len, .inl (fil (p + 1) x))))) q lv st) : J X K nL g Q k sl (a + m) (wl a w0 es) pc lv (.int x :: .int j :: .ref (K.2.2 + r) :: st) := by
  subst hf hp
  exact L_iast C hm hr hi he hin d hq (by rw [fil_succ]; exact h)
/-- a constructor of an object that lies last -/
theorem L_ctor {index maxL d mc ms c kc sc : Nat} {y : MethodName} {bytes : ByteArray} {e0 : va_E} {cs es' : List va_E} (C : Cx X K nL own cc) (cw : CW own index y bytes maxL none 0 ∨ CN own index y bytes maxL none 0) (hy : y.name = "<init>") (hinst : Cond.instanceMethod y ∈ TB) {D MC M2 : Nat} (hR : X.2.2.2.1 = jR D MC M2) (hm : es.length = m) (hr : r = a + m)
    (con : ∀ w0 : JW, Con X.2.1 K y (.code y bytes maxL none :: TB) d mc ms True [.ref (K.2.2 + (a + m))] (a + m + 1) (wl (a + m) w0 [e0]) (fun v n w => v = none ∧ n = a + m + c ∧ w = wl (a + m) w0 cs) PN) (hf : d + 1 ≤ D) (hlo : 8 + (maxL + 11) + 36 * d ≤ 36 * D) (hsum : (st.map fun v => v.category).sum ≤ 8) (hk : k + mc = kc) (hs : sl + ms = sc) (hcells : kc ≤ MC ∧ sc ≤ M2) (dg : decode cc pc = .ok (.invokespecial index, 3)) (hq : pc + 3 = q) (hes : es ++ cs = es')
    (h : J X K nL True Q kc sc (a + (m + c)) (wl a w0 es') q lv st) : J X K nL True Q k sl (a + (m + 1)) (wl a w0 (es ++ [e0])) pc lv (.ref (K.2.2 + r) :: st) := by
  subst hk hs hes hr
  rw [← wl_nest hm]
  rw [← wl_nest hm] at h
  have kr : ∀ (v : Option Value) (n' : Nat) (w' : JW), (v = none ∧ n' = a + m + c ∧ w' = wl (a + m) (wl a w0 es) cs) → J X K nL True Q (k + mc) (sl + ms) n' w' q lv (v.toList ++ st) := by
    rintro v n' w' ⟨rfl, rfl, rfl⟩
    rw [Nat.add_assoc a m c]
    exact h
  rcases cw with cw | cw
  · exact J_callI (a := K.2.2 + (a + m)) (As := []) C cw hy hinst (con (wl a w0 es)) rfl rfl (by rw [hR]; exact hf) (by rw [hR]; exact hlo) hsum (by rw [hR]; exact hcells) dg hq (fun E n9 w9 hx => JT_n hx) kr
  · exact J_callIN (a := K.2.2 + (a + m)) (As := []) C cw hy hinst (con (wl a w0 es)) rfl rfl (by rw [hR]; exact hf) (by rw [hR]; exact hlo) hsum (by rw [hR]; exact hcells) dg hq (fun E n9 w9 hx => JT_n hx) kr
end LF
