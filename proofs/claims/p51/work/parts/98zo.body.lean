/-! THE CLAIM OUT OF ONE WALK OF THE LAW'S BODY. Your part is whole_start (and what it stands on); all else here is the same for every law, but numbers. -/
def R_law : String := "CursorroomLaw"
def lw_P (b : Addr) (xs : List Int32) (args : Array Value) (s : State) : Prop := args = #[.ref b] ∧ s.IntsAt b xs ∧ xs.length ≤ 260 ∧ (Jvm.Cond.and given_1 narrow_1).before args s = true
/-- what a walk over the start with the record d0 says of its end, said of the start itself -/
theorem lw_closed {s t : State} {o : Outcome} {d0 : Drawn} {L : List Loc} {k n : Nat} (hd0 : s.drawn.sameBut d0 lw_cs) (hv : ∃ v, o = .returned v) (hW : (s.setDrawn d0).WarmedH t.vm) (hs : (s.setDrawn d0).sameButNew ({ t with vm := s.vm } : State) L k n) : State.butDraws s t lw_cs (fun t1 => Framed s o t1 L k n) := by
  have h2 : t.drawn = d0 := congrArg State.drawn hs.1
  refine ⟨⟨hv, hW, State.sameButNew.setDrawn hs s.drawn⟩, ?_, by decide⟩
  rw [h2]
  exact hd0
def lw_Q (_ : Array Value) (s : State) (o : Outcome) (t : State) : Prop := o = .returned (some (.int 1)) ∧ State.butDraws s t lw_cs (fun t1 => Framed s o t1 [] 600104 7301314)
def lw_Z (below : List Frame) (a : Array Value) (s : State) : State → Prop := fun t => ∃ o, t.status = .running ∧ Ended t below o ∧ lw_Q a s o t
/-- the law's own end, with 1 on the stack, nothing written that was there before, its room as the claim has it; d0: the record of draws at this point (at the entry s.drawn: begin with 'refine W.base ?_' and 'have hd0 := Drawn.sameBut.refl s.drawn lw_cs') -/
theorem lw_ret {p : Program} {l : Launch} {e : Env} {s : State} {m : MethodId} {below : List Frame} {meth : Method} {c : Code} {b : Nat} {d0 : Drawn} (hd0 : s.drawn.sameBut d0 lw_cs) (hx : p.tables.exec = Jvm.exec) (hb : c.code = code) (hr : meth.sig.returnType = ret) (hlocks : meth.locks = false) {pc : Nat} {H : Heap} {ls : Array Slot} (hdg : decode code pc = .ok (.ireturn, 1)) : W p l e room_1 (s.setDrawn d0) m #[Value.ref b] below meth c H [] 600104 7301314 (lw_Z below #[Value.ref b] s) (F0 m pc ls [.int 1]) := by
  intro T hT X
  obtain ⟨fs, hret, hrun, hended, hW, hframe⟩ := X.leave (v := some (.int 1)) (hlocks := hlocks) (fun h => by rw [hr] at h; cases h)
  have hmeth' : T.vm.method? m = some meth := X.method'
  refine ⟨T.setFrames fs, ?_, .returned (some (.int 1)), hrun, hended, rfl, lw_closed hd0 ⟨_, rfl⟩ hW hframe⟩
  jvm_step X.here [X.here.top, hx, hb, hdg, hmeth', hr, ret, narrow_b1]
  (try refine ⟨rfl, ?_⟩); (try refine ⟨rfl, ?_⟩)
  first | (intro acts; rw [hret _ acts rfl rfl rfl]) | rw [hret _ _ rfl rfl rfl]
  exact Steps.refl _
/-- what holds at the law's entry: the machine, the code, the tables' words (any of lw_tbl by 'hts w (by decide +kernel)'), the script of L ints xs at the cell b, what the Statement gives of the start (any of its parts by flat_of_before) -/
def lw_At (p : Program) (s : State) (m : MethodId) (meth : Method) (c : Code) (b L : Nat) (xs : Nat → Int32) : Prop :=
  p.tables.exec = Jvm.exec ∧ c.code = code ∧ meth.sig.returnType = ret ∧ c.maxLocals = 7 ∧ s.vm.findClass R_law = some m.cls ∧ (∀ w ∈ lw_tbl, w.before #[Value.ref b] s = true) ∧ va_X b L xs s s.heap ∧ b < s.heap.size ∧ meth.locks = false ∧ (Jvm.Cond.and given_1 narrow_1).before #[Value.ref b] s = true
/-! the law's rows -/
def gridL (K : JK) : List va_E := .inl (K.1.1 99, 41, .inr (.inr (.inr (.inr (fun i => some (K.2.2 + (2 + i))))))) :: List.replicate 41 (.inl (K.2.1.1, 3500, .inl z0))
def seedR (x : Int32) : Nat → Nat → Int32 := up2 (fun _ => z0) 0 0 x
def lawL (K : JK) (x : Int32) : List va_E := ((([.inl (K.2.1.1, 1, .inl (upd z0 0 x))] ++ gridL K) ++ [.inl (K.2.1.1, 40, .inl z0)]) ++ [.inl (K.2.1.1, 8, .inl z0)]) ++ [.inl (K.2.1.2.2.1, 16, .inl z0)] ++ [.inl (K.2.1.2.2.1, 3500, .inl z0)]
set_option maxRecDepth 100000 in
theorem law_rows {K : JK} {x : Int32} : lawL K x = (List.range 47).map (lcell K (seedR x)) := rfl
theorem law_at {K : JK} {x : Int32} {w0 : JW} {j : Nat} (hj : j < 47) : wl 0 w0 (lawL K x) j = lcell K (seedR x) j := by
  unfold wl
  rw [if_neg (by omega), law_rows, Nat.sub_zero, List.getElem?_map, List.getElem?_range hj]
  rfl
theorem seed_up {a v : Int32} {k : Nat} (hk : k = 0) : upd (upd z0 0 a) k v = upd z0 0 v := by
  subst hk
  funext j
  unfold upd
  split <;> rfl
theorem mn_ext {c : ClassId} {N : Nat} {f g : Nat → Value} (h : ∀ j, j < N → f j = g j) : arrV c N f = arrV c N g := by
  unfold arrV
  rw [show (fun j : Fin N => f j.val) = (fun j : Fin N => g j.val) from funext fun j => h j.val j.isLt]
theorem grid_at {K : JK} {x : Int32} {w0 : JW} {i : Nat} (i0 : ¬ i = 0) (i1 : ¬ i = 1) (hi : i < 43) : wl 0 w0 ([.inl (K.2.1.1, 1, .inl (upd z0 0 x))] ++ gridL K) i = .inl (K.2.1.1, 3500, .inl z0) := by
  obtain ⟨j, rfl⟩ : ∃ j, i = j + 2 := ⟨i - 2, by omega⟩
  unfold wl gridL
  rw [if_neg (by omega), Nat.sub_zero]
  show ((List.replicate 41 (Sum.inl (K.2.1.1, 3500, Sum.inl z0) : va_E))[j]?).getD _ = _
  rw [List.getElem?_replicate, if_pos (by omega)]
  rfl
section LW
variable {X : JX} {K : JK} {b L : Nat} {xs : Nat → Int32} {Q : State → Prop} {w0 : JW}
/-- the seed out of the script -/
theorem law_seed (C : Cx X K 7 RL cL_law) (hx : va_X b L xs X.2.2.2.2.1 X.2.2.2.2.1.heap) (hb : b < X.2.2.2.2.1.heap.size) (hbA : ¬ jA K b) (hL : L ≤ 260) (h : ∀ x, J X K 7 True Q 1 1 (0 + 1) (wl 0 w0 [.inl (K.2.1.1, 1, .inl (upd z0 0 x))]) 36 [(0, .ref b), (1, .ref (K.2.2 + 0))] []) : ∀ (n t : Nat) (x : Int32), t + n = L → J X K 7 True Q 1 1 (0 + 1) (wl 0 w0 [.inl (K.2.1.1, 1, .inl (upd z0 0 x))]) 11 [(2, .int (Int32.ofNat t)), (0, .ref b), (1, .ref (K.2.2 + 0))] [] := by
  intro n
  induction n with
  | zero =>
    intro t x e
    refine J_iload_n (i := 2) (p := 0) C dL_law_11 rfl rfl rfl ?_
    refine J_aload_n (i := 0) (p := 1) C dL_law_12 rfl rfl rfl ?_
    refine J_slen C hx hb hbA dL_law_13 rfl ?_
    refine J_icmp_ge (t := 36) C dL_law_14 (by decide) rfl (fun _ => ?_) (fun z => ?_)
    · exact J.sub [1, 2] rfl (h x)
    · exact absurd ((i32_le (by omega) (by omega)).mpr (by omega)) z
  | succ n ih =>
    intro t x e
    have h01 : vp_in (0 : Int32) 1 := inb_spec (by decide)
    refine J_iload_n (i := 2) (p := 0) C dL_law_11 rfl rfl rfl ?_
    refine J_aload_n (i := 0) (p := 1) C dL_law_12 rfl rfl rfl ?_
    refine J_slen C hx hb hbA dL_law_13 rfl ?_
    refine J_icmp_ge (t := 36) C dL_law_14 (by decide) rfl (fun z => ?_) (fun _ => ?_)
    · have := (i32_le (by omega) (by omega)).mp z
      omega
    refine J_aload_n (i := 1) (p := 2) C dL_law_17 rfl rfl rfl ?_
    refine J_iconst (v := 0) C (by decide) dL_law_18 rfl ?_
    refine J_bipush (v := 31) C (by decide) dL_law_19 rfl ?_
    refine J_aload_n (i := 1) (p := 2) C dL_law_21 rfl rfl rfl ?_
    refine J_iconst (v := 0) C (by decide) dL_law_22 rfl ?_
    refine J_iald (a := 0) (len := 1) (f := upd z0 0 x) C (by omega) rfl h01 dL_law_23 rfl ?_
    refine J_imul C dL_law_24 rfl ?_
    refine J_aload_n (i := 0) (p := 1) C dL_law_25 rfl rfl rfl ?_
    refine J_iload_n (i := 2) (p := 0) C dL_law_26 rfl rfl rfl ?_
    refine J_sld C hx hb hbA (inb_spec (inb_n (show t < L by omega) (by omega))) dL_law_27 rfl ?_
    refine J_iadd C dL_law_28 rfl ?_
    refine L_iast (a := 0) (m := 1) (i := 0) (r := 0) (len := 1) (f := upd z0 0 x) C rfl rfl (by decide) rfl h01 dL_law_29 rfl ?_
    rw [seed_up (show (0 : Int32).toNatClampNeg = 0 by decide)]
    refine J_iinc (i := 2) (p := 0) (v := Int32.ofNat (t + 1)) (lv' := [(2, .int (Int32.ofNat (t + 1))), (0, .ref b), (1, .ref (K.2.2 + 0))]) C dL_law_30 rfl i32_succ (by decide) rfl rfl ?_
    refine J_goto (t := 11) C dL_law_33 (by decide) ?_
    exact ih (t + 1) _ (by omega)
/-- the law's rows made, and plays called -/
theorem law_tail (C : Cx X K 7 RL cL_law) (hl : X.2.1.stackTraces = false) (hf : 13 ≤ X.2.2.2.1.frames) (hlo : 463 ≤ X.2.2.2.1.locals) (hc : 12036 ≤ X.2.2.2.1.cells) (hs : 387812 ≤ X.2.2.2.1.slots) {x : Int32}
    (mna : ∀ lv, J X K 7 True Q 43 143542 (0 + 43) (wl 0 w0 ([.inl (K.2.1.1, 1, .inl (upd z0 0 x))] ++ gridL K)) 45 lv [.ref (K.2.2 + 1)] → J X K 7 True Q 1 1 (0 + 1) (wl 0 w0 [.inl (K.2.1.1, 1, .inl (upd z0 0 x))]) 41 lv [.int 3500, .int 41])
    (hend : ∀ (n : Nat) (w : JW) (lv : List (Nat × Value)), J X K 7 False Q 12036 387812 n w 82 lv [.int 1]) : J X K 7 True Q 1 1 (0 + 1) (wl 0 w0 [.inl (K.2.1.1, 1, .inl (upd z0 0 x))]) 36 [(0, .ref b), (1, .ref (K.2.2 + 0))] [] := by
  refine J_bipush (v := 41) C (by decide) dL_law_36 rfl ?_
  refine J_sipush (v := 3500) C (by decide) dL_law_38 rfl ?_
  refine mna _ ?_
  refine J_astore_n (i := 2) (lv' := [(2, .ref (K.2.2 + 1)), (0, .ref b), (1, .ref (K.2.2 + 0))]) C dL_law_45 rfl (by decide) rfl rfl ?_
  refine J_bipush (v := 40) C (by decide) dL_law_46 rfl ?_
  refine L_newI (a := 0) (m := 43) (N := 40) (sl' := 143582) C rfl ws_7 (by decide) rfl (by decide) rfl (Nat.le_trans (Nat.le_of_ble_eq_true rfl) hc) (Nat.le_trans (Nat.le_of_ble_eq_true rfl) hs) dL_law_48 rfl ?_
  refine J_astore_n (i := 3) (lv' := [(3, .ref (K.2.2 + 43)), (2, .ref (K.2.2 + 1)), (0, .ref b), (1, .ref (K.2.2 + 0))]) C dL_law_50 rfl (by decide) rfl rfl ?_
  refine J_bipush (v := 8) C (by decide) dL_law_51 rfl ?_
  refine L_newI (a := 0) (m := 44) (N := 8) (sl' := 143590) C rfl ws_7 (by decide) rfl (by decide) rfl (Nat.le_trans (Nat.le_of_ble_eq_true rfl) hc) (Nat.le_trans (Nat.le_of_ble_eq_true rfl) hs) dL_law_53 rfl ?_
  refine J_astore (i := 4) (lv' := [(4, .ref (K.2.2 + 44)), (3, .ref (K.2.2 + 43)), (2, .ref (K.2.2 + 1)), (0, .ref b), (1, .ref (K.2.2 + 0))]) C dL_law_55 (by decide) rfl rfl ?_
  refine J_bipush (v := 16) C (by decide) dL_law_57 rfl ?_
  refine L_newZ (a := 0) (m := 45) (N := 16) (sl' := 143606) C rfl ws_8 (by decide) rfl (by decide) rfl (Nat.le_trans (Nat.le_of_ble_eq_true rfl) hc) (Nat.le_trans (Nat.le_of_ble_eq_true rfl) hs) dL_law_59 rfl ?_
  refine J_astore (i := 5) (lv' := [(5, .ref (K.2.2 + 45)), (4, .ref (K.2.2 + 44)), (3, .ref (K.2.2 + 43)), (2, .ref (K.2.2 + 1)), (0, .ref b), (1, .ref (K.2.2 + 0))]) C dL_law_61 (by decide) rfl rfl ?_
  refine J_sipush (v := 3500) C (by decide) dL_law_63 rfl ?_
  refine L_newZ (a := 0) (m := 46) (N := 3500) (sl' := 147106) C rfl ws_8 (by decide) rfl (by decide) rfl (Nat.le_trans (Nat.le_of_ble_eq_true rfl) hc) (Nat.le_trans (Nat.le_of_ble_eq_true rfl) hs) dL_law_66 rfl ?_
  refine J_astore (i := 6) (lv' := [(6, .ref (K.2.2 + 46)), (5, .ref (K.2.2 + 45)), (4, .ref (K.2.2 + 44)), (3, .ref (K.2.2 + 43)), (2, .ref (K.2.2 + 1)), (0, .ref b), (1, .ref (K.2.2 + 0))]) C dL_law_68 (by decide) rfl rfl ?_
  show J X K 7 True Q 47 147106 47 (wl 0 w0 (lawL K x)) 70 [(6, .ref (K.2.2 + 46)), (5, .ref (K.2.2 + 45)), (4, .ref (K.2.2 + 44)), (3, .ref (K.2.2 + 43)), (2, .ref (K.2.2 + 1)), (0, .ref b), (1, .ref (K.2.2 + 0))] []
  refine J.wcongr (w' := lcell K (seedR x)) (fun j hj => law_at hj) ?_
  refine J_aload_n (i := 1) (p := 6) C dL_law_70 rfl rfl rfl ?_
  refine J_aload_n (i := 2) (p := 4) C dL_law_71 rfl rfl rfl ?_
  refine J_aload_n (i := 3) (p := 3) C dL_law_72 rfl rfl rfl ?_
  refine J_aload (i := 4) (p := 2) C dL_law_73 rfl rfl ?_
  refine J_aload (i := 5) (p := 1) C dL_law_75 rfl rfl ?_
  refine J_aload (i := 6) (p := 0) C dL_law_77 rfl rfl ?_
  refine J_callSS (rest := []) C cs_RL_242.1 cs_RL_242.2 (kL_plays (r := seedR x) hl (fun k _ => rfl)) rfl rfl (Nat.le_trans (Nat.le_of_ble_eq_true rfl) hf) (Nat.le_trans (Nat.le_of_ble_eq_true rfl) hlo) (Nat.le_of_ble_eq_true rfl) ⟨Nat.le_trans (Nat.le_of_ble_eq_true rfl) hc, Nat.le_trans (Nat.le_of_ble_eq_true rfl) hs⟩ dL_law_79 rfl (fun E n9 w9 hx => hx.elim) (fun v n' w' hr => ?_)
  obtain ⟨p, hp, rfl, -, -⟩ := hr
  show J X K 7 False Q 12036 387812 n' w' 82 _ [.int p.1]
  rw [hp]
  exact hend _ _ _
/-- the law from its first instruction -/
theorem law_start (C : Cx X K 7 RL cL_law) (hl : X.2.1.stackTraces = false) (hf : 13 ≤ X.2.2.2.1.frames) (hlo : 463 ≤ X.2.2.2.1.locals) (hc : 12036 ≤ X.2.2.2.1.cells) (hs : 387812 ≤ X.2.2.2.1.slots) (hx : va_X b L xs X.2.2.2.2.1 X.2.2.2.2.1.heap) (hb : b < X.2.2.2.2.1.heap.size) (hbA : ¬ jA K b) (hL : L ≤ 260)
    (mna : ∀ x lv, J X K 7 True Q 43 143542 (0 + 43) (wl 0 w0 ([.inl (K.2.1.1, 1, .inl (upd z0 0 x))] ++ gridL K)) 45 lv [.ref (K.2.2 + 1)] → J X K 7 True Q 1 1 (0 + 1) (wl 0 w0 [.inl (K.2.1.1, 1, .inl (upd z0 0 x))]) 41 lv [.int 3500, .int 41])
    (hend : ∀ (n : Nat) (w : JW) (lv : List (Nat × Value)), J X K 7 False Q 12036 387812 n w 82 lv [.int 1]) : J X K 7 True Q 0 0 0 (wl 0 w0 []) 0 [(0, .ref b)] [] := by
  have h01 : vp_in (0 : Int32) 1 := inb_spec (by decide)
  refine J_iconst (v := 1) C (by decide) dL_law_0 rfl ?_
  refine L_newI (a := 0) (m := 0) (N := 1) (sl' := 1) C rfl ws_7 (by decide) rfl (by decide) rfl (Nat.le_trans (Nat.le_of_ble_eq_true rfl) hc) (Nat.le_trans (Nat.le_of_ble_eq_true rfl) hs) dL_law_1 rfl ?_
  refine J_dup C rfl dL_law_3 rfl ?_
  refine J_iconst (v := 0) C (by decide) dL_law_4 rfl ?_
  refine J_ldc (v := 59477) C ws_6 dL_law_5 rfl ?_
  refine L_iast (a := 0) (m := 1) (i := 0) (r := 0) (len := 1) (f := z0) C rfl rfl (by decide) rfl h01 dL_law_7 rfl ?_
  refine J_astore_n (i := 1) (lv' := [(1, .ref (K.2.2 + 0)), (0, .ref b)]) C dL_law_8 rfl (by decide) rfl rfl ?_
  refine J_iconst (v := 0) C (by decide) dL_law_9 rfl ?_
  refine J_istore_n (i := 2) (lv' := [(2, .int 0), (1, .ref (K.2.2 + 0)), (0, .ref b)]) C dL_law_10 rfl (by decide) rfl rfl ?_
  refine J.sub [0, 2, 1] rfl ?_
  exact law_seed C hx hb hbA hL (fun x => law_tail C hl hf hlo hc hs (fun lv => mna x lv) hend) L 0 59477 (Nat.zero_add L)
end LW
/-- the law, given how the grid is made -/
theorem law_whole {p : Program} {e : Env} {s : State} {m : MethodId} {below : List Frame} {meth : Method} {c : Code} (l : Launch) (hflags : l.flags = flags0) {b L : Nat} {xs : Nat → Int32} (hL : L ≤ 260) (C0 : lw_At p s m meth c b L xs)
    (mna : ∀ (K : JK), Cx (p, l, e, room_1, s, m, #[Value.ref b], below, meth, c) K 7 RL cL_law → s.vm.findClass ("[" ++ (FieldType.array .int).toString) = some (K.1.1 99) → (Cond.arrayOver (.array .int)).before #[Value.ref b] s = true → ∀ (Q : State → Prop) (w0 : JW) (x : Int32) (lv : List (Nat × Value)), J (p, l, e, room_1, s, m, #[Value.ref b], below, meth, c) K 7 True Q 43 143542 (0 + 43) (wl 0 w0 ([.inl (K.2.1.1, 1, .inl (upd z0 0 x))] ++ gridL K)) 45 lv [.ref (K.2.2 + 1)] → J (p, l, e, room_1, s, m, #[Value.ref b], below, meth, c) K 7 True Q 1 1 (0 + 1) (wl 0 w0 [.inl (K.2.1.1, 1, .inl (upd z0 0 x))]) 41 lv [.int 3500, .int 41]) :
    W p l e room_1 s m #[Value.ref b] below meth c s.heap [] 0 0 (lw_Z below #[Value.ref b] s) (entryFrame m ([Value.ref b] : List Value).toArray 7) := by
  obtain ⟨hx, hb, hr, hml, hown, hts, hX, hbl, hlocks, hgv⟩ := C0
  obtain ⟨K, hK, hev, hG⟩ := EV_start hts hgv
  have hst : l.stackTraces = false := by rw [Launch.stackTraces, hflags]; rfl
  have C : Cx (p, l, e, room_1, s, m, #[Value.ref b], below, meth, c) K 7 RL cL_law := ⟨hx, hb, hml, hown, fun w hw => hts w (List.mem_filter.mp hw).1, hev, hlocks, hst⟩
  have hbA : ¬ jA K b := by rw [jA, hK]; exact Nat.not_le.mpr hbl
  have hend : ∀ (n : Nat) (w : JW) (lv : List (Nat × Value)), J (p, l, e, room_1, s, m, #[Value.ref b], below, meth, c) K 7 False (lw_Z below #[Value.ref b] s) 12036 387812 n w 82 lv [.int 1] := by
    intro n w lv H locs ls h1 h2 h3 h4
    refine va_forget (fun q hq => by have := h2.2.2 q hq; rw [jA, hK] at this; exact this) ?_
    refine W.widen (show 12036 ≤ 600104 from Nat.le_of_ble_eq_true rfl) (show 387812 ≤ 7301314 from Nat.le_of_ble_eq_true rfl) ?_
    have hd0 := Drawn.sameBut.refl s.drawn lw_cs
    exact W.base (lw_ret hd0 C.1 C.2.1 hr hlocks dL_law_82)
  have hJ := law_start (w0 := fun _ => .inr (0, [])) C hst (Nat.le_of_ble_eq_true rfl) (Nat.le_of_ble_eq_true rfl) (Nat.le_of_ble_eq_true rfl) (Nat.le_of_ble_eq_true rfl) hX hbl hbA hL (fun x lv => mna K C hG (hts _ st_overA) _ _ x lv) hend
  have hl := lv_entry ([.ref b]) (n := 7) (Nat.le_of_ble_eq_true rfl)
  rw [lg_entry_eq]
  exact hJ s.heap [] _ (fun k q hq => by simp [jwl] at hq) va_S.rf (fun _ => by rw [hK]; rfl) hl
