/-! THE CLAIM OUT OF ONE WALK OF THE LAW'S BODY. Your part is whole_start (and what it stands on); all else here is the same for every law, but numbers. -/
def R_law : String := "CursorroomLaw"
def lw_P (b : Addr) (xs : List Int32) (args : Array Value) (s : State) : Prop := args = #[.ref b] ∧ s.IntsAt b xs ∧ xs.length ≤ 2560 ∧ (Jvm.Cond.and given_1 narrow_1).before args s = true
/-- what a walk over the start with the record d0 says of its end, said of the start itself -/
theorem lw_closed {s t : State} {o : Outcome} {d0 : Drawn} {L : List Loc} {k n : Nat} (hd0 : s.drawn.sameBut d0 lw_cs) (hv : ∃ v, o = .returned v) (hW : (s.setDrawn d0).WarmedH t.vm) (hs : (s.setDrawn d0).sameButNew ({ t with vm := s.vm } : State) L k n) : State.butDraws s t lw_cs (fun t1 => Framed s o t1 L k n) := by
  have h2 : t.drawn = d0 := congrArg State.drawn hs.1
  refine ⟨⟨hv, hW, State.sameButNew.setDrawn hs s.drawn⟩, ?_, by decide⟩
  rw [h2]
  exact hd0
def lw_Q (_ : Array Value) (s : State) (o : Outcome) (t : State) : Prop := o = .returned (some (.int 1)) ∧ State.butDraws s t lw_cs (fun t1 => Framed s o t1 [] 601024 7293034)
def lw_Z (below : List Frame) (a : Array Value) (s : State) : State → Prop := fun t => ∃ o, t.status = .running ∧ Ended t below o ∧ lw_Q a s o t
/-- the law's own end, with 1 on the stack, nothing written that was there before, its room as the claim has it; d0: the record of draws at this point (at the entry s.drawn: begin with 'refine W.base ?_' and 'have hd0 := Drawn.sameBut.refl s.drawn lw_cs') -/
theorem lw_ret {p : Program} {l : Launch} {e : Env} {s : State} {m : MethodId} {below : List Frame} {meth : Method} {c : Code} {b : Nat} {d0 : Drawn} (hd0 : s.drawn.sameBut d0 lw_cs) (hx : p.tables.exec = Jvm.exec) (hb : c.code = code) (hr : meth.sig.returnType = ret) (hlocks : meth.locks = false) {pc : Nat} {H : Heap} {ls : Array Slot} (hdg : decode code pc = .ok (.ireturn, 1)) : W p l e room_1 (s.setDrawn d0) m #[Value.ref b] below meth c H [] 601024 7293034 (lw_Z below #[Value.ref b] s) (F0 m pc ls [.int 1]) := by
  intro T hT X
  obtain ⟨fs, hret, hrun, hended, hW, hframe⟩ := X.leave (v := some (.int 1)) (hlocks := hlocks) (fun h => by rw [hr] at h; cases h)
  have hmeth' : T.vm.method? m = some meth := X.method'
  refine ⟨T.setFrames fs, ?_, .returned (some (.int 1)), hrun, hended, rfl, lw_closed hd0 ⟨_, rfl⟩ hW hframe⟩
  jvm_step X.here [X.here.top, hx, hb, hdg, hmeth', hr, ret, narrow_b1]
  (try refine ⟨rfl, ?_⟩); (try refine ⟨rfl, ?_⟩)
  first | (intro acts; rw [hret _ acts rfl rfl rfl]) | rw [hret _ _ rfl rfl rfl]
  exact Steps.refl _
/-- what holds at the law's entry: the machine, the code, the tables' words (any of lw_tbl by 'hts w (by decide +kernel)'), the script of L ints xs at the cell b, what the Statement gives of the start (any of its parts by flat_of_before) -/
def lw_At (p : Program) (s : State) (m : MethodId) (meth : Method) (c : Code) (b L : Nat) (xs : Nat → Int32) : Prop :=
  p.tables.exec = Jvm.exec ∧ c.code = code ∧ meth.sig.returnType = ret ∧ c.maxLocals = 9 ∧ s.vm.findClass R_law = some m.cls ∧ (∀ w ∈ lw_tbl, w.before #[Value.ref b] s = true) ∧ va_X b L xs s s.heap ∧ b < s.heap.size ∧ meth.locks = false ∧ (Jvm.Cond.and given_1 narrow_1).before #[Value.ref b] s = true
theorem ws_1 : Cond.classLink "CursorroomLaw" 8 "Cursorroom" ∈ TB := TB_of (by decide +kernel) (by decide +kernel)
theorem ws_2 : Cond.instantiable "Cursorroom" 11 ∈ TB := TB_of (by decide +kernel) (by decide +kernel)
theorem ws_3 : Cond.initialized "Cursorroom" ∈ TB := TB_of (by decide +kernel) (by decide +kernel)
theorem ws_4 : CW RL 144 yX11_init cX11_init 2 none 0 := ⟨TB_of (by decide +kernel) (by decide +kernel), ws_3, TB_of (by decide +kernel) (by decide +kernel), by decide +kernel, by decide +kernel, by decide +kernel⟩
theorem ws_5 : Cond.instanceMethod yX11_init ∈ TB := TB_of (by decide +kernel) (by decide +kernel)
theorem ws_6 : Cond.classLink "CursorroomLaw" 145 "CursorroomModel" ∈ TB := TB_of (by decide +kernel) (by decide +kernel)
theorem ws_7 : Cond.instantiable "CursorroomModel" 56 ∈ TB := TB_of (by decide +kernel) (by decide +kernel)
theorem ws_8 : Cond.initialized "CursorroomModel" ∈ TB := TB_of (by decide +kernel) (by decide +kernel)
theorem ws_9 : CW RL 147 yX12_init cX12_init 2 none 0 := ⟨TB_of (by decide +kernel) (by decide +kernel), ws_8, TB_of (by decide +kernel) (by decide +kernel), by decide +kernel, by decide +kernel, by decide +kernel⟩
theorem ws_10 : Cond.instanceMethod yX12_init ∈ TB := TB_of (by decide +kernel) (by decide +kernel)
theorem ws_11 : Cond.arrayClass .long ∈ TB := TB_of (by decide +kernel) (by decide +kernel)
theorem cE10_len {K : JK} : (cE10 K 0).length = 2017 := s0_all.1.trans js_len
theorem cE11_len {K : JK} : (cE11 K 2017).length = 37 := by rw [m0_all, js_len]
set_option maxHeartbeats 1000000 in
theorem law_start {X : JX} {K : JK} {b : Nat} {Q : State → Prop} {w0 : JW} (C : Cx X K 9 RL cL_law) (hl : X.2.1.stackTraces = false) (hf : 12 ≤ X.2.2.2.1.frames) (hlo : 428 ≤ X.2.2.2.1.locals) (hc : 601024 ≤ X.2.2.2.1.cells) (hs : 7293034 ≤ X.2.2.2.1.slots)
    (h : J X K 9 False Q 2055 1233833 2055 (jw K σ0 μ0 0) 23 [(4, .int (Int32.ofNat (5 * 0))), (0, .ref b), (1, .ref (K.2.2 + 0)), (2, .ref (K.2.2 + 2017)), (3, .ref (K.2.2 + 2054))] []) : J X K 9 True Q 0 0 0 (wl 0 w0 []) 0 [(0, .ref b)] [] := by
  refine L_new (a := 0) (m := 0) (ty0 := tyX11) (ci := 10) (fs := [.null, .null, .null, .null, .null, .null, .null, .null, .null, .null, .int 0]) (sl' := 11) C rfl inTB10 tyX11_ok rfl ws_1 ws_2 ws_3 (by decide) rfl (by omega) (by omega) dL_law_0 rfl ?_
  refine J_dup C rfl dL_law_3 rfl ?_
  refine L_ctorD (a := 0) (m := 0) (kc := 2017) (sc := 180874) C ws_4 rfl ws_5 rfl rfl (fun w0 => k10_init hl) (by omega) (by omega) (Nat.le_of_ble_eq_true rfl) rfl rfl ⟨by omega, by omega⟩ dL_law_4 rfl ?_
  refine J_astore_n (i := 1) (lv' := [(1, .ref (K.2.2 + 0)), (0, .ref b)]) C dL_law_7 rfl (by decide) rfl rfl ?_
  show J X K 9 True Q 2017 180874 (0 + 2017) (wl 0 w0 (cE10 K 0)) 8 [(1, .ref (K.2.2 + 0)), (0, .ref b)] []
  refine L_new (a := 0) (m := 2017) (ty0 := tyX12) (ci := 11) (fs := [.null, .null, .null, .null, .null, .int 0, .int 0, .null, .null, .null, .null, .int 0, .int 0, .int 0, .int 0, .int 0, .int 0, .int 0, .int 0, .int 0, .null, .null, .null, .null, .null, .null, .null, .int 0, .int 0, .null, .null, .int 0, .int 0, .int 0, .int 0, .null, .null, .null, .null, .null, .null, .null, .int 0, .null, .null, .null, .null, .null, .null, .null, .int 0, .int 0, .null, .null, .null, .null]) (sl' := 180930) C cE10_len inTB11 tyX12_ok rfl ws_6 ws_7 ws_8 (by decide) rfl (by omega) (by omega) dL_law_8 rfl ?_
  refine J_dup C rfl dL_law_11 rfl ?_
  refine L_ctorD (a := 0) (m := 2017) (kc := 2054) (sc := 1233832) C ws_9 rfl ws_10 cE10_len rfl (fun w0 => k11_init hl) (by omega) (by omega) (Nat.le_of_ble_eq_true rfl) rfl rfl ⟨by omega, by omega⟩ dL_law_12 rfl ?_
  refine J_astore_n (i := 2) (lv' := [(2, .ref (K.2.2 + 2017)), (1, .ref (K.2.2 + 0)), (0, .ref b)]) C dL_law_15 rfl (by decide) rfl rfl ?_
  refine J_iconst (v := 1) C (by decide) dL_law_16 rfl ?_
  refine L_newJ (a := 0) (m := 2054) (N := 1) (sl' := 1233833) C (by rw [List.length_append, cE10_len]; exact congrArg (2017 + ·) cE11_len) ws_11 (by decide) rfl (by decide) rfl (by omega) (by omega) dL_law_17 rfl ?_
  refine J_astore_n (i := 3) (lv' := [(3, .ref (K.2.2 + 2054)), (2, .ref (K.2.2 + 2017)), (1, .ref (K.2.2 + 0)), (0, .ref b)]) C dL_law_19 rfl (by decide) rfl rfl ?_
  refine J_iconst (v := 0) C (by decide) dL_law_20 rfl ?_
  refine J_istore (i := 4) (lv' := [(4, .int 0), (3, .ref (K.2.2 + 2054)), (2, .ref (K.2.2 + 2017)), (1, .ref (K.2.2 + 0)), (0, .ref b)]) C dL_law_21 (by decide) rfl rfl ?_
  show J X K 9 True Q 2055 1233833 2055 (wl 0 w0 ((cE10 K 0 ++ cE11 K 2017) ++ [outE K])) 23 _ _
  rw [List.append_assoc]
  refine start_world (J.forget ?_)
  exact J.sub [0, 4, 3, 2, 1] rfl h
/-- the law's end -/
theorem law_end {p : Program} {l : Launch} {e : Env} {s : State} {m : MethodId} {below : List Frame} {meth : Method} {c : Code} {b : Nat} {K : JK} (C : Cx (p, l, e, room_1, s, m, #[Value.ref b], below, meth, c) K 9 RL cL_law) (hr : meth.sig.returnType = ret) (hlocks : meth.locks = false) (hK : K.2.2 = s.heap.size) {k sl : Nat} {w : JW} {lv : List (Nat × Value)} (hk : k ≤ 601024) (hs : sl ≤ 7293034) : J (p, l, e, room_1, s, m, #[Value.ref b], below, meth, c) K 9 False (lw_Z below #[Value.ref b] s) k sl 2055 w 2960 lv [] := by
  refine J_iconst (v := 1) C (by decide) dL_law_2960 rfl ?_
  intro H locs ls h1 h2 h3 h4
  refine va_forget (fun q hq => by have := h2.2.2 q hq; rw [jA, hK] at this; exact this) ?_
  refine W.widen hk hs ?_
  have hd0 := Drawn.sameBut.refl s.drawn lw_cs
  exact W.base (lw_ret hd0 C.1 C.2.1 hr hlocks dL_law_2961)
/-- the law, given what every turn keeps -/
theorem law_whole {p : Program} {e : Env} {s : State} {m : MethodId} {below : List Frame} {meth : Method} {c : Code} (l : Launch) (hflags : l.flags = flags0) {b L : Nat} {xs : Nat → Int32} (hL : L ≤ 2560) (C0 : lw_At p s m meth c b L xs) {I : Sto → Sto → Int64 → Prop} (h0 : I σ0 μ0 0) (hstep : ∀ (i : Nat) (σ μ : Sto) (o : Int64), I σ μ o → ∀ n : Nat, n < 48 → sAll xs i σ μ o I n) : W p l e room_1 s m #[Value.ref b] below meth c s.heap [] 0 0 (lw_Z below #[Value.ref b] s) (entryFrame m ([Value.ref b] : List Value).toArray 9) := by
  obtain ⟨hx, hb, hr, hml, hown, hts, hX, hbl, hlocks, hgv⟩ := C0
  obtain ⟨K, hK, hev⟩ := EV_start hts hgv
  have hst : l.stackTraces = false := by rw [Launch.stackTraces, hflags]; rfl
  have C : Cx (p, l, e, room_1, s, m, #[Value.ref b], below, meth, c) K 9 RL cL_law := ⟨hx, hb, hml, hown, fun w hw => hts w (List.mem_filter.mp hw).1, hev, hlocks, hst⟩
  have hbA : ¬ jA K b := by rw [jA, hK]; exact Nat.not_le.mpr hbl
  have c : LC (p, l, e, room_1, s, m, #[Value.ref b], below, meth, c) K b L xs := ⟨C, hst, hX, hbl, hbA, hL, Nat.le_refl _, Nat.le_refl _⟩
  have hloop := law_loop (Q := lw_Z below #[Value.ref b] s) (k0 := 2055) (s0 := 1233833) c (Nat.le_of_ble_eq_true rfl) (Nat.le_of_ble_eq_true rfl) hstep (fun k sl σ μ o lv hk hs => law_end C hr hlocks hK hk hs) 513 0 σ0 μ0 0 rfl (Nat.zero_le L) h0
  have hJ := law_start (w0 := fun _ => .inr (0, [])) C hst (Nat.le_refl _) (Nat.le_refl _) (Nat.le_refl _) (Nat.le_refl _) hloop
  have hl := lv_entry ([.ref b]) (n := 9) (Nat.le_of_ble_eq_true rfl)
  rw [lg_entry_eq]
  exact hJ s.heap [] _ (fun k q hq => by simp [jwl] at hq) va_S.rf (fun _ => by rw [hK]; rfl) hl
