/-! the grid made: its outer row at the heap's end, its rows behind it -/
theorem mn_outer (c : ClassId) (N h0 : Nat) : ∀ i : Nat, Jvm.Free.Multi.outerC c N h0 i = arrV c N (fun j => va_rf (if j < i then some (h0 + 1 + j) else none))
  | 0 => by
    show ({ cls := c, slots := Array.replicate N .null, vm := .none } : Cell) = _
    rw [arrV_new]
    refine congrArg (arrV c N) (funext fun j => ?_)
    simp [va_rf]
  | i + 1 => by
    show (Jvm.Free.Multi.outerC c N h0 i).setSlot i (.ref (h0 + 1 + i)) = _
    rw [mn_outer c N h0 i, arrV_store]
    refine congrArg (arrV c N) (funext fun j => ?_)
    by_cases e : j = i
    · subst e
      simp [updV, va_rf]
    · by_cases h : j < i
      · simp [updV, e, h, Nat.lt_succ_of_lt h]
      · simp [updV, e, h, show ¬ j < i + 1 by omega]
set_option maxRecDepth 100000 in
set_option maxHeartbeats 4000000 in
theorem L_mna {X : JX} {K : JK} {Q : State → Prop} {w0 : JW} {x : Int32} {lv : List (Nat × Value)} (C : Cx X K 7 RL cL_law) (hc : 43 ≤ X.2.2.2.1.cells) (hs : 143542 ≤ X.2.2.2.1.slots) (hG : X.2.2.2.2.1.vm.findClass ("[" ++ (FieldType.array .int).toString) = some (K.1.1 99)) (hover : (Cond.arrayOver (.array .int)).before X.2.2.2.2.2.2.1 X.2.2.2.2.1 = true)
    (h : J X K 7 True Q 43 143542 (0 + 43) (wl 0 w0 ([.inl (K.2.1.1, 1, .inl (upd z0 0 x))] ++ gridL K)) 45 lv [.ref (K.2.2 + 1)]) : J X K 7 True Q 1 1 (0 + 1) (wl 0 w0 [.inl (K.2.1.1, 1, .inl (upd z0 0 x))]) 41 lv [.int 3500, .int 41] := by
  intro H locs ls h1 h2 h3 h4 T hT Xs
  have hsz : H.size = K.2.2 + (0 + 1) := h3 trivial
  have e41 : (41 : Int32).toNatClampNeg = 41 := by decide
  have e35 : (3500 : Int32).toNatClampNeg = 3500 := by decide
  obtain ⟨vm₁, cA, comp, -, fA, fC, -, -, X', step⟩ := Xs.multianewarray2F (index := 240) (ty := .int) C.1 C.2.2.2.1 (C.2.2.2.2.1 _ ws_9) hover (C.2.2.2.2.1 _ ws_7) (g := F0 X.2.2.2.2.2.1 41 ls [.int 3500, .int 41]) (n := 41) (k := 3500) (rest := []) rfl (by rw [C.2.1]; exact dL_law_41) rfl (by decide) (by decide) (by rw [e41]; decide) (by rw [e35]; decide) (by rw [e35]; decide) rfl rfl (by rw [e41]; exact hc) (by rw [e41, e35]; exact hs)
  have eA : cA = K.1.1 99 := Option.some.inj (fA.symm.trans hG)
  have hI := (C.2.2.2.2.2.1.1.2 0 _ rfl).2
  have eC : comp = K.2.1.1 := Option.some.inj (fC.symm.trans hI)
  subst eA eC
  rw [e41, e35] at X' step
  generalize hF : Jvm.Free.Multi.fill (T.setVm vm₁) (K.1.1 99) K.2.1.1 41 3500 (defaultValue .int) 41 = F at X' step
  have hTh : (T.setVm vm₁).heap = H := hT
  obtain ⟨f1, f2, -, -⟩ := Jvm.Free.Multi.fill_facts (T.setVm vm₁) (K.1.1 99) K.2.1.1 41 3500 (defaultValue .int) 41
  rw [hF, hTh] at f1 f2
  have hold : ∀ y : Nat, y < H.size → F.heap[y]? = H[y]? := fun y hy => by
    have := Jvm.Free.Multi.fill_old (T.setVm vm₁) (K.1.1 99) K.2.1.1 41 3500 (defaultValue .int) (a := y) (by rw [hTh]; exact hy) 41
    rw [hF, hTh] at this
    exact this
  have hrow : ∀ j : Nat, j < 41 → F.heap[H.size + 1 + j]? = some (vp_cell K.2.1.1 (3500, .inl z0)) := fun j hj => by
    have := Jvm.Free.Multi.fill_inner (T.setVm vm₁) (K.1.1 99) K.2.1.1 41 3500 (defaultValue .int) 41 j hj
    rw [hF, hTh] at this
    rw [this, vp_cell_i]
    refine congrArg some ?_
    show ({ cls := K.2.1.1, slots := Array.replicate 3500 (.int 0), vm := .none } : Cell) = _
    rw [arrV_new]
    exact mn_ext fun j _ => rfl
  have hout : F.heap[H.size]? = some (vp_cell (K.1.1 99) (41, .inr (.inr (.inr (.inr (fun i => some (K.2.2 + (2 + i)))))))) := by
    rw [f2, mn_outer, vp_cell_q, hsz]
    refine congrArg some (mn_ext fun j hj => ?_)
    show va_rf (if j < 41 then some (K.2.2 + (0 + 1) + 1 + j) else none) = va_rf (some (K.2.2 + (2 + j)))
    rw [if_pos hj, show K.2.2 + (0 + 1) + 1 + j = K.2.2 + (2 + j) by omega]
  have hP : va_P K.1 vwCl (jwl K.2.2 (0 + 43) (wl 0 w0 ([.inl (K.2.1.1, 1, .inl (upd z0 0 x))] ++ gridL K))) F.heap := by
    intro i z hz
    by_cases hi : i < 0 + 43
    · rw [jwl_at hi] at hz
      cases hz
      by_cases i0 : i = 0
      · subst i0
        have hat := h1 0 _ (jwl_at (b := K.2.2) (n := 0 + 1) (a := 0) (w := wl 0 w0 [.inl (K.2.1.1, 1, .inl (upd z0 0 x))]) (by omega))
        exact hat.kept (hold _ hat.lt)
      · by_cases i1 : i = 1
        · subst i1
          show F.heap[K.2.2 + 1]? = some (vp_cell _ _)
          rw [show K.2.2 + 1 = H.size by omega]
          exact hout
        · rw [grid_at i0 i1 (by omega)]
          show F.heap[K.2.2 + i]? = some (vp_cell _ _)
          have := hrow (i - 2) (by omega)
          rw [show H.size + 1 + (i - 2) = K.2.2 + i by omega] at this
          exact this
    · rw [List.getElem?_eq_none_iff.mpr (by rw [jwl_len]; omega)] at hz
      cases hz
  obtain ⟨t, a1, b1⟩ := h F.heap locs ls hP ⟨by rw [f1]; have := h2.1; omega, fun y a b => (hold y (Nat.lt_of_lt_of_le a h2.1)).trans (h2.2.1 y a b), h2.2.2⟩ (fun _ => by rw [f1]; omega) h4 F rfl X'
  refine ⟨t, step t ?_, b1⟩
  have eT : T.heap.size = K.2.2 + 1 := by
    rw [hT]
    omega
  rw [eT]
  exact a1
theorem whole_start {p : Program} {e : Env} {s : State} {m : MethodId} {below : List Frame} {meth : Method} {c : Code} (l : Launch) (hflags : l.flags = flags0) {b L : Nat} {xs : Nat → Int32} (hL : L ≤ 260) (C0 : lw_At p s m meth c b L xs) : W p l e room_1 s m #[Value.ref b] below meth c s.heap [] 0 0 (lw_Z below #[Value.ref b] s) (entryFrame m ([Value.ref b] : List Value).toArray 7) :=
  law_whole l hflags hL C0 (fun K C hG ho Q w0 x lv h => L_mna C (Nat.le_of_ble_eq_true rfl) (Nat.le_of_ble_eq_true rfl) hG ho h)
set_option maxHeartbeats 4000000 in
theorem lw_walk (l : Launch) (hflags : l.flags = flags0) (b : Addr) (xs : List Int32) : MetFree l x (headSpec (Jvm.Cond.code x code maxLocals ret :: tables_1) room_1) (lw_P b xs) (fun _ _ _ _ _ => True) lw_Q := by
  refine MetFree.of_bodyS (code := code) (maxLocals := maxLocals) (ret := ret) (by decide) ?_ ?_
  · intro args s m h hn
    obtain ⟨meth, c, h1, h2, h3, h4, h5, h6, -, -⟩ := Cond.code_spec hn (atoms_spec (ws := Jvm.Cond.code x code maxLocals ret :: tables_1) h _ List.mem_cons_self)
    exact ⟨meth, c, h1, h2, h3, h4, h5, h6⟩
  · intro p e s m args below meth c s₁ B hml0 hP _
    obtain ⟨rfl, hx, hbd, hgv⟩ := hP
    obtain ⟨scr, harrAt, hlist, hof, hsmall⟩ := hx
    obtain ⟨hcb, hkn, -, -⟩ := State.arrayAt?_spec harrAt
    have hown : s.vm.findClass R_law = some m.cls := findClass_of_methodNamed B.named
    have hts0 : ∀ c ∈ (Jvm.Cond.code x code maxLocals ret :: tables_1), c.before #[Value.ref b] s = true := atoms_spec (ws := Jvm.Cond.code x code maxLocals ret :: tables_1) B.pre
    have hts : ∀ w ∈ lw_tbl, w.before #[Value.ref b] s = true := k2_hts_sels lw_privs (fun w hw => hts0 w (List.mem_cons_of_mem _ hw)) lw_privs_ok
    have hml : c.maxLocals = 7 := B.maxLocals_eq (hts0 _ List.mem_cons_self)
    have X₀ : Stand p l e room_1 s m #[Value.ref b] below meth c s₁ [] 0 0 := Stand.of_body B
    have hh0 : s₁.heap = s.heap := by rw [B.state]; rfl
    have hsz : scr.slots.size = xs.length := by rw [← Array.length_toList, hlist, List.length_map]
    have hval : ∀ j : Nat, j < xs.length → scr.slots[j]? = some (.int (xs.getD j 0)) := fun j hj => by
      rw [← Array.getElem?_toList, hlist]
      simp [hj]
    have hbl : b < s.heap.size := (Array.getElem?_eq_some_iff.mp hcb).1
    have hX : va_X b xs.length (fun j => xs.getD j 0) s s.heap := ⟨scr, hcb, hof, hkn, hsz, hval⟩
    have K : W p l e room_1 s m #[Value.ref b] below meth c s₁.heap [] 0 0 (lw_Z below #[Value.ref b] s) (entryFrame m ([Value.ref b] : List Value).toArray 7) := by
      rw [hh0]
      exact whole_start l hflags hbd ⟨B.exec, B.bytes, B.returns, hml, hown, hts, hX, hbl, B.notSynchronized, hgv⟩
    obtain ⟨t, a1, o, b1, b2, b3⟩ := K s₁ rfl X₀
    exact ⟨t, o, a1, b1, b2, b3⟩
theorem lw_pre_spec {args : Array Value} {s : State} (h : (Jvm.Cond.and given_1 narrow_1).before args s = true) (hr : rest_1_c.before args s = true) : ∃ (b : Addr) (xs : List Int32), lw_P b xs args s := by
  have hs := flat_of_before _ h
  have hq := flat_of_before _ hr
  have hc : (Cond.count 1).before args s = true := hs _ (by decide +kernel)
  have harr : (Cond.arrayOf (.arg 0) .int).before args s = true := hs _ (by decide +kernel)
  have hle : (Cond.le (.length (.arg 0)) (.int 260)).before args s = true := hs _ (by decide +kernel)
  have hlen : (Cond.isInt (.length (.arg 0))).before args s = true := hq _ (by decide +kernel)
  have hall : (Cond.all (.arg 0) (.isInt (.elem (.arg 0) (.index 0)))).before args s = true := hq _ (by decide +kernel)
  obtain ⟨b, xs, hb, hx⟩ := State.ints_of_pre rfl harr hlen hall
  have hsm : xs.length < 2 ^ 31 := hx.choose_spec.2.2.2
  have hev : (Term.length (.arg 0)).eval args s none [] s = some (.int xs.length.toInt32) := hx.length_eval hb
  have hv := Cond.le_ints hev (show (Term.int 260).eval args s none [] s = some (.int 260) from rfl)
  have hd : xs.length.toInt32 ≤ 260 := by
    simpa [Cond.before, Cond.holds, hv] using hle
  have hN : xs.length ≤ 260 := (Int32.ofNat_le_ofNat hsm (by decide)).mp (show Int32.ofNat xs.length ≤ Int32.ofNat 260 from hd)
  exact ⟨b, xs, Cond.one_arg hc (show args[0]? = some (.ref b) from hb), hx, hN, h⟩
theorem lw_comes (l : Launch) (hflags : l.flags = flags0) : Comes l x (Jvm.Cond.code x code maxLocals ret :: tables_1) room_1 (fun tb e args s => Calls_1 tb e args s ∧ rest_1 tb e args s ∧ Pre_1 tb e args s)
    (fun _ _ args s o t => lw_Q args s o t) := by
  intro p e ha hc hk s m args below hf hfit hheap happ hpre
  obtain ⟨b, xs, hP⟩ := lw_pre_spec hpre.2.2 hpre.2.1
  obtain ⟨k, o, h1, h2, h3, hQ⟩ := lw_walk l hflags b xs p e ha hc hk s m args below hf ((Spec.applies_iff_loose hf).mp happ).1 hP trivial
  exact ⟨k, o, h1, h2, h3, hQ⟩
theorem lw_frame {s t : State} {o : Outcome} {args : Array Value} (h : State.butDraws s t lw_cs (fun t1 => Framed s o t1 [] 600104 7301314)) :
    State.butDraws s t [Jvm.Choice.named "NaN.bits"] (fun t1 => Framed s o t1 (fieldLocs frame_1_writes args s ++ arrayLocs frame_1_arrays args s ++ staticLocs frame_1_statics s) 600104 7301314) := h
theorem lw_limb (L : Cond) (hL : ∀ (args : Array Value) (s t : State), L.after args s (.returned (some (.int 1))) t = true) :
    ArmFor flags0 classFile x code maxLocals ret World_1 tables_1 room_1 Calls_1 rest_1 Pre_1
      (fun tb e a s o t => postC L tb e a s o t ∧ State.butDraws s t [Jvm.Choice.named "NaN.bits"] (fun t1 => Framed s o t1 (fieldLocs frame_1_writes a s ++ arrayLocs frame_1_arrays a s ++ staticLocs frame_1_statics s) 600104 7301314)) := by
  intro l hflags _ _ p e ha hc hk s m args below hf hfit hheap happ hpre
  obtain ⟨k, o, h1, h2, h3, rfl, hF⟩ := lw_comes l hflags p e ha hc hk s m args below hf hfit hheap happ hpre
  exact ⟨k, _, h1, h2, h3, hL args s _, lw_frame hF⟩
theorem i_vc : Claimed_1_1 ∧ Claimed_1_2 := ⟨lw_limb limb_1_1 (fun args s t => by simp [limb_1_1, Cond.after, Cond.holds, Cond.value]), lw_limb limb_1_2 (fun args s t => Cond.after_iff.mpr (by
  first | (rw [show limb_1_2 = Cond.eq .result (.int 1) from rfl, Cond.eq_ints (x := 1) (y := 1) rfl rfl]; simp; done) | (simp [limb_1_2, Cond.value, Term.eval]; done)))⟩
