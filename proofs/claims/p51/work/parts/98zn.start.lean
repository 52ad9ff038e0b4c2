/-! rows of the law's body -/
section LB
variable {X : JX} {K : JK} {nL : Nat} {g : Prop} {Q : State → Prop} {k sl n : Nat} {w : JW} {pc q : Nat} {lv : List (Nat × Value)} {st rest : List Value} {own : String} {cc : ByteArray}
theorem J_sld (C : Cx X K nL own cc) {b L : Nat} {xs : Nat → Int32} (hx : va_X b L xs X.2.2.2.2.1 X.2.2.2.2.1.heap) (hb : b < X.2.2.2.2.1.heap.size) (hbA : ¬ jA K b) {i : Int32} (hin : vp_in i L) (d : decode cc pc = .ok (.iaload, 1)) (hq : pc + 1 = q) (h : J X K nL g Q k sl n w q lv (.int (xs i.toNatClampNeg) :: st)) : J X K nL g Q k sl n w pc lv (.int i :: .ref b :: st) := by
  subst hq
  intro H locs ls h1 h2 h3 h4
  exact va_sld C.1 C.2.1 hx hb hbA h2 hin d (h H locs ls h1 h2 h3 h4)
theorem J_slen (C : Cx X K nL own cc) {b L : Nat} {xs : Nat → Int32} (hx : va_X b L xs X.2.2.2.2.1 X.2.2.2.2.1.heap) (hb : b < X.2.2.2.2.1.heap.size) (hbA : ¬ jA K b) (d : decode cc pc = .ok (.arraylength, 1)) (hq : pc + 1 = q) (h : J X K nL g Q k sl n w q lv (.int (Int32.ofNat L) :: st)) : J X K nL g Q k sl n w pc lv (.ref b :: st) := by
  subst hq
  intro H locs ls h1 h2 h3 h4
  exact va_slen C.1 C.2.1 hx hb hbA h2 d (h H locs ls h1 h2 h3 h4)
/-- from a world with the heap's size in view to one without -/
theorem J.forget (h : J X K nL False Q k sl n w pc lv st) : J X K nL True Q k sl n w pc lv st :=
  fun H locs ls h1 h2 _ h4 => h H locs ls h1 h2 (fun z => z.elim) h4
end LB
/-- a contract of a method that begins with the heap's size in view and ends without -/
def ConS (l : Launch) (K : JK) (y : MethodName) (ws : List Cond) (d mc ms : Nat) (av : List Value) (n : Nat) (w : JW) (Qr : Option Value → Nat → JW → Prop) (Qx : String → Nat → JW → Prop) : Prop :=
  vx_Met l y ws (jR d mc ms) (va_Pc av (fun U => EV K U ∧ va_P K.1 vwCl (jwl K.2.2 n w) U.heap ∧ U.heap.size = K.2.2 + n)) (jQc K Qr False) (jXc K Qx) mc ms (jA K)
set_option maxHeartbeats 1000000 in
theorem ConS.enter {l : Launch} {K : JK} {y : MethodName} {own : String} {cc : ByteArray} {maxL : Nat} {ret : Option FieldType} {d mc ms : Nat} {av : List Value} {n : Nat} {w : JW} {Qr : Option Value → Nat → JW → Prop} {Qx : String → Nat → JW → Prop}
    (hl : l.stackTraces = false) (hy : plainName y.cls = true) (hown : y.cls = own) (hlen : (lg_sl av).length ≤ maxL)
    (body : ∀ X : JX, X.2.1 = l → X.2.2.2.1 = jR d mc ms → Cx X K maxL own cc → X.2.2.2.2.2.2.2.2.1.sig.returnType = ret → jNoT X → J X K maxL True (jQ X K mc ms Qr Qx False) 0 0 n w 0 (lv_args 0 av) []) :
    ConS l K y (.code y cc maxL ret :: TB) d mc ms av n w Qr Qx := by
  refine vx_ofW (cc := cc) (maxL := maxL) (ret := ret) hy rfl ?_
  intro p e s m args below meth c s₁ B hml hnt hv
  obtain ⟨rfl, hev, hP, hg⟩ := hv
  have hts := atoms_spec (ws := Cond.code y cc maxL ret :: TB) B.pre
  have hown2 : s.vm.findClass own = some m.cls := by rw [← hown]; exact findClass_of_methodNamed B.named
  have h := body (p, l, e, jR d mc ms, s, m, av.toArray, below, meth, c) rfl rfl ⟨B.exec, B.bytes, hml, hown2, fun w hw => hts w (List.mem_cons_of_mem _ hw), hev, B.notSynchronized, hl⟩ B.returns hnt
  have hl2 := lv_entry av (n := maxL) hlen
  rw [lg_entry_eq]
  exact h s.heap [] _ hP va_S.rf (fun _ => hg) hl2
section CS
variable {X : JX} {K : JK} {nL : Nat} {Q : State → Prop} {k sl n : Nat} {w : JW} {pc q : Nat} {lv : List (Nat × Value)} {st rest : List Value} {own : String} {cc : ByteArray}
theorem J_runS {mc ms : Nat} {Qr : Option Value → Nat → JW → Prop} {Qx : String → Nat → JW → Prop} {av : Array Value} {st0 : List Value}
    (hr : ∀ (H : Heap) (locs : List Loc) (ls : Array Slot), va_P K.1 vwCl (jwl K.2.2 n w) H → va_S (jA K) X.2.2.2.2.1.heap H locs → H.size = K.2.2 + n → lv_has ls nL lv → vx_Run X.1 X.2.1 X.2.2.1 X.2.2.2.1 X.2.2.2.2.1 X.2.2.2.2.2.1 X.2.2.2.2.2.2.1 X.2.2.2.2.2.2.2.1 X.2.2.2.2.2.2.2.2.1 X.2.2.2.2.2.2.2.2.2 H locs k sl mc ms (F0 X.2.2.2.2.2.1 pc ls st0) rest (jQc K Qr False av) (jXc K Qx) (jA K))
    (hq : pc + 3 = q) (kx : ∀ (E : String) (n' : Nat) (w' : JW), Qx E n' w' → JT X K nL False Q (k + mc) (sl + ms) n' w' pc lv rest E)
    (kr : ∀ (v : Option Value) (n' : Nat) (w' : JW), Qr v n' w' → J X K nL False Q (k + mc) (sl + ms) n' w' q lv (v.toList ++ rest)) : J X K nL True Q k sl n w pc lv st0 := by
  subst hq
  intro H locs ls h1 h2 h3 h4 T hT XS
  rcases hr H locs ls h1 h2 (h3 trivial) h4 T hT XS with ⟨v, st₀, t, T', L, e0, X', hL, e1, e2, ⟨⟨v2, n2, w2, hv, hp, hw2, hg2⟩, hF⟩, stp⟩ | ⟨z, st₀, t, T', L, E, ce, e0, X', hL, e1, e2, ⟨⟨n2, w2, hp, hw2⟩, hF⟩, hce, hcv, hcl, stp⟩
  · cases hv
    obtain ⟨-, -, k3⟩ := vx_keep e0 e1 h2 (fun q _ h => h) (fun q h => h) hL hF
    obtain ⟨t2, a1, b1⟩ := kr v n2 w2 hp T'.heap (locs ++ L) ls (by rw [e1]; exact hw2) k3 (fun z => z.elim) h4 T' rfl X'
    exact ⟨t2, stp t2 a1, b1⟩
  · obtain ⟨-, -, k3⟩ := vx_keep e0 e1 h2 (fun q _ h => h) (fun q h => h) hL hF
    obtain ⟨t2, a1, b1⟩ := kx E n2 w2 hp T'.heap (locs ++ L) ls z ce (by rw [e1]; exact hw2) k3 h4 (by rw [e1]; exact hce) hcv hcl T' rfl X'
    exact ⟨t2, stp.trans a1, b1⟩
theorem jblindS {K : JK} {av : List Value} {n : Nat} {w : JW} : FrameBlind (va_Pc av (fun U => EV K U ∧ va_P K.1 vwCl (jwl K.2.2 n w) U.heap ∧ U.heap.size = K.2.2 + n)) :=
  fun _ _ _ _ ⟨h1, h2, h3, h4⟩ => ⟨h1, h2.calling, h3, h4⟩
theorem jpreS {s : State} {H : Heap} {locs : List Loc} {av : List Value} (hev : EV K s) (h1 : va_P K.1 vwCl (jwl K.2.2 n w) H) (h2 : va_S (jA K) s.heap H locs) (h3 : H.size = K.2.2 + n) (U : State) (hU : U.heap = H) (hW : s.WarmedH U.vm) : va_Pc av (fun U => EV K U ∧ va_P K.1 vwCl (jwl K.2.2 n w) U.heap ∧ U.heap.size = K.2.2 + n) av.toArray U :=
  ⟨rfl, hev.warm hW h2 hU, by rw [hU]; exact h1, by rw [hU]; exact h3⟩
theorem J_callSS {index maxL na d mc ms : Nat} {y : MethodName} {bytes : ByteArray} {ret : Option FieldType} {Qr : Option Value → Nat → JW → Prop} {Qx : String → Nat → JW → Prop} {As st0 : List Value} (C : Cx X K nL own cc) (cw : CW own index y bytes maxL ret na) (hst : Cond.static y ∈ TB) (con : ConS X.2.1 K y (.code y bytes maxL ret :: TB) d mc ms As n w Qr Qx) (hs0 : st0 = As.reverse ++ rest) (hn : As.length = na) (hf : d + 1 ≤ X.2.2.2.1.frames) (hlo : 8 + (maxL + 11) + 36 * d ≤ X.2.2.2.1.locals) (hsum : (rest.map fun v => v.category).sum ≤ 8) (hcells : k + mc ≤ X.2.2.2.1.cells ∧ sl + ms ≤ X.2.2.2.1.slots) (dg : decode cc pc = .ok (.invokestatic index, 3)) (hq : pc + 3 = q)
    (kx : ∀ (E : String) (n' : Nat) (w' : JW), Qx E n' w' → JT X K nL False Q (k + mc) (sl + ms) n' w' pc lv rest E) (kr : ∀ (v : Option Value) (n' : Nat) (w' : JW), Qr v n' w' → J X K nL False Q (k + mc) (sl + ms) n' w' q lv (v.toList ++ rest)) : J X K nL True Q k sl n w pc lv st0 :=
  J_runS (av := As.toArray) (fun H locs ls h1 h2 h3 h4 => vx_runS ⟨C.1, C.2.1, C.2.2.1, C.2.2.2.1, C.2.2.2.2.1⟩ con ⟨cw.callB C.2.2.2.2.1 hf hlo, C.2.2.2.2.1 _ hst⟩ ⟨jblindS, jpreS C.2.2.2.2.2.1 h1 h2 h3⟩ rfl hn h4.1 hs0 (lv_room hsum) dg hcells) hq kx kr
end CS
theorem ws_1 : Cond.classLink RL 15 "Cursorroom" ∈ TB := TB_of (by decide +kernel) (by decide +kernel)
theorem ws_2 : Cond.instantiable "Cursorroom" 11 ∈ TB := TB_of (by decide +kernel) (by decide +kernel)
theorem ws_4 : CW RL 203 yX11_init cX11_init 2 none 0 := ⟨TB_of (by decide +kernel) (by decide +kernel), tv_30, TB_of (by decide +kernel) (by decide +kernel), by decide +kernel, by decide +kernel, by decide +kernel⟩
theorem ws_5 : Cond.instanceMethod yX11_init ∈ TB := TB_of (by decide +kernel) (by decide +kernel)
theorem ws_6 : Cond.constant RL 239 59477 ∈ TB := TB_of (by decide +kernel) (by decide +kernel)
theorem ws_7 : Cond.arrayClass .int ∈ TB := TB_of (by decide +kernel) (by decide +kernel)
theorem ws_8 : Cond.arrayClass .boolean ∈ TB := TB_of (by decide +kernel) (by decide +kernel)
theorem grid_nm : "[" ++ (FieldType.array .int).toString = "[[I" := by decide +kernel
theorem ws_9 : Cond.classLink RL 240 ("[" ++ (FieldType.array .int).toString) ∈ TB := by
  rw [grid_nm]
  exact TB_of (by decide +kernel) (by decide +kernel)
theorem cE10_len {K : JK} : (cE10 K 0).length = 2017 := s0_all.1.trans js_len
/-- the room, just made, behind the law's rows -/
theorem room_world {K : JK} {r : Nat → Nat → Int32} {wz : JW} : ∀ j, j < 2064 → RE (upW (lcell K r) (wl 0 wz (cE10 (KU K) 0)) j) (jl K (r, σ0) j) := by
  intro j hj
  unfold jl upW
  by_cases h : j < 47
  · rw [if_pos h, if_pos h]
    exact RE.rfl'
  · rw [if_neg h, if_neg h]
    have h1 : (js (KU K) σ0 0 2017)[j - 47]? = some (jw (KU K) σ0 (j - 47)) := by
      rw [js_at (by omega), jw_c (by omega), Nat.zero_add]
    have h2 : (cE10 (KU K) 0)[j - 47]? = some (wl 0 wz (cE10 (KU K) 0) (j - 47)) := by
      unfold wl
      rw [if_neg (by omega), Nat.sub_zero, List.getElem?_eq_getElem (by rw [cE10_len]; omega)]
      rfl
    exact s0_all.2 _ _ _ h2 h1
set_option maxHeartbeats 1000000 in
theorem kL_plays {l : Launch} {K : JK} (hl : l.stackTraces = false) {r : Nat → Nat → Int32} (hz : ∀ k, k < 16 → r 45 k = 0) : ConS l K yL_plays (.code yL_plays cL_plays 12 (some .boolean) :: TB) 12 11989 240706 [.ref (K.2.2 + 0), .ref (K.2.2 + 1), .ref (K.2.2 + 43), .ref (K.2.2 + 44), .ref (K.2.2 + 45), .ref (K.2.2 + 46)] 47 (lcell K r) (PL (α := Int32 × LawS) (fun p => p.1 = 1) (fun p => some (.int p.1)) (fun p => jl K p.2)) PN := by
  refine ConS.enter (own := RL) hl (by decide) rfl (Nat.le_of_ble_eq_true rfl) ?_
  intro X hX hR C hret hnt
  generalize hQQ : jQ X K 11989 240706 (PL (α := Int32 × LawS) (fun p => p.1 = 1) (fun p => some (.int p.1)) (fun p => jl K p.2)) PN False = QQ
  change J X K 12 True QQ 0 0 47 (lcell K r) 0 [(0, .ref (K.2.2 + 0)), (1, .ref (K.2.2 + 1)), (2, .ref (K.2.2 + 43)), (3, .ref (K.2.2 + 44)), (4, .ref (K.2.2 + 45)), (5, .ref (K.2.2 + 46))] []
  refine J_newZ (ty0 := tyX11) (ci := 10) (fs := [.null, .null, .null, .null, .null, .null, .null, .null, .null, .null, .int 0]) C inTB10 tyX11_ok rfl ws_1 ws_2 tv_30 (by decide) (by rw [hR]; exact Nat.le_of_ble_eq_true rfl) (by rw [hR]; exact Nat.le_of_ble_eq_true rfl) dL_plays_0 rfl ?_
  refine J_dup C rfl dL_plays_3 rfl ?_
  have con := (k10_init (l := l) (K := KU K) hl (a := 0) (w0 := lcell K r)).up (K := K) (lcell K r)
  refine J.wcongr (w' := upW (lcell K r) (wl 0 (lcell K r) [.inr (10, [.null, .null, .null, .null, .null, .null, .null, .null, .null, .null, .int 0])])) (fun j hj => ?_) ?_
  · unfold jup upW
    by_cases h : j = 47
    · subst h
      rw [if_pos rfl, if_neg (by omega)]
      rfl
    · rw [if_neg h, if_pos (by omega)]
  refine J_callI (a := K.2.2 + 47) (As := []) C ws_4 rfl ws_5 (by rw [hX]; exact con) rfl rfl (by rw [hR]; exact Nat.le_of_ble_eq_true rfl) (by rw [hR]; exact Nat.le_of_ble_eq_true rfl) (Nat.le_of_ble_eq_true rfl) (by rw [hR]; exact ⟨Nat.le_of_ble_eq_true rfl, Nat.le_of_ble_eq_true rfl⟩) dL_plays_4 rfl (fun E n9 w9 hx => by obtain ⟨n1, w1, hx, -⟩ := hx; exact hx.elim) (fun v n' w' hr => ?_)
  obtain ⟨n1, w1, ⟨rfl, rfl, rfl⟩, rfl, rfl⟩ := hr
  change J X K 12 True QQ 2017 180874 2064 (upW (lcell K r) (wl 0 (lcell K r) (cE10 (KU K) 0))) 7 _ [.ref (K.2.2 + 47)]
  refine J_astore (i := 6) (lv' := [(6, .ref (K.2.2 + 47)), (0, .ref (K.2.2 + 0)), (1, .ref (K.2.2 + 1)), (2, .ref (K.2.2 + 43)), (3, .ref (K.2.2 + 44)), (4, .ref (K.2.2 + 45)), (5, .ref (K.2.2 + 46))]) C dL_plays_7 (by decide) rfl rfl ?_
  refine J.wequiv room_world (J.forget (J.sub [1, 2, 3, 4, 5, 6, 0] rfl ?_))
  obtain ⟨y, hy⟩ := plays_ok hz
  rw [← hQQ]
  have h : Ok (fL_plays (r, σ0)) (fun p : Int32 × LawS => p.1 = 1) := ⟨_, hy, rfl⟩
  exact jL_plays hl h hX hR C hret
/-! what holds at the law's start -/
abbrev gvT : List Cond := flatC (Jvm.Cond.and given_1 narrow_1)
section ST
set_option maxRecDepth 100000
theorem st_str : (STRS.all fun q => decide (Cond.stringRef q.1 q.2.1 q.2.2 ∈ lw_tbl)) = true := by decide +kernel
theorem st_strx : (STRS.all fun q => decide (Cond.exactly (Term.string q.1 q.2.1) "java/lang/String" ∈ gvT)) = true := by decide +kernel
theorem st_nest : (NEST.all fun q => decide (Cond.methodLinkNest q.1 q.2.1 q.2.2.1 q.2.2.2 ∈ lw_tbl)) = true := by decide +kernel
theorem st_nc : (NCS.all fun q => decide (Cond.not (Cond.castable q.1 q.2) ∈ gvT)) = true := by decide +kernel
theorem st_cast : (EXCS.all fun q => decide (Cond.castable q q ∈ lw_tbl)) = true := by decide +kernel
theorem st_decl : (CHN.all fun q => decide (Cond.declares (Bundle.initS q) ∈ lw_tbl)) = true := by decide +kernel
theorem st_cls : (vwCl.all fun q => (u_ws q.1 q.2.1 q.2.2).all fun w => decide (w ∈ lw_tbl)) = true := by decide +kernel
theorem st_ins : (vwCl.all fun q => decide (Cond.instantiable q.1 q.2.2 ∈ lw_tbl)) = true := by decide +kernel
theorem st_over : Cond.arrayOver (.object "Cursorroom$Act") ∈ lw_tbl := by decide +kernel
theorem st_overA : Cond.arrayOver (.array .int) ∈ lw_tbl := by decide +kernel
theorem st_arI : Cond.arrayClass .int ∈ lw_tbl := by decide +kernel
theorem st_arB : Cond.arrayClass .byte ∈ lw_tbl := by decide +kernel
theorem st_arZ : Cond.arrayClass .boolean ∈ lw_tbl := by decide +kernel
theorem st_arL : Cond.arrayClass .long ∈ lw_tbl := by decide +kernel
theorem st_ls1 : Cond.laysStatic Bundle.tN "UNASSIGNED_STACK" Bundle.steD ∈ lw_tbl := by decide +kernel
theorem st_ls2 : Cond.laysStatic Bundle.tN "SUPPRESSED_SENTINEL" Bundle.listD ∈ lw_tbl := by decide +kernel
theorem st_ini : Cond.initialized Bundle.tN ∈ lw_tbl := by decide +kernel
theorem st_ir1 : Cond.isRef (.static Bundle.tN "UNASSIGNED_STACK" Bundle.steD) ∈ gvT := by decide +kernel
theorem st_ir2 : Cond.isRef (.static Bundle.tN "SUPPRESSED_SENTINEL" Bundle.listD) ∈ gvT := by decide +kernel
end ST
theorem st_arr {s : State} {args : Array Value} {ty : FieldType} (h : (Cond.arrayClass ty).before args s = true) : ∃ c : ClassId, ArrOfT s c ty ∧ s.vm.findClass ("[" ++ ty.toString) = some c := by
  obtain ⟨c, k, comp, h1, h2, h3⟩ := Cond.arrayClass_spec h
  exact ⟨c, fun n z => ⟨fun _ h => (by cases h), k, h2, comp, h3⟩, h1⟩
set_option maxHeartbeats 1000000 in
theorem EV_start {s : State} {b : Nat} (hts : ∀ w ∈ lw_tbl, w.before #[Value.ref b] s = true) (hg : (Jvm.Cond.and given_1 narrow_1).before #[Value.ref b] s = true) : ∃ K : JK, K.2.2 = s.heap.size ∧ EV K s ∧ s.vm.findClass ("[" ++ (FieldType.array .int).toString) = some (K.1.1 99) := by
  have hg : ∀ w ∈ gvT, w.before #[Value.ref b] s = true := flat_of_before _ hg
  obtain ⟨compG, cG, kG, g1, g2, g3, g4, g5⟩ := arrayOverA_spec (hts _ st_overA)
  have hAG : ArrOfT s cG (.array .int) := fun n z => ⟨fun _ h => (by cases h), kG, g3, compG, g4⟩
  have v99 : vwCl[99]? = none := rfl
  have hcl : ∀ k : Nat, ∃ p : ClassId × (Nat → Nat), (∀ q : vw_C, vwCl[k]? = some q → u_Kn s q.1 q.2.1 q.2.2 p.1 p.2) ∧ (k = 99 → p.1 = cG) := by
    intro k
    cases hq : vwCl[k]? with
    | none => exact ⟨(cG, fun _ => 0), fun q h => (by cases h), fun _ => rfl⟩
    | some q0 =>
      have hm := List.mem_of_getElem? hq
      have h1 := List.all_eq_true.mp st_cls q0 hm
      have h2 := of_decide_eq_true (List.all_eq_true.mp st_ins q0 hm)
      obtain ⟨c, iS, h⟩ := u_known (C := q0.1) (T := q0.2.1) (N := q0.2.2) (n := q0.2.2) hts (fun w hw => of_decide_eq_true (List.all_eq_true.mp h1 w hw)) (hts _ h2)
      exact ⟨(c, iS), fun q e => by cases e; exact h, fun e => by rw [e, v99] at hq; cases hq⟩
  obtain ⟨cI, hI1, hI2⟩ := st_arr (hts _ st_arI)
  obtain ⟨cB, hB1, hB2⟩ := st_arr (hts _ st_arB)
  obtain ⟨cZ, hZ1, hZ2⟩ := st_arr (hts _ st_arZ)
  obtain ⟨cL, hL1, hL2⟩ := st_arr (hts _ st_arL)
  obtain ⟨comp, cA, kA, a1, -, a3, a4, a5⟩ := Cond.arrayOver_spec (hts _ st_over)
  have hA : ∀ a : Nat, a < s.heap.size → ¬ s.heap.size ≤ a := fun a h => Nat.not_le.mpr h
  have e99 : (Classical.choose (hcl 99)).1 = cG := (Classical.choose_spec (hcl 99)).2 rfl
  refine ⟨((fun k => (Classical.choose (hcl k)).1, fun k => (Classical.choose (hcl k)).2), (cI, cB, cZ, cL, cA), s.heap.size), rfl, ⟨⟨fun k q hq => (Classical.choose_spec (hcl k)).1 q hq, ?_⟩, ?_, ?_, ?_, ?_, ?_, ?_, ?_, ?_, ?_⟩, ?_⟩
  · intro k q hq
    match k, hq with
    | 0, hq => cases hq; exact ⟨hI1, hI2⟩
    | 1, hq => cases hq; exact ⟨hB1, hB2⟩
    | 2, hq => cases hq; exact ⟨hZ1, hZ2⟩
    | 3, hq => cases hq; exact ⟨hL1, hL2⟩
    | 4, hq => cases hq; exact ⟨fun n z => ⟨fun _ h => (by cases h), kA, a3, comp, a4⟩, kA, comp, a3, a4, a1, a5⟩
    | k + 5, hq => cases hq
  · intro q hq
    obtain ⟨a, c, cell, k, h1, -⟩ := Cond.exactly_spec (hg _ (of_decide_eq_true (List.all_eq_true.mp st_strx q hq)))
    exact ⟨a, vk_R.of (hts _ (of_decide_eq_true (List.all_eq_true.mp st_str q hq))) h1⟩
  · intro q hq
    exact va_Nw.of rfl (hts _ (of_decide_eq_true (List.all_eq_true.mp st_nest q hq)))
  · intro q hq
    exact va_Nc.of (hg _ (of_decide_eq_true (List.all_eq_true.mp st_nc q hq)))
  · exact vx_Zqof (hts _ st_ls1) (hts _ st_ini) (hg _ st_ir1) hA
  · exact vx_Zqof (hts _ st_ls2) (hts _ st_ini) (hg _ st_ir2) hA
  · intro q hq
    exact va_Nw.of rfl (hts _ (of_decide_eq_true (List.all_eq_true.mp st_cast q hq)))
  · intro q hq
    exact va_Nw.of rfl (hts _ (of_decide_eq_true (List.all_eq_true.mp st_decl q hq)))
  · exact va_AO.of (hts _ st_over)
  · show ArrOfT s (Classical.choose (hcl 99)).1 _
    rw [e99]
    exact hAG
  · show _ = some (Classical.choose (hcl 99)).1
    rw [e99]
    exact g5
