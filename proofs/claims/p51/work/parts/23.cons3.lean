section LA
variable {X : JX} {K : JK} {nL : Nat} {Q : State → Prop} {k sl : Nat} {pc q : Nat} {lv lv' : List (Nat × Value)} {st : List Value} {own : String} {cc : ByteArray} {a m i r : Nat} {w0 : JW} {es : List va_E}
theorem L_anew (C : Cx X K nL own cc) {index N sl' : Nat} {c : Int32} (hm : es.length = m) (hl : Cond.classLink own index "Cursorroom$Act" ∈ TB) (hn : ¬ c < 0) (hN : c.toNatClampNeg = N) (hbytes : N * 4 ≤ 536870912) (hsl : sl + N = sl') (hcells : k + 1 ≤ X.2.2.2.1.cells) (hslots : sl' ≤ X.2.2.2.1.slots) (d : decode cc pc = .ok (.anewarray index, 3)) (hq : pc + 3 = q) (h : J X K nL True Q (k + 1) sl' (a + (m + 1)) (wl a w0 (es ++ [.inl (K.2.1.2.2.2.2, N, .inr (.inr (.inr (.inr (fun _ => none)))))])) q lv (.ref (K.2.2 + (a + m)) :: st)) : J X K nL True Q k sl (a + m) (wl a w0 es) pc lv (.int c :: st) := by
  subst hsl
  exact J_anewZ C hl hn hN hbytes hcells hslots d hq (J.wcongr (wl_push hm) h)
theorem L_aast {g : Prop} (C : Cx X K nL own cc) {T : u_T} {N r2 ib : Nat} {fs : List Value} {len : Nat} {f : Nat → Option Nat} {j : Int32} (hm : es.length = m) (hr : r = a + i) (hr2 : r2 = a + ib) (hi : i < m) (hib : ib < m) (he : es[i]? = some (.inl (K.2.1.2.2.2.2, len, .inr (.inr (.inr (.inr f)))))) (hv : es[ib]? = some (.inr (0, fs))) (hc : vwCl[0]? = some ("Cursorroom$Act", T, N)) (hin : vp_in j len) (d : decode cc pc = .ok (.aastore, 1)) (hq : pc + 1 = q) (h : J X K nL g Q k sl (a + m) (wl a w0 (es.set i (.inl (K.2.1.2.2.2.2, len, .inr (.inr (.inr (.inr (va_up f j.toNatClampNeg (some (K.2.2 + (a + ib)))))))))) ) q lv st) : J X K nL g Q k sl (a + m) (wl a w0 es) pc lv (.ref (K.2.2 + r2) :: .int j :: .ref (K.2.2 + r) :: st) := by
  subst hr hr2
  refine J_aastZ C (by omega) (by omega) (wl_at he) (wl_at hv) hc hin d hq ?_
  rw [wl_set (by omega)]
  exact h
end LA
theorem L_filE {X : JX} {K : JK} {nL : Nat} {Q : State → Prop} {k sl : Nat} {pc q : Nat} {lv : List (Nat × Value)} {st : List Value} {own : String} {cc : ByteArray} {a i r : Nat} {w0 : JW} {E : List va_E} {g : Prop} (C : Cx X K nL own cc) {len p : Nat} {f : Nat → Int32} {j x : Int32} (hm : E.length = i) (hr : r = a + i) (hf : f = fil p x) (hp : j.toNatClampNeg = p) (hin : vp_in j len) (d : decode cc pc = .ok (.iastore, 1)) (hq : pc + 1 = q) (h : J X K nL g Q k sl (a + (i + 1)) (wl a w0 (E ++ [.inl (K.2.1.1, len, .inl (fil (p + 1) x))])) q lv st) : J X K nL g Q k sl (a + (i + 1)) (wl a w0 (E ++ [.inl (K.2.1.1, len, .inl f)])) pc lv (.int x :: .int j :: .ref (K.2.2 + r) :: st) := by
  refine L_fil (i := i) (m := i + 1) C (by rw [List.length_append, hm]; rfl) hr (by omega) (by rw [List.getElem?_append_right (by omega), hm, Nat.sub_self]; rfl) hf hp hin d hq ?_
  rw [List.set_append_right _ _ (by omega), hm, Nat.sub_self]
  exact h
theorem tw_88 : Cond.initialized "Cursorroom$Act" ∈ TB := tbN 36 (by decide +kernel) (by decide +kernel)
theorem tw_109 : Cond.methodLink "Cursorroom" 1 ⟨"java/lang/Object", "<init>", "()V"⟩ ∈ TB := tbN 59 (by decide +kernel) (by decide +kernel)
theorem tw_112 : Cond.classLink "Cursorroom" 7 "Cursorroom$Sheet" ∈ TB := tbN 62 (by decide +kernel) (by decide +kernel)
theorem tw_114 : Cond.methodLink "Cursorroom" 9 ⟨"Cursorroom$Sheet", "<init>", "()V"⟩ ∈ TB := tbN 64 (by decide +kernel) (by decide +kernel)
theorem tw_190 : Cond.classLink "Cursorroom" 16 "Cursorroom$Row" ∈ TB := tbN 140 (by decide +kernel) (by decide +kernel)
theorem tw_192 : Cond.methodLink "Cursorroom" 18 ⟨"Cursorroom$Row", "<init>", "([B)V"⟩ ∈ TB := tbN 142 (by decide +kernel) (by decide +kernel)
theorem tw_213 : Cond.classLink "Cursorroom" 25 "Cursorroom$Clip" ∈ TB := tbN 163 (by decide +kernel) (by decide +kernel)
theorem tw_214 : Cond.instantiable "Cursorroom$Clip" 4 ∈ TB := tbN 164 (by decide +kernel) (by decide +kernel)
theorem tw_216 : Cond.instanceMethod ⟨"Cursorroom$Clip", "<init>", "()V"⟩ ∈ TB := tbN 166 (by decide +kernel) (by decide +kernel)
theorem tw_217 : Cond.code yX2_init cX2_init 1 none ∈ TB := tbN 167 (by decide +kernel) (by decide +kernel)
theorem tw_236 : Cond.classLink "Cursorroom" 32 "Cursorroom$Change" ∈ TB := tbN 186 (by decide +kernel) (by decide +kernel)
theorem tw_237 : Cond.instantiable "Cursorroom$Change" 13 ∈ TB := tbN 187 (by decide +kernel) (by decide +kernel)
theorem tw_239 : Cond.instanceMethod ⟨"Cursorroom$Change", "<init>", "()V"⟩ ∈ TB := tbN 189 (by decide +kernel) (by decide +kernel)
theorem tw_240 : Cond.code yX1_init cX1_init 1 none ∈ TB := tbN 190 (by decide +kernel) (by decide +kernel)
theorem tw_287 : Cond.classLink "Cursorroom" 39 "Cursorroom$History" ∈ TB := tbN 237 (by decide +kernel) (by decide +kernel)
theorem tw_288 : Cond.instantiable "Cursorroom$History" 5 ∈ TB := tbN 238 (by decide +kernel) (by decide +kernel)
theorem tw_289 : Cond.methodLink "Cursorroom" 41 ⟨"Cursorroom$History", "<init>", "()V"⟩ ∈ TB := tbN 239 (by decide +kernel) (by decide +kernel)
theorem tw_290 : Cond.instanceMethod ⟨"Cursorroom$History", "<init>", "()V"⟩ ∈ TB := tbN 240 (by decide +kernel) (by decide +kernel)
theorem tw_291 : Cond.code yX4_init cX4_init 2 none ∈ TB := tbN 241 (by decide +kernel) (by decide +kernel)
theorem tw_292 : Cond.methodLink "Cursorroom$History" 3 ⟨"java/lang/Object", "<init>", "()V"⟩ ∈ TB := tbN 242 (by decide +kernel) (by decide +kernel)
theorem tw_293 : Cond.classLink "Cursorroom$History" 9 "Cursorroom$Act" ∈ TB := tbN 243 (by decide +kernel) (by decide +kernel)
theorem tw_295 : Cond.instantiable "Cursorroom$Act" 4 ∈ TB := tbN 245 (by decide +kernel) (by decide +kernel)
theorem tw_297 : Cond.instanceMethod ⟨"Cursorroom$Act", "<init>", "()V"⟩ ∈ TB := tbN 247 (by decide +kernel) (by decide +kernel)
theorem tw_298 : Cond.code yX0_init cX0_init 1 none ∈ TB := tbN 248 (by decide +kernel) (by decide +kernel)
theorem tw_366 : Cond.classLink "Cursorroom" 46 "Cursorroom$Search" ∈ TB := tbN 316 (by decide +kernel) (by decide +kernel)
theorem tw_367 : Cond.instantiable "Cursorroom$Search" 2 ∈ TB := tbN 317 (by decide +kernel) (by decide +kernel)
theorem tw_369 : Cond.instanceMethod ⟨"Cursorroom$Search", "<init>", "()V"⟩ ∈ TB := tbN 319 (by decide +kernel) (by decide +kernel)
theorem tw_370 : Cond.code yX7_init cX7_init 1 none ∈ TB := tbN 320 (by decide +kernel) (by decide +kernel)
theorem tw_383 : Cond.classLink "Cursorroom" 53 "Cursorroom$Steps" ∈ TB := tbN 333 (by decide +kernel) (by decide +kernel)
theorem tw_384 : Cond.instantiable "Cursorroom$Steps" 6 ∈ TB := tbN 334 (by decide +kernel) (by decide +kernel)
theorem tw_386 : Cond.instanceMethod ⟨"Cursorroom$Steps", "<init>", "()V"⟩ ∈ TB := tbN 336 (by decide +kernel) (by decide +kernel)
theorem tw_387 : Cond.code yX9_init cX9_init 1 none ∈ TB := tbN 337 (by decide +kernel) (by decide +kernel)
theorem tw_414 : Cond.classLink "Cursorroom" 60 "Cursorroom$Comparison" ∈ TB := tbN 364 (by decide +kernel) (by decide +kernel)
theorem tw_415 : Cond.instantiable "Cursorroom$Comparison" 5 ∈ TB := tbN 365 (by decide +kernel) (by decide +kernel)
theorem tw_417 : Cond.instanceMethod ⟨"Cursorroom$Comparison", "<init>", "()V"⟩ ∈ TB := tbN 367 (by decide +kernel) (by decide +kernel)
theorem tw_418 : Cond.code yX3_init cX3_init 1 none ∈ TB := tbN 368 (by decide +kernel) (by decide +kernel)
theorem ic_RX11_18 : CW RX11 18 yX6_init cX6_init 2 none 1 := ⟨tw_192, tw_84, tw_194, by decide +kernel, by decide +kernel, by decide +kernel⟩
theorem ic_RX11_41 : CW RX11 41 yX4_init cX4_init 2 none 0 := ⟨tw_289, tw_87, tw_291, by decide +kernel, by decide +kernel, by decide +kernel⟩
theorem ic_RX11_9 : CW RX11 9 yX8_init cX8_init 2 none 0 := ⟨tw_114, tw_83, tw_116, by decide +kernel, by decide +kernel, by decide +kernel⟩
theorem in_RX11_27 : CN RX11 27 yX2_init cX2_init 1 none 0 := ⟨by decide +kernel, tw_85, tw_217, by decide +kernel, by decide +kernel, by decide +kernel⟩
theorem in_RX11_34 : CN RX11 34 yX1_init cX1_init 1 none 0 := ⟨by decide +kernel, tw_86, tw_240, by decide +kernel, by decide +kernel, by decide +kernel⟩
theorem in_RX11_48 : CN RX11 48 yX7_init cX7_init 1 none 0 := ⟨by decide +kernel, tw_90, tw_370, by decide +kernel, by decide +kernel, by decide +kernel⟩
theorem in_RX11_55 : CN RX11 55 yX9_init cX9_init 1 none 0 := ⟨by decide +kernel, tw_91, tw_387, by decide +kernel, by decide +kernel, by decide +kernel⟩
theorem in_RX11_62 : CN RX11 62 yX3_init cX3_init 1 none 0 := ⟨by decide +kernel, tw_92, tw_418, by decide +kernel, by decide +kernel, by decide +kernel⟩
theorem in_RX4_21 : CN RX4 21 yX0_init cX0_init 1 none 0 := ⟨by decide +kernel, tw_88, tw_298, by decide +kernel, by decide +kernel, by decide +kernel⟩
theorem im_4 : Cond.instanceMethod yX4_init ∈ TB := tw_290
theorem im_2 : Cond.instanceMethod yX2_init ∈ TB := tw_216
theorem im_1 : Cond.instanceMethod yX1_init ∈ TB := tw_239
theorem im_7 : Cond.instanceMethod yX7_init ∈ TB := tw_369
theorem im_9 : Cond.instanceMethod yX9_init ∈ TB := tw_386
theorem im_3 : Cond.instanceMethod yX3_init ∈ TB := tw_417
theorem im_0 : Cond.instanceMethod yX0_init ∈ TB := tw_297
def rowE (K : JK) (a i : Nat) : va_E := .inl (K.2.1.2.2.2.2, 150, .inr (.inr (.inr (.inr (fun t => if t < i then some (K.2.2 + (a + (15 + 13 * t))) else none)))))
def actsE (K : JK) (a : Nat) : Nat → List va_E
  | 0 => []
  | i + 1 => actsE K a i ++ cE0 K (a + (15 + 13 * i))
theorem cE0_len {K : JK} {a : Nat} : (cE0 K a).length = 13 := rfl
theorem actsE_len {K : JK} {a i : Nat} : (actsE K a i).length = 13 * i := by
  induction i with
  | zero => rfl
  | succ i ih => simp only [actsE, List.length_append, ih, cE0_len]; omega
def histE (K : JK) (a : Nat) : va_E := .inr (4, [.ref (K.2.2 + (a + 1)), .int 0, .ref (K.2.2 + (a + 2)), .int 0, .int 0])
def cE4i (K : JK) (a i : Nat) : List va_E := histE K a :: rowE K a i :: (cE0 K (a + 2) ++ actsE K a i)
abbrev cE4 (K : JK) (a : Nat) : List va_E := cE4i K a 150
theorem cE4i_len {K : JK} {a i : Nat} : (cE4i K a i).length = 15 + 13 * i := by
  simp only [cE4i, List.length_cons, List.length_append, actsE_len, cE0_len]; omega
theorem row_up {b a i : Nat} : va_up (fun t => if t < i then some (b + (a + (15 + 13 * t))) else none) i (some (b + (a + (15 + 13 * i)))) = (fun t => if t < i + 1 then some (b + (a + (15 + 13 * t))) else none) := by
  funext t
  unfold va_up
  by_cases h : t = i
  · subst h; simp
  · by_cases h2 : t < i
    · simp [h, h2, Nat.lt_succ_of_lt h2]
    · simp only [if_neg h, if_neg h2]
      rw [if_neg (by omega)]
theorem i32_toInt {i : Nat} (h : i ≤ 150) : (Int32.ofNat i).toInt = (i : Int) := Int32.toInt_ofNat_of_lt (by omega)
theorem i32_nat {i : Nat} (h : i ≤ 150) : (Int32.ofNat i).toNatClampNeg = i := by
  unfold Int32.toNatClampNeg
  rw [i32_toInt h]
  omega
theorem i32_lt {i : Nat} (h : i < 150) : ¬ (150 : Int32) ≤ Int32.ofNat i := by
  rw [Int32.le_iff_toInt_le, i32_toInt (Nat.le_of_lt h)]
  have e : (150 : Int32).toInt = 150 := by decide
  omega
theorem i32_in {i : Nat} (h : i < 150) : vp_in (Int32.ofNat i) 150 := by
  intro q
  rcases q with q | q
  · rw [Int32.lt_iff_toInt_lt, i32_toInt (Nat.le_of_lt h)] at q
    have e : (0 : Int32).toInt = 0 := by decide
    omega
  · rw [i32_nat (by omega)] at q
    omega

set_option maxHeartbeats 4000000 in
set_option maxRecDepth 100000 in
theorem hist_loop {X : JX} {K : JK} {a : Nat} {w0 : JW} (C : Cx X K 2 RX4 cX4_init) (hl : X.2.1.stackTraces = false) {D : Nat} (hD : 3 ≤ D) (hR : X.2.2.2.1 = jR D 1964 129708) (hret : X.2.2.2.2.2.2.2.2.1.sig.returnType = none) : ∀ (u i : Nat), i + u = 150 → J X K 2 True (jQ X K 1964 129708 (fun v n w => v = none ∧ n = a + 1965 ∧ w = wl a w0 (cE4 K a)) PN True) (14 + 13 * i) (1008 + 858 * i) (a + (15 + 13 * i)) (wl a w0 (cE4i K a i)) 42 [(1, .int (Int32.ofNat i)), (0, .ref (K.2.2 + a))] [] := by
  intro u
  induction u with
  | zero =>
    intro i hi
    have hi : i = 150 := by omega
    subst hi
    refine J_iload_n (i := 1) (p := 0) C dX4_init_42 rfl rfl rfl ?_
    refine J_sipush (v := 150) C (by decide) dX4_init_43 rfl ?_
    refine J_icmp_ge (t := 68) C dX4_init_46 (by decide) rfl (fun _ => ?_) (fun c => absurd (by decide) c)
    exact J_vret C hret (Nat.le_of_ble_eq_true rfl) (Nat.le_of_ble_eq_true rfl) ⟨rfl, rfl, rfl⟩ dX4_init_68
  | succ u ih =>
    intro i hi
    have hlt : i < 150 := by omega
    refine J_iload_n (i := 1) (p := 0) C dX4_init_42 rfl rfl rfl ?_
    refine J_sipush (v := 150) C (by decide) dX4_init_43 rfl ?_
    refine J_icmp_ge (t := 68) C dX4_init_46 (by decide) rfl (fun c => absurd c (i32_lt hlt)) (fun _ => ?_)
    refine J_aload_n (i := 0) (p := 1) C dX4_init_49 rfl rfl rfl ?_
    refine L_get (i := 0) (m := 15 + 13 * i) C cE4i_len rfl (by omega) rfl fp_RX4_11 rfl dX4_init_50 rfl ?_
    refine J_iload_n (i := 1) (p := 0) C dX4_init_53 rfl rfl rfl ?_
    refine L_new (m := 15 + 13 * i) (ty0 := tyX0) (ci := 0) (fs := [.null, .null, .null, .null]) (sl' := 1008 + 858 * i + 4) C cE4i_len inTB0 tyX0_ok rfl tw_293 tw_295 tw_88 (by decide) rfl (by rw [hR]; show 14 + 13 * i + 1 ≤ 1964; omega) (by rw [hR]; show 1008 + 858 * i + 4 ≤ 129708; omega) dX4_init_54 rfl ?_
    refine J_dup C rfl dX4_init_57 rfl ?_
    refine L_ctor (m := 15 + 13 * i) (kc := 14 + 13 * (i + 1)) (sc := 1008 + 858 * (i + 1)) C (Or.inr in_RX4_21) rfl im_0 hR cE4i_len rfl (fun w0 => k0_init hl) (by omega) (by omega) (Nat.le_of_ble_eq_true rfl) (by omega) (by omega) ⟨by omega, by omega⟩ dX4_init_58 rfl rfl ?_
    refine L_aast (i := 1) (ib := 15 + 13 * i) (m := 15 + 13 * i + 13) (N := 4) (T := TX0) C (by rw [List.length_append, cE4i_len, cE0_len]) rfl rfl (by omega) (by omega) rfl (by rw [List.getElem?_append_right (by rw [cE4i_len]; exact Nat.le_refl _), cE4i_len, Nat.sub_self]; rfl) rfl (i32_in hlt) dX4_init_61 rfl ?_
    rw [i32_nat (Nat.le_of_lt hlt), row_up]
    refine J_iincE (i := 1) (p := 0) (c := 1) (v := Int32.ofNat (i + 1)) (lv' := [(1, .int (Int32.ofNat (i + 1))), (0, .ref (K.2.2 + a))]) C (by rw [Int32.ofNat_add]; rfl) dX4_init_62 rfl (by decide) (Nat.le_of_ble_eq_true rfl) rfl rfl ?_
    refine J_goto (t := 42) C dX4_init_65 (by decide) ?_
    have h := ih (i + 1) (by omega)
    have e : cE4i K a (i + 1) = (cE4i K a i ++ cE0 K (a + (15 + 13 * i))).set 1 (rowE K a (i + 1)) := by
      simp only [cE4i, actsE, List.cons_append, List.set_cons_succ, List.set_cons_zero, List.append_assoc]
    rw [e] at h
    exact h

set_option maxHeartbeats 4000000 in
set_option maxRecDepth 100000 in
theorem k4_init {l : Launch} {K : JK} (hl : l.stackTraces = false) {a : Nat} {w0 : JW} : Con l K yX4_init (.code yX4_init cX4_init 2 none :: TB) 3 1964 129708 True [.ref (K.2.2 + a)] (a + 1) (wl a w0 [.inr (4, [.null, .int 0, .null, .int 0, .int 0])]) (fun v n w => v = none ∧ n = a + 1965 ∧ w = wl a w0 (cE4 K a)) PN := by
  refine Con.enterI (own := RX4) hl (by decide) rfl rfl (Nat.le_of_ble_eq_true rfl) ?_
  intro X hX hR C hret hname
  subst hX
  refine J_aload_n (i := 0) (p := 0) C dX4_init_0 rfl rfl rfl ?_
  refine J_objZ C tw_292 oi_1 oi_2 (by rw [hR]; exact (Nat.le_of_ble_eq_true rfl)) (by rw [hR]; exact (Nat.le_of_ble_eq_true rfl)) dX4_init_1 rfl ?_
  refine J_aload_n (i := 0) (p := 0) C dX4_init_4 rfl rfl rfl ?_
  refine J_sipush (v := 150) C (by decide) dX4_init_5 rfl ?_
  refine L_anew (m := 1) (N := 150) (sl' := 150) C rfl tw_293 (by decide) (by decide) (Nat.le_of_ble_eq_true rfl) rfl (by rw [hR]; exact (Nat.le_of_ble_eq_true rfl)) (by rw [hR]; exact (Nat.le_of_ble_eq_true rfl)) dX4_init_8 rfl ?_
  try simp only [List.set_cons_zero, List.set_cons_succ, List.cons_append, List.nil_append]
  refine L_put (i := 0) (m := 2) C hname rfl rfl (by decide) rfl fp_RX4_11 tyX4_ok nmX4 (by decide +kernel) rfl rfl (Nat.le_of_ble_eq_true rfl) dX4_init_11 rfl ?_
  try simp only [List.set_cons_zero, List.set_cons_succ, List.cons_append, List.nil_append]
  refine J_aload_n (i := 0) (p := 0) C dX4_init_14 rfl rfl rfl ?_
  refine J_iconst (v := 0) C (by decide) dX4_init_15 rfl ?_
  refine L_put (i := 0) (m := 2) C hname rfl rfl (by decide) rfl fp_RX4_17 tyX4_ok nmX4 (by decide +kernel) rfl rfl (Nat.le_of_ble_eq_true rfl) dX4_init_16 rfl ?_
  try simp only [List.set_cons_zero, List.set_cons_succ, List.cons_append, List.nil_append]
  refine J_aload_n (i := 0) (p := 0) C dX4_init_19 rfl rfl rfl ?_
  refine L_new (m := 2) (ty0 := tyX0) (ci := 0) (fs := [.null, .null, .null, .null]) (sl' := 154) C rfl inTB0 tyX0_ok rfl tw_293 tw_295 tw_88 (by decide) rfl (by rw [hR]; exact (Nat.le_of_ble_eq_true rfl)) (by rw [hR]; exact (Nat.le_of_ble_eq_true rfl)) dX4_init_20 rfl ?_
  refine J_dup C rfl dX4_init_23 rfl ?_
  refine L_ctor (m := 2) (kc := 14) (sc := 1008) C (Or.inr in_RX4_21) rfl im_0 hR rfl rfl (fun w0 => k0_init hl) (Nat.le_of_ble_eq_true rfl) (Nat.le_of_ble_eq_true rfl) (Nat.le_of_ble_eq_true rfl) rfl rfl ⟨(Nat.le_of_ble_eq_true rfl), (Nat.le_of_ble_eq_true rfl)⟩ dX4_init_24 rfl rfl ?_
  try simp only [List.set_cons_zero, List.set_cons_succ, List.cons_append, List.nil_append]
  refine L_put (i := 0) (m := 15) C hname rfl rfl (by decide) rfl fp_RX4_22 tyX4_ok nmX4 (by decide +kernel) rfl rfl (Nat.le_of_ble_eq_true rfl) dX4_init_27 rfl ?_
  try simp only [List.set_cons_zero, List.set_cons_succ, List.cons_append, List.nil_append]
  refine J_aload_n (i := 0) (p := 0) C dX4_init_30 rfl rfl rfl ?_
  refine J_iconst (v := 0) C (by decide) dX4_init_31 rfl ?_
  refine L_put (i := 0) (m := 15) C hname rfl rfl (by decide) rfl fp_RX4_26 tyX4_ok nmX4 (by decide +kernel) rfl rfl (Nat.le_of_ble_eq_true rfl) dX4_init_32 rfl ?_
  try simp only [List.set_cons_zero, List.set_cons_succ, List.cons_append, List.nil_append]
  refine J_aload_n (i := 0) (p := 0) C dX4_init_35 rfl rfl rfl ?_
  refine J_iconst (v := 0) C (by decide) dX4_init_36 rfl ?_
  refine L_put (i := 0) (m := 15) C hname rfl rfl (by decide) rfl fp_RX4_30 tyX4_ok nmX4 (by decide +kernel) rfl rfl (Nat.le_of_ble_eq_true rfl) dX4_init_37 rfl ?_
  try simp only [List.set_cons_zero, List.set_cons_succ, List.cons_append, List.nil_append]
  refine J_iconst (v := 0) C (by decide) dX4_init_40 rfl ?_
  refine J_istoreE_n (i := 1) (x' := 0) (lv' := [(1, .int 0), (0, .ref (K.2.2 + a))]) C rfl dX4_init_41 rfl (Nat.le_of_ble_eq_true rfl) rfl rfl ?_
  have h := hist_loop (a := a) (w0 := w0) C hl (by decide) hR hret 150 0 rfl
  have e : cE4i K a 0 = histE K a :: rowE K a 0 :: cE0 K (a + 2) := by simp only [cE4i, actsE, List.append_nil]
  rw [e] at h
  have e2 : rowE K a 0 = .inl (K.2.1.2.2.2.2, 150, .inr (.inr (.inr (.inr (fun _ => none))))) := by
    unfold rowE
    congr 5
  rw [e2] at h
  exact h
theorem cE8_len {K : JK} {a : Nat} : (cE8 K a).length = 7 := rfl
theorem cE2_len {K : JK} {a : Nat} : (cE2 K a).length = 3 := rfl
theorem cE1_len {K : JK} {a : Nat} : (cE1 K a).length = 11 := rfl
theorem cE7_len {K : JK} {a : Nat} : (cE7 K a).length = 3 := rfl
theorem cE9_len {K : JK} {a : Nat} : (cE9 K a).length = 5 := rfl
theorem cE3_len {K : JK} {a : Nat} : (cE3 K a).length = 18 := rfl
def roomE (K : JK) (a : Nat) : List va_E := .inr (10, [.ref (K.2.2 + (a + 1)), .ref (K.2.2 + (a + 8)), .ref (K.2.2 + (a + 10)), .ref (K.2.2 + (a + 13)), .ref (K.2.2 + (a + 24)), .ref (K.2.2 + (a + 1989)), .ref (K.2.2 + (a + 1992)), .ref (K.2.2 + (a + 1997)), .ref (K.2.2 + (a + 2015)), .ref (K.2.2 + (a + 2016)), .int 4]) :: (cE8 K (a + 1) ++ ([.inr (6, [.ref (K.2.2 + (a + 9)), .int 0]), .inl (K.2.1.2.1, 200, .inl z0)] ++ (cE2 K (a + 10) ++ (cE1 K (a + 13) ++ (cE4 K (a + 24) ++ (cE7 K (a + 1989) ++ (cE9 K (a + 1992) ++ (cE3 K (a + 1997) ++ ([.inl (K.2.1.1, 2, .inl z0)])))))))))
theorem roomE_len {K : JK} {a : Nat} : (roomE K a).length = 2016 := by
  simp only [roomE, List.length_cons, List.length_append, List.length_nil, cE8_len, cE2_len, cE1_len, cE4i_len, cE7_len, cE9_len, cE3_len]
def cE10 (K : JK) (a : Nat) : List va_E := roomE K a ++ [.inl (K.2.1.1, 2, .inl (fil 2 10))]
theorem room_eq {K : JK} {a : Nat} : roomE K a ++ [.inl (K.2.1.1, 2, .inl z0)] = .inr (10, [.ref (K.2.2 + (a + 1)), .ref (K.2.2 + (a + 8)), .ref (K.2.2 + (a + 10)), .ref (K.2.2 + (a + 13)), .ref (K.2.2 + (a + 24)), .ref (K.2.2 + (a + 1989)), .ref (K.2.2 + (a + 1992)), .ref (K.2.2 + (a + 1997)), .ref (K.2.2 + (a + 2015)), .ref (K.2.2 + (a + 2016)), .int 4]) :: (cE8 K (a + 1) ++ ([.inr (6, [.ref (K.2.2 + (a + 9)), .int 0]), .inl (K.2.1.2.1, 200, .inl z0)] ++ (cE2 K (a + 10) ++ (cE1 K (a + 13) ++ (cE4 K (a + 24) ++ (cE7 K (a + 1989) ++ (cE9 K (a + 1992) ++ (cE3 K (a + 1997) ++ ([.inl (K.2.1.1, 2, .inl z0), .inl (K.2.1.1, 2, .inl z0)]))))))))) := by
  simp only [roomE, List.cons_append, List.nil_append, List.append_assoc]
set_option maxHeartbeats 4000000 in
set_option maxRecDepth 100000 in
theorem k10_init {l : Launch} {K : JK} (hl : l.stackTraces = false) {a : Nat} {w0 : JW} : Con l K yX11_init (.code yX11_init cX11_init 2 none :: TB) 4 2016 180863 True [.ref (K.2.2 + a)] (a + 1) (wl a w0 [.inr (10, [.null, .null, .null, .null, .null, .null, .null, .null, .null, .null, .int 0])]) (fun v n w => v = none ∧ n = a + 2017 ∧ w = wl a w0 (cE10 K a)) PN := by
  refine Con.enterI (own := RX11) hl (by decide) rfl rfl (Nat.le_of_ble_eq_true rfl) ?_
  intro X hX hR C hret hname
  subst hX
  refine J_aload_n (i := 0) (p := 0) C dX11_init_0 rfl rfl rfl ?_
  refine J_objZ C tw_109 oi_1 oi_2 (by rw [hR]; exact (Nat.le_of_ble_eq_true rfl)) (by rw [hR]; exact (Nat.le_of_ble_eq_true rfl)) dX11_init_1 rfl ?_
  refine J_aload_n (i := 0) (p := 0) C dX11_init_4 rfl rfl rfl ?_
  refine L_new (m := 1) (ty0 := tyX8) (ci := 8) (fs := [.null, .int 0, .null, .null, .int 0, .null, .int 0, .null, .null]) (sl' := 9) C (by simp only [List.length_cons, List.length_append, List.length_nil, cE8_len, cE2_len, cE1_len, cE4i_len, cE7_len, cE9_len, cE3_len]) inTB8 tyX8_ok rfl tw_112 tw_113 tw_83 (by decide) rfl (by rw [hR]; exact (Nat.le_of_ble_eq_true rfl)) (by rw [hR]; exact (Nat.le_of_ble_eq_true rfl)) dX11_init_5 rfl ?_
  refine J_dup C rfl dX11_init_8 rfl ?_
  refine L_ctor (m := 1) (kc := 7) (sc := 3649) C (Or.inl ic_RX11_9) rfl im_8 hR (by simp only [List.length_cons, List.length_append, List.length_nil, cE8_len, cE2_len, cE1_len, cE4i_len, cE7_len, cE9_len, cE3_len]) rfl (fun w0 => k8_init hl) (Nat.le_of_ble_eq_true rfl) (Nat.le_of_ble_eq_true rfl) (Nat.le_of_ble_eq_true rfl) rfl rfl ⟨(Nat.le_of_ble_eq_true rfl), (Nat.le_of_ble_eq_true rfl)⟩ dX11_init_9 rfl rfl ?_
  try simp only [List.set_cons_zero, List.set_cons_succ, List.cons_append, List.nil_append, List.append_assoc]
  refine L_put (i := 0) (m := 8) C hname (by simp only [List.length_cons, List.length_append, List.length_nil, cE8_len, cE2_len, cE1_len, cE4i_len, cE7_len, cE9_len, cE3_len]) rfl (by decide) rfl fp_RX11_10 tyX11_ok nmX11 (by decide +kernel) rfl rfl (Nat.le_of_ble_eq_true rfl) dX11_init_12 rfl ?_
  try simp only [List.set_cons_zero, List.set_cons_succ, List.cons_append, List.nil_append, List.append_assoc]
  refine J_aload_n (i := 0) (p := 0) C dX11_init_15 rfl rfl rfl ?_
  refine L_new (m := 8) (ty0 := tyX6) (ci := 6) (fs := [.null, .int 0]) (sl' := 3651) C (by simp only [List.length_cons, List.length_append, List.length_nil, cE8_len, cE2_len, cE1_len, cE4i_len, cE7_len, cE9_len, cE3_len]) inTB6 tyX6_ok rfl tw_190 tw_191 tw_84 (by decide) rfl (by rw [hR]; exact (Nat.le_of_ble_eq_true rfl)) (by rw [hR]; exact (Nat.le_of_ble_eq_true rfl)) dX11_init_16 rfl ?_
  refine J_dup C rfl dX11_init_19 rfl ?_
  refine J_sipush (v := 200) C (by decide) dX11_init_20 rfl ?_
  refine L_newB (m := 9) (N := 200) (sl' := 3851) C (by simp only [List.length_cons, List.length_append, List.length_nil, cE8_len, cE2_len, cE1_len, cE4i_len, cE7_len, cE9_len, cE3_len]) tw_187 (by decide) (by decide) (Nat.le_of_ble_eq_true rfl) rfl (by rw [hR]; exact (Nat.le_of_ble_eq_true rfl)) (by rw [hR]; exact (Nat.le_of_ble_eq_true rfl)) dX11_init_23 rfl ?_
  try simp only [List.set_cons_zero, List.set_cons_succ, List.cons_append, List.nil_append, List.append_assoc]
  refine L_row (m := 8) C (Or.inl ic_RX11_18) rfl hl hR (es0 := .inr (10, [.ref (K.2.2 + (a + 1)), .null, .null, .null, .null, .null, .null, .null, .null, .null, .int 0]) :: cE8 K (a + 1)) (by simp only [List.length_cons, List.length_append, List.length_nil, cE8_len, cE2_len, cE1_len, cE4i_len, cE7_len, cE9_len, cE3_len]) rfl rfl (Nat.le_of_ble_eq_true rfl) (Nat.le_of_ble_eq_true rfl) (Nat.le_of_ble_eq_true rfl) ⟨(Nat.le_of_ble_eq_true rfl), (Nat.le_of_ble_eq_true rfl)⟩ dX11_init_25 rfl ?_
  try simp only [List.set_cons_zero, List.set_cons_succ, List.cons_append, List.nil_append, List.append_assoc]
  refine L_put (i := 0) (m := 10) C hname (by simp only [List.length_cons, List.length_append, List.length_nil, cE8_len, cE2_len, cE1_len, cE4i_len, cE7_len, cE9_len, cE3_len]) rfl (by decide) rfl fp_RX11_21 tyX11_ok nmX11 (by decide +kernel) rfl rfl (Nat.le_of_ble_eq_true rfl) dX11_init_28 rfl ?_
  try simp only [List.set_cons_zero, List.set_cons_succ, List.cons_append, List.nil_append, List.append_assoc]
  refine J_aload_n (i := 0) (p := 0) C dX11_init_31 rfl rfl rfl ?_
  refine L_new (m := 10) (ty0 := tyX2) (ci := 2) (fs := [.null, .int 0, .int 0, .int 0]) (sl' := 3855) C (by simp only [List.length_cons, List.length_append, List.length_nil, cE8_len, cE2_len, cE1_len, cE4i_len, cE7_len, cE9_len, cE3_len]) inTB2 tyX2_ok rfl tw_213 tw_214 tw_85 (by decide) rfl (by rw [hR]; exact (Nat.le_of_ble_eq_true rfl)) (by rw [hR]; exact (Nat.le_of_ble_eq_true rfl)) dX11_init_32 rfl ?_
  refine J_dup C rfl dX11_init_35 rfl ?_
  refine L_ctor (m := 10) (kc := 12) (sc := 15857) C (Or.inr in_RX11_27) rfl im_2 hR (by simp only [List.length_cons, List.length_append, List.length_nil, cE8_len, cE2_len, cE1_len, cE4i_len, cE7_len, cE9_len, cE3_len]) rfl (fun w0 => k2_init hl) (Nat.le_of_ble_eq_true rfl) (Nat.le_of_ble_eq_true rfl) (Nat.le_of_ble_eq_true rfl) rfl rfl ⟨(Nat.le_of_ble_eq_true rfl), (Nat.le_of_ble_eq_true rfl)⟩ dX11_init_36 rfl rfl ?_
  try simp only [List.set_cons_zero, List.set_cons_succ, List.cons_append, List.nil_append, List.append_assoc]
  refine L_put (i := 0) (m := 13) C hname (by simp only [List.length_cons, List.length_append, List.length_nil, cE8_len, cE2_len, cE1_len, cE4i_len, cE7_len, cE9_len, cE3_len]) rfl (by decide) rfl fp_RX11_28 tyX11_ok nmX11 (by decide +kernel) rfl rfl (Nat.le_of_ble_eq_true rfl) dX11_init_39 rfl ?_
  try simp only [List.set_cons_zero, List.set_cons_succ, List.cons_append, List.nil_append, List.append_assoc]
  refine J_aload_n (i := 0) (p := 0) C dX11_init_42 rfl rfl rfl ?_
  refine L_new (m := 13) (ty0 := tyX1) (ci := 1) (fs := [.null, .null, .null, .null, .int 0, .null, .int 0, .null, .int 0, .null, .null, .int 0, .null]) (sl' := 15870) C (by simp only [List.length_cons, List.length_append, List.length_nil, cE8_len, cE2_len, cE1_len, cE4i_len, cE7_len, cE9_len, cE3_len]) inTB1 tyX1_ok rfl tw_236 tw_237 tw_86 (by decide) rfl (by rw [hR]; exact (Nat.le_of_ble_eq_true rfl)) (by rw [hR]; exact (Nat.le_of_ble_eq_true rfl)) dX11_init_43 rfl ?_
  refine J_dup C rfl dX11_init_46 rfl ?_
  refine L_ctor (m := 13) (kc := 23) (sc := 34772) C (Or.inr in_RX11_34) rfl im_1 hR (by simp only [List.length_cons, List.length_append, List.length_nil, cE8_len, cE2_len, cE1_len, cE4i_len, cE7_len, cE9_len, cE3_len]) rfl (fun w0 => k1_init hl) (Nat.le_of_ble_eq_true rfl) (Nat.le_of_ble_eq_true rfl) (Nat.le_of_ble_eq_true rfl) rfl rfl ⟨(Nat.le_of_ble_eq_true rfl), (Nat.le_of_ble_eq_true rfl)⟩ dX11_init_47 rfl rfl ?_
  try simp only [List.set_cons_zero, List.set_cons_succ, List.cons_append, List.nil_append, List.append_assoc]
  refine L_put (i := 0) (m := 24) C hname (by simp only [List.length_cons, List.length_append, List.length_nil, cE8_len, cE2_len, cE1_len, cE4i_len, cE7_len, cE9_len, cE3_len]) rfl (by decide) rfl fp_RX11_35 tyX11_ok nmX11 (by decide +kernel) rfl rfl (Nat.le_of_ble_eq_true rfl) dX11_init_50 rfl ?_
  try simp only [List.set_cons_zero, List.set_cons_succ, List.cons_append, List.nil_append, List.append_assoc]
  refine J_aload_n (i := 0) (p := 0) C dX11_init_53 rfl rfl rfl ?_
  refine L_new (m := 24) (ty0 := tyX4) (ci := 4) (fs := [.null, .int 0, .null, .int 0, .int 0]) (sl' := 34777) C (by simp only [List.length_cons, List.length_append, List.length_nil, cE8_len, cE2_len, cE1_len, cE4i_len, cE7_len, cE9_len, cE3_len]) inTB4 tyX4_ok rfl tw_287 tw_288 tw_87 (by decide) rfl (by rw [hR]; exact (Nat.le_of_ble_eq_true rfl)) (by rw [hR]; exact (Nat.le_of_ble_eq_true rfl)) dX11_init_54 rfl ?_
  refine J_dup C rfl dX11_init_57 rfl ?_
  refine L_ctor (m := 24) (kc := 1988) (sc := 164485) C (Or.inl ic_RX11_41) rfl im_4 hR (by simp only [List.length_cons, List.length_append, List.length_nil, cE8_len, cE2_len, cE1_len, cE4i_len, cE7_len, cE9_len, cE3_len]) rfl (fun w0 => k4_init hl) (Nat.le_of_ble_eq_true rfl) (Nat.le_of_ble_eq_true rfl) (Nat.le_of_ble_eq_true rfl) rfl rfl ⟨(Nat.le_of_ble_eq_true rfl), (Nat.le_of_ble_eq_true rfl)⟩ dX11_init_58 rfl rfl ?_
  try simp only [List.set_cons_zero, List.set_cons_succ, List.cons_append, List.nil_append, List.append_assoc]
  refine L_put (i := 0) (m := 1989) C hname (by simp only [List.length_cons, List.length_append, List.length_nil, cE8_len, cE2_len, cE1_len, cE4i_len, cE7_len, cE9_len, cE3_len]) rfl (by decide) rfl fp_RX11_42 tyX11_ok nmX11 (by decide +kernel) rfl rfl (Nat.le_of_ble_eq_true rfl) dX11_init_61 rfl ?_
  try simp only [List.set_cons_zero, List.set_cons_succ, List.cons_append, List.nil_append, List.append_assoc]
  refine J_aload_n (i := 0) (p := 0) C dX11_init_64 rfl rfl rfl ?_
  refine L_new (m := 1989) (ty0 := tyX7) (ci := 7) (fs := [.null, .int 0]) (sl' := 164487) C (by simp only [List.length_cons, List.length_append, List.length_nil, cE8_len, cE2_len, cE1_len, cE4i_len, cE7_len, cE9_len, cE3_len]) inTB7 tyX7_ok rfl tw_366 tw_367 tw_90 (by decide) rfl (by rw [hR]; exact (Nat.le_of_ble_eq_true rfl)) (by rw [hR]; exact (Nat.le_of_ble_eq_true rfl)) dX11_init_65 rfl ?_
  refine J_dup C rfl dX11_init_68 rfl ?_
  refine L_ctor (m := 1989) (kc := 1991) (sc := 164529) C (Or.inr in_RX11_48) rfl im_7 hR (by simp only [List.length_cons, List.length_append, List.length_nil, cE8_len, cE2_len, cE1_len, cE4i_len, cE7_len, cE9_len, cE3_len]) rfl (fun w0 => k7_init hl) (Nat.le_of_ble_eq_true rfl) (Nat.le_of_ble_eq_true rfl) (Nat.le_of_ble_eq_true rfl) rfl rfl ⟨(Nat.le_of_ble_eq_true rfl), (Nat.le_of_ble_eq_true rfl)⟩ dX11_init_69 rfl rfl ?_
  try simp only [List.set_cons_zero, List.set_cons_succ, List.cons_append, List.nil_append, List.append_assoc]
  refine L_put (i := 0) (m := 1992) C hname (by simp only [List.length_cons, List.length_append, List.length_nil, cE8_len, cE2_len, cE1_len, cE4i_len, cE7_len, cE9_len, cE3_len]) rfl (by decide) rfl fp_RX11_49 tyX11_ok nmX11 (by decide +kernel) rfl rfl (Nat.le_of_ble_eq_true rfl) dX11_init_72 rfl ?_
  try simp only [List.set_cons_zero, List.set_cons_succ, List.cons_append, List.nil_append, List.append_assoc]
  refine J_aload_n (i := 0) (p := 0) C dX11_init_75 rfl rfl rfl ?_
  refine L_new (m := 1992) (ty0 := tyX9) (ci := 9) (fs := [.null, .null, .null, .null, .int 0, .int 0]) (sl' := 164535) C (by simp only [List.length_cons, List.length_append, List.length_nil, cE8_len, cE2_len, cE1_len, cE4i_len, cE7_len, cE9_len, cE3_len]) inTB9 tyX9_ok rfl tw_383 tw_384 tw_91 (by decide) rfl (by rw [hR]; exact (Nat.le_of_ble_eq_true rfl)) (by rw [hR]; exact (Nat.le_of_ble_eq_true rfl)) dX11_init_76 rfl ?_
  refine J_dup C rfl dX11_init_79 rfl ?_
  refine L_ctor (m := 1992) (kc := 1996) (sc := 172655) C (Or.inr in_RX11_55) rfl im_9 hR (by simp only [List.length_cons, List.length_append, List.length_nil, cE8_len, cE2_len, cE1_len, cE4i_len, cE7_len, cE9_len, cE3_len]) rfl (fun w0 => k9_init hl) (Nat.le_of_ble_eq_true rfl) (Nat.le_of_ble_eq_true rfl) (Nat.le_of_ble_eq_true rfl) rfl rfl ⟨(Nat.le_of_ble_eq_true rfl), (Nat.le_of_ble_eq_true rfl)⟩ dX11_init_80 rfl rfl ?_
  try simp only [List.set_cons_zero, List.set_cons_succ, List.cons_append, List.nil_append, List.append_assoc]
  refine L_put (i := 0) (m := 1997) C hname (by simp only [List.length_cons, List.length_append, List.length_nil, cE8_len, cE2_len, cE1_len, cE4i_len, cE7_len, cE9_len, cE3_len]) rfl (by decide) rfl fp_RX11_56 tyX11_ok nmX11 (by decide +kernel) rfl rfl (Nat.le_of_ble_eq_true rfl) dX11_init_83 rfl ?_
  try simp only [List.set_cons_zero, List.set_cons_succ, List.cons_append, List.nil_append, List.append_assoc]
  refine J_aload_n (i := 0) (p := 0) C dX11_init_86 rfl rfl rfl ?_
  refine L_new (m := 1997) (ty0 := tyX3) (ci := 3) (fs := [.null, .null, .null, .null, .null]) (sl' := 172660) C (by simp only [List.length_cons, List.length_append, List.length_nil, cE8_len, cE2_len, cE1_len, cE4i_len, cE7_len, cE9_len, cE3_len]) inTB3 tyX3_ok rfl tw_414 tw_415 tw_92 (by decide) rfl (by rw [hR]; exact (Nat.le_of_ble_eq_true rfl)) (by rw [hR]; exact (Nat.le_of_ble_eq_true rfl)) dX11_init_87 rfl ?_
  refine J_dup C rfl dX11_init_90 rfl ?_
  refine L_ctor (m := 1997) (kc := 2014) (sc := 180859) C (Or.inr in_RX11_62) rfl im_3 hR (by simp only [List.length_cons, List.length_append, List.length_nil, cE8_len, cE2_len, cE1_len, cE4i_len, cE7_len, cE9_len, cE3_len]) rfl (fun w0 => k3_init hl) (Nat.le_of_ble_eq_true rfl) (Nat.le_of_ble_eq_true rfl) (Nat.le_of_ble_eq_true rfl) rfl rfl ⟨(Nat.le_of_ble_eq_true rfl), (Nat.le_of_ble_eq_true rfl)⟩ dX11_init_91 rfl rfl ?_
  try simp only [List.set_cons_zero, List.set_cons_succ, List.cons_append, List.nil_append, List.append_assoc]
  refine L_put (i := 0) (m := 2015) C hname (by simp only [List.length_cons, List.length_append, List.length_nil, cE8_len, cE2_len, cE1_len, cE4i_len, cE7_len, cE9_len, cE3_len]) rfl (by decide) rfl fp_RX11_63 tyX11_ok nmX11 (by decide +kernel) rfl rfl (Nat.le_of_ble_eq_true rfl) dX11_init_94 rfl ?_
  try simp only [List.set_cons_zero, List.set_cons_succ, List.cons_append, List.nil_append, List.append_assoc]
  refine J_aload_n (i := 0) (p := 0) C dX11_init_97 rfl rfl rfl ?_
  refine J_iconst (v := 2) C (by decide) dX11_init_98 rfl ?_
  refine L_newI (m := 2015) (N := 2) (sl' := 180861) C (by simp only [List.length_cons, List.length_append, List.length_nil, cE8_len, cE2_len, cE1_len, cE4i_len, cE7_len, cE9_len, cE3_len]) tw_188 (by decide) (by decide) (Nat.le_of_ble_eq_true rfl) rfl (by rw [hR]; exact (Nat.le_of_ble_eq_true rfl)) (by rw [hR]; exact (Nat.le_of_ble_eq_true rfl)) dX11_init_99 rfl ?_
  try simp only [List.set_cons_zero, List.set_cons_succ, List.cons_append, List.nil_append, List.append_assoc]
  refine L_put (i := 0) (m := 2016) C hname (by simp only [List.length_cons, List.length_append, List.length_nil, cE8_len, cE2_len, cE1_len, cE4i_len, cE7_len, cE9_len, cE3_len]) rfl (by decide) rfl fp_RX11_67 tyX11_ok nmX11 (by decide +kernel) rfl rfl (Nat.le_of_ble_eq_true rfl) dX11_init_101 rfl ?_
  try simp only [List.set_cons_zero, List.set_cons_succ, List.cons_append, List.nil_append, List.append_assoc]
  refine J_aload_n (i := 0) (p := 0) C dX11_init_104 rfl rfl rfl ?_
  refine J_iconst (v := 2) C (by decide) dX11_init_105 rfl ?_
  refine L_newI (m := 2016) (N := 2) (sl' := 180863) C (by simp only [List.length_cons, List.length_append, List.length_nil, cE8_len, cE2_len, cE1_len, cE4i_len, cE7_len, cE9_len, cE3_len]) tw_188 (by decide) (by decide) (Nat.le_of_ble_eq_true rfl) rfl (by rw [hR]; exact (Nat.le_of_ble_eq_true rfl)) (by rw [hR]; exact (Nat.le_of_ble_eq_true rfl)) dX11_init_106 rfl ?_
  try simp only [List.set_cons_zero, List.set_cons_succ, List.cons_append, List.nil_append, List.append_assoc]
  refine L_put (i := 0) (m := 2017) C hname (by simp only [List.length_cons, List.length_append, List.length_nil, cE8_len, cE2_len, cE1_len, cE4i_len, cE7_len, cE9_len, cE3_len]) rfl (by decide) rfl fp_RX11_71 tyX11_ok nmX11 (by decide +kernel) rfl rfl (Nat.le_of_ble_eq_true rfl) dX11_init_108 rfl ?_
  try simp only [List.set_cons_zero, List.set_cons_succ, List.cons_append, List.nil_append, List.append_assoc]
  refine J_aload_n (i := 0) (p := 0) C dX11_init_111 rfl rfl rfl ?_
  refine J_iconst (v := 4) C (by decide) dX11_init_112 rfl ?_
  refine L_put (i := 0) (m := 2017) C hname (by simp only [List.length_cons, List.length_append, List.length_nil, cE8_len, cE2_len, cE1_len, cE4i_len, cE7_len, cE9_len, cE3_len]) rfl (by decide) rfl fp_RX11_74 tyX11_ok nmX11 (by decide +kernel) rfl rfl (Nat.le_of_ble_eq_true rfl) dX11_init_113 rfl ?_
  try simp only [List.set_cons_zero, List.set_cons_succ, List.cons_append, List.nil_append, List.append_assoc]
  have e := room_eq (K := K) (a := a)
  simp only [List.cons_append, List.nil_append, List.append_assoc] at e
  rw [← e]
  refine J_iconst (v := 0) C (by decide) dX11_init_116 rfl ?_
  refine J_istoreE_n (i := 1) (x' := 0) (lv' := [(1, .int 0), (0, .ref (K.2.2 + a))]) C rfl dX11_init_117 rfl (Nat.le_of_ble_eq_true rfl) rfl rfl ?_
  refine J_iload_n (i := 1) (p := 0) C dX11_init_118 rfl rfl rfl ?_
  refine J_iconst (v := 2) C (by decide) dX11_init_119 rfl ?_
  refine J_icmp_ge (t := 137) C dX11_init_120 (by decide) rfl (fun c => absurd c (by decide)) (fun _ => ?_)
  refine J_aload_n (i := 0) (p := 1) C dX11_init_123 rfl rfl rfl ?_
  refine L_get (i := 0) (m := 2017) (ci := 10) C (by rw [List.length_append, roomE_len]; rfl) rfl (by decide) rfl fp_RX11_71 rfl dX11_init_124 rfl ?_
  refine J_iload_n (i := 1) (p := 0) C dX11_init_127 rfl rfl rfl ?_
  refine J_bipush (v := 10) C (by decide) dX11_init_128 rfl ?_
  refine L_filE (i := 2016) (p := 0) C roomE_len rfl (fil_zero 10) (by decide) (inb_spec (by decide)) dX11_init_130 rfl ?_
  refine J_iincE (i := 1) (p := 0) (c := 1) (v := 1) (lv' := [(1, .int 1), (0, .ref (K.2.2 + a))]) C (by decide) dX11_init_131 rfl (by decide) (Nat.le_of_ble_eq_true rfl) rfl rfl ?_
  refine J_goto (t := 118) C dX11_init_134 (by decide) ?_
  refine J_iload_n (i := 1) (p := 0) C dX11_init_118 rfl rfl rfl ?_
  refine J_iconst (v := 2) C (by decide) dX11_init_119 rfl ?_
  refine J_icmp_ge (t := 137) C dX11_init_120 (by decide) rfl (fun c => absurd c (by decide)) (fun _ => ?_)
  refine J_aload_n (i := 0) (p := 1) C dX11_init_123 rfl rfl rfl ?_
  refine L_get (i := 0) (m := 2017) (ci := 10) C (by rw [List.length_append, roomE_len]; rfl) rfl (by decide) rfl fp_RX11_71 rfl dX11_init_124 rfl ?_
  refine J_iload_n (i := 1) (p := 0) C dX11_init_127 rfl rfl rfl ?_
  refine J_bipush (v := 10) C (by decide) dX11_init_128 rfl ?_
  refine L_filE (i := 2016) (p := 1) C roomE_len rfl rfl (by decide) (inb_spec (by decide)) dX11_init_130 rfl ?_
  refine J_iincE (i := 1) (p := 0) (c := 1) (v := 2) (lv' := [(1, .int 2), (0, .ref (K.2.2 + a))]) C (by decide) dX11_init_131 rfl (by decide) (Nat.le_of_ble_eq_true rfl) rfl rfl ?_
  refine J_goto (t := 118) C dX11_init_134 (by decide) ?_
  refine J_iload_n (i := 1) (p := 0) C dX11_init_118 rfl rfl rfl ?_
  refine J_iconst (v := 2) C (by decide) dX11_init_119 rfl ?_
  refine J_icmp_ge (t := 137) C dX11_init_120 (by decide) rfl (fun _ => ?_) (fun c => absurd (by decide) c)
  exact J_vret C hret (Nat.le_of_ble_eq_true rfl) (Nat.le_of_ble_eq_true rfl) ⟨rfl, rfl, rfl⟩ dX11_init_137
