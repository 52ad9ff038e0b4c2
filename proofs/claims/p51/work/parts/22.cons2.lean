theorem tw_110 : Cond.instanceMethod ⟨"java/lang/Object", "<init>", "()V"⟩ ∈ TB := tbN 60 (by decide +kernel) (by decide +kernel)
theorem tw_111 : Cond.code Lib.objectInit { data := #[177] } 1 none ∈ TB := tbN 61 (by decide +kernel) (by decide +kernel)
theorem tw_113 : Cond.instantiable "Cursorroom$Sheet" 9 ∈ TB := tbN 63 (by decide +kernel) (by decide +kernel)
theorem tw_115 : Cond.instanceMethod ⟨"Cursorroom$Sheet", "<init>", "()V"⟩ ∈ TB := tbN 65 (by decide +kernel) (by decide +kernel)
theorem tw_116 : Cond.code yX8_init cX8_init 2 none ∈ TB := tbN 66 (by decide +kernel) (by decide +kernel)
theorem tw_117 : Cond.methodLink "Cursorroom$Sheet" 3 ⟨"java/lang/Object", "<init>", "()V"⟩ ∈ TB := tbN 67 (by decide +kernel) (by decide +kernel)
theorem tw_187 : Cond.arrayClass .byte ∈ TB := tbN 137 (by decide +kernel) (by decide +kernel)
theorem tw_188 : Cond.arrayClass .int ∈ TB := tbN 138 (by decide +kernel) (by decide +kernel)
theorem tw_189 : Cond.arrayClass .boolean ∈ TB := tbN 139 (by decide +kernel) (by decide +kernel)
theorem tw_191 : Cond.instantiable "Cursorroom$Row" 2 ∈ TB := tbN 141 (by decide +kernel) (by decide +kernel)
theorem tw_193 : Cond.instanceMethod ⟨"Cursorroom$Row", "<init>", "([B)V"⟩ ∈ TB := tbN 143 (by decide +kernel) (by decide +kernel)
theorem tw_194 : Cond.code yX6_init cX6_init 2 none ∈ TB := tbN 144 (by decide +kernel) (by decide +kernel)
theorem tw_195 : Cond.methodLink "Cursorroom$Row" 1 ⟨"java/lang/Object", "<init>", "()V"⟩ ∈ TB := tbN 145 (by decide +kernel) (by decide +kernel)
theorem tw_218 : Cond.methodLink "Cursorroom$Clip" 3 ⟨"java/lang/Object", "<init>", "()V"⟩ ∈ TB := tbN 168 (by decide +kernel) (by decide +kernel)
theorem tw_219 : Cond.classLink "Cursorroom$Clip" 9 "Cursorroom$Row" ∈ TB := tbN 169 (by decide +kernel) (by decide +kernel)
theorem tw_220 : Cond.methodLink "Cursorroom$Clip" 11 ⟨"Cursorroom$Row", "<init>", "([B)V"⟩ ∈ TB := tbN 170 (by decide +kernel) (by decide +kernel)
theorem tw_241 : Cond.methodLink "Cursorroom$Change" 3 ⟨"java/lang/Object", "<init>", "()V"⟩ ∈ TB := tbN 191 (by decide +kernel) (by decide +kernel)
theorem tw_242 : Cond.classLink "Cursorroom$Change" 28 "Cursorroom$Row" ∈ TB := tbN 192 (by decide +kernel) (by decide +kernel)
theorem tw_243 : Cond.methodLink "Cursorroom$Change" 30 ⟨"Cursorroom$Row", "<init>", "([B)V"⟩ ∈ TB := tbN 193 (by decide +kernel) (by decide +kernel)
theorem tw_299 : Cond.methodLink "Cursorroom$Act" 1 ⟨"java/lang/Object", "<init>", "()V"⟩ ∈ TB := tbN 249 (by decide +kernel) (by decide +kernel)
theorem tw_300 : Cond.classLink "Cursorroom$Act" 16 "Cursorroom$Moment" ∈ TB := tbN 250 (by decide +kernel) (by decide +kernel)
theorem tw_301 : Cond.instantiable "Cursorroom$Moment" 7 ∈ TB := tbN 251 (by decide +kernel) (by decide +kernel)
theorem tw_303 : Cond.instanceMethod ⟨"Cursorroom$Moment", "<init>", "()V"⟩ ∈ TB := tbN 253 (by decide +kernel) (by decide +kernel)
theorem tw_304 : Cond.code yX5_init cX5_init 1 none ∈ TB := tbN 254 (by decide +kernel) (by decide +kernel)
theorem tw_305 : Cond.methodLink "Cursorroom$Moment" 3 ⟨"java/lang/Object", "<init>", "()V"⟩ ∈ TB := tbN 255 (by decide +kernel) (by decide +kernel)
theorem tw_328 : Cond.arrayClass .long ∈ TB := tbN 278 (by decide +kernel) (by decide +kernel)
theorem tw_329 : Cond.fieldLink "Cursorroom$Act" 7 "Cursorroom$Act" "parent" "LCursorroom$Act;" ∈ TB := tbN 279 (by decide +kernel) (by decide +kernel)
theorem tw_331 : Cond.fieldLink "Cursorroom$Act" 13 "Cursorroom$Act" "chosen" "LCursorroom$Act;" ∈ TB := tbN 281 (by decide +kernel) (by decide +kernel)
theorem tw_334 : Cond.fieldLink "Cursorroom$Act" 19 "Cursorroom$Act" "before" "LCursorroom$Moment;" ∈ TB := tbN 284 (by decide +kernel) (by decide +kernel)
theorem tw_336 : Cond.fieldLink "Cursorroom$Act" 23 "Cursorroom$Act" "behind" "LCursorroom$Moment;" ∈ TB := tbN 286 (by decide +kernel) (by decide +kernel)
theorem tw_371 : Cond.methodLink "Cursorroom$Search" 3 ⟨"java/lang/Object", "<init>", "()V"⟩ ∈ TB := tbN 321 (by decide +kernel) (by decide +kernel)
theorem tw_372 : Cond.classLink "Cursorroom$Search" 9 "Cursorroom$Row" ∈ TB := tbN 322 (by decide +kernel) (by decide +kernel)
theorem tw_373 : Cond.methodLink "Cursorroom$Search" 11 ⟨"Cursorroom$Row", "<init>", "([B)V"⟩ ∈ TB := tbN 323 (by decide +kernel) (by decide +kernel)
theorem tw_388 : Cond.methodLink "Cursorroom$Steps" 3 ⟨"java/lang/Object", "<init>", "()V"⟩ ∈ TB := tbN 338 (by decide +kernel) (by decide +kernel)
theorem tw_419 : Cond.methodLink "Cursorroom$Comparison" 3 ⟨"java/lang/Object", "<init>", "()V"⟩ ∈ TB := tbN 369 (by decide +kernel) (by decide +kernel)
theorem tw_420 : Cond.classLink "Cursorroom$Comparison" 9 "Cursorroom$Sheet" ∈ TB := tbN 370 (by decide +kernel) (by decide +kernel)
theorem tw_421 : Cond.methodLink "Cursorroom$Comparison" 11 ⟨"Cursorroom$Sheet", "<init>", "()V"⟩ ∈ TB := tbN 371 (by decide +kernel) (by decide +kernel)
theorem tw_424 : Cond.fieldLink "Cursorroom$Comparison" 18 "Cursorroom$Comparison" "scratch" "LCursorroom$Sheet;" ∈ TB := tbN 374 (by decide +kernel) (by decide +kernel)
theorem fp_RX0_13 : FP RX0 13 0 1 RX0 TX0 4 := ⟨rfl, inTB0, by decide, tw_331, by decide, by decide⟩
theorem fp_RX0_19 : FP RX0 19 0 2 RX0 TX0 4 := ⟨rfl, inTB0, by decide, tw_334, by decide, by decide⟩
theorem fp_RX0_23 : FP RX0 23 0 3 RX0 TX0 4 := ⟨rfl, inTB0, by decide, tw_336, by decide, by decide⟩
theorem fp_RX0_7 : FP RX0 7 0 0 RX0 TX0 4 := ⟨rfl, inTB0, by decide, tw_329, by decide, by decide⟩
theorem fp_RX3_18 : FP RX3 18 3 1 RX3 TX3 5 := ⟨rfl, inTB3, by decide, tw_424, by decide, by decide⟩
theorem ic_RX1_30 : CW RX1 30 yX6_init cX6_init 2 none 1 := ⟨tw_243, tw_84, tw_194, by decide +kernel, by decide +kernel, by decide +kernel⟩
theorem ic_RX2_11 : CW RX2 11 yX6_init cX6_init 2 none 1 := ⟨tw_220, tw_84, tw_194, by decide +kernel, by decide +kernel, by decide +kernel⟩
theorem ic_RX3_11 : CW RX3 11 yX8_init cX8_init 2 none 0 := ⟨tw_421, tw_83, tw_116, by decide +kernel, by decide +kernel, by decide +kernel⟩
theorem ic_RX7_11 : CW RX7 11 yX6_init cX6_init 2 none 1 := ⟨tw_373, tw_84, tw_194, by decide +kernel, by decide +kernel, by decide +kernel⟩
theorem in_RX0_18 : CN RX0 18 yX5_init cX5_init 1 none 0 := ⟨by decide +kernel, tw_89, tw_304, by decide +kernel, by decide +kernel, by decide +kernel⟩
theorem im_6 : Cond.instanceMethod yX6_init ∈ TB := tw_193
theorem im_8 : Cond.instanceMethod yX8_init ∈ TB := tw_115
theorem im_5 : Cond.instanceMethod yX5_init ∈ TB := tw_303
theorem oi_1 : Cond.instanceMethod Lib.objectInit ∈ TB := tw_110
theorem oi_2 : Cond.code Lib.objectInit { data := #[177] } 1 none ∈ TB := tw_111
set_option maxHeartbeats 4000000 in
set_option maxRecDepth 100000 in
theorem k6_init {l : Launch} {K : JK} (hl : l.stackTraces = false) {a : Nat} {w0 : JW} {e1 : va_E} : Con l K yX6_init (.code yX6_init cX6_init 2 none :: TB) 1 0 0 True [.ref (K.2.2 + a), .ref (K.2.2 + (a + 1))] (a + 2) (wl a w0 [.inr (6, [.null, .int 0]), e1]) (fun v n w => v = none ∧ n = a + 2 ∧ w = wl a w0 [.inr (6, [.ref (K.2.2 + (a + 1)), .int 0]), e1]) PN := by
  refine Con.enterI (own := RX6) hl (by decide) rfl rfl (Nat.le_of_ble_eq_true rfl) ?_
  intro X hX hR C hret hname
  subst hX
  refine J_aload_n (i := 0) (p := 0) C dX6_init_0 rfl rfl rfl ?_
  refine J_objZ C tw_195 oi_1 oi_2 (by rw [hR]; exact (Nat.le_of_ble_eq_true rfl)) (by rw [hR]; exact (Nat.le_of_ble_eq_true rfl)) dX6_init_1 rfl ?_
  refine J_aload_n (i := 0) (p := 0) C dX6_init_4 rfl rfl rfl ?_
  refine J_aload_n (i := 1) (p := 1) C dX6_init_5 rfl rfl rfl ?_
  refine L_put (i := 0) (m := 2) C hname rfl rfl (by decide) rfl fp_RX6_7 tyX6_ok nmX6 (by decide +kernel) rfl rfl (Nat.le_of_ble_eq_true rfl) dX6_init_6 rfl ?_
  try simp only [List.set_cons_zero, List.set_cons_succ, List.cons_append, List.nil_append]
  exact J_vret C hret (Nat.le_of_ble_eq_true rfl) (Nat.le_of_ble_eq_true rfl) ⟨rfl, rfl, rfl⟩ dX6_init_9
theorem L_row {X : JX} {K : JK} {nL : Nat} {Q : State → Prop} {k sl : Nat} {pc q : Nat} {lv : List (Nat × Value)} {st : List Value} {own : String} {cc : ByteArray} {a m r r2 : Nat} {w0 : JW} {index : Nat} {e1 : va_E} {es0 : List va_E} (C : Cx X K nL own cc) (cw : CW own index yX6_init cX6_init 2 none 1 ∨ CN own index yX6_init cX6_init 2 none 1) {l : Launch} (hX : X.2.1 = l) (hl : l.stackTraces = false) {D MC M2 : Nat} (hR : X.2.2.2.1 = jR D MC M2) (hm : es0.length = m) (hr : r = a + m) (hr2 : r2 = a + (m + 1)) (hf : 2 ≤ D) (hlo : 8 + (2 + 11) + 36 * 1 ≤ 36 * D) (hsum : (st.map fun v => v.category).sum ≤ 8) (hcells : k ≤ MC ∧ sl ≤ M2) (dg : decode cc pc = .ok (.invokespecial index, 3)) (hq : pc + 3 = q)
    (h : J X K nL True Q k sl (a + (m + 2)) (wl a w0 (es0 ++ [.inr (6, [.ref (K.2.2 + r2), .int 0]), e1])) q lv st) : J X K nL True Q k sl (a + (m + 2)) (wl a w0 (es0 ++ [.inr (6, [.null, .int 0]), e1])) pc lv (.ref (K.2.2 + r2) :: .ref (K.2.2 + r) :: st) := by
  subst hr hr2 hX
  rw [← wl_nest hm]
  rw [← wl_nest hm] at h
  have con := k6_init (K := K) hl (a := a + m) (w0 := wl a w0 es0) (e1 := e1)
  have kr : ∀ (v : Option Value) (n' : Nat) (w' : JW), (v = none ∧ n' = a + m + 2 ∧ w' = wl (a + m) (wl a w0 es0) [.inr (6, [.ref (K.2.2 + (a + m + 1)), .int 0]), e1]) → J X K nL True Q (k + 0) (sl + 0) n' w' q lv (v.toList ++ st) := by
    rintro v n' w' ⟨rfl, rfl, rfl⟩
    exact h
  rcases cw with cw | cw
  · exact J_callI (a := K.2.2 + (a + m)) (As := [.ref (K.2.2 + (a + m + 1))]) C cw rfl im_6 con rfl rfl (by rw [hR]; exact hf) (by rw [hR]; exact hlo) hsum (by rw [hR]; exact hcells) dg hq (fun E n9 w9 hx => JT_n hx) kr
  · exact J_callIN (a := K.2.2 + (a + m)) (As := [.ref (K.2.2 + (a + m + 1))]) C cw rfl im_6 con rfl rfl (by rw [hR]; exact hf) (by rw [hR]; exact hlo) hsum (by rw [hR]; exact hcells) dg hq (fun E n9 w9 hx => JT_n hx) kr
def cE8 (K : JK) (a : Nat) : List va_E := [.inr (8, [.ref (K.2.2 + (a + 1)), .int 0, .ref (K.2.2 + (a + 2)), .ref (K.2.2 + (a + 3)), .int 1, .ref (K.2.2 + (a + 4)), .int 1, .ref (K.2.2 + (a + 5)), .ref (K.2.2 + (a + 6))]),
  .inl (K.2.1.2.1, 3000, .inl z0),
  .inl (K.2.1.1, 300, .inl z0),
  .inl (K.2.1.2.2.1, 300, .inl z0),
  .inl (K.2.1.1, 8, .inl z0),
  .inl (K.2.1.1, 16, .inl (fil 16 (-1))),
  .inl (K.2.1.2.2.1, 16, .inl z0)]
set_option maxHeartbeats 4000000 in
set_option maxRecDepth 100000 in
theorem k8_init {l : Launch} {K : JK} (hl : l.stackTraces = false) {a : Nat} {w0 : JW} : Con l K yX8_init (.code yX8_init cX8_init 2 none :: TB) 1 6 3640 True [.ref (K.2.2 + a)] (a + 1) (wl a w0 [.inr (8, [.null, .int 0, .null, .null, .int 0, .null, .int 0, .null, .null])]) (fun v n w => v = none ∧ n = a + 7 ∧ w = wl a w0 (cE8 K a)) PN := by
  refine Con.enterI (own := RX8) hl (by decide) rfl rfl (Nat.le_of_ble_eq_true rfl) ?_
  intro X hX hR C hret hname
  subst hX
  refine J_aload_n (i := 0) (p := 0) C dX8_init_0 rfl rfl rfl ?_
  refine J_objZ C tw_117 oi_1 oi_2 (by rw [hR]; exact (Nat.le_of_ble_eq_true rfl)) (by rw [hR]; exact (Nat.le_of_ble_eq_true rfl)) dX8_init_1 rfl ?_
  refine J_aload_n (i := 0) (p := 0) C dX8_init_4 rfl rfl rfl ?_
  refine J_sipush (v := 3000) C (by decide) dX8_init_5 rfl ?_
  refine L_newB (m := 1) (N := 3000) (sl' := 3000) C rfl tw_187 (by decide) (by decide) (Nat.le_of_ble_eq_true rfl) rfl (by rw [hR]; exact (Nat.le_of_ble_eq_true rfl)) (by rw [hR]; exact (Nat.le_of_ble_eq_true rfl)) dX8_init_8 rfl ?_
  try simp only [List.set_cons_zero, List.set_cons_succ, List.cons_append, List.nil_append]
  refine L_put (i := 0) (m := 2) C hname rfl rfl (by decide) rfl fp_RX8_9 tyX8_ok nmX8 (by decide +kernel) rfl rfl (Nat.le_of_ble_eq_true rfl) dX8_init_10 rfl ?_
  try simp only [List.set_cons_zero, List.set_cons_succ, List.cons_append, List.nil_append]
  refine J_aload_n (i := 0) (p := 0) C dX8_init_13 rfl rfl rfl ?_
  refine J_iconst (v := 0) C (by decide) dX8_init_14 rfl ?_
  refine L_put (i := 0) (m := 2) C hname rfl rfl (by decide) rfl fp_RX8_15 tyX8_ok nmX8 (by decide +kernel) rfl rfl (Nat.le_of_ble_eq_true rfl) dX8_init_15 rfl ?_
  try simp only [List.set_cons_zero, List.set_cons_succ, List.cons_append, List.nil_append]
  refine J_aload_n (i := 0) (p := 0) C dX8_init_18 rfl rfl rfl ?_
  refine J_sipush (v := 300) C (by decide) dX8_init_19 rfl ?_
  refine L_newI (m := 2) (N := 300) (sl' := 3300) C rfl tw_188 (by decide) (by decide) (Nat.le_of_ble_eq_true rfl) rfl (by rw [hR]; exact (Nat.le_of_ble_eq_true rfl)) (by rw [hR]; exact (Nat.le_of_ble_eq_true rfl)) dX8_init_22 rfl ?_
  try simp only [List.set_cons_zero, List.set_cons_succ, List.cons_append, List.nil_append]
  refine L_put (i := 0) (m := 3) C hname rfl rfl (by decide) rfl fp_RX8_19 tyX8_ok nmX8 (by decide +kernel) rfl rfl (Nat.le_of_ble_eq_true rfl) dX8_init_24 rfl ?_
  try simp only [List.set_cons_zero, List.set_cons_succ, List.cons_append, List.nil_append]
  refine J_aload_n (i := 0) (p := 0) C dX8_init_27 rfl rfl rfl ?_
  refine J_sipush (v := 300) C (by decide) dX8_init_28 rfl ?_
  refine L_newZ (m := 3) (N := 300) (sl' := 3600) C rfl tw_189 (by decide) (by decide) (Nat.le_of_ble_eq_true rfl) rfl (by rw [hR]; exact (Nat.le_of_ble_eq_true rfl)) (by rw [hR]; exact (Nat.le_of_ble_eq_true rfl)) dX8_init_31 rfl ?_
  try simp only [List.set_cons_zero, List.set_cons_succ, List.cons_append, List.nil_append]
  refine L_put (i := 0) (m := 4) C hname rfl rfl (by decide) rfl fp_RX8_23 tyX8_ok nmX8 (by decide +kernel) rfl rfl (Nat.le_of_ble_eq_true rfl) dX8_init_33 rfl ?_
  try simp only [List.set_cons_zero, List.set_cons_succ, List.cons_append, List.nil_append]
  refine J_aload_n (i := 0) (p := 0) C dX8_init_36 rfl rfl rfl ?_
  refine J_iconst (v := 1) C (by decide) dX8_init_37 rfl ?_
  refine L_put (i := 0) (m := 4) C hname rfl rfl (by decide) rfl fp_RX8_27 tyX8_ok nmX8 (by decide +kernel) rfl rfl (Nat.le_of_ble_eq_true rfl) dX8_init_38 rfl ?_
  try simp only [List.set_cons_zero, List.set_cons_succ, List.cons_append, List.nil_append]
  refine J_aload_n (i := 0) (p := 0) C dX8_init_41 rfl rfl rfl ?_
  refine J_bipush (v := 8) C (by decide) dX8_init_42 rfl ?_
  refine L_newI (m := 4) (N := 8) (sl' := 3608) C rfl tw_188 (by decide) (by decide) (Nat.le_of_ble_eq_true rfl) rfl (by rw [hR]; exact (Nat.le_of_ble_eq_true rfl)) (by rw [hR]; exact (Nat.le_of_ble_eq_true rfl)) dX8_init_44 rfl ?_
  try simp only [List.set_cons_zero, List.set_cons_succ, List.cons_append, List.nil_append]
  refine L_put (i := 0) (m := 5) C hname rfl rfl (by decide) rfl fp_RX8_30 tyX8_ok nmX8 (by decide +kernel) rfl rfl (Nat.le_of_ble_eq_true rfl) dX8_init_46 rfl ?_
  try simp only [List.set_cons_zero, List.set_cons_succ, List.cons_append, List.nil_append]
  refine J_aload_n (i := 0) (p := 0) C dX8_init_49 rfl rfl rfl ?_
  refine J_iconst (v := 1) C (by decide) dX8_init_50 rfl ?_
  refine L_put (i := 0) (m := 5) C hname rfl rfl (by decide) rfl fp_RX8_33 tyX8_ok nmX8 (by decide +kernel) rfl rfl (Nat.le_of_ble_eq_true rfl) dX8_init_51 rfl ?_
  try simp only [List.set_cons_zero, List.set_cons_succ, List.cons_append, List.nil_append]
  refine J_aload_n (i := 0) (p := 0) C dX8_init_54 rfl rfl rfl ?_
  refine J_bipush (v := 16) C (by decide) dX8_init_55 rfl ?_
  refine L_newI (m := 5) (N := 16) (sl' := 3624) C rfl tw_188 (by decide) (by decide) (Nat.le_of_ble_eq_true rfl) rfl (by rw [hR]; exact (Nat.le_of_ble_eq_true rfl)) (by rw [hR]; exact (Nat.le_of_ble_eq_true rfl)) dX8_init_57 rfl ?_
  try simp only [List.set_cons_zero, List.set_cons_succ, List.cons_append, List.nil_append]
  refine L_put (i := 0) (m := 6) C hname rfl rfl (by decide) rfl fp_RX8_36 tyX8_ok nmX8 (by decide +kernel) rfl rfl (Nat.le_of_ble_eq_true rfl) dX8_init_59 rfl ?_
  try simp only [List.set_cons_zero, List.set_cons_succ, List.cons_append, List.nil_append]
  refine J_aload_n (i := 0) (p := 0) C dX8_init_62 rfl rfl rfl ?_
  refine J_bipush (v := 16) C (by decide) dX8_init_63 rfl ?_
  refine L_newZ (m := 6) (N := 16) (sl' := 3640) C rfl tw_189 (by decide) (by decide) (Nat.le_of_ble_eq_true rfl) rfl (by rw [hR]; exact (Nat.le_of_ble_eq_true rfl)) (by rw [hR]; exact (Nat.le_of_ble_eq_true rfl)) dX8_init_65 rfl ?_
  try simp only [List.set_cons_zero, List.set_cons_succ, List.cons_append, List.nil_append]
  refine L_put (i := 0) (m := 7) C hname rfl rfl (by decide) rfl fp_RX8_39 tyX8_ok nmX8 (by decide +kernel) rfl rfl (Nat.le_of_ble_eq_true rfl) dX8_init_67 rfl ?_
  try simp only [List.set_cons_zero, List.set_cons_succ, List.cons_append, List.nil_append]
  refine J_iconst (v := 0) C (by decide) dX8_init_70 rfl ?_
  refine J_istoreE_n (i := 1) (x' := 0) (lv' := [(1, .int 0), (0, .ref (K.2.2 + a))]) C rfl dX8_init_71 rfl (Nat.le_of_ble_eq_true rfl) rfl rfl ?_
  refine J_iload_n (i := 1) (p := 0) C dX8_init_72 rfl rfl rfl ?_
  refine J_bipush (v := 16) C (by decide) dX8_init_73 rfl ?_
  refine J_icmp_ge (t := 91) C dX8_init_75 (by decide) rfl (fun c => absurd c (by decide)) (fun _ => ?_)
  refine J_aload_n (i := 0) (p := 1) C dX8_init_78 rfl rfl rfl ?_
  refine L_get (i := 0) (m := 7) C rfl rfl (by decide) rfl fp_RX8_36 rfl dX8_init_79 rfl ?_
  refine J_iload_n (i := 1) (p := 0) C dX8_init_82 rfl rfl rfl ?_
  refine J_iconst (v := -1) C (by decide) dX8_init_83 rfl ?_
  refine L_fil (i := 5) (m := 7) (p := 0) C rfl rfl (by decide) rfl (fil_zero (-1)) (by decide) (inb_spec (by decide)) dX8_init_84 rfl ?_
  try simp only [List.set_cons_zero, List.set_cons_succ, List.cons_append, List.nil_append]
  refine J_iincE (i := 1) (p := 0) (c := 1) (v := 1) (lv' := [(1, .int 1), (0, .ref (K.2.2 + a))]) C (by decide) dX8_init_85 rfl (by decide) (Nat.le_of_ble_eq_true rfl) rfl rfl ?_
  refine J_goto (t := 72) C dX8_init_88 (by decide) ?_
  refine J_iload_n (i := 1) (p := 0) C dX8_init_72 rfl rfl rfl ?_
  refine J_bipush (v := 16) C (by decide) dX8_init_73 rfl ?_
  refine J_icmp_ge (t := 91) C dX8_init_75 (by decide) rfl (fun c => absurd c (by decide)) (fun _ => ?_)
  refine J_aload_n (i := 0) (p := 1) C dX8_init_78 rfl rfl rfl ?_
  refine L_get (i := 0) (m := 7) C rfl rfl (by decide) rfl fp_RX8_36 rfl dX8_init_79 rfl ?_
  refine J_iload_n (i := 1) (p := 0) C dX8_init_82 rfl rfl rfl ?_
  refine J_iconst (v := -1) C (by decide) dX8_init_83 rfl ?_
  refine L_fil (i := 5) (m := 7) (p := 1) C rfl rfl (by decide) rfl rfl (by decide) (inb_spec (by decide)) dX8_init_84 rfl ?_
  try simp only [List.set_cons_zero, List.set_cons_succ, List.cons_append, List.nil_append]
  refine J_iincE (i := 1) (p := 0) (c := 1) (v := 2) (lv' := [(1, .int 2), (0, .ref (K.2.2 + a))]) C (by decide) dX8_init_85 rfl (by decide) (Nat.le_of_ble_eq_true rfl) rfl rfl ?_
  refine J_goto (t := 72) C dX8_init_88 (by decide) ?_
  refine J_iload_n (i := 1) (p := 0) C dX8_init_72 rfl rfl rfl ?_
  refine J_bipush (v := 16) C (by decide) dX8_init_73 rfl ?_
  refine J_icmp_ge (t := 91) C dX8_init_75 (by decide) rfl (fun c => absurd c (by decide)) (fun _ => ?_)
  refine J_aload_n (i := 0) (p := 1) C dX8_init_78 rfl rfl rfl ?_
  refine L_get (i := 0) (m := 7) C rfl rfl (by decide) rfl fp_RX8_36 rfl dX8_init_79 rfl ?_
  refine J_iload_n (i := 1) (p := 0) C dX8_init_82 rfl rfl rfl ?_
  refine J_iconst (v := -1) C (by decide) dX8_init_83 rfl ?_
  refine L_fil (i := 5) (m := 7) (p := 2) C rfl rfl (by decide) rfl rfl (by decide) (inb_spec (by decide)) dX8_init_84 rfl ?_
  try simp only [List.set_cons_zero, List.set_cons_succ, List.cons_append, List.nil_append]
  refine J_iincE (i := 1) (p := 0) (c := 1) (v := 3) (lv' := [(1, .int 3), (0, .ref (K.2.2 + a))]) C (by decide) dX8_init_85 rfl (by decide) (Nat.le_of_ble_eq_true rfl) rfl rfl ?_
  refine J_goto (t := 72) C dX8_init_88 (by decide) ?_
  refine J_iload_n (i := 1) (p := 0) C dX8_init_72 rfl rfl rfl ?_
  refine J_bipush (v := 16) C (by decide) dX8_init_73 rfl ?_
  refine J_icmp_ge (t := 91) C dX8_init_75 (by decide) rfl (fun c => absurd c (by decide)) (fun _ => ?_)
  refine J_aload_n (i := 0) (p := 1) C dX8_init_78 rfl rfl rfl ?_
  refine L_get (i := 0) (m := 7) C rfl rfl (by decide) rfl fp_RX8_36 rfl dX8_init_79 rfl ?_
  refine J_iload_n (i := 1) (p := 0) C dX8_init_82 rfl rfl rfl ?_
  refine J_iconst (v := -1) C (by decide) dX8_init_83 rfl ?_
  refine L_fil (i := 5) (m := 7) (p := 3) C rfl rfl (by decide) rfl rfl (by decide) (inb_spec (by decide)) dX8_init_84 rfl ?_
  try simp only [List.set_cons_zero, List.set_cons_succ, List.cons_append, List.nil_append]
  refine J_iincE (i := 1) (p := 0) (c := 1) (v := 4) (lv' := [(1, .int 4), (0, .ref (K.2.2 + a))]) C (by decide) dX8_init_85 rfl (by decide) (Nat.le_of_ble_eq_true rfl) rfl rfl ?_
  refine J_goto (t := 72) C dX8_init_88 (by decide) ?_
  refine J_iload_n (i := 1) (p := 0) C dX8_init_72 rfl rfl rfl ?_
  refine J_bipush (v := 16) C (by decide) dX8_init_73 rfl ?_
  refine J_icmp_ge (t := 91) C dX8_init_75 (by decide) rfl (fun c => absurd c (by decide)) (fun _ => ?_)
  refine J_aload_n (i := 0) (p := 1) C dX8_init_78 rfl rfl rfl ?_
  refine L_get (i := 0) (m := 7) C rfl rfl (by decide) rfl fp_RX8_36 rfl dX8_init_79 rfl ?_
  refine J_iload_n (i := 1) (p := 0) C dX8_init_82 rfl rfl rfl ?_
  refine J_iconst (v := -1) C (by decide) dX8_init_83 rfl ?_
  refine L_fil (i := 5) (m := 7) (p := 4) C rfl rfl (by decide) rfl rfl (by decide) (inb_spec (by decide)) dX8_init_84 rfl ?_
  try simp only [List.set_cons_zero, List.set_cons_succ, List.cons_append, List.nil_append]
  refine J_iincE (i := 1) (p := 0) (c := 1) (v := 5) (lv' := [(1, .int 5), (0, .ref (K.2.2 + a))]) C (by decide) dX8_init_85 rfl (by decide) (Nat.le_of_ble_eq_true rfl) rfl rfl ?_
  refine J_goto (t := 72) C dX8_init_88 (by decide) ?_
  refine J_iload_n (i := 1) (p := 0) C dX8_init_72 rfl rfl rfl ?_
  refine J_bipush (v := 16) C (by decide) dX8_init_73 rfl ?_
  refine J_icmp_ge (t := 91) C dX8_init_75 (by decide) rfl (fun c => absurd c (by decide)) (fun _ => ?_)
  refine J_aload_n (i := 0) (p := 1) C dX8_init_78 rfl rfl rfl ?_
  refine L_get (i := 0) (m := 7) C rfl rfl (by decide) rfl fp_RX8_36 rfl dX8_init_79 rfl ?_
  refine J_iload_n (i := 1) (p := 0) C dX8_init_82 rfl rfl rfl ?_
  refine J_iconst (v := -1) C (by decide) dX8_init_83 rfl ?_
  refine L_fil (i := 5) (m := 7) (p := 5) C rfl rfl (by decide) rfl rfl (by decide) (inb_spec (by decide)) dX8_init_84 rfl ?_
  try simp only [List.set_cons_zero, List.set_cons_succ, List.cons_append, List.nil_append]
  refine J_iincE (i := 1) (p := 0) (c := 1) (v := 6) (lv' := [(1, .int 6), (0, .ref (K.2.2 + a))]) C (by decide) dX8_init_85 rfl (by decide) (Nat.le_of_ble_eq_true rfl) rfl rfl ?_
  refine J_goto (t := 72) C dX8_init_88 (by decide) ?_
  refine J_iload_n (i := 1) (p := 0) C dX8_init_72 rfl rfl rfl ?_
  refine J_bipush (v := 16) C (by decide) dX8_init_73 rfl ?_
  refine J_icmp_ge (t := 91) C dX8_init_75 (by decide) rfl (fun c => absurd c (by decide)) (fun _ => ?_)
  refine J_aload_n (i := 0) (p := 1) C dX8_init_78 rfl rfl rfl ?_
  refine L_get (i := 0) (m := 7) C rfl rfl (by decide) rfl fp_RX8_36 rfl dX8_init_79 rfl ?_
  refine J_iload_n (i := 1) (p := 0) C dX8_init_82 rfl rfl rfl ?_
  refine J_iconst (v := -1) C (by decide) dX8_init_83 rfl ?_
  refine L_fil (i := 5) (m := 7) (p := 6) C rfl rfl (by decide) rfl rfl (by decide) (inb_spec (by decide)) dX8_init_84 rfl ?_
  try simp only [List.set_cons_zero, List.set_cons_succ, List.cons_append, List.nil_append]
  refine J_iincE (i := 1) (p := 0) (c := 1) (v := 7) (lv' := [(1, .int 7), (0, .ref (K.2.2 + a))]) C (by decide) dX8_init_85 rfl (by decide) (Nat.le_of_ble_eq_true rfl) rfl rfl ?_
  refine J_goto (t := 72) C dX8_init_88 (by decide) ?_
  refine J_iload_n (i := 1) (p := 0) C dX8_init_72 rfl rfl rfl ?_
  refine J_bipush (v := 16) C (by decide) dX8_init_73 rfl ?_
  refine J_icmp_ge (t := 91) C dX8_init_75 (by decide) rfl (fun c => absurd c (by decide)) (fun _ => ?_)
  refine J_aload_n (i := 0) (p := 1) C dX8_init_78 rfl rfl rfl ?_
  refine L_get (i := 0) (m := 7) C rfl rfl (by decide) rfl fp_RX8_36 rfl dX8_init_79 rfl ?_
  refine J_iload_n (i := 1) (p := 0) C dX8_init_82 rfl rfl rfl ?_
  refine J_iconst (v := -1) C (by decide) dX8_init_83 rfl ?_
  refine L_fil (i := 5) (m := 7) (p := 7) C rfl rfl (by decide) rfl rfl (by decide) (inb_spec (by decide)) dX8_init_84 rfl ?_
  try simp only [List.set_cons_zero, List.set_cons_succ, List.cons_append, List.nil_append]
  refine J_iincE (i := 1) (p := 0) (c := 1) (v := 8) (lv' := [(1, .int 8), (0, .ref (K.2.2 + a))]) C (by decide) dX8_init_85 rfl (by decide) (Nat.le_of_ble_eq_true rfl) rfl rfl ?_
  refine J_goto (t := 72) C dX8_init_88 (by decide) ?_
  refine J_iload_n (i := 1) (p := 0) C dX8_init_72 rfl rfl rfl ?_
  refine J_bipush (v := 16) C (by decide) dX8_init_73 rfl ?_
  refine J_icmp_ge (t := 91) C dX8_init_75 (by decide) rfl (fun c => absurd c (by decide)) (fun _ => ?_)
  refine J_aload_n (i := 0) (p := 1) C dX8_init_78 rfl rfl rfl ?_
  refine L_get (i := 0) (m := 7) C rfl rfl (by decide) rfl fp_RX8_36 rfl dX8_init_79 rfl ?_
  refine J_iload_n (i := 1) (p := 0) C dX8_init_82 rfl rfl rfl ?_
  refine J_iconst (v := -1) C (by decide) dX8_init_83 rfl ?_
  refine L_fil (i := 5) (m := 7) (p := 8) C rfl rfl (by decide) rfl rfl (by decide) (inb_spec (by decide)) dX8_init_84 rfl ?_
  try simp only [List.set_cons_zero, List.set_cons_succ, List.cons_append, List.nil_append]
  refine J_iincE (i := 1) (p := 0) (c := 1) (v := 9) (lv' := [(1, .int 9), (0, .ref (K.2.2 + a))]) C (by decide) dX8_init_85 rfl (by decide) (Nat.le_of_ble_eq_true rfl) rfl rfl ?_
  refine J_goto (t := 72) C dX8_init_88 (by decide) ?_
  refine J_iload_n (i := 1) (p := 0) C dX8_init_72 rfl rfl rfl ?_
  refine J_bipush (v := 16) C (by decide) dX8_init_73 rfl ?_
  refine J_icmp_ge (t := 91) C dX8_init_75 (by decide) rfl (fun c => absurd c (by decide)) (fun _ => ?_)
  refine J_aload_n (i := 0) (p := 1) C dX8_init_78 rfl rfl rfl ?_
  refine L_get (i := 0) (m := 7) C rfl rfl (by decide) rfl fp_RX8_36 rfl dX8_init_79 rfl ?_
  refine J_iload_n (i := 1) (p := 0) C dX8_init_82 rfl rfl rfl ?_
  refine J_iconst (v := -1) C (by decide) dX8_init_83 rfl ?_
  refine L_fil (i := 5) (m := 7) (p := 9) C rfl rfl (by decide) rfl rfl (by decide) (inb_spec (by decide)) dX8_init_84 rfl ?_
  try simp only [List.set_cons_zero, List.set_cons_succ, List.cons_append, List.nil_append]
  refine J_iincE (i := 1) (p := 0) (c := 1) (v := 10) (lv' := [(1, .int 10), (0, .ref (K.2.2 + a))]) C (by decide) dX8_init_85 rfl (by decide) (Nat.le_of_ble_eq_true rfl) rfl rfl ?_
  refine J_goto (t := 72) C dX8_init_88 (by decide) ?_
  refine J_iload_n (i := 1) (p := 0) C dX8_init_72 rfl rfl rfl ?_
  refine J_bipush (v := 16) C (by decide) dX8_init_73 rfl ?_
  refine J_icmp_ge (t := 91) C dX8_init_75 (by decide) rfl (fun c => absurd c (by decide)) (fun _ => ?_)
  refine J_aload_n (i := 0) (p := 1) C dX8_init_78 rfl rfl rfl ?_
  refine L_get (i := 0) (m := 7) C rfl rfl (by decide) rfl fp_RX8_36 rfl dX8_init_79 rfl ?_
  refine J_iload_n (i := 1) (p := 0) C dX8_init_82 rfl rfl rfl ?_
  refine J_iconst (v := -1) C (by decide) dX8_init_83 rfl ?_
  refine L_fil (i := 5) (m := 7) (p := 10) C rfl rfl (by decide) rfl rfl (by decide) (inb_spec (by decide)) dX8_init_84 rfl ?_
  try simp only [List.set_cons_zero, List.set_cons_succ, List.cons_append, List.nil_append]
  refine J_iincE (i := 1) (p := 0) (c := 1) (v := 11) (lv' := [(1, .int 11), (0, .ref (K.2.2 + a))]) C (by decide) dX8_init_85 rfl (by decide) (Nat.le_of_ble_eq_true rfl) rfl rfl ?_
  refine J_goto (t := 72) C dX8_init_88 (by decide) ?_
  refine J_iload_n (i := 1) (p := 0) C dX8_init_72 rfl rfl rfl ?_
  refine J_bipush (v := 16) C (by decide) dX8_init_73 rfl ?_
  refine J_icmp_ge (t := 91) C dX8_init_75 (by decide) rfl (fun c => absurd c (by decide)) (fun _ => ?_)
  refine J_aload_n (i := 0) (p := 1) C dX8_init_78 rfl rfl rfl ?_
  refine L_get (i := 0) (m := 7) C rfl rfl (by decide) rfl fp_RX8_36 rfl dX8_init_79 rfl ?_
  refine J_iload_n (i := 1) (p := 0) C dX8_init_82 rfl rfl rfl ?_
  refine J_iconst (v := -1) C (by decide) dX8_init_83 rfl ?_
  refine L_fil (i := 5) (m := 7) (p := 11) C rfl rfl (by decide) rfl rfl (by decide) (inb_spec (by decide)) dX8_init_84 rfl ?_
  try simp only [List.set_cons_zero, List.set_cons_succ, List.cons_append, List.nil_append]
  refine J_iincE (i := 1) (p := 0) (c := 1) (v := 12) (lv' := [(1, .int 12), (0, .ref (K.2.2 + a))]) C (by decide) dX8_init_85 rfl (by decide) (Nat.le_of_ble_eq_true rfl) rfl rfl ?_
  refine J_goto (t := 72) C dX8_init_88 (by decide) ?_
  refine J_iload_n (i := 1) (p := 0) C dX8_init_72 rfl rfl rfl ?_
  refine J_bipush (v := 16) C (by decide) dX8_init_73 rfl ?_
  refine J_icmp_ge (t := 91) C dX8_init_75 (by decide) rfl (fun c => absurd c (by decide)) (fun _ => ?_)
  refine J_aload_n (i := 0) (p := 1) C dX8_init_78 rfl rfl rfl ?_
  refine L_get (i := 0) (m := 7) C rfl rfl (by decide) rfl fp_RX8_36 rfl dX8_init_79 rfl ?_
  refine J_iload_n (i := 1) (p := 0) C dX8_init_82 rfl rfl rfl ?_
  refine J_iconst (v := -1) C (by decide) dX8_init_83 rfl ?_
  refine L_fil (i := 5) (m := 7) (p := 12) C rfl rfl (by decide) rfl rfl (by decide) (inb_spec (by decide)) dX8_init_84 rfl ?_
  try simp only [List.set_cons_zero, List.set_cons_succ, List.cons_append, List.nil_append]
  refine J_iincE (i := 1) (p := 0) (c := 1) (v := 13) (lv' := [(1, .int 13), (0, .ref (K.2.2 + a))]) C (by decide) dX8_init_85 rfl (by decide) (Nat.le_of_ble_eq_true rfl) rfl rfl ?_
  refine J_goto (t := 72) C dX8_init_88 (by decide) ?_
  refine J_iload_n (i := 1) (p := 0) C dX8_init_72 rfl rfl rfl ?_
  refine J_bipush (v := 16) C (by decide) dX8_init_73 rfl ?_
  refine J_icmp_ge (t := 91) C dX8_init_75 (by decide) rfl (fun c => absurd c (by decide)) (fun _ => ?_)
  refine J_aload_n (i := 0) (p := 1) C dX8_init_78 rfl rfl rfl ?_
  refine L_get (i := 0) (m := 7) C rfl rfl (by decide) rfl fp_RX8_36 rfl dX8_init_79 rfl ?_
  refine J_iload_n (i := 1) (p := 0) C dX8_init_82 rfl rfl rfl ?_
  refine J_iconst (v := -1) C (by decide) dX8_init_83 rfl ?_
  refine L_fil (i := 5) (m := 7) (p := 13) C rfl rfl (by decide) rfl rfl (by decide) (inb_spec (by decide)) dX8_init_84 rfl ?_
  try simp only [List.set_cons_zero, List.set_cons_succ, List.cons_append, List.nil_append]
  refine J_iincE (i := 1) (p := 0) (c := 1) (v := 14) (lv' := [(1, .int 14), (0, .ref (K.2.2 + a))]) C (by decide) dX8_init_85 rfl (by decide) (Nat.le_of_ble_eq_true rfl) rfl rfl ?_
  refine J_goto (t := 72) C dX8_init_88 (by decide) ?_
  refine J_iload_n (i := 1) (p := 0) C dX8_init_72 rfl rfl rfl ?_
  refine J_bipush (v := 16) C (by decide) dX8_init_73 rfl ?_
  refine J_icmp_ge (t := 91) C dX8_init_75 (by decide) rfl (fun c => absurd c (by decide)) (fun _ => ?_)
  refine J_aload_n (i := 0) (p := 1) C dX8_init_78 rfl rfl rfl ?_
  refine L_get (i := 0) (m := 7) C rfl rfl (by decide) rfl fp_RX8_36 rfl dX8_init_79 rfl ?_
  refine J_iload_n (i := 1) (p := 0) C dX8_init_82 rfl rfl rfl ?_
  refine J_iconst (v := -1) C (by decide) dX8_init_83 rfl ?_
  refine L_fil (i := 5) (m := 7) (p := 14) C rfl rfl (by decide) rfl rfl (by decide) (inb_spec (by decide)) dX8_init_84 rfl ?_
  try simp only [List.set_cons_zero, List.set_cons_succ, List.cons_append, List.nil_append]
  refine J_iincE (i := 1) (p := 0) (c := 1) (v := 15) (lv' := [(1, .int 15), (0, .ref (K.2.2 + a))]) C (by decide) dX8_init_85 rfl (by decide) (Nat.le_of_ble_eq_true rfl) rfl rfl ?_
  refine J_goto (t := 72) C dX8_init_88 (by decide) ?_
  refine J_iload_n (i := 1) (p := 0) C dX8_init_72 rfl rfl rfl ?_
  refine J_bipush (v := 16) C (by decide) dX8_init_73 rfl ?_
  refine J_icmp_ge (t := 91) C dX8_init_75 (by decide) rfl (fun c => absurd c (by decide)) (fun _ => ?_)
  refine J_aload_n (i := 0) (p := 1) C dX8_init_78 rfl rfl rfl ?_
  refine L_get (i := 0) (m := 7) C rfl rfl (by decide) rfl fp_RX8_36 rfl dX8_init_79 rfl ?_
  refine J_iload_n (i := 1) (p := 0) C dX8_init_82 rfl rfl rfl ?_
  refine J_iconst (v := -1) C (by decide) dX8_init_83 rfl ?_
  refine L_fil (i := 5) (m := 7) (p := 15) C rfl rfl (by decide) rfl rfl (by decide) (inb_spec (by decide)) dX8_init_84 rfl ?_
  try simp only [List.set_cons_zero, List.set_cons_succ, List.cons_append, List.nil_append]
  refine J_iincE (i := 1) (p := 0) (c := 1) (v := 16) (lv' := [(1, .int 16), (0, .ref (K.2.2 + a))]) C (by decide) dX8_init_85 rfl (by decide) (Nat.le_of_ble_eq_true rfl) rfl rfl ?_
  refine J_goto (t := 72) C dX8_init_88 (by decide) ?_
  refine J_iload_n (i := 1) (p := 0) C dX8_init_72 rfl rfl rfl ?_
  refine J_bipush (v := 16) C (by decide) dX8_init_73 rfl ?_
  refine J_icmp_ge (t := 91) C dX8_init_75 (by decide) rfl (fun _ => ?_) (fun c => absurd (by decide) c)
  exact J_vret C hret (Nat.le_of_ble_eq_true rfl) (Nat.le_of_ble_eq_true rfl) ⟨rfl, rfl, rfl⟩ dX8_init_91
def cE2 (K : JK) (a : Nat) : List va_E := [.inr (2, [.ref (K.2.2 + (a + 1)), .int 0, .int 0, .int 0]),
  .inr (6, [.ref (K.2.2 + (a + 2)), .int 0]),
  .inl (K.2.1.2.1, 12000, .inl z0)]
set_option maxHeartbeats 4000000 in
set_option maxRecDepth 100000 in
theorem k2_init {l : Launch} {K : JK} (hl : l.stackTraces = false) {a : Nat} {w0 : JW} : Con l K yX2_init (.code yX2_init cX2_init 1 none :: TB) 2 2 12002 True [.ref (K.2.2 + a)] (a + 1) (wl a w0 [.inr (2, [.null, .int 0, .int 0, .int 0])]) (fun v n w => v = none ∧ n = a + 3 ∧ w = wl a w0 (cE2 K a)) PN := by
  refine Con.enterI (own := RX2) hl (by decide) rfl rfl (Nat.le_of_ble_eq_true rfl) ?_
  intro X hX hR C hret hname
  subst hX
  refine J_aload_n (i := 0) (p := 0) C dX2_init_0 rfl rfl rfl ?_
  refine J_objZ C tw_218 oi_1 oi_2 (by rw [hR]; exact (Nat.le_of_ble_eq_true rfl)) (by rw [hR]; exact (Nat.le_of_ble_eq_true rfl)) dX2_init_1 rfl ?_
  refine J_aload_n (i := 0) (p := 0) C dX2_init_4 rfl rfl rfl ?_
  refine L_new (m := 1) (ty0 := tyX6) (ci := 6) (fs := [.null, .int 0]) (sl' := 2) C rfl inTB6 tyX6_ok rfl tw_219 tw_191 tw_84 (by decide) rfl (by rw [hR]; exact (Nat.le_of_ble_eq_true rfl)) (by rw [hR]; exact (Nat.le_of_ble_eq_true rfl)) dX2_init_5 rfl ?_
  refine J_dup C rfl dX2_init_8 rfl ?_
  refine J_sipush (v := 12000) C (by decide) dX2_init_9 rfl ?_
  refine L_newB (m := 2) (N := 12000) (sl' := 12002) C rfl tw_187 (by decide) (by decide) (Nat.le_of_ble_eq_true rfl) rfl (by rw [hR]; exact (Nat.le_of_ble_eq_true rfl)) (by rw [hR]; exact (Nat.le_of_ble_eq_true rfl)) dX2_init_12 rfl ?_
  try simp only [List.set_cons_zero, List.set_cons_succ, List.cons_append, List.nil_append]
  refine L_row (m := 1) C (Or.inl ic_RX2_11) rfl hl hR (es0 := [.inr (2, [.null, .int 0, .int 0, .int 0])]) rfl rfl rfl (Nat.le_of_ble_eq_true rfl) (Nat.le_of_ble_eq_true rfl) (Nat.le_of_ble_eq_true rfl) ⟨(Nat.le_of_ble_eq_true rfl), (Nat.le_of_ble_eq_true rfl)⟩ dX2_init_14 rfl ?_
  try simp only [List.set_cons_zero, List.set_cons_succ, List.cons_append, List.nil_append]
  refine L_put (i := 0) (m := 3) C hname rfl rfl (by decide) rfl fp_RX2_14 tyX2_ok nmX2 (by decide +kernel) rfl rfl (Nat.le_of_ble_eq_true rfl) dX2_init_17 rfl ?_
  try simp only [List.set_cons_zero, List.set_cons_succ, List.cons_append, List.nil_append]
  refine J_aload_n (i := 0) (p := 0) C dX2_init_20 rfl rfl rfl ?_
  refine J_iconst (v := 0) C (by decide) dX2_init_21 rfl ?_
  refine L_put (i := 0) (m := 3) C hname rfl rfl (by decide) rfl fp_RX2_20 tyX2_ok nmX2 (by decide +kernel) rfl rfl (Nat.le_of_ble_eq_true rfl) dX2_init_22 rfl ?_
  try simp only [List.set_cons_zero, List.set_cons_succ, List.cons_append, List.nil_append]
  refine J_aload_n (i := 0) (p := 0) C dX2_init_25 rfl rfl rfl ?_
  refine J_iconst (v := 0) C (by decide) dX2_init_26 rfl ?_
  refine L_put (i := 0) (m := 3) C hname rfl rfl (by decide) rfl fp_RX2_24 tyX2_ok nmX2 (by decide +kernel) rfl rfl (Nat.le_of_ble_eq_true rfl) dX2_init_27 rfl ?_
  try simp only [List.set_cons_zero, List.set_cons_succ, List.cons_append, List.nil_append]
  refine J_aload_n (i := 0) (p := 0) C dX2_init_30 rfl rfl rfl ?_
  refine J_iconst (v := 0) C (by decide) dX2_init_31 rfl ?_
  refine L_put (i := 0) (m := 3) C hname rfl rfl (by decide) rfl fp_RX2_28 tyX2_ok nmX2 (by decide +kernel) rfl rfl (Nat.le_of_ble_eq_true rfl) dX2_init_32 rfl ?_
  try simp only [List.set_cons_zero, List.set_cons_succ, List.cons_append, List.nil_append]
  exact J_vret C hret (Nat.le_of_ble_eq_true rfl) (Nat.le_of_ble_eq_true rfl) ⟨rfl, rfl, rfl⟩ dX2_init_35
def cE1 (K : JK) (a : Nat) : List va_E := [.inr (1, [.ref (K.2.2 + (a + 1)), .ref (K.2.2 + (a + 2)), .ref (K.2.2 + (a + 3)), .ref (K.2.2 + (a + 4)), .int 0, .ref (K.2.2 + (a + 5)), .int 0, .ref (K.2.2 + (a + 7)), .int 0, .ref (K.2.2 + (a + 8)), .ref (K.2.2 + (a + 9)), .int 0, .ref (K.2.2 + (a + 10))]),
  .inl (K.2.1.1, 3000, .inl z0),
  .inl (K.2.1.1, 3000, .inl z0),
  .inl (K.2.1.1, 3000, .inl z0),
  .inl (K.2.1.1, 3000, .inl z0),
  .inr (6, [.ref (K.2.2 + (a + 6)), .int 0]),
  .inl (K.2.1.2.1, 3000, .inl z0),
  .inl (K.2.1.2.1, 3000, .inl z0),
  .inl (K.2.1.1, 300, .inl z0),
  .inl (K.2.1.2.2.1, 300, .inl z0),
  .inl (K.2.1.2.2.1, 300, .inl z0)]
set_option maxHeartbeats 4000000 in
set_option maxRecDepth 100000 in
theorem k1_init {l : Launch} {K : JK} (hl : l.stackTraces = false) {a : Nat} {w0 : JW} : Con l K yX1_init (.code yX1_init cX1_init 1 none :: TB) 2 10 18902 True [.ref (K.2.2 + a)] (a + 1) (wl a w0 [.inr (1, [.null, .null, .null, .null, .int 0, .null, .int 0, .null, .int 0, .null, .null, .int 0, .null])]) (fun v n w => v = none ∧ n = a + 11 ∧ w = wl a w0 (cE1 K a)) PN := by
  refine Con.enterI (own := RX1) hl (by decide) rfl rfl (Nat.le_of_ble_eq_true rfl) ?_
  intro X hX hR C hret hname
  subst hX
  refine J_aload_n (i := 0) (p := 0) C dX1_init_0 rfl rfl rfl ?_
  refine J_objZ C tw_241 oi_1 oi_2 (by rw [hR]; exact (Nat.le_of_ble_eq_true rfl)) (by rw [hR]; exact (Nat.le_of_ble_eq_true rfl)) dX1_init_1 rfl ?_
  refine J_aload_n (i := 0) (p := 0) C dX1_init_4 rfl rfl rfl ?_
  refine J_sipush (v := 3000) C (by decide) dX1_init_5 rfl ?_
  refine L_newI (m := 1) (N := 3000) (sl' := 3000) C rfl tw_188 (by decide) (by decide) (Nat.le_of_ble_eq_true rfl) rfl (by rw [hR]; exact (Nat.le_of_ble_eq_true rfl)) (by rw [hR]; exact (Nat.le_of_ble_eq_true rfl)) dX1_init_8 rfl ?_
  try simp only [List.set_cons_zero, List.set_cons_succ, List.cons_append, List.nil_append]
  refine L_put (i := 0) (m := 2) C hname rfl rfl (by decide) rfl fp_RX1_9 tyX1_ok nmX1 (by decide +kernel) rfl rfl (Nat.le_of_ble_eq_true rfl) dX1_init_10 rfl ?_
  try simp only [List.set_cons_zero, List.set_cons_succ, List.cons_append, List.nil_append]
  refine J_aload_n (i := 0) (p := 0) C dX1_init_13 rfl rfl rfl ?_
  refine J_sipush (v := 3000) C (by decide) dX1_init_14 rfl ?_
  refine L_newI (m := 2) (N := 3000) (sl' := 6000) C rfl tw_188 (by decide) (by decide) (Nat.le_of_ble_eq_true rfl) rfl (by rw [hR]; exact (Nat.le_of_ble_eq_true rfl)) (by rw [hR]; exact (Nat.le_of_ble_eq_true rfl)) dX1_init_17 rfl ?_
  try simp only [List.set_cons_zero, List.set_cons_succ, List.cons_append, List.nil_append]
  refine L_put (i := 0) (m := 3) C hname rfl rfl (by decide) rfl fp_RX1_15 tyX1_ok nmX1 (by decide +kernel) rfl rfl (Nat.le_of_ble_eq_true rfl) dX1_init_19 rfl ?_
  try simp only [List.set_cons_zero, List.set_cons_succ, List.cons_append, List.nil_append]
  refine J_aload_n (i := 0) (p := 0) C dX1_init_22 rfl rfl rfl ?_
  refine J_sipush (v := 3000) C (by decide) dX1_init_23 rfl ?_
  refine L_newI (m := 3) (N := 3000) (sl' := 9000) C rfl tw_188 (by decide) (by decide) (Nat.le_of_ble_eq_true rfl) rfl (by rw [hR]; exact (Nat.le_of_ble_eq_true rfl)) (by rw [hR]; exact (Nat.le_of_ble_eq_true rfl)) dX1_init_26 rfl ?_
  try simp only [List.set_cons_zero, List.set_cons_succ, List.cons_append, List.nil_append]
  refine L_put (i := 0) (m := 4) C hname rfl rfl (by decide) rfl fp_RX1_18 tyX1_ok nmX1 (by decide +kernel) rfl rfl (Nat.le_of_ble_eq_true rfl) dX1_init_28 rfl ?_
  try simp only [List.set_cons_zero, List.set_cons_succ, List.cons_append, List.nil_append]
  refine J_aload_n (i := 0) (p := 0) C dX1_init_31 rfl rfl rfl ?_
  refine J_sipush (v := 3000) C (by decide) dX1_init_32 rfl ?_
  refine L_newI (m := 4) (N := 3000) (sl' := 12000) C rfl tw_188 (by decide) (by decide) (Nat.le_of_ble_eq_true rfl) rfl (by rw [hR]; exact (Nat.le_of_ble_eq_true rfl)) (by rw [hR]; exact (Nat.le_of_ble_eq_true rfl)) dX1_init_35 rfl ?_
  try simp only [List.set_cons_zero, List.set_cons_succ, List.cons_append, List.nil_append]
  refine L_put (i := 0) (m := 5) C hname rfl rfl (by decide) rfl fp_RX1_21 tyX1_ok nmX1 (by decide +kernel) rfl rfl (Nat.le_of_ble_eq_true rfl) dX1_init_37 rfl ?_
  try simp only [List.set_cons_zero, List.set_cons_succ, List.cons_append, List.nil_append]
  refine J_aload_n (i := 0) (p := 0) C dX1_init_40 rfl rfl rfl ?_
  refine J_iconst (v := 0) C (by decide) dX1_init_41 rfl ?_
  refine L_put (i := 0) (m := 5) C hname rfl rfl (by decide) rfl fp_RX1_24 tyX1_ok nmX1 (by decide +kernel) rfl rfl (Nat.le_of_ble_eq_true rfl) dX1_init_42 rfl ?_
  try simp only [List.set_cons_zero, List.set_cons_succ, List.cons_append, List.nil_append]
  refine J_aload_n (i := 0) (p := 0) C dX1_init_45 rfl rfl rfl ?_
  refine L_new (m := 5) (ty0 := tyX6) (ci := 6) (fs := [.null, .int 0]) (sl' := 12002) C rfl inTB6 tyX6_ok rfl tw_242 tw_191 tw_84 (by decide) rfl (by rw [hR]; exact (Nat.le_of_ble_eq_true rfl)) (by rw [hR]; exact (Nat.le_of_ble_eq_true rfl)) dX1_init_46 rfl ?_
  refine J_dup C rfl dX1_init_49 rfl ?_
  refine J_sipush (v := 3000) C (by decide) dX1_init_50 rfl ?_
  refine L_newB (m := 6) (N := 3000) (sl' := 15002) C rfl tw_187 (by decide) (by decide) (Nat.le_of_ble_eq_true rfl) rfl (by rw [hR]; exact (Nat.le_of_ble_eq_true rfl)) (by rw [hR]; exact (Nat.le_of_ble_eq_true rfl)) dX1_init_53 rfl ?_
  try simp only [List.set_cons_zero, List.set_cons_succ, List.cons_append, List.nil_append]
  refine L_row (m := 5) C (Or.inl ic_RX1_30) rfl hl hR (es0 := [.inr (1, [.ref (K.2.2 + (a + 1)), .ref (K.2.2 + (a + 2)), .ref (K.2.2 + (a + 3)), .ref (K.2.2 + (a + 4)), .int 0, .null, .int 0, .null, .int 0, .null, .null, .int 0, .null]), .inl (K.2.1.1, 3000, .inl z0), .inl (K.2.1.1, 3000, .inl z0), .inl (K.2.1.1, 3000, .inl z0), .inl (K.2.1.1, 3000, .inl z0)]) rfl rfl rfl (Nat.le_of_ble_eq_true rfl) (Nat.le_of_ble_eq_true rfl) (Nat.le_of_ble_eq_true rfl) ⟨(Nat.le_of_ble_eq_true rfl), (Nat.le_of_ble_eq_true rfl)⟩ dX1_init_55 rfl ?_
  try simp only [List.set_cons_zero, List.set_cons_succ, List.cons_append, List.nil_append]
  refine L_put (i := 0) (m := 7) C hname rfl rfl (by decide) rfl fp_RX1_33 tyX1_ok nmX1 (by decide +kernel) rfl rfl (Nat.le_of_ble_eq_true rfl) dX1_init_58 rfl ?_
  try simp only [List.set_cons_zero, List.set_cons_succ, List.cons_append, List.nil_append]
  refine J_aload_n (i := 0) (p := 0) C dX1_init_61 rfl rfl rfl ?_
  refine J_iconst (v := 0) C (by decide) dX1_init_62 rfl ?_
  refine L_put (i := 0) (m := 7) C hname rfl rfl (by decide) rfl fp_RX1_37 tyX1_ok nmX1 (by decide +kernel) rfl rfl (Nat.le_of_ble_eq_true rfl) dX1_init_63 rfl ?_
  try simp only [List.set_cons_zero, List.set_cons_succ, List.cons_append, List.nil_append]
  refine J_aload_n (i := 0) (p := 0) C dX1_init_66 rfl rfl rfl ?_
  refine J_sipush (v := 3000) C (by decide) dX1_init_67 rfl ?_
  refine L_newB (m := 7) (N := 3000) (sl' := 18002) C rfl tw_187 (by decide) (by decide) (Nat.le_of_ble_eq_true rfl) rfl (by rw [hR]; exact (Nat.le_of_ble_eq_true rfl)) (by rw [hR]; exact (Nat.le_of_ble_eq_true rfl)) dX1_init_70 rfl ?_
  try simp only [List.set_cons_zero, List.set_cons_succ, List.cons_append, List.nil_append]
  refine L_put (i := 0) (m := 8) C hname rfl rfl (by decide) rfl fp_RX1_41 tyX1_ok nmX1 (by decide +kernel) rfl rfl (Nat.le_of_ble_eq_true rfl) dX1_init_72 rfl ?_
  try simp only [List.set_cons_zero, List.set_cons_succ, List.cons_append, List.nil_append]
  refine J_aload_n (i := 0) (p := 0) C dX1_init_75 rfl rfl rfl ?_
  refine J_iconst (v := 0) C (by decide) dX1_init_76 rfl ?_
  refine L_put (i := 0) (m := 8) C hname rfl rfl (by decide) rfl fp_RX1_45 tyX1_ok nmX1 (by decide +kernel) rfl rfl (Nat.le_of_ble_eq_true rfl) dX1_init_77 rfl ?_
  try simp only [List.set_cons_zero, List.set_cons_succ, List.cons_append, List.nil_append]
  refine J_aload_n (i := 0) (p := 0) C dX1_init_80 rfl rfl rfl ?_
  refine J_sipush (v := 300) C (by decide) dX1_init_81 rfl ?_
  refine L_newI (m := 8) (N := 300) (sl' := 18302) C rfl tw_188 (by decide) (by decide) (Nat.le_of_ble_eq_true rfl) rfl (by rw [hR]; exact (Nat.le_of_ble_eq_true rfl)) (by rw [hR]; exact (Nat.le_of_ble_eq_true rfl)) dX1_init_84 rfl ?_
  try simp only [List.set_cons_zero, List.set_cons_succ, List.cons_append, List.nil_append]
  refine L_put (i := 0) (m := 9) C hname rfl rfl (by decide) rfl fp_RX1_48 tyX1_ok nmX1 (by decide +kernel) rfl rfl (Nat.le_of_ble_eq_true rfl) dX1_init_86 rfl ?_
  try simp only [List.set_cons_zero, List.set_cons_succ, List.cons_append, List.nil_append]
  refine J_aload_n (i := 0) (p := 0) C dX1_init_89 rfl rfl rfl ?_
  refine J_sipush (v := 300) C (by decide) dX1_init_90 rfl ?_
  refine L_newZ (m := 9) (N := 300) (sl' := 18602) C rfl tw_189 (by decide) (by decide) (Nat.le_of_ble_eq_true rfl) rfl (by rw [hR]; exact (Nat.le_of_ble_eq_true rfl)) (by rw [hR]; exact (Nat.le_of_ble_eq_true rfl)) dX1_init_93 rfl ?_
  try simp only [List.set_cons_zero, List.set_cons_succ, List.cons_append, List.nil_append]
  refine L_put (i := 0) (m := 10) C hname rfl rfl (by decide) rfl fp_RX1_51 tyX1_ok nmX1 (by decide +kernel) rfl rfl (Nat.le_of_ble_eq_true rfl) dX1_init_95 rfl ?_
  try simp only [List.set_cons_zero, List.set_cons_succ, List.cons_append, List.nil_append]
  refine J_aload_n (i := 0) (p := 0) C dX1_init_98 rfl rfl rfl ?_
  refine J_iconst (v := 0) C (by decide) dX1_init_99 rfl ?_
  refine L_put (i := 0) (m := 10) C hname rfl rfl (by decide) rfl fp_RX1_55 tyX1_ok nmX1 (by decide +kernel) rfl rfl (Nat.le_of_ble_eq_true rfl) dX1_init_100 rfl ?_
  try simp only [List.set_cons_zero, List.set_cons_succ, List.cons_append, List.nil_append]
  refine J_aload_n (i := 0) (p := 0) C dX1_init_103 rfl rfl rfl ?_
  refine J_sipush (v := 300) C (by decide) dX1_init_104 rfl ?_
  refine L_newZ (m := 10) (N := 300) (sl' := 18902) C rfl tw_189 (by decide) (by decide) (Nat.le_of_ble_eq_true rfl) rfl (by rw [hR]; exact (Nat.le_of_ble_eq_true rfl)) (by rw [hR]; exact (Nat.le_of_ble_eq_true rfl)) dX1_init_107 rfl ?_
  try simp only [List.set_cons_zero, List.set_cons_succ, List.cons_append, List.nil_append]
  refine L_put (i := 0) (m := 11) C hname rfl rfl (by decide) rfl fp_RX1_58 tyX1_ok nmX1 (by decide +kernel) rfl rfl (Nat.le_of_ble_eq_true rfl) dX1_init_109 rfl ?_
  try simp only [List.set_cons_zero, List.set_cons_succ, List.cons_append, List.nil_append]
  exact J_vret C hret (Nat.le_of_ble_eq_true rfl) (Nat.le_of_ble_eq_true rfl) ⟨rfl, rfl, rfl⟩ dX1_init_112
def cE5 (K : JK) (a : Nat) : List va_E := [.inr (5, [.ref (K.2.2 + (a + 1)), .int 0, .ref (K.2.2 + (a + 2)), .ref (K.2.2 + (a + 3)), .int 0, .ref (K.2.2 + (a + 4)), .ref (K.2.2 + (a + 5))]),
  .inl (K.2.1.2.2.2.1, 375, .inr (.inl zL)),
  .inl (K.2.1.2.2.2.1, 5, .inr (.inl zL)),
  .inl (K.2.1.1, 8, .inl z0),
  .inl (K.2.1.1, 16, .inl z0),
  .inl (K.2.1.2.2.1, 16, .inl z0)]
set_option maxHeartbeats 4000000 in
set_option maxRecDepth 100000 in
theorem k5_init {l : Launch} {K : JK} (hl : l.stackTraces = false) {a : Nat} {w0 : JW} : Con l K yX5_init (.code yX5_init cX5_init 1 none :: TB) 1 5 420 True [.ref (K.2.2 + a)] (a + 1) (wl a w0 [.inr (5, [.null, .int 0, .null, .null, .int 0, .null, .null])]) (fun v n w => v = none ∧ n = a + 6 ∧ w = wl a w0 (cE5 K a)) PN := by
  refine Con.enterI (own := RX5) hl (by decide) rfl rfl (Nat.le_of_ble_eq_true rfl) ?_
  intro X hX hR C hret hname
  subst hX
  refine J_aload_n (i := 0) (p := 0) C dX5_init_0 rfl rfl rfl ?_
  refine J_objZ C tw_305 oi_1 oi_2 (by rw [hR]; exact (Nat.le_of_ble_eq_true rfl)) (by rw [hR]; exact (Nat.le_of_ble_eq_true rfl)) dX5_init_1 rfl ?_
  refine J_aload_n (i := 0) (p := 0) C dX5_init_4 rfl rfl rfl ?_
  refine J_sipush (v := 375) C (by decide) dX5_init_5 rfl ?_
  refine L_newJ (m := 1) (N := 375) (sl' := 375) C rfl tw_328 (by decide) (by decide) (Nat.le_of_ble_eq_true rfl) rfl (by rw [hR]; exact (Nat.le_of_ble_eq_true rfl)) (by rw [hR]; exact (Nat.le_of_ble_eq_true rfl)) dX5_init_8 rfl ?_
  try simp only [List.set_cons_zero, List.set_cons_succ, List.cons_append, List.nil_append]
  refine L_put (i := 0) (m := 2) C hname rfl rfl (by decide) rfl fp_RX5_9 tyX5_ok nmX5 (by decide +kernel) rfl rfl (Nat.le_of_ble_eq_true rfl) dX5_init_10 rfl ?_
  try simp only [List.set_cons_zero, List.set_cons_succ, List.cons_append, List.nil_append]
  refine J_aload_n (i := 0) (p := 0) C dX5_init_13 rfl rfl rfl ?_
  refine J_iconst (v := 0) C (by decide) dX5_init_14 rfl ?_
  refine L_put (i := 0) (m := 2) C hname rfl rfl (by decide) rfl fp_RX5_15 tyX5_ok nmX5 (by decide +kernel) rfl rfl (Nat.le_of_ble_eq_true rfl) dX5_init_15 rfl ?_
  try simp only [List.set_cons_zero, List.set_cons_succ, List.cons_append, List.nil_append]
  refine J_aload_n (i := 0) (p := 0) C dX5_init_18 rfl rfl rfl ?_
  refine J_iconst (v := 5) C (by decide) dX5_init_19 rfl ?_
  refine L_newJ (m := 2) (N := 5) (sl' := 380) C rfl tw_328 (by decide) (by decide) (Nat.le_of_ble_eq_true rfl) rfl (by rw [hR]; exact (Nat.le_of_ble_eq_true rfl)) (by rw [hR]; exact (Nat.le_of_ble_eq_true rfl)) dX5_init_20 rfl ?_
  try simp only [List.set_cons_zero, List.set_cons_succ, List.cons_append, List.nil_append]
  refine L_put (i := 0) (m := 3) C hname rfl rfl (by decide) rfl fp_RX5_19 tyX5_ok nmX5 (by decide +kernel) rfl rfl (Nat.le_of_ble_eq_true rfl) dX5_init_22 rfl ?_
  try simp only [List.set_cons_zero, List.set_cons_succ, List.cons_append, List.nil_append]
  refine J_aload_n (i := 0) (p := 0) C dX5_init_25 rfl rfl rfl ?_
  refine J_bipush (v := 8) C (by decide) dX5_init_26 rfl ?_
  refine L_newI (m := 3) (N := 8) (sl' := 388) C rfl tw_188 (by decide) (by decide) (Nat.le_of_ble_eq_true rfl) rfl (by rw [hR]; exact (Nat.le_of_ble_eq_true rfl)) (by rw [hR]; exact (Nat.le_of_ble_eq_true rfl)) dX5_init_28 rfl ?_
  try simp only [List.set_cons_zero, List.set_cons_succ, List.cons_append, List.nil_append]
  refine L_put (i := 0) (m := 4) C hname rfl rfl (by decide) rfl fp_RX5_22 tyX5_ok nmX5 (by decide +kernel) rfl rfl (Nat.le_of_ble_eq_true rfl) dX5_init_30 rfl ?_
  try simp only [List.set_cons_zero, List.set_cons_succ, List.cons_append, List.nil_append]
  refine J_aload_n (i := 0) (p := 0) C dX5_init_33 rfl rfl rfl ?_
  refine J_iconst (v := 0) C (by decide) dX5_init_34 rfl ?_
  refine L_put (i := 0) (m := 4) C hname rfl rfl (by decide) rfl fp_RX5_26 tyX5_ok nmX5 (by decide +kernel) rfl rfl (Nat.le_of_ble_eq_true rfl) dX5_init_35 rfl ?_
  try simp only [List.set_cons_zero, List.set_cons_succ, List.cons_append, List.nil_append]
  refine J_aload_n (i := 0) (p := 0) C dX5_init_38 rfl rfl rfl ?_
  refine J_bipush (v := 16) C (by decide) dX5_init_39 rfl ?_
  refine L_newI (m := 4) (N := 16) (sl' := 404) C rfl tw_188 (by decide) (by decide) (Nat.le_of_ble_eq_true rfl) rfl (by rw [hR]; exact (Nat.le_of_ble_eq_true rfl)) (by rw [hR]; exact (Nat.le_of_ble_eq_true rfl)) dX5_init_41 rfl ?_
  try simp only [List.set_cons_zero, List.set_cons_succ, List.cons_append, List.nil_append]
  refine L_put (i := 0) (m := 5) C hname rfl rfl (by decide) rfl fp_RX5_29 tyX5_ok nmX5 (by decide +kernel) rfl rfl (Nat.le_of_ble_eq_true rfl) dX5_init_43 rfl ?_
  try simp only [List.set_cons_zero, List.set_cons_succ, List.cons_append, List.nil_append]
  refine J_aload_n (i := 0) (p := 0) C dX5_init_46 rfl rfl rfl ?_
  refine J_bipush (v := 16) C (by decide) dX5_init_47 rfl ?_
  refine L_newZ (m := 5) (N := 16) (sl' := 420) C rfl tw_189 (by decide) (by decide) (Nat.le_of_ble_eq_true rfl) rfl (by rw [hR]; exact (Nat.le_of_ble_eq_true rfl)) (by rw [hR]; exact (Nat.le_of_ble_eq_true rfl)) dX5_init_49 rfl ?_
  try simp only [List.set_cons_zero, List.set_cons_succ, List.cons_append, List.nil_append]
  refine L_put (i := 0) (m := 6) C hname rfl rfl (by decide) rfl fp_RX5_32 tyX5_ok nmX5 (by decide +kernel) rfl rfl (Nat.le_of_ble_eq_true rfl) dX5_init_51 rfl ?_
  try simp only [List.set_cons_zero, List.set_cons_succ, List.cons_append, List.nil_append]
  exact J_vret C hret (Nat.le_of_ble_eq_true rfl) (Nat.le_of_ble_eq_true rfl) ⟨rfl, rfl, rfl⟩ dX5_init_54
def cE0 (K : JK) (a : Nat) : List va_E := [.inr (0, [.null, .null, .ref (K.2.2 + (a + 1)), .ref (K.2.2 + (a + 7))]),
  .inr (5, [.ref (K.2.2 + (a + 2)), .int 0, .ref (K.2.2 + (a + 3)), .ref (K.2.2 + (a + 4)), .int 0, .ref (K.2.2 + (a + 5)), .ref (K.2.2 + (a + 6))]),
  .inl (K.2.1.2.2.2.1, 375, .inr (.inl zL)),
  .inl (K.2.1.2.2.2.1, 5, .inr (.inl zL)),
  .inl (K.2.1.1, 8, .inl z0),
  .inl (K.2.1.1, 16, .inl z0),
  .inl (K.2.1.2.2.1, 16, .inl z0),
  .inr (5, [.ref (K.2.2 + (a + 8)), .int 0, .ref (K.2.2 + (a + 9)), .ref (K.2.2 + (a + 10)), .int 0, .ref (K.2.2 + (a + 11)), .ref (K.2.2 + (a + 12))]),
  .inl (K.2.1.2.2.2.1, 375, .inr (.inl zL)),
  .inl (K.2.1.2.2.2.1, 5, .inr (.inl zL)),
  .inl (K.2.1.1, 8, .inl z0),
  .inl (K.2.1.1, 16, .inl z0),
  .inl (K.2.1.2.2.1, 16, .inl z0)]
set_option maxHeartbeats 4000000 in
set_option maxRecDepth 100000 in
theorem k0_init {l : Launch} {K : JK} (hl : l.stackTraces = false) {a : Nat} {w0 : JW} : Con l K yX0_init (.code yX0_init cX0_init 1 none :: TB) 2 12 854 True [.ref (K.2.2 + a)] (a + 1) (wl a w0 [.inr (0, [.null, .null, .null, .null])]) (fun v n w => v = none ∧ n = a + 13 ∧ w = wl a w0 (cE0 K a)) PN := by
  refine Con.enterI (own := RX0) hl (by decide) rfl rfl (Nat.le_of_ble_eq_true rfl) ?_
  intro X hX hR C hret hname
  subst hX
  refine J_aload_n (i := 0) (p := 0) C dX0_init_0 rfl rfl rfl ?_
  refine J_objZ C tw_299 oi_1 oi_2 (by rw [hR]; exact (Nat.le_of_ble_eq_true rfl)) (by rw [hR]; exact (Nat.le_of_ble_eq_true rfl)) dX0_init_1 rfl ?_
  refine J_aload_n (i := 0) (p := 0) C dX0_init_4 rfl rfl rfl ?_
  refine J_null C dX0_init_5 rfl ?_
  refine L_put (i := 0) (m := 1) C hname rfl rfl (by decide) rfl fp_RX0_7 tyX0_ok nmX0 (by decide +kernel) rfl rfl (Nat.le_of_ble_eq_true rfl) dX0_init_6 rfl ?_
  try simp only [List.set_cons_zero, List.set_cons_succ, List.cons_append, List.nil_append]
  refine J_aload_n (i := 0) (p := 0) C dX0_init_9 rfl rfl rfl ?_
  refine J_null C dX0_init_10 rfl ?_
  refine L_put (i := 0) (m := 1) C hname rfl rfl (by decide) rfl fp_RX0_13 tyX0_ok nmX0 (by decide +kernel) rfl rfl (Nat.le_of_ble_eq_true rfl) dX0_init_11 rfl ?_
  try simp only [List.set_cons_zero, List.set_cons_succ, List.cons_append, List.nil_append]
  refine J_aload_n (i := 0) (p := 0) C dX0_init_14 rfl rfl rfl ?_
  refine L_new (m := 1) (ty0 := tyX5) (ci := 5) (fs := [.null, .int 0, .null, .null, .int 0, .null, .null]) (sl' := 7) C rfl inTB5 tyX5_ok rfl tw_300 tw_301 tw_89 (by decide) rfl (by rw [hR]; exact (Nat.le_of_ble_eq_true rfl)) (by rw [hR]; exact (Nat.le_of_ble_eq_true rfl)) dX0_init_15 rfl ?_
  refine J_dup C rfl dX0_init_18 rfl ?_
  refine L_ctor (m := 1) (kc := 6) (sc := 427) C (Or.inr in_RX0_18) rfl im_5 hR rfl rfl (fun w0 => k5_init hl) (Nat.le_of_ble_eq_true rfl) (Nat.le_of_ble_eq_true rfl) (Nat.le_of_ble_eq_true rfl) rfl rfl ⟨(Nat.le_of_ble_eq_true rfl), (Nat.le_of_ble_eq_true rfl)⟩ dX0_init_19 rfl rfl ?_
  try simp only [List.set_cons_zero, List.set_cons_succ, List.cons_append, List.nil_append]
  refine L_put (i := 0) (m := 7) C hname rfl rfl (by decide) rfl fp_RX0_19 tyX0_ok nmX0 (by decide +kernel) rfl rfl (Nat.le_of_ble_eq_true rfl) dX0_init_22 rfl ?_
  try simp only [List.set_cons_zero, List.set_cons_succ, List.cons_append, List.nil_append]
  refine J_aload_n (i := 0) (p := 0) C dX0_init_25 rfl rfl rfl ?_
  refine L_new (m := 7) (ty0 := tyX5) (ci := 5) (fs := [.null, .int 0, .null, .null, .int 0, .null, .null]) (sl' := 434) C rfl inTB5 tyX5_ok rfl tw_300 tw_301 tw_89 (by decide) rfl (by rw [hR]; exact (Nat.le_of_ble_eq_true rfl)) (by rw [hR]; exact (Nat.le_of_ble_eq_true rfl)) dX0_init_26 rfl ?_
  refine J_dup C rfl dX0_init_29 rfl ?_
  refine L_ctor (m := 7) (kc := 12) (sc := 854) C (Or.inr in_RX0_18) rfl im_5 hR rfl rfl (fun w0 => k5_init hl) (Nat.le_of_ble_eq_true rfl) (Nat.le_of_ble_eq_true rfl) (Nat.le_of_ble_eq_true rfl) rfl rfl ⟨(Nat.le_of_ble_eq_true rfl), (Nat.le_of_ble_eq_true rfl)⟩ dX0_init_30 rfl rfl ?_
  try simp only [List.set_cons_zero, List.set_cons_succ, List.cons_append, List.nil_append]
  refine L_put (i := 0) (m := 13) C hname rfl rfl (by decide) rfl fp_RX0_23 tyX0_ok nmX0 (by decide +kernel) rfl rfl (Nat.le_of_ble_eq_true rfl) dX0_init_33 rfl ?_
  try simp only [List.set_cons_zero, List.set_cons_succ, List.cons_append, List.nil_append]
  exact J_vret C hret (Nat.le_of_ble_eq_true rfl) (Nat.le_of_ble_eq_true rfl) ⟨rfl, rfl, rfl⟩ dX0_init_36
def cE7 (K : JK) (a : Nat) : List va_E := [.inr (7, [.ref (K.2.2 + (a + 1)), .int 0]),
  .inr (6, [.ref (K.2.2 + (a + 2)), .int 0]),
  .inl (K.2.1.2.1, 40, .inl z0)]
set_option maxHeartbeats 4000000 in
set_option maxRecDepth 100000 in
theorem k7_init {l : Launch} {K : JK} (hl : l.stackTraces = false) {a : Nat} {w0 : JW} : Con l K yX7_init (.code yX7_init cX7_init 1 none :: TB) 2 2 42 True [.ref (K.2.2 + a)] (a + 1) (wl a w0 [.inr (7, [.null, .int 0])]) (fun v n w => v = none ∧ n = a + 3 ∧ w = wl a w0 (cE7 K a)) PN := by
  refine Con.enterI (own := RX7) hl (by decide) rfl rfl (Nat.le_of_ble_eq_true rfl) ?_
  intro X hX hR C hret hname
  subst hX
  refine J_aload_n (i := 0) (p := 0) C dX7_init_0 rfl rfl rfl ?_
  refine J_objZ C tw_371 oi_1 oi_2 (by rw [hR]; exact (Nat.le_of_ble_eq_true rfl)) (by rw [hR]; exact (Nat.le_of_ble_eq_true rfl)) dX7_init_1 rfl ?_
  refine J_aload_n (i := 0) (p := 0) C dX7_init_4 rfl rfl rfl ?_
  refine L_new (m := 1) (ty0 := tyX6) (ci := 6) (fs := [.null, .int 0]) (sl' := 2) C rfl inTB6 tyX6_ok rfl tw_372 tw_191 tw_84 (by decide) rfl (by rw [hR]; exact (Nat.le_of_ble_eq_true rfl)) (by rw [hR]; exact (Nat.le_of_ble_eq_true rfl)) dX7_init_5 rfl ?_
  refine J_dup C rfl dX7_init_8 rfl ?_
  refine J_bipush (v := 40) C (by decide) dX7_init_9 rfl ?_
  refine L_newB (m := 2) (N := 40) (sl' := 42) C rfl tw_187 (by decide) (by decide) (Nat.le_of_ble_eq_true rfl) rfl (by rw [hR]; exact (Nat.le_of_ble_eq_true rfl)) (by rw [hR]; exact (Nat.le_of_ble_eq_true rfl)) dX7_init_11 rfl ?_
  try simp only [List.set_cons_zero, List.set_cons_succ, List.cons_append, List.nil_append]
  refine L_row (m := 1) C (Or.inl ic_RX7_11) rfl hl hR (es0 := [.inr (7, [.null, .int 0])]) rfl rfl rfl (Nat.le_of_ble_eq_true rfl) (Nat.le_of_ble_eq_true rfl) (Nat.le_of_ble_eq_true rfl) ⟨(Nat.le_of_ble_eq_true rfl), (Nat.le_of_ble_eq_true rfl)⟩ dX7_init_13 rfl ?_
  try simp only [List.set_cons_zero, List.set_cons_succ, List.cons_append, List.nil_append]
  refine L_put (i := 0) (m := 3) C hname rfl rfl (by decide) rfl fp_RX7_14 tyX7_ok nmX7 (by decide +kernel) rfl rfl (Nat.le_of_ble_eq_true rfl) dX7_init_16 rfl ?_
  try simp only [List.set_cons_zero, List.set_cons_succ, List.cons_append, List.nil_append]
  refine J_aload_n (i := 0) (p := 0) C dX7_init_19 rfl rfl rfl ?_
  refine J_iconst (v := 0) C (by decide) dX7_init_20 rfl ?_
  refine L_put (i := 0) (m := 3) C hname rfl rfl (by decide) rfl fp_RX7_20 tyX7_ok nmX7 (by decide +kernel) rfl rfl (Nat.le_of_ble_eq_true rfl) dX7_init_21 rfl ?_
  try simp only [List.set_cons_zero, List.set_cons_succ, List.cons_append, List.nil_append]
  exact J_vret C hret (Nat.le_of_ble_eq_true rfl) (Nat.le_of_ble_eq_true rfl) ⟨rfl, rfl, rfl⟩ dX7_init_24
def cE9 (K : JK) (a : Nat) : List va_E := [.inr (9, [.ref (K.2.2 + (a + 1)), .ref (K.2.2 + (a + 2)), .ref (K.2.2 + (a + 3)), .ref (K.2.2 + (a + 4)), .int 0, .int 0]),
  .inl (K.2.1.1, 40, .inl z0),
  .inl (K.2.1.1, 40, .inl z0),
  .inl (K.2.1.1, 40, .inl z0),
  .inl (K.2.1.2.1, 8000, .inl z0)]
set_option maxHeartbeats 4000000 in
set_option maxRecDepth 100000 in
theorem k9_init {l : Launch} {K : JK} (hl : l.stackTraces = false) {a : Nat} {w0 : JW} : Con l K yX9_init (.code yX9_init cX9_init 1 none :: TB) 1 4 8120 True [.ref (K.2.2 + a)] (a + 1) (wl a w0 [.inr (9, [.null, .null, .null, .null, .int 0, .int 0])]) (fun v n w => v = none ∧ n = a + 5 ∧ w = wl a w0 (cE9 K a)) PN := by
  refine Con.enterI (own := RX9) hl (by decide) rfl rfl (Nat.le_of_ble_eq_true rfl) ?_
  intro X hX hR C hret hname
  subst hX
  refine J_aload_n (i := 0) (p := 0) C dX9_init_0 rfl rfl rfl ?_
  refine J_objZ C tw_388 oi_1 oi_2 (by rw [hR]; exact (Nat.le_of_ble_eq_true rfl)) (by rw [hR]; exact (Nat.le_of_ble_eq_true rfl)) dX9_init_1 rfl ?_
  refine J_aload_n (i := 0) (p := 0) C dX9_init_4 rfl rfl rfl ?_
  refine J_bipush (v := 40) C (by decide) dX9_init_5 rfl ?_
  refine L_newI (m := 1) (N := 40) (sl' := 40) C rfl tw_188 (by decide) (by decide) (Nat.le_of_ble_eq_true rfl) rfl (by rw [hR]; exact (Nat.le_of_ble_eq_true rfl)) (by rw [hR]; exact (Nat.le_of_ble_eq_true rfl)) dX9_init_7 rfl ?_
  try simp only [List.set_cons_zero, List.set_cons_succ, List.cons_append, List.nil_append]
  refine L_put (i := 0) (m := 2) C hname rfl rfl (by decide) rfl fp_RX9_9 tyX9_ok nmX9 (by decide +kernel) rfl rfl (Nat.le_of_ble_eq_true rfl) dX9_init_9 rfl ?_
  try simp only [List.set_cons_zero, List.set_cons_succ, List.cons_append, List.nil_append]
  refine J_aload_n (i := 0) (p := 0) C dX9_init_12 rfl rfl rfl ?_
  refine J_bipush (v := 40) C (by decide) dX9_init_13 rfl ?_
  refine L_newI (m := 2) (N := 40) (sl' := 80) C rfl tw_188 (by decide) (by decide) (Nat.le_of_ble_eq_true rfl) rfl (by rw [hR]; exact (Nat.le_of_ble_eq_true rfl)) (by rw [hR]; exact (Nat.le_of_ble_eq_true rfl)) dX9_init_15 rfl ?_
  try simp only [List.set_cons_zero, List.set_cons_succ, List.cons_append, List.nil_append]
  refine L_put (i := 0) (m := 3) C hname rfl rfl (by decide) rfl fp_RX9_15 tyX9_ok nmX9 (by decide +kernel) rfl rfl (Nat.le_of_ble_eq_true rfl) dX9_init_17 rfl ?_
  try simp only [List.set_cons_zero, List.set_cons_succ, List.cons_append, List.nil_append]
  refine J_aload_n (i := 0) (p := 0) C dX9_init_20 rfl rfl rfl ?_
  refine J_bipush (v := 40) C (by decide) dX9_init_21 rfl ?_
  refine L_newI (m := 3) (N := 40) (sl' := 120) C rfl tw_188 (by decide) (by decide) (Nat.le_of_ble_eq_true rfl) rfl (by rw [hR]; exact (Nat.le_of_ble_eq_true rfl)) (by rw [hR]; exact (Nat.le_of_ble_eq_true rfl)) dX9_init_23 rfl ?_
  try simp only [List.set_cons_zero, List.set_cons_succ, List.cons_append, List.nil_append]
  refine L_put (i := 0) (m := 4) C hname rfl rfl (by decide) rfl fp_RX9_18 tyX9_ok nmX9 (by decide +kernel) rfl rfl (Nat.le_of_ble_eq_true rfl) dX9_init_25 rfl ?_
  try simp only [List.set_cons_zero, List.set_cons_succ, List.cons_append, List.nil_append]
  refine J_aload_n (i := 0) (p := 0) C dX9_init_28 rfl rfl rfl ?_
  refine J_sipush (v := 8000) C (by decide) dX9_init_29 rfl ?_
  refine L_newB (m := 4) (N := 8000) (sl' := 8120) C rfl tw_187 (by decide) (by decide) (Nat.le_of_ble_eq_true rfl) rfl (by rw [hR]; exact (Nat.le_of_ble_eq_true rfl)) (by rw [hR]; exact (Nat.le_of_ble_eq_true rfl)) dX9_init_32 rfl ?_
  try simp only [List.set_cons_zero, List.set_cons_succ, List.cons_append, List.nil_append]
  refine L_put (i := 0) (m := 5) C hname rfl rfl (by decide) rfl fp_RX9_21 tyX9_ok nmX9 (by decide +kernel) rfl rfl (Nat.le_of_ble_eq_true rfl) dX9_init_34 rfl ?_
  try simp only [List.set_cons_zero, List.set_cons_succ, List.cons_append, List.nil_append]
  refine J_aload_n (i := 0) (p := 0) C dX9_init_37 rfl rfl rfl ?_
  refine J_iconst (v := 0) C (by decide) dX9_init_38 rfl ?_
  refine L_put (i := 0) (m := 5) C hname rfl rfl (by decide) rfl fp_RX9_25 tyX9_ok nmX9 (by decide +kernel) rfl rfl (Nat.le_of_ble_eq_true rfl) dX9_init_39 rfl ?_
  try simp only [List.set_cons_zero, List.set_cons_succ, List.cons_append, List.nil_append]
  refine J_aload_n (i := 0) (p := 0) C dX9_init_42 rfl rfl rfl ?_
  refine J_iconst (v := 0) C (by decide) dX9_init_43 rfl ?_
  refine L_put (i := 0) (m := 5) C hname rfl rfl (by decide) rfl fp_RX9_29 tyX9_ok nmX9 (by decide +kernel) rfl rfl (Nat.le_of_ble_eq_true rfl) dX9_init_44 rfl ?_
  try simp only [List.set_cons_zero, List.set_cons_succ, List.cons_append, List.nil_append]
  exact J_vret C hret (Nat.le_of_ble_eq_true rfl) (Nat.le_of_ble_eq_true rfl) ⟨rfl, rfl, rfl⟩ dX9_init_47
def cE3 (K : JK) (a : Nat) : List va_E := [.inr (3, [.ref (K.2.2 + (a + 1)), .ref (K.2.2 + (a + 8)), .ref (K.2.2 + (a + 15)), .ref (K.2.2 + (a + 16)), .ref (K.2.2 + (a + 17))]),
  .inr (8, [.ref (K.2.2 + (a + 2)), .int 0, .ref (K.2.2 + (a + 3)), .ref (K.2.2 + (a + 4)), .int 1, .ref (K.2.2 + (a + 5)), .int 1, .ref (K.2.2 + (a + 6)), .ref (K.2.2 + (a + 7))]),
  .inl (K.2.1.2.1, 3000, .inl z0),
  .inl (K.2.1.1, 300, .inl z0),
  .inl (K.2.1.2.2.1, 300, .inl z0),
  .inl (K.2.1.1, 8, .inl z0),
  .inl (K.2.1.1, 16, .inl (fil 16 (-1))),
  .inl (K.2.1.2.2.1, 16, .inl z0),
  .inr (8, [.ref (K.2.2 + (a + 9)), .int 0, .ref (K.2.2 + (a + 10)), .ref (K.2.2 + (a + 11)), .int 1, .ref (K.2.2 + (a + 12)), .int 1, .ref (K.2.2 + (a + 13)), .ref (K.2.2 + (a + 14))]),
  .inl (K.2.1.2.1, 3000, .inl z0),
  .inl (K.2.1.1, 300, .inl z0),
  .inl (K.2.1.2.2.1, 300, .inl z0),
  .inl (K.2.1.1, 8, .inl z0),
  .inl (K.2.1.1, 16, .inl (fil 16 (-1))),
  .inl (K.2.1.2.2.1, 16, .inl z0),
  .inl (K.2.1.1, 300, .inl z0),
  .inl (K.2.1.1, 300, .inl z0),
  .inl (K.2.1.1, 301, .inl z0)]
set_option maxHeartbeats 4000000 in
set_option maxRecDepth 100000 in
theorem k3_init {l : Launch} {K : JK} (hl : l.stackTraces = false) {a : Nat} {w0 : JW} : Con l K yX3_init (.code yX3_init cX3_init 1 none :: TB) 2 17 8199 True [.ref (K.2.2 + a)] (a + 1) (wl a w0 [.inr (3, [.null, .null, .null, .null, .null])]) (fun v n w => v = none ∧ n = a + 18 ∧ w = wl a w0 (cE3 K a)) PN := by
  refine Con.enterI (own := RX3) hl (by decide) rfl rfl (Nat.le_of_ble_eq_true rfl) ?_
  intro X hX hR C hret hname
  subst hX
  refine J_aload_n (i := 0) (p := 0) C dX3_init_0 rfl rfl rfl ?_
  refine J_objZ C tw_419 oi_1 oi_2 (by rw [hR]; exact (Nat.le_of_ble_eq_true rfl)) (by rw [hR]; exact (Nat.le_of_ble_eq_true rfl)) dX3_init_1 rfl ?_
  refine J_aload_n (i := 0) (p := 0) C dX3_init_4 rfl rfl rfl ?_
  refine L_new (m := 1) (ty0 := tyX8) (ci := 8) (fs := [.null, .int 0, .null, .null, .int 0, .null, .int 0, .null, .null]) (sl' := 9) C rfl inTB8 tyX8_ok rfl tw_420 tw_113 tw_83 (by decide) rfl (by rw [hR]; exact (Nat.le_of_ble_eq_true rfl)) (by rw [hR]; exact (Nat.le_of_ble_eq_true rfl)) dX3_init_5 rfl ?_
  refine J_dup C rfl dX3_init_8 rfl ?_
  refine L_ctor (m := 1) (kc := 7) (sc := 3649) C (Or.inl ic_RX3_11) rfl im_8 hR rfl rfl (fun w0 => k8_init hl) (Nat.le_of_ble_eq_true rfl) (Nat.le_of_ble_eq_true rfl) (Nat.le_of_ble_eq_true rfl) rfl rfl ⟨(Nat.le_of_ble_eq_true rfl), (Nat.le_of_ble_eq_true rfl)⟩ dX3_init_9 rfl rfl ?_
  try simp only [List.set_cons_zero, List.set_cons_succ, List.cons_append, List.nil_append]
  refine L_put (i := 0) (m := 8) C hname rfl rfl (by decide) rfl fp_RX3_12 tyX3_ok nmX3 (by decide +kernel) rfl rfl (Nat.le_of_ble_eq_true rfl) dX3_init_12 rfl ?_
  try simp only [List.set_cons_zero, List.set_cons_succ, List.cons_append, List.nil_append]
  refine J_aload_n (i := 0) (p := 0) C dX3_init_15 rfl rfl rfl ?_
  refine L_new (m := 8) (ty0 := tyX8) (ci := 8) (fs := [.null, .int 0, .null, .null, .int 0, .null, .int 0, .null, .null]) (sl' := 3658) C rfl inTB8 tyX8_ok rfl tw_420 tw_113 tw_83 (by decide) rfl (by rw [hR]; exact (Nat.le_of_ble_eq_true rfl)) (by rw [hR]; exact (Nat.le_of_ble_eq_true rfl)) dX3_init_16 rfl ?_
  refine J_dup C rfl dX3_init_19 rfl ?_
  refine L_ctor (m := 8) (kc := 14) (sc := 7298) C (Or.inl ic_RX3_11) rfl im_8 hR rfl rfl (fun w0 => k8_init hl) (Nat.le_of_ble_eq_true rfl) (Nat.le_of_ble_eq_true rfl) (Nat.le_of_ble_eq_true rfl) rfl rfl ⟨(Nat.le_of_ble_eq_true rfl), (Nat.le_of_ble_eq_true rfl)⟩ dX3_init_20 rfl rfl ?_
  try simp only [List.set_cons_zero, List.set_cons_succ, List.cons_append, List.nil_append]
  refine L_put (i := 0) (m := 15) C hname rfl rfl (by decide) rfl fp_RX3_18 tyX3_ok nmX3 (by decide +kernel) rfl rfl (Nat.le_of_ble_eq_true rfl) dX3_init_23 rfl ?_
  try simp only [List.set_cons_zero, List.set_cons_succ, List.cons_append, List.nil_append]
  refine J_aload_n (i := 0) (p := 0) C dX3_init_26 rfl rfl rfl ?_
  refine J_sipush (v := 300) C (by decide) dX3_init_27 rfl ?_
  refine L_newI (m := 15) (N := 300) (sl' := 7598) C rfl tw_188 (by decide) (by decide) (Nat.le_of_ble_eq_true rfl) rfl (by rw [hR]; exact (Nat.le_of_ble_eq_true rfl)) (by rw [hR]; exact (Nat.le_of_ble_eq_true rfl)) dX3_init_30 rfl ?_
  try simp only [List.set_cons_zero, List.set_cons_succ, List.cons_append, List.nil_append]
  refine L_put (i := 0) (m := 16) C hname rfl rfl (by decide) rfl fp_RX3_21 tyX3_ok nmX3 (by decide +kernel) rfl rfl (Nat.le_of_ble_eq_true rfl) dX3_init_32 rfl ?_
  try simp only [List.set_cons_zero, List.set_cons_succ, List.cons_append, List.nil_append]
  refine J_aload_n (i := 0) (p := 0) C dX3_init_35 rfl rfl rfl ?_
  refine J_sipush (v := 300) C (by decide) dX3_init_36 rfl ?_
  refine L_newI (m := 16) (N := 300) (sl' := 7898) C rfl tw_188 (by decide) (by decide) (Nat.le_of_ble_eq_true rfl) rfl (by rw [hR]; exact (Nat.le_of_ble_eq_true rfl)) (by rw [hR]; exact (Nat.le_of_ble_eq_true rfl)) dX3_init_39 rfl ?_
  try simp only [List.set_cons_zero, List.set_cons_succ, List.cons_append, List.nil_append]
  refine L_put (i := 0) (m := 17) C hname rfl rfl (by decide) rfl fp_RX3_25 tyX3_ok nmX3 (by decide +kernel) rfl rfl (Nat.le_of_ble_eq_true rfl) dX3_init_41 rfl ?_
  try simp only [List.set_cons_zero, List.set_cons_succ, List.cons_append, List.nil_append]
  refine J_aload_n (i := 0) (p := 0) C dX3_init_44 rfl rfl rfl ?_
  refine J_sipush (v := 301) C (by decide) dX3_init_45 rfl ?_
  refine L_newI (m := 17) (N := 301) (sl' := 8199) C rfl tw_188 (by decide) (by decide) (Nat.le_of_ble_eq_true rfl) rfl (by rw [hR]; exact (Nat.le_of_ble_eq_true rfl)) (by rw [hR]; exact (Nat.le_of_ble_eq_true rfl)) dX3_init_48 rfl ?_
  try simp only [List.set_cons_zero, List.set_cons_succ, List.cons_append, List.nil_append]
  refine L_put (i := 0) (m := 18) C hname rfl rfl (by decide) rfl fp_RX3_28 tyX3_ok nmX3 (by decide +kernel) rfl rfl (Nat.le_of_ble_eq_true rfl) dX3_init_50 rfl ?_
  try simp only [List.set_cons_zero, List.set_cons_succ, List.cons_append, List.nil_append]
  exact J_vret C hret (Nat.le_of_ble_eq_true rfl) (Nat.le_of_ble_eq_true rfl) ⟨rfl, rfl, rfl⟩ dX3_init_53
