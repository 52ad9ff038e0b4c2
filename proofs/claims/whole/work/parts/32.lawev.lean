/-! what holds at the law's start -/
abbrev gvT : List Cond := flatC (Jvm.Cond.and given_1 narrow_1)
section ST
set_option maxRecDepth 100000
theorem st_str : (STRS.all fun q => decide (Cond.stringRef q.1 q.2.1 q.2.2 ∈ lw_tbl)) = true := by decide +kernel
theorem st_strx : (STRS.all fun q => decide (Cond.exactly (Term.string q.1 q.2.1) "java/lang/String" ∈ gvT)) = true := by decide +kernel
theorem st_nest : (NEST.all fun q => decide (Cond.methodLinkNest q.1 q.2.1 q.2.2.1 q.2.2.2 ∈ lw_tbl)) = true := by decide +kernel
theorem st_nc : (NCS.all fun q => decide (Cond.not (Cond.castable q.1 q.2) ∈ gvT)) = true := by decide +kernel
theorem st_cast : (EXCS.all fun q => decide (Cond.castable q q ∈ lw_tbl)) = true := by decide +kernel
theorem st_decl : (CHN.all fun q => decide (Cond.declares (Bundle.initS q) ∈ lw_tbl)) = true := by decide +kernel
theorem st_cls : (vwCl.all fun q => (u_ws q.1 q.2.1 q.2.2).all fun w => decide (w ∈ lw_tbl)) = true := by decide +kernel
theorem st_ins : (vwCl.all fun q => decide (Cond.instantiable q.1 q.2.2 ∈ lw_tbl)) = true := by decide +kernel
theorem st_over : Cond.arrayOver (.object "Cursorroom$Act") ∈ lw_tbl := by decide +kernel
theorem st_arI : Cond.arrayClass .int ∈ lw_tbl := by decide +kernel
theorem st_arB : Cond.arrayClass .byte ∈ lw_tbl := by decide +kernel
theorem st_arZ : Cond.arrayClass .boolean ∈ lw_tbl := by decide +kernel
theorem st_arL : Cond.arrayClass .long ∈ lw_tbl := by decide +kernel
theorem st_ls1 : Cond.laysStatic Bundle.tN "UNASSIGNED_STACK" Bundle.steD ∈ lw_tbl := by decide +kernel
theorem st_ls2 : Cond.laysStatic Bundle.tN "SUPPRESSED_SENTINEL" Bundle.listD ∈ lw_tbl := by decide +kernel
theorem st_ini : Cond.initialized Bundle.tN ∈ lw_tbl := by decide +kernel
theorem st_ir1 : Cond.isRef (.static Bundle.tN "UNASSIGNED_STACK" Bundle.steD) ∈ gvT := by decide +kernel
theorem st_ir2 : Cond.isRef (.static Bundle.tN "SUPPRESSED_SENTINEL" Bundle.listD) ∈ gvT := by decide +kernel
end ST
theorem st_arr {s : State} {args : Array Value} {ty : FieldType} (h : (Cond.arrayClass ty).before args s = true) : ∃ c : ClassId, ArrOfT s c ty ∧ s.vm.findClass ("[" ++ ty.toString) = some c := by
  obtain ⟨c, k, comp, h1, h2, h3⟩ := Cond.arrayClass_spec h
  exact ⟨c, fun n z => ⟨fun _ h => (by cases h), k, h2, comp, h3⟩, h1⟩
set_option maxHeartbeats 1000000 in
theorem EV_start {s : State} {b : Nat} (hts : ∀ w ∈ lw_tbl, w.before #[Value.ref b] s = true) (hg : (Jvm.Cond.and given_1 narrow_1).before #[Value.ref b] s = true) : ∃ K : JK, K.2.2 = s.heap.size ∧ EV K s := by
  have hg : ∀ w ∈ gvT, w.before #[Value.ref b] s = true := flat_of_before _ hg
  have hcl : ∀ k : Nat, ∃ p : ClassId × (Nat → Nat), ∀ q : vw_C, vwCl[k]? = some q → u_Kn s q.1 q.2.1 q.2.2 p.1 p.2 := by
    intro k
    cases hq : vwCl[k]? with
    | none => exact ⟨(0, fun _ => 0), fun q h => by cases h⟩
    | some q0 =>
      have hm := List.mem_of_getElem? hq
      have h1 := List.all_eq_true.mp st_cls q0 hm
      have h2 := of_decide_eq_true (List.all_eq_true.mp st_ins q0 hm)
      obtain ⟨c, iS, h⟩ := u_known (C := q0.1) (T := q0.2.1) (N := q0.2.2) (n := q0.2.2) hts (fun w hw => of_decide_eq_true (List.all_eq_true.mp h1 w hw)) (hts _ h2)
      exact ⟨(c, iS), fun q e => by cases e; exact h⟩
  obtain ⟨cI, hI1, hI2⟩ := st_arr (hts _ st_arI)
  obtain ⟨cB, hB1, hB2⟩ := st_arr (hts _ st_arB)
  obtain ⟨cZ, hZ1, hZ2⟩ := st_arr (hts _ st_arZ)
  obtain ⟨cL, hL1, hL2⟩ := st_arr (hts _ st_arL)
  obtain ⟨comp, cA, kA, a1, -, a3, a4, a5⟩ := Cond.arrayOver_spec (hts _ st_over)
  have hA : ∀ a : Nat, a < s.heap.size → ¬ s.heap.size ≤ a := fun a h => Nat.not_le.mpr h
  refine ⟨((fun k => (Classical.choose (hcl k)).1, fun k => (Classical.choose (hcl k)).2), (cI, cB, cZ, cL, cA), s.heap.size), rfl, ⟨fun k q hq => Classical.choose_spec (hcl k) q hq, ?_⟩, ?_, ?_, ?_, ?_, ?_, ?_, ?_, ?_⟩
  · intro k q hq
    match k, hq with
    | 0, hq => cases hq; exact ⟨hI1, hI2⟩
    | 1, hq => cases hq; exact ⟨hB1, hB2⟩
    | 2, hq => cases hq; exact ⟨hZ1, hZ2⟩
    | 3, hq => cases hq; exact ⟨hL1, hL2⟩
    | 4, hq => cases hq; exact ⟨fun n z => ⟨fun _ h => (by cases h), kA, a3, comp, a4⟩, kA, comp, a3, a4, a1, a5⟩
    | k + 5, hq => cases hq
  · intro q hq
    obtain ⟨a, c, cell, k, h1, -⟩ := Cond.exactly_spec (hg _ (of_decide_eq_true (List.all_eq_true.mp st_strx q hq)))
    exact ⟨a, vk_R.of (hts _ (of_decide_eq_true (List.all_eq_true.mp st_str q hq))) h1⟩
  · intro q hq
    exact va_Nw.of rfl (hts _ (of_decide_eq_true (List.all_eq_true.mp st_nest q hq)))
  · intro q hq
    exact va_Nc.of (hg _ (of_decide_eq_true (List.all_eq_true.mp st_nc q hq)))
  · exact vx_Zqof (hts _ st_ls1) (hts _ st_ini) (hg _ st_ir1) hA
  · exact vx_Zqof (hts _ st_ls2) (hts _ st_ini) (hg _ st_ir2) hA
  · intro q hq
    exact va_Nw.of rfl (hts _ (of_decide_eq_true (List.all_eq_true.mp st_cast q hq)))
  · intro q hq
    exact va_Nw.of rfl (hts _ (of_decide_eq_true (List.all_eq_true.mp st_decl q hq)))
  · exact va_AO.of (hts _ st_over)
