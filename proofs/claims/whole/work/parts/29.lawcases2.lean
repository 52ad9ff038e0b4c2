theorem tw_1138 : Cond.methodLink "CursorroomLaw" 233 yL_setMark ∈ TB := tbN 1138 (by decide +kernel) (by decide +kernel)
theorem tw_1139 : Cond.static yL_setMark ∈ TB := tbN 1139 (by decide +kernel) (by decide +kernel)
theorem tw_1140 : Cond.codeWith yL_setMark cL_setMark 6 (some .int) [(0, 12, 15, 21)] ∈ TB := tbN 1140 (by decide +kernel) (by decide +kernel)
theorem tw_1164 : Cond.methodLink "CursorroomLaw" 243 yL_markBeside ∈ TB := tbN 1164 (by decide +kernel) (by decide +kernel)
theorem tw_1165 : Cond.static yL_markBeside ∈ TB := tbN 1165 (by decide +kernel) (by decide +kernel)
theorem tw_1166 : Cond.codeWith yL_markBeside cL_markBeside 5 (some .int) [(0, 10, 13, 21)] ∈ TB := tbN 1166 (by decide +kernel) (by decide +kernel)
theorem tw_1179 : Cond.methodLink "CursorroomLaw" 247 yL_setPattern ∈ TB := tbN 1179 (by decide +kernel) (by decide +kernel)
theorem tw_1180 : Cond.static yL_setPattern ∈ TB := tbN 1180 (by decide +kernel) (by decide +kernel)
theorem tw_1181 : Cond.codeWith yL_setPattern cL_setPattern 4 (some .int) [(0, 9, 12, 15)] ∈ TB := tbN 1181 (by decide +kernel) (by decide +kernel)
theorem tw_1192 : Cond.methodLink "CursorroomLaw" 251 yL_find ∈ TB := tbN 1192 (by decide +kernel) (by decide +kernel)
theorem tw_1193 : Cond.static yL_find ∈ TB := tbN 1193 (by decide +kernel) (by decide +kernel)
theorem tw_1194 : Cond.codeWith yL_find cL_find 5 (some .int) [(0, 10, 13, 21), (0, 10, 17, 15)] ∈ TB := tbN 1194 (by decide +kernel) (by decide +kernel)
theorem tw_1680 : Cond.methodLink "CursorroomLaw" 250 ⟨"CursorroomModel", "setPattern", "(Z)I"⟩ ∈ TB := tbN 1680 (by decide +kernel) (by decide +kernel)
theorem tw_1681 : Cond.instanceMethod ⟨"CursorroomModel", "setPattern", "(Z)I"⟩ ∈ TB := tbN 1681 (by decide +kernel) (by decide +kernel)
theorem tw_1682 : Cond.selects "CursorroomModel" ⟨"CursorroomModel", "setPattern", "(Z)I"⟩ ⟨"CursorroomModel", "setPattern", "(Z)I"⟩ ∈ TB := tbN 1682 (by decide +kernel) (by decide +kernel)
theorem tw_1683 : Cond.code yX12_setPattern cX12_setPattern 4 (some .int) ∈ TB := tbN 1683 (by decide +kernel) (by decide +kernel)
theorem tw_1691 : Cond.methodLink "CursorroomLaw" 253 ⟨"CursorroomModel", "find", "(IZ)I"⟩ ∈ TB := tbN 1691 (by decide +kernel) (by decide +kernel)
theorem tw_1692 : Cond.instanceMethod ⟨"CursorroomModel", "find", "(IZ)I"⟩ ∈ TB := tbN 1692 (by decide +kernel) (by decide +kernel)
theorem tw_1693 : Cond.selects "CursorroomModel" ⟨"CursorroomModel", "find", "(IZ)I"⟩ ⟨"CursorroomModel", "find", "(IZ)I"⟩ ∈ TB := tbN 1693 (by decide +kernel) (by decide +kernel)
theorem tw_1694 : Cond.code yX12_find cX12_find 4 (some .int) ∈ TB := tbN 1694 (by decide +kernel) (by decide +kernel)
theorem tw_1802 : Cond.methodLink "CursorroomLaw" 236 ⟨"CursorroomModel", "setMark", "(IIZ)I"⟩ ∈ TB := tbN 1802 (by decide +kernel) (by decide +kernel)
theorem tw_1803 : Cond.instanceMethod ⟨"CursorroomModel", "setMark", "(IIZ)I"⟩ ∈ TB := tbN 1803 (by decide +kernel) (by decide +kernel)
theorem tw_1804 : Cond.selects "CursorroomModel" ⟨"CursorroomModel", "setMark", "(IIZ)I"⟩ ⟨"CursorroomModel", "setMark", "(IIZ)I"⟩ ∈ TB := tbN 1804 (by decide +kernel) (by decide +kernel)
theorem tw_1805 : Cond.code yX12_setMark cX12_setMark 5 (some .int) ∈ TB := tbN 1805 (by decide +kernel) (by decide +kernel)
theorem tw_1817 : Cond.methodLink "CursorroomLaw" 246 ⟨"CursorroomModel", "markBeside", "(IZ)I"⟩ ∈ TB := tbN 1817 (by decide +kernel) (by decide +kernel)
theorem tw_1818 : Cond.instanceMethod ⟨"CursorroomModel", "markBeside", "(IZ)I"⟩ ∈ TB := tbN 1818 (by decide +kernel) (by decide +kernel)
theorem tw_1819 : Cond.selects "CursorroomModel" ⟨"CursorroomModel", "markBeside", "(IZ)I"⟩ ⟨"CursorroomModel", "markBeside", "(IZ)I"⟩ ∈ TB := tbN 1819 (by decide +kernel) (by decide +kernel)
theorem tw_1820 : Cond.code yX12_markBeside cX12_markBeside 6 (some .int) ∈ TB := tbN 1820 (by decide +kernel) (by decide +kernel)
theorem ch_233 : CH RL 233 yL_setMark cL_setMark 6 (some .int) [(0, 12, 15, 21)] 5 := ⟨tw_1138, tw_81, tw_1140, tw_1139, by decide +kernel, by decide +kernel, by decide +kernel⟩
theorem cl_RL_236 : CV RL 236 11 yX12_setMark cX12_setMark 5 (some .int) 3 := ⟨⟨tw_1802, tw_93, tw_1805, by decide +kernel, by decide +kernel, by decide +kernel⟩, tw_1804, tw_1803, TX12, 56, rfl⟩
theorem ch_243 : CH RL 243 yL_markBeside cL_markBeside 5 (some .int) [(0, 10, 13, 21)] 4 := ⟨tw_1164, tw_81, tw_1166, tw_1165, by decide +kernel, by decide +kernel, by decide +kernel⟩
theorem cl_RL_246 : CV RL 246 11 yX12_markBeside cX12_markBeside 6 (some .int) 2 := ⟨⟨tw_1817, tw_93, tw_1820, by decide +kernel, by decide +kernel, by decide +kernel⟩, tw_1819, tw_1818, TX12, 56, rfl⟩
theorem ch_247 : CH RL 247 yL_setPattern cL_setPattern 4 (some .int) [(0, 9, 12, 15)] 3 := ⟨tw_1179, tw_81, tw_1181, tw_1180, by decide +kernel, by decide +kernel, by decide +kernel⟩
theorem cl_RL_250 : CV RL 250 11 yX12_setPattern cX12_setPattern 4 (some .int) 1 := ⟨⟨tw_1680, tw_93, tw_1683, by decide +kernel, by decide +kernel, by decide +kernel⟩, tw_1682, tw_1681, TX12, 56, rfl⟩
theorem ch_251 : CH RL 251 yL_find cL_find 5 (some .int) [(0, 10, 13, 21), (0, 10, 17, 15)] 4 := ⟨tw_1192, tw_81, tw_1194, tw_1193, by decide +kernel, by decide +kernel, by decide +kernel⟩
theorem cl_RL_253 : CV RL 253 11 yX12_find cX12_find 4 (some .int) 2 := ⟨⟨tw_1691, tw_93, tw_1694, by decide +kernel, by decide +kernel, by decide +kernel⟩, tw_1693, tw_1692, TX12, 56, rfl⟩
def bz (x : Int32) : Int32 := if x = 0 then 0 else 1
theorem J_bool {X : JX} {K : JK} {nL : Nat} {g : Prop} {Q : State → Prop} {k sl n : Nat} {w : JW} {pc : Nat} {lv : List (Nat × Value)} {st : List Value} {own : String} {cc : ByteArray} (C : Cx X K nL own cc) {x : Int32} {t1 t2 : Nat} {f1 f2 : Int} (d1 : decode cc pc = .ok (.ifCond .eq f1, 3)) (h1 : (pc : Int) + f1 = (t1 : Int)) (d2 : decode cc (pc + 3) = .ok (.iconst 1, 1)) (d3 : decode cc (pc + 4) = .ok (.goto f2, 3)) (h3 : ((pc + 4 : Nat) : Int) + f2 = (t2 : Int)) (d4 : decode cc t1 = .ok (.iconst 0, 1)) (h4 : t1 + 1 = t2) (h : J X K nL g Q k sl n w t2 lv (.int (bz x) :: st)) : J X K nL g Q k sl n w pc lv (.int x :: st) := by
  refine J_if_eq (t := t1) C d1 h1 rfl (fun e => ?_) (fun e => ?_)
  · refine J_iconst (v := 0) C (by decide) d4 h4 ?_
    have e2 : bz x = 0 := if_pos e
    rw [e2] at h
    exact h
  · refine J_iconst (v := 1) C (by decide) d2 rfl ?_
    refine J_goto (t := t2) C d3 h3 ?_
    have e2 : bz x = 1 := if_neg e
    rw [e2] at h
    exact h
abbrev s_23 (xs : Nat → Int32) (i : Nat) (σ μ : Sto) (o : Int64) (Q : Sto → Sto → Int64 → Prop) : Prop := stH (f11_setMark σ (xs (i + 1)) (xs (i + 2)) (bz (xs (i + 3)))) [(1, 1)] o (f12_setMark μ (xs (i + 1)) (xs (i + 2)) (bz (xs (i + 3)))) Q
set_option maxHeartbeats 1000000 in
theorem case_23 {X : JX} {K : JK} {b L : Nat} {xs : Nat → Int32} {Q : State → Prop} {k sl : Nat} {σ μ : Sto} {o : Int64} {i : Nat} {Q9 : Sto → Sto → Int64 → Prop} (c : LC X K b L xs) (hi : i + 5 ≤ L) (hk : k + 8 ≤ X.2.2.2.1.cells) (hs : sl + 48 ≤ X.2.2.2.1.slots) (h : s_23 xs i σ μ o Q9) (kont : ∀ σ9 μ9 o9, Q9 σ9 μ9 o9 → J X K 9 False Q (k + 8) (sl + 48) 2055 (jw K σ9 μ9 o9) 2954 [(4, .int (Int32.ofNat i)), (0, .ref b), (1, .ref (K.2.2 + 0)), (2, .ref (K.2.2 + 2017)), (3, .ref (K.2.2 + 2054))] []) : J X K 9 False Q k sl 2055 (jw K σ μ o) 1590 [(4, .int (Int32.ofNat i)), (0, .ref b), (1, .ref (K.2.2 + 0)), (2, .ref (K.2.2 + 2017)), (3, .ref (K.2.2 + 2054))] [] := by
  have C := c.1
  refine J_aload_n (i := 1) (p := 2) C dL_law_1590 rfl rfl rfl ?_
  refine J_aload_n (i := 0) (p := 1) C dL_law_1591 rfl rfl rfl ?_
  refine J_iload (i := 4) (p := 0) C dL_law_1592 rfl rfl ?_
  refine J_iconst (v := 1) C (by decide) dL_law_1594 rfl ?_
  refine J_iadd C dL_law_1595 rfl ?_
  refine J_arg c 1 rfl hi (by decide) dL_law_1596 rfl ?_
  refine J_aload_n (i := 0) (p := 1) C dL_law_1597 rfl rfl rfl ?_
  refine J_iload (i := 4) (p := 0) C dL_law_1598 rfl rfl ?_
  refine J_iconst (v := 2) C (by decide) dL_law_1600 rfl ?_
  refine J_iadd C dL_law_1601 rfl ?_
  refine J_arg c 2 rfl hi (by decide) dL_law_1602 rfl ?_
  refine J_aload_n (i := 0) (p := 1) C dL_law_1603 rfl rfl rfl ?_
  refine J_iload (i := 4) (p := 0) C dL_law_1604 rfl rfl ?_
  refine J_iconst (v := 3) C (by decide) dL_law_1606 rfl ?_
  refine J_iadd C dL_law_1607 rfl ?_
  refine J_arg c 3 rfl hi (by decide) dL_law_1608 rfl ?_
  refine J_bool (t1 := 1616) (t2 := 1617) C dL_law_1609 (by decide) dL_law_1612 dL_law_1613 (by decide) dL_law_1616 rfl ?_
  refine J_aload_n (i := 3) (p := 4) C dL_law_1617 rfl rfl rfl ?_
  refine Jl_cH (rest := []) (st9 := fun r => [.int r.1]) C ch_233 (hL_setMark c.2.1 h) rfl rfl (Nat.le_trans (by decide) c.2.2.2.2.2.2.1) (Nat.le_trans (by decide) c.2.2.2.2.2.2.2) (Nat.le_of_ble_eq_true rfl) ⟨by omega, by omega⟩ dL_law_1618 rfl (fun _ => rfl) (fun r h => ?_)
  refine J_istoreE (i := 5) (x' := r.1) (lv' := [(5, .int r.1), (4, .int (Int32.ofNat i)), (0, .ref b), (1, .ref (K.2.2 + 0)), (2, .ref (K.2.2 + 2017)), (3, .ref (K.2.2 + 2054))]) C rfl dL_law_1621 (Nat.le_of_ble_eq_true rfl) rfl rfl ?_
  refine J_aload_n (i := 2) (p := 4) C dL_law_1623 rfl rfl rfl ?_
  refine J_aload_n (i := 0) (p := 2) C dL_law_1624 rfl rfl rfl ?_
  refine J_iload (i := 4) (p := 1) C dL_law_1625 rfl rfl ?_
  refine J_iconst (v := 1) C (by decide) dL_law_1627 rfl ?_
  refine J_iadd C dL_law_1628 rfl ?_
  refine J_arg c 1 rfl hi (by decide) dL_law_1629 rfl ?_
  refine J_aload_n (i := 0) (p := 2) C dL_law_1630 rfl rfl rfl ?_
  refine J_iload (i := 4) (p := 1) C dL_law_1631 rfl rfl ?_
  refine J_iconst (v := 2) C (by decide) dL_law_1633 rfl ?_
  refine J_iadd C dL_law_1634 rfl ?_
  refine J_arg c 2 rfl hi (by decide) dL_law_1635 rfl ?_
  refine J_aload_n (i := 0) (p := 2) C dL_law_1636 rfl rfl rfl ?_
  refine J_iload (i := 4) (p := 1) C dL_law_1637 rfl rfl ?_
  refine J_iconst (v := 3) C (by decide) dL_law_1639 rfl ?_
  refine J_iadd C dL_law_1640 rfl ?_
  refine J_arg c 3 rfl hi (by decide) dL_law_1641 rfl ?_
  refine J_bool (t1 := 1649) (t2 := 1650) C dL_law_1642 (by decide) dL_law_1645 dL_law_1646 (by decide) dL_law_1649 rfl ?_
  refine Jl_mV (rest := []) (st9 := fun p => [.int p.1]) C cl_RL_236 rfl (Nat.le_of_ble_eq_true rfl) (k12_setMark c.2.1 h) rfl rfl (Nat.le_trans (by decide) c.2.2.2.2.2.2.1) (Nat.le_trans (by decide) c.2.2.2.2.2.2.2) (Nat.le_of_ble_eq_true rfl) ⟨by omega, by omega⟩ dL_law_1650 rfl (fun _ => rfl) (fun p h => ?_)
  refine J_istoreE (i := 6) (x' := p.1) (lv' := [(6, .int p.1), (5, .int r.1), (4, .int (Int32.ofNat i)), (0, .ref b), (1, .ref (K.2.2 + 0)), (2, .ref (K.2.2 + 2017)), (3, .ref (K.2.2 + 2054))]) C rfl dL_law_1653 (Nat.le_of_ble_eq_true rfl) rfl rfl ?_
  refine J_aload_n (i := 2) (p := 5) C dL_law_1655 rfl rfl rfl ?_
  refine Jl_mV (rest := []) (st9 := fun t => [.int t]) C cl_RL_156 rfl (Nat.le_of_ble_eq_true rfl) (k12_thrown c.2.1 h) rfl rfl (Nat.le_trans (by decide) c.2.2.2.2.2.2.1) (Nat.le_trans (by decide) c.2.2.2.2.2.2.2) (Nat.le_of_ble_eq_true rfl) ⟨by omega, by omega⟩ dL_law_1656 rfl (fun _ => rfl) (fun t h => ?_)
  obtain ⟨h1, h2, h3⟩ := h
  refine J_iload (i := 5) (p := 1) C dL_law_1659 rfl rfl ?_
  refine J_icmp_eq (t := 1666) C dL_law_1661 (by decide) rfl (fun _ => ?_) (fun e => absurd h1 e)
  refine J_iload (i := 5) (p := 1) C dL_law_1666 rfl rfl ?_
  refine J_if_ne (t := 1683) C dL_law_1668 (by decide) rfl (fun _ => ?_) (fun e => ?_)
  · refine J_goto (t := 2954) C dL_law_1683 (by decide) ?_
    refine J.sub [2, 3, 4, 5, 6] rfl ?_
    exact J.widen (by omega) (by omega) (kont _ _ _ h3)
  · refine J_aload_n (i := 3) (p := 6) C dL_law_1671 rfl rfl rfl ?_
    refine J_iconst (v := 0) C (by decide) dL_law_1672 rfl ?_
    refine J_outld C dL_law_1673 rfl ?_
    refine J_iload (i := 6) (p := 0) C dL_law_1674 rfl rfl ?_
    refine J_i2l C dL_law_1676 rfl ?_
    refine J_lcmp C dL_law_1677 rfl ?_
    rw [show lg_cmp r.2.2 p.1.toInt64 = 0 from by rw [h2 (Decidable.not_not.mp e)]; exact lg_cmp_self]
    refine J_if_eq (t := 1683) C dL_law_1678 (by decide) rfl (fun _ => ?_) (fun e => absurd rfl e)
    refine J_goto (t := 2954) C dL_law_1683 (by decide) ?_
    refine J.sub [2, 3, 4, 5, 6] rfl ?_
    exact J.widen (by omega) (by omega) (kont _ _ _ h3)
abbrev s_26 (xs : Nat → Int32) (i : Nat) (σ μ : Sto) (o : Int64) (Q : Sto → Sto → Int64 → Prop) : Prop := stH (f11_markBeside σ (xs (i + 1)) (bz (xs (i + 2)))) [(1, 1)] o (f12_markBeside μ (xs (i + 1)) (bz (xs (i + 2)))) Q
set_option maxHeartbeats 1000000 in
theorem case_26 {X : JX} {K : JK} {b L : Nat} {xs : Nat → Int32} {Q : State → Prop} {k sl : Nat} {σ μ : Sto} {o : Int64} {i : Nat} {Q9 : Sto → Sto → Int64 → Prop} (c : LC X K b L xs) (hi : i + 5 ≤ L) (hk : k + 8 ≤ X.2.2.2.1.cells) (hs : sl + 48 ≤ X.2.2.2.1.slots) (h : s_26 xs i σ μ o Q9) (kont : ∀ σ9 μ9 o9, Q9 σ9 μ9 o9 → J X K 9 False Q (k + 8) (sl + 48) 2055 (jw K σ9 μ9 o9) 2954 [(4, .int (Int32.ofNat i)), (0, .ref b), (1, .ref (K.2.2 + 0)), (2, .ref (K.2.2 + 2017)), (3, .ref (K.2.2 + 2054))] []) : J X K 9 False Q k sl 2055 (jw K σ μ o) 1798 [(4, .int (Int32.ofNat i)), (0, .ref b), (1, .ref (K.2.2 + 0)), (2, .ref (K.2.2 + 2017)), (3, .ref (K.2.2 + 2054))] [] := by
  have C := c.1
  refine J_aload_n (i := 1) (p := 2) C dL_law_1798 rfl rfl rfl ?_
  refine J_aload_n (i := 0) (p := 1) C dL_law_1799 rfl rfl rfl ?_
  refine J_iload (i := 4) (p := 0) C dL_law_1800 rfl rfl ?_
  refine J_iconst (v := 1) C (by decide) dL_law_1802 rfl ?_
  refine J_iadd C dL_law_1803 rfl ?_
  refine J_arg c 1 rfl hi (by decide) dL_law_1804 rfl ?_
  refine J_aload_n (i := 0) (p := 1) C dL_law_1805 rfl rfl rfl ?_
  refine J_iload (i := 4) (p := 0) C dL_law_1806 rfl rfl ?_
  refine J_iconst (v := 2) C (by decide) dL_law_1808 rfl ?_
  refine J_iadd C dL_law_1809 rfl ?_
  refine J_arg c 2 rfl hi (by decide) dL_law_1810 rfl ?_
  refine J_bool (t1 := 1818) (t2 := 1819) C dL_law_1811 (by decide) dL_law_1814 dL_law_1815 (by decide) dL_law_1818 rfl ?_
  refine J_aload_n (i := 3) (p := 4) C dL_law_1819 rfl rfl rfl ?_
  refine Jl_cH (rest := []) (st9 := fun r => [.int r.1]) C ch_243 (hL_markBeside c.2.1 h) rfl rfl (Nat.le_trans (by decide) c.2.2.2.2.2.2.1) (Nat.le_trans (by decide) c.2.2.2.2.2.2.2) (Nat.le_of_ble_eq_true rfl) ⟨by omega, by omega⟩ dL_law_1820 rfl (fun _ => rfl) (fun r h => ?_)
  refine J_istoreE (i := 5) (x' := r.1) (lv' := [(5, .int r.1), (4, .int (Int32.ofNat i)), (0, .ref b), (1, .ref (K.2.2 + 0)), (2, .ref (K.2.2 + 2017)), (3, .ref (K.2.2 + 2054))]) C rfl dL_law_1823 (Nat.le_of_ble_eq_true rfl) rfl rfl ?_
  refine J_aload_n (i := 2) (p := 4) C dL_law_1825 rfl rfl rfl ?_
  refine J_aload_n (i := 0) (p := 2) C dL_law_1826 rfl rfl rfl ?_
  refine J_iload (i := 4) (p := 1) C dL_law_1827 rfl rfl ?_
  refine J_iconst (v := 1) C (by decide) dL_law_1829 rfl ?_
  refine J_iadd C dL_law_1830 rfl ?_
  refine J_arg c 1 rfl hi (by decide) dL_law_1831 rfl ?_
  refine J_aload_n (i := 0) (p := 2) C dL_law_1832 rfl rfl rfl ?_
  refine J_iload (i := 4) (p := 1) C dL_law_1833 rfl rfl ?_
  refine J_iconst (v := 2) C (by decide) dL_law_1835 rfl ?_
  refine J_iadd C dL_law_1836 rfl ?_
  refine J_arg c 2 rfl hi (by decide) dL_law_1837 rfl ?_
  refine J_bool (t1 := 1845) (t2 := 1846) C dL_law_1838 (by decide) dL_law_1841 dL_law_1842 (by decide) dL_law_1845 rfl ?_
  refine Jl_mV (rest := []) (st9 := fun p => [.int p.1]) C cl_RL_246 rfl (Nat.le_of_ble_eq_true rfl) (k12_markBeside c.2.1 h) rfl rfl (Nat.le_trans (by decide) c.2.2.2.2.2.2.1) (Nat.le_trans (by decide) c.2.2.2.2.2.2.2) (Nat.le_of_ble_eq_true rfl) ⟨by omega, by omega⟩ dL_law_1846 rfl (fun _ => rfl) (fun p h => ?_)
  refine J_istoreE (i := 6) (x' := p.1) (lv' := [(6, .int p.1), (5, .int r.1), (4, .int (Int32.ofNat i)), (0, .ref b), (1, .ref (K.2.2 + 0)), (2, .ref (K.2.2 + 2017)), (3, .ref (K.2.2 + 2054))]) C rfl dL_law_1849 (Nat.le_of_ble_eq_true rfl) rfl rfl ?_
  refine J_aload_n (i := 2) (p := 5) C dL_law_1851 rfl rfl rfl ?_
  refine Jl_mV (rest := []) (st9 := fun t => [.int t]) C cl_RL_156 rfl (Nat.le_of_ble_eq_true rfl) (k12_thrown c.2.1 h) rfl rfl (Nat.le_trans (by decide) c.2.2.2.2.2.2.1) (Nat.le_trans (by decide) c.2.2.2.2.2.2.2) (Nat.le_of_ble_eq_true rfl) ⟨by omega, by omega⟩ dL_law_1852 rfl (fun _ => rfl) (fun t h => ?_)
  obtain ⟨h1, h2, h3⟩ := h
  refine J_iload (i := 5) (p := 1) C dL_law_1855 rfl rfl ?_
  refine J_icmp_eq (t := 1862) C dL_law_1857 (by decide) rfl (fun _ => ?_) (fun e => absurd h1 e)
  refine J_iload (i := 5) (p := 1) C dL_law_1862 rfl rfl ?_
  refine J_if_ne (t := 1879) C dL_law_1864 (by decide) rfl (fun _ => ?_) (fun e => ?_)
  · refine J_goto (t := 2954) C dL_law_1879 (by decide) ?_
    refine J.sub [2, 3, 4, 5, 6] rfl ?_
    exact J.widen (by omega) (by omega) (kont _ _ _ h3)
  · refine J_aload_n (i := 3) (p := 6) C dL_law_1867 rfl rfl rfl ?_
    refine J_iconst (v := 0) C (by decide) dL_law_1868 rfl ?_
    refine J_outld C dL_law_1869 rfl ?_
    refine J_iload (i := 6) (p := 0) C dL_law_1870 rfl rfl ?_
    refine J_i2l C dL_law_1872 rfl ?_
    refine J_lcmp C dL_law_1873 rfl ?_
    rw [show lg_cmp r.2.2 p.1.toInt64 = 0 from by rw [h2 (Decidable.not_not.mp e)]; exact lg_cmp_self]
    refine J_if_eq (t := 1879) C dL_law_1874 (by decide) rfl (fun _ => ?_) (fun e => absurd rfl e)
    refine J_goto (t := 2954) C dL_law_1879 (by decide) ?_
    refine J.sub [2, 3, 4, 5, 6] rfl ?_
    exact J.widen (by omega) (by omega) (kont _ _ _ h3)
abbrev s_27 (xs : Nat → Int32) (i : Nat) (σ μ : Sto) (o : Int64) (Q : Sto → Sto → Int64 → Prop) : Prop := stH (f11_setPattern σ (bz (xs (i + 1)))) [(3, 1)] o (f12_setPattern μ (bz (xs (i + 1)))) Q
set_option maxHeartbeats 1000000 in
theorem case_27 {X : JX} {K : JK} {b L : Nat} {xs : Nat → Int32} {Q : State → Prop} {k sl : Nat} {σ μ : Sto} {o : Int64} {i : Nat} {Q9 : Sto → Sto → Int64 → Prop} (c : LC X K b L xs) (hi : i + 5 ≤ L) (hk : k + 8 ≤ X.2.2.2.1.cells) (hs : sl + 48 ≤ X.2.2.2.1.slots) (h : s_27 xs i σ μ o Q9) (kont : ∀ σ9 μ9 o9, Q9 σ9 μ9 o9 → J X K 9 False Q (k + 8) (sl + 48) 2055 (jw K σ9 μ9 o9) 2954 [(4, .int (Int32.ofNat i)), (0, .ref b), (1, .ref (K.2.2 + 0)), (2, .ref (K.2.2 + 2017)), (3, .ref (K.2.2 + 2054))] []) : J X K 9 False Q k sl 2055 (jw K σ μ o) 1882 [(4, .int (Int32.ofNat i)), (0, .ref b), (1, .ref (K.2.2 + 0)), (2, .ref (K.2.2 + 2017)), (3, .ref (K.2.2 + 2054))] [] := by
  have C := c.1
  refine J_aload_n (i := 1) (p := 2) C dL_law_1882 rfl rfl rfl ?_
  refine J_aload_n (i := 0) (p := 1) C dL_law_1883 rfl rfl rfl ?_
  refine J_iload (i := 4) (p := 0) C dL_law_1884 rfl rfl ?_
  refine J_iconst (v := 1) C (by decide) dL_law_1886 rfl ?_
  refine J_iadd C dL_law_1887 rfl ?_
  refine J_arg c 1 rfl hi (by decide) dL_law_1888 rfl ?_
  refine J_bool (t1 := 1896) (t2 := 1897) C dL_law_1889 (by decide) dL_law_1892 dL_law_1893 (by decide) dL_law_1896 rfl ?_
  refine J_aload_n (i := 3) (p := 4) C dL_law_1897 rfl rfl rfl ?_
  refine Jl_cH (rest := []) (st9 := fun r => [.int r.1]) C ch_247 (hL_setPattern c.2.1 h) rfl rfl (Nat.le_trans (by decide) c.2.2.2.2.2.2.1) (Nat.le_trans (by decide) c.2.2.2.2.2.2.2) (Nat.le_of_ble_eq_true rfl) ⟨by omega, by omega⟩ dL_law_1898 rfl (fun _ => rfl) (fun r h => ?_)
  refine J_istoreE (i := 5) (x' := r.1) (lv' := [(5, .int r.1), (4, .int (Int32.ofNat i)), (0, .ref b), (1, .ref (K.2.2 + 0)), (2, .ref (K.2.2 + 2017)), (3, .ref (K.2.2 + 2054))]) C rfl dL_law_1901 (Nat.le_of_ble_eq_true rfl) rfl rfl ?_
  refine J_aload_n (i := 2) (p := 4) C dL_law_1903 rfl rfl rfl ?_
  refine J_aload_n (i := 0) (p := 2) C dL_law_1904 rfl rfl rfl ?_
  refine J_iload (i := 4) (p := 1) C dL_law_1905 rfl rfl ?_
  refine J_iconst (v := 1) C (by decide) dL_law_1907 rfl ?_
  refine J_iadd C dL_law_1908 rfl ?_
  refine J_arg c 1 rfl hi (by decide) dL_law_1909 rfl ?_
  refine J_bool (t1 := 1917) (t2 := 1918) C dL_law_1910 (by decide) dL_law_1913 dL_law_1914 (by decide) dL_law_1917 rfl ?_
  refine Jl_mV (rest := []) (st9 := fun p => [.int p.1]) C cl_RL_250 rfl (Nat.le_of_ble_eq_true rfl) (k12_setPattern c.2.1 h) rfl rfl (Nat.le_trans (by decide) c.2.2.2.2.2.2.1) (Nat.le_trans (by decide) c.2.2.2.2.2.2.2) (Nat.le_of_ble_eq_true rfl) ⟨by omega, by omega⟩ dL_law_1918 rfl (fun _ => rfl) (fun p h => ?_)
  refine J_istoreE (i := 6) (x' := p.1) (lv' := [(6, .int p.1), (5, .int r.1), (4, .int (Int32.ofNat i)), (0, .ref b), (1, .ref (K.2.2 + 0)), (2, .ref (K.2.2 + 2017)), (3, .ref (K.2.2 + 2054))]) C rfl dL_law_1921 (Nat.le_of_ble_eq_true rfl) rfl rfl ?_
  refine J_aload_n (i := 2) (p := 5) C dL_law_1923 rfl rfl rfl ?_
  refine Jl_mV (rest := []) (st9 := fun t => [.int t]) C cl_RL_156 rfl (Nat.le_of_ble_eq_true rfl) (k12_thrown c.2.1 h) rfl rfl (Nat.le_trans (by decide) c.2.2.2.2.2.2.1) (Nat.le_trans (by decide) c.2.2.2.2.2.2.2) (Nat.le_of_ble_eq_true rfl) ⟨by omega, by omega⟩ dL_law_1924 rfl (fun _ => rfl) (fun t h => ?_)
  obtain ⟨h1, h2, h3⟩ := h
  refine J_iload (i := 5) (p := 1) C dL_law_1927 rfl rfl ?_
  refine J_icmp_eq (t := 1934) C dL_law_1929 (by decide) rfl (fun _ => ?_) (fun e => absurd h1 e)
  refine J_iload (i := 5) (p := 1) C dL_law_1934 rfl rfl ?_
  refine J_if_ne (t := 1951) C dL_law_1936 (by decide) rfl (fun _ => ?_) (fun e => ?_)
  · refine J_goto (t := 2954) C dL_law_1951 (by decide) ?_
    refine J.sub [2, 3, 4, 5, 6] rfl ?_
    exact J.widen (by omega) (by omega) (kont _ _ _ h3)
  · refine J_aload_n (i := 3) (p := 6) C dL_law_1939 rfl rfl rfl ?_
    refine J_iconst (v := 0) C (by decide) dL_law_1940 rfl ?_
    refine J_outld C dL_law_1941 rfl ?_
    refine J_iload (i := 6) (p := 0) C dL_law_1942 rfl rfl ?_
    refine J_i2l C dL_law_1944 rfl ?_
    refine J_lcmp C dL_law_1945 rfl ?_
    rw [show lg_cmp r.2.2 p.1.toInt64 = 0 from by rw [h2 (Decidable.not_not.mp e)]; exact lg_cmp_self]
    refine J_if_eq (t := 1951) C dL_law_1946 (by decide) rfl (fun _ => ?_) (fun e => absurd rfl e)
    refine J_goto (t := 2954) C dL_law_1951 (by decide) ?_
    refine J.sub [2, 3, 4, 5, 6] rfl ?_
    exact J.widen (by omega) (by omega) (kont _ _ _ h3)
abbrev s_28 (xs : Nat → Int32) (i : Nat) (σ μ : Sto) (o : Int64) (Q : Sto → Sto → Int64 → Prop) : Prop := stH (f11_find σ (xs (i + 1)) (bz (xs (i + 2)))) [(1, 1), (3, 2)] o (f12_find μ (xs (i + 1)) (bz (xs (i + 2)))) Q
set_option maxHeartbeats 1000000 in
theorem case_28 {X : JX} {K : JK} {b L : Nat} {xs : Nat → Int32} {Q : State → Prop} {k sl : Nat} {σ μ : Sto} {o : Int64} {i : Nat} {Q9 : Sto → Sto → Int64 → Prop} (c : LC X K b L xs) (hi : i + 5 ≤ L) (hk : k + 8 ≤ X.2.2.2.1.cells) (hs : sl + 48 ≤ X.2.2.2.1.slots) (h : s_28 xs i σ μ o Q9) (kont : ∀ σ9 μ9 o9, Q9 σ9 μ9 o9 → J X K 9 False Q (k + 8) (sl + 48) 2055 (jw K σ9 μ9 o9) 2954 [(4, .int (Int32.ofNat i)), (0, .ref b), (1, .ref (K.2.2 + 0)), (2, .ref (K.2.2 + 2017)), (3, .ref (K.2.2 + 2054))] []) : J X K 9 False Q k sl 2055 (jw K σ μ o) 1954 [(4, .int (Int32.ofNat i)), (0, .ref b), (1, .ref (K.2.2 + 0)), (2, .ref (K.2.2 + 2017)), (3, .ref (K.2.2 + 2054))] [] := by
  have C := c.1
  refine J_aload_n (i := 1) (p := 2) C dL_law_1954 rfl rfl rfl ?_
  refine J_aload_n (i := 0) (p := 1) C dL_law_1955 rfl rfl rfl ?_
  refine J_iload (i := 4) (p := 0) C dL_law_1956 rfl rfl ?_
  refine J_iconst (v := 1) C (by decide) dL_law_1958 rfl ?_
  refine J_iadd C dL_law_1959 rfl ?_
  refine J_arg c 1 rfl hi (by decide) dL_law_1960 rfl ?_
  refine J_aload_n (i := 0) (p := 1) C dL_law_1961 rfl rfl rfl ?_
  refine J_iload (i := 4) (p := 0) C dL_law_1962 rfl rfl ?_
  refine J_iconst (v := 2) C (by decide) dL_law_1964 rfl ?_
  refine J_iadd C dL_law_1965 rfl ?_
  refine J_arg c 2 rfl hi (by decide) dL_law_1966 rfl ?_
  refine J_bool (t1 := 1974) (t2 := 1975) C dL_law_1967 (by decide) dL_law_1970 dL_law_1971 (by decide) dL_law_1974 rfl ?_
  refine J_aload_n (i := 3) (p := 4) C dL_law_1975 rfl rfl rfl ?_
  refine Jl_cH (rest := []) (st9 := fun r => [.int r.1]) C ch_251 (hL_find c.2.1 h) rfl rfl (Nat.le_trans (by decide) c.2.2.2.2.2.2.1) (Nat.le_trans (by decide) c.2.2.2.2.2.2.2) (Nat.le_of_ble_eq_true rfl) ⟨by omega, by omega⟩ dL_law_1976 rfl (fun _ => rfl) (fun r h => ?_)
  refine J_istoreE (i := 5) (x' := r.1) (lv' := [(5, .int r.1), (4, .int (Int32.ofNat i)), (0, .ref b), (1, .ref (K.2.2 + 0)), (2, .ref (K.2.2 + 2017)), (3, .ref (K.2.2 + 2054))]) C rfl dL_law_1979 (Nat.le_of_ble_eq_true rfl) rfl rfl ?_
  refine J_aload_n (i := 2) (p := 4) C dL_law_1981 rfl rfl rfl ?_
  refine J_aload_n (i := 0) (p := 2) C dL_law_1982 rfl rfl rfl ?_
  refine J_iload (i := 4) (p := 1) C dL_law_1983 rfl rfl ?_
  refine J_iconst (v := 1) C (by decide) dL_law_1985 rfl ?_
  refine J_iadd C dL_law_1986 rfl ?_
  refine J_arg c 1 rfl hi (by decide) dL_law_1987 rfl ?_
  refine J_aload_n (i := 0) (p := 2) C dL_law_1988 rfl rfl rfl ?_
  refine J_iload (i := 4) (p := 1) C dL_law_1989 rfl rfl ?_
  refine J_iconst (v := 2) C (by decide) dL_law_1991 rfl ?_
  refine J_iadd C dL_law_1992 rfl ?_
  refine J_arg c 2 rfl hi (by decide) dL_law_1993 rfl ?_
  refine J_bool (t1 := 2001) (t2 := 2002) C dL_law_1994 (by decide) dL_law_1997 dL_law_1998 (by decide) dL_law_2001 rfl ?_
  refine Jl_mV (rest := []) (st9 := fun p => [.int p.1]) C cl_RL_253 rfl (Nat.le_of_ble_eq_true rfl) (k12_find c.2.1 h) rfl rfl (Nat.le_trans (by decide) c.2.2.2.2.2.2.1) (Nat.le_trans (by decide) c.2.2.2.2.2.2.2) (Nat.le_of_ble_eq_true rfl) ⟨by omega, by omega⟩ dL_law_2002 rfl (fun _ => rfl) (fun p h => ?_)
  refine J_istoreE (i := 6) (x' := p.1) (lv' := [(6, .int p.1), (5, .int r.1), (4, .int (Int32.ofNat i)), (0, .ref b), (1, .ref (K.2.2 + 0)), (2, .ref (K.2.2 + 2017)), (3, .ref (K.2.2 + 2054))]) C rfl dL_law_2005 (Nat.le_of_ble_eq_true rfl) rfl rfl ?_
  refine J_aload_n (i := 2) (p := 5) C dL_law_2007 rfl rfl rfl ?_
  refine Jl_mV (rest := []) (st9 := fun t => [.int t]) C cl_RL_156 rfl (Nat.le_of_ble_eq_true rfl) (k12_thrown c.2.1 h) rfl rfl (Nat.le_trans (by decide) c.2.2.2.2.2.2.1) (Nat.le_trans (by decide) c.2.2.2.2.2.2.2) (Nat.le_of_ble_eq_true rfl) ⟨by omega, by omega⟩ dL_law_2008 rfl (fun _ => rfl) (fun t h => ?_)
  obtain ⟨h1, h2, h3⟩ := h
  refine J_iload (i := 5) (p := 1) C dL_law_2011 rfl rfl ?_
  refine J_icmp_eq (t := 2018) C dL_law_2013 (by decide) rfl (fun _ => ?_) (fun e => absurd h1 e)
  refine J_iload (i := 5) (p := 1) C dL_law_2018 rfl rfl ?_
  refine J_if_ne (t := 2035) C dL_law_2020 (by decide) rfl (fun _ => ?_) (fun e => ?_)
  · refine J_goto (t := 2954) C dL_law_2035 (by decide) ?_
    refine J.sub [2, 3, 4, 5, 6] rfl ?_
    exact J.widen (by omega) (by omega) (kont _ _ _ h3)
  · refine J_aload_n (i := 3) (p := 6) C dL_law_2023 rfl rfl rfl ?_
    refine J_iconst (v := 0) C (by decide) dL_law_2024 rfl ?_
    refine J_outld C dL_law_2025 rfl ?_
    refine J_iload (i := 6) (p := 0) C dL_law_2026 rfl rfl ?_
    refine J_i2l C dL_law_2028 rfl ?_
    refine J_lcmp C dL_law_2029 rfl ?_
    rw [show lg_cmp r.2.2 p.1.toInt64 = 0 from by rw [h2 (Decidable.not_not.mp e)]; exact lg_cmp_self]
    refine J_if_eq (t := 2035) C dL_law_2030 (by decide) rfl (fun _ => ?_) (fun e => absurd rfl e)
    refine J_goto (t := 2954) C dL_law_2035 (by decide) ?_
    refine J.sub [2, 3, 4, 5, 6] rfl ?_
    exact J.widen (by omega) (by omega) (kont _ _ _ h3)
