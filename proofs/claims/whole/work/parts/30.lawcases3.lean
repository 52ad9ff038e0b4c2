def lz (x : Int32) : Int64 := if x = 0 then 0 else 1
theorem J_lbool {X : JX} {K : JK} {nL : Nat} {g : Prop} {Q : State → Prop} {k sl n : Nat} {w : JW} {pc : Nat} {lv : List (Nat × Value)} {st : List Value} {own : String} {cc : ByteArray} (C : Cx X K nL own cc) {x : Int32} {t1 t2 : Nat} {f1 f2 : Int} (d1 : decode cc pc = .ok (.ifCond .eq f1, 3)) (h1 : (pc : Int) + f1 = (t1 : Int)) (d2 : decode cc (pc + 3) = .ok (.lconst 1, 1)) (d3 : decode cc (pc + 4) = .ok (.goto f2, 3)) (h3 : ((pc + 4 : Nat) : Int) + f2 = (t2 : Int)) (d4 : decode cc t1 = .ok (.lconst 0, 1)) (h4 : t1 + 1 = t2) (h : J X K nL g Q k sl n w t2 lv (.long (lz x) :: st)) : J X K nL g Q k sl n w pc lv (.int x :: st) := by
  refine J_if_eq (t := t1) C d1 h1 rfl (fun e => ?_) (fun e => ?_)
  · refine J_lconst (v := 0) C (by decide) d4 h4 ?_
    have e2 : lz x = 0 := if_pos e
    rw [e2] at h
    exact h
  · refine J_lconst (v := 1) C (by decide) d2 rfl ?_
    refine J_goto (t := t2) C d3 h3 ?_
    have e2 : lz x = 1 := if_neg e
    rw [e2] at h
    exact h
theorem tw_474 : Cond.methodLink "CursorroomLaw" 159 ⟨"Cursorroom", "clearTape", "()I"⟩ ∈ TB := tbN 474 (by decide +kernel) (by decide +kernel)
theorem tw_475 : Cond.instanceMethod ⟨"Cursorroom", "clearTape", "()I"⟩ ∈ TB := tbN 475 (by decide +kernel) (by decide +kernel)
theorem tw_476 : Cond.selects "Cursorroom" ⟨"Cursorroom", "clearTape", "()I"⟩ ⟨"Cursorroom", "clearTape", "()I"⟩ ∈ TB := tbN 476 (by decide +kernel) (by decide +kernel)
theorem tw_477 : Cond.code yX11_clearTape cX11_clearTape 2 (some .int) ∈ TB := tbN 477 (by decide +kernel) (by decide +kernel)
theorem tw_478 : Cond.methodLink "CursorroomLaw" 213 ⟨"Cursorroom", "group", "(Z)Z"⟩ ∈ TB := tbN 478 (by decide +kernel) (by decide +kernel)
theorem tw_479 : Cond.instanceMethod ⟨"Cursorroom", "group", "(Z)Z"⟩ ∈ TB := tbN 479 (by decide +kernel) (by decide +kernel)
theorem tw_480 : Cond.selects "Cursorroom" ⟨"Cursorroom", "group", "(Z)Z"⟩ ⟨"Cursorroom", "group", "(Z)Z"⟩ ∈ TB := tbN 480 (by decide +kernel) (by decide +kernel)
theorem tw_481 : Cond.code yX11_group cX11_group 3 (some .boolean) ∈ TB := tbN 481 (by decide +kernel) (by decide +kernel)
theorem tw_486 : Cond.methodLink "CursorroomLaw" 269 ⟨"Cursorroom", "record", "(Z)I"⟩ ∈ TB := tbN 486 (by decide +kernel) (by decide +kernel)
theorem tw_487 : Cond.instanceMethod ⟨"Cursorroom", "record", "(Z)I"⟩ ∈ TB := tbN 487 (by decide +kernel) (by decide +kernel)
theorem tw_488 : Cond.selects "Cursorroom" ⟨"Cursorroom", "record", "(Z)I"⟩ ⟨"Cursorroom", "record", "(Z)I"⟩ ∈ TB := tbN 488 (by decide +kernel) (by decide +kernel)
theorem tw_489 : Cond.code yX11_record cX11_record 3 (some .int) ∈ TB := tbN 489 (by decide +kernel) (by decide +kernel)
theorem tw_490 : Cond.methodLink "CursorroomLaw" 294 ⟨"Cursorroom", "hash", "()I"⟩ ∈ TB := tbN 490 (by decide +kernel) (by decide +kernel)
theorem tw_491 : Cond.instanceMethod ⟨"Cursorroom", "hash", "()I"⟩ ∈ TB := tbN 491 (by decide +kernel) (by decide +kernel)
theorem tw_492 : Cond.selects "Cursorroom" ⟨"Cursorroom", "hash", "()I"⟩ ⟨"Cursorroom", "hash", "()I"⟩ ∈ TB := tbN 492 (by decide +kernel) (by decide +kernel)
theorem tw_493 : Cond.code yX11_hash cX11_hash 1 (some .int) ∈ TB := tbN 493 (by decide +kernel) (by decide +kernel)
theorem tw_498 : Cond.methodLink "CursorroomLaw" 298 ⟨"Cursorroom", "meanLine", "()D"⟩ ∈ TB := tbN 498 (by decide +kernel) (by decide +kernel)
theorem tw_499 : Cond.instanceMethod ⟨"Cursorroom", "meanLine", "()D"⟩ ∈ TB := tbN 499 (by decide +kernel) (by decide +kernel)
theorem tw_500 : Cond.selects "Cursorroom" ⟨"Cursorroom", "meanLine", "()D"⟩ ⟨"Cursorroom", "meanLine", "()D"⟩ ∈ TB := tbN 500 (by decide +kernel) (by decide +kernel)
theorem tw_501 : Cond.code yX11_meanLine cX11_meanLine 2 (some .double) ∈ TB := tbN 501 (by decide +kernel) (by decide +kernel)
theorem tw_502 : Cond.methodLink "CursorroomLaw" 303 ⟨"Cursorroom", "keep", "()I"⟩ ∈ TB := tbN 502 (by decide +kernel) (by decide +kernel)
theorem tw_503 : Cond.instanceMethod ⟨"Cursorroom", "keep", "()I"⟩ ∈ TB := tbN 503 (by decide +kernel) (by decide +kernel)
theorem tw_504 : Cond.selects "Cursorroom" ⟨"Cursorroom", "keep", "()I"⟩ ⟨"Cursorroom", "keep", "()I"⟩ ∈ TB := tbN 504 (by decide +kernel) (by decide +kernel)
theorem tw_505 : Cond.code yX11_keep cX11_keep 1 (some .int) ∈ TB := tbN 505 (by decide +kernel) (by decide +kernel)
theorem tw_513 : Cond.methodLink "CursorroomLaw" 307 ⟨"Cursorroom", "differences", "()I"⟩ ∈ TB := tbN 513 (by decide +kernel) (by decide +kernel)
theorem tw_514 : Cond.instanceMethod ⟨"Cursorroom", "differences", "()I"⟩ ∈ TB := tbN 514 (by decide +kernel) (by decide +kernel)
theorem tw_515 : Cond.selects "Cursorroom" ⟨"Cursorroom", "differences", "()I"⟩ ⟨"Cursorroom", "differences", "()I"⟩ ∈ TB := tbN 515 (by decide +kernel) (by decide +kernel)
theorem tw_516 : Cond.code yX11_differences cX11_differences 2 (some .int) ∈ TB := tbN 516 (by decide +kernel) (by decide +kernel)
theorem tw_536 : Cond.methodLink "CursorroomLaw" 311 ⟨"Cursorroom", "sameShare", "()F"⟩ ∈ TB := tbN 536 (by decide +kernel) (by decide +kernel)
theorem tw_537 : Cond.instanceMethod ⟨"Cursorroom", "sameShare", "()F"⟩ ∈ TB := tbN 537 (by decide +kernel) (by decide +kernel)
theorem tw_538 : Cond.selects "Cursorroom" ⟨"Cursorroom", "sameShare", "()F"⟩ ⟨"Cursorroom", "sameShare", "()F"⟩ ∈ TB := tbN 538 (by decide +kernel) (by decide +kernel)
theorem tw_539 : Cond.code yX11_sameShare cX11_sameShare 1 (some .float) ∈ TB := tbN 539 (by decide +kernel) (by decide +kernel)
theorem tw_540 : Cond.methodLink "CursorroomLaw" 316 ⟨"Cursorroom", "errors", "()I"⟩ ∈ TB := tbN 540 (by decide +kernel) (by decide +kernel)
theorem tw_541 : Cond.instanceMethod ⟨"Cursorroom", "errors", "()I"⟩ ∈ TB := tbN 541 (by decide +kernel) (by decide +kernel)
theorem tw_542 : Cond.selects "Cursorroom" ⟨"Cursorroom", "errors", "()I"⟩ ⟨"Cursorroom", "errors", "()I"⟩ ∈ TB := tbN 542 (by decide +kernel) (by decide +kernel)
theorem tw_543 : Cond.code yX11_errors cX11_errors 4 (some .int) ∈ TB := tbN 543 (by decide +kernel) (by decide +kernel)
theorem tw_1229 : Cond.methodLink "CursorroomLaw" 260 yL_isHidden ∈ TB := tbN 1229 (by decide +kernel) (by decide +kernel)
theorem tw_1230 : Cond.static yL_isHidden ∈ TB := tbN 1230 (by decide +kernel) (by decide +kernel)
theorem tw_1231 : Cond.codeWith yL_isHidden cL_isHidden 4 (some .int) [(0, 16, 19, 21)] ∈ TB := tbN 1231 (by decide +kernel) (by decide +kernel)
theorem tw_1525 : Cond.methodLink "CursorroomLaw" 162 ⟨"CursorroomModel", "clearTape", "()I"⟩ ∈ TB := tbN 1525 (by decide +kernel) (by decide +kernel)
theorem tw_1526 : Cond.instanceMethod ⟨"CursorroomModel", "clearTape", "()I"⟩ ∈ TB := tbN 1526 (by decide +kernel) (by decide +kernel)
theorem tw_1527 : Cond.selects "CursorroomModel" ⟨"CursorroomModel", "clearTape", "()I"⟩ ⟨"CursorroomModel", "clearTape", "()I"⟩ ∈ TB := tbN 1527 (by decide +kernel) (by decide +kernel)
theorem tw_1528 : Cond.code yX12_clearTape cX12_clearTape 2 (some .int) ∈ TB := tbN 1528 (by decide +kernel) (by decide +kernel)
theorem tw_1738 : Cond.methodLink "CursorroomLaw" 217 ⟨"CursorroomModel", "group", "(Z)Z"⟩ ∈ TB := tbN 1738 (by decide +kernel) (by decide +kernel)
theorem tw_1739 : Cond.instanceMethod ⟨"CursorroomModel", "group", "(Z)Z"⟩ ∈ TB := tbN 1739 (by decide +kernel) (by decide +kernel)
theorem tw_1740 : Cond.selects "CursorroomModel" ⟨"CursorroomModel", "group", "(Z)Z"⟩ ⟨"CursorroomModel", "group", "(Z)Z"⟩ ∈ TB := tbN 1740 (by decide +kernel) (by decide +kernel)
theorem tw_1741 : Cond.code yX12_group cX12_group 3 (some .boolean) ∈ TB := tbN 1741 (by decide +kernel) (by decide +kernel)
theorem tw_1833 : Cond.methodLink "CursorroomLaw" 262 ⟨"CursorroomModel", "isHidden", "(I)Z"⟩ ∈ TB := tbN 1833 (by decide +kernel) (by decide +kernel)
theorem tw_1834 : Cond.instanceMethod ⟨"CursorroomModel", "isHidden", "(I)Z"⟩ ∈ TB := tbN 1834 (by decide +kernel) (by decide +kernel)
theorem tw_1835 : Cond.selects "CursorroomModel" ⟨"CursorroomModel", "isHidden", "(I)Z"⟩ ⟨"CursorroomModel", "isHidden", "(I)Z"⟩ ∈ TB := tbN 1835 (by decide +kernel) (by decide +kernel)
theorem tw_1836 : Cond.code yX12_isHidden cX12_isHidden 2 (some .boolean) ∈ TB := tbN 1836 (by decide +kernel) (by decide +kernel)
theorem tw_1852 : Cond.methodLink "CursorroomLaw" 272 ⟨"CursorroomModel", "record", "(Z)I"⟩ ∈ TB := tbN 1852 (by decide +kernel) (by decide +kernel)
theorem tw_1853 : Cond.instanceMethod ⟨"CursorroomModel", "record", "(Z)I"⟩ ∈ TB := tbN 1853 (by decide +kernel) (by decide +kernel)
theorem tw_1854 : Cond.selects "CursorroomModel" ⟨"CursorroomModel", "record", "(Z)I"⟩ ⟨"CursorroomModel", "record", "(Z)I"⟩ ∈ TB := tbN 1854 (by decide +kernel) (by decide +kernel)
theorem tw_1855 : Cond.code yX12_record cX12_record 3 (some .int) ∈ TB := tbN 1855 (by decide +kernel) (by decide +kernel)
theorem tw_1896 : Cond.methodLink "CursorroomLaw" 297 ⟨"CursorroomModel", "hash", "()I"⟩ ∈ TB := tbN 1896 (by decide +kernel) (by decide +kernel)
theorem tw_1897 : Cond.instanceMethod ⟨"CursorroomModel", "hash", "()I"⟩ ∈ TB := tbN 1897 (by decide +kernel) (by decide +kernel)
theorem tw_1898 : Cond.selects "CursorroomModel" ⟨"CursorroomModel", "hash", "()I"⟩ ⟨"CursorroomModel", "hash", "()I"⟩ ∈ TB := tbN 1898 (by decide +kernel) (by decide +kernel)
theorem tw_1899 : Cond.code yX12_hash cX12_hash 3 (some .int) ∈ TB := tbN 1899 (by decide +kernel) (by decide +kernel)
theorem tw_1900 : Cond.methodLink "CursorroomLaw" 302 ⟨"CursorroomModel", "meanLine", "()D"⟩ ∈ TB := tbN 1900 (by decide +kernel) (by decide +kernel)
theorem tw_1901 : Cond.instanceMethod ⟨"CursorroomModel", "meanLine", "()D"⟩ ∈ TB := tbN 1901 (by decide +kernel) (by decide +kernel)
theorem tw_1902 : Cond.selects "CursorroomModel" ⟨"CursorroomModel", "meanLine", "()D"⟩ ⟨"CursorroomModel", "meanLine", "()D"⟩ ∈ TB := tbN 1902 (by decide +kernel) (by decide +kernel)
theorem tw_1903 : Cond.code yX12_meanLine cX12_meanLine 2 (some .double) ∈ TB := tbN 1903 (by decide +kernel) (by decide +kernel)
theorem tw_1904 : Cond.methodLink "CursorroomLaw" 306 ⟨"CursorroomModel", "keep", "()I"⟩ ∈ TB := tbN 1904 (by decide +kernel) (by decide +kernel)
theorem tw_1905 : Cond.instanceMethod ⟨"CursorroomModel", "keep", "()I"⟩ ∈ TB := tbN 1905 (by decide +kernel) (by decide +kernel)
theorem tw_1906 : Cond.selects "CursorroomModel" ⟨"CursorroomModel", "keep", "()I"⟩ ⟨"CursorroomModel", "keep", "()I"⟩ ∈ TB := tbN 1906 (by decide +kernel) (by decide +kernel)
theorem tw_1907 : Cond.code yX12_keep cX12_keep 2 (some .int) ∈ TB := tbN 1907 (by decide +kernel) (by decide +kernel)
theorem tw_1908 : Cond.methodLink "CursorroomLaw" 310 ⟨"CursorroomModel", "differences", "()I"⟩ ∈ TB := tbN 1908 (by decide +kernel) (by decide +kernel)
theorem tw_1909 : Cond.instanceMethod ⟨"CursorroomModel", "differences", "()I"⟩ ∈ TB := tbN 1909 (by decide +kernel) (by decide +kernel)
theorem tw_1910 : Cond.selects "CursorroomModel" ⟨"CursorroomModel", "differences", "()I"⟩ ⟨"CursorroomModel", "differences", "()I"⟩ ∈ TB := tbN 1910 (by decide +kernel) (by decide +kernel)
theorem tw_1911 : Cond.code yX12_differences cX12_differences 1 (some .int) ∈ TB := tbN 1911 (by decide +kernel) (by decide +kernel)
theorem tw_1927 : Cond.methodLink "CursorroomLaw" 315 ⟨"CursorroomModel", "sameShare", "()F"⟩ ∈ TB := tbN 1927 (by decide +kernel) (by decide +kernel)
theorem tw_1928 : Cond.instanceMethod ⟨"CursorroomModel", "sameShare", "()F"⟩ ∈ TB := tbN 1928 (by decide +kernel) (by decide +kernel)
theorem tw_1929 : Cond.selects "CursorroomModel" ⟨"CursorroomModel", "sameShare", "()F"⟩ ⟨"CursorroomModel", "sameShare", "()F"⟩ ∈ TB := tbN 1929 (by decide +kernel) (by decide +kernel)
theorem tw_1930 : Cond.code yX12_sameShare cX12_sameShare 1 (some .float) ∈ TB := tbN 1930 (by decide +kernel) (by decide +kernel)
theorem tw_1931 : Cond.methodLink "CursorroomLaw" 319 ⟨"CursorroomModel", "errors", "()I"⟩ ∈ TB := tbN 1931 (by decide +kernel) (by decide +kernel)
theorem tw_1932 : Cond.instanceMethod ⟨"CursorroomModel", "errors", "()I"⟩ ∈ TB := tbN 1932 (by decide +kernel) (by decide +kernel)
theorem tw_1933 : Cond.selects "CursorroomModel" ⟨"CursorroomModel", "errors", "()I"⟩ ⟨"CursorroomModel", "errors", "()I"⟩ ∈ TB := tbN 1933 (by decide +kernel) (by decide +kernel)
theorem tw_1934 : Cond.code yX12_errors cX12_errors 6 (some .int) ∈ TB := tbN 1934 (by decide +kernel) (by decide +kernel)
theorem ch_260 : CH RL 260 yL_isHidden cL_isHidden 4 (some .int) [(0, 16, 19, 21)] 3 := ⟨tw_1229, tw_81, tw_1231, tw_1230, by decide +kernel, by decide +kernel, by decide +kernel⟩
theorem cl_RL_262 : CV RL 262 11 yX12_isHidden cX12_isHidden 2 (some .boolean) 1 := ⟨⟨tw_1833, tw_93, tw_1836, by decide +kernel, by decide +kernel, by decide +kernel⟩, tw_1835, tw_1834, TX12, 56, rfl⟩
theorem cr_RL_159 : CV RL 159 10 yX11_clearTape cX11_clearTape 2 (some .int) 0 := ⟨⟨tw_474, tw_82, tw_477, by decide +kernel, by decide +kernel, by decide +kernel⟩, tw_476, tw_475, TX11, 11, rfl⟩
theorem cl_RL_162 : CV RL 162 11 yX12_clearTape cX12_clearTape 2 (some .int) 0 := ⟨⟨tw_1525, tw_93, tw_1528, by decide +kernel, by decide +kernel, by decide +kernel⟩, tw_1527, tw_1526, TX12, 56, rfl⟩
abbrev s_1 (xs : Nat → Int32) (i : Nat) (σ μ : Sto) (o : Int64) (Q : Sto → Sto → Int64 → Prop) : Prop := Ok (f11_clearTape σ) (fun p => Ok (f12_clearTape μ) (fun r => p.1 = r.1 ∧ Q p.2 r.2 o))
set_option maxHeartbeats 1000000 in
theorem case_1 {X : JX} {K : JK} {b L : Nat} {xs : Nat → Int32} {Q : State → Prop} {k sl : Nat} {σ μ : Sto} {o : Int64} {i : Nat} {Q9 : Sto → Sto → Int64 → Prop} (c : LC X K b L xs) (hi : i + 5 ≤ L) (hk : k + 8 ≤ X.2.2.2.1.cells) (hs : sl + 48 ≤ X.2.2.2.1.slots) (h : s_1 xs i σ μ o Q9) (kont : ∀ σ9 μ9 o9, Q9 σ9 μ9 o9 → J X K 9 False Q (k + 8) (sl + 48) 2055 (jw K σ9 μ9 o9) 2954 [(4, .int (Int32.ofNat i)), (0, .ref b), (1, .ref (K.2.2 + 0)), (2, .ref (K.2.2 + 2017)), (3, .ref (K.2.2 + 2054))] []) : J X K 9 False Q k sl 2055 (jw K σ μ o) 332 [(4, .int (Int32.ofNat i)), (0, .ref b), (1, .ref (K.2.2 + 0)), (2, .ref (K.2.2 + 2017)), (3, .ref (K.2.2 + 2054))] [] := by
  have C := c.1
  refine J_aload_n (i := 1) (p := 2) C dL_law_332 rfl rfl rfl ?_
  refine Jl_cV (rest := []) (st9 := fun p => [.int p.1]) C cr_RL_159 rfl (Nat.le_of_ble_eq_true rfl) (k11_clearTape c.2.1 h) rfl rfl (Nat.le_trans (by decide) c.2.2.2.2.2.2.1) (Nat.le_trans (by decide) c.2.2.2.2.2.2.2) (Nat.le_of_ble_eq_true rfl) ⟨by omega, by omega⟩ dL_law_333 rfl (fun _ => rfl) (fun p h => ?_)
  refine J_aload_n (i := 2) (p := 3) C dL_law_336 rfl rfl rfl ?_
  refine Jl_mV (rest := [.int p.1]) (st9 := fun r => [.int r.1, .int p.1]) C cl_RL_162 rfl (Nat.le_of_ble_eq_true rfl) (k12_clearTape c.2.1 h) rfl rfl (Nat.le_trans (by decide) c.2.2.2.2.2.2.1) (Nat.le_trans (by decide) c.2.2.2.2.2.2.2) (Nat.le_of_ble_eq_true rfl) ⟨by omega, by omega⟩ dL_law_337 rfl (fun _ => rfl) (fun r h => ?_)
  obtain ⟨h1, h3⟩ := h
  refine J_icmp_eq (t := 2954) C dL_law_340 (by decide) rfl (fun _ => ?_) (fun e => absurd h1 e)
  exact J.widen (by omega) (by omega) (kont _ _ _ h3)
theorem cr_RL_213 : CV RL 213 10 yX11_group cX11_group 3 (some .boolean) 1 := ⟨⟨tw_478, tw_82, tw_481, by decide +kernel, by decide +kernel, by decide +kernel⟩, tw_480, tw_479, TX11, 11, rfl⟩
theorem cl_RL_217 : CV RL 217 11 yX12_group cX12_group 3 (some .boolean) 1 := ⟨⟨tw_1738, tw_93, tw_1741, by decide +kernel, by decide +kernel, by decide +kernel⟩, tw_1740, tw_1739, TX12, 56, rfl⟩
abbrev s_17 (xs : Nat → Int32) (i : Nat) (σ μ : Sto) (o : Int64) (Q : Sto → Sto → Int64 → Prop) : Prop := Ok (f11_group σ (bz (xs (i + 1)))) (fun p => Ok (f12_group μ (bz (xs (i + 1)))) (fun r => p.1 = r.1 ∧ Q p.2 r.2 o))
set_option maxHeartbeats 1000000 in
theorem case_17 {X : JX} {K : JK} {b L : Nat} {xs : Nat → Int32} {Q : State → Prop} {k sl : Nat} {σ μ : Sto} {o : Int64} {i : Nat} {Q9 : Sto → Sto → Int64 → Prop} (c : LC X K b L xs) (hi : i + 5 ≤ L) (hk : k + 8 ≤ X.2.2.2.1.cells) (hs : sl + 48 ≤ X.2.2.2.1.slots) (h : s_17 xs i σ μ o Q9) (kont : ∀ σ9 μ9 o9, Q9 σ9 μ9 o9 → J X K 9 False Q (k + 8) (sl + 48) 2055 (jw K σ9 μ9 o9) 2954 [(4, .int (Int32.ofNat i)), (0, .ref b), (1, .ref (K.2.2 + 0)), (2, .ref (K.2.2 + 2017)), (3, .ref (K.2.2 + 2054))] []) : J X K 9 False Q k sl 2055 (jw K σ μ o) 1257 [(4, .int (Int32.ofNat i)), (0, .ref b), (1, .ref (K.2.2 + 0)), (2, .ref (K.2.2 + 2017)), (3, .ref (K.2.2 + 2054))] [] := by
  have C := c.1
  refine J_aload_n (i := 1) (p := 2) C dL_law_1257 rfl rfl rfl ?_
  refine J_aload_n (i := 0) (p := 1) C dL_law_1258 rfl rfl rfl ?_
  refine J_iload (i := 4) (p := 0) C dL_law_1259 rfl rfl ?_
  refine J_iconst (v := 1) C (by decide) dL_law_1261 rfl ?_
  refine J_iadd C dL_law_1262 rfl ?_
  refine J_arg c 1 rfl hi (by decide) dL_law_1263 rfl ?_
  refine J_bool (t1 := 1271) (t2 := 1272) C dL_law_1264 (by decide) dL_law_1267 dL_law_1268 (by decide) dL_law_1271 rfl ?_
  refine Jl_cV (rest := []) (st9 := fun p => [.int p.1]) C cr_RL_213 rfl (Nat.le_of_ble_eq_true rfl) (k11_group c.2.1 h) rfl rfl (Nat.le_trans (by decide) c.2.2.2.2.2.2.1) (Nat.le_trans (by decide) c.2.2.2.2.2.2.2) (Nat.le_of_ble_eq_true rfl) ⟨by omega, by omega⟩ dL_law_1272 rfl (fun _ => rfl) (fun p h => ?_)
  refine J_aload_n (i := 2) (p := 3) C dL_law_1275 rfl rfl rfl ?_
  refine J_aload_n (i := 0) (p := 1) C dL_law_1276 rfl rfl rfl ?_
  refine J_iload (i := 4) (p := 0) C dL_law_1277 rfl rfl ?_
  refine J_iconst (v := 1) C (by decide) dL_law_1279 rfl ?_
  refine J_iadd C dL_law_1280 rfl ?_
  refine J_arg c 1 rfl hi (by decide) dL_law_1281 rfl ?_
  refine J_bool (t1 := 1289) (t2 := 1290) C dL_law_1282 (by decide) dL_law_1285 dL_law_1286 (by decide) dL_law_1289 rfl ?_
  refine Jl_mV (rest := [.int p.1]) (st9 := fun r => [.int r.1, .int p.1]) C cl_RL_217 rfl (Nat.le_of_ble_eq_true rfl) (k12_group c.2.1 h) rfl rfl (Nat.le_trans (by decide) c.2.2.2.2.2.2.1) (Nat.le_trans (by decide) c.2.2.2.2.2.2.2) (Nat.le_of_ble_eq_true rfl) ⟨by omega, by omega⟩ dL_law_1290 rfl (fun _ => rfl) (fun r h => ?_)
  obtain ⟨h1, h3⟩ := h
  refine J_icmp_eq (t := 2954) C dL_law_1293 (by decide) rfl (fun _ => ?_) (fun e => absurd h1 e)
  exact J.widen (by omega) (by omega) (kont _ _ _ h3)
theorem cr_RL_269 : CV RL 269 10 yX11_record cX11_record 3 (some .int) 1 := ⟨⟨tw_486, tw_82, tw_489, by decide +kernel, by decide +kernel, by decide +kernel⟩, tw_488, tw_487, TX11, 11, rfl⟩
theorem cl_RL_272 : CV RL 272 11 yX12_record cX12_record 3 (some .int) 1 := ⟨⟨tw_1852, tw_93, tw_1855, by decide +kernel, by decide +kernel, by decide +kernel⟩, tw_1854, tw_1853, TX12, 56, rfl⟩
abbrev s_34 (xs : Nat → Int32) (i : Nat) (σ μ : Sto) (o : Int64) (Q : Sto → Sto → Int64 → Prop) : Prop := Ok (f11_record σ (bz (xs (i + 1)))) (fun p => Ok (f12_record μ (bz (xs (i + 1)))) (fun r => p.1 = r.1 ∧ Q p.2 r.2 o))
set_option maxHeartbeats 1000000 in
theorem case_34 {X : JX} {K : JK} {b L : Nat} {xs : Nat → Int32} {Q : State → Prop} {k sl : Nat} {σ μ : Sto} {o : Int64} {i : Nat} {Q9 : Sto → Sto → Int64 → Prop} (c : LC X K b L xs) (hi : i + 5 ≤ L) (hk : k + 8 ≤ X.2.2.2.1.cells) (hs : sl + 48 ≤ X.2.2.2.1.slots) (h : s_34 xs i σ μ o Q9) (kont : ∀ σ9 μ9 o9, Q9 σ9 μ9 o9 → J X K 9 False Q (k + 8) (sl + 48) 2055 (jw K σ9 μ9 o9) 2954 [(4, .int (Int32.ofNat i)), (0, .ref b), (1, .ref (K.2.2 + 0)), (2, .ref (K.2.2 + 2017)), (3, .ref (K.2.2 + 2054))] []) : J X K 9 False Q k sl 2055 (jw K σ μ o) 2373 [(4, .int (Int32.ofNat i)), (0, .ref b), (1, .ref (K.2.2 + 0)), (2, .ref (K.2.2 + 2017)), (3, .ref (K.2.2 + 2054))] [] := by
  have C := c.1
  refine J_aload_n (i := 1) (p := 2) C dL_law_2373 rfl rfl rfl ?_
  refine J_aload_n (i := 0) (p := 1) C dL_law_2374 rfl rfl rfl ?_
  refine J_iload (i := 4) (p := 0) C dL_law_2375 rfl rfl ?_
  refine J_iconst (v := 1) C (by decide) dL_law_2377 rfl ?_
  refine J_iadd C dL_law_2378 rfl ?_
  refine J_arg c 1 rfl hi (by decide) dL_law_2379 rfl ?_
  refine J_bool (t1 := 2387) (t2 := 2388) C dL_law_2380 (by decide) dL_law_2383 dL_law_2384 (by decide) dL_law_2387 rfl ?_
  refine Jl_cV (rest := []) (st9 := fun p => [.int p.1]) C cr_RL_269 rfl (Nat.le_of_ble_eq_true rfl) (k11_record c.2.1 h) rfl rfl (Nat.le_trans (by decide) c.2.2.2.2.2.2.1) (Nat.le_trans (by decide) c.2.2.2.2.2.2.2) (Nat.le_of_ble_eq_true rfl) ⟨by omega, by omega⟩ dL_law_2388 rfl (fun _ => rfl) (fun p h => ?_)
  refine J_aload_n (i := 2) (p := 3) C dL_law_2391 rfl rfl rfl ?_
  refine J_aload_n (i := 0) (p := 1) C dL_law_2392 rfl rfl rfl ?_
  refine J_iload (i := 4) (p := 0) C dL_law_2393 rfl rfl ?_
  refine J_iconst (v := 1) C (by decide) dL_law_2395 rfl ?_
  refine J_iadd C dL_law_2396 rfl ?_
  refine J_arg c 1 rfl hi (by decide) dL_law_2397 rfl ?_
  refine J_bool (t1 := 2405) (t2 := 2406) C dL_law_2398 (by decide) dL_law_2401 dL_law_2402 (by decide) dL_law_2405 rfl ?_
  refine Jl_mV (rest := [.int p.1]) (st9 := fun r => [.int r.1, .int p.1]) C cl_RL_272 rfl (Nat.le_of_ble_eq_true rfl) (k12_record c.2.1 h) rfl rfl (Nat.le_trans (by decide) c.2.2.2.2.2.2.1) (Nat.le_trans (by decide) c.2.2.2.2.2.2.2) (Nat.le_of_ble_eq_true rfl) ⟨by omega, by omega⟩ dL_law_2406 rfl (fun _ => rfl) (fun r h => ?_)
  obtain ⟨h1, h3⟩ := h
  refine J_icmp_eq (t := 2954) C dL_law_2409 (by decide) rfl (fun _ => ?_) (fun e => absurd h1 e)
  exact J.widen (by omega) (by omega) (kont _ _ _ h3)
theorem cr_RL_294 : CV RL 294 10 yX11_hash cX11_hash 1 (some .int) 0 := ⟨⟨tw_490, tw_82, tw_493, by decide +kernel, by decide +kernel, by decide +kernel⟩, tw_492, tw_491, TX11, 11, rfl⟩
theorem cl_RL_297 : CV RL 297 11 yX12_hash cX12_hash 3 (some .int) 0 := ⟨⟨tw_1896, tw_93, tw_1899, by decide +kernel, by decide +kernel, by decide +kernel⟩, tw_1898, tw_1897, TX12, 56, rfl⟩
abbrev s_42 (xs : Nat → Int32) (i : Nat) (σ μ : Sto) (o : Int64) (Q : Sto → Sto → Int64 → Prop) : Prop := Ok (f11_hash σ) (fun p => Ok (f12_hash μ) (fun r => p = r.1 ∧ Q σ r.2 o))
set_option maxHeartbeats 1000000 in
theorem case_42 {X : JX} {K : JK} {b L : Nat} {xs : Nat → Int32} {Q : State → Prop} {k sl : Nat} {σ μ : Sto} {o : Int64} {i : Nat} {Q9 : Sto → Sto → Int64 → Prop} (c : LC X K b L xs) (hi : i + 5 ≤ L) (hk : k + 8 ≤ X.2.2.2.1.cells) (hs : sl + 48 ≤ X.2.2.2.1.slots) (h : s_42 xs i σ μ o Q9) (kont : ∀ σ9 μ9 o9, Q9 σ9 μ9 o9 → J X K 9 False Q (k + 8) (sl + 48) 2055 (jw K σ9 μ9 o9) 2954 [(4, .int (Int32.ofNat i)), (0, .ref b), (1, .ref (K.2.2 + 0)), (2, .ref (K.2.2 + 2017)), (3, .ref (K.2.2 + 2054))] []) : J X K 9 False Q k sl 2055 (jw K σ μ o) 2818 [(4, .int (Int32.ofNat i)), (0, .ref b), (1, .ref (K.2.2 + 0)), (2, .ref (K.2.2 + 2017)), (3, .ref (K.2.2 + 2054))] [] := by
  have C := c.1
  refine J_aload_n (i := 1) (p := 2) C dL_law_2818 rfl rfl rfl ?_
  refine Jl_cV (rest := []) (st9 := fun p => [.int p]) C cr_RL_294 rfl (Nat.le_of_ble_eq_true rfl) (k11_hash c.2.1 h) rfl rfl (Nat.le_trans (by decide) c.2.2.2.2.2.2.1) (Nat.le_trans (by decide) c.2.2.2.2.2.2.2) (Nat.le_of_ble_eq_true rfl) ⟨by omega, by omega⟩ dL_law_2819 rfl (fun _ => rfl) (fun p h => ?_)
  refine J_aload_n (i := 2) (p := 3) C dL_law_2822 rfl rfl rfl ?_
  refine Jl_mV (rest := [.int p]) (st9 := fun r => [.int r.1, .int p]) C cl_RL_297 rfl (Nat.le_of_ble_eq_true rfl) (k12_hash c.2.1 h) rfl rfl (Nat.le_trans (by decide) c.2.2.2.2.2.2.1) (Nat.le_trans (by decide) c.2.2.2.2.2.2.2) (Nat.le_of_ble_eq_true rfl) ⟨by omega, by omega⟩ dL_law_2823 rfl (fun _ => rfl) (fun r h => ?_)
  obtain ⟨h1, h3⟩ := h
  refine J_icmp_eq (t := 2954) C dL_law_2826 (by decide) rfl (fun _ => ?_) (fun e => absurd h1 e)
  exact J.widen (by omega) (by omega) (kont _ _ _ h3)
theorem cr_RL_298 : CV RL 298 10 yX11_meanLine cX11_meanLine 2 (some .double) 0 := ⟨⟨tw_498, tw_82, tw_501, by decide +kernel, by decide +kernel, by decide +kernel⟩, tw_500, tw_499, TX11, 11, rfl⟩
theorem cl_RL_302 : CV RL 302 11 yX12_meanLine cX12_meanLine 2 (some .double) 0 := ⟨⟨tw_1900, tw_93, tw_1903, by decide +kernel, by decide +kernel, by decide +kernel⟩, tw_1902, tw_1901, TX12, 56, rfl⟩
abbrev s_43 (xs : Nat → Int32) (i : Nat) (σ μ : Sto) (o : Int64) (Q : Sto → Sto → Int64 → Prop) : Prop := Ok (f11_meanLine σ) (fun p => True ∧ Ok (f12_meanLine μ) (fun r => p = r.1 ∧ Op.cmpValue (FP.dcmp p p) .l = 0 ∧ Q σ r.2 o))
set_option maxHeartbeats 1000000 in
theorem case_43 {X : JX} {K : JK} {b L : Nat} {xs : Nat → Int32} {Q : State → Prop} {k sl : Nat} {σ μ : Sto} {o : Int64} {i : Nat} {Q9 : Sto → Sto → Int64 → Prop} (c : LC X K b L xs) (hi : i + 5 ≤ L) (hk : k + 8 ≤ X.2.2.2.1.cells) (hs : sl + 48 ≤ X.2.2.2.1.slots) (h : s_43 xs i σ μ o Q9) (kont : ∀ σ9 μ9 o9, Q9 σ9 μ9 o9 → J X K 9 False Q (k + 8) (sl + 48) 2055 (jw K σ9 μ9 o9) 2954 [(4, .int (Int32.ofNat i)), (0, .ref b), (1, .ref (K.2.2 + 0)), (2, .ref (K.2.2 + 2017)), (3, .ref (K.2.2 + 2054))] []) : J X K 9 False Q k sl 2055 (jw K σ μ o) 2831 [(4, .int (Int32.ofNat i)), (0, .ref b), (1, .ref (K.2.2 + 0)), (2, .ref (K.2.2 + 2017)), (3, .ref (K.2.2 + 2054))] [] := by
  have C := c.1
  refine J_aload_n (i := 1) (p := 2) C dL_law_2831 rfl rfl rfl ?_
  refine Jl_cV (rest := []) (st9 := fun p => [.double p]) C cr_RL_298 rfl (Nat.le_of_ble_eq_true rfl) (k11_meanLine c.2.1 h) rfl rfl (Nat.le_trans (by decide) c.2.2.2.2.2.2.1) (Nat.le_trans (by decide) c.2.2.2.2.2.2.2) (Nat.le_of_ble_eq_true rfl) ⟨by omega, by omega⟩ dL_law_2832 rfl (fun _ => rfl) (fun p h => ?_)
  have h0 := h.1
  have h := h.2
  generalize e5 : p = d5
  refine J_dstoreE (i := 5) (x' := d5) (lv' := [(5, .double d5), (4, .int (Int32.ofNat i)), (0, .ref b), (1, .ref (K.2.2 + 0)), (2, .ref (K.2.2 + 2017)), (3, .ref (K.2.2 + 2054))]) C rfl dL_law_2835 (Nat.le_of_ble_eq_true rfl) rfl rfl ?_
  refine J_aload_n (i := 2) (p := 4) C dL_law_2837 rfl rfl rfl ?_
  refine Jl_mV (rest := []) (st9 := fun r => [.double r.1]) C cl_RL_302 rfl (Nat.le_of_ble_eq_true rfl) (k12_meanLine c.2.1 h) rfl rfl (Nat.le_trans (by decide) c.2.2.2.2.2.2.1) (Nat.le_trans (by decide) c.2.2.2.2.2.2.2) (Nat.le_of_ble_eq_true rfl) ⟨by omega, by omega⟩ dL_law_2838 rfl (fun _ => rfl) (fun r h => ?_)
  obtain ⟨h1, h2, h3⟩ := h
  rw [← h1, e5]
  rw [e5] at h2
  refine J_dstoreE (i := 7) (x' := d5) (lv' := [(7, .double d5), (5, .double d5), (4, .int (Int32.ofNat i)), (0, .ref b), (1, .ref (K.2.2 + 0)), (2, .ref (K.2.2 + 2017)), (3, .ref (K.2.2 + 2054))]) C rfl dL_law_2841 (Nat.le_of_ble_eq_true rfl) rfl rfl ?_
  refine J_dload (i := 5) (p := 1) C dL_law_2843 rfl rfl ?_
  refine J_dload (i := 7) (p := 0) C dL_law_2845 rfl rfl ?_
  refine J_dcmp C dL_law_2847 rfl ?_
  rw [h2]
  refine J_if_eq (t := 2869) C dL_law_2848 (by decide) rfl (fun _ => ?_) (fun e => absurd rfl e)
  refine J_goto (t := 2954) C dL_law_2869 (by decide) ?_
  refine J.sub [2, 3, 4, 5, 6] rfl ?_
  exact J.widen (by omega) (by omega) (kont _ _ _ h3)
theorem cr_RL_303 : CV RL 303 10 yX11_keep cX11_keep 1 (some .int) 0 := ⟨⟨tw_502, tw_82, tw_505, by decide +kernel, by decide +kernel, by decide +kernel⟩, tw_504, tw_503, TX11, 11, rfl⟩
theorem cl_RL_306 : CV RL 306 11 yX12_keep cX12_keep 2 (some .int) 0 := ⟨⟨tw_1904, tw_93, tw_1907, by decide +kernel, by decide +kernel, by decide +kernel⟩, tw_1906, tw_1905, TX12, 56, rfl⟩
abbrev s_44 (xs : Nat → Int32) (i : Nat) (σ μ : Sto) (o : Int64) (Q : Sto → Sto → Int64 → Prop) : Prop := Ok (f11_keep σ) (fun p => Ok (f12_keep μ) (fun r => p.1 = r.1 ∧ Q p.2 r.2 o))
set_option maxHeartbeats 1000000 in
theorem case_44 {X : JX} {K : JK} {b L : Nat} {xs : Nat → Int32} {Q : State → Prop} {k sl : Nat} {σ μ : Sto} {o : Int64} {i : Nat} {Q9 : Sto → Sto → Int64 → Prop} (c : LC X K b L xs) (hi : i + 5 ≤ L) (hk : k + 8 ≤ X.2.2.2.1.cells) (hs : sl + 48 ≤ X.2.2.2.1.slots) (h : s_44 xs i σ μ o Q9) (kont : ∀ σ9 μ9 o9, Q9 σ9 μ9 o9 → J X K 9 False Q (k + 8) (sl + 48) 2055 (jw K σ9 μ9 o9) 2954 [(4, .int (Int32.ofNat i)), (0, .ref b), (1, .ref (K.2.2 + 0)), (2, .ref (K.2.2 + 2017)), (3, .ref (K.2.2 + 2054))] []) : J X K 9 False Q k sl 2055 (jw K σ μ o) 2872 [(4, .int (Int32.ofNat i)), (0, .ref b), (1, .ref (K.2.2 + 0)), (2, .ref (K.2.2 + 2017)), (3, .ref (K.2.2 + 2054))] [] := by
  have C := c.1
  refine J_aload_n (i := 1) (p := 2) C dL_law_2872 rfl rfl rfl ?_
  refine Jl_cV (rest := []) (st9 := fun p => [.int p.1]) C cr_RL_303 rfl (Nat.le_of_ble_eq_true rfl) (k11_keep c.2.1 h) rfl rfl (Nat.le_trans (by decide) c.2.2.2.2.2.2.1) (Nat.le_trans (by decide) c.2.2.2.2.2.2.2) (Nat.le_of_ble_eq_true rfl) ⟨by omega, by omega⟩ dL_law_2873 rfl (fun _ => rfl) (fun p h => ?_)
  refine J_aload_n (i := 2) (p := 3) C dL_law_2876 rfl rfl rfl ?_
  refine Jl_mV (rest := [.int p.1]) (st9 := fun r => [.int r.1, .int p.1]) C cl_RL_306 rfl (Nat.le_of_ble_eq_true rfl) (k12_keep c.2.1 h) rfl rfl (Nat.le_trans (by decide) c.2.2.2.2.2.2.1) (Nat.le_trans (by decide) c.2.2.2.2.2.2.2) (Nat.le_of_ble_eq_true rfl) ⟨by omega, by omega⟩ dL_law_2877 rfl (fun _ => rfl) (fun r h => ?_)
  obtain ⟨h1, h3⟩ := h
  refine J_icmp_eq (t := 2954) C dL_law_2880 (by decide) rfl (fun _ => ?_) (fun e => absurd h1 e)
  exact J.widen (by omega) (by omega) (kont _ _ _ h3)
theorem cr_RL_307 : CV RL 307 10 yX11_differences cX11_differences 2 (some .int) 0 := ⟨⟨tw_513, tw_82, tw_516, by decide +kernel, by decide +kernel, by decide +kernel⟩, tw_515, tw_514, TX11, 11, rfl⟩
theorem cl_RL_310 : CV RL 310 11 yX12_differences cX12_differences 1 (some .int) 0 := ⟨⟨tw_1908, tw_93, tw_1911, by decide +kernel, by decide +kernel, by decide +kernel⟩, tw_1910, tw_1909, TX12, 56, rfl⟩
abbrev s_45 (xs : Nat → Int32) (i : Nat) (σ μ : Sto) (o : Int64) (Q : Sto → Sto → Int64 → Prop) : Prop := Ok (f11_differences σ) (fun p => Ok (f12_differences μ) (fun r => p.1 = r.1 ∧ Q p.2 r.2 o))
set_option maxHeartbeats 1000000 in
theorem case_45 {X : JX} {K : JK} {b L : Nat} {xs : Nat → Int32} {Q : State → Prop} {k sl : Nat} {σ μ : Sto} {o : Int64} {i : Nat} {Q9 : Sto → Sto → Int64 → Prop} (c : LC X K b L xs) (hi : i + 5 ≤ L) (hk : k + 8 ≤ X.2.2.2.1.cells) (hs : sl + 48 ≤ X.2.2.2.1.slots) (h : s_45 xs i σ μ o Q9) (kont : ∀ σ9 μ9 o9, Q9 σ9 μ9 o9 → J X K 9 False Q (k + 8) (sl + 48) 2055 (jw K σ9 μ9 o9) 2954 [(4, .int (Int32.ofNat i)), (0, .ref b), (1, .ref (K.2.2 + 0)), (2, .ref (K.2.2 + 2017)), (3, .ref (K.2.2 + 2054))] []) : J X K 9 False Q k sl 2055 (jw K σ μ o) 2885 [(4, .int (Int32.ofNat i)), (0, .ref b), (1, .ref (K.2.2 + 0)), (2, .ref (K.2.2 + 2017)), (3, .ref (K.2.2 + 2054))] [] := by
  have C := c.1
  refine J_aload_n (i := 1) (p := 2) C dL_law_2885 rfl rfl rfl ?_
  refine Jl_cV (rest := []) (st9 := fun p => [.int p.1]) C cr_RL_307 rfl (Nat.le_of_ble_eq_true rfl) (k11_differences c.2.1 h) rfl rfl (Nat.le_trans (by decide) c.2.2.2.2.2.2.1) (Nat.le_trans (by decide) c.2.2.2.2.2.2.2) (Nat.le_of_ble_eq_true rfl) ⟨by omega, by omega⟩ dL_law_2886 rfl (fun _ => rfl) (fun p h => ?_)
  refine J_aload_n (i := 2) (p := 3) C dL_law_2889 rfl rfl rfl ?_
  refine Jl_mV (rest := [.int p.1]) (st9 := fun r => [.int r.1, .int p.1]) C cl_RL_310 rfl (Nat.le_of_ble_eq_true rfl) (k12_differences c.2.1 h) rfl rfl (Nat.le_trans (by decide) c.2.2.2.2.2.2.1) (Nat.le_trans (by decide) c.2.2.2.2.2.2.2) (Nat.le_of_ble_eq_true rfl) ⟨by omega, by omega⟩ dL_law_2890 rfl (fun _ => rfl) (fun r h => ?_)
  obtain ⟨h1, h3⟩ := h
  refine J_icmp_eq (t := 2954) C dL_law_2893 (by decide) rfl (fun _ => ?_) (fun e => absurd h1 e)
  exact J.widen (by omega) (by omega) (kont _ _ _ h3)
theorem cr_RL_311 : CV RL 311 10 yX11_sameShare cX11_sameShare 1 (some .float) 0 := ⟨⟨tw_536, tw_82, tw_539, by decide +kernel, by decide +kernel, by decide +kernel⟩, tw_538, tw_537, TX11, 11, rfl⟩
theorem cl_RL_315 : CV RL 315 11 yX12_sameShare cX12_sameShare 1 (some .float) 0 := ⟨⟨tw_1927, tw_93, tw_1930, by decide +kernel, by decide +kernel, by decide +kernel⟩, tw_1929, tw_1928, TX12, 56, rfl⟩
abbrev s_46 (xs : Nat → Int32) (i : Nat) (σ μ : Sto) (o : Int64) (Q : Sto → Sto → Int64 → Prop) : Prop := Ok (f11_sameShare σ) (fun p => nf64 (FP.f2d p.1) = true ∧ Ok (f12_sameShare μ) (fun r => p.1 = r.1 ∧ Op.cmpValue (FP.dcmp (FP.f2d p.1) (FP.f2d p.1)) .l = 0 ∧ Q p.2 r.2 o))
set_option maxHeartbeats 1000000 in
theorem case_46 {X : JX} {K : JK} {b L : Nat} {xs : Nat → Int32} {Q : State → Prop} {k sl : Nat} {σ μ : Sto} {o : Int64} {i : Nat} {Q9 : Sto → Sto → Int64 → Prop} (c : LC X K b L xs) (hi : i + 5 ≤ L) (hk : k + 8 ≤ X.2.2.2.1.cells) (hs : sl + 48 ≤ X.2.2.2.1.slots) (h : s_46 xs i σ μ o Q9) (kont : ∀ σ9 μ9 o9, Q9 σ9 μ9 o9 → J X K 9 False Q (k + 8) (sl + 48) 2055 (jw K σ9 μ9 o9) 2954 [(4, .int (Int32.ofNat i)), (0, .ref b), (1, .ref (K.2.2 + 0)), (2, .ref (K.2.2 + 2017)), (3, .ref (K.2.2 + 2054))] []) : J X K 9 False Q k sl 2055 (jw K σ μ o) 2898 [(4, .int (Int32.ofNat i)), (0, .ref b), (1, .ref (K.2.2 + 0)), (2, .ref (K.2.2 + 2017)), (3, .ref (K.2.2 + 2054))] [] := by
  have C := c.1
  refine J_aload_n (i := 1) (p := 2) C dL_law_2898 rfl rfl rfl ?_
  refine Jl_cV (rest := []) (st9 := fun p => [.float p.1]) C cr_RL_311 rfl (Nat.le_of_ble_eq_true rfl) (k11_sameShare c.2.1 h) rfl rfl (Nat.le_trans (by decide) c.2.2.2.2.2.2.1) (Nat.le_trans (by decide) c.2.2.2.2.2.2.2) (Nat.le_of_ble_eq_true rfl) ⟨by omega, by omega⟩ dL_law_2899 rfl (fun _ => rfl) (fun p h => ?_)
  have h0 := h.1
  have h := h.2
  refine J_f2d C (nf64_spec h0) dL_law_2902 rfl ?_
  generalize e5 : (FP.f2d p.1) = d5
  refine J_dstoreE (i := 5) (x' := d5) (lv' := [(5, .double d5), (4, .int (Int32.ofNat i)), (0, .ref b), (1, .ref (K.2.2 + 0)), (2, .ref (K.2.2 + 2017)), (3, .ref (K.2.2 + 2054))]) C rfl dL_law_2903 (Nat.le_of_ble_eq_true rfl) rfl rfl ?_
  refine J_aload_n (i := 2) (p := 4) C dL_law_2905 rfl rfl rfl ?_
  refine Jl_mV (rest := []) (st9 := fun r => [.float r.1]) C cl_RL_315 rfl (Nat.le_of_ble_eq_true rfl) (k12_sameShare c.2.1 h) rfl rfl (Nat.le_trans (by decide) c.2.2.2.2.2.2.1) (Nat.le_trans (by decide) c.2.2.2.2.2.2.2) (Nat.le_of_ble_eq_true rfl) ⟨by omega, by omega⟩ dL_law_2906 rfl (fun _ => rfl) (fun r h => ?_)
  obtain ⟨h1, h2, h3⟩ := h
  refine J_f2d C (nf64_spec (h1 ▸ h0)) dL_law_2909 rfl ?_
  rw [← h1, e5]
  rw [e5] at h2
  refine J_dstoreE (i := 7) (x' := d5) (lv' := [(7, .double d5), (5, .double d5), (4, .int (Int32.ofNat i)), (0, .ref b), (1, .ref (K.2.2 + 0)), (2, .ref (K.2.2 + 2017)), (3, .ref (K.2.2 + 2054))]) C rfl dL_law_2910 (Nat.le_of_ble_eq_true rfl) rfl rfl ?_
  refine J_dload (i := 5) (p := 1) C dL_law_2912 rfl rfl ?_
  refine J_dload (i := 7) (p := 0) C dL_law_2914 rfl rfl ?_
  refine J_dcmp C dL_law_2916 rfl ?_
  rw [h2]
  refine J_if_eq (t := 2938) C dL_law_2917 (by decide) rfl (fun _ => ?_) (fun e => absurd rfl e)
  refine J_goto (t := 2954) C dL_law_2938 (by decide) ?_
  refine J.sub [2, 3, 4, 5, 6] rfl ?_
  exact J.widen (by omega) (by omega) (kont _ _ _ h3)
theorem cr_RL_316 : CV RL 316 10 yX11_errors cX11_errors 4 (some .int) 0 := ⟨⟨tw_540, tw_82, tw_543, by decide +kernel, by decide +kernel, by decide +kernel⟩, tw_542, tw_541, TX11, 11, rfl⟩
theorem cl_RL_319 : CV RL 319 11 yX12_errors cX12_errors 6 (some .int) 0 := ⟨⟨tw_1931, tw_93, tw_1934, by decide +kernel, by decide +kernel, by decide +kernel⟩, tw_1933, tw_1932, TX12, 56, rfl⟩
abbrev s_47 (xs : Nat → Int32) (i : Nat) (σ μ : Sto) (o : Int64) (Q : Sto → Sto → Int64 → Prop) : Prop := Ok (f11_errors σ) (fun p => Ok (f12_errors μ) (fun r => p.1 = r.1 ∧ Q p.2 r.2 o))
set_option maxHeartbeats 1000000 in
theorem case_47 {X : JX} {K : JK} {b L : Nat} {xs : Nat → Int32} {Q : State → Prop} {k sl : Nat} {σ μ : Sto} {o : Int64} {i : Nat} {Q9 : Sto → Sto → Int64 → Prop} (c : LC X K b L xs) (hi : i + 5 ≤ L) (hk : k + 8 ≤ X.2.2.2.1.cells) (hs : sl + 48 ≤ X.2.2.2.1.slots) (h : s_47 xs i σ μ o Q9) (kont : ∀ σ9 μ9 o9, Q9 σ9 μ9 o9 → J X K 9 False Q (k + 8) (sl + 48) 2055 (jw K σ9 μ9 o9) 2954 [(4, .int (Int32.ofNat i)), (0, .ref b), (1, .ref (K.2.2 + 0)), (2, .ref (K.2.2 + 2017)), (3, .ref (K.2.2 + 2054))] []) : J X K 9 False Q k sl 2055 (jw K σ μ o) 2941 [(4, .int (Int32.ofNat i)), (0, .ref b), (1, .ref (K.2.2 + 0)), (2, .ref (K.2.2 + 2017)), (3, .ref (K.2.2 + 2054))] [] := by
  have C := c.1
  refine J_aload_n (i := 1) (p := 2) C dL_law_2941 rfl rfl rfl ?_
  refine Jl_cV (rest := []) (st9 := fun p => [.int p.1]) C cr_RL_316 rfl (Nat.le_of_ble_eq_true rfl) (k11_errors c.2.1 h) rfl rfl (Nat.le_trans (by decide) c.2.2.2.2.2.2.1) (Nat.le_trans (by decide) c.2.2.2.2.2.2.2) (Nat.le_of_ble_eq_true rfl) ⟨by omega, by omega⟩ dL_law_2942 rfl (fun _ => rfl) (fun p h => ?_)
  refine J_aload_n (i := 2) (p := 3) C dL_law_2945 rfl rfl rfl ?_
  refine Jl_mV (rest := [.int p.1]) (st9 := fun r => [.int r.1, .int p.1]) C cl_RL_319 rfl (Nat.le_of_ble_eq_true rfl) (k12_errors c.2.1 h) rfl rfl (Nat.le_trans (by decide) c.2.2.2.2.2.2.1) (Nat.le_trans (by decide) c.2.2.2.2.2.2.2) (Nat.le_of_ble_eq_true rfl) ⟨by omega, by omega⟩ dL_law_2946 rfl (fun _ => rfl) (fun r h => ?_)
  obtain ⟨h1, h3⟩ := h
  refine J_icmp_eq (t := 2954) C dL_law_2949 (by decide) rfl (fun _ => ?_) (fun e => absurd h1 e)
  exact J.widen (by omega) (by omega) (kont _ _ _ h3)
abbrev s_31 (xs : Nat → Int32) (i : Nat) (σ μ : Sto) (o : Int64) (Q : Sto → Sto → Int64 → Prop) : Prop := stHZ (f11_isHidden σ (xs (i + 1))) [(1, 1)] o (f12_isHidden μ (xs (i + 1))) Q
set_option maxHeartbeats 1000000 in
theorem case_31 {X : JX} {K : JK} {b L : Nat} {xs : Nat → Int32} {Q : State → Prop} {k sl : Nat} {σ μ : Sto} {o : Int64} {i : Nat} {Q9 : Sto → Sto → Int64 → Prop} (c : LC X K b L xs) (hi : i + 5 ≤ L) (hk : k + 8 ≤ X.2.2.2.1.cells) (hs : sl + 48 ≤ X.2.2.2.1.slots) (h : s_31 xs i σ μ o Q9) (kont : ∀ σ9 μ9 o9, Q9 σ9 μ9 o9 → J X K 9 False Q (k + 8) (sl + 48) 2055 (jw K σ9 μ9 o9) 2954 [(4, .int (Int32.ofNat i)), (0, .ref b), (1, .ref (K.2.2 + 0)), (2, .ref (K.2.2 + 2017)), (3, .ref (K.2.2 + 2054))] []) : J X K 9 False Q k sl 2055 (jw K σ μ o) 2162 [(4, .int (Int32.ofNat i)), (0, .ref b), (1, .ref (K.2.2 + 0)), (2, .ref (K.2.2 + 2017)), (3, .ref (K.2.2 + 2054))] [] := by
  have C := c.1
  refine J_aload_n (i := 1) (p := 2) C dL_law_2162 rfl rfl rfl ?_
  refine J_aload_n (i := 0) (p := 1) C dL_law_2163 rfl rfl rfl ?_
  refine J_iload (i := 4) (p := 0) C dL_law_2164 rfl rfl ?_
  refine J_iconst (v := 1) C (by decide) dL_law_2166 rfl ?_
  refine J_iadd C dL_law_2167 rfl ?_
  refine J_arg c 1 rfl hi (by decide) dL_law_2168 rfl ?_
  refine J_aload_n (i := 3) (p := 4) C dL_law_2169 rfl rfl rfl ?_
  refine Jl_cH (rest := []) (st9 := fun r => [.int r.1]) C ch_260 (hL_isHidden c.2.1 h) rfl rfl (Nat.le_trans (by decide) c.2.2.2.2.2.2.1) (Nat.le_trans (by decide) c.2.2.2.2.2.2.2) (Nat.le_of_ble_eq_true rfl) ⟨by omega, by omega⟩ dL_law_2170 rfl (fun _ => rfl) (fun r h => ?_)
  refine J_istoreE (i := 5) (x' := r.1) (lv' := [(5, .int r.1), (4, .int (Int32.ofNat i)), (0, .ref b), (1, .ref (K.2.2 + 0)), (2, .ref (K.2.2 + 2017)), (3, .ref (K.2.2 + 2054))]) C rfl dL_law_2173 (Nat.le_of_ble_eq_true rfl) rfl rfl ?_
  refine J_aload_n (i := 2) (p := 4) C dL_law_2175 rfl rfl rfl ?_
  refine J_aload_n (i := 0) (p := 2) C dL_law_2176 rfl rfl rfl ?_
  refine J_iload (i := 4) (p := 1) C dL_law_2177 rfl rfl ?_
  refine J_iconst (v := 1) C (by decide) dL_law_2179 rfl ?_
  refine J_iadd C dL_law_2180 rfl ?_
  refine J_arg c 1 rfl hi (by decide) dL_law_2181 rfl ?_
  refine Jl_mV (rest := []) (st9 := fun p => [.int p.1]) C cl_RL_262 rfl (Nat.le_of_ble_eq_true rfl) (k12_isHidden c.2.1 h) rfl rfl (Nat.le_trans (by decide) c.2.2.2.2.2.2.1) (Nat.le_trans (by decide) c.2.2.2.2.2.2.2) (Nat.le_of_ble_eq_true rfl) ⟨by omega, by omega⟩ dL_law_2182 rfl (fun _ => rfl) (fun p h => ?_)
  refine J_istoreE (i := 6) (x' := p.1) (lv' := [(6, .int p.1), (5, .int r.1), (4, .int (Int32.ofNat i)), (0, .ref b), (1, .ref (K.2.2 + 0)), (2, .ref (K.2.2 + 2017)), (3, .ref (K.2.2 + 2054))]) C rfl dL_law_2185 (Nat.le_of_ble_eq_true rfl) rfl rfl ?_
  refine J_aload_n (i := 2) (p := 5) C dL_law_2187 rfl rfl rfl ?_
  refine Jl_mV (rest := []) (st9 := fun t => [.int t]) C cl_RL_156 rfl (Nat.le_of_ble_eq_true rfl) (k12_thrown c.2.1 h) rfl rfl (Nat.le_trans (by decide) c.2.2.2.2.2.2.1) (Nat.le_trans (by decide) c.2.2.2.2.2.2.2) (Nat.le_of_ble_eq_true rfl) ⟨by omega, by omega⟩ dL_law_2188 rfl (fun _ => rfl) (fun t h => ?_)
  obtain ⟨h1, h2, h3⟩ := h
  refine J_iload (i := 5) (p := 1) C dL_law_2191 rfl rfl ?_
  refine J_icmp_eq (t := 2198) C dL_law_2193 (by decide) rfl (fun _ => ?_) (fun e => absurd h1 e)
  refine J_iload (i := 5) (p := 1) C dL_law_2198 rfl rfl ?_
  refine J_if_ne (t := 2222) C dL_law_2200 (by decide) rfl (fun _ => ?_) (fun e => ?_)
  · refine J_goto (t := 2954) C dL_law_2222 (by decide) ?_
    refine J.sub [2, 3, 4, 5, 6] rfl ?_
    exact J.widen (by omega) (by omega) (kont _ _ _ h3)
  · refine J_aload_n (i := 3) (p := 6) C dL_law_2203 rfl rfl rfl ?_
    refine J_iconst (v := 0) C (by decide) dL_law_2204 rfl ?_
    refine J_outld C dL_law_2205 rfl ?_
    refine J_iload (i := 6) (p := 0) C dL_law_2206 rfl rfl ?_
    refine J_lbool (t1 := 2215) (t2 := 2216) C dL_law_2208 (by decide) dL_law_2211 dL_law_2212 (by decide) dL_law_2215 rfl ?_
    refine J_lcmp C dL_law_2216 rfl ?_
    rw [show lg_cmp r.2.2 (lz p.1) = 0 from by rw [h2 (Decidable.not_not.mp e)]; exact lg_cmp_self]
    refine J_if_eq (t := 2222) C dL_law_2217 (by decide) rfl (fun _ => ?_) (fun e => absurd rfl e)
    refine J_goto (t := 2954) C dL_law_2222 (by decide) ?_
    refine J.sub [2, 3, 4, 5, 6] rfl ?_
    exact J.widen (by omega) (by omega) (kont _ _ _ h3)
