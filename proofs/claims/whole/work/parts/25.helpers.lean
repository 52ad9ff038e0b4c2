/-! the law's helpers -/
theorem RE_out {c : ClassId} {f f' : Nat → Int64} (h : f 0 = f' 0) : RE (.inl (c, 1, .inr (.inl f))) (.inl (c, 1, .inr (.inl f'))) := by
  intro D q H z
  have e : vp_cell c (1, .inr (.inl f)) = vp_cell c (1, .inr (.inl f')) := by
    rw [vp_cell_l, vp_cell_l]
    unfold arrV
    congr 1
    apply Array.ext
    · simp
    · intro i h1 h2
      have h3 : i = 0 := by simpa using h1
      subst h3
      simp [h]
  show H[q]? = some (vp_cell _ _)
  have z : H[q]? = some (vp_cell _ _) := z
  rw [z]
  exact congrArg some e
theorem Jl_out {X : JX} {K : JK} {nL : Nat} {g : Prop} {Q : State → Prop} {k sl : Nat} {σ μ : Sto} {o x : Int64} {pc q : Nat} {lv : List (Nat × Value)} {st : List Value} {own : String} {cc : ByteArray} (C : Cx X K nL own cc) (hg : ¬ g) (d : decode cc pc = .ok (.lastore, 1)) (hq : pc + 1 = q) (h : J X K nL g Q k sl 2055 (jw K σ μ x) q lv st) : J X K nL g Q k sl 2055 (jw K σ μ o) pc lv (.long x :: .int 0 :: .ref (K.2.2 + 2054) :: st) := by
  refine J_last (a := 2054) (len := 1) (f := fun _ => o) C hg (by omega) rfl (by intro q; rcases q with q | q; exact absurd q (by decide); exact absurd q (by decide)) d hq (J.wequiv (fun j hj => ?_) h)
  unfold jup
  by_cases e : j = 2054
  · subst e
    rw [if_pos rfl]
    exact RE_out rfl
  · rw [if_neg e]
    have e2 : jw K σ μ o j = jw K σ μ x j := by
      unfold jw
      by_cases h1 : j < 2017
      · rw [if_pos h1, if_pos h1]
      · rw [if_neg h1, if_neg h1, if_pos (by omega), if_pos (by omega)]
    rw [e2]
    exact RE.rfl'
/-- what a helper gives: 0 and the answer in the row, or a number for what was thrown -/
def hres (tab : List (Nat × Int32)) (o : Int64) (Qf : Int32 × Sto × Int64 → Prop) : (Int32 × Sto) ⊕ (Nat × Sto) → Prop
  | .inl p => Qf (0, p.2, p.1.toInt64)
  | .inr c => ∃ v, (c.1, v) ∈ tab ∧ Qf (v, c.2, o)
theorem tw_596 : Cond.classLink "CursorroomLaw" 13 "java/lang/IllegalArgumentException" ∈ TB := tbN 596 (by decide +kernel) (by decide +kernel)
theorem tw_597 : Cond.classLink "CursorroomLaw" 15 "java/lang/IllegalStateException" ∈ TB := tbN 597 (by decide +kernel) (by decide +kernel)
theorem tw_598 : Cond.methodLink "CursorroomLaw" 7 ⟨"Cursorroom", "feed", "(J)I"⟩ ∈ TB := tbN 598 (by decide +kernel) (by decide +kernel)
theorem tw_599 : Cond.instanceMethod ⟨"Cursorroom", "feed", "(J)I"⟩ ∈ TB := tbN 599 (by decide +kernel) (by decide +kernel)
theorem tw_600 : Cond.selects "Cursorroom" ⟨"Cursorroom", "feed", "(J)I"⟩ ⟨"Cursorroom", "feed", "(J)I"⟩ ∈ TB := tbN 600 (by decide +kernel) (by decide +kernel)
theorem tw_601 : Cond.code yX11_feed cX11_feed 7 (some .int) ∈ TB := tbN 601 (by decide +kernel) (by decide +kernel)
theorem tw_696 : Cond.classLink "CursorroomLaw" 21 "java/lang/IndexOutOfBoundsException" ∈ TB := tbN 696 (by decide +kernel) (by decide +kernel)
theorem tw_697 : Cond.methodLink "CursorroomLaw" 17 ⟨"Cursorroom", "copy", "(II)I"⟩ ∈ TB := tbN 697 (by decide +kernel) (by decide +kernel)
theorem tw_698 : Cond.instanceMethod ⟨"Cursorroom", "copy", "(II)I"⟩ ∈ TB := tbN 698 (by decide +kernel) (by decide +kernel)
theorem tw_699 : Cond.selects "Cursorroom" ⟨"Cursorroom", "copy", "(II)I"⟩ ⟨"Cursorroom", "copy", "(II)I"⟩ ∈ TB := tbN 699 (by decide +kernel) (by decide +kernel)
theorem tw_700 : Cond.code yX11_copy cX11_copy 3 (some .int) ∈ TB := tbN 700 (by decide +kernel) (by decide +kernel)
theorem tw_738 : Cond.methodLink "CursorroomLaw" 23 ⟨"Cursorroom", "copyBlock", "(IIII)I"⟩ ∈ TB := tbN 738 (by decide +kernel) (by decide +kernel)
theorem tw_739 : Cond.instanceMethod ⟨"Cursorroom", "copyBlock", "(IIII)I"⟩ ∈ TB := tbN 739 (by decide +kernel) (by decide +kernel)
theorem tw_740 : Cond.selects "Cursorroom" ⟨"Cursorroom", "copyBlock", "(IIII)I"⟩ ⟨"Cursorroom", "copyBlock", "(IIII)I"⟩ ∈ TB := tbN 740 (by decide +kernel) (by decide +kernel)
theorem tw_741 : Cond.code yX11_copyBlock cX11_copyBlock 5 (some .int) ∈ TB := tbN 741 (by decide +kernel) (by decide +kernel)
theorem tw_758 : Cond.methodLink "CursorroomLaw" 27 ⟨"Cursorroom", "type", "()I"⟩ ∈ TB := tbN 758 (by decide +kernel) (by decide +kernel)
theorem tw_759 : Cond.instanceMethod ⟨"Cursorroom", "type", "()I"⟩ ∈ TB := tbN 759 (by decide +kernel) (by decide +kernel)
theorem tw_760 : Cond.selects "Cursorroom" ⟨"Cursorroom", "type", "()I"⟩ ⟨"Cursorroom", "type", "()I"⟩ ∈ TB := tbN 760 (by decide +kernel) (by decide +kernel)
theorem tw_761 : Cond.code yX11_type cX11_type 1 (some .int) ∈ TB := tbN 761 (by decide +kernel) (by decide +kernel)
theorem tw_854 : Cond.methodLink "CursorroomLaw" 31 ⟨"Cursorroom", "erase", "(I)I"⟩ ∈ TB := tbN 854 (by decide +kernel) (by decide +kernel)
theorem tw_855 : Cond.instanceMethod ⟨"Cursorroom", "erase", "(I)I"⟩ ∈ TB := tbN 855 (by decide +kernel) (by decide +kernel)
theorem tw_856 : Cond.selects "Cursorroom" ⟨"Cursorroom", "erase", "(I)I"⟩ ⟨"Cursorroom", "erase", "(I)I"⟩ ∈ TB := tbN 856 (by decide +kernel) (by decide +kernel)
theorem tw_857 : Cond.code yX11_erase cX11_erase 3 (some .int) ∈ TB := tbN 857 (by decide +kernel) (by decide +kernel)
theorem tw_871 : Cond.methodLink "CursorroomLaw" 35 ⟨"Cursorroom", "replace", "(II)I"⟩ ∈ TB := tbN 871 (by decide +kernel) (by decide +kernel)
theorem tw_872 : Cond.instanceMethod ⟨"Cursorroom", "replace", "(II)I"⟩ ∈ TB := tbN 872 (by decide +kernel) (by decide +kernel)
theorem tw_873 : Cond.selects "Cursorroom" ⟨"Cursorroom", "replace", "(II)I"⟩ ⟨"Cursorroom", "replace", "(II)I"⟩ ∈ TB := tbN 873 (by decide +kernel) (by decide +kernel)
theorem tw_874 : Cond.code yX11_replace cX11_replace 3 (some .int) ∈ TB := tbN 874 (by decide +kernel) (by decide +kernel)
theorem tw_878 : Cond.methodLink "CursorroomLaw" 38 ⟨"Cursorroom", "cut", "(II)I"⟩ ∈ TB := tbN 878 (by decide +kernel) (by decide +kernel)
theorem tw_879 : Cond.instanceMethod ⟨"Cursorroom", "cut", "(II)I"⟩ ∈ TB := tbN 879 (by decide +kernel) (by decide +kernel)
theorem tw_880 : Cond.selects "Cursorroom" ⟨"Cursorroom", "cut", "(II)I"⟩ ⟨"Cursorroom", "cut", "(II)I"⟩ ∈ TB := tbN 880 (by decide +kernel) (by decide +kernel)
theorem tw_881 : Cond.code yX11_cut cX11_cut 3 (some .int) ∈ TB := tbN 881 (by decide +kernel) (by decide +kernel)
theorem tw_885 : Cond.methodLink "CursorroomLaw" 41 ⟨"Cursorroom", "paste", "()I"⟩ ∈ TB := tbN 885 (by decide +kernel) (by decide +kernel)
theorem tw_886 : Cond.instanceMethod ⟨"Cursorroom", "paste", "()I"⟩ ∈ TB := tbN 886 (by decide +kernel) (by decide +kernel)
theorem tw_887 : Cond.selects "Cursorroom" ⟨"Cursorroom", "paste", "()I"⟩ ⟨"Cursorroom", "paste", "()I"⟩ ∈ TB := tbN 887 (by decide +kernel) (by decide +kernel)
theorem tw_888 : Cond.code yX11_paste cX11_paste 1 (some .int) ∈ TB := tbN 888 (by decide +kernel) (by decide +kernel)
theorem tw_916 : Cond.methodLink "CursorroomLaw" 44 ⟨"Cursorroom", "indent", "(III)I"⟩ ∈ TB := tbN 916 (by decide +kernel) (by decide +kernel)
theorem tw_917 : Cond.instanceMethod ⟨"Cursorroom", "indent", "(III)I"⟩ ∈ TB := tbN 917 (by decide +kernel) (by decide +kernel)
theorem tw_918 : Cond.selects "Cursorroom" ⟨"Cursorroom", "indent", "(III)I"⟩ ⟨"Cursorroom", "indent", "(III)I"⟩ ∈ TB := tbN 918 (by decide +kernel) (by decide +kernel)
theorem tw_919 : Cond.code yX11_indent cX11_indent 5 (some .int) ∈ TB := tbN 919 (by decide +kernel) (by decide +kernel)
theorem tw_937 : Cond.methodLink "CursorroomLaw" 48 ⟨"Cursorroom", "wrap", "(II)I"⟩ ∈ TB := tbN 937 (by decide +kernel) (by decide +kernel)
theorem tw_938 : Cond.instanceMethod ⟨"Cursorroom", "wrap", "(II)I"⟩ ∈ TB := tbN 938 (by decide +kernel) (by decide +kernel)
theorem tw_939 : Cond.selects "Cursorroom" ⟨"Cursorroom", "wrap", "(II)I"⟩ ⟨"Cursorroom", "wrap", "(II)I"⟩ ∈ TB := tbN 939 (by decide +kernel) (by decide +kernel)
theorem tw_940 : Cond.code yX11_wrap cX11_wrap 6 (some .int) ∈ TB := tbN 940 (by decide +kernel) (by decide +kernel)
theorem tw_949 : Cond.methodLink "CursorroomLaw" 51 ⟨"Cursorroom", "joinLines", "(II)I"⟩ ∈ TB := tbN 949 (by decide +kernel) (by decide +kernel)
theorem tw_950 : Cond.instanceMethod ⟨"Cursorroom", "joinLines", "(II)I"⟩ ∈ TB := tbN 950 (by decide +kernel) (by decide +kernel)
theorem tw_951 : Cond.selects "Cursorroom" ⟨"Cursorroom", "joinLines", "(II)I"⟩ ⟨"Cursorroom", "joinLines", "(II)I"⟩ ∈ TB := tbN 951 (by decide +kernel) (by decide +kernel)
theorem tw_952 : Cond.code yX11_joinLines cX11_joinLines 5 (some .int) ∈ TB := tbN 952 (by decide +kernel) (by decide +kernel)
theorem tw_956 : Cond.methodLink "CursorroomLaw" 54 ⟨"Cursorroom", "replaceNext", "()I"⟩ ∈ TB := tbN 956 (by decide +kernel) (by decide +kernel)
theorem tw_957 : Cond.instanceMethod ⟨"Cursorroom", "replaceNext", "()I"⟩ ∈ TB := tbN 957 (by decide +kernel) (by decide +kernel)
theorem tw_958 : Cond.selects "Cursorroom" ⟨"Cursorroom", "replaceNext", "()I"⟩ ⟨"Cursorroom", "replaceNext", "()I"⟩ ∈ TB := tbN 958 (by decide +kernel) (by decide +kernel)
theorem tw_959 : Cond.code yX11_replaceNext cX11_replaceNext 2 (some .int) ∈ TB := tbN 959 (by decide +kernel) (by decide +kernel)
theorem tw_984 : Cond.methodLink "CursorroomLaw" 57 ⟨"Cursorroom", "replaceAll", "()I"⟩ ∈ TB := tbN 984 (by decide +kernel) (by decide +kernel)
theorem tw_985 : Cond.instanceMethod ⟨"Cursorroom", "replaceAll", "()I"⟩ ∈ TB := tbN 985 (by decide +kernel) (by decide +kernel)
theorem tw_986 : Cond.selects "Cursorroom" ⟨"Cursorroom", "replaceAll", "()I"⟩ ⟨"Cursorroom", "replaceAll", "()I"⟩ ∈ TB := tbN 986 (by decide +kernel) (by decide +kernel)
theorem tw_987 : Cond.code yX11_replaceAll cX11_replaceAll 4 (some .int) ∈ TB := tbN 987 (by decide +kernel) (by decide +kernel)
theorem tw_991 : Cond.methodLink "CursorroomLaw" 60 ⟨"Cursorroom", "undo", "(I)I"⟩ ∈ TB := tbN 991 (by decide +kernel) (by decide +kernel)
theorem tw_992 : Cond.instanceMethod ⟨"Cursorroom", "undo", "(I)I"⟩ ∈ TB := tbN 992 (by decide +kernel) (by decide +kernel)
theorem tw_993 : Cond.selects "Cursorroom" ⟨"Cursorroom", "undo", "(I)I"⟩ ⟨"Cursorroom", "undo", "(I)I"⟩ ∈ TB := tbN 993 (by decide +kernel) (by decide +kernel)
theorem tw_994 : Cond.code yX11_undo cX11_undo 2 (some .int) ∈ TB := tbN 994 (by decide +kernel) (by decide +kernel)
theorem tw_998 : Cond.methodLink "CursorroomLaw" 63 ⟨"Cursorroom", "redo", "(I)I"⟩ ∈ TB := tbN 998 (by decide +kernel) (by decide +kernel)
theorem tw_999 : Cond.instanceMethod ⟨"Cursorroom", "redo", "(I)I"⟩ ∈ TB := tbN 999 (by decide +kernel) (by decide +kernel)
theorem tw_1000 : Cond.selects "Cursorroom" ⟨"Cursorroom", "redo", "(I)I"⟩ ⟨"Cursorroom", "redo", "(I)I"⟩ ∈ TB := tbN 1000 (by decide +kernel) (by decide +kernel)
theorem tw_1001 : Cond.code yX11_redo cX11_redo 2 (some .int) ∈ TB := tbN 1001 (by decide +kernel) (by decide +kernel)
theorem tw_1005 : Cond.classLink "CursorroomLaw" 69 "java/util/NoSuchElementException" ∈ TB := tbN 1005 (by decide +kernel) (by decide +kernel)
theorem tw_1006 : Cond.methodLink "CursorroomLaw" 66 ⟨"Cursorroom", "branch", "(I)I"⟩ ∈ TB := tbN 1006 (by decide +kernel) (by decide +kernel)
theorem tw_1007 : Cond.instanceMethod ⟨"Cursorroom", "branch", "(I)I"⟩ ∈ TB := tbN 1007 (by decide +kernel) (by decide +kernel)
theorem tw_1008 : Cond.selects "Cursorroom" ⟨"Cursorroom", "branch", "(I)I"⟩ ⟨"Cursorroom", "branch", "(I)I"⟩ ∈ TB := tbN 1008 (by decide +kernel) (by decide +kernel)
theorem tw_1009 : Cond.code yX11_branch cX11_branch 3 (some .int) ∈ TB := tbN 1009 (by decide +kernel) (by decide +kernel)
theorem tw_1037 : Cond.methodLink "CursorroomLaw" 71 ⟨"Cursorroom", "acts", "(I)I"⟩ ∈ TB := tbN 1037 (by decide +kernel) (by decide +kernel)
theorem tw_1038 : Cond.instanceMethod ⟨"Cursorroom", "acts", "(I)I"⟩ ∈ TB := tbN 1038 (by decide +kernel) (by decide +kernel)
theorem tw_1039 : Cond.selects "Cursorroom" ⟨"Cursorroom", "acts", "(I)I"⟩ ⟨"Cursorroom", "acts", "(I)I"⟩ ∈ TB := tbN 1039 (by decide +kernel) (by decide +kernel)
theorem tw_1040 : Cond.code yX11_acts cX11_acts 2 (some .int) ∈ TB := tbN 1040 (by decide +kernel) (by decide +kernel)
theorem tw_1053 : Cond.methodLink "CursorroomLaw" 74 ⟨"Cursorroom", "setCursor", "(I)I"⟩ ∈ TB := tbN 1053 (by decide +kernel) (by decide +kernel)
theorem tw_1054 : Cond.instanceMethod ⟨"Cursorroom", "setCursor", "(I)I"⟩ ∈ TB := tbN 1054 (by decide +kernel) (by decide +kernel)
theorem tw_1055 : Cond.selects "Cursorroom" ⟨"Cursorroom", "setCursor", "(I)I"⟩ ⟨"Cursorroom", "setCursor", "(I)I"⟩ ∈ TB := tbN 1055 (by decide +kernel) (by decide +kernel)
theorem tw_1056 : Cond.code yX11_setCursor cX11_setCursor 3 (some .int) ∈ TB := tbN 1056 (by decide +kernel) (by decide +kernel)
theorem tw_1060 : Cond.methodLink "CursorroomLaw" 77 ⟨"Cursorroom", "addCursor", "(I)I"⟩ ∈ TB := tbN 1060 (by decide +kernel) (by decide +kernel)
theorem tw_1061 : Cond.instanceMethod ⟨"Cursorroom", "addCursor", "(I)I"⟩ ∈ TB := tbN 1061 (by decide +kernel) (by decide +kernel)
theorem tw_1062 : Cond.selects "Cursorroom" ⟨"Cursorroom", "addCursor", "(I)I"⟩ ⟨"Cursorroom", "addCursor", "(I)I"⟩ ∈ TB := tbN 1062 (by decide +kernel) (by decide +kernel)
theorem tw_1063 : Cond.code yX11_addCursor cX11_addCursor 2 (some .int) ∈ TB := tbN 1063 (by decide +kernel) (by decide +kernel)
theorem tw_1073 : Cond.methodLink "CursorroomLaw" 80 ⟨"Cursorroom", "moveCursors", "(II)I"⟩ ∈ TB := tbN 1073 (by decide +kernel) (by decide +kernel)
theorem tw_1074 : Cond.instanceMethod ⟨"Cursorroom", "moveCursors", "(II)I"⟩ ∈ TB := tbN 1074 (by decide +kernel) (by decide +kernel)
theorem tw_1075 : Cond.selects "Cursorroom" ⟨"Cursorroom", "moveCursors", "(II)I"⟩ ⟨"Cursorroom", "moveCursors", "(II)I"⟩ ∈ TB := tbN 1075 (by decide +kernel) (by decide +kernel)
theorem tw_1076 : Cond.code yX11_moveCursors cX11_moveCursors 3 (some .int) ∈ TB := tbN 1076 (by decide +kernel) (by decide +kernel)
theorem tw_1133 : Cond.methodLink "CursorroomLaw" 83 ⟨"Cursorroom", "cursorAt", "(I)I"⟩ ∈ TB := tbN 1133 (by decide +kernel) (by decide +kernel)
theorem tw_1134 : Cond.instanceMethod ⟨"Cursorroom", "cursorAt", "(I)I"⟩ ∈ TB := tbN 1134 (by decide +kernel) (by decide +kernel)
theorem tw_1135 : Cond.selects "Cursorroom" ⟨"Cursorroom", "cursorAt", "(I)I"⟩ ⟨"Cursorroom", "cursorAt", "(I)I"⟩ ∈ TB := tbN 1135 (by decide +kernel) (by decide +kernel)
theorem tw_1136 : Cond.code yX11_cursorAt cX11_cursorAt 2 (some .int) ∈ TB := tbN 1136 (by decide +kernel) (by decide +kernel)
theorem tw_1141 : Cond.methodLink "CursorroomLaw" 86 ⟨"Cursorroom", "setMark", "(IIZ)I"⟩ ∈ TB := tbN 1141 (by decide +kernel) (by decide +kernel)
theorem tw_1142 : Cond.instanceMethod ⟨"Cursorroom", "setMark", "(IIZ)I"⟩ ∈ TB := tbN 1142 (by decide +kernel) (by decide +kernel)
theorem tw_1143 : Cond.selects "Cursorroom" ⟨"Cursorroom", "setMark", "(IIZ)I"⟩ ⟨"Cursorroom", "setMark", "(IIZ)I"⟩ ∈ TB := tbN 1143 (by decide +kernel) (by decide +kernel)
theorem tw_1144 : Cond.code yX11_setMark cX11_setMark 5 (some .int) ∈ TB := tbN 1144 (by decide +kernel) (by decide +kernel)
theorem tw_1153 : Cond.methodLink "CursorroomLaw" 90 ⟨"Cursorroom", "dropMark", "(I)I"⟩ ∈ TB := tbN 1153 (by decide +kernel) (by decide +kernel)
theorem tw_1154 : Cond.instanceMethod ⟨"Cursorroom", "dropMark", "(I)I"⟩ ∈ TB := tbN 1154 (by decide +kernel) (by decide +kernel)
theorem tw_1155 : Cond.selects "Cursorroom" ⟨"Cursorroom", "dropMark", "(I)I"⟩ ⟨"Cursorroom", "dropMark", "(I)I"⟩ ∈ TB := tbN 1155 (by decide +kernel) (by decide +kernel)
theorem tw_1156 : Cond.code yX11_dropMark cX11_dropMark 3 (some .int) ∈ TB := tbN 1156 (by decide +kernel) (by decide +kernel)
theorem tw_1160 : Cond.methodLink "CursorroomLaw" 93 ⟨"Cursorroom", "markAt", "(I)I"⟩ ∈ TB := tbN 1160 (by decide +kernel) (by decide +kernel)
theorem tw_1161 : Cond.instanceMethod ⟨"Cursorroom", "markAt", "(I)I"⟩ ∈ TB := tbN 1161 (by decide +kernel) (by decide +kernel)
theorem tw_1162 : Cond.selects "Cursorroom" ⟨"Cursorroom", "markAt", "(I)I"⟩ ⟨"Cursorroom", "markAt", "(I)I"⟩ ∈ TB := tbN 1162 (by decide +kernel) (by decide +kernel)
theorem tw_1163 : Cond.code yX11_markAt cX11_markAt 2 (some .int) ∈ TB := tbN 1163 (by decide +kernel) (by decide +kernel)
theorem tw_1167 : Cond.methodLink "CursorroomLaw" 96 ⟨"Cursorroom", "markBeside", "(IZ)I"⟩ ∈ TB := tbN 1167 (by decide +kernel) (by decide +kernel)
theorem tw_1168 : Cond.instanceMethod ⟨"Cursorroom", "markBeside", "(IZ)I"⟩ ∈ TB := tbN 1168 (by decide +kernel) (by decide +kernel)
theorem tw_1169 : Cond.selects "Cursorroom" ⟨"Cursorroom", "markBeside", "(IZ)I"⟩ ⟨"Cursorroom", "markBeside", "(IZ)I"⟩ ∈ TB := tbN 1169 (by decide +kernel) (by decide +kernel)
theorem tw_1170 : Cond.code yX11_markBeside cX11_markBeside 3 (some .int) ∈ TB := tbN 1170 (by decide +kernel) (by decide +kernel)
theorem tw_1182 : Cond.methodLink "CursorroomLaw" 100 ⟨"Cursorroom", "setPattern", "(Z)I"⟩ ∈ TB := tbN 1182 (by decide +kernel) (by decide +kernel)
theorem tw_1183 : Cond.instanceMethod ⟨"Cursorroom", "setPattern", "(Z)I"⟩ ∈ TB := tbN 1183 (by decide +kernel) (by decide +kernel)
theorem tw_1184 : Cond.selects "Cursorroom" ⟨"Cursorroom", "setPattern", "(Z)I"⟩ ⟨"Cursorroom", "setPattern", "(Z)I"⟩ ∈ TB := tbN 1184 (by decide +kernel) (by decide +kernel)
theorem tw_1185 : Cond.code yX11_setPattern cX11_setPattern 2 (some .int) ∈ TB := tbN 1185 (by decide +kernel) (by decide +kernel)
theorem tw_1195 : Cond.methodLink "CursorroomLaw" 104 ⟨"Cursorroom", "find", "(IZ)I"⟩ ∈ TB := tbN 1195 (by decide +kernel) (by decide +kernel)
theorem tw_1196 : Cond.instanceMethod ⟨"Cursorroom", "find", "(IZ)I"⟩ ∈ TB := tbN 1196 (by decide +kernel) (by decide +kernel)
theorem tw_1197 : Cond.selects "Cursorroom" ⟨"Cursorroom", "find", "(IZ)I"⟩ ⟨"Cursorroom", "find", "(IZ)I"⟩ ∈ TB := tbN 1197 (by decide +kernel) (by decide +kernel)
theorem tw_1198 : Cond.code yX11_find cX11_find 3 (some .int) ∈ TB := tbN 1198 (by decide +kernel) (by decide +kernel)
theorem tw_1207 : Cond.methodLink "CursorroomLaw" 107 ⟨"Cursorroom", "fold", "(II)I"⟩ ∈ TB := tbN 1207 (by decide +kernel) (by decide +kernel)
theorem tw_1208 : Cond.instanceMethod ⟨"Cursorroom", "fold", "(II)I"⟩ ∈ TB := tbN 1208 (by decide +kernel) (by decide +kernel)
theorem tw_1209 : Cond.selects "Cursorroom" ⟨"Cursorroom", "fold", "(II)I"⟩ ⟨"Cursorroom", "fold", "(II)I"⟩ ∈ TB := tbN 1209 (by decide +kernel) (by decide +kernel)
theorem tw_1210 : Cond.code yX11_fold cX11_fold 4 (some .int) ∈ TB := tbN 1210 (by decide +kernel) (by decide +kernel)
theorem tw_1224 : Cond.methodLink "CursorroomLaw" 110 ⟨"Cursorroom", "unfold", "(I)I"⟩ ∈ TB := tbN 1224 (by decide +kernel) (by decide +kernel)
theorem tw_1225 : Cond.instanceMethod ⟨"Cursorroom", "unfold", "(I)I"⟩ ∈ TB := tbN 1225 (by decide +kernel) (by decide +kernel)
theorem tw_1226 : Cond.selects "Cursorroom" ⟨"Cursorroom", "unfold", "(I)I"⟩ ⟨"Cursorroom", "unfold", "(I)I"⟩ ∈ TB := tbN 1226 (by decide +kernel) (by decide +kernel)
theorem tw_1227 : Cond.code yX11_unfold cX11_unfold 2 (some .int) ∈ TB := tbN 1227 (by decide +kernel) (by decide +kernel)
theorem tw_1239 : Cond.methodLink "CursorroomLaw" 117 ⟨"Cursorroom", "setView", "(III)I"⟩ ∈ TB := tbN 1239 (by decide +kernel) (by decide +kernel)
theorem tw_1240 : Cond.instanceMethod ⟨"Cursorroom", "setView", "(III)I"⟩ ∈ TB := tbN 1240 (by decide +kernel) (by decide +kernel)
theorem tw_1241 : Cond.selects "Cursorroom" ⟨"Cursorroom", "setView", "(III)I"⟩ ⟨"Cursorroom", "setView", "(III)I"⟩ ∈ TB := tbN 1241 (by decide +kernel) (by decide +kernel)
theorem tw_1242 : Cond.code yX11_setView cX11_setView 5 (some .int) ∈ TB := tbN 1242 (by decide +kernel) (by decide +kernel)
theorem tw_1252 : Cond.methodLink "CursorroomLaw" 120 ⟨"Cursorroom", "rowOf", "(II)I"⟩ ∈ TB := tbN 1252 (by decide +kernel) (by decide +kernel)
theorem tw_1253 : Cond.instanceMethod ⟨"Cursorroom", "rowOf", "(II)I"⟩ ∈ TB := tbN 1253 (by decide +kernel) (by decide +kernel)
theorem tw_1254 : Cond.selects "Cursorroom" ⟨"Cursorroom", "rowOf", "(II)I"⟩ ⟨"Cursorroom", "rowOf", "(II)I"⟩ ∈ TB := tbN 1254 (by decide +kernel) (by decide +kernel)
theorem tw_1255 : Cond.code yX11_rowOf cX11_rowOf 5 (some .int) ∈ TB := tbN 1255 (by decide +kernel) (by decide +kernel)
theorem tw_1260 : Cond.methodLink "CursorroomLaw" 123 ⟨"Cursorroom", "play", "(I)I"⟩ ∈ TB := tbN 1260 (by decide +kernel) (by decide +kernel)
theorem tw_1261 : Cond.instanceMethod ⟨"Cursorroom", "play", "(I)I"⟩ ∈ TB := tbN 1261 (by decide +kernel) (by decide +kernel)
theorem tw_1262 : Cond.selects "Cursorroom" ⟨"Cursorroom", "play", "(I)I"⟩ ⟨"Cursorroom", "play", "(I)I"⟩ ∈ TB := tbN 1262 (by decide +kernel) (by decide +kernel)
theorem tw_1263 : Cond.code yX11_play cX11_play 7 (some .int) ∈ TB := tbN 1263 (by decide +kernel) (by decide +kernel)
theorem tw_1273 : Cond.methodLink "CursorroomLaw" 126 ⟨"Cursorroom", "count", "(I)I"⟩ ∈ TB := tbN 1273 (by decide +kernel) (by decide +kernel)
theorem tw_1274 : Cond.instanceMethod ⟨"Cursorroom", "count", "(I)I"⟩ ∈ TB := tbN 1274 (by decide +kernel) (by decide +kernel)
theorem tw_1275 : Cond.selects "Cursorroom" ⟨"Cursorroom", "count", "(I)I"⟩ ⟨"Cursorroom", "count", "(I)I"⟩ ∈ TB := tbN 1275 (by decide +kernel) (by decide +kernel)
theorem tw_1276 : Cond.code yX11_count cX11_count 2 (some .int) ∈ TB := tbN 1276 (by decide +kernel) (by decide +kernel)
theorem tw_1289 : Cond.methodLink "CursorroomLaw" 129 ⟨"Cursorroom", "letterAt", "(I)I"⟩ ∈ TB := tbN 1289 (by decide +kernel) (by decide +kernel)
theorem tw_1290 : Cond.instanceMethod ⟨"Cursorroom", "letterAt", "(I)I"⟩ ∈ TB := tbN 1290 (by decide +kernel) (by decide +kernel)
theorem tw_1291 : Cond.selects "Cursorroom" ⟨"Cursorroom", "letterAt", "(I)I"⟩ ⟨"Cursorroom", "letterAt", "(I)I"⟩ ∈ TB := tbN 1291 (by decide +kernel) (by decide +kernel)
theorem tw_1292 : Cond.code yX11_letterAt cX11_letterAt 2 (some .int) ∈ TB := tbN 1292 (by decide +kernel) (by decide +kernel)
theorem tw_1297 : Cond.methodLink "CursorroomLaw" 132 ⟨"Cursorroom", "lineOf", "(I)I"⟩ ∈ TB := tbN 1297 (by decide +kernel) (by decide +kernel)
theorem tw_1298 : Cond.instanceMethod ⟨"Cursorroom", "lineOf", "(I)I"⟩ ∈ TB := tbN 1298 (by decide +kernel) (by decide +kernel)
theorem tw_1299 : Cond.selects "Cursorroom" ⟨"Cursorroom", "lineOf", "(I)I"⟩ ⟨"Cursorroom", "lineOf", "(I)I"⟩ ∈ TB := tbN 1299 (by decide +kernel) (by decide +kernel)
theorem tw_1300 : Cond.code yX11_lineOf cX11_lineOf 2 (some .int) ∈ TB := tbN 1300 (by decide +kernel) (by decide +kernel)
theorem tw_1304 : Cond.methodLink "CursorroomLaw" 135 ⟨"Cursorroom", "columnOf", "(I)I"⟩ ∈ TB := tbN 1304 (by decide +kernel) (by decide +kernel)
theorem tw_1305 : Cond.instanceMethod ⟨"Cursorroom", "columnOf", "(I)I"⟩ ∈ TB := tbN 1305 (by decide +kernel) (by decide +kernel)
theorem tw_1306 : Cond.selects "Cursorroom" ⟨"Cursorroom", "columnOf", "(I)I"⟩ ⟨"Cursorroom", "columnOf", "(I)I"⟩ ∈ TB := tbN 1306 (by decide +kernel) (by decide +kernel)
theorem tw_1307 : Cond.code yX11_columnOf cX11_columnOf 2 (some .int) ∈ TB := tbN 1307 (by decide +kernel) (by decide +kernel)
theorem tw_1312 : Cond.methodLink "CursorroomLaw" 138 ⟨"Cursorroom", "placeAt", "(II)I"⟩ ∈ TB := tbN 1312 (by decide +kernel) (by decide +kernel)
theorem tw_1313 : Cond.instanceMethod ⟨"Cursorroom", "placeAt", "(II)I"⟩ ∈ TB := tbN 1313 (by decide +kernel) (by decide +kernel)
theorem tw_1314 : Cond.selects "Cursorroom" ⟨"Cursorroom", "placeAt", "(II)I"⟩ ⟨"Cursorroom", "placeAt", "(II)I"⟩ ∈ TB := tbN 1314 (by decide +kernel) (by decide +kernel)
theorem tw_1315 : Cond.code yX11_placeAt cX11_placeAt 3 (some .int) ∈ TB := tbN 1315 (by decide +kernel) (by decide +kernel)
theorem tw_1321 : Cond.methodLink "CursorroomLaw" 141 ⟨"Cursorroom", "setTab", "(I)I"⟩ ∈ TB := tbN 1321 (by decide +kernel) (by decide +kernel)
theorem tw_1322 : Cond.instanceMethod ⟨"Cursorroom", "setTab", "(I)I"⟩ ∈ TB := tbN 1322 (by decide +kernel) (by decide +kernel)
theorem tw_1323 : Cond.selects "Cursorroom" ⟨"Cursorroom", "setTab", "(I)I"⟩ ⟨"Cursorroom", "setTab", "(I)I"⟩ ∈ TB := tbN 1323 (by decide +kernel) (by decide +kernel)
theorem tw_1324 : Cond.code yX11_setTab cX11_setTab 3 (some .int) ∈ TB := tbN 1324 (by decide +kernel) (by decide +kernel)
theorem cv_RL_7 : CV RL 7 10 yX11_feed cX11_feed 7 (some .int) 1 := ⟨⟨tw_598, tw_82, tw_601, by decide +kernel, by decide +kernel, by decide +kernel⟩, tw_600, tw_599, TX11, 11, rfl⟩
set_option maxRecDepth 100000 in
theorem hL_feed {l : Launch} {K : JK} (hl : l.stackTraces = false) {σ μ : Sto} {o : Int64} {l1 : Int64} {Qf : Int32 × Sto × Int64 → Prop} (h : Ok (f11_feed σ l1) (hres [(2, 1), (3, 2)] o Qf)) : Con l K yL_feed (.codeWith yL_feed cL_feed 5 (some .int) [(0, 9, 12, 13), (0, 9, 16, 15)] :: TB) 7 1 6 False [.ref (K.2.2 + 0), .long l1, .ref (K.2.2 + 2054)] 2055 (jw K σ μ o) (PR Qf (fun p => some (.int p.1)) (fun p => jw K p.2.1 μ p.2.2)) PN := by
  refine Con.enterH (own := RL) hl (by decide) rfl (Nat.le_of_ble_eq_true rfl) ?_
  intro X hX hR C hret htab
  refine J_aload_n (i := 3) (p := 2) C dL_feed_0 rfl rfl rfl ?_
  refine J_iconst (v := 0) C (by decide) dL_feed_1 rfl ?_
  refine J_aload_n (i := 0) (p := 0) C dL_feed_2 rfl rfl rfl ?_
  refine J_lload_n (i := 1) (p := 1) C dL_feed_3 rfl rfl rfl ?_
  refine Jc_cV (rest := [.int 0, .ref (K.2.2 + 2054)]) (st9 := fun p => [.int p.1, .int 0, .ref (K.2.2 + 2054)]) C hR hX cv_RL_7 rfl (Nat.le_of_ble_eq_true rfl) (k11_feed hl h) rfl rfl (Nat.le_of_ble_eq_true rfl) (Nat.le_of_ble_eq_true rfl) (Nat.le_of_ble_eq_true rfl) ⟨(Nat.le_of_ble_eq_true rfl), (Nat.le_of_ble_eq_true rfl)⟩ dL_feed_4 rfl ?_ (fun _ => rfl) ?_
  · rintro E n9 w9 ⟨c, s9, ⟨v, hv, hq⟩, rfl, rfl, rfl⟩
    simp only [List.mem_cons, Prod.mk.injEq, List.not_mem_nil, or_false] at hv
    rcases hv with ⟨rfl, rfl⟩ | ⟨rfl, rfl⟩
    · refine JT_catch C [] ⟨0, 9, 12, 13⟩ [⟨0, 9, 16, 15⟩] htab (fun z hz => nomatch hz) (by decide) (by decide) tw_596 (by decide +kernel) (fun z => ?_)
      refine J_astore (i := 4) C dL_feed_12 (Nat.le_of_ble_eq_true rfl) rfl rfl ?_
      refine J_iconst (v := 1) C (by decide) dL_feed_14 rfl ?_
      exact J_iret C hret (Nat.le_of_ble_eq_true rfl) (Nat.le_of_ble_eq_true rfl) ⟨_, hq, rfl, rfl, rfl⟩ dL_feed_15
    · refine JT_catch C [⟨0, 9, 12, 13⟩] ⟨0, 9, 16, 15⟩ [] htab (fun z hz => by
      rcases List.mem_cons.mp hz with rfl | hz
      · exact Or.inr ⟨by decide, "java/lang/IllegalArgumentException", tw_596, by decide +kernel⟩
      nomatch hz) (by decide) (by decide) tw_597 (by decide +kernel) (fun z => ?_)
      refine J_astore (i := 4) C dL_feed_16 (Nat.le_of_ble_eq_true rfl) rfl rfl ?_
      refine J_iconst (v := 2) C (by decide) dL_feed_18 rfl ?_
      exact J_iret C hret (Nat.le_of_ble_eq_true rfl) (Nat.le_of_ble_eq_true rfl) ⟨_, hq, rfl, rfl, rfl⟩ dL_feed_19
  · intro p hq
    refine J_i2l C dL_feed_7 rfl ?_
    refine Jl_out C id dL_feed_8 rfl ?_
    refine J_goto (t := 20) C dL_feed_9 (by decide) ?_
    refine J_iconst (v := 0) C (by decide) dL_feed_20 rfl ?_
    exact J_iret C hret (Nat.le_of_ble_eq_true rfl) (Nat.le_of_ble_eq_true rfl) ⟨_, hq, rfl, rfl, rfl⟩ dL_feed_21
theorem cv_RL_17 : CV RL 17 10 yX11_copy cX11_copy 3 (some .int) 2 := ⟨⟨tw_697, tw_82, tw_700, by decide +kernel, by decide +kernel, by decide +kernel⟩, tw_699, tw_698, TX11, 11, rfl⟩
set_option maxRecDepth 100000 in
theorem hL_copy {l : Launch} {K : JK} (hl : l.stackTraces = false) {σ μ : Sto} {o : Int64} {l1 : Int32} {l2 : Int32} {Qf : Int32 × Sto × Int64 → Prop} (h : Ok (f11_copy σ l1 l2) (hres [(1, 1), (2, 2)] o Qf)) : Con l K yL_copy (.codeWith yL_copy cL_copy 5 (some .int) [(0, 10, 13, 21), (0, 10, 17, 13)] :: TB) 9 3 18 False [.ref (K.2.2 + 0), .int l1, .int l2, .ref (K.2.2 + 2054)] 2055 (jw K σ μ o) (PR Qf (fun p => some (.int p.1)) (fun p => jw K p.2.1 μ p.2.2)) PN := by
  refine Con.enterH (own := RL) hl (by decide) rfl (Nat.le_of_ble_eq_true rfl) ?_
  intro X hX hR C hret htab
  refine J_aload_n (i := 3) (p := 3) C dL_copy_0 rfl rfl rfl ?_
  refine J_iconst (v := 0) C (by decide) dL_copy_1 rfl ?_
  refine J_aload_n (i := 0) (p := 0) C dL_copy_2 rfl rfl rfl ?_
  refine J_iload_n (i := 1) (p := 1) C dL_copy_3 rfl rfl rfl ?_
  refine J_iload_n (i := 2) (p := 2) C dL_copy_4 rfl rfl rfl ?_
  refine Jc_cV (rest := [.int 0, .ref (K.2.2 + 2054)]) (st9 := fun p => [.int p.1, .int 0, .ref (K.2.2 + 2054)]) C hR hX cv_RL_17 rfl (Nat.le_of_ble_eq_true rfl) (k11_copy hl h) rfl rfl (Nat.le_of_ble_eq_true rfl) (Nat.le_of_ble_eq_true rfl) (Nat.le_of_ble_eq_true rfl) ⟨(Nat.le_of_ble_eq_true rfl), (Nat.le_of_ble_eq_true rfl)⟩ dL_copy_5 rfl ?_ (fun _ => rfl) ?_
  · rintro E n9 w9 ⟨c, s9, ⟨v, hv, hq⟩, rfl, rfl, rfl⟩
    simp only [List.mem_cons, Prod.mk.injEq, List.not_mem_nil, or_false] at hv
    rcases hv with ⟨rfl, rfl⟩ | ⟨rfl, rfl⟩
    · refine JT_catch C [] ⟨0, 10, 13, 21⟩ [⟨0, 10, 17, 13⟩] htab (fun z hz => nomatch hz) (by decide) (by decide) tw_696 (by decide +kernel) (fun z => ?_)
      refine J_astore (i := 4) C dL_copy_13 (Nat.le_of_ble_eq_true rfl) rfl rfl ?_
      refine J_iconst (v := 1) C (by decide) dL_copy_15 rfl ?_
      exact J_iret C hret (Nat.le_of_ble_eq_true rfl) (Nat.le_of_ble_eq_true rfl) ⟨_, hq, rfl, rfl, rfl⟩ dL_copy_16
    · refine JT_catch C [⟨0, 10, 13, 21⟩] ⟨0, 10, 17, 13⟩ [] htab (fun z hz => by
      rcases List.mem_cons.mp hz with rfl | hz
      · exact Or.inr ⟨by decide, "java/lang/IndexOutOfBoundsException", tw_696, by decide +kernel⟩
      nomatch hz) (by decide) (by decide) tw_596 (by decide +kernel) (fun z => ?_)
      refine J_astore (i := 4) C dL_copy_17 (Nat.le_of_ble_eq_true rfl) rfl rfl ?_
      refine J_iconst (v := 2) C (by decide) dL_copy_19 rfl ?_
      exact J_iret C hret (Nat.le_of_ble_eq_true rfl) (Nat.le_of_ble_eq_true rfl) ⟨_, hq, rfl, rfl, rfl⟩ dL_copy_20
  · intro p hq
    refine J_i2l C dL_copy_8 rfl ?_
    refine Jl_out C id dL_copy_9 rfl ?_
    refine J_goto (t := 21) C dL_copy_10 (by decide) ?_
    refine J_iconst (v := 0) C (by decide) dL_copy_21 rfl ?_
    exact J_iret C hret (Nat.le_of_ble_eq_true rfl) (Nat.le_of_ble_eq_true rfl) ⟨_, hq, rfl, rfl, rfl⟩ dL_copy_22
theorem cv_RL_23 : CV RL 23 10 yX11_copyBlock cX11_copyBlock 5 (some .int) 4 := ⟨⟨tw_738, tw_82, tw_741, by decide +kernel, by decide +kernel, by decide +kernel⟩, tw_740, tw_739, TX11, 11, rfl⟩
set_option maxRecDepth 100000 in
theorem hL_copyBlock {l : Launch} {K : JK} (hl : l.stackTraces = false) {σ μ : Sto} {o : Int64} {l1 : Int32} {l2 : Int32} {l3 : Int32} {l4 : Int32} {Qf : Int32 × Sto × Int64 → Prop} (h : Ok (f11_copyBlock σ l1 l2 l3 l4) (hres [(1, 1), (2, 2)] o Qf)) : Con l K yL_copyBlock (.codeWith yL_copyBlock cL_copyBlock 7 (some .int) [(0, 14, 17, 21), (0, 14, 21, 13)] :: TB) 8 2 12 False [.ref (K.2.2 + 0), .int l1, .int l2, .int l3, .int l4, .ref (K.2.2 + 2054)] 2055 (jw K σ μ o) (PR Qf (fun p => some (.int p.1)) (fun p => jw K p.2.1 μ p.2.2)) PN := by
  refine Con.enterH (own := RL) hl (by decide) rfl (Nat.le_of_ble_eq_true rfl) ?_
  intro X hX hR C hret htab
  refine J_aload (i := 5) (p := 5) C dL_copyBlock_0 rfl rfl ?_
  refine J_iconst (v := 0) C (by decide) dL_copyBlock_2 rfl ?_
  refine J_aload_n (i := 0) (p := 0) C dL_copyBlock_3 rfl rfl rfl ?_
  refine J_iload_n (i := 1) (p := 1) C dL_copyBlock_4 rfl rfl rfl ?_
  refine J_iload_n (i := 2) (p := 2) C dL_copyBlock_5 rfl rfl rfl ?_
  refine J_iload_n (i := 3) (p := 3) C dL_copyBlock_6 rfl rfl rfl ?_
  refine J_iload (i := 4) (p := 4) C dL_copyBlock_7 rfl rfl ?_
  refine Jc_cV (rest := [.int 0, .ref (K.2.2 + 2054)]) (st9 := fun p => [.int p.1, .int 0, .ref (K.2.2 + 2054)]) C hR hX cv_RL_23 rfl (Nat.le_of_ble_eq_true rfl) (k11_copyBlock hl h) rfl rfl (Nat.le_of_ble_eq_true rfl) (Nat.le_of_ble_eq_true rfl) (Nat.le_of_ble_eq_true rfl) ⟨(Nat.le_of_ble_eq_true rfl), (Nat.le_of_ble_eq_true rfl)⟩ dL_copyBlock_9 rfl ?_ (fun _ => rfl) ?_
  · rintro E n9 w9 ⟨c, s9, ⟨v, hv, hq⟩, rfl, rfl, rfl⟩
    simp only [List.mem_cons, Prod.mk.injEq, List.not_mem_nil, or_false] at hv
    rcases hv with ⟨rfl, rfl⟩ | ⟨rfl, rfl⟩
    · refine JT_catch C [] ⟨0, 14, 17, 21⟩ [⟨0, 14, 21, 13⟩] htab (fun z hz => nomatch hz) (by decide) (by decide) tw_696 (by decide +kernel) (fun z => ?_)
      refine J_astore (i := 6) C dL_copyBlock_17 (Nat.le_of_ble_eq_true rfl) rfl rfl ?_
      refine J_iconst (v := 1) C (by decide) dL_copyBlock_19 rfl ?_
      exact J_iret C hret (Nat.le_of_ble_eq_true rfl) (Nat.le_of_ble_eq_true rfl) ⟨_, hq, rfl, rfl, rfl⟩ dL_copyBlock_20
    · refine JT_catch C [⟨0, 14, 17, 21⟩] ⟨0, 14, 21, 13⟩ [] htab (fun z hz => by
      rcases List.mem_cons.mp hz with rfl | hz
      · exact Or.inr ⟨by decide, "java/lang/IndexOutOfBoundsException", tw_696, by decide +kernel⟩
      nomatch hz) (by decide) (by decide) tw_596 (by decide +kernel) (fun z => ?_)
      refine J_astore (i := 6) C dL_copyBlock_21 (Nat.le_of_ble_eq_true rfl) rfl rfl ?_
      refine J_iconst (v := 2) C (by decide) dL_copyBlock_23 rfl ?_
      exact J_iret C hret (Nat.le_of_ble_eq_true rfl) (Nat.le_of_ble_eq_true rfl) ⟨_, hq, rfl, rfl, rfl⟩ dL_copyBlock_24
  · intro p hq
    refine J_i2l C dL_copyBlock_12 rfl ?_
    refine Jl_out C id dL_copyBlock_13 rfl ?_
    refine J_goto (t := 25) C dL_copyBlock_14 (by decide) ?_
    refine J_iconst (v := 0) C (by decide) dL_copyBlock_25 rfl ?_
    exact J_iret C hret (Nat.le_of_ble_eq_true rfl) (Nat.le_of_ble_eq_true rfl) ⟨_, hq, rfl, rfl, rfl⟩ dL_copyBlock_26
theorem cv_RL_27 : CV RL 27 10 yX11_type cX11_type 1 (some .int) 0 := ⟨⟨tw_758, tw_82, tw_761, by decide +kernel, by decide +kernel, by decide +kernel⟩, tw_760, tw_759, TX11, 11, rfl⟩
set_option maxRecDepth 100000 in
theorem hL_type {l : Launch} {K : JK} (hl : l.stackTraces = false) {σ μ : Sto} {o : Int64}  {Qf : Int32 × Sto × Int64 → Prop} (h : Ok (f11_type σ) (hres [(3, 1)] o Qf)) : Con l K yL_type (.codeWith yL_type cL_type 3 (some .int) [(0, 8, 11, 15)] :: TB) 7 1 6 False [.ref (K.2.2 + 0), .ref (K.2.2 + 2054)] 2055 (jw K σ μ o) (PR Qf (fun p => some (.int p.1)) (fun p => jw K p.2.1 μ p.2.2)) PN := by
  refine Con.enterH (own := RL) hl (by decide) rfl (Nat.le_of_ble_eq_true rfl) ?_
  intro X hX hR C hret htab
  refine J_aload_n (i := 1) (p := 1) C dL_type_0 rfl rfl rfl ?_
  refine J_iconst (v := 0) C (by decide) dL_type_1 rfl ?_
  refine J_aload_n (i := 0) (p := 0) C dL_type_2 rfl rfl rfl ?_
  refine Jc_cV (rest := [.int 0, .ref (K.2.2 + 2054)]) (st9 := fun p => [.int p.1, .int 0, .ref (K.2.2 + 2054)]) C hR hX cv_RL_27 rfl (Nat.le_of_ble_eq_true rfl) (k11_type hl h) rfl rfl (Nat.le_of_ble_eq_true rfl) (Nat.le_of_ble_eq_true rfl) (Nat.le_of_ble_eq_true rfl) ⟨(Nat.le_of_ble_eq_true rfl), (Nat.le_of_ble_eq_true rfl)⟩ dL_type_3 rfl ?_ (fun _ => rfl) ?_
  · rintro E n9 w9 ⟨c, s9, ⟨v, hv, hq⟩, rfl, rfl, rfl⟩
    simp only [List.mem_cons, Prod.mk.injEq, List.not_mem_nil, or_false] at hv
    rcases hv with ⟨rfl, rfl⟩
    · refine JT_catch C [] ⟨0, 8, 11, 15⟩ [] htab (fun z hz => nomatch hz) (by decide) (by decide) tw_597 (by decide +kernel) (fun z => ?_)
      refine J_astore_n (i := 2) C dL_type_11 rfl (Nat.le_of_ble_eq_true rfl) rfl rfl ?_
      refine J_iconst (v := 1) C (by decide) dL_type_12 rfl ?_
      exact J_iret C hret (Nat.le_of_ble_eq_true rfl) (Nat.le_of_ble_eq_true rfl) ⟨_, hq, rfl, rfl, rfl⟩ dL_type_13
  · intro p hq
    refine J_i2l C dL_type_6 rfl ?_
    refine Jl_out C id dL_type_7 rfl ?_
    refine J_goto (t := 14) C dL_type_8 (by decide) ?_
    refine J_iconst (v := 0) C (by decide) dL_type_14 rfl ?_
    exact J_iret C hret (Nat.le_of_ble_eq_true rfl) (Nat.le_of_ble_eq_true rfl) ⟨_, hq, rfl, rfl, rfl⟩ dL_type_15
theorem cv_RL_31 : CV RL 31 10 yX11_erase cX11_erase 3 (some .int) 1 := ⟨⟨tw_854, tw_82, tw_857, by decide +kernel, by decide +kernel, by decide +kernel⟩, tw_856, tw_855, TX11, 11, rfl⟩
set_option maxRecDepth 100000 in
theorem hL_erase {l : Launch} {K : JK} (hl : l.stackTraces = false) {σ μ : Sto} {o : Int64} {l1 : Int32} {Qf : Int32 × Sto × Int64 → Prop} (h : Ok (f11_erase σ l1) (hres [(2, 1), (3, 2)] o Qf)) : Con l K yL_erase (.codeWith yL_erase cL_erase 4 (some .int) [(0, 9, 12, 13), (0, 9, 15, 15)] :: TB) 7 1 6 False [.ref (K.2.2 + 0), .int l1, .ref (K.2.2 + 2054)] 2055 (jw K σ μ o) (PR Qf (fun p => some (.int p.1)) (fun p => jw K p.2.1 μ p.2.2)) PN := by
  refine Con.enterH (own := RL) hl (by decide) rfl (Nat.le_of_ble_eq_true rfl) ?_
  intro X hX hR C hret htab
  refine J_aload_n (i := 2) (p := 2) C dL_erase_0 rfl rfl rfl ?_
  refine J_iconst (v := 0) C (by decide) dL_erase_1 rfl ?_
  refine J_aload_n (i := 0) (p := 0) C dL_erase_2 rfl rfl rfl ?_
  refine J_iload_n (i := 1) (p := 1) C dL_erase_3 rfl rfl rfl ?_
  refine Jc_cV (rest := [.int 0, .ref (K.2.2 + 2054)]) (st9 := fun p => [.int p.1, .int 0, .ref (K.2.2 + 2054)]) C hR hX cv_RL_31 rfl (Nat.le_of_ble_eq_true rfl) (k11_erase hl h) rfl rfl (Nat.le_of_ble_eq_true rfl) (Nat.le_of_ble_eq_true rfl) (Nat.le_of_ble_eq_true rfl) ⟨(Nat.le_of_ble_eq_true rfl), (Nat.le_of_ble_eq_true rfl)⟩ dL_erase_4 rfl ?_ (fun _ => rfl) ?_
  · rintro E n9 w9 ⟨c, s9, ⟨v, hv, hq⟩, rfl, rfl, rfl⟩
    simp only [List.mem_cons, Prod.mk.injEq, List.not_mem_nil, or_false] at hv
    rcases hv with ⟨rfl, rfl⟩ | ⟨rfl, rfl⟩
    · refine JT_catch C [] ⟨0, 9, 12, 13⟩ [⟨0, 9, 15, 15⟩] htab (fun z hz => nomatch hz) (by decide) (by decide) tw_596 (by decide +kernel) (fun z => ?_)
      refine J_astore_n (i := 3) C dL_erase_12 rfl (Nat.le_of_ble_eq_true rfl) rfl rfl ?_
      refine J_iconst (v := 1) C (by decide) dL_erase_13 rfl ?_
      exact J_iret C hret (Nat.le_of_ble_eq_true rfl) (Nat.le_of_ble_eq_true rfl) ⟨_, hq, rfl, rfl, rfl⟩ dL_erase_14
    · refine JT_catch C [⟨0, 9, 12, 13⟩] ⟨0, 9, 15, 15⟩ [] htab (fun z hz => by
      rcases List.mem_cons.mp hz with rfl | hz
      · exact Or.inr ⟨by decide, "java/lang/IllegalArgumentException", tw_596, by decide +kernel⟩
      nomatch hz) (by decide) (by decide) tw_597 (by decide +kernel) (fun z => ?_)
      refine J_astore_n (i := 3) C dL_erase_15 rfl (Nat.le_of_ble_eq_true rfl) rfl rfl ?_
      refine J_iconst (v := 2) C (by decide) dL_erase_16 rfl ?_
      exact J_iret C hret (Nat.le_of_ble_eq_true rfl) (Nat.le_of_ble_eq_true rfl) ⟨_, hq, rfl, rfl, rfl⟩ dL_erase_17
  · intro p hq
    refine J_i2l C dL_erase_7 rfl ?_
    refine Jl_out C id dL_erase_8 rfl ?_
    refine J_goto (t := 18) C dL_erase_9 (by decide) ?_
    refine J_iconst (v := 0) C (by decide) dL_erase_18 rfl ?_
    exact J_iret C hret (Nat.le_of_ble_eq_true rfl) (Nat.le_of_ble_eq_true rfl) ⟨_, hq, rfl, rfl, rfl⟩ dL_erase_19
theorem cv_RL_35 : CV RL 35 10 yX11_replace cX11_replace 3 (some .int) 2 := ⟨⟨tw_871, tw_82, tw_874, by decide +kernel, by decide +kernel, by decide +kernel⟩, tw_873, tw_872, TX11, 11, rfl⟩
set_option maxRecDepth 100000 in
theorem hL_replace {l : Launch} {K : JK} (hl : l.stackTraces = false) {σ μ : Sto} {o : Int64} {l1 : Int32} {l2 : Int32} {Qf : Int32 × Sto × Int64 → Prop} (h : Ok (f11_replace σ l1 l2) (hres [(1, 1), (2, 2), (3, 3)] o Qf)) : Con l K yL_replace (.codeWith yL_replace cL_replace 5 (some .int) [(0, 10, 13, 21), (0, 10, 17, 13), (0, 10, 21, 15)] :: TB) 9 4 24 False [.ref (K.2.2 + 0), .int l1, .int l2, .ref (K.2.2 + 2054)] 2055 (jw K σ μ o) (PR Qf (fun p => some (.int p.1)) (fun p => jw K p.2.1 μ p.2.2)) PN := by
  refine Con.enterH (own := RL) hl (by decide) rfl (Nat.le_of_ble_eq_true rfl) ?_
  intro X hX hR C hret htab
  refine J_aload_n (i := 3) (p := 3) C dL_replace_0 rfl rfl rfl ?_
  refine J_iconst (v := 0) C (by decide) dL_replace_1 rfl ?_
  refine J_aload_n (i := 0) (p := 0) C dL_replace_2 rfl rfl rfl ?_
  refine J_iload_n (i := 1) (p := 1) C dL_replace_3 rfl rfl rfl ?_
  refine J_iload_n (i := 2) (p := 2) C dL_replace_4 rfl rfl rfl ?_
  refine Jc_cV (rest := [.int 0, .ref (K.2.2 + 2054)]) (st9 := fun p => [.int p.1, .int 0, .ref (K.2.2 + 2054)]) C hR hX cv_RL_35 rfl (Nat.le_of_ble_eq_true rfl) (k11_replace hl h) rfl rfl (Nat.le_of_ble_eq_true rfl) (Nat.le_of_ble_eq_true rfl) (Nat.le_of_ble_eq_true rfl) ⟨(Nat.le_of_ble_eq_true rfl), (Nat.le_of_ble_eq_true rfl)⟩ dL_replace_5 rfl ?_ (fun _ => rfl) ?_
  · rintro E n9 w9 ⟨c, s9, ⟨v, hv, hq⟩, rfl, rfl, rfl⟩
    simp only [List.mem_cons, Prod.mk.injEq, List.not_mem_nil, or_false] at hv
    rcases hv with ⟨rfl, rfl⟩ | ⟨rfl, rfl⟩ | ⟨rfl, rfl⟩
    · refine JT_catch C [] ⟨0, 10, 13, 21⟩ [⟨0, 10, 17, 13⟩, ⟨0, 10, 21, 15⟩] htab (fun z hz => nomatch hz) (by decide) (by decide) tw_696 (by decide +kernel) (fun z => ?_)
      refine J_astore (i := 4) C dL_replace_13 (Nat.le_of_ble_eq_true rfl) rfl rfl ?_
      refine J_iconst (v := 1) C (by decide) dL_replace_15 rfl ?_
      exact J_iret C hret (Nat.le_of_ble_eq_true rfl) (Nat.le_of_ble_eq_true rfl) ⟨_, hq, rfl, rfl, rfl⟩ dL_replace_16
    · refine JT_catch C [⟨0, 10, 13, 21⟩] ⟨0, 10, 17, 13⟩ [⟨0, 10, 21, 15⟩] htab (fun z hz => by
      rcases List.mem_cons.mp hz with rfl | hz
      · exact Or.inr ⟨by decide, "java/lang/IndexOutOfBoundsException", tw_696, by decide +kernel⟩
      nomatch hz) (by decide) (by decide) tw_596 (by decide +kernel) (fun z => ?_)
      refine J_astore (i := 4) C dL_replace_17 (Nat.le_of_ble_eq_true rfl) rfl rfl ?_
      refine J_iconst (v := 2) C (by decide) dL_replace_19 rfl ?_
      exact J_iret C hret (Nat.le_of_ble_eq_true rfl) (Nat.le_of_ble_eq_true rfl) ⟨_, hq, rfl, rfl, rfl⟩ dL_replace_20
    · refine JT_catch C [⟨0, 10, 13, 21⟩, ⟨0, 10, 17, 13⟩] ⟨0, 10, 21, 15⟩ [] htab (fun z hz => by
      rcases List.mem_cons.mp hz with rfl | hz
      · exact Or.inr ⟨by decide, "java/lang/IndexOutOfBoundsException", tw_696, by decide +kernel⟩
      rcases List.mem_cons.mp hz with rfl | hz
      · exact Or.inr ⟨by decide, "java/lang/IllegalArgumentException", tw_596, by decide +kernel⟩
      nomatch hz) (by decide) (by decide) tw_597 (by decide +kernel) (fun z => ?_)
      refine J_astore (i := 4) C dL_replace_21 (Nat.le_of_ble_eq_true rfl) rfl rfl ?_
      refine J_iconst (v := 3) C (by decide) dL_replace_23 rfl ?_
      exact J_iret C hret (Nat.le_of_ble_eq_true rfl) (Nat.le_of_ble_eq_true rfl) ⟨_, hq, rfl, rfl, rfl⟩ dL_replace_24
  · intro p hq
    refine J_i2l C dL_replace_8 rfl ?_
    refine Jl_out C id dL_replace_9 rfl ?_
    refine J_goto (t := 25) C dL_replace_10 (by decide) ?_
    refine J_iconst (v := 0) C (by decide) dL_replace_25 rfl ?_
    exact J_iret C hret (Nat.le_of_ble_eq_true rfl) (Nat.le_of_ble_eq_true rfl) ⟨_, hq, rfl, rfl, rfl⟩ dL_replace_26
theorem cv_RL_38 : CV RL 38 10 yX11_cut cX11_cut 3 (some .int) 2 := ⟨⟨tw_878, tw_82, tw_881, by decide +kernel, by decide +kernel, by decide +kernel⟩, tw_880, tw_879, TX11, 11, rfl⟩
set_option maxRecDepth 100000 in
theorem hL_cut {l : Launch} {K : JK} (hl : l.stackTraces = false) {σ μ : Sto} {o : Int64} {l1 : Int32} {l2 : Int32} {Qf : Int32 × Sto × Int64 → Prop} (h : Ok (f11_cut σ l1 l2) (hres [(1, 1), (2, 2), (3, 3)] o Qf)) : Con l K yL_cut (.codeWith yL_cut cL_cut 5 (some .int) [(0, 10, 13, 21), (0, 10, 17, 13), (0, 10, 21, 15)] :: TB) 9 4 24 False [.ref (K.2.2 + 0), .int l1, .int l2, .ref (K.2.2 + 2054)] 2055 (jw K σ μ o) (PR Qf (fun p => some (.int p.1)) (fun p => jw K p.2.1 μ p.2.2)) PN := by
  refine Con.enterH (own := RL) hl (by decide) rfl (Nat.le_of_ble_eq_true rfl) ?_
  intro X hX hR C hret htab
  refine J_aload_n (i := 3) (p := 3) C dL_cut_0 rfl rfl rfl ?_
  refine J_iconst (v := 0) C (by decide) dL_cut_1 rfl ?_
  refine J_aload_n (i := 0) (p := 0) C dL_cut_2 rfl rfl rfl ?_
  refine J_iload_n (i := 1) (p := 1) C dL_cut_3 rfl rfl rfl ?_
  refine J_iload_n (i := 2) (p := 2) C dL_cut_4 rfl rfl rfl ?_
  refine Jc_cV (rest := [.int 0, .ref (K.2.2 + 2054)]) (st9 := fun p => [.int p.1, .int 0, .ref (K.2.2 + 2054)]) C hR hX cv_RL_38 rfl (Nat.le_of_ble_eq_true rfl) (k11_cut hl h) rfl rfl (Nat.le_of_ble_eq_true rfl) (Nat.le_of_ble_eq_true rfl) (Nat.le_of_ble_eq_true rfl) ⟨(Nat.le_of_ble_eq_true rfl), (Nat.le_of_ble_eq_true rfl)⟩ dL_cut_5 rfl ?_ (fun _ => rfl) ?_
  · rintro E n9 w9 ⟨c, s9, ⟨v, hv, hq⟩, rfl, rfl, rfl⟩
    simp only [List.mem_cons, Prod.mk.injEq, List.not_mem_nil, or_false] at hv
    rcases hv with ⟨rfl, rfl⟩ | ⟨rfl, rfl⟩ | ⟨rfl, rfl⟩
    · refine JT_catch C [] ⟨0, 10, 13, 21⟩ [⟨0, 10, 17, 13⟩, ⟨0, 10, 21, 15⟩] htab (fun z hz => nomatch hz) (by decide) (by decide) tw_696 (by decide +kernel) (fun z => ?_)
      refine J_astore (i := 4) C dL_cut_13 (Nat.le_of_ble_eq_true rfl) rfl rfl ?_
      refine J_iconst (v := 1) C (by decide) dL_cut_15 rfl ?_
      exact J_iret C hret (Nat.le_of_ble_eq_true rfl) (Nat.le_of_ble_eq_true rfl) ⟨_, hq, rfl, rfl, rfl⟩ dL_cut_16
    · refine JT_catch C [⟨0, 10, 13, 21⟩] ⟨0, 10, 17, 13⟩ [⟨0, 10, 21, 15⟩] htab (fun z hz => by
      rcases List.mem_cons.mp hz with rfl | hz
      · exact Or.inr ⟨by decide, "java/lang/IndexOutOfBoundsException", tw_696, by decide +kernel⟩
      nomatch hz) (by decide) (by decide) tw_596 (by decide +kernel) (fun z => ?_)
      refine J_astore (i := 4) C dL_cut_17 (Nat.le_of_ble_eq_true rfl) rfl rfl ?_
      refine J_iconst (v := 2) C (by decide) dL_cut_19 rfl ?_
      exact J_iret C hret (Nat.le_of_ble_eq_true rfl) (Nat.le_of_ble_eq_true rfl) ⟨_, hq, rfl, rfl, rfl⟩ dL_cut_20
    · refine JT_catch C [⟨0, 10, 13, 21⟩, ⟨0, 10, 17, 13⟩] ⟨0, 10, 21, 15⟩ [] htab (fun z hz => by
      rcases List.mem_cons.mp hz with rfl | hz
      · exact Or.inr ⟨by decide, "java/lang/IndexOutOfBoundsException", tw_696, by decide +kernel⟩
      rcases List.mem_cons.mp hz with rfl | hz
      · exact Or.inr ⟨by decide, "java/lang/IllegalArgumentException", tw_596, by decide +kernel⟩
      nomatch hz) (by decide) (by decide) tw_597 (by decide +kernel) (fun z => ?_)
      refine J_astore (i := 4) C dL_cut_21 (Nat.le_of_ble_eq_true rfl) rfl rfl ?_
      refine J_iconst (v := 3) C (by decide) dL_cut_23 rfl ?_
      exact J_iret C hret (Nat.le_of_ble_eq_true rfl) (Nat.le_of_ble_eq_true rfl) ⟨_, hq, rfl, rfl, rfl⟩ dL_cut_24
  · intro p hq
    refine J_i2l C dL_cut_8 rfl ?_
    refine Jl_out C id dL_cut_9 rfl ?_
    refine J_goto (t := 25) C dL_cut_10 (by decide) ?_
    refine J_iconst (v := 0) C (by decide) dL_cut_25 rfl ?_
    exact J_iret C hret (Nat.le_of_ble_eq_true rfl) (Nat.le_of_ble_eq_true rfl) ⟨_, hq, rfl, rfl, rfl⟩ dL_cut_26
theorem cv_RL_41 : CV RL 41 10 yX11_paste cX11_paste 1 (some .int) 0 := ⟨⟨tw_885, tw_82, tw_888, by decide +kernel, by decide +kernel, by decide +kernel⟩, tw_887, tw_886, TX11, 11, rfl⟩
set_option maxRecDepth 100000 in
theorem hL_paste {l : Launch} {K : JK} (hl : l.stackTraces = false) {σ μ : Sto} {o : Int64}  {Qf : Int32 × Sto × Int64 → Prop} (h : Ok (f11_paste σ) (hres [(3, 1)] o Qf)) : Con l K yL_paste (.codeWith yL_paste cL_paste 3 (some .int) [(0, 8, 11, 15)] :: TB) 7 1 6 False [.ref (K.2.2 + 0), .ref (K.2.2 + 2054)] 2055 (jw K σ μ o) (PR Qf (fun p => some (.int p.1)) (fun p => jw K p.2.1 μ p.2.2)) PN := by
  refine Con.enterH (own := RL) hl (by decide) rfl (Nat.le_of_ble_eq_true rfl) ?_
  intro X hX hR C hret htab
  refine J_aload_n (i := 1) (p := 1) C dL_paste_0 rfl rfl rfl ?_
  refine J_iconst (v := 0) C (by decide) dL_paste_1 rfl ?_
  refine J_aload_n (i := 0) (p := 0) C dL_paste_2 rfl rfl rfl ?_
  refine Jc_cV (rest := [.int 0, .ref (K.2.2 + 2054)]) (st9 := fun p => [.int p.1, .int 0, .ref (K.2.2 + 2054)]) C hR hX cv_RL_41 rfl (Nat.le_of_ble_eq_true rfl) (k11_paste hl h) rfl rfl (Nat.le_of_ble_eq_true rfl) (Nat.le_of_ble_eq_true rfl) (Nat.le_of_ble_eq_true rfl) ⟨(Nat.le_of_ble_eq_true rfl), (Nat.le_of_ble_eq_true rfl)⟩ dL_paste_3 rfl ?_ (fun _ => rfl) ?_
  · rintro E n9 w9 ⟨c, s9, ⟨v, hv, hq⟩, rfl, rfl, rfl⟩
    simp only [List.mem_cons, Prod.mk.injEq, List.not_mem_nil, or_false] at hv
    rcases hv with ⟨rfl, rfl⟩
    · refine JT_catch C [] ⟨0, 8, 11, 15⟩ [] htab (fun z hz => nomatch hz) (by decide) (by decide) tw_597 (by decide +kernel) (fun z => ?_)
      refine J_astore_n (i := 2) C dL_paste_11 rfl (Nat.le_of_ble_eq_true rfl) rfl rfl ?_
      refine J_iconst (v := 1) C (by decide) dL_paste_12 rfl ?_
      exact J_iret C hret (Nat.le_of_ble_eq_true rfl) (Nat.le_of_ble_eq_true rfl) ⟨_, hq, rfl, rfl, rfl⟩ dL_paste_13
  · intro p hq
    refine J_i2l C dL_paste_6 rfl ?_
    refine Jl_out C id dL_paste_7 rfl ?_
    refine J_goto (t := 14) C dL_paste_8 (by decide) ?_
    refine J_iconst (v := 0) C (by decide) dL_paste_14 rfl ?_
    exact J_iret C hret (Nat.le_of_ble_eq_true rfl) (Nat.le_of_ble_eq_true rfl) ⟨_, hq, rfl, rfl, rfl⟩ dL_paste_15
theorem cv_RL_44 : CV RL 44 10 yX11_indent cX11_indent 5 (some .int) 3 := ⟨⟨tw_916, tw_82, tw_919, by decide +kernel, by decide +kernel, by decide +kernel⟩, tw_918, tw_917, TX11, 11, rfl⟩
set_option maxRecDepth 100000 in
theorem hL_indent {l : Launch} {K : JK} (hl : l.stackTraces = false) {σ μ : Sto} {o : Int64} {l1 : Int32} {l2 : Int32} {l3 : Int32} {Qf : Int32 × Sto × Int64 → Prop} (h : Ok (f11_indent σ l1 l2 l3) (hres [(1, 1), (2, 2), (3, 3)] o Qf)) : Con l K yL_indent (.codeWith yL_indent cL_indent 6 (some .int) [(0, 12, 15, 21), (0, 12, 19, 13), (0, 12, 23, 15)] :: TB) 8 3 18 False [.ref (K.2.2 + 0), .int l1, .int l2, .int l3, .ref (K.2.2 + 2054)] 2055 (jw K σ μ o) (PR Qf (fun p => some (.int p.1)) (fun p => jw K p.2.1 μ p.2.2)) PN := by
  refine Con.enterH (own := RL) hl (by decide) rfl (Nat.le_of_ble_eq_true rfl) ?_
  intro X hX hR C hret htab
  refine J_aload (i := 4) (p := 4) C dL_indent_0 rfl rfl ?_
  refine J_iconst (v := 0) C (by decide) dL_indent_2 rfl ?_
  refine J_aload_n (i := 0) (p := 0) C dL_indent_3 rfl rfl rfl ?_
  refine J_iload_n (i := 1) (p := 1) C dL_indent_4 rfl rfl rfl ?_
  refine J_iload_n (i := 2) (p := 2) C dL_indent_5 rfl rfl rfl ?_
  refine J_iload_n (i := 3) (p := 3) C dL_indent_6 rfl rfl rfl ?_
  refine Jc_cV (rest := [.int 0, .ref (K.2.2 + 2054)]) (st9 := fun p => [.int p.1, .int 0, .ref (K.2.2 + 2054)]) C hR hX cv_RL_44 rfl (Nat.le_of_ble_eq_true rfl) (k11_indent hl h) rfl rfl (Nat.le_of_ble_eq_true rfl) (Nat.le_of_ble_eq_true rfl) (Nat.le_of_ble_eq_true rfl) ⟨(Nat.le_of_ble_eq_true rfl), (Nat.le_of_ble_eq_true rfl)⟩ dL_indent_7 rfl ?_ (fun _ => rfl) ?_
  · rintro E n9 w9 ⟨c, s9, ⟨v, hv, hq⟩, rfl, rfl, rfl⟩
    simp only [List.mem_cons, Prod.mk.injEq, List.not_mem_nil, or_false] at hv
    rcases hv with ⟨rfl, rfl⟩ | ⟨rfl, rfl⟩ | ⟨rfl, rfl⟩
    · refine JT_catch C [] ⟨0, 12, 15, 21⟩ [⟨0, 12, 19, 13⟩, ⟨0, 12, 23, 15⟩] htab (fun z hz => nomatch hz) (by decide) (by decide) tw_696 (by decide +kernel) (fun z => ?_)
      refine J_astore (i := 5) C dL_indent_15 (Nat.le_of_ble_eq_true rfl) rfl rfl ?_
      refine J_iconst (v := 1) C (by decide) dL_indent_17 rfl ?_
      exact J_iret C hret (Nat.le_of_ble_eq_true rfl) (Nat.le_of_ble_eq_true rfl) ⟨_, hq, rfl, rfl, rfl⟩ dL_indent_18
    · refine JT_catch C [⟨0, 12, 15, 21⟩] ⟨0, 12, 19, 13⟩ [⟨0, 12, 23, 15⟩] htab (fun z hz => by
      rcases List.mem_cons.mp hz with rfl | hz
      · exact Or.inr ⟨by decide, "java/lang/IndexOutOfBoundsException", tw_696, by decide +kernel⟩
      nomatch hz) (by decide) (by decide) tw_596 (by decide +kernel) (fun z => ?_)
      refine J_astore (i := 5) C dL_indent_19 (Nat.le_of_ble_eq_true rfl) rfl rfl ?_
      refine J_iconst (v := 2) C (by decide) dL_indent_21 rfl ?_
      exact J_iret C hret (Nat.le_of_ble_eq_true rfl) (Nat.le_of_ble_eq_true rfl) ⟨_, hq, rfl, rfl, rfl⟩ dL_indent_22
    · refine JT_catch C [⟨0, 12, 15, 21⟩, ⟨0, 12, 19, 13⟩] ⟨0, 12, 23, 15⟩ [] htab (fun z hz => by
      rcases List.mem_cons.mp hz with rfl | hz
      · exact Or.inr ⟨by decide, "java/lang/IndexOutOfBoundsException", tw_696, by decide +kernel⟩
      rcases List.mem_cons.mp hz with rfl | hz
      · exact Or.inr ⟨by decide, "java/lang/IllegalArgumentException", tw_596, by decide +kernel⟩
      nomatch hz) (by decide) (by decide) tw_597 (by decide +kernel) (fun z => ?_)
      refine J_astore (i := 5) C dL_indent_23 (Nat.le_of_ble_eq_true rfl) rfl rfl ?_
      refine J_iconst (v := 3) C (by decide) dL_indent_25 rfl ?_
      exact J_iret C hret (Nat.le_of_ble_eq_true rfl) (Nat.le_of_ble_eq_true rfl) ⟨_, hq, rfl, rfl, rfl⟩ dL_indent_26
  · intro p hq
    refine J_i2l C dL_indent_10 rfl ?_
    refine Jl_out C id dL_indent_11 rfl ?_
    refine J_goto (t := 27) C dL_indent_12 (by decide) ?_
    refine J_iconst (v := 0) C (by decide) dL_indent_27 rfl ?_
    exact J_iret C hret (Nat.le_of_ble_eq_true rfl) (Nat.le_of_ble_eq_true rfl) ⟨_, hq, rfl, rfl, rfl⟩ dL_indent_28
theorem cv_RL_48 : CV RL 48 10 yX11_wrap cX11_wrap 6 (some .int) 2 := ⟨⟨tw_937, tw_82, tw_940, by decide +kernel, by decide +kernel, by decide +kernel⟩, tw_939, tw_938, TX11, 11, rfl⟩
set_option maxRecDepth 100000 in
theorem hL_wrap {l : Launch} {K : JK} (hl : l.stackTraces = false) {σ μ : Sto} {o : Int64} {l1 : Int32} {l2 : Int32} {Qf : Int32 × Sto × Int64 → Prop} (h : Ok (f11_wrap σ l1 l2) (hres [(1, 1), (2, 2), (3, 3)] o Qf)) : Con l K yL_wrap (.codeWith yL_wrap cL_wrap 5 (some .int) [(0, 10, 13, 21), (0, 10, 17, 13), (0, 10, 21, 15)] :: TB) 8 2 12 False [.ref (K.2.2 + 0), .int l1, .int l2, .ref (K.2.2 + 2054)] 2055 (jw K σ μ o) (PR Qf (fun p => some (.int p.1)) (fun p => jw K p.2.1 μ p.2.2)) PN := by
  refine Con.enterH (own := RL) hl (by decide) rfl (Nat.le_of_ble_eq_true rfl) ?_
  intro X hX hR C hret htab
  refine J_aload_n (i := 3) (p := 3) C dL_wrap_0 rfl rfl rfl ?_
  refine J_iconst (v := 0) C (by decide) dL_wrap_1 rfl ?_
  refine J_aload_n (i := 0) (p := 0) C dL_wrap_2 rfl rfl rfl ?_
  refine J_iload_n (i := 1) (p := 1) C dL_wrap_3 rfl rfl rfl ?_
  refine J_iload_n (i := 2) (p := 2) C dL_wrap_4 rfl rfl rfl ?_
  refine Jc_cV (rest := [.int 0, .ref (K.2.2 + 2054)]) (st9 := fun p => [.int p.1, .int 0, .ref (K.2.2 + 2054)]) C hR hX cv_RL_48 rfl (Nat.le_of_ble_eq_true rfl) (k11_wrap hl h) rfl rfl (Nat.le_of_ble_eq_true rfl) (Nat.le_of_ble_eq_true rfl) (Nat.le_of_ble_eq_true rfl) ⟨(Nat.le_of_ble_eq_true rfl), (Nat.le_of_ble_eq_true rfl)⟩ dL_wrap_5 rfl ?_ (fun _ => rfl) ?_
  · rintro E n9 w9 ⟨c, s9, ⟨v, hv, hq⟩, rfl, rfl, rfl⟩
    simp only [List.mem_cons, Prod.mk.injEq, List.not_mem_nil, or_false] at hv
    rcases hv with ⟨rfl, rfl⟩ | ⟨rfl, rfl⟩ | ⟨rfl, rfl⟩
    · refine JT_catch C [] ⟨0, 10, 13, 21⟩ [⟨0, 10, 17, 13⟩, ⟨0, 10, 21, 15⟩] htab (fun z hz => nomatch hz) (by decide) (by decide) tw_696 (by decide +kernel) (fun z => ?_)
      refine J_astore (i := 4) C dL_wrap_13 (Nat.le_of_ble_eq_true rfl) rfl rfl ?_
      refine J_iconst (v := 1) C (by decide) dL_wrap_15 rfl ?_
      exact J_iret C hret (Nat.le_of_ble_eq_true rfl) (Nat.le_of_ble_eq_true rfl) ⟨_, hq, rfl, rfl, rfl⟩ dL_wrap_16
    · refine JT_catch C [⟨0, 10, 13, 21⟩] ⟨0, 10, 17, 13⟩ [⟨0, 10, 21, 15⟩] htab (fun z hz => by
      rcases List.mem_cons.mp hz with rfl | hz
      · exact Or.inr ⟨by decide, "java/lang/IndexOutOfBoundsException", tw_696, by decide +kernel⟩
      nomatch hz) (by decide) (by decide) tw_596 (by decide +kernel) (fun z => ?_)
      refine J_astore (i := 4) C dL_wrap_17 (Nat.le_of_ble_eq_true rfl) rfl rfl ?_
      refine J_iconst (v := 2) C (by decide) dL_wrap_19 rfl ?_
      exact J_iret C hret (Nat.le_of_ble_eq_true rfl) (Nat.le_of_ble_eq_true rfl) ⟨_, hq, rfl, rfl, rfl⟩ dL_wrap_20
    · refine JT_catch C [⟨0, 10, 13, 21⟩, ⟨0, 10, 17, 13⟩] ⟨0, 10, 21, 15⟩ [] htab (fun z hz => by
      rcases List.mem_cons.mp hz with rfl | hz
      · exact Or.inr ⟨by decide, "java/lang/IndexOutOfBoundsException", tw_696, by decide +kernel⟩
      rcases List.mem_cons.mp hz with rfl | hz
      · exact Or.inr ⟨by decide, "java/lang/IllegalArgumentException", tw_596, by decide +kernel⟩
      nomatch hz) (by decide) (by decide) tw_597 (by decide +kernel) (fun z => ?_)
      refine J_astore (i := 4) C dL_wrap_21 (Nat.le_of_ble_eq_true rfl) rfl rfl ?_
      refine J_iconst (v := 3) C (by decide) dL_wrap_23 rfl ?_
      exact J_iret C hret (Nat.le_of_ble_eq_true rfl) (Nat.le_of_ble_eq_true rfl) ⟨_, hq, rfl, rfl, rfl⟩ dL_wrap_24
  · intro p hq
    refine J_i2l C dL_wrap_8 rfl ?_
    refine Jl_out C id dL_wrap_9 rfl ?_
    refine J_goto (t := 25) C dL_wrap_10 (by decide) ?_
    refine J_iconst (v := 0) C (by decide) dL_wrap_25 rfl ?_
    exact J_iret C hret (Nat.le_of_ble_eq_true rfl) (Nat.le_of_ble_eq_true rfl) ⟨_, hq, rfl, rfl, rfl⟩ dL_wrap_26
theorem cv_RL_51 : CV RL 51 10 yX11_joinLines cX11_joinLines 5 (some .int) 2 := ⟨⟨tw_949, tw_82, tw_952, by decide +kernel, by decide +kernel, by decide +kernel⟩, tw_951, tw_950, TX11, 11, rfl⟩
set_option maxRecDepth 100000 in
theorem hL_joinLines {l : Launch} {K : JK} (hl : l.stackTraces = false) {σ μ : Sto} {o : Int64} {l1 : Int32} {l2 : Int32} {Qf : Int32 × Sto × Int64 → Prop} (h : Ok (f11_joinLines σ l1 l2) (hres [(1, 1), (2, 2), (3, 3)] o Qf)) : Con l K yL_joinLines (.codeWith yL_joinLines cL_joinLines 5 (some .int) [(0, 10, 13, 21), (0, 10, 17, 13), (0, 10, 21, 15)] :: TB) 8 3 18 False [.ref (K.2.2 + 0), .int l1, .int l2, .ref (K.2.2 + 2054)] 2055 (jw K σ μ o) (PR Qf (fun p => some (.int p.1)) (fun p => jw K p.2.1 μ p.2.2)) PN := by
  refine Con.enterH (own := RL) hl (by decide) rfl (Nat.le_of_ble_eq_true rfl) ?_
  intro X hX hR C hret htab
  refine J_aload_n (i := 3) (p := 3) C dL_joinLines_0 rfl rfl rfl ?_
  refine J_iconst (v := 0) C (by decide) dL_joinLines_1 rfl ?_
  refine J_aload_n (i := 0) (p := 0) C dL_joinLines_2 rfl rfl rfl ?_
  refine J_iload_n (i := 1) (p := 1) C dL_joinLines_3 rfl rfl rfl ?_
  refine J_iload_n (i := 2) (p := 2) C dL_joinLines_4 rfl rfl rfl ?_
  refine Jc_cV (rest := [.int 0, .ref (K.2.2 + 2054)]) (st9 := fun p => [.int p.1, .int 0, .ref (K.2.2 + 2054)]) C hR hX cv_RL_51 rfl (Nat.le_of_ble_eq_true rfl) (k11_joinLines hl h) rfl rfl (Nat.le_of_ble_eq_true rfl) (Nat.le_of_ble_eq_true rfl) (Nat.le_of_ble_eq_true rfl) ⟨(Nat.le_of_ble_eq_true rfl), (Nat.le_of_ble_eq_true rfl)⟩ dL_joinLines_5 rfl ?_ (fun _ => rfl) ?_
  · rintro E n9 w9 ⟨c, s9, ⟨v, hv, hq⟩, rfl, rfl, rfl⟩
    simp only [List.mem_cons, Prod.mk.injEq, List.not_mem_nil, or_false] at hv
    rcases hv with ⟨rfl, rfl⟩ | ⟨rfl, rfl⟩ | ⟨rfl, rfl⟩
    · refine JT_catch C [] ⟨0, 10, 13, 21⟩ [⟨0, 10, 17, 13⟩, ⟨0, 10, 21, 15⟩] htab (fun z hz => nomatch hz) (by decide) (by decide) tw_696 (by decide +kernel) (fun z => ?_)
      refine J_astore (i := 4) C dL_joinLines_13 (Nat.le_of_ble_eq_true rfl) rfl rfl ?_
      refine J_iconst (v := 1) C (by decide) dL_joinLines_15 rfl ?_
      exact J_iret C hret (Nat.le_of_ble_eq_true rfl) (Nat.le_of_ble_eq_true rfl) ⟨_, hq, rfl, rfl, rfl⟩ dL_joinLines_16
    · refine JT_catch C [⟨0, 10, 13, 21⟩] ⟨0, 10, 17, 13⟩ [⟨0, 10, 21, 15⟩] htab (fun z hz => by
      rcases List.mem_cons.mp hz with rfl | hz
      · exact Or.inr ⟨by decide, "java/lang/IndexOutOfBoundsException", tw_696, by decide +kernel⟩
      nomatch hz) (by decide) (by decide) tw_596 (by decide +kernel) (fun z => ?_)
      refine J_astore (i := 4) C dL_joinLines_17 (Nat.le_of_ble_eq_true rfl) rfl rfl ?_
      refine J_iconst (v := 2) C (by decide) dL_joinLines_19 rfl ?_
      exact J_iret C hret (Nat.le_of_ble_eq_true rfl) (Nat.le_of_ble_eq_true rfl) ⟨_, hq, rfl, rfl, rfl⟩ dL_joinLines_20
    · refine JT_catch C [⟨0, 10, 13, 21⟩, ⟨0, 10, 17, 13⟩] ⟨0, 10, 21, 15⟩ [] htab (fun z hz => by
      rcases List.mem_cons.mp hz with rfl | hz
      · exact Or.inr ⟨by decide, "java/lang/IndexOutOfBoundsException", tw_696, by decide +kernel⟩
      rcases List.mem_cons.mp hz with rfl | hz
      · exact Or.inr ⟨by decide, "java/lang/IllegalArgumentException", tw_596, by decide +kernel⟩
      nomatch hz) (by decide) (by decide) tw_597 (by decide +kernel) (fun z => ?_)
      refine J_astore (i := 4) C dL_joinLines_21 (Nat.le_of_ble_eq_true rfl) rfl rfl ?_
      refine J_iconst (v := 3) C (by decide) dL_joinLines_23 rfl ?_
      exact J_iret C hret (Nat.le_of_ble_eq_true rfl) (Nat.le_of_ble_eq_true rfl) ⟨_, hq, rfl, rfl, rfl⟩ dL_joinLines_24
  · intro p hq
    refine J_i2l C dL_joinLines_8 rfl ?_
    refine Jl_out C id dL_joinLines_9 rfl ?_
    refine J_goto (t := 25) C dL_joinLines_10 (by decide) ?_
    refine J_iconst (v := 0) C (by decide) dL_joinLines_25 rfl ?_
    exact J_iret C hret (Nat.le_of_ble_eq_true rfl) (Nat.le_of_ble_eq_true rfl) ⟨_, hq, rfl, rfl, rfl⟩ dL_joinLines_26
theorem cv_RL_54 : CV RL 54 10 yX11_replaceNext cX11_replaceNext 2 (some .int) 0 := ⟨⟨tw_956, tw_82, tw_959, by decide +kernel, by decide +kernel, by decide +kernel⟩, tw_958, tw_957, TX11, 11, rfl⟩
set_option maxRecDepth 100000 in
theorem hL_replaceNext {l : Launch} {K : JK} (hl : l.stackTraces = false) {σ μ : Sto} {o : Int64}  {Qf : Int32 × Sto × Int64 → Prop} (h : Ok (f11_replaceNext σ) (hres [(3, 1)] o Qf)) : Con l K yL_replaceNext (.codeWith yL_replaceNext cL_replaceNext 3 (some .int) [(0, 8, 11, 15)] :: TB) 7 1 6 False [.ref (K.2.2 + 0), .ref (K.2.2 + 2054)] 2055 (jw K σ μ o) (PR Qf (fun p => some (.int p.1)) (fun p => jw K p.2.1 μ p.2.2)) PN := by
  refine Con.enterH (own := RL) hl (by decide) rfl (Nat.le_of_ble_eq_true rfl) ?_
  intro X hX hR C hret htab
  refine J_aload_n (i := 1) (p := 1) C dL_replaceNext_0 rfl rfl rfl ?_
  refine J_iconst (v := 0) C (by decide) dL_replaceNext_1 rfl ?_
  refine J_aload_n (i := 0) (p := 0) C dL_replaceNext_2 rfl rfl rfl ?_
  refine Jc_cV (rest := [.int 0, .ref (K.2.2 + 2054)]) (st9 := fun p => [.int p.1, .int 0, .ref (K.2.2 + 2054)]) C hR hX cv_RL_54 rfl (Nat.le_of_ble_eq_true rfl) (k11_replaceNext hl h) rfl rfl (Nat.le_of_ble_eq_true rfl) (Nat.le_of_ble_eq_true rfl) (Nat.le_of_ble_eq_true rfl) ⟨(Nat.le_of_ble_eq_true rfl), (Nat.le_of_ble_eq_true rfl)⟩ dL_replaceNext_3 rfl ?_ (fun _ => rfl) ?_
  · rintro E n9 w9 ⟨c, s9, ⟨v, hv, hq⟩, rfl, rfl, rfl⟩
    simp only [List.mem_cons, Prod.mk.injEq, List.not_mem_nil, or_false] at hv
    rcases hv with ⟨rfl, rfl⟩
    · refine JT_catch C [] ⟨0, 8, 11, 15⟩ [] htab (fun z hz => nomatch hz) (by decide) (by decide) tw_597 (by decide +kernel) (fun z => ?_)
      refine J_astore_n (i := 2) C dL_replaceNext_11 rfl (Nat.le_of_ble_eq_true rfl) rfl rfl ?_
      refine J_iconst (v := 1) C (by decide) dL_replaceNext_12 rfl ?_
      exact J_iret C hret (Nat.le_of_ble_eq_true rfl) (Nat.le_of_ble_eq_true rfl) ⟨_, hq, rfl, rfl, rfl⟩ dL_replaceNext_13
  · intro p hq
    refine J_i2l C dL_replaceNext_6 rfl ?_
    refine Jl_out C id dL_replaceNext_7 rfl ?_
    refine J_goto (t := 14) C dL_replaceNext_8 (by decide) ?_
    refine J_iconst (v := 0) C (by decide) dL_replaceNext_14 rfl ?_
    exact J_iret C hret (Nat.le_of_ble_eq_true rfl) (Nat.le_of_ble_eq_true rfl) ⟨_, hq, rfl, rfl, rfl⟩ dL_replaceNext_15
theorem cv_RL_57 : CV RL 57 10 yX11_replaceAll cX11_replaceAll 4 (some .int) 0 := ⟨⟨tw_984, tw_82, tw_987, by decide +kernel, by decide +kernel, by decide +kernel⟩, tw_986, tw_985, TX11, 11, rfl⟩
set_option maxRecDepth 100000 in
theorem hL_replaceAll {l : Launch} {K : JK} (hl : l.stackTraces = false) {σ μ : Sto} {o : Int64}  {Qf : Int32 × Sto × Int64 → Prop} (h : Ok (f11_replaceAll σ) (hres [(3, 1)] o Qf)) : Con l K yL_replaceAll (.codeWith yL_replaceAll cL_replaceAll 3 (some .int) [(0, 8, 11, 15)] :: TB) 7 1 6 False [.ref (K.2.2 + 0), .ref (K.2.2 + 2054)] 2055 (jw K σ μ o) (PR Qf (fun p => some (.int p.1)) (fun p => jw K p.2.1 μ p.2.2)) PN := by
  refine Con.enterH (own := RL) hl (by decide) rfl (Nat.le_of_ble_eq_true rfl) ?_
  intro X hX hR C hret htab
  refine J_aload_n (i := 1) (p := 1) C dL_replaceAll_0 rfl rfl rfl ?_
  refine J_iconst (v := 0) C (by decide) dL_replaceAll_1 rfl ?_
  refine J_aload_n (i := 0) (p := 0) C dL_replaceAll_2 rfl rfl rfl ?_
  refine Jc_cV (rest := [.int 0, .ref (K.2.2 + 2054)]) (st9 := fun p => [.int p.1, .int 0, .ref (K.2.2 + 2054)]) C hR hX cv_RL_57 rfl (Nat.le_of_ble_eq_true rfl) (k11_replaceAll hl h) rfl rfl (Nat.le_of_ble_eq_true rfl) (Nat.le_of_ble_eq_true rfl) (Nat.le_of_ble_eq_true rfl) ⟨(Nat.le_of_ble_eq_true rfl), (Nat.le_of_ble_eq_true rfl)⟩ dL_replaceAll_3 rfl ?_ (fun _ => rfl) ?_
  · rintro E n9 w9 ⟨c, s9, ⟨v, hv, hq⟩, rfl, rfl, rfl⟩
    simp only [List.mem_cons, Prod.mk.injEq, List.not_mem_nil, or_false] at hv
    rcases hv with ⟨rfl, rfl⟩
    · refine JT_catch C [] ⟨0, 8, 11, 15⟩ [] htab (fun z hz => nomatch hz) (by decide) (by decide) tw_597 (by decide +kernel) (fun z => ?_)
      refine J_astore_n (i := 2) C dL_replaceAll_11 rfl (Nat.le_of_ble_eq_true rfl) rfl rfl ?_
      refine J_iconst (v := 1) C (by decide) dL_replaceAll_12 rfl ?_
      exact J_iret C hret (Nat.le_of_ble_eq_true rfl) (Nat.le_of_ble_eq_true rfl) ⟨_, hq, rfl, rfl, rfl⟩ dL_replaceAll_13
  · intro p hq
    refine J_i2l C dL_replaceAll_6 rfl ?_
    refine Jl_out C id dL_replaceAll_7 rfl ?_
    refine J_goto (t := 14) C dL_replaceAll_8 (by decide) ?_
    refine J_iconst (v := 0) C (by decide) dL_replaceAll_14 rfl ?_
    exact J_iret C hret (Nat.le_of_ble_eq_true rfl) (Nat.le_of_ble_eq_true rfl) ⟨_, hq, rfl, rfl, rfl⟩ dL_replaceAll_15
theorem cv_RL_60 : CV RL 60 10 yX11_undo cX11_undo 2 (some .int) 1 := ⟨⟨tw_991, tw_82, tw_994, by decide +kernel, by decide +kernel, by decide +kernel⟩, tw_993, tw_992, TX11, 11, rfl⟩
set_option maxRecDepth 100000 in
theorem hL_undo {l : Launch} {K : JK} (hl : l.stackTraces = false) {σ μ : Sto} {o : Int64} {l1 : Int32} {Qf : Int32 × Sto × Int64 → Prop} (h : Ok (f11_undo σ l1) (hres [(2, 1)] o Qf)) : Con l K yL_undo (.codeWith yL_undo cL_undo 4 (some .int) [(0, 9, 12, 13)] :: TB) 7 1 6 False [.ref (K.2.2 + 0), .int l1, .ref (K.2.2 + 2054)] 2055 (jw K σ μ o) (PR Qf (fun p => some (.int p.1)) (fun p => jw K p.2.1 μ p.2.2)) PN := by
  refine Con.enterH (own := RL) hl (by decide) rfl (Nat.le_of_ble_eq_true rfl) ?_
  intro X hX hR C hret htab
  refine J_aload_n (i := 2) (p := 2) C dL_undo_0 rfl rfl rfl ?_
  refine J_iconst (v := 0) C (by decide) dL_undo_1 rfl ?_
  refine J_aload_n (i := 0) (p := 0) C dL_undo_2 rfl rfl rfl ?_
  refine J_iload_n (i := 1) (p := 1) C dL_undo_3 rfl rfl rfl ?_
  refine Jc_cV (rest := [.int 0, .ref (K.2.2 + 2054)]) (st9 := fun p => [.int p.1, .int 0, .ref (K.2.2 + 2054)]) C hR hX cv_RL_60 rfl (Nat.le_of_ble_eq_true rfl) (k11_undo hl h) rfl rfl (Nat.le_of_ble_eq_true rfl) (Nat.le_of_ble_eq_true rfl) (Nat.le_of_ble_eq_true rfl) ⟨(Nat.le_of_ble_eq_true rfl), (Nat.le_of_ble_eq_true rfl)⟩ dL_undo_4 rfl ?_ (fun _ => rfl) ?_
  · rintro E n9 w9 ⟨c, s9, ⟨v, hv, hq⟩, rfl, rfl, rfl⟩
    simp only [List.mem_cons, Prod.mk.injEq, List.not_mem_nil, or_false] at hv
    rcases hv with ⟨rfl, rfl⟩
    · refine JT_catch C [] ⟨0, 9, 12, 13⟩ [] htab (fun z hz => nomatch hz) (by decide) (by decide) tw_596 (by decide +kernel) (fun z => ?_)
      refine J_astore_n (i := 3) C dL_undo_12 rfl (Nat.le_of_ble_eq_true rfl) rfl rfl ?_
      refine J_iconst (v := 1) C (by decide) dL_undo_13 rfl ?_
      exact J_iret C hret (Nat.le_of_ble_eq_true rfl) (Nat.le_of_ble_eq_true rfl) ⟨_, hq, rfl, rfl, rfl⟩ dL_undo_14
  · intro p hq
    refine J_i2l C dL_undo_7 rfl ?_
    refine Jl_out C id dL_undo_8 rfl ?_
    refine J_goto (t := 15) C dL_undo_9 (by decide) ?_
    refine J_iconst (v := 0) C (by decide) dL_undo_15 rfl ?_
    exact J_iret C hret (Nat.le_of_ble_eq_true rfl) (Nat.le_of_ble_eq_true rfl) ⟨_, hq, rfl, rfl, rfl⟩ dL_undo_16
theorem cv_RL_63 : CV RL 63 10 yX11_redo cX11_redo 2 (some .int) 1 := ⟨⟨tw_998, tw_82, tw_1001, by decide +kernel, by decide +kernel, by decide +kernel⟩, tw_1000, tw_999, TX11, 11, rfl⟩
set_option maxRecDepth 100000 in
theorem hL_redo {l : Launch} {K : JK} (hl : l.stackTraces = false) {σ μ : Sto} {o : Int64} {l1 : Int32} {Qf : Int32 × Sto × Int64 → Prop} (h : Ok (f11_redo σ l1) (hres [(2, 1)] o Qf)) : Con l K yL_redo (.codeWith yL_redo cL_redo 4 (some .int) [(0, 9, 12, 13)] :: TB) 7 1 6 False [.ref (K.2.2 + 0), .int l1, .ref (K.2.2 + 2054)] 2055 (jw K σ μ o) (PR Qf (fun p => some (.int p.1)) (fun p => jw K p.2.1 μ p.2.2)) PN := by
  refine Con.enterH (own := RL) hl (by decide) rfl (Nat.le_of_ble_eq_true rfl) ?_
  intro X hX hR C hret htab
  refine J_aload_n (i := 2) (p := 2) C dL_redo_0 rfl rfl rfl ?_
  refine J_iconst (v := 0) C (by decide) dL_redo_1 rfl ?_
  refine J_aload_n (i := 0) (p := 0) C dL_redo_2 rfl rfl rfl ?_
  refine J_iload_n (i := 1) (p := 1) C dL_redo_3 rfl rfl rfl ?_
  refine Jc_cV (rest := [.int 0, .ref (K.2.2 + 2054)]) (st9 := fun p => [.int p.1, .int 0, .ref (K.2.2 + 2054)]) C hR hX cv_RL_63 rfl (Nat.le_of_ble_eq_true rfl) (k11_redo hl h) rfl rfl (Nat.le_of_ble_eq_true rfl) (Nat.le_of_ble_eq_true rfl) (Nat.le_of_ble_eq_true rfl) ⟨(Nat.le_of_ble_eq_true rfl), (Nat.le_of_ble_eq_true rfl)⟩ dL_redo_4 rfl ?_ (fun _ => rfl) ?_
  · rintro E n9 w9 ⟨c, s9, ⟨v, hv, hq⟩, rfl, rfl, rfl⟩
    simp only [List.mem_cons, Prod.mk.injEq, List.not_mem_nil, or_false] at hv
    rcases hv with ⟨rfl, rfl⟩
    · refine JT_catch C [] ⟨0, 9, 12, 13⟩ [] htab (fun z hz => nomatch hz) (by decide) (by decide) tw_596 (by decide +kernel) (fun z => ?_)
      refine J_astore_n (i := 3) C dL_redo_12 rfl (Nat.le_of_ble_eq_true rfl) rfl rfl ?_
      refine J_iconst (v := 1) C (by decide) dL_redo_13 rfl ?_
      exact J_iret C hret (Nat.le_of_ble_eq_true rfl) (Nat.le_of_ble_eq_true rfl) ⟨_, hq, rfl, rfl, rfl⟩ dL_redo_14
  · intro p hq
    refine J_i2l C dL_redo_7 rfl ?_
    refine Jl_out C id dL_redo_8 rfl ?_
    refine J_goto (t := 15) C dL_redo_9 (by decide) ?_
    refine J_iconst (v := 0) C (by decide) dL_redo_15 rfl ?_
    exact J_iret C hret (Nat.le_of_ble_eq_true rfl) (Nat.le_of_ble_eq_true rfl) ⟨_, hq, rfl, rfl, rfl⟩ dL_redo_16
theorem cv_RL_66 : CV RL 66 10 yX11_branch cX11_branch 3 (some .int) 1 := ⟨⟨tw_1006, tw_82, tw_1009, by decide +kernel, by decide +kernel, by decide +kernel⟩, tw_1008, tw_1007, TX11, 11, rfl⟩
set_option maxRecDepth 100000 in
theorem hL_branch {l : Launch} {K : JK} (hl : l.stackTraces = false) {σ μ : Sto} {o : Int64} {l1 : Int32} {Qf : Int32 × Sto × Int64 → Prop} (h : Ok (f11_branch σ l1) (hres [(4, 1)] o Qf)) : Con l K yL_branch (.codeWith yL_branch cL_branch 4 (some .int) [(0, 9, 12, 69)] :: TB) 7 1 6 False [.ref (K.2.2 + 0), .int l1, .ref (K.2.2 + 2054)] 2055 (jw K σ μ o) (PR Qf (fun p => some (.int p.1)) (fun p => jw K p.2.1 μ p.2.2)) PN := by
  refine Con.enterH (own := RL) hl (by decide) rfl (Nat.le_of_ble_eq_true rfl) ?_
  intro X hX hR C hret htab
  refine J_aload_n (i := 2) (p := 2) C dL_branch_0 rfl rfl rfl ?_
  refine J_iconst (v := 0) C (by decide) dL_branch_1 rfl ?_
  refine J_aload_n (i := 0) (p := 0) C dL_branch_2 rfl rfl rfl ?_
  refine J_iload_n (i := 1) (p := 1) C dL_branch_3 rfl rfl rfl ?_
  refine Jc_cV (rest := [.int 0, .ref (K.2.2 + 2054)]) (st9 := fun p => [.int p.1, .int 0, .ref (K.2.2 + 2054)]) C hR hX cv_RL_66 rfl (Nat.le_of_ble_eq_true rfl) (k11_branch hl h) rfl rfl (Nat.le_of_ble_eq_true rfl) (Nat.le_of_ble_eq_true rfl) (Nat.le_of_ble_eq_true rfl) ⟨(Nat.le_of_ble_eq_true rfl), (Nat.le_of_ble_eq_true rfl)⟩ dL_branch_4 rfl ?_ (fun _ => rfl) ?_
  · rintro E n9 w9 ⟨c, s9, ⟨v, hv, hq⟩, rfl, rfl, rfl⟩
    simp only [List.mem_cons, Prod.mk.injEq, List.not_mem_nil, or_false] at hv
    rcases hv with ⟨rfl, rfl⟩
    · refine JT_catch C [] ⟨0, 9, 12, 69⟩ [] htab (fun z hz => nomatch hz) (by decide) (by decide) tw_1005 (by decide +kernel) (fun z => ?_)
      refine J_astore_n (i := 3) C dL_branch_12 rfl (Nat.le_of_ble_eq_true rfl) rfl rfl ?_
      refine J_iconst (v := 1) C (by decide) dL_branch_13 rfl ?_
      exact J_iret C hret (Nat.le_of_ble_eq_true rfl) (Nat.le_of_ble_eq_true rfl) ⟨_, hq, rfl, rfl, rfl⟩ dL_branch_14
  · intro p hq
    refine J_i2l C dL_branch_7 rfl ?_
    refine Jl_out C id dL_branch_8 rfl ?_
    refine J_goto (t := 15) C dL_branch_9 (by decide) ?_
    refine J_iconst (v := 0) C (by decide) dL_branch_15 rfl ?_
    exact J_iret C hret (Nat.le_of_ble_eq_true rfl) (Nat.le_of_ble_eq_true rfl) ⟨_, hq, rfl, rfl, rfl⟩ dL_branch_16
theorem cv_RL_71 : CV RL 71 10 yX11_acts cX11_acts 2 (some .int) 1 := ⟨⟨tw_1037, tw_82, tw_1040, by decide +kernel, by decide +kernel, by decide +kernel⟩, tw_1039, tw_1038, TX11, 11, rfl⟩
set_option maxRecDepth 100000 in
theorem hL_acts {l : Launch} {K : JK} (hl : l.stackTraces = false) {σ μ : Sto} {o : Int64} {l1 : Int32} {Qf : Int32 × Sto × Int64 → Prop} (h : Ok (f11_acts σ l1) (hres [(2, 1)] o Qf)) : Con l K yL_acts (.codeWith yL_acts cL_acts 4 (some .int) [(0, 9, 12, 13)] :: TB) 7 1 6 False [.ref (K.2.2 + 0), .int l1, .ref (K.2.2 + 2054)] 2055 (jw K σ μ o) (PR Qf (fun p => some (.int p.1)) (fun p => jw K p.2.1 μ p.2.2)) PN := by
  refine Con.enterH (own := RL) hl (by decide) rfl (Nat.le_of_ble_eq_true rfl) ?_
  intro X hX hR C hret htab
  refine J_aload_n (i := 2) (p := 2) C dL_acts_0 rfl rfl rfl ?_
  refine J_iconst (v := 0) C (by decide) dL_acts_1 rfl ?_
  refine J_aload_n (i := 0) (p := 0) C dL_acts_2 rfl rfl rfl ?_
  refine J_iload_n (i := 1) (p := 1) C dL_acts_3 rfl rfl rfl ?_
  refine Jc_cV (rest := [.int 0, .ref (K.2.2 + 2054)]) (st9 := fun p => [.int p.1, .int 0, .ref (K.2.2 + 2054)]) C hR hX cv_RL_71 rfl (Nat.le_of_ble_eq_true rfl) (k11_acts hl h) rfl rfl (Nat.le_of_ble_eq_true rfl) (Nat.le_of_ble_eq_true rfl) (Nat.le_of_ble_eq_true rfl) ⟨(Nat.le_of_ble_eq_true rfl), (Nat.le_of_ble_eq_true rfl)⟩ dL_acts_4 rfl ?_ (fun _ => rfl) ?_
  · rintro E n9 w9 ⟨c, s9, ⟨v, hv, hq⟩, rfl, rfl, rfl⟩
    simp only [List.mem_cons, Prod.mk.injEq, List.not_mem_nil, or_false] at hv
    rcases hv with ⟨rfl, rfl⟩
    · refine JT_catch C [] ⟨0, 9, 12, 13⟩ [] htab (fun z hz => nomatch hz) (by decide) (by decide) tw_596 (by decide +kernel) (fun z => ?_)
      refine J_astore_n (i := 3) C dL_acts_12 rfl (Nat.le_of_ble_eq_true rfl) rfl rfl ?_
      refine J_iconst (v := 1) C (by decide) dL_acts_13 rfl ?_
      exact J_iret C hret (Nat.le_of_ble_eq_true rfl) (Nat.le_of_ble_eq_true rfl) ⟨_, hq, rfl, rfl, rfl⟩ dL_acts_14
  · intro p hq
    refine J_i2l C dL_acts_7 rfl ?_
    refine Jl_out C id dL_acts_8 rfl ?_
    refine J_goto (t := 15) C dL_acts_9 (by decide) ?_
    refine J_iconst (v := 0) C (by decide) dL_acts_15 rfl ?_
    exact J_iret C hret (Nat.le_of_ble_eq_true rfl) (Nat.le_of_ble_eq_true rfl) ⟨_, hq, rfl, rfl, rfl⟩ dL_acts_16
theorem cv_RL_74 : CV RL 74 10 yX11_setCursor cX11_setCursor 3 (some .int) 1 := ⟨⟨tw_1053, tw_82, tw_1056, by decide +kernel, by decide +kernel, by decide +kernel⟩, tw_1055, tw_1054, TX11, 11, rfl⟩
set_option maxRecDepth 100000 in
theorem hL_setCursor {l : Launch} {K : JK} (hl : l.stackTraces = false) {σ μ : Sto} {o : Int64} {l1 : Int32} {Qf : Int32 × Sto × Int64 → Prop} (h : Ok (f11_setCursor σ l1) (hres [(1, 1)] o Qf)) : Con l K yL_setCursor (.codeWith yL_setCursor cL_setCursor 4 (some .int) [(0, 9, 12, 21)] :: TB) 8 1 6 False [.ref (K.2.2 + 0), .int l1, .ref (K.2.2 + 2054)] 2055 (jw K σ μ o) (PR Qf (fun p => some (.int p.1)) (fun p => jw K p.2.1 μ p.2.2)) PN := by
  refine Con.enterH (own := RL) hl (by decide) rfl (Nat.le_of_ble_eq_true rfl) ?_
  intro X hX hR C hret htab
  refine J_aload_n (i := 2) (p := 2) C dL_setCursor_0 rfl rfl rfl ?_
  refine J_iconst (v := 0) C (by decide) dL_setCursor_1 rfl ?_
  refine J_aload_n (i := 0) (p := 0) C dL_setCursor_2 rfl rfl rfl ?_
  refine J_iload_n (i := 1) (p := 1) C dL_setCursor_3 rfl rfl rfl ?_
  refine Jc_cV (rest := [.int 0, .ref (K.2.2 + 2054)]) (st9 := fun p => [.int p.1, .int 0, .ref (K.2.2 + 2054)]) C hR hX cv_RL_74 rfl (Nat.le_of_ble_eq_true rfl) (k11_setCursor hl h) rfl rfl (Nat.le_of_ble_eq_true rfl) (Nat.le_of_ble_eq_true rfl) (Nat.le_of_ble_eq_true rfl) ⟨(Nat.le_of_ble_eq_true rfl), (Nat.le_of_ble_eq_true rfl)⟩ dL_setCursor_4 rfl ?_ (fun _ => rfl) ?_
  · rintro E n9 w9 ⟨c, s9, ⟨v, hv, hq⟩, rfl, rfl, rfl⟩
    simp only [List.mem_cons, Prod.mk.injEq, List.not_mem_nil, or_false] at hv
    rcases hv with ⟨rfl, rfl⟩
    · refine JT_catch C [] ⟨0, 9, 12, 21⟩ [] htab (fun z hz => nomatch hz) (by decide) (by decide) tw_696 (by decide +kernel) (fun z => ?_)
      refine J_astore_n (i := 3) C dL_setCursor_12 rfl (Nat.le_of_ble_eq_true rfl) rfl rfl ?_
      refine J_iconst (v := 1) C (by decide) dL_setCursor_13 rfl ?_
      exact J_iret C hret (Nat.le_of_ble_eq_true rfl) (Nat.le_of_ble_eq_true rfl) ⟨_, hq, rfl, rfl, rfl⟩ dL_setCursor_14
  · intro p hq
    refine J_i2l C dL_setCursor_7 rfl ?_
    refine Jl_out C id dL_setCursor_8 rfl ?_
    refine J_goto (t := 15) C dL_setCursor_9 (by decide) ?_
    refine J_iconst (v := 0) C (by decide) dL_setCursor_15 rfl ?_
    exact J_iret C hret (Nat.le_of_ble_eq_true rfl) (Nat.le_of_ble_eq_true rfl) ⟨_, hq, rfl, rfl, rfl⟩ dL_setCursor_16
theorem cv_RL_77 : CV RL 77 10 yX11_addCursor cX11_addCursor 2 (some .int) 1 := ⟨⟨tw_1060, tw_82, tw_1063, by decide +kernel, by decide +kernel, by decide +kernel⟩, tw_1062, tw_1061, TX11, 11, rfl⟩
set_option maxRecDepth 100000 in
theorem hL_addCursor {l : Launch} {K : JK} (hl : l.stackTraces = false) {σ μ : Sto} {o : Int64} {l1 : Int32} {Qf : Int32 × Sto × Int64 → Prop} (h : Ok (f11_addCursor σ l1) (hres [(1, 1), (3, 2)] o Qf)) : Con l K yL_addCursor (.codeWith yL_addCursor cL_addCursor 4 (some .int) [(0, 9, 12, 21), (0, 9, 15, 15)] :: TB) 8 2 12 False [.ref (K.2.2 + 0), .int l1, .ref (K.2.2 + 2054)] 2055 (jw K σ μ o) (PR Qf (fun p => some (.int p.1)) (fun p => jw K p.2.1 μ p.2.2)) PN := by
  refine Con.enterH (own := RL) hl (by decide) rfl (Nat.le_of_ble_eq_true rfl) ?_
  intro X hX hR C hret htab
  refine J_aload_n (i := 2) (p := 2) C dL_addCursor_0 rfl rfl rfl ?_
  refine J_iconst (v := 0) C (by decide) dL_addCursor_1 rfl ?_
  refine J_aload_n (i := 0) (p := 0) C dL_addCursor_2 rfl rfl rfl ?_
  refine J_iload_n (i := 1) (p := 1) C dL_addCursor_3 rfl rfl rfl ?_
  refine Jc_cV (rest := [.int 0, .ref (K.2.2 + 2054)]) (st9 := fun p => [.int p.1, .int 0, .ref (K.2.2 + 2054)]) C hR hX cv_RL_77 rfl (Nat.le_of_ble_eq_true rfl) (k11_addCursor hl h) rfl rfl (Nat.le_of_ble_eq_true rfl) (Nat.le_of_ble_eq_true rfl) (Nat.le_of_ble_eq_true rfl) ⟨(Nat.le_of_ble_eq_true rfl), (Nat.le_of_ble_eq_true rfl)⟩ dL_addCursor_4 rfl ?_ (fun _ => rfl) ?_
  · rintro E n9 w9 ⟨c, s9, ⟨v, hv, hq⟩, rfl, rfl, rfl⟩
    simp only [List.mem_cons, Prod.mk.injEq, List.not_mem_nil, or_false] at hv
    rcases hv with ⟨rfl, rfl⟩ | ⟨rfl, rfl⟩
    · refine JT_catch C [] ⟨0, 9, 12, 21⟩ [⟨0, 9, 15, 15⟩] htab (fun z hz => nomatch hz) (by decide) (by decide) tw_696 (by decide +kernel) (fun z => ?_)
      refine J_astore_n (i := 3) C dL_addCursor_12 rfl (Nat.le_of_ble_eq_true rfl) rfl rfl ?_
      refine J_iconst (v := 1) C (by decide) dL_addCursor_13 rfl ?_
      exact J_iret C hret (Nat.le_of_ble_eq_true rfl) (Nat.le_of_ble_eq_true rfl) ⟨_, hq, rfl, rfl, rfl⟩ dL_addCursor_14
    · refine JT_catch C [⟨0, 9, 12, 21⟩] ⟨0, 9, 15, 15⟩ [] htab (fun z hz => by
      rcases List.mem_cons.mp hz with rfl | hz
      · exact Or.inr ⟨by decide, "java/lang/IndexOutOfBoundsException", tw_696, by decide +kernel⟩
      nomatch hz) (by decide) (by decide) tw_597 (by decide +kernel) (fun z => ?_)
      refine J_astore_n (i := 3) C dL_addCursor_15 rfl (Nat.le_of_ble_eq_true rfl) rfl rfl ?_
      refine J_iconst (v := 2) C (by decide) dL_addCursor_16 rfl ?_
      exact J_iret C hret (Nat.le_of_ble_eq_true rfl) (Nat.le_of_ble_eq_true rfl) ⟨_, hq, rfl, rfl, rfl⟩ dL_addCursor_17
  · intro p hq
    refine J_i2l C dL_addCursor_7 rfl ?_
    refine Jl_out C id dL_addCursor_8 rfl ?_
    refine J_goto (t := 18) C dL_addCursor_9 (by decide) ?_
    refine J_iconst (v := 0) C (by decide) dL_addCursor_18 rfl ?_
    exact J_iret C hret (Nat.le_of_ble_eq_true rfl) (Nat.le_of_ble_eq_true rfl) ⟨_, hq, rfl, rfl, rfl⟩ dL_addCursor_19
theorem cv_RL_80 : CV RL 80 10 yX11_moveCursors cX11_moveCursors 3 (some .int) 2 := ⟨⟨tw_1073, tw_82, tw_1076, by decide +kernel, by decide +kernel, by decide +kernel⟩, tw_1075, tw_1074, TX11, 11, rfl⟩
set_option maxRecDepth 100000 in
theorem hL_moveCursors {l : Launch} {K : JK} (hl : l.stackTraces = false) {σ μ : Sto} {o : Int64} {l1 : Int32} {l2 : Int32} {Qf : Int32 × Sto × Int64 → Prop} (h : Ok (f11_moveCursors σ l1 l2) (hres [(2, 1)] o Qf)) : Con l K yL_moveCursors (.codeWith yL_moveCursors cL_moveCursors 5 (some .int) [(0, 10, 13, 13)] :: TB) 7 1 6 False [.ref (K.2.2 + 0), .int l1, .int l2, .ref (K.2.2 + 2054)] 2055 (jw K σ μ o) (PR Qf (fun p => some (.int p.1)) (fun p => jw K p.2.1 μ p.2.2)) PN := by
  refine Con.enterH (own := RL) hl (by decide) rfl (Nat.le_of_ble_eq_true rfl) ?_
  intro X hX hR C hret htab
  refine J_aload_n (i := 3) (p := 3) C dL_moveCursors_0 rfl rfl rfl ?_
  refine J_iconst (v := 0) C (by decide) dL_moveCursors_1 rfl ?_
  refine J_aload_n (i := 0) (p := 0) C dL_moveCursors_2 rfl rfl rfl ?_
  refine J_iload_n (i := 1) (p := 1) C dL_moveCursors_3 rfl rfl rfl ?_
  refine J_iload_n (i := 2) (p := 2) C dL_moveCursors_4 rfl rfl rfl ?_
  refine Jc_cV (rest := [.int 0, .ref (K.2.2 + 2054)]) (st9 := fun p => [.int p.1, .int 0, .ref (K.2.2 + 2054)]) C hR hX cv_RL_80 rfl (Nat.le_of_ble_eq_true rfl) (k11_moveCursors hl h) rfl rfl (Nat.le_of_ble_eq_true rfl) (Nat.le_of_ble_eq_true rfl) (Nat.le_of_ble_eq_true rfl) ⟨(Nat.le_of_ble_eq_true rfl), (Nat.le_of_ble_eq_true rfl)⟩ dL_moveCursors_5 rfl ?_ (fun _ => rfl) ?_
  · rintro E n9 w9 ⟨c, s9, ⟨v, hv, hq⟩, rfl, rfl, rfl⟩
    simp only [List.mem_cons, Prod.mk.injEq, List.not_mem_nil, or_false] at hv
    rcases hv with ⟨rfl, rfl⟩
    · refine JT_catch C [] ⟨0, 10, 13, 13⟩ [] htab (fun z hz => nomatch hz) (by decide) (by decide) tw_596 (by decide +kernel) (fun z => ?_)
      refine J_astore (i := 4) C dL_moveCursors_13 (Nat.le_of_ble_eq_true rfl) rfl rfl ?_
      refine J_iconst (v := 1) C (by decide) dL_moveCursors_15 rfl ?_
      exact J_iret C hret (Nat.le_of_ble_eq_true rfl) (Nat.le_of_ble_eq_true rfl) ⟨_, hq, rfl, rfl, rfl⟩ dL_moveCursors_16
  · intro p hq
    refine J_i2l C dL_moveCursors_8 rfl ?_
    refine Jl_out C id dL_moveCursors_9 rfl ?_
    refine J_goto (t := 17) C dL_moveCursors_10 (by decide) ?_
    refine J_iconst (v := 0) C (by decide) dL_moveCursors_17 rfl ?_
    exact J_iret C hret (Nat.le_of_ble_eq_true rfl) (Nat.le_of_ble_eq_true rfl) ⟨_, hq, rfl, rfl, rfl⟩ dL_moveCursors_18
theorem cv_RL_83 : CV RL 83 10 yX11_cursorAt cX11_cursorAt 2 (some .int) 1 := ⟨⟨tw_1133, tw_82, tw_1136, by decide +kernel, by decide +kernel, by decide +kernel⟩, tw_1135, tw_1134, TX11, 11, rfl⟩
set_option maxRecDepth 100000 in
theorem hL_cursorAt {l : Launch} {K : JK} (hl : l.stackTraces = false) {σ μ : Sto} {o : Int64} {l1 : Int32} {Qf : Int32 × Sto × Int64 → Prop} (h : Ok (f11_cursorAt σ l1) (hres [(1, 1)] o Qf)) : Con l K yL_cursorAt (.codeWith yL_cursorAt cL_cursorAt 4 (some .int) [(0, 9, 12, 21)] :: TB) 7 1 6 False [.ref (K.2.2 + 0), .int l1, .ref (K.2.2 + 2054)] 2055 (jw K σ μ o) (PR Qf (fun p => some (.int p.1)) (fun p => jw K p.2.1 μ p.2.2)) PN := by
  refine Con.enterH (own := RL) hl (by decide) rfl (Nat.le_of_ble_eq_true rfl) ?_
  intro X hX hR C hret htab
  refine J_aload_n (i := 2) (p := 2) C dL_cursorAt_0 rfl rfl rfl ?_
  refine J_iconst (v := 0) C (by decide) dL_cursorAt_1 rfl ?_
  refine J_aload_n (i := 0) (p := 0) C dL_cursorAt_2 rfl rfl rfl ?_
  refine J_iload_n (i := 1) (p := 1) C dL_cursorAt_3 rfl rfl rfl ?_
  refine Jc_cV (rest := [.int 0, .ref (K.2.2 + 2054)]) (st9 := fun p => [.int p.1, .int 0, .ref (K.2.2 + 2054)]) C hR hX cv_RL_83 rfl (Nat.le_of_ble_eq_true rfl) (k11_cursorAt hl h) rfl rfl (Nat.le_of_ble_eq_true rfl) (Nat.le_of_ble_eq_true rfl) (Nat.le_of_ble_eq_true rfl) ⟨(Nat.le_of_ble_eq_true rfl), (Nat.le_of_ble_eq_true rfl)⟩ dL_cursorAt_4 rfl ?_ (fun _ => rfl) ?_
  · rintro E n9 w9 ⟨c, s9, ⟨v, hv, hq⟩, rfl, rfl, rfl⟩
    simp only [List.mem_cons, Prod.mk.injEq, List.not_mem_nil, or_false] at hv
    rcases hv with ⟨rfl, rfl⟩
    · refine JT_catch C [] ⟨0, 9, 12, 21⟩ [] htab (fun z hz => nomatch hz) (by decide) (by decide) tw_696 (by decide +kernel) (fun z => ?_)
      refine J_astore_n (i := 3) C dL_cursorAt_12 rfl (Nat.le_of_ble_eq_true rfl) rfl rfl ?_
      refine J_iconst (v := 1) C (by decide) dL_cursorAt_13 rfl ?_
      exact J_iret C hret (Nat.le_of_ble_eq_true rfl) (Nat.le_of_ble_eq_true rfl) ⟨_, hq, rfl, rfl, rfl⟩ dL_cursorAt_14
  · intro p hq
    refine J_i2l C dL_cursorAt_7 rfl ?_
    refine Jl_out C id dL_cursorAt_8 rfl ?_
    refine J_goto (t := 15) C dL_cursorAt_9 (by decide) ?_
    refine J_iconst (v := 0) C (by decide) dL_cursorAt_15 rfl ?_
    exact J_iret C hret (Nat.le_of_ble_eq_true rfl) (Nat.le_of_ble_eq_true rfl) ⟨_, hq, rfl, rfl, rfl⟩ dL_cursorAt_16
theorem cv_RL_86 : CV RL 86 10 yX11_setMark cX11_setMark 5 (some .int) 3 := ⟨⟨tw_1141, tw_82, tw_1144, by decide +kernel, by decide +kernel, by decide +kernel⟩, tw_1143, tw_1142, TX11, 11, rfl⟩
set_option maxRecDepth 100000 in
theorem hL_setMark {l : Launch} {K : JK} (hl : l.stackTraces = false) {σ μ : Sto} {o : Int64} {l1 : Int32} {l2 : Int32} {l3 : Int32} {Qf : Int32 × Sto × Int64 → Prop} (h : Ok (f11_setMark σ l1 l2 l3) (hres [(1, 1)] o Qf)) : Con l K yL_setMark (.codeWith yL_setMark cL_setMark 6 (some .int) [(0, 12, 15, 21)] :: TB) 8 2 12 False [.ref (K.2.2 + 0), .int l1, .int l2, .int l3, .ref (K.2.2 + 2054)] 2055 (jw K σ μ o) (PR Qf (fun p => some (.int p.1)) (fun p => jw K p.2.1 μ p.2.2)) PN := by
  refine Con.enterH (own := RL) hl (by decide) rfl (Nat.le_of_ble_eq_true rfl) ?_
  intro X hX hR C hret htab
  refine J_aload (i := 4) (p := 4) C dL_setMark_0 rfl rfl ?_
  refine J_iconst (v := 0) C (by decide) dL_setMark_2 rfl ?_
  refine J_aload_n (i := 0) (p := 0) C dL_setMark_3 rfl rfl rfl ?_
  refine J_iload_n (i := 1) (p := 1) C dL_setMark_4 rfl rfl rfl ?_
  refine J_iload_n (i := 2) (p := 2) C dL_setMark_5 rfl rfl rfl ?_
  refine J_iload_n (i := 3) (p := 3) C dL_setMark_6 rfl rfl rfl ?_
  refine Jc_cV (rest := [.int 0, .ref (K.2.2 + 2054)]) (st9 := fun p => [.int p.1, .int 0, .ref (K.2.2 + 2054)]) C hR hX cv_RL_86 rfl (Nat.le_of_ble_eq_true rfl) (k11_setMark hl h) rfl rfl (Nat.le_of_ble_eq_true rfl) (Nat.le_of_ble_eq_true rfl) (Nat.le_of_ble_eq_true rfl) ⟨(Nat.le_of_ble_eq_true rfl), (Nat.le_of_ble_eq_true rfl)⟩ dL_setMark_7 rfl ?_ (fun _ => rfl) ?_
  · rintro E n9 w9 ⟨c, s9, ⟨v, hv, hq⟩, rfl, rfl, rfl⟩
    simp only [List.mem_cons, Prod.mk.injEq, List.not_mem_nil, or_false] at hv
    rcases hv with ⟨rfl, rfl⟩
    · refine JT_catch C [] ⟨0, 12, 15, 21⟩ [] htab (fun z hz => nomatch hz) (by decide) (by decide) tw_696 (by decide +kernel) (fun z => ?_)
      refine J_astore (i := 5) C dL_setMark_15 (Nat.le_of_ble_eq_true rfl) rfl rfl ?_
      refine J_iconst (v := 1) C (by decide) dL_setMark_17 rfl ?_
      exact J_iret C hret (Nat.le_of_ble_eq_true rfl) (Nat.le_of_ble_eq_true rfl) ⟨_, hq, rfl, rfl, rfl⟩ dL_setMark_18
  · intro p hq
    refine J_i2l C dL_setMark_10 rfl ?_
    refine Jl_out C id dL_setMark_11 rfl ?_
    refine J_goto (t := 19) C dL_setMark_12 (by decide) ?_
    refine J_iconst (v := 0) C (by decide) dL_setMark_19 rfl ?_
    exact J_iret C hret (Nat.le_of_ble_eq_true rfl) (Nat.le_of_ble_eq_true rfl) ⟨_, hq, rfl, rfl, rfl⟩ dL_setMark_20
theorem cv_RL_90 : CV RL 90 10 yX11_dropMark cX11_dropMark 3 (some .int) 1 := ⟨⟨tw_1153, tw_82, tw_1156, by decide +kernel, by decide +kernel, by decide +kernel⟩, tw_1155, tw_1154, TX11, 11, rfl⟩
set_option maxRecDepth 100000 in
theorem hL_dropMark {l : Launch} {K : JK} (hl : l.stackTraces = false) {σ μ : Sto} {o : Int64} {l1 : Int32} {Qf : Int32 × Sto × Int64 → Prop} (h : Ok (f11_dropMark σ l1) (hres [(1, 1)] o Qf)) : Con l K yL_dropMark (.codeWith yL_dropMark cL_dropMark 4 (some .int) [(0, 9, 12, 21)] :: TB) 8 1 6 False [.ref (K.2.2 + 0), .int l1, .ref (K.2.2 + 2054)] 2055 (jw K σ μ o) (PR Qf (fun p => some (.int p.1)) (fun p => jw K p.2.1 μ p.2.2)) PN := by
  refine Con.enterH (own := RL) hl (by decide) rfl (Nat.le_of_ble_eq_true rfl) ?_
  intro X hX hR C hret htab
  refine J_aload_n (i := 2) (p := 2) C dL_dropMark_0 rfl rfl rfl ?_
  refine J_iconst (v := 0) C (by decide) dL_dropMark_1 rfl ?_
  refine J_aload_n (i := 0) (p := 0) C dL_dropMark_2 rfl rfl rfl ?_
  refine J_iload_n (i := 1) (p := 1) C dL_dropMark_3 rfl rfl rfl ?_
  refine Jc_cV (rest := [.int 0, .ref (K.2.2 + 2054)]) (st9 := fun p => [.int p.1, .int 0, .ref (K.2.2 + 2054)]) C hR hX cv_RL_90 rfl (Nat.le_of_ble_eq_true rfl) (k11_dropMark hl h) rfl rfl (Nat.le_of_ble_eq_true rfl) (Nat.le_of_ble_eq_true rfl) (Nat.le_of_ble_eq_true rfl) ⟨(Nat.le_of_ble_eq_true rfl), (Nat.le_of_ble_eq_true rfl)⟩ dL_dropMark_4 rfl ?_ (fun _ => rfl) ?_
  · rintro E n9 w9 ⟨c, s9, ⟨v, hv, hq⟩, rfl, rfl, rfl⟩
    simp only [List.mem_cons, Prod.mk.injEq, List.not_mem_nil, or_false] at hv
    rcases hv with ⟨rfl, rfl⟩
    · refine JT_catch C [] ⟨0, 9, 12, 21⟩ [] htab (fun z hz => nomatch hz) (by decide) (by decide) tw_696 (by decide +kernel) (fun z => ?_)
      refine J_astore_n (i := 3) C dL_dropMark_12 rfl (Nat.le_of_ble_eq_true rfl) rfl rfl ?_
      refine J_iconst (v := 1) C (by decide) dL_dropMark_13 rfl ?_
      exact J_iret C hret (Nat.le_of_ble_eq_true rfl) (Nat.le_of_ble_eq_true rfl) ⟨_, hq, rfl, rfl, rfl⟩ dL_dropMark_14
  · intro p hq
    refine J_i2l C dL_dropMark_7 rfl ?_
    refine Jl_out C id dL_dropMark_8 rfl ?_
    refine J_goto (t := 15) C dL_dropMark_9 (by decide) ?_
    refine J_iconst (v := 0) C (by decide) dL_dropMark_15 rfl ?_
    exact J_iret C hret (Nat.le_of_ble_eq_true rfl) (Nat.le_of_ble_eq_true rfl) ⟨_, hq, rfl, rfl, rfl⟩ dL_dropMark_16
theorem cv_RL_93 : CV RL 93 10 yX11_markAt cX11_markAt 2 (some .int) 1 := ⟨⟨tw_1160, tw_82, tw_1163, by decide +kernel, by decide +kernel, by decide +kernel⟩, tw_1162, tw_1161, TX11, 11, rfl⟩
set_option maxRecDepth 100000 in
theorem hL_markAt {l : Launch} {K : JK} (hl : l.stackTraces = false) {σ μ : Sto} {o : Int64} {l1 : Int32} {Qf : Int32 × Sto × Int64 → Prop} (h : Ok (f11_markAt σ l1) (hres [(1, 1)] o Qf)) : Con l K yL_markAt (.codeWith yL_markAt cL_markAt 4 (some .int) [(0, 9, 12, 21)] :: TB) 8 1 6 False [.ref (K.2.2 + 0), .int l1, .ref (K.2.2 + 2054)] 2055 (jw K σ μ o) (PR Qf (fun p => some (.int p.1)) (fun p => jw K p.2.1 μ p.2.2)) PN := by
  refine Con.enterH (own := RL) hl (by decide) rfl (Nat.le_of_ble_eq_true rfl) ?_
  intro X hX hR C hret htab
  refine J_aload_n (i := 2) (p := 2) C dL_markAt_0 rfl rfl rfl ?_
  refine J_iconst (v := 0) C (by decide) dL_markAt_1 rfl ?_
  refine J_aload_n (i := 0) (p := 0) C dL_markAt_2 rfl rfl rfl ?_
  refine J_iload_n (i := 1) (p := 1) C dL_markAt_3 rfl rfl rfl ?_
  refine Jc_cV (rest := [.int 0, .ref (K.2.2 + 2054)]) (st9 := fun p => [.int p.1, .int 0, .ref (K.2.2 + 2054)]) C hR hX cv_RL_93 rfl (Nat.le_of_ble_eq_true rfl) (k11_markAt hl h) rfl rfl (Nat.le_of_ble_eq_true rfl) (Nat.le_of_ble_eq_true rfl) (Nat.le_of_ble_eq_true rfl) ⟨(Nat.le_of_ble_eq_true rfl), (Nat.le_of_ble_eq_true rfl)⟩ dL_markAt_4 rfl ?_ (fun _ => rfl) ?_
  · rintro E n9 w9 ⟨c, s9, ⟨v, hv, hq⟩, rfl, rfl, rfl⟩
    simp only [List.mem_cons, Prod.mk.injEq, List.not_mem_nil, or_false] at hv
    rcases hv with ⟨rfl, rfl⟩
    · refine JT_catch C [] ⟨0, 9, 12, 21⟩ [] htab (fun z hz => nomatch hz) (by decide) (by decide) tw_696 (by decide +kernel) (fun z => ?_)
      refine J_astore_n (i := 3) C dL_markAt_12 rfl (Nat.le_of_ble_eq_true rfl) rfl rfl ?_
      refine J_iconst (v := 1) C (by decide) dL_markAt_13 rfl ?_
      exact J_iret C hret (Nat.le_of_ble_eq_true rfl) (Nat.le_of_ble_eq_true rfl) ⟨_, hq, rfl, rfl, rfl⟩ dL_markAt_14
  · intro p hq
    refine J_i2l C dL_markAt_7 rfl ?_
    refine Jl_out C id dL_markAt_8 rfl ?_
    refine J_goto (t := 15) C dL_markAt_9 (by decide) ?_
    refine J_iconst (v := 0) C (by decide) dL_markAt_15 rfl ?_
    exact J_iret C hret (Nat.le_of_ble_eq_true rfl) (Nat.le_of_ble_eq_true rfl) ⟨_, hq, rfl, rfl, rfl⟩ dL_markAt_16
theorem cv_RL_96 : CV RL 96 10 yX11_markBeside cX11_markBeside 3 (some .int) 2 := ⟨⟨tw_1167, tw_82, tw_1170, by decide +kernel, by decide +kernel, by decide +kernel⟩, tw_1169, tw_1168, TX11, 11, rfl⟩
set_option maxRecDepth 100000 in
theorem hL_markBeside {l : Launch} {K : JK} (hl : l.stackTraces = false) {σ μ : Sto} {o : Int64} {l1 : Int32} {l2 : Int32} {Qf : Int32 × Sto × Int64 → Prop} (h : Ok (f11_markBeside σ l1 l2) (hres [(1, 1)] o Qf)) : Con l K yL_markBeside (.codeWith yL_markBeside cL_markBeside 5 (some .int) [(0, 10, 13, 21)] :: TB) 8 1 6 False [.ref (K.2.2 + 0), .int l1, .int l2, .ref (K.2.2 + 2054)] 2055 (jw K σ μ o) (PR Qf (fun p => some (.int p.1)) (fun p => jw K p.2.1 μ p.2.2)) PN := by
  refine Con.enterH (own := RL) hl (by decide) rfl (Nat.le_of_ble_eq_true rfl) ?_
  intro X hX hR C hret htab
  refine J_aload_n (i := 3) (p := 3) C dL_markBeside_0 rfl rfl rfl ?_
  refine J_iconst (v := 0) C (by decide) dL_markBeside_1 rfl ?_
  refine J_aload_n (i := 0) (p := 0) C dL_markBeside_2 rfl rfl rfl ?_
  refine J_iload_n (i := 1) (p := 1) C dL_markBeside_3 rfl rfl rfl ?_
  refine J_iload_n (i := 2) (p := 2) C dL_markBeside_4 rfl rfl rfl ?_
  refine Jc_cV (rest := [.int 0, .ref (K.2.2 + 2054)]) (st9 := fun p => [.int p.1, .int 0, .ref (K.2.2 + 2054)]) C hR hX cv_RL_96 rfl (Nat.le_of_ble_eq_true rfl) (k11_markBeside hl h) rfl rfl (Nat.le_of_ble_eq_true rfl) (Nat.le_of_ble_eq_true rfl) (Nat.le_of_ble_eq_true rfl) ⟨(Nat.le_of_ble_eq_true rfl), (Nat.le_of_ble_eq_true rfl)⟩ dL_markBeside_5 rfl ?_ (fun _ => rfl) ?_
  · rintro E n9 w9 ⟨c, s9, ⟨v, hv, hq⟩, rfl, rfl, rfl⟩
    simp only [List.mem_cons, Prod.mk.injEq, List.not_mem_nil, or_false] at hv
    rcases hv with ⟨rfl, rfl⟩
    · refine JT_catch C [] ⟨0, 10, 13, 21⟩ [] htab (fun z hz => nomatch hz) (by decide) (by decide) tw_696 (by decide +kernel) (fun z => ?_)
      refine J_astore (i := 4) C dL_markBeside_13 (Nat.le_of_ble_eq_true rfl) rfl rfl ?_
      refine J_iconst (v := 1) C (by decide) dL_markBeside_15 rfl ?_
      exact J_iret C hret (Nat.le_of_ble_eq_true rfl) (Nat.le_of_ble_eq_true rfl) ⟨_, hq, rfl, rfl, rfl⟩ dL_markBeside_16
  · intro p hq
    refine J_i2l C dL_markBeside_8 rfl ?_
    refine Jl_out C id dL_markBeside_9 rfl ?_
    refine J_goto (t := 17) C dL_markBeside_10 (by decide) ?_
    refine J_iconst (v := 0) C (by decide) dL_markBeside_17 rfl ?_
    exact J_iret C hret (Nat.le_of_ble_eq_true rfl) (Nat.le_of_ble_eq_true rfl) ⟨_, hq, rfl, rfl, rfl⟩ dL_markBeside_18
theorem cv_RL_100 : CV RL 100 10 yX11_setPattern cX11_setPattern 2 (some .int) 1 := ⟨⟨tw_1182, tw_82, tw_1185, by decide +kernel, by decide +kernel, by decide +kernel⟩, tw_1184, tw_1183, TX11, 11, rfl⟩
set_option maxRecDepth 100000 in
theorem hL_setPattern {l : Launch} {K : JK} (hl : l.stackTraces = false) {σ μ : Sto} {o : Int64} {l1 : Int32} {Qf : Int32 × Sto × Int64 → Prop} (h : Ok (f11_setPattern σ l1) (hres [(3, 1)] o Qf)) : Con l K yL_setPattern (.codeWith yL_setPattern cL_setPattern 4 (some .int) [(0, 9, 12, 15)] :: TB) 7 1 6 False [.ref (K.2.2 + 0), .int l1, .ref (K.2.2 + 2054)] 2055 (jw K σ μ o) (PR Qf (fun p => some (.int p.1)) (fun p => jw K p.2.1 μ p.2.2)) PN := by
  refine Con.enterH (own := RL) hl (by decide) rfl (Nat.le_of_ble_eq_true rfl) ?_
  intro X hX hR C hret htab
  refine J_aload_n (i := 2) (p := 2) C dL_setPattern_0 rfl rfl rfl ?_
  refine J_iconst (v := 0) C (by decide) dL_setPattern_1 rfl ?_
  refine J_aload_n (i := 0) (p := 0) C dL_setPattern_2 rfl rfl rfl ?_
  refine J_iload_n (i := 1) (p := 1) C dL_setPattern_3 rfl rfl rfl ?_
  refine Jc_cV (rest := [.int 0, .ref (K.2.2 + 2054)]) (st9 := fun p => [.int p.1, .int 0, .ref (K.2.2 + 2054)]) C hR hX cv_RL_100 rfl (Nat.le_of_ble_eq_true rfl) (k11_setPattern hl h) rfl rfl (Nat.le_of_ble_eq_true rfl) (Nat.le_of_ble_eq_true rfl) (Nat.le_of_ble_eq_true rfl) ⟨(Nat.le_of_ble_eq_true rfl), (Nat.le_of_ble_eq_true rfl)⟩ dL_setPattern_4 rfl ?_ (fun _ => rfl) ?_
  · rintro E n9 w9 ⟨c, s9, ⟨v, hv, hq⟩, rfl, rfl, rfl⟩
    simp only [List.mem_cons, Prod.mk.injEq, List.not_mem_nil, or_false] at hv
    rcases hv with ⟨rfl, rfl⟩
    · refine JT_catch C [] ⟨0, 9, 12, 15⟩ [] htab (fun z hz => nomatch hz) (by decide) (by decide) tw_597 (by decide +kernel) (fun z => ?_)
      refine J_astore_n (i := 3) C dL_setPattern_12 rfl (Nat.le_of_ble_eq_true rfl) rfl rfl ?_
      refine J_iconst (v := 1) C (by decide) dL_setPattern_13 rfl ?_
      exact J_iret C hret (Nat.le_of_ble_eq_true rfl) (Nat.le_of_ble_eq_true rfl) ⟨_, hq, rfl, rfl, rfl⟩ dL_setPattern_14
  · intro p hq
    refine J_i2l C dL_setPattern_7 rfl ?_
    refine Jl_out C id dL_setPattern_8 rfl ?_
    refine J_goto (t := 15) C dL_setPattern_9 (by decide) ?_
    refine J_iconst (v := 0) C (by decide) dL_setPattern_15 rfl ?_
    exact J_iret C hret (Nat.le_of_ble_eq_true rfl) (Nat.le_of_ble_eq_true rfl) ⟨_, hq, rfl, rfl, rfl⟩ dL_setPattern_16
theorem cv_RL_104 : CV RL 104 10 yX11_find cX11_find 3 (some .int) 2 := ⟨⟨tw_1195, tw_82, tw_1198, by decide +kernel, by decide +kernel, by decide +kernel⟩, tw_1197, tw_1196, TX11, 11, rfl⟩
set_option maxRecDepth 100000 in
theorem hL_find {l : Launch} {K : JK} (hl : l.stackTraces = false) {σ μ : Sto} {o : Int64} {l1 : Int32} {l2 : Int32} {Qf : Int32 × Sto × Int64 → Prop} (h : Ok (f11_find σ l1 l2) (hres [(1, 1), (3, 2)] o Qf)) : Con l K yL_find (.codeWith yL_find cL_find 5 (some .int) [(0, 10, 13, 21), (0, 10, 17, 15)] :: TB) 8 2 12 False [.ref (K.2.2 + 0), .int l1, .int l2, .ref (K.2.2 + 2054)] 2055 (jw K σ μ o) (PR Qf (fun p => some (.int p.1)) (fun p => jw K p.2.1 μ p.2.2)) PN := by
  refine Con.enterH (own := RL) hl (by decide) rfl (Nat.le_of_ble_eq_true rfl) ?_
  intro X hX hR C hret htab
  refine J_aload_n (i := 3) (p := 3) C dL_find_0 rfl rfl rfl ?_
  refine J_iconst (v := 0) C (by decide) dL_find_1 rfl ?_
  refine J_aload_n (i := 0) (p := 0) C dL_find_2 rfl rfl rfl ?_
  refine J_iload_n (i := 1) (p := 1) C dL_find_3 rfl rfl rfl ?_
  refine J_iload_n (i := 2) (p := 2) C dL_find_4 rfl rfl rfl ?_
  refine Jc_cV (rest := [.int 0, .ref (K.2.2 + 2054)]) (st9 := fun p => [.int p.1, .int 0, .ref (K.2.2 + 2054)]) C hR hX cv_RL_104 rfl (Nat.le_of_ble_eq_true rfl) (k11_find hl h) rfl rfl (Nat.le_of_ble_eq_true rfl) (Nat.le_of_ble_eq_true rfl) (Nat.le_of_ble_eq_true rfl) ⟨(Nat.le_of_ble_eq_true rfl), (Nat.le_of_ble_eq_true rfl)⟩ dL_find_5 rfl ?_ (fun _ => rfl) ?_
  · rintro E n9 w9 ⟨c, s9, ⟨v, hv, hq⟩, rfl, rfl, rfl⟩
    simp only [List.mem_cons, Prod.mk.injEq, List.not_mem_nil, or_false] at hv
    rcases hv with ⟨rfl, rfl⟩ | ⟨rfl, rfl⟩
    · refine JT_catch C [] ⟨0, 10, 13, 21⟩ [⟨0, 10, 17, 15⟩] htab (fun z hz => nomatch hz) (by decide) (by decide) tw_696 (by decide +kernel) (fun z => ?_)
      refine J_astore (i := 4) C dL_find_13 (Nat.le_of_ble_eq_true rfl) rfl rfl ?_
      refine J_iconst (v := 1) C (by decide) dL_find_15 rfl ?_
      exact J_iret C hret (Nat.le_of_ble_eq_true rfl) (Nat.le_of_ble_eq_true rfl) ⟨_, hq, rfl, rfl, rfl⟩ dL_find_16
    · refine JT_catch C [⟨0, 10, 13, 21⟩] ⟨0, 10, 17, 15⟩ [] htab (fun z hz => by
      rcases List.mem_cons.mp hz with rfl | hz
      · exact Or.inr ⟨by decide, "java/lang/IndexOutOfBoundsException", tw_696, by decide +kernel⟩
      nomatch hz) (by decide) (by decide) tw_597 (by decide +kernel) (fun z => ?_)
      refine J_astore (i := 4) C dL_find_17 (Nat.le_of_ble_eq_true rfl) rfl rfl ?_
      refine J_iconst (v := 2) C (by decide) dL_find_19 rfl ?_
      exact J_iret C hret (Nat.le_of_ble_eq_true rfl) (Nat.le_of_ble_eq_true rfl) ⟨_, hq, rfl, rfl, rfl⟩ dL_find_20
  · intro p hq
    refine J_i2l C dL_find_8 rfl ?_
    refine Jl_out C id dL_find_9 rfl ?_
    refine J_goto (t := 21) C dL_find_10 (by decide) ?_
    refine J_iconst (v := 0) C (by decide) dL_find_21 rfl ?_
    exact J_iret C hret (Nat.le_of_ble_eq_true rfl) (Nat.le_of_ble_eq_true rfl) ⟨_, hq, rfl, rfl, rfl⟩ dL_find_22
theorem cv_RL_107 : CV RL 107 10 yX11_fold cX11_fold 4 (some .int) 2 := ⟨⟨tw_1207, tw_82, tw_1210, by decide +kernel, by decide +kernel, by decide +kernel⟩, tw_1209, tw_1208, TX11, 11, rfl⟩
set_option maxRecDepth 100000 in
theorem hL_fold {l : Launch} {K : JK} (hl : l.stackTraces = false) {σ μ : Sto} {o : Int64} {l1 : Int32} {l2 : Int32} {Qf : Int32 × Sto × Int64 → Prop} (h : Ok (f11_fold σ l1 l2) (hres [(1, 1), (2, 2), (3, 3)] o Qf)) : Con l K yL_fold (.codeWith yL_fold cL_fold 5 (some .int) [(0, 10, 13, 21), (0, 10, 17, 13), (0, 10, 21, 15)] :: TB) 8 3 18 False [.ref (K.2.2 + 0), .int l1, .int l2, .ref (K.2.2 + 2054)] 2055 (jw K σ μ o) (PR Qf (fun p => some (.int p.1)) (fun p => jw K p.2.1 μ p.2.2)) PN := by
  refine Con.enterH (own := RL) hl (by decide) rfl (Nat.le_of_ble_eq_true rfl) ?_
  intro X hX hR C hret htab
  refine J_aload_n (i := 3) (p := 3) C dL_fold_0 rfl rfl rfl ?_
  refine J_iconst (v := 0) C (by decide) dL_fold_1 rfl ?_
  refine J_aload_n (i := 0) (p := 0) C dL_fold_2 rfl rfl rfl ?_
  refine J_iload_n (i := 1) (p := 1) C dL_fold_3 rfl rfl rfl ?_
  refine J_iload_n (i := 2) (p := 2) C dL_fold_4 rfl rfl rfl ?_
  refine Jc_cV (rest := [.int 0, .ref (K.2.2 + 2054)]) (st9 := fun p => [.int p.1, .int 0, .ref (K.2.2 + 2054)]) C hR hX cv_RL_107 rfl (Nat.le_of_ble_eq_true rfl) (k11_fold hl h) rfl rfl (Nat.le_of_ble_eq_true rfl) (Nat.le_of_ble_eq_true rfl) (Nat.le_of_ble_eq_true rfl) ⟨(Nat.le_of_ble_eq_true rfl), (Nat.le_of_ble_eq_true rfl)⟩ dL_fold_5 rfl ?_ (fun _ => rfl) ?_
  · rintro E n9 w9 ⟨c, s9, ⟨v, hv, hq⟩, rfl, rfl, rfl⟩
    simp only [List.mem_cons, Prod.mk.injEq, List.not_mem_nil, or_false] at hv
    rcases hv with ⟨rfl, rfl⟩ | ⟨rfl, rfl⟩ | ⟨rfl, rfl⟩
    · refine JT_catch C [] ⟨0, 10, 13, 21⟩ [⟨0, 10, 17, 13⟩, ⟨0, 10, 21, 15⟩] htab (fun z hz => nomatch hz) (by decide) (by decide) tw_696 (by decide +kernel) (fun z => ?_)
      refine J_astore (i := 4) C dL_fold_13 (Nat.le_of_ble_eq_true rfl) rfl rfl ?_
      refine J_iconst (v := 1) C (by decide) dL_fold_15 rfl ?_
      exact J_iret C hret (Nat.le_of_ble_eq_true rfl) (Nat.le_of_ble_eq_true rfl) ⟨_, hq, rfl, rfl, rfl⟩ dL_fold_16
    · refine JT_catch C [⟨0, 10, 13, 21⟩] ⟨0, 10, 17, 13⟩ [⟨0, 10, 21, 15⟩] htab (fun z hz => by
      rcases List.mem_cons.mp hz with rfl | hz
      · exact Or.inr ⟨by decide, "java/lang/IndexOutOfBoundsException", tw_696, by decide +kernel⟩
      nomatch hz) (by decide) (by decide) tw_596 (by decide +kernel) (fun z => ?_)
      refine J_astore (i := 4) C dL_fold_17 (Nat.le_of_ble_eq_true rfl) rfl rfl ?_
      refine J_iconst (v := 2) C (by decide) dL_fold_19 rfl ?_
      exact J_iret C hret (Nat.le_of_ble_eq_true rfl) (Nat.le_of_ble_eq_true rfl) ⟨_, hq, rfl, rfl, rfl⟩ dL_fold_20
    · refine JT_catch C [⟨0, 10, 13, 21⟩, ⟨0, 10, 17, 13⟩] ⟨0, 10, 21, 15⟩ [] htab (fun z hz => by
      rcases List.mem_cons.mp hz with rfl | hz
      · exact Or.inr ⟨by decide, "java/lang/IndexOutOfBoundsException", tw_696, by decide +kernel⟩
      rcases List.mem_cons.mp hz with rfl | hz
      · exact Or.inr ⟨by decide, "java/lang/IllegalArgumentException", tw_596, by decide +kernel⟩
      nomatch hz) (by decide) (by decide) tw_597 (by decide +kernel) (fun z => ?_)
      refine J_astore (i := 4) C dL_fold_21 (Nat.le_of_ble_eq_true rfl) rfl rfl ?_
      refine J_iconst (v := 3) C (by decide) dL_fold_23 rfl ?_
      exact J_iret C hret (Nat.le_of_ble_eq_true rfl) (Nat.le_of_ble_eq_true rfl) ⟨_, hq, rfl, rfl, rfl⟩ dL_fold_24
  · intro p hq
    refine J_i2l C dL_fold_8 rfl ?_
    refine Jl_out C id dL_fold_9 rfl ?_
    refine J_goto (t := 25) C dL_fold_10 (by decide) ?_
    refine J_iconst (v := 0) C (by decide) dL_fold_25 rfl ?_
    exact J_iret C hret (Nat.le_of_ble_eq_true rfl) (Nat.le_of_ble_eq_true rfl) ⟨_, hq, rfl, rfl, rfl⟩ dL_fold_26
theorem cv_RL_110 : CV RL 110 10 yX11_unfold cX11_unfold 2 (some .int) 1 := ⟨⟨tw_1224, tw_82, tw_1227, by decide +kernel, by decide +kernel, by decide +kernel⟩, tw_1226, tw_1225, TX11, 11, rfl⟩
set_option maxRecDepth 100000 in
theorem hL_unfold {l : Launch} {K : JK} (hl : l.stackTraces = false) {σ μ : Sto} {o : Int64} {l1 : Int32} {Qf : Int32 × Sto × Int64 → Prop} (h : Ok (f11_unfold σ l1) (hres [(1, 1)] o Qf)) : Con l K yL_unfold (.codeWith yL_unfold cL_unfold 4 (some .int) [(0, 9, 12, 21)] :: TB) 8 1 6 False [.ref (K.2.2 + 0), .int l1, .ref (K.2.2 + 2054)] 2055 (jw K σ μ o) (PR Qf (fun p => some (.int p.1)) (fun p => jw K p.2.1 μ p.2.2)) PN := by
  refine Con.enterH (own := RL) hl (by decide) rfl (Nat.le_of_ble_eq_true rfl) ?_
  intro X hX hR C hret htab
  refine J_aload_n (i := 2) (p := 2) C dL_unfold_0 rfl rfl rfl ?_
  refine J_iconst (v := 0) C (by decide) dL_unfold_1 rfl ?_
  refine J_aload_n (i := 0) (p := 0) C dL_unfold_2 rfl rfl rfl ?_
  refine J_iload_n (i := 1) (p := 1) C dL_unfold_3 rfl rfl rfl ?_
  refine Jc_cV (rest := [.int 0, .ref (K.2.2 + 2054)]) (st9 := fun p => [.int p.1, .int 0, .ref (K.2.2 + 2054)]) C hR hX cv_RL_110 rfl (Nat.le_of_ble_eq_true rfl) (k11_unfold hl h) rfl rfl (Nat.le_of_ble_eq_true rfl) (Nat.le_of_ble_eq_true rfl) (Nat.le_of_ble_eq_true rfl) ⟨(Nat.le_of_ble_eq_true rfl), (Nat.le_of_ble_eq_true rfl)⟩ dL_unfold_4 rfl ?_ (fun _ => rfl) ?_
  · rintro E n9 w9 ⟨c, s9, ⟨v, hv, hq⟩, rfl, rfl, rfl⟩
    simp only [List.mem_cons, Prod.mk.injEq, List.not_mem_nil, or_false] at hv
    rcases hv with ⟨rfl, rfl⟩
    · refine JT_catch C [] ⟨0, 9, 12, 21⟩ [] htab (fun z hz => nomatch hz) (by decide) (by decide) tw_696 (by decide +kernel) (fun z => ?_)
      refine J_astore_n (i := 3) C dL_unfold_12 rfl (Nat.le_of_ble_eq_true rfl) rfl rfl ?_
      refine J_iconst (v := 1) C (by decide) dL_unfold_13 rfl ?_
      exact J_iret C hret (Nat.le_of_ble_eq_true rfl) (Nat.le_of_ble_eq_true rfl) ⟨_, hq, rfl, rfl, rfl⟩ dL_unfold_14
  · intro p hq
    refine J_i2l C dL_unfold_7 rfl ?_
    refine Jl_out C id dL_unfold_8 rfl ?_
    refine J_goto (t := 15) C dL_unfold_9 (by decide) ?_
    refine J_iconst (v := 0) C (by decide) dL_unfold_15 rfl ?_
    exact J_iret C hret (Nat.le_of_ble_eq_true rfl) (Nat.le_of_ble_eq_true rfl) ⟨_, hq, rfl, rfl, rfl⟩ dL_unfold_16
theorem cv_RL_117 : CV RL 117 10 yX11_setView cX11_setView 5 (some .int) 3 := ⟨⟨tw_1239, tw_82, tw_1242, by decide +kernel, by decide +kernel, by decide +kernel⟩, tw_1241, tw_1240, TX11, 11, rfl⟩
set_option maxRecDepth 100000 in
theorem hL_setView {l : Launch} {K : JK} (hl : l.stackTraces = false) {σ μ : Sto} {o : Int64} {l1 : Int32} {l2 : Int32} {l3 : Int32} {Qf : Int32 × Sto × Int64 → Prop} (h : Ok (f11_setView σ l1 l2 l3) (hres [(1, 1), (2, 2)] o Qf)) : Con l K yL_setView (.codeWith yL_setView cL_setView 6 (some .int) [(0, 12, 15, 21), (0, 12, 19, 13)] :: TB) 8 2 12 False [.ref (K.2.2 + 0), .int l1, .int l2, .int l3, .ref (K.2.2 + 2054)] 2055 (jw K σ μ o) (PR Qf (fun p => some (.int p.1)) (fun p => jw K p.2.1 μ p.2.2)) PN := by
  refine Con.enterH (own := RL) hl (by decide) rfl (Nat.le_of_ble_eq_true rfl) ?_
  intro X hX hR C hret htab
  refine J_aload (i := 4) (p := 4) C dL_setView_0 rfl rfl ?_
  refine J_iconst (v := 0) C (by decide) dL_setView_2 rfl ?_
  refine J_aload_n (i := 0) (p := 0) C dL_setView_3 rfl rfl rfl ?_
  refine J_iload_n (i := 1) (p := 1) C dL_setView_4 rfl rfl rfl ?_
  refine J_iload_n (i := 2) (p := 2) C dL_setView_5 rfl rfl rfl ?_
  refine J_iload_n (i := 3) (p := 3) C dL_setView_6 rfl rfl rfl ?_
  refine Jc_cV (rest := [.int 0, .ref (K.2.2 + 2054)]) (st9 := fun p => [.int p.1, .int 0, .ref (K.2.2 + 2054)]) C hR hX cv_RL_117 rfl (Nat.le_of_ble_eq_true rfl) (k11_setView hl h) rfl rfl (Nat.le_of_ble_eq_true rfl) (Nat.le_of_ble_eq_true rfl) (Nat.le_of_ble_eq_true rfl) ⟨(Nat.le_of_ble_eq_true rfl), (Nat.le_of_ble_eq_true rfl)⟩ dL_setView_7 rfl ?_ (fun _ => rfl) ?_
  · rintro E n9 w9 ⟨c, s9, ⟨v, hv, hq⟩, rfl, rfl, rfl⟩
    simp only [List.mem_cons, Prod.mk.injEq, List.not_mem_nil, or_false] at hv
    rcases hv with ⟨rfl, rfl⟩ | ⟨rfl, rfl⟩
    · refine JT_catch C [] ⟨0, 12, 15, 21⟩ [⟨0, 12, 19, 13⟩] htab (fun z hz => nomatch hz) (by decide) (by decide) tw_696 (by decide +kernel) (fun z => ?_)
      refine J_astore (i := 5) C dL_setView_15 (Nat.le_of_ble_eq_true rfl) rfl rfl ?_
      refine J_iconst (v := 1) C (by decide) dL_setView_17 rfl ?_
      exact J_iret C hret (Nat.le_of_ble_eq_true rfl) (Nat.le_of_ble_eq_true rfl) ⟨_, hq, rfl, rfl, rfl⟩ dL_setView_18
    · refine JT_catch C [⟨0, 12, 15, 21⟩] ⟨0, 12, 19, 13⟩ [] htab (fun z hz => by
      rcases List.mem_cons.mp hz with rfl | hz
      · exact Or.inr ⟨by decide, "java/lang/IndexOutOfBoundsException", tw_696, by decide +kernel⟩
      nomatch hz) (by decide) (by decide) tw_596 (by decide +kernel) (fun z => ?_)
      refine J_astore (i := 5) C dL_setView_19 (Nat.le_of_ble_eq_true rfl) rfl rfl ?_
      refine J_iconst (v := 2) C (by decide) dL_setView_21 rfl ?_
      exact J_iret C hret (Nat.le_of_ble_eq_true rfl) (Nat.le_of_ble_eq_true rfl) ⟨_, hq, rfl, rfl, rfl⟩ dL_setView_22
  · intro p hq
    refine J_i2l C dL_setView_10 rfl ?_
    refine Jl_out C id dL_setView_11 rfl ?_
    refine J_goto (t := 23) C dL_setView_12 (by decide) ?_
    refine J_iconst (v := 0) C (by decide) dL_setView_23 rfl ?_
    exact J_iret C hret (Nat.le_of_ble_eq_true rfl) (Nat.le_of_ble_eq_true rfl) ⟨_, hq, rfl, rfl, rfl⟩ dL_setView_24
theorem cv_RL_120 : CV RL 120 10 yX11_rowOf cX11_rowOf 5 (some .int) 2 := ⟨⟨tw_1252, tw_82, tw_1255, by decide +kernel, by decide +kernel, by decide +kernel⟩, tw_1254, tw_1253, TX11, 11, rfl⟩
set_option maxRecDepth 100000 in
theorem hL_rowOf {l : Launch} {K : JK} (hl : l.stackTraces = false) {σ μ : Sto} {o : Int64} {l1 : Int32} {l2 : Int32} {Qf : Int32 × Sto × Int64 → Prop} (h : Ok (f11_rowOf σ l1 l2) (hres [(1, 1), (2, 2)] o Qf)) : Con l K yL_rowOf (.codeWith yL_rowOf cL_rowOf 5 (some .int) [(0, 10, 13, 21), (0, 10, 17, 13)] :: TB) 8 2 12 False [.ref (K.2.2 + 0), .int l1, .int l2, .ref (K.2.2 + 2054)] 2055 (jw K σ μ o) (PR Qf (fun p => some (.int p.1)) (fun p => jw K p.2.1 μ p.2.2)) PN := by
  refine Con.enterH (own := RL) hl (by decide) rfl (Nat.le_of_ble_eq_true rfl) ?_
  intro X hX hR C hret htab
  refine J_aload_n (i := 3) (p := 3) C dL_rowOf_0 rfl rfl rfl ?_
  refine J_iconst (v := 0) C (by decide) dL_rowOf_1 rfl ?_
  refine J_aload_n (i := 0) (p := 0) C dL_rowOf_2 rfl rfl rfl ?_
  refine J_iload_n (i := 1) (p := 1) C dL_rowOf_3 rfl rfl rfl ?_
  refine J_iload_n (i := 2) (p := 2) C dL_rowOf_4 rfl rfl rfl ?_
  refine Jc_cV (rest := [.int 0, .ref (K.2.2 + 2054)]) (st9 := fun p => [.int p.1, .int 0, .ref (K.2.2 + 2054)]) C hR hX cv_RL_120 rfl (Nat.le_of_ble_eq_true rfl) (k11_rowOf hl h) rfl rfl (Nat.le_of_ble_eq_true rfl) (Nat.le_of_ble_eq_true rfl) (Nat.le_of_ble_eq_true rfl) ⟨(Nat.le_of_ble_eq_true rfl), (Nat.le_of_ble_eq_true rfl)⟩ dL_rowOf_5 rfl ?_ (fun _ => rfl) ?_
  · rintro E n9 w9 ⟨c, s9, ⟨v, hv, hq⟩, rfl, rfl, rfl⟩
    simp only [List.mem_cons, Prod.mk.injEq, List.not_mem_nil, or_false] at hv
    rcases hv with ⟨rfl, rfl⟩ | ⟨rfl, rfl⟩
    · refine JT_catch C [] ⟨0, 10, 13, 21⟩ [⟨0, 10, 17, 13⟩] htab (fun z hz => nomatch hz) (by decide) (by decide) tw_696 (by decide +kernel) (fun z => ?_)
      refine J_astore (i := 4) C dL_rowOf_13 (Nat.le_of_ble_eq_true rfl) rfl rfl ?_
      refine J_iconst (v := 1) C (by decide) dL_rowOf_15 rfl ?_
      exact J_iret C hret (Nat.le_of_ble_eq_true rfl) (Nat.le_of_ble_eq_true rfl) ⟨_, hq, rfl, rfl, rfl⟩ dL_rowOf_16
    · refine JT_catch C [⟨0, 10, 13, 21⟩] ⟨0, 10, 17, 13⟩ [] htab (fun z hz => by
      rcases List.mem_cons.mp hz with rfl | hz
      · exact Or.inr ⟨by decide, "java/lang/IndexOutOfBoundsException", tw_696, by decide +kernel⟩
      nomatch hz) (by decide) (by decide) tw_596 (by decide +kernel) (fun z => ?_)
      refine J_astore (i := 4) C dL_rowOf_17 (Nat.le_of_ble_eq_true rfl) rfl rfl ?_
      refine J_iconst (v := 2) C (by decide) dL_rowOf_19 rfl ?_
      exact J_iret C hret (Nat.le_of_ble_eq_true rfl) (Nat.le_of_ble_eq_true rfl) ⟨_, hq, rfl, rfl, rfl⟩ dL_rowOf_20
  · intro p hq
    refine J_i2l C dL_rowOf_8 rfl ?_
    refine Jl_out C id dL_rowOf_9 rfl ?_
    refine J_goto (t := 21) C dL_rowOf_10 (by decide) ?_
    refine J_iconst (v := 0) C (by decide) dL_rowOf_21 rfl ?_
    exact J_iret C hret (Nat.le_of_ble_eq_true rfl) (Nat.le_of_ble_eq_true rfl) ⟨_, hq, rfl, rfl, rfl⟩ dL_rowOf_22
theorem cv_RL_123 : CV RL 123 10 yX11_play cX11_play 7 (some .int) 1 := ⟨⟨tw_1260, tw_82, tw_1263, by decide +kernel, by decide +kernel, by decide +kernel⟩, tw_1262, tw_1261, TX11, 11, rfl⟩
set_option maxRecDepth 100000 in
theorem hL_play {l : Launch} {K : JK} (hl : l.stackTraces = false) {σ μ : Sto} {o : Int64} {l1 : Int32} {Qf : Int32 × Sto × Int64 → Prop} (h : Ok (f11_play σ l1) (hres [(2, 1), (3, 2)] o Qf)) : Con l K yL_play (.codeWith yL_play cL_play 4 (some .int) [(0, 9, 12, 13), (0, 9, 15, 15)] :: TB) 7 1 6 False [.ref (K.2.2 + 0), .int l1, .ref (K.2.2 + 2054)] 2055 (jw K σ μ o) (PR Qf (fun p => some (.int p.1)) (fun p => jw K p.2.1 μ p.2.2)) PN := by
  refine Con.enterH (own := RL) hl (by decide) rfl (Nat.le_of_ble_eq_true rfl) ?_
  intro X hX hR C hret htab
  refine J_aload_n (i := 2) (p := 2) C dL_play_0 rfl rfl rfl ?_
  refine J_iconst (v := 0) C (by decide) dL_play_1 rfl ?_
  refine J_aload_n (i := 0) (p := 0) C dL_play_2 rfl rfl rfl ?_
  refine J_iload_n (i := 1) (p := 1) C dL_play_3 rfl rfl rfl ?_
  refine Jc_cV (rest := [.int 0, .ref (K.2.2 + 2054)]) (st9 := fun p => [.int p.1, .int 0, .ref (K.2.2 + 2054)]) C hR hX cv_RL_123 rfl (Nat.le_of_ble_eq_true rfl) (k11_play hl h) rfl rfl (Nat.le_of_ble_eq_true rfl) (Nat.le_of_ble_eq_true rfl) (Nat.le_of_ble_eq_true rfl) ⟨(Nat.le_of_ble_eq_true rfl), (Nat.le_of_ble_eq_true rfl)⟩ dL_play_4 rfl ?_ (fun _ => rfl) ?_
  · rintro E n9 w9 ⟨c, s9, ⟨v, hv, hq⟩, rfl, rfl, rfl⟩
    simp only [List.mem_cons, Prod.mk.injEq, List.not_mem_nil, or_false] at hv
    rcases hv with ⟨rfl, rfl⟩ | ⟨rfl, rfl⟩
    · refine JT_catch C [] ⟨0, 9, 12, 13⟩ [⟨0, 9, 15, 15⟩] htab (fun z hz => nomatch hz) (by decide) (by decide) tw_596 (by decide +kernel) (fun z => ?_)
      refine J_astore_n (i := 3) C dL_play_12 rfl (Nat.le_of_ble_eq_true rfl) rfl rfl ?_
      refine J_iconst (v := 1) C (by decide) dL_play_13 rfl ?_
      exact J_iret C hret (Nat.le_of_ble_eq_true rfl) (Nat.le_of_ble_eq_true rfl) ⟨_, hq, rfl, rfl, rfl⟩ dL_play_14
    · refine JT_catch C [⟨0, 9, 12, 13⟩] ⟨0, 9, 15, 15⟩ [] htab (fun z hz => by
      rcases List.mem_cons.mp hz with rfl | hz
      · exact Or.inr ⟨by decide, "java/lang/IllegalArgumentException", tw_596, by decide +kernel⟩
      nomatch hz) (by decide) (by decide) tw_597 (by decide +kernel) (fun z => ?_)
      refine J_astore_n (i := 3) C dL_play_15 rfl (Nat.le_of_ble_eq_true rfl) rfl rfl ?_
      refine J_iconst (v := 2) C (by decide) dL_play_16 rfl ?_
      exact J_iret C hret (Nat.le_of_ble_eq_true rfl) (Nat.le_of_ble_eq_true rfl) ⟨_, hq, rfl, rfl, rfl⟩ dL_play_17
  · intro p hq
    refine J_i2l C dL_play_7 rfl ?_
    refine Jl_out C id dL_play_8 rfl ?_
    refine J_goto (t := 18) C dL_play_9 (by decide) ?_
    refine J_iconst (v := 0) C (by decide) dL_play_18 rfl ?_
    exact J_iret C hret (Nat.le_of_ble_eq_true rfl) (Nat.le_of_ble_eq_true rfl) ⟨_, hq, rfl, rfl, rfl⟩ dL_play_19
theorem cv_RL_126 : CV RL 126 10 yX11_count cX11_count 2 (some .int) 1 := ⟨⟨tw_1273, tw_82, tw_1276, by decide +kernel, by decide +kernel, by decide +kernel⟩, tw_1275, tw_1274, TX11, 11, rfl⟩
set_option maxRecDepth 100000 in
theorem hL_count {l : Launch} {K : JK} (hl : l.stackTraces = false) {σ μ : Sto} {o : Int64} {l1 : Int32} {Qf : Int32 × Sto × Int64 → Prop} (h : Ok (f11_count σ l1) (hres [(2, 1)] o Qf)) : Con l K yL_count (.codeWith yL_count cL_count 4 (some .int) [(0, 9, 12, 13)] :: TB) 7 1 6 False [.ref (K.2.2 + 0), .int l1, .ref (K.2.2 + 2054)] 2055 (jw K σ μ o) (PR Qf (fun p => some (.int p.1)) (fun p => jw K p.2.1 μ p.2.2)) PN := by
  refine Con.enterH (own := RL) hl (by decide) rfl (Nat.le_of_ble_eq_true rfl) ?_
  intro X hX hR C hret htab
  refine J_aload_n (i := 2) (p := 2) C dL_count_0 rfl rfl rfl ?_
  refine J_iconst (v := 0) C (by decide) dL_count_1 rfl ?_
  refine J_aload_n (i := 0) (p := 0) C dL_count_2 rfl rfl rfl ?_
  refine J_iload_n (i := 1) (p := 1) C dL_count_3 rfl rfl rfl ?_
  refine Jc_cV (rest := [.int 0, .ref (K.2.2 + 2054)]) (st9 := fun p => [.int p.1, .int 0, .ref (K.2.2 + 2054)]) C hR hX cv_RL_126 rfl (Nat.le_of_ble_eq_true rfl) (k11_count hl h) rfl rfl (Nat.le_of_ble_eq_true rfl) (Nat.le_of_ble_eq_true rfl) (Nat.le_of_ble_eq_true rfl) ⟨(Nat.le_of_ble_eq_true rfl), (Nat.le_of_ble_eq_true rfl)⟩ dL_count_4 rfl ?_ (fun _ => rfl) ?_
  · rintro E n9 w9 ⟨c, s9, ⟨v, hv, hq⟩, rfl, rfl, rfl⟩
    simp only [List.mem_cons, Prod.mk.injEq, List.not_mem_nil, or_false] at hv
    rcases hv with ⟨rfl, rfl⟩
    · refine JT_catch C [] ⟨0, 9, 12, 13⟩ [] htab (fun z hz => nomatch hz) (by decide) (by decide) tw_596 (by decide +kernel) (fun z => ?_)
      refine J_astore_n (i := 3) C dL_count_12 rfl (Nat.le_of_ble_eq_true rfl) rfl rfl ?_
      refine J_iconst (v := 1) C (by decide) dL_count_13 rfl ?_
      exact J_iret C hret (Nat.le_of_ble_eq_true rfl) (Nat.le_of_ble_eq_true rfl) ⟨_, hq, rfl, rfl, rfl⟩ dL_count_14
  · intro p hq
    refine J_i2l C dL_count_7 rfl ?_
    refine Jl_out C id dL_count_8 rfl ?_
    refine J_goto (t := 15) C dL_count_9 (by decide) ?_
    refine J_iconst (v := 0) C (by decide) dL_count_15 rfl ?_
    exact J_iret C hret (Nat.le_of_ble_eq_true rfl) (Nat.le_of_ble_eq_true rfl) ⟨_, hq, rfl, rfl, rfl⟩ dL_count_16
theorem cv_RL_129 : CV RL 129 10 yX11_letterAt cX11_letterAt 2 (some .int) 1 := ⟨⟨tw_1289, tw_82, tw_1292, by decide +kernel, by decide +kernel, by decide +kernel⟩, tw_1291, tw_1290, TX11, 11, rfl⟩
set_option maxRecDepth 100000 in
theorem hL_letterAt {l : Launch} {K : JK} (hl : l.stackTraces = false) {σ μ : Sto} {o : Int64} {l1 : Int32} {Qf : Int32 × Sto × Int64 → Prop} (h : Ok (f11_letterAt σ l1) (hres [(1, 1)] o Qf)) : Con l K yL_letterAt (.codeWith yL_letterAt cL_letterAt 4 (some .int) [(0, 9, 12, 21)] :: TB) 7 1 6 False [.ref (K.2.2 + 0), .int l1, .ref (K.2.2 + 2054)] 2055 (jw K σ μ o) (PR Qf (fun p => some (.int p.1)) (fun p => jw K p.2.1 μ p.2.2)) PN := by
  refine Con.enterH (own := RL) hl (by decide) rfl (Nat.le_of_ble_eq_true rfl) ?_
  intro X hX hR C hret htab
  refine J_aload_n (i := 2) (p := 2) C dL_letterAt_0 rfl rfl rfl ?_
  refine J_iconst (v := 0) C (by decide) dL_letterAt_1 rfl ?_
  refine J_aload_n (i := 0) (p := 0) C dL_letterAt_2 rfl rfl rfl ?_
  refine J_iload_n (i := 1) (p := 1) C dL_letterAt_3 rfl rfl rfl ?_
  refine Jc_cV (rest := [.int 0, .ref (K.2.2 + 2054)]) (st9 := fun p => [.int p.1, .int 0, .ref (K.2.2 + 2054)]) C hR hX cv_RL_129 rfl (Nat.le_of_ble_eq_true rfl) (k11_letterAt hl h) rfl rfl (Nat.le_of_ble_eq_true rfl) (Nat.le_of_ble_eq_true rfl) (Nat.le_of_ble_eq_true rfl) ⟨(Nat.le_of_ble_eq_true rfl), (Nat.le_of_ble_eq_true rfl)⟩ dL_letterAt_4 rfl ?_ (fun _ => rfl) ?_
  · rintro E n9 w9 ⟨c, s9, ⟨v, hv, hq⟩, rfl, rfl, rfl⟩
    simp only [List.mem_cons, Prod.mk.injEq, List.not_mem_nil, or_false] at hv
    rcases hv with ⟨rfl, rfl⟩
    · refine JT_catch C [] ⟨0, 9, 12, 21⟩ [] htab (fun z hz => nomatch hz) (by decide) (by decide) tw_696 (by decide +kernel) (fun z => ?_)
      refine J_astore_n (i := 3) C dL_letterAt_12 rfl (Nat.le_of_ble_eq_true rfl) rfl rfl ?_
      refine J_iconst (v := 1) C (by decide) dL_letterAt_13 rfl ?_
      exact J_iret C hret (Nat.le_of_ble_eq_true rfl) (Nat.le_of_ble_eq_true rfl) ⟨_, hq, rfl, rfl, rfl⟩ dL_letterAt_14
  · intro p hq
    refine J_i2l C dL_letterAt_7 rfl ?_
    refine Jl_out C id dL_letterAt_8 rfl ?_
    refine J_goto (t := 15) C dL_letterAt_9 (by decide) ?_
    refine J_iconst (v := 0) C (by decide) dL_letterAt_15 rfl ?_
    exact J_iret C hret (Nat.le_of_ble_eq_true rfl) (Nat.le_of_ble_eq_true rfl) ⟨_, hq, rfl, rfl, rfl⟩ dL_letterAt_16
theorem cv_RL_132 : CV RL 132 10 yX11_lineOf cX11_lineOf 2 (some .int) 1 := ⟨⟨tw_1297, tw_82, tw_1300, by decide +kernel, by decide +kernel, by decide +kernel⟩, tw_1299, tw_1298, TX11, 11, rfl⟩
set_option maxRecDepth 100000 in
theorem hL_lineOf {l : Launch} {K : JK} (hl : l.stackTraces = false) {σ μ : Sto} {o : Int64} {l1 : Int32} {Qf : Int32 × Sto × Int64 → Prop} (h : Ok (f11_lineOf σ l1) (hres [(1, 1)] o Qf)) : Con l K yL_lineOf (.codeWith yL_lineOf cL_lineOf 4 (some .int) [(0, 9, 12, 21)] :: TB) 8 1 6 False [.ref (K.2.2 + 0), .int l1, .ref (K.2.2 + 2054)] 2055 (jw K σ μ o) (PR Qf (fun p => some (.int p.1)) (fun p => jw K p.2.1 μ p.2.2)) PN := by
  refine Con.enterH (own := RL) hl (by decide) rfl (Nat.le_of_ble_eq_true rfl) ?_
  intro X hX hR C hret htab
  refine J_aload_n (i := 2) (p := 2) C dL_lineOf_0 rfl rfl rfl ?_
  refine J_iconst (v := 0) C (by decide) dL_lineOf_1 rfl ?_
  refine J_aload_n (i := 0) (p := 0) C dL_lineOf_2 rfl rfl rfl ?_
  refine J_iload_n (i := 1) (p := 1) C dL_lineOf_3 rfl rfl rfl ?_
  refine Jc_cV (rest := [.int 0, .ref (K.2.2 + 2054)]) (st9 := fun p => [.int p.1, .int 0, .ref (K.2.2 + 2054)]) C hR hX cv_RL_132 rfl (Nat.le_of_ble_eq_true rfl) (k11_lineOf hl h) rfl rfl (Nat.le_of_ble_eq_true rfl) (Nat.le_of_ble_eq_true rfl) (Nat.le_of_ble_eq_true rfl) ⟨(Nat.le_of_ble_eq_true rfl), (Nat.le_of_ble_eq_true rfl)⟩ dL_lineOf_4 rfl ?_ (fun _ => rfl) ?_
  · rintro E n9 w9 ⟨c, s9, ⟨v, hv, hq⟩, rfl, rfl, rfl⟩
    simp only [List.mem_cons, Prod.mk.injEq, List.not_mem_nil, or_false] at hv
    rcases hv with ⟨rfl, rfl⟩
    · refine JT_catch C [] ⟨0, 9, 12, 21⟩ [] htab (fun z hz => nomatch hz) (by decide) (by decide) tw_696 (by decide +kernel) (fun z => ?_)
      refine J_astore_n (i := 3) C dL_lineOf_12 rfl (Nat.le_of_ble_eq_true rfl) rfl rfl ?_
      refine J_iconst (v := 1) C (by decide) dL_lineOf_13 rfl ?_
      exact J_iret C hret (Nat.le_of_ble_eq_true rfl) (Nat.le_of_ble_eq_true rfl) ⟨_, hq, rfl, rfl, rfl⟩ dL_lineOf_14
  · intro p hq
    refine J_i2l C dL_lineOf_7 rfl ?_
    refine Jl_out C id dL_lineOf_8 rfl ?_
    refine J_goto (t := 15) C dL_lineOf_9 (by decide) ?_
    refine J_iconst (v := 0) C (by decide) dL_lineOf_15 rfl ?_
    exact J_iret C hret (Nat.le_of_ble_eq_true rfl) (Nat.le_of_ble_eq_true rfl) ⟨_, hq, rfl, rfl, rfl⟩ dL_lineOf_16
theorem cv_RL_135 : CV RL 135 10 yX11_columnOf cX11_columnOf 2 (some .int) 1 := ⟨⟨tw_1304, tw_82, tw_1307, by decide +kernel, by decide +kernel, by decide +kernel⟩, tw_1306, tw_1305, TX11, 11, rfl⟩
set_option maxRecDepth 100000 in
theorem hL_columnOf {l : Launch} {K : JK} (hl : l.stackTraces = false) {σ μ : Sto} {o : Int64} {l1 : Int32} {Qf : Int32 × Sto × Int64 → Prop} (h : Ok (f11_columnOf σ l1) (hres [(1, 1)] o Qf)) : Con l K yL_columnOf (.codeWith yL_columnOf cL_columnOf 4 (some .int) [(0, 9, 12, 21)] :: TB) 8 1 6 False [.ref (K.2.2 + 0), .int l1, .ref (K.2.2 + 2054)] 2055 (jw K σ μ o) (PR Qf (fun p => some (.int p.1)) (fun p => jw K p.2.1 μ p.2.2)) PN := by
  refine Con.enterH (own := RL) hl (by decide) rfl (Nat.le_of_ble_eq_true rfl) ?_
  intro X hX hR C hret htab
  refine J_aload_n (i := 2) (p := 2) C dL_columnOf_0 rfl rfl rfl ?_
  refine J_iconst (v := 0) C (by decide) dL_columnOf_1 rfl ?_
  refine J_aload_n (i := 0) (p := 0) C dL_columnOf_2 rfl rfl rfl ?_
  refine J_iload_n (i := 1) (p := 1) C dL_columnOf_3 rfl rfl rfl ?_
  refine Jc_cV (rest := [.int 0, .ref (K.2.2 + 2054)]) (st9 := fun p => [.int p.1, .int 0, .ref (K.2.2 + 2054)]) C hR hX cv_RL_135 rfl (Nat.le_of_ble_eq_true rfl) (k11_columnOf hl h) rfl rfl (Nat.le_of_ble_eq_true rfl) (Nat.le_of_ble_eq_true rfl) (Nat.le_of_ble_eq_true rfl) ⟨(Nat.le_of_ble_eq_true rfl), (Nat.le_of_ble_eq_true rfl)⟩ dL_columnOf_4 rfl ?_ (fun _ => rfl) ?_
  · rintro E n9 w9 ⟨c, s9, ⟨v, hv, hq⟩, rfl, rfl, rfl⟩
    simp only [List.mem_cons, Prod.mk.injEq, List.not_mem_nil, or_false] at hv
    rcases hv with ⟨rfl, rfl⟩
    · refine JT_catch C [] ⟨0, 9, 12, 21⟩ [] htab (fun z hz => nomatch hz) (by decide) (by decide) tw_696 (by decide +kernel) (fun z => ?_)
      refine J_astore_n (i := 3) C dL_columnOf_12 rfl (Nat.le_of_ble_eq_true rfl) rfl rfl ?_
      refine J_iconst (v := 1) C (by decide) dL_columnOf_13 rfl ?_
      exact J_iret C hret (Nat.le_of_ble_eq_true rfl) (Nat.le_of_ble_eq_true rfl) ⟨_, hq, rfl, rfl, rfl⟩ dL_columnOf_14
  · intro p hq
    refine J_i2l C dL_columnOf_7 rfl ?_
    refine Jl_out C id dL_columnOf_8 rfl ?_
    refine J_goto (t := 15) C dL_columnOf_9 (by decide) ?_
    refine J_iconst (v := 0) C (by decide) dL_columnOf_15 rfl ?_
    exact J_iret C hret (Nat.le_of_ble_eq_true rfl) (Nat.le_of_ble_eq_true rfl) ⟨_, hq, rfl, rfl, rfl⟩ dL_columnOf_16
theorem cv_RL_138 : CV RL 138 10 yX11_placeAt cX11_placeAt 3 (some .int) 2 := ⟨⟨tw_1312, tw_82, tw_1315, by decide +kernel, by decide +kernel, by decide +kernel⟩, tw_1314, tw_1313, TX11, 11, rfl⟩
set_option maxRecDepth 100000 in
theorem hL_placeAt {l : Launch} {K : JK} (hl : l.stackTraces = false) {σ μ : Sto} {o : Int64} {l1 : Int32} {l2 : Int32} {Qf : Int32 × Sto × Int64 → Prop} (h : Ok (f11_placeAt σ l1 l2) (hres [(1, 1), (2, 2)] o Qf)) : Con l K yL_placeAt (.codeWith yL_placeAt cL_placeAt 5 (some .int) [(0, 10, 13, 21), (0, 10, 17, 13)] :: TB) 8 2 12 False [.ref (K.2.2 + 0), .int l1, .int l2, .ref (K.2.2 + 2054)] 2055 (jw K σ μ o) (PR Qf (fun p => some (.int p.1)) (fun p => jw K p.2.1 μ p.2.2)) PN := by
  refine Con.enterH (own := RL) hl (by decide) rfl (Nat.le_of_ble_eq_true rfl) ?_
  intro X hX hR C hret htab
  refine J_aload_n (i := 3) (p := 3) C dL_placeAt_0 rfl rfl rfl ?_
  refine J_iconst (v := 0) C (by decide) dL_placeAt_1 rfl ?_
  refine J_aload_n (i := 0) (p := 0) C dL_placeAt_2 rfl rfl rfl ?_
  refine J_iload_n (i := 1) (p := 1) C dL_placeAt_3 rfl rfl rfl ?_
  refine J_iload_n (i := 2) (p := 2) C dL_placeAt_4 rfl rfl rfl ?_
  refine Jc_cV (rest := [.int 0, .ref (K.2.2 + 2054)]) (st9 := fun p => [.int p.1, .int 0, .ref (K.2.2 + 2054)]) C hR hX cv_RL_138 rfl (Nat.le_of_ble_eq_true rfl) (k11_placeAt hl h) rfl rfl (Nat.le_of_ble_eq_true rfl) (Nat.le_of_ble_eq_true rfl) (Nat.le_of_ble_eq_true rfl) ⟨(Nat.le_of_ble_eq_true rfl), (Nat.le_of_ble_eq_true rfl)⟩ dL_placeAt_5 rfl ?_ (fun _ => rfl) ?_
  · rintro E n9 w9 ⟨c, s9, ⟨v, hv, hq⟩, rfl, rfl, rfl⟩
    simp only [List.mem_cons, Prod.mk.injEq, List.not_mem_nil, or_false] at hv
    rcases hv with ⟨rfl, rfl⟩ | ⟨rfl, rfl⟩
    · refine JT_catch C [] ⟨0, 10, 13, 21⟩ [⟨0, 10, 17, 13⟩] htab (fun z hz => nomatch hz) (by decide) (by decide) tw_696 (by decide +kernel) (fun z => ?_)
      refine J_astore (i := 4) C dL_placeAt_13 (Nat.le_of_ble_eq_true rfl) rfl rfl ?_
      refine J_iconst (v := 1) C (by decide) dL_placeAt_15 rfl ?_
      exact J_iret C hret (Nat.le_of_ble_eq_true rfl) (Nat.le_of_ble_eq_true rfl) ⟨_, hq, rfl, rfl, rfl⟩ dL_placeAt_16
    · refine JT_catch C [⟨0, 10, 13, 21⟩] ⟨0, 10, 17, 13⟩ [] htab (fun z hz => by
      rcases List.mem_cons.mp hz with rfl | hz
      · exact Or.inr ⟨by decide, "java/lang/IndexOutOfBoundsException", tw_696, by decide +kernel⟩
      nomatch hz) (by decide) (by decide) tw_596 (by decide +kernel) (fun z => ?_)
      refine J_astore (i := 4) C dL_placeAt_17 (Nat.le_of_ble_eq_true rfl) rfl rfl ?_
      refine J_iconst (v := 2) C (by decide) dL_placeAt_19 rfl ?_
      exact J_iret C hret (Nat.le_of_ble_eq_true rfl) (Nat.le_of_ble_eq_true rfl) ⟨_, hq, rfl, rfl, rfl⟩ dL_placeAt_20
  · intro p hq
    refine J_i2l C dL_placeAt_8 rfl ?_
    refine Jl_out C id dL_placeAt_9 rfl ?_
    refine J_goto (t := 21) C dL_placeAt_10 (by decide) ?_
    refine J_iconst (v := 0) C (by decide) dL_placeAt_21 rfl ?_
    exact J_iret C hret (Nat.le_of_ble_eq_true rfl) (Nat.le_of_ble_eq_true rfl) ⟨_, hq, rfl, rfl, rfl⟩ dL_placeAt_22
theorem cv_RL_141 : CV RL 141 10 yX11_setTab cX11_setTab 3 (some .int) 1 := ⟨⟨tw_1321, tw_82, tw_1324, by decide +kernel, by decide +kernel, by decide +kernel⟩, tw_1323, tw_1322, TX11, 11, rfl⟩
set_option maxRecDepth 100000 in
theorem hL_setTab {l : Launch} {K : JK} (hl : l.stackTraces = false) {σ μ : Sto} {o : Int64} {l1 : Int32} {Qf : Int32 × Sto × Int64 → Prop} (h : Ok (f11_setTab σ l1) (hres [(2, 1)] o Qf)) : Con l K yL_setTab (.codeWith yL_setTab cL_setTab 4 (some .int) [(0, 9, 12, 13)] :: TB) 7 1 6 False [.ref (K.2.2 + 0), .int l1, .ref (K.2.2 + 2054)] 2055 (jw K σ μ o) (PR Qf (fun p => some (.int p.1)) (fun p => jw K p.2.1 μ p.2.2)) PN := by
  refine Con.enterH (own := RL) hl (by decide) rfl (Nat.le_of_ble_eq_true rfl) ?_
  intro X hX hR C hret htab
  refine J_aload_n (i := 2) (p := 2) C dL_setTab_0 rfl rfl rfl ?_
  refine J_iconst (v := 0) C (by decide) dL_setTab_1 rfl ?_
  refine J_aload_n (i := 0) (p := 0) C dL_setTab_2 rfl rfl rfl ?_
  refine J_iload_n (i := 1) (p := 1) C dL_setTab_3 rfl rfl rfl ?_
  refine Jc_cV (rest := [.int 0, .ref (K.2.2 + 2054)]) (st9 := fun p => [.int p.1, .int 0, .ref (K.2.2 + 2054)]) C hR hX cv_RL_141 rfl (Nat.le_of_ble_eq_true rfl) (k11_setTab hl h) rfl rfl (Nat.le_of_ble_eq_true rfl) (Nat.le_of_ble_eq_true rfl) (Nat.le_of_ble_eq_true rfl) ⟨(Nat.le_of_ble_eq_true rfl), (Nat.le_of_ble_eq_true rfl)⟩ dL_setTab_4 rfl ?_ (fun _ => rfl) ?_
  · rintro E n9 w9 ⟨c, s9, ⟨v, hv, hq⟩, rfl, rfl, rfl⟩
    simp only [List.mem_cons, Prod.mk.injEq, List.not_mem_nil, or_false] at hv
    rcases hv with ⟨rfl, rfl⟩
    · refine JT_catch C [] ⟨0, 9, 12, 13⟩ [] htab (fun z hz => nomatch hz) (by decide) (by decide) tw_596 (by decide +kernel) (fun z => ?_)
      refine J_astore_n (i := 3) C dL_setTab_12 rfl (Nat.le_of_ble_eq_true rfl) rfl rfl ?_
      refine J_iconst (v := 1) C (by decide) dL_setTab_13 rfl ?_
      exact J_iret C hret (Nat.le_of_ble_eq_true rfl) (Nat.le_of_ble_eq_true rfl) ⟨_, hq, rfl, rfl, rfl⟩ dL_setTab_14
  · intro p hq
    refine J_i2l C dL_setTab_7 rfl ?_
    refine Jl_out C id dL_setTab_8 rfl ?_
    refine J_goto (t := 15) C dL_setTab_9 (by decide) ?_
    refine J_iconst (v := 0) C (by decide) dL_setTab_15 rfl ?_
    exact J_iret C hret (Nat.le_of_ble_eq_true rfl) (Nat.le_of_ble_eq_true rfl) ⟨_, hq, rfl, rfl, rfl⟩ dL_setTab_16
theorem tw_1232 : Cond.methodLink "CursorroomLaw" 113 ⟨"Cursorroom", "isHidden", "(I)Z"⟩ ∈ TB := tbN 1232 (by decide +kernel) (by decide +kernel)
theorem tw_1233 : Cond.instanceMethod ⟨"Cursorroom", "isHidden", "(I)Z"⟩ ∈ TB := tbN 1233 (by decide +kernel) (by decide +kernel)
theorem tw_1234 : Cond.selects "Cursorroom" ⟨"Cursorroom", "isHidden", "(I)Z"⟩ ⟨"Cursorroom", "isHidden", "(I)Z"⟩ ∈ TB := tbN 1234 (by decide +kernel) (by decide +kernel)
theorem tw_1235 : Cond.code yX11_isHidden cX11_isHidden 2 (some .boolean) ∈ TB := tbN 1235 (by decide +kernel) (by decide +kernel)
theorem cv_RL_113 : CV RL 113 10 yX11_isHidden cX11_isHidden 2 (some .boolean) 1 := ⟨⟨tw_1232, tw_82, tw_1235, by decide +kernel, by decide +kernel, by decide +kernel⟩, tw_1234, tw_1233, TX11, 11, rfl⟩
def hresZ (tab : List (Nat × Int32)) (o : Int64) (Qf : Int32 × Sto × Int64 → Prop) : (Int32 × Sto) ⊕ (Nat × Sto) → Prop
  | .inl p => Qf (0, p.2, if p.1 = 0 then 0 else 1)
  | .inr c => ∃ v, (c.1, v) ∈ tab ∧ Qf (v, c.2, o)
set_option maxRecDepth 100000 in
theorem hL_isHidden {l : Launch} {K : JK} (hl : l.stackTraces = false) {σ μ : Sto} {o : Int64} {l1 : Int32} {Qf : Int32 × Sto × Int64 → Prop} (h : Ok (f11_isHidden σ l1) (hresZ [(1, 1)] o Qf)) : Con l K yL_isHidden (.codeWith yL_isHidden cL_isHidden 4 (some .int) [(0, 16, 19, 21)] :: TB) 8 1 6 False [.ref (K.2.2 + 0), .int l1, .ref (K.2.2 + 2054)] 2055 (jw K σ μ o) (PR Qf (fun p => some (.int p.1)) (fun p => jw K p.2.1 μ p.2.2)) PN := by
  refine Con.enterH (own := RL) hl (by decide) rfl (Nat.le_of_ble_eq_true rfl) ?_
  intro X hX hR C hret htab
  refine J_aload_n (i := 2) (p := 2) C dL_isHidden_0 rfl rfl rfl ?_
  refine J_iconst (v := 0) C (by decide) dL_isHidden_1 rfl ?_
  refine J_aload_n (i := 0) (p := 0) C dL_isHidden_2 rfl rfl rfl ?_
  refine J_iload_n (i := 1) (p := 1) C dL_isHidden_3 rfl rfl rfl ?_
  refine Jc_cV (rest := [.int 0, .ref (K.2.2 + 2054)]) (st9 := fun p => [.int p.1, .int 0, .ref (K.2.2 + 2054)]) C hR hX cv_RL_113 rfl (Nat.le_of_ble_eq_true rfl) (k11_isHidden hl h) rfl rfl (Nat.le_of_ble_eq_true rfl) (Nat.le_of_ble_eq_true rfl) (Nat.le_of_ble_eq_true rfl) ⟨(Nat.le_of_ble_eq_true rfl), (Nat.le_of_ble_eq_true rfl)⟩ dL_isHidden_4 rfl ?_ (fun _ => rfl) ?_
  · rintro E n9 w9 ⟨c, s9, ⟨v, hv, hq⟩, rfl, rfl, rfl⟩
    simp only [List.mem_cons, Prod.mk.injEq, List.not_mem_nil, or_false] at hv
    rcases hv with ⟨rfl, rfl⟩
    refine JT_catch C [] ⟨0, 16, 19, 21⟩ [] htab (fun z hz => nomatch hz) (by decide) (by decide) tw_696 (by decide +kernel) (fun z => ?_)
    refine J_astore_n (i := 3) C dL_isHidden_19 rfl (Nat.le_of_ble_eq_true rfl) rfl rfl ?_
    refine J_iconst (v := 1) C (by decide) dL_isHidden_20 rfl ?_
    exact J_iret C hret (Nat.le_of_ble_eq_true rfl) (Nat.le_of_ble_eq_true rfl) ⟨_, hq, rfl, rfl, rfl⟩ dL_isHidden_21
  · intro p hq
    refine J_if_eq (t := 14) C dL_isHidden_7 (by decide) rfl (fun e => ?_) (fun e => ?_)
    · have hq : Qf (0, p.2, if p.1 = 0 then 0 else 1) := hq
      rw [if_pos e] at hq
      refine J_lconst (v := 0) C (by decide) dL_isHidden_14 rfl ?_
      refine Jl_out C id dL_isHidden_15 rfl ?_
      refine J_goto (t := 22) C dL_isHidden_16 (by decide) ?_
      refine J_iconst (v := 0) C (by decide) dL_isHidden_22 rfl ?_
      exact J_iret C hret (Nat.le_of_ble_eq_true rfl) (Nat.le_of_ble_eq_true rfl) ⟨_, hq, rfl, rfl, rfl⟩ dL_isHidden_23
    · have hq : Qf (0, p.2, if p.1 = 0 then 0 else 1) := hq
      rw [if_neg e] at hq
      refine J_lconst (v := 1) C (by decide) dL_isHidden_10 rfl ?_
      refine J_goto (t := 15) C dL_isHidden_11 (by decide) ?_
      refine Jl_out C id dL_isHidden_15 rfl ?_
      refine J_goto (t := 22) C dL_isHidden_16 (by decide) ?_
      refine J_iconst (v := 0) C (by decide) dL_isHidden_22 rfl ?_
      exact J_iret C hret (Nat.le_of_ble_eq_true rfl) (Nat.le_of_ble_eq_true rfl) ⟨_, hq, rfl, rfl, rfl⟩ dL_isHidden_23
