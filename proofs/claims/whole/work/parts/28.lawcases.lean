theorem lg_cmp_self {x : Int64} : lg_cmp x x = 0 := by simp [lg_cmp]
theorem tw_81 : Cond.initialized "CursorroomLaw" ∈ TB := tbN 81 (by decide +kernel) (by decide +kernel)
theorem tw_593 : Cond.methodLink "CursorroomLaw" 150 yL_feed ∈ TB := tbN 593 (by decide +kernel) (by decide +kernel)
theorem tw_594 : Cond.static yL_feed ∈ TB := tbN 594 (by decide +kernel) (by decide +kernel)
theorem tw_595 : Cond.codeWith yL_feed cL_feed 5 (some .int) [(0, 9, 12, 13), (0, 9, 16, 15)] ∈ TB := tbN 595 (by decide +kernel) (by decide +kernel)
theorem tw_693 : Cond.methodLink "CursorroomLaw" 163 yL_copy ∈ TB := tbN 693 (by decide +kernel) (by decide +kernel)
theorem tw_694 : Cond.static yL_copy ∈ TB := tbN 694 (by decide +kernel) (by decide +kernel)
theorem tw_695 : Cond.codeWith yL_copy cL_copy 5 (some .int) [(0, 10, 13, 21), (0, 10, 17, 13)] ∈ TB := tbN 695 (by decide +kernel) (by decide +kernel)
theorem tw_735 : Cond.methodLink "CursorroomLaw" 167 yL_copyBlock ∈ TB := tbN 735 (by decide +kernel) (by decide +kernel)
theorem tw_736 : Cond.static yL_copyBlock ∈ TB := tbN 736 (by decide +kernel) (by decide +kernel)
theorem tw_737 : Cond.codeWith yL_copyBlock cL_copyBlock 7 (some .int) [(0, 14, 17, 21), (0, 14, 21, 13)] ∈ TB := tbN 737 (by decide +kernel) (by decide +kernel)
theorem tw_755 : Cond.methodLink "CursorroomLaw" 171 yL_type ∈ TB := tbN 755 (by decide +kernel) (by decide +kernel)
theorem tw_756 : Cond.static yL_type ∈ TB := tbN 756 (by decide +kernel) (by decide +kernel)
theorem tw_757 : Cond.codeWith yL_type cL_type 3 (some .int) [(0, 8, 11, 15)] ∈ TB := tbN 757 (by decide +kernel) (by decide +kernel)
theorem tw_851 : Cond.methodLink "CursorroomLaw" 175 yL_erase ∈ TB := tbN 851 (by decide +kernel) (by decide +kernel)
theorem tw_852 : Cond.static yL_erase ∈ TB := tbN 852 (by decide +kernel) (by decide +kernel)
theorem tw_853 : Cond.codeWith yL_erase cL_erase 4 (some .int) [(0, 9, 12, 13), (0, 9, 15, 15)] ∈ TB := tbN 853 (by decide +kernel) (by decide +kernel)
theorem tw_868 : Cond.methodLink "CursorroomLaw" 179 yL_replace ∈ TB := tbN 868 (by decide +kernel) (by decide +kernel)
theorem tw_869 : Cond.static yL_replace ∈ TB := tbN 869 (by decide +kernel) (by decide +kernel)
theorem tw_870 : Cond.codeWith yL_replace cL_replace 5 (some .int) [(0, 10, 13, 21), (0, 10, 17, 13), (0, 10, 21, 15)] ∈ TB := tbN 870 (by decide +kernel) (by decide +kernel)
theorem tw_875 : Cond.methodLink "CursorroomLaw" 182 yL_cut ∈ TB := tbN 875 (by decide +kernel) (by decide +kernel)
theorem tw_876 : Cond.static yL_cut ∈ TB := tbN 876 (by decide +kernel) (by decide +kernel)
theorem tw_877 : Cond.codeWith yL_cut cL_cut 5 (some .int) [(0, 10, 13, 21), (0, 10, 17, 13), (0, 10, 21, 15)] ∈ TB := tbN 877 (by decide +kernel) (by decide +kernel)
theorem tw_882 : Cond.methodLink "CursorroomLaw" 185 yL_paste ∈ TB := tbN 882 (by decide +kernel) (by decide +kernel)
theorem tw_883 : Cond.static yL_paste ∈ TB := tbN 883 (by decide +kernel) (by decide +kernel)
theorem tw_884 : Cond.codeWith yL_paste cL_paste 3 (some .int) [(0, 8, 11, 15)] ∈ TB := tbN 884 (by decide +kernel) (by decide +kernel)
theorem tw_913 : Cond.methodLink "CursorroomLaw" 188 yL_indent ∈ TB := tbN 913 (by decide +kernel) (by decide +kernel)
theorem tw_914 : Cond.static yL_indent ∈ TB := tbN 914 (by decide +kernel) (by decide +kernel)
theorem tw_915 : Cond.codeWith yL_indent cL_indent 6 (some .int) [(0, 12, 15, 21), (0, 12, 19, 13), (0, 12, 23, 15)] ∈ TB := tbN 915 (by decide +kernel) (by decide +kernel)
theorem tw_934 : Cond.methodLink "CursorroomLaw" 192 yL_wrap ∈ TB := tbN 934 (by decide +kernel) (by decide +kernel)
theorem tw_935 : Cond.static yL_wrap ∈ TB := tbN 935 (by decide +kernel) (by decide +kernel)
theorem tw_936 : Cond.codeWith yL_wrap cL_wrap 5 (some .int) [(0, 10, 13, 21), (0, 10, 17, 13), (0, 10, 21, 15)] ∈ TB := tbN 936 (by decide +kernel) (by decide +kernel)
theorem tw_946 : Cond.methodLink "CursorroomLaw" 195 yL_joinLines ∈ TB := tbN 946 (by decide +kernel) (by decide +kernel)
theorem tw_947 : Cond.static yL_joinLines ∈ TB := tbN 947 (by decide +kernel) (by decide +kernel)
theorem tw_948 : Cond.codeWith yL_joinLines cL_joinLines 5 (some .int) [(0, 10, 13, 21), (0, 10, 17, 13), (0, 10, 21, 15)] ∈ TB := tbN 948 (by decide +kernel) (by decide +kernel)
theorem tw_953 : Cond.methodLink "CursorroomLaw" 198 yL_replaceNext ∈ TB := tbN 953 (by decide +kernel) (by decide +kernel)
theorem tw_954 : Cond.static yL_replaceNext ∈ TB := tbN 954 (by decide +kernel) (by decide +kernel)
theorem tw_955 : Cond.codeWith yL_replaceNext cL_replaceNext 3 (some .int) [(0, 8, 11, 15)] ∈ TB := tbN 955 (by decide +kernel) (by decide +kernel)
theorem tw_981 : Cond.methodLink "CursorroomLaw" 201 yL_replaceAll ∈ TB := tbN 981 (by decide +kernel) (by decide +kernel)
theorem tw_982 : Cond.static yL_replaceAll ∈ TB := tbN 982 (by decide +kernel) (by decide +kernel)
theorem tw_983 : Cond.codeWith yL_replaceAll cL_replaceAll 3 (some .int) [(0, 8, 11, 15)] ∈ TB := tbN 983 (by decide +kernel) (by decide +kernel)
theorem tw_988 : Cond.methodLink "CursorroomLaw" 204 yL_undo ∈ TB := tbN 988 (by decide +kernel) (by decide +kernel)
theorem tw_989 : Cond.static yL_undo ∈ TB := tbN 989 (by decide +kernel) (by decide +kernel)
theorem tw_990 : Cond.codeWith yL_undo cL_undo 4 (some .int) [(0, 9, 12, 13)] ∈ TB := tbN 990 (by decide +kernel) (by decide +kernel)
theorem tw_995 : Cond.methodLink "CursorroomLaw" 207 yL_redo ∈ TB := tbN 995 (by decide +kernel) (by decide +kernel)
theorem tw_996 : Cond.static yL_redo ∈ TB := tbN 996 (by decide +kernel) (by decide +kernel)
theorem tw_997 : Cond.codeWith yL_redo cL_redo 4 (some .int) [(0, 9, 12, 13)] ∈ TB := tbN 997 (by decide +kernel) (by decide +kernel)
theorem tw_1002 : Cond.methodLink "CursorroomLaw" 210 yL_branch ∈ TB := tbN 1002 (by decide +kernel) (by decide +kernel)
theorem tw_1003 : Cond.static yL_branch ∈ TB := tbN 1003 (by decide +kernel) (by decide +kernel)
theorem tw_1004 : Cond.codeWith yL_branch cL_branch 4 (some .int) [(0, 9, 12, 69)] ∈ TB := tbN 1004 (by decide +kernel) (by decide +kernel)
theorem tw_1034 : Cond.methodLink "CursorroomLaw" 218 yL_acts ∈ TB := tbN 1034 (by decide +kernel) (by decide +kernel)
theorem tw_1035 : Cond.static yL_acts ∈ TB := tbN 1035 (by decide +kernel) (by decide +kernel)
theorem tw_1036 : Cond.codeWith yL_acts cL_acts 4 (some .int) [(0, 9, 12, 13)] ∈ TB := tbN 1036 (by decide +kernel) (by decide +kernel)
theorem tw_1050 : Cond.methodLink "CursorroomLaw" 221 yL_setCursor ∈ TB := tbN 1050 (by decide +kernel) (by decide +kernel)
theorem tw_1051 : Cond.static yL_setCursor ∈ TB := tbN 1051 (by decide +kernel) (by decide +kernel)
theorem tw_1052 : Cond.codeWith yL_setCursor cL_setCursor 4 (some .int) [(0, 9, 12, 21)] ∈ TB := tbN 1052 (by decide +kernel) (by decide +kernel)
theorem tw_1057 : Cond.methodLink "CursorroomLaw" 224 yL_addCursor ∈ TB := tbN 1057 (by decide +kernel) (by decide +kernel)
theorem tw_1058 : Cond.static yL_addCursor ∈ TB := tbN 1058 (by decide +kernel) (by decide +kernel)
theorem tw_1059 : Cond.codeWith yL_addCursor cL_addCursor 4 (some .int) [(0, 9, 12, 21), (0, 9, 15, 15)] ∈ TB := tbN 1059 (by decide +kernel) (by decide +kernel)
theorem tw_1070 : Cond.methodLink "CursorroomLaw" 227 yL_moveCursors ∈ TB := tbN 1070 (by decide +kernel) (by decide +kernel)
theorem tw_1071 : Cond.static yL_moveCursors ∈ TB := tbN 1071 (by decide +kernel) (by decide +kernel)
theorem tw_1072 : Cond.codeWith yL_moveCursors cL_moveCursors 5 (some .int) [(0, 10, 13, 13)] ∈ TB := tbN 1072 (by decide +kernel) (by decide +kernel)
theorem tw_1130 : Cond.methodLink "CursorroomLaw" 230 yL_cursorAt ∈ TB := tbN 1130 (by decide +kernel) (by decide +kernel)
theorem tw_1131 : Cond.static yL_cursorAt ∈ TB := tbN 1131 (by decide +kernel) (by decide +kernel)
theorem tw_1132 : Cond.codeWith yL_cursorAt cL_cursorAt 4 (some .int) [(0, 9, 12, 21)] ∈ TB := tbN 1132 (by decide +kernel) (by decide +kernel)
theorem tw_1150 : Cond.methodLink "CursorroomLaw" 237 yL_dropMark ∈ TB := tbN 1150 (by decide +kernel) (by decide +kernel)
theorem tw_1151 : Cond.static yL_dropMark ∈ TB := tbN 1151 (by decide +kernel) (by decide +kernel)
theorem tw_1152 : Cond.codeWith yL_dropMark cL_dropMark 4 (some .int) [(0, 9, 12, 21)] ∈ TB := tbN 1152 (by decide +kernel) (by decide +kernel)
theorem tw_1157 : Cond.methodLink "CursorroomLaw" 240 yL_markAt ∈ TB := tbN 1157 (by decide +kernel) (by decide +kernel)
theorem tw_1158 : Cond.static yL_markAt ∈ TB := tbN 1158 (by decide +kernel) (by decide +kernel)
theorem tw_1159 : Cond.codeWith yL_markAt cL_markAt 4 (some .int) [(0, 9, 12, 21)] ∈ TB := tbN 1159 (by decide +kernel) (by decide +kernel)
theorem tw_1204 : Cond.methodLink "CursorroomLaw" 254 yL_fold ∈ TB := tbN 1204 (by decide +kernel) (by decide +kernel)
theorem tw_1205 : Cond.static yL_fold ∈ TB := tbN 1205 (by decide +kernel) (by decide +kernel)
theorem tw_1206 : Cond.codeWith yL_fold cL_fold 5 (some .int) [(0, 10, 13, 21), (0, 10, 17, 13), (0, 10, 21, 15)] ∈ TB := tbN 1206 (by decide +kernel) (by decide +kernel)
theorem tw_1221 : Cond.methodLink "CursorroomLaw" 257 yL_unfold ∈ TB := tbN 1221 (by decide +kernel) (by decide +kernel)
theorem tw_1222 : Cond.static yL_unfold ∈ TB := tbN 1222 (by decide +kernel) (by decide +kernel)
theorem tw_1223 : Cond.codeWith yL_unfold cL_unfold 4 (some .int) [(0, 9, 12, 21)] ∈ TB := tbN 1223 (by decide +kernel) (by decide +kernel)
theorem tw_1236 : Cond.methodLink "CursorroomLaw" 263 yL_setView ∈ TB := tbN 1236 (by decide +kernel) (by decide +kernel)
theorem tw_1237 : Cond.static yL_setView ∈ TB := tbN 1237 (by decide +kernel) (by decide +kernel)
theorem tw_1238 : Cond.codeWith yL_setView cL_setView 6 (some .int) [(0, 12, 15, 21), (0, 12, 19, 13)] ∈ TB := tbN 1238 (by decide +kernel) (by decide +kernel)
theorem tw_1249 : Cond.methodLink "CursorroomLaw" 266 yL_rowOf ∈ TB := tbN 1249 (by decide +kernel) (by decide +kernel)
theorem tw_1250 : Cond.static yL_rowOf ∈ TB := tbN 1250 (by decide +kernel) (by decide +kernel)
theorem tw_1251 : Cond.codeWith yL_rowOf cL_rowOf 5 (some .int) [(0, 10, 13, 21), (0, 10, 17, 13)] ∈ TB := tbN 1251 (by decide +kernel) (by decide +kernel)
theorem tw_1257 : Cond.methodLink "CursorroomLaw" 273 yL_play ∈ TB := tbN 1257 (by decide +kernel) (by decide +kernel)
theorem tw_1258 : Cond.static yL_play ∈ TB := tbN 1258 (by decide +kernel) (by decide +kernel)
theorem tw_1259 : Cond.codeWith yL_play cL_play 4 (some .int) [(0, 9, 12, 13), (0, 9, 15, 15)] ∈ TB := tbN 1259 (by decide +kernel) (by decide +kernel)
theorem tw_1270 : Cond.methodLink "CursorroomLaw" 276 yL_count ∈ TB := tbN 1270 (by decide +kernel) (by decide +kernel)
theorem tw_1271 : Cond.static yL_count ∈ TB := tbN 1271 (by decide +kernel) (by decide +kernel)
theorem tw_1272 : Cond.codeWith yL_count cL_count 4 (some .int) [(0, 9, 12, 13)] ∈ TB := tbN 1272 (by decide +kernel) (by decide +kernel)
theorem tw_1286 : Cond.methodLink "CursorroomLaw" 279 yL_letterAt ∈ TB := tbN 1286 (by decide +kernel) (by decide +kernel)
theorem tw_1287 : Cond.static yL_letterAt ∈ TB := tbN 1287 (by decide +kernel) (by decide +kernel)
theorem tw_1288 : Cond.codeWith yL_letterAt cL_letterAt 4 (some .int) [(0, 9, 12, 21)] ∈ TB := tbN 1288 (by decide +kernel) (by decide +kernel)
theorem tw_1294 : Cond.methodLink "CursorroomLaw" 282 yL_lineOf ∈ TB := tbN 1294 (by decide +kernel) (by decide +kernel)
theorem tw_1295 : Cond.static yL_lineOf ∈ TB := tbN 1295 (by decide +kernel) (by decide +kernel)
theorem tw_1296 : Cond.codeWith yL_lineOf cL_lineOf 4 (some .int) [(0, 9, 12, 21)] ∈ TB := tbN 1296 (by decide +kernel) (by decide +kernel)
theorem tw_1301 : Cond.methodLink "CursorroomLaw" 285 yL_columnOf ∈ TB := tbN 1301 (by decide +kernel) (by decide +kernel)
theorem tw_1302 : Cond.static yL_columnOf ∈ TB := tbN 1302 (by decide +kernel) (by decide +kernel)
theorem tw_1303 : Cond.codeWith yL_columnOf cL_columnOf 4 (some .int) [(0, 9, 12, 21)] ∈ TB := tbN 1303 (by decide +kernel) (by decide +kernel)
theorem tw_1309 : Cond.methodLink "CursorroomLaw" 288 yL_placeAt ∈ TB := tbN 1309 (by decide +kernel) (by decide +kernel)
theorem tw_1310 : Cond.static yL_placeAt ∈ TB := tbN 1310 (by decide +kernel) (by decide +kernel)
theorem tw_1311 : Cond.codeWith yL_placeAt cL_placeAt 5 (some .int) [(0, 10, 13, 21), (0, 10, 17, 13)] ∈ TB := tbN 1311 (by decide +kernel) (by decide +kernel)
theorem tw_1318 : Cond.methodLink "CursorroomLaw" 291 yL_setTab ∈ TB := tbN 1318 (by decide +kernel) (by decide +kernel)
theorem tw_1319 : Cond.static yL_setTab ∈ TB := tbN 1319 (by decide +kernel) (by decide +kernel)
theorem tw_1320 : Cond.codeWith yL_setTab cL_setTab 4 (some .int) [(0, 9, 12, 13)] ∈ TB := tbN 1320 (by decide +kernel) (by decide +kernel)
theorem tw_1502 : Cond.methodLink "CursorroomLaw" 156 ⟨"CursorroomModel", "thrown", "()I"⟩ ∈ TB := tbN 1502 (by decide +kernel) (by decide +kernel)
theorem tw_1503 : Cond.instanceMethod ⟨"CursorroomModel", "thrown", "()I"⟩ ∈ TB := tbN 1503 (by decide +kernel) (by decide +kernel)
theorem tw_1504 : Cond.selects "CursorroomModel" ⟨"CursorroomModel", "thrown", "()I"⟩ ⟨"CursorroomModel", "thrown", "()I"⟩ ∈ TB := tbN 1504 (by decide +kernel) (by decide +kernel)
theorem tw_1505 : Cond.code yX12_thrown cX12_thrown 1 (some .int) ∈ TB := tbN 1505 (by decide +kernel) (by decide +kernel)
theorem tw_1506 : Cond.methodLink "CursorroomLaw" 155 ⟨"CursorroomModel", "feed", "(J)I"⟩ ∈ TB := tbN 1506 (by decide +kernel) (by decide +kernel)
theorem tw_1507 : Cond.instanceMethod ⟨"CursorroomModel", "feed", "(J)I"⟩ ∈ TB := tbN 1507 (by decide +kernel) (by decide +kernel)
theorem tw_1508 : Cond.selects "CursorroomModel" ⟨"CursorroomModel", "feed", "(J)I"⟩ ⟨"CursorroomModel", "feed", "(J)I"⟩ ∈ TB := tbN 1508 (by decide +kernel) (by decide +kernel)
theorem tw_1509 : Cond.code yX12_feed cX12_feed 7 (some .int) ∈ TB := tbN 1509 (by decide +kernel) (by decide +kernel)
theorem tw_1529 : Cond.methodLink "CursorroomLaw" 166 ⟨"CursorroomModel", "copy", "(II)I"⟩ ∈ TB := tbN 1529 (by decide +kernel) (by decide +kernel)
theorem tw_1530 : Cond.instanceMethod ⟨"CursorroomModel", "copy", "(II)I"⟩ ∈ TB := tbN 1530 (by decide +kernel) (by decide +kernel)
theorem tw_1531 : Cond.selects "CursorroomModel" ⟨"CursorroomModel", "copy", "(II)I"⟩ ⟨"CursorroomModel", "copy", "(II)I"⟩ ∈ TB := tbN 1531 (by decide +kernel) (by decide +kernel)
theorem tw_1532 : Cond.code yX12_copy cX12_copy 3 (some .int) ∈ TB := tbN 1532 (by decide +kernel) (by decide +kernel)
theorem tw_1541 : Cond.methodLink "CursorroomLaw" 170 ⟨"CursorroomModel", "copyBlock", "(IIII)I"⟩ ∈ TB := tbN 1541 (by decide +kernel) (by decide +kernel)
theorem tw_1542 : Cond.instanceMethod ⟨"CursorroomModel", "copyBlock", "(IIII)I"⟩ ∈ TB := tbN 1542 (by decide +kernel) (by decide +kernel)
theorem tw_1543 : Cond.selects "CursorroomModel" ⟨"CursorroomModel", "copyBlock", "(IIII)I"⟩ ⟨"CursorroomModel", "copyBlock", "(IIII)I"⟩ ∈ TB := tbN 1543 (by decide +kernel) (by decide +kernel)
theorem tw_1544 : Cond.code yX12_copyBlock cX12_copyBlock 11 (some .int) ∈ TB := tbN 1544 (by decide +kernel) (by decide +kernel)
theorem tw_1561 : Cond.methodLink "CursorroomLaw" 174 ⟨"CursorroomModel", "type", "()I"⟩ ∈ TB := tbN 1561 (by decide +kernel) (by decide +kernel)
theorem tw_1562 : Cond.instanceMethod ⟨"CursorroomModel", "type", "()I"⟩ ∈ TB := tbN 1562 (by decide +kernel) (by decide +kernel)
theorem tw_1563 : Cond.selects "CursorroomModel" ⟨"CursorroomModel", "type", "()I"⟩ ⟨"CursorroomModel", "type", "()I"⟩ ∈ TB := tbN 1563 (by decide +kernel) (by decide +kernel)
theorem tw_1564 : Cond.code yX12_type cX12_type 1 (some .int) ∈ TB := tbN 1564 (by decide +kernel) (by decide +kernel)
theorem tw_1627 : Cond.methodLink "CursorroomLaw" 178 ⟨"CursorroomModel", "erase", "(I)I"⟩ ∈ TB := tbN 1627 (by decide +kernel) (by decide +kernel)
theorem tw_1628 : Cond.instanceMethod ⟨"CursorroomModel", "erase", "(I)I"⟩ ∈ TB := tbN 1628 (by decide +kernel) (by decide +kernel)
theorem tw_1629 : Cond.selects "CursorroomModel" ⟨"CursorroomModel", "erase", "(I)I"⟩ ⟨"CursorroomModel", "erase", "(I)I"⟩ ∈ TB := tbN 1629 (by decide +kernel) (by decide +kernel)
theorem tw_1630 : Cond.code yX12_erase cX12_erase 2 (some .int) ∈ TB := tbN 1630 (by decide +kernel) (by decide +kernel)
theorem tw_1641 : Cond.methodLink "CursorroomLaw" 181 ⟨"CursorroomModel", "replace", "(II)I"⟩ ∈ TB := tbN 1641 (by decide +kernel) (by decide +kernel)
theorem tw_1642 : Cond.instanceMethod ⟨"CursorroomModel", "replace", "(II)I"⟩ ∈ TB := tbN 1642 (by decide +kernel) (by decide +kernel)
theorem tw_1643 : Cond.selects "CursorroomModel" ⟨"CursorroomModel", "replace", "(II)I"⟩ ⟨"CursorroomModel", "replace", "(II)I"⟩ ∈ TB := tbN 1643 (by decide +kernel) (by decide +kernel)
theorem tw_1644 : Cond.code yX12_replace cX12_replace 3 (some .int) ∈ TB := tbN 1644 (by decide +kernel) (by decide +kernel)
theorem tw_1645 : Cond.methodLink "CursorroomLaw" 184 ⟨"CursorroomModel", "cut", "(II)I"⟩ ∈ TB := tbN 1645 (by decide +kernel) (by decide +kernel)
theorem tw_1646 : Cond.instanceMethod ⟨"CursorroomModel", "cut", "(II)I"⟩ ∈ TB := tbN 1646 (by decide +kernel) (by decide +kernel)
theorem tw_1647 : Cond.selects "CursorroomModel" ⟨"CursorroomModel", "cut", "(II)I"⟩ ⟨"CursorroomModel", "cut", "(II)I"⟩ ∈ TB := tbN 1647 (by decide +kernel) (by decide +kernel)
theorem tw_1648 : Cond.code yX12_cut cX12_cut 4 (some .int) ∈ TB := tbN 1648 (by decide +kernel) (by decide +kernel)
theorem tw_1649 : Cond.methodLink "CursorroomLaw" 187 ⟨"CursorroomModel", "paste", "()I"⟩ ∈ TB := tbN 1649 (by decide +kernel) (by decide +kernel)
theorem tw_1650 : Cond.instanceMethod ⟨"CursorroomModel", "paste", "()I"⟩ ∈ TB := tbN 1650 (by decide +kernel) (by decide +kernel)
theorem tw_1651 : Cond.selects "CursorroomModel" ⟨"CursorroomModel", "paste", "()I"⟩ ⟨"CursorroomModel", "paste", "()I"⟩ ∈ TB := tbN 1651 (by decide +kernel) (by decide +kernel)
theorem tw_1652 : Cond.code yX12_paste cX12_paste 1 (some .int) ∈ TB := tbN 1652 (by decide +kernel) (by decide +kernel)
theorem tw_1665 : Cond.methodLink "CursorroomLaw" 191 ⟨"CursorroomModel", "indent", "(III)I"⟩ ∈ TB := tbN 1665 (by decide +kernel) (by decide +kernel)
theorem tw_1666 : Cond.instanceMethod ⟨"CursorroomModel", "indent", "(III)I"⟩ ∈ TB := tbN 1666 (by decide +kernel) (by decide +kernel)
theorem tw_1667 : Cond.selects "CursorroomModel" ⟨"CursorroomModel", "indent", "(III)I"⟩ ⟨"CursorroomModel", "indent", "(III)I"⟩ ∈ TB := tbN 1667 (by decide +kernel) (by decide +kernel)
theorem tw_1668 : Cond.code yX12_indent cX12_indent 7 (some .int) ∈ TB := tbN 1668 (by decide +kernel) (by decide +kernel)
theorem tw_1672 : Cond.methodLink "CursorroomLaw" 194 ⟨"CursorroomModel", "wrap", "(II)I"⟩ ∈ TB := tbN 1672 (by decide +kernel) (by decide +kernel)
theorem tw_1673 : Cond.instanceMethod ⟨"CursorroomModel", "wrap", "(II)I"⟩ ∈ TB := tbN 1673 (by decide +kernel) (by decide +kernel)
theorem tw_1674 : Cond.selects "CursorroomModel" ⟨"CursorroomModel", "wrap", "(II)I"⟩ ⟨"CursorroomModel", "wrap", "(II)I"⟩ ∈ TB := tbN 1674 (by decide +kernel) (by decide +kernel)
theorem tw_1675 : Cond.code yX12_wrap cX12_wrap 7 (some .int) ∈ TB := tbN 1675 (by decide +kernel) (by decide +kernel)
theorem tw_1676 : Cond.methodLink "CursorroomLaw" 197 ⟨"CursorroomModel", "joinLines", "(II)I"⟩ ∈ TB := tbN 1676 (by decide +kernel) (by decide +kernel)
theorem tw_1677 : Cond.instanceMethod ⟨"CursorroomModel", "joinLines", "(II)I"⟩ ∈ TB := tbN 1677 (by decide +kernel) (by decide +kernel)
theorem tw_1678 : Cond.selects "CursorroomModel" ⟨"CursorroomModel", "joinLines", "(II)I"⟩ ⟨"CursorroomModel", "joinLines", "(II)I"⟩ ∈ TB := tbN 1678 (by decide +kernel) (by decide +kernel)
theorem tw_1679 : Cond.code yX12_joinLines cX12_joinLines 6 (some .int) ∈ TB := tbN 1679 (by decide +kernel) (by decide +kernel)
theorem tw_1699 : Cond.methodLink "CursorroomLaw" 200 ⟨"CursorroomModel", "replaceNext", "()I"⟩ ∈ TB := tbN 1699 (by decide +kernel) (by decide +kernel)
theorem tw_1700 : Cond.instanceMethod ⟨"CursorroomModel", "replaceNext", "()I"⟩ ∈ TB := tbN 1700 (by decide +kernel) (by decide +kernel)
theorem tw_1701 : Cond.selects "CursorroomModel" ⟨"CursorroomModel", "replaceNext", "()I"⟩ ⟨"CursorroomModel", "replaceNext", "()I"⟩ ∈ TB := tbN 1701 (by decide +kernel) (by decide +kernel)
theorem tw_1702 : Cond.code yX12_replaceNext cX12_replaceNext 2 (some .int) ∈ TB := tbN 1702 (by decide +kernel) (by decide +kernel)
theorem tw_1707 : Cond.methodLink "CursorroomLaw" 203 ⟨"CursorroomModel", "replaceAll", "()I"⟩ ∈ TB := tbN 1707 (by decide +kernel) (by decide +kernel)
theorem tw_1708 : Cond.instanceMethod ⟨"CursorroomModel", "replaceAll", "()I"⟩ ∈ TB := tbN 1708 (by decide +kernel) (by decide +kernel)
theorem tw_1709 : Cond.selects "CursorroomModel" ⟨"CursorroomModel", "replaceAll", "()I"⟩ ⟨"CursorroomModel", "replaceAll", "()I"⟩ ∈ TB := tbN 1709 (by decide +kernel) (by decide +kernel)
theorem tw_1710 : Cond.code yX12_replaceAll cX12_replaceAll 3 (some .int) ∈ TB := tbN 1710 (by decide +kernel) (by decide +kernel)
theorem tw_1711 : Cond.methodLink "CursorroomLaw" 206 ⟨"CursorroomModel", "undo", "(I)I"⟩ ∈ TB := tbN 1711 (by decide +kernel) (by decide +kernel)
theorem tw_1726 : Cond.methodLink "CursorroomLaw" 209 ⟨"CursorroomModel", "redo", "(I)I"⟩ ∈ TB := tbN 1726 (by decide +kernel) (by decide +kernel)
theorem tw_1730 : Cond.methodLink "CursorroomLaw" 212 ⟨"CursorroomModel", "branch", "(I)I"⟩ ∈ TB := tbN 1730 (by decide +kernel) (by decide +kernel)
theorem tw_1731 : Cond.instanceMethod ⟨"CursorroomModel", "branch", "(I)I"⟩ ∈ TB := tbN 1731 (by decide +kernel) (by decide +kernel)
theorem tw_1732 : Cond.selects "CursorroomModel" ⟨"CursorroomModel", "branch", "(I)I"⟩ ⟨"CursorroomModel", "branch", "(I)I"⟩ ∈ TB := tbN 1732 (by decide +kernel) (by decide +kernel)
theorem tw_1733 : Cond.code yX12_branch cX12_branch 5 (some .int) ∈ TB := tbN 1733 (by decide +kernel) (by decide +kernel)
theorem tw_1746 : Cond.methodLink "CursorroomLaw" 220 ⟨"CursorroomModel", "acts", "(I)I"⟩ ∈ TB := tbN 1746 (by decide +kernel) (by decide +kernel)
theorem tw_1747 : Cond.instanceMethod ⟨"CursorroomModel", "acts", "(I)I"⟩ ∈ TB := tbN 1747 (by decide +kernel) (by decide +kernel)
theorem tw_1748 : Cond.selects "CursorroomModel" ⟨"CursorroomModel", "acts", "(I)I"⟩ ⟨"CursorroomModel", "acts", "(I)I"⟩ ∈ TB := tbN 1748 (by decide +kernel) (by decide +kernel)
theorem tw_1749 : Cond.code yX12_acts_ cX12_acts_ 2 (some .int) ∈ TB := tbN 1749 (by decide +kernel) (by decide +kernel)
theorem tw_1758 : Cond.methodLink "CursorroomLaw" 223 ⟨"CursorroomModel", "setCursor", "(I)I"⟩ ∈ TB := tbN 1758 (by decide +kernel) (by decide +kernel)
theorem tw_1759 : Cond.instanceMethod ⟨"CursorroomModel", "setCursor", "(I)I"⟩ ∈ TB := tbN 1759 (by decide +kernel) (by decide +kernel)
theorem tw_1760 : Cond.selects "CursorroomModel" ⟨"CursorroomModel", "setCursor", "(I)I"⟩ ⟨"CursorroomModel", "setCursor", "(I)I"⟩ ∈ TB := tbN 1760 (by decide +kernel) (by decide +kernel)
theorem tw_1761 : Cond.code yX12_setCursor cX12_setCursor 3 (some .int) ∈ TB := tbN 1761 (by decide +kernel) (by decide +kernel)
theorem tw_1762 : Cond.methodLink "CursorroomLaw" 226 ⟨"CursorroomModel", "addCursor", "(I)I"⟩ ∈ TB := tbN 1762 (by decide +kernel) (by decide +kernel)
theorem tw_1763 : Cond.instanceMethod ⟨"CursorroomModel", "addCursor", "(I)I"⟩ ∈ TB := tbN 1763 (by decide +kernel) (by decide +kernel)
theorem tw_1764 : Cond.selects "CursorroomModel" ⟨"CursorroomModel", "addCursor", "(I)I"⟩ ⟨"CursorroomModel", "addCursor", "(I)I"⟩ ∈ TB := tbN 1764 (by decide +kernel) (by decide +kernel)
theorem tw_1765 : Cond.code yX12_addCursor cX12_addCursor 4 (some .int) ∈ TB := tbN 1765 (by decide +kernel) (by decide +kernel)
theorem tw_1766 : Cond.methodLink "CursorroomLaw" 229 ⟨"CursorroomModel", "moveCursors", "(II)I"⟩ ∈ TB := tbN 1766 (by decide +kernel) (by decide +kernel)
theorem tw_1767 : Cond.instanceMethod ⟨"CursorroomModel", "moveCursors", "(II)I"⟩ ∈ TB := tbN 1767 (by decide +kernel) (by decide +kernel)
theorem tw_1768 : Cond.selects "CursorroomModel" ⟨"CursorroomModel", "moveCursors", "(II)I"⟩ ⟨"CursorroomModel", "moveCursors", "(II)I"⟩ ∈ TB := tbN 1768 (by decide +kernel) (by decide +kernel)
theorem tw_1769 : Cond.code yX12_moveCursors cX12_moveCursors 3 (some .int) ∈ TB := tbN 1769 (by decide +kernel) (by decide +kernel)
theorem tw_1798 : Cond.methodLink "CursorroomLaw" 232 ⟨"CursorroomModel", "cursorAt", "(I)I"⟩ ∈ TB := tbN 1798 (by decide +kernel) (by decide +kernel)
theorem tw_1799 : Cond.instanceMethod ⟨"CursorroomModel", "cursorAt", "(I)I"⟩ ∈ TB := tbN 1799 (by decide +kernel) (by decide +kernel)
theorem tw_1800 : Cond.selects "CursorroomModel" ⟨"CursorroomModel", "cursorAt", "(I)I"⟩ ⟨"CursorroomModel", "cursorAt", "(I)I"⟩ ∈ TB := tbN 1800 (by decide +kernel) (by decide +kernel)
theorem tw_1801 : Cond.code yX12_cursorAt cX12_cursorAt 2 (some .int) ∈ TB := tbN 1801 (by decide +kernel) (by decide +kernel)
theorem tw_1809 : Cond.methodLink "CursorroomLaw" 239 ⟨"CursorroomModel", "dropMark", "(I)I"⟩ ∈ TB := tbN 1809 (by decide +kernel) (by decide +kernel)
theorem tw_1810 : Cond.instanceMethod ⟨"CursorroomModel", "dropMark", "(I)I"⟩ ∈ TB := tbN 1810 (by decide +kernel) (by decide +kernel)
theorem tw_1811 : Cond.selects "CursorroomModel" ⟨"CursorroomModel", "dropMark", "(I)I"⟩ ⟨"CursorroomModel", "dropMark", "(I)I"⟩ ∈ TB := tbN 1811 (by decide +kernel) (by decide +kernel)
theorem tw_1812 : Cond.code yX12_dropMark cX12_dropMark 3 (some .int) ∈ TB := tbN 1812 (by decide +kernel) (by decide +kernel)
theorem tw_1813 : Cond.methodLink "CursorroomLaw" 242 ⟨"CursorroomModel", "markAt", "(I)I"⟩ ∈ TB := tbN 1813 (by decide +kernel) (by decide +kernel)
theorem tw_1814 : Cond.instanceMethod ⟨"CursorroomModel", "markAt", "(I)I"⟩ ∈ TB := tbN 1814 (by decide +kernel) (by decide +kernel)
theorem tw_1815 : Cond.selects "CursorroomModel" ⟨"CursorroomModel", "markAt", "(I)I"⟩ ⟨"CursorroomModel", "markAt", "(I)I"⟩ ∈ TB := tbN 1815 (by decide +kernel) (by decide +kernel)
theorem tw_1816 : Cond.code yX12_markAt cX12_markAt 2 (some .int) ∈ TB := tbN 1816 (by decide +kernel) (by decide +kernel)
theorem tw_1821 : Cond.methodLink "CursorroomLaw" 256 ⟨"CursorroomModel", "fold", "(II)I"⟩ ∈ TB := tbN 1821 (by decide +kernel) (by decide +kernel)
theorem tw_1822 : Cond.instanceMethod ⟨"CursorroomModel", "fold", "(II)I"⟩ ∈ TB := tbN 1822 (by decide +kernel) (by decide +kernel)
theorem tw_1823 : Cond.selects "CursorroomModel" ⟨"CursorroomModel", "fold", "(II)I"⟩ ⟨"CursorroomModel", "fold", "(II)I"⟩ ∈ TB := tbN 1823 (by decide +kernel) (by decide +kernel)
theorem tw_1824 : Cond.code yX12_fold cX12_fold 4 (some .int) ∈ TB := tbN 1824 (by decide +kernel) (by decide +kernel)
theorem tw_1829 : Cond.methodLink "CursorroomLaw" 259 ⟨"CursorroomModel", "unfold", "(I)I"⟩ ∈ TB := tbN 1829 (by decide +kernel) (by decide +kernel)
theorem tw_1830 : Cond.instanceMethod ⟨"CursorroomModel", "unfold", "(I)I"⟩ ∈ TB := tbN 1830 (by decide +kernel) (by decide +kernel)
theorem tw_1831 : Cond.selects "CursorroomModel" ⟨"CursorroomModel", "unfold", "(I)I"⟩ ⟨"CursorroomModel", "unfold", "(I)I"⟩ ∈ TB := tbN 1831 (by decide +kernel) (by decide +kernel)
theorem tw_1832 : Cond.code yX12_unfold cX12_unfold 2 (some .int) ∈ TB := tbN 1832 (by decide +kernel) (by decide +kernel)
theorem tw_1841 : Cond.methodLink "CursorroomLaw" 265 ⟨"CursorroomModel", "setView", "(III)I"⟩ ∈ TB := tbN 1841 (by decide +kernel) (by decide +kernel)
theorem tw_1842 : Cond.instanceMethod ⟨"CursorroomModel", "setView", "(III)I"⟩ ∈ TB := tbN 1842 (by decide +kernel) (by decide +kernel)
theorem tw_1843 : Cond.selects "CursorroomModel" ⟨"CursorroomModel", "setView", "(III)I"⟩ ⟨"CursorroomModel", "setView", "(III)I"⟩ ∈ TB := tbN 1843 (by decide +kernel) (by decide +kernel)
theorem tw_1844 : Cond.code yX12_setView cX12_setView 5 (some .int) ∈ TB := tbN 1844 (by decide +kernel) (by decide +kernel)
theorem tw_1848 : Cond.methodLink "CursorroomLaw" 268 ⟨"CursorroomModel", "rowOf", "(II)I"⟩ ∈ TB := tbN 1848 (by decide +kernel) (by decide +kernel)
theorem tw_1849 : Cond.instanceMethod ⟨"CursorroomModel", "rowOf", "(II)I"⟩ ∈ TB := tbN 1849 (by decide +kernel) (by decide +kernel)
theorem tw_1850 : Cond.selects "CursorroomModel" ⟨"CursorroomModel", "rowOf", "(II)I"⟩ ⟨"CursorroomModel", "rowOf", "(II)I"⟩ ∈ TB := tbN 1850 (by decide +kernel) (by decide +kernel)
theorem tw_1851 : Cond.code yX12_rowOf cX12_rowOf 6 (some .int) ∈ TB := tbN 1851 (by decide +kernel) (by decide +kernel)
theorem tw_1856 : Cond.methodLink "CursorroomLaw" 275 ⟨"CursorroomModel", "play", "(I)I"⟩ ∈ TB := tbN 1856 (by decide +kernel) (by decide +kernel)
theorem tw_1857 : Cond.instanceMethod ⟨"CursorroomModel", "play", "(I)I"⟩ ∈ TB := tbN 1857 (by decide +kernel) (by decide +kernel)
theorem tw_1858 : Cond.selects "CursorroomModel" ⟨"CursorroomModel", "play", "(I)I"⟩ ⟨"CursorroomModel", "play", "(I)I"⟩ ∈ TB := tbN 1858 (by decide +kernel) (by decide +kernel)
theorem tw_1859 : Cond.code yX12_play cX12_play 7 (some .int) ∈ TB := tbN 1859 (by decide +kernel) (by decide +kernel)
theorem tw_1864 : Cond.methodLink "CursorroomLaw" 278 ⟨"CursorroomModel", "count", "(I)I"⟩ ∈ TB := tbN 1864 (by decide +kernel) (by decide +kernel)
theorem tw_1865 : Cond.instanceMethod ⟨"CursorroomModel", "count", "(I)I"⟩ ∈ TB := tbN 1865 (by decide +kernel) (by decide +kernel)
theorem tw_1866 : Cond.selects "CursorroomModel" ⟨"CursorroomModel", "count", "(I)I"⟩ ⟨"CursorroomModel", "count", "(I)I"⟩ ∈ TB := tbN 1866 (by decide +kernel) (by decide +kernel)
theorem tw_1867 : Cond.code yX12_count cX12_count 2 (some .int) ∈ TB := tbN 1867 (by decide +kernel) (by decide +kernel)
theorem tw_1876 : Cond.methodLink "CursorroomLaw" 281 ⟨"CursorroomModel", "letterAt", "(I)I"⟩ ∈ TB := tbN 1876 (by decide +kernel) (by decide +kernel)
theorem tw_1877 : Cond.instanceMethod ⟨"CursorroomModel", "letterAt", "(I)I"⟩ ∈ TB := tbN 1877 (by decide +kernel) (by decide +kernel)
theorem tw_1878 : Cond.selects "CursorroomModel" ⟨"CursorroomModel", "letterAt", "(I)I"⟩ ⟨"CursorroomModel", "letterAt", "(I)I"⟩ ∈ TB := tbN 1878 (by decide +kernel) (by decide +kernel)
theorem tw_1879 : Cond.code yX12_letterAt cX12_letterAt 2 (some .int) ∈ TB := tbN 1879 (by decide +kernel) (by decide +kernel)
theorem tw_1880 : Cond.methodLink "CursorroomLaw" 284 ⟨"CursorroomModel", "lineOf", "(I)I"⟩ ∈ TB := tbN 1880 (by decide +kernel) (by decide +kernel)
theorem tw_1881 : Cond.instanceMethod ⟨"CursorroomModel", "lineOf", "(I)I"⟩ ∈ TB := tbN 1881 (by decide +kernel) (by decide +kernel)
theorem tw_1882 : Cond.selects "CursorroomModel" ⟨"CursorroomModel", "lineOf", "(I)I"⟩ ⟨"CursorroomModel", "lineOf", "(I)I"⟩ ∈ TB := tbN 1882 (by decide +kernel) (by decide +kernel)
theorem tw_1883 : Cond.code yX12_lineOf cX12_lineOf 2 (some .int) ∈ TB := tbN 1883 (by decide +kernel) (by decide +kernel)
theorem tw_1884 : Cond.methodLink "CursorroomLaw" 287 ⟨"CursorroomModel", "columnOf", "(I)I"⟩ ∈ TB := tbN 1884 (by decide +kernel) (by decide +kernel)
theorem tw_1885 : Cond.instanceMethod ⟨"CursorroomModel", "columnOf", "(I)I"⟩ ∈ TB := tbN 1885 (by decide +kernel) (by decide +kernel)
theorem tw_1886 : Cond.selects "CursorroomModel" ⟨"CursorroomModel", "columnOf", "(I)I"⟩ ⟨"CursorroomModel", "columnOf", "(I)I"⟩ ∈ TB := tbN 1886 (by decide +kernel) (by decide +kernel)
theorem tw_1887 : Cond.code yX12_columnOf cX12_columnOf 2 (some .int) ∈ TB := tbN 1887 (by decide +kernel) (by decide +kernel)
theorem tw_1888 : Cond.methodLink "CursorroomLaw" 290 ⟨"CursorroomModel", "placeAt", "(II)I"⟩ ∈ TB := tbN 1888 (by decide +kernel) (by decide +kernel)
theorem tw_1889 : Cond.instanceMethod ⟨"CursorroomModel", "placeAt", "(II)I"⟩ ∈ TB := tbN 1889 (by decide +kernel) (by decide +kernel)
theorem tw_1890 : Cond.selects "CursorroomModel" ⟨"CursorroomModel", "placeAt", "(II)I"⟩ ⟨"CursorroomModel", "placeAt", "(II)I"⟩ ∈ TB := tbN 1890 (by decide +kernel) (by decide +kernel)
theorem tw_1891 : Cond.code yX12_placeAt cX12_placeAt 3 (some .int) ∈ TB := tbN 1891 (by decide +kernel) (by decide +kernel)
theorem tw_1892 : Cond.methodLink "CursorroomLaw" 293 ⟨"CursorroomModel", "setTab", "(I)I"⟩ ∈ TB := tbN 1892 (by decide +kernel) (by decide +kernel)
theorem tw_1893 : Cond.instanceMethod ⟨"CursorroomModel", "setTab", "(I)I"⟩ ∈ TB := tbN 1893 (by decide +kernel) (by decide +kernel)
theorem tw_1894 : Cond.selects "CursorroomModel" ⟨"CursorroomModel", "setTab", "(I)I"⟩ ⟨"CursorroomModel", "setTab", "(I)I"⟩ ∈ TB := tbN 1894 (by decide +kernel) (by decide +kernel)
theorem tw_1895 : Cond.code yX12_setTab cX12_setTab 3 (some .int) ∈ TB := tbN 1895 (by decide +kernel) (by decide +kernel)
theorem tw_1941 : Cond.constantLong "CursorroomLaw" 148 4294967295 ∈ TB := tbN 1941 (by decide +kernel) (by decide +kernel)
theorem ch_150 : CH RL 150 yL_feed cL_feed 5 (some .int) [(0, 9, 12, 13), (0, 9, 16, 15)] 3 := ⟨tw_593, tw_81, tw_595, tw_594, by decide +kernel, by decide +kernel, by decide +kernel⟩
theorem cl_RL_155 : CV RL 155 11 yX12_feed cX12_feed 7 (some .int) 1 := ⟨⟨tw_1506, tw_93, tw_1509, by decide +kernel, by decide +kernel, by decide +kernel⟩, tw_1508, tw_1507, TX12, 56, rfl⟩
theorem cl_RL_156 : CV RL 156 11 yX12_thrown cX12_thrown 1 (some .int) 0 := ⟨⟨tw_1502, tw_93, tw_1505, by decide +kernel, by decide +kernel, by decide +kernel⟩, tw_1504, tw_1503, TX12, 56, rfl⟩
abbrev s_0 (xs : Nat → Int32) (i : Nat) (σ μ : Sto) (o : Int64) (Q : Sto → Sto → Int64 → Prop) : Prop := stH (f11_feed σ (((xs (i + 1)).toInt64 <<< (((32 : Int32)).toInt64 &&& 63)) ||| ((xs (i + 2)).toInt64 &&& 4294967295))) [(2, 1), (3, 2)] o (f12_feed μ (((xs (i + 1)).toInt64 <<< (((32 : Int32)).toInt64 &&& 63)) ||| ((xs (i + 2)).toInt64 &&& 4294967295))) Q
set_option maxHeartbeats 1000000 in
theorem case_0 {X : JX} {K : JK} {b L : Nat} {xs : Nat → Int32} {Q : State → Prop} {k sl : Nat} {σ μ : Sto} {o : Int64} {i : Nat} {Q9 : Sto → Sto → Int64 → Prop} (c : LC X K b L xs) (hi : i + 5 ≤ L) (hk : k + 8 ≤ X.2.2.2.1.cells) (hs : sl + 48 ≤ X.2.2.2.1.slots) (h : s_0 xs i σ μ o Q9) (kont : ∀ σ9 μ9 o9, Q9 σ9 μ9 o9 → J X K 9 False Q (k + 8) (sl + 48) 2055 (jw K σ9 μ9 o9) 2954 [(4, .int (Int32.ofNat i)), (0, .ref b), (1, .ref (K.2.2 + 0)), (2, .ref (K.2.2 + 2017)), (3, .ref (K.2.2 + 2054))] []) : J X K 9 False Q k sl 2055 (jw K σ μ o) 244 [(4, .int (Int32.ofNat i)), (0, .ref b), (1, .ref (K.2.2 + 0)), (2, .ref (K.2.2 + 2017)), (3, .ref (K.2.2 + 2054))] [] := by
  have C := c.1
  refine J_aload_n (i := 1) (p := 2) C dL_law_244 rfl rfl rfl ?_
  refine J_aload_n (i := 0) (p := 1) C dL_law_245 rfl rfl rfl ?_
  refine J_iload (i := 4) (p := 0) C dL_law_246 rfl rfl ?_
  refine J_iconst (v := 1) C (by decide) dL_law_248 rfl ?_
  refine J_iadd C dL_law_249 rfl ?_
  refine J_arg c 1 rfl hi (by decide) dL_law_250 rfl ?_
  refine J_i2l C dL_law_251 rfl ?_
  refine J_bipush (v := 32) C (by decide) dL_law_252 rfl ?_
  refine J_lshl C dL_law_254 rfl ?_
  refine J_aload_n (i := 0) (p := 1) C dL_law_255 rfl rfl rfl ?_
  refine J_iload (i := 4) (p := 0) C dL_law_256 rfl rfl ?_
  refine J_iconst (v := 2) C (by decide) dL_law_258 rfl ?_
  refine J_iadd C dL_law_259 rfl ?_
  refine J_arg c 2 rfl hi (by decide) dL_law_260 rfl ?_
  refine J_i2l C dL_law_261 rfl ?_
  refine J_ldc2 C tw_1941 dL_law_262 rfl ?_
  refine J_land C dL_law_265 rfl ?_
  refine J_lor C dL_law_266 rfl ?_
  refine J_aload_n (i := 3) (p := 4) C dL_law_267 rfl rfl rfl ?_
  refine Jl_cH (rest := []) (st9 := fun r => [.int r.1]) C ch_150 (hL_feed c.2.1 h) rfl rfl (Nat.le_trans (by decide) c.2.2.2.2.2.2.1) (Nat.le_trans (by decide) c.2.2.2.2.2.2.2) (Nat.le_of_ble_eq_true rfl) ⟨by omega, by omega⟩ dL_law_268 rfl (fun _ => rfl) (fun r h => ?_)
  refine J_istoreE (i := 5) (x' := r.1) (lv' := [(5, .int r.1), (4, .int (Int32.ofNat i)), (0, .ref b), (1, .ref (K.2.2 + 0)), (2, .ref (K.2.2 + 2017)), (3, .ref (K.2.2 + 2054))]) C rfl dL_law_271 (Nat.le_of_ble_eq_true rfl) rfl rfl ?_
  refine J_aload_n (i := 2) (p := 4) C dL_law_273 rfl rfl rfl ?_
  refine J_aload_n (i := 0) (p := 2) C dL_law_274 rfl rfl rfl ?_
  refine J_iload (i := 4) (p := 1) C dL_law_275 rfl rfl ?_
  refine J_iconst (v := 1) C (by decide) dL_law_277 rfl ?_
  refine J_iadd C dL_law_278 rfl ?_
  refine J_arg c 1 rfl hi (by decide) dL_law_279 rfl ?_
  refine J_i2l C dL_law_280 rfl ?_
  refine J_bipush (v := 32) C (by decide) dL_law_281 rfl ?_
  refine J_lshl C dL_law_283 rfl ?_
  refine J_aload_n (i := 0) (p := 2) C dL_law_284 rfl rfl rfl ?_
  refine J_iload (i := 4) (p := 1) C dL_law_285 rfl rfl ?_
  refine J_iconst (v := 2) C (by decide) dL_law_287 rfl ?_
  refine J_iadd C dL_law_288 rfl ?_
  refine J_arg c 2 rfl hi (by decide) dL_law_289 rfl ?_
  refine J_i2l C dL_law_290 rfl ?_
  refine J_ldc2 C tw_1941 dL_law_291 rfl ?_
  refine J_land C dL_law_294 rfl ?_
  refine J_lor C dL_law_295 rfl ?_
  refine Jl_mV (rest := []) (st9 := fun p => [.int p.1]) C cl_RL_155 rfl (Nat.le_of_ble_eq_true rfl) (k12_feed c.2.1 h) rfl rfl (Nat.le_trans (by decide) c.2.2.2.2.2.2.1) (Nat.le_trans (by decide) c.2.2.2.2.2.2.2) (Nat.le_of_ble_eq_true rfl) ⟨by omega, by omega⟩ dL_law_296 rfl (fun _ => rfl) (fun p h => ?_)
  refine J_istoreE (i := 6) (x' := p.1) (lv' := [(6, .int p.1), (5, .int r.1), (4, .int (Int32.ofNat i)), (0, .ref b), (1, .ref (K.2.2 + 0)), (2, .ref (K.2.2 + 2017)), (3, .ref (K.2.2 + 2054))]) C rfl dL_law_299 (Nat.le_of_ble_eq_true rfl) rfl rfl ?_
  refine J_aload_n (i := 2) (p := 5) C dL_law_301 rfl rfl rfl ?_
  refine Jl_mV (rest := []) (st9 := fun t => [.int t]) C cl_RL_156 rfl (Nat.le_of_ble_eq_true rfl) (k12_thrown c.2.1 h) rfl rfl (Nat.le_trans (by decide) c.2.2.2.2.2.2.1) (Nat.le_trans (by decide) c.2.2.2.2.2.2.2) (Nat.le_of_ble_eq_true rfl) ⟨by omega, by omega⟩ dL_law_302 rfl (fun _ => rfl) (fun t h => ?_)
  obtain ⟨h1, h2, h3⟩ := h
  refine J_iload (i := 5) (p := 1) C dL_law_305 rfl rfl ?_
  refine J_icmp_eq (t := 312) C dL_law_307 (by decide) rfl (fun _ => ?_) (fun e => absurd h1 e)
  refine J_iload (i := 5) (p := 1) C dL_law_312 rfl rfl ?_
  refine J_if_ne (t := 329) C dL_law_314 (by decide) rfl (fun _ => ?_) (fun e => ?_)
  · refine J_goto (t := 2954) C dL_law_329 (by decide) ?_
    refine J.sub [2, 3, 4, 5, 6] rfl ?_
    exact J.widen (by omega) (by omega) (kont _ _ _ h3)
  · refine J_aload_n (i := 3) (p := 6) C dL_law_317 rfl rfl rfl ?_
    refine J_iconst (v := 0) C (by decide) dL_law_318 rfl ?_
    refine J_outld C dL_law_319 rfl ?_
    refine J_iload (i := 6) (p := 0) C dL_law_320 rfl rfl ?_
    refine J_i2l C dL_law_322 rfl ?_
    refine J_lcmp C dL_law_323 rfl ?_
    rw [show lg_cmp r.2.2 p.1.toInt64 = 0 from by rw [h2 (Decidable.not_not.mp e)]; exact lg_cmp_self]
    refine J_if_eq (t := 329) C dL_law_324 (by decide) rfl (fun _ => ?_) (fun e => absurd rfl e)
    refine J_goto (t := 2954) C dL_law_329 (by decide) ?_
    refine J.sub [2, 3, 4, 5, 6] rfl ?_
    exact J.widen (by omega) (by omega) (kont _ _ _ h3)
theorem ch_163 : CH RL 163 yL_copy cL_copy 5 (some .int) [(0, 10, 13, 21), (0, 10, 17, 13)] 4 := ⟨tw_693, tw_81, tw_695, tw_694, by decide +kernel, by decide +kernel, by decide +kernel⟩
theorem cl_RL_166 : CV RL 166 11 yX12_copy cX12_copy 3 (some .int) 2 := ⟨⟨tw_1529, tw_93, tw_1532, by decide +kernel, by decide +kernel, by decide +kernel⟩, tw_1531, tw_1530, TX12, 56, rfl⟩
abbrev s_2 (xs : Nat → Int32) (i : Nat) (σ μ : Sto) (o : Int64) (Q : Sto → Sto → Int64 → Prop) : Prop := stH (f11_copy σ (xs (i + 1)) (xs (i + 2))) [(1, 1), (2, 2)] o (f12_copy μ (xs (i + 1)) (xs (i + 2))) Q
set_option maxHeartbeats 1000000 in
theorem case_2 {X : JX} {K : JK} {b L : Nat} {xs : Nat → Int32} {Q : State → Prop} {k sl : Nat} {σ μ : Sto} {o : Int64} {i : Nat} {Q9 : Sto → Sto → Int64 → Prop} (c : LC X K b L xs) (hi : i + 5 ≤ L) (hk : k + 8 ≤ X.2.2.2.1.cells) (hs : sl + 48 ≤ X.2.2.2.1.slots) (h : s_2 xs i σ μ o Q9) (kont : ∀ σ9 μ9 o9, Q9 σ9 μ9 o9 → J X K 9 False Q (k + 8) (sl + 48) 2055 (jw K σ9 μ9 o9) 2954 [(4, .int (Int32.ofNat i)), (0, .ref b), (1, .ref (K.2.2 + 0)), (2, .ref (K.2.2 + 2017)), (3, .ref (K.2.2 + 2054))] []) : J X K 9 False Q k sl 2055 (jw K σ μ o) 345 [(4, .int (Int32.ofNat i)), (0, .ref b), (1, .ref (K.2.2 + 0)), (2, .ref (K.2.2 + 2017)), (3, .ref (K.2.2 + 2054))] [] := by
  have C := c.1
  refine J_aload_n (i := 1) (p := 2) C dL_law_345 rfl rfl rfl ?_
  refine J_aload_n (i := 0) (p := 1) C dL_law_346 rfl rfl rfl ?_
  refine J_iload (i := 4) (p := 0) C dL_law_347 rfl rfl ?_
  refine J_iconst (v := 1) C (by decide) dL_law_349 rfl ?_
  refine J_iadd C dL_law_350 rfl ?_
  refine J_arg c 1 rfl hi (by decide) dL_law_351 rfl ?_
  refine J_aload_n (i := 0) (p := 1) C dL_law_352 rfl rfl rfl ?_
  refine J_iload (i := 4) (p := 0) C dL_law_353 rfl rfl ?_
  refine J_iconst (v := 2) C (by decide) dL_law_355 rfl ?_
  refine J_iadd C dL_law_356 rfl ?_
  refine J_arg c 2 rfl hi (by decide) dL_law_357 rfl ?_
  refine J_aload_n (i := 3) (p := 4) C dL_law_358 rfl rfl rfl ?_
  refine Jl_cH (rest := []) (st9 := fun r => [.int r.1]) C ch_163 (hL_copy c.2.1 h) rfl rfl (Nat.le_trans (by decide) c.2.2.2.2.2.2.1) (Nat.le_trans (by decide) c.2.2.2.2.2.2.2) (Nat.le_of_ble_eq_true rfl) ⟨by omega, by omega⟩ dL_law_359 rfl (fun _ => rfl) (fun r h => ?_)
  refine J_istoreE (i := 5) (x' := r.1) (lv' := [(5, .int r.1), (4, .int (Int32.ofNat i)), (0, .ref b), (1, .ref (K.2.2 + 0)), (2, .ref (K.2.2 + 2017)), (3, .ref (K.2.2 + 2054))]) C rfl dL_law_362 (Nat.le_of_ble_eq_true rfl) rfl rfl ?_
  refine J_aload_n (i := 2) (p := 4) C dL_law_364 rfl rfl rfl ?_
  refine J_aload_n (i := 0) (p := 2) C dL_law_365 rfl rfl rfl ?_
  refine J_iload (i := 4) (p := 1) C dL_law_366 rfl rfl ?_
  refine J_iconst (v := 1) C (by decide) dL_law_368 rfl ?_
  refine J_iadd C dL_law_369 rfl ?_
  refine J_arg c 1 rfl hi (by decide) dL_law_370 rfl ?_
  refine J_aload_n (i := 0) (p := 2) C dL_law_371 rfl rfl rfl ?_
  refine J_iload (i := 4) (p := 1) C dL_law_372 rfl rfl ?_
  refine J_iconst (v := 2) C (by decide) dL_law_374 rfl ?_
  refine J_iadd C dL_law_375 rfl ?_
  refine J_arg c 2 rfl hi (by decide) dL_law_376 rfl ?_
  refine Jl_mV (rest := []) (st9 := fun p => [.int p.1]) C cl_RL_166 rfl (Nat.le_of_ble_eq_true rfl) (k12_copy c.2.1 h) rfl rfl (Nat.le_trans (by decide) c.2.2.2.2.2.2.1) (Nat.le_trans (by decide) c.2.2.2.2.2.2.2) (Nat.le_of_ble_eq_true rfl) ⟨by omega, by omega⟩ dL_law_377 rfl (fun _ => rfl) (fun p h => ?_)
  refine J_istoreE (i := 6) (x' := p.1) (lv' := [(6, .int p.1), (5, .int r.1), (4, .int (Int32.ofNat i)), (0, .ref b), (1, .ref (K.2.2 + 0)), (2, .ref (K.2.2 + 2017)), (3, .ref (K.2.2 + 2054))]) C rfl dL_law_380 (Nat.le_of_ble_eq_true rfl) rfl rfl ?_
  refine J_aload_n (i := 2) (p := 5) C dL_law_382 rfl rfl rfl ?_
  refine Jl_mV (rest := []) (st9 := fun t => [.int t]) C cl_RL_156 rfl (Nat.le_of_ble_eq_true rfl) (k12_thrown c.2.1 h) rfl rfl (Nat.le_trans (by decide) c.2.2.2.2.2.2.1) (Nat.le_trans (by decide) c.2.2.2.2.2.2.2) (Nat.le_of_ble_eq_true rfl) ⟨by omega, by omega⟩ dL_law_383 rfl (fun _ => rfl) (fun t h => ?_)
  obtain ⟨h1, h2, h3⟩ := h
  refine J_iload (i := 5) (p := 1) C dL_law_386 rfl rfl ?_
  refine J_icmp_eq (t := 393) C dL_law_388 (by decide) rfl (fun _ => ?_) (fun e => absurd h1 e)
  refine J_iload (i := 5) (p := 1) C dL_law_393 rfl rfl ?_
  refine J_if_ne (t := 410) C dL_law_395 (by decide) rfl (fun _ => ?_) (fun e => ?_)
  · refine J_goto (t := 2954) C dL_law_410 (by decide) ?_
    refine J.sub [2, 3, 4, 5, 6] rfl ?_
    exact J.widen (by omega) (by omega) (kont _ _ _ h3)
  · refine J_aload_n (i := 3) (p := 6) C dL_law_398 rfl rfl rfl ?_
    refine J_iconst (v := 0) C (by decide) dL_law_399 rfl ?_
    refine J_outld C dL_law_400 rfl ?_
    refine J_iload (i := 6) (p := 0) C dL_law_401 rfl rfl ?_
    refine J_i2l C dL_law_403 rfl ?_
    refine J_lcmp C dL_law_404 rfl ?_
    rw [show lg_cmp r.2.2 p.1.toInt64 = 0 from by rw [h2 (Decidable.not_not.mp e)]; exact lg_cmp_self]
    refine J_if_eq (t := 410) C dL_law_405 (by decide) rfl (fun _ => ?_) (fun e => absurd rfl e)
    refine J_goto (t := 2954) C dL_law_410 (by decide) ?_
    refine J.sub [2, 3, 4, 5, 6] rfl ?_
    exact J.widen (by omega) (by omega) (kont _ _ _ h3)
theorem ch_167 : CH RL 167 yL_copyBlock cL_copyBlock 7 (some .int) [(0, 14, 17, 21), (0, 14, 21, 13)] 6 := ⟨tw_735, tw_81, tw_737, tw_736, by decide +kernel, by decide +kernel, by decide +kernel⟩
theorem cl_RL_170 : CV RL 170 11 yX12_copyBlock cX12_copyBlock 11 (some .int) 4 := ⟨⟨tw_1541, tw_93, tw_1544, by decide +kernel, by decide +kernel, by decide +kernel⟩, tw_1543, tw_1542, TX12, 56, rfl⟩
abbrev s_3 (xs : Nat → Int32) (i : Nat) (σ μ : Sto) (o : Int64) (Q : Sto → Sto → Int64 → Prop) : Prop := stH (f11_copyBlock σ (xs (i + 1)) (xs (i + 2)) (xs (i + 3)) (xs (i + 4))) [(1, 1), (2, 2)] o (f12_copyBlock μ (xs (i + 1)) (xs (i + 2)) (xs (i + 3)) (xs (i + 4))) Q
set_option maxHeartbeats 1000000 in
theorem case_3 {X : JX} {K : JK} {b L : Nat} {xs : Nat → Int32} {Q : State → Prop} {k sl : Nat} {σ μ : Sto} {o : Int64} {i : Nat} {Q9 : Sto → Sto → Int64 → Prop} (c : LC X K b L xs) (hi : i + 5 ≤ L) (hk : k + 8 ≤ X.2.2.2.1.cells) (hs : sl + 48 ≤ X.2.2.2.1.slots) (h : s_3 xs i σ μ o Q9) (kont : ∀ σ9 μ9 o9, Q9 σ9 μ9 o9 → J X K 9 False Q (k + 8) (sl + 48) 2055 (jw K σ9 μ9 o9) 2954 [(4, .int (Int32.ofNat i)), (0, .ref b), (1, .ref (K.2.2 + 0)), (2, .ref (K.2.2 + 2017)), (3, .ref (K.2.2 + 2054))] []) : J X K 9 False Q k sl 2055 (jw K σ μ o) 413 [(4, .int (Int32.ofNat i)), (0, .ref b), (1, .ref (K.2.2 + 0)), (2, .ref (K.2.2 + 2017)), (3, .ref (K.2.2 + 2054))] [] := by
  have C := c.1
  refine J_aload_n (i := 1) (p := 2) C dL_law_413 rfl rfl rfl ?_
  refine J_aload_n (i := 0) (p := 1) C dL_law_414 rfl rfl rfl ?_
  refine J_iload (i := 4) (p := 0) C dL_law_415 rfl rfl ?_
  refine J_iconst (v := 1) C (by decide) dL_law_417 rfl ?_
  refine J_iadd C dL_law_418 rfl ?_
  refine J_arg c 1 rfl hi (by decide) dL_law_419 rfl ?_
  refine J_aload_n (i := 0) (p := 1) C dL_law_420 rfl rfl rfl ?_
  refine J_iload (i := 4) (p := 0) C dL_law_421 rfl rfl ?_
  refine J_iconst (v := 2) C (by decide) dL_law_423 rfl ?_
  refine J_iadd C dL_law_424 rfl ?_
  refine J_arg c 2 rfl hi (by decide) dL_law_425 rfl ?_
  refine J_aload_n (i := 0) (p := 1) C dL_law_426 rfl rfl rfl ?_
  refine J_iload (i := 4) (p := 0) C dL_law_427 rfl rfl ?_
  refine J_iconst (v := 3) C (by decide) dL_law_429 rfl ?_
  refine J_iadd C dL_law_430 rfl ?_
  refine J_arg c 3 rfl hi (by decide) dL_law_431 rfl ?_
  refine J_aload_n (i := 0) (p := 1) C dL_law_432 rfl rfl rfl ?_
  refine J_iload (i := 4) (p := 0) C dL_law_433 rfl rfl ?_
  refine J_iconst (v := 4) C (by decide) dL_law_435 rfl ?_
  refine J_iadd C dL_law_436 rfl ?_
  refine J_arg c 4 rfl hi (by decide) dL_law_437 rfl ?_
  refine J_aload_n (i := 3) (p := 4) C dL_law_438 rfl rfl rfl ?_
  refine Jl_cH (rest := []) (st9 := fun r => [.int r.1]) C ch_167 (hL_copyBlock c.2.1 h) rfl rfl (Nat.le_trans (by decide) c.2.2.2.2.2.2.1) (Nat.le_trans (by decide) c.2.2.2.2.2.2.2) (Nat.le_of_ble_eq_true rfl) ⟨by omega, by omega⟩ dL_law_439 rfl (fun _ => rfl) (fun r h => ?_)
  refine J_istoreE (i := 5) (x' := r.1) (lv' := [(5, .int r.1), (4, .int (Int32.ofNat i)), (0, .ref b), (1, .ref (K.2.2 + 0)), (2, .ref (K.2.2 + 2017)), (3, .ref (K.2.2 + 2054))]) C rfl dL_law_442 (Nat.le_of_ble_eq_true rfl) rfl rfl ?_
  refine J_aload_n (i := 2) (p := 4) C dL_law_444 rfl rfl rfl ?_
  refine J_aload_n (i := 0) (p := 2) C dL_law_445 rfl rfl rfl ?_
  refine J_iload (i := 4) (p := 1) C dL_law_446 rfl rfl ?_
  refine J_iconst (v := 1) C (by decide) dL_law_448 rfl ?_
  refine J_iadd C dL_law_449 rfl ?_
  refine J_arg c 1 rfl hi (by decide) dL_law_450 rfl ?_
  refine J_aload_n (i := 0) (p := 2) C dL_law_451 rfl rfl rfl ?_
  refine J_iload (i := 4) (p := 1) C dL_law_452 rfl rfl ?_
  refine J_iconst (v := 2) C (by decide) dL_law_454 rfl ?_
  refine J_iadd C dL_law_455 rfl ?_
  refine J_arg c 2 rfl hi (by decide) dL_law_456 rfl ?_
  refine J_aload_n (i := 0) (p := 2) C dL_law_457 rfl rfl rfl ?_
  refine J_iload (i := 4) (p := 1) C dL_law_458 rfl rfl ?_
  refine J_iconst (v := 3) C (by decide) dL_law_460 rfl ?_
  refine J_iadd C dL_law_461 rfl ?_
  refine J_arg c 3 rfl hi (by decide) dL_law_462 rfl ?_
  refine J_aload_n (i := 0) (p := 2) C dL_law_463 rfl rfl rfl ?_
  refine J_iload (i := 4) (p := 1) C dL_law_464 rfl rfl ?_
  refine J_iconst (v := 4) C (by decide) dL_law_466 rfl ?_
  refine J_iadd C dL_law_467 rfl ?_
  refine J_arg c 4 rfl hi (by decide) dL_law_468 rfl ?_
  refine Jl_mV (rest := []) (st9 := fun p => [.int p.1]) C cl_RL_170 rfl (Nat.le_of_ble_eq_true rfl) (k12_copyBlock c.2.1 h) rfl rfl (Nat.le_trans (by decide) c.2.2.2.2.2.2.1) (Nat.le_trans (by decide) c.2.2.2.2.2.2.2) (Nat.le_of_ble_eq_true rfl) ⟨by omega, by omega⟩ dL_law_469 rfl (fun _ => rfl) (fun p h => ?_)
  refine J_istoreE (i := 6) (x' := p.1) (lv' := [(6, .int p.1), (5, .int r.1), (4, .int (Int32.ofNat i)), (0, .ref b), (1, .ref (K.2.2 + 0)), (2, .ref (K.2.2 + 2017)), (3, .ref (K.2.2 + 2054))]) C rfl dL_law_472 (Nat.le_of_ble_eq_true rfl) rfl rfl ?_
  refine J_aload_n (i := 2) (p := 5) C dL_law_474 rfl rfl rfl ?_
  refine Jl_mV (rest := []) (st9 := fun t => [.int t]) C cl_RL_156 rfl (Nat.le_of_ble_eq_true rfl) (k12_thrown c.2.1 h) rfl rfl (Nat.le_trans (by decide) c.2.2.2.2.2.2.1) (Nat.le_trans (by decide) c.2.2.2.2.2.2.2) (Nat.le_of_ble_eq_true rfl) ⟨by omega, by omega⟩ dL_law_475 rfl (fun _ => rfl) (fun t h => ?_)
  obtain ⟨h1, h2, h3⟩ := h
  refine J_iload (i := 5) (p := 1) C dL_law_478 rfl rfl ?_
  refine J_icmp_eq (t := 485) C dL_law_480 (by decide) rfl (fun _ => ?_) (fun e => absurd h1 e)
  refine J_iload (i := 5) (p := 1) C dL_law_485 rfl rfl ?_
  refine J_if_ne (t := 502) C dL_law_487 (by decide) rfl (fun _ => ?_) (fun e => ?_)
  · refine J_goto (t := 2954) C dL_law_502 (by decide) ?_
    refine J.sub [2, 3, 4, 5, 6] rfl ?_
    exact J.widen (by omega) (by omega) (kont _ _ _ h3)
  · refine J_aload_n (i := 3) (p := 6) C dL_law_490 rfl rfl rfl ?_
    refine J_iconst (v := 0) C (by decide) dL_law_491 rfl ?_
    refine J_outld C dL_law_492 rfl ?_
    refine J_iload (i := 6) (p := 0) C dL_law_493 rfl rfl ?_
    refine J_i2l C dL_law_495 rfl ?_
    refine J_lcmp C dL_law_496 rfl ?_
    rw [show lg_cmp r.2.2 p.1.toInt64 = 0 from by rw [h2 (Decidable.not_not.mp e)]; exact lg_cmp_self]
    refine J_if_eq (t := 502) C dL_law_497 (by decide) rfl (fun _ => ?_) (fun e => absurd rfl e)
    refine J_goto (t := 2954) C dL_law_502 (by decide) ?_
    refine J.sub [2, 3, 4, 5, 6] rfl ?_
    exact J.widen (by omega) (by omega) (kont _ _ _ h3)
theorem ch_171 : CH RL 171 yL_type cL_type 3 (some .int) [(0, 8, 11, 15)] 2 := ⟨tw_755, tw_81, tw_757, tw_756, by decide +kernel, by decide +kernel, by decide +kernel⟩
theorem cl_RL_174 : CV RL 174 11 yX12_type cX12_type 1 (some .int) 0 := ⟨⟨tw_1561, tw_93, tw_1564, by decide +kernel, by decide +kernel, by decide +kernel⟩, tw_1563, tw_1562, TX12, 56, rfl⟩
abbrev s_4 (xs : Nat → Int32) (i : Nat) (σ μ : Sto) (o : Int64) (Q : Sto → Sto → Int64 → Prop) : Prop := stH (f11_type σ) [(3, 1)] o (f12_type μ) Q
set_option maxHeartbeats 1000000 in
theorem case_4 {X : JX} {K : JK} {b L : Nat} {xs : Nat → Int32} {Q : State → Prop} {k sl : Nat} {σ μ : Sto} {o : Int64} {i : Nat} {Q9 : Sto → Sto → Int64 → Prop} (c : LC X K b L xs) (hi : i + 5 ≤ L) (hk : k + 8 ≤ X.2.2.2.1.cells) (hs : sl + 48 ≤ X.2.2.2.1.slots) (h : s_4 xs i σ μ o Q9) (kont : ∀ σ9 μ9 o9, Q9 σ9 μ9 o9 → J X K 9 False Q (k + 8) (sl + 48) 2055 (jw K σ9 μ9 o9) 2954 [(4, .int (Int32.ofNat i)), (0, .ref b), (1, .ref (K.2.2 + 0)), (2, .ref (K.2.2 + 2017)), (3, .ref (K.2.2 + 2054))] []) : J X K 9 False Q k sl 2055 (jw K σ μ o) 505 [(4, .int (Int32.ofNat i)), (0, .ref b), (1, .ref (K.2.2 + 0)), (2, .ref (K.2.2 + 2017)), (3, .ref (K.2.2 + 2054))] [] := by
  have C := c.1
  refine J_aload_n (i := 1) (p := 2) C dL_law_505 rfl rfl rfl ?_
  refine J_aload_n (i := 3) (p := 4) C dL_law_506 rfl rfl rfl ?_
  refine Jl_cH (rest := []) (st9 := fun r => [.int r.1]) C ch_171 (hL_type c.2.1 h) rfl rfl (Nat.le_trans (by decide) c.2.2.2.2.2.2.1) (Nat.le_trans (by decide) c.2.2.2.2.2.2.2) (Nat.le_of_ble_eq_true rfl) ⟨by omega, by omega⟩ dL_law_507 rfl (fun _ => rfl) (fun r h => ?_)
  refine J_istoreE (i := 5) (x' := r.1) (lv' := [(5, .int r.1), (4, .int (Int32.ofNat i)), (0, .ref b), (1, .ref (K.2.2 + 0)), (2, .ref (K.2.2 + 2017)), (3, .ref (K.2.2 + 2054))]) C rfl dL_law_510 (Nat.le_of_ble_eq_true rfl) rfl rfl ?_
  refine J_aload_n (i := 2) (p := 4) C dL_law_512 rfl rfl rfl ?_
  refine Jl_mV (rest := []) (st9 := fun p => [.int p.1]) C cl_RL_174 rfl (Nat.le_of_ble_eq_true rfl) (k12_type c.2.1 h) rfl rfl (Nat.le_trans (by decide) c.2.2.2.2.2.2.1) (Nat.le_trans (by decide) c.2.2.2.2.2.2.2) (Nat.le_of_ble_eq_true rfl) ⟨by omega, by omega⟩ dL_law_513 rfl (fun _ => rfl) (fun p h => ?_)
  refine J_istoreE (i := 6) (x' := p.1) (lv' := [(6, .int p.1), (5, .int r.1), (4, .int (Int32.ofNat i)), (0, .ref b), (1, .ref (K.2.2 + 0)), (2, .ref (K.2.2 + 2017)), (3, .ref (K.2.2 + 2054))]) C rfl dL_law_516 (Nat.le_of_ble_eq_true rfl) rfl rfl ?_
  refine J_aload_n (i := 2) (p := 5) C dL_law_518 rfl rfl rfl ?_
  refine Jl_mV (rest := []) (st9 := fun t => [.int t]) C cl_RL_156 rfl (Nat.le_of_ble_eq_true rfl) (k12_thrown c.2.1 h) rfl rfl (Nat.le_trans (by decide) c.2.2.2.2.2.2.1) (Nat.le_trans (by decide) c.2.2.2.2.2.2.2) (Nat.le_of_ble_eq_true rfl) ⟨by omega, by omega⟩ dL_law_519 rfl (fun _ => rfl) (fun t h => ?_)
  obtain ⟨h1, h2, h3⟩ := h
  refine J_iload (i := 5) (p := 1) C dL_law_522 rfl rfl ?_
  refine J_icmp_eq (t := 529) C dL_law_524 (by decide) rfl (fun _ => ?_) (fun e => absurd h1 e)
  refine J_iload (i := 5) (p := 1) C dL_law_529 rfl rfl ?_
  refine J_if_ne (t := 546) C dL_law_531 (by decide) rfl (fun _ => ?_) (fun e => ?_)
  · refine J_goto (t := 2954) C dL_law_546 (by decide) ?_
    refine J.sub [2, 3, 4, 5, 6] rfl ?_
    exact J.widen (by omega) (by omega) (kont _ _ _ h3)
  · refine J_aload_n (i := 3) (p := 6) C dL_law_534 rfl rfl rfl ?_
    refine J_iconst (v := 0) C (by decide) dL_law_535 rfl ?_
    refine J_outld C dL_law_536 rfl ?_
    refine J_iload (i := 6) (p := 0) C dL_law_537 rfl rfl ?_
    refine J_i2l C dL_law_539 rfl ?_
    refine J_lcmp C dL_law_540 rfl ?_
    rw [show lg_cmp r.2.2 p.1.toInt64 = 0 from by rw [h2 (Decidable.not_not.mp e)]; exact lg_cmp_self]
    refine J_if_eq (t := 546) C dL_law_541 (by decide) rfl (fun _ => ?_) (fun e => absurd rfl e)
    refine J_goto (t := 2954) C dL_law_546 (by decide) ?_
    refine J.sub [2, 3, 4, 5, 6] rfl ?_
    exact J.widen (by omega) (by omega) (kont _ _ _ h3)
theorem ch_175 : CH RL 175 yL_erase cL_erase 4 (some .int) [(0, 9, 12, 13), (0, 9, 15, 15)] 3 := ⟨tw_851, tw_81, tw_853, tw_852, by decide +kernel, by decide +kernel, by decide +kernel⟩
theorem cl_RL_178 : CV RL 178 11 yX12_erase cX12_erase 2 (some .int) 1 := ⟨⟨tw_1627, tw_93, tw_1630, by decide +kernel, by decide +kernel, by decide +kernel⟩, tw_1629, tw_1628, TX12, 56, rfl⟩
abbrev s_5 (xs : Nat → Int32) (i : Nat) (σ μ : Sto) (o : Int64) (Q : Sto → Sto → Int64 → Prop) : Prop := stH (f11_erase σ (xs (i + 1))) [(2, 1), (3, 2)] o (f12_erase μ (xs (i + 1))) Q
set_option maxHeartbeats 1000000 in
theorem case_5 {X : JX} {K : JK} {b L : Nat} {xs : Nat → Int32} {Q : State → Prop} {k sl : Nat} {σ μ : Sto} {o : Int64} {i : Nat} {Q9 : Sto → Sto → Int64 → Prop} (c : LC X K b L xs) (hi : i + 5 ≤ L) (hk : k + 8 ≤ X.2.2.2.1.cells) (hs : sl + 48 ≤ X.2.2.2.1.slots) (h : s_5 xs i σ μ o Q9) (kont : ∀ σ9 μ9 o9, Q9 σ9 μ9 o9 → J X K 9 False Q (k + 8) (sl + 48) 2055 (jw K σ9 μ9 o9) 2954 [(4, .int (Int32.ofNat i)), (0, .ref b), (1, .ref (K.2.2 + 0)), (2, .ref (K.2.2 + 2017)), (3, .ref (K.2.2 + 2054))] []) : J X K 9 False Q k sl 2055 (jw K σ μ o) 549 [(4, .int (Int32.ofNat i)), (0, .ref b), (1, .ref (K.2.2 + 0)), (2, .ref (K.2.2 + 2017)), (3, .ref (K.2.2 + 2054))] [] := by
  have C := c.1
  refine J_aload_n (i := 1) (p := 2) C dL_law_549 rfl rfl rfl ?_
  refine J_aload_n (i := 0) (p := 1) C dL_law_550 rfl rfl rfl ?_
  refine J_iload (i := 4) (p := 0) C dL_law_551 rfl rfl ?_
  refine J_iconst (v := 1) C (by decide) dL_law_553 rfl ?_
  refine J_iadd C dL_law_554 rfl ?_
  refine J_arg c 1 rfl hi (by decide) dL_law_555 rfl ?_
  refine J_aload_n (i := 3) (p := 4) C dL_law_556 rfl rfl rfl ?_
  refine Jl_cH (rest := []) (st9 := fun r => [.int r.1]) C ch_175 (hL_erase c.2.1 h) rfl rfl (Nat.le_trans (by decide) c.2.2.2.2.2.2.1) (Nat.le_trans (by decide) c.2.2.2.2.2.2.2) (Nat.le_of_ble_eq_true rfl) ⟨by omega, by omega⟩ dL_law_557 rfl (fun _ => rfl) (fun r h => ?_)
  refine J_istoreE (i := 5) (x' := r.1) (lv' := [(5, .int r.1), (4, .int (Int32.ofNat i)), (0, .ref b), (1, .ref (K.2.2 + 0)), (2, .ref (K.2.2 + 2017)), (3, .ref (K.2.2 + 2054))]) C rfl dL_law_560 (Nat.le_of_ble_eq_true rfl) rfl rfl ?_
  refine J_aload_n (i := 2) (p := 4) C dL_law_562 rfl rfl rfl ?_
  refine J_aload_n (i := 0) (p := 2) C dL_law_563 rfl rfl rfl ?_
  refine J_iload (i := 4) (p := 1) C dL_law_564 rfl rfl ?_
  refine J_iconst (v := 1) C (by decide) dL_law_566 rfl ?_
  refine J_iadd C dL_law_567 rfl ?_
  refine J_arg c 1 rfl hi (by decide) dL_law_568 rfl ?_
  refine Jl_mV (rest := []) (st9 := fun p => [.int p.1]) C cl_RL_178 rfl (Nat.le_of_ble_eq_true rfl) (k12_erase c.2.1 h) rfl rfl (Nat.le_trans (by decide) c.2.2.2.2.2.2.1) (Nat.le_trans (by decide) c.2.2.2.2.2.2.2) (Nat.le_of_ble_eq_true rfl) ⟨by omega, by omega⟩ dL_law_569 rfl (fun _ => rfl) (fun p h => ?_)
  refine J_istoreE (i := 6) (x' := p.1) (lv' := [(6, .int p.1), (5, .int r.1), (4, .int (Int32.ofNat i)), (0, .ref b), (1, .ref (K.2.2 + 0)), (2, .ref (K.2.2 + 2017)), (3, .ref (K.2.2 + 2054))]) C rfl dL_law_572 (Nat.le_of_ble_eq_true rfl) rfl rfl ?_
  refine J_aload_n (i := 2) (p := 5) C dL_law_574 rfl rfl rfl ?_
  refine Jl_mV (rest := []) (st9 := fun t => [.int t]) C cl_RL_156 rfl (Nat.le_of_ble_eq_true rfl) (k12_thrown c.2.1 h) rfl rfl (Nat.le_trans (by decide) c.2.2.2.2.2.2.1) (Nat.le_trans (by decide) c.2.2.2.2.2.2.2) (Nat.le_of_ble_eq_true rfl) ⟨by omega, by omega⟩ dL_law_575 rfl (fun _ => rfl) (fun t h => ?_)
  obtain ⟨h1, h2, h3⟩ := h
  refine J_iload (i := 5) (p := 1) C dL_law_578 rfl rfl ?_
  refine J_icmp_eq (t := 585) C dL_law_580 (by decide) rfl (fun _ => ?_) (fun e => absurd h1 e)
  refine J_iload (i := 5) (p := 1) C dL_law_585 rfl rfl ?_
  refine J_if_ne (t := 602) C dL_law_587 (by decide) rfl (fun _ => ?_) (fun e => ?_)
  · refine J_goto (t := 2954) C dL_law_602 (by decide) ?_
    refine J.sub [2, 3, 4, 5, 6] rfl ?_
    exact J.widen (by omega) (by omega) (kont _ _ _ h3)
  · refine J_aload_n (i := 3) (p := 6) C dL_law_590 rfl rfl rfl ?_
    refine J_iconst (v := 0) C (by decide) dL_law_591 rfl ?_
    refine J_outld C dL_law_592 rfl ?_
    refine J_iload (i := 6) (p := 0) C dL_law_593 rfl rfl ?_
    refine J_i2l C dL_law_595 rfl ?_
    refine J_lcmp C dL_law_596 rfl ?_
    rw [show lg_cmp r.2.2 p.1.toInt64 = 0 from by rw [h2 (Decidable.not_not.mp e)]; exact lg_cmp_self]
    refine J_if_eq (t := 602) C dL_law_597 (by decide) rfl (fun _ => ?_) (fun e => absurd rfl e)
    refine J_goto (t := 2954) C dL_law_602 (by decide) ?_
    refine J.sub [2, 3, 4, 5, 6] rfl ?_
    exact J.widen (by omega) (by omega) (kont _ _ _ h3)
theorem ch_179 : CH RL 179 yL_replace cL_replace 5 (some .int) [(0, 10, 13, 21), (0, 10, 17, 13), (0, 10, 21, 15)] 4 := ⟨tw_868, tw_81, tw_870, tw_869, by decide +kernel, by decide +kernel, by decide +kernel⟩
theorem cl_RL_181 : CV RL 181 11 yX12_replace cX12_replace 3 (some .int) 2 := ⟨⟨tw_1641, tw_93, tw_1644, by decide +kernel, by decide +kernel, by decide +kernel⟩, tw_1643, tw_1642, TX12, 56, rfl⟩
abbrev s_6 (xs : Nat → Int32) (i : Nat) (σ μ : Sto) (o : Int64) (Q : Sto → Sto → Int64 → Prop) : Prop := stH (f11_replace σ (xs (i + 1)) (xs (i + 2))) [(1, 1), (2, 2), (3, 3)] o (f12_replace μ (xs (i + 1)) (xs (i + 2))) Q
set_option maxHeartbeats 1000000 in
theorem case_6 {X : JX} {K : JK} {b L : Nat} {xs : Nat → Int32} {Q : State → Prop} {k sl : Nat} {σ μ : Sto} {o : Int64} {i : Nat} {Q9 : Sto → Sto → Int64 → Prop} (c : LC X K b L xs) (hi : i + 5 ≤ L) (hk : k + 8 ≤ X.2.2.2.1.cells) (hs : sl + 48 ≤ X.2.2.2.1.slots) (h : s_6 xs i σ μ o Q9) (kont : ∀ σ9 μ9 o9, Q9 σ9 μ9 o9 → J X K 9 False Q (k + 8) (sl + 48) 2055 (jw K σ9 μ9 o9) 2954 [(4, .int (Int32.ofNat i)), (0, .ref b), (1, .ref (K.2.2 + 0)), (2, .ref (K.2.2 + 2017)), (3, .ref (K.2.2 + 2054))] []) : J X K 9 False Q k sl 2055 (jw K σ μ o) 605 [(4, .int (Int32.ofNat i)), (0, .ref b), (1, .ref (K.2.2 + 0)), (2, .ref (K.2.2 + 2017)), (3, .ref (K.2.2 + 2054))] [] := by
  have C := c.1
  refine J_aload_n (i := 1) (p := 2) C dL_law_605 rfl rfl rfl ?_
  refine J_aload_n (i := 0) (p := 1) C dL_law_606 rfl rfl rfl ?_
  refine J_iload (i := 4) (p := 0) C dL_law_607 rfl rfl ?_
  refine J_iconst (v := 1) C (by decide) dL_law_609 rfl ?_
  refine J_iadd C dL_law_610 rfl ?_
  refine J_arg c 1 rfl hi (by decide) dL_law_611 rfl ?_
  refine J_aload_n (i := 0) (p := 1) C dL_law_612 rfl rfl rfl ?_
  refine J_iload (i := 4) (p := 0) C dL_law_613 rfl rfl ?_
  refine J_iconst (v := 2) C (by decide) dL_law_615 rfl ?_
  refine J_iadd C dL_law_616 rfl ?_
  refine J_arg c 2 rfl hi (by decide) dL_law_617 rfl ?_
  refine J_aload_n (i := 3) (p := 4) C dL_law_618 rfl rfl rfl ?_
  refine Jl_cH (rest := []) (st9 := fun r => [.int r.1]) C ch_179 (hL_replace c.2.1 h) rfl rfl (Nat.le_trans (by decide) c.2.2.2.2.2.2.1) (Nat.le_trans (by decide) c.2.2.2.2.2.2.2) (Nat.le_of_ble_eq_true rfl) ⟨by omega, by omega⟩ dL_law_619 rfl (fun _ => rfl) (fun r h => ?_)
  refine J_istoreE (i := 5) (x' := r.1) (lv' := [(5, .int r.1), (4, .int (Int32.ofNat i)), (0, .ref b), (1, .ref (K.2.2 + 0)), (2, .ref (K.2.2 + 2017)), (3, .ref (K.2.2 + 2054))]) C rfl dL_law_622 (Nat.le_of_ble_eq_true rfl) rfl rfl ?_
  refine J_aload_n (i := 2) (p := 4) C dL_law_624 rfl rfl rfl ?_
  refine J_aload_n (i := 0) (p := 2) C dL_law_625 rfl rfl rfl ?_
  refine J_iload (i := 4) (p := 1) C dL_law_626 rfl rfl ?_
  refine J_iconst (v := 1) C (by decide) dL_law_628 rfl ?_
  refine J_iadd C dL_law_629 rfl ?_
  refine J_arg c 1 rfl hi (by decide) dL_law_630 rfl ?_
  refine J_aload_n (i := 0) (p := 2) C dL_law_631 rfl rfl rfl ?_
  refine J_iload (i := 4) (p := 1) C dL_law_632 rfl rfl ?_
  refine J_iconst (v := 2) C (by decide) dL_law_634 rfl ?_
  refine J_iadd C dL_law_635 rfl ?_
  refine J_arg c 2 rfl hi (by decide) dL_law_636 rfl ?_
  refine Jl_mV (rest := []) (st9 := fun p => [.int p.1]) C cl_RL_181 rfl (Nat.le_of_ble_eq_true rfl) (k12_replace c.2.1 h) rfl rfl (Nat.le_trans (by decide) c.2.2.2.2.2.2.1) (Nat.le_trans (by decide) c.2.2.2.2.2.2.2) (Nat.le_of_ble_eq_true rfl) ⟨by omega, by omega⟩ dL_law_637 rfl (fun _ => rfl) (fun p h => ?_)
  refine J_istoreE (i := 6) (x' := p.1) (lv' := [(6, .int p.1), (5, .int r.1), (4, .int (Int32.ofNat i)), (0, .ref b), (1, .ref (K.2.2 + 0)), (2, .ref (K.2.2 + 2017)), (3, .ref (K.2.2 + 2054))]) C rfl dL_law_640 (Nat.le_of_ble_eq_true rfl) rfl rfl ?_
  refine J_aload_n (i := 2) (p := 5) C dL_law_642 rfl rfl rfl ?_
  refine Jl_mV (rest := []) (st9 := fun t => [.int t]) C cl_RL_156 rfl (Nat.le_of_ble_eq_true rfl) (k12_thrown c.2.1 h) rfl rfl (Nat.le_trans (by decide) c.2.2.2.2.2.2.1) (Nat.le_trans (by decide) c.2.2.2.2.2.2.2) (Nat.le_of_ble_eq_true rfl) ⟨by omega, by omega⟩ dL_law_643 rfl (fun _ => rfl) (fun t h => ?_)
  obtain ⟨h1, h2, h3⟩ := h
  refine J_iload (i := 5) (p := 1) C dL_law_646 rfl rfl ?_
  refine J_icmp_eq (t := 653) C dL_law_648 (by decide) rfl (fun _ => ?_) (fun e => absurd h1 e)
  refine J_iload (i := 5) (p := 1) C dL_law_653 rfl rfl ?_
  refine J_if_ne (t := 670) C dL_law_655 (by decide) rfl (fun _ => ?_) (fun e => ?_)
  · refine J_goto (t := 2954) C dL_law_670 (by decide) ?_
    refine J.sub [2, 3, 4, 5, 6] rfl ?_
    exact J.widen (by omega) (by omega) (kont _ _ _ h3)
  · refine J_aload_n (i := 3) (p := 6) C dL_law_658 rfl rfl rfl ?_
    refine J_iconst (v := 0) C (by decide) dL_law_659 rfl ?_
    refine J_outld C dL_law_660 rfl ?_
    refine J_iload (i := 6) (p := 0) C dL_law_661 rfl rfl ?_
    refine J_i2l C dL_law_663 rfl ?_
    refine J_lcmp C dL_law_664 rfl ?_
    rw [show lg_cmp r.2.2 p.1.toInt64 = 0 from by rw [h2 (Decidable.not_not.mp e)]; exact lg_cmp_self]
    refine J_if_eq (t := 670) C dL_law_665 (by decide) rfl (fun _ => ?_) (fun e => absurd rfl e)
    refine J_goto (t := 2954) C dL_law_670 (by decide) ?_
    refine J.sub [2, 3, 4, 5, 6] rfl ?_
    exact J.widen (by omega) (by omega) (kont _ _ _ h3)
theorem ch_182 : CH RL 182 yL_cut cL_cut 5 (some .int) [(0, 10, 13, 21), (0, 10, 17, 13), (0, 10, 21, 15)] 4 := ⟨tw_875, tw_81, tw_877, tw_876, by decide +kernel, by decide +kernel, by decide +kernel⟩
theorem cl_RL_184 : CV RL 184 11 yX12_cut cX12_cut 4 (some .int) 2 := ⟨⟨tw_1645, tw_93, tw_1648, by decide +kernel, by decide +kernel, by decide +kernel⟩, tw_1647, tw_1646, TX12, 56, rfl⟩
abbrev s_7 (xs : Nat → Int32) (i : Nat) (σ μ : Sto) (o : Int64) (Q : Sto → Sto → Int64 → Prop) : Prop := stH (f11_cut σ (xs (i + 1)) (xs (i + 2))) [(1, 1), (2, 2), (3, 3)] o (f12_cut μ (xs (i + 1)) (xs (i + 2))) Q
set_option maxHeartbeats 1000000 in
theorem case_7 {X : JX} {K : JK} {b L : Nat} {xs : Nat → Int32} {Q : State → Prop} {k sl : Nat} {σ μ : Sto} {o : Int64} {i : Nat} {Q9 : Sto → Sto → Int64 → Prop} (c : LC X K b L xs) (hi : i + 5 ≤ L) (hk : k + 8 ≤ X.2.2.2.1.cells) (hs : sl + 48 ≤ X.2.2.2.1.slots) (h : s_7 xs i σ μ o Q9) (kont : ∀ σ9 μ9 o9, Q9 σ9 μ9 o9 → J X K 9 False Q (k + 8) (sl + 48) 2055 (jw K σ9 μ9 o9) 2954 [(4, .int (Int32.ofNat i)), (0, .ref b), (1, .ref (K.2.2 + 0)), (2, .ref (K.2.2 + 2017)), (3, .ref (K.2.2 + 2054))] []) : J X K 9 False Q k sl 2055 (jw K σ μ o) 673 [(4, .int (Int32.ofNat i)), (0, .ref b), (1, .ref (K.2.2 + 0)), (2, .ref (K.2.2 + 2017)), (3, .ref (K.2.2 + 2054))] [] := by
  have C := c.1
  refine J_aload_n (i := 1) (p := 2) C dL_law_673 rfl rfl rfl ?_
  refine J_aload_n (i := 0) (p := 1) C dL_law_674 rfl rfl rfl ?_
  refine J_iload (i := 4) (p := 0) C dL_law_675 rfl rfl ?_
  refine J_iconst (v := 1) C (by decide) dL_law_677 rfl ?_
  refine J_iadd C dL_law_678 rfl ?_
  refine J_arg c 1 rfl hi (by decide) dL_law_679 rfl ?_
  refine J_aload_n (i := 0) (p := 1) C dL_law_680 rfl rfl rfl ?_
  refine J_iload (i := 4) (p := 0) C dL_law_681 rfl rfl ?_
  refine J_iconst (v := 2) C (by decide) dL_law_683 rfl ?_
  refine J_iadd C dL_law_684 rfl ?_
  refine J_arg c 2 rfl hi (by decide) dL_law_685 rfl ?_
  refine J_aload_n (i := 3) (p := 4) C dL_law_686 rfl rfl rfl ?_
  refine Jl_cH (rest := []) (st9 := fun r => [.int r.1]) C ch_182 (hL_cut c.2.1 h) rfl rfl (Nat.le_trans (by decide) c.2.2.2.2.2.2.1) (Nat.le_trans (by decide) c.2.2.2.2.2.2.2) (Nat.le_of_ble_eq_true rfl) ⟨by omega, by omega⟩ dL_law_687 rfl (fun _ => rfl) (fun r h => ?_)
  refine J_istoreE (i := 5) (x' := r.1) (lv' := [(5, .int r.1), (4, .int (Int32.ofNat i)), (0, .ref b), (1, .ref (K.2.2 + 0)), (2, .ref (K.2.2 + 2017)), (3, .ref (K.2.2 + 2054))]) C rfl dL_law_690 (Nat.le_of_ble_eq_true rfl) rfl rfl ?_
  refine J_aload_n (i := 2) (p := 4) C dL_law_692 rfl rfl rfl ?_
  refine J_aload_n (i := 0) (p := 2) C dL_law_693 rfl rfl rfl ?_
  refine J_iload (i := 4) (p := 1) C dL_law_694 rfl rfl ?_
  refine J_iconst (v := 1) C (by decide) dL_law_696 rfl ?_
  refine J_iadd C dL_law_697 rfl ?_
  refine J_arg c 1 rfl hi (by decide) dL_law_698 rfl ?_
  refine J_aload_n (i := 0) (p := 2) C dL_law_699 rfl rfl rfl ?_
  refine J_iload (i := 4) (p := 1) C dL_law_700 rfl rfl ?_
  refine J_iconst (v := 2) C (by decide) dL_law_702 rfl ?_
  refine J_iadd C dL_law_703 rfl ?_
  refine J_arg c 2 rfl hi (by decide) dL_law_704 rfl ?_
  refine Jl_mV (rest := []) (st9 := fun p => [.int p.1]) C cl_RL_184 rfl (Nat.le_of_ble_eq_true rfl) (k12_cut c.2.1 h) rfl rfl (Nat.le_trans (by decide) c.2.2.2.2.2.2.1) (Nat.le_trans (by decide) c.2.2.2.2.2.2.2) (Nat.le_of_ble_eq_true rfl) ⟨by omega, by omega⟩ dL_law_705 rfl (fun _ => rfl) (fun p h => ?_)
  refine J_istoreE (i := 6) (x' := p.1) (lv' := [(6, .int p.1), (5, .int r.1), (4, .int (Int32.ofNat i)), (0, .ref b), (1, .ref (K.2.2 + 0)), (2, .ref (K.2.2 + 2017)), (3, .ref (K.2.2 + 2054))]) C rfl dL_law_708 (Nat.le_of_ble_eq_true rfl) rfl rfl ?_
  refine J_aload_n (i := 2) (p := 5) C dL_law_710 rfl rfl rfl ?_
  refine Jl_mV (rest := []) (st9 := fun t => [.int t]) C cl_RL_156 rfl (Nat.le_of_ble_eq_true rfl) (k12_thrown c.2.1 h) rfl rfl (Nat.le_trans (by decide) c.2.2.2.2.2.2.1) (Nat.le_trans (by decide) c.2.2.2.2.2.2.2) (Nat.le_of_ble_eq_true rfl) ⟨by omega, by omega⟩ dL_law_711 rfl (fun _ => rfl) (fun t h => ?_)
  obtain ⟨h1, h2, h3⟩ := h
  refine J_iload (i := 5) (p := 1) C dL_law_714 rfl rfl ?_
  refine J_icmp_eq (t := 721) C dL_law_716 (by decide) rfl (fun _ => ?_) (fun e => absurd h1 e)
  refine J_iload (i := 5) (p := 1) C dL_law_721 rfl rfl ?_
  refine J_if_ne (t := 738) C dL_law_723 (by decide) rfl (fun _ => ?_) (fun e => ?_)
  · refine J_goto (t := 2954) C dL_law_738 (by decide) ?_
    refine J.sub [2, 3, 4, 5, 6] rfl ?_
    exact J.widen (by omega) (by omega) (kont _ _ _ h3)
  · refine J_aload_n (i := 3) (p := 6) C dL_law_726 rfl rfl rfl ?_
    refine J_iconst (v := 0) C (by decide) dL_law_727 rfl ?_
    refine J_outld C dL_law_728 rfl ?_
    refine J_iload (i := 6) (p := 0) C dL_law_729 rfl rfl ?_
    refine J_i2l C dL_law_731 rfl ?_
    refine J_lcmp C dL_law_732 rfl ?_
    rw [show lg_cmp r.2.2 p.1.toInt64 = 0 from by rw [h2 (Decidable.not_not.mp e)]; exact lg_cmp_self]
    refine J_if_eq (t := 738) C dL_law_733 (by decide) rfl (fun _ => ?_) (fun e => absurd rfl e)
    refine J_goto (t := 2954) C dL_law_738 (by decide) ?_
    refine J.sub [2, 3, 4, 5, 6] rfl ?_
    exact J.widen (by omega) (by omega) (kont _ _ _ h3)
theorem ch_185 : CH RL 185 yL_paste cL_paste 3 (some .int) [(0, 8, 11, 15)] 2 := ⟨tw_882, tw_81, tw_884, tw_883, by decide +kernel, by decide +kernel, by decide +kernel⟩
theorem cl_RL_187 : CV RL 187 11 yX12_paste cX12_paste 1 (some .int) 0 := ⟨⟨tw_1649, tw_93, tw_1652, by decide +kernel, by decide +kernel, by decide +kernel⟩, tw_1651, tw_1650, TX12, 56, rfl⟩
abbrev s_8 (xs : Nat → Int32) (i : Nat) (σ μ : Sto) (o : Int64) (Q : Sto → Sto → Int64 → Prop) : Prop := stH (f11_paste σ) [(3, 1)] o (f12_paste μ) Q
set_option maxHeartbeats 1000000 in
theorem case_8 {X : JX} {K : JK} {b L : Nat} {xs : Nat → Int32} {Q : State → Prop} {k sl : Nat} {σ μ : Sto} {o : Int64} {i : Nat} {Q9 : Sto → Sto → Int64 → Prop} (c : LC X K b L xs) (hi : i + 5 ≤ L) (hk : k + 8 ≤ X.2.2.2.1.cells) (hs : sl + 48 ≤ X.2.2.2.1.slots) (h : s_8 xs i σ μ o Q9) (kont : ∀ σ9 μ9 o9, Q9 σ9 μ9 o9 → J X K 9 False Q (k + 8) (sl + 48) 2055 (jw K σ9 μ9 o9) 2954 [(4, .int (Int32.ofNat i)), (0, .ref b), (1, .ref (K.2.2 + 0)), (2, .ref (K.2.2 + 2017)), (3, .ref (K.2.2 + 2054))] []) : J X K 9 False Q k sl 2055 (jw K σ μ o) 741 [(4, .int (Int32.ofNat i)), (0, .ref b), (1, .ref (K.2.2 + 0)), (2, .ref (K.2.2 + 2017)), (3, .ref (K.2.2 + 2054))] [] := by
  have C := c.1
  refine J_aload_n (i := 1) (p := 2) C dL_law_741 rfl rfl rfl ?_
  refine J_aload_n (i := 3) (p := 4) C dL_law_742 rfl rfl rfl ?_
  refine Jl_cH (rest := []) (st9 := fun r => [.int r.1]) C ch_185 (hL_paste c.2.1 h) rfl rfl (Nat.le_trans (by decide) c.2.2.2.2.2.2.1) (Nat.le_trans (by decide) c.2.2.2.2.2.2.2) (Nat.le_of_ble_eq_true rfl) ⟨by omega, by omega⟩ dL_law_743 rfl (fun _ => rfl) (fun r h => ?_)
  refine J_istoreE (i := 5) (x' := r.1) (lv' := [(5, .int r.1), (4, .int (Int32.ofNat i)), (0, .ref b), (1, .ref (K.2.2 + 0)), (2, .ref (K.2.2 + 2017)), (3, .ref (K.2.2 + 2054))]) C rfl dL_law_746 (Nat.le_of_ble_eq_true rfl) rfl rfl ?_
  refine J_aload_n (i := 2) (p := 4) C dL_law_748 rfl rfl rfl ?_
  refine Jl_mV (rest := []) (st9 := fun p => [.int p.1]) C cl_RL_187 rfl (Nat.le_of_ble_eq_true rfl) (k12_paste c.2.1 h) rfl rfl (Nat.le_trans (by decide) c.2.2.2.2.2.2.1) (Nat.le_trans (by decide) c.2.2.2.2.2.2.2) (Nat.le_of_ble_eq_true rfl) ⟨by omega, by omega⟩ dL_law_749 rfl (fun _ => rfl) (fun p h => ?_)
  refine J_istoreE (i := 6) (x' := p.1) (lv' := [(6, .int p.1), (5, .int r.1), (4, .int (Int32.ofNat i)), (0, .ref b), (1, .ref (K.2.2 + 0)), (2, .ref (K.2.2 + 2017)), (3, .ref (K.2.2 + 2054))]) C rfl dL_law_752 (Nat.le_of_ble_eq_true rfl) rfl rfl ?_
  refine J_aload_n (i := 2) (p := 5) C dL_law_754 rfl rfl rfl ?_
  refine Jl_mV (rest := []) (st9 := fun t => [.int t]) C cl_RL_156 rfl (Nat.le_of_ble_eq_true rfl) (k12_thrown c.2.1 h) rfl rfl (Nat.le_trans (by decide) c.2.2.2.2.2.2.1) (Nat.le_trans (by decide) c.2.2.2.2.2.2.2) (Nat.le_of_ble_eq_true rfl) ⟨by omega, by omega⟩ dL_law_755 rfl (fun _ => rfl) (fun t h => ?_)
  obtain ⟨h1, h2, h3⟩ := h
  refine J_iload (i := 5) (p := 1) C dL_law_758 rfl rfl ?_
  refine J_icmp_eq (t := 765) C dL_law_760 (by decide) rfl (fun _ => ?_) (fun e => absurd h1 e)
  refine J_iload (i := 5) (p := 1) C dL_law_765 rfl rfl ?_
  refine J_if_ne (t := 782) C dL_law_767 (by decide) rfl (fun _ => ?_) (fun e => ?_)
  · refine J_goto (t := 2954) C dL_law_782 (by decide) ?_
    refine J.sub [2, 3, 4, 5, 6] rfl ?_
    exact J.widen (by omega) (by omega) (kont _ _ _ h3)
  · refine J_aload_n (i := 3) (p := 6) C dL_law_770 rfl rfl rfl ?_
    refine J_iconst (v := 0) C (by decide) dL_law_771 rfl ?_
    refine J_outld C dL_law_772 rfl ?_
    refine J_iload (i := 6) (p := 0) C dL_law_773 rfl rfl ?_
    refine J_i2l C dL_law_775 rfl ?_
    refine J_lcmp C dL_law_776 rfl ?_
    rw [show lg_cmp r.2.2 p.1.toInt64 = 0 from by rw [h2 (Decidable.not_not.mp e)]; exact lg_cmp_self]
    refine J_if_eq (t := 782) C dL_law_777 (by decide) rfl (fun _ => ?_) (fun e => absurd rfl e)
    refine J_goto (t := 2954) C dL_law_782 (by decide) ?_
    refine J.sub [2, 3, 4, 5, 6] rfl ?_
    exact J.widen (by omega) (by omega) (kont _ _ _ h3)
theorem ch_188 : CH RL 188 yL_indent cL_indent 6 (some .int) [(0, 12, 15, 21), (0, 12, 19, 13), (0, 12, 23, 15)] 5 := ⟨tw_913, tw_81, tw_915, tw_914, by decide +kernel, by decide +kernel, by decide +kernel⟩
theorem cl_RL_191 : CV RL 191 11 yX12_indent cX12_indent 7 (some .int) 3 := ⟨⟨tw_1665, tw_93, tw_1668, by decide +kernel, by decide +kernel, by decide +kernel⟩, tw_1667, tw_1666, TX12, 56, rfl⟩
abbrev s_9 (xs : Nat → Int32) (i : Nat) (σ μ : Sto) (o : Int64) (Q : Sto → Sto → Int64 → Prop) : Prop := stH (f11_indent σ (xs (i + 1)) (xs (i + 2)) (xs (i + 3))) [(1, 1), (2, 2), (3, 3)] o (f12_indent μ (xs (i + 1)) (xs (i + 2)) (xs (i + 3))) Q
set_option maxHeartbeats 1000000 in
theorem case_9 {X : JX} {K : JK} {b L : Nat} {xs : Nat → Int32} {Q : State → Prop} {k sl : Nat} {σ μ : Sto} {o : Int64} {i : Nat} {Q9 : Sto → Sto → Int64 → Prop} (c : LC X K b L xs) (hi : i + 5 ≤ L) (hk : k + 8 ≤ X.2.2.2.1.cells) (hs : sl + 48 ≤ X.2.2.2.1.slots) (h : s_9 xs i σ μ o Q9) (kont : ∀ σ9 μ9 o9, Q9 σ9 μ9 o9 → J X K 9 False Q (k + 8) (sl + 48) 2055 (jw K σ9 μ9 o9) 2954 [(4, .int (Int32.ofNat i)), (0, .ref b), (1, .ref (K.2.2 + 0)), (2, .ref (K.2.2 + 2017)), (3, .ref (K.2.2 + 2054))] []) : J X K 9 False Q k sl 2055 (jw K σ μ o) 785 [(4, .int (Int32.ofNat i)), (0, .ref b), (1, .ref (K.2.2 + 0)), (2, .ref (K.2.2 + 2017)), (3, .ref (K.2.2 + 2054))] [] := by
  have C := c.1
  refine J_aload_n (i := 1) (p := 2) C dL_law_785 rfl rfl rfl ?_
  refine J_aload_n (i := 0) (p := 1) C dL_law_786 rfl rfl rfl ?_
  refine J_iload (i := 4) (p := 0) C dL_law_787 rfl rfl ?_
  refine J_iconst (v := 1) C (by decide) dL_law_789 rfl ?_
  refine J_iadd C dL_law_790 rfl ?_
  refine J_arg c 1 rfl hi (by decide) dL_law_791 rfl ?_
  refine J_aload_n (i := 0) (p := 1) C dL_law_792 rfl rfl rfl ?_
  refine J_iload (i := 4) (p := 0) C dL_law_793 rfl rfl ?_
  refine J_iconst (v := 2) C (by decide) dL_law_795 rfl ?_
  refine J_iadd C dL_law_796 rfl ?_
  refine J_arg c 2 rfl hi (by decide) dL_law_797 rfl ?_
  refine J_aload_n (i := 0) (p := 1) C dL_law_798 rfl rfl rfl ?_
  refine J_iload (i := 4) (p := 0) C dL_law_799 rfl rfl ?_
  refine J_iconst (v := 3) C (by decide) dL_law_801 rfl ?_
  refine J_iadd C dL_law_802 rfl ?_
  refine J_arg c 3 rfl hi (by decide) dL_law_803 rfl ?_
  refine J_aload_n (i := 3) (p := 4) C dL_law_804 rfl rfl rfl ?_
  refine Jl_cH (rest := []) (st9 := fun r => [.int r.1]) C ch_188 (hL_indent c.2.1 h) rfl rfl (Nat.le_trans (by decide) c.2.2.2.2.2.2.1) (Nat.le_trans (by decide) c.2.2.2.2.2.2.2) (Nat.le_of_ble_eq_true rfl) ⟨by omega, by omega⟩ dL_law_805 rfl (fun _ => rfl) (fun r h => ?_)
  refine J_istoreE (i := 5) (x' := r.1) (lv' := [(5, .int r.1), (4, .int (Int32.ofNat i)), (0, .ref b), (1, .ref (K.2.2 + 0)), (2, .ref (K.2.2 + 2017)), (3, .ref (K.2.2 + 2054))]) C rfl dL_law_808 (Nat.le_of_ble_eq_true rfl) rfl rfl ?_
  refine J_aload_n (i := 2) (p := 4) C dL_law_810 rfl rfl rfl ?_
  refine J_aload_n (i := 0) (p := 2) C dL_law_811 rfl rfl rfl ?_
  refine J_iload (i := 4) (p := 1) C dL_law_812 rfl rfl ?_
  refine J_iconst (v := 1) C (by decide) dL_law_814 rfl ?_
  refine J_iadd C dL_law_815 rfl ?_
  refine J_arg c 1 rfl hi (by decide) dL_law_816 rfl ?_
  refine J_aload_n (i := 0) (p := 2) C dL_law_817 rfl rfl rfl ?_
  refine J_iload (i := 4) (p := 1) C dL_law_818 rfl rfl ?_
  refine J_iconst (v := 2) C (by decide) dL_law_820 rfl ?_
  refine J_iadd C dL_law_821 rfl ?_
  refine J_arg c 2 rfl hi (by decide) dL_law_822 rfl ?_
  refine J_aload_n (i := 0) (p := 2) C dL_law_823 rfl rfl rfl ?_
  refine J_iload (i := 4) (p := 1) C dL_law_824 rfl rfl ?_
  refine J_iconst (v := 3) C (by decide) dL_law_826 rfl ?_
  refine J_iadd C dL_law_827 rfl ?_
  refine J_arg c 3 rfl hi (by decide) dL_law_828 rfl ?_
  refine Jl_mV (rest := []) (st9 := fun p => [.int p.1]) C cl_RL_191 rfl (Nat.le_of_ble_eq_true rfl) (k12_indent c.2.1 h) rfl rfl (Nat.le_trans (by decide) c.2.2.2.2.2.2.1) (Nat.le_trans (by decide) c.2.2.2.2.2.2.2) (Nat.le_of_ble_eq_true rfl) ⟨by omega, by omega⟩ dL_law_829 rfl (fun _ => rfl) (fun p h => ?_)
  refine J_istoreE (i := 6) (x' := p.1) (lv' := [(6, .int p.1), (5, .int r.1), (4, .int (Int32.ofNat i)), (0, .ref b), (1, .ref (K.2.2 + 0)), (2, .ref (K.2.2 + 2017)), (3, .ref (K.2.2 + 2054))]) C rfl dL_law_832 (Nat.le_of_ble_eq_true rfl) rfl rfl ?_
  refine J_aload_n (i := 2) (p := 5) C dL_law_834 rfl rfl rfl ?_
  refine Jl_mV (rest := []) (st9 := fun t => [.int t]) C cl_RL_156 rfl (Nat.le_of_ble_eq_true rfl) (k12_thrown c.2.1 h) rfl rfl (Nat.le_trans (by decide) c.2.2.2.2.2.2.1) (Nat.le_trans (by decide) c.2.2.2.2.2.2.2) (Nat.le_of_ble_eq_true rfl) ⟨by omega, by omega⟩ dL_law_835 rfl (fun _ => rfl) (fun t h => ?_)
  obtain ⟨h1, h2, h3⟩ := h
  refine J_iload (i := 5) (p := 1) C dL_law_838 rfl rfl ?_
  refine J_icmp_eq (t := 845) C dL_law_840 (by decide) rfl (fun _ => ?_) (fun e => absurd h1 e)
  refine J_iload (i := 5) (p := 1) C dL_law_845 rfl rfl ?_
  refine J_if_ne (t := 862) C dL_law_847 (by decide) rfl (fun _ => ?_) (fun e => ?_)
  · refine J_goto (t := 2954) C dL_law_862 (by decide) ?_
    refine J.sub [2, 3, 4, 5, 6] rfl ?_
    exact J.widen (by omega) (by omega) (kont _ _ _ h3)
  · refine J_aload_n (i := 3) (p := 6) C dL_law_850 rfl rfl rfl ?_
    refine J_iconst (v := 0) C (by decide) dL_law_851 rfl ?_
    refine J_outld C dL_law_852 rfl ?_
    refine J_iload (i := 6) (p := 0) C dL_law_853 rfl rfl ?_
    refine J_i2l C dL_law_855 rfl ?_
    refine J_lcmp C dL_law_856 rfl ?_
    rw [show lg_cmp r.2.2 p.1.toInt64 = 0 from by rw [h2 (Decidable.not_not.mp e)]; exact lg_cmp_self]
    refine J_if_eq (t := 862) C dL_law_857 (by decide) rfl (fun _ => ?_) (fun e => absurd rfl e)
    refine J_goto (t := 2954) C dL_law_862 (by decide) ?_
    refine J.sub [2, 3, 4, 5, 6] rfl ?_
    exact J.widen (by omega) (by omega) (kont _ _ _ h3)
theorem ch_192 : CH RL 192 yL_wrap cL_wrap 5 (some .int) [(0, 10, 13, 21), (0, 10, 17, 13), (0, 10, 21, 15)] 4 := ⟨tw_934, tw_81, tw_936, tw_935, by decide +kernel, by decide +kernel, by decide +kernel⟩
theorem cl_RL_194 : CV RL 194 11 yX12_wrap cX12_wrap 7 (some .int) 2 := ⟨⟨tw_1672, tw_93, tw_1675, by decide +kernel, by decide +kernel, by decide +kernel⟩, tw_1674, tw_1673, TX12, 56, rfl⟩
abbrev s_10 (xs : Nat → Int32) (i : Nat) (σ μ : Sto) (o : Int64) (Q : Sto → Sto → Int64 → Prop) : Prop := stH (f11_wrap σ (xs (i + 1)) (xs (i + 2))) [(1, 1), (2, 2), (3, 3)] o (f12_wrap μ (xs (i + 1)) (xs (i + 2))) Q
set_option maxHeartbeats 1000000 in
theorem case_10 {X : JX} {K : JK} {b L : Nat} {xs : Nat → Int32} {Q : State → Prop} {k sl : Nat} {σ μ : Sto} {o : Int64} {i : Nat} {Q9 : Sto → Sto → Int64 → Prop} (c : LC X K b L xs) (hi : i + 5 ≤ L) (hk : k + 8 ≤ X.2.2.2.1.cells) (hs : sl + 48 ≤ X.2.2.2.1.slots) (h : s_10 xs i σ μ o Q9) (kont : ∀ σ9 μ9 o9, Q9 σ9 μ9 o9 → J X K 9 False Q (k + 8) (sl + 48) 2055 (jw K σ9 μ9 o9) 2954 [(4, .int (Int32.ofNat i)), (0, .ref b), (1, .ref (K.2.2 + 0)), (2, .ref (K.2.2 + 2017)), (3, .ref (K.2.2 + 2054))] []) : J X K 9 False Q k sl 2055 (jw K σ μ o) 865 [(4, .int (Int32.ofNat i)), (0, .ref b), (1, .ref (K.2.2 + 0)), (2, .ref (K.2.2 + 2017)), (3, .ref (K.2.2 + 2054))] [] := by
  have C := c.1
  refine J_aload_n (i := 1) (p := 2) C dL_law_865 rfl rfl rfl ?_
  refine J_aload_n (i := 0) (p := 1) C dL_law_866 rfl rfl rfl ?_
  refine J_iload (i := 4) (p := 0) C dL_law_867 rfl rfl ?_
  refine J_iconst (v := 1) C (by decide) dL_law_869 rfl ?_
  refine J_iadd C dL_law_870 rfl ?_
  refine J_arg c 1 rfl hi (by decide) dL_law_871 rfl ?_
  refine J_aload_n (i := 0) (p := 1) C dL_law_872 rfl rfl rfl ?_
  refine J_iload (i := 4) (p := 0) C dL_law_873 rfl rfl ?_
  refine J_iconst (v := 2) C (by decide) dL_law_875 rfl ?_
  refine J_iadd C dL_law_876 rfl ?_
  refine J_arg c 2 rfl hi (by decide) dL_law_877 rfl ?_
  refine J_aload_n (i := 3) (p := 4) C dL_law_878 rfl rfl rfl ?_
  refine Jl_cH (rest := []) (st9 := fun r => [.int r.1]) C ch_192 (hL_wrap c.2.1 h) rfl rfl (Nat.le_trans (by decide) c.2.2.2.2.2.2.1) (Nat.le_trans (by decide) c.2.2.2.2.2.2.2) (Nat.le_of_ble_eq_true rfl) ⟨by omega, by omega⟩ dL_law_879 rfl (fun _ => rfl) (fun r h => ?_)
  refine J_istoreE (i := 5) (x' := r.1) (lv' := [(5, .int r.1), (4, .int (Int32.ofNat i)), (0, .ref b), (1, .ref (K.2.2 + 0)), (2, .ref (K.2.2 + 2017)), (3, .ref (K.2.2 + 2054))]) C rfl dL_law_882 (Nat.le_of_ble_eq_true rfl) rfl rfl ?_
  refine J_aload_n (i := 2) (p := 4) C dL_law_884 rfl rfl rfl ?_
  refine J_aload_n (i := 0) (p := 2) C dL_law_885 rfl rfl rfl ?_
  refine J_iload (i := 4) (p := 1) C dL_law_886 rfl rfl ?_
  refine J_iconst (v := 1) C (by decide) dL_law_888 rfl ?_
  refine J_iadd C dL_law_889 rfl ?_
  refine J_arg c 1 rfl hi (by decide) dL_law_890 rfl ?_
  refine J_aload_n (i := 0) (p := 2) C dL_law_891 rfl rfl rfl ?_
  refine J_iload (i := 4) (p := 1) C dL_law_892 rfl rfl ?_
  refine J_iconst (v := 2) C (by decide) dL_law_894 rfl ?_
  refine J_iadd C dL_law_895 rfl ?_
  refine J_arg c 2 rfl hi (by decide) dL_law_896 rfl ?_
  refine Jl_mV (rest := []) (st9 := fun p => [.int p.1]) C cl_RL_194 rfl (Nat.le_of_ble_eq_true rfl) (k12_wrap c.2.1 h) rfl rfl (Nat.le_trans (by decide) c.2.2.2.2.2.2.1) (Nat.le_trans (by decide) c.2.2.2.2.2.2.2) (Nat.le_of_ble_eq_true rfl) ⟨by omega, by omega⟩ dL_law_897 rfl (fun _ => rfl) (fun p h => ?_)
  refine J_istoreE (i := 6) (x' := p.1) (lv' := [(6, .int p.1), (5, .int r.1), (4, .int (Int32.ofNat i)), (0, .ref b), (1, .ref (K.2.2 + 0)), (2, .ref (K.2.2 + 2017)), (3, .ref (K.2.2 + 2054))]) C rfl dL_law_900 (Nat.le_of_ble_eq_true rfl) rfl rfl ?_
  refine J_aload_n (i := 2) (p := 5) C dL_law_902 rfl rfl rfl ?_
  refine Jl_mV (rest := []) (st9 := fun t => [.int t]) C cl_RL_156 rfl (Nat.le_of_ble_eq_true rfl) (k12_thrown c.2.1 h) rfl rfl (Nat.le_trans (by decide) c.2.2.2.2.2.2.1) (Nat.le_trans (by decide) c.2.2.2.2.2.2.2) (Nat.le_of_ble_eq_true rfl) ⟨by omega, by omega⟩ dL_law_903 rfl (fun _ => rfl) (fun t h => ?_)
  obtain ⟨h1, h2, h3⟩ := h
  refine J_iload (i := 5) (p := 1) C dL_law_906 rfl rfl ?_
  refine J_icmp_eq (t := 913) C dL_law_908 (by decide) rfl (fun _ => ?_) (fun e => absurd h1 e)
  refine J_iload (i := 5) (p := 1) C dL_law_913 rfl rfl ?_
  refine J_if_ne (t := 930) C dL_law_915 (by decide) rfl (fun _ => ?_) (fun e => ?_)
  · refine J_goto (t := 2954) C dL_law_930 (by decide) ?_
    refine J.sub [2, 3, 4, 5, 6] rfl ?_
    exact J.widen (by omega) (by omega) (kont _ _ _ h3)
  · refine J_aload_n (i := 3) (p := 6) C dL_law_918 rfl rfl rfl ?_
    refine J_iconst (v := 0) C (by decide) dL_law_919 rfl ?_
    refine J_outld C dL_law_920 rfl ?_
    refine J_iload (i := 6) (p := 0) C dL_law_921 rfl rfl ?_
    refine J_i2l C dL_law_923 rfl ?_
    refine J_lcmp C dL_law_924 rfl ?_
    rw [show lg_cmp r.2.2 p.1.toInt64 = 0 from by rw [h2 (Decidable.not_not.mp e)]; exact lg_cmp_self]
    refine J_if_eq (t := 930) C dL_law_925 (by decide) rfl (fun _ => ?_) (fun e => absurd rfl e)
    refine J_goto (t := 2954) C dL_law_930 (by decide) ?_
    refine J.sub [2, 3, 4, 5, 6] rfl ?_
    exact J.widen (by omega) (by omega) (kont _ _ _ h3)
theorem ch_195 : CH RL 195 yL_joinLines cL_joinLines 5 (some .int) [(0, 10, 13, 21), (0, 10, 17, 13), (0, 10, 21, 15)] 4 := ⟨tw_946, tw_81, tw_948, tw_947, by decide +kernel, by decide +kernel, by decide +kernel⟩
theorem cl_RL_197 : CV RL 197 11 yX12_joinLines cX12_joinLines 6 (some .int) 2 := ⟨⟨tw_1676, tw_93, tw_1679, by decide +kernel, by decide +kernel, by decide +kernel⟩, tw_1678, tw_1677, TX12, 56, rfl⟩
abbrev s_11 (xs : Nat → Int32) (i : Nat) (σ μ : Sto) (o : Int64) (Q : Sto → Sto → Int64 → Prop) : Prop := stH (f11_joinLines σ (xs (i + 1)) (xs (i + 2))) [(1, 1), (2, 2), (3, 3)] o (f12_joinLines μ (xs (i + 1)) (xs (i + 2))) Q
set_option maxHeartbeats 1000000 in
theorem case_11 {X : JX} {K : JK} {b L : Nat} {xs : Nat → Int32} {Q : State → Prop} {k sl : Nat} {σ μ : Sto} {o : Int64} {i : Nat} {Q9 : Sto → Sto → Int64 → Prop} (c : LC X K b L xs) (hi : i + 5 ≤ L) (hk : k + 8 ≤ X.2.2.2.1.cells) (hs : sl + 48 ≤ X.2.2.2.1.slots) (h : s_11 xs i σ μ o Q9) (kont : ∀ σ9 μ9 o9, Q9 σ9 μ9 o9 → J X K 9 False Q (k + 8) (sl + 48) 2055 (jw K σ9 μ9 o9) 2954 [(4, .int (Int32.ofNat i)), (0, .ref b), (1, .ref (K.2.2 + 0)), (2, .ref (K.2.2 + 2017)), (3, .ref (K.2.2 + 2054))] []) : J X K 9 False Q k sl 2055 (jw K σ μ o) 933 [(4, .int (Int32.ofNat i)), (0, .ref b), (1, .ref (K.2.2 + 0)), (2, .ref (K.2.2 + 2017)), (3, .ref (K.2.2 + 2054))] [] := by
  have C := c.1
  refine J_aload_n (i := 1) (p := 2) C dL_law_933 rfl rfl rfl ?_
  refine J_aload_n (i := 0) (p := 1) C dL_law_934 rfl rfl rfl ?_
  refine J_iload (i := 4) (p := 0) C dL_law_935 rfl rfl ?_
  refine J_iconst (v := 1) C (by decide) dL_law_937 rfl ?_
  refine J_iadd C dL_law_938 rfl ?_
  refine J_arg c 1 rfl hi (by decide) dL_law_939 rfl ?_
  refine J_aload_n (i := 0) (p := 1) C dL_law_940 rfl rfl rfl ?_
  refine J_iload (i := 4) (p := 0) C dL_law_941 rfl rfl ?_
  refine J_iconst (v := 2) C (by decide) dL_law_943 rfl ?_
  refine J_iadd C dL_law_944 rfl ?_
  refine J_arg c 2 rfl hi (by decide) dL_law_945 rfl ?_
  refine J_aload_n (i := 3) (p := 4) C dL_law_946 rfl rfl rfl ?_
  refine Jl_cH (rest := []) (st9 := fun r => [.int r.1]) C ch_195 (hL_joinLines c.2.1 h) rfl rfl (Nat.le_trans (by decide) c.2.2.2.2.2.2.1) (Nat.le_trans (by decide) c.2.2.2.2.2.2.2) (Nat.le_of_ble_eq_true rfl) ⟨by omega, by omega⟩ dL_law_947 rfl (fun _ => rfl) (fun r h => ?_)
  refine J_istoreE (i := 5) (x' := r.1) (lv' := [(5, .int r.1), (4, .int (Int32.ofNat i)), (0, .ref b), (1, .ref (K.2.2 + 0)), (2, .ref (K.2.2 + 2017)), (3, .ref (K.2.2 + 2054))]) C rfl dL_law_950 (Nat.le_of_ble_eq_true rfl) rfl rfl ?_
  refine J_aload_n (i := 2) (p := 4) C dL_law_952 rfl rfl rfl ?_
  refine J_aload_n (i := 0) (p := 2) C dL_law_953 rfl rfl rfl ?_
  refine J_iload (i := 4) (p := 1) C dL_law_954 rfl rfl ?_
  refine J_iconst (v := 1) C (by decide) dL_law_956 rfl ?_
  refine J_iadd C dL_law_957 rfl ?_
  refine J_arg c 1 rfl hi (by decide) dL_law_958 rfl ?_
  refine J_aload_n (i := 0) (p := 2) C dL_law_959 rfl rfl rfl ?_
  refine J_iload (i := 4) (p := 1) C dL_law_960 rfl rfl ?_
  refine J_iconst (v := 2) C (by decide) dL_law_962 rfl ?_
  refine J_iadd C dL_law_963 rfl ?_
  refine J_arg c 2 rfl hi (by decide) dL_law_964 rfl ?_
  refine Jl_mV (rest := []) (st9 := fun p => [.int p.1]) C cl_RL_197 rfl (Nat.le_of_ble_eq_true rfl) (k12_joinLines c.2.1 h) rfl rfl (Nat.le_trans (by decide) c.2.2.2.2.2.2.1) (Nat.le_trans (by decide) c.2.2.2.2.2.2.2) (Nat.le_of_ble_eq_true rfl) ⟨by omega, by omega⟩ dL_law_965 rfl (fun _ => rfl) (fun p h => ?_)
  refine J_istoreE (i := 6) (x' := p.1) (lv' := [(6, .int p.1), (5, .int r.1), (4, .int (Int32.ofNat i)), (0, .ref b), (1, .ref (K.2.2 + 0)), (2, .ref (K.2.2 + 2017)), (3, .ref (K.2.2 + 2054))]) C rfl dL_law_968 (Nat.le_of_ble_eq_true rfl) rfl rfl ?_
  refine J_aload_n (i := 2) (p := 5) C dL_law_970 rfl rfl rfl ?_
  refine Jl_mV (rest := []) (st9 := fun t => [.int t]) C cl_RL_156 rfl (Nat.le_of_ble_eq_true rfl) (k12_thrown c.2.1 h) rfl rfl (Nat.le_trans (by decide) c.2.2.2.2.2.2.1) (Nat.le_trans (by decide) c.2.2.2.2.2.2.2) (Nat.le_of_ble_eq_true rfl) ⟨by omega, by omega⟩ dL_law_971 rfl (fun _ => rfl) (fun t h => ?_)
  obtain ⟨h1, h2, h3⟩ := h
  refine J_iload (i := 5) (p := 1) C dL_law_974 rfl rfl ?_
  refine J_icmp_eq (t := 981) C dL_law_976 (by decide) rfl (fun _ => ?_) (fun e => absurd h1 e)
  refine J_iload (i := 5) (p := 1) C dL_law_981 rfl rfl ?_
  refine J_if_ne (t := 998) C dL_law_983 (by decide) rfl (fun _ => ?_) (fun e => ?_)
  · refine J_goto (t := 2954) C dL_law_998 (by decide) ?_
    refine J.sub [2, 3, 4, 5, 6] rfl ?_
    exact J.widen (by omega) (by omega) (kont _ _ _ h3)
  · refine J_aload_n (i := 3) (p := 6) C dL_law_986 rfl rfl rfl ?_
    refine J_iconst (v := 0) C (by decide) dL_law_987 rfl ?_
    refine J_outld C dL_law_988 rfl ?_
    refine J_iload (i := 6) (p := 0) C dL_law_989 rfl rfl ?_
    refine J_i2l C dL_law_991 rfl ?_
    refine J_lcmp C dL_law_992 rfl ?_
    rw [show lg_cmp r.2.2 p.1.toInt64 = 0 from by rw [h2 (Decidable.not_not.mp e)]; exact lg_cmp_self]
    refine J_if_eq (t := 998) C dL_law_993 (by decide) rfl (fun _ => ?_) (fun e => absurd rfl e)
    refine J_goto (t := 2954) C dL_law_998 (by decide) ?_
    refine J.sub [2, 3, 4, 5, 6] rfl ?_
    exact J.widen (by omega) (by omega) (kont _ _ _ h3)
theorem ch_198 : CH RL 198 yL_replaceNext cL_replaceNext 3 (some .int) [(0, 8, 11, 15)] 2 := ⟨tw_953, tw_81, tw_955, tw_954, by decide +kernel, by decide +kernel, by decide +kernel⟩
theorem cl_RL_200 : CV RL 200 11 yX12_replaceNext cX12_replaceNext 2 (some .int) 0 := ⟨⟨tw_1699, tw_93, tw_1702, by decide +kernel, by decide +kernel, by decide +kernel⟩, tw_1701, tw_1700, TX12, 56, rfl⟩
abbrev s_12 (xs : Nat → Int32) (i : Nat) (σ μ : Sto) (o : Int64) (Q : Sto → Sto → Int64 → Prop) : Prop := stH (f11_replaceNext σ) [(3, 1)] o (f12_replaceNext μ) Q
set_option maxHeartbeats 1000000 in
theorem case_12 {X : JX} {K : JK} {b L : Nat} {xs : Nat → Int32} {Q : State → Prop} {k sl : Nat} {σ μ : Sto} {o : Int64} {i : Nat} {Q9 : Sto → Sto → Int64 → Prop} (c : LC X K b L xs) (hi : i + 5 ≤ L) (hk : k + 8 ≤ X.2.2.2.1.cells) (hs : sl + 48 ≤ X.2.2.2.1.slots) (h : s_12 xs i σ μ o Q9) (kont : ∀ σ9 μ9 o9, Q9 σ9 μ9 o9 → J X K 9 False Q (k + 8) (sl + 48) 2055 (jw K σ9 μ9 o9) 2954 [(4, .int (Int32.ofNat i)), (0, .ref b), (1, .ref (K.2.2 + 0)), (2, .ref (K.2.2 + 2017)), (3, .ref (K.2.2 + 2054))] []) : J X K 9 False Q k sl 2055 (jw K σ μ o) 1001 [(4, .int (Int32.ofNat i)), (0, .ref b), (1, .ref (K.2.2 + 0)), (2, .ref (K.2.2 + 2017)), (3, .ref (K.2.2 + 2054))] [] := by
  have C := c.1
  refine J_aload_n (i := 1) (p := 2) C dL_law_1001 rfl rfl rfl ?_
  refine J_aload_n (i := 3) (p := 4) C dL_law_1002 rfl rfl rfl ?_
  refine Jl_cH (rest := []) (st9 := fun r => [.int r.1]) C ch_198 (hL_replaceNext c.2.1 h) rfl rfl (Nat.le_trans (by decide) c.2.2.2.2.2.2.1) (Nat.le_trans (by decide) c.2.2.2.2.2.2.2) (Nat.le_of_ble_eq_true rfl) ⟨by omega, by omega⟩ dL_law_1003 rfl (fun _ => rfl) (fun r h => ?_)
  refine J_istoreE (i := 5) (x' := r.1) (lv' := [(5, .int r.1), (4, .int (Int32.ofNat i)), (0, .ref b), (1, .ref (K.2.2 + 0)), (2, .ref (K.2.2 + 2017)), (3, .ref (K.2.2 + 2054))]) C rfl dL_law_1006 (Nat.le_of_ble_eq_true rfl) rfl rfl ?_
  refine J_aload_n (i := 2) (p := 4) C dL_law_1008 rfl rfl rfl ?_
  refine Jl_mV (rest := []) (st9 := fun p => [.int p.1]) C cl_RL_200 rfl (Nat.le_of_ble_eq_true rfl) (k12_replaceNext c.2.1 h) rfl rfl (Nat.le_trans (by decide) c.2.2.2.2.2.2.1) (Nat.le_trans (by decide) c.2.2.2.2.2.2.2) (Nat.le_of_ble_eq_true rfl) ⟨by omega, by omega⟩ dL_law_1009 rfl (fun _ => rfl) (fun p h => ?_)
  refine J_istoreE (i := 6) (x' := p.1) (lv' := [(6, .int p.1), (5, .int r.1), (4, .int (Int32.ofNat i)), (0, .ref b), (1, .ref (K.2.2 + 0)), (2, .ref (K.2.2 + 2017)), (3, .ref (K.2.2 + 2054))]) C rfl dL_law_1012 (Nat.le_of_ble_eq_true rfl) rfl rfl ?_
  refine J_aload_n (i := 2) (p := 5) C dL_law_1014 rfl rfl rfl ?_
  refine Jl_mV (rest := []) (st9 := fun t => [.int t]) C cl_RL_156 rfl (Nat.le_of_ble_eq_true rfl) (k12_thrown c.2.1 h) rfl rfl (Nat.le_trans (by decide) c.2.2.2.2.2.2.1) (Nat.le_trans (by decide) c.2.2.2.2.2.2.2) (Nat.le_of_ble_eq_true rfl) ⟨by omega, by omega⟩ dL_law_1015 rfl (fun _ => rfl) (fun t h => ?_)
  obtain ⟨h1, h2, h3⟩ := h
  refine J_iload (i := 5) (p := 1) C dL_law_1018 rfl rfl ?_
  refine J_icmp_eq (t := 1025) C dL_law_1020 (by decide) rfl (fun _ => ?_) (fun e => absurd h1 e)
  refine J_iload (i := 5) (p := 1) C dL_law_1025 rfl rfl ?_
  refine J_if_ne (t := 1042) C dL_law_1027 (by decide) rfl (fun _ => ?_) (fun e => ?_)
  · refine J_goto (t := 2954) C dL_law_1042 (by decide) ?_
    refine J.sub [2, 3, 4, 5, 6] rfl ?_
    exact J.widen (by omega) (by omega) (kont _ _ _ h3)
  · refine J_aload_n (i := 3) (p := 6) C dL_law_1030 rfl rfl rfl ?_
    refine J_iconst (v := 0) C (by decide) dL_law_1031 rfl ?_
    refine J_outld C dL_law_1032 rfl ?_
    refine J_iload (i := 6) (p := 0) C dL_law_1033 rfl rfl ?_
    refine J_i2l C dL_law_1035 rfl ?_
    refine J_lcmp C dL_law_1036 rfl ?_
    rw [show lg_cmp r.2.2 p.1.toInt64 = 0 from by rw [h2 (Decidable.not_not.mp e)]; exact lg_cmp_self]
    refine J_if_eq (t := 1042) C dL_law_1037 (by decide) rfl (fun _ => ?_) (fun e => absurd rfl e)
    refine J_goto (t := 2954) C dL_law_1042 (by decide) ?_
    refine J.sub [2, 3, 4, 5, 6] rfl ?_
    exact J.widen (by omega) (by omega) (kont _ _ _ h3)
theorem ch_201 : CH RL 201 yL_replaceAll cL_replaceAll 3 (some .int) [(0, 8, 11, 15)] 2 := ⟨tw_981, tw_81, tw_983, tw_982, by decide +kernel, by decide +kernel, by decide +kernel⟩
theorem cl_RL_203 : CV RL 203 11 yX12_replaceAll cX12_replaceAll 3 (some .int) 0 := ⟨⟨tw_1707, tw_93, tw_1710, by decide +kernel, by decide +kernel, by decide +kernel⟩, tw_1709, tw_1708, TX12, 56, rfl⟩
abbrev s_13 (xs : Nat → Int32) (i : Nat) (σ μ : Sto) (o : Int64) (Q : Sto → Sto → Int64 → Prop) : Prop := stH (f11_replaceAll σ) [(3, 1)] o (f12_replaceAll μ) Q
set_option maxHeartbeats 1000000 in
theorem case_13 {X : JX} {K : JK} {b L : Nat} {xs : Nat → Int32} {Q : State → Prop} {k sl : Nat} {σ μ : Sto} {o : Int64} {i : Nat} {Q9 : Sto → Sto → Int64 → Prop} (c : LC X K b L xs) (hi : i + 5 ≤ L) (hk : k + 8 ≤ X.2.2.2.1.cells) (hs : sl + 48 ≤ X.2.2.2.1.slots) (h : s_13 xs i σ μ o Q9) (kont : ∀ σ9 μ9 o9, Q9 σ9 μ9 o9 → J X K 9 False Q (k + 8) (sl + 48) 2055 (jw K σ9 μ9 o9) 2954 [(4, .int (Int32.ofNat i)), (0, .ref b), (1, .ref (K.2.2 + 0)), (2, .ref (K.2.2 + 2017)), (3, .ref (K.2.2 + 2054))] []) : J X K 9 False Q k sl 2055 (jw K σ μ o) 1045 [(4, .int (Int32.ofNat i)), (0, .ref b), (1, .ref (K.2.2 + 0)), (2, .ref (K.2.2 + 2017)), (3, .ref (K.2.2 + 2054))] [] := by
  have C := c.1
  refine J_aload_n (i := 1) (p := 2) C dL_law_1045 rfl rfl rfl ?_
  refine J_aload_n (i := 3) (p := 4) C dL_law_1046 rfl rfl rfl ?_
  refine Jl_cH (rest := []) (st9 := fun r => [.int r.1]) C ch_201 (hL_replaceAll c.2.1 h) rfl rfl (Nat.le_trans (by decide) c.2.2.2.2.2.2.1) (Nat.le_trans (by decide) c.2.2.2.2.2.2.2) (Nat.le_of_ble_eq_true rfl) ⟨by omega, by omega⟩ dL_law_1047 rfl (fun _ => rfl) (fun r h => ?_)
  refine J_istoreE (i := 5) (x' := r.1) (lv' := [(5, .int r.1), (4, .int (Int32.ofNat i)), (0, .ref b), (1, .ref (K.2.2 + 0)), (2, .ref (K.2.2 + 2017)), (3, .ref (K.2.2 + 2054))]) C rfl dL_law_1050 (Nat.le_of_ble_eq_true rfl) rfl rfl ?_
  refine J_aload_n (i := 2) (p := 4) C dL_law_1052 rfl rfl rfl ?_
  refine Jl_mV (rest := []) (st9 := fun p => [.int p.1]) C cl_RL_203 rfl (Nat.le_of_ble_eq_true rfl) (k12_replaceAll c.2.1 h) rfl rfl (Nat.le_trans (by decide) c.2.2.2.2.2.2.1) (Nat.le_trans (by decide) c.2.2.2.2.2.2.2) (Nat.le_of_ble_eq_true rfl) ⟨by omega, by omega⟩ dL_law_1053 rfl (fun _ => rfl) (fun p h => ?_)
  refine J_istoreE (i := 6) (x' := p.1) (lv' := [(6, .int p.1), (5, .int r.1), (4, .int (Int32.ofNat i)), (0, .ref b), (1, .ref (K.2.2 + 0)), (2, .ref (K.2.2 + 2017)), (3, .ref (K.2.2 + 2054))]) C rfl dL_law_1056 (Nat.le_of_ble_eq_true rfl) rfl rfl ?_
  refine J_aload_n (i := 2) (p := 5) C dL_law_1058 rfl rfl rfl ?_
  refine Jl_mV (rest := []) (st9 := fun t => [.int t]) C cl_RL_156 rfl (Nat.le_of_ble_eq_true rfl) (k12_thrown c.2.1 h) rfl rfl (Nat.le_trans (by decide) c.2.2.2.2.2.2.1) (Nat.le_trans (by decide) c.2.2.2.2.2.2.2) (Nat.le_of_ble_eq_true rfl) ⟨by omega, by omega⟩ dL_law_1059 rfl (fun _ => rfl) (fun t h => ?_)
  obtain ⟨h1, h2, h3⟩ := h
  refine J_iload (i := 5) (p := 1) C dL_law_1062 rfl rfl ?_
  refine J_icmp_eq (t := 1069) C dL_law_1064 (by decide) rfl (fun _ => ?_) (fun e => absurd h1 e)
  refine J_iload (i := 5) (p := 1) C dL_law_1069 rfl rfl ?_
  refine J_if_ne (t := 1086) C dL_law_1071 (by decide) rfl (fun _ => ?_) (fun e => ?_)
  · refine J_goto (t := 2954) C dL_law_1086 (by decide) ?_
    refine J.sub [2, 3, 4, 5, 6] rfl ?_
    exact J.widen (by omega) (by omega) (kont _ _ _ h3)
  · refine J_aload_n (i := 3) (p := 6) C dL_law_1074 rfl rfl rfl ?_
    refine J_iconst (v := 0) C (by decide) dL_law_1075 rfl ?_
    refine J_outld C dL_law_1076 rfl ?_
    refine J_iload (i := 6) (p := 0) C dL_law_1077 rfl rfl ?_
    refine J_i2l C dL_law_1079 rfl ?_
    refine J_lcmp C dL_law_1080 rfl ?_
    rw [show lg_cmp r.2.2 p.1.toInt64 = 0 from by rw [h2 (Decidable.not_not.mp e)]; exact lg_cmp_self]
    refine J_if_eq (t := 1086) C dL_law_1081 (by decide) rfl (fun _ => ?_) (fun e => absurd rfl e)
    refine J_goto (t := 2954) C dL_law_1086 (by decide) ?_
    refine J.sub [2, 3, 4, 5, 6] rfl ?_
    exact J.widen (by omega) (by omega) (kont _ _ _ h3)
theorem ch_204 : CH RL 204 yL_undo cL_undo 4 (some .int) [(0, 9, 12, 13)] 3 := ⟨tw_988, tw_81, tw_990, tw_989, by decide +kernel, by decide +kernel, by decide +kernel⟩
theorem cl_RL_206 : CV RL 206 11 yX12_undo cX12_undo 3 (some .int) 1 := ⟨⟨tw_1711, tw_93, tw_1714, by decide +kernel, by decide +kernel, by decide +kernel⟩, tw_1713, tw_1712, TX12, 56, rfl⟩
abbrev s_14 (xs : Nat → Int32) (i : Nat) (σ μ : Sto) (o : Int64) (Q : Sto → Sto → Int64 → Prop) : Prop := stH (f11_undo σ (xs (i + 1))) [(2, 1)] o (f12_undo μ (xs (i + 1))) Q
set_option maxHeartbeats 1000000 in
theorem case_14 {X : JX} {K : JK} {b L : Nat} {xs : Nat → Int32} {Q : State → Prop} {k sl : Nat} {σ μ : Sto} {o : Int64} {i : Nat} {Q9 : Sto → Sto → Int64 → Prop} (c : LC X K b L xs) (hi : i + 5 ≤ L) (hk : k + 8 ≤ X.2.2.2.1.cells) (hs : sl + 48 ≤ X.2.2.2.1.slots) (h : s_14 xs i σ μ o Q9) (kont : ∀ σ9 μ9 o9, Q9 σ9 μ9 o9 → J X K 9 False Q (k + 8) (sl + 48) 2055 (jw K σ9 μ9 o9) 2954 [(4, .int (Int32.ofNat i)), (0, .ref b), (1, .ref (K.2.2 + 0)), (2, .ref (K.2.2 + 2017)), (3, .ref (K.2.2 + 2054))] []) : J X K 9 False Q k sl 2055 (jw K σ μ o) 1089 [(4, .int (Int32.ofNat i)), (0, .ref b), (1, .ref (K.2.2 + 0)), (2, .ref (K.2.2 + 2017)), (3, .ref (K.2.2 + 2054))] [] := by
  have C := c.1
  refine J_aload_n (i := 1) (p := 2) C dL_law_1089 rfl rfl rfl ?_
  refine J_aload_n (i := 0) (p := 1) C dL_law_1090 rfl rfl rfl ?_
  refine J_iload (i := 4) (p := 0) C dL_law_1091 rfl rfl ?_
  refine J_iconst (v := 1) C (by decide) dL_law_1093 rfl ?_
  refine J_iadd C dL_law_1094 rfl ?_
  refine J_arg c 1 rfl hi (by decide) dL_law_1095 rfl ?_
  refine J_aload_n (i := 3) (p := 4) C dL_law_1096 rfl rfl rfl ?_
  refine Jl_cH (rest := []) (st9 := fun r => [.int r.1]) C ch_204 (hL_undo c.2.1 h) rfl rfl (Nat.le_trans (by decide) c.2.2.2.2.2.2.1) (Nat.le_trans (by decide) c.2.2.2.2.2.2.2) (Nat.le_of_ble_eq_true rfl) ⟨by omega, by omega⟩ dL_law_1097 rfl (fun _ => rfl) (fun r h => ?_)
  refine J_istoreE (i := 5) (x' := r.1) (lv' := [(5, .int r.1), (4, .int (Int32.ofNat i)), (0, .ref b), (1, .ref (K.2.2 + 0)), (2, .ref (K.2.2 + 2017)), (3, .ref (K.2.2 + 2054))]) C rfl dL_law_1100 (Nat.le_of_ble_eq_true rfl) rfl rfl ?_
  refine J_aload_n (i := 2) (p := 4) C dL_law_1102 rfl rfl rfl ?_
  refine J_aload_n (i := 0) (p := 2) C dL_law_1103 rfl rfl rfl ?_
  refine J_iload (i := 4) (p := 1) C dL_law_1104 rfl rfl ?_
  refine J_iconst (v := 1) C (by decide) dL_law_1106 rfl ?_
  refine J_iadd C dL_law_1107 rfl ?_
  refine J_arg c 1 rfl hi (by decide) dL_law_1108 rfl ?_
  refine Jl_mV (rest := []) (st9 := fun p => [.int p.1]) C cl_RL_206 rfl (Nat.le_of_ble_eq_true rfl) (k12_undo c.2.1 h) rfl rfl (Nat.le_trans (by decide) c.2.2.2.2.2.2.1) (Nat.le_trans (by decide) c.2.2.2.2.2.2.2) (Nat.le_of_ble_eq_true rfl) ⟨by omega, by omega⟩ dL_law_1109 rfl (fun _ => rfl) (fun p h => ?_)
  refine J_istoreE (i := 6) (x' := p.1) (lv' := [(6, .int p.1), (5, .int r.1), (4, .int (Int32.ofNat i)), (0, .ref b), (1, .ref (K.2.2 + 0)), (2, .ref (K.2.2 + 2017)), (3, .ref (K.2.2 + 2054))]) C rfl dL_law_1112 (Nat.le_of_ble_eq_true rfl) rfl rfl ?_
  refine J_aload_n (i := 2) (p := 5) C dL_law_1114 rfl rfl rfl ?_
  refine Jl_mV (rest := []) (st9 := fun t => [.int t]) C cl_RL_156 rfl (Nat.le_of_ble_eq_true rfl) (k12_thrown c.2.1 h) rfl rfl (Nat.le_trans (by decide) c.2.2.2.2.2.2.1) (Nat.le_trans (by decide) c.2.2.2.2.2.2.2) (Nat.le_of_ble_eq_true rfl) ⟨by omega, by omega⟩ dL_law_1115 rfl (fun _ => rfl) (fun t h => ?_)
  obtain ⟨h1, h2, h3⟩ := h
  refine J_iload (i := 5) (p := 1) C dL_law_1118 rfl rfl ?_
  refine J_icmp_eq (t := 1125) C dL_law_1120 (by decide) rfl (fun _ => ?_) (fun e => absurd h1 e)
  refine J_iload (i := 5) (p := 1) C dL_law_1125 rfl rfl ?_
  refine J_if_ne (t := 1142) C dL_law_1127 (by decide) rfl (fun _ => ?_) (fun e => ?_)
  · refine J_goto (t := 2954) C dL_law_1142 (by decide) ?_
    refine J.sub [2, 3, 4, 5, 6] rfl ?_
    exact J.widen (by omega) (by omega) (kont _ _ _ h3)
  · refine J_aload_n (i := 3) (p := 6) C dL_law_1130 rfl rfl rfl ?_
    refine J_iconst (v := 0) C (by decide) dL_law_1131 rfl ?_
    refine J_outld C dL_law_1132 rfl ?_
    refine J_iload (i := 6) (p := 0) C dL_law_1133 rfl rfl ?_
    refine J_i2l C dL_law_1135 rfl ?_
    refine J_lcmp C dL_law_1136 rfl ?_
    rw [show lg_cmp r.2.2 p.1.toInt64 = 0 from by rw [h2 (Decidable.not_not.mp e)]; exact lg_cmp_self]
    refine J_if_eq (t := 1142) C dL_law_1137 (by decide) rfl (fun _ => ?_) (fun e => absurd rfl e)
    refine J_goto (t := 2954) C dL_law_1142 (by decide) ?_
    refine J.sub [2, 3, 4, 5, 6] rfl ?_
    exact J.widen (by omega) (by omega) (kont _ _ _ h3)
theorem ch_207 : CH RL 207 yL_redo cL_redo 4 (some .int) [(0, 9, 12, 13)] 3 := ⟨tw_995, tw_81, tw_997, tw_996, by decide +kernel, by decide +kernel, by decide +kernel⟩
theorem cl_RL_209 : CV RL 209 11 yX12_redo cX12_redo 3 (some .int) 1 := ⟨⟨tw_1726, tw_93, tw_1729, by decide +kernel, by decide +kernel, by decide +kernel⟩, tw_1728, tw_1727, TX12, 56, rfl⟩
abbrev s_15 (xs : Nat → Int32) (i : Nat) (σ μ : Sto) (o : Int64) (Q : Sto → Sto → Int64 → Prop) : Prop := stH (f11_redo σ (xs (i + 1))) [(2, 1)] o (f12_redo μ (xs (i + 1))) Q
set_option maxHeartbeats 1000000 in
theorem case_15 {X : JX} {K : JK} {b L : Nat} {xs : Nat → Int32} {Q : State → Prop} {k sl : Nat} {σ μ : Sto} {o : Int64} {i : Nat} {Q9 : Sto → Sto → Int64 → Prop} (c : LC X K b L xs) (hi : i + 5 ≤ L) (hk : k + 8 ≤ X.2.2.2.1.cells) (hs : sl + 48 ≤ X.2.2.2.1.slots) (h : s_15 xs i σ μ o Q9) (kont : ∀ σ9 μ9 o9, Q9 σ9 μ9 o9 → J X K 9 False Q (k + 8) (sl + 48) 2055 (jw K σ9 μ9 o9) 2954 [(4, .int (Int32.ofNat i)), (0, .ref b), (1, .ref (K.2.2 + 0)), (2, .ref (K.2.2 + 2017)), (3, .ref (K.2.2 + 2054))] []) : J X K 9 False Q k sl 2055 (jw K σ μ o) 1145 [(4, .int (Int32.ofNat i)), (0, .ref b), (1, .ref (K.2.2 + 0)), (2, .ref (K.2.2 + 2017)), (3, .ref (K.2.2 + 2054))] [] := by
  have C := c.1
  refine J_aload_n (i := 1) (p := 2) C dL_law_1145 rfl rfl rfl ?_
  refine J_aload_n (i := 0) (p := 1) C dL_law_1146 rfl rfl rfl ?_
  refine J_iload (i := 4) (p := 0) C dL_law_1147 rfl rfl ?_
  refine J_iconst (v := 1) C (by decide) dL_law_1149 rfl ?_
  refine J_iadd C dL_law_1150 rfl ?_
  refine J_arg c 1 rfl hi (by decide) dL_law_1151 rfl ?_
  refine J_aload_n (i := 3) (p := 4) C dL_law_1152 rfl rfl rfl ?_
  refine Jl_cH (rest := []) (st9 := fun r => [.int r.1]) C ch_207 (hL_redo c.2.1 h) rfl rfl (Nat.le_trans (by decide) c.2.2.2.2.2.2.1) (Nat.le_trans (by decide) c.2.2.2.2.2.2.2) (Nat.le_of_ble_eq_true rfl) ⟨by omega, by omega⟩ dL_law_1153 rfl (fun _ => rfl) (fun r h => ?_)
  refine J_istoreE (i := 5) (x' := r.1) (lv' := [(5, .int r.1), (4, .int (Int32.ofNat i)), (0, .ref b), (1, .ref (K.2.2 + 0)), (2, .ref (K.2.2 + 2017)), (3, .ref (K.2.2 + 2054))]) C rfl dL_law_1156 (Nat.le_of_ble_eq_true rfl) rfl rfl ?_
  refine J_aload_n (i := 2) (p := 4) C dL_law_1158 rfl rfl rfl ?_
  refine J_aload_n (i := 0) (p := 2) C dL_law_1159 rfl rfl rfl ?_
  refine J_iload (i := 4) (p := 1) C dL_law_1160 rfl rfl ?_
  refine J_iconst (v := 1) C (by decide) dL_law_1162 rfl ?_
  refine J_iadd C dL_law_1163 rfl ?_
  refine J_arg c 1 rfl hi (by decide) dL_law_1164 rfl ?_
  refine Jl_mV (rest := []) (st9 := fun p => [.int p.1]) C cl_RL_209 rfl (Nat.le_of_ble_eq_true rfl) (k12_redo c.2.1 h) rfl rfl (Nat.le_trans (by decide) c.2.2.2.2.2.2.1) (Nat.le_trans (by decide) c.2.2.2.2.2.2.2) (Nat.le_of_ble_eq_true rfl) ⟨by omega, by omega⟩ dL_law_1165 rfl (fun _ => rfl) (fun p h => ?_)
  refine J_istoreE (i := 6) (x' := p.1) (lv' := [(6, .int p.1), (5, .int r.1), (4, .int (Int32.ofNat i)), (0, .ref b), (1, .ref (K.2.2 + 0)), (2, .ref (K.2.2 + 2017)), (3, .ref (K.2.2 + 2054))]) C rfl dL_law_1168 (Nat.le_of_ble_eq_true rfl) rfl rfl ?_
  refine J_aload_n (i := 2) (p := 5) C dL_law_1170 rfl rfl rfl ?_
  refine Jl_mV (rest := []) (st9 := fun t => [.int t]) C cl_RL_156 rfl (Nat.le_of_ble_eq_true rfl) (k12_thrown c.2.1 h) rfl rfl (Nat.le_trans (by decide) c.2.2.2.2.2.2.1) (Nat.le_trans (by decide) c.2.2.2.2.2.2.2) (Nat.le_of_ble_eq_true rfl) ⟨by omega, by omega⟩ dL_law_1171 rfl (fun _ => rfl) (fun t h => ?_)
  obtain ⟨h1, h2, h3⟩ := h
  refine J_iload (i := 5) (p := 1) C dL_law_1174 rfl rfl ?_
  refine J_icmp_eq (t := 1181) C dL_law_1176 (by decide) rfl (fun _ => ?_) (fun e => absurd h1 e)
  refine J_iload (i := 5) (p := 1) C dL_law_1181 rfl rfl ?_
  refine J_if_ne (t := 1198) C dL_law_1183 (by decide) rfl (fun _ => ?_) (fun e => ?_)
  · refine J_goto (t := 2954) C dL_law_1198 (by decide) ?_
    refine J.sub [2, 3, 4, 5, 6] rfl ?_
    exact J.widen (by omega) (by omega) (kont _ _ _ h3)
  · refine J_aload_n (i := 3) (p := 6) C dL_law_1186 rfl rfl rfl ?_
    refine J_iconst (v := 0) C (by decide) dL_law_1187 rfl ?_
    refine J_outld C dL_law_1188 rfl ?_
    refine J_iload (i := 6) (p := 0) C dL_law_1189 rfl rfl ?_
    refine J_i2l C dL_law_1191 rfl ?_
    refine J_lcmp C dL_law_1192 rfl ?_
    rw [show lg_cmp r.2.2 p.1.toInt64 = 0 from by rw [h2 (Decidable.not_not.mp e)]; exact lg_cmp_self]
    refine J_if_eq (t := 1198) C dL_law_1193 (by decide) rfl (fun _ => ?_) (fun e => absurd rfl e)
    refine J_goto (t := 2954) C dL_law_1198 (by decide) ?_
    refine J.sub [2, 3, 4, 5, 6] rfl ?_
    exact J.widen (by omega) (by omega) (kont _ _ _ h3)
theorem ch_210 : CH RL 210 yL_branch cL_branch 4 (some .int) [(0, 9, 12, 69)] 3 := ⟨tw_1002, tw_81, tw_1004, tw_1003, by decide +kernel, by decide +kernel, by decide +kernel⟩
theorem cl_RL_212 : CV RL 212 11 yX12_branch cX12_branch 5 (some .int) 1 := ⟨⟨tw_1730, tw_93, tw_1733, by decide +kernel, by decide +kernel, by decide +kernel⟩, tw_1732, tw_1731, TX12, 56, rfl⟩
abbrev s_16 (xs : Nat → Int32) (i : Nat) (σ μ : Sto) (o : Int64) (Q : Sto → Sto → Int64 → Prop) : Prop := stH (f11_branch σ (xs (i + 1))) [(4, 1)] o (f12_branch μ (xs (i + 1))) Q
set_option maxHeartbeats 1000000 in
theorem case_16 {X : JX} {K : JK} {b L : Nat} {xs : Nat → Int32} {Q : State → Prop} {k sl : Nat} {σ μ : Sto} {o : Int64} {i : Nat} {Q9 : Sto → Sto → Int64 → Prop} (c : LC X K b L xs) (hi : i + 5 ≤ L) (hk : k + 8 ≤ X.2.2.2.1.cells) (hs : sl + 48 ≤ X.2.2.2.1.slots) (h : s_16 xs i σ μ o Q9) (kont : ∀ σ9 μ9 o9, Q9 σ9 μ9 o9 → J X K 9 False Q (k + 8) (sl + 48) 2055 (jw K σ9 μ9 o9) 2954 [(4, .int (Int32.ofNat i)), (0, .ref b), (1, .ref (K.2.2 + 0)), (2, .ref (K.2.2 + 2017)), (3, .ref (K.2.2 + 2054))] []) : J X K 9 False Q k sl 2055 (jw K σ μ o) 1201 [(4, .int (Int32.ofNat i)), (0, .ref b), (1, .ref (K.2.2 + 0)), (2, .ref (K.2.2 + 2017)), (3, .ref (K.2.2 + 2054))] [] := by
  have C := c.1
  refine J_aload_n (i := 1) (p := 2) C dL_law_1201 rfl rfl rfl ?_
  refine J_aload_n (i := 0) (p := 1) C dL_law_1202 rfl rfl rfl ?_
  refine J_iload (i := 4) (p := 0) C dL_law_1203 rfl rfl ?_
  refine J_iconst (v := 1) C (by decide) dL_law_1205 rfl ?_
  refine J_iadd C dL_law_1206 rfl ?_
  refine J_arg c 1 rfl hi (by decide) dL_law_1207 rfl ?_
  refine J_aload_n (i := 3) (p := 4) C dL_law_1208 rfl rfl rfl ?_
  refine Jl_cH (rest := []) (st9 := fun r => [.int r.1]) C ch_210 (hL_branch c.2.1 h) rfl rfl (Nat.le_trans (by decide) c.2.2.2.2.2.2.1) (Nat.le_trans (by decide) c.2.2.2.2.2.2.2) (Nat.le_of_ble_eq_true rfl) ⟨by omega, by omega⟩ dL_law_1209 rfl (fun _ => rfl) (fun r h => ?_)
  refine J_istoreE (i := 5) (x' := r.1) (lv' := [(5, .int r.1), (4, .int (Int32.ofNat i)), (0, .ref b), (1, .ref (K.2.2 + 0)), (2, .ref (K.2.2 + 2017)), (3, .ref (K.2.2 + 2054))]) C rfl dL_law_1212 (Nat.le_of_ble_eq_true rfl) rfl rfl ?_
  refine J_aload_n (i := 2) (p := 4) C dL_law_1214 rfl rfl rfl ?_
  refine J_aload_n (i := 0) (p := 2) C dL_law_1215 rfl rfl rfl ?_
  refine J_iload (i := 4) (p := 1) C dL_law_1216 rfl rfl ?_
  refine J_iconst (v := 1) C (by decide) dL_law_1218 rfl ?_
  refine J_iadd C dL_law_1219 rfl ?_
  refine J_arg c 1 rfl hi (by decide) dL_law_1220 rfl ?_
  refine Jl_mV (rest := []) (st9 := fun p => [.int p.1]) C cl_RL_212 rfl (Nat.le_of_ble_eq_true rfl) (k12_branch c.2.1 h) rfl rfl (Nat.le_trans (by decide) c.2.2.2.2.2.2.1) (Nat.le_trans (by decide) c.2.2.2.2.2.2.2) (Nat.le_of_ble_eq_true rfl) ⟨by omega, by omega⟩ dL_law_1221 rfl (fun _ => rfl) (fun p h => ?_)
  refine J_istoreE (i := 6) (x' := p.1) (lv' := [(6, .int p.1), (5, .int r.1), (4, .int (Int32.ofNat i)), (0, .ref b), (1, .ref (K.2.2 + 0)), (2, .ref (K.2.2 + 2017)), (3, .ref (K.2.2 + 2054))]) C rfl dL_law_1224 (Nat.le_of_ble_eq_true rfl) rfl rfl ?_
  refine J_aload_n (i := 2) (p := 5) C dL_law_1226 rfl rfl rfl ?_
  refine Jl_mV (rest := []) (st9 := fun t => [.int t]) C cl_RL_156 rfl (Nat.le_of_ble_eq_true rfl) (k12_thrown c.2.1 h) rfl rfl (Nat.le_trans (by decide) c.2.2.2.2.2.2.1) (Nat.le_trans (by decide) c.2.2.2.2.2.2.2) (Nat.le_of_ble_eq_true rfl) ⟨by omega, by omega⟩ dL_law_1227 rfl (fun _ => rfl) (fun t h => ?_)
  obtain ⟨h1, h2, h3⟩ := h
  refine J_iload (i := 5) (p := 1) C dL_law_1230 rfl rfl ?_
  refine J_icmp_eq (t := 1237) C dL_law_1232 (by decide) rfl (fun _ => ?_) (fun e => absurd h1 e)
  refine J_iload (i := 5) (p := 1) C dL_law_1237 rfl rfl ?_
  refine J_if_ne (t := 1254) C dL_law_1239 (by decide) rfl (fun _ => ?_) (fun e => ?_)
  · refine J_goto (t := 2954) C dL_law_1254 (by decide) ?_
    refine J.sub [2, 3, 4, 5, 6] rfl ?_
    exact J.widen (by omega) (by omega) (kont _ _ _ h3)
  · refine J_aload_n (i := 3) (p := 6) C dL_law_1242 rfl rfl rfl ?_
    refine J_iconst (v := 0) C (by decide) dL_law_1243 rfl ?_
    refine J_outld C dL_law_1244 rfl ?_
    refine J_iload (i := 6) (p := 0) C dL_law_1245 rfl rfl ?_
    refine J_i2l C dL_law_1247 rfl ?_
    refine J_lcmp C dL_law_1248 rfl ?_
    rw [show lg_cmp r.2.2 p.1.toInt64 = 0 from by rw [h2 (Decidable.not_not.mp e)]; exact lg_cmp_self]
    refine J_if_eq (t := 1254) C dL_law_1249 (by decide) rfl (fun _ => ?_) (fun e => absurd rfl e)
    refine J_goto (t := 2954) C dL_law_1254 (by decide) ?_
    refine J.sub [2, 3, 4, 5, 6] rfl ?_
    exact J.widen (by omega) (by omega) (kont _ _ _ h3)
theorem ch_218 : CH RL 218 yL_acts cL_acts 4 (some .int) [(0, 9, 12, 13)] 3 := ⟨tw_1034, tw_81, tw_1036, tw_1035, by decide +kernel, by decide +kernel, by decide +kernel⟩
theorem cl_RL_220 : CV RL 220 11 yX12_acts_ cX12_acts_ 2 (some .int) 1 := ⟨⟨tw_1746, tw_93, tw_1749, by decide +kernel, by decide +kernel, by decide +kernel⟩, tw_1748, tw_1747, TX12, 56, rfl⟩
abbrev s_18 (xs : Nat → Int32) (i : Nat) (σ μ : Sto) (o : Int64) (Q : Sto → Sto → Int64 → Prop) : Prop := stH (f11_acts σ (xs (i + 1))) [(2, 1)] o (f12_acts_ μ (xs (i + 1))) Q
set_option maxHeartbeats 1000000 in
theorem case_18 {X : JX} {K : JK} {b L : Nat} {xs : Nat → Int32} {Q : State → Prop} {k sl : Nat} {σ μ : Sto} {o : Int64} {i : Nat} {Q9 : Sto → Sto → Int64 → Prop} (c : LC X K b L xs) (hi : i + 5 ≤ L) (hk : k + 8 ≤ X.2.2.2.1.cells) (hs : sl + 48 ≤ X.2.2.2.1.slots) (h : s_18 xs i σ μ o Q9) (kont : ∀ σ9 μ9 o9, Q9 σ9 μ9 o9 → J X K 9 False Q (k + 8) (sl + 48) 2055 (jw K σ9 μ9 o9) 2954 [(4, .int (Int32.ofNat i)), (0, .ref b), (1, .ref (K.2.2 + 0)), (2, .ref (K.2.2 + 2017)), (3, .ref (K.2.2 + 2054))] []) : J X K 9 False Q k sl 2055 (jw K σ μ o) 1298 [(4, .int (Int32.ofNat i)), (0, .ref b), (1, .ref (K.2.2 + 0)), (2, .ref (K.2.2 + 2017)), (3, .ref (K.2.2 + 2054))] [] := by
  have C := c.1
  refine J_aload_n (i := 1) (p := 2) C dL_law_1298 rfl rfl rfl ?_
  refine J_aload_n (i := 0) (p := 1) C dL_law_1299 rfl rfl rfl ?_
  refine J_iload (i := 4) (p := 0) C dL_law_1300 rfl rfl ?_
  refine J_iconst (v := 1) C (by decide) dL_law_1302 rfl ?_
  refine J_iadd C dL_law_1303 rfl ?_
  refine J_arg c 1 rfl hi (by decide) dL_law_1304 rfl ?_
  refine J_aload_n (i := 3) (p := 4) C dL_law_1305 rfl rfl rfl ?_
  refine Jl_cH (rest := []) (st9 := fun r => [.int r.1]) C ch_218 (hL_acts c.2.1 h) rfl rfl (Nat.le_trans (by decide) c.2.2.2.2.2.2.1) (Nat.le_trans (by decide) c.2.2.2.2.2.2.2) (Nat.le_of_ble_eq_true rfl) ⟨by omega, by omega⟩ dL_law_1306 rfl (fun _ => rfl) (fun r h => ?_)
  refine J_istoreE (i := 5) (x' := r.1) (lv' := [(5, .int r.1), (4, .int (Int32.ofNat i)), (0, .ref b), (1, .ref (K.2.2 + 0)), (2, .ref (K.2.2 + 2017)), (3, .ref (K.2.2 + 2054))]) C rfl dL_law_1309 (Nat.le_of_ble_eq_true rfl) rfl rfl ?_
  refine J_aload_n (i := 2) (p := 4) C dL_law_1311 rfl rfl rfl ?_
  refine J_aload_n (i := 0) (p := 2) C dL_law_1312 rfl rfl rfl ?_
  refine J_iload (i := 4) (p := 1) C dL_law_1313 rfl rfl ?_
  refine J_iconst (v := 1) C (by decide) dL_law_1315 rfl ?_
  refine J_iadd C dL_law_1316 rfl ?_
  refine J_arg c 1 rfl hi (by decide) dL_law_1317 rfl ?_
  refine Jl_mV (rest := []) (st9 := fun p => [.int p.1]) C cl_RL_220 rfl (Nat.le_of_ble_eq_true rfl) (k12_acts_ c.2.1 h) rfl rfl (Nat.le_trans (by decide) c.2.2.2.2.2.2.1) (Nat.le_trans (by decide) c.2.2.2.2.2.2.2) (Nat.le_of_ble_eq_true rfl) ⟨by omega, by omega⟩ dL_law_1318 rfl (fun _ => rfl) (fun p h => ?_)
  refine J_istoreE (i := 6) (x' := p.1) (lv' := [(6, .int p.1), (5, .int r.1), (4, .int (Int32.ofNat i)), (0, .ref b), (1, .ref (K.2.2 + 0)), (2, .ref (K.2.2 + 2017)), (3, .ref (K.2.2 + 2054))]) C rfl dL_law_1321 (Nat.le_of_ble_eq_true rfl) rfl rfl ?_
  refine J_aload_n (i := 2) (p := 5) C dL_law_1323 rfl rfl rfl ?_
  refine Jl_mV (rest := []) (st9 := fun t => [.int t]) C cl_RL_156 rfl (Nat.le_of_ble_eq_true rfl) (k12_thrown c.2.1 h) rfl rfl (Nat.le_trans (by decide) c.2.2.2.2.2.2.1) (Nat.le_trans (by decide) c.2.2.2.2.2.2.2) (Nat.le_of_ble_eq_true rfl) ⟨by omega, by omega⟩ dL_law_1324 rfl (fun _ => rfl) (fun t h => ?_)
  obtain ⟨h1, h2, h3⟩ := h
  refine J_iload (i := 5) (p := 1) C dL_law_1327 rfl rfl ?_
  refine J_icmp_eq (t := 1334) C dL_law_1329 (by decide) rfl (fun _ => ?_) (fun e => absurd h1 e)
  refine J_iload (i := 5) (p := 1) C dL_law_1334 rfl rfl ?_
  refine J_if_ne (t := 1351) C dL_law_1336 (by decide) rfl (fun _ => ?_) (fun e => ?_)
  · refine J_goto (t := 2954) C dL_law_1351 (by decide) ?_
    refine J.sub [2, 3, 4, 5, 6] rfl ?_
    exact J.widen (by omega) (by omega) (kont _ _ _ h3)
  · refine J_aload_n (i := 3) (p := 6) C dL_law_1339 rfl rfl rfl ?_
    refine J_iconst (v := 0) C (by decide) dL_law_1340 rfl ?_
    refine J_outld C dL_law_1341 rfl ?_
    refine J_iload (i := 6) (p := 0) C dL_law_1342 rfl rfl ?_
    refine J_i2l C dL_law_1344 rfl ?_
    refine J_lcmp C dL_law_1345 rfl ?_
    rw [show lg_cmp r.2.2 p.1.toInt64 = 0 from by rw [h2 (Decidable.not_not.mp e)]; exact lg_cmp_self]
    refine J_if_eq (t := 1351) C dL_law_1346 (by decide) rfl (fun _ => ?_) (fun e => absurd rfl e)
    refine J_goto (t := 2954) C dL_law_1351 (by decide) ?_
    refine J.sub [2, 3, 4, 5, 6] rfl ?_
    exact J.widen (by omega) (by omega) (kont _ _ _ h3)
theorem ch_221 : CH RL 221 yL_setCursor cL_setCursor 4 (some .int) [(0, 9, 12, 21)] 3 := ⟨tw_1050, tw_81, tw_1052, tw_1051, by decide +kernel, by decide +kernel, by decide +kernel⟩
theorem cl_RL_223 : CV RL 223 11 yX12_setCursor cX12_setCursor 3 (some .int) 1 := ⟨⟨tw_1758, tw_93, tw_1761, by decide +kernel, by decide +kernel, by decide +kernel⟩, tw_1760, tw_1759, TX12, 56, rfl⟩
abbrev s_19 (xs : Nat → Int32) (i : Nat) (σ μ : Sto) (o : Int64) (Q : Sto → Sto → Int64 → Prop) : Prop := stH (f11_setCursor σ (xs (i + 1))) [(1, 1)] o (f12_setCursor μ (xs (i + 1))) Q
set_option maxHeartbeats 1000000 in
theorem case_19 {X : JX} {K : JK} {b L : Nat} {xs : Nat → Int32} {Q : State → Prop} {k sl : Nat} {σ μ : Sto} {o : Int64} {i : Nat} {Q9 : Sto → Sto → Int64 → Prop} (c : LC X K b L xs) (hi : i + 5 ≤ L) (hk : k + 8 ≤ X.2.2.2.1.cells) (hs : sl + 48 ≤ X.2.2.2.1.slots) (h : s_19 xs i σ μ o Q9) (kont : ∀ σ9 μ9 o9, Q9 σ9 μ9 o9 → J X K 9 False Q (k + 8) (sl + 48) 2055 (jw K σ9 μ9 o9) 2954 [(4, .int (Int32.ofNat i)), (0, .ref b), (1, .ref (K.2.2 + 0)), (2, .ref (K.2.2 + 2017)), (3, .ref (K.2.2 + 2054))] []) : J X K 9 False Q k sl 2055 (jw K σ μ o) 1354 [(4, .int (Int32.ofNat i)), (0, .ref b), (1, .ref (K.2.2 + 0)), (2, .ref (K.2.2 + 2017)), (3, .ref (K.2.2 + 2054))] [] := by
  have C := c.1
  refine J_aload_n (i := 1) (p := 2) C dL_law_1354 rfl rfl rfl ?_
  refine J_aload_n (i := 0) (p := 1) C dL_law_1355 rfl rfl rfl ?_
  refine J_iload (i := 4) (p := 0) C dL_law_1356 rfl rfl ?_
  refine J_iconst (v := 1) C (by decide) dL_law_1358 rfl ?_
  refine J_iadd C dL_law_1359 rfl ?_
  refine J_arg c 1 rfl hi (by decide) dL_law_1360 rfl ?_
  refine J_aload_n (i := 3) (p := 4) C dL_law_1361 rfl rfl rfl ?_
  refine Jl_cH (rest := []) (st9 := fun r => [.int r.1]) C ch_221 (hL_setCursor c.2.1 h) rfl rfl (Nat.le_trans (by decide) c.2.2.2.2.2.2.1) (Nat.le_trans (by decide) c.2.2.2.2.2.2.2) (Nat.le_of_ble_eq_true rfl) ⟨by omega, by omega⟩ dL_law_1362 rfl (fun _ => rfl) (fun r h => ?_)
  refine J_istoreE (i := 5) (x' := r.1) (lv' := [(5, .int r.1), (4, .int (Int32.ofNat i)), (0, .ref b), (1, .ref (K.2.2 + 0)), (2, .ref (K.2.2 + 2017)), (3, .ref (K.2.2 + 2054))]) C rfl dL_law_1365 (Nat.le_of_ble_eq_true rfl) rfl rfl ?_
  refine J_aload_n (i := 2) (p := 4) C dL_law_1367 rfl rfl rfl ?_
  refine J_aload_n (i := 0) (p := 2) C dL_law_1368 rfl rfl rfl ?_
  refine J_iload (i := 4) (p := 1) C dL_law_1369 rfl rfl ?_
  refine J_iconst (v := 1) C (by decide) dL_law_1371 rfl ?_
  refine J_iadd C dL_law_1372 rfl ?_
  refine J_arg c 1 rfl hi (by decide) dL_law_1373 rfl ?_
  refine Jl_mV (rest := []) (st9 := fun p => [.int p.1]) C cl_RL_223 rfl (Nat.le_of_ble_eq_true rfl) (k12_setCursor c.2.1 h) rfl rfl (Nat.le_trans (by decide) c.2.2.2.2.2.2.1) (Nat.le_trans (by decide) c.2.2.2.2.2.2.2) (Nat.le_of_ble_eq_true rfl) ⟨by omega, by omega⟩ dL_law_1374 rfl (fun _ => rfl) (fun p h => ?_)
  refine J_istoreE (i := 6) (x' := p.1) (lv' := [(6, .int p.1), (5, .int r.1), (4, .int (Int32.ofNat i)), (0, .ref b), (1, .ref (K.2.2 + 0)), (2, .ref (K.2.2 + 2017)), (3, .ref (K.2.2 + 2054))]) C rfl dL_law_1377 (Nat.le_of_ble_eq_true rfl) rfl rfl ?_
  refine J_aload_n (i := 2) (p := 5) C dL_law_1379 rfl rfl rfl ?_
  refine Jl_mV (rest := []) (st9 := fun t => [.int t]) C cl_RL_156 rfl (Nat.le_of_ble_eq_true rfl) (k12_thrown c.2.1 h) rfl rfl (Nat.le_trans (by decide) c.2.2.2.2.2.2.1) (Nat.le_trans (by decide) c.2.2.2.2.2.2.2) (Nat.le_of_ble_eq_true rfl) ⟨by omega, by omega⟩ dL_law_1380 rfl (fun _ => rfl) (fun t h => ?_)
  obtain ⟨h1, h2, h3⟩ := h
  refine J_iload (i := 5) (p := 1) C dL_law_1383 rfl rfl ?_
  refine J_icmp_eq (t := 1390) C dL_law_1385 (by decide) rfl (fun _ => ?_) (fun e => absurd h1 e)
  refine J_iload (i := 5) (p := 1) C dL_law_1390 rfl rfl ?_
  refine J_if_ne (t := 1407) C dL_law_1392 (by decide) rfl (fun _ => ?_) (fun e => ?_)
  · refine J_goto (t := 2954) C dL_law_1407 (by decide) ?_
    refine J.sub [2, 3, 4, 5, 6] rfl ?_
    exact J.widen (by omega) (by omega) (kont _ _ _ h3)
  · refine J_aload_n (i := 3) (p := 6) C dL_law_1395 rfl rfl rfl ?_
    refine J_iconst (v := 0) C (by decide) dL_law_1396 rfl ?_
    refine J_outld C dL_law_1397 rfl ?_
    refine J_iload (i := 6) (p := 0) C dL_law_1398 rfl rfl ?_
    refine J_i2l C dL_law_1400 rfl ?_
    refine J_lcmp C dL_law_1401 rfl ?_
    rw [show lg_cmp r.2.2 p.1.toInt64 = 0 from by rw [h2 (Decidable.not_not.mp e)]; exact lg_cmp_self]
    refine J_if_eq (t := 1407) C dL_law_1402 (by decide) rfl (fun _ => ?_) (fun e => absurd rfl e)
    refine J_goto (t := 2954) C dL_law_1407 (by decide) ?_
    refine J.sub [2, 3, 4, 5, 6] rfl ?_
    exact J.widen (by omega) (by omega) (kont _ _ _ h3)
theorem ch_224 : CH RL 224 yL_addCursor cL_addCursor 4 (some .int) [(0, 9, 12, 21), (0, 9, 15, 15)] 3 := ⟨tw_1057, tw_81, tw_1059, tw_1058, by decide +kernel, by decide +kernel, by decide +kernel⟩
theorem cl_RL_226 : CV RL 226 11 yX12_addCursor cX12_addCursor 4 (some .int) 1 := ⟨⟨tw_1762, tw_93, tw_1765, by decide +kernel, by decide +kernel, by decide +kernel⟩, tw_1764, tw_1763, TX12, 56, rfl⟩
abbrev s_20 (xs : Nat → Int32) (i : Nat) (σ μ : Sto) (o : Int64) (Q : Sto → Sto → Int64 → Prop) : Prop := stH (f11_addCursor σ (xs (i + 1))) [(1, 1), (3, 2)] o (f12_addCursor μ (xs (i + 1))) Q
set_option maxHeartbeats 1000000 in
theorem case_20 {X : JX} {K : JK} {b L : Nat} {xs : Nat → Int32} {Q : State → Prop} {k sl : Nat} {σ μ : Sto} {o : Int64} {i : Nat} {Q9 : Sto → Sto → Int64 → Prop} (c : LC X K b L xs) (hi : i + 5 ≤ L) (hk : k + 8 ≤ X.2.2.2.1.cells) (hs : sl + 48 ≤ X.2.2.2.1.slots) (h : s_20 xs i σ μ o Q9) (kont : ∀ σ9 μ9 o9, Q9 σ9 μ9 o9 → J X K 9 False Q (k + 8) (sl + 48) 2055 (jw K σ9 μ9 o9) 2954 [(4, .int (Int32.ofNat i)), (0, .ref b), (1, .ref (K.2.2 + 0)), (2, .ref (K.2.2 + 2017)), (3, .ref (K.2.2 + 2054))] []) : J X K 9 False Q k sl 2055 (jw K σ μ o) 1410 [(4, .int (Int32.ofNat i)), (0, .ref b), (1, .ref (K.2.2 + 0)), (2, .ref (K.2.2 + 2017)), (3, .ref (K.2.2 + 2054))] [] := by
  have C := c.1
  refine J_aload_n (i := 1) (p := 2) C dL_law_1410 rfl rfl rfl ?_
  refine J_aload_n (i := 0) (p := 1) C dL_law_1411 rfl rfl rfl ?_
  refine J_iload (i := 4) (p := 0) C dL_law_1412 rfl rfl ?_
  refine J_iconst (v := 1) C (by decide) dL_law_1414 rfl ?_
  refine J_iadd C dL_law_1415 rfl ?_
  refine J_arg c 1 rfl hi (by decide) dL_law_1416 rfl ?_
  refine J_aload_n (i := 3) (p := 4) C dL_law_1417 rfl rfl rfl ?_
  refine Jl_cH (rest := []) (st9 := fun r => [.int r.1]) C ch_224 (hL_addCursor c.2.1 h) rfl rfl (Nat.le_trans (by decide) c.2.2.2.2.2.2.1) (Nat.le_trans (by decide) c.2.2.2.2.2.2.2) (Nat.le_of_ble_eq_true rfl) ⟨by omega, by omega⟩ dL_law_1418 rfl (fun _ => rfl) (fun r h => ?_)
  refine J_istoreE (i := 5) (x' := r.1) (lv' := [(5, .int r.1), (4, .int (Int32.ofNat i)), (0, .ref b), (1, .ref (K.2.2 + 0)), (2, .ref (K.2.2 + 2017)), (3, .ref (K.2.2 + 2054))]) C rfl dL_law_1421 (Nat.le_of_ble_eq_true rfl) rfl rfl ?_
  refine J_aload_n (i := 2) (p := 4) C dL_law_1423 rfl rfl rfl ?_
  refine J_aload_n (i := 0) (p := 2) C dL_law_1424 rfl rfl rfl ?_
  refine J_iload (i := 4) (p := 1) C dL_law_1425 rfl rfl ?_
  refine J_iconst (v := 1) C (by decide) dL_law_1427 rfl ?_
  refine J_iadd C dL_law_1428 rfl ?_
  refine J_arg c 1 rfl hi (by decide) dL_law_1429 rfl ?_
  refine Jl_mV (rest := []) (st9 := fun p => [.int p.1]) C cl_RL_226 rfl (Nat.le_of_ble_eq_true rfl) (k12_addCursor c.2.1 h) rfl rfl (Nat.le_trans (by decide) c.2.2.2.2.2.2.1) (Nat.le_trans (by decide) c.2.2.2.2.2.2.2) (Nat.le_of_ble_eq_true rfl) ⟨by omega, by omega⟩ dL_law_1430 rfl (fun _ => rfl) (fun p h => ?_)
  refine J_istoreE (i := 6) (x' := p.1) (lv' := [(6, .int p.1), (5, .int r.1), (4, .int (Int32.ofNat i)), (0, .ref b), (1, .ref (K.2.2 + 0)), (2, .ref (K.2.2 + 2017)), (3, .ref (K.2.2 + 2054))]) C rfl dL_law_1433 (Nat.le_of_ble_eq_true rfl) rfl rfl ?_
  refine J_aload_n (i := 2) (p := 5) C dL_law_1435 rfl rfl rfl ?_
  refine Jl_mV (rest := []) (st9 := fun t => [.int t]) C cl_RL_156 rfl (Nat.le_of_ble_eq_true rfl) (k12_thrown c.2.1 h) rfl rfl (Nat.le_trans (by decide) c.2.2.2.2.2.2.1) (Nat.le_trans (by decide) c.2.2.2.2.2.2.2) (Nat.le_of_ble_eq_true rfl) ⟨by omega, by omega⟩ dL_law_1436 rfl (fun _ => rfl) (fun t h => ?_)
  obtain ⟨h1, h2, h3⟩ := h
  refine J_iload (i := 5) (p := 1) C dL_law_1439 rfl rfl ?_
  refine J_icmp_eq (t := 1446) C dL_law_1441 (by decide) rfl (fun _ => ?_) (fun e => absurd h1 e)
  refine J_iload (i := 5) (p := 1) C dL_law_1446 rfl rfl ?_
  refine J_if_ne (t := 1463) C dL_law_1448 (by decide) rfl (fun _ => ?_) (fun e => ?_)
  · refine J_goto (t := 2954) C dL_law_1463 (by decide) ?_
    refine J.sub [2, 3, 4, 5, 6] rfl ?_
    exact J.widen (by omega) (by omega) (kont _ _ _ h3)
  · refine J_aload_n (i := 3) (p := 6) C dL_law_1451 rfl rfl rfl ?_
    refine J_iconst (v := 0) C (by decide) dL_law_1452 rfl ?_
    refine J_outld C dL_law_1453 rfl ?_
    refine J_iload (i := 6) (p := 0) C dL_law_1454 rfl rfl ?_
    refine J_i2l C dL_law_1456 rfl ?_
    refine J_lcmp C dL_law_1457 rfl ?_
    rw [show lg_cmp r.2.2 p.1.toInt64 = 0 from by rw [h2 (Decidable.not_not.mp e)]; exact lg_cmp_self]
    refine J_if_eq (t := 1463) C dL_law_1458 (by decide) rfl (fun _ => ?_) (fun e => absurd rfl e)
    refine J_goto (t := 2954) C dL_law_1463 (by decide) ?_
    refine J.sub [2, 3, 4, 5, 6] rfl ?_
    exact J.widen (by omega) (by omega) (kont _ _ _ h3)
theorem ch_227 : CH RL 227 yL_moveCursors cL_moveCursors 5 (some .int) [(0, 10, 13, 13)] 4 := ⟨tw_1070, tw_81, tw_1072, tw_1071, by decide +kernel, by decide +kernel, by decide +kernel⟩
theorem cl_RL_229 : CV RL 229 11 yX12_moveCursors cX12_moveCursors 3 (some .int) 2 := ⟨⟨tw_1766, tw_93, tw_1769, by decide +kernel, by decide +kernel, by decide +kernel⟩, tw_1768, tw_1767, TX12, 56, rfl⟩
abbrev s_21 (xs : Nat → Int32) (i : Nat) (σ μ : Sto) (o : Int64) (Q : Sto → Sto → Int64 → Prop) : Prop := stH (f11_moveCursors σ (xs (i + 1)) (xs (i + 2))) [(2, 1)] o (f12_moveCursors μ (xs (i + 1)) (xs (i + 2))) Q
set_option maxHeartbeats 1000000 in
theorem case_21 {X : JX} {K : JK} {b L : Nat} {xs : Nat → Int32} {Q : State → Prop} {k sl : Nat} {σ μ : Sto} {o : Int64} {i : Nat} {Q9 : Sto → Sto → Int64 → Prop} (c : LC X K b L xs) (hi : i + 5 ≤ L) (hk : k + 8 ≤ X.2.2.2.1.cells) (hs : sl + 48 ≤ X.2.2.2.1.slots) (h : s_21 xs i σ μ o Q9) (kont : ∀ σ9 μ9 o9, Q9 σ9 μ9 o9 → J X K 9 False Q (k + 8) (sl + 48) 2055 (jw K σ9 μ9 o9) 2954 [(4, .int (Int32.ofNat i)), (0, .ref b), (1, .ref (K.2.2 + 0)), (2, .ref (K.2.2 + 2017)), (3, .ref (K.2.2 + 2054))] []) : J X K 9 False Q k sl 2055 (jw K σ μ o) 1466 [(4, .int (Int32.ofNat i)), (0, .ref b), (1, .ref (K.2.2 + 0)), (2, .ref (K.2.2 + 2017)), (3, .ref (K.2.2 + 2054))] [] := by
  have C := c.1
  refine J_aload_n (i := 1) (p := 2) C dL_law_1466 rfl rfl rfl ?_
  refine J_aload_n (i := 0) (p := 1) C dL_law_1467 rfl rfl rfl ?_
  refine J_iload (i := 4) (p := 0) C dL_law_1468 rfl rfl ?_
  refine J_iconst (v := 1) C (by decide) dL_law_1470 rfl ?_
  refine J_iadd C dL_law_1471 rfl ?_
  refine J_arg c 1 rfl hi (by decide) dL_law_1472 rfl ?_
  refine J_aload_n (i := 0) (p := 1) C dL_law_1473 rfl rfl rfl ?_
  refine J_iload (i := 4) (p := 0) C dL_law_1474 rfl rfl ?_
  refine J_iconst (v := 2) C (by decide) dL_law_1476 rfl ?_
  refine J_iadd C dL_law_1477 rfl ?_
  refine J_arg c 2 rfl hi (by decide) dL_law_1478 rfl ?_
  refine J_aload_n (i := 3) (p := 4) C dL_law_1479 rfl rfl rfl ?_
  refine Jl_cH (rest := []) (st9 := fun r => [.int r.1]) C ch_227 (hL_moveCursors c.2.1 h) rfl rfl (Nat.le_trans (by decide) c.2.2.2.2.2.2.1) (Nat.le_trans (by decide) c.2.2.2.2.2.2.2) (Nat.le_of_ble_eq_true rfl) ⟨by omega, by omega⟩ dL_law_1480 rfl (fun _ => rfl) (fun r h => ?_)
  refine J_istoreE (i := 5) (x' := r.1) (lv' := [(5, .int r.1), (4, .int (Int32.ofNat i)), (0, .ref b), (1, .ref (K.2.2 + 0)), (2, .ref (K.2.2 + 2017)), (3, .ref (K.2.2 + 2054))]) C rfl dL_law_1483 (Nat.le_of_ble_eq_true rfl) rfl rfl ?_
  refine J_aload_n (i := 2) (p := 4) C dL_law_1485 rfl rfl rfl ?_
  refine J_aload_n (i := 0) (p := 2) C dL_law_1486 rfl rfl rfl ?_
  refine J_iload (i := 4) (p := 1) C dL_law_1487 rfl rfl ?_
  refine J_iconst (v := 1) C (by decide) dL_law_1489 rfl ?_
  refine J_iadd C dL_law_1490 rfl ?_
  refine J_arg c 1 rfl hi (by decide) dL_law_1491 rfl ?_
  refine J_aload_n (i := 0) (p := 2) C dL_law_1492 rfl rfl rfl ?_
  refine J_iload (i := 4) (p := 1) C dL_law_1493 rfl rfl ?_
  refine J_iconst (v := 2) C (by decide) dL_law_1495 rfl ?_
  refine J_iadd C dL_law_1496 rfl ?_
  refine J_arg c 2 rfl hi (by decide) dL_law_1497 rfl ?_
  refine Jl_mV (rest := []) (st9 := fun p => [.int p.1]) C cl_RL_229 rfl (Nat.le_of_ble_eq_true rfl) (k12_moveCursors c.2.1 h) rfl rfl (Nat.le_trans (by decide) c.2.2.2.2.2.2.1) (Nat.le_trans (by decide) c.2.2.2.2.2.2.2) (Nat.le_of_ble_eq_true rfl) ⟨by omega, by omega⟩ dL_law_1498 rfl (fun _ => rfl) (fun p h => ?_)
  refine J_istoreE (i := 6) (x' := p.1) (lv' := [(6, .int p.1), (5, .int r.1), (4, .int (Int32.ofNat i)), (0, .ref b), (1, .ref (K.2.2 + 0)), (2, .ref (K.2.2 + 2017)), (3, .ref (K.2.2 + 2054))]) C rfl dL_law_1501 (Nat.le_of_ble_eq_true rfl) rfl rfl ?_
  refine J_aload_n (i := 2) (p := 5) C dL_law_1503 rfl rfl rfl ?_
  refine Jl_mV (rest := []) (st9 := fun t => [.int t]) C cl_RL_156 rfl (Nat.le_of_ble_eq_true rfl) (k12_thrown c.2.1 h) rfl rfl (Nat.le_trans (by decide) c.2.2.2.2.2.2.1) (Nat.le_trans (by decide) c.2.2.2.2.2.2.2) (Nat.le_of_ble_eq_true rfl) ⟨by omega, by omega⟩ dL_law_1504 rfl (fun _ => rfl) (fun t h => ?_)
  obtain ⟨h1, h2, h3⟩ := h
  refine J_iload (i := 5) (p := 1) C dL_law_1507 rfl rfl ?_
  refine J_icmp_eq (t := 1514) C dL_law_1509 (by decide) rfl (fun _ => ?_) (fun e => absurd h1 e)
  refine J_iload (i := 5) (p := 1) C dL_law_1514 rfl rfl ?_
  refine J_if_ne (t := 1531) C dL_law_1516 (by decide) rfl (fun _ => ?_) (fun e => ?_)
  · refine J_goto (t := 2954) C dL_law_1531 (by decide) ?_
    refine J.sub [2, 3, 4, 5, 6] rfl ?_
    exact J.widen (by omega) (by omega) (kont _ _ _ h3)
  · refine J_aload_n (i := 3) (p := 6) C dL_law_1519 rfl rfl rfl ?_
    refine J_iconst (v := 0) C (by decide) dL_law_1520 rfl ?_
    refine J_outld C dL_law_1521 rfl ?_
    refine J_iload (i := 6) (p := 0) C dL_law_1522 rfl rfl ?_
    refine J_i2l C dL_law_1524 rfl ?_
    refine J_lcmp C dL_law_1525 rfl ?_
    rw [show lg_cmp r.2.2 p.1.toInt64 = 0 from by rw [h2 (Decidable.not_not.mp e)]; exact lg_cmp_self]
    refine J_if_eq (t := 1531) C dL_law_1526 (by decide) rfl (fun _ => ?_) (fun e => absurd rfl e)
    refine J_goto (t := 2954) C dL_law_1531 (by decide) ?_
    refine J.sub [2, 3, 4, 5, 6] rfl ?_
    exact J.widen (by omega) (by omega) (kont _ _ _ h3)
theorem ch_230 : CH RL 230 yL_cursorAt cL_cursorAt 4 (some .int) [(0, 9, 12, 21)] 3 := ⟨tw_1130, tw_81, tw_1132, tw_1131, by decide +kernel, by decide +kernel, by decide +kernel⟩
theorem cl_RL_232 : CV RL 232 11 yX12_cursorAt cX12_cursorAt 2 (some .int) 1 := ⟨⟨tw_1798, tw_93, tw_1801, by decide +kernel, by decide +kernel, by decide +kernel⟩, tw_1800, tw_1799, TX12, 56, rfl⟩
abbrev s_22 (xs : Nat → Int32) (i : Nat) (σ μ : Sto) (o : Int64) (Q : Sto → Sto → Int64 → Prop) : Prop := stH (f11_cursorAt σ (xs (i + 1))) [(1, 1)] o (f12_cursorAt μ (xs (i + 1))) Q
set_option maxHeartbeats 1000000 in
theorem case_22 {X : JX} {K : JK} {b L : Nat} {xs : Nat → Int32} {Q : State → Prop} {k sl : Nat} {σ μ : Sto} {o : Int64} {i : Nat} {Q9 : Sto → Sto → Int64 → Prop} (c : LC X K b L xs) (hi : i + 5 ≤ L) (hk : k + 8 ≤ X.2.2.2.1.cells) (hs : sl + 48 ≤ X.2.2.2.1.slots) (h : s_22 xs i σ μ o Q9) (kont : ∀ σ9 μ9 o9, Q9 σ9 μ9 o9 → J X K 9 False Q (k + 8) (sl + 48) 2055 (jw K σ9 μ9 o9) 2954 [(4, .int (Int32.ofNat i)), (0, .ref b), (1, .ref (K.2.2 + 0)), (2, .ref (K.2.2 + 2017)), (3, .ref (K.2.2 + 2054))] []) : J X K 9 False Q k sl 2055 (jw K σ μ o) 1534 [(4, .int (Int32.ofNat i)), (0, .ref b), (1, .ref (K.2.2 + 0)), (2, .ref (K.2.2 + 2017)), (3, .ref (K.2.2 + 2054))] [] := by
  have C := c.1
  refine J_aload_n (i := 1) (p := 2) C dL_law_1534 rfl rfl rfl ?_
  refine J_aload_n (i := 0) (p := 1) C dL_law_1535 rfl rfl rfl ?_
  refine J_iload (i := 4) (p := 0) C dL_law_1536 rfl rfl ?_
  refine J_iconst (v := 1) C (by decide) dL_law_1538 rfl ?_
  refine J_iadd C dL_law_1539 rfl ?_
  refine J_arg c 1 rfl hi (by decide) dL_law_1540 rfl ?_
  refine J_aload_n (i := 3) (p := 4) C dL_law_1541 rfl rfl rfl ?_
  refine Jl_cH (rest := []) (st9 := fun r => [.int r.1]) C ch_230 (hL_cursorAt c.2.1 h) rfl rfl (Nat.le_trans (by decide) c.2.2.2.2.2.2.1) (Nat.le_trans (by decide) c.2.2.2.2.2.2.2) (Nat.le_of_ble_eq_true rfl) ⟨by omega, by omega⟩ dL_law_1542 rfl (fun _ => rfl) (fun r h => ?_)
  refine J_istoreE (i := 5) (x' := r.1) (lv' := [(5, .int r.1), (4, .int (Int32.ofNat i)), (0, .ref b), (1, .ref (K.2.2 + 0)), (2, .ref (K.2.2 + 2017)), (3, .ref (K.2.2 + 2054))]) C rfl dL_law_1545 (Nat.le_of_ble_eq_true rfl) rfl rfl ?_
  refine J_aload_n (i := 2) (p := 4) C dL_law_1547 rfl rfl rfl ?_
  refine J_aload_n (i := 0) (p := 2) C dL_law_1548 rfl rfl rfl ?_
  refine J_iload (i := 4) (p := 1) C dL_law_1549 rfl rfl ?_
  refine J_iconst (v := 1) C (by decide) dL_law_1551 rfl ?_
  refine J_iadd C dL_law_1552 rfl ?_
  refine J_arg c 1 rfl hi (by decide) dL_law_1553 rfl ?_
  refine Jl_mV (rest := []) (st9 := fun p => [.int p.1]) C cl_RL_232 rfl (Nat.le_of_ble_eq_true rfl) (k12_cursorAt c.2.1 h) rfl rfl (Nat.le_trans (by decide) c.2.2.2.2.2.2.1) (Nat.le_trans (by decide) c.2.2.2.2.2.2.2) (Nat.le_of_ble_eq_true rfl) ⟨by omega, by omega⟩ dL_law_1554 rfl (fun _ => rfl) (fun p h => ?_)
  refine J_istoreE (i := 6) (x' := p.1) (lv' := [(6, .int p.1), (5, .int r.1), (4, .int (Int32.ofNat i)), (0, .ref b), (1, .ref (K.2.2 + 0)), (2, .ref (K.2.2 + 2017)), (3, .ref (K.2.2 + 2054))]) C rfl dL_law_1557 (Nat.le_of_ble_eq_true rfl) rfl rfl ?_
  refine J_aload_n (i := 2) (p := 5) C dL_law_1559 rfl rfl rfl ?_
  refine Jl_mV (rest := []) (st9 := fun t => [.int t]) C cl_RL_156 rfl (Nat.le_of_ble_eq_true rfl) (k12_thrown c.2.1 h) rfl rfl (Nat.le_trans (by decide) c.2.2.2.2.2.2.1) (Nat.le_trans (by decide) c.2.2.2.2.2.2.2) (Nat.le_of_ble_eq_true rfl) ⟨by omega, by omega⟩ dL_law_1560 rfl (fun _ => rfl) (fun t h => ?_)
  obtain ⟨h1, h2, h3⟩ := h
  refine J_iload (i := 5) (p := 1) C dL_law_1563 rfl rfl ?_
  refine J_icmp_eq (t := 1570) C dL_law_1565 (by decide) rfl (fun _ => ?_) (fun e => absurd h1 e)
  refine J_iload (i := 5) (p := 1) C dL_law_1570 rfl rfl ?_
  refine J_if_ne (t := 1587) C dL_law_1572 (by decide) rfl (fun _ => ?_) (fun e => ?_)
  · refine J_goto (t := 2954) C dL_law_1587 (by decide) ?_
    refine J.sub [2, 3, 4, 5, 6] rfl ?_
    exact J.widen (by omega) (by omega) (kont _ _ _ h3)
  · refine J_aload_n (i := 3) (p := 6) C dL_law_1575 rfl rfl rfl ?_
    refine J_iconst (v := 0) C (by decide) dL_law_1576 rfl ?_
    refine J_outld C dL_law_1577 rfl ?_
    refine J_iload (i := 6) (p := 0) C dL_law_1578 rfl rfl ?_
    refine J_i2l C dL_law_1580 rfl ?_
    refine J_lcmp C dL_law_1581 rfl ?_
    rw [show lg_cmp r.2.2 p.1.toInt64 = 0 from by rw [h2 (Decidable.not_not.mp e)]; exact lg_cmp_self]
    refine J_if_eq (t := 1587) C dL_law_1582 (by decide) rfl (fun _ => ?_) (fun e => absurd rfl e)
    refine J_goto (t := 2954) C dL_law_1587 (by decide) ?_
    refine J.sub [2, 3, 4, 5, 6] rfl ?_
    exact J.widen (by omega) (by omega) (kont _ _ _ h3)
theorem ch_237 : CH RL 237 yL_dropMark cL_dropMark 4 (some .int) [(0, 9, 12, 21)] 3 := ⟨tw_1150, tw_81, tw_1152, tw_1151, by decide +kernel, by decide +kernel, by decide +kernel⟩
theorem cl_RL_239 : CV RL 239 11 yX12_dropMark cX12_dropMark 3 (some .int) 1 := ⟨⟨tw_1809, tw_93, tw_1812, by decide +kernel, by decide +kernel, by decide +kernel⟩, tw_1811, tw_1810, TX12, 56, rfl⟩
abbrev s_24 (xs : Nat → Int32) (i : Nat) (σ μ : Sto) (o : Int64) (Q : Sto → Sto → Int64 → Prop) : Prop := stH (f11_dropMark σ (xs (i + 1))) [(1, 1)] o (f12_dropMark μ (xs (i + 1))) Q
set_option maxHeartbeats 1000000 in
theorem case_24 {X : JX} {K : JK} {b L : Nat} {xs : Nat → Int32} {Q : State → Prop} {k sl : Nat} {σ μ : Sto} {o : Int64} {i : Nat} {Q9 : Sto → Sto → Int64 → Prop} (c : LC X K b L xs) (hi : i + 5 ≤ L) (hk : k + 8 ≤ X.2.2.2.1.cells) (hs : sl + 48 ≤ X.2.2.2.1.slots) (h : s_24 xs i σ μ o Q9) (kont : ∀ σ9 μ9 o9, Q9 σ9 μ9 o9 → J X K 9 False Q (k + 8) (sl + 48) 2055 (jw K σ9 μ9 o9) 2954 [(4, .int (Int32.ofNat i)), (0, .ref b), (1, .ref (K.2.2 + 0)), (2, .ref (K.2.2 + 2017)), (3, .ref (K.2.2 + 2054))] []) : J X K 9 False Q k sl 2055 (jw K σ μ o) 1686 [(4, .int (Int32.ofNat i)), (0, .ref b), (1, .ref (K.2.2 + 0)), (2, .ref (K.2.2 + 2017)), (3, .ref (K.2.2 + 2054))] [] := by
  have C := c.1
  refine J_aload_n (i := 1) (p := 2) C dL_law_1686 rfl rfl rfl ?_
  refine J_aload_n (i := 0) (p := 1) C dL_law_1687 rfl rfl rfl ?_
  refine J_iload (i := 4) (p := 0) C dL_law_1688 rfl rfl ?_
  refine J_iconst (v := 1) C (by decide) dL_law_1690 rfl ?_
  refine J_iadd C dL_law_1691 rfl ?_
  refine J_arg c 1 rfl hi (by decide) dL_law_1692 rfl ?_
  refine J_aload_n (i := 3) (p := 4) C dL_law_1693 rfl rfl rfl ?_
  refine Jl_cH (rest := []) (st9 := fun r => [.int r.1]) C ch_237 (hL_dropMark c.2.1 h) rfl rfl (Nat.le_trans (by decide) c.2.2.2.2.2.2.1) (Nat.le_trans (by decide) c.2.2.2.2.2.2.2) (Nat.le_of_ble_eq_true rfl) ⟨by omega, by omega⟩ dL_law_1694 rfl (fun _ => rfl) (fun r h => ?_)
  refine J_istoreE (i := 5) (x' := r.1) (lv' := [(5, .int r.1), (4, .int (Int32.ofNat i)), (0, .ref b), (1, .ref (K.2.2 + 0)), (2, .ref (K.2.2 + 2017)), (3, .ref (K.2.2 + 2054))]) C rfl dL_law_1697 (Nat.le_of_ble_eq_true rfl) rfl rfl ?_
  refine J_aload_n (i := 2) (p := 4) C dL_law_1699 rfl rfl rfl ?_
  refine J_aload_n (i := 0) (p := 2) C dL_law_1700 rfl rfl rfl ?_
  refine J_iload (i := 4) (p := 1) C dL_law_1701 rfl rfl ?_
  refine J_iconst (v := 1) C (by decide) dL_law_1703 rfl ?_
  refine J_iadd C dL_law_1704 rfl ?_
  refine J_arg c 1 rfl hi (by decide) dL_law_1705 rfl ?_
  refine Jl_mV (rest := []) (st9 := fun p => [.int p.1]) C cl_RL_239 rfl (Nat.le_of_ble_eq_true rfl) (k12_dropMark c.2.1 h) rfl rfl (Nat.le_trans (by decide) c.2.2.2.2.2.2.1) (Nat.le_trans (by decide) c.2.2.2.2.2.2.2) (Nat.le_of_ble_eq_true rfl) ⟨by omega, by omega⟩ dL_law_1706 rfl (fun _ => rfl) (fun p h => ?_)
  refine J_istoreE (i := 6) (x' := p.1) (lv' := [(6, .int p.1), (5, .int r.1), (4, .int (Int32.ofNat i)), (0, .ref b), (1, .ref (K.2.2 + 0)), (2, .ref (K.2.2 + 2017)), (3, .ref (K.2.2 + 2054))]) C rfl dL_law_1709 (Nat.le_of_ble_eq_true rfl) rfl rfl ?_
  refine J_aload_n (i := 2) (p := 5) C dL_law_1711 rfl rfl rfl ?_
  refine Jl_mV (rest := []) (st9 := fun t => [.int t]) C cl_RL_156 rfl (Nat.le_of_ble_eq_true rfl) (k12_thrown c.2.1 h) rfl rfl (Nat.le_trans (by decide) c.2.2.2.2.2.2.1) (Nat.le_trans (by decide) c.2.2.2.2.2.2.2) (Nat.le_of_ble_eq_true rfl) ⟨by omega, by omega⟩ dL_law_1712 rfl (fun _ => rfl) (fun t h => ?_)
  obtain ⟨h1, h2, h3⟩ := h
  refine J_iload (i := 5) (p := 1) C dL_law_1715 rfl rfl ?_
  refine J_icmp_eq (t := 1722) C dL_law_1717 (by decide) rfl (fun _ => ?_) (fun e => absurd h1 e)
  refine J_iload (i := 5) (p := 1) C dL_law_1722 rfl rfl ?_
  refine J_if_ne (t := 1739) C dL_law_1724 (by decide) rfl (fun _ => ?_) (fun e => ?_)
  · refine J_goto (t := 2954) C dL_law_1739 (by decide) ?_
    refine J.sub [2, 3, 4, 5, 6] rfl ?_
    exact J.widen (by omega) (by omega) (kont _ _ _ h3)
  · refine J_aload_n (i := 3) (p := 6) C dL_law_1727 rfl rfl rfl ?_
    refine J_iconst (v := 0) C (by decide) dL_law_1728 rfl ?_
    refine J_outld C dL_law_1729 rfl ?_
    refine J_iload (i := 6) (p := 0) C dL_law_1730 rfl rfl ?_
    refine J_i2l C dL_law_1732 rfl ?_
    refine J_lcmp C dL_law_1733 rfl ?_
    rw [show lg_cmp r.2.2 p.1.toInt64 = 0 from by rw [h2 (Decidable.not_not.mp e)]; exact lg_cmp_self]
    refine J_if_eq (t := 1739) C dL_law_1734 (by decide) rfl (fun _ => ?_) (fun e => absurd rfl e)
    refine J_goto (t := 2954) C dL_law_1739 (by decide) ?_
    refine J.sub [2, 3, 4, 5, 6] rfl ?_
    exact J.widen (by omega) (by omega) (kont _ _ _ h3)
theorem ch_240 : CH RL 240 yL_markAt cL_markAt 4 (some .int) [(0, 9, 12, 21)] 3 := ⟨tw_1157, tw_81, tw_1159, tw_1158, by decide +kernel, by decide +kernel, by decide +kernel⟩
theorem cl_RL_242 : CV RL 242 11 yX12_markAt cX12_markAt 2 (some .int) 1 := ⟨⟨tw_1813, tw_93, tw_1816, by decide +kernel, by decide +kernel, by decide +kernel⟩, tw_1815, tw_1814, TX12, 56, rfl⟩
abbrev s_25 (xs : Nat → Int32) (i : Nat) (σ μ : Sto) (o : Int64) (Q : Sto → Sto → Int64 → Prop) : Prop := stH (f11_markAt σ (xs (i + 1))) [(1, 1)] o (f12_markAt μ (xs (i + 1))) Q
set_option maxHeartbeats 1000000 in
theorem case_25 {X : JX} {K : JK} {b L : Nat} {xs : Nat → Int32} {Q : State → Prop} {k sl : Nat} {σ μ : Sto} {o : Int64} {i : Nat} {Q9 : Sto → Sto → Int64 → Prop} (c : LC X K b L xs) (hi : i + 5 ≤ L) (hk : k + 8 ≤ X.2.2.2.1.cells) (hs : sl + 48 ≤ X.2.2.2.1.slots) (h : s_25 xs i σ μ o Q9) (kont : ∀ σ9 μ9 o9, Q9 σ9 μ9 o9 → J X K 9 False Q (k + 8) (sl + 48) 2055 (jw K σ9 μ9 o9) 2954 [(4, .int (Int32.ofNat i)), (0, .ref b), (1, .ref (K.2.2 + 0)), (2, .ref (K.2.2 + 2017)), (3, .ref (K.2.2 + 2054))] []) : J X K 9 False Q k sl 2055 (jw K σ μ o) 1742 [(4, .int (Int32.ofNat i)), (0, .ref b), (1, .ref (K.2.2 + 0)), (2, .ref (K.2.2 + 2017)), (3, .ref (K.2.2 + 2054))] [] := by
  have C := c.1
  refine J_aload_n (i := 1) (p := 2) C dL_law_1742 rfl rfl rfl ?_
  refine J_aload_n (i := 0) (p := 1) C dL_law_1743 rfl rfl rfl ?_
  refine J_iload (i := 4) (p := 0) C dL_law_1744 rfl rfl ?_
  refine J_iconst (v := 1) C (by decide) dL_law_1746 rfl ?_
  refine J_iadd C dL_law_1747 rfl ?_
  refine J_arg c 1 rfl hi (by decide) dL_law_1748 rfl ?_
  refine J_aload_n (i := 3) (p := 4) C dL_law_1749 rfl rfl rfl ?_
  refine Jl_cH (rest := []) (st9 := fun r => [.int r.1]) C ch_240 (hL_markAt c.2.1 h) rfl rfl (Nat.le_trans (by decide) c.2.2.2.2.2.2.1) (Nat.le_trans (by decide) c.2.2.2.2.2.2.2) (Nat.le_of_ble_eq_true rfl) ⟨by omega, by omega⟩ dL_law_1750 rfl (fun _ => rfl) (fun r h => ?_)
  refine J_istoreE (i := 5) (x' := r.1) (lv' := [(5, .int r.1), (4, .int (Int32.ofNat i)), (0, .ref b), (1, .ref (K.2.2 + 0)), (2, .ref (K.2.2 + 2017)), (3, .ref (K.2.2 + 2054))]) C rfl dL_law_1753 (Nat.le_of_ble_eq_true rfl) rfl rfl ?_
  refine J_aload_n (i := 2) (p := 4) C dL_law_1755 rfl rfl rfl ?_
  refine J_aload_n (i := 0) (p := 2) C dL_law_1756 rfl rfl rfl ?_
  refine J_iload (i := 4) (p := 1) C dL_law_1757 rfl rfl ?_
  refine J_iconst (v := 1) C (by decide) dL_law_1759 rfl ?_
  refine J_iadd C dL_law_1760 rfl ?_
  refine J_arg c 1 rfl hi (by decide) dL_law_1761 rfl ?_
  refine Jl_mV (rest := []) (st9 := fun p => [.int p.1]) C cl_RL_242 rfl (Nat.le_of_ble_eq_true rfl) (k12_markAt c.2.1 h) rfl rfl (Nat.le_trans (by decide) c.2.2.2.2.2.2.1) (Nat.le_trans (by decide) c.2.2.2.2.2.2.2) (Nat.le_of_ble_eq_true rfl) ⟨by omega, by omega⟩ dL_law_1762 rfl (fun _ => rfl) (fun p h => ?_)
  refine J_istoreE (i := 6) (x' := p.1) (lv' := [(6, .int p.1), (5, .int r.1), (4, .int (Int32.ofNat i)), (0, .ref b), (1, .ref (K.2.2 + 0)), (2, .ref (K.2.2 + 2017)), (3, .ref (K.2.2 + 2054))]) C rfl dL_law_1765 (Nat.le_of_ble_eq_true rfl) rfl rfl ?_
  refine J_aload_n (i := 2) (p := 5) C dL_law_1767 rfl rfl rfl ?_
  refine Jl_mV (rest := []) (st9 := fun t => [.int t]) C cl_RL_156 rfl (Nat.le_of_ble_eq_true rfl) (k12_thrown c.2.1 h) rfl rfl (Nat.le_trans (by decide) c.2.2.2.2.2.2.1) (Nat.le_trans (by decide) c.2.2.2.2.2.2.2) (Nat.le_of_ble_eq_true rfl) ⟨by omega, by omega⟩ dL_law_1768 rfl (fun _ => rfl) (fun t h => ?_)
  obtain ⟨h1, h2, h3⟩ := h
  refine J_iload (i := 5) (p := 1) C dL_law_1771 rfl rfl ?_
  refine J_icmp_eq (t := 1778) C dL_law_1773 (by decide) rfl (fun _ => ?_) (fun e => absurd h1 e)
  refine J_iload (i := 5) (p := 1) C dL_law_1778 rfl rfl ?_
  refine J_if_ne (t := 1795) C dL_law_1780 (by decide) rfl (fun _ => ?_) (fun e => ?_)
  · refine J_goto (t := 2954) C dL_law_1795 (by decide) ?_
    refine J.sub [2, 3, 4, 5, 6] rfl ?_
    exact J.widen (by omega) (by omega) (kont _ _ _ h3)
  · refine J_aload_n (i := 3) (p := 6) C dL_law_1783 rfl rfl rfl ?_
    refine J_iconst (v := 0) C (by decide) dL_law_1784 rfl ?_
    refine J_outld C dL_law_1785 rfl ?_
    refine J_iload (i := 6) (p := 0) C dL_law_1786 rfl rfl ?_
    refine J_i2l C dL_law_1788 rfl ?_
    refine J_lcmp C dL_law_1789 rfl ?_
    rw [show lg_cmp r.2.2 p.1.toInt64 = 0 from by rw [h2 (Decidable.not_not.mp e)]; exact lg_cmp_self]
    refine J_if_eq (t := 1795) C dL_law_1790 (by decide) rfl (fun _ => ?_) (fun e => absurd rfl e)
    refine J_goto (t := 2954) C dL_law_1795 (by decide) ?_
    refine J.sub [2, 3, 4, 5, 6] rfl ?_
    exact J.widen (by omega) (by omega) (kont _ _ _ h3)
theorem ch_254 : CH RL 254 yL_fold cL_fold 5 (some .int) [(0, 10, 13, 21), (0, 10, 17, 13), (0, 10, 21, 15)] 4 := ⟨tw_1204, tw_81, tw_1206, tw_1205, by decide +kernel, by decide +kernel, by decide +kernel⟩
theorem cl_RL_256 : CV RL 256 11 yX12_fold cX12_fold 4 (some .int) 2 := ⟨⟨tw_1821, tw_93, tw_1824, by decide +kernel, by decide +kernel, by decide +kernel⟩, tw_1823, tw_1822, TX12, 56, rfl⟩
abbrev s_29 (xs : Nat → Int32) (i : Nat) (σ μ : Sto) (o : Int64) (Q : Sto → Sto → Int64 → Prop) : Prop := stH (f11_fold σ (xs (i + 1)) (xs (i + 2))) [(1, 1), (2, 2), (3, 3)] o (f12_fold μ (xs (i + 1)) (xs (i + 2))) Q
set_option maxHeartbeats 1000000 in
theorem case_29 {X : JX} {K : JK} {b L : Nat} {xs : Nat → Int32} {Q : State → Prop} {k sl : Nat} {σ μ : Sto} {o : Int64} {i : Nat} {Q9 : Sto → Sto → Int64 → Prop} (c : LC X K b L xs) (hi : i + 5 ≤ L) (hk : k + 8 ≤ X.2.2.2.1.cells) (hs : sl + 48 ≤ X.2.2.2.1.slots) (h : s_29 xs i σ μ o Q9) (kont : ∀ σ9 μ9 o9, Q9 σ9 μ9 o9 → J X K 9 False Q (k + 8) (sl + 48) 2055 (jw K σ9 μ9 o9) 2954 [(4, .int (Int32.ofNat i)), (0, .ref b), (1, .ref (K.2.2 + 0)), (2, .ref (K.2.2 + 2017)), (3, .ref (K.2.2 + 2054))] []) : J X K 9 False Q k sl 2055 (jw K σ μ o) 2038 [(4, .int (Int32.ofNat i)), (0, .ref b), (1, .ref (K.2.2 + 0)), (2, .ref (K.2.2 + 2017)), (3, .ref (K.2.2 + 2054))] [] := by
  have C := c.1
  refine J_aload_n (i := 1) (p := 2) C dL_law_2038 rfl rfl rfl ?_
  refine J_aload_n (i := 0) (p := 1) C dL_law_2039 rfl rfl rfl ?_
  refine J_iload (i := 4) (p := 0) C dL_law_2040 rfl rfl ?_
  refine J_iconst (v := 1) C (by decide) dL_law_2042 rfl ?_
  refine J_iadd C dL_law_2043 rfl ?_
  refine J_arg c 1 rfl hi (by decide) dL_law_2044 rfl ?_
  refine J_aload_n (i := 0) (p := 1) C dL_law_2045 rfl rfl rfl ?_
  refine J_iload (i := 4) (p := 0) C dL_law_2046 rfl rfl ?_
  refine J_iconst (v := 2) C (by decide) dL_law_2048 rfl ?_
  refine J_iadd C dL_law_2049 rfl ?_
  refine J_arg c 2 rfl hi (by decide) dL_law_2050 rfl ?_
  refine J_aload_n (i := 3) (p := 4) C dL_law_2051 rfl rfl rfl ?_
  refine Jl_cH (rest := []) (st9 := fun r => [.int r.1]) C ch_254 (hL_fold c.2.1 h) rfl rfl (Nat.le_trans (by decide) c.2.2.2.2.2.2.1) (Nat.le_trans (by decide) c.2.2.2.2.2.2.2) (Nat.le_of_ble_eq_true rfl) ⟨by omega, by omega⟩ dL_law_2052 rfl (fun _ => rfl) (fun r h => ?_)
  refine J_istoreE (i := 5) (x' := r.1) (lv' := [(5, .int r.1), (4, .int (Int32.ofNat i)), (0, .ref b), (1, .ref (K.2.2 + 0)), (2, .ref (K.2.2 + 2017)), (3, .ref (K.2.2 + 2054))]) C rfl dL_law_2055 (Nat.le_of_ble_eq_true rfl) rfl rfl ?_
  refine J_aload_n (i := 2) (p := 4) C dL_law_2057 rfl rfl rfl ?_
  refine J_aload_n (i := 0) (p := 2) C dL_law_2058 rfl rfl rfl ?_
  refine J_iload (i := 4) (p := 1) C dL_law_2059 rfl rfl ?_
  refine J_iconst (v := 1) C (by decide) dL_law_2061 rfl ?_
  refine J_iadd C dL_law_2062 rfl ?_
  refine J_arg c 1 rfl hi (by decide) dL_law_2063 rfl ?_
  refine J_aload_n (i := 0) (p := 2) C dL_law_2064 rfl rfl rfl ?_
  refine J_iload (i := 4) (p := 1) C dL_law_2065 rfl rfl ?_
  refine J_iconst (v := 2) C (by decide) dL_law_2067 rfl ?_
  refine J_iadd C dL_law_2068 rfl ?_
  refine J_arg c 2 rfl hi (by decide) dL_law_2069 rfl ?_
  refine Jl_mV (rest := []) (st9 := fun p => [.int p.1]) C cl_RL_256 rfl (Nat.le_of_ble_eq_true rfl) (k12_fold c.2.1 h) rfl rfl (Nat.le_trans (by decide) c.2.2.2.2.2.2.1) (Nat.le_trans (by decide) c.2.2.2.2.2.2.2) (Nat.le_of_ble_eq_true rfl) ⟨by omega, by omega⟩ dL_law_2070 rfl (fun _ => rfl) (fun p h => ?_)
  refine J_istoreE (i := 6) (x' := p.1) (lv' := [(6, .int p.1), (5, .int r.1), (4, .int (Int32.ofNat i)), (0, .ref b), (1, .ref (K.2.2 + 0)), (2, .ref (K.2.2 + 2017)), (3, .ref (K.2.2 + 2054))]) C rfl dL_law_2073 (Nat.le_of_ble_eq_true rfl) rfl rfl ?_
  refine J_aload_n (i := 2) (p := 5) C dL_law_2075 rfl rfl rfl ?_
  refine Jl_mV (rest := []) (st9 := fun t => [.int t]) C cl_RL_156 rfl (Nat.le_of_ble_eq_true rfl) (k12_thrown c.2.1 h) rfl rfl (Nat.le_trans (by decide) c.2.2.2.2.2.2.1) (Nat.le_trans (by decide) c.2.2.2.2.2.2.2) (Nat.le_of_ble_eq_true rfl) ⟨by omega, by omega⟩ dL_law_2076 rfl (fun _ => rfl) (fun t h => ?_)
  obtain ⟨h1, h2, h3⟩ := h
  refine J_iload (i := 5) (p := 1) C dL_law_2079 rfl rfl ?_
  refine J_icmp_eq (t := 2086) C dL_law_2081 (by decide) rfl (fun _ => ?_) (fun e => absurd h1 e)
  refine J_iload (i := 5) (p := 1) C dL_law_2086 rfl rfl ?_
  refine J_if_ne (t := 2103) C dL_law_2088 (by decide) rfl (fun _ => ?_) (fun e => ?_)
  · refine J_goto (t := 2954) C dL_law_2103 (by decide) ?_
    refine J.sub [2, 3, 4, 5, 6] rfl ?_
    exact J.widen (by omega) (by omega) (kont _ _ _ h3)
  · refine J_aload_n (i := 3) (p := 6) C dL_law_2091 rfl rfl rfl ?_
    refine J_iconst (v := 0) C (by decide) dL_law_2092 rfl ?_
    refine J_outld C dL_law_2093 rfl ?_
    refine J_iload (i := 6) (p := 0) C dL_law_2094 rfl rfl ?_
    refine J_i2l C dL_law_2096 rfl ?_
    refine J_lcmp C dL_law_2097 rfl ?_
    rw [show lg_cmp r.2.2 p.1.toInt64 = 0 from by rw [h2 (Decidable.not_not.mp e)]; exact lg_cmp_self]
    refine J_if_eq (t := 2103) C dL_law_2098 (by decide) rfl (fun _ => ?_) (fun e => absurd rfl e)
    refine J_goto (t := 2954) C dL_law_2103 (by decide) ?_
    refine J.sub [2, 3, 4, 5, 6] rfl ?_
    exact J.widen (by omega) (by omega) (kont _ _ _ h3)
theorem ch_257 : CH RL 257 yL_unfold cL_unfold 4 (some .int) [(0, 9, 12, 21)] 3 := ⟨tw_1221, tw_81, tw_1223, tw_1222, by decide +kernel, by decide +kernel, by decide +kernel⟩
theorem cl_RL_259 : CV RL 259 11 yX12_unfold cX12_unfold 2 (some .int) 1 := ⟨⟨tw_1829, tw_93, tw_1832, by decide +kernel, by decide +kernel, by decide +kernel⟩, tw_1831, tw_1830, TX12, 56, rfl⟩
abbrev s_30 (xs : Nat → Int32) (i : Nat) (σ μ : Sto) (o : Int64) (Q : Sto → Sto → Int64 → Prop) : Prop := stH (f11_unfold σ (xs (i + 1))) [(1, 1)] o (f12_unfold μ (xs (i + 1))) Q
set_option maxHeartbeats 1000000 in
theorem case_30 {X : JX} {K : JK} {b L : Nat} {xs : Nat → Int32} {Q : State → Prop} {k sl : Nat} {σ μ : Sto} {o : Int64} {i : Nat} {Q9 : Sto → Sto → Int64 → Prop} (c : LC X K b L xs) (hi : i + 5 ≤ L) (hk : k + 8 ≤ X.2.2.2.1.cells) (hs : sl + 48 ≤ X.2.2.2.1.slots) (h : s_30 xs i σ μ o Q9) (kont : ∀ σ9 μ9 o9, Q9 σ9 μ9 o9 → J X K 9 False Q (k + 8) (sl + 48) 2055 (jw K σ9 μ9 o9) 2954 [(4, .int (Int32.ofNat i)), (0, .ref b), (1, .ref (K.2.2 + 0)), (2, .ref (K.2.2 + 2017)), (3, .ref (K.2.2 + 2054))] []) : J X K 9 False Q k sl 2055 (jw K σ μ o) 2106 [(4, .int (Int32.ofNat i)), (0, .ref b), (1, .ref (K.2.2 + 0)), (2, .ref (K.2.2 + 2017)), (3, .ref (K.2.2 + 2054))] [] := by
  have C := c.1
  refine J_aload_n (i := 1) (p := 2) C dL_law_2106 rfl rfl rfl ?_
  refine J_aload_n (i := 0) (p := 1) C dL_law_2107 rfl rfl rfl ?_
  refine J_iload (i := 4) (p := 0) C dL_law_2108 rfl rfl ?_
  refine J_iconst (v := 1) C (by decide) dL_law_2110 rfl ?_
  refine J_iadd C dL_law_2111 rfl ?_
  refine J_arg c 1 rfl hi (by decide) dL_law_2112 rfl ?_
  refine J_aload_n (i := 3) (p := 4) C dL_law_2113 rfl rfl rfl ?_
  refine Jl_cH (rest := []) (st9 := fun r => [.int r.1]) C ch_257 (hL_unfold c.2.1 h) rfl rfl (Nat.le_trans (by decide) c.2.2.2.2.2.2.1) (Nat.le_trans (by decide) c.2.2.2.2.2.2.2) (Nat.le_of_ble_eq_true rfl) ⟨by omega, by omega⟩ dL_law_2114 rfl (fun _ => rfl) (fun r h => ?_)
  refine J_istoreE (i := 5) (x' := r.1) (lv' := [(5, .int r.1), (4, .int (Int32.ofNat i)), (0, .ref b), (1, .ref (K.2.2 + 0)), (2, .ref (K.2.2 + 2017)), (3, .ref (K.2.2 + 2054))]) C rfl dL_law_2117 (Nat.le_of_ble_eq_true rfl) rfl rfl ?_
  refine J_aload_n (i := 2) (p := 4) C dL_law_2119 rfl rfl rfl ?_
  refine J_aload_n (i := 0) (p := 2) C dL_law_2120 rfl rfl rfl ?_
  refine J_iload (i := 4) (p := 1) C dL_law_2121 rfl rfl ?_
  refine J_iconst (v := 1) C (by decide) dL_law_2123 rfl ?_
  refine J_iadd C dL_law_2124 rfl ?_
  refine J_arg c 1 rfl hi (by decide) dL_law_2125 rfl ?_
  refine Jl_mV (rest := []) (st9 := fun p => [.int p.1]) C cl_RL_259 rfl (Nat.le_of_ble_eq_true rfl) (k12_unfold c.2.1 h) rfl rfl (Nat.le_trans (by decide) c.2.2.2.2.2.2.1) (Nat.le_trans (by decide) c.2.2.2.2.2.2.2) (Nat.le_of_ble_eq_true rfl) ⟨by omega, by omega⟩ dL_law_2126 rfl (fun _ => rfl) (fun p h => ?_)
  refine J_istoreE (i := 6) (x' := p.1) (lv' := [(6, .int p.1), (5, .int r.1), (4, .int (Int32.ofNat i)), (0, .ref b), (1, .ref (K.2.2 + 0)), (2, .ref (K.2.2 + 2017)), (3, .ref (K.2.2 + 2054))]) C rfl dL_law_2129 (Nat.le_of_ble_eq_true rfl) rfl rfl ?_
  refine J_aload_n (i := 2) (p := 5) C dL_law_2131 rfl rfl rfl ?_
  refine Jl_mV (rest := []) (st9 := fun t => [.int t]) C cl_RL_156 rfl (Nat.le_of_ble_eq_true rfl) (k12_thrown c.2.1 h) rfl rfl (Nat.le_trans (by decide) c.2.2.2.2.2.2.1) (Nat.le_trans (by decide) c.2.2.2.2.2.2.2) (Nat.le_of_ble_eq_true rfl) ⟨by omega, by omega⟩ dL_law_2132 rfl (fun _ => rfl) (fun t h => ?_)
  obtain ⟨h1, h2, h3⟩ := h
  refine J_iload (i := 5) (p := 1) C dL_law_2135 rfl rfl ?_
  refine J_icmp_eq (t := 2142) C dL_law_2137 (by decide) rfl (fun _ => ?_) (fun e => absurd h1 e)
  refine J_iload (i := 5) (p := 1) C dL_law_2142 rfl rfl ?_
  refine J_if_ne (t := 2159) C dL_law_2144 (by decide) rfl (fun _ => ?_) (fun e => ?_)
  · refine J_goto (t := 2954) C dL_law_2159 (by decide) ?_
    refine J.sub [2, 3, 4, 5, 6] rfl ?_
    exact J.widen (by omega) (by omega) (kont _ _ _ h3)
  · refine J_aload_n (i := 3) (p := 6) C dL_law_2147 rfl rfl rfl ?_
    refine J_iconst (v := 0) C (by decide) dL_law_2148 rfl ?_
    refine J_outld C dL_law_2149 rfl ?_
    refine J_iload (i := 6) (p := 0) C dL_law_2150 rfl rfl ?_
    refine J_i2l C dL_law_2152 rfl ?_
    refine J_lcmp C dL_law_2153 rfl ?_
    rw [show lg_cmp r.2.2 p.1.toInt64 = 0 from by rw [h2 (Decidable.not_not.mp e)]; exact lg_cmp_self]
    refine J_if_eq (t := 2159) C dL_law_2154 (by decide) rfl (fun _ => ?_) (fun e => absurd rfl e)
    refine J_goto (t := 2954) C dL_law_2159 (by decide) ?_
    refine J.sub [2, 3, 4, 5, 6] rfl ?_
    exact J.widen (by omega) (by omega) (kont _ _ _ h3)
theorem ch_263 : CH RL 263 yL_setView cL_setView 6 (some .int) [(0, 12, 15, 21), (0, 12, 19, 13)] 5 := ⟨tw_1236, tw_81, tw_1238, tw_1237, by decide +kernel, by decide +kernel, by decide +kernel⟩
theorem cl_RL_265 : CV RL 265 11 yX12_setView cX12_setView 5 (some .int) 3 := ⟨⟨tw_1841, tw_93, tw_1844, by decide +kernel, by decide +kernel, by decide +kernel⟩, tw_1843, tw_1842, TX12, 56, rfl⟩
abbrev s_32 (xs : Nat → Int32) (i : Nat) (σ μ : Sto) (o : Int64) (Q : Sto → Sto → Int64 → Prop) : Prop := stH (f11_setView σ (xs (i + 1)) (xs (i + 2)) (xs (i + 3))) [(1, 1), (2, 2)] o (f12_setView μ (xs (i + 1)) (xs (i + 2)) (xs (i + 3))) Q
set_option maxHeartbeats 1000000 in
theorem case_32 {X : JX} {K : JK} {b L : Nat} {xs : Nat → Int32} {Q : State → Prop} {k sl : Nat} {σ μ : Sto} {o : Int64} {i : Nat} {Q9 : Sto → Sto → Int64 → Prop} (c : LC X K b L xs) (hi : i + 5 ≤ L) (hk : k + 8 ≤ X.2.2.2.1.cells) (hs : sl + 48 ≤ X.2.2.2.1.slots) (h : s_32 xs i σ μ o Q9) (kont : ∀ σ9 μ9 o9, Q9 σ9 μ9 o9 → J X K 9 False Q (k + 8) (sl + 48) 2055 (jw K σ9 μ9 o9) 2954 [(4, .int (Int32.ofNat i)), (0, .ref b), (1, .ref (K.2.2 + 0)), (2, .ref (K.2.2 + 2017)), (3, .ref (K.2.2 + 2054))] []) : J X K 9 False Q k sl 2055 (jw K σ μ o) 2225 [(4, .int (Int32.ofNat i)), (0, .ref b), (1, .ref (K.2.2 + 0)), (2, .ref (K.2.2 + 2017)), (3, .ref (K.2.2 + 2054))] [] := by
  have C := c.1
  refine J_aload_n (i := 1) (p := 2) C dL_law_2225 rfl rfl rfl ?_
  refine J_aload_n (i := 0) (p := 1) C dL_law_2226 rfl rfl rfl ?_
  refine J_iload (i := 4) (p := 0) C dL_law_2227 rfl rfl ?_
  refine J_iconst (v := 1) C (by decide) dL_law_2229 rfl ?_
  refine J_iadd C dL_law_2230 rfl ?_
  refine J_arg c 1 rfl hi (by decide) dL_law_2231 rfl ?_
  refine J_aload_n (i := 0) (p := 1) C dL_law_2232 rfl rfl rfl ?_
  refine J_iload (i := 4) (p := 0) C dL_law_2233 rfl rfl ?_
  refine J_iconst (v := 2) C (by decide) dL_law_2235 rfl ?_
  refine J_iadd C dL_law_2236 rfl ?_
  refine J_arg c 2 rfl hi (by decide) dL_law_2237 rfl ?_
  refine J_aload_n (i := 0) (p := 1) C dL_law_2238 rfl rfl rfl ?_
  refine J_iload (i := 4) (p := 0) C dL_law_2239 rfl rfl ?_
  refine J_iconst (v := 3) C (by decide) dL_law_2241 rfl ?_
  refine J_iadd C dL_law_2242 rfl ?_
  refine J_arg c 3 rfl hi (by decide) dL_law_2243 rfl ?_
  refine J_aload_n (i := 3) (p := 4) C dL_law_2244 rfl rfl rfl ?_
  refine Jl_cH (rest := []) (st9 := fun r => [.int r.1]) C ch_263 (hL_setView c.2.1 h) rfl rfl (Nat.le_trans (by decide) c.2.2.2.2.2.2.1) (Nat.le_trans (by decide) c.2.2.2.2.2.2.2) (Nat.le_of_ble_eq_true rfl) ⟨by omega, by omega⟩ dL_law_2245 rfl (fun _ => rfl) (fun r h => ?_)
  refine J_istoreE (i := 5) (x' := r.1) (lv' := [(5, .int r.1), (4, .int (Int32.ofNat i)), (0, .ref b), (1, .ref (K.2.2 + 0)), (2, .ref (K.2.2 + 2017)), (3, .ref (K.2.2 + 2054))]) C rfl dL_law_2248 (Nat.le_of_ble_eq_true rfl) rfl rfl ?_
  refine J_aload_n (i := 2) (p := 4) C dL_law_2250 rfl rfl rfl ?_
  refine J_aload_n (i := 0) (p := 2) C dL_law_2251 rfl rfl rfl ?_
  refine J_iload (i := 4) (p := 1) C dL_law_2252 rfl rfl ?_
  refine J_iconst (v := 1) C (by decide) dL_law_2254 rfl ?_
  refine J_iadd C dL_law_2255 rfl ?_
  refine J_arg c 1 rfl hi (by decide) dL_law_2256 rfl ?_
  refine J_aload_n (i := 0) (p := 2) C dL_law_2257 rfl rfl rfl ?_
  refine J_iload (i := 4) (p := 1) C dL_law_2258 rfl rfl ?_
  refine J_iconst (v := 2) C (by decide) dL_law_2260 rfl ?_
  refine J_iadd C dL_law_2261 rfl ?_
  refine J_arg c 2 rfl hi (by decide) dL_law_2262 rfl ?_
  refine J_aload_n (i := 0) (p := 2) C dL_law_2263 rfl rfl rfl ?_
  refine J_iload (i := 4) (p := 1) C dL_law_2264 rfl rfl ?_
  refine J_iconst (v := 3) C (by decide) dL_law_2266 rfl ?_
  refine J_iadd C dL_law_2267 rfl ?_
  refine J_arg c 3 rfl hi (by decide) dL_law_2268 rfl ?_
  refine Jl_mV (rest := []) (st9 := fun p => [.int p.1]) C cl_RL_265 rfl (Nat.le_of_ble_eq_true rfl) (k12_setView c.2.1 h) rfl rfl (Nat.le_trans (by decide) c.2.2.2.2.2.2.1) (Nat.le_trans (by decide) c.2.2.2.2.2.2.2) (Nat.le_of_ble_eq_true rfl) ⟨by omega, by omega⟩ dL_law_2269 rfl (fun _ => rfl) (fun p h => ?_)
  refine J_istoreE (i := 6) (x' := p.1) (lv' := [(6, .int p.1), (5, .int r.1), (4, .int (Int32.ofNat i)), (0, .ref b), (1, .ref (K.2.2 + 0)), (2, .ref (K.2.2 + 2017)), (3, .ref (K.2.2 + 2054))]) C rfl dL_law_2272 (Nat.le_of_ble_eq_true rfl) rfl rfl ?_
  refine J_aload_n (i := 2) (p := 5) C dL_law_2274 rfl rfl rfl ?_
  refine Jl_mV (rest := []) (st9 := fun t => [.int t]) C cl_RL_156 rfl (Nat.le_of_ble_eq_true rfl) (k12_thrown c.2.1 h) rfl rfl (Nat.le_trans (by decide) c.2.2.2.2.2.2.1) (Nat.le_trans (by decide) c.2.2.2.2.2.2.2) (Nat.le_of_ble_eq_true rfl) ⟨by omega, by omega⟩ dL_law_2275 rfl (fun _ => rfl) (fun t h => ?_)
  obtain ⟨h1, h2, h3⟩ := h
  refine J_iload (i := 5) (p := 1) C dL_law_2278 rfl rfl ?_
  refine J_icmp_eq (t := 2285) C dL_law_2280 (by decide) rfl (fun _ => ?_) (fun e => absurd h1 e)
  refine J_iload (i := 5) (p := 1) C dL_law_2285 rfl rfl ?_
  refine J_if_ne (t := 2302) C dL_law_2287 (by decide) rfl (fun _ => ?_) (fun e => ?_)
  · refine J_goto (t := 2954) C dL_law_2302 (by decide) ?_
    refine J.sub [2, 3, 4, 5, 6] rfl ?_
    exact J.widen (by omega) (by omega) (kont _ _ _ h3)
  · refine J_aload_n (i := 3) (p := 6) C dL_law_2290 rfl rfl rfl ?_
    refine J_iconst (v := 0) C (by decide) dL_law_2291 rfl ?_
    refine J_outld C dL_law_2292 rfl ?_
    refine J_iload (i := 6) (p := 0) C dL_law_2293 rfl rfl ?_
    refine J_i2l C dL_law_2295 rfl ?_
    refine J_lcmp C dL_law_2296 rfl ?_
    rw [show lg_cmp r.2.2 p.1.toInt64 = 0 from by rw [h2 (Decidable.not_not.mp e)]; exact lg_cmp_self]
    refine J_if_eq (t := 2302) C dL_law_2297 (by decide) rfl (fun _ => ?_) (fun e => absurd rfl e)
    refine J_goto (t := 2954) C dL_law_2302 (by decide) ?_
    refine J.sub [2, 3, 4, 5, 6] rfl ?_
    exact J.widen (by omega) (by omega) (kont _ _ _ h3)
theorem ch_266 : CH RL 266 yL_rowOf cL_rowOf 5 (some .int) [(0, 10, 13, 21), (0, 10, 17, 13)] 4 := ⟨tw_1249, tw_81, tw_1251, tw_1250, by decide +kernel, by decide +kernel, by decide +kernel⟩
theorem cl_RL_268 : CV RL 268 11 yX12_rowOf cX12_rowOf 6 (some .int) 2 := ⟨⟨tw_1848, tw_93, tw_1851, by decide +kernel, by decide +kernel, by decide +kernel⟩, tw_1850, tw_1849, TX12, 56, rfl⟩
abbrev s_33 (xs : Nat → Int32) (i : Nat) (σ μ : Sto) (o : Int64) (Q : Sto → Sto → Int64 → Prop) : Prop := stH (f11_rowOf σ (xs (i + 1)) (xs (i + 2))) [(1, 1), (2, 2)] o (f12_rowOf μ (xs (i + 1)) (xs (i + 2))) Q
set_option maxHeartbeats 1000000 in
theorem case_33 {X : JX} {K : JK} {b L : Nat} {xs : Nat → Int32} {Q : State → Prop} {k sl : Nat} {σ μ : Sto} {o : Int64} {i : Nat} {Q9 : Sto → Sto → Int64 → Prop} (c : LC X K b L xs) (hi : i + 5 ≤ L) (hk : k + 8 ≤ X.2.2.2.1.cells) (hs : sl + 48 ≤ X.2.2.2.1.slots) (h : s_33 xs i σ μ o Q9) (kont : ∀ σ9 μ9 o9, Q9 σ9 μ9 o9 → J X K 9 False Q (k + 8) (sl + 48) 2055 (jw K σ9 μ9 o9) 2954 [(4, .int (Int32.ofNat i)), (0, .ref b), (1, .ref (K.2.2 + 0)), (2, .ref (K.2.2 + 2017)), (3, .ref (K.2.2 + 2054))] []) : J X K 9 False Q k sl 2055 (jw K σ μ o) 2305 [(4, .int (Int32.ofNat i)), (0, .ref b), (1, .ref (K.2.2 + 0)), (2, .ref (K.2.2 + 2017)), (3, .ref (K.2.2 + 2054))] [] := by
  have C := c.1
  refine J_aload_n (i := 1) (p := 2) C dL_law_2305 rfl rfl rfl ?_
  refine J_aload_n (i := 0) (p := 1) C dL_law_2306 rfl rfl rfl ?_
  refine J_iload (i := 4) (p := 0) C dL_law_2307 rfl rfl ?_
  refine J_iconst (v := 1) C (by decide) dL_law_2309 rfl ?_
  refine J_iadd C dL_law_2310 rfl ?_
  refine J_arg c 1 rfl hi (by decide) dL_law_2311 rfl ?_
  refine J_aload_n (i := 0) (p := 1) C dL_law_2312 rfl rfl rfl ?_
  refine J_iload (i := 4) (p := 0) C dL_law_2313 rfl rfl ?_
  refine J_iconst (v := 2) C (by decide) dL_law_2315 rfl ?_
  refine J_iadd C dL_law_2316 rfl ?_
  refine J_arg c 2 rfl hi (by decide) dL_law_2317 rfl ?_
  refine J_aload_n (i := 3) (p := 4) C dL_law_2318 rfl rfl rfl ?_
  refine Jl_cH (rest := []) (st9 := fun r => [.int r.1]) C ch_266 (hL_rowOf c.2.1 h) rfl rfl (Nat.le_trans (by decide) c.2.2.2.2.2.2.1) (Nat.le_trans (by decide) c.2.2.2.2.2.2.2) (Nat.le_of_ble_eq_true rfl) ⟨by omega, by omega⟩ dL_law_2319 rfl (fun _ => rfl) (fun r h => ?_)
  refine J_istoreE (i := 5) (x' := r.1) (lv' := [(5, .int r.1), (4, .int (Int32.ofNat i)), (0, .ref b), (1, .ref (K.2.2 + 0)), (2, .ref (K.2.2 + 2017)), (3, .ref (K.2.2 + 2054))]) C rfl dL_law_2322 (Nat.le_of_ble_eq_true rfl) rfl rfl ?_
  refine J_aload_n (i := 2) (p := 4) C dL_law_2324 rfl rfl rfl ?_
  refine J_aload_n (i := 0) (p := 2) C dL_law_2325 rfl rfl rfl ?_
  refine J_iload (i := 4) (p := 1) C dL_law_2326 rfl rfl ?_
  refine J_iconst (v := 1) C (by decide) dL_law_2328 rfl ?_
  refine J_iadd C dL_law_2329 rfl ?_
  refine J_arg c 1 rfl hi (by decide) dL_law_2330 rfl ?_
  refine J_aload_n (i := 0) (p := 2) C dL_law_2331 rfl rfl rfl ?_
  refine J_iload (i := 4) (p := 1) C dL_law_2332 rfl rfl ?_
  refine J_iconst (v := 2) C (by decide) dL_law_2334 rfl ?_
  refine J_iadd C dL_law_2335 rfl ?_
  refine J_arg c 2 rfl hi (by decide) dL_law_2336 rfl ?_
  refine Jl_mV (rest := []) (st9 := fun p => [.int p.1]) C cl_RL_268 rfl (Nat.le_of_ble_eq_true rfl) (k12_rowOf c.2.1 h) rfl rfl (Nat.le_trans (by decide) c.2.2.2.2.2.2.1) (Nat.le_trans (by decide) c.2.2.2.2.2.2.2) (Nat.le_of_ble_eq_true rfl) ⟨by omega, by omega⟩ dL_law_2337 rfl (fun _ => rfl) (fun p h => ?_)
  refine J_istoreE (i := 6) (x' := p.1) (lv' := [(6, .int p.1), (5, .int r.1), (4, .int (Int32.ofNat i)), (0, .ref b), (1, .ref (K.2.2 + 0)), (2, .ref (K.2.2 + 2017)), (3, .ref (K.2.2 + 2054))]) C rfl dL_law_2340 (Nat.le_of_ble_eq_true rfl) rfl rfl ?_
  refine J_aload_n (i := 2) (p := 5) C dL_law_2342 rfl rfl rfl ?_
  refine Jl_mV (rest := []) (st9 := fun t => [.int t]) C cl_RL_156 rfl (Nat.le_of_ble_eq_true rfl) (k12_thrown c.2.1 h) rfl rfl (Nat.le_trans (by decide) c.2.2.2.2.2.2.1) (Nat.le_trans (by decide) c.2.2.2.2.2.2.2) (Nat.le_of_ble_eq_true rfl) ⟨by omega, by omega⟩ dL_law_2343 rfl (fun _ => rfl) (fun t h => ?_)
  obtain ⟨h1, h2, h3⟩ := h
  refine J_iload (i := 5) (p := 1) C dL_law_2346 rfl rfl ?_
  refine J_icmp_eq (t := 2353) C dL_law_2348 (by decide) rfl (fun _ => ?_) (fun e => absurd h1 e)
  refine J_iload (i := 5) (p := 1) C dL_law_2353 rfl rfl ?_
  refine J_if_ne (t := 2370) C dL_law_2355 (by decide) rfl (fun _ => ?_) (fun e => ?_)
  · refine J_goto (t := 2954) C dL_law_2370 (by decide) ?_
    refine J.sub [2, 3, 4, 5, 6] rfl ?_
    exact J.widen (by omega) (by omega) (kont _ _ _ h3)
  · refine J_aload_n (i := 3) (p := 6) C dL_law_2358 rfl rfl rfl ?_
    refine J_iconst (v := 0) C (by decide) dL_law_2359 rfl ?_
    refine J_outld C dL_law_2360 rfl ?_
    refine J_iload (i := 6) (p := 0) C dL_law_2361 rfl rfl ?_
    refine J_i2l C dL_law_2363 rfl ?_
    refine J_lcmp C dL_law_2364 rfl ?_
    rw [show lg_cmp r.2.2 p.1.toInt64 = 0 from by rw [h2 (Decidable.not_not.mp e)]; exact lg_cmp_self]
    refine J_if_eq (t := 2370) C dL_law_2365 (by decide) rfl (fun _ => ?_) (fun e => absurd rfl e)
    refine J_goto (t := 2954) C dL_law_2370 (by decide) ?_
    refine J.sub [2, 3, 4, 5, 6] rfl ?_
    exact J.widen (by omega) (by omega) (kont _ _ _ h3)
theorem ch_273 : CH RL 273 yL_play cL_play 4 (some .int) [(0, 9, 12, 13), (0, 9, 15, 15)] 3 := ⟨tw_1257, tw_81, tw_1259, tw_1258, by decide +kernel, by decide +kernel, by decide +kernel⟩
theorem cl_RL_275 : CV RL 275 11 yX12_play cX12_play 7 (some .int) 1 := ⟨⟨tw_1856, tw_93, tw_1859, by decide +kernel, by decide +kernel, by decide +kernel⟩, tw_1858, tw_1857, TX12, 56, rfl⟩
abbrev s_35 (xs : Nat → Int32) (i : Nat) (σ μ : Sto) (o : Int64) (Q : Sto → Sto → Int64 → Prop) : Prop := stH (f11_play σ (xs (i + 1))) [(2, 1), (3, 2)] o (f12_play μ (xs (i + 1))) Q
set_option maxHeartbeats 1000000 in
theorem case_35 {X : JX} {K : JK} {b L : Nat} {xs : Nat → Int32} {Q : State → Prop} {k sl : Nat} {σ μ : Sto} {o : Int64} {i : Nat} {Q9 : Sto → Sto → Int64 → Prop} (c : LC X K b L xs) (hi : i + 5 ≤ L) (hk : k + 8 ≤ X.2.2.2.1.cells) (hs : sl + 48 ≤ X.2.2.2.1.slots) (h : s_35 xs i σ μ o Q9) (kont : ∀ σ9 μ9 o9, Q9 σ9 μ9 o9 → J X K 9 False Q (k + 8) (sl + 48) 2055 (jw K σ9 μ9 o9) 2954 [(4, .int (Int32.ofNat i)), (0, .ref b), (1, .ref (K.2.2 + 0)), (2, .ref (K.2.2 + 2017)), (3, .ref (K.2.2 + 2054))] []) : J X K 9 False Q k sl 2055 (jw K σ μ o) 2414 [(4, .int (Int32.ofNat i)), (0, .ref b), (1, .ref (K.2.2 + 0)), (2, .ref (K.2.2 + 2017)), (3, .ref (K.2.2 + 2054))] [] := by
  have C := c.1
  refine J_aload_n (i := 1) (p := 2) C dL_law_2414 rfl rfl rfl ?_
  refine J_aload_n (i := 0) (p := 1) C dL_law_2415 rfl rfl rfl ?_
  refine J_iload (i := 4) (p := 0) C dL_law_2416 rfl rfl ?_
  refine J_iconst (v := 1) C (by decide) dL_law_2418 rfl ?_
  refine J_iadd C dL_law_2419 rfl ?_
  refine J_arg c 1 rfl hi (by decide) dL_law_2420 rfl ?_
  refine J_aload_n (i := 3) (p := 4) C dL_law_2421 rfl rfl rfl ?_
  refine Jl_cH (rest := []) (st9 := fun r => [.int r.1]) C ch_273 (hL_play c.2.1 h) rfl rfl (Nat.le_trans (by decide) c.2.2.2.2.2.2.1) (Nat.le_trans (by decide) c.2.2.2.2.2.2.2) (Nat.le_of_ble_eq_true rfl) ⟨by omega, by omega⟩ dL_law_2422 rfl (fun _ => rfl) (fun r h => ?_)
  refine J_istoreE (i := 5) (x' := r.1) (lv' := [(5, .int r.1), (4, .int (Int32.ofNat i)), (0, .ref b), (1, .ref (K.2.2 + 0)), (2, .ref (K.2.2 + 2017)), (3, .ref (K.2.2 + 2054))]) C rfl dL_law_2425 (Nat.le_of_ble_eq_true rfl) rfl rfl ?_
  refine J_aload_n (i := 2) (p := 4) C dL_law_2427 rfl rfl rfl ?_
  refine J_aload_n (i := 0) (p := 2) C dL_law_2428 rfl rfl rfl ?_
  refine J_iload (i := 4) (p := 1) C dL_law_2429 rfl rfl ?_
  refine J_iconst (v := 1) C (by decide) dL_law_2431 rfl ?_
  refine J_iadd C dL_law_2432 rfl ?_
  refine J_arg c 1 rfl hi (by decide) dL_law_2433 rfl ?_
  refine Jl_mV (rest := []) (st9 := fun p => [.int p.1]) C cl_RL_275 rfl (Nat.le_of_ble_eq_true rfl) (k12_play c.2.1 h) rfl rfl (Nat.le_trans (by decide) c.2.2.2.2.2.2.1) (Nat.le_trans (by decide) c.2.2.2.2.2.2.2) (Nat.le_of_ble_eq_true rfl) ⟨by omega, by omega⟩ dL_law_2434 rfl (fun _ => rfl) (fun p h => ?_)
  refine J_istoreE (i := 6) (x' := p.1) (lv' := [(6, .int p.1), (5, .int r.1), (4, .int (Int32.ofNat i)), (0, .ref b), (1, .ref (K.2.2 + 0)), (2, .ref (K.2.2 + 2017)), (3, .ref (K.2.2 + 2054))]) C rfl dL_law_2437 (Nat.le_of_ble_eq_true rfl) rfl rfl ?_
  refine J_aload_n (i := 2) (p := 5) C dL_law_2439 rfl rfl rfl ?_
  refine Jl_mV (rest := []) (st9 := fun t => [.int t]) C cl_RL_156 rfl (Nat.le_of_ble_eq_true rfl) (k12_thrown c.2.1 h) rfl rfl (Nat.le_trans (by decide) c.2.2.2.2.2.2.1) (Nat.le_trans (by decide) c.2.2.2.2.2.2.2) (Nat.le_of_ble_eq_true rfl) ⟨by omega, by omega⟩ dL_law_2440 rfl (fun _ => rfl) (fun t h => ?_)
  obtain ⟨h1, h2, h3⟩ := h
  refine J_iload (i := 5) (p := 1) C dL_law_2443 rfl rfl ?_
  refine J_icmp_eq (t := 2450) C dL_law_2445 (by decide) rfl (fun _ => ?_) (fun e => absurd h1 e)
  refine J_iload (i := 5) (p := 1) C dL_law_2450 rfl rfl ?_
  refine J_if_ne (t := 2467) C dL_law_2452 (by decide) rfl (fun _ => ?_) (fun e => ?_)
  · refine J_goto (t := 2954) C dL_law_2467 (by decide) ?_
    refine J.sub [2, 3, 4, 5, 6] rfl ?_
    exact J.widen (by omega) (by omega) (kont _ _ _ h3)
  · refine J_aload_n (i := 3) (p := 6) C dL_law_2455 rfl rfl rfl ?_
    refine J_iconst (v := 0) C (by decide) dL_law_2456 rfl ?_
    refine J_outld C dL_law_2457 rfl ?_
    refine J_iload (i := 6) (p := 0) C dL_law_2458 rfl rfl ?_
    refine J_i2l C dL_law_2460 rfl ?_
    refine J_lcmp C dL_law_2461 rfl ?_
    rw [show lg_cmp r.2.2 p.1.toInt64 = 0 from by rw [h2 (Decidable.not_not.mp e)]; exact lg_cmp_self]
    refine J_if_eq (t := 2467) C dL_law_2462 (by decide) rfl (fun _ => ?_) (fun e => absurd rfl e)
    refine J_goto (t := 2954) C dL_law_2467 (by decide) ?_
    refine J.sub [2, 3, 4, 5, 6] rfl ?_
    exact J.widen (by omega) (by omega) (kont _ _ _ h3)
theorem ch_276 : CH RL 276 yL_count cL_count 4 (some .int) [(0, 9, 12, 13)] 3 := ⟨tw_1270, tw_81, tw_1272, tw_1271, by decide +kernel, by decide +kernel, by decide +kernel⟩
theorem cl_RL_278 : CV RL 278 11 yX12_count cX12_count 2 (some .int) 1 := ⟨⟨tw_1864, tw_93, tw_1867, by decide +kernel, by decide +kernel, by decide +kernel⟩, tw_1866, tw_1865, TX12, 56, rfl⟩
abbrev s_36 (xs : Nat → Int32) (i : Nat) (σ μ : Sto) (o : Int64) (Q : Sto → Sto → Int64 → Prop) : Prop := stH (f11_count σ (xs (i + 1))) [(2, 1)] o (f12_count μ (xs (i + 1))) Q
set_option maxHeartbeats 1000000 in
theorem case_36 {X : JX} {K : JK} {b L : Nat} {xs : Nat → Int32} {Q : State → Prop} {k sl : Nat} {σ μ : Sto} {o : Int64} {i : Nat} {Q9 : Sto → Sto → Int64 → Prop} (c : LC X K b L xs) (hi : i + 5 ≤ L) (hk : k + 8 ≤ X.2.2.2.1.cells) (hs : sl + 48 ≤ X.2.2.2.1.slots) (h : s_36 xs i σ μ o Q9) (kont : ∀ σ9 μ9 o9, Q9 σ9 μ9 o9 → J X K 9 False Q (k + 8) (sl + 48) 2055 (jw K σ9 μ9 o9) 2954 [(4, .int (Int32.ofNat i)), (0, .ref b), (1, .ref (K.2.2 + 0)), (2, .ref (K.2.2 + 2017)), (3, .ref (K.2.2 + 2054))] []) : J X K 9 False Q k sl 2055 (jw K σ μ o) 2470 [(4, .int (Int32.ofNat i)), (0, .ref b), (1, .ref (K.2.2 + 0)), (2, .ref (K.2.2 + 2017)), (3, .ref (K.2.2 + 2054))] [] := by
  have C := c.1
  refine J_aload_n (i := 1) (p := 2) C dL_law_2470 rfl rfl rfl ?_
  refine J_aload_n (i := 0) (p := 1) C dL_law_2471 rfl rfl rfl ?_
  refine J_iload (i := 4) (p := 0) C dL_law_2472 rfl rfl ?_
  refine J_iconst (v := 1) C (by decide) dL_law_2474 rfl ?_
  refine J_iadd C dL_law_2475 rfl ?_
  refine J_arg c 1 rfl hi (by decide) dL_law_2476 rfl ?_
  refine J_aload_n (i := 3) (p := 4) C dL_law_2477 rfl rfl rfl ?_
  refine Jl_cH (rest := []) (st9 := fun r => [.int r.1]) C ch_276 (hL_count c.2.1 h) rfl rfl (Nat.le_trans (by decide) c.2.2.2.2.2.2.1) (Nat.le_trans (by decide) c.2.2.2.2.2.2.2) (Nat.le_of_ble_eq_true rfl) ⟨by omega, by omega⟩ dL_law_2478 rfl (fun _ => rfl) (fun r h => ?_)
  refine J_istoreE (i := 5) (x' := r.1) (lv' := [(5, .int r.1), (4, .int (Int32.ofNat i)), (0, .ref b), (1, .ref (K.2.2 + 0)), (2, .ref (K.2.2 + 2017)), (3, .ref (K.2.2 + 2054))]) C rfl dL_law_2481 (Nat.le_of_ble_eq_true rfl) rfl rfl ?_
  refine J_aload_n (i := 2) (p := 4) C dL_law_2483 rfl rfl rfl ?_
  refine J_aload_n (i := 0) (p := 2) C dL_law_2484 rfl rfl rfl ?_
  refine J_iload (i := 4) (p := 1) C dL_law_2485 rfl rfl ?_
  refine J_iconst (v := 1) C (by decide) dL_law_2487 rfl ?_
  refine J_iadd C dL_law_2488 rfl ?_
  refine J_arg c 1 rfl hi (by decide) dL_law_2489 rfl ?_
  refine Jl_mV (rest := []) (st9 := fun p => [.int p.1]) C cl_RL_278 rfl (Nat.le_of_ble_eq_true rfl) (k12_count c.2.1 h) rfl rfl (Nat.le_trans (by decide) c.2.2.2.2.2.2.1) (Nat.le_trans (by decide) c.2.2.2.2.2.2.2) (Nat.le_of_ble_eq_true rfl) ⟨by omega, by omega⟩ dL_law_2490 rfl (fun _ => rfl) (fun p h => ?_)
  refine J_istoreE (i := 6) (x' := p.1) (lv' := [(6, .int p.1), (5, .int r.1), (4, .int (Int32.ofNat i)), (0, .ref b), (1, .ref (K.2.2 + 0)), (2, .ref (K.2.2 + 2017)), (3, .ref (K.2.2 + 2054))]) C rfl dL_law_2493 (Nat.le_of_ble_eq_true rfl) rfl rfl ?_
  refine J_aload_n (i := 2) (p := 5) C dL_law_2495 rfl rfl rfl ?_
  refine Jl_mV (rest := []) (st9 := fun t => [.int t]) C cl_RL_156 rfl (Nat.le_of_ble_eq_true rfl) (k12_thrown c.2.1 h) rfl rfl (Nat.le_trans (by decide) c.2.2.2.2.2.2.1) (Nat.le_trans (by decide) c.2.2.2.2.2.2.2) (Nat.le_of_ble_eq_true rfl) ⟨by omega, by omega⟩ dL_law_2496 rfl (fun _ => rfl) (fun t h => ?_)
  obtain ⟨h1, h2, h3⟩ := h
  refine J_iload (i := 5) (p := 1) C dL_law_2499 rfl rfl ?_
  refine J_icmp_eq (t := 2506) C dL_law_2501 (by decide) rfl (fun _ => ?_) (fun e => absurd h1 e)
  refine J_iload (i := 5) (p := 1) C dL_law_2506 rfl rfl ?_
  refine J_if_ne (t := 2523) C dL_law_2508 (by decide) rfl (fun _ => ?_) (fun e => ?_)
  · refine J_goto (t := 2954) C dL_law_2523 (by decide) ?_
    refine J.sub [2, 3, 4, 5, 6] rfl ?_
    exact J.widen (by omega) (by omega) (kont _ _ _ h3)
  · refine J_aload_n (i := 3) (p := 6) C dL_law_2511 rfl rfl rfl ?_
    refine J_iconst (v := 0) C (by decide) dL_law_2512 rfl ?_
    refine J_outld C dL_law_2513 rfl ?_
    refine J_iload (i := 6) (p := 0) C dL_law_2514 rfl rfl ?_
    refine J_i2l C dL_law_2516 rfl ?_
    refine J_lcmp C dL_law_2517 rfl ?_
    rw [show lg_cmp r.2.2 p.1.toInt64 = 0 from by rw [h2 (Decidable.not_not.mp e)]; exact lg_cmp_self]
    refine J_if_eq (t := 2523) C dL_law_2518 (by decide) rfl (fun _ => ?_) (fun e => absurd rfl e)
    refine J_goto (t := 2954) C dL_law_2523 (by decide) ?_
    refine J.sub [2, 3, 4, 5, 6] rfl ?_
    exact J.widen (by omega) (by omega) (kont _ _ _ h3)
theorem ch_279 : CH RL 279 yL_letterAt cL_letterAt 4 (some .int) [(0, 9, 12, 21)] 3 := ⟨tw_1286, tw_81, tw_1288, tw_1287, by decide +kernel, by decide +kernel, by decide +kernel⟩
theorem cl_RL_281 : CV RL 281 11 yX12_letterAt cX12_letterAt 2 (some .int) 1 := ⟨⟨tw_1876, tw_93, tw_1879, by decide +kernel, by decide +kernel, by decide +kernel⟩, tw_1878, tw_1877, TX12, 56, rfl⟩
abbrev s_37 (xs : Nat → Int32) (i : Nat) (σ μ : Sto) (o : Int64) (Q : Sto → Sto → Int64 → Prop) : Prop := stH (f11_letterAt σ (xs (i + 1))) [(1, 1)] o (f12_letterAt μ (xs (i + 1))) Q
set_option maxHeartbeats 1000000 in
theorem case_37 {X : JX} {K : JK} {b L : Nat} {xs : Nat → Int32} {Q : State → Prop} {k sl : Nat} {σ μ : Sto} {o : Int64} {i : Nat} {Q9 : Sto → Sto → Int64 → Prop} (c : LC X K b L xs) (hi : i + 5 ≤ L) (hk : k + 8 ≤ X.2.2.2.1.cells) (hs : sl + 48 ≤ X.2.2.2.1.slots) (h : s_37 xs i σ μ o Q9) (kont : ∀ σ9 μ9 o9, Q9 σ9 μ9 o9 → J X K 9 False Q (k + 8) (sl + 48) 2055 (jw K σ9 μ9 o9) 2954 [(4, .int (Int32.ofNat i)), (0, .ref b), (1, .ref (K.2.2 + 0)), (2, .ref (K.2.2 + 2017)), (3, .ref (K.2.2 + 2054))] []) : J X K 9 False Q k sl 2055 (jw K σ μ o) 2526 [(4, .int (Int32.ofNat i)), (0, .ref b), (1, .ref (K.2.2 + 0)), (2, .ref (K.2.2 + 2017)), (3, .ref (K.2.2 + 2054))] [] := by
  have C := c.1
  refine J_aload_n (i := 1) (p := 2) C dL_law_2526 rfl rfl rfl ?_
  refine J_aload_n (i := 0) (p := 1) C dL_law_2527 rfl rfl rfl ?_
  refine J_iload (i := 4) (p := 0) C dL_law_2528 rfl rfl ?_
  refine J_iconst (v := 1) C (by decide) dL_law_2530 rfl ?_
  refine J_iadd C dL_law_2531 rfl ?_
  refine J_arg c 1 rfl hi (by decide) dL_law_2532 rfl ?_
  refine J_aload_n (i := 3) (p := 4) C dL_law_2533 rfl rfl rfl ?_
  refine Jl_cH (rest := []) (st9 := fun r => [.int r.1]) C ch_279 (hL_letterAt c.2.1 h) rfl rfl (Nat.le_trans (by decide) c.2.2.2.2.2.2.1) (Nat.le_trans (by decide) c.2.2.2.2.2.2.2) (Nat.le_of_ble_eq_true rfl) ⟨by omega, by omega⟩ dL_law_2534 rfl (fun _ => rfl) (fun r h => ?_)
  refine J_istoreE (i := 5) (x' := r.1) (lv' := [(5, .int r.1), (4, .int (Int32.ofNat i)), (0, .ref b), (1, .ref (K.2.2 + 0)), (2, .ref (K.2.2 + 2017)), (3, .ref (K.2.2 + 2054))]) C rfl dL_law_2537 (Nat.le_of_ble_eq_true rfl) rfl rfl ?_
  refine J_aload_n (i := 2) (p := 4) C dL_law_2539 rfl rfl rfl ?_
  refine J_aload_n (i := 0) (p := 2) C dL_law_2540 rfl rfl rfl ?_
  refine J_iload (i := 4) (p := 1) C dL_law_2541 rfl rfl ?_
  refine J_iconst (v := 1) C (by decide) dL_law_2543 rfl ?_
  refine J_iadd C dL_law_2544 rfl ?_
  refine J_arg c 1 rfl hi (by decide) dL_law_2545 rfl ?_
  refine Jl_mV (rest := []) (st9 := fun p => [.int p.1]) C cl_RL_281 rfl (Nat.le_of_ble_eq_true rfl) (k12_letterAt c.2.1 h) rfl rfl (Nat.le_trans (by decide) c.2.2.2.2.2.2.1) (Nat.le_trans (by decide) c.2.2.2.2.2.2.2) (Nat.le_of_ble_eq_true rfl) ⟨by omega, by omega⟩ dL_law_2546 rfl (fun _ => rfl) (fun p h => ?_)
  refine J_istoreE (i := 6) (x' := p.1) (lv' := [(6, .int p.1), (5, .int r.1), (4, .int (Int32.ofNat i)), (0, .ref b), (1, .ref (K.2.2 + 0)), (2, .ref (K.2.2 + 2017)), (3, .ref (K.2.2 + 2054))]) C rfl dL_law_2549 (Nat.le_of_ble_eq_true rfl) rfl rfl ?_
  refine J_aload_n (i := 2) (p := 5) C dL_law_2551 rfl rfl rfl ?_
  refine Jl_mV (rest := []) (st9 := fun t => [.int t]) C cl_RL_156 rfl (Nat.le_of_ble_eq_true rfl) (k12_thrown c.2.1 h) rfl rfl (Nat.le_trans (by decide) c.2.2.2.2.2.2.1) (Nat.le_trans (by decide) c.2.2.2.2.2.2.2) (Nat.le_of_ble_eq_true rfl) ⟨by omega, by omega⟩ dL_law_2552 rfl (fun _ => rfl) (fun t h => ?_)
  obtain ⟨h1, h2, h3⟩ := h
  refine J_iload (i := 5) (p := 1) C dL_law_2555 rfl rfl ?_
  refine J_icmp_eq (t := 2562) C dL_law_2557 (by decide) rfl (fun _ => ?_) (fun e => absurd h1 e)
  refine J_iload (i := 5) (p := 1) C dL_law_2562 rfl rfl ?_
  refine J_if_ne (t := 2579) C dL_law_2564 (by decide) rfl (fun _ => ?_) (fun e => ?_)
  · refine J_goto (t := 2954) C dL_law_2579 (by decide) ?_
    refine J.sub [2, 3, 4, 5, 6] rfl ?_
    exact J.widen (by omega) (by omega) (kont _ _ _ h3)
  · refine J_aload_n (i := 3) (p := 6) C dL_law_2567 rfl rfl rfl ?_
    refine J_iconst (v := 0) C (by decide) dL_law_2568 rfl ?_
    refine J_outld C dL_law_2569 rfl ?_
    refine J_iload (i := 6) (p := 0) C dL_law_2570 rfl rfl ?_
    refine J_i2l C dL_law_2572 rfl ?_
    refine J_lcmp C dL_law_2573 rfl ?_
    rw [show lg_cmp r.2.2 p.1.toInt64 = 0 from by rw [h2 (Decidable.not_not.mp e)]; exact lg_cmp_self]
    refine J_if_eq (t := 2579) C dL_law_2574 (by decide) rfl (fun _ => ?_) (fun e => absurd rfl e)
    refine J_goto (t := 2954) C dL_law_2579 (by decide) ?_
    refine J.sub [2, 3, 4, 5, 6] rfl ?_
    exact J.widen (by omega) (by omega) (kont _ _ _ h3)
theorem ch_282 : CH RL 282 yL_lineOf cL_lineOf 4 (some .int) [(0, 9, 12, 21)] 3 := ⟨tw_1294, tw_81, tw_1296, tw_1295, by decide +kernel, by decide +kernel, by decide +kernel⟩
theorem cl_RL_284 : CV RL 284 11 yX12_lineOf cX12_lineOf 2 (some .int) 1 := ⟨⟨tw_1880, tw_93, tw_1883, by decide +kernel, by decide +kernel, by decide +kernel⟩, tw_1882, tw_1881, TX12, 56, rfl⟩
abbrev s_38 (xs : Nat → Int32) (i : Nat) (σ μ : Sto) (o : Int64) (Q : Sto → Sto → Int64 → Prop) : Prop := stH (f11_lineOf σ (xs (i + 1))) [(1, 1)] o (f12_lineOf μ (xs (i + 1))) Q
set_option maxHeartbeats 1000000 in
theorem case_38 {X : JX} {K : JK} {b L : Nat} {xs : Nat → Int32} {Q : State → Prop} {k sl : Nat} {σ μ : Sto} {o : Int64} {i : Nat} {Q9 : Sto → Sto → Int64 → Prop} (c : LC X K b L xs) (hi : i + 5 ≤ L) (hk : k + 8 ≤ X.2.2.2.1.cells) (hs : sl + 48 ≤ X.2.2.2.1.slots) (h : s_38 xs i σ μ o Q9) (kont : ∀ σ9 μ9 o9, Q9 σ9 μ9 o9 → J X K 9 False Q (k + 8) (sl + 48) 2055 (jw K σ9 μ9 o9) 2954 [(4, .int (Int32.ofNat i)), (0, .ref b), (1, .ref (K.2.2 + 0)), (2, .ref (K.2.2 + 2017)), (3, .ref (K.2.2 + 2054))] []) : J X K 9 False Q k sl 2055 (jw K σ μ o) 2582 [(4, .int (Int32.ofNat i)), (0, .ref b), (1, .ref (K.2.2 + 0)), (2, .ref (K.2.2 + 2017)), (3, .ref (K.2.2 + 2054))] [] := by
  have C := c.1
  refine J_aload_n (i := 1) (p := 2) C dL_law_2582 rfl rfl rfl ?_
  refine J_aload_n (i := 0) (p := 1) C dL_law_2583 rfl rfl rfl ?_
  refine J_iload (i := 4) (p := 0) C dL_law_2584 rfl rfl ?_
  refine J_iconst (v := 1) C (by decide) dL_law_2586 rfl ?_
  refine J_iadd C dL_law_2587 rfl ?_
  refine J_arg c 1 rfl hi (by decide) dL_law_2588 rfl ?_
  refine J_aload_n (i := 3) (p := 4) C dL_law_2589 rfl rfl rfl ?_
  refine Jl_cH (rest := []) (st9 := fun r => [.int r.1]) C ch_282 (hL_lineOf c.2.1 h) rfl rfl (Nat.le_trans (by decide) c.2.2.2.2.2.2.1) (Nat.le_trans (by decide) c.2.2.2.2.2.2.2) (Nat.le_of_ble_eq_true rfl) ⟨by omega, by omega⟩ dL_law_2590 rfl (fun _ => rfl) (fun r h => ?_)
  refine J_istoreE (i := 5) (x' := r.1) (lv' := [(5, .int r.1), (4, .int (Int32.ofNat i)), (0, .ref b), (1, .ref (K.2.2 + 0)), (2, .ref (K.2.2 + 2017)), (3, .ref (K.2.2 + 2054))]) C rfl dL_law_2593 (Nat.le_of_ble_eq_true rfl) rfl rfl ?_
  refine J_aload_n (i := 2) (p := 4) C dL_law_2595 rfl rfl rfl ?_
  refine J_aload_n (i := 0) (p := 2) C dL_law_2596 rfl rfl rfl ?_
  refine J_iload (i := 4) (p := 1) C dL_law_2597 rfl rfl ?_
  refine J_iconst (v := 1) C (by decide) dL_law_2599 rfl ?_
  refine J_iadd C dL_law_2600 rfl ?_
  refine J_arg c 1 rfl hi (by decide) dL_law_2601 rfl ?_
  refine Jl_mV (rest := []) (st9 := fun p => [.int p.1]) C cl_RL_284 rfl (Nat.le_of_ble_eq_true rfl) (k12_lineOf c.2.1 h) rfl rfl (Nat.le_trans (by decide) c.2.2.2.2.2.2.1) (Nat.le_trans (by decide) c.2.2.2.2.2.2.2) (Nat.le_of_ble_eq_true rfl) ⟨by omega, by omega⟩ dL_law_2602 rfl (fun _ => rfl) (fun p h => ?_)
  refine J_istoreE (i := 6) (x' := p.1) (lv' := [(6, .int p.1), (5, .int r.1), (4, .int (Int32.ofNat i)), (0, .ref b), (1, .ref (K.2.2 + 0)), (2, .ref (K.2.2 + 2017)), (3, .ref (K.2.2 + 2054))]) C rfl dL_law_2605 (Nat.le_of_ble_eq_true rfl) rfl rfl ?_
  refine J_aload_n (i := 2) (p := 5) C dL_law_2607 rfl rfl rfl ?_
  refine Jl_mV (rest := []) (st9 := fun t => [.int t]) C cl_RL_156 rfl (Nat.le_of_ble_eq_true rfl) (k12_thrown c.2.1 h) rfl rfl (Nat.le_trans (by decide) c.2.2.2.2.2.2.1) (Nat.le_trans (by decide) c.2.2.2.2.2.2.2) (Nat.le_of_ble_eq_true rfl) ⟨by omega, by omega⟩ dL_law_2608 rfl (fun _ => rfl) (fun t h => ?_)
  obtain ⟨h1, h2, h3⟩ := h
  refine J_iload (i := 5) (p := 1) C dL_law_2611 rfl rfl ?_
  refine J_icmp_eq (t := 2618) C dL_law_2613 (by decide) rfl (fun _ => ?_) (fun e => absurd h1 e)
  refine J_iload (i := 5) (p := 1) C dL_law_2618 rfl rfl ?_
  refine J_if_ne (t := 2635) C dL_law_2620 (by decide) rfl (fun _ => ?_) (fun e => ?_)
  · refine J_goto (t := 2954) C dL_law_2635 (by decide) ?_
    refine J.sub [2, 3, 4, 5, 6] rfl ?_
    exact J.widen (by omega) (by omega) (kont _ _ _ h3)
  · refine J_aload_n (i := 3) (p := 6) C dL_law_2623 rfl rfl rfl ?_
    refine J_iconst (v := 0) C (by decide) dL_law_2624 rfl ?_
    refine J_outld C dL_law_2625 rfl ?_
    refine J_iload (i := 6) (p := 0) C dL_law_2626 rfl rfl ?_
    refine J_i2l C dL_law_2628 rfl ?_
    refine J_lcmp C dL_law_2629 rfl ?_
    rw [show lg_cmp r.2.2 p.1.toInt64 = 0 from by rw [h2 (Decidable.not_not.mp e)]; exact lg_cmp_self]
    refine J_if_eq (t := 2635) C dL_law_2630 (by decide) rfl (fun _ => ?_) (fun e => absurd rfl e)
    refine J_goto (t := 2954) C dL_law_2635 (by decide) ?_
    refine J.sub [2, 3, 4, 5, 6] rfl ?_
    exact J.widen (by omega) (by omega) (kont _ _ _ h3)
theorem ch_285 : CH RL 285 yL_columnOf cL_columnOf 4 (some .int) [(0, 9, 12, 21)] 3 := ⟨tw_1301, tw_81, tw_1303, tw_1302, by decide +kernel, by decide +kernel, by decide +kernel⟩
theorem cl_RL_287 : CV RL 287 11 yX12_columnOf cX12_columnOf 2 (some .int) 1 := ⟨⟨tw_1884, tw_93, tw_1887, by decide +kernel, by decide +kernel, by decide +kernel⟩, tw_1886, tw_1885, TX12, 56, rfl⟩
abbrev s_39 (xs : Nat → Int32) (i : Nat) (σ μ : Sto) (o : Int64) (Q : Sto → Sto → Int64 → Prop) : Prop := stH (f11_columnOf σ (xs (i + 1))) [(1, 1)] o (f12_columnOf μ (xs (i + 1))) Q
set_option maxHeartbeats 1000000 in
theorem case_39 {X : JX} {K : JK} {b L : Nat} {xs : Nat → Int32} {Q : State → Prop} {k sl : Nat} {σ μ : Sto} {o : Int64} {i : Nat} {Q9 : Sto → Sto → Int64 → Prop} (c : LC X K b L xs) (hi : i + 5 ≤ L) (hk : k + 8 ≤ X.2.2.2.1.cells) (hs : sl + 48 ≤ X.2.2.2.1.slots) (h : s_39 xs i σ μ o Q9) (kont : ∀ σ9 μ9 o9, Q9 σ9 μ9 o9 → J X K 9 False Q (k + 8) (sl + 48) 2055 (jw K σ9 μ9 o9) 2954 [(4, .int (Int32.ofNat i)), (0, .ref b), (1, .ref (K.2.2 + 0)), (2, .ref (K.2.2 + 2017)), (3, .ref (K.2.2 + 2054))] []) : J X K 9 False Q k sl 2055 (jw K σ μ o) 2638 [(4, .int (Int32.ofNat i)), (0, .ref b), (1, .ref (K.2.2 + 0)), (2, .ref (K.2.2 + 2017)), (3, .ref (K.2.2 + 2054))] [] := by
  have C := c.1
  refine J_aload_n (i := 1) (p := 2) C dL_law_2638 rfl rfl rfl ?_
  refine J_aload_n (i := 0) (p := 1) C dL_law_2639 rfl rfl rfl ?_
  refine J_iload (i := 4) (p := 0) C dL_law_2640 rfl rfl ?_
  refine J_iconst (v := 1) C (by decide) dL_law_2642 rfl ?_
  refine J_iadd C dL_law_2643 rfl ?_
  refine J_arg c 1 rfl hi (by decide) dL_law_2644 rfl ?_
  refine J_aload_n (i := 3) (p := 4) C dL_law_2645 rfl rfl rfl ?_
  refine Jl_cH (rest := []) (st9 := fun r => [.int r.1]) C ch_285 (hL_columnOf c.2.1 h) rfl rfl (Nat.le_trans (by decide) c.2.2.2.2.2.2.1) (Nat.le_trans (by decide) c.2.2.2.2.2.2.2) (Nat.le_of_ble_eq_true rfl) ⟨by omega, by omega⟩ dL_law_2646 rfl (fun _ => rfl) (fun r h => ?_)
  refine J_istoreE (i := 5) (x' := r.1) (lv' := [(5, .int r.1), (4, .int (Int32.ofNat i)), (0, .ref b), (1, .ref (K.2.2 + 0)), (2, .ref (K.2.2 + 2017)), (3, .ref (K.2.2 + 2054))]) C rfl dL_law_2649 (Nat.le_of_ble_eq_true rfl) rfl rfl ?_
  refine J_aload_n (i := 2) (p := 4) C dL_law_2651 rfl rfl rfl ?_
  refine J_aload_n (i := 0) (p := 2) C dL_law_2652 rfl rfl rfl ?_
  refine J_iload (i := 4) (p := 1) C dL_law_2653 rfl rfl ?_
  refine J_iconst (v := 1) C (by decide) dL_law_2655 rfl ?_
  refine J_iadd C dL_law_2656 rfl ?_
  refine J_arg c 1 rfl hi (by decide) dL_law_2657 rfl ?_
  refine Jl_mV (rest := []) (st9 := fun p => [.int p.1]) C cl_RL_287 rfl (Nat.le_of_ble_eq_true rfl) (k12_columnOf c.2.1 h) rfl rfl (Nat.le_trans (by decide) c.2.2.2.2.2.2.1) (Nat.le_trans (by decide) c.2.2.2.2.2.2.2) (Nat.le_of_ble_eq_true rfl) ⟨by omega, by omega⟩ dL_law_2658 rfl (fun _ => rfl) (fun p h => ?_)
  refine J_istoreE (i := 6) (x' := p.1) (lv' := [(6, .int p.1), (5, .int r.1), (4, .int (Int32.ofNat i)), (0, .ref b), (1, .ref (K.2.2 + 0)), (2, .ref (K.2.2 + 2017)), (3, .ref (K.2.2 + 2054))]) C rfl dL_law_2661 (Nat.le_of_ble_eq_true rfl) rfl rfl ?_
  refine J_aload_n (i := 2) (p := 5) C dL_law_2663 rfl rfl rfl ?_
  refine Jl_mV (rest := []) (st9 := fun t => [.int t]) C cl_RL_156 rfl (Nat.le_of_ble_eq_true rfl) (k12_thrown c.2.1 h) rfl rfl (Nat.le_trans (by decide) c.2.2.2.2.2.2.1) (Nat.le_trans (by decide) c.2.2.2.2.2.2.2) (Nat.le_of_ble_eq_true rfl) ⟨by omega, by omega⟩ dL_law_2664 rfl (fun _ => rfl) (fun t h => ?_)
  obtain ⟨h1, h2, h3⟩ := h
  refine J_iload (i := 5) (p := 1) C dL_law_2667 rfl rfl ?_
  refine J_icmp_eq (t := 2674) C dL_law_2669 (by decide) rfl (fun _ => ?_) (fun e => absurd h1 e)
  refine J_iload (i := 5) (p := 1) C dL_law_2674 rfl rfl ?_
  refine J_if_ne (t := 2691) C dL_law_2676 (by decide) rfl (fun _ => ?_) (fun e => ?_)
  · refine J_goto (t := 2954) C dL_law_2691 (by decide) ?_
    refine J.sub [2, 3, 4, 5, 6] rfl ?_
    exact J.widen (by omega) (by omega) (kont _ _ _ h3)
  · refine J_aload_n (i := 3) (p := 6) C dL_law_2679 rfl rfl rfl ?_
    refine J_iconst (v := 0) C (by decide) dL_law_2680 rfl ?_
    refine J_outld C dL_law_2681 rfl ?_
    refine J_iload (i := 6) (p := 0) C dL_law_2682 rfl rfl ?_
    refine J_i2l C dL_law_2684 rfl ?_
    refine J_lcmp C dL_law_2685 rfl ?_
    rw [show lg_cmp r.2.2 p.1.toInt64 = 0 from by rw [h2 (Decidable.not_not.mp e)]; exact lg_cmp_self]
    refine J_if_eq (t := 2691) C dL_law_2686 (by decide) rfl (fun _ => ?_) (fun e => absurd rfl e)
    refine J_goto (t := 2954) C dL_law_2691 (by decide) ?_
    refine J.sub [2, 3, 4, 5, 6] rfl ?_
    exact J.widen (by omega) (by omega) (kont _ _ _ h3)
theorem ch_288 : CH RL 288 yL_placeAt cL_placeAt 5 (some .int) [(0, 10, 13, 21), (0, 10, 17, 13)] 4 := ⟨tw_1309, tw_81, tw_1311, tw_1310, by decide +kernel, by decide +kernel, by decide +kernel⟩
theorem cl_RL_290 : CV RL 290 11 yX12_placeAt cX12_placeAt 3 (some .int) 2 := ⟨⟨tw_1888, tw_93, tw_1891, by decide +kernel, by decide +kernel, by decide +kernel⟩, tw_1890, tw_1889, TX12, 56, rfl⟩
abbrev s_40 (xs : Nat → Int32) (i : Nat) (σ μ : Sto) (o : Int64) (Q : Sto → Sto → Int64 → Prop) : Prop := stH (f11_placeAt σ (xs (i + 1)) (xs (i + 2))) [(1, 1), (2, 2)] o (f12_placeAt μ (xs (i + 1)) (xs (i + 2))) Q
set_option maxHeartbeats 1000000 in
theorem case_40 {X : JX} {K : JK} {b L : Nat} {xs : Nat → Int32} {Q : State → Prop} {k sl : Nat} {σ μ : Sto} {o : Int64} {i : Nat} {Q9 : Sto → Sto → Int64 → Prop} (c : LC X K b L xs) (hi : i + 5 ≤ L) (hk : k + 8 ≤ X.2.2.2.1.cells) (hs : sl + 48 ≤ X.2.2.2.1.slots) (h : s_40 xs i σ μ o Q9) (kont : ∀ σ9 μ9 o9, Q9 σ9 μ9 o9 → J X K 9 False Q (k + 8) (sl + 48) 2055 (jw K σ9 μ9 o9) 2954 [(4, .int (Int32.ofNat i)), (0, .ref b), (1, .ref (K.2.2 + 0)), (2, .ref (K.2.2 + 2017)), (3, .ref (K.2.2 + 2054))] []) : J X K 9 False Q k sl 2055 (jw K σ μ o) 2694 [(4, .int (Int32.ofNat i)), (0, .ref b), (1, .ref (K.2.2 + 0)), (2, .ref (K.2.2 + 2017)), (3, .ref (K.2.2 + 2054))] [] := by
  have C := c.1
  refine J_aload_n (i := 1) (p := 2) C dL_law_2694 rfl rfl rfl ?_
  refine J_aload_n (i := 0) (p := 1) C dL_law_2695 rfl rfl rfl ?_
  refine J_iload (i := 4) (p := 0) C dL_law_2696 rfl rfl ?_
  refine J_iconst (v := 1) C (by decide) dL_law_2698 rfl ?_
  refine J_iadd C dL_law_2699 rfl ?_
  refine J_arg c 1 rfl hi (by decide) dL_law_2700 rfl ?_
  refine J_aload_n (i := 0) (p := 1) C dL_law_2701 rfl rfl rfl ?_
  refine J_iload (i := 4) (p := 0) C dL_law_2702 rfl rfl ?_
  refine J_iconst (v := 2) C (by decide) dL_law_2704 rfl ?_
  refine J_iadd C dL_law_2705 rfl ?_
  refine J_arg c 2 rfl hi (by decide) dL_law_2706 rfl ?_
  refine J_aload_n (i := 3) (p := 4) C dL_law_2707 rfl rfl rfl ?_
  refine Jl_cH (rest := []) (st9 := fun r => [.int r.1]) C ch_288 (hL_placeAt c.2.1 h) rfl rfl (Nat.le_trans (by decide) c.2.2.2.2.2.2.1) (Nat.le_trans (by decide) c.2.2.2.2.2.2.2) (Nat.le_of_ble_eq_true rfl) ⟨by omega, by omega⟩ dL_law_2708 rfl (fun _ => rfl) (fun r h => ?_)
  refine J_istoreE (i := 5) (x' := r.1) (lv' := [(5, .int r.1), (4, .int (Int32.ofNat i)), (0, .ref b), (1, .ref (K.2.2 + 0)), (2, .ref (K.2.2 + 2017)), (3, .ref (K.2.2 + 2054))]) C rfl dL_law_2711 (Nat.le_of_ble_eq_true rfl) rfl rfl ?_
  refine J_aload_n (i := 2) (p := 4) C dL_law_2713 rfl rfl rfl ?_
  refine J_aload_n (i := 0) (p := 2) C dL_law_2714 rfl rfl rfl ?_
  refine J_iload (i := 4) (p := 1) C dL_law_2715 rfl rfl ?_
  refine J_iconst (v := 1) C (by decide) dL_law_2717 rfl ?_
  refine J_iadd C dL_law_2718 rfl ?_
  refine J_arg c 1 rfl hi (by decide) dL_law_2719 rfl ?_
  refine J_aload_n (i := 0) (p := 2) C dL_law_2720 rfl rfl rfl ?_
  refine J_iload (i := 4) (p := 1) C dL_law_2721 rfl rfl ?_
  refine J_iconst (v := 2) C (by decide) dL_law_2723 rfl ?_
  refine J_iadd C dL_law_2724 rfl ?_
  refine J_arg c 2 rfl hi (by decide) dL_law_2725 rfl ?_
  refine Jl_mV (rest := []) (st9 := fun p => [.int p.1]) C cl_RL_290 rfl (Nat.le_of_ble_eq_true rfl) (k12_placeAt c.2.1 h) rfl rfl (Nat.le_trans (by decide) c.2.2.2.2.2.2.1) (Nat.le_trans (by decide) c.2.2.2.2.2.2.2) (Nat.le_of_ble_eq_true rfl) ⟨by omega, by omega⟩ dL_law_2726 rfl (fun _ => rfl) (fun p h => ?_)
  refine J_istoreE (i := 6) (x' := p.1) (lv' := [(6, .int p.1), (5, .int r.1), (4, .int (Int32.ofNat i)), (0, .ref b), (1, .ref (K.2.2 + 0)), (2, .ref (K.2.2 + 2017)), (3, .ref (K.2.2 + 2054))]) C rfl dL_law_2729 (Nat.le_of_ble_eq_true rfl) rfl rfl ?_
  refine J_aload_n (i := 2) (p := 5) C dL_law_2731 rfl rfl rfl ?_
  refine Jl_mV (rest := []) (st9 := fun t => [.int t]) C cl_RL_156 rfl (Nat.le_of_ble_eq_true rfl) (k12_thrown c.2.1 h) rfl rfl (Nat.le_trans (by decide) c.2.2.2.2.2.2.1) (Nat.le_trans (by decide) c.2.2.2.2.2.2.2) (Nat.le_of_ble_eq_true rfl) ⟨by omega, by omega⟩ dL_law_2732 rfl (fun _ => rfl) (fun t h => ?_)
  obtain ⟨h1, h2, h3⟩ := h
  refine J_iload (i := 5) (p := 1) C dL_law_2735 rfl rfl ?_
  refine J_icmp_eq (t := 2742) C dL_law_2737 (by decide) rfl (fun _ => ?_) (fun e => absurd h1 e)
  refine J_iload (i := 5) (p := 1) C dL_law_2742 rfl rfl ?_
  refine J_if_ne (t := 2759) C dL_law_2744 (by decide) rfl (fun _ => ?_) (fun e => ?_)
  · refine J_goto (t := 2954) C dL_law_2759 (by decide) ?_
    refine J.sub [2, 3, 4, 5, 6] rfl ?_
    exact J.widen (by omega) (by omega) (kont _ _ _ h3)
  · refine J_aload_n (i := 3) (p := 6) C dL_law_2747 rfl rfl rfl ?_
    refine J_iconst (v := 0) C (by decide) dL_law_2748 rfl ?_
    refine J_outld C dL_law_2749 rfl ?_
    refine J_iload (i := 6) (p := 0) C dL_law_2750 rfl rfl ?_
    refine J_i2l C dL_law_2752 rfl ?_
    refine J_lcmp C dL_law_2753 rfl ?_
    rw [show lg_cmp r.2.2 p.1.toInt64 = 0 from by rw [h2 (Decidable.not_not.mp e)]; exact lg_cmp_self]
    refine J_if_eq (t := 2759) C dL_law_2754 (by decide) rfl (fun _ => ?_) (fun e => absurd rfl e)
    refine J_goto (t := 2954) C dL_law_2759 (by decide) ?_
    refine J.sub [2, 3, 4, 5, 6] rfl ?_
    exact J.widen (by omega) (by omega) (kont _ _ _ h3)
theorem ch_291 : CH RL 291 yL_setTab cL_setTab 4 (some .int) [(0, 9, 12, 13)] 3 := ⟨tw_1318, tw_81, tw_1320, tw_1319, by decide +kernel, by decide +kernel, by decide +kernel⟩
theorem cl_RL_293 : CV RL 293 11 yX12_setTab cX12_setTab 3 (some .int) 1 := ⟨⟨tw_1892, tw_93, tw_1895, by decide +kernel, by decide +kernel, by decide +kernel⟩, tw_1894, tw_1893, TX12, 56, rfl⟩
abbrev s_41 (xs : Nat → Int32) (i : Nat) (σ μ : Sto) (o : Int64) (Q : Sto → Sto → Int64 → Prop) : Prop := stH (f11_setTab σ (xs (i + 1))) [(2, 1)] o (f12_setTab μ (xs (i + 1))) Q
set_option maxHeartbeats 1000000 in
theorem case_41 {X : JX} {K : JK} {b L : Nat} {xs : Nat → Int32} {Q : State → Prop} {k sl : Nat} {σ μ : Sto} {o : Int64} {i : Nat} {Q9 : Sto → Sto → Int64 → Prop} (c : LC X K b L xs) (hi : i + 5 ≤ L) (hk : k + 8 ≤ X.2.2.2.1.cells) (hs : sl + 48 ≤ X.2.2.2.1.slots) (h : s_41 xs i σ μ o Q9) (kont : ∀ σ9 μ9 o9, Q9 σ9 μ9 o9 → J X K 9 False Q (k + 8) (sl + 48) 2055 (jw K σ9 μ9 o9) 2954 [(4, .int (Int32.ofNat i)), (0, .ref b), (1, .ref (K.2.2 + 0)), (2, .ref (K.2.2 + 2017)), (3, .ref (K.2.2 + 2054))] []) : J X K 9 False Q k sl 2055 (jw K σ μ o) 2762 [(4, .int (Int32.ofNat i)), (0, .ref b), (1, .ref (K.2.2 + 0)), (2, .ref (K.2.2 + 2017)), (3, .ref (K.2.2 + 2054))] [] := by
  have C := c.1
  refine J_aload_n (i := 1) (p := 2) C dL_law_2762 rfl rfl rfl ?_
  refine J_aload_n (i := 0) (p := 1) C dL_law_2763 rfl rfl rfl ?_
  refine J_iload (i := 4) (p := 0) C dL_law_2764 rfl rfl ?_
  refine J_iconst (v := 1) C (by decide) dL_law_2766 rfl ?_
  refine J_iadd C dL_law_2767 rfl ?_
  refine J_arg c 1 rfl hi (by decide) dL_law_2768 rfl ?_
  refine J_aload_n (i := 3) (p := 4) C dL_law_2769 rfl rfl rfl ?_
  refine Jl_cH (rest := []) (st9 := fun r => [.int r.1]) C ch_291 (hL_setTab c.2.1 h) rfl rfl (Nat.le_trans (by decide) c.2.2.2.2.2.2.1) (Nat.le_trans (by decide) c.2.2.2.2.2.2.2) (Nat.le_of_ble_eq_true rfl) ⟨by omega, by omega⟩ dL_law_2770 rfl (fun _ => rfl) (fun r h => ?_)
  refine J_istoreE (i := 5) (x' := r.1) (lv' := [(5, .int r.1), (4, .int (Int32.ofNat i)), (0, .ref b), (1, .ref (K.2.2 + 0)), (2, .ref (K.2.2 + 2017)), (3, .ref (K.2.2 + 2054))]) C rfl dL_law_2773 (Nat.le_of_ble_eq_true rfl) rfl rfl ?_
  refine J_aload_n (i := 2) (p := 4) C dL_law_2775 rfl rfl rfl ?_
  refine J_aload_n (i := 0) (p := 2) C dL_law_2776 rfl rfl rfl ?_
  refine J_iload (i := 4) (p := 1) C dL_law_2777 rfl rfl ?_
  refine J_iconst (v := 1) C (by decide) dL_law_2779 rfl ?_
  refine J_iadd C dL_law_2780 rfl ?_
  refine J_arg c 1 rfl hi (by decide) dL_law_2781 rfl ?_
  refine Jl_mV (rest := []) (st9 := fun p => [.int p.1]) C cl_RL_293 rfl (Nat.le_of_ble_eq_true rfl) (k12_setTab c.2.1 h) rfl rfl (Nat.le_trans (by decide) c.2.2.2.2.2.2.1) (Nat.le_trans (by decide) c.2.2.2.2.2.2.2) (Nat.le_of_ble_eq_true rfl) ⟨by omega, by omega⟩ dL_law_2782 rfl (fun _ => rfl) (fun p h => ?_)
  refine J_istoreE (i := 6) (x' := p.1) (lv' := [(6, .int p.1), (5, .int r.1), (4, .int (Int32.ofNat i)), (0, .ref b), (1, .ref (K.2.2 + 0)), (2, .ref (K.2.2 + 2017)), (3, .ref (K.2.2 + 2054))]) C rfl dL_law_2785 (Nat.le_of_ble_eq_true rfl) rfl rfl ?_
  refine J_aload_n (i := 2) (p := 5) C dL_law_2787 rfl rfl rfl ?_
  refine Jl_mV (rest := []) (st9 := fun t => [.int t]) C cl_RL_156 rfl (Nat.le_of_ble_eq_true rfl) (k12_thrown c.2.1 h) rfl rfl (Nat.le_trans (by decide) c.2.2.2.2.2.2.1) (Nat.le_trans (by decide) c.2.2.2.2.2.2.2) (Nat.le_of_ble_eq_true rfl) ⟨by omega, by omega⟩ dL_law_2788 rfl (fun _ => rfl) (fun t h => ?_)
  obtain ⟨h1, h2, h3⟩ := h
  refine J_iload (i := 5) (p := 1) C dL_law_2791 rfl rfl ?_
  refine J_icmp_eq (t := 2798) C dL_law_2793 (by decide) rfl (fun _ => ?_) (fun e => absurd h1 e)
  refine J_iload (i := 5) (p := 1) C dL_law_2798 rfl rfl ?_
  refine J_if_ne (t := 2815) C dL_law_2800 (by decide) rfl (fun _ => ?_) (fun e => ?_)
  · refine J_goto (t := 2954) C dL_law_2815 (by decide) ?_
    refine J.sub [2, 3, 4, 5, 6] rfl ?_
    exact J.widen (by omega) (by omega) (kont _ _ _ h3)
  · refine J_aload_n (i := 3) (p := 6) C dL_law_2803 rfl rfl rfl ?_
    refine J_iconst (v := 0) C (by decide) dL_law_2804 rfl ?_
    refine J_outld C dL_law_2805 rfl ?_
    refine J_iload (i := 6) (p := 0) C dL_law_2806 rfl rfl ?_
    refine J_i2l C dL_law_2808 rfl ?_
    refine J_lcmp C dL_law_2809 rfl ?_
    rw [show lg_cmp r.2.2 p.1.toInt64 = 0 from by rw [h2 (Decidable.not_not.mp e)]; exact lg_cmp_self]
    refine J_if_eq (t := 2815) C dL_law_2810 (by decide) rfl (fun _ => ?_) (fun e => absurd rfl e)
    refine J_goto (t := 2954) C dL_law_2815 (by decide) ?_
    refine J.sub [2, 3, 4, 5, 6] rfl ?_
    exact J.widen (by omega) (by omega) (kont _ _ _ h3)
