/-! the words of the law, its calls -/
abbrev doneH : List (Nat × Nat × Nat × Nat) := [(0, 128, 350, 112), (129, 134, 350, 112), (135, 141, 350, 112), (142, 148, 350, 112), (149, 153, 350, 112), (154, 162, 350, 112), (163, 169, 350, 112), (170, 176, 350, 112), (177, 181, 350, 112), (182, 186, 350, 112), (187, 192, 350, 112), (193, 198, 350, 112), (199, 204, 350, 112), (205, 222, 350, 112), (223, 228, 350, 112), (229, 234, 350, 112), (235, 241, 350, 112), (242, 259, 350, 112), (260, 265, 350, 112), (266, 272, 350, 112), (273, 278, 350, 112), (279, 285, 350, 112), (286, 300, 350, 112), (301, 316, 350, 112), (317, 322, 350, 112), (323, 337, 350, 112), (338, 343, 350, 112), (344, 349, 350, 112), (0, 128, 355, 115), (129, 134, 355, 115), (135, 141, 355, 115), (142, 148, 355, 115), (149, 153, 355, 115), (154, 162, 355, 115), (163, 169, 355, 115), (170, 176, 355, 115), (177, 181, 355, 115), (182, 186, 355, 115), (187, 192, 355, 115), (193, 198, 355, 115), (199, 204, 355, 115), (205, 222, 355, 115), (223, 228, 355, 115), (229, 234, 355, 115), (235, 241, 355, 115), (242, 259, 355, 115), (260, 265, 355, 115), (266, 272, 355, 115), (273, 278, 355, 115), (279, 285, 355, 115), (286, 300, 355, 115), (301, 316, 355, 115), (317, 322, 355, 115), (323, 337, 355, 115), (338, 343, 355, 115), (344, 349, 355, 115), (0, 128, 360, 118), (129, 134, 360, 118), (135, 141, 360, 118), (142, 148, 360, 118), (149, 153, 360, 118), (154, 162, 360, 118), (163, 169, 360, 118), (170, 176, 360, 118), (177, 181, 360, 118), (182, 186, 360, 118), (187, 192, 360, 118), (193, 198, 360, 118), (199, 204, 360, 118), (205, 222, 360, 118), (223, 228, 360, 118), (229, 234, 360, 118), (235, 241, 360, 118), (242, 259, 360, 118), (260, 265, 360, 118), (266, 272, 360, 118), (273, 278, 360, 118), (279, 285, 360, 118), (286, 300, 360, 118), (301, 316, 360, 118), (317, 322, 360, 118), (323, 337, 360, 118), (338, 343, 360, 118), (344, 349, 360, 118), (0, 128, 365, 121), (129, 134, 365, 121), (135, 141, 365, 121), (142, 148, 365, 121), (149, 153, 365, 121), (154, 162, 365, 121), (163, 169, 365, 121), (170, 176, 365, 121), (177, 181, 365, 121), (182, 186, 365, 121), (187, 192, 365, 121), (193, 198, 365, 121), (199, 204, 365, 121), (205, 222, 365, 121), (223, 228, 365, 121), (229, 234, 365, 121), (235, 241, 365, 121), (242, 259, 365, 121), (260, 265, 365, 121), (266, 272, 365, 121), (273, 278, 365, 121), (279, 285, 365, 121), (286, 300, 365, 121), (301, 316, 365, 121), (317, 322, 365, 121), (323, 337, 365, 121), (338, 343, 365, 121), (344, 349, 365, 121), (0, 128, 370, 124), (129, 134, 370, 124), (135, 141, 370, 124), (142, 148, 370, 124), (149, 153, 370, 124), (154, 162, 370, 124), (163, 169, 370, 124), (170, 176, 370, 124), (177, 181, 370, 124), (182, 186, 370, 124), (187, 192, 370, 124), (193, 198, 370, 124), (199, 204, 370, 124), (205, 222, 370, 124), (223, 228, 370, 124), (229, 234, 370, 124), (235, 241, 370, 124), (242, 259, 370, 124), (260, 265, 370, 124), (266, 272, 370, 124), (273, 278, 370, 124), (279, 285, 370, 124), (286, 300, 370, 124), (301, 316, 370, 124), (317, 322, 370, 124), (323, 337, 370, 124), (338, 343, 370, 124), (344, 349, 370, 124)]
/-! the law's own codes -/
set_option maxRecDepth 100000 in
theorem tv_53 : Cond.code yL_plays cL_plays 12 (some .boolean) ∈ TB := tbN 53 (by rfl) (by decide +kernel)
set_option maxRecDepth 100000 in
theorem tv_533 : Cond.codeWith yL_done cL_done 6 (some .int) doneH ∈ TB := tbN 533 (by rfl) (by decide +kernel)
set_option maxRecDepth 100000 in
theorem tv_861 : Cond.code yL_one cL_one 1 (some .int) ∈ TB := tbN 861 (by rfl) (by decide +kernel)
set_option maxRecDepth 100000 in
theorem tv_1021 : Cond.code yL_next cL_next 1 (some .int) ∈ TB := tbN 1021 (by rfl) (by decide +kernel)
set_option maxRecDepth 100000 in
theorem tv_1026 : Cond.code yL_replaces cL_replaces 15 (some .boolean) ∈ TB := tbN 1026 (by rfl) (by decide +kernel)
set_option maxRecDepth 100000 in
theorem tv_1029 : Cond.code yL_sees cL_sees 5 none ∈ TB := tbN 1029 (by rfl) (by decide +kernel)
set_option maxRecDepth 100000 in
theorem tv_1040 : Cond.code yL_draws cL_draws 5 (some .int) ∈ TB := tbN 1040 (by rfl) (by decide +kernel)
set_option maxRecDepth 100000 in
theorem tv_1043 : Cond.code yL_from cL_from 3 (some .int) ∈ TB := tbN 1043 (by rfl) (by decide +kernel)
set_option maxRecDepth 100000 in
theorem tv_1046 : Cond.code yL_feeds cL_feeds 8 (some .boolean) ∈ TB := tbN 1046 (by rfl) (by decide +kernel)
set_option maxRecDepth 100000 in
theorem tv_1064 : Cond.code yL_isLike cL_isLike 4 (some .boolean) ∈ TB := tbN 1064 (by rfl) (by decide +kernel)
set_option maxRecDepth 100000 in
theorem tv_1067 : Cond.code yL_replacesAll cL_replacesAll 22 (some .boolean) ∈ TB := tbN 1067 (by rfl) (by decide +kernel)
set_option maxRecDepth 100000 in
theorem tv_1070 : Cond.code yL_isFind cL_isFind 6 (some .boolean) ∈ TB := tbN 1070 (by rfl) (by decide +kernel)
set_option maxRecDepth 100000 in
theorem tv_1073 : Cond.code yL_isWord cL_isWord 1 (some .boolean) ∈ TB := tbN 1073 (by rfl) (by decide +kernel)
set_option maxRecDepth 100000 in
theorem tv_1088 : Cond.code yL_goesBack cL_goesBack 12 (some .boolean) ∈ TB := tbN 1088 (by rfl) (by decide +kernel)
set_option maxRecDepth 100000 in
theorem tv_1091 : Cond.code yL_acts cL_acts 10 (some .int) ∈ TB := tbN 1091 (by rfl) (by decide +kernel)
set_option maxRecDepth 100000 in
theorem tv_1094 : Cond.code yL_moves cL_moves 12 (some .boolean) ∈ TB := tbN 1094 (by rfl) (by decide +kernel)
set_option maxRecDepth 100000 in
theorem tv_1097 : Cond.code yL_branches cL_branches 9 (some .boolean) ∈ TB := tbN 1097 (by rfl) (by decide +kernel)
set_option maxRecDepth 100000 in
theorem tv_1134 : Cond.code yL_records cL_records 13 (some .boolean) ∈ TB := tbN 1134 (by rfl) (by decide +kernel)
set_option maxRecDepth 100000 in
theorem tv_1141 : Cond.code yL_holds cL_holds 8 (some .boolean) ∈ TB := tbN 1141 (by rfl) (by decide +kernel)
