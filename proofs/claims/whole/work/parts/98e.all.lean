/-! every turn keeps the relation -/
theorem bz_b {x : Int32} : bz x = 0 ∨ bz x = 1 := by
  unfold bz
  split
  · exact Or.inl rfl
  · exact Or.inr rfl
theorem all_kept (xs : Nat → Int32) (i : Nat) (σ μ : Sto) (o : Int64) (h : RQ σ μ o) : ∀ n : Nat, n < 48 → sAll xs i σ μ o RQ n
  | 0, _ => op_feed h
  | 1, _ => op_clearTape h
  | 2, _ => op_copy h
  | 3, _ => op_copyBlock h
  | 4, _ => op_type h
  | 5, _ => op_erase h
  | 6, _ => op_replace h
  | 7, _ => op_cut h
  | 8, _ => op_paste h
  | 9, _ => op_indent h
  | 10, _ => op_wrap h
  | 11, _ => op_joinLines h
  | 12, _ => op_replaceNext h
  | 13, _ => op_replaceAll h
  | 14, _ => op_undo h
  | 15, _ => op_redo h
  | 16, _ => op_branch h
  | 17, _ => op_group h bz_b
  | 18, _ => op_acts h
  | 19, _ => op_setCursor h
  | 20, _ => op_addCursor h
  | 21, _ => op_moveCursors h
  | 22, _ => op_cursorAt h
  | 23, _ => op_setMark h bz_b
  | 24, _ => op_dropMark h
  | 25, _ => op_markAt h
  | 26, _ => op_markBeside h
  | 27, _ => op_setPattern h bz_b
  | 28, _ => op_find h
  | 29, _ => op_fold h
  | 30, _ => op_unfold h
  | 31, _ => op_isHidden h
  | 32, _ => op_setView h
  | 33, _ => op_rowOf h
  | 34, _ => op_record h bz_b
  | 35, _ => op_play h
  | 36, _ => op_count h
  | 37, _ => op_letterAt h
  | 38, _ => op_lineOf h
  | 39, _ => op_columnOf h
  | 40, _ => op_placeAt h
  | 41, _ => op_setTab h
  | 42, _ => op_hash h
  | 43, _ => op_meanLine h
  | 44, _ => op_keep h
  | 45, _ => op_differences h
  | 46, _ => op_sameShare h
  | 47, _ => op_errors h
  | n + 48, hn => absurd hn (by omega)
