section LL
variable {X : JX} {K : JK} {nL : Nat} {g : Prop} {Q : State → Prop} {k sl n : Nat} {w : JW} {pc q : Nat} {lv lv' : List (Nat × Value)} {st rest : List Value} {own : String} {cc : ByteArray}
theorem J_lload (C : Cx X K nL own cc) {i p : Nat} {x : Int64} (d : decode cc pc = .ok (.lload i, 2)) (hl : lv[p]? = some (i, .long x)) (hq : pc + 2 = q) (h : J X K nL g Q k sl n w q lv (.long x :: st)) : J X K nL g Q k sl n w pc lv (st) := by
  subst hq
  intro H locs ls h1 h2 h3 h4
  exact lv_lload C.1 C.2.1 d (lv_at h4 p hl) (h H locs ls h1 h2 h3 h4)
theorem J_lstoreE (C : Cx X K nL own cc) {i : Nat} {x x' : Int64} (e : x' = x) (d : decode cc pc = .ok (.lstore i, 2)) (hn : i + 1 < nL) (hl : (i, Value.long x') :: lv.filter (fun q => !(q.1 == i) && (!(q.1 == i + 1) && !(q.1 + 1 == i && q.2.category == 2))) = lv') (hq : pc + 2 = q) (h : J X K nL g Q k sl n w q lv' (st)) : J X K nL g Q k sl n w pc lv (.long x :: st) := by
  subst hq e
  intro H locs ls h1 h2 h3 h4
  exact lv_lstore C.1 C.2.1 d h4 hn hl (fun ls h4 => h H locs ls h1 h2 h3 h4)
end LL
