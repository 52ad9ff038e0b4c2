/-! catching, as the law's done does it -/
def ecode (c : Nat) : Option Int32 := if c = 1 then some (-1000001) else if c = 2 then some (-1000002) else if c = 3 then some (-1000003) else if c = 4 then some (-1000004) else none
def hdl {α : Type} (r : Nat → Nat → Int32) (x : Option ((α × Sto) ⊕ (Nat × Sto))) (f : α × Sto → Option (Int32 × LawS)) : Option (Int32 × LawS) := x.bind fun q => match q with
  | .inl p => f p
  | .inr c => (ecode c.1).bind fun v => some (v, (r, c.2))
def hdq {α : Type} (r : Nat → Nat → Int32) (f : α × Sto → Option (Int32 × LawS)) (Q : Int32 × LawS → Prop) : (α × Sto) ⊕ (Nat × Sto) → Prop
  | .inl p => Ok (f p) Q
  | .inr c => ∃ v, ecode c.1 = some v ∧ Q (v, (r, c.2))
theorem Ok.ofhdl {α : Type} {r : Nat → Nat → Int32} {x : Option ((α × Sto) ⊕ (Nat × Sto))} {f : α × Sto → Option (Int32 × LawS)} {Q : Int32 × LawS → Prop} (h : Ok (hdl r x f) Q) : Ok x (hdq r f Q) := by
  obtain ⟨b, h1, h2⟩ := h
  cases x with
  | none => cases h1
  | some q =>
    cases q with
    | inl p => exact ⟨_, rfl, b, h1, h2⟩
    | inr c =>
      refine ⟨_, rfl, ?_⟩
      show ∃ v, ecode c.1 = some v ∧ Q (v, (r, c.2))
      have h1 : (ecode c.1).bind (fun v => some (v, (r, c.2))) = some b := h1
      cases he : ecode c.1 with
      | none => rw [he] at h1; cases h1
      | some v =>
        rw [he] at h1
        cases h1
        exact ⟨v, rfl, h2⟩
/-- the rows ahead of a row of the table let an exception by, that row takes it -/
def cpass (l : List ExceptionTableEntry) (bad : List Nat) (pc : Nat) : Bool := l.all fun z => !covers z pc || bad.contains z.catchType
section DN
variable {X : JX} {K : JK} {nL : Nat} {g : Prop} {Q : State → Prop} {k sl n : Nat} {w : JW} {pc : Nat} {lv : List (Nat × Value)} {rest : List Value} {cc : ByteArray}
theorem JT_catchB {E : String} (C : Cx X K nL RL cc) {l : List ExceptionTableEntry} (htab : X.2.2.2.2.2.2.2.2.2.exceptionTable.toList = l) (i : Nat) {x : ExceptionTableEntry} (hi : l[i]? = some x) (bad : List Nat) (hall : cpass (l.take i) bad pc = true)
    (hb : ∀ c ∈ bad, c ≠ 0 ∧ ∃ nm : String, Cond.classLink RL c nm ∈ TB ∧ (E, nm) ∈ NCS) (hx : covers x pc = true) (h0 : x.catchType ≠ 0) (hlink : Cond.classLink RL x.catchType E ∈ TB) (hcast : E ∈ EXCS)
    (h : ∀ z : Nat, J X K nL False Q k sl n w x.handlerPc lv [.ref z]) : JT X K nL g Q k sl n w pc lv rest E := by
  have hlt : i < l.length := by
    rcases Nat.lt_or_ge i l.length with q | q
    · exact q
    · rw [List.getElem?_eq_none q] at hi; cases hi
  have hsplit : l = l.take i ++ x :: l.drop (i + 1) := by
    rw [List.getElem?_eq_getElem hlt] at hi
    rw [← Option.some.inj hi, ← List.drop_eq_getElem_cons hlt, List.take_append_drop]
  refine JT_catch C (l.take i) x (l.drop (i + 1)) (by rw [htab]; exact hsplit) (fun z hz => ?_) hx h0 hlink hcast h
  have h2 := List.all_eq_true.mp hall z hz
  rw [Bool.or_eq_true] at h2
  rcases h2 with h2 | h2
  · exact Or.inl (by cases hc : covers z pc with
      | false => rfl
      | true => rw [hc] at h2; cases h2)
  · obtain ⟨h3, h4⟩ := hb z.catchType (by simpa using h2)
    exact Or.inr ⟨h3, h4⟩
end DN
theorem nc_1 : ∀ c ∈ [112], c ≠ 0 ∧ ∃ nm : String, Cond.classLink RL c nm ∈ TB ∧ ("java/lang/IndexOutOfBoundsException", nm) ∈ NCS := by
  intro c hc
  simp only [List.mem_cons, List.not_mem_nil, or_false] at hc
  subst hc
  exact ⟨by decide, _, cl_RL_112, by decide +kernel⟩
theorem nc_2 : ∀ c ∈ [112, 115], c ≠ 0 ∧ ∃ nm : String, Cond.classLink RL c nm ∈ TB ∧ ("java/lang/IllegalArgumentException", nm) ∈ NCS := by
  intro c hc
  simp only [List.mem_cons, List.not_mem_nil, or_false] at hc
  rcases hc with rfl | rfl
  · exact ⟨by decide, _, cl_RL_112, by decide +kernel⟩
  · exact ⟨by decide, _, cl_RL_115, by decide +kernel⟩
theorem nc_3 : ∀ c ∈ [112, 115, 118], c ≠ 0 ∧ ∃ nm : String, Cond.classLink RL c nm ∈ TB ∧ ("java/lang/IllegalStateException", nm) ∈ NCS := by
  intro c hc
  simp only [List.mem_cons, List.not_mem_nil, or_false] at hc
  rcases hc with rfl | rfl | rfl
  · exact ⟨by decide, _, cl_RL_112, by decide +kernel⟩
  · exact ⟨by decide, _, cl_RL_115, by decide +kernel⟩
  · exact ⟨by decide, _, cl_RL_118, by decide +kernel⟩
theorem nc_4 : ∀ c ∈ [112, 115, 118, 121], c ≠ 0 ∧ ∃ nm : String, Cond.classLink RL c nm ∈ TB ∧ ("java/util/NoSuchElementException", nm) ∈ NCS := by
  intro c hc
  simp only [List.mem_cons, List.not_mem_nil, or_false] at hc
  rcases hc with rfl | rfl | rfl | rfl
  · exact ⟨by decide, _, cl_RL_112, by decide +kernel⟩
  · exact ⟨by decide, _, cl_RL_115, by decide +kernel⟩
  · exact ⟨by decide, _, cl_RL_118, by decide +kernel⟩
  · exact ⟨by decide, _, cl_RL_121, by decide +kernel⟩
/-- the row of the table: its reach, where it goes on, its class -/
def dhit (i pc ct hp : Nat) : Bool := match (tableOf doneH)[i]? with
  | some x => covers x pc && decide (x.catchType = ct) && decide (x.handlerPc = hp)
  | none => false
theorem dhit_spec {i pc ct hp : Nat} (h : dhit i pc ct hp = true) : ∃ x, (tableOf doneH)[i]? = some x ∧ covers x pc = true ∧ x.catchType = ct ∧ x.handlerPc = hp := by
  unfold dhit at h
  split at h
  · rename_i x hx
    rw [Bool.and_eq_true, Bool.and_eq_true] at h
    exact ⟨x, hx, h.1.1, of_decide_eq_true h.1.2, of_decide_eq_true h.2⟩
  · cases h
theorem done_kx {X : JX} {K : JK} {α : Type} {r : Nat → Nat → Int32} {f : α × Sto → Option (Int32 × LawS)} {Qf : Int32 × LawS → Prop} {pc n1 : Nat} {w1 : JW} {E : String} {rest : List Value} {lv : List (Nat × Value)} (C : Cx X K 6 RL cL_done) (htab : X.2.2.2.2.2.2.2.2.2.exceptionTable.toList = tableOf doneH) (hret : X.2.2.2.2.2.2.2.2.1.sig.returnType = some .int) (i : Nat)
    (a1 : dhit (28 + i) pc 115 355 = true) (b1 : cpass ((tableOf doneH).take (28 + i)) [112] pc = true)
    (a2 : dhit (56 + i) pc 118 360 = true) (b2 : cpass ((tableOf doneH).take (56 + i)) [112, 115] pc = true)
    (a3 : dhit (84 + i) pc 121 365 = true) (b3 : cpass ((tableOf doneH).take (84 + i)) [112, 115, 118] pc = true)
    (a4 : dhit (112 + i) pc 124 370 = true) (b4 : cpass ((tableOf doneH).take (112 + i)) [112, 115, 118, 121] pc = true)
    (hx : PX (hdq r f Qf) (fun s => jw (KU K) s) E n1 w1) {k0 s0 MC M2 : Nat} (hk : k0 ≤ MC) (hs : s0 ≤ M2) : JT X K 6 False (jQ X K MC M2 (PL Qf (fun p => some (.int p.1)) (fun p => jl K p.2)) PN False) k0 s0 (47 + n1) (upW (lcell K r) w1) pc lv rest E := by
  obtain ⟨c, s9, ⟨v, hv, hq⟩, rfl, rfl, rfl⟩ := hx
  have hfin : ∀ (z : Nat) (hp ix : Nat) (v' : Int32), v' = v → decode cL_done hp = .ok (.astore 5, 2) → decode cL_done (hp + 2) = .ok (.ldc ix, 2) → Cond.constant RL ix v' ∈ TB → decode cL_done (hp + 4) = .ok (.ireturn, 1) → J X K 6 False (jQ X K MC M2 (PL Qf (fun p => some (.int p.1)) (fun p => jl K p.2)) PN False) k0 s0 2064 (jl K (r, s9)) hp lv [.ref z] := by
    intro z hp ix v' e d1 d2 kc d3
    subst e
    refine J_astore (i := 5) (lv' := (5, .ref z) :: lv.filter (fun q => !(q.1 == 5) && !(q.1 + 1 == 5 && q.2.category == 2))) C d1 (by omega) rfl rfl ?_
    refine J_ldc (v := v') C kc d2 rfl ?_
    exact J_iret C hret hk hs ⟨_, hq, rfl, rfl, rfl⟩ d3
  unfold ecode at hv
  split at hv
  · rename_i hc
    subst hc
    cases hv
    obtain ⟨x, e1, e2, e3, e4⟩ := dhit_spec a1
    refine JT_catchB C htab (28 + i) e1 [112] b1 nc_1 e2 (by rw [e3]; decide) (by rw [e3]; exact cl_RL_115) (by decide +kernel) (fun z => ?_)
    rw [e4]
    exact hfin z 355 _ _ rfl dL_done_355 dL_done_357 ci_RL_117 dL_done_359
  · split at hv
    · rename_i hc
      subst hc
      cases hv
      obtain ⟨x, e1, e2, e3, e4⟩ := dhit_spec a2
      refine JT_catchB C htab (56 + i) e1 [112, 115] b2 nc_2 e2 (by rw [e3]; decide) (by rw [e3]; exact cl_RL_118) (by decide +kernel) (fun z => ?_)
      rw [e4]
      exact hfin z 360 _ _ rfl dL_done_360 dL_done_362 ci_RL_120 dL_done_364
    · split at hv
      · rename_i hc
        subst hc
        cases hv
        obtain ⟨x, e1, e2, e3, e4⟩ := dhit_spec a3
        refine JT_catchB C htab (84 + i) e1 [112, 115, 118] b3 nc_3 e2 (by rw [e3]; decide) (by rw [e3]; exact cl_RL_121) (by decide +kernel) (fun z => ?_)
        rw [e4]
        exact hfin z 365 _ _ rfl dL_done_365 dL_done_367 ci_RL_123 dL_done_369
      · split at hv
        · rename_i hc
          subst hc
          cases hv
          obtain ⟨x, e1, e2, e3, e4⟩ := dhit_spec a4
          refine JT_catchB C htab (112 + i) e1 [112, 115, 118, 121] b4 nc_4 e2 (by rw [e3]; decide) (by rw [e3]; exact cl_RL_124) (by decide +kernel) (fun z => ?_)
          rw [e4]
          exact hfin z 370 _ _ rfl dL_done_370 dL_done_372 ci_RL_126 dL_done_374
        · cases hv
