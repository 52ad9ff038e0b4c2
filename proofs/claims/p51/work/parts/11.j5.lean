def cpok (sp dp m : Int32) (n0 n1 : Nat) : Bool := decide (0 ≤ sp.toInt) && decide (0 ≤ dp.toInt) && decide (0 ≤ m.toInt) && decide (sp.toInt + m.toInt ≤ n0) && decide (dp.toInt + m.toInt ≤ n1)
theorem clampI {x : Int32} (h : 0 ≤ x.toInt) : ¬ x < 0 ∧ (x.toNatClampNeg : Int) = x.toInt := by
  refine ⟨fun z => ?_, ?_⟩
  · have := Int32.lt_iff_toInt_lt.mp z
    simp at this
    omega
  · rw [← Int32.toNat_toInt]
    omega
theorem cpok_spec {sp dp m : Int32} {n0 n1 : Nat} (h : cpok sp dp m n0 n1 = true) : (¬ sp < 0) ∧ (¬ dp < 0) ∧ (¬ m < 0) ∧ sp.toNatClampNeg + m.toNatClampNeg ≤ n0 ∧ dp.toNatClampNeg + m.toNatClampNeg ≤ n1 := by
  simp only [cpok, Bool.and_eq_true, decide_eq_true_eq] at h
  obtain ⟨⟨⟨⟨h1, h2⟩, h3⟩, h4⟩, h5⟩ := h
  have a1 := clampI h1
  have a2 := clampI h2
  have a3 := clampI h3
  exact ⟨a1.1, a2.1, a3.1, by omega, by omega⟩
/-- the class's cells, the reference's cells, by their kinds -/
def kc (a : Nat) : Nat := if a < 2017 then kd a else 99
theorem kc_spec {a c : Nat} (h : kc a = c) (hc : c < 99) : a < 2017 ∧ kd a = c := by
  unfold kc at h
  split at h
  · exact ⟨by assumption, h⟩
  · omega
def isB (v : Int32) : Bool := v == 0 || v == 1
theorem isB_spec {v : Int32} (h : isB v = true) : v = 0 ∨ v = 1 := by
  simpa [isB] using h
def inb (i : Int32) (n : Nat) : Bool := decide (0 ≤ i.toInt) && decide (i.toInt < n)
theorem inb_spec {i : Int32} {n : Nat} (h : inb i n = true) : vp_in i n := by
  simp only [inb, Bool.and_eq_true, decide_eq_true_eq] at h
  exact vp_in_iff.mpr h
/-- what the tables say of a field that is read, written -/
def FP (own : String) (index c k : Nat) (Cn : String) (T : u_T) (N : Nat) : Prop := vwCl[c]? = some (Cn, T, N) ∧ (∀ w ∈ u_ws Cn T N, w ∈ TB) ∧ k < N ∧ Cond.fieldLink own index (T k).1 (T k).2.1 (T k).2.2.1 ∈ TB ∧ k < nf c ∧ c < 12
def FW (c k : Nat) (T : u_T) (N : Nat) (ty : Nat → FieldType) : Prop := (T k).2.2.2 = false ∧ (∀ k, k < N → parseFieldDescriptor (T k).2.2.1 = some (ty k)) ∧ (∀ a, a < N → ∀ b, b < N → a ≠ b → (T a).2.1 ≠ (T b).2.1)
theorem narB {v : Int32} (h : isB v = true) : narrow .boolean (.int v) = .int v ∧ Jvm.fits .boolean (.int v) = true := by
  rcases isB_spec h with rfl | rfl <;> exact ⟨rfl, by decide⟩
theorem cell_rAi {K : JK} {σ : Sto} {a : Nat} {r : Nat → Int32} (h : kd a = 12) : (Sum.inl (K.2.1.1, ln a, .inl r) : va_E) = jcell K (rA σ a r) a := by
  rw [jc_I h]; simp [aI, rA, upr]
theorem cell_rAb {K : JK} {σ : Sto} {a : Nat} {r : Nat → Int32} (h : kd a = 13) : (Sum.inl (K.2.1.2.1, ln a, .inl r) : va_E) = jcell K (rA σ a r) a := by
  rw [jc_B h]; simp [aI, rA, upr]
theorem cell_rAz {K : JK} {σ : Sto} {a : Nat} {r : Nat → Int32} (h : kd a = 14) : (Sum.inl (K.2.1.2.2.1, ln a, .inl r) : va_E) = jcell K (rA σ a r) a := by
  rw [jc_Z h]; simp [aI, rA, upr]
theorem cell_rLl {K : JK} {σ : Sto} {a : Nat} {r : Nat → Int64} (h : kd a = 15) : (Sum.inl (K.2.1.2.2.2.1, ln a, .inr (.inl r)) : va_E) = jcell K (rL σ a r) a := by
  rw [jc_L h]; simp [aL, rL, upr]
section JS
variable {X : JX} {K : JK} {nL : Nat} {g : Prop} {Q : State → Prop} {k sl : Nat} {pc q : Nat} {lv lv' : List (Nat × Value)} {st : List Value} {own : String} {cc : ByteArray} {σ : Sto} {a c kf index N : Nat} {Cn : String} {T : u_T} {ty : Nat → FieldType}
theorem Jc_getI (C : Cx X K nL own cc) (fp : FP own index c kf Cn T N) (hk : kc a = c) (hf : ft c kf = 0) (d : decode cc pc = .ok (.getfield index, 3)) (hq : pc + 3 = q) (h : J X K nL g Q k sl 2017 (jw K σ) q lv (.int (fI σ a kf) :: st)) : J X K nL g Q k sl 2017 (jw K σ) pc lv (.ref (K.2.2 + a) :: st) := by
  have hc := fp.2.2.2.2.2
  exact J_get C fp.2.1 ((kc_spec hk (by omega)).1) ((jw_c (kc_spec hk (by omega)).1).trans (jc_obj ((kc_spec hk (by omega)).2) hc)) fp.1 fp.2.2.1 fp.2.2.2.1 ((jc_at fp.2.2.2.2.1).trans (by rw [show fv K.2.2 σ a c kf = .int (fI σ a kf) by unfold fv; rw [hf]])) d hq h
theorem Jc_getD (C : Cx X K nL own cc) (fp : FP own index c kf Cn T N) (hk : kc a = c) (hf : ft c kf = 1) (d : decode cc pc = .ok (.getfield index, 3)) (hq : pc + 3 = q) (h : J X K nL g Q k sl 2017 (jw K σ) q lv (jv K.2.2 (fR σ a kf) :: st)) : J X K nL g Q k sl 2017 (jw K σ) pc lv (.ref (K.2.2 + a) :: st) := by
  have hc := fp.2.2.2.2.2
  exact J_get C fp.2.1 ((kc_spec hk (by omega)).1) ((jw_c (kc_spec hk (by omega)).1).trans (jc_obj ((kc_spec hk (by omega)).2) hc)) fp.1 fp.2.2.1 fp.2.2.2.1 ((jc_at fp.2.2.2.2.1).trans (by rw [show fv K.2.2 σ a c kf = jv K.2.2 (fR σ a kf) by unfold fv; rw [hf]])) d hq h
theorem Jc_getS (C : Cx X K nL own cc) (fp : FP own index c kf Cn T N) {o2 r2 : Nat} (hr2 : a + o2 = r2) (hk : kc a = c) (hf : ft c kf = o2 + 2) (d : decode cc pc = .ok (.getfield index, 3)) (hq : pc + 3 = q) (h : J X K nL g Q k sl 2017 (jw K σ) q lv (.ref (K.2.2 + r2) :: st)) : J X K nL g Q k sl 2017 (jw K σ) pc lv (.ref (K.2.2 + a) :: st) := by
  subst hr2
  have hc := fp.2.2.2.2.2
  exact J_get C fp.2.1 ((kc_spec hk (by omega)).1) ((jw_c (kc_spec hk (by omega)).1).trans (jc_obj ((kc_spec hk (by omega)).2) hc)) fp.1 fp.2.2.1 fp.2.2.2.1 ((jc_at fp.2.2.2.2.1).trans (by rw [show fv K.2.2 σ a c kf = .ref (K.2.2 + (a + o2)) by unfold fv; rw [hf]])) d hq h
theorem Jc_putI (C : Cx X K nL own cc) (hg : ¬ g) (fp : FP own index c kf Cn T N) (fw : FW c kf T N ty) {v : Int32} (ht : ty kf = .int) (hk : kc a = c) (hf : ft c kf = 0) {s9 : Sto} (e9 : s9 = uI σ a kf v) (d : decode cc pc = .ok (.putfield index, 3)) (hq : pc + 3 = q) (h : J X K nL g Q k sl 2017 (jw K s9) q lv st) : J X K nL g Q k sl 2017 (jw K σ) pc lv (.int v :: .ref (K.2.2 + a) :: st) := by
  subst e9
  have hc := fp.2.2.2.2.2
  refine J_put C hg fp.2.1 fw.2.1 fw.2.2 ((kc_spec hk (by omega)).1) ((jw_c (kc_spec hk (by omega)).1).trans (jc_obj ((kc_spec hk (by omega)).2) hc)) fp.1 fp.2.2.1 fp.2.2.2.1 fw.1 (by rw [ht]; rfl) (by rw [ht]; rfl) (by simp [fp.2.2.2.2.1]) d hq ?_
  rw [jup_c (kc_spec hk (by omega)).1 (obj_uI ((kc_spec hk (by omega)).2) hc hf) (fun b hb => jcell_ne_uI hb)]
  exact h
theorem Jc_putZ (C : Cx X K nL own cc) (hg : ¬ g) (fp : FP own index c kf Cn T N) (fw : FW c kf T N ty) {v : Int32} (ht : ty kf = .boolean) (hv : isB v = true) (hk : kc a = c) (hf : ft c kf = 0) {s9 : Sto} (e9 : s9 = uI σ a kf v) (d : decode cc pc = .ok (.putfield index, 3)) (hq : pc + 3 = q) (h : J X K nL g Q k sl 2017 (jw K s9) q lv st) : J X K nL g Q k sl 2017 (jw K σ) pc lv (.int v :: .ref (K.2.2 + a) :: st) := by
  subst e9
  have hc := fp.2.2.2.2.2
  refine J_put C hg fp.2.1 fw.2.1 fw.2.2 ((kc_spec hk (by omega)).1) ((jw_c (kc_spec hk (by omega)).1).trans (jc_obj ((kc_spec hk (by omega)).2) hc)) fp.1 fp.2.2.1 fp.2.2.2.1 fw.1 (by rw [ht]; exact (narB hv).1) (by rw [ht]; exact (narB hv).2) (by simp [fp.2.2.2.2.1]) d hq ?_
  rw [jup_c (kc_spec hk (by omega)).1 (obj_uI ((kc_spec hk (by omega)).2) hc hf) (fun b hb => jcell_ne_uI hb)]
  exact h
theorem Jc_putD (C : Cx X K nL own cc) (hg : ¬ g) (fp : FP own index c kf Cn T N) (fw : FW c kf T N ty) {v : Nat} (ht : (∃ z, ty kf = .object z) ∨ ∃ z, ty kf = .array z) (hk : kc a = c) (hf : ft c kf = 1) {s9 : Sto} (e9 : s9 = uR σ a kf v) (d : decode cc pc = .ok (.putfield index, 3)) (hq : pc + 3 = q) (h : J X K nL g Q k sl 2017 (jw K s9) q lv st) : J X K nL g Q k sl 2017 (jw K σ) pc lv (jv K.2.2 v :: .ref (K.2.2 + a) :: st) := by
  subst e9
  have hc := fp.2.2.2.2.2
  refine J_put C hg fp.2.1 fw.2.1 fw.2.2 ((kc_spec hk (by omega)).1) ((jw_c (kc_spec hk (by omega)).1).trans (jc_obj ((kc_spec hk (by omega)).2) hc)) fp.1 fp.2.2.1 fp.2.2.2.1 fw.1 (by rcases ht with ⟨z, hz⟩ | ⟨z, hz⟩ <;> rw [hz] <;> cases v <;> rfl) (by rcases ht with ⟨z, hz⟩ | ⟨z, hz⟩ <;> rw [hz] <;> cases v <;> rfl) (by simp [fp.2.2.2.2.1]) d hq ?_
  rw [jup_c (kc_spec hk (by omega)).1 (obj_uR ((kc_spec hk (by omega)).2) hc hf) (fun b hb => jcell_ne_uR hb)]
  exact h
theorem Jc_iald (C : Cx X K nL own cc) {i : Int32} {len : Nat} (hk : kc a = 12) (hl : ln a = len) (hi : inb i len = true) (d : decode cc pc = .ok (.iaload, 1)) (hq : pc + 1 = q) (h : J X K nL g Q k sl 2017 (jw K σ) q lv (.int (aI σ a i.toNatClampNeg) :: st)) : J X K nL g Q k sl 2017 (jw K σ) pc lv (.int i :: .ref (K.2.2 + a) :: st) :=
  J_iald C ((kc_spec hk (by omega)).1) ((jw_c (kc_spec hk (by omega)).1).trans (jc_I ((kc_spec hk (by omega)).2))) (inb_spec (hl ▸ hi)) d hq h
theorem Jc_bald (C : Cx X K nL own cc) {i : Int32} {len : Nat} (hk : kc a = 13) (hl : ln a = len) (hi : inb i len = true) (d : decode cc pc = .ok (.baload, 1)) (hq : pc + 1 = q) (h : J X K nL g Q k sl 2017 (jw K σ) q lv (.int (aI σ a i.toNatClampNeg) :: st)) : J X K nL g Q k sl 2017 (jw K σ) pc lv (.int i :: .ref (K.2.2 + a) :: st) :=
  J_bald C ((kc_spec hk (by omega)).1) ((jw_c (kc_spec hk (by omega)).1).trans (jc_B ((kc_spec hk (by omega)).2))) (inb_spec (hl ▸ hi)) d hq h
theorem Jc_zald (C : Cx X K nL own cc) {i : Int32} {len : Nat} (hk : kc a = 14) (hl : ln a = len) (hi : inb i len = true) (d : decode cc pc = .ok (.baload, 1)) (hq : pc + 1 = q) (h : J X K nL g Q k sl 2017 (jw K σ) q lv (.int (aI σ a i.toNatClampNeg) :: st)) : J X K nL g Q k sl 2017 (jw K σ) pc lv (.int i :: .ref (K.2.2 + a) :: st) :=
  J_zald C ((kc_spec hk (by omega)).1) ((jw_c (kc_spec hk (by omega)).1).trans (jc_Z ((kc_spec hk (by omega)).2))) (inb_spec (hl ▸ hi)) d hq h
theorem Jc_lald (C : Cx X K nL own cc) {i : Int32} {len : Nat} (hk : kc a = 15) (hl : ln a = len) (hi : inb i len = true) (d : decode cc pc = .ok (.laload, 1)) (hq : pc + 1 = q) (h : J X K nL g Q k sl 2017 (jw K σ) q lv (.long (aL σ a i.toNatClampNeg) :: st)) : J X K nL g Q k sl 2017 (jw K σ) pc lv (.int i :: .ref (K.2.2 + a) :: st) :=
  J_lald C ((kc_spec hk (by omega)).1) ((jw_c (kc_spec hk (by omega)).1).trans (jc_L ((kc_spec hk (by omega)).2))) (inb_spec (hl ▸ hi)) d hq h
theorem Jc_iast (C : Cx X K nL own cc) (hg : ¬ g) {i : Int32} {x : Int32} {len : Nat} (hk : kc a = 12) (hl : ln a = len) (hi : inb i len = true) {s9 : Sto} (e9 : s9 = uA σ a i.toNatClampNeg x) (d : decode cc pc = .ok (.iastore, 1)) (hq : pc + 1 = q) (h : J X K nL g Q k sl 2017 (jw K s9) q lv st) : J X K nL g Q k sl 2017 (jw K σ) pc lv (.int x :: .int i :: .ref (K.2.2 + a) :: st) := by
  subst e9
  refine J_iast C hg ((kc_spec hk (by omega)).1) ((jw_c (kc_spec hk (by omega)).1).trans (jc_I ((kc_spec hk (by omega)).2))) (inb_spec (hl ▸ hi)) d hq ?_
  rw [uA_rA] at h
  rw [jup_c (kc_spec hk (by omega)).1 (cell_rAi ((kc_spec hk (by omega)).2)) (fun b hb => jcell_ne_rA hb)]
  exact h
theorem Jc_bast (C : Cx X K nL own cc) (hg : ¬ g) {i : Int32} {x : Int32} {len : Nat} (hk : kc a = 13) (hl : ln a = len) (hi : inb i len = true) {s9 : Sto} (e9 : s9 = uA σ a i.toNatClampNeg (vp_nar .byte x)) (d : decode cc pc = .ok (.bastore, 1)) (hq : pc + 1 = q) (h : J X K nL g Q k sl 2017 (jw K s9) q lv st) : J X K nL g Q k sl 2017 (jw K σ) pc lv (.int x :: .int i :: .ref (K.2.2 + a) :: st) := by
  subst e9
  refine J_bast C hg ((kc_spec hk (by omega)).1) ((jw_c (kc_spec hk (by omega)).1).trans (jc_B ((kc_spec hk (by omega)).2))) (inb_spec (hl ▸ hi)) d hq ?_
  rw [uA_rA] at h
  rw [jup_c (kc_spec hk (by omega)).1 (cell_rAb ((kc_spec hk (by omega)).2)) (fun b hb => jcell_ne_rA hb)]
  exact h
theorem Jc_zast (C : Cx X K nL own cc) (hg : ¬ g) {i : Int32} {x : Int32} {len : Nat} (hk : kc a = 14) (hl : ln a = len) (hi : inb i len = true) {s9 : Sto} (e9 : s9 = uA σ a i.toNatClampNeg (vp_nar .boolean x)) (d : decode cc pc = .ok (.bastore, 1)) (hq : pc + 1 = q) (h : J X K nL g Q k sl 2017 (jw K s9) q lv st) : J X K nL g Q k sl 2017 (jw K σ) pc lv (.int x :: .int i :: .ref (K.2.2 + a) :: st) := by
  subst e9
  refine J_zast C hg ((kc_spec hk (by omega)).1) ((jw_c (kc_spec hk (by omega)).1).trans (jc_Z ((kc_spec hk (by omega)).2))) (inb_spec (hl ▸ hi)) d hq ?_
  rw [uA_rA] at h
  rw [jup_c (kc_spec hk (by omega)).1 (cell_rAz ((kc_spec hk (by omega)).2)) (fun b hb => jcell_ne_rA hb)]
  exact h
theorem Jc_last (C : Cx X K nL own cc) (hg : ¬ g) {i : Int32} {x : Int64} {len : Nat} (hk : kc a = 15) (hl : ln a = len) (hi : inb i len = true) {s9 : Sto} (e9 : s9 = uL σ a i.toNatClampNeg x) (d : decode cc pc = .ok (.lastore, 1)) (hq : pc + 1 = q) (h : J X K nL g Q k sl 2017 (jw K s9) q lv st) : J X K nL g Q k sl 2017 (jw K σ) pc lv (.long x :: .int i :: .ref (K.2.2 + a) :: st) := by
  subst e9
  refine J_last C hg ((kc_spec hk (by omega)).1) ((jw_c (kc_spec hk (by omega)).1).trans (jc_L ((kc_spec hk (by omega)).2))) (inb_spec (hl ▸ hi)) d hq ?_
  rw [uL_rL] at h
  rw [jup_c (kc_spec hk (by omega)).1 (cell_rLl ((kc_spec hk (by omega)).2)) (fun b hb => jcell_ne_rL hb)]
  exact h
theorem Jc_aald (C : Cx X K nL own cc) {i : Int32} (hk : kc a = 16) (hi : inb i 150 = true) (d : decode cc pc = .ok (.aaload, 1)) (hq : pc + 1 = q) (h : J X K nL g Q k sl 2017 (jw K σ) q lv (.ref (K.2.2 + (39 + 13 * i.toNatClampNeg)) :: st)) : J X K nL g Q k sl 2017 (jw K σ) pc lv (.int i :: .ref (K.2.2 + a) :: st) := by
  subst hq
  intro H locs ls h1 h2 h3 h4
  exact va_aldq (C := "Cursorroom$Act") (f := fun i => some (K.2.2 + (39 + 13 * i))) C.1 C.2.1 C.2.2.2.2.2.1.1 h1 a 4 ((jwl_at ((kc_spec hk (by omega)).1)).trans (by rw [jw_c (kc_spec hk (by omega)).1, jc_R ((kc_spec hk (by omega)).2)])) rfl (inb_spec hi) d (h H locs ls h1 h2 h3 h4)
theorem Jc_alen (C : Cx X K nL own cc) (t0 : Nat) {cA : ClassId} {x : vp_A} {t : FieldType} {z : Nat} (hk : kc a = z) (hz : z < 99) (he : jcell K σ a = .inl (cA, x)) (ht : (jtys K)[t0]? = some (cA, t)) (d : decode cc pc = .ok (.arraylength, 1)) (hq : pc + 1 = q) (h : J X K nL g Q k sl 2017 (jw K σ) q lv (.int (Int32.ofNat x.1) :: st)) : J X K nL g Q k sl 2017 (jw K σ) pc lv (.ref (K.2.2 + a) :: st) :=
  J_alen C ((kc_spec hk (by omega)).1) ((jw_c (kc_spec hk (by omega)).1).trans he) ht rfl d hq h
theorem Jc_copyI (C : Cx X K nL own cc) (hg : ¬ g) {a0 : Nat} {sp dp m : Int32} (hl : Cond.methodLink own index arraycopyName ∈ TB) (hnat : Cond.native arraycopyName ∈ TB) (hst : Cond.static arraycopyName ∈ TB) (hini : Cond.initialized "java/lang/System" ∈ TB) {n0 n1 : Nat} (hk0 : kc a0 = 12) (hk : kc a = 12) (hl0 : ln a0 = n0) (hl1 : ln a = n1) (hr : cpok sp dp m n0 n1 = true) {s9 : Sto} (e9 : s9 = rA σ a (va_cpy (aI σ a0) (aI σ a) sp.toNatClampNeg dp.toNatClampNeg m.toNatClampNeg)) (hfit : ∀ i, i < m.toNatClampNeg → fits .int (.int (aI σ a0 (sp.toNatClampNeg + i))) = true) (hfr : 1 ≤ X.2.2.2.1.frames) (hlo : (st.map fun v => v.category).sum + (nativeFrameWords "java/lang/System" "arraycopy" 5 + 11) ≤ X.2.2.2.1.locals)
    (d : decode cc pc = .ok (.invokestatic index, 3)) (hq : pc + 3 = q) (h : J X K nL g Q k sl 2017 (jw K s9) q lv st) : J X K nL g Q k sl 2017 (jw K σ) pc lv (.int m :: .int dp :: .ref (K.2.2 + a) :: .int sp :: .ref (K.2.2 + a0) :: st) := by
  subst e9 hl0 hl1
  obtain ⟨r1, r2, r3, r4, r5⟩ := cpok_spec hr
  refine J_copyi (ty := .int) C hg hl hnat hst hini ((kc_spec hk0 (by omega)).1) ((kc_spec hk (by omega)).1) ((jw_c (kc_spec hk0 (by omega)).1).trans (jc_I (kc_spec hk0 (by omega)).2)) ((jw_c (kc_spec hk (by omega)).1).trans (jc_I (kc_spec hk (by omega)).2)) (t0 := 0) rfl rfl r1 r2 r3 r4 r5 hfit hfr hlo d hq ?_
  rw [jup_c (kc_spec hk (by omega)).1 (cell_rAi (kc_spec hk (by omega)).2) (fun b hb => jcell_ne_rA hb)]
  exact h
theorem Jc_copyB (C : Cx X K nL own cc) (hg : ¬ g) {a0 : Nat} {sp dp m : Int32} (hl : Cond.methodLink own index arraycopyName ∈ TB) (hnat : Cond.native arraycopyName ∈ TB) (hst : Cond.static arraycopyName ∈ TB) (hini : Cond.initialized "java/lang/System" ∈ TB) {n0 n1 : Nat} (hk0 : kc a0 = 13) (hk : kc a = 13) (hl0 : ln a0 = n0) (hl1 : ln a = n1) (hr : cpok sp dp m n0 n1 = true) {s9 : Sto} (e9 : s9 = rA σ a (va_cpy (aI σ a0) (aI σ a) sp.toNatClampNeg dp.toNatClampNeg m.toNatClampNeg)) (hfit : ∀ i, i < m.toNatClampNeg → fits .byte (.int (aI σ a0 (sp.toNatClampNeg + i))) = true) (hfr : 1 ≤ X.2.2.2.1.frames) (hlo : (st.map fun v => v.category).sum + (nativeFrameWords "java/lang/System" "arraycopy" 5 + 11) ≤ X.2.2.2.1.locals)
    (d : decode cc pc = .ok (.invokestatic index, 3)) (hq : pc + 3 = q) (h : J X K nL g Q k sl 2017 (jw K s9) q lv st) : J X K nL g Q k sl 2017 (jw K σ) pc lv (.int m :: .int dp :: .ref (K.2.2 + a) :: .int sp :: .ref (K.2.2 + a0) :: st) := by
  subst e9 hl0 hl1
  obtain ⟨r1, r2, r3, r4, r5⟩ := cpok_spec hr
  refine J_copyi (ty := .byte) C hg hl hnat hst hini ((kc_spec hk0 (by omega)).1) ((kc_spec hk (by omega)).1) ((jw_c (kc_spec hk0 (by omega)).1).trans (jc_B (kc_spec hk0 (by omega)).2)) ((jw_c (kc_spec hk (by omega)).1).trans (jc_B (kc_spec hk (by omega)).2)) (t0 := 1) rfl rfl r1 r2 r3 r4 r5 hfit hfr hlo d hq ?_
  rw [jup_c (kc_spec hk (by omega)).1 (cell_rAb (kc_spec hk (by omega)).2) (fun b hb => jcell_ne_rA hb)]
  exact h
theorem Jc_copyZ (C : Cx X K nL own cc) (hg : ¬ g) {a0 : Nat} {sp dp m : Int32} (hl : Cond.methodLink own index arraycopyName ∈ TB) (hnat : Cond.native arraycopyName ∈ TB) (hst : Cond.static arraycopyName ∈ TB) (hini : Cond.initialized "java/lang/System" ∈ TB) {n0 n1 : Nat} (hk0 : kc a0 = 14) (hk : kc a = 14) (hl0 : ln a0 = n0) (hl1 : ln a = n1) (hr : cpok sp dp m n0 n1 = true) {s9 : Sto} (e9 : s9 = rA σ a (va_cpy (aI σ a0) (aI σ a) sp.toNatClampNeg dp.toNatClampNeg m.toNatClampNeg)) (hfit : ∀ i, i < m.toNatClampNeg → fits .boolean (.int (aI σ a0 (sp.toNatClampNeg + i))) = true) (hfr : 1 ≤ X.2.2.2.1.frames) (hlo : (st.map fun v => v.category).sum + (nativeFrameWords "java/lang/System" "arraycopy" 5 + 11) ≤ X.2.2.2.1.locals)
    (d : decode cc pc = .ok (.invokestatic index, 3)) (hq : pc + 3 = q) (h : J X K nL g Q k sl 2017 (jw K s9) q lv st) : J X K nL g Q k sl 2017 (jw K σ) pc lv (.int m :: .int dp :: .ref (K.2.2 + a) :: .int sp :: .ref (K.2.2 + a0) :: st) := by
  subst e9 hl0 hl1
  obtain ⟨r1, r2, r3, r4, r5⟩ := cpok_spec hr
  refine J_copyi (ty := .boolean) C hg hl hnat hst hini ((kc_spec hk0 (by omega)).1) ((kc_spec hk (by omega)).1) ((jw_c (kc_spec hk0 (by omega)).1).trans (jc_Z (kc_spec hk0 (by omega)).2)) ((jw_c (kc_spec hk (by omega)).1).trans (jc_Z (kc_spec hk (by omega)).2)) (t0 := 2) rfl rfl r1 r2 r3 r4 r5 hfit hfr hlo d hq ?_
  rw [jup_c (kc_spec hk (by omega)).1 (cell_rAz (kc_spec hk (by omega)).2) (fun b hb => jcell_ne_rA hb)]
  exact h
theorem Jc_copyL (C : Cx X K nL own cc) (hg : ¬ g) {a0 : Nat} {sp dp m : Int32} (hl : Cond.methodLink own index arraycopyName ∈ TB) (hnat : Cond.native arraycopyName ∈ TB) (hst : Cond.static arraycopyName ∈ TB) (hini : Cond.initialized "java/lang/System" ∈ TB) {n0 n1 : Nat} (hk0 : kc a0 = 15) (hk : kc a = 15) (hl0 : ln a0 = n0) (hl1 : ln a = n1) (hr : cpok sp dp m n0 n1 = true) {s9 : Sto} (e9 : s9 = rL σ a (va_cpy (aL σ a0) (aL σ a) sp.toNatClampNeg dp.toNatClampNeg m.toNatClampNeg)) (hfr : 1 ≤ X.2.2.2.1.frames) (hlo : (st.map fun v => v.category).sum + (nativeFrameWords "java/lang/System" "arraycopy" 5 + 11) ≤ X.2.2.2.1.locals)
    (d : decode cc pc = .ok (.invokestatic index, 3)) (hq : pc + 3 = q) (h : J X K nL g Q k sl 2017 (jw K s9) q lv st) : J X K nL g Q k sl 2017 (jw K σ) pc lv (.int m :: .int dp :: .ref (K.2.2 + a) :: .int sp :: .ref (K.2.2 + a0) :: st) := by
  subst e9 hl0 hl1
  obtain ⟨r1, r2, r3, r4, r5⟩ := cpok_spec hr
  refine J_copyl C hg hl hnat hst hini ((kc_spec hk0 (by omega)).1) ((kc_spec hk (by omega)).1) ((jw_c (kc_spec hk0 (by omega)).1).trans (jc_L (kc_spec hk0 (by omega)).2)) ((jw_c (kc_spec hk (by omega)).1).trans (jc_L (kc_spec hk (by omega)).2)) r1 r2 r3 r4 r5 hfr hlo d hq ?_
  rw [jup_c (kc_spec hk (by omega)).1 (cell_rLl (kc_spec hk (by omega)).2) (fun b hb => jcell_ne_rL hb)]
  exact h
theorem J_aloadq_n (C : Cx X K nL own cc) {kk : Fin 4} {i p r : Nat} {w : JW} {n : Nat} (d : decode cc pc = .ok (.aload_n kk, 1)) (hi : (kk : Nat) = i) (hl : lv[p]? = some (i, jv K.2.2 r)) (hq : pc + 1 = q) (h : J X K nL g Q k sl n w q lv (jv K.2.2 r :: st)) : J X K nL g Q k sl n w pc lv st := by
  subst hq
  intro H locs ls h1 h2 h3 h4
  cases r with
  | zero => exact lv_aload_nN C.1 C.2.1 d hi (lv_at h4 p hl) (h H locs ls h1 h2 h3 h4)
  | succ r => exact lv_aload_n C.1 C.2.1 d hi (lv_at h4 p hl) (h H locs ls h1 h2 h3 h4)
theorem J_aloadq (C : Cx X K nL own cc) {i p r : Nat} {w : JW} {n : Nat} (d : decode cc pc = .ok (.aload i, 2)) (hl : lv[p]? = some (i, jv K.2.2 r)) (hq : pc + 2 = q) (h : J X K nL g Q k sl n w q lv (jv K.2.2 r :: st)) : J X K nL g Q k sl n w pc lv st := by
  subst hq
  intro H locs ls h1 h2 h3 h4
  cases r with
  | zero => exact lv_aloadN C.1 C.2.1 d (lv_at h4 p hl) (h H locs ls h1 h2 h3 h4)
  | succ r => exact lv_aload C.1 C.2.1 d (lv_at h4 p hl) (h H locs ls h1 h2 h3 h4)
theorem J_astoreq_n (C : Cx X K nL own cc) {kk : Fin 4} {i r : Nat} {w : JW} {n : Nat} (d : decode cc pc = .ok (.astore_n kk, 1)) (hi : (kk : Nat) = i) (hn : i < nL) (hl : (i, jv K.2.2 r) :: lv.filter (fun q => !(q.1 == i) && !(q.1 + 1 == i && q.2.category == 2)) = lv') (hq : pc + 1 = q) (h : J X K nL g Q k sl n w q lv' st) : J X K nL g Q k sl n w pc lv (jv K.2.2 r :: st) := by
  subst hq
  intro H locs ls h1 h2 h3 h4
  cases r with
  | zero => exact lv_astore_nN C.1 C.2.1 d hi h4 hn hl (fun ls h4 => h H locs ls h1 h2 h3 h4)
  | succ r => exact lv_astore_n C.1 C.2.1 d hi h4 hn hl (fun ls h4 => h H locs ls h1 h2 h3 h4)
theorem J_astoreq (C : Cx X K nL own cc) {i r : Nat} {w : JW} {n : Nat} (d : decode cc pc = .ok (.astore i, 2)) (hn : i < nL) (hl : (i, jv K.2.2 r) :: lv.filter (fun q => !(q.1 == i) && !(q.1 + 1 == i && q.2.category == 2)) = lv') (hq : pc + 2 = q) (h : J X K nL g Q k sl n w q lv' st) : J X K nL g Q k sl n w pc lv (jv K.2.2 r :: st) := by
  subst hq
  intro H locs ls h1 h2 h3 h4
  cases r with
  | zero => exact lv_astoreN C.1 C.2.1 d h4 hn hl (fun ls h4 => h H locs ls h1 h2 h3 h4)
  | succ r => exact lv_astore C.1 C.2.1 d h4 hn hl (fun ls h4 => h H locs ls h1 h2 h3 h4)
theorem J_ifnullq (C : Cx X K nL own cc) {r : Nat} {w : JW} {n : Nat} {off : Int} {t : Nat} (d : decode cc pc = .ok (.ifnull off, 3)) (ht : (pc : Int) + off = (t : Int)) (hq : pc + 3 = q) (kt : r = 0 → J X K nL g Q k sl n w t lv st) (kf : ¬ r = 0 → J X K nL g Q k sl n w q lv st) : J X K nL g Q k sl n w pc lv (jv K.2.2 r :: st) := by
  cases r with
  | zero => exact J_ifnullN C d ht (kt rfl)
  | succ r => exact J_ifnullR C d hq (kf (Nat.succ_ne_zero r))
theorem J_ifnonnullq (C : Cx X K nL own cc) {r : Nat} {w : JW} {n : Nat} {off : Int} {t : Nat} (d : decode cc pc = .ok (.ifnonnull off, 3)) (ht : (pc : Int) + off = (t : Int)) (hq : pc + 3 = q) (kt : ¬ r = 0 → J X K nL g Q k sl n w t lv st) (kf : r = 0 → J X K nL g Q k sl n w q lv st) : J X K nL g Q k sl n w pc lv (jv K.2.2 r :: st) := by
  cases r with
  | zero => exact J_ifnonnullN C d hq (kf rfl)
  | succ r => exact J_ifnonnullR C d ht (kt (Nat.succ_ne_zero r))
theorem jv_rf (b r : Nat) : jv b r = va_rf (if r = 0 then none else some (b + (r - 1))) := by
  cases r <;> simp [jv, va_rf]
theorem jv_inj {b r1 r2 : Nat} : (if r1 = 0 then none else some (b + (r1 - 1))) = (if r2 = 0 then none else some (b + (r2 - 1))) ↔ r1 = r2 := by
  by_cases h1 : r1 = 0
  · by_cases h2 : r2 = 0
    · simp [h1, h2]
    · simp [h1, h2, Ne.symm h2]
  · by_cases h2 : r2 = 0
    · simp [h1, h2]
    · simp [h1, h2]
      omega
theorem J_acmp_ne (C : Cx X K nL own cc) {r1 r2 : Nat} {w : JW} {n : Nat} {off : Int} {t : Nat} (d : decode cc pc = .ok (.if_acmp .ne off, 3)) (ht : (pc : Int) + off = (t : Int)) (hq : pc + 3 = q) (kt : ¬ r1 = r2 → J X K nL g Q k sl n w t lv st) (kf : r1 = r2 → J X K nL g Q k sl n w q lv st) : J X K nL g Q k sl n w pc lv (jv K.2.2 r2 :: jv K.2.2 r1 :: st) := by
  subst hq
  intro H locs ls h1 h2 h3 h4
  rw [jv_rf, jv_rf]
  exact lv_acmp_ne C.1 C.2.1 d ht (fun c => kt (fun z => c (jv_inj.mpr z)) H locs ls h1 h2 h3 h4) (fun c => kf (jv_inj.mp c) H locs ls h1 h2 h3 h4)
theorem J_aretq {mc ms n r : Nat} {w : JW} {Qr : Option Value → Nat → JW → Prop} {Qx : String → Nat → JW → Prop} (C : Cx X K nL own cc) {z : String} (hret : X.2.2.2.2.2.2.2.2.1.sig.returnType = some (.object z)) (hk : k ≤ mc) (hs : sl ≤ ms) (hr : Qr (some (jv K.2.2 r)) n w) (d : decode cc pc = .ok (.areturn, 1)) : J X K nL g (jQ X K mc ms Qr Qx g) k sl n w pc lv [jv K.2.2 r] :=
  J_aret C hret (Or.inl ⟨z, rfl⟩) (by cases r; exact Or.inl rfl; exact Or.inr ⟨_, rfl⟩) hk hs hr d
end JS
/-! an outcome that is there -/
def Ok {α : Type} (x : Option α) (Q : α → Prop) : Prop := ∃ a, x = some a ∧ Q a
def gd {α : Type} (b : Bool) (x : Option α) : Option α := if b = true then x else none
def stp {α β : Type} (x : α) (f : α → β) : β := f x
def bnd {α β : Type} (x : Option α) (f : α → Option β) : Option β := x.bind f
def loopF {S R : Type} (f : S → Option (S ⊕ R)) : Nat → S → Option R
  | 0, _ => none
  | n + 1, s => match f s with
    | none => none
    | some (.inl s') => loopF f n s'
    | some (.inr r) => some r
theorem Ok.osome {α : Type} {a : α} {Q : α → Prop} (h : Ok (.some a) Q) : Q a := by
  obtain ⟨b, h1, h2⟩ := h
  exact (Option.some.inj h1) ▸ h2
theorem Ok.onone {α : Type} {Q : α → Prop} {P : Prop} (h : Ok (.none : Option α) Q) : P := by
  obtain ⟨b, h1, h2⟩ := h
  cases h1
theorem Ok.ofgd {α : Type} {b : Bool} {x : Option α} {Q : α → Prop} (h : Ok (gd b x) Q) : b = true ∧ Ok x Q := by
  unfold gd at h
  by_cases hb : b = true
  · rw [if_pos hb] at h
    exact ⟨hb, h⟩
  · rw [if_neg hb] at h
    exact h.onone
theorem Ok.pos {α : Type} {c : Prop} [Decidable c] {x y : Option α} {Q : α → Prop} (h : Ok (if c then x else y) Q) (hc : c) : Ok x Q := by
  rwa [if_pos hc] at h
theorem Ok.neg {α : Type} {c : Prop} [Decidable c] {x y : Option α} {Q : α → Prop} (h : Ok (if c then x else y) Q) (hc : ¬ c) : Ok y Q := by
  rwa [if_neg hc] at h
theorem Ok.ofbnd {α β : Type} {x : Option α} {f : α → Option β} {Q : β → Prop} (h : Ok (bnd x f) Q) : Ok x (fun a => Ok (f a) Q) := by
  obtain ⟨b, h1, h2⟩ := h
  cases x with
  | none => cases h1
  | some a => exact ⟨a, rfl, b, h1, h2⟩
theorem Ok.mono {α : Type} {x : Option α} {Q Q' : α → Prop} (h : Ok x Q) (hq : ∀ a, Q a → Q' a) : Ok x Q' := by
  obtain ⟨a, h1, h2⟩ := h
  exact ⟨a, h1, hq a h2⟩
theorem loop_ok {S R : Type} {f : S → Option (S ⊕ R)} {P : S → Prop} {E : R → Prop} (hs : ∀ s, Ok (f s) (fun x => match x with | .inl s' => P s' | .inr r => E r) → P s) : ∀ n s, Ok (loopF f n s) E → P s := by
  intro n
  induction n with
  | zero => intro s h; exact h.onone
  | succ n ih =>
    intro s h
    apply hs
    obtain ⟨r, h1, h2⟩ := h
    unfold loopF at h1
    cases hf : f s with
    | none => rw [hf] at h1; cases h1
    | some x =>
      rw [hf] at h1
      cases x with
      | inl s' => exact ⟨_, rfl, ih s' ⟨r, h1, h2⟩⟩
      | inr r2 => exact ⟨_, rfl, by cases h1; exact h2⟩
