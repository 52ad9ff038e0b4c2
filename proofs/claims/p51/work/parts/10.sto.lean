/-! the store: fields and rows by the numbers of the cells; a reference is 0 for null, else the cell's number and 1 -/
abbrev Sto : Type := (Nat → Nat → Int32) × (Nat → Nat → Nat) × (Nat → Nat → Int32) × (Nat → Nat → Int64)
abbrev fI (σ : Sto) : Nat → Nat → Int32 := σ.1
abbrev fR (σ : Sto) : Nat → Nat → Nat := σ.2.1
abbrev aI (σ : Sto) : Nat → Nat → Int32 := σ.2.2.1
abbrev aL (σ : Sto) : Nat → Nat → Int64 := σ.2.2.2
def up2 {α : Type} (f : Nat → Nat → α) (a k : Nat) (v : α) : Nat → Nat → α := fun b j => if b = a then (if j = k then v else f b j) else f b j
def upr {α : Type} (f : Nat → Nat → α) (a : Nat) (r : Nat → α) : Nat → Nat → α := fun b => if b = a then r else f b
def uI (σ : Sto) (a k : Nat) (v : Int32) : Sto := (up2 σ.1 a k v, σ.2.1, σ.2.2.1, σ.2.2.2)
def uR (σ : Sto) (a k : Nat) (v : Nat) : Sto := (σ.1, up2 σ.2.1 a k v, σ.2.2.1, σ.2.2.2)
def uA (σ : Sto) (a k : Nat) (v : Int32) : Sto := (σ.1, σ.2.1, up2 σ.2.2.1 a k v, σ.2.2.2)
def uL (σ : Sto) (a k : Nat) (v : Int64) : Sto := (σ.1, σ.2.1, σ.2.2.1, up2 σ.2.2.2 a k v)
def rA (σ : Sto) (a : Nat) (r : Nat → Int32) : Sto := (σ.1, σ.2.1, upr σ.2.2.1 a r, σ.2.2.2)
def rL (σ : Sto) (a : Nat) (r : Nat → Int64) : Sto := (σ.1, σ.2.1, σ.2.2.1, upr σ.2.2.2 a r)
/-! the places: the kind of each cell (0 to 11: an object of that class; 12 ints, 13 bytes, 14 booleans, 15 longs, 16 acts) and the length of a row -/
def actL (i : Nat) : Nat × Nat := match i with
  | 0 => (0, 0)
  | 1 => (5, 0)
  | 2 => (15, 375)
  | 3 => (15, 5)
  | 4 => (12, 8)
  | 5 => (12, 16)
  | 6 => (14, 16)
  | 7 => (5, 0)
  | 8 => (15, 375)
  | 9 => (15, 5)
  | 10 => (12, 8)
  | 11 => (12, 16)
  | _ => (14, 16)
def layT : List (Nat × Nat) := [(10, 0), (8, 0), (13, 3000), (12, 300), (14, 300), (12, 8), (12, 16), (14, 16), (6, 0), (13, 200), (2, 0), (6, 0), (13, 12000), (1, 0), (12, 3000), (12, 3000), (12, 3000), (12, 3000), (6, 0), (13, 3000), (13, 3000), (12, 300), (14, 300), (14, 300), (4, 0), (16, 150)]
def layU : List (Nat × Nat) := [(7, 0), (6, 0), (13, 40), (9, 0), (12, 40), (12, 40), (12, 40), (13, 8000), (3, 0), (8, 0), (13, 3000), (12, 300), (14, 300), (12, 8), (12, 16), (14, 16), (8, 0), (13, 3000), (12, 300), (14, 300), (12, 8), (12, 16), (14, 16), (12, 300), (12, 300), (12, 301), (12, 2), (12, 2),
  (11, 0), (12, 3000), (12, 8), (12, 16), (14, 16), (14, 301), (12, 200), (12, 12000), (12, 40), (12, 3000), (12, 2), (12, 2), (12, 3001), (12, 3001), (12, 3001), (12, 3001), (12, 3200), (12, 151), (12, 151), (12, 903000), (12, 301), (12, 2408), (12, 301), (12, 4816), (14, 4816), (14, 90601), (12, 3000), (12, 40), (12, 40), (12, 40), (12, 40), (12, 8000), (12, 200), (12, 302), (12, 302), (12, 302), (12, 302), (15, 1)]
def lay (a : Nat) : Nat × Nat := if a < 26 then layT.getD a (99, 0) else if a < 1989 then actL ((a - 26) % 13) else layU.getD (a - 1989) (99, 0)
abbrev kd (a : Nat) : Nat := (lay a).1
abbrev ln (a : Nat) : Nat := (lay a).2
/-- how many fields a class has, and of what kind a field is: 0 a number, 1 a reference that moves, 2 and more a reference that stays, so many cells behind the object less 2 -/
def nfT : List Nat := [4, 13, 4, 5, 5, 7, 2, 2, 9, 6, 11, 56]
def ftT : List (List Nat) := [[1, 1, 3, 9], [3, 4, 5, 6, 0, 7, 0, 1, 0, 1, 1, 0, 12], [3, 0, 0, 0], [3, 10, 17, 18, 19], [3, 0, 1, 0, 0], [3, 0, 4, 5, 0, 6, 7], [3, 0], [3, 0], [1, 0, 1, 1, 0, 6, 0, 7, 8], [3, 4, 5, 6, 0, 0], [3, 10, 12, 15, 26, 1991, 1994, 1999, 2017, 2018, 0],
  [3, 4, 5, 6, 7, 0, 0, 8, 9, 10, 11, 0, 0, 0, 0, 0, 0, 0, 0, 0, 12, 13, 14, 15, 16, 17, 18, 0, 0, 19, 20, 0, 0, 0, 0, 21, 22, 23, 24, 25, 26, 27, 0, 28, 29, 30, 31, 32, 33, 34, 0, 0, 35, 36, 37, 38]]
def ft (c k : Nat) : Nat := (ftT.getD c []).getD k 0
def nf (c : Nat) : Nat := nfT.getD c 0
/-- a reference as a value -/
def jv (b : Nat) : Nat → Value
  | 0 => .null
  | a + 1 => .ref (b + a)
def fv (b : Nat) (σ : Sto) (a c k : Nat) : Value := match ft c k with
  | 0 => .int (fI σ a k)
  | 1 => jv b (fR σ a k)
  | o + 2 => .ref (b + (a + o))
def jcell (K : JK) (σ : Sto) (a : Nat) : va_E :=
  if kd a < 12 then .inr (kd a, (List.range (nf (kd a))).map (fv K.2.2 σ a (kd a)))
  else if kd a = 12 then .inl (K.2.1.1, ln a, .inl (aI σ a))
  else if kd a = 13 then .inl (K.2.1.2.1, ln a, .inl (aI σ a))
  else if kd a = 14 then .inl (K.2.1.2.2.1, ln a, .inl (aI σ a))
  else if kd a = 15 then .inl (K.2.1.2.2.2.1, ln a, .inr (.inl (aL σ a)))
  else .inl (K.2.1.2.2.2.2, 150, .inr (.inr (.inr (.inr (fun i => some (K.2.2 + (39 + 13 * i)))))))
/-- the world: the class's cells -/
def jw (K : JK) (σ : Sto) : JW := fun a => jcell K σ a
theorem map_set {α : Type} {f : Nat → α} {N k : Nat} {v : α} : ((List.range N).map f).set k v = (List.range N).map (fun j => if j = k then v else f j) := by
  apply List.ext_getElem?
  intro i
  rw [List.getElem?_set]
  by_cases hi : i < N
  · by_cases hk : k = i
    · subst hk
      simp [hi]
    · simp [hk, hi, Ne.symm hk]
  · by_cases hk : k = i
    · subst hk
      simp [hi]
    · simp [hk, hi]
section STO
variable {K : JK} {σ : Sto} {a b c k len : Nat}
theorem jw_c (_h : a < 2017) : jw K σ a = jcell K σ a := rfl
theorem jc_obj (h : kd a = c) (hc : c < 12) : jcell K σ a = .inr (c, (List.range (nf c)).map (fv K.2.2 σ a c)) := by
  subst h
  simp [jcell, hc]
theorem jc_I (h : kd a = 12) : jcell K σ a = .inl (K.2.1.1, ln a, .inl (aI σ a)) := by simp [jcell, h]
theorem jc_B (h : kd a = 13) : jcell K σ a = .inl (K.2.1.2.1, ln a, .inl (aI σ a)) := by simp [jcell, h]
theorem jc_Z (h : kd a = 14) : jcell K σ a = .inl (K.2.1.2.2.1, ln a, .inl (aI σ a)) := by simp [jcell, h]
theorem jc_L (h : kd a = 15) : jcell K σ a = .inl (K.2.1.2.2.2.1, ln a, .inr (.inl (aL σ a))) := by simp [jcell, h]
theorem jc_R (h : kd a = 16) : jcell K σ a = .inl (K.2.1.2.2.2.2, 150, .inr (.inr (.inr (.inr (fun i => some (K.2.2 + (39 + 13 * i))))))) := by simp [jcell, h]
theorem jc_at (hk : k < nf c) : ((List.range (nf c)).map (fv K.2.2 σ a c))[k]? = some (fv K.2.2 σ a c k) := by simp [hk]
theorem fv_ne_uI {j : Nat} {v : Int32} (h : b ≠ a) : fv j (uI σ a k v) b c = fv j σ b c := by
  funext i
  simp only [fv, fI, fR, uI, up2, if_neg h]
theorem fv_ne_uR {j v : Nat} (h : b ≠ a) : fv j (uR σ a k v) b c = fv j σ b c := by
  funext i
  simp only [fv, fI, fR, uR, up2, if_neg h]
theorem fv_uI {j : Nat} {v : Int32} (h : ft c k = 0) : fv j (uI σ a k v) a c = fun i => if i = k then .int v else fv j σ a c i := by
  funext i
  by_cases hi : i = k
  · subst hi
    simp [fv, h, fI, uI, up2]
  · simp [fv, fI, fR, uI, up2, hi]
theorem fv_uR {j v : Nat} (h : ft c k = 1) : fv j (uR σ a k v) a c = fun i => if i = k then jv j v else fv j σ a c i := by
  funext i
  by_cases hi : i = k
  · subst hi
    simp [fv, h, fR, uR, up2]
  · simp [fv, fI, fR, uR, up2, hi]
theorem jcell_ne_uI {v : Int32} (h : b ≠ a) : jcell K (uI σ a k v) b = jcell K σ b := by
  unfold jcell
  rw [fv_ne_uI h]
  rfl
theorem jcell_ne_uR {v : Nat} (h : b ≠ a) : jcell K (uR σ a k v) b = jcell K σ b := by
  unfold jcell
  rw [fv_ne_uR h]
  rfl
theorem jcell_ne_rA {r : Nat → Int32} (h : b ≠ a) : jcell K (rA σ a r) b = jcell K σ b := by
  have e : aI (rA σ a r) b = aI σ b := by simp [aI, rA, upr, h]
  unfold jcell
  rw [e]
  rfl
theorem jcell_ne_rL {r : Nat → Int64} (h : b ≠ a) : jcell K (rL σ a r) b = jcell K σ b := by
  have e : aL (rL σ a r) b = aL σ b := by simp [aL, rL, upr, h]
  unfold jcell
  rw [e]
  rfl
theorem uA_rA {v : Int32} : uA σ a k v = rA σ a (upd (aI σ a) k v) := by
  unfold uA rA
  congr 2
  congr 1
  funext b j
  by_cases hb : b = a
  · subst hb
    simp [up2, upr, upd]
  · simp [up2, upr, hb]
theorem uL_rL {v : Int64} : uL σ a k v = rL σ a (vp_updL (aL σ a) k v) := by
  unfold uL rL
  congr 3
  funext b j
  by_cases hb : b = a
  · subst hb
    simp [up2, upr, vp_updL]
  · simp [up2, upr, hb]
theorem obj_uI {v : Int32} (h : kd a = c) (hc : c < 12) (hf : ft c k = 0) : (Sum.inr (c, ((List.range (nf c)).map (fv K.2.2 σ a c)).set k (.int v)) : va_E) = jcell K (uI σ a k v) a := by
  rw [jc_obj h hc, map_set, fv_uI hf]
theorem obj_uR {v : Nat} (h : kd a = c) (hc : c < 12) (hf : ft c k = 1) : (Sum.inr (c, ((List.range (nf c)).map (fv K.2.2 σ a c)).set k (jv K.2.2 v)) : va_E) = jcell K (uR σ a k v) a := by
  rw [jc_obj h hc, map_set, fv_uR hf]
theorem jup_c {σ' : Sto} {e : va_E} (h : a < 2017) (h1 : e = jcell K σ' a) (h2 : ∀ b, b ≠ a → jcell K σ' b = jcell K σ b) : jup (jw K σ) a e = jw K σ' := by
  funext b
  unfold jup
  by_cases hb : b = a
  · rw [if_pos hb, hb, h1, jw_c h]
  · rw [if_neg hb]
    unfold jw
    rw [h2 b hb]
end STO
theorem jv_pos {b r : Nat} (h : ¬ r = 0) : jv b r = .ref (b + (r - 1)) := by
  cases r with
  | zero => exact absurd rfl h
  | succ r => rfl
