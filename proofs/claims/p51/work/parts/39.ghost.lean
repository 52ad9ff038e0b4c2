/-! a call beside the ghost's -/
def hres (tab : List (Nat × Int32)) (o : Int64) (Qf : Int32 × Sto × Int64 → Prop) : (Int32 × Sto) ⊕ (Nat × Sto) → Prop
  | .inl p => Qf (0, p.2, p.1.toInt64)
  | .inr c => ∃ v, (c.1, v) ∈ tab ∧ Qf (v, c.2, o)
def hresZ (tab : List (Nat × Int32)) (o : Int64) (Qf : Int32 × Sto × Int64 → Prop) : (Int32 × Sto) ⊕ (Nat × Sto) → Prop
  | .inl p => Qf (0, p.2, if p.1 = 0 then 0 else 1)
  | .inr c => ∃ v, (c.1, v) ∈ tab ∧ Qf (v, c.2, o)
def stH (fc : Option ((Int32 × Sto) ⊕ (Nat × Sto))) (tab : List (Nat × Int32)) (o : Int64) (fm : Option (Int32 × Sto)) (Q : Sto → Sto → Int64 → Prop) : Prop :=
  Ok fc (hres tab o (fun r => Ok fm (fun p => Ok (f12_thrown p.2) (fun t => t = r.1 ∧ (r.1 = 0 → r.2.2 = p.1.toInt64) ∧ Q r.2.1 p.2 r.2.2))))
def stHZ (fc : Option ((Int32 × Sto) ⊕ (Nat × Sto))) (tab : List (Nat × Int32)) (o : Int64) (fm : Option (Int32 × Sto)) (Q : Sto → Sto → Int64 → Prop) : Prop :=
  Ok fc (hresZ tab o (fun r => Ok fm (fun p => Ok (f12_thrown p.2) (fun t => t = r.1 ∧ (r.1 = 0 → r.2.2 = if p.1 = 0 then 0 else 1) ∧ Q r.2.1 p.2 r.2.2))))
