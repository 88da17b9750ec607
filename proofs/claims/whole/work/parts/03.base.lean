/-! the pure machine: bytecode over a typed store -/
/-- a reference: class, object, 0 (the object itself) or field + 1 (the array in that field) -/
abbrev pmR : Type := Nat × Nat × Nat
abbrev pmV : Type := Int32 ⊕ (Int64 ⊕ pmR)
/-- the store: ints (fields at place 0, arrays by place) and longs, by class, object, field, place -/
abbrev pmS : Type := (Nat → Nat → Nat → Nat → Int32) × (Nat → Nat → Nat → Nat → Int64)
abbrev pmL : Type := List (Option pmV)
/-- method, pc, locals, stack, store -/
abbrev pmF : Type := Nat × Nat × pmL × List pmV × pmS
abbrev pmO : Type := Option pmV × pmS
abbrev pmC : Type := Nat → List pmV → pmS → Option pmO
abbrev vI (x : Int32) : pmV := .inl x
abbrev vL (x : Int64) : pmV := .inr (.inl x)
abbrev vR (c o k : Nat) : pmV := .inr (.inr (c, o, k))
def pm_u4 {α : Type} (f : Nat → Nat → Nat → Nat → α) (c o k i : Nat) (v : α) : Nat → Nat → Nat → Nat → α := fun c' o' k' i' => if c' = c ∧ o' = o ∧ k' = k ∧ i' = i then v else f c' o' k' i'
def pm_wi (σ : pmS) (c o k i : Nat) (v : Int32) : pmS := (pm_u4 σ.1 c o k i v, σ.2)
def pm_wl (σ : pmS) (c o k i : Nat) (v : Int64) : pmS := (σ.1, pm_u4 σ.2 c o k i v)
/-- a row of ints replaced whole -/
def pm_wr (σ : pmS) (c o k : Nat) (f : Nat → Int32) : pmS := (fun c' o' k' i' => if c' = c ∧ o' = o ∧ k' = k then f i' else σ.1 c' o' k' i', σ.2)
def pm_ins (m pc : Nat) : Option (Instr × Nat) := (pm_codes.getD m []).lookup pc
def pm_own (m : Nat) : Nat := pm_owns.getD m 0
def pm_mx (m : Nat) : Nat := pm_mxs.getD m 0
def pm_ret (m : Nat) : Option FieldType := pm_rets.getD m none
def pm_vt (m : Nat) : Nat := pm_vts.getD m 0
def pm_na (m : Nat) : Nat := pm_nas.getD m 0
def pm_fl (own idx : Nat) : Option (Nat × Nat) := if idx < 1000 then pm_fls.lookup (1000 * own + idx) else none
def pm_cl (own idx : Nat) : Option Nat := if idx < 1000 then pm_cls.lookup (1000 * own + idx) else none
def pm_isnat (own idx : Nat) : Bool := decide (idx < 1000) && pm_nats.contains (1000 * own + idx)
def pm_ismin (own idx : Nat) : Bool := decide (idx < 1000) && pm_mins.contains (1000 * own + idx)
def pm_ci (own idx : Nat) : Option Int32 := if idx < 1000 then pm_cis.lookup (1000 * own + idx) else none
def pm_cL (own idx : Nat) : Option Int64 := if idx < 1000 then pm_cLs.lookup (1000 * own + idx) else none
def pm_fk (c k : Nat) : Nat := (pm_fks.getD c []).getD k 99
def pm_ar (c k : Nat) : Option (Nat × Nat) := if k < 100 then pm_ars.lookup (100 * c + k) else none
def pm_lg (m k : Nat) : Bool := (pm_lgs.getD m []).contains k
/-- no long lies just ahead of a place -/
def pm_nl (m k : Nat) : Bool := match k with
  | 0 => true
  | k + 1 => !pm_lg m k
