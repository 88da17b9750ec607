/-! the fast machine: the pure machine with its tables looked up beforehand -/
def pq_len (σ : pmS) (c k : Nat) : Nat := bif Nat.beq c 11 then (σ.1 11 0 1 0).toNatClampNeg else pq_ln c k
/-- what a row of the fast tables must be -/
def pq_ok1 (m pc : Nat) (x : pqX) : Bool := decide (pm_ins m pc = some (x.1, x.2.1)) && pm_il x.1 x.2.1 && (match x.1 with
  | .ldc k => decide (pm_ci (pm_own m) k = some (Int32.ofInt x.2.2.2.2.2))
  | .ldc_w k => decide (pm_ci (pm_own m) k = some (Int32.ofInt x.2.2.2.2.2))
  | .ldc2_w k => decide (pm_cL (pm_own m) k = some (Int64.ofInt x.2.2.2.2.2))
  | .getfield k => decide (pm_fl (pm_own m) k = some (x.2.2.1, x.2.2.2.1)) && decide (pm_fk x.2.2.1 x.2.2.2.1 = x.2.2.2.2.1)
  | .putfield k => decide (pm_fl (pm_own m) k = some (x.2.2.1, x.2.2.2.1)) && decide (pm_fk x.2.2.1 x.2.2.2.1 = x.2.2.2.2.1)
  | .invokevirtual k => decide (pm_cl (pm_own m) k = some x.2.2.1) && decide (pm_na x.2.2.1 = x.2.2.2.1) && decide (pm_vt x.2.2.1 = 1) && decide (pm_own x.2.2.1 = x.2.2.2.2.1)
  | .invokestatic k => if x.2.2.2.2.1 = 97 then pm_isnat (pm_own m) k else if x.2.2.2.2.1 = 98 then !pm_isnat (pm_own m) k && pm_ismin (pm_own m) k else !pm_isnat (pm_own m) k && !pm_ismin (pm_own m) k && decide (pm_cl (pm_own m) k = some x.2.2.1) && decide (pm_na x.2.2.1 = x.2.2.2.1) && decide (pm_vt x.2.2.1 = 0)
  | .istore_n k => pm_nl m k
  | .istore k => pm_nl m k
  | .astore_n k => pm_nl m k
  | .astore k => pm_nl m k
  | .lstore_n k => pm_nl m k && pm_lg m k
  | .lstore k => pm_nl m k && pm_lg m k
  | .iinc k _ => pm_nl m k
  | .ireturn => if x.2.2.2.2.1 = 1 then decide (pm_ret m = some .int) else decide (pm_ret m = some .boolean)
  | .areturn => decide (pm_ret m = some (.object RX2))
  | .return_ => decide (pm_ret m = none)
  | _ => true)
def pq_okm (m : Nat) : Bool := (List.range (pq_lims.getD m 0)).all (fun pc => match pq_ins m pc with
  | some x => pq_ok1 m pc x
  | none => true)
