def pm_cat (v : pmV) : Nat := match v with
  | .inr (.inl _) => 2
  | _ => 1
def pm_cats (st : List pmV) : Nat := (st.map pm_cat).sum
/-- the locals with which a method begins -/
def pm_sl (as : List pmV) : pmL := as.flatMap fun v => if pm_cat v = 2 then [some v, none] else [some v]
def pm_ent (n : Nat) (as : List pmV) : pmL := pm_sl as ++ List.replicate (n - (pm_sl as).length) none
/-- no argument is the script -/
def pm_noscr (as : List pmV) : Bool := as.all fun v => match v with
  | .inr (.inr (c, _, _)) => c != 11
  | _ => true
def pm_sw (x : Int32) : Int → List Int → Int → Int
  | _, [], d => d
  | lo, o :: r, d => if x = Int32.ofInt lo then o else pm_sw x (lo + 1) r d
def pm_lk (x : Int32) : List (Int × Int) → Int → Int
  | [], d => d
  | q :: r, d => if x = Int32.ofInt q.1 then q.2 else pm_lk x r d
/-- a jump -/
def pm_go (m pc : Nat) (off : Int) (ls : pmL) (st : List pmV) (σ : pmS) : Option (pmO ⊕ pmF) := if 0 ≤ (pc : Int) + off then some (.inr (m, ((pc : Int) + off).toNat, ls, st, σ)) else none
def pm_nx (m pc : Nat) (ls : pmL) (st : List pmV) (σ : pmS) : Option (pmO ⊕ pmF) := some (.inr (m, pc, ls, st, σ))
/-- the length of an array, the script's among them -/
def pm_len (σ : pmS) (c k : Nat) : Nat := if c = 11 then (σ.1 11 0 1 0).toNatClampNeg else match pm_ar c k with
  | some (n, _) => n
  | none => 0
def pm_kd (c k : Nat) : Nat := if c = 11 then 9 else match pm_ar c k with
  | some (_, d) => d
  | none => 99
def pm_b1 (m pc : Nat) (off : Int) (ls : pmL) (st : List pmV) (σ : pmS) (cd : ClassFile.Cond) (x y : Int32) : Option (pmO ⊕ pmF) := match cd with
  | .eq => if x = y then pm_go m pc off ls st σ else pm_nx m (pc + 3) ls st σ
  | .ne => if x = y then pm_nx m (pc + 3) ls st σ else pm_go m pc off ls st σ
  | .lt => if x < y then pm_go m pc off ls st σ else pm_nx m (pc + 3) ls st σ
  | .ge => if y ≤ x then pm_go m pc off ls st σ else pm_nx m (pc + 3) ls st σ
  | .gt => if y < x then pm_go m pc off ls st σ else pm_nx m (pc + 3) ls st σ
  | .le => if x ≤ y then pm_go m pc off ls st σ else pm_nx m (pc + 3) ls st σ
def pm_ld (m pc : Nat) (ls : pmL) (st : List pmV) (σ : pmS) (t k : Nat) : Option (pmO ⊕ pmF) := match ls[k]? with
  | some (some (.inl x)) => if t = 0 then pm_nx m pc ls (.inl x :: st) σ else none
  | some (some (.inr (.inl x))) => if t = 1 then pm_nx m pc ls (.inr (.inl x) :: st) σ else none
  | some (some (.inr (.inr x))) => if t = 2 then pm_nx m pc ls (.inr (.inr x) :: st) σ else none
  | _ => none
def pm_nolong (ls : pmL) (k : Nat) : Bool := match k with
  | 0 => true
  | k + 1 => match ls[k]? with
    | some (some (.inr (.inl _))) => false
    | _ => true
def pm_str (m pc : Nat) (ls : pmL) (st : List pmV) (σ : pmS) (t k : Nat) : Option (pmO ⊕ pmF) := match st with
  | .inl x :: st => if t = 0 ∧ k < ls.length ∧ pm_nl m k = true then pm_nx m pc (ls.set k (some (.inl x))) st σ else none
  | .inr (.inl x) :: st => if t = 1 ∧ k + 1 < ls.length ∧ pm_nl m k = true ∧ pm_lg m k = true then pm_nx m pc ((ls.set k (some (.inr (.inl x)))).set (k + 1) none) st σ else none
  | .inr (.inr x) :: st => if t = 2 ∧ k < ls.length ∧ pm_nl m k = true then pm_nx m pc (ls.set k (some (.inr (.inr x)))) st σ else none
  | [] => none
def pm_i2 (m pc : Nat) (ls : pmL) (st : List pmV) (σ : pmS) (f : Int32 → Int32 → Int32) : Option (pmO ⊕ pmF) := match st with
  | .inl y :: .inl x :: st => pm_nx m pc ls (.inl (f x y) :: st) σ
  | _ => none
def pm_l2 (m pc : Nat) (ls : pmL) (st : List pmV) (σ : pmS) (f : Int64 → Int64 → Int64) : Option (pmO ⊕ pmF) := match st with
  | .inr (.inl y) :: .inr (.inl x) :: st => pm_nx m pc ls (.inr (.inl (f x y)) :: st) σ
  | _ => none
def pm_ls2 (m pc : Nat) (ls : pmL) (st : List pmV) (σ : pmS) (f : Int64 → Int32 → Int64) : Option (pmO ⊕ pmF) := match st with
  | .inl y :: .inr (.inl x) :: st => pm_nx m pc ls (.inr (.inl (f x y)) :: st) σ
  | _ => none
def pm_d2 (m pc : Nat) (ls : pmL) (st : List pmV) (σ : pmS) (f : Int32 → Int32 → Int32) : Option (pmO ⊕ pmF) := match st with
  | .inl y :: .inl x :: st => if y = 0 then none else pm_nx m pc ls (.inl (f x y) :: st) σ
  | _ => none
def pm_inb (i : Int32) (n : Nat) : Bool := !(decide (i < 0) || decide (n ≤ i.toNatClampNeg))
/-- reading an array -/
def pm_ald (m pc : Nat) (ls : pmL) (st : List pmV) (σ : pmS) (t : Nat) : Option (pmO ⊕ pmF) := match st with
  | .inl i :: .inr (.inr (c, o, k + 1)) :: st => if pm_inb i (pm_len σ c k) = true then
      (match t with
        | 0 => if pm_kd c k = 0 then pm_nx m pc ls (.inl (σ.1 c o k i.toNatClampNeg) :: st) σ else if pm_kd c k = 9 ∧ k = 0 ∧ o = 0 then pm_nx m pc ls (.inl (σ.1 11 0 0 i.toNatClampNeg) :: st) σ else none
        | 1 => if pm_kd c k = 1 then pm_nx m pc ls (.inr (.inl (σ.2 c o k i.toNatClampNeg)) :: st) σ else none
        | 2 => if pm_kd c k = 2 then pm_nx m pc ls (.inl (σ.1 c o k i.toNatClampNeg) :: st) σ else none
        | _ => if pm_kd c k = 3 ∨ pm_kd c k = 5 then pm_nx m pc ls (.inr (.inr (pm_kd c k - 3, i.toNatClampNeg, 0)) :: st) σ else none)
    else none
  | _ => none
/-- writing an array -/
def pm_ast (m pc : Nat) (ls : pmL) (st : List pmV) (σ : pmS) (t : Nat) : Option (pmO ⊕ pmF) := match st with
  | .inl x :: .inl i :: .inr (.inr (c, o, k + 1)) :: st => if pm_inb i (pm_len σ c k) = true then
      (match t with
        | 0 => if pm_kd c k = 0 then pm_nx m pc ls st (pm_wi σ c o k i.toNatClampNeg x) else none
        | 2 => if pm_kd c k = 2 ∧ (x = 0 ∨ x = 1) then pm_nx m pc ls st (pm_wi σ c o k i.toNatClampNeg x) else none
        | _ => none)
    else none
  | .inr (.inl x) :: .inl i :: .inr (.inr (c, o, k + 1)) :: st => if pm_inb i (pm_len σ c k) = true then (if t = 1 ∧ pm_kd c k = 1 then pm_nx m pc ls st (pm_wl σ c o k i.toNatClampNeg x) else none) else none
  | _ => none
def pm_get (m pc : Nat) (ls : pmL) (st : List pmV) (σ : pmS) (idx : Nat) : Option (pmO ⊕ pmF) := match st with
  | .inr (.inr (c, o, 0)) :: st => (match pm_fl (pm_own m) idx with
    | some (c', k) => if c = c' then
        (match pm_fk c' k with
          | 0 => pm_nx m pc ls (.inl (σ.1 c' o k 0) :: st) σ
          | 1 => pm_nx m pc ls (.inr (.inl (σ.2 c' o k 0)) :: st) σ
          | 2 => pm_nx m pc ls (.inr (.inr (c', o, k + 1)) :: st) σ
          | t + 3 => pm_nx m pc ls (.inr (.inr (t, 0, 0)) :: st) σ)
        else none
    | none => none)
  | _ => none
def pm_put (m pc : Nat) (ls : pmL) (st : List pmV) (σ : pmS) (idx : Nat) : Option (pmO ⊕ pmF) := match st with
  | .inl x :: .inr (.inr (c, o, 0)) :: st => (match pm_fl (pm_own m) idx with
    | some (c', k) => if c = c' ∧ pm_fk c' k = 0 then pm_nx m pc ls st (pm_wi σ c' o k 0 x) else none
    | none => none)
  | .inr (.inl x) :: .inr (.inr (c, o, 0)) :: st => (match pm_fl (pm_own m) idx with
    | some (c', k) => if c = c' ∧ pm_fk c' k = 1 then pm_nx m pc ls st (pm_wl σ c' o k 0 x) else none
    | none => none)
  | _ => none
/-- a receiver of the callee's class -/
def pm_rcv (cm : Nat) (as : List pmV) : Bool := match as with
  | .inr (.inr (c, _, 0)) :: _ => c == pm_own cm
  | _ => false
def pm_call (C : pmC) (m pc : Nat) (ls : pmL) (st : List pmV) (σ : pmS) (idx vt : Nat) : Option (pmO ⊕ pmF) := match pm_cl (pm_own m) idx with
  | some cm => if pm_na cm ≤ st.length ∧ pm_vt cm = vt ∧ pm_cats (st.drop (pm_na cm)) ≤ 8 ∧ pm_noscr ((st.take (pm_na cm)).reverse) = true ∧ (vt = 0 ∨ pm_rcv cm ((st.take (pm_na cm)).reverse) = true) then
      (C cm ((st.take (pm_na cm)).reverse) σ).bind fun x => pm_nx m pc ls (x.1.toList ++ st.drop (pm_na cm)) x.2
      else none
  | none => none
def pm_copy (m pc : Nat) (ls : pmL) (st : List pmV) (σ : pmS) : Option (pmO ⊕ pmF) := match st with
  | .inl n :: .inl dp :: .inr (.inr (c1, o1, k1 + 1)) :: .inl sp :: .inr (.inr (c0, o0, k0 + 1)) :: st =>
      if pm_kd c0 k0 = 0 ∧ pm_kd c1 k1 = 0 ∧ ¬ sp < 0 ∧ ¬ dp < 0 ∧ ¬ n < 0 ∧ sp.toNatClampNeg + n.toNatClampNeg ≤ pm_len σ c0 k0 ∧ dp.toNatClampNeg + n.toNatClampNeg ≤ pm_len σ c1 k1 ∧ pm_cats st ≤ 8 then
        pm_nx m pc ls st (pm_wr σ c1 o1 k1 (va_cpy (σ.1 c0 o0 k0) (σ.1 c1 o1 k1) sp.toNatClampNeg dp.toNatClampNeg n.toNatClampNeg))
      else none
  | _ => none
def pm_min (m pc : Nat) (ls : pmL) (st : List pmV) (σ : pmS) : Option (pmO ⊕ pmF) := match st with
  | .inl y :: .inl x :: st => if pm_cats st ≤ 8 then pm_nx m pc ls (.inl (if y < x then y else x) :: st) σ else none
  | _ => none
def pm_rt (m : Nat) (st : List pmV) (σ : pmS) : Option (pmO ⊕ pmF) := match st with
  | [.inl x] => if pm_ret m = some .int then some (.inl (some (.inl x), σ)) else if pm_ret m = some .boolean ∧ (x = 0 ∨ x = 1) then some (.inl (some (.inl x), σ)) else none
  | _ => none
def pm_art (m : Nat) (st : List pmV) (σ : pmS) : Option (pmO ⊕ pmF) := match st with
  | [.inr (.inr r)] => if pm_ret m = some (.object RX2) then some (.inl (some (.inr (.inr r)), σ)) else none
  | _ => none
def pm_vrt (m : Nat) (st : List pmV) (σ : pmS) : Option (pmO ⊕ pmF) := match st with
  | [] => if pm_ret m = none then some (.inl (none, σ)) else none
  | _ => none
def pm_dup (m pc : Nat) (ls : pmL) (st : List pmV) (σ : pmS) (t : Nat) : Option (pmO ⊕ pmF) := match st with
  | [] => none
  | v :: st => if pm_cat v = 1 then
      (match t with
        | 0 => pm_nx m pc ls (v :: v :: st) σ
        | 1 => pm_nx m pc ls st σ
        | _ => (match st with
          | [] => none
          | w :: st => if pm_cat w = 1 then pm_nx m pc ls (v :: w :: v :: w :: st) σ else none))
      else none
def pm_ex (C : pmC) (m pc n : Nat) (ls : pmL) (st : List pmV) (σ : pmS) (i : Instr) : Option (pmO ⊕ pmF) := match i with
  | .iconst k => pm_nx m (pc + n) ls (.inl (Int32.ofInt k) :: st) σ
  | .bipush k => pm_nx m (pc + n) ls (.inl (Int8.ofInt k).toInt32 :: st) σ
  | .sipush k => pm_nx m (pc + n) ls (.inl (Int16.ofInt k).toInt32 :: st) σ
  | .lconst k => pm_nx m (pc + n) ls (.inr (.inl (Int64.ofNat (k : Nat))) :: st) σ
  | .ldc k => (match pm_ci (pm_own m) k with
    | some v => pm_nx m (pc + n) ls (.inl v :: st) σ
    | none => none)
  | .ldc_w k => (match pm_ci (pm_own m) k with
    | some v => pm_nx m (pc + n) ls (.inl v :: st) σ
    | none => none)
  | .ldc2_w k => (match pm_cL (pm_own m) k with
    | some v => pm_nx m (pc + n) ls (.inr (.inl v) :: st) σ
    | none => none)
  | .iload_n k => pm_ld m (pc + n) ls st σ 0 k
  | .iload k => pm_ld m (pc + n) ls st σ 0 k
  | .lload_n k => pm_ld m (pc + n) ls st σ 1 k
  | .lload k => pm_ld m (pc + n) ls st σ 1 k
  | .aload_n k => pm_ld m (pc + n) ls st σ 2 k
  | .aload k => pm_ld m (pc + n) ls st σ 2 k
  | .istore_n k => pm_str m (pc + n) ls st σ 0 k
  | .istore k => pm_str m (pc + n) ls st σ 0 k
  | .lstore_n k => pm_str m (pc + n) ls st σ 1 k
  | .lstore k => pm_str m (pc + n) ls st σ 1 k
  | .astore_n k => pm_str m (pc + n) ls st σ 2 k
  | .astore k => pm_str m (pc + n) ls st σ 2 k
  | .iinc k d => (match ls[k]? with
    | some (some (.inl x)) => if k < ls.length ∧ pm_nl m k = true then pm_nx m (pc + n) (ls.set k (some (.inl (x + Int32.ofInt d)))) st σ else none
    | _ => none)
  | .iadd => pm_i2 m (pc + n) ls st σ (fun x y => x + y)
  | .isub => pm_i2 m (pc + n) ls st σ (fun x y => x - y)
  | .imul => pm_i2 m (pc + n) ls st σ (fun x y => x * y)
  | .iand => pm_i2 m (pc + n) ls st σ (fun x y => x &&& y)
  | .ior => pm_i2 m (pc + n) ls st σ (fun x y => x ||| y)
  | .ixor => pm_i2 m (pc + n) ls st σ (fun x y => x ^^^ y)
  | .ishl => pm_i2 m (pc + n) ls st σ (fun x y => x <<< (y &&& 31))
  | .ishr => pm_i2 m (pc + n) ls st σ (fun x y => x >>> (y &&& 31))
  | .iushr => pm_i2 m (pc + n) ls st σ (fun x y => (x.toUInt32 >>> (y.toUInt32 &&& Int32.toUInt32 31)).toInt32)
  | .idiv => pm_d2 m (pc + n) ls st σ (fun x y => x / y)
  | .irem => pm_d2 m (pc + n) ls st σ (fun x y => x - x / y * y)
  | .ladd => pm_l2 m (pc + n) ls st σ (fun x y => x + y)
  | .lsub => pm_l2 m (pc + n) ls st σ (fun x y => x - y)
  | .land => pm_l2 m (pc + n) ls st σ (fun x y => x &&& y)
  | .lor => pm_l2 m (pc + n) ls st σ (fun x y => x ||| y)
  | .lxor => pm_l2 m (pc + n) ls st σ (fun x y => x ^^^ y)
  | .lshl => pm_ls2 m (pc + n) ls st σ (fun x y => x <<< (y.toInt64 &&& 63))
  | .lshr => pm_ls2 m (pc + n) ls st σ (fun x y => x >>> (y.toInt64 &&& 63))
  | .lushr => pm_ls2 m (pc + n) ls st σ (fun x y => (x.toUInt64 >>> (y.toInt64.toUInt64 &&& Int64.toUInt64 63)).toInt64)
  | .lcmp => (match st with
    | .inr (.inl y) :: .inr (.inl x) :: st => pm_nx m (pc + n) ls (.inl (lg_cmp x y) :: st) σ
    | _ => none)
  | .i2l => (match st with
    | .inl x :: st => pm_nx m (pc + n) ls (.inr (.inl x.toInt64) :: st) σ
    | _ => none)
  | .l2i => (match st with
    | .inr (.inl x) :: st => pm_nx m (pc + n) ls (.inl x.toInt32 :: st) σ
    | _ => none)
  | .dup => pm_dup m (pc + n) ls st σ 0
  | .pop => pm_dup m (pc + n) ls st σ 1
  | .dup2 => pm_dup m (pc + n) ls st σ 2
  | .goto off => pm_go m pc off ls st σ
  | .ifCond cd off => (match st with
    | .inl x :: st => if 0 ≤ (pc : Int) + off then pm_b1 m pc off ls st σ cd x 0 else none
    | _ => none)
  | .if_icmp cd off => (match st with
    | .inl y :: .inl x :: st => if 0 ≤ (pc : Int) + off then pm_b1 m pc off ls st σ cd x y else none
    | _ => none)
  | .tableswitch d lo hi offs => (match st with
    | .inl x :: st => if hi = lo + (offs.size : Int) - 1 ∧ 0 ≤ lo ∧ hi < 1000 then pm_go m pc (pm_sw x lo offs.toList d) ls st σ else none
    | _ => none)
  | .lookupswitch d ps => (match st with
    | .inl x :: st => if (ps.toList.zip (ps.toList.drop 1)).all (fun (a, next) => a.1 < next.1) = true ∧ ps.toList.all (fun q => decide (0 ≤ q.1 ∧ q.1 < 1000)) = true then pm_go m pc (pm_lk x ps.toList d) ls st σ else none
    | _ => none)
  | .iaload => pm_ald m (pc + n) ls st σ 0
  | .laload => pm_ald m (pc + n) ls st σ 1
  | .baload => pm_ald m (pc + n) ls st σ 2
  | .aaload => pm_ald m (pc + n) ls st σ 3
  | .iastore => pm_ast m (pc + n) ls st σ 0
  | .lastore => pm_ast m (pc + n) ls st σ 1
  | .bastore => pm_ast m (pc + n) ls st σ 2
  | .arraylength => (match st with
    | .inr (.inr (c, o, k + 1)) :: st => if pm_kd c k < 9 ∨ pm_kd c k = 9 ∧ k = 0 ∧ o = 0 then pm_nx m (pc + n) ls (.inl (if c = 11 then σ.1 11 0 1 0 else nI (pm_len σ c k)) :: st) σ else none
    | _ => none)
  | .getfield k => pm_get m (pc + n) ls st σ k
  | .putfield k => pm_put m (pc + n) ls st σ k
  | .invokevirtual k => pm_call C m (pc + n) ls st σ k 1
  | .invokestatic k => if pm_isnat (pm_own m) k = true then pm_copy m (pc + n) ls st σ else if pm_ismin (pm_own m) k = true then pm_min m (pc + n) ls st σ else pm_call C m (pc + n) ls st σ k 0
  | .ireturn => pm_rt m st σ
  | .areturn => pm_art m st σ
  | .return_ => pm_vrt m st σ
  | _ => none
/-- an instruction's length -/
def pm_il (i : Instr) (n : Nat) : Bool := match i with
  | .bipush _ | .ldc _ | .iload _ | .lload _ | .aload _ | .istore _ | .lstore _ | .astore _ => n == 2
  | .sipush _ | .ldc_w _ | .ldc2_w _ | .iinc _ _ | .goto _ | .ifCond _ _ | .if_icmp _ _ | .getfield _ | .putfield _ | .invokevirtual _ | .invokestatic _ => n == 3
  | .tableswitch _ _ _ _ | .lookupswitch _ _ => true
  | _ => n == 1
def pm_stp (C : pmC) (fr : pmF) : Option (pmO ⊕ pmF) := match pm_ins fr.1 fr.2.1 with
  | some (i, n) => if pm_il i n = true then pm_ex C fr.1 fr.2.1 n fr.2.2.1 fr.2.2.2.1 fr.2.2.2.2 i else none
  | none => none
def pm_itr (C : pmC) : Nat → pmF → Option pmO
  | 0, _ => none
  | n + 1, fr => match pm_stp C fr with
    | none => none
    | some (.inl r) => some r
    | some (.inr fr') => pm_itr C n fr'
theorem pm_itr_succ {C : pmC} : ∀ {n : Nat} {fr : pmF} {r : pmO}, pm_itr C n fr = some r → pm_itr C (n + 1) fr = some r
  | 0, fr, r, h => by cases h
  | n + 1, fr, r, h => by
    rw [pm_itr] at h ⊢
    cases hs : pm_stp C fr with
    | none => rw [hs] at h; cases h
    | some x =>
      rw [hs] at h
      cases x with
      | inl r' => exact h
      | inr fr' => exact pm_itr_succ h
theorem pm_itr_mono {C : pmC} {n : Nat} {fr : pmF} {r : pmO} (h : pm_itr C n fr = some r) : ∀ k, pm_itr C (n + k) fr = some r
  | 0 => h
  | k + 1 => pm_itr_succ (pm_itr_mono h k)
theorem pm_itr_one {C : pmC} {n k : Nat} {fr : pmF} {r r' : pmO} (h : pm_itr C n fr = some r) (h' : pm_itr C k fr = some r') : r = r' := by
  have h1 := pm_itr_mono h k
  have h2 := pm_itr_mono h' n
  rw [Nat.add_comm k n, h1] at h2
  exact Option.some.inj h2
noncomputable def pm_Rn (C : pmC) (fr : pmF) : Option pmO := @dite _ (∃ (n : Nat) (r : pmO), pm_itr C n fr = some r) (Classical.propDecidable _) (fun h => some (Classical.choose (Classical.choose_spec h))) (fun _ => none)
theorem pm_Rn_some {C : pmC} {fr : pmF} {r : pmO} : pm_Rn C fr = some r ↔ ∃ n, pm_itr C n fr = some r := by
  unfold pm_Rn
  constructor
  · intro h
    split at h
    next hh =>
      have h2 := Classical.choose_spec (Classical.choose_spec hh)
      cases h
      exact ⟨_, h2⟩
    next => cases h
  · intro ⟨n, h⟩
    have hh : ∃ (n : Nat) (r : pmO), pm_itr C n fr = some r := ⟨n, r, h⟩
    rw [dif_pos hh]
    exact congrArg some (pm_itr_one (Classical.choose_spec (Classical.choose_spec hh)) h)
theorem pm_Rn_eq (C : pmC) (fr : pmF) : pm_Rn C fr = match pm_stp C fr with
    | none => none
    | some (.inl r) => some r
    | some (.inr fr') => pm_Rn C fr' := by
  apply Option.ext
  intro r
  rw [pm_Rn_some]
  cases hs : pm_stp C fr with
  | none =>
    constructor
    · intro ⟨n, h⟩
      cases n with
      | zero => cases h
      | succ n => rw [pm_itr, hs] at h; cases h
    · intro h; cases h
  | some x =>
    cases x with
    | inl r' =>
      constructor
      · intro ⟨n, h⟩
        cases n with
        | zero => cases h
        | succ n => rw [pm_itr, hs] at h; exact h
      · intro h
        exact ⟨1, by rw [pm_itr, hs]; exact h⟩
    | inr fr' =>
      show _ ↔ pm_Rn C fr' = some r
      rw [pm_Rn_some]
      constructor
      · intro ⟨n, h⟩
        cases n with
        | zero => cases h
        | succ n => rw [pm_itr, hs] at h; exact ⟨n, h⟩
      · intro ⟨n, h⟩
        exact ⟨n + 1, by rw [pm_itr, hs]; exact h⟩
/-- longs among the first locals lie where the method has them -/
def pm_lg1 (m i : Nat) (v : Option pmV) : Bool := match v with
  | some (.inr (.inl _)) => pm_lg m i
  | _ => true
def pm_lge (m : Nat) : Nat → pmL → Bool
  | _, [] => true
  | i, v :: r => pm_lg1 m i v && pm_lge m (i + 1) r
/-- calls, at most d deep -/
noncomputable def pm_RD : Nat → pmC
  | 0 => fun _ _ _ => none
  | d + 1 => fun m as σ => if (pm_sl as).length ≤ pm_mx m ∧ pm_lge m 0 (pm_sl as) = true then pm_Rn (pm_RD d) (m, 0, pm_ent (pm_mx m) as, [], σ) else none
