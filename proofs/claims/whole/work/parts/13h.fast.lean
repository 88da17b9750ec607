/-! the fast machine, and that the pure machine follows it -/
def pq_ald (m pc : Nat) (ls : pmL) (st : List pmV) (σ : pmS) (t : Nat) : Option (pmO ⊕ pmF) := match st with
  | .inl i :: .inr (.inr (c, o, k + 1)) :: st => if pm_inb i (pq_len σ c k) = true then
      (match t with
        | 0 => (match pq_kd c k with
          | 0 => pm_nx m pc ls (.inl (σ.1 c o k i.toNatClampNeg) :: st) σ
          | 9 => (match k, o with
            | 0, 0 => pm_nx m pc ls (.inl (σ.1 11 0 0 i.toNatClampNeg) :: st) σ
            | _, _ => none)
          | _ => none)
        | 1 => (match pq_kd c k with
          | 1 => pm_nx m pc ls (.inr (.inl (σ.2 c o k i.toNatClampNeg)) :: st) σ
          | _ => none)
        | 2 => (match pq_kd c k with
          | 2 => pm_nx m pc ls (.inl (σ.1 c o k i.toNatClampNeg) :: st) σ
          | _ => none)
        | _ => (match pq_kd c k with
          | 3 => pm_nx m pc ls (.inr (.inr (0, i.toNatClampNeg, 0)) :: st) σ
          | 5 => pm_nx m pc ls (.inr (.inr (2, i.toNatClampNeg, 0)) :: st) σ
          | _ => none))
    else none
  | _ => none
def pq_ast (m pc : Nat) (ls : pmL) (st : List pmV) (σ : pmS) (t : Nat) : Option (pmO ⊕ pmF) := match st with
  | .inl x :: .inl i :: .inr (.inr (c, o, k + 1)) :: st => if pm_inb i (pq_len σ c k) = true then
      (match t with
        | 0 => (match pq_kd c k with
          | 0 => pm_nx m pc ls st (pm_wi σ c o k i.toNatClampNeg x)
          | _ => none)
        | 2 => if pq_kd c k = 2 ∧ (x = 0 ∨ x = 1) then pm_nx m pc ls st (pm_wi σ c o k i.toNatClampNeg x) else none
        | _ => none)
    else none
  | .inr (.inl x) :: .inl i :: .inr (.inr (c, o, k + 1)) :: st => if pm_inb i (pq_len σ c k) = true then (match t, pq_kd c k with
      | 1, 1 => pm_nx m pc ls st (pm_wl σ c o k i.toNatClampNeg x)
      | _, _ => none) else none
  | _ => none
def pq_get (m pc : Nat) (ls : pmL) (st : List pmV) (σ : pmS) (c' k kd : Nat) : Option (pmO ⊕ pmF) := match st with
  | .inr (.inr (c, o, 0)) :: st => bif Nat.beq c c' then
        (match kd with
          | 0 => pm_nx m pc ls (.inl (σ.1 c' o k 0) :: st) σ
          | 1 => pm_nx m pc ls (.inr (.inl (σ.2 c' o k 0)) :: st) σ
          | 2 => pm_nx m pc ls (.inr (.inr (c', o, k + 1)) :: st) σ
          | t + 3 => pm_nx m pc ls (.inr (.inr (t, 0, 0)) :: st) σ)
        else none
  | _ => none
def pq_put (m pc : Nat) (ls : pmL) (st : List pmV) (σ : pmS) (c' k kd : Nat) : Option (pmO ⊕ pmF) := match st with
  | .inl x :: .inr (.inr (c, o, 0)) :: st => bif Nat.beq c c' then (match kd with
      | 0 => pm_nx m pc ls st (pm_wi σ c' o k 0 x)
      | _ => none) else none
  | .inr (.inl x) :: .inr (.inr (c, o, 0)) :: st => bif Nat.beq c c' then (match kd with
      | 1 => pm_nx m pc ls st (pm_wl σ c' o k 0 x)
      | _ => none) else none
  | _ => none
def pq_rcv (cl : Nat) (as : List pmV) : Bool := match as with
  | .inr (.inr (c, _, 0)) :: _ => Nat.beq c cl
  | _ => false
def pq_call (C : pmC) (m pc : Nat) (ls : pmL) (st : List pmV) (σ : pmS) (cm na : Nat) (rc : List pmV → Bool) : Option (pmO ⊕ pmF) :=
  bif Nat.ble na st.length && (Nat.ble (pm_cats (st.drop na)) 8 && (pm_noscr ((st.take na).reverse) && rc ((st.take na).reverse))) then
    (C cm ((st.take na).reverse) σ).bind fun x => pm_nx m pc ls (x.1.toList ++ st.drop na) x.2
  else none
def pq_copy (m pc : Nat) (ls : pmL) (st : List pmV) (σ : pmS) : Option (pmO ⊕ pmF) := match st with
  | .inl n :: .inl dp :: .inr (.inr (c1, o1, k1 + 1)) :: .inl sp :: .inr (.inr (c0, o0, k0 + 1)) :: st =>
      if pq_kd c0 k0 = 0 ∧ pq_kd c1 k1 = 0 ∧ ¬ sp < 0 ∧ ¬ dp < 0 ∧ ¬ n < 0 ∧ sp.toNatClampNeg + n.toNatClampNeg ≤ pq_len σ c0 k0 ∧ dp.toNatClampNeg + n.toNatClampNeg ≤ pq_len σ c1 k1 ∧ pm_cats st ≤ 8 then
        pm_nx m pc ls st (pm_wr σ c1 o1 k1 (va_cpy (σ.1 c0 o0 k0) (σ.1 c1 o1 k1) sp.toNatClampNeg dp.toNatClampNeg n.toNatClampNeg))
      else none
  | _ => none
def pq_rt (m : Nat) (st : List pmV) (σ : pmS) (kd : Nat) : Option (pmO ⊕ pmF) := match st with
  | [.inl x] => bif Nat.beq kd 1 then some (.inl (some (.inl x), σ)) else if kd = 2 ∧ (x = 0 ∨ x = 1) then some (.inl (some (.inl x), σ)) else none
  | _ => none
def pq_art (st : List pmV) (σ : pmS) : Option (pmO ⊕ pmF) := match st with
  | [.inr (.inr r)] => some (.inl (some (.inr (.inr r)), σ))
  | _ => none
def pq_vrt (st : List pmV) (σ : pmS) : Option (pmO ⊕ pmF) := match st with
  | [] => some (.inl (none, σ))
  | _ => none
def pq_str (m pc : Nat) (ls : pmL) (st : List pmV) (σ : pmS) (t k : Nat) : Option (pmO ⊕ pmF) := match st with
  | .inl x :: st => bif Nat.beq t 0 && Nat.blt k ls.length then pm_nx m pc (ls.set k (some (.inl x))) st σ else none
  | .inr (.inl x) :: st => bif Nat.beq t 1 && Nat.blt (k + 1) ls.length then pm_nx m pc ((ls.set k (some (.inr (.inl x)))).set (k + 1) none) st σ else none
  | .inr (.inr x) :: st => bif Nat.beq t 2 && Nat.blt k ls.length then pm_nx m pc (ls.set k (some (.inr (.inr x)))) st σ else none
  | [] => none
def pq_ex (C : pmC) (m pc n : Nat) (ls : pmL) (st : List pmV) (σ : pmS) (i : Instr) (a b e : Nat) (z : Int) : Option (pmO ⊕ pmF) := match i with
  | .ldc _ => pm_nx m (pc + n) ls (.inl (Int32.ofInt z) :: st) σ
  | .ldc_w _ => pm_nx m (pc + n) ls (.inl (Int32.ofInt z) :: st) σ
  | .ldc2_w _ => pm_nx m (pc + n) ls (.inr (.inl (Int64.ofInt z)) :: st) σ
  | .istore_n k => pq_str m (pc + n) ls st σ 0 k
  | .istore k => pq_str m (pc + n) ls st σ 0 k
  | .lstore_n k => pq_str m (pc + n) ls st σ 1 k
  | .lstore k => pq_str m (pc + n) ls st σ 1 k
  | .astore_n k => pq_str m (pc + n) ls st σ 2 k
  | .astore k => pq_str m (pc + n) ls st σ 2 k
  | .iinc k d => (match ls[k]? with
    | some (some (.inl x)) => pm_nx m (pc + n) (ls.set k (some (.inl (x + Int32.ofInt d)))) st σ
    | _ => none)
  | .iaload => pq_ald m (pc + n) ls st σ 0
  | .laload => pq_ald m (pc + n) ls st σ 1
  | .baload => pq_ald m (pc + n) ls st σ 2
  | .aaload => pq_ald m (pc + n) ls st σ 3
  | .iastore => pq_ast m (pc + n) ls st σ 0
  | .lastore => pq_ast m (pc + n) ls st σ 1
  | .bastore => pq_ast m (pc + n) ls st σ 2
  | .arraylength => (match st with
    | .inr (.inr (c, o, k + 1)) :: st => bif Nat.blt (pq_kd c k) 9 || (Nat.beq (pq_kd c k) 9 && (Nat.beq k 0 && Nat.beq o 0)) then pm_nx m (pc + n) ls (.inl (if c = 11 then σ.1 11 0 1 0 else nI (pq_len σ c k)) :: st) σ else none
    | _ => none)
  | .getfield _ => pq_get m (pc + n) ls st σ a b e
  | .putfield _ => pq_put m (pc + n) ls st σ a b e
  | .invokevirtual _ => pq_call C m (pc + n) ls st σ a b (pq_rcv e)
  | .invokestatic _ => bif Nat.beq e 97 then pq_copy m (pc + n) ls st σ else bif Nat.beq e 98 then pm_min m (pc + n) ls st σ else pq_call C m (pc + n) ls st σ a b (fun _ => true)
  | .ireturn => pq_rt m st σ e
  | .areturn => pq_art st σ
  | .return_ => pq_vrt st σ
  | i => pm_ex C m pc n ls st σ i
def pq_lim (m : Nat) : Nat := bif Nat.blt m 184 then (bif Nat.blt m 92 then (bif Nat.blt m 46 then (bif Nat.blt m 23 then (bif Nat.blt m 11 then (bif Nat.blt m 5 then (bif Nat.blt m 2 then (bif Nat.blt m 1 then 65 else 30) else (bif Nat.blt m 3 then 47 else (bif Nat.blt m 4 then 21 else 38))) else (bif Nat.blt m 8 then (bif Nat.blt m 6 then 37 else (bif Nat.blt m 7 then 45 else 26)) else (bif Nat.blt m 9 then 53 else (bif Nat.blt m 10 then 18 else 31)))) else (bif Nat.blt m 17 then (bif Nat.blt m 14 then (bif Nat.blt m 12 then 115 else (bif Nat.blt m 13 then 48 else 116)) else (bif Nat.blt m 15 then 133 else (bif Nat.blt m 16 then 144 else 27))) else (bif Nat.blt m 20 then (bif Nat.blt m 18 then 13 else (bif Nat.blt m 19 then 46 else 16)) else (bif Nat.blt m 21 then 72 else (bif Nat.blt m 22 then 139 else 30))))) else (bif Nat.blt m 34 then (bif Nat.blt m 28 then (bif Nat.blt m 25 then (bif Nat.blt m 24 then 49 else 15) else (bif Nat.blt m 26 then 74 else (bif Nat.blt m 27 then 118 else 132))) else (bif Nat.blt m 31 then (bif Nat.blt m 29 then 31 else (bif Nat.blt m 30 then 174 else 74)) else (bif Nat.blt m 32 then 91 else (bif Nat.blt m 33 then 18 else 16)))) else (bif Nat.blt m 40 then (bif Nat.blt m 37 then (bif Nat.blt m 35 then 36 else (bif Nat.blt m 36 then 26 else 64)) else (bif Nat.blt m 38 then 41 else (bif Nat.blt m 39 then 31 else 33))) else (bif Nat.blt m 43 then (bif Nat.blt m 41 then 62 else (bif Nat.blt m 42 then 69 else 54)) else (bif Nat.blt m 44 then 65 else (bif Nat.blt m 45 then 127 else 43)))))) else (bif Nat.blt m 69 then (bif Nat.blt m 57 then (bif Nat.blt m 51 then (bif Nat.blt m 48 then (bif Nat.blt m 47 then 51 else 97) else (bif Nat.blt m 49 then 25 else (bif Nat.blt m 50 then 38 else 93))) else (bif Nat.blt m 54 then (bif Nat.blt m 52 then 53 else (bif Nat.blt m 53 then 44 else 82)) else (bif Nat.blt m 55 then 39 else (bif Nat.blt m 56 then 90 else 46)))) else (bif Nat.blt m 63 then (bif Nat.blt m 60 then (bif Nat.blt m 58 then 96 else (bif Nat.blt m 59 then 42 else 89)) else (bif Nat.blt m 61 then 57 else (bif Nat.blt m 62 then 36 else 26))) else (bif Nat.blt m 66 then (bif Nat.blt m 64 then 47 else (bif Nat.blt m 65 then 77 else 66)) else (bif Nat.blt m 67 then 100 else (bif Nat.blt m 68 then 98 else 149))))) else (bif Nat.blt m 80 then (bif Nat.blt m 74 then (bif Nat.blt m 71 then (bif Nat.blt m 70 then 64 else 25) else (bif Nat.blt m 72 then 59 else (bif Nat.blt m 73 then 117 else 164))) else (bif Nat.blt m 77 then (bif Nat.blt m 75 then 29 else (bif Nat.blt m 76 then 68 else 109)) else (bif Nat.blt m 78 then 111 else (bif Nat.blt m 79 then 72 else 25)))) else (bif Nat.blt m 86 then (bif Nat.blt m 83 then (bif Nat.blt m 81 then 46 else (bif Nat.blt m 82 then 62 else 29)) else (bif Nat.blt m 84 then 34 else (bif Nat.blt m 85 then 52 else 105))) else (bif Nat.blt m 89 then (bif Nat.blt m 87 then 18 else (bif Nat.blt m 88 then 27 else 18)) else (bif Nat.blt m 90 then 15 else (bif Nat.blt m 91 then 17 else 54))))))) else (bif Nat.blt m 138 then (bif Nat.blt m 115 then (bif Nat.blt m 103 then (bif Nat.blt m 97 then (bif Nat.blt m 94 then (bif Nat.blt m 93 then 21 else 28) else (bif Nat.blt m 95 then 42 else (bif Nat.blt m 96 then 141 else 80))) else (bif Nat.blt m 100 then (bif Nat.blt m 98 then 57 else (bif Nat.blt m 99 then 30 else 68)) else (bif Nat.blt m 101 then 42 else (bif Nat.blt m 102 then 55 else 110)))) else (bif Nat.blt m 109 then (bif Nat.blt m 106 then (bif Nat.blt m 104 then 38 else (bif Nat.blt m 105 then 72 else 19)) else (bif Nat.blt m 107 then 18 else (bif Nat.blt m 108 then 28 else 81))) else (bif Nat.blt m 112 then (bif Nat.blt m 110 then 18 else (bif Nat.blt m 111 then 144 else 33)) else (bif Nat.blt m 113 then 50 else (bif Nat.blt m 114 then 242 else 25))))) else (bif Nat.blt m 126 then (bif Nat.blt m 120 then (bif Nat.blt m 117 then (bif Nat.blt m 116 then 25 else 104) else (bif Nat.blt m 118 then 53 else (bif Nat.blt m 119 then 15 else 27))) else (bif Nat.blt m 123 then (bif Nat.blt m 121 then 109 else (bif Nat.blt m 122 then 56 else 32)) else (bif Nat.blt m 124 then 38 else (bif Nat.blt m 125 then 100 else 154)))) else (bif Nat.blt m 132 then (bif Nat.blt m 129 then (bif Nat.blt m 127 then 158 else (bif Nat.blt m 128 then 52 else 27)) else (bif Nat.blt m 130 then 154 else (bif Nat.blt m 131 then 109 else 42))) else (bif Nat.blt m 135 then (bif Nat.blt m 133 then 74 else (bif Nat.blt m 134 then 18 else 18)) else (bif Nat.blt m 136 then 97 else (bif Nat.blt m 137 then 151 else 62)))))) else (bif Nat.blt m 161 then (bif Nat.blt m 149 then (bif Nat.blt m 143 then (bif Nat.blt m 140 then (bif Nat.blt m 139 then 10 else 78) else (bif Nat.blt m 141 then 79 else (bif Nat.blt m 142 then 36 else 151))) else (bif Nat.blt m 146 then (bif Nat.blt m 144 then 52 else (bif Nat.blt m 145 then 27 else 41)) else (bif Nat.blt m 147 then 162 else (bif Nat.blt m 148 then 39 else 74)))) else (bif Nat.blt m 155 then (bif Nat.blt m 152 then (bif Nat.blt m 150 then 44 else (bif Nat.blt m 151 then 73 else 87)) else (bif Nat.blt m 153 then 99 else (bif Nat.blt m 154 then 137 else 59))) else (bif Nat.blt m 158 then (bif Nat.blt m 156 then 141 else (bif Nat.blt m 157 then 19 else 73)) else (bif Nat.blt m 159 then 99 else (bif Nat.blt m 160 then 102 else 158))))) else (bif Nat.blt m 172 then (bif Nat.blt m 166 then (bif Nat.blt m 163 then (bif Nat.blt m 162 then 42 else 103) else (bif Nat.blt m 164 then 123 else (bif Nat.blt m 165 then 209 else 44))) else (bif Nat.blt m 169 then (bif Nat.blt m 167 then 300 else (bif Nat.blt m 168 then 19 else 25)) else (bif Nat.blt m 170 then 114 else (bif Nat.blt m 171 then 104 else 27)))) else (bif Nat.blt m 178 then (bif Nat.blt m 175 then (bif Nat.blt m 173 then 139 else (bif Nat.blt m 174 then 27 else 291)) else (bif Nat.blt m 176 then 57 else (bif Nat.blt m 177 then 27 else 52))) else (bif Nat.blt m 181 then (bif Nat.blt m 179 then 153 else (bif Nat.blt m 180 then 53 else 61)) else (bif Nat.blt m 182 then 23 else (bif Nat.blt m 183 then 21 else 1310)))))))) else 0
theorem pq_lim_ok : (List.range 184).all (fun m => pq_lim m == pq_lims.getD m 0) = true := by decide +kernel
def pq_stp (C : pmC) (fr : pmF) : Option (pmO ⊕ pmF) := bif Nat.blt fr.2.1 (pq_lim fr.1) then (match pq_ins fr.1 fr.2.1 with
  | some (i, n, a, b, e, z) => pq_ex C fr.1 fr.2.1 n fr.2.2.1 fr.2.2.2.1 fr.2.2.2.2 i a b e z
  | none => none) else none
