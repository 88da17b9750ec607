/-! how many bits a set has -/
def bn (y : Nat → Nat) : Nat → Nat
  | 0 => 0
  | n + 1 => bn y n + y n * 256 ^ n
theorem bn_lt {y : Nat → Nat} (h : ∀ j, y j < 256) : ∀ n, bn y n < 256 ^ n
  | 0 => Nat.zero_lt_one
  | n + 1 => by
    have ih := bn_lt h n
    have := h n
    rw [bn, Nat.pow_succ]
    have h3 : y n * 256 ^ n ≤ 255 * 256 ^ n := Nat.mul_le_mul_right _ (by omega)
    omega
theorem bn_add (y z : Nat → Nat) : ∀ n, bn (fun j => y j + z j) n = bn y n + bn z n
  | 0 => rfl
  | n + 1 => by
    rw [bn, bn, bn, bn_add y z n, Nat.add_mul]
    omega
theorem bn_of (x : Nat) : ∀ n, bn (fun j => x / 256 ^ j % 256) n = x % 256 ^ n
  | 0 => by
    show 0 = x % 1
    omega
  | n + 1 => by
    rw [bn, bn_of x n, Nat.pow_succ, Nat.mod_mul, Nat.mul_comm (256 ^ n)]
/-- bits of a number of bytes -/
theorem bn_bit {y : Nat → Nat} (h : ∀ j, y j < 256) : ∀ n i, (bn y n).testBit i = (decide (i < 8 * n) && (y (i / 8)).testBit (i % 8))
  | 0, i => by
    show (0 : Nat).testBit i = _
    rw [Nat.zero_testBit]
    simp
  | n + 1, i => by
    have hl := bn_lt h n
    have e : (256 : Nat) ^ n = 2 ^ (8 * n) := by rw [Nat.pow_mul]
    rw [bn, Nat.add_comm, Nat.mul_comm, e]
    rw [e] at hl
    rw [Nat.testBit_two_pow_mul_add _ hl, bn_bit h n i]
    by_cases q : i < 8 * n
    · have q2 : i < 8 * (n + 1) := by omega
      simp [q, q2]
    · rw [if_neg q]
      by_cases q2 : i < 8 * (n + 1)
      · have e1 : i / 8 = n := by omega
        have e2 : i % 8 = i - 8 * n := by omega
        rw [e1, e2]
        simp [q2]
      · have : (y n).testBit (i - 8 * n) = false := Nat.testBit_lt_two_pow (Nat.lt_of_lt_of_le (h n) (Nat.le_trans (by decide : 256 ≤ 2 ^ 8) (Nat.pow_le_pow_right (by decide) (by omega))))
        rw [this]
        simp [q2]
/-- a shift within bytes, masked -/
theorem bn_sh {y : Nat → Nat} (h : ∀ j, y j < 256) {s c : Nat} (hs : s < 8) (hc : c < 2 ^ (8 - s)) (n : Nat) : (bn y n / 2 ^ s) &&& bn (fun _ => c) n = bn (fun j => y j / 2 ^ s &&& c) n := by
  have hc8 : c < 256 := Nat.lt_of_lt_of_le hc (Nat.le_trans (Nat.pow_le_pow_right (by decide) (by omega : 8 - s ≤ 8)) (by decide))
  have h2 : ∀ j, (y j / 2 ^ s &&& c) < 256 := fun j => Nat.lt_of_le_of_lt Nat.and_le_right hc8
  apply Nat.eq_of_testBit_eq
  intro i
  rw [Nat.testBit_and, Nat.testBit_div_two_pow, bn_bit h, bn_bit (fun _ => hc8), bn_bit h2, Nat.testBit_and, Nat.testBit_div_two_pow]
  rcases Nat.lt_or_ge (i % 8) (8 - s) with q | q
  · have e1 : (s + i) / 8 = i / 8 := by omega
    have e2 : (s + i) % 8 = s + i % 8 := by omega
    rw [Nat.add_comm i s, e1, e2, Nat.add_comm (i % 8) s]
    by_cases k : i < 8 * n
    · have : s + i < 8 * n := by omega
      simp [k, this]
    · simp [k]
  · have : c.testBit (i % 8) = false := Nat.testBit_lt_two_pow (Nat.lt_of_lt_of_le hc (Nat.pow_le_pow_right (by decide) q))
    simp [this]
def y1 (a : Nat) : Nat := a - (a / 2 ^ 1 &&& 85)
def y2 (a : Nat) : Nat := (y1 a / 2 ^ 0 &&& 51) + (y1 a / 2 ^ 2 &&& 51)
def y3 (a : Nat) : Nat := (y2 a / 2 ^ 0 &&& 15) + (y2 a / 2 ^ 4 &&& 15)
theorem ys : ∀ a, a < 256 → (a / 2 ^ 1 &&& 85) ≤ a ∧ y1 a < 256 ∧ y2 a < 256 ∧ y2 a % 16 ≤ 4 ∧ y2 a / 16 ≤ 4 ∧ y3 a = fb_ct (fun k => a.testBit k) 8 ∧ y3 a ≤ 8 := by decide +kernel
theorem bn_s1 {y : Nat → Nat} (h : ∀ j, y j < 256) (n : Nat) : bn y n - ((bn y n / 2 ^ 1) &&& bn (fun _ => 85) n) = bn (fun j => y1 (y j)) n := by
  rw [bn_sh h (by decide) (by decide)]
  have e : bn y n = bn (fun j => y1 (y j)) n + bn (fun j => y j / 2 ^ 1 &&& 85) n := by
    rw [← bn_add]
    congr 1
    funext j
    have := (ys (y j) (h j)).1
    show y j = y1 (y j) + (y j / 2 ^ 1 &&& 85)
    unfold y1
    omega
  omega
theorem bn_s2 {y : Nat → Nat} (h : ∀ j, y j < 256) (n : Nat) : (bn (fun j => y1 (y j)) n &&& bn (fun _ => 51) n) + ((bn (fun j => y1 (y j)) n / 2 ^ 2) &&& bn (fun _ => 51) n) = bn (fun j => y2 (y j)) n := by
  have h1 : ∀ j, y1 (y j) < 256 := fun j => (ys (y j) (h j)).2.1
  have a := bn_sh h1 (s := 0) (c := 51) (by decide) (by decide) n
  have b := bn_sh h1 (s := 2) (c := 51) (by decide) (by decide) n
  rw [Nat.pow_zero, Nat.div_one] at a
  rw [a, b, ← bn_add]
  rfl
/-- the sum of the halves of a byte: no half runs over -/
theorem bn_s3 {y : Nat → Nat} (h : ∀ j, y j < 256) (hn : ∀ j, y j % 16 ≤ 4 ∧ y j / 16 ≤ 4) (n : Nat) : (bn y n + bn y n / 2 ^ 4) &&& bn (fun _ => 15) n = bn (fun j => (y j / 2 ^ 0 &&& 15) + (y j / 2 ^ 4 &&& 15)) n := by
  have lo : ∀ a : Nat, a &&& 15 = a % 16 := fun a => Nat.and_two_pow_sub_one_eq_mod a 4
  have hc8 : ∀ j : Nat, ((y j / 2 ^ 0 &&& 15) + (y j / 2 ^ 4 &&& 15)) < 256 := fun j => by
    rw [lo, lo]
    omega
  -- the bytes of the sum
  have key : ∀ n, ∃ z : Nat → Nat, (∀ j, z j < 256) ∧ (∀ j, j < n → z j % 16 = y j % 16 + y j / 16) ∧ bn y n + bn y n / 2 ^ 4 = bn z n := fun n => by
    refine ⟨fun j => y j % 16 + y j / 16 + 16 * (y j / 16 + if j + 1 < n then y (j + 1) % 16 else 0), fun j => ?_, fun j hj => ?_, ?_⟩
    · have a1 := hn j
      have a2 := hn (j + 1)
      show y j % 16 + y j / 16 + 16 * (y j / 16 + if j + 1 < n then y (j + 1) % 16 else 0) < 256
      split <;> omega
    · have a1 := hn j
      have a2 := hn (j + 1)
      show (y j % 16 + y j / 16 + 16 * (y j / 16 + if j + 1 < n then y (j + 1) % 16 else 0)) % 16 = _
      omega
    · have step : ∀ n, bn y n / 2 ^ 4 = bn (fun j => y j / 16 + 16 * (if j + 1 < n then y (j + 1) % 16 else 0)) n := fun n => by
        have e : ∀ m, bn y (m + 1) / 16 = bn (fun j => y j / 16 + 16 * (if j + 1 < m + 1 then y (j + 1) % 16 else 0)) (m + 1) := fun m => by
          induction m with
          | zero =>
            show (0 + y 0 * 256 ^ 0) / 16 = 0 + (y 0 / 16 + 16 * (if 0 + 1 < 0 + 1 then y (0 + 1) % 16 else 0)) * 256 ^ 0
            simp
          | succ m ih =>
            have p : (256 : Nat) ^ (m + 1) = 16 * (16 * 256 ^ m) := by rw [Nat.pow_succ]; omega
            have l : bn y (m + 1 + 1) = bn y (m + 1) + y (m + 1) * 256 ^ (m + 1) := rfl
            have r1 : bn (fun j => y j / 16 + 16 * (if j + 1 < m + 1 + 1 then y (j + 1) % 16 else 0)) (m + 1 + 1) = bn (fun j => y j / 16 + 16 * (if j + 1 < m + 1 + 1 then y (j + 1) % 16 else 0)) (m + 1) + (y (m + 1) / 16 + 16 * (if m + 1 + 1 < m + 1 + 1 then y (m + 1 + 1) % 16 else 0)) * 256 ^ (m + 1) := rfl
            have r2 : bn (fun j => y j / 16 + 16 * (if j + 1 < m + 1 + 1 then y (j + 1) % 16 else 0)) (m + 1) = bn (fun j => y j / 16 + 16 * (if j + 1 < m + 1 then y (j + 1) % 16 else 0)) m + (y m / 16 + 16 * (y (m + 1) % 16)) * 256 ^ m := by
              rw [bn]
              congr 1
              · have : ∀ k, k ≤ m → bn (fun j => y j / 16 + 16 * (if j + 1 < m + 1 + 1 then y (j + 1) % 16 else 0)) k = bn (fun j => y j / 16 + 16 * (if j + 1 < m + 1 then y (j + 1) % 16 else 0)) k := fun k => by
                  induction k with
                  | zero => intro _; rfl
                  | succ k ihk =>
                    intro hk
                    rw [bn, bn, ihk (by omega), if_pos (by omega), if_pos (by omega)]
                exact this m (Nat.le_refl _)
              · rw [if_pos (by omega)]
            have r3 : bn (fun j => y j / 16 + 16 * (if j + 1 < m + 1 then y (j + 1) % 16 else 0)) (m + 1) = bn (fun j => y j / 16 + 16 * (if j + 1 < m + 1 then y (j + 1) % 16 else 0)) m + (y m / 16) * 256 ^ m := by
              rw [bn, if_neg (by omega)]
              rfl
            rw [l, r1, r2, if_neg (by omega), p]
            rw [r3] at ih
            have e4 : (bn y (m + 1) + y (m + 1) * (16 * (16 * 256 ^ m))) / 16 = bn y (m + 1) / 16 + y (m + 1) * (16 * 256 ^ m) := by
              rw [show y (m + 1) * (16 * (16 * 256 ^ m)) = 16 * (y (m + 1) * (16 * 256 ^ m)) by rw [Nat.mul_left_comm], Nat.add_mul_div_left _ _ (by decide)]
            rw [e4, ih]
            have e5 : y (m + 1) * (16 * 256 ^ m) = (y (m + 1) / 16) * (16 * (16 * 256 ^ m)) + (y (m + 1) % 16) * (16 * 256 ^ m) := by
              have : y (m + 1) = 16 * (y (m + 1) / 16) + y (m + 1) % 16 := by omega
              conv => lhs; rw [this]
              rw [Nat.add_mul]
              congr 1
              rw [Nat.mul_comm 16 (y (m + 1) / 16), Nat.mul_assoc]
            rw [e5, Nat.add_mul (y m / 16), Nat.mul_zero, Nat.add_zero]
            have e6 : 16 * (y (m + 1) % 16) * 256 ^ m = y (m + 1) % 16 * (16 * 256 ^ m) := by
              rw [Nat.mul_comm 16, Nat.mul_assoc]
            rw [e6]
            generalize y (m + 1) / 16 * (16 * (16 * 256 ^ m)) = A
            generalize y (m + 1) % 16 * (16 * 256 ^ m) = B
            generalize y m / 16 * 256 ^ m = C
            generalize bn (fun j => y j / 16 + 16 * (if j + 1 < m + 1 then y (j + 1) % 16 else 0)) m = G
            omega
        cases n with
        | zero => exact Nat.zero_div _
        | succ m => exact e m
      rw [step n, ← bn_add]
      congr 1
      funext j
      show y j + (y j / 16 + 16 * (if j + 1 < n then y (j + 1) % 16 else 0)) = y j % 16 + y j / 16 + 16 * (y j / 16 + if j + 1 < n then y (j + 1) % 16 else 0)
      omega
  obtain ⟨z, z1, z2, z3⟩ := key n
  rw [z3]
  have := bn_sh z1 (s := 0) (c := 15) (by decide) (by decide) n
  rw [Nat.pow_zero, Nat.div_one] at this
  rw [this]
  have cong : ∀ (f g : Nat → Nat) (k : Nat), (∀ j, j < k → f j = g j) → bn f k = bn g k := fun f g k => by
    induction k with
    | zero => intro _; rfl
    | succ k ih =>
      intro hk
      rw [bn, bn, ih (fun j hj => hk j (by omega)), hk k (by omega)]
  refine cong _ _ n (fun j hj => ?_)
  have a1 := hn j
  show (z j / 1 &&& 15) = (y j / 2 ^ 0 &&& 15) + (y j / 2 ^ 4 &&& 15)
  rw [Nat.div_one, lo, lo, lo, z2 j hj]
  have : (2 : Nat) ^ 4 = 16 := rfl
  rw [this, Nat.pow_zero, Nat.div_one]
  omega
