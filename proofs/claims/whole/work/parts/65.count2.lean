theorem bn_h : ∀ (n : Nat) (y : Nat → Nat), bn y (n + 1) = y 0 + 256 * bn (fun j => y (j + 1)) n
  | 0, y => by
    show 0 + y 0 * 256 ^ 0 = y 0 + 256 * 0
    rw [Nat.pow_zero]
    omega
  | n + 1, y => by
    rw [bn, bn_h n y]
    show _ = y 0 + 256 * (bn (fun j => y (j + 1)) n + y (n + 1) * 256 ^ n)
    rw [Nat.mul_add, ← Nat.add_assoc, Nat.pow_succ, Nat.mul_comm 256 (y (n + 1) * 256 ^ n), Nat.mul_assoc]
theorem bn8 (c : Nat → Nat) : bn c 8 = c 0 + 256 * (c 1 + 256 * (c 2 + 256 * (c 3 + 256 * (c 4 + 256 * (c 5 + 256 * (c 6 + 256 * c 7)))))) := by
  rw [bn_h, bn_h, bn_h, bn_h, bn_h, bn_h, bn_h, bn_h]
  rfl
theorem dv {x c t B : Nat} (hB : 0 < B) (h : x = c + B * t) (hc : c < B) : x / B = t := by rw [h, Nat.add_mul_div_left _ _ hB, Nat.div_eq_of_lt hc, Nat.zero_add]
theorem k2 (a0 a1 a2 u : Nat) : a0 + 256 * (a1 + 256 * (a2 + u)) + (a1 + 256 * (a2 + u)) = (a0 + a1 + 256 * (a1 + a2)) + (65536 * (a2 + u) + 256 * u) := by omega
