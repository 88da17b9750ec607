theorem ct48 (P : Nat → Bool) : fb_ct P 48 = fb_ct (fun k => P (8 * 0 + k)) 8 + fb_ct (fun k => P (8 * 1 + k)) 8 + fb_ct (fun k => P (8 * 2 + k)) 8 + fb_ct (fun k => P (8 * 3 + k)) 8 + fb_ct (fun k => P (8 * 4 + k)) 8 + fb_ct (fun k => P (8 * 5 + k)) 8 := by
  have s : ∀ j, fb_ct P (8 * (j + 1)) = fb_ct P (8 * j) + fb_ct (fun k => P (8 * j + k)) 8 := fun j => by
    rw [show 8 * (j + 1) = 8 * j + 8 by omega]
    exact fb_ct_split P (8 * j) 8
  have z : fb_ct P (8 * 0) = 0 := rfl
  have a := s 0
  have b := s 1
  have c := s 2
  have d := s 3
  have e := s 4
  have f := s 5
  have g : 8 * (5 + 1) = 48 := rfl
  rw [g] at f
  rw [f, e, d, c, b, a, z]
  omega
theorem subL {a b : Nat} (h : b ≤ a) (ha : a < 2 ^ 62) : lN a - lN b = lN (a - b) := by
  rw [fa_eq64, fb_subL (by rw [pk_lT (by omega), pk_lT (by omega)]; omega) (by rw [pk_lT (by omega), pk_lT (by omega)]; omega), pk_lT (by omega), pk_lT (by omega), pk_lT (by omega)]
  omega
theorem addL {a b : Nat} (h : a + b < 2 ^ 62) : lN a + lN b = lN (a + b) := by
  rw [fa_eq64, fb_addL (by rw [pk_lT (by omega), pk_lT (by omega)]; omega) (by rw [pk_lT (by omega), pk_lT (by omega)]; omega), pk_lT (by omega), pk_lT (by omega), pk_lT (by omega)]
  omega
theorem lN32 (n : Nat) : (lN n).toInt32 = nI n := by
  apply Int32.toBitVec_inj.1
  show (BitVec.ofNat 64 n).signExtend 32 = BitVec.ofNat 32 n
  apply BitVec.eq_of_getLsbD_eq
  intro i hi
  rw [BitVec.getLsbD_signExtend, BitVec.getLsbD_ofNat, BitVec.getLsbD_ofNat]
  have : i < 64 := by omega
  simp [hi, this]
theorem and127 (n : Nat) : nI n &&& (127 : Int32) = nI (n % 128) := by
  rw [pk_and (nI n) (m := 127) 7 rfl]
  congr 1
  show (BitVec.ofNat 32 n).toNat % 128 = n % 128
  rw [BitVec.toNat_ofNat]
  omega
