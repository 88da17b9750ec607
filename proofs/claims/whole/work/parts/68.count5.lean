theorem shL {x k : Nat} {K : Int32} (hK : K = nI k) (hx : x < 2 ^ 62) (hk : k < 64) : ((lN x).toUInt64 >>> (K.toInt64.toUInt64 &&& Int64.toUInt64 63)).toInt64 = lN (x / 2 ^ k) := by
  rw [hK]
  exact wb_shr (by omega) hk
theorem anL {x m : Nat} {m' : Int64} (h : m' = lN m) : lN x &&& m' = lN (x &&& m) := by
  rw [h]
  exact fb_andL x m
theorem M55 : (6148914691236517205 : Int64) = lN (bn (fun _ => 85) 8) := by decide +kernel
theorem M33 : (3689348814741910323 : Int64) = lN (bn (fun _ => 51) 8) := by decide +kernel
theorem M0f : (1085102592571150095 : Int64) = lN (bn (fun _ => 15) 8) := by decide +kernel
theorem c180 (d : Nat) {σ : pmS} {P : Nat → Bool} : pq_RD (d + 1) 180 [vL (ls P)] σ = some (some (vI (nI (fb_ct P 48))), σ) := by
  have hx := ls_lt P
  have st := (m180 d).trans (g180_0_0 (pq_RD d) (σ := σ) (w0 := ls P))
  have eb : ∀ i, (msk P 48).testBit i = (decide (i < 48) && P i) := fun i => msk_bit P i 48
  unfold ls at st ⊢
  generalize msk P 48 = x at st hx eb ⊢
  have hy : ∀ j, x / 256 ^ j % 256 < 256 := fun j => Nat.mod_lt _ (by decide)
  have ex : bn (fun j => x / 256 ^ j % 256) 8 = x := by
    rw [bn_of]
    exact Nat.mod_eq_of_lt (Nat.lt_of_lt_of_le hx (by decide))
  have f1 := bn_s1 hy 8
  have f2 := bn_s2 hy 8
  have f3 := bn_s3 (y := fun j => y2 (x / 256 ^ j % 256)) (fun j => (ys _ (hy j)).2.2.1) (fun j => ⟨(ys _ (hy j)).2.2.2.1, (ys _ (hy j)).2.2.2.2.1⟩) 8
  have f4 := bn_s4 (c := fun j => y3 (x / 256 ^ j % 256)) (fun j => (ys _ (hy j)).2.2.2.2.2.2)
  rw [ex] at f1
  have f3 : (bn (fun j => y2 (x / 256 ^ j % 256)) 8 + bn (fun j => y2 (x / 256 ^ j % 256)) 8 / 2 ^ 4) &&& bn (fun _ => 15) 8 = bn (fun j => y3 (x / 256 ^ j % 256)) 8 := f3
  have l1 : (x / 2 ^ 1 &&& bn (fun _ => 85) 8) ≤ x := Nat.le_trans Nat.and_le_left (Nat.div_le_self _ _)
  have b1 : bn (fun j => y1 (x / 256 ^ j % 256)) 8 ≤ x := by rw [← f1]; exact Nat.sub_le _ _
  have b2 : bn (fun j => y2 (x / 256 ^ j % 256)) 8 ≤ x + x := by
    rw [← f2]
    exact Nat.add_le_add (Nat.le_trans Nat.and_le_left b1) (Nat.le_trans Nat.and_le_left (Nat.le_trans (Nat.div_le_self _ _) b1))
  have b3 : bn (fun j => y3 (x / 256 ^ j % 256)) 8 ≤ 4 * x := by
    rw [← f3]
    have : bn (fun j => y2 (x / 256 ^ j % 256)) 8 / 2 ^ 4 ≤ bn (fun j => y2 (x / 256 ^ j % 256)) 8 := Nat.div_le_self _ _
    exact Nat.le_trans Nat.and_le_left (by omega)
  have s3 : ∀ j, y3 (x / 256 ^ j % 256) = fb_ct (fun k => decide (8 * j + k < 48) && P (8 * j + k)) 8 := fun j => by
    rw [(ys _ (hy j)).2.2.2.2.2.1]
    refine fb_ct_cong (fun k hk => ?_)
    show (x / 256 ^ j % 256).testBit k = _
    have e : (256 : Nat) ^ j = 2 ^ (8 * j) := by rw [Nat.pow_mul]
    rw [show (256 : Nat) = 2 ^ 8 from rfl, Nat.testBit_mod_two_pow, show (2 ^ 8 : Nat) = 256 from rfl, e, Nat.testBit_div_two_pow, Nat.add_comm k, eb]
    simp [hk]
  generalize bn (fun j => y1 (x / 256 ^ j % 256)) 8 = a1 at f1 f2 b1
  generalize bn (fun j => y2 (x / 256 ^ j % 256)) 8 = a2 at f2 f3 b2
  generalize bn (fun j => y3 (x / 256 ^ j % 256)) 8 = a3 at f3 f4 b3
  have d1 : a3 / 256 ≤ a3 := Nat.div_le_self _ _
  have d2 : (a3 + a3 / 256) / 65536 ≤ a3 + a3 / 256 := Nat.div_le_self _ _
  have d3 : (a3 + a3 / 256 + (a3 + a3 / 256) / 65536) / 4294967296 ≤ a3 + a3 / 256 + (a3 + a3 / 256) / 65536 := Nat.div_le_self _ _
  have d4 : a2 / 2 ^ 4 ≤ a2 := Nat.div_le_self _ _
  have q1 : lN x - (((lN x).toUInt64 >>> (((1 : Int32)).toInt64.toUInt64 &&& Int64.toUInt64 63)).toInt64 &&& (6148914691236517205 : Int64)) = lN a1 := by
    rw [shL (K := (1 : Int32)) (k := 1) (x := x) rfl (by omega) (by decide), anL M55, subL l1 (by omega), f1]
  have q2 : (lN a1 &&& (3689348814741910323 : Int64)) + (((lN a1).toUInt64 >>> (((2 : Int32)).toInt64.toUInt64 &&& Int64.toUInt64 63)).toInt64 &&& (3689348814741910323 : Int64)) = lN a2 := by
    rw [shL (K := (2 : Int32)) (k := 2) (x := a1) rfl (by omega) (by decide), anL M33, anL M33, addL (by rw [f2]; omega), f2]
  have q3 : (lN a2 + ((lN a2).toUInt64 >>> (((4 : Int32)).toInt64.toUInt64 &&& Int64.toUInt64 63)).toInt64) &&& (1085102592571150095 : Int64) = lN a3 := by
    rw [shL (K := (4 : Int32)) (k := 4) (x := a2) rfl (by omega) (by decide), addL (by omega), anL M0f, f3]
  have q4 : lN a3 + ((lN a3).toUInt64 >>> (((8 : Int32)).toInt64.toUInt64 &&& Int64.toUInt64 63)).toInt64 = lN (a3 + a3 / 256) := by
    rw [shL (K := (8 : Int32)) (k := 8) (x := a3) rfl (by omega) (by decide), show (2 : Nat) ^ 8 = 256 from rfl, addL (by omega)]
  have q5 : lN (a3 + a3 / 256) + ((lN (a3 + a3 / 256)).toUInt64 >>> (((16 : Int32)).toInt64.toUInt64 &&& Int64.toUInt64 63)).toInt64 = lN (a3 + a3 / 256 + (a3 + a3 / 256) / 65536) := by
    rw [shL (K := (16 : Int32)) (k := 16) (x := a3 + a3 / 256) rfl (by omega) (by decide), show (2 : Nat) ^ 16 = 65536 from rfl, addL (by omega)]
  have q6 : lN (a3 + a3 / 256 + (a3 + a3 / 256) / 65536) + ((lN (a3 + a3 / 256 + (a3 + a3 / 256) / 65536)).toUInt64 >>> (((32 : Int32)).toInt64.toUInt64 &&& Int64.toUInt64 63)).toInt64 = lN (a3 + a3 / 256 + (a3 + a3 / 256) / 65536 + (a3 + a3 / 256 + (a3 + a3 / 256) / 65536) / 4294967296) := by
    rw [shL (K := (32 : Int32)) (k := 32) (x := a3 + a3 / 256 + (a3 + a3 / 256) / 65536) rfl (by omega) (by decide), show (2 : Nat) ^ 32 = 4294967296 from rfl, addL (by omega)]
  rw [q1, q2, q3, q4, q5, q6, lN32, and127, f4, s3, s3, s3, s3, s3, s3, s3, s3] at st
  refine st.trans ?_
  have z6 : fb_ct (fun k => decide (8 * 6 + k < 48) && P (8 * 6 + k)) 8 = 0 := fb_ct_zero.mpr (fun k _ => by
    have : ¬ 8 * 6 + k < 48 := by omega
    simp [this])
  have z7 : fb_ct (fun k => decide (8 * 7 + k < 48) && P (8 * 7 + k)) 8 = 0 := fb_ct_zero.mpr (fun k _ => by
    have : ¬ 8 * 7 + k < 48 := by omega
    simp [this])
  have zz : ∀ j, j < 6 → fb_ct (fun k => decide (8 * j + k < 48) && P (8 * j + k)) 8 = fb_ct (fun k => P (8 * j + k)) 8 := fun j hj => fb_ct_cong (fun k hk => by
    have : 8 * j + k < 48 := by omega
    simp [this])
  rw [z6, z7, zz 0 (by omega), zz 1 (by omega), zz 2 (by omega), zz 3 (by omega), zz 4 (by omega), zz 5 (by omega), ct48 P, Nat.add_zero]
