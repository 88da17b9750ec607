/-! ===== lN n to 2^64: shifts, and, or, masks, one bit ===== -/
theorem wb_tb (n : Nat) : (lN n).toBitVec = BitVec.ofNat 64 n := rfl
theorem wb_inj {a b : Int64} (h : a.toBitVec = b.toBitVec) : a = b := Int64.toBitVec_inj.mp h
theorem wb_tn {n : Nat} (h : n < 2 ^ 64) : (lN n).toBitVec.toNat = n := by rw [wb_tb, BitVec.toNat_ofNat, Nat.mod_eq_of_lt h]
theorem wb_of (x : Int64) : ∃ n, n < 2 ^ 64 ∧ x = lN n := ⟨x.toBitVec.toNat, x.toBitVec.isLt, wb_inj (by rw [wb_tb]; simp)⟩
theorem wb_of32 (x : Int32) : ∃ n, n < 2 ^ 32 ∧ x = nI n := ⟨x.toBitVec.toNat, x.toBitVec.isLt, Int32.toBitVec_inj.mp (by show _ = BitVec.ofNat 32 _; simp)⟩
theorem wb_c : ∀ k, k < 64 → ((nI k).toInt64 &&& 63) = lN k := by decide +kernel
theorem wb_cu : ∀ k, k < 64 → ((nI k).toInt64.toUInt64 &&& Int64.toUInt64 63) = UInt64.ofNat k := by decide +kernel
theorem wb_sm : ∀ k, k < 64 → (BitVec.ofNat 64 k).smod 64 = BitVec.ofNat 64 k := by decide +kernel
theorem wb_pw {a b : Nat} (h : a ≤ b) : 2 ^ b = 2 ^ a * 2 ^ (b - a) := by rw [← Nat.pow_add]; congr 1; omega
theorem wb_lt2 {a b : Nat} (h : a < b) : 2 ^ a < 2 ^ b := Nat.pow_lt_pow_right (by decide) h
theorem wb_mod (n : Nat) : lN n = lN (n % 2 ^ 64) := wb_inj (by rw [wb_tb, wb_tb]; apply BitVec.eq_of_toNat_eq; rw [BitVec.toNat_ofNat, BitVec.toNat_ofNat, Nat.mod_mod])
theorem wb_shr {n k : Nat} (hn : n < 2 ^ 64) (hk : k < 64) : ((lN n).toUInt64 >>> ((nI k).toInt64.toUInt64 &&& Int64.toUInt64 63)).toInt64 = lN (n / 2 ^ k) := by
  rw [wb_cu k hk]
  apply wb_inj
  apply BitVec.eq_of_toNat_eq
  show ((lN n).toUInt64 >>> UInt64.ofNat k).toNat = (BitVec.ofNat 64 _).toNat
  have h1 : (UInt64.ofNat k).toNat = k := by
    show (BitVec.ofNat 64 k).toNat = k
    rw [BitVec.toNat_ofNat, Nat.mod_eq_of_lt (by omega)]
  have h2 : (lN n).toUInt64.toNat = n := wb_tn hn
  rw [UInt64.toNat_shiftRight, h1, h2, Nat.mod_eq_of_lt hk, Nat.shiftRight_eq_div_pow, BitVec.toNat_ofNat, Nat.mod_eq_of_lt (Nat.lt_of_le_of_lt (Nat.div_le_self _ _) hn)]
theorem wb_shl (n : Nat) {k : Nat} (hk : k < 64) : lN n <<< ((nI k).toInt64 &&& 63) = lN (n * 2 ^ k) := by
  rw [wb_c k hk]
  apply wb_inj
  rw [Int64.toBitVec_shiftLeft, wb_tb, wb_tb, wb_tb, wb_sm k hk]
  apply BitVec.eq_of_toNat_eq
  rw [BitVec.shiftLeft_eq', BitVec.toNat_shiftLeft, BitVec.toNat_ofNat, BitVec.toNat_ofNat, BitVec.toNat_ofNat, Nat.mod_eq_of_lt (show k < 2 ^ 64 by omega), Nat.shiftLeft_eq, Nat.mul_mod, Nat.mod_mod, ← Nat.mul_mod]
theorem wb_and {a b : Nat} (ha : a < 2 ^ 64) (hb : b < 2 ^ 64) : lN a &&& lN b = lN (a &&& b) := by
  apply wb_inj
  rw [Int64.toBitVec_and, wb_tb, wb_tb, wb_tb]
  apply BitVec.eq_of_toNat_eq
  rw [BitVec.toNat_and, BitVec.toNat_ofNat, BitVec.toNat_ofNat, BitVec.toNat_ofNat, Nat.mod_eq_of_lt ha, Nat.mod_eq_of_lt hb, Nat.mod_eq_of_lt (Nat.and_lt_two_pow _ hb)]
theorem wb_or {a b : Nat} (ha : a < 2 ^ 64) (hb : b < 2 ^ 64) : lN a ||| lN b = lN (a ||| b) := by
  apply wb_inj
  rw [Int64.toBitVec_or, wb_tb, wb_tb, wb_tb]
  apply BitVec.eq_of_toNat_eq
  rw [BitVec.toNat_or, BitVec.toNat_ofNat, BitVec.toNat_ofNat, BitVec.toNat_ofNat, Nat.mod_eq_of_lt ha, Nat.mod_eq_of_lt hb, Nat.mod_eq_of_lt (Nat.or_lt_two_pow ha hb)]
theorem wb_mask {n k : Nat} (hn : n < 2 ^ 64) (hk : k < 64) : lN n &&& lN (2 ^ k - 1) = lN (n % 2 ^ k) := by
  rw [wb_and hn (by have := wb_lt2 hk; omega), Nat.and_two_pow_sub_one_eq_mod]
theorem wb_a1 {n : Nat} (hn : n < 2 ^ 64) : lN n &&& 1 = lN (n % 2) := wb_mask (k := 1) hn (by decide)
theorem wb_bit {n k : Nat} (hn : n < 2 ^ 64) (hk : k < 64) : ((lN n).toUInt64 >>> ((nI k).toInt64.toUInt64 &&& Int64.toUInt64 63)).toInt64 &&& 1 = lN (n / 2 ^ k % 2) := by
  rw [wb_shr hn hk, wb_a1 (Nat.lt_of_le_of_lt (Nat.div_le_self _ _) hn)]
theorem wb_xor {q k : Nat} (hk : k < 63) (h : 2 ^ k ≤ q) (h2 : q < 2 ^ (k + 1)) : lN q ^^^ lN (2 ^ k) = lN (q - 2 ^ k) := by
  obtain ⟨r, rfl⟩ : ∃ r, q = 2 ^ k + r := ⟨q - 2 ^ k, by omega⟩
  have hr : r < 2 ^ k := by rw [Nat.pow_succ] at h2; omega
  have hx : (2 ^ k + r) ^^^ 2 ^ k = r := by
    apply Nat.eq_of_testBit_eq
    intro i
    rw [Nat.testBit_xor, Nat.testBit_two_pow]
    rcases Nat.lt_trichotomy i k with h | h | h
    · rw [Nat.testBit_two_pow_add_gt h]
      simp [show ¬ k = i by omega]
    · subst h
      rw [Nat.testBit_two_pow_add_eq]
      simp
    · have a1 : 2 ^ (k + 1) ≤ 2 ^ i := Nat.pow_le_pow_right (by decide) h
      rw [Nat.testBit_lt_two_pow (show 2 ^ k + r < 2 ^ i by omega), Nat.testBit_lt_two_pow (show r < 2 ^ i by omega)]
      simp [show ¬ k = i by omega]
  have b1 := wb_lt2 (show k + 1 < 64 by omega)
  have b2 := wb_lt2 (show k < 64 by omega)
  apply wb_inj
  rw [Int64.toBitVec_xor, wb_tb, wb_tb, wb_tb]
  apply BitVec.eq_of_toNat_eq
  rw [BitVec.toNat_xor, BitVec.toNat_ofNat, BitVec.toNat_ofNat, BitVec.toNat_ofNat, Nat.mod_eq_of_lt (by omega : 2 ^ k + r < 2 ^ 64), Nat.mod_eq_of_lt b2, hx, Nat.add_sub_cancel_left, Nat.mod_eq_of_lt (by omega)]
/-! sets of people in a long -/
theorem cmp0 (x : Int64) : lg_cmp x 0 = 0 ↔ x = 0 := by
  unfold lg_cmp
  constructor
  · intro h
    split at h
    · exact absurd h (by decide)
    · split at h
      · rename_i h1 h2
        first
          | exact h2
          | exact absurd h (by decide)
      · first
          | (rename_i h1 h2; exact absurd h (by decide))
          | (rename_i h1 h2; rw [fa_eq64]; rw [fa_lt64] at h1 h2; have z : (0 : Int64).toInt = 0 := rfl; omega)
  · intro h
    subst h
    rfl
def msk (P : Nat → Bool) : Nat → Nat
  | 0 => 0
  | k + 1 => if P k = true then msk P k ||| 2 ^ k else msk P k
theorem msk_bit (P : Nat → Bool) (i : Nat) : ∀ n, (msk P n).testBit i = (decide (i < n) && P i)
  | 0 => by
    show (0 : Nat).testBit i = _
    rw [Nat.zero_testBit]
    simp
  | n + 1 => by
    rw [msk]
    have ih := msk_bit P i n
    cases hP : P n with
    | true =>
      rw [if_pos rfl, Nat.testBit_or, ih, Nat.testBit_two_pow]
      rcases (by omega : i < n ∨ i = n ∨ n < i) with q | q | q
      · have a : ¬ n = i := by omega
        have b : i < n + 1 := by omega
        simp [q, a, b]
      · subst q
        simp [hP]
      · have a : ¬ n = i := by omega
        have b : ¬ i < n + 1 := by omega
        have c : ¬ i < n := by omega
        simp [a, b, c]
    | false =>
      rw [if_neg (by decide), ih]
      rcases (by omega : i < n ∨ i = n ∨ n < i) with q | q | q
      · have b : i < n + 1 := by omega
        simp [q, b]
      · subst q
        simp [hP]
      · have b : ¬ i < n + 1 := by omega
        have c : ¬ i < n := by omega
        simp [b, c]
theorem msk_lt (P : Nat → Bool) : ∀ n, msk P n < 2 ^ n
  | 0 => Nat.zero_lt_one
  | n + 1 => by
    have ih := msk_lt P n
    rw [msk]
    split
    · exact Nat.or_lt_two_pow (Nat.lt_of_lt_of_le ih (Nat.pow_le_pow_right (by decide) (by omega))) (Nat.pow_lt_pow_right (by decide) (by omega))
    · exact Nat.lt_of_lt_of_le ih (Nat.pow_le_pow_right (by decide) (by omega))
def ls (P : Nat → Bool) : Int64 := lN (msk P 48)
theorem ls_lt (P : Nat → Bool) : msk P 48 < 281474976710656 := msk_lt P 48
theorem ls_ext {x : Int64} {P : Nat → Bool} (h : ∀ i, i < 64 → x.toBitVec.getLsbD i = (decide (i < 48) && P i)) : x = ls P := by
  apply wb_inj
  unfold ls
  rw [wb_tb]
  apply BitVec.eq_of_getLsbD_eq
  intro i hi
  rw [h i hi, BitVec.getLsbD_ofNat, msk_bit]
  simp [hi]
theorem ls_bit (P : Nat → Bool) {i : Nat} (hi : i < 64) : (ls P).toBitVec.getLsbD i = (decide (i < 48) && P i) := by
  unfold ls
  rw [wb_tb, BitVec.getLsbD_ofNat, msk_bit]
  simp [hi]
theorem ls_cong {P Q : Nat → Bool} (h : ∀ i, i < 48 → P i = Q i) : ls P = ls Q := ls_ext (fun i hi => by
  rw [ls_bit P hi]
  by_cases q : i < 48
  · rw [h i q]
  · simp [q])
theorem one_bit {p i : Nat} (hp : p < 48) (hi : i < 64) : ((1 : Int64) <<< ((nI p).toInt64 &&& 63)).toBitVec.getLsbD i = decide (i = p) := by
  have e : (1 : Int64) <<< ((nI p).toInt64 &&& 63) = lN (2 ^ p) := by
    have := wb_shl 1 (k := p) (by omega)
    rw [Nat.one_mul] at this
    exact this
  rw [e, wb_tb, BitVec.getLsbD_ofNat, Nat.testBit_two_pow]
  by_cases q : p = i
  · subst q
    simp [hi]
  · have : ¬ i = p := fun z => q z.symm
    simp [q, this]
theorem ls_or1 (P : Nat → Bool) {p : Nat} (hp : p < 48) : ls P ||| ((1 : Int64) <<< ((nI p).toInt64 &&& 63)) = ls (fun i => P i || decide (i = p)) := ls_ext (fun i hi => by
  rw [Int64.toBitVec_or, BitVec.getLsbD_or, ls_bit P hi, one_bit hp hi]
  by_cases q : i < 48
  · simp [q]
  · have : ¬ i = p := by omega
    simp [q, this])
theorem m1_bit {i : Nat} (hi : i < 64) : (-1 : Int64).toBitVec.getLsbD i = true := by
  have : (-1 : Int64).toBitVec = BitVec.allOnes 64 := rfl
  rw [this, BitVec.getLsbD_allOnes]
  simpa using hi
theorem ls_clr1 (P : Nat → Bool) {p : Nat} (hp : p < 48) : ls P &&& (((1 : Int64) <<< ((nI p).toInt64 &&& 63)) ^^^ (-1 : Int64)) = ls (fun i => P i && !decide (i = p)) := ls_ext (fun i hi => by
  rw [Int64.toBitVec_and, BitVec.getLsbD_and, Int64.toBitVec_xor, BitVec.getLsbD_xor, ls_bit P hi, one_bit hp hi, m1_bit hi]
  simp [Bool.and_assoc])
theorem ls_dif (P Q : Nat → Bool) : ls P &&& (ls Q ^^^ (-1 : Int64)) = ls (fun i => P i && !Q i) := ls_ext (fun i hi => by
  rw [Int64.toBitVec_and, BitVec.getLsbD_and, Int64.toBitVec_xor, BitVec.getLsbD_xor, ls_bit P hi, ls_bit Q hi, m1_bit hi]
  by_cases q : i < 48
  · simp [q]
  · simp [q])
theorem ls_or (P Q : Nat → Bool) : ls P ||| ls Q = ls (fun i => P i || Q i) := ls_ext (fun i hi => by
  rw [Int64.toBitVec_or, BitVec.getLsbD_or, ls_bit P hi, ls_bit Q hi]
  by_cases q : i < 48
  · simp [q]
  · simp [q])
theorem ls_0 : (0 : Int64) = ls (fun _ => false) := ls_ext (fun i _ => by simp)
theorem ls_shr (P : Nat → Bool) {w : Nat} (hw : w < 64) : lg_cmp (((ls P).toUInt64 >>> ((nI w).toInt64.toUInt64 &&& Int64.toUInt64 63)).toInt64) 0 = 0 ↔ ∀ i, w ≤ i → i < 48 → P i = false := by
  have hl := ls_lt P
  rw [cmp0]
  unfold ls
  rw [wb_shr (by omega) hw]
  have hd : msk P 48 / 2 ^ w ≤ msk P 48 := Nat.div_le_self _ _
  show lN _ = lN 0 ↔ _
  rw [fb_lN_inj (by omega) (by decide)]
  constructor
  · intro h i hi h48
    have hlt : msk P 48 < 2 ^ w := by
      rcases (Nat.div_eq_zero_iff).mp h with z | z
      · exact absurd z (Nat.ne_of_gt (Nat.pow_pos (by decide)))
      · exact z
    have := Nat.testBit_lt_two_pow (i := i) (Nat.lt_of_lt_of_le hlt (Nat.pow_le_pow_right (by decide) hi))
    rw [msk_bit] at this
    simpa [h48] using this
  · intro h
    have : msk P 48 < 2 ^ w := by
      refine Nat.lt_pow_two_of_testBit _ (fun i hi => ?_)
      rw [msk_bit]
      by_cases q : i < 48
      · rw [h i hi q]
        simp
      · simp [q]
    exact Nat.div_eq_of_lt this
theorem ls_z (P : Nat → Bool) : lg_cmp (ls P) 0 = 0 ↔ ∀ i, i < 48 → P i = false := by
  rw [cmp0]
  constructor
  · intro h i hi
    have := ls_bit P (i := i) (by omega)
    rw [h] at this
    simpa [hi] using this.symm
  · intro h
    rw [ls_0]
    exact ls_cong h
theorem c19 (d : Nat) {σ : pmS} {P : Nat → Bool} {p : Nat} (hp : p < 48) : pq_RD (d + 1) 19 [vL (ls P), vI (nI p)] σ = some (some (vI (bI (P p))), σ) := by
  have hl := ls_lt P
  have e : lg_cmp (((ls P).toUInt64 >>> ((nI p).toInt64.toUInt64 &&& Int64.toUInt64 63)).toInt64 &&& (1 : Int64)) (0 : Int64) = 0 ↔ P p = false := by
    rw [cmp0]
    unfold ls
    rw [wb_bit (by omega) (by omega)]
    have := msk_bit P p 48
    rw [Nat.testBit_eq_decide_div_mod_eq] at this
    show lN _ = lN 0 ↔ _
    have hm := Nat.mod_lt (msk P 48 / 2 ^ p) (by decide : 0 < 2)
    rw [fb_lN_inj (by omega) (by decide)]
    rw [decide_eq_true hp, Bool.true_and] at this
    rw [← this]
    constructor
    · intro z
      rw [z]
      rfl
    · intro z
      have := of_decide_eq_false z
      omega
  cases hP : P p with
  | false => exact (m19 d).trans (g19_0_0 _ (e.mpr hP))
  | true => exact (m19 d).trans (g19_0_1 _ (fun z => by rw [e.mp z] at hP; cases hP))
