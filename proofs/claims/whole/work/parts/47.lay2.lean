/-! lay: the class's search -/
theorem sh8 {k : Nat} (h : k < 8) : ((nI k &&& 31).toBitVec.smod 32).toNat = k := by
  rcases (by omega : k = 0 ∨ k = 1 ∨ k = 2 ∨ k = 3 ∨ k = 4 ∨ k = 5 ∨ k = 6 ∨ k = 7) with rfl | rfl | rfl | rfl | rfl | rfl | rfl | rfl <;> rfl
theorem bit8 {u e : Nat} (hu : u < 2 ^ 31) (he : e < 8) : (nI u >>> (nI e &&& 31)) &&& (1 : Int32) = nI (ib (u.testBit e)) := by
  rw [pk_shrN hu _ e (sh8 he)]
  have : u / 2 ^ e ≤ u := Nat.div_le_self _ _
  rw [pk_andN (n := u / 2 ^ e) (by omega) (m := 1) 1 rfl, Nat.testBit_eq_decide_div_mod_eq]
  congr 1
  unfold ib
  by_cases q : u / 2 ^ e % 2 = 1
  · simp [q]
  · have : u / 2 ^ e % 2 = 0 := by omega
    simp [this]
theorem bit8z {u e : Nat} (hu : u < 2 ^ 31) (he : e < 8) : (nI u >>> (nI e &&& 31)) &&& (1 : Int32) = 0 ↔ u.testBit e = false := by
  rw [bit8 hu he]
  cases u.testBit e
  · exact ⟨fun _ => rfl, fun _ => rfl⟩
  · exact ⟨fun h => absurd h (by decide), fun h => by cases h⟩
theorem set8 {u e : Nat} (he : e < 8) : nI u ||| ((1 : Int32) <<< (nI e &&& 31)) = nI (u ||| 2 ^ e) := by rw [one_shl (by omega), orI]
theorem or8 {u e : Nat} (hu : u < 256) (he : e < 8) : u ||| 2 ^ e < 256 := Nat.or_lt_two_pow (n := 8) hu (Nat.lt_of_lt_of_le (Nat.pow_lt_pow_right (by decide) he) (by decide))
theorem clr8 {u e : Nat} (hu : u < 256) (he : e < 8) (hb : u.testBit e = false) : nI (u ||| 2 ^ e) &&& (((1 : Int32) <<< (nI e &&& 31)) ^^^ (-1 : Int32)) = nI u := by
  rw [one_shl (by omega)]
  apply Int32.toBitVec_inj.1
  show BitVec.ofNat 32 (u ||| 2 ^ e) &&& (BitVec.ofNat 32 (2 ^ e) ^^^ (-1 : Int32).toBitVec) = BitVec.ofNat 32 u
  have m1 : (-1 : Int32).toBitVec = BitVec.allOnes 32 := rfl
  rw [m1]
  apply BitVec.eq_of_getLsbD_eq
  intro i hi
  have hp : (2 ^ e).testBit i = decide (e = i) := Nat.testBit_two_pow
  simp only [BitVec.getLsbD_and, BitVec.getLsbD_xor, BitVec.getLsbD_ofNat, BitVec.getLsbD_allOnes, hi, decide_true, Bool.true_and, Nat.testBit_or, hp]
  by_cases q : e = i
  · subst q
    simp [hb]
  · simp [q]
theorem c30a (d : Nat) {σ : pmS} {s1 s2 n c : Nat} {t bk t2 p : Nat → Nat} (h8 : n ≤ 8) (hc : c < n) (ht : σ.1 2 s1 0 c = nI (t c) ∧ t c < n) (hb : σ.1 2 s1 1 c = nI (bk c) ∧ bk c < n) (h2 : ∀ e, e < n → σ.1 2 s2 0 e = nI (t2 e) ∧ t2 e < n) (hp : ∀ j, j ≤ c → σ.1 4 0 1 j = nI (p j) ∧ p j < n) : pq_RD (d + 1) 30 [vR 4 0 0, vR 2 s1 1, vR 2 s1 2, vR 2 s2 1, vI (nI c)] σ = some (some (vI (nI (lMs t bk t2 p c))), σ) := by
  have ec : (nI c).toNatClampNeg = c := nI_clamp (by omega)
  have hv : vp_in (nI c) 8 := vp_in_nI (by omega) (by omega)
  have et : σ.1 2 s1 0 (nI c).toNatClampNeg = nI (t c) := by rw [ec]; exact ht.1
  have eb : σ.1 2 s1 1 (nI c).toNatClampNeg = nI (bk c) := by rw [ec]; exact hb.1
  have ect : (nI (t c)).toNatClampNeg = t c := nI_clamp (by omega)
  have ecb : (nI (bk c)).toNatClampNeg = bk c := nI_clamp (by omega)
  have epc : σ.1 4 0 1 (nI c).toNatClampNeg = nI (p c) := by rw [ec]; exact (hp c (by omega)).1
  have lpc := (hp c (by omega)).2
  have ecp : (nI (p c)).toNatClampNeg = p c := nI_clamp (by omega)
  have vpc : vp_in (σ.1 4 0 1 (nI c).toNatClampNeg) 8 := by rw [epc]; exact vp_in_nI (by omega) (by omega)
  have e2c : σ.1 2 s2 0 (σ.1 4 0 1 (nI c).toNatClampNeg).toNatClampNeg = nI (t2 (p c)) := by rw [epc, ecp]; exact (h2 _ lpc).1
  have vt : vp_in (σ.1 2 s1 0 (nI c).toNatClampNeg) 8 := by rw [et]; exact vp_in_nI (by omega) (by omega)
  have vb : vp_in (σ.1 2 s1 1 (nI c).toNatClampNeg) 8 := by rw [eb]; exact vp_in_nI (by omega) (by omega)
  have eq1 : t c ≤ c → σ.1 4 0 1 (σ.1 2 s1 0 (nI c).toNatClampNeg).toNatClampNeg = nI (p (t c)) := fun h => by rw [et, ect]; exact (hp _ h).1
  have eb2 : bk c < c → vp_in (σ.1 4 0 1 (σ.1 2 s1 1 (nI c).toNatClampNeg).toNatClampNeg) 8 ∧ σ.1 2 s2 0 (σ.1 4 0 1 (σ.1 2 s1 1 (nI c).toNatClampNeg).toNatClampNeg).toNatClampNeg = nI (t2 (p (bk c))) := fun h => by
    have l := (hp (bk c) (by omega)).2
    rw [eb, ecb, (hp (bk c) (by omega)).1, nI_clamp (by omega)]
    exact ⟨vp_in_nI (by omega) (by omega), (h2 _ l).1⟩
  have A1 : t c ≤ c → ¬ nI c < σ.1 2 s1 0 (nI c).toNatClampNeg := fun h => by rw [et]; exact nI_nlt h (by omega)
  have A2 : ¬ t c ≤ c → nI c < σ.1 2 s1 0 (nI c).toNatClampNeg := fun h => by rw [et]; exact nI_lt (by omega) (by omega)
  have B1 : bk c < c → ¬ nI c ≤ σ.1 2 s1 1 (nI c).toNatClampNeg := fun h => by rw [eb]; exact nI_ge h (by omega)
  have B2 : ¬ bk c < c → nI c ≤ σ.1 2 s1 1 (nI c).toNatClampNeg := fun h => by rw [eb]; exact nI_le (by omega) (by omega)
  have E1 : t c ≤ c → (σ.1 4 0 1 (σ.1 2 s1 0 (nI c).toNatClampNeg).toNatClampNeg = σ.1 2 s2 0 (σ.1 4 0 1 (nI c).toNatClampNeg).toNatClampNeg ↔ p (t c) = t2 (p c)) := fun h => by
    rw [eq1 h, e2c]
    exact nI_eq (by have := (hp _ h).2; omega) (by have := (h2 _ lpc).2; omega)
  have E2 : bk c < c → (σ.1 4 0 1 (nI c).toNatClampNeg = σ.1 2 s2 0 (σ.1 4 0 1 (σ.1 2 s1 1 (nI c).toNatClampNeg).toNatClampNeg).toNatClampNeg ↔ p c = t2 (p (bk c))) := fun h => by
    rw [(eb2 h).2, epc]
    exact nI_eq (by omega) (by have := (h2 _ (hp (bk c) (by omega)).2).2; omega)
  unfold lMs
  by_cases q1 : t c ≤ c
  · by_cases q2 : p (t c) = t2 (p c)
    · by_cases q3 : bk c < c
      · by_cases q4 : p c = t2 (p (bk c))
        · exact ((m30a d).trans (g30a_0_4 _ hv (A1 q1) vt vpc ((E1 q1).mpr q2) (B1 q3) vb (eb2 q3).1 ((E2 q3).mpr q4))).trans (by simp [q1, q2, q3, ← q4, ib]; rfl)
        · exact ((m30a d).trans (g30a_0_5 _ hv (A1 q1) vt vpc ((E1 q1).mpr q2) (B1 q3) vb (eb2 q3).1 (fun z => q4 ((E2 q3).mp z)))).trans (by simp [q1, q2, q3, q4, ib]; rfl)
      · exact ((m30a d).trans (g30a_0_3 _ hv (A1 q1) vt vpc ((E1 q1).mpr q2) (B2 q3))).trans (by simp [q1, q2, q3, ib]; rfl)
    · by_cases q3 : bk c < c
      · by_cases q4 : p c = t2 (p (bk c))
        · exact ((m30a d).trans (g30a_0_7 _ hv (A1 q1) vt vpc (fun z => q2 ((E1 q1).mp z)) (B1 q3) vb (eb2 q3).1 ((E2 q3).mpr q4))).trans (by simp [q1, q2, q3, ← q4, ib]; rfl)
        · exact ((m30a d).trans (g30a_0_8 _ hv (A1 q1) vt vpc (fun z => q2 ((E1 q1).mp z)) (B1 q3) vb (eb2 q3).1 (fun z => q4 ((E2 q3).mp z)))).trans (by simp [q1, q2, q3, q4, ib]; rfl)
      · exact ((m30a d).trans (g30a_0_6 _ hv (A1 q1) vt vpc (fun z => q2 ((E1 q1).mp z)) (B2 q3))).trans (by simp [q1, q2, q3, ib]; rfl)
  · by_cases q3 : bk c < c
    · by_cases q4 : p c = t2 (p (bk c))
      · exact ((m30a d).trans (g30a_0_1 _ hv (A2 q1) (B1 q3) vb (eb2 q3).1 ((E2 q3).mpr q4))).trans (by simp [q1, q3, ← q4, ib]; rfl)
      · exact ((m30a d).trans (g30a_0_2 _ hv (A2 q1) (B1 q3) vb (eb2 q3).1 (fun z => q4 ((E2 q3).mp z)))).trans (by simp [q1, q3, q4, ib]; rfl)
    · exact ((m30a d).trans (g30a_0_0 _ hv (A2 q1) (B2 q3))).trans (by simp [q1, q3, ib]; rfl)
theorem c30b (d : Nat) {σ : pmS} {s1 s2 n c : Nat} {t bk t2 p : Nat → Nat} (h8 : n ≤ 8) (hc : c < n) (ht : σ.1 2 s1 2 c = nI (t c) ∧ t c < n) (hb : σ.1 2 s1 4 c = nI (bk c) ∧ bk c < n) (h2 : ∀ e, e < n → σ.1 2 s2 2 e = nI (t2 e) ∧ t2 e < n) (hp : ∀ j, j ≤ c → σ.1 4 0 1 j = nI (p j) ∧ p j < n) : pq_RD (d + 1) 30 [vR 4 0 0, vR 2 s1 3, vR 2 s1 5, vR 2 s2 3, vI (nI c)] σ = some (some (vI (nI (lMs t bk t2 p c))), σ) := by
  have ec : (nI c).toNatClampNeg = c := nI_clamp (by omega)
  have hv : vp_in (nI c) 8 := vp_in_nI (by omega) (by omega)
  have et : σ.1 2 s1 2 (nI c).toNatClampNeg = nI (t c) := by rw [ec]; exact ht.1
  have eb : σ.1 2 s1 4 (nI c).toNatClampNeg = nI (bk c) := by rw [ec]; exact hb.1
  have ect : (nI (t c)).toNatClampNeg = t c := nI_clamp (by omega)
  have ecb : (nI (bk c)).toNatClampNeg = bk c := nI_clamp (by omega)
  have epc : σ.1 4 0 1 (nI c).toNatClampNeg = nI (p c) := by rw [ec]; exact (hp c (by omega)).1
  have lpc := (hp c (by omega)).2
  have ecp : (nI (p c)).toNatClampNeg = p c := nI_clamp (by omega)
  have vpc : vp_in (σ.1 4 0 1 (nI c).toNatClampNeg) 8 := by rw [epc]; exact vp_in_nI (by omega) (by omega)
  have e2c : σ.1 2 s2 2 (σ.1 4 0 1 (nI c).toNatClampNeg).toNatClampNeg = nI (t2 (p c)) := by rw [epc, ecp]; exact (h2 _ lpc).1
  have vt : vp_in (σ.1 2 s1 2 (nI c).toNatClampNeg) 8 := by rw [et]; exact vp_in_nI (by omega) (by omega)
  have vb : vp_in (σ.1 2 s1 4 (nI c).toNatClampNeg) 8 := by rw [eb]; exact vp_in_nI (by omega) (by omega)
  have eq1 : t c ≤ c → σ.1 4 0 1 (σ.1 2 s1 2 (nI c).toNatClampNeg).toNatClampNeg = nI (p (t c)) := fun h => by rw [et, ect]; exact (hp _ h).1
  have eb2 : bk c < c → vp_in (σ.1 4 0 1 (σ.1 2 s1 4 (nI c).toNatClampNeg).toNatClampNeg) 8 ∧ σ.1 2 s2 2 (σ.1 4 0 1 (σ.1 2 s1 4 (nI c).toNatClampNeg).toNatClampNeg).toNatClampNeg = nI (t2 (p (bk c))) := fun h => by
    have l := (hp (bk c) (by omega)).2
    rw [eb, ecb, (hp (bk c) (by omega)).1, nI_clamp (by omega)]
    exact ⟨vp_in_nI (by omega) (by omega), (h2 _ l).1⟩
  have A1 : t c ≤ c → ¬ nI c < σ.1 2 s1 2 (nI c).toNatClampNeg := fun h => by rw [et]; exact nI_nlt h (by omega)
  have A2 : ¬ t c ≤ c → nI c < σ.1 2 s1 2 (nI c).toNatClampNeg := fun h => by rw [et]; exact nI_lt (by omega) (by omega)
  have B1 : bk c < c → ¬ nI c ≤ σ.1 2 s1 4 (nI c).toNatClampNeg := fun h => by rw [eb]; exact nI_ge h (by omega)
  have B2 : ¬ bk c < c → nI c ≤ σ.1 2 s1 4 (nI c).toNatClampNeg := fun h => by rw [eb]; exact nI_le (by omega) (by omega)
  have E1 : t c ≤ c → (σ.1 4 0 1 (σ.1 2 s1 2 (nI c).toNatClampNeg).toNatClampNeg = σ.1 2 s2 2 (σ.1 4 0 1 (nI c).toNatClampNeg).toNatClampNeg ↔ p (t c) = t2 (p c)) := fun h => by
    rw [eq1 h, e2c]
    exact nI_eq (by have := (hp _ h).2; omega) (by have := (h2 _ lpc).2; omega)
  have E2 : bk c < c → (σ.1 4 0 1 (nI c).toNatClampNeg = σ.1 2 s2 2 (σ.1 4 0 1 (σ.1 2 s1 4 (nI c).toNatClampNeg).toNatClampNeg).toNatClampNeg ↔ p c = t2 (p (bk c))) := fun h => by
    rw [(eb2 h).2, epc]
    exact nI_eq (by omega) (by have := (h2 _ (hp (bk c) (by omega)).2).2; omega)
  unfold lMs
  by_cases q1 : t c ≤ c
  · by_cases q2 : p (t c) = t2 (p c)
    · by_cases q3 : bk c < c
      · by_cases q4 : p c = t2 (p (bk c))
        · exact ((m30b d).trans (g30b_0_4 _ hv (A1 q1) vt vpc ((E1 q1).mpr q2) (B1 q3) vb (eb2 q3).1 ((E2 q3).mpr q4))).trans (by simp [q1, q2, q3, ← q4, ib]; rfl)
        · exact ((m30b d).trans (g30b_0_5 _ hv (A1 q1) vt vpc ((E1 q1).mpr q2) (B1 q3) vb (eb2 q3).1 (fun z => q4 ((E2 q3).mp z)))).trans (by simp [q1, q2, q3, q4, ib]; rfl)
      · exact ((m30b d).trans (g30b_0_3 _ hv (A1 q1) vt vpc ((E1 q1).mpr q2) (B2 q3))).trans (by simp [q1, q2, q3, ib]; rfl)
    · by_cases q3 : bk c < c
      · by_cases q4 : p c = t2 (p (bk c))
        · exact ((m30b d).trans (g30b_0_7 _ hv (A1 q1) vt vpc (fun z => q2 ((E1 q1).mp z)) (B1 q3) vb (eb2 q3).1 ((E2 q3).mpr q4))).trans (by simp [q1, q2, q3, ← q4, ib]; rfl)
        · exact ((m30b d).trans (g30b_0_8 _ hv (A1 q1) vt vpc (fun z => q2 ((E1 q1).mp z)) (B1 q3) vb (eb2 q3).1 (fun z => q4 ((E2 q3).mp z)))).trans (by simp [q1, q2, q3, q4, ib]; rfl)
      · exact ((m30b d).trans (g30b_0_6 _ hv (A1 q1) vt vpc (fun z => q2 ((E1 q1).mp z)) (B2 q3))).trans (by simp [q1, q2, q3, ib]; rfl)
  · by_cases q3 : bk c < c
    · by_cases q4 : p c = t2 (p (bk c))
      · exact ((m30b d).trans (g30b_0_1 _ hv (A2 q1) (B1 q3) vb (eb2 q3).1 ((E2 q3).mpr q4))).trans (by simp [q1, q3, ← q4, ib]; rfl)
      · exact ((m30b d).trans (g30b_0_2 _ hv (A2 q1) (B1 q3) vb (eb2 q3).1 (fun z => q4 ((E2 q3).mp z)))).trans (by simp [q1, q3, q4, ib]; rfl)
    · exact ((m30b d).trans (g30b_0_0 _ hv (A2 q1) (B2 q3))).trans (by simp [q1, q3, ib]; rfl)
/-- the two systems, and all that the search leaves alone -/
def lO (τ σ : pmS) : Prop := ∀ c o k, ¬ (c = 4 ∧ k < 4) → τ.1 c o k = σ.1 c o k
theorem lcut {m M n : Nat} (hm : m ≤ 17) (hM : M ≤ 16) (hn : n ≤ 8) : nI m - 1 < (2 : Int32) * nI n - nI M ↔ m + M < 2 * n + 1 := by
  have e2 : (2 : Int32) * nI n = nI (2 * n) := by
    show nI 2 * nI n = _
    rw [pk_mul]
  rw [e2, fa_lt, show nI m - 1 = nI m - nI 1 from rfl, pk_sub_toInt (by omega) (by omega), pk_sub_toInt (by omega) (by omega)]
  omega
theorem c29 {s1 s2 n : Nat} {w1 ch1 w2 ch2 : Nat → Nat} {σ0 : pmS} (hy1 : iSy σ0.1 s1 n w1 ch1) (hy2 : iSy σ0.1 s2 n w2 ch2) (hN : σ0.1 4 0 4 0 = nI n) (d : Nat) : ∀ (r c : Nat), c + r = n → ∀ (σ : pmS) (p : Nat → Nat) (u m : Nat), lO σ σ0 → (∀ j, j < c → σ.1 4 0 1 j = nI (p j) ∧ p j < n) → (∀ a b, a < b → b < c → p a ≠ p b) → σ.1 4 0 2 0 = nI u → u < 256 → (∀ e, e < n → (u.testBit e = true ↔ ∃ j, j < c ∧ p j = e)) → σ.1 4 0 3 0 = nI m - 1 → m ≤ 17 → ∃ τ m', pq_RD (d + r + 2) 29 [vR 4 0 0, vR 2 s1 0, vR 2 s2 0, vI (nI c), vI (nI (lM (tb σ0.1 s1 0) (tb σ0.1 s1 1) (tb σ0.1 s2 0) (tb σ0.1 s1 2) (tb σ0.1 s1 4) (tb σ0.1 s2 2) p c))] σ = some (none, τ) ∧ lO τ σ0 ∧ (∀ j, j < c → τ.1 4 0 1 j = σ.1 4 0 1 j) ∧ τ.1 4 0 2 0 = nI u ∧ τ.1 4 0 3 0 = nI m' - 1 ∧ m' ≤ 17 ∧ lU n (fun π => lAg n (tb σ0.1 s1 0) (tb σ0.1 s1 2) (tb σ0.1 s2 0) (tb σ0.1 s2 2) π + 1) (fun π => ∀ j, j < c → π j = p j) m (σ.1 4 0 0) m' (τ.1 4 0 0) := by
  have h8 := hy1.2.1
  have T0 := fun c (hc : c < n) => tb_ok hy1 (k := 0) (by omega) hc
  have T1 := fun c (hc : c < n) => tb_ok hy1 (k := 1) (by omega) hc
  have T2 := fun c (hc : c < n) => tb_ok hy1 (k := 2) (by omega) hc
  have T4 := fun c (hc : c < n) => tb_ok hy1 (k := 4) (by omega) hc
  have S0 := fun c (hc : c < n) => tb_ok hy2 (k := 0) (by omega) hc
  have S2 := fun c (hc : c < n) => tb_ok hy2 (k := 2) (by omega) hc
  have i1 : ∀ c, c < n → tb σ0.1 s1 0 (tb σ0.1 s1 1 c) = c := fun c hc => by
    rw [(tb_inv hy1 (T1 c hc).2).1]
    exact (tb_inv hy1 hc).2.2.2.1
  have i2 : ∀ c, c < n → tb σ0.1 s1 1 (tb σ0.1 s1 0 c) = c := fun c hc => tb_inj hy1 (k := 0) (by omega) (T1 _ (T0 c hc).2).2 hc (i1 _ (T0 c hc).2)
  have j1 : ∀ c, c < n → tb σ0.1 s1 2 (tb σ0.1 s1 4 c) = c := fun c hc => by
    rw [(tb_inv hy1 (T4 c hc).2).2.1]
    exact (tb_inv hy1 hc).2.2.2.2.1
  have j2 : ∀ c, c < n → tb σ0.1 s1 4 (tb σ0.1 s1 2 c) = c := fun c hc => tb_inj hy1 (k := 2) (by omega) (T4 _ (T2 c hc).2).2 hc (j1 _ (T2 c hc).2)
  have all := fun π => lM_all (t2 := tb σ0.1 s2 0) (u2 := tb σ0.1 s2 2) (fun c hc => ⟨(T0 c hc).2, (T1 c hc).2⟩) i1 i2 (fun c hc => ⟨(T2 c hc).2, (T4 c hc).2⟩) j1 j2 π
  generalize tb σ0.1 s1 0 = t at T0 all ⊢
  generalize tb σ0.1 s1 1 = bk at T1 all ⊢
  generalize tb σ0.1 s1 2 = u1 at T2 all ⊢
  generalize tb σ0.1 s1 4 = bu at T4 all ⊢
  generalize tb σ0.1 s2 0 = t2 at S0 all ⊢
  generalize tb σ0.1 s2 2 = u2 at S2 all ⊢
  clear i1 i2 j1 j2
  -- the cut
  have cut : ∀ (r c : Nat), c + r = n → ∀ (σ : pmS) (p : Nat → Nat) (u m : Nat), lO σ σ0 → σ.1 4 0 2 0 = nI u → σ.1 4 0 3 0 = nI m - 1 → m ≤ 17 → ¬ m + lM t bk t2 u1 bu u2 p c < 2 * n + 1 → ∃ τ m', pq_RD (d + r + 2) 29 [vR 4 0 0, vR 2 s1 0, vR 2 s2 0, vI (nI c), vI (nI (lM t bk t2 u1 bu u2 p c))] σ = some (none, τ) ∧ lO τ σ0 ∧ (∀ j, j < c → τ.1 4 0 1 j = σ.1 4 0 1 j) ∧ τ.1 4 0 2 0 = nI u ∧ τ.1 4 0 3 0 = nI m' - 1 ∧ m' ≤ 17 ∧ lU n (fun π => lAg n t u1 t2 u2 π + 1) (fun π => ∀ j, j < c → π j = p j) m (σ.1 4 0 0) m' (τ.1 4 0 0) := fun r c hr σ p u m hO hu hb hm hcut => by
    have hM : lM t bk t2 u1 bu u2 p c ≤ 2 * n := Nat.le_trans (lM_mono p (n := n) (by omega)) (by have := all p; omega)
    have n4 : σ.1 4 0 4 0 = nI n := by rw [hO 4 0 4 (by omega)]; exact hN
    refine ⟨σ, m, (m29 (d + r + 1)).trans (g29_0_2 _ (by rw [hb, n4, lcut hm (by omega) h8]; exact hcut)), hO, fun _ _ => rfl, hu, hb, hm, lU_none (fun π hp hE => ?_) (fun _ _ => rfl)⟩
    have h1 := all π
    have h2 : lM t bk t2 u1 bu u2 π c = lM t bk t2 u1 bu u2 p c := lM_cong hE
    have h3 := lM_mono (t := t) (bk := bk) (t2 := t2) (u := u1) (bu := bu) (u2 := u2) π (c := c) (n := n) (by omega)
    show lAg n t u1 t2 u2 π + 1 ≤ m
    omega
  intro r
  induction r with
  | zero =>
    intro c hr σ p u m hO hon hinj hu hu8 hbit hb hm
    have ec : c = n := by omega
    subst ec
    by_cases hcut : m + lM t bk t2 u1 bu u2 p c < 2 * c + 1
    · have hM : lM t bk t2 u1 bu u2 p c ≤ 2 * c := by have := all p; omega
      have n4 : σ.1 4 0 4 0 = nI c := by rw [hO 4 0 4 (by omega)]; exact hN
      have ev : (2 : Int32) * nI c - nI (lM t bk t2 u1 bu u2 p c) = nI (2 * c - lM t bk t2 u1 bu u2 p c + 1) - 1 := by
        rw [nI_pred, show (2 : Int32) * nI c = nI (2 * c) by show nI 2 * nI c = _; rw [pk_mul], pk_sub hM]
      have st := (m29 (d + 0 + 1)).trans (g29_0_1 (pq_RD (d + 0 + 1)) (l5 := none) (l6 := none) (σ := σ) (o1 := s1) (o2 := s2) (x3 := nI c) (x4 := nI (lM t bk t2 u1 bu u2 p c)) (by rw [hb, n4, lcut hm (by omega) h8]; exact hcut) (by rw [n4]; exact nI_nlt (Nat.le_refl _) (by omega)) (by rw [n4]; exact nI_pos (by omega)) (by rw [n4, nI_clamp (by omega)]; omega) (by rw [n4, nI_clamp (by omega)]; omega))
      rw [n4, ev, nI_clamp (by omega)] at st
      generalize e1 : pm_wi σ 4 0 3 0 (nI (2 * c - lM t bk t2 u1 bu u2 p c + 1) - 1) = σ1 at st
      have f1 : ∀ c' o k, ¬ (c' = 4 ∧ k = 3) → σ1.1 c' o k = σ.1 c' o k := fun c' o k hk => by rw [← e1, wi_k hk]
      have r1 : ∀ c' o k, ¬ (c' = 4 ∧ k = 0) → (pm_wr σ1 4 0 0 (va_cpy (σ1.1 4 0 1) (σ1.1 4 0 0) 0 0 c)).1 c' o k = σ1.1 c' o k := fun c' o k hk => by
        funext i
        rw [wr_1, if_neg (fun z => hk ⟨z.1, z.2.2⟩)]
      refine ⟨_, 2 * c - lM t bk t2 u1 bu u2 p c + 1, st, fun c' o k hk => ?_, fun j hj => ?_, ?_, ?_, by omega, fun π hp hE => ?_, Or.inr ⟨by omega, p, ⟨fun j hj => (hon j hj).2, hinj⟩, fun j hj => ?_, fun _ _ => rfl, ?_, fun π hp hE hl => ?_⟩⟩
      · rw [r1 c' o k (by omega), f1 c' o k (by omega), hO c' o k hk]
      · rw [r1 4 0 1 (by omega), f1 4 0 1 (by omega)]
      · rw [r1 4 0 2 (by omega), f1 4 0 2 (by omega)]
        exact hu
      · rw [r1 4 0 3 (by omega), ← e1]
        exact wi_s _ _ _ _ _ _
      · have h1 := all π
        have h2 : lM t bk t2 u1 bu u2 π c = lM t bk t2 u1 bu u2 p c := lM_cong hE
        show lAg c t u1 t2 u2 π + 1 ≤ _
        omega
      · rw [wr_1, if_pos ⟨rfl, rfl, rfl⟩, pk_cpy_in (by omega) (by omega), Nat.zero_add, Nat.sub_zero, f1 4 0 1 (by omega)]
        exact (hon j hj).1
      · have h1 := all p
        show lAg c t u1 t2 u2 p + 1 = _
        omega
      · rw [lV_cong hE] at hl
        omega
    · exact cut 0 c hr σ p u m hO hu hb hm hcut
  | succ r ih =>
    intro c hr σ p u m hO hon hinj hu hu8 hbit hb hm
    by_cases hcut : m + lM t bk t2 u1 bu u2 p c < 2 * n + 1
    · have hM : lM t bk t2 u1 bu u2 p c ≤ 2 * n := Nat.le_trans (lM_mono p (n := n) (by omega)) (by have := all p; omega)
      have n4 : σ.1 4 0 4 0 = nI n := by rw [hO 4 0 4 (by omega)]; exact hN
      have st := (m29 (d + (r + 1) + 1)).trans (g29_0_0 (pq_RD (d + (r + 1) + 1)) (l5 := none) (l6 := none) (σ := σ) (o1 := s1) (o2 := s2) (x3 := nI c) (x4 := nI (lM t bk t2 u1 bu u2 p c)) (by rw [hb, n4, lcut hm (by omega) h8]; exact hcut) (by rw [n4]; exact nI_lt (by omega) (by omega)))
      obtain ⟨⟨τ, l6⟩, ⟨k1, k2, k3, m', k4, k5, k6⟩, hrun⟩ := lp_ex (C := pq_RD (d + (r + 1) + 1)) (S := pmS × Option pmV) (I := fun e v => lO v.1 σ0 ∧ (∀ j, j < c → v.1.1 4 0 1 j = σ.1 4 0 1 j) ∧ v.1.1 4 0 2 0 = nI u ∧ ∃ m', v.1.1 4 0 3 0 = nI m' - 1 ∧ m' ≤ 17 ∧ lU n (fun π => lAg n t u1 t2 u2 π + 1) (fun π => (∀ j, j < c → π j = p j) ∧ π c < e) m (σ.1 4 0 0) m' (v.1.1 4 0 0)) (fr := fun e v => (29, 59, [some (vR 4 0 0), some (vR 2 s1 0), some (vR 2 s2 0), some (vI (nI c)), some (vI (nI (lM t bk t2 u1 bu u2 p c))), some (vI (nI e)), v.2], [], v.1)) (s0 := (σ, none)) ⟨hO, fun _ _ => rfl, hu, m, hb, hm, lU_none (fun π _ hE => by have := hE.2; omega) (fun _ _ => rfl)⟩ (n := n) (fun e v he ⟨k1, k2, k3, m', k4, k5, k6⟩ => by
        obtain ⟨τ, l6⟩ := v
        have k1 : lO τ σ0 := k1
        have k2 : ∀ j, j < c → τ.1 4 0 1 j = σ.1 4 0 1 j := k2
        have k3 : τ.1 4 0 2 0 = nI u := k3
        have k4 : τ.1 4 0 3 0 = nI m' - 1 := k4
        have n4' : τ.1 4 0 4 0 = nI n := by rw [k1 4 0 4 (by omega)]; exact hN
        have ge : ¬ τ.1 4 0 4 0 ≤ nI e := by rw [n4']; exact nI_ge he (by omega)
        cases hbe : u.testBit e with
        | true =>
          refine ⟨(τ, l6), ⟨k1, k2, k3, m', k4, k5, lU_set (fun π hp => ?_) k6⟩, ?_⟩
          · obtain ⟨j, hj, ej⟩ := (hbit e he).mp hbe
            refine ⟨fun ⟨h1, h2⟩ => ⟨h1, ?_⟩, fun ⟨h1, h2⟩ => ⟨h1, by omega⟩⟩
            rcases Nat.lt_or_ge (π c) e with q | q
            · exact q
            · have : π c = e := by omega
              have := lP_inj hp (a := j) (b := c) (by omega) (by omega) (by rw [h1 j hj, ej, this])
              omega
          · rw [← nI_1 e]
            exact g29_59_2 _ ge (by rw [k3, bit8z (by omega) (by omega), hbe]; intro z; cases z)
        | false =>
          generalize hp' : (fun j => if j = c then e else p j) = p'
          have pc : p' c = e := by rw [← hp']; simp
          have pj : ∀ j, j < c → p' j = p j := fun j hj => by
            rw [← hp']
            show (if j = c then e else p j) = p j
            rw [if_neg (by omega)]
          generalize e1 : pm_wi (pm_wi τ 4 0 1 c (nI e)) 4 0 2 0 (nI (u ||| 2 ^ e)) = τ1
          have o1 : ∀ c' o k, ¬ (c' = 4 ∧ (k = 1 ∨ k = 2)) → τ1.1 c' o k = τ.1 c' o k := fun c' o k hk => by rw [← e1, wi_k (by omega), wi_k (by omega)]
          have on1 : ∀ j, j ≤ c → τ1.1 4 0 1 j = nI (p' j) ∧ p' j < n := fun j hj => by
            rw [← e1, wi_k (by omega)]
            rcases Nat.lt_or_ge j c with q | q
            · rw [wi_i (by omega), k2 j q, pj j q]
              exact hon j q
            · have : j = c := by omega
              subst this
              rw [wi_s, pc]
              exact ⟨rfl, he⟩
          have us1 : τ1.1 4 0 2 0 = nI (u ||| 2 ^ e) := by rw [← e1]; exact wi_s _ _ _ _ _ _
          have hO1 : lO τ1 σ0 := fun c' o k hk => by rw [o1 c' o k (by omega), k1 c' o k hk]
          have ra := c30a (d + r + 1) (σ := τ1) (s1 := s1) (s2 := s2) (n := n) (c := c) (t := t) (bk := bk) (t2 := t2) (p := p') h8 (by omega) (by rw [hO1 2 s1 0 (by omega)]; exact T0 c (by omega)) (by rw [hO1 2 s1 1 (by omega)]; exact T1 c (by omega)) (fun x hx => by rw [hO1 2 s2 0 (by omega)]; exact S0 x hx) on1
          have rb := c30b (d + r + 1) (σ := τ1) (s1 := s1) (s2 := s2) (n := n) (c := c) (t := u1) (bk := bu) (t2 := u2) (p := p') h8 (by omega) (by rw [hO1 2 s1 2 (by omega)]; exact T2 c (by omega)) (by rw [hO1 2 s1 4 (by omega)]; exact T4 c (by omega)) (fun x hx => by rw [hO1 2 s2 2 (by omega)]; exact S2 x hx) on1
          have eM : lM t bk t2 u1 bu u2 p' (c + 1) = lM t bk t2 u1 bu u2 p c + (lMs t bk t2 p' c + lMs u1 bu u2 p' c) := by
            rw [← lM_cong (t := t) (bk := bk) (t2 := t2) (u := u1) (bu := bu) (u2 := u2) (c := c) pj]
            rfl
          obtain ⟨τ3, m3, r3, o3, n3, u3, b3, l3, w3⟩ := ih (c + 1) (by omega) τ1 p' (u ||| 2 ^ e) m' hO1 (fun j hj => on1 j (by omega)) (fun a b hab hbc => by
            rcases Nat.lt_or_ge b c with q | q
            · rw [pj a (by omega), pj b q]
              exact hinj a b hab q
            · have : b = c := by omega
              subst this
              rw [pj a hab, pc]
              intro z
              have := (hbit e he).mpr ⟨a, hab, z⟩
              rw [hbe] at this
              cases this) us1 (or8 hu8 (by omega)) (fun x hx => by
            rw [fb_bit_set, Bool.or_eq_true, hbit x hx, decide_eq_true_iff]
            constructor
            · rintro (⟨j, hj, ej⟩ | z)
              · exact ⟨j, by omega, by rw [pj j hj]; exact ej⟩
              · exact ⟨c, by omega, by rw [pc, z]⟩
            · rintro ⟨j, hj, ej⟩
              rcases Nat.lt_or_ge j c with q | q
              · exact Or.inl ⟨j, q, by rw [← pj j q]; exact ej⟩
              · have : j = c := by omega
                subst this
                exact Or.inr (by rw [← ej, pc])) (by rw [o1 4 0 3 (by omega)]; exact k4) k5
          rw [eM, ← nI_1 c, ← nI_add (lM t bk t2 u1 bu u2 p c), ← nI_add (lMs t bk t2 p' c)] at r3
          have ec : (nI c).toNatClampNeg = c := nI_clamp (by omega)
          have stp := g29_59_1 (pq_RD (d + (r + 1) + 1)) (l6 := l6) (σ := τ) (o1 := s1) (o2 := s2) (x3 := nI c) (x4 := nI (lM t bk t2 u1 bu u2 p c)) (x5 := nI e) ge (by rw [k3, bit8z (by omega) (by omega)]; exact hbe) (vp_in_nI (by omega) (by omega)) (by rw [ec, k3, set8 (by omega), e1]; exact ra) rb r3
          rw [u3, clr8 hu8 (by omega) hbe, nI_1 e] at stp
          refine ⟨(pm_wi τ3 4 0 2 0 (nI u), _), ⟨fun c' o k hk => ?_, fun j hj => ?_, wi_s _ _ _ _ _ _, m3, ?_, l3, ?_⟩, stp⟩
          · rw [wi_k (by omega)]
            exact o3 c' o k hk
          · show (pm_wi τ3 4 0 2 0 (nI u)).1 4 0 1 j = _
            rw [wi_k (by omega), n3 j (by omega), ← k2 j hj, ← e1, wi_k (by omega), wi_i (by omega)]
          · show (pm_wi τ3 4 0 2 0 (nI u)).1 4 0 3 0 = _
            rw [wi_k (by omega)]
            exact b3
          · show lU _ _ _ _ _ _ ((pm_wi τ3 4 0 2 0 (nI u)).1 4 0 0)
            rw [wi_k (by omega)]
            rw [o1 4 0 0 (by omega)] at w3
            refine lU_set (fun π hp => ?_) (lU_or (fun π ρ hp hq h1 h2 => ?_) k6 w3)
            · constructor
              · rintro ⟨h1, h2⟩
                rcases Nat.lt_or_ge (π c) e with q | q
                · exact Or.inl ⟨h1, q⟩
                · refine Or.inr (fun j hj => ?_)
                  rcases Nat.lt_or_ge j c with q2 | q2
                  · rw [pj j q2]
                    exact h1 j q2
                  · have : j = c := by omega
                    subst this
                    rw [pc]
                    omega
              · rintro (⟨h1, h2⟩ | h1)
                · exact ⟨h1, by omega⟩
                · exact ⟨fun j hj => by rw [h1 j (by omega), pj j hj], by rw [h1 c (by omega), pc]; omega⟩
            · refine lV_lt (d := c) (fun x hx => by have := hp.1 x hx; omega) (by omega) (fun j hj => ?_) ?_
              · rw [h1.1 j hj, h2 j (by omega), pj j hj]
              · rw [h2 c (by omega), pc]
                exact h1.2)
      have k1 : lO τ σ0 := k1
      have n4' : τ.1 4 0 4 0 = nI n := by rw [k1 4 0 4 (by omega)]; exact hN
      refine ⟨τ, m', st.trans (Eq.trans hrun (g29_59_0 _ (by rw [n4', fa_le]; omega))), k1, k2, k3, k4, k5, lU_set (fun π hp => ?_) k6⟩
      exact ⟨fun h => ⟨h, hp.1 c (by omega)⟩, fun h => h.1⟩
    · exact cut (r + 1) c hr σ p u m hO hu hb hm hcut
