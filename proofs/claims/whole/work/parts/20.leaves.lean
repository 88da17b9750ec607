/-! leaves: what the small methods answer -/
def sHas (n x : Int32) : Bool := !decide (x < 0) && !decide (n ≤ x)
theorem sHas_t {n x : Int32} : sHas n x = true ↔ ¬ x < 0 ∧ ¬ n ≤ x := by simp [sHas]
theorem sHas_in {N : Nat} {x : Int32} (hN : N < 2 ^ 31) (h : sHas (nI N) x = true) : vp_in x N := by
  rw [sHas_t] at h
  exact in_of h.1 (i_nle.mp h.2) hN
theorem sHas_nI {N k : Nat} (hN : N < 2 ^ 31) (hk : k < N) : sHas (nI N) (nI k) = true := by
  rw [sHas_t]
  exact ⟨nI_pos (by omega), nI_ge hk hN⟩
def sSex (x : Int32) : Bool := decide (x = 0) || decide (x = 1)
def sYear (x : Int32) : Bool := !decide (x < 0) && !decide (999 < x)
def sLives (b e y : Int32) : Bool := !decide (y < b) && (decide (e = -1) || !decide (e ≤ y))
def sPar (mo fa p : Int32) : Bool := decide (mo = p) || decide (fa = p)
def sNear (ma fa mb fb a b : Int32) : Bool := sPar mb fb a || sPar ma fa b || (!decide (ma = -1) && (decide (ma = mb) || decide (fa = fb)))
def sQuar (a b : Int32) : Bool := !decide (a = -1) && !decide (b = -1) && !decide (a = b)
theorem c9 (d : Nat) {σ : pmS} {o0 : Nat} {x1 : Int32} : pq_RD (d + 1) 9 [vR 2 o0 0, vI x1] σ = some (some (vI (bI (sHas (σ.1 2 o0 8 0) x1))), σ) := by
  refine (m9 d).trans ((t9_0 _).trans ?_)
  by_cases a : x1 < 0 <;> by_cases b : σ.1 2 o0 8 0 ≤ x1 <;> simp [a, b, sHas, bI]
theorem c32 (d : Nat) {σ : pmS} {x1 : Int32} : pq_RD (d + 1) 32 [vR 5 0 0, vI x1] σ = some (some (vI (bI (sHas (σ.1 5 0 9 0) x1))), σ) := by
  refine (m32 d).trans ((t32_0 _).trans ?_)
  by_cases a : x1 < 0 <;> by_cases b : σ.1 5 0 9 0 ≤ x1 <;> simp [a, b, sHas, bI]
theorem c86 (d : Nat) {σ : pmS} {x1 : Int32} : pq_RD (d + 1) 86 [vR 9 0 0, vI x1] σ = some (some (vI (bI (sHas (σ.1 9 0 9 0) x1))), σ) := by
  refine (m86 d).trans ((t86_0 _).trans ?_)
  by_cases a : x1 < 0 <;> by_cases b : σ.1 9 0 9 0 ≤ x1 <;> simp [a, b, sHas, bI]
theorem c88 (d : Nat) {σ : pmS} {x1 : Int32} : pq_RD (d + 1) 88 [vR 9 0 0, vI x1] σ = some (some (vI (bI (sHas (σ.1 9 0 10 0) x1))), σ) := by
  refine (m88 d).trans ((t88_0 _).trans ?_)
  by_cases a : x1 < 0 <;> by_cases b : σ.1 9 0 10 0 ≤ x1 <;> simp [a, b, sHas, bI]
theorem c106 (d : Nat) {σ : pmS} {x1 : Int32} : pq_RD (d + 1) 106 [vR 10 0 0, vI x1] σ = some (some (vI (bI (sHas (σ.1 10 0 4 0) x1))), σ) := by
  refine (m106 d).trans ((t106_0 _).trans ?_)
  by_cases a : x1 < 0 <;> by_cases b : σ.1 10 0 4 0 ≤ x1 <;> simp [a, b, sHas, bI]
theorem c133 (d : Nat) {σ : pmS} {x1 : Int32} : pq_RD (d + 1) 133 [vR 10 0 0, vI x1] σ = some (some (vI (bI (sHas (σ.1 10 0 15 0) x1))), σ) := by
  refine (m133 d).trans ((t133_0 _).trans ?_)
  by_cases a : x1 < 0 <;> by_cases b : σ.1 10 0 15 0 ≤ x1 <;> simp [a, b, sHas, bI]
theorem c134 (d : Nat) {σ : pmS} {x1 : Int32} : pq_RD (d + 1) 134 [vR 10 0 0, vI x1] σ = some (some (vI (bI (sHas (σ.1 10 0 16 0) x1))), σ) := by
  refine (m134 d).trans ((t134_0 _).trans ?_)
  by_cases a : x1 < 0 <;> by_cases b : σ.1 10 0 16 0 ≤ x1 <;> simp [a, b, sHas, bI]
theorem c89 (d : Nat) {σ : pmS} {x0 : Int32} : pq_RD (d + 1) 89 [vI x0] σ = some (some (vI (bI (sSex x0))), σ) := by
  refine (m89 d).trans ((t89_0 _).trans ?_)
  by_cases a : x0 = 0 <;> by_cases b : x0 = 1 <;> simp [a, b, sSex, bI]
theorem c118 (d : Nat) {σ : pmS} {x0 : Int32} : pq_RD (d + 1) 118 [vI x0] σ = some (some (vI (bI (sSex x0))), σ) := by
  refine (m118 d).trans ((t118_0 _).trans ?_)
  by_cases a : x0 = 0 <;> by_cases b : x0 = 1 <;> simp [a, b, sSex, bI]
theorem c90 (d : Nat) {σ : pmS} {x0 : Int32} : pq_RD (d + 1) 90 [vI x0] σ = some (some (vI (bI (sYear x0))), σ) := by
  refine (m90 d).trans ((t90_0 _).trans ?_)
  by_cases a : x0 < 0 <;> by_cases b : 999 < x0 <;> simp [a, b, sYear, bI]
/-- isIn of ints taken as longs -/
def sIn (v a b : Int32) : Bool := !decide (v < a) && !decide (b < v)
theorem lgc_lt (x y : Int64) : lg_cmp x y < 0 ↔ x < y := by
  unfold lg_cmp
  by_cases a : x > y
  · rw [if_pos a]
    have : ¬ x < y := fun h => by rw [fa_lt64] at h; have a2 : y < x := a; rw [fa_lt64] at a2; omega
    simp [this]
  · rw [if_neg a]
    by_cases b : x = y
    · rw [if_pos b]
      subst b
      have : ¬ x < x := fun h => by rw [fa_lt64] at h; omega
      simp [this]
    · rw [if_neg b]
      have : x < y := by
        have a2 : ¬ y < x := a
        rw [fa_lt64] at a2 ⊢
        rw [fa_eq64] at b
        omega
      simp only [this, iff_true]
      decide
theorem lgc_gt (x y : Int64) : 0 < lg_cmp x y ↔ y < x := by
  unfold lg_cmp
  by_cases a : x > y
  · rw [if_pos a]
    have : y < x := a
    simp only [this, iff_true]
    decide
  · rw [if_neg a]
    have a2 : ¬ y < x := a
    by_cases b : x = y
    · rw [if_pos b]
      simp [a2]
    · rw [if_neg b]
      simp only [a2, iff_false]
      decide
theorem lgc_eq (x y : Int64) : lg_cmp x y = 0 ↔ x = y := by
  unfold lg_cmp
  by_cases a : x > y
  · rw [if_pos a]
    have a2 : y < x := a
    have : ¬ x = y := fun h => by subst h; rw [fa_lt64] at a2; omega
    simp [this]
  · rw [if_neg a]
    by_cases b : x = y
    · rw [if_pos b]; simp [b]
    · rw [if_neg b]
      simp only [b, iff_false]
      decide
theorem c105 (d : Nat) {σ : pmS} {v a b : Int32} {A B : Int64} (hA : A = a.toInt64) (hB : B = b.toInt64) : pq_RD (d + 1) 105 [vL v.toInt64, vL A, vL B] σ = some (some (vI (bI (sIn v a b))), σ) := by
  subst hA hB
  refine (m105 d).trans ((t105_0 _).trans ?_)
  have h1 : (lg_cmp v.toInt64 a.toInt64 < 0) ↔ v < a := (lgc_lt _ _).trans (fa_wide_lt v a)
  have h2 : (0 < lg_cmp v.toInt64 b.toInt64) ↔ b < v := (lgc_gt _ _).trans (fa_wide_lt b v)
  by_cases p : v < a <;> by_cases q : b < v <;> simp [p, q, h1, h2, sIn, bI]
theorem c138 (d : Nat) {σ : pmS} {x0 : Int32} : pq_RD (d + 2) 138 [vI x0] σ = some (some (vI (bI (sYear x0))), σ) := by
  refine (m138 (d + 1)).trans (t138_0 _ (c105 d (a := 0) (b := 999) rfl rfl) (bI_01 _))
theorem c34 (d : Nat) {σ : pmS} {x1 x2 : Int32} (h : vp_in x1 48) : pq_RD (d + 1) 34 [vR 5 0 0, vI x1, vI x2] σ = some (some (vI (bI (sLives (σ.1 5 0 1 x1.toNatClampNeg) (σ.1 5 0 2 x1.toNatClampNeg) x2))), σ) := by
  refine (m34 d).trans ((t34_0 _ h).trans ?_)
  by_cases a : x2 < σ.1 5 0 1 x1.toNatClampNeg <;> by_cases b : σ.1 5 0 2 x1.toNatClampNeg = -1 <;> by_cases c : σ.1 5 0 2 x1.toNatClampNeg ≤ x2 <;> simp [a, b, c, sLives, bI]
theorem c141 (d : Nat) {σ : pmS} {x1 x2 : Int32} (h : vp_in x1 48) : pq_RD (d + 1) 141 [vR 10 0 0, vI x1, vI x2] σ = some (some (vI (bI (sLives (σ.1 10 0 20 x1.toNatClampNeg) (σ.1 10 0 21 x1.toNatClampNeg) x2))), σ) := by
  refine (m141 d).trans ((t141_0 _ h).trans ?_)
  by_cases a : x2 < σ.1 10 0 20 x1.toNatClampNeg <;> by_cases b : σ.1 10 0 21 x1.toNatClampNeg = -1 <;> by_cases c : σ.1 10 0 21 x1.toNatClampNeg ≤ x2 <;> simp [a, b, c, sLives, bI]
theorem c35 (d : Nat) {σ : pmS} {x1 x2 : Int32} (h : vp_in x2 48) : pq_RD (d + 1) 35 [vR 5 0 0, vI x1, vI x2] σ = some (some (vI (bI (sPar (σ.1 5 0 4 x2.toNatClampNeg) (σ.1 5 0 5 x2.toNatClampNeg) x1))), σ) := by
  refine (m35 d).trans ((t35_0 _ h).trans ?_)
  by_cases a : σ.1 5 0 4 x2.toNatClampNeg = x1 <;> by_cases b : σ.1 5 0 5 x2.toNatClampNeg = x1 <;> simp [a, b, sPar, bI]
theorem c33 (d : Nat) {σ : pmS} {x1 : Int32} (h : vp_in x1 48) : pq_RD (d + 1) 33 [vR 5 0 0, vI x1] σ = some (some (vI (bI (decide (σ.1 5 0 4 x1.toNatClampNeg = -1)))), σ) := by
  refine (m33 d).trans ((t33_0 _ h).trans ?_)
  by_cases a : σ.1 5 0 4 x1.toNatClampNeg = -1 <;> simp [a, bI]
theorem c37 (d : Nat) {σ : pmS} {x1 : Int32} (h : vp_in x1 48) : pq_RD (d + 1) 37 [vR 5 0 0, vI x1] σ = some (some (vI (bI (sQuar (σ.1 5 0 7 x1.toNatClampNeg) (σ.1 5 0 8 x1.toNatClampNeg)))), σ) := by
  refine (m37 d).trans ((t37_0 _ h).trans ?_)
  by_cases a : σ.1 5 0 7 x1.toNatClampNeg = -1 <;> by_cases b : σ.1 5 0 8 x1.toNatClampNeg = -1 <;> by_cases c : σ.1 5 0 7 x1.toNatClampNeg = σ.1 5 0 8 x1.toNatClampNeg <;> simp [a, b, c, sQuar, bI]
theorem c36 (d : Nat) {σ : pmS} {x1 x2 : Int32} (h1 : vp_in x1 48) (h2 : vp_in x2 48) : pq_RD (d + 2) 36 [vR 5 0 0, vI x1, vI x2] σ = some (some (vI (bI (sNear (σ.1 5 0 4 x1.toNatClampNeg) (σ.1 5 0 5 x1.toNatClampNeg) (σ.1 5 0 4 x2.toNatClampNeg) (σ.1 5 0 5 x2.toNatClampNeg) x1 x2))), σ) := by
  refine (m36 (d + 1)).trans ((t36_0 _ (c35 d h2) (fun _ => c35 d h1) (fun _ _ => c33 d h1) (fun _ _ _ => h1) (fun _ _ _ => h2)).trans ?_)
  simp only [bI_0, decide_eq_false_iff_not]
  unfold sNear
  generalize sPar (σ.1 5 0 4 x2.toNatClampNeg) (σ.1 5 0 5 x2.toNatClampNeg) x1 = A
  generalize sPar (σ.1 5 0 4 x1.toNatClampNeg) (σ.1 5 0 5 x1.toNatClampNeg) x2 = B
  cases A
  · cases B
    · by_cases c : σ.1 5 0 4 x1.toNatClampNeg = -1
      · simp [c, bI]
      · by_cases e : σ.1 5 0 4 x1.toNatClampNeg = σ.1 5 0 4 x2.toNatClampNeg
        · simp [e ▸ c, e, bI]
        · by_cases f : σ.1 5 0 5 x1.toNatClampNeg = σ.1 5 0 5 x2.toNatClampNeg <;> simp [c, e, f, bI]
    · simp [bI]
  · simp [bI]
