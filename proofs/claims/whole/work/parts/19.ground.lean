/-! ground for the readings: truth as an int, loops, the store -/
def bI (b : Bool) : Int32 := if b = true then 1 else 0
theorem bI_t : bI true = 1 := rfl
theorem bI_f : bI false = 0 := rfl
theorem bI_01 (b : Bool) : bI b = 0 ∨ bI b = 1 := by cases b <;> simp [bI]
theorem bI_0 {b : Bool} : bI b = 0 ↔ b = false := by cases b <;> simp [bI]
theorem bI_n0 {b : Bool} : ¬ bI b = 0 ↔ b = true := by cases b <;> simp [bI]
/-- a run of steps by a counter -/
theorem lp_n {C : pmC} {fr : Nat → pmF} : ∀ {n : Nat}, (∀ k, k < n → pq_Rn C (fr k) = pq_Rn C (fr (k + 1))) → pq_Rn C (fr 0) = pq_Rn C (fr n)
  | 0, _ => rfl
  | n + 1, h => (lp_n (fun k hk => h k (by omega))).trans (h n (by omega))
theorem lp_from {C : pmC} {fr : Nat → pmF} {a : Nat} : ∀ {n : Nat}, a ≤ n → (∀ k, a ≤ k → k < n → pq_Rn C (fr k) = pq_Rn C (fr (k + 1))) → pq_Rn C (fr a) = pq_Rn C (fr n)
  | 0, ha, _ => by
    have : a = 0 := by omega
    rw [this]
  | n + 1, ha, h => by
    rcases Nat.lt_or_ge a (n + 1) with h1 | h1
    · exact (lp_from (by omega) (fun k h2 h3 => h k h2 (by omega))).trans (h n (by omega) (by omega))
    · have : a = n + 1 := by omega
      rw [this]
/-- steps whose state is only described -/
theorem lp_ex {C : pmC} {S : Type} {I : Nat → S → Prop} {fr : Nat → S → pmF} {s0 : S} (h0 : I 0 s0) : ∀ {n : Nat}, (∀ k s, k < n → I k s → ∃ s', I (k + 1) s' ∧ pq_Rn C (fr k s) = pq_Rn C (fr (k + 1) s')) → ∃ s, I n s ∧ pq_Rn C (fr 0 s0) = pq_Rn C (fr n s)
  | 0, _ => ⟨s0, h0, rfl⟩
  | n + 1, h => by
    obtain ⟨s, h1, h2⟩ := lp_ex h0 (n := n) (fun k s hk => h k s (by omega))
    obtain ⟨s', h3, h4⟩ := h n s (by omega) h1
    exact ⟨s', h3, h2.trans h4⟩
theorem lp_first {C : pmC} {fr : Nat → pmF} {p : Nat → Bool} {n : Nat} (h : ∀ k, k < n → p k = false → pq_Rn C (fr k) = pq_Rn C (fr (k + 1))) : pq_Rn C (fr 0) = pq_Rn C (fr (fa_first p n)) :=
  lp_n (fun k hk => h k (Nat.lt_of_lt_of_le hk (fa_first_le p n)) (fa_first_no p n k hk))
/-! the store, read behind a write -/
theorem wi_1 (σ : pmS) (c o k i : Nat) (v : Int32) (c' o' k' i' : Nat) : (pm_wi σ c o k i v).1 c' o' k' i' = if c' = c ∧ o' = o ∧ k' = k ∧ i' = i then v else σ.1 c' o' k' i' := rfl
theorem wi_2 (σ : pmS) (c o k i : Nat) (v : Int32) : (pm_wi σ c o k i v).2 = σ.2 := rfl
theorem wl_1 (σ : pmS) (c o k i : Nat) (v : Int64) : (pm_wl σ c o k i v).1 = σ.1 := rfl
theorem wl_2 (σ : pmS) (c o k i : Nat) (v : Int64) (c' o' k' i' : Nat) : (pm_wl σ c o k i v).2 c' o' k' i' = if c' = c ∧ o' = o ∧ k' = k ∧ i' = i then v else σ.2 c' o' k' i' := rfl
theorem wr_1 (σ : pmS) (c o k : Nat) (f : Nat → Int32) (c' o' k' i' : Nat) : (pm_wr σ c o k f).1 c' o' k' i' = if c' = c ∧ o' = o ∧ k' = k then f i' else σ.1 c' o' k' i' := rfl
theorem wi_s (σ : pmS) (c o k i : Nat) (v : Int32) : (pm_wi σ c o k i v).1 c o k i = v := by rw [wi_1, if_pos ⟨rfl, rfl, rfl, rfl⟩]
theorem wi_i {σ : pmS} {c o k i j : Nat} {v : Int32} (h : j ≠ i) : (pm_wi σ c o k i v).1 c o k j = σ.1 c o k j := by rw [wi_1, if_neg (fun z => h z.2.2.2)]
/-- two writes of one place -/
theorem wi_wi (σ : pmS) (c o k i : Nat) (v w : Int32) : pm_wi (pm_wi σ c o k i v) c o k i w = pm_wi σ c o k i w := by
  refine Prod.ext (funext fun c' => funext fun o' => funext fun k' => funext fun i' => ?_) rfl
  show (if _ then w else (pm_wi σ c o k i v).1 c' o' k' i') = _
  rw [wi_1, wi_1]
  by_cases h : c' = c ∧ o' = o ∧ k' = k ∧ i' = i
  · rw [if_pos h, if_pos h]
  · rw [if_neg h, if_neg h, if_neg h]
/-! ints that index -/
theorem in_nI {x : Int32} {n : Nat} (h : vp_in x n) (hn : n < 2 ^ 31) : x = nI x.toNatClampNeg ∧ x.toNatClampNeg < n := by
  obtain ⟨j, h1, rfl⟩ := vp_in_of h hn
  rw [nI_clamp (by omega)]
  exact ⟨rfl, h1⟩
theorem in_of {x : Int32} {n : Nat} (h1 : ¬ x < 0) (h2 : x < nI n) (hn : n < 2 ^ 31) : vp_in x n := by
  obtain ⟨j, h3, rfl⟩ := nI_of h1
  exact vp_in_nI ((nI_ltI h3 hn).mp h2) hn
theorem in_le {x : Int32} {n m : Nat} (h : vp_in x n) (hm : n ≤ m) (hn : n < 2 ^ 31) : vp_in x m := by
  rw [vp_in_iff] at h ⊢
  omega
theorem i_nlt {a b : Int32} : ¬ a < b ↔ b ≤ a := by rw [fa_lt, fa_le]; omega
theorem i_nle {a b : Int32} : ¬ a ≤ b ↔ b < a := by rw [fa_lt, fa_le]; omega
theorem nI_z : (0 : Int32) = nI 0 := rfl
theorem nI_lit (n : Nat) : (OfNat.ofNat n : Int32) = nI n := fa_lit n
theorem nI_m1 {n : Nat} (h : n < 2 ^ 31) : nI n ≠ -1 := by
  intro e
  rw [fa_eq, nI_toInt h] at e
  have : (-1 : Int32).toInt = -1 := rfl
  omega
/-! what later calls can see of the store: the rest is scratch -/
def kept (c k : Nat) : Bool := match c with
  | 0 => true
  | 2 => decide (k ≠ 6 ∧ k ≠ 7)
  | 3 => decide (k = 1 ∨ k = 7 ∨ k = 8)
  | 4 => decide (k = 0 ∨ k = 4)
  | 5 => true
  | 6 => true
  | 8 => true
  | 9 => true
  | 10 => decide (k ≠ 9 ∧ k ≠ 10 ∧ k ≠ 29 ∧ k ≠ 30 ∧ k ≠ 31 ∧ k ≠ 32 ∧ k ≠ 33 ∧ k ≠ 34 ∧ k ≠ 35 ∧ k ≠ 39 ∧ k ≠ 40 ∧ k ≠ 43 ∧ k ≠ 44 ∧ k ≠ 45)
  | _ => false
abbrev pmI : Type := Nat → Nat → Nat → Nat → Int32
def mask (f : pmI) : pmI := fun c o k i => if kept c k = true then f c o k i else 0
theorem mask_eq {f g : pmI} (h : ∀ c o k, kept c k = true → g c o k = f c o k) : mask g = mask f := by
  funext c o k i
  show (if kept c k = true then g c o k i else 0) = if kept c k = true then f c o k i else 0
  by_cases hk : kept c k = true
  · rw [if_pos hk, if_pos hk, h c o k hk]
  · rw [if_neg hk, if_neg hk]
/-- a write of scratch -/
theorem mask_wi {σ : pmS} {c o k i : Nat} {v : Int32} (h : kept c k = false) : mask (pm_wi σ c o k i v).1 = mask σ.1 := by
  refine mask_eq fun c' o' k' hk => funext fun i' => ?_
  rw [wi_1, if_neg]
  intro z
  rw [z.1, z.2.2.1, h] at hk
  cases hk
