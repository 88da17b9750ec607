/-! ways of kin -/
def wq (v k : Nat) : Bool := decide (v / 8 ^ k = 0) || (decide (1 ≤ v / 8 ^ k % 8) && decide (v / 8 ^ k % 8 ≤ 5))
def sWay (x : Int32) : Bool := decide (0 < x.toInt ∧ x.toInt < 262144) && hfA (wq x.toNatClampNeg) 6
theorem div8 (v k : Nat) : v / 8 ^ k / 8 = v / 8 ^ (k + 1) := by rw [Nat.div_div_eq_div_mul, Nat.pow_succ]
theorem zero_up {v K k : Nat} (h : v / 8 ^ K = 0) (hk : K ≤ k) : v / 8 ^ k = 0 := by
  have h1 : v < 8 ^ K := by
    rcases (Nat.div_eq_zero_iff).mp h with h | h
    · exact absurd h (Nat.ne_of_gt (Nat.pos_of_ne_zero (by simp)))
    · exact h
  exact Nat.div_eq_of_lt (Nat.lt_of_lt_of_le h1 (Nat.pow_le_pow_right (by decide) hk))
theorem shr3 {v k : Nat} (hv : v < 2 ^ 31) (hk : k < 6) : nI v >>> (nI (3 * k) &&& 31) = nI (v / 8 ^ k) := by
  rcases (by omega : k = 0 ∨ k = 1 ∨ k = 2 ∨ k = 3 ∨ k = 4 ∨ k = 5) with rfl | rfl | rfl | rfl | rfl | rfl
  · exact pk_shrN hv _ 0 rfl
  · exact pk_shrN hv _ 3 rfl
  · exact pk_shrN hv _ 6 rfl
  · exact pk_shrN hv _ 9 rfl
  · exact pk_shrN hv _ 12 rfl
  · exact pk_shrN hv _ 15 rfl
theorem and7 {m : Nat} (h : m < 2 ^ 31) : nI m &&& (7 : Int32) = nI (m % 8) := pk_andN (n := m) (by omega) 3 rfl
theorem rem8 {m : Nat} (h : m < 2 ^ 31) : nI m - nI m / (8 : Int32) * (8 : Int32) = nI (m % 8) := pk_rem (d := 8) h (by decide) (by decide)
theorem quo8 {m : Nat} (h : m < 2 ^ 31) : nI m / (8 : Int32) = nI (m / 8) := pk_div (d := 8) h (by decide) (by decide)
theorem nI_is0 {m : Nat} (h : m < 2 ^ 31) : nI m = 0 ↔ m = 0 := nI_eq (b := 0) h (by decide)
theorem nI_lt1 {m : Nat} (h : m < 2 ^ 31) : nI m < 1 ↔ m < 1 := nI_ltI (b := 1) h (by decide)
theorem nI_le5 {m : Nat} (h : m < 2 ^ 31) : nI m ≤ 5 ↔ m ≤ 5 := nI_leI (b := 5) h (by decide)
theorem nI_le0 {m : Nat} (h : m < 2 ^ 31) : nI m ≤ 0 ↔ m = 0 := (nI_leI (b := 0) h (by decide)).trans (by omega)
theorem c91 (d : Nat) {σ : pmS} {x : Int32} : pq_RD (d + 1) 91 [vI x] σ = some (some (vI (bI (sWay x))), σ) := by
  have l0 : (0 : Int32).toInt = 0 := rfl
  have lm : (262144 : Int32).toInt = 262144 := rfl
  by_cases x0 : x ≤ 0
  · have : ¬ (0 < x.toInt ∧ x.toInt < 262144) := by rw [fa_le] at x0; omega
    rw [show sWay x = false by simp only [sWay, this, decide_false, Bool.false_and]]
    exact (m91 d).trans (g91_0_0 _ x0)
  by_cases x1 : x < 262144
  · have hr : 0 < x.toInt ∧ x.toInt < 262144 := by rw [fa_le] at x0; rw [fa_lt] at x1; omega
    obtain ⟨v, hv, rfl⟩ := nI_of (x := x) (by rw [fa_lt]; omega)
    have hv2 : v < 8 ^ 6 := by
      rw [nI_toInt hv] at hr
      have := hr.2
      have e : (8 : Nat) ^ 6 = 262144 := by decide
      omega
    refine (m91 d).trans ((g91_0_1 _ x0 x1).trans ?_)
    unfold sWay
    rw [nI_clamp hv, show decide (0 < (nI v).toInt ∧ (nI v).toInt < 262144) = true by simp only [hr, and_self, decide_true], Bool.true_and]
    have small : ∀ k, v / 8 ^ k < 2 ^ 31 := fun k => Nat.lt_of_le_of_lt (Nat.div_le_self _ _) hv
    have run : ∃ l, pq_Rn (pq_RD d) (91, 15, [some (vI (nI v)), some (vI 0), none], [], σ) = pq_Rn (pq_RD d) (91, 15, [some (vI (nI v)), some (vI (nI (3 * fa_first (fun k => decide (v / 8 ^ k = 0) || !wq v k) 6))), l], [], σ) := by
      obtain ⟨l, -, hl⟩ := lp_ex (C := pq_RD d) (S := Option pmV) (I := fun _ _ => True) (fr := fun k l => (91, 15, [some (vI (nI v)), some (vI (nI (3 * k))), l], [], σ)) (s0 := none) trivial (n := fa_first (fun k => decide (v / 8 ^ k = 0) || !wq v k) 6) (fun k l hk _ => by
        have hk6 : k < 6 := Nat.lt_of_lt_of_le hk (fa_first_le _ 6)
        have hq := fa_first_no _ 6 k hk
        simp only [Bool.or_eq_false_iff, decide_eq_false_iff_not, Bool.not_eq_false'] at hq
        obtain ⟨q0, q1⟩ := hq
        unfold wq at q1
        have q2 : 1 ≤ v / 8 ^ k % 8 ∧ v / 8 ^ k % 8 ≤ 5 := by simpa [q0] using q1
        have sm := small k
        have e3 := shr3 hv hk6
        have e7 := and7 sm
        have en : nI (3 * k) + 3 = nI (3 * (k + 1)) := nI_add (3 * k) 3
        rw [← en]
        exact ⟨_, trivial, g91_15_3 _ (nI_ge (b := 18) (by omega) (by decide)) (by rw [e3, nI_is0 sm]; exact q0) (by rw [e3, e7, nI_lt1 (by omega)]; omega) (by rw [e3, e7, nI_le5 (by omega)]; omega)⟩)
      exact ⟨l, hl⟩
    obtain ⟨l, hl⟩ := run
    refine hl.trans ?_
    have hle := fa_first_le (fun k => decide (v / 8 ^ k = 0) || !wq v k) 6
    have hno := fa_first_no (fun k => decide (v / 8 ^ k = 0) || !wq v k) 6
    have hyes := fa_first_yes (fun k => decide (v / 8 ^ k = 0) || !wq v k) 6
    generalize fa_first (fun k => decide (v / 8 ^ k = 0) || !wq v k) 6 = K at hle hno hyes
    have good : ∀ k, k < K → wq v k = true := fun k hk => by
      have := hno k hk
      simp only [Bool.or_eq_false_iff, Bool.not_eq_false'] at this
      exact this.2
    rcases Nat.lt_or_ge K 6 with hK | hK
    · have sm := small K
      have e3 := shr3 hv hK
      have e7 := and7 sm
      by_cases z : v / 8 ^ K = 0
      · rw [show hfA (wq v) 6 = true from hfA_t.mpr (fun k _ => by
          rcases Nat.lt_or_ge k K with h | h
          · exact good k h
          · simp [wq, zero_up z h])]
        exact g91_15_1 _ (nI_ge (b := 18) (by omega) (by decide)) (by rw [e3, nI_is0 sm]; exact z)
      · have hb : wq v K = false := by
          have := hyes hK
          simpa [z] using this
        rw [show hfA (wq v) 6 = false by
          cases hc : hfA (wq v) 6 with
          | false => rfl
          | true => rw [hfA_t.mp hc K hK] at hb; cases hb]
        have hb2 : ¬ (1 ≤ v / 8 ^ K % 8 ∧ v / 8 ^ K % 8 ≤ 5) := by
          unfold wq at hb
          simpa [z] using hb
        by_cases y : v / 8 ^ K % 8 < 1
        · exact g91_15_2 _ (nI_ge (b := 18) (by omega) (by decide)) (by rw [e3, nI_is0 sm]; exact z) (by rw [e3, e7, nI_lt1 (by omega)]; exact y)
        · exact g91_15_4 _ (nI_ge (b := 18) (by omega) (by decide)) (by rw [e3, nI_is0 sm]; exact z) (by rw [e3, e7, nI_lt1 (by omega)]; exact y) (by rw [e3, e7, nI_le5 (by omega)]; omega)
    · have : K = 6 := by omega
      subst this
      rw [hfA_t.mpr good]
      exact g91_15_0 _ (by decide)
  · have : ¬ (0 < x.toInt ∧ x.toInt < 262144) := by rw [fa_lt] at x1; omega
    rw [show sWay x = false by simp only [sWay, this, decide_false, Bool.false_and]]
    exact (m91 d).trans (g91_0_2 _ x0 x1)
theorem c117 (d : Nat) {σ : pmS} {x : Int32} : pq_RD (d + 1) 117 [vI x] σ = some (some (vI (bI (sWay x))), σ) := by
  have l0 : (0 : Int32).toInt = 0 := rfl
  by_cases x0 : x ≤ 0
  · have : ¬ (0 < x.toInt ∧ x.toInt < 262144) := by rw [fa_le] at x0; omega
    rw [show sWay x = false by simp only [sWay, this, decide_false, Bool.false_and]]
    exact (m117 d).trans ((g117_0_0 _).trans (g117_4_0 _ x0 x0))
  obtain ⟨v, hv, rfl⟩ := nI_of (x := x) (by rw [fa_lt]; rw [fa_le] at x0; omega)
  have hv0 : v ≠ 0 := by rw [nI_le0 hv] at x0; exact x0
  have small : ∀ k, v / 8 ^ k < 2 ^ 31 := fun k => Nat.lt_of_le_of_lt (Nat.div_le_self _ _) hv
  have h11 : v / 8 ^ 11 = 0 := Nat.div_eq_of_lt (Nat.lt_of_lt_of_le hv (by decide))
  have run := lp_first (C := pq_RD d) (fr := fun k => (117, 4, [some (vI (nI v)), some (vI (nI k)), some (vI (nI (v / 8 ^ k)))], [], σ)) (p := fun k => decide (v / 8 ^ k = 0) || !wq v k) (n := 11) (fun k hk hq => by
    simp only [Bool.or_eq_false_iff, decide_eq_false_iff_not, Bool.not_eq_false'] at hq
    obtain ⟨q0, q1⟩ := hq
    unfold wq at q1
    have q2 : 1 ≤ v / 8 ^ k % 8 ∧ v / 8 ^ k % 8 ≤ 5 := by simpa [q0] using q1
    have sm := small k
    refine (g117_4_4 _ (by rw [nI_le0 sm]; exact q0) (by rw [rem8 sm, nI_lt1 (by omega)]; omega) (by rw [rem8 sm, nI_le5 (by omega)]; omega)).trans ?_
    rw [quo8 sm, div8, nI_1])
  have e0 : v / 8 ^ 0 = v := by simp
  rw [e0] at run
  refine (m117 d).trans ((g117_0_0 _).trans (Eq.trans run ?_))
  have hle := fa_first_le (fun k => decide (v / 8 ^ k = 0) || !wq v k) 11
  have hno := fa_first_no (fun k => decide (v / 8 ^ k = 0) || !wq v k) 11
  have hyes := fa_first_yes (fun k => decide (v / 8 ^ k = 0) || !wq v k) 11
  generalize fa_first (fun k => decide (v / 8 ^ k = 0) || !wq v k) 11 = K at hle hno hyes
  have good : ∀ k, k < K → wq v k = true ∧ v / 8 ^ k ≠ 0 := fun k hk => by
    have := hno k hk
    simp only [Bool.or_eq_false_iff, Bool.not_eq_false', decide_eq_false_iff_not] at this
    exact ⟨this.2, this.1⟩
  have sm := small K
  have e6 : (8 : Nat) ^ 6 = 262144 := by decide
  have vi : (nI v).toInt = (v : Int) := nI_toInt hv
  by_cases z : v / 8 ^ K = 0
  · rcases Nat.lt_or_ge 6 K with h6 | h6
    · have := (good 6 h6).2
      have hbig : ¬ v < 8 ^ 6 := fun h => this (Nat.div_eq_of_lt h)
      have : ¬ (0 < (nI v).toInt ∧ (nI v).toInt < 262144) := by rw [vi]; omega
      rw [show sWay (nI v) = false by simp only [sWay, this, decide_false, Bool.false_and]]
      exact g117_4_1 _ (by rw [nI_le0 sm]; exact z) x0 (nI_lt (a := 6) h6 (by omega))
    · have hlt : v < 8 ^ 6 := by
        have := zero_up z h6
        rcases (Nat.div_eq_zero_iff).mp this with h | h
        · exact absurd h (by decide)
        · exact h
      have : 0 < (nI v).toInt ∧ (nI v).toInt < 262144 := by rw [vi]; omega
      rw [show sWay (nI v) = true by
        unfold sWay
        rw [nI_clamp hv, hfA_t.mpr (fun k _ => by
          rcases Nat.lt_or_ge k K with h | h
          · exact (good k h).1
          · simp [wq, zero_up z h])]
        simp only [this, and_self, decide_true, Bool.and_self]]
      exact g117_4_2 _ (by rw [nI_le0 sm]; exact z) x0 (nI_nlt (a := 6) h6 (by omega))
  · have hK : K < 11 := by
      rcases Nat.lt_or_ge K 11 with h | h
      · exact h
      · exact absurd (zero_up h11 h) z
    have hb : wq v K = false := by
      have := hyes hK
      simpa [z] using this
    have hb2 : ¬ (1 ≤ v / 8 ^ K % 8 ∧ v / 8 ^ K % 8 ≤ 5) := by
      unfold wq at hb
      simpa [z] using hb
    rw [show sWay (nI v) = false by
      unfold sWay
      rw [nI_clamp hv]
      cases hc : hfA (wq v) 6 with
      | false => rw [Bool.and_false]
      | true =>
        rcases Nat.lt_or_ge K 6 with h | h
        · rw [hfA_t.mp hc K h] at hb
          cases hb
        · have hbig : ¬ v < 8 ^ 6 := fun h2 => z (zero_up (Nat.div_eq_of_lt h2) h)
          have : ¬ (0 < (nI v).toInt ∧ (nI v).toInt < 262144) := by rw [vi]; omega
          simp only [this, decide_false, Bool.false_and]]
    by_cases y : v / 8 ^ K % 8 < 1
    · exact g117_4_3 _ (by rw [nI_le0 sm]; exact z) (by rw [rem8 sm, nI_lt1 (by omega)]; exact y)
    · exact g117_4_5 _ (by rw [nI_le0 sm]; exact z) (by rw [rem8 sm, nI_lt1 (by omega)]; exact y) (by rw [rem8 sm, nI_le5 (by omega)]; omega)
/-! the tables of a system, as numbers -/
def tb (f : pmI) (s k c : Nat) : Nat := (f 2 s k c).toNatClampNeg
theorem tb_ok {f : pmI} {s n : Nat} {w ch : Nat → Nat} (h : iSy f s n w ch) {k c : Nat} (hk : k ≤ 5) (hc : c < n) : f 2 s k c = nI (tb f s k c) ∧ tb f s k c < n := by
  obtain ⟨h2, h8, hwc, wi, ci, -, -, z⟩ := h
  have of : ∀ m, m < n → f 2 s k c = nI m → f 2 s k c = nI (tb f s k c) ∧ tb f s k c < n := fun m hm e => by
    unfold tb
    rw [e, nI_clamp (by omega)]
    exact ⟨rfl, hm⟩
  rcases (by omega : k = 0 ∨ k = 1 ∨ k = 2 ∨ k = 3 ∨ k = 4 ∨ k = 5) with rfl | rfl | rfl | rfl | rfl | rfl
  · exact of _ (hwc c hc).1 (z c hc).1
  · obtain ⟨j, hj, e⟩ := fb_onto (n := n) (f := w) (fun i hi => (hwc i hi).1) (fun i j hij hj e => by have := wi i j (by omega) hj e; omega) hc
    have := (z j hj).2.1
    rw [e] at this
    exact of _ hj this
  · exact of _ (hwc c hc).2 (z c hc).2.2.1
  · exact of _ (hwc _ (hwc c hc).1).2 (z c hc).2.2.2.1
  · obtain ⟨j, hj, e⟩ := fb_onto (n := n) (f := ch) (fun i hi => (hwc i hi).2) (fun i j hij hj e => by have := ci i j (by omega) hj e; omega) hc
    have := (z j hj).2.2.2.2.1
    rw [e] at this
    exact of _ hj this
  · obtain ⟨j, hj, e⟩ := fb_onto (n := n) (f := fun i => ch (w i)) (fun i hi => (hwc _ (hwc i hi).1).2) (fun i j hij hj e => by have := wi i j (by omega) hj (ci _ _ (hwc i (by omega)).1 (hwc j hj).1 e); omega) hc
    have := (z j hj).2.2.2.2.2.1
    rw [e] at this
    exact of _ hj this
theorem tb_inv {f : pmI} {s n : Nat} {w ch : Nat → Nat} (h : iSy f s n w ch) {c : Nat} (hc : c < n) : tb f s 0 c = w c ∧ tb f s 2 c = ch c ∧ tb f s 3 c = ch (w c) ∧ w (tb f s 1 c) = c ∧ ch (tb f s 4 c) = c ∧ ch (w (tb f s 5 c)) = c := by
  obtain ⟨h2, h8, hwc, wi, ci, -, -, z⟩ := h
  unfold tb
  have c1 := (hwc c hc).1
  have c2 := (hwc c hc).2
  have c3 := (hwc _ c1).2
  refine ⟨by rw [(z c hc).1, nI_clamp (by omega)], by rw [(z c hc).2.2.1, nI_clamp (by omega)], by rw [(z c hc).2.2.2.1, nI_clamp (by omega)], ?_, ?_, ?_⟩
  · obtain ⟨j, hj, e⟩ := fb_onto (n := n) (f := w) (fun i hi => (hwc i hi).1) (fun i j hij hj e => by have := wi i j (by omega) hj e; omega) hc
    have := (z j hj).2.1
    rw [e] at this
    rw [this, nI_clamp (by omega), e]
  · obtain ⟨j, hj, e⟩ := fb_onto (n := n) (f := ch) (fun i hi => (hwc i hi).2) (fun i j hij hj e => by have := ci i j (by omega) hj e; omega) hc
    have := (z j hj).2.2.2.2.1
    rw [e] at this
    rw [this, nI_clamp (by omega), e]
  · obtain ⟨j, hj, e⟩ := fb_onto (n := n) (f := fun i => ch (w i)) (fun i hi => (hwc _ (hwc i hi).1).2) (fun i j hij hj e => by have := wi i j (by omega) hj (ci _ _ (hwc i (by omega)).1 (hwc j hj).1 e); omega) hc
    have := (z j hj).2.2.2.2.2.1
    rw [e] at this
    rw [this, nI_clamp (by omega), e]
/-- one step: class and sex behind it -/
def stC (f : pmI) (s c x d : Nat) : Nat := if d = 1 then tb f s 5 c else if d = 2 then tb f s 4 c else if d = 3 then (if x = 0 then tb f s 0 c else tb f s 1 c) else (if x = 0 then tb f s 3 c else tb f s 2 c)
def stX (x d : Nat) : Nat := if d = 3 then 1 - x else if d = 2 then 1 else if d = 5 then 1 else 0
theorem stC_lt {f : pmI} {s n : Nat} {w ch : Nat → Nat} (h : iSy f s n w ch) {c x d : Nat} (hc : c < n) : stC f s c x d < n := by
  unfold stC
  split
  · exact (tb_ok h (by omega) hc).2
  · split
    · exact (tb_ok h (by omega) hc).2
    · split
      · split
        · exact (tb_ok h (by omega) hc).2
        · exact (tb_ok h (by omega) hc).2
      · split
        · exact (tb_ok h (by omega) hc).2
        · exact (tb_ok h (by omega) hc).2
theorem stX_lt {x d : Nat} (h : x < 2) : stX x d < 2 := by
  unfold stX
  split
  · omega
  · split
    · omega
    · split <;> omega
theorem place_c {c x : Nat} (hc : c < 8) (hx : x < 2) : nI (2 * c + x) >>> ((1 : Int32) &&& 31) = nI c := by
  have := pk_shrN (n := 2 * c + x) (by omega) ((1 : Int32) &&& 31) 1 rfl
  rw [this]
  congr 1
  omega
theorem place_x {c x : Nat} (hc : c < 8) (hx : x < 2) : nI (2 * c + x) &&& (1 : Int32) = nI x := by
  have := pk_andN (n := 2 * c + x) (by omega) (m := 1) 1 rfl
  rw [this]
  congr 1
  omega
theorem two_mul_nI (a b : Nat) : (2 : Int32) * nI a + nI b = nI (2 * a + b) := by
  show nI 2 * nI a + nI b = _
  rw [pk_mul, nI_add]
theorem c11 (d : Nat) {σ : pmS} {s n : Nat} {w ch : Nat → Nat} (h : iSy σ.1 s n w ch) {c x e : Nat} (hc : c < n) (hx : x < 2) (he1 : 1 ≤ e) (he5 : e ≤ 5) : pq_RD (d + 3) 11 [vR 2 s 0, vI (nI (2 * c + x)), vI (nI e)] σ = some (some (vI (nI (2 * stC σ.1 s c x e + stX x e))), σ) := by
  have h8 := h.2.1
  have z1 := h.2.2.2.2.2.1
  have ec : (nI c).toNatClampNeg = c := nI_clamp (by omega)
  have pc := place_c (c := c) (x := x) (by omega) hx
  have px := place_x (c := c) (x := x) (by omega) hx
  have vc : vp_in (nI (2 * c + x) >>> ((1 : Int32) &&& 31)) 8 := by rw [pc]; exact vp_in_nI (by omega) (by omega)
  have t : ∀ k, k ≤ 5 → σ.1 2 s k ((nI (2 * c + x) >>> ((1 : Int32) &&& 31))).toNatClampNeg = nI (tb σ.1 s k c) := fun k hk => by rw [pc, ec]; exact (tb_ok h hk hc).1
  have k10 := c10 d (σ := σ) (o := s) (x1 := nI c) (x2 := nI x) h8 z1
  unfold sCh at k10
  rw [z1, sHas_nI (by omega) hc, if_pos rfl, ec] at k10
  rcases (by omega : e = 1 ∨ e = 2 ∨ e = 3 ∨ e = 4 ∨ e = 5) with rfl | rfl | rfl | rfl | rfl
  · refine (m11 (d + 2)).trans ((g11_0_0 _ rfl vc).trans ?_)
    rw [t 5 (by omega)]
    exact congrArg (fun q => some (some (vI q), σ)) (two_mul_nI _ 0)
  · refine (m11 (d + 2)).trans ((g11_0_1 _ rfl vc).trans ?_)
    rw [t 4 (by omega)]
    exact congrArg (fun q => some (some (vI q), σ)) (two_mul_nI _ 1)
  · rcases (by omega : x = 0 ∨ x = 1) with rfl | rfl
    · refine (m11 (d + 2)).trans ((g11_0_2 _ rfl (by rw [px]; rfl) vc).trans ?_)
      rw [t 0 (by omega)]
      exact congrArg (fun q => some (some (vI q), σ)) (two_mul_nI _ 1)
    · refine (m11 (d + 2)).trans ((g11_0_3 _ rfl (by rw [px]; decide) vc).trans ?_)
      rw [t 1 (by omega)]
      exact congrArg (fun q => some (some (vI q), σ)) (two_mul_nI _ 0)
  · rw [← pc, ← px] at k10
    refine (m11 (d + 2)).trans ((g11_0_4 _ rfl k10).trans ?_)
    rw [px]
    rcases (by omega : x = 0 ∨ x = 1) with rfl | rfl
    · rw [if_neg (by decide), (tb_ok h (k := 3) (by omega) hc).1]
      exact congrArg (fun q => some (some (vI q), σ)) (two_mul_nI _ 0)
    · rw [if_pos (show nI 1 = (1 : Int32) from rfl), (tb_ok h (k := 2) (by omega) hc).1]
      exact congrArg (fun q => some (some (vI q), σ)) (two_mul_nI _ 0)
  · rw [← pc, ← px] at k10
    refine (m11 (d + 2)).trans ((g11_0_5 _ (by decide) (by decide) (by decide) (by decide) k10).trans ?_)
    rw [px]
    rcases (by omega : x = 0 ∨ x = 1) with rfl | rfl
    · rw [if_neg (by decide), (tb_ok h (k := 3) (by omega) hc).1]
      exact congrArg (fun q => some (some (vI q), σ)) (two_mul_nI _ 1)
    · rw [if_pos (show nI 1 = (1 : Int32) from rfl), (tb_ok h (k := 2) (by omega) hc).1]
      exact congrArg (fun q => some (some (vI q), σ)) (two_mul_nI _ 1)
