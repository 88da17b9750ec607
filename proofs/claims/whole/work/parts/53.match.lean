/-! match: couples, greatest by a certificate of sets -/
theorem ct_inj {p q : Nat → Bool} {n : Nat} {f : Nat → Nat} (hf : ∀ i, i < n → p i = true → f i < n ∧ q (f i) = true) (inj : ∀ i j, i < n → j < n → p i = true → p j = true → f i = f j → i = j) : fb_ct p n ≤ fb_ct q n := by
  have : ∀ k, ∃ i, k < fb_ct p n → i < n ∧ p i = true ∧ fb_ct p i = k := fun k => by
    by_cases h : k < fb_ct p n
    · obtain ⟨i, hi⟩ := fb_ct_kth h
      exact ⟨i, fun _ => hi⟩
    · exact ⟨0, fun z => absurd z h⟩
  obtain ⟨g, hg⟩ := Classical.axiomOfChoice this
  refine fb_holes (fb_ct q n) (fb_ct p n) (fun k => fb_ct q (f (g k))) (fun k hk => ?_) (fun i j hij hj e => ?_)
  · obtain ⟨h1, h2, -⟩ := hg k hk
    obtain ⟨h3, h4⟩ := hf _ h1 h2
    have := fb_ct_mono q (m := f (g k) + 1) (n := n) (by omega)
    rw [fb_ct_succ, if_pos h4] at this
    omega
  · obtain ⟨h1, h2, h3⟩ := hg i (by omega)
    obtain ⟨k1, k2, k3⟩ := hg j hj
    have := fb_ct_kth_one (hf _ h1 h2).2 (hf _ k1 k2).2 e
    have := inj _ _ h1 k1 h2 k2 this
    rw [this] at h3
    omega
def mG (E : Nat → Nat → Bool) (M : Nat → Bool) : Prop := ∀ p q, E p q = true → p < 48 ∧ q < 48 ∧ M p = true ∧ M q = false
/-- who is coupled with whom; 48 is none -/
def mT (E : Nat → Nat → Bool) (h : Nat → Nat) : Prop := ∀ p, p < 48 → h p < 48 → h (h p) = p ∧ (E p (h p) = true ∨ E (h p) p = true)
def mS (M : Nat → Bool) (h : Nat → Nat) : Nat := fb_ct (fun p => M p && decide (h p < 48)) 48
theorem mT_m {E : Nat → Nat → Bool} {M : Nat → Bool} {h : Nat → Nat} (hG : mG E M) (hT : mT E h) {p : Nat} (hp : p < 48) (hm : M p = true) (hh : h p < 48) : h (h p) = p ∧ E p (h p) = true ∧ M (h p) = false := by
  obtain ⟨h1, h2⟩ := hT p hp hh
  rcases h2 with q | q
  · exact ⟨h1, q, (hG _ _ q).2.2.2⟩
  · rw [(hG _ _ q).2.2.2] at hm
    cases hm
theorem mT_w {E : Nat → Nat → Bool} {M : Nat → Bool} {h : Nat → Nat} (hG : mG E M) (hT : mT E h) {p : Nat} (hp : p < 48) (hm : M p = false) (hh : h p < 48) : h (h p) = p ∧ E (h p) p = true ∧ M (h p) = true := by
  obtain ⟨h1, h2⟩ := hT p hp hh
  rcases h2 with q | q
  · rw [(hG _ _ q).2.2.1] at hm
    cases hm
  · exact ⟨h1, q, (hG _ _ q).2.2.1⟩
/-- the men R reach the women W and no others; all other men below k are coupled, or may marry none -/
def mC (E : Nat → Nat → Bool) (M D : Nat → Bool) (h : Nat → Nat) (R W : Nat → Bool) (k : Nat) : Prop := (∀ p, p < 48 → p < k → M p = true → D p = false → R p = false → ¬ h p < 48 → ∀ w, E p w = false) ∧ (∀ p w, R p = true → E p w = true → D w = false → W w = true) ∧ (∀ w, w < 48 → W w = true → h w < 48 ∧ R (h w) = true ∧ D w = false ∧ M w = false) ∧ (∀ p, p < 48 → R p = true → h p < 48 → W (h p) = true) ∧ ∀ p, R p = true → M p = true ∧ D p = false
theorem mC_max {E : Nat → Nat → Bool} {M D : Nat → Bool} {h h' : Nat → Nat} {R W : Nat → Bool} (hG : mG E M) (hT : mT E h) (hC : mC E M D h R W 48) (hT' : mT E h') (hD : ∀ p, p < 48 → D p = true → h' p = h p) : mS M h' ≤ mS M h := by
  obtain ⟨c1, c2, c3, c4, c5⟩ := hC
  have key : ∀ p, p < 48 → M p = true → h' p < 48 → R p = true → W (h' p) = true ∧ h (h' p) < 48 ∧ R (h (h' p)) = true ∧ h (h (h' p)) = h' p := fun p hp hm hh hr => by
    obtain ⟨t1, t2, t3⟩ := mT_m hG hT' hp hm hh
    have dw : D (h' p) = false := by
      cases hd : D (h' p) with
      | false => rfl
      | true =>
        have e := hD _ hh hd
        rw [t1] at e
        have hhw : h (h' p) < 48 := by omega
        have e2 := (mT_w hG hT hh t3 hhw).1
        rw [← e] at e2
        have := c4 p hp hr (by omega)
        rw [e2] at this
        have := (c3 _ hh this).2.2.1
        rw [hd] at this
        cases this
    have hw := c2 p _ hr t2 dw
    obtain ⟨w1, w2, -⟩ := c3 _ hh hw
    exact ⟨hw, w1, w2, (mT_w hG hT hh t3 w1).1⟩
  refine ct_inj (f := fun p => if R p = true then h (h' p) else p) (fun p hp hq => ?_) (fun p p2 hp hp2 hq hq2 e => ?_)
  · obtain ⟨hm, hh⟩ : M p = true ∧ h' p < 48 := by simpa using hq
    show (if R p = true then h (h' p) else p) < 48 ∧ (M (if R p = true then h (h' p) else p) && decide (h (if R p = true then h (h' p) else p) < 48)) = true
    cases hr : R p with
    | true =>
      rw [if_pos rfl]
      obtain ⟨k1, k2, k3, k4⟩ := key p hp hm hh hr
      refine ⟨k2, ?_⟩
      rw [(c5 _ k3).1, k4]
      simpa using hh
    | false =>
      rw [if_neg (by decide)]
      refine ⟨hp, ?_⟩
      have hhp : h p < 48 := by
        cases hd : D p with
        | true =>
          rw [← hD p hp hd]
          exact hh
        | false =>
          rcases Classical.em (h p < 48) with z | z
          · exact z
          · have := c1 p hp hp hm hd hr z (h' p)
            rw [(mT_m hG hT' hp hm hh).2.1] at this
            cases this
      simp [hm, hhp]
  · obtain ⟨hm, hh⟩ : M p = true ∧ h' p < 48 := by simpa using hq
    obtain ⟨hm2, hh2⟩ : M p2 = true ∧ h' p2 < 48 := by simpa using hq2
    have e : (if R p = true then h (h' p) else p) = if R p2 = true then h (h' p2) else p2 := e
    cases hr : R p with
    | true =>
      obtain ⟨k1, k2, k3, k4⟩ := key p hp hm hh hr
      cases hr2 : R p2 with
      | true =>
        obtain ⟨j1, j2, j3, j4⟩ := key p2 hp2 hm2 hh2 hr2
        rw [hr, hr2, if_pos rfl, if_pos rfl] at e
        have : h' p = h' p2 := by rw [← k4, ← j4, e]
        rw [← (mT_m hG hT' hp hm hh).1, this, (mT_m hG hT' hp2 hm2 hh2).1]
      | false =>
        rw [hr, hr2, if_pos rfl, if_neg (by decide)] at e
        rw [e, hr2] at k3
        cases k3
    | false =>
      cases hr2 : R p2 with
      | true =>
        obtain ⟨j1, j2, j3, j4⟩ := key p2 hp2 hm2 hh2 hr2
        rw [hr, hr2, if_neg (by decide), if_pos rfl] at e
        rw [← e, hr] at j3
        cases j3
      | false =>
        rw [hr, hr2, if_neg (by decide), if_neg (by decide)] at e
        exact e
/-! the search in breadth: queue q of z men, women V reached from fr, at the place qi of the queue; at, and women below wl, looked at -/
def mB (E : Nat → Nat → Bool) (M D : Nat → Bool) (h q : Nat → Nat) (z : Nat) (fr : Nat → Nat) (V : Nat → Bool) (qi : Nat → Nat) (a wl : Nat) : Prop := z ≤ 48 ∧ (∀ i, i < z → q i < 48 ∧ M (q i) = true ∧ D (q i) = false) ∧ (∀ i j, i < j → j < z → q i ≠ q j) ∧ (∀ u, u < 48 → V u = true → qi u < z ∧ qi u ≤ a ∧ fr u = q (qi u) ∧ E (fr u) u = true ∧ D u = false ∧ h u < 48 ∧ ∃ j, j < z ∧ q j = h u) ∧ (∀ j, j < z → h (q j) < 48 → V (h (q j)) = true ∧ qi (h (q j)) < j) ∧ (∀ i w, i < a → i < z → E (q i) w = true → D w = false → V w = true) ∧ ∀ w, w < wl → a < z → E (q a) w = true → D w = false → V w = true
theorem mB_skip {E : Nat → Nat → Bool} {M D : Nat → Bool} {h q : Nat → Nat} {z : Nat} {fr : Nat → Nat} {V : Nat → Bool} {qi : Nat → Nat} {a wl : Nat} (hB : mB E M D h q z fr V qi a wl) (hs : E (q a) wl = true → D wl = false → V wl = true) : mB E M D h q z fr V qi a (wl + 1) := by
  obtain ⟨b0, b1, b2, b3, b4, b5, b6⟩ := hB
  refine ⟨b0, b1, b2, b3, b4, b5, fun w hw ha he hd => ?_⟩
  rcases Nat.lt_or_ge w wl with k | k
  · exact b6 w k ha he hd
  · have : w = wl := by omega
    subst this
    exact hs he hd
theorem mB_next {E : Nat → Nat → Bool} {M D : Nat → Bool} {h q : Nat → Nat} {z : Nat} {fr : Nat → Nat} {V : Nat → Bool} {qi : Nat → Nat} {a wl : Nat} (hw : ∀ w, wl ≤ w → E (q a) w = true → D w = false → V w = true) (hB : mB E M D h q z fr V qi a wl) : mB E M D h q z fr V qi (a + 1) 0 := by
  obtain ⟨b0, b1, b2, b3, b4, b5, b6⟩ := hB
  refine ⟨b0, b1, b2, fun u hu hv => ?_, b4, fun i w hi hz he hd => ?_, fun w hw0 => by omega⟩
  · obtain ⟨k1, k2, k3⟩ := b3 u hu hv
    exact ⟨k1, by omega, k3⟩
  · rcases Nat.lt_or_ge i a with k | k
    · exact b5 i w k hz he hd
    · have : i = a := by omega
      subst this
      rcases Nat.lt_or_ge w wl with k2 | k2
      · exact b6 w k2 hz he hd
      · exact hw w k2 he hd
theorem mB_add {E : Nat → Nat → Bool} {M D : Nat → Bool} {h q : Nat → Nat} {z : Nat} {fr : Nat → Nat} {V : Nat → Bool} {qi : Nat → Nat} {a wl : Nat} (hG : mG E M) (hT : mT E h) (hDp : ∀ w, w < 48 → D w = false → h w < 48 → D (h w) = false) (hB : mB E M D h q z fr V qi a wl) (ha : a < z) (he : E (q a) wl = true) (hd : D wl = false) (hv : V wl = false) (hh : h wl < 48) : z < 48 ∧ mB E M D h (fun j => if j = z then h wl else q j) (z + 1) (fun u => if u = wl then q a else fr u) (fun u => if u = wl then true else V u) (fun u => if u = wl then a else qi u) a (wl + 1) := by
  obtain ⟨b0, b1, b2, b3, b4, b5, b6⟩ := hB
  obtain ⟨-, hwl, -, hwm⟩ := hG _ _ he
  obtain ⟨t1, t2, t3⟩ := mT_w hG hT hwl hwm hh
  have fresh : ∀ j, j < z → q j ≠ h wl := fun j hj e => by
    have : h (q j) = wl := by rw [e]; exact t1
    have := (b4 j hj (by omega)).1
    rw [‹h (q j) = wl›, hv] at this
    cases this
  have hz : z < 48 := by
    rcases Nat.lt_or_ge z 48 with k | k
    · exact k
    · have e : z = 48 := by omega
      subst e
      obtain ⟨j, hj, ej⟩ := fb_onto (fun i hi => (b1 i hi).1) b2 hh
      exact absurd ej (fresh j hj)
  have Q : ∀ j, j < z → (fun j => if j = z then h wl else q j) j = q j := fun j hj => by
    show (if j = z then h wl else q j) = q j
    rw [if_neg (by omega)]
  have Qz : (fun j => if j = z then h wl else q j) z = h wl := by simp
  have Vo : ∀ u, V u = true → u ≠ wl := fun u hu e => by
    rw [e, hv] at hu
    cases hu
  refine ⟨hz, by omega, fun i hi => ?_, fun i j hij hj => ?_, fun u hu hvu => ?_, fun j hj hhj => ?_, fun i w hi hz2 hE hDw => ?_, fun w hw ha2 hE hDw => ?_⟩
  · rcases Nat.lt_or_ge i z with k | k
    · rw [Q i k]
      exact b1 i k
    · have : i = z := by omega
      subst this
      rw [Qz]
      exact ⟨hh, t3, hDp wl hwl hd hh⟩
  · rcases Nat.lt_or_ge j z with k | k
    · rw [Q i (by omega), Q j k]
      exact b2 i j hij k
    · have : j = z := by omega
      subst this
      rw [Qz, Q i hij]
      exact fresh i hij
  · by_cases e : u = wl
    · subst e
      show (if u = u then a else qi u) < z + 1 ∧ (if u = u then a else qi u) ≤ a ∧ (if u = u then q a else fr u) = (fun j => if j = z then h u else q j) (if u = u then a else qi u) ∧ E (if u = u then q a else fr u) u = true ∧ D u = false ∧ h u < 48 ∧ ∃ j, j < z + 1 ∧ (fun j => if j = z then h u else q j) j = h u
      rw [if_pos rfl, if_pos rfl, Q a ha]
      exact ⟨by omega, by omega, rfl, he, hd, hh, z, by omega, Qz⟩
    · have hvu : V u = true := by
        have : (if u = wl then true else V u) = true := hvu
        rwa [if_neg e] at this
      obtain ⟨k1, k2, k3, k4, k5, k6, j, hj, ej⟩ := b3 u hu hvu
      show (if u = wl then a else qi u) < z + 1 ∧ (if u = wl then a else qi u) ≤ a ∧ (if u = wl then q a else fr u) = (fun j => if j = z then h wl else q j) (if u = wl then a else qi u) ∧ E (if u = wl then q a else fr u) u = true ∧ D u = false ∧ h u < 48 ∧ ∃ j, j < z + 1 ∧ (fun j => if j = z then h wl else q j) j = h u
      rw [if_neg e, if_neg e, Q _ k1]
      exact ⟨by omega, k2, k3, k4, k5, k6, j, by omega, by rw [Q j hj]; exact ej⟩
  · rcases Nat.lt_or_ge j z with k | k
    · rw [Q j k] at hhj ⊢
      obtain ⟨v1, v2⟩ := b4 j k hhj
      have ne := Vo _ v1
      show (if h (q j) = wl then true else V (h (q j))) = true ∧ (if h (q j) = wl then a else qi (h (q j))) < j
      rw [if_neg ne, if_neg ne]
      exact ⟨v1, v2⟩
    · have : j = z := by omega
      subst this
      rw [Qz] at hhj ⊢
      show (if h (h wl) = wl then true else V (h (h wl))) = true ∧ (if h (h wl) = wl then a else qi (h (h wl))) < j
      rw [t1, if_pos rfl, if_pos rfl]
      exact ⟨rfl, ha⟩
  · show (if w = wl then true else V w) = true
    rw [Q i (by omega)] at hE
    by_cases e : w = wl
    · rw [if_pos e]
    · rw [if_neg e]
      exact b5 i w hi (by omega) hE hDw
  · show (if w = wl then true else V w) = true
    rw [Q a ha] at hE
    by_cases e : w = wl
    · rw [if_pos e]
    · rw [if_neg e]
      exact b6 w (by omega) ha hE hDw
/-- the men that a queue holds -/
def mQ (q : Nat → Nat) (z p : Nat) : Bool := decide (∃ i, i < z ∧ q i = p)
theorem mQ_t {q : Nat → Nat} {z p : Nat} : mQ q z p = true ↔ ∃ i, i < z ∧ q i = p := decide_eq_true_iff
/-- a search that has come to its end is a certificate -/
theorem mB_end {E : Nat → Nat → Bool} {M D : Nat → Bool} {h q : Nat → Nat} {z : Nat} {fr : Nat → Nat} {V : Nat → Bool} {qi : Nat → Nat} {a wl : Nat} (hG : mG E M) (hB : mB E M D h q z fr V qi a wl) (ha : z ≤ a) : (∀ p w, mQ q z p = true → E p w = true → D w = false → V w = true) ∧ (∀ w, w < 48 → V w = true → h w < 48 ∧ mQ q z (h w) = true ∧ D w = false ∧ M w = false) ∧ (∀ p, p < 48 → mQ q z p = true → h p < 48 → V (h p) = true) ∧ ∀ p, mQ q z p = true → M p = true ∧ D p = false := by
  obtain ⟨b0, b1, b2, b3, b4, b5, b6⟩ := hB
  refine ⟨fun p w hp he hd => ?_, fun w hw hv => ?_, fun p hp hq hh => ?_, fun p hp => ?_⟩
  · obtain ⟨i, hi, rfl⟩ := mQ_t.mp hp
    exact b5 i w (by omega) hi he hd
  · obtain ⟨k1, k2, k3, k4, k5, k6, k7⟩ := b3 w hw hv
    exact ⟨k6, mQ_t.mpr k7, k5, (hG _ _ k4).2.2.2⟩
  · obtain ⟨i, hi, rfl⟩ := mQ_t.mp hq
    exact (b4 i hi hh).1
  · obtain ⟨i, hi, rfl⟩ := mQ_t.mp hp
    exact (b1 i hi).2
/-! the change along the way found -/
def mF (E : Nat → Nat → Bool) (M D R W : Nat → Bool) (fr : Nat → Nat) (V : Nat → Bool) (rk h0 h : Nat → Nat) (w : Nat) : Prop := w < 48 ∧ V w = true ∧ W w = false ∧ D w = false ∧ M w = false ∧ (∀ p, p < 48 → p ≠ w → h p < 48 → h (h p) = p ∧ h p ≠ w ∧ (E p (h p) = true ∨ E (h p) p = true)) ∧ (∀ u, u < 48 → V u = true → rk u ≤ rk w → E (fr u) u = true ∧ D (fr u) = false ∧ (h (fr u) < 48 → V (h (fr u)) = true ∧ rk (h (fr u)) < rk u ∧ D (h (fr u)) = false)) ∧ (∀ p, p < 48 → D p = true ∨ R p = true ∨ W p = true → h p = h0 p) ∧ ∀ p, p < 48 → M p = true → (h p < 48 ↔ h0 p < 48)
def hC (h : Nat → Nat) (m w p : Nat) : Nat := if p = w then m else if p = m then w else h p
theorem mF_step {E : Nat → Nat → Bool} {M D R W : Nat → Bool} {fr : Nat → Nat} {V : Nat → Bool} {rk h0 h : Nat → Nat} {w : Nat} (hG : mG E M) (hRW : (∀ p w, R p = true → E p w = true → D w = false → W w = true) ∧ (∀ w, w < 48 → W w = true → h0 w < 48 ∧ R (h0 w) = true ∧ D w = false ∧ M w = false) ∧ ∀ p, R p = true → M p = true) (hF : mF E M D R W fr V rk h0 h w) : fr w < 48 ∧ M (fr w) = true ∧ D (fr w) = false ∧ (¬ h (fr w) < 48 → mT E (hC h (fr w) w) ∧ (∀ p, p < 48 → D p = true ∨ R p = true ∨ W p = true → hC h (fr w) w p = h0 p) ∧ (∀ p, p < 48 → M p = true → (hC h (fr w) w p < 48 ↔ h0 p < 48 ∨ p = fr w)) ∧ ¬ h0 (fr w) < 48) ∧ (h (fr w) < 48 → mF E M D R W fr V rk h0 (hC h (fr w) w) (h (fr w)) ∧ rk (h (fr w)) < rk w) := by
  obtain ⟨f0, fv, fW, fD, fM, f1, f2, f5, f6⟩ := hF
  obtain ⟨e1, e2, e3⟩ := f2 w f0 fv (Nat.le_refl _)
  obtain ⟨hm, -, mM, -⟩ := hG _ _ e1
  have mR : R (fr w) = false := by
    cases hr : R (fr w) with
    | false => rfl
    | true =>
      have := hRW.1 _ _ hr e1 fD
      rw [fW] at this
      cases this
  generalize fr w = m at e1 e2 e3 hm mM mR ⊢
  have mw : m ≠ w := fun z => by
    rw [z, fM] at mM
    cases mM
  have Rw : R w = false := by
    cases hr : R w with
    | false => rfl
    | true =>
      have := hRW.2.2 _ hr
      rw [fM] at this
      cases this
  have Wm : W m = false := by
    cases hr : W m with
    | false => rfl
    | true =>
      have := (hRW.2.1 _ hm hr).2.2.2
      rw [mM] at this
      cases this
  have Cw : hC h m w w = m := by unfold hC; rw [if_pos rfl]
  have Cm : hC h m w m = w := by unfold hC; rw [if_neg mw, if_pos rfl]
  have Co : ∀ p, p ≠ w → p ≠ m → hC h m w p = h p := fun p h1 h2 => by unfold hC; rw [if_neg h1, if_neg h2]
  have keep : ∀ p, p < 48 → D p = true ∨ R p = true ∨ W p = true → hC h m w p = h0 p := fun p hp hq => by
    rw [Co p (fun z => by subst z; rw [fD, Rw, fW] at hq; simp at hq) (fun z => by subst z; rw [e2, mR, Wm] at hq; simp at hq)]
    exact f5 p hp hq
  refine ⟨hm, mM, e2, fun hn => ⟨fun p hp hh => ?_, keep, fun p hp hM => ?_, fun z => hn ((f6 m hm mM).mpr z)⟩, fun hh => ?_⟩
  · by_cases p1 : p = w
    · subst p1
      rw [Cw, Cm]
      exact ⟨rfl, Or.inr e1⟩
    · by_cases p2 : p = m
      · subst p2
        rw [Cm, Cw]
        exact ⟨rfl, Or.inl e1⟩
      · rw [Co p p1 p2] at hh ⊢
        obtain ⟨k1, k2, k3⟩ := f1 p hp p1 hh
        have : h p ≠ m := fun z => by
          rw [z] at k1
          exact hn (by omega)
        rw [Co _ k2 this]
        exact ⟨k1, k3⟩
  · by_cases p1 : p = w
    · subst p1
      rw [fM] at hM
      cases hM
    · by_cases p2 : p = m
      · subst p2
        rw [Cm]
        exact ⟨fun _ => Or.inr rfl, fun _ => f0⟩
      · rw [Co p p1 p2, f6 p hp hM]
        exact ⟨fun z => Or.inl z, fun z => by
          rcases z with z | z
          · exact z
          · exact absurd z p2⟩
  · obtain ⟨v1, v2, v3⟩ := e3 hh
    obtain ⟨k1, k2, k3⟩ := f1 m hm mw hh
    have kM : M (h m) = false := by
      rcases k3 with q | q
      · exact (hG _ _ q).2.2.2
      · rw [(hG _ _ q).2.2.2] at mM
        cases mM
    have kW : W (h m) = false := by
      cases hr : W (h m) with
      | false => rfl
      | true =>
        have a1 := f5 _ hh (Or.inr (Or.inr hr))
        rw [k1] at a1
        have := (hRW.2.1 _ hh hr).2.1
        rw [← a1, mR] at this
        cases this
    have nm : h m ≠ m := fun z => by
      rw [z, mM] at kM
      cases kM
    refine ⟨⟨hh, v1, kW, v3, kM, fun p hp hpw hhp => ?_, fun u hu hv hrk => ?_, keep, fun p hp hM => ?_⟩, v2⟩
    · by_cases p1 : p = w
      · subst p1
        rw [Cw, Cm]
        exact ⟨rfl, fun z => nm z.symm, Or.inr e1⟩
      · by_cases p2 : p = m
        · subst p2
          rw [Cm, Cw]
          exact ⟨rfl, fun z => k2 z.symm, Or.inl e1⟩
        · rw [Co p p1 p2] at hhp ⊢
          obtain ⟨j1, j2, j3⟩ := f1 p hp p1 hhp
          have : h p ≠ m := fun z => by
            rw [z] at j1
            exact hpw j1.symm
          rw [Co _ j2 this]
          refine ⟨j1, fun z => ?_, j3⟩
          rw [z, k1] at j1
          exact p2 j1.symm
    · obtain ⟨a1, a2, a3⟩ := f2 u hu hv (by omega)
      have n1 : fr u ≠ m := fun z => by
        rw [z] at a3
        have := (a3 hh).2.1
        omega
      have n2 : fr u ≠ w := fun z => by
        have := (hG _ _ a1).2.2.1
        rw [z, fM] at this
        cases this
      rw [Co _ n2 n1]
      exact ⟨a1, a2, a3⟩
    · by_cases p1 : p = w
      · subst p1
        rw [fM] at hM
        cases hM
      · by_cases p2 : p = m
        · subst p2
          rw [Cm, ← f6 p hp hM]
          exact ⟨fun _ => hh, fun _ => f0⟩
        · rw [Co p p1 p2]
          exact f6 p hp hM
/-- the woman who ends the search -/
theorem mB_hit {E : Nat → Nat → Bool} {M D R W : Nat → Bool} {h q : Nat → Nat} {z : Nat} {fr : Nat → Nat} {V : Nat → Bool} {qi : Nat → Nat} {a wl : Nat} (hG : mG E M) (hT : mT E h) (hW : ∀ w, w < 48 → W w = true → h w < 48) (hB : mB E M D h q z fr V qi a wl) (ha : a < z) (he : E (q a) wl = true) (hd : D wl = false) (hh : ¬ h wl < 48) : mF E M D R W (fun u => if u = wl then q a else fr u) (fun u => if u = wl then true else V u) (fun u => if u = wl then a else qi u) h h wl := by
  obtain ⟨b0, b1, b2, b3, b4, b5, b6⟩ := hB
  obtain ⟨-, hwl, -, hwm⟩ := hG _ _ he
  have Vo : ∀ u, u < 48 → V u = true → u ≠ wl := fun u hu48 hu e => by
    have := (b3 u hu48 hu).2.2.2.2.2.1
    rw [e] at this
    exact hh this
  refine ⟨hwl, by simp, ?_, hd, hwm, fun p hp hpw hhp => ?_, fun u hu hv hrk => ?_, fun p _ _ => rfl, fun p _ _ => Iff.rfl⟩
  · cases hr : W wl with
    | false => rfl
    | true => exact absurd (hW wl hwl hr) hh
  · obtain ⟨t1, t2⟩ := hT p hp hhp
    refine ⟨t1, fun e => ?_, t2⟩
    rw [e] at t1
    exact hh (by omega)
  · have goal : ∀ j, j < z → h (q j) < 48 → (if h (q j) = wl then true else V (h (q j))) = true ∧ (if h (q j) = wl then a else qi (h (q j))) < j ∧ D (h (q j)) = false := fun j hj hhj => by
      obtain ⟨v1, v2⟩ := b4 j hj hhj
      have ne := Vo _ hhj v1
      rw [if_neg ne, if_neg ne]
      exact ⟨v1, v2, (b3 _ hhj v1).2.2.2.2.1⟩
    by_cases e : u = wl
    · subst e
      show E (if u = u then q a else fr u) u = true ∧ D (if u = u then q a else fr u) = false ∧ (h (if u = u then q a else fr u) < 48 → (if h (if u = u then q a else fr u) = u then true else V (h (if u = u then q a else fr u))) = true ∧ (if h (if u = u then q a else fr u) = u then a else qi (h (if u = u then q a else fr u))) < (if u = u then a else qi u) ∧ D (h (if u = u then q a else fr u)) = false)
      rw [if_pos rfl, if_pos rfl]
      exact ⟨he, (b1 a ha).2.2, goal a ha⟩
    · have hv : V u = true := by
        have : (if u = wl then true else V u) = true := hv
        rwa [if_neg e] at this
      obtain ⟨k1, k2, k3, k4, k5, k6, -⟩ := b3 u hu hv
      show E (if u = wl then q a else fr u) u = true ∧ D (if u = wl then q a else fr u) = false ∧ (h (if u = wl then q a else fr u) < 48 → (if h (if u = wl then q a else fr u) = wl then true else V (h (if u = wl then q a else fr u))) = true ∧ (if h (if u = wl then q a else fr u) = wl then a else qi (h (if u = wl then q a else fr u))) < (if u = wl then a else qi u) ∧ D (h (if u = wl then q a else fr u)) = false)
      rw [if_neg e, if_neg e]
      refine ⟨k4, by rw [k3]; exact (b1 _ k1).2.2, ?_⟩
      rw [k3]
      exact goal _ k1
/-- one couple more -/
theorem mS_more {M : Nat → Bool} {h h' : Nat → Nat} {s : Nat} (hs : s < 48) (hM : M s = true) (h1 : ¬ h s < 48) (h2 : ∀ p, p < 48 → M p = true → (h' p < 48 ↔ h p < 48 ∨ p = s)) : mS M h' = mS M h + 1 := by
  have u := fb_ct_upd (fun p => M p && decide (h p < 48)) true (i := s) (n := 48) hs
  have e : fb_ct (fun p => M p && decide (h' p < 48)) 48 = fb_ct (fun k => if k = s then true else (M k && decide (h k < 48))) 48 := fb_ct_cong (fun k hk => by
    show (M k && decide (h' k < 48)) = if k = s then true else (M k && decide (h k < 48))
    by_cases q : k = s
    · rw [if_pos q, q, hM, decide_eq_true ((h2 s hs hM).mpr (Or.inr rfl))]
      rfl
    · rw [if_neg q]
      cases hMk : M k with
      | false => rfl
      | true =>
        have : (h' k < 48) ↔ (h k < 48) := by
          rw [h2 k hk hMk]
          exact ⟨fun z => by rcases z with z | z; exact z; exact absurd z q, fun z => Or.inl z⟩
        simp [this])
  unfold mS
  rw [e]
  simp only [h1, decide_false, Bool.and_false, Bool.false_eq_true, if_false, if_true, Nat.add_zero] at u
  exact u
