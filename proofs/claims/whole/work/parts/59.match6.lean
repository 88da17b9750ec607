/-! match: the class's search -/
def mZ (E : Nat → Nat → Bool) (SM SW : Nat → Bool) (h : Nat → Nat) (σ : pmS) : Prop := (∀ p, p < 48 → σ.1 3 0 1 p = enc (h p)) ∧ (∀ m, m < 48 → σ.2 3 0 0 m = ls (E m)) ∧ σ.2 3 0 5 0 = ls SM ∧ σ.2 3 0 6 0 = ls SW
def dD (M SM SW : Nat → Bool) (p : Nat) : Bool := if M p = true then SM p else SW p
/-- only scratch of the matching, and its partners, are written -/
def oM (τ σ : pmS) : Prop := (∀ c o k, ¬ (c = 3 ∧ (k = 1 ∨ k = 2 ∨ k = 3 ∨ k = 4)) → τ.1 c o k = σ.1 c o k) ∧ τ.2 = σ.2
theorem oM_t {a b c : pmS} (h1 : oM a b) (h2 : oM b c) : oM a c := ⟨fun x o k hk => by rw [h1.1 x o k hk, h2.1 x o k hk], by rw [h1.2, h2.2]⟩
def lnM (E : Nat → Nat → Bool) (SM : Nat → Bool) (h : Nat → Nat) (p : Nat) : Prop := (∃ w, w < 48 ∧ E p w = true) ∧ ¬ h p < 48 ∧ SM p = false
theorem c20 (d : Nat) {E : Nat → Nat → Bool} {SM SW : Nat → Bool} {h : Nat → Nat} {σ : pmS} (hZ : mZ E SM SW h σ) : ∃ (τ : pmS) (q : Nat → Nat) (z : Nat), pq_RD (d + 2) 20 [vR 3 0 0] σ = some (none, τ) ∧ (∀ c o k, ¬ (c = 3 ∧ (k = 2 ∨ k = 4)) → τ.1 c o k = σ.1 c o k) ∧ τ.2 = σ.2 ∧ z ≤ 48 ∧ τ.1 3 0 4 0 = nI z ∧ (∀ i, i < z → τ.1 3 0 2 i = nI (q i)) ∧ (∀ i, i < z → q i < 48 ∧ lnM E SM h (q i)) ∧ (∀ i j, i < j → j < z → q i ≠ q j) ∧ ∀ p, p < 48 → lnM E SM h p → ∃ i, i < z ∧ q i = p := by
  obtain ⟨z1, z2, z3, z4⟩ := hZ
  obtain ⟨⟨τ, q, z⟩, ⟨i1, i2, i3, i4, i5, i6, i7, i8⟩, hr⟩ := lp_ex (C := pq_RD (d + 1)) (S := pmS × (Nat → Nat) × Nat) (I := fun T s => (∀ c o k, ¬ (c = 3 ∧ (k = 2 ∨ k = 4)) → s.1.1 c o k = σ.1 c o k) ∧ s.1.2 = σ.2 ∧ s.2.2 ≤ T ∧ s.1.1 3 0 4 0 = nI s.2.2 ∧ (∀ i, i < s.2.2 → s.1.1 3 0 2 i = nI (s.2.1 i)) ∧ (∀ i, i < s.2.2 → s.2.1 i < T ∧ lnM E SM h (s.2.1 i)) ∧ (∀ i j, i < j → j < s.2.2 → s.2.1 i ≠ s.2.1 j) ∧ ∀ p, p < T → lnM E SM h p → ∃ i, i < s.2.2 ∧ s.2.1 i = p) (fr := fun T s => (20, 7, [some (vR 3 0 0), some (vI (nI T))], [], s.1)) (s0 := (pm_wi σ 3 0 4 0 0, fun _ => 0, 0)) ⟨fun c o k hk => wi_k (by omega), wi_2 _ _ _ _ _ _, by show 0 ≤ 0; omega, wi_s _ _ _ _ _ _, fun i hi => absurd hi (by show ¬ i < 0; omega), fun i hi => absurd hi (by show ¬ i < 0; omega), fun i j _ hj => absurd hj (by show ¬ j < 0; omega), fun p hp => by omega⟩ (n := 48) (fun T s hT ⟨i1, i2, i3, i4, i5, i6, i7, i8⟩ => by
    obtain ⟨τ, q, z⟩ := s
    have i1 : ∀ c o k, ¬ (c = 3 ∧ (k = 2 ∨ k = 4)) → τ.1 c o k = σ.1 c o k := i1
    have i2 : τ.2 = σ.2 := i2
    have i3 : z ≤ T := i3
    have i4 : τ.1 3 0 4 0 = nI z := i4
    have i5 : ∀ i, i < z → τ.1 3 0 2 i = nI (q i) := i5
    have i6 : ∀ i, i < z → q i < T ∧ lnM E SM h (q i) := i6
    have i7 : ∀ i j, i < j → j < z → q i ≠ q j := i7
    have i8 : ∀ p, p < T → lnM E SM h p → ∃ i, i < z ∧ q i = p := i8
    have eT : (nI T).toNatClampNeg = T := nI_clamp (by omega)
    have vT : vp_in (nI T) 48 := vp_in_nI (by omega) (by omega)
    have h48 : ¬ (48 : Int32) ≤ nI T := nI_ge (b := 48) hT (by decide)
    have eb : τ.2 3 0 0 (nI T).toNatClampNeg = ls (E T) := by rw [eT, i2]; exact z2 T hT
    have ep : τ.1 3 0 1 (nI T).toNatClampNeg = enc (h T) := by rw [eT, i1 3 0 1 (by omega)]; exact z1 T hT
    have skip : ¬ lnM E SM h T → pq_Rn (pq_RD (d + 1)) (20, 7, [some (vR 3 0 0), some (vI (nI T))], [], τ) = pq_Rn (pq_RD (d + 1)) (20, 7, [some (vR 3 0 0), some (vI (nI T + 1))], [], τ) → ∃ s' : pmS × (Nat → Nat) × Nat, ((∀ c o k, ¬ (c = 3 ∧ (k = 2 ∨ k = 4)) → s'.1.1 c o k = σ.1 c o k) ∧ s'.1.2 = σ.2 ∧ s'.2.2 ≤ T + 1 ∧ s'.1.1 3 0 4 0 = nI s'.2.2 ∧ (∀ i, i < s'.2.2 → s'.1.1 3 0 2 i = nI (s'.2.1 i)) ∧ (∀ i, i < s'.2.2 → s'.2.1 i < T + 1 ∧ lnM E SM h (s'.2.1 i)) ∧ (∀ i j, i < j → j < s'.2.2 → s'.2.1 i ≠ s'.2.1 j) ∧ ∀ p, p < T + 1 → lnM E SM h p → ∃ i, i < s'.2.2 ∧ s'.2.1 i = p) ∧ pq_Rn (pq_RD (d + 1)) (20, 7, [some (vR 3 0 0), some (vI (nI T))], [], τ) = pq_Rn (pq_RD (d + 1)) (20, 7, [some (vR 3 0 0), some (vI (nI (T + 1)))], [], s'.1) := fun hn hst => by
      rw [nI_1] at hst
      refine ⟨(τ, q, z), ⟨i1, i2, by show z ≤ T + 1; omega, i4, i5, fun i hi => ⟨by have := (i6 i hi).1; show q i < T + 1; omega, (i6 i hi).2⟩, i7, fun p hp hl => ?_⟩, hst⟩
      rcases Nat.lt_or_ge p T with y | y
      · exact i8 p y hl
      · have : p = T := by omega
        rw [this] at hl
        exact absurd hl hn
    by_cases y1 : lg_cmp (τ.2 3 0 0 (nI T).toNatClampNeg) 0 = 0
    · refine skip (fun hl => ?_) (g20_7_1 _ h48 vT y1)
      rw [eb, ls_z] at y1
      obtain ⟨⟨w, hw, e⟩, -⟩ := hl
      rw [y1 w hw] at e
      cases e
    · rcases Classical.em (h T < 48) with y2 | y2
      · exact skip (fun hl => hl.2.1 y2) (g20_7_4 _ h48 vT y1 (by rw [ep, enc_m1]; exact fun z => z y2))
      · have k19 := c19 d (σ := τ) (P := SM) hT
        rw [← z3, ← i2] at k19
        cases y3 : SM T with
        | true =>
          rw [y3] at k19
          exact skip (fun hl => by have := hl.2.2; rw [y3] at this; cases this) (g20_7_3 _ h48 vT y1 (by rw [ep, enc_m1]; exact y2) k19 (by decide))
        | false =>
          rw [y3] at k19
          have hl : lnM E SM h T := by
            refine ⟨?_, y2, y3⟩
            rw [eb, ls_z] at y1
            rcases Classical.em (∃ w, w < 48 ∧ E T w = true) with y | y
            · exact y
            · refine absurd (fun i hi => ?_) y1
              cases hE : E T i with
              | false => rfl
              | true => exact absurd ⟨i, hi, hE⟩ y
          have st := g20_7_2 (pq_RD (d + 1)) (σ := τ) (x1 := nI T) h48 vT y1 (by rw [ep, enc_m1]; exact y2) k19 rfl (by rw [i4]; exact vp_in_nI (by omega) (by omega))
          rw [i4, nI_clamp (by omega), nI_1 z, nI_1 T] at st
          refine ⟨(pm_wi (pm_wi τ 3 0 2 z (nI T)) 3 0 4 0 (nI (z + 1)), fun i => if i = z then T else q i, z + 1), ⟨fun c o k hk => ?_, ?_, by show z + 1 ≤ T + 1; omega, wi_s _ _ _ _ _ _, fun i hi => ?_, fun i hi => ?_, fun i j hij hj => ?_, fun p hp hlp => ?_⟩, st⟩
          · show (pm_wi (pm_wi τ 3 0 2 z (nI T)) 3 0 4 0 (nI (z + 1))).1 c o k = _
            rw [wi_k (by omega), wi_k (by omega)]
            exact i1 c o k hk
          · show (pm_wi (pm_wi τ 3 0 2 z (nI T)) 3 0 4 0 (nI (z + 1))).2 = _
            rw [wi_2, wi_2]
            exact i2
          · show (pm_wi (pm_wi τ 3 0 2 z (nI T)) 3 0 4 0 (nI (z + 1))).1 3 0 2 i = nI (if i = z then T else q i)
            have hi : i < z + 1 := hi
            rw [wi_k (by omega)]
            by_cases e : i = z
            · rw [if_pos e, e]
              exact wi_s _ _ _ _ _ _
            · rw [if_neg e, wi_i e]
              exact i5 i (by omega)
          · show (if i = z then T else q i) < T + 1 ∧ lnM E SM h (if i = z then T else q i)
            have hi : i < z + 1 := hi
            by_cases e : i = z
            · rw [if_pos e]
              exact ⟨by omega, hl⟩
            · rw [if_neg e]
              have := i6 i (by omega)
              exact ⟨by omega, this.2⟩
          · show (if i = z then T else q i) ≠ if j = z then T else q j
            have hj : j < z + 1 := hj
            by_cases e : j = z
            · rw [if_pos e, if_neg (by omega)]
              have := (i6 i (by omega)).1
              omega
            · rw [if_neg e, if_neg (by omega)]
              exact i7 i j hij (by omega)
          · show ∃ i, i < z + 1 ∧ (if i = z then T else q i) = p
            rcases Nat.lt_or_ge p T with y | y
            · obtain ⟨i, hi, e⟩ := i8 p y hlp
              exact ⟨i, by omega, by rw [if_neg (by omega)]; exact e⟩
            · exact ⟨z, by omega, by rw [if_pos rfl]; omega⟩)
  have i3 : z ≤ 48 := i3
  exact ⟨τ, q, z, (m20 (d + 1)).trans ((g20_0_0 _).trans (Eq.trans hr (g20_7_0 _ (by decide)))), i1, i2, i3, i4, i5, i6, i7, i8⟩
theorem c24 (d : Nat) {σ : pmS} {h : Nat → Nat} {m w : Nat} (hm : m < 48) (hw : w < 48) (mw : m ≠ w) (hs : ∀ p, p < 48 → σ.1 3 0 1 p = enc (h p)) : ∃ τ, pq_RD (d + 1) 24 [vR 3 0 0, vI (nI m), vI (nI w)] σ = some (none, τ) ∧ (∀ c o k, ¬ (c = 3 ∧ k = 1) → τ.1 c o k = σ.1 c o k) ∧ τ.2 = σ.2 ∧ ∀ p, p < 48 → τ.1 3 0 1 p = enc (hC h m w p) := by
  have st := (m24 d).trans (g24_0_0 (pq_RD d) (σ := σ) (x1 := nI m) (x2 := nI w) (vp_in_nI hm (by omega)) (vp_in_nI hw (by omega)))
  rw [nI_clamp (by omega), nI_clamp (by omega)] at st
  refine ⟨_, st, fun c o k hk => by rw [wi_k hk, wi_k hk], by rw [wi_2, wi_2], fun p hp => ?_⟩
  unfold hC
  by_cases q1 : p = w
  · rw [if_pos q1, q1, wi_s, enc_y hm]
  · rw [if_neg q1, wi_i q1]
    by_cases q2 : p = m
    · rw [if_pos q2, q2, wi_s, enc_y hw]
    · rw [if_neg q2, wi_i q2]
      exact hs p hp
theorem c23l (d : Nat) {E : Nat → Nat → Bool} {M D : Nat → Bool} {fr : Nat → Nat} {V : Nat → Bool} {rk h0 : Nat → Nat} (hG : mG E M) : ∀ (n w i : Nat) (h : Nat → Nat) (σ : pmS) (l1 l4 l5 : Option pmV), rk w ≤ n → i + rk w < 48 → mF E M D (fun _ => false) (fun _ => false) fr V rk h0 h w → (∀ p, p < 48 → σ.1 3 0 1 p = enc (h p)) → (∀ u, u < 48 → V u = true → σ.1 3 0 3 u = nI (fr u)) → ∃ τ h' u, pq_Rn (pq_RD (d + 1)) (23, 4, [some (vR 3 0 0), l1, some (vI (nI w)), some (vI (nI i)), l4, l5], [], σ) = some (none, τ) ∧ (∀ c o k, ¬ (c = 3 ∧ k = 1) → τ.1 c o k = σ.1 c o k) ∧ τ.2 = σ.2 ∧ (∀ p, p < 48 → τ.1 3 0 1 p = enc (h' p)) ∧ mT E h' ∧ (∀ p, p < 48 → D p = true → h' p = h0 p) ∧ u < 48 ∧ V u = true ∧ M (fr u) = true ∧ fr u < 48 ∧ (∀ p, p < 48 → M p = true → (h' p < 48 ↔ h0 p < 48 ∨ p = fr u)) ∧ ¬ h0 (fr u) < 48 := by
  have hRW : (∀ p w, (fun _ : Nat => false) p = true → E p w = true → D w = false → (fun _ : Nat => false) w = true) ∧ (∀ w, w < 48 → (fun _ : Nat => false) w = true → h0 w < 48 ∧ (fun _ : Nat => false) (h0 w) = true ∧ D w = false ∧ M w = false) ∧ ∀ p, (fun _ : Nat => false) p = true → M p = true := ⟨fun _ _ z => (by cases z), fun _ _ z => (by cases z), fun _ z => (by cases z)⟩
  have body : ∀ (w i : Nat) (h : Nat → Nat) (σ : pmS) (l1 l4 l5 : Option pmV), i + rk w < 48 → mF E M D (fun _ => false) (fun _ => false) fr V rk h0 h w → (∀ p, p < 48 → σ.1 3 0 1 p = enc (h p)) → (∀ u, u < 48 → V u = true → σ.1 3 0 3 u = nI (fr u)) → ∃ τ, (∀ c o k, ¬ (c = 3 ∧ k = 1) → τ.1 c o k = σ.1 c o k) ∧ τ.2 = σ.2 ∧ (∀ p, p < 48 → τ.1 3 0 1 p = enc (hC h (fr w) w p)) ∧ pq_Rn (pq_RD (d + 1)) (23, 4, [some (vR 3 0 0), l1, some (vI (nI w)), some (vI (nI i)), l4, l5], [], σ) = pq_Rn (pq_RD (d + 1)) (23, 4, [some (vR 3 0 0), l1, some (vI (enc (h (fr w)))), some (vI (nI (i + 1))), some (vI (nI (fr w))), some (vI (enc (h (fr w))))], [], τ) := fun w i h σ l1 l4 l5 hi hF hs1 hs2 => by
    obtain ⟨m1, m2, m3, m4, m5⟩ := mF_step hG hRW hF
    have hw := hF.1
    have hv := hF.2.1
    have hE := (hF.2.2.2.2.2.2.1 w hw hv (Nat.le_refl _)).1
    have mw : fr w ≠ w := fun z => by
      have := (hG _ _ hE).2.2.1
      have q := hF.2.2.2.2.1
      rw [z, q] at this
      cases this
    have ew : (nI w).toNatClampNeg = w := nI_clamp (by omega)
    have em : (nI (fr w)).toNatClampNeg = fr w := nI_clamp (by omega)
    have s33 : σ.1 3 0 3 (nI w).toNatClampNeg = nI (fr w) := by rw [ew]; exact hs2 w hw hv
    obtain ⟨τ, k24, o, t2, sto⟩ := c24 d (σ := σ) m1 hw mw hs1
    have st := g23_4_2 (pq_RD (d + 1)) (l1 := l1) (l4 := l4) (l5 := l5) (σ := σ) (x2 := nI w) (x3 := nI i) (nI_ge (b := 48) (by omega) (by decide)) (nI_m1 (by omega)) (vp_in_nI (by omega) (by omega)) (by rw [s33]; exact vp_in_nI (by omega) (by omega)) (by rw [s33]; exact k24)
    rw [s33, em, hs1 _ m1, nI_1] at st
    exact ⟨τ, o, t2, sto, st⟩
  have fin : ∀ (i : Nat) (σ : pmS) (l1 l4 l5 : Option pmV), i ≤ 48 → pq_Rn (pq_RD (d + 1)) (23, 4, [some (vR 3 0 0), l1, some (vI (-1)), some (vI (nI i)), l4, l5], [], σ) = some (none, σ) := fun i σ l1 l4 l5 hi => by
    rcases Nat.lt_or_ge i 48 with q | q
    · exact g23_4_1 _ (nI_ge (b := 48) q (by decide)) rfl
    · exact g23_4_0 _ (nI_le (a := 48) q (by omega))
  intro n
  induction n with
  | zero =>
    intro w i h σ l1 l4 l5 hn hi hF hs1 hs2
    obtain ⟨m1, m2, m3, m4, m5⟩ := mF_step hG hRW hF
    obtain ⟨τ, o, t2, sto, st⟩ := body w i h σ l1 l4 l5 hi hF hs1 hs2
    rcases Classical.em (h (fr w) < 48) with q | q
    · obtain ⟨-, q2⟩ := m5 q
      omega
    · obtain ⟨a1, a2, a3, a4⟩ := m4 q
      rw [enc_n q] at st
      exact ⟨τ, hC h (fr w) w, w, st.trans (fin (i + 1) τ l1 _ _ (by omega)), o, t2, sto, a1, fun p hp hd => a2 p hp (Or.inl hd), hF.1, hF.2.1, m2, m1, a3, a4⟩
  | succ n ih =>
    intro w i h σ l1 l4 l5 hn hi hF hs1 hs2
    obtain ⟨m1, m2, m3, m4, m5⟩ := mF_step hG hRW hF
    obtain ⟨τ, o, t2, sto, st⟩ := body w i h σ l1 l4 l5 hi hF hs1 hs2
    rcases Classical.em (h (fr w) < 48) with q | q
    · obtain ⟨q1, q2⟩ := m5 q
      rw [enc_y q] at st
      obtain ⟨τ', h', u, kr, o', t2', r⟩ := ih (h (fr w)) (i + 1) (hC h (fr w) w) τ l1 (some (vI (nI (fr w)))) (some (vI (nI (h (fr w))))) (by omega) (by omega) q1 sto (fun u hu hvu => by rw [o 3 0 3 (by omega)]; exact hs2 u hu hvu)
      exact ⟨τ', h', u, st.trans kr, fun c o2 k hk => by rw [o' c o2 k hk, o c o2 k hk], by rw [t2', t2], r⟩
    · obtain ⟨a1, a2, a3, a4⟩ := m4 q
      rw [enc_n q] at st
      exact ⟨τ, hC h (fr w) w, w, st.trans (fin (i + 1) τ l1 _ _ (by omega)), o, t2, sto, a1, fun p hp hd => a2 p hp (Or.inl hd), hF.1, hF.2.1, m2, m1, a3, a4⟩
