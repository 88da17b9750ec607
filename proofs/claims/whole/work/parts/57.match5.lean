/-! match: who may marry whom, and the model's match -/
def mE (f : pmI) (NP NM : Nat) (c y : Int32) (m w : Nat) : Bool := decide (m < NP ∧ w < NP) && (decide (f 5 0 0 m = 0) && (decide (f 5 0 0 w = 1) && (decide (f 5 0 3 m = c) && (decide (f 5 0 3 w = c) && decide (sH f NM m w y = 0)))))
def mMn (f : pmI) (p : Nat) : Bool := decide (f 5 0 0 p = 0)
theorem mE_t {f : pmI} {NP NM : Nat} {c y : Int32} {m w : Nat} : mE f NP NM c y m w = true ↔ m < NP ∧ w < NP ∧ f 5 0 0 m = 0 ∧ f 5 0 0 w = 1 ∧ f 5 0 3 m = c ∧ f 5 0 3 w = c ∧ sH f NM m w y = 0 := by
  unfold mE
  simp only [Bool.and_eq_true, decide_eq_true_iff, and_assoc]
theorem mE_G {f : pmI} {NP NM : Nat} {c y : Int32} (hN : NP ≤ 48) : mG (mE f NP NM c y) (mMn f) := fun p q h => by
  obtain ⟨h1, h2, h3, h4, -⟩ := mE_t.mp h
  unfold mMn
  refine ⟨by omega, by omega, by simpa using h3, ?_⟩
  rw [h4]
  decide
/-- the store in findMays -/
theorem c163 (d : Nat) {σ τ0 : pmS} {NS NC NP NM : Nat} {c y : Int32} (hS : iS σ.1 NS) (hC : iC σ.1 NS NC) (hP : iP σ.1 NC NP) (hwk : wOkM σ.1 NP NM) (hage : σ.1 9 0 11 0 = σ.1 10 0 18 0) (hI : fcI σ NP τ0) : ∃ τ, pq_RD (d + 5) 163 [vR 10 0 0, vI c, vI y] τ0 = some (none, τ) ∧ (∀ c o k, ¬ (c = 10 ∧ (k = 31 ∨ k = 35)) → τ.1 c o k = τ0.1 c o k) ∧ (∀ m w, m < NP → w < NP → τ.1 10 0 31 (48 * m + w) = bI (mE σ.1 NP NM c y m w)) ∧ ∀ p, p < NP → τ.1 10 0 35 p = -1 := by
  have hN := hP.1
  have e16 : ∀ {τ : pmS}, (∀ c o k, ¬ (c = 10 ∧ (k = 31 ∨ k = 35)) → τ.1 c o k = τ0.1 c o k) → τ.1 10 0 16 0 = nI NP := fun o => by rw [o 10 0 16 (by omega), hI.1 10 0 16 (by omega)]; exact hP.2.2.1
  obtain ⟨⟨τ, l4, l5⟩, ⟨i1, i2, i3⟩, hr⟩ := lp_ex (C := pq_RD (d + 4)) (S := pmS × Option pmV × Option pmV) (I := fun T s => (∀ c o k, ¬ (c = 10 ∧ (k = 31 ∨ k = 35)) → s.1.1 c o k = τ0.1 c o k) ∧ (∀ m w, m < T → w < NP → s.1.1 10 0 31 (48 * m + w) = bI (mE σ.1 NP NM c y m w)) ∧ ∀ p, p < T → s.1.1 10 0 35 p = -1) (fr := fun T s => (163, 2, [some (vR 10 0 0), some (vI c), some (vI y), some (vI (nI T)), s.2.1, s.2.2], [], s.1)) (s0 := (τ0, none, none)) ⟨fun _ _ _ _ => rfl, fun m w hm => by omega, fun p hp => by omega⟩ (n := NP) (fun T s hT ⟨i1, i2, i3⟩ => by
    obtain ⟨τ, a4, a5⟩ := s
    have i1 : ∀ c o k, ¬ (c = 10 ∧ (k = 31 ∨ k = 35)) → τ.1 c o k = τ0.1 c o k := i1
    have i2 : ∀ m w, m < T → w < NP → τ.1 10 0 31 (48 * m + w) = bI (mE σ.1 NP NM c y m w) := i2
    have i3 : ∀ p, p < T → τ.1 10 0 35 p = -1 := i3
    have st1 := g163_2_1 (pq_RD (d + 4)) (l4 := a4) (l5 := a5) (σ := τ) (x1 := c) (x2 := y) (x3 := nI T) (by rw [e16 i1]; exact nI_ge hT (by omega))
    obtain ⟨⟨τ', b5⟩, ⟨j1, j2, j3⟩, hr2⟩ := lp_ex (C := pq_RD (d + 4)) (S := pmS × Option pmV) (I := fun w s => (∀ c o k, ¬ (c = 10 ∧ k = 31) → s.1.1 c o k = τ.1 c o k) ∧ (∀ i, i < 48 * T → s.1.1 10 0 31 i = τ.1 10 0 31 i) ∧ ∀ v, v < w → s.1.1 10 0 31 (48 * T + v) = bI (mE σ.1 NP NM c y T v)) (fr := fun w s => (163, 13, [some (vR 10 0 0), some (vI c), some (vI y), some (vI (nI T)), some (vI (nI w)), s.2], [], s.1)) (s0 := (τ, a5)) ⟨fun _ _ _ _ => rfl, fun _ _ => rfl, fun v hv => by omega⟩ (n := NP) (fun w s hw ⟨j1, j2, j3⟩ => by
      obtain ⟨υ, b5⟩ := s
      have j1 : ∀ c o k, ¬ (c = 10 ∧ k = 31) → υ.1 c o k = τ.1 c o k := j1
      have j2 : ∀ i, i < 48 * T → υ.1 10 0 31 i = τ.1 10 0 31 i := j2
      have j3 : ∀ v, v < w → υ.1 10 0 31 (48 * T + v) = bI (mE σ.1 NP NM c y T v) := j3
      have ob : ∀ c o k, ¬ (c = 10 ∧ (k = 31 ∨ k = 35)) → υ.1 c o k = τ0.1 c o k := fun c o k hk => by rw [j1 c o k (by omega), i1 c o k hk]
      have hg : ¬ υ.1 10 0 16 0 ≤ nI w := by rw [e16 ob]; exact nI_ge hw (by omega)
      have eT : (nI T).toNatClampNeg = T := nI_clamp (by omega)
      have ew : (nI w).toNatClampNeg = w := nI_clamp (by omega)
      have vT : vp_in (nI T) 48 := vp_in_nI (by omega) (by omega)
      have vw : vp_in (nI w) 48 := vp_in_nI (by omega) (by omega)
      have eix : (48 : Int32) * nI T + nI w = nI (48 * T + w) := by
        show nI 48 * nI T + nI w = _
        rw [pk_mul, nI_add]
      have vix : vp_in ((48 : Int32) * nI T + nI w) 2304 := by rw [eix]; exact vp_in_nI (by omega) (by omega)
      have cix : ((48 : Int32) * nI T + nI w).toNatClampNeg = 48 * T + w := by rw [eix]; exact nI_clamp (by omega)
      obtain ⟨p0, -, -, p3, -⟩ := hP.2.2.2.1 T hT
      obtain ⟨q0, -, -, q3, -⟩ := hP.2.2.2.1 w hw
      have s19T : υ.1 10 0 19 (nI T).toNatClampNeg = σ.1 5 0 0 T := by rw [eT, ob 10 0 19 (by omega), hI.1 10 0 19 (by omega), p0]
      have s19w : υ.1 10 0 19 (nI w).toNatClampNeg = σ.1 5 0 0 w := by rw [ew, ob 10 0 19 (by omega), hI.1 10 0 19 (by omega), q0]
      have s22T : υ.1 10 0 22 (nI T).toNatClampNeg = σ.1 5 0 3 T := by rw [eT, ob 10 0 22 (by omega), hI.1 10 0 22 (by omega), p3]
      have s22w : υ.1 10 0 22 (nI w).toNatClampNeg = σ.1 5 0 3 w := by rw [ew, ob 10 0 22 (by omega), hI.1 10 0 22 (by omega), q3]
      -- the bit written
      have put : ∀ (b : Bool) (l : Option pmV), mE σ.1 NP NM c y T w = b → pq_Rn (pq_RD (d + 4)) (163, 13, [some (vR 10 0 0), some (vI c), some (vI y), some (vI (nI T)), some (vI (nI w)), b5], [], υ) = pq_Rn (pq_RD (d + 4)) (163, 13, [some (vR 10 0 0), some (vI c), some (vI y), some (vI (nI T)), some (vI (nI w + 1)), l], [], pm_wi υ 10 0 31 ((48 : Int32) * nI T + nI w).toNatClampNeg (bI b)) → ∃ s' : pmS × Option pmV, ((∀ c o k, ¬ (c = 10 ∧ k = 31) → s'.1.1 c o k = τ.1 c o k) ∧ (∀ i, i < 48 * T → s'.1.1 10 0 31 i = τ.1 10 0 31 i) ∧ ∀ v, v < w + 1 → s'.1.1 10 0 31 (48 * T + v) = bI (mE σ.1 NP NM c y T v)) ∧ pq_Rn (pq_RD (d + 4)) (163, 13, [some (vR 10 0 0), some (vI c), some (vI y), some (vI (nI T)), some (vI (nI w)), b5], [], υ) = pq_Rn (pq_RD (d + 4)) (163, 13, [some (vR 10 0 0), some (vI c), some (vI y), some (vI (nI T)), some (vI (nI (w + 1))), s'.2], [], s'.1) := fun b l hb hst => by
        rw [cix, nI_1] at hst
        refine ⟨(pm_wi υ 10 0 31 (48 * T + w) (bI b), l), ⟨fun c' o k hk => ?_, fun i hi => ?_, fun v hv => ?_⟩, hst⟩
        · show (pm_wi υ 10 0 31 (48 * T + w) (bI b)).1 c' o k = _
          rw [wi_k hk]
          exact j1 c' o k hk
        · show (pm_wi υ 10 0 31 (48 * T + w) (bI b)).1 10 0 31 i = _
          rw [wi_i (by omega)]
          exact j2 i hi
        · show (pm_wi υ 10 0 31 (48 * T + w) (bI b)).1 10 0 31 (48 * T + v) = _
          rcases Nat.lt_or_ge v w with z | z
          · rw [wi_i (by omega)]
            exact j3 v z
          · have : v = w := by omega
            subst this
            rw [wi_s, hb]
      have no : (¬ (σ.1 5 0 0 T = 0 ∧ σ.1 5 0 0 w = 1 ∧ σ.1 5 0 3 T = c ∧ σ.1 5 0 3 w = c ∧ sH σ.1 NM T w y = 0)) → mE σ.1 NP NM c y T w = false := fun hn => by
        cases hb : mE σ.1 NP NM c y T w with
        | false => rfl
        | true => exact absurd (mE_t.mp hb).2.2 hn
      by_cases z1 : σ.1 5 0 0 T = 0
      · by_cases z2 : σ.1 5 0 0 w = 1
        · by_cases z3 : σ.1 5 0 3 T = c
          · by_cases z4 : σ.1 5 0 3 w = c
            · have obs : ∀ c' o k, ¬ (c' = 10 ∧ (k = 29 ∨ k = 30 ∨ k = 31 ∨ k = 35)) → υ.1 c' o k = σ.1 c' o k := fun c' o k hk => by rw [ob c' o k (by omega), hI.1 c' o k (by omega)]
              have hwkv : wOkM υ.1 NP NM := wOk_c (fun c' o k hk => obs c' o k (fun z => by obtain ⟨rfl, rfl | rfl | rfl | rfl⟩ := z <;> exact absurd hk (by decide))) hwk
              have hSv : iS υ.1 NS := iS_c (fun c' o k hk => obs c' o k (fun z => by obtain ⟨rfl, rfl | rfl | rfl | rfl⟩ := z <;> exact absurd hk (by decide))) hS
              have hCv : iC υ.1 NS NC := iC_c (fun c' o k hk => obs c' o k (fun z => by obtain ⟨rfl, rfl | rfl | rfl | rfl⟩ := z <;> exact absurd hk (by decide))) hC
              have hPv : iP υ.1 NC NP := iP_c (fun c' o k hk => obs c' o k (fun z => by obtain ⟨rfl, rfl | rfl | rfl | rfl⟩ := z <;> exact absurd hk (by decide))) hP
              have hIv : fcI υ NP υ := ⟨fun _ _ _ _ => rfl, rfl, fun p hp => by
                rw [ob 10 0 29 (by omega), ob 10 0 30 (by omega), obs 5 0 7 (by omega), obs 5 0 8 (by omega)]
                exact hI.2.2 p hp⟩
              have k152 := c152 d hSv hCv hPv hwkv (by rw [obs 9 0 11 (by omega), obs 10 0 18 (by omega)]; exact hage) hIv hT hw (y := y)
              rw [sH_cong (f := σ.1) (g := υ.1) (fun k _ => by rw [obs 8 0 0 (by omega), obs 8 0 1 (by omega), obs 8 0 2 (by omega)]; exact ⟨rfl, rfl, rfl⟩) (fun c' o k hk => obs c' o k (fun z => by obtain ⟨rfl, rfl | rfl | rfl | rfl⟩ := z <;> exact absurd hk (by decide)))] at k152
              by_cases z5 : sH σ.1 NM T w y = 0
              · exact put true _ (mE_t.mpr ⟨hT, hw, z1, z2, z3, z4, z5⟩) (g163_13_1 _ hg vT (by rw [s19T]; exact z1) vw (by rw [s19w]; exact z2) (by rw [s22T]; exact z3) (by rw [s22w]; exact z4) k152 z5 vix)
              · exact put false _ (no (fun z => z5 z.2.2.2.2)) (g163_13_2 _ hg vT (by rw [s19T]; exact z1) vw (by rw [s19w]; exact z2) (by rw [s22T]; exact z3) (by rw [s22w]; exact z4) k152 z5 vix)
            · exact put false _ (no (fun z => z4 z.2.2.2.1)) (g163_13_3 _ hg vT (by rw [s19T]; exact z1) vw (by rw [s19w]; exact z2) (by rw [s22T]; exact z3) (by rw [s22w]; exact z4) vix)
          · exact put false _ (no (fun z => z3 z.2.2.1)) (g163_13_4 _ hg vT (by rw [s19T]; exact z1) vw (by rw [s19w]; exact z2) (by rw [s22T]; exact z3) vix)
        · exact put false _ (no (fun z => z2 z.2.1)) (g163_13_5 _ hg vT (by rw [s19T]; exact z1) vw (by rw [s19w]; exact z2) vix)
      · exact put false _ (no (fun z => z1 z.1)) (g163_13_6 _ hg vT (by rw [s19T]; exact z1) vix))
    have j1 : ∀ c o k, ¬ (c = 10 ∧ k = 31) → τ'.1 c o k = τ.1 c o k := j1
    have j2 : ∀ i, i < 48 * T → τ'.1 10 0 31 i = τ.1 10 0 31 i := j2
    have j3 : ∀ v, v < NP → τ'.1 10 0 31 (48 * T + v) = bI (mE σ.1 NP NM c y T v) := j3
    have eT : (nI T).toNatClampNeg = T := nI_clamp (by omega)
    have st2 := g163_13_0 (pq_RD (d + 4)) (l5 := b5) (σ := τ') (x1 := c) (x2 := y) (x3 := nI T) (x4 := nI NP) (by rw [e16 (fun c o k hk => by rw [j1 c o k (by omega), i1 c o k hk]), fa_le]; omega) (vp_in_nI (by omega) (by omega))
    rw [eT, nI_1 T] at st2
    refine ⟨(pm_wi τ' 10 0 35 T (-1), some (vI (nI NP)), b5), ⟨fun c' o k hk => ?_, fun m w hm hw => ?_, fun p hp => ?_⟩, st1.trans (Eq.trans hr2 st2)⟩
    · show (pm_wi τ' 10 0 35 T (-1)).1 c' o k = _
      rw [wi_k (by omega), j1 c' o k (by omega), i1 c' o k hk]
    · show (pm_wi τ' 10 0 35 T (-1)).1 10 0 31 (48 * m + w) = _
      rw [wi_k (by omega)]
      rcases Nat.lt_or_ge m T with z | z
      · rw [j2 _ (by omega)]
        exact i2 m w z hw
      · have : m = T := by omega
        subst this
        exact j3 w hw
    · show (pm_wi τ' 10 0 35 T (-1)).1 10 0 35 p = _
      rcases Nat.lt_or_ge p T with z | z
      · rw [wi_i (by omega), j1 10 0 35 (by omega)]
        exact i3 p z
      · have : p = T := by omega
        subst this
        exact wi_s _ _ _ _ _ _)
  exact ⟨τ, (m163 (d + 4)).trans ((g163_0_0 _).trans (Eq.trans hr (g163_2_0 _ (by rw [e16 i1, fa_le]; omega)))), i1, i2, i3⟩
/-- the model's match: the greatest number, the couples settled in turn, the ring that lacks -/
theorem c164 (d : Nat) {σ σ' : pmS} {NS NC NP NM : Nat} {c y : Int32} (hS : iS σ.1 NS) (hC : iC σ.1 NS NC) (hP : iP σ.1 NC NP) (hwk : wOkM σ.1 NP NM) (hage : σ.1 9 0 11 0 = σ.1 10 0 18 0) (ho : ∀ c o k, ¬ c = 3 → σ'.1 c o k = σ.1 c o k) (hc : sHas (nI NC) c = true) (hy : sYear y = true) : ∃ τ ν F, pq_RD (d + 6) 164 [vR 10 0 0, vI c, vI y] σ' = some (some (vI (nI ν)), τ) ∧ (∀ c o k, ¬ (c = 10 ∧ (k = 29 ∨ k = 30 ∨ (31 ≤ k ∧ k ≤ 39))) → τ.1 c o k = σ'.1 c o k) ∧ mNu (mE σ.1 NP NM c y) (mMn σ.1) ν ∧ (∀ p, p < 48 → τ.1 10 0 38 p = enc (mSq (mE σ.1 NP NM c y) (mMn σ.1) ν 48 p)) ∧ lkM (mE σ.1 NP NM c y) (mMn σ.1) (mSq (mE σ.1 NP NM c y) (mMn σ.1) ν 48) F ∧ τ.1 10 0 36 0 = nI (fb_ct F 48) ∧ τ.1 10 0 37 0 = nI (fb_ct (fun w => mWant (mE σ.1 NP NM c y) F w 48) 48) := by
  have hN := hP.1
  have o3 : ∀ {K : Nat → Nat → Bool}, K 3 = (fun _ => false) → ∀ c o k, K c k = true → σ'.1 c o k = σ.1 c o k := fun hK c o k hk => ho c o k (fun z => by
    subst z
    rw [hK] at hk
    cases hk)
  have hS' : iS σ'.1 NS := iS_c (o3 rfl) hS
  have hC' : iC σ'.1 NS NC := iC_c (o3 rfl) hC
  have hP' : iP σ'.1 NC NP := iP_c (o3 rfl) hP
  have hwk' : wOkM σ'.1 NP NM := wOk_c (o3 rfl) hwk
  have a1 := c133 (d + 4) (σ := σ') (x1 := c)
  rw [ho 10 0 15 (by omega), show σ.1 10 0 15 0 = nI NC from hC.2.2.1, hc] at a1
  have a2 := c138 (d + 3) (σ := σ') (x0 := y)
  rw [hy] at a2
  obtain ⟨τ0, k146, hI⟩ := c146 (d + 1) hS' hC' hP'
  obtain ⟨τ1, k163, o1, r31, r35⟩ := c163 d (c := c) (y := y) hS' hC' hP' hwk' (by rw [ho 9 0 11 (by omega), ho 10 0 18 (by omega)]; exact hage) hI
  have eE : mE σ'.1 NP NM c y = mE σ.1 NP NM c y := by
    funext m w
    unfold mE
    rw [ho 5 0 0 (by omega), ho 5 0 3 (by omega), sH_cong (f := σ.1) (g := σ'.1) (fun k _ => by rw [ho 8 0 0 (by omega), ho 8 0 1 (by omega), ho 8 0 2 (by omega)]; exact ⟨rfl, rfl, rfl⟩) (fun c' o k hk => ho c' o k (fun z => by subst z; exact absurd (show false = true from hk) (by decide)))]
  rw [eE] at r31
  have hG := mE_G (f := σ.1) (NM := NM) (c := c) (y := y) hN
  have ob1 : ∀ c' o k, ¬ (c' = 10 ∧ (k = 29 ∨ k = 30 ∨ k = 31 ∨ k = 35)) → τ1.1 c' o k = σ'.1 c' o k := fun c' o k hk => by rw [o1 c' o k (by omega), hI.1 c' o k (by omega)]
  have hX1 : mX NP (mE σ.1 NP NM c y) (mMn σ.1) τ1.1 := ⟨hN, by rw [ob1 10 0 16 (by omega), ho 10 0 16 (by omega)]; exact hP.2.2.1, fun p hp => by
    rw [ob1 10 0 19 (by omega), ho 10 0 19 (by omega), ← (hP.2.2.2.1 p hp).1]
    unfold mMn
    rw [decide_eq_true_iff], r31, fun p q h => ⟨(mE_t.mp h).1, (mE_t.mp h).2.1⟩, hG⟩
  generalize mE σ.1 NP NM c y = E at hG hX1 ⊢
  generalize mMn σ.1 = M at hG hX1 ⊢
  have hT0 : mT E (fun _ => 48) := fun p _ hh => absurd hh (by show ¬ 48 < 48; omega)
  obtain ⟨τ2, h0, k162, o2, hF0, hmx⟩ := c162 (d + 2) (k0 := 0) hX1 (by omega) hT0 (fun p hp => by rw [r35 p hp]; rfl)
  have hν : mNu E M (mS M h0) := ⟨⟨h0, hF0.1, rfl⟩, fun h hh => hmx h ⟨hh, fun p _ hd => by
    unfold mD at hd
    simp at hd⟩⟩
  have ν48 : mS M h0 ≤ 48 := fb_ct_le _ 48
  generalize mS M h0 = ν at k162 hν ν48
  have st := (m164 (d + 5)).trans (g164_0_2 (pq_RD (d + 5)) (l3 := none) (l4 := none) (l5 := none) a1 (by decide) a2 (by decide) k146 k163 k162)
  obtain ⟨⟨τ3, l5⟩, ⟨i1, i2⟩, hr⟩ := lp_ex (C := pq_RD (d + 5)) (S := pmS × Option pmV) (I := fun m s => (∀ c o k, ¬ (c = 10 ∧ (k = 32 ∨ k = 33 ∨ k = 34 ∨ k = 35)) → s.1.1 c o k = τ1.1 c o k) ∧ ∀ p, p < NP → s.1.1 10 0 35 p = enc (mSq E M ν m p)) (fr := fun m s => (164, 39, [some (vR 10 0 0), some (vI c), some (vI y), some (vI (nI ν)), some (vI (nI m)), s.2], [], s.1)) (s0 := (τ2, none)) ⟨fun c o k hk => o2 c o k (by omega), fun p hp => by
    show τ2.1 10 0 35 p = enc 48
    rw [o2 10 0 35 (by omega), r35 p hp]
    rfl⟩ (n := NP) (fun m s hm ⟨i1, i2⟩ => by
    obtain ⟨υ, l⟩ := s
    have i1 : ∀ c o k, ¬ (c = 10 ∧ (k = 32 ∨ k = 33 ∨ k = 34 ∨ k = 35)) → υ.1 c o k = τ1.1 c o k := i1
    have i2 : ∀ p, p < NP → υ.1 10 0 35 p = enc (mSq E M ν m p) := i2
    obtain ⟨q1, q2, -⟩ := mSq_ok hG hν m (by omega)
    have hXv : mX NP E M υ.1 := mX_o (fun k hk => i1 10 0 k (by omega)) hX1
    obtain ⟨υ', l', k, o', s'⟩ := c164w (d + 2) (l1 := some (vI c)) (l2 := some (vI y)) hXv hν hm ν48 q1 (fun hM => q2 m (by omega) hM (Nat.le_refl _)) i2
    exact ⟨(υ', l'), ⟨fun c o k hk => by rw [← i1 c o k hk]; exact o' c o k hk, s'⟩, (g164_39_1 _ (by rw [hXv.2.1]; exact nI_ge hm (by omega))).trans k⟩)
  have i1 : ∀ c o k, ¬ (c = 10 ∧ (k = 32 ∨ k = 33 ∨ k = 34 ∨ k = 35)) → τ3.1 c o k = τ1.1 c o k := i1
  have i2 : ∀ p, p < NP → τ3.1 10 0 35 p = enc (mSq E M ν NP p) := i2
  have hX3 : mX NP E M τ3.1 := mX_o (fun k hk => i1 10 0 k (by omega)) hX1
  have x5 := hX3.2.2.2.2.1
  have same : ∀ k, mSq E M ν (NP + k) = mSq E M ν NP := fun k => by
    induction k with
    | zero => rfl
    | succ k ih =>
      show mNx E M ν (NP + k) (mSq E M ν (NP + k)) = _
      rw [mSel_no (fun w _ hk => by have := (x5 _ _ hk.1).1; omega), ih]
  have e48 : mSq E M ν 48 = mSq E M ν NP := by
    have := same (48 - NP)
    rwa [show NP + (48 - NP) = 48 by omega] at this
  obtain ⟨q1, q2, -⟩ := mSq_ok hG hν NP hN
  generalize mSq E M ν NP = h at i2 q1 q2 e48
  have st := st.trans (Eq.trans hr (g164_39_0 _ (by rw [hX3.2.1, fa_le]; omega)))
  obtain ⟨τ4, ⟨j1, j2⟩, hr2⟩ := lp_ex (C := pq_RD (d + 5)) (S := pmS) (I := fun T s => (∀ c o k, ¬ (c = 10 ∧ k = 38) → s.1 c o k = τ3.1 c o k) ∧ ∀ p, p < T → s.1 10 0 38 p = enc (h p)) (fr := fun T s => (164, 163, [some (vR 10 0 0), some (vI c), some (vI y), some (vI (nI ν)), some (vI (nI T)), l5], [], s)) (s0 := τ3) ⟨fun _ _ _ _ => rfl, fun p hp => by omega⟩ (n := 48) (fun T s hT ⟨j1, j2⟩ => by
    have eT : (nI T).toNatClampNeg = T := nI_clamp (by omega)
    have vT : vp_in (nI T) 48 := vp_in_nI (by omega) (by omega)
    have h48 : ¬ (48 : Int32) ≤ nI T := nI_ge (b := 48) hT (by decide)
    have put : ∀ v : Int32, v = enc (h T) → pq_Rn (pq_RD (d + 5)) (164, 163, [some (vR 10 0 0), some (vI c), some (vI y), some (vI (nI ν)), some (vI (nI T)), l5], [], s) = pq_Rn (pq_RD (d + 5)) (164, 163, [some (vR 10 0 0), some (vI c), some (vI y), some (vI (nI ν)), some (vI (nI T + 1)), l5], [], pm_wi s 10 0 38 (nI T).toNatClampNeg v) → ∃ s', ((∀ c o k, ¬ (c = 10 ∧ k = 38) → s'.1 c o k = τ3.1 c o k) ∧ ∀ p, p < T + 1 → s'.1 10 0 38 p = enc (h p)) ∧ pq_Rn (pq_RD (d + 5)) (164, 163, [some (vR 10 0 0), some (vI c), some (vI y), some (vI (nI ν)), some (vI (nI T)), l5], [], s) = pq_Rn (pq_RD (d + 5)) (164, 163, [some (vR 10 0 0), some (vI c), some (vI y), some (vI (nI ν)), some (vI (nI (T + 1))), l5], [], s') := fun v hv hst => by
      rw [eT, nI_1] at hst
      refine ⟨_, ⟨fun c o k hk => by rw [wi_k hk]; exact j1 c o k hk, fun p hp => ?_⟩, hst⟩
      rcases Nat.lt_or_ge p T with z | z
      · rw [wi_i (by omega)]
        exact j2 p z
      · have : p = T := by omega
        subst this
        rw [wi_s, hv]
    rcases Nat.lt_or_ge T NP with z | z
    · exact put _ (by rw [eT, j1 10 0 35 (by omega)]; exact i2 T z) (g164_163_2 _ h48 (by rw [j1 10 0 16 (by omega), hX3.2.1]; exact nI_ge z (by omega)) vT)
    · refine put _ ?_ (g164_163_1 _ h48 (by rw [j1 10 0 16 (by omega), hX3.2.1]; exact nI_le z (by omega)) vT)
      rw [enc_n (fun hh => by have := (mT_NP x5 q1 hT hh).1; omega)])
  have hX4 : mX NP E M τ4.1 := mX_o (fun k hk => j1 10 0 k (by omega)) hX3
  obtain ⟨τ5, F, k166, o5, hL, r36, r37⟩ := c166 (d + 3) hX4 q1 j2
  refine ⟨τ5, ν, F, st.trans (Eq.trans hr2 (g164_163_0 _ (by decide) k166)), fun c' o k hk => by rw [o5 c' o k (by omega), j1 c' o k (by omega), i1 c' o k (by omega), ob1 c' o k (by omega)], hν, fun p hp => by rw [o5 10 0 38 (by omega), e48]; exact j2 p hp, by rw [e48]; exact hL, r36, r37⟩
