/-! match: the call -/
theorem c101 (d : Nat) {σ : pmS} {NS NC NP NM m : Nat} {c y : Int32} (hS : iS σ.1 NS) (hC : iC σ.1 NS NC) (hP : iP σ.1 NC NP) (hw : wOk σ.1 NP NM) (hm : m < NP) (h0 : σ.2 3 0 0 m = ls (fun _ => false)) : ∃ τ, pq_RD (d + 6) 101 [vR 9 0 0, vI (nI m), vI c, vI y] σ = some (none, τ) ∧ τ.1 = σ.1 ∧ (∀ k i, ¬ (k = 0 ∧ i = m) → τ.2 3 0 k i = σ.2 3 0 k i) ∧ τ.2 3 0 0 m = ls (fun u => decide (u < NP) && (mRd σ.1 NM c y 1 u && decide (hPair (hNr σ.1 m u) (sRight σ.1 m u y) = 0))) := by
  have hN := hP.1
  have em : (nI m).toNatClampNeg = m := nI_clamp (by omega)
  have vm : vp_in (nI m) 48 := vp_in_nI (by omega) (by omega)
  obtain ⟨τ, ⟨i1, i2, i3⟩, hr⟩ := lp_ex (C := pq_RD (d + 5)) (S := pmS) (I := fun T τ => τ.1 = σ.1 ∧ (∀ k i, ¬ (k = 0 ∧ i = m) → τ.2 3 0 k i = σ.2 3 0 k i) ∧ τ.2 3 0 0 m = ls (fun u => decide (u < T) && (mRd σ.1 NM c y 1 u && decide (hPair (hNr σ.1 m u) (sRight σ.1 m u y) = 0)))) (fr := fun T τ => (101, 3, [some (vR 9 0 0), some (vI (nI m)), some (vI c), some (vI y), some (vI (nI T))], [], τ)) (s0 := σ) ⟨rfl, fun _ _ _ => rfl, by rw [h0]; exact ls_cong (fun i _ => by simp)⟩ (n := NP) (fun T τ hT ⟨i1, i2, i3⟩ => by
    have hg : ¬ τ.1 5 0 9 0 ≤ nI T := by rw [i1, hP.2.1]; exact nI_ge hT (by omega)
    have k100 := c100 d (σ := τ) (NP := NP) (NM := NM) (p := T) (c := c) (y := y) (s := 1) (by omega) (by rw [i1]; exact hw)
    have k98 := c98 (d + 1) (σ := τ) (m := m) (w := T) (y := y) (by omega) (by rw [i1]; exact iAll_pOk hS hC hP hT)
    rw [i1] at k100 k98
    have same : (mRd σ.1 NM c y 1 T && decide (hPair (hNr σ.1 m T) (sRight σ.1 m T y) = 0)) = false → τ.2 3 0 0 m = ls (fun u => decide (u < T + 1) && (mRd σ.1 NM c y 1 u && decide (hPair (hNr σ.1 m u) (sRight σ.1 m u y) = 0))) := fun hb => by
      rw [i3]
      refine ls_cong (fun u _ => ?_)
      by_cases k : u = T
      · rw [k, hb]
        simp
      · have : decide (u < T + 1) = decide (u < T) := by
          by_cases k2 : u < T
          · simp [k2, Nat.lt_succ_of_lt k2]
          · have : ¬ u < T + 1 := by omega
            simp [k2, this]
        rw [this]
    cases hr1 : mRd σ.1 NM c y 1 T with
    | false =>
      rw [hr1] at k100
      exact ⟨τ, ⟨i1, i2, same (by rw [hr1]; rfl)⟩, (g101_3_1 _ hg k100 rfl).trans (by rw [nI_1])⟩
    | true =>
      rw [hr1] at k100
      by_cases hp : hPair (hNr σ.1 m T) (sRight σ.1 m T y) = 0
      · have k17 := (m17 (d + 4)).trans (g17_0_0 (pq_RD (d + 4)) (σ := τ) (x1 := nI m) (x2 := nI T) vm)
        rw [em, i3, ls_or1 _ (by omega : T < 48)] at k17
        have eL : ls (fun i => (decide (i < T) && (mRd σ.1 NM c y 1 i && decide (hPair (hNr σ.1 m i) (sRight σ.1 m i y) = 0))) || decide (i = T)) = ls (fun u => decide (u < T + 1) && (mRd σ.1 NM c y 1 u && decide (hPair (hNr σ.1 m u) (sRight σ.1 m u y) = 0))) := ls_cong (fun u _ => by
          by_cases k : u = T
          · subst k
            simp [hr1, hp]
          · have : decide (u < T + 1) = decide (u < T) := by
              by_cases k2 : u < T
              · simp [k2, Nat.lt_succ_of_lt k2]
              · have : ¬ u < T + 1 := by omega
                simp [k2, this]
            rw [this]
            simp [k])
        rw [eL] at k17
        refine ⟨pm_wl τ 3 0 0 m (ls (fun u => decide (u < T + 1) && (mRd σ.1 NM c y 1 u && decide (hPair (hNr σ.1 m u) (sRight σ.1 m u y) = 0)))), ⟨i1, fun k i hk => ?_, ?_⟩, (g101_3_2 _ hg k100 (by decide) k98 hp k17).trans (by rw [nI_1])⟩
        · rw [wl_2, if_neg (fun z => hk ⟨z.2.2.1, z.2.2.2⟩)]
          exact i2 k i hk
        · rw [wl_2, if_pos ⟨rfl, rfl, rfl, rfl⟩]
      · exact ⟨τ, ⟨i1, i2, same (by simp [hp])⟩, (g101_3_3 _ hg k100 (by decide) k98 hp).trans (by rw [nI_1])⟩)
  exact ⟨τ, (m101 (d + 5)).trans ((g101_0_0 _).trans (Eq.trans hr (g101_3_0 _ (by rw [i1, hP.2.1, fa_le]; omega)))), i1, i2, i3⟩
theorem mE_o3 {f g : pmI} (ho : ∀ c o k, ¬ c = 3 → g c o k = f c o k) (NP NM : Nat) (c y : Int32) : mE g NP NM c y = mE f NP NM c y := by
  funext m w
  unfold mE
  rw [ho 5 0 0 (by omega), ho 5 0 3 (by omega), sH_cong (f := f) (g := g) (fun k _ => by rw [ho 8 0 0 (by omega), ho 8 0 1 (by omega), ho 8 0 2 (by omega)]; exact ⟨rfl, rfl, rfl⟩) (fun c' o k hk => ho c' o k (fun z => by subst z; exact absurd (show false = true from hk) (by decide)))]
theorem mNu_one {E : Nat → Nat → Bool} {M : Nat → Bool} {a b : Nat} (h1 : mNu E M a) (h2 : mNu E M b) : a = b := by
  obtain ⟨⟨h, t, e⟩, u⟩ := h1
  obtain ⟨⟨h', t', e'⟩, u'⟩ := h2
  have := u h' t'
  have := u' h t
  omega
theorem wOk_3 {f g : pmI} {NP NM : Nat} (ho : ∀ c o k, ¬ c = 3 → g c o k = f c o k) (H : wOk f NP NM) : wOk g NP NM := by
  have e := mk_eq (K := fun c _ => decide (c ≠ 3)) (f := f) (g := g) (fun c o k hk => ho c o k (by simpa using hk))
  have H2 : wOk (mk (fun c _ => decide (c ≠ 3)) f) NP NM := H
  rw [← e] at H2
  exact H2
theorem wOk_M {f : pmI} {NP NM : Nat} (H : wOk f NP NM) : wOkM f NP NM := ⟨H.1, H.2.1, trivial, H.2.2.2⟩
theorem T_match {σ : pmS} (h : Inv σ) (c y : Int32) : Tok 78 164 [vI c, vI y] σ := by
  obtain ⟨NS, NC, NP, hh⟩ := id h
  have hh : iAll σ.1 NS NC NP := hh
  obtain ⟨hT, hS, hC, hP, hW, hM, hO⟩ := id hh
  obtain ⟨NM, hwk⟩ := wOk_of hP hW
  have hage : σ.1 9 0 11 0 = σ.1 10 0 18 0 := by
    obtain ⟨_, -, -, -, -, e⟩ := hW
    exact e
  have hN := hP.1
  have a1 := c88 58 (σ := σ) (x1 := c)
  have b1 := c133 58 (σ := σ) (x1 := c)
  rw [show σ.1 9 0 10 0 = nI NC from hC.2.1] at a1
  rw [show σ.1 10 0 15 0 = nI NC from hC.2.2.1] at b1
  have a2 := c90 58 (σ := σ) (x0 := y)
  have b2 := c138 57 (σ := σ) (x0 := y)
  cases q1 : sHas (nI NC) c with
  | false =>
    rw [q1] at a1 b1
    exact ⟨_, _, _, (m78 59).trans (g78_0_0 _ a1 rfl), (m164 59).trans (g164_0_0 _ b1 rfl), h⟩
  | true =>
    have hq1 := q1
    rw [q1] at a1 b1
    cases q2 : sYear y with
    | false =>
      rw [q2] at a2 b2
      exact ⟨_, _, _, (m78 59).trans (g78_0_1 _ a1 (by decide) a2 rfl), (m164 59).trans (g164_0_1 _ b1 (by decide) b2 rfl), h⟩
    | true =>
      rw [q2] at a2
      obtain ⟨σ0, k16, o0, p0, l0, l5, l6⟩ := c16 57 (σ := σ)
      have st := (m78 59).trans (g78_0_2 (pq_RD 59) (l3 := none) a1 (by decide) a2 (by decide) k16)
      have o3 : ∀ {K : Nat → Nat → Bool}, K 3 = (fun _ => false) → ∀ c o k, K c k = true → σ0.1 c o k = σ.1 c o k := fun hK c o k hk => o0 c o k (fun z => by
        subst z
        rw [hK] at hk
        cases hk)
      have hS0 : iS σ0.1 NS := iS_c (o3 rfl) hS
      have hC0 : iC σ0.1 NS NC := iC_c (o3 rfl) hC
      have hP0 : iP σ0.1 NC NP := iP_c (o3 rfl) hP
      have hw0 : wOk σ0.1 NP NM := wOk_3 o0 hwk
      have hG := mE_G (f := σ0.1) (NM := NM) (c := c) (y := y) hN
      obtain ⟨τ, ⟨i1, i2, i3⟩, hr⟩ := lp_ex (C := pq_RD 59) (S := pmS) (I := fun T τ => τ.1 = σ0.1 ∧ (∀ k, k ≠ 0 → τ.2 3 0 k 0 = σ0.2 3 0 k 0) ∧ ∀ p, p < 48 → τ.2 3 0 0 p = ls (fun u => decide (p < T) && mE σ0.1 NP NM c y p u)) (fr := fun T τ => (78, 29, [some (vR 9 0 0), some (vI c), some (vI y), some (vI (nI T))], [], τ)) (s0 := σ0) ⟨rfl, fun _ _ => rfl, fun p hp => by rw [l0 p hp]; exact ls_cong (fun i _ => by simp)⟩ (n := NP) (fun T τ hT' ⟨i1, i2, i3⟩ => by
        have hg : ¬ τ.1 5 0 9 0 ≤ nI T := by rw [i1, hP0.2.1]; exact nI_ge hT' (by omega)
        have k100 := c100 54 (σ := τ) (NP := NP) (NM := NM) (p := T) (c := c) (y := y) (s := 0) (by omega) (by rw [i1]; exact hw0)
        rw [i1] at k100
        have dec : ∀ p, p ≠ T → decide (p < T + 1) = decide (p < T) := fun p k => by
          by_cases k2 : p < T
          · simp [k2, Nat.lt_succ_of_lt k2]
          · have : ¬ p < T + 1 := by omega
            simp [k2, this]
        cases hr1 : mRd σ0.1 NM c y 0 T with
        | false =>
          rw [hr1] at k100
          refine ⟨τ, ⟨i1, i2, fun p hp => ?_⟩, (g78_29_1 _ hg k100 rfl).trans (by rw [nI_1])⟩
          rw [i3 p hp]
          refine ls_cong (fun u _ => ?_)
          by_cases k : p = T
          · subst k
            have : mE σ0.1 NP NM c y p u = false := by
              cases hb : mE σ0.1 NP NM c y p u with
              | false => rfl
              | true =>
                have hu := (mE_t.mp hb).2.1
                rw [mE_cl hT' hu, hr1] at hb
                cases hb
            rw [this]
            simp
          · rw [dec p k]
        | true =>
          rw [hr1] at k100
          obtain ⟨τ', k101, j1, j2, j3⟩ := c101 53 (σ := τ) (NS := NS) (NC := NC) (NP := NP) (NM := NM) (m := T) (c := c) (y := y) (by rw [i1]; exact hS0) (by rw [i1]; exact hC0) (by rw [i1]; exact hP0) (by rw [i1]; exact hw0) hT' (by rw [i3 T (by omega)]; exact ls_cong (fun i _ => by simp))
          refine ⟨τ', ⟨by rw [j1, i1], fun k hk => by rw [j2 k 0 (fun z => hk z.1)]; exact i2 k hk, fun p hp => ?_⟩, (g78_29_2 _ hg k100 (by decide) k101).trans (by rw [nI_1])⟩
          by_cases k : p = T
          · subst k
            rw [j3, i1]
            refine ls_cong (fun u _ => ?_)
            by_cases hu : u < NP
            · rw [mE_cl hT' hu, hr1]
              simp [hu]
            · have : mE σ0.1 NP NM c y p u = false := by
                cases hb : mE σ0.1 NP NM c y p u with
                | false => rfl
                | true => exact absurd (mE_t.mp hb).2.1 hu
              simp [hu, this]
          · rw [j2 0 p (fun z => k z.2), i3 p hp]
            exact ls_cong (fun u _ => by rw [dec p k]))
      have ZZ : mZ (mE σ0.1 NP NM c y) (fun _ => false) (fun _ => false) (fun _ => 48) τ := by
        refine ⟨fun p hp => by rw [i1, p0 p hp]; rfl, fun p hp => ?_, by rw [i2 5 (by omega)]; exact l5, by rw [i2 6 (by omega)]; exact l6⟩
        rw [i3 p hp]
        refine ls_cong (fun u _ => ?_)
        by_cases k : p < NP
        · simp [k]
        · have : mE σ0.1 NP NM c y p u = false := by
            cases hb : mE σ0.1 NP NM c y p u with
            | false => rfl
            | true => exact absurd (mE_t.mp hb).1 k
          simp [this]
      obtain ⟨σ1, ν, F, k18, o18, hν, s1, hL, r7, r8⟩ := c18 53 (σ := τ) hG ZZ
      have cls := st.trans (Eq.trans hr (g78_29_0 _ (by rw [i1, hP0.2.1, fa_le]; omega) k18))
      have ob : ∀ c o k, ¬ c = 3 → σ1.1 c o k = σ.1 c o k := fun c o k hk => by rw [o18 c o k hk, i1, o0 c o k hk]
      obtain ⟨ρ, ν', F', k164, oρ, hν', s38, hL', r36, r37⟩ := c164 54 (σ := σ) (σ' := σ1) (c := c) (y := y) hS hC hP (wOk_M hwk) hage ob hq1 q2
      have eE : mE σ0.1 NP NM c y = mE σ.1 NP NM c y := mE_o3 o0 NP NM c y
      have eM : mMn σ0.1 = mMn σ.1 := by
        funext p
        unfold mMn
        rw [o0 5 0 0 (by omega)]
      rw [eE, eM] at hν s1 hL
      rw [eE] at r8
      have en : ν = ν' := mNu_one hν hν'
      subst en
      have eF : ∀ p, F p = F' p := lk_eq hL hL'
      have eF2 : F = F' := funext eF
      subst eF2
      refine ⟨_, _, ρ, cls, k164, ?_⟩
      have off : ∀ c o k, ¬ c = 3 → ¬ (c = 10 ∧ (k = 29 ∨ k = 30 ∨ (31 ≤ k ∧ k ≤ 39))) → ρ.1 c o k = σ.1 c o k := fun c o k h1 h2 => by rw [oρ c o k h2, ob c o k h1]
      have f3 : ∀ k, ρ.1 3 0 k = σ1.1 3 0 k := fun k => oρ 3 0 k (by omega)
      have hM2 : iM ρ.1 := ⟨fun p hp => by rw [f3, s1 p hp, s38 p hp], by rw [f3, r7, r36], by rw [f3, r8, r37]⟩
      refine ⟨NS, NC, NP, (⟨iT_c ?_ hT, iS_c ?_ hS, iC_c ?_ hC, iP_c ?_ hP, iW_c ?_ hW, hM2, iO_c ?_ hO⟩ : iAll ρ.1 NS NC NP)⟩
      all_goals intro c o k hk
      all_goals refine off c o k (fun e => ?_) (fun e => ?_)
      all_goals first
        | (subst e; exact absurd (show false = true from hk) (by decide))
        | (obtain ⟨rfl, e⟩ := e; have hk' := of_decide_eq_true hk; omega)
