/-! camp, law -/
theorem wi_o {σ : pmS} {c0 o0 k0 i0 : Nat} {v : Int32} {c o k : Nat} (h : ¬ (c = c0 ∧ o = o0)) : (pm_wi σ c0 o0 k0 i0 v).1 c o k = σ.1 c o k := by
  funext i
  rw [wi_1, if_neg (fun z => h ⟨z.1, z.2.1⟩)]
theorem sOwn_cong2 {f g : pmI} {p : Nat} (h0 : ∀ k, g 0 (f 5 0 3 p).toNatClampNeg k = f 0 (f 5 0 3 p).toNatClampNeg k) (h2 : ∀ o k, k ≤ 8 → g 2 o k = f 2 o k) (h5 : ∀ k, k ≤ 6 → k ≠ 2 → g 5 0 k p = f 5 0 k p) (hp : f 5 0 4 p = -1 ∨ (f 5 0 4 p).toNatClampNeg < p ∧ (f 5 0 5 p).toNatClampNeg < p) (h7 : ∀ q, q < p → g 5 0 7 q = f 5 0 7 q) : sOwn g (g 5 0 7) p = sOwn f (f 5 0 7) p ∧ sOth g (g 5 0 7) p = sOth f (f 5 0 7) p := by
  have eb : sLb g p = sLb f p := by
    unfold sLb
    rw [h5 3 (by omega) (by omega), h5 1 (by omega) (by omega), h0, h0]
  have es : sSb g p = sSb f p := by
    unfold sSb
    rw [eb, h5 3 (by omega) (by omega), h0]
  have em : sBm g p = sBm f p := by
    unfold sBm
    rw [eb, h5 3 (by omega) (by omega), h0]
  unfold sOwn sOth
  rw [h5 4 (by omega) (by omega), h5 5 (by omega) (by omega), h5 6 (by omega) (by omega), em, es, h2 _ 8 (by omega), h2 _ 2 (by omega), h2 _ 3 (by omega)]
  rcases hp with hp | ⟨hm, hf⟩
  · rw [if_pos hp, if_pos hp, if_pos hp, if_pos hp]
    exact ⟨rfl, rfl⟩
  · rw [h7 _ hm, h7 _ hf]
    exact ⟨rfl, rfl⟩
theorem c1 (d : Nat) {σ : pmS} {o nl : Nat} {y : Int32} (h5 : nl ≤ 5) (h : σ.1 0 o 3 0 = nI nl) : pq_RD (d + 1) 1 [vR 0 o 0, vI y] σ = some (some (vI (if fa_first (fun i => decide (σ.1 0 o 0 i = y)) nl < nl then nI (fa_first (fun i => decide (σ.1 0 o 0 i = y)) nl) else -1)), σ) := by
  refine (m1 d).trans ((g1_0_0 _).trans ?_)
  refine (lp_first (C := pq_RD d) (fr := fun k => (1, 2, [some (vR 0 o 0), some (vI y), some (vI (nI k))], [], σ)) (p := fun i => decide (σ.1 0 o 0 i = y)) (n := nl) (fun k hk hq => ?_)).trans ?_
  · have ek : (nI k).toNatClampNeg = k := nI_clamp (by omega)
    rw [← nI_1]
    exact g1_2_2 _ (by rw [h]; exact nI_ge hk (by omega)) (vp_in_nI (by omega) (by omega)) (by rw [ek]; exact of_decide_eq_false hq)
  · by_cases hi : fa_first (fun i => decide (σ.1 0 o 0 i = y)) nl < nl
    · have hq := fa_first_yes _ nl hi
      rw [if_pos hi]
      generalize fa_first (fun i => decide (σ.1 0 o 0 i = y)) nl = k at hi hq
      have ek : (nI k).toNatClampNeg = k := nI_clamp (by omega)
      exact g1_2_1 _ (by rw [h]; exact nI_ge hi (by omega)) (vp_in_nI (by omega) (by omega)) (by rw [ek]; exact of_decide_eq_true hq)
    · have e : fa_first (fun i => decide (σ.1 0 o 0 i = y)) nl = nl := by have := fa_first_le (fun i => decide (σ.1 0 o 0 i = y)) nl; omega
      rw [if_neg hi, e]
      exact g1_2_0 _ (by rw [h, fa_le]; omega)
theorem c0 (d : Nat) {σ : pmS} {o nl J : Nat} {y s b : Int32} (h5 : nl ≤ 5) (h : σ.1 0 o 3 0 = nI nl) (hJ : fa_first (fun i => decide (σ.1 0 o 0 i = y)) nl = J) : (J = 5 ∧ nl = 5 ∧ pq_RD (d + 2) 0 [vR 0 o 0, vI y, vI s, vI b] σ = some (some (vI 0), σ)) ∨ (J < 5 ∧ ∃ τ, pq_RD (d + 2) 0 [vR 0 o 0, vI y, vI s, vI b] σ = some (some (vI 1), τ) ∧ (∀ c o' k, ¬ (c = 0 ∧ o' = o) → τ.1 c o' k = σ.1 c o' k) ∧ (∀ k i, k ≤ 2 → i ≠ J → τ.1 0 o k i = σ.1 0 o k i) ∧ τ.1 0 o 0 J = y ∧ τ.1 0 o 1 J = s ∧ τ.1 0 o 2 J = b ∧ τ.1 0 o 3 0 = nI (if J < nl then nl else nl + 1)) := by
  have k := c1 d (σ := σ) (o := o) (y := y) h5 h
  have hle := fa_first_le (fun i => decide (σ.1 0 o 0 i = y)) nl
  rw [hJ] at k hle
  by_cases hi : J < nl
  · rw [if_pos hi] at k
    refine Or.inr ⟨by omega, ?_⟩
    have e := (m0 (d + 1)).trans (g0_0_2 (pq_RD (d + 1)) (l4 := none) (x2 := s) (x3 := b) k (nI_m1 (by omega)) (vp_in_nI (by omega) (by omega)))
    rw [nI_clamp (by omega)] at e
    rw [if_pos hi]
    refine ⟨_, e, fun c o' k hc => ?_, fun k i hk hi => ?_, ?_⟩
    · rw [wi_o hc, wi_o hc, wi_o hc]
    · simp [wi_1, hi]
    · simp [wi_1, h]
  · have e : J = nl := by omega
    subst e
    rw [if_neg hi] at k
    rcases Nat.lt_or_ge J 5 with h1 | h1
    · refine Or.inr ⟨h1, ?_⟩
      have e := (m0 (d + 1)).trans (g0_0_0 (pq_RD (d + 1)) (l4 := none) (x2 := s) (x3 := b) k rfl (by rw [h]; exact nI_lt (b := 5) h1 (by omega)) (by rw [h]; exact vp_in_nI h1 (by omega)))
      rw [h, nI_clamp (by omega), nI_1] at e
      rw [if_neg hi]
      refine ⟨_, e, fun c o' k hc => ?_, fun k i hk hi => ?_, ?_⟩
      · rw [wi_o hc, wi_o hc, wi_o hc, wi_o hc]
      · have : ¬ k = 3 := by omega
        simp [wi_1, hi, this]
      · simp [wi_1]
    · have : J = 5 := by omega
      subst this
      exact Or.inl ⟨rfl, rfl, (m0 (d + 1)).trans (g0_0_1 _ k rfl (by rw [h]; decide))⟩
theorem iP1_up {f : pmI} {NC p : Nat} (h : iP1 f NC p) : iP1 f (NC + 1) p := by
  obtain ⟨a0, a1, a2, a3, a4, a5, a6, a7, a8, ⟨c, hc, ec⟩, r⟩ := h
  exact ⟨a0, a1, a2, a3, a4, a5, a6, a7, a8, ⟨c, by omega, ec⟩, r⟩
theorem in01 {y : Int32} (h : ¬ (y = 0 ∨ y = 1)) : sIn y 0 1 = false := by
  cases hc : sIn y 0 1 with
  | false => rfl
  | true =>
    have hc : ¬ y < 0 ∧ ¬ 1 < y := by simpa [sIn] using hc
    rw [fa_lt, fa_lt] at hc
    rw [fa_eq, fa_eq] at h
    have l1 : (1 : Int32).toInt = 1 := rfl
    have l0 : (0 : Int32).toInt = 0 := rfl
    omega
theorem T_camp {σ : pmS} (h : Inv σ) (s b : Int32) : Tok 65 135 [vI s, vI b] σ := by
  obtain ⟨NS, NC, NP, hh⟩ := id h
  have hh : iAll σ.1 NS NC NP := hh
  obtain ⟨hT, hS, hC, hP, hW, hM, hO⟩ := id hh
  have hNC := hC.1
  have hNS := hS.1
  have a1 := c86 58 (σ := σ) (x1 := s)
  have b1 := c106 58 (σ := σ) (x1 := s)
  rw [hS.2.1] at a1
  rw [hS.2.2.1] at b1
  cases q1 : sHas (nI NS) s with
  | false =>
    rw [q1] at a1 b1
    exact ⟨_, _, _, (m65 59).trans (g65_0_0 _ a1 rfl), (m135 59).trans (g135_0_0 _ b1 rfl), h⟩
  | true =>
    have hq1 := q1
    rw [q1] at a1 b1
    obtain ⟨es, hs⟩ := in_nI (sHas_in (by omega) q1) (by omega)
    have b2 := c105 58 (σ := σ) (v := b) (a := 0) (b := 1) (A := 0) (B := 1) rfl rfl
    by_cases hb : b = 0 ∨ b = 1
    · have hin : sIn b 0 1 = true := by rcases hb with rfl | rfl <;> decide
      rw [hin] at b2
      rcases Nat.lt_or_ge NC 3 with h3 | h3
      · have z0 := hC.2.2.2.2 NC (by omega) h3
        rcases c0 57 (σ := σ) (o := NC) (nl := 0) (J := 0) (y := 0) (s := s) (b := b) (by omega) z0 rfl with ⟨h, -⟩ | ⟨-, τ, k0, o1, o2, n0, n1, n2, n3⟩
        · omega
        · rw [if_neg (by omega)] at n3
          have w10 : σ.1 9 0 10 0 = nI NC := hC.2.1
          have t10 : τ.1 9 0 10 0 = nI NC := by rw [o1 9 0 10 (by omega)]; exact w10
          have cls : pq_RD 60 65 [vR 9 0 0, vI s, vI b] σ = some (some (vI (nI NC)), pm_wi τ 9 0 10 0 (nI (NC + 1))) := by
            have k0' : pq_RD 59 0 [vR 0 (σ.1 9 0 10 0).toNatClampNeg 0, vI 0, vI s, vI b] σ = some (some (vI 1), τ) := by rw [w10, nI_clamp (by omega)]; exact k0
            have fin : (some (some (vI (((τ.1 9 0 10 0) + (1 : Int32)) - (1 : Int32))), (pm_wi τ 9 0 10 0 ((τ.1 9 0 10 0) + (1 : Int32)))) : Option (Option pmV × pmS)) = some (some (vI (nI NC)), pm_wi τ 9 0 10 0 (nI (NC + 1))) := by rw [t10, nI_1, nI_pred]
            rcases hb with e | e
            · exact (m65 59).trans ((g65_0_1 _ a1 (by decide) e (by rw [w10]; exact nI_lt (b := 3) h3 (by omega)) (by rw [w10]; exact vp_in_nI h3 (by omega)) k0').trans fin)
            · exact (m65 59).trans ((g65_0_3 _ a1 (by decide) (by rw [e]; decide) e (by rw [w10]; exact nI_lt (b := 3) h3 (by omega)) (by rw [w10]; exact vp_in_nI h3 (by omega)) k0').trans fin)
          generalize e1 : pm_wi τ 9 0 10 0 (nI (NC + 1)) = σ1 at cls
          have f1 : ∀ c o k, ¬ (c = 0 ∧ o = NC) → ¬ (c = 9 ∧ k = 10) → σ1.1 c o k = σ.1 c o k := fun c o k h1 h2 => by rw [← e1, wi_k h2, o1 c o k h1]
          have f0 : ∀ k, σ1.1 0 NC k = τ.1 0 NC k := fun k => by rw [← e1, wi_k (by omega)]
          have f9 : σ1.1 9 0 10 0 = nI (NC + 1) := by rw [← e1]; exact wi_s _ _ _ _ _ _
          have d1 := c106 58 (σ := σ1) (x1 := s)
          rw [f1 10 0 4 (by omega) (by omega), hS.2.2.1, hq1] at d1
          have d2 := c105 58 (σ := σ1) (v := b) (a := 0) (b := 1) (A := 0) (B := 1) rfl rfl
          rw [hin] at d2
          have u15 : σ1.1 10 0 15 0 = nI NC := by rw [f1 10 0 15 (by omega) (by omega)]; exact hC.2.2.1
          have e5 : (5 : Int32) * nI NC = nI (5 * NC) := by
            show nI 5 * nI NC = _
            rw [pk_mul]
          have mod := (m135 59).trans (g135_0_3 (pq_RD 59) (x2 := b) d1 (by decide) d2 (by decide) (by rw [u15]; intro e; have := (nI_eq (a := NC) (b := 3) (by omega) (by omega)).mp e; omega) (by rw [u15]; exact vp_in_nI h3 (by omega)) (by rw [u15, e5]; exact vp_in_nI (by omega) (by omega)))
          rw [u15, e5, nI_1, nI_pred, nI_clamp (by omega), nI_clamp (by omega)] at mod
          refine ⟨_, _, _, cls, mod, ?_⟩
          generalize e2 : pm_wi (pm_wi (pm_wi (pm_wi (pm_wi σ1 10 0 11 NC 1) 10 0 12 (5 * NC) 0) 10 0 13 (5 * NC) s) 10 0 14 (5 * NC) b) 10 0 15 0 (nI (NC + 1)) = ρ
          have off : ∀ c o k, ¬ (c = 0 ∧ o = NC) → ¬ (c = 9 ∧ k = 10) → ¬ (c = 10 ∧ (11 ≤ k ∧ k ≤ 15)) → ρ.1 c o k = σ.1 c o k := fun c o k h1 h2 h3 => by
            rw [← e2, wi_k (by omega), wi_k (by omega), wi_k (by omega), wi_k (by omega), wi_k (by omega), f1 c o k h1 h2]
          have r0 : ∀ k, ρ.1 0 NC k = τ.1 0 NC k := fun k => by
            rw [← e2, wi_k (by omega), wi_k (by omega), wi_k (by omega), wi_k (by omega), wi_k (by omega), f0]
          have r9 : ρ.1 9 0 10 0 = nI (NC + 1) := by
            rw [← e2, wi_k (by omega), wi_k (by omega), wi_k (by omega), wi_k (by omega), wi_k (by omega), f9]
          have rn : ρ.1 10 0 11 NC = 1 ∧ ρ.1 10 0 12 (5 * NC) = 0 ∧ ρ.1 10 0 13 (5 * NC) = s ∧ ρ.1 10 0 14 (5 * NC) = b ∧ ρ.1 10 0 15 0 = nI (NC + 1) := by
            rw [← e2]
            simp [wi_1]
          have ro11 : ∀ i, i ≠ NC → ρ.1 10 0 11 i = σ.1 10 0 11 i := fun i hi => by
            rw [← f1 10 0 11 (by omega) (by omega), ← e2]
            simp [wi_1, hi]
          have ro : ∀ k i, 12 ≤ k → k ≤ 14 → i ≠ 5 * NC → ρ.1 10 0 k i = σ.1 10 0 k i := fun k i k1 k2 hi => by
            have x1 : ¬ k = 11 := by omega
            have x2 : ¬ k = 15 := by omega
            rw [← f1 10 0 k (by omega) (by omega), ← e2]
            simp [wi_1, hi, x1, x2]
          have hC2 : iC ρ.1 NS (NC + 1) := by
            refine ⟨by omega, r9, rn.2.2.2.2, fun c hc => ?_, fun c h1 h2 => ?_⟩
            · rcases Nat.lt_or_ge c NC with hcN | hcN
              · obtain ⟨nl, l1, l5, l3, l4, l6⟩ := hC.2.2.2.1 c hcN
                refine ⟨nl, l1, l5, by rw [off 0 c 3 (by omega) (by omega) (by omega)]; exact l3, by rw [ro11 c (by omega)]; exact l4, fun i hi => ?_⟩
                rw [off 0 c 0 (by omega) (by omega) (by omega), off 0 c 1 (by omega) (by omega) (by omega), off 0 c 2 (by omega) (by omega) (by omega), ro 12 _ (by omega) (by omega) (by omega), ro 13 _ (by omega) (by omega) (by omega), ro 14 _ (by omega) (by omega) (by omega)]
                exact l6 i hi
              · have : c = NC := by omega
                subst this
                refine ⟨1, by omega, by omega, by rw [r0]; exact n3, rn.1, fun i hi => ?_⟩
                have : i = 0 := by omega
                subst this
                rw [Nat.add_zero, r0, r0, r0, n0, n1, n2, rn.2.1, rn.2.2.1, rn.2.2.2.1]
                exact ⟨rfl, rfl, rfl, _, hs, es⟩
            · rw [off 0 c 3 (by omega) (by omega) (by omega)]
              exact hC.2.2.2.2 c (by omega) h2
          have hP2 : iP ρ.1 (NC + 1) NP := by
            refine ⟨hP.1, by rw [off 5 0 9 (by omega) (by omega) (by omega)]; exact hP.2.1, by rw [off 10 0 16 (by omega) (by omega) (by omega)]; exact hP.2.2.1, fun p hp => ?_, fun p hp => ?_⟩
            · exact iP1_up (iP1_cong (fun k hk => by rw [off 5 0 k (by omega) (by omega) (by omega)]) (fun k k1 k2 => by rw [off 10 0 k (by omega) (by omega) (by omega)]) (hP.2.2.2.1 p hp))
            · have hpN := hP.1
              obtain ⟨cc, hcc, ecc⟩ := (hP.2.2.2.1 p hp).2.2.2.2.2.2.2.2.2.1
              have ecl : (σ.1 5 0 3 p).toNatClampNeg = cc := by rw [ecc]; exact nI_clamp (by omega)
              obtain ⟨s1, s2⟩ := sOwn_cong2 (f := σ.1) (g := ρ.1) (p := p) (fun k => by rw [ecl]; exact off 0 cc k (by omega) (by omega) (by omega)) (fun o k _ => off 2 o k (by omega) (by omega) (by omega)) (fun k _ _ => by rw [off 5 0 k (by omega) (by omega) (by omega)]) (iP1_par (hP.2.2.2.1 p hp) (by omega)) (fun q _ => by rw [off 5 0 7 (by omega) (by omega) (by omega)])
              rw [s1, s2, off 5 0 7 (by omega) (by omega) (by omega), off 5 0 8 (by omega) (by omega) (by omega)]
              exact hP.2.2.2.2 p hp
          refine ⟨NS, NC + 1, NP, (⟨iT_c ?_ hT, iS_c ?_ hS, hC2, hP2, iW_c ?_ hW, iM_c ?_ hM, iO_c ?_ hO⟩ : iAll ρ.1 NS (NC + 1) NP)⟩
          all_goals intro c o k hk
          all_goals refine off c o k (fun e => ?_) (fun e => ?_) (fun e => ?_)
          all_goals first
            | (obtain ⟨rfl, rfl, rfl⟩ := e; exact absurd hk (by decide))
            | (obtain ⟨rfl, e⟩ := e; exact absurd (show false = true from hk) (by decide))
            | (obtain ⟨rfl, rfl⟩ := e; exact absurd hk (by decide))
            | (obtain ⟨rfl, e⟩ := e; have hk' := of_decide_eq_true hk; omega)
      · have e3 : NC = 3 := by omega
        subst e3
        have cls : pq_RD 60 65 [vR 9 0 0, vI s, vI b] σ = some (some (vI (-4)), σ) := by
          rcases hb with e | e
          · exact (m65 59).trans (g65_0_2 _ a1 (by decide) e (by rw [hC.2.1]; decide))
          · exact (m65 59).trans (g65_0_4 _ a1 (by decide) (by rw [e]; decide) e (by rw [hC.2.1]; decide))
        exact ⟨_, _, _, cls, (m135 59).trans (g135_0_2 _ b1 (by decide) b2 (by decide) (by rw [hC.2.2.1]; rfl)), h⟩
    · rw [in01 hb] at b2
      exact ⟨_, _, _, (m65 59).trans (g65_0_5 _ a1 (by decide) (fun e => hb (Or.inl e)) (fun e => hb (Or.inr e))), (m135 59).trans (g135_0_1 _ b1 (by decide) b2 rfl), h⟩
