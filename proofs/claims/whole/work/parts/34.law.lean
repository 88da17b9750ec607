/-! law: the classes are found anew -/
def reI (σ : pmS) (k : Nat) (τ : pmS) : Prop := (∀ c o j, ¬ (c = 5 ∧ (j = 7 ∨ j = 8)) → τ.1 c o j = σ.1 c o j) ∧ ∀ p, p < k → τ.1 5 0 7 p = sOwn τ.1 (τ.1 5 0 7) p ∧ τ.1 5 0 8 p = sOth τ.1 (τ.1 5 0 7) p
theorem law_loop {σ : pmS} {NS NC NP : Nat} {x1 : Int32} {l2 l3 l4 : Option pmV} (hNP : NP ≤ 48) (h9 : σ.1 5 0 9 0 = nI NP) (hv : vp_in x1 3) (hD : ∀ p, p < NP → pD σ.1 NS NC p) : ∃ τ, reI σ NP τ ∧ pq_Rn (pq_RD 59) (66, 66, [some (vR 9 0 0), some (vI x1), l2, l3, l4, some (vI 0)], [], σ) = some (some (vI (τ.1 0 x1.toNatClampNeg 3 0)), τ) := by
  have key := lp_ex (C := pq_RD 59) (S := pmS) (I := fun k s => reI σ k s) (fr := fun k s => (66, 66, [some (vR 9 0 0), some (vI x1), l2, l3, l4, some (vI (nI k))], [], s)) (s0 := σ) ⟨fun _ _ _ _ => rfl, fun p hp => by omega⟩ (n := NP) (fun k s hk hI => by
    obtain ⟨i1, i2⟩ := hI
    have hD' : pD s.1 NS NC k := by
      obtain ⟨d1, d2, d3, d4, d5, d6, d7⟩ := hD k hk
      refine ⟨d1, by rw [i1 5 0 3 (by omega)]; exact d2, d3, fun c hc => ?_, d5, fun t ht => by rw [i1 2 t 8 (by omega)]; exact d6 t ht, by rw [i1 5 0 4 (by omega), i1 5 0 5 (by omega)]; exact d7⟩
      have := d4 c hc
      unfold iD1 at this ⊢
      rw [i1 0 c 3 (by omega), i1 0 c 1 (by omega)]
      exact this
    have hpar : ∀ p, p < NP → σ.1 5 0 4 p = -1 ∨ (σ.1 5 0 4 p).toNatClampNeg < p ∧ (σ.1 5 0 5 p).toNatClampNeg < p := fun p hp => by
      rcases (hD p hp).2.2.2.2.2.2 with h1 | ⟨m, f, hm, hf, em, ef⟩
      · exact Or.inl h1.1
      · rw [em, ef, nI_clamp (by omega), nI_clamp (by omega)]
        exact Or.inr ⟨hm, hf⟩
    refine ⟨pm_wi (pm_wi s 5 0 7 k (sOwn s.1 (s.1 5 0 7) k)) 5 0 8 k (sOth s.1 (s.1 5 0 7) k), ?_, (g66_66_1 _ (by rw [i1 5 0 9 (by omega), h9]; exact nI_ge hk (by omega)) (c95D 55 hD')).trans (by rw [nI_1])⟩
    generalize e1 : pm_wi (pm_wi s 5 0 7 k (sOwn s.1 (s.1 5 0 7) k)) 5 0 8 k (sOth s.1 (s.1 5 0 7) k) = ρ
    have off : ∀ c o j, ¬ (c = 5 ∧ (j = 7 ∨ j = 8)) → ρ.1 c o j = s.1 c o j := fun c o j h => by
      rw [← e1, wi_k (by omega), wi_k (by omega)]
    have old : ∀ j p, p ≠ k → ρ.1 5 0 j p = s.1 5 0 j p := fun j p hp => by
      rw [← e1]
      simp [wi_1, hp]
    refine ⟨fun c o j h => by rw [off c o j h, i1 c o j h], fun p hp => ?_⟩
    obtain ⟨s1, s2⟩ := sOwn_cong (f := s.1) (g := ρ.1) (p := p) (fun o j => off 0 o j (by omega)) (fun o j _ => off 2 o j (by omega)) (fun j _ _ => by rw [off 5 0 j (by omega)]) (by
      rw [i1 5 0 4 (by omega), i1 5 0 5 (by omega)]
      exact hpar p (by omega)) (fun q hq => old 7 q (by omega))
    rw [s1, s2]
    rcases Nat.lt_or_ge p k with h | h
    · rw [old 7 p (by omega), old 8 p (by omega)]
      exact i2 p h
    · have : p = k := by omega
      subst this
      rw [← e1]
      simp [wi_1])
  obtain ⟨τ, hI, hr⟩ := key
  refine ⟨τ, hI, Eq.trans hr ?_⟩
  exact g66_66_0 _ (by rw [hI.1 5 0 9 (by omega), h9, fa_le]; omega) hv
/-- the model's law, from its loop on -/
theorem law_mod {σ : pmS} {c nl J : Nat} {y s b : Int32} (hc : c < 3) (h5 : nl ≤ 5) (h : σ.1 10 0 11 c = nI nl) (hJ : fa_first (fun i => decide (σ.1 10 0 12 (5 * c + i) = y)) nl = J) : (J = 5 → pq_Rn (pq_RD 59) (136, 49, [some (vR 10 0 0), some (vI (nI c)), some (vI y), some (vI s), some (vI b), some (vI (5 * nI c))], [], σ) = some (some (vI (-4)), σ)) ∧ (J < 5 → ∃ τ, pq_Rn (pq_RD 59) (136, 49, [some (vR 10 0 0), some (vI (nI c)), some (vI y), some (vI s), some (vI b), some (vI (5 * nI c))], [], σ) = some (some (vI (nI (if J < nl then nl else nl + 1))), τ) ∧ (∀ c o k, ¬ (c = 10 ∧ 11 ≤ k ∧ k ≤ 14) → τ.1 c o k = σ.1 c o k) ∧ (∀ i, i ≠ c → τ.1 10 0 11 i = σ.1 10 0 11 i) ∧ (∀ k i, 12 ≤ k → k ≤ 14 → i ≠ 5 * c + J → τ.1 10 0 k i = σ.1 10 0 k i) ∧ τ.1 10 0 12 (5 * c + J) = y ∧ τ.1 10 0 13 (5 * c + J) = s ∧ τ.1 10 0 14 (5 * c + J) = b ∧ τ.1 10 0 11 c = nI (if J < nl then nl else nl + 1)) := by
  have e5 : (5 : Int32) * nI c = nI (5 * c) := by
    show nI 5 * nI c = _
    rw [pk_mul]
  have ec : (nI c).toNatClampNeg = c := nI_clamp (by omega)
  have vc : vp_in (nI c) 3 := vp_in_nI hc (by omega)
  have hle := fa_first_le (fun i => decide (σ.1 10 0 12 (5 * c + i) = y)) nl
  rw [hJ] at hle
  have eu : (5 : Int32) * nI c + 5 = nI (5 * c + 5) := by
    rw [e5]
    exact nI_add (5 * c) 5
  have el : (5 : Int32) * nI c + σ.1 10 0 11 (nI c).toNatClampNeg = nI (5 * c + nl) := by rw [e5, ec, h, nI_add]
  have run : pq_Rn (pq_RD 59) (136, 49, [some (vR 10 0 0), some (vI (nI c)), some (vI y), some (vI s), some (vI b), some (vI (5 * nI c))], [], σ) = pq_Rn (pq_RD 59) (136, 49, [some (vR 10 0 0), some (vI (nI c)), some (vI y), some (vI s), some (vI b), some (vI (nI (5 * c + J)))], [], σ) := by
    rw [e5]
    have := lp_first (C := pq_RD 59) (fr := fun k => (136, 49, [some (vR 10 0 0), some (vI (nI c)), some (vI y), some (vI s), some (vI b), some (vI (nI (5 * c + k)))], [], σ)) (p := fun i => decide (σ.1 10 0 12 (5 * c + i) = y)) (n := nl) (fun k hk hq => by
      have ek : (nI (5 * c + k)).toNatClampNeg = 5 * c + k := nI_clamp (by omega)
      have en : nI (5 * c + k) + 1 = nI (5 * c + (k + 1)) := nI_1 (5 * c + k)
      rw [← en]
      exact g136_49_6 _ vc (by rw [el]; exact nI_ge (by omega) (by omega)) (vp_in_nI (by omega) (by omega)) (by rw [ek]; exact of_decide_eq_false hq))
    rw [hJ] at this
    exact this
  have ej : (nI (5 * c + J)).toNatClampNeg = 5 * c + J := nI_clamp (by omega)
  constructor
  · intro hJ5
    have : nl = 5 := by omega
    subst this
    subst hJ5
    exact run.trans (g136_49_0 _ vc (by rw [el, fa_le]; omega) eu.symm)
  · intro hJ5
    by_cases hi : J < nl
    · have hq : σ.1 10 0 12 (5 * c + J) = y := by
        have := fa_first_yes (fun i => decide (σ.1 10 0 12 (5 * c + i) = y)) nl (by rw [hJ]; exact hi)
        rw [hJ] at this
        exact of_decide_eq_true this
      have g := g136_49_5 (pq_RD 59) (σ := σ) (x1 := nI c) (x2 := y) (x3 := s) (x4 := b) (x5 := nI (5 * c + J)) vc (by rw [el]; exact nI_ge (by omega) (by omega)) (vp_in_nI (by omega) (by omega)) (by rw [ej]; exact hq) (by rw [eu]; intro e; have := (nI_eq (by omega) (by omega)).mp e; omega) (by rw [el]; intro e; have := (nI_eq (by omega) (by omega)).mp e; omega)
      rw [ec, h, ej] at g
      rw [if_pos hi]
      refine ⟨_, run.trans g, fun c o k hk => ?_, fun i hi => ?_, fun k i k1 k2 hi => ?_, ?_⟩
      · rw [wi_k (by omega), wi_k (by omega), wi_k (by omega)]
      · rw [wi_k (by omega), wi_k (by omega), wi_k (by omega)]
      · simp [wi_1, hi]
      · simp [wi_1, h]
    · have : J = nl := by omega
      subst this
      have g := g136_49_1 (pq_RD 59) (σ := σ) (x1 := nI c) (x2 := y) (x3 := s) (x4 := b) (x5 := nI (5 * c + J)) vc (by rw [el, fa_le]; omega) (by rw [eu]; intro e; have := (nI_eq (by omega) (by omega)).mp e; omega) el.symm (vp_in_nI (by omega) (by omega))
      rw [ec, h, ej, nI_1, wi_s] at g
      rw [if_neg hi]
      refine ⟨_, run.trans g, fun c o k hk => ?_, fun i hi => ?_, fun k i k1 k2 hi => ?_, ?_⟩
      · rw [wi_k (by omega), wi_k (by omega), wi_k (by omega), wi_k (by omega)]
      · rw [wi_k (by omega), wi_k (by omega), wi_k (by omega), wi_i hi]
      · have : ¬ k = 11 := by omega
        simp [wi_1, hi, this]
      · simp [wi_1]
theorem T_law {σ : pmS} (h : Inv σ) (c y s b : Int32) : Tok 66 136 [vI c, vI y, vI s, vI b] σ := by
  obtain ⟨NS, NC, NP, hh⟩ := id h
  have hh : iAll σ.1 NS NC NP := hh
  obtain ⟨hT, hS, hC, hP, hW, hM, hO⟩ := id hh
  have hNC := hC.1
  have hNS := hS.1
  have hNP := hP.1
  have a1 := c88 58 (σ := σ) (x1 := c)
  have b1 := c133 58 (σ := σ) (x1 := c)
  have a2 := c86 58 (σ := σ) (x1 := s)
  have b2 := c106 58 (σ := σ) (x1 := s)
  rw [hC.2.1] at a1
  rw [hC.2.2.1] at b1
  rw [hS.2.1] at a2
  rw [hS.2.2.1] at b2
  cases q1 : sHas (nI NC) c with
  | false =>
    rw [q1] at a1 b1
    exact ⟨_, _, _, (m66 59).trans (g66_0_0 _ a1 rfl), (m136 59).trans (g136_0_0 _ b1 rfl), h⟩
  | true =>
    have hq1 := q1
    rw [q1] at a1 b1
    obtain ⟨ec, hc⟩ := in_nI (sHas_in (by omega) q1) (by omega)
    cases q2 : sHas (nI NS) s with
    | false =>
      rw [q2] at a2 b2
      exact ⟨_, _, _, (m66 59).trans (g66_0_1 _ a1 (by decide) a2 rfl), (m136 59).trans (g136_0_1 _ b1 (by decide) b2 rfl), h⟩
    | true =>
      have hq2 := q2
      rw [q2] at a2 b2
      obtain ⟨es, hs⟩ := in_nI (sHas_in (by omega) q2) (by omega)
      have b3 := c105 58 (σ := σ) (v := y) (a := 1) (b := 999) (A := 1) (B := 999) rfl rfl
      have b4 := c105 58 (σ := σ) (v := b) (a := 0) (b := 1) (A := 0) (B := 1) rfl rfl
      by_cases y1 : y < 1
      · rw [show sIn y 1 999 = false by simp [sIn, y1]] at b3
        exact ⟨_, _, _, (m66 59).trans (g66_0_2 _ a1 (by decide) a2 (by decide) y1), (m136 59).trans (g136_0_2 _ b1 (by decide) b2 (by decide) b3 rfl), h⟩
      by_cases y2 : 999 < y
      · rw [show sIn y 1 999 = false by simp [sIn, y2]] at b3
        exact ⟨_, _, _, (m66 59).trans (g66_0_3 _ a1 (by decide) a2 (by decide) y1 y2), (m136 59).trans (g136_0_2 _ b1 (by decide) b2 (by decide) b3 rfl), h⟩
      have hyin : sIn y 1 999 = true := by simp [sIn, y1, y2]
      rw [hyin] at b3
      by_cases hb : b = 0 ∨ b = 1
      · have hin : sIn b 0 1 = true := by rcases hb with rfl | rfl <;> decide
        rw [hin] at b4
        have vc : vp_in c 3 := in_le (sHas_in (by omega) hq1) hNC (by omega)
        obtain ⟨nl, l1, l5, l3, l4, l6⟩ := hC.2.2.2.1 _ hc
        generalize hJ : fa_first (fun i => decide (σ.1 0 c.toNatClampNeg 0 i = y)) nl = J
        have hle := fa_first_le (fun i => decide (σ.1 0 c.toNatClampNeg 0 i = y)) nl
        rw [hJ] at hle
        have hJ2 : fa_first (fun i => decide (σ.1 10 0 12 (5 * c.toNatClampNeg + i) = y)) nl = J := by
          rw [← hJ]
          exact fa_first_cong (fun k hk => by rw [(l6 k hk).1])
        have mod0 : ∀ τ : pmS, (∀ c o k, ¬ (c = 0) → ¬ (c = 5) → τ.1 c o k = σ.1 c o k) → pq_RD 60 136 [vR 10 0 0, vI c, vI y, vI s, vI b] τ = pq_Rn (pq_RD 59) (136, 49, [some (vR 10 0 0), some (vI (nI c.toNatClampNeg)), some (vI y), some (vI s), some (vI b), some (vI (5 * nI c.toNatClampNeg))], [], τ) := fun τ hτ => by
          have d1 := c133 58 (σ := τ) (x1 := c)
          have d2 := c106 58 (σ := τ) (x1 := s)
          rw [hτ 10 0 15 (by omega) (by omega), hC.2.2.1, hq1] at d1
          rw [hτ 10 0 4 (by omega) (by omega), hS.2.2.1, hq2] at d2
          have d3 := c105 58 (σ := τ) (v := y) (a := 1) (b := 999) (A := 1) (B := 999) rfl rfl
          have d4 := c105 58 (σ := τ) (v := b) (a := 0) (b := 1) (A := 0) (B := 1) rfl rfl
          rw [hyin] at d3
          rw [hin] at d4
          rw [← ec]
          exact (m136 59).trans (g136_0_4 _ d1 (by decide) d2 (by decide) d3 (by decide) d4 (by decide))
        rcases c0 57 (σ := σ) (o := c.toNatClampNeg) (s := s) (b := b) l5 l3 hJ with ⟨hJ5, hl5, k0⟩ | ⟨hJ5, σ1, k0, o1, o2, n0, n1, n2, n3⟩
        · have cls : pq_RD 60 66 [vR 9 0 0, vI c, vI y, vI s, vI b] σ = some (some (vI (-4)), σ) := by
            rcases hb with e | e
            · exact (m66 59).trans (g66_0_4 _ a1 (by decide) a2 (by decide) y1 y2 e vc k0 rfl)
            · exact (m66 59).trans (g66_0_6 _ a1 (by decide) a2 (by decide) y1 y2 (by rw [e]; decide) e vc k0 rfl)
          exact ⟨_, _, _, cls, (mod0 σ (fun _ _ _ _ _ => rfl)).trans ((law_mod (s := s) (b := b) (by omega) l5 l4 hJ2).1 hJ5), h⟩
        · generalize hnl : (if J < nl then nl else nl + 1) = nl' at n3
          have hnl' : J < nl' ∧ nl' ≤ 5 ∧ ∀ i, i < nl' → i ≠ J → i < nl := by
            rw [← hnl]
            split
            · exact ⟨by omega, by omega, fun i hi _ => hi⟩
            · exact ⟨by omega, by omega, fun i hi hi2 => by omega⟩
          have hD : ∀ p, p < NP → pD σ1.1 NS NC p := fun p hp => by
            obtain ⟨u0, u1, u2, u3, u4, u5, u6, u7, u8, u9, u10, -⟩ := hP.2.2.2.1 p hp
            refine ⟨by omega, by rw [o1 5 0 3 (by omega)]; exact u9, hNC, fun k hk => ?_, hNS, fun k hk => ?_, by rw [o1 5 0 4 (by omega), o1 5 0 5 (by omega)]; exact u10⟩
            · by_cases ek : k = c.toNatClampNeg
              · subst ek
                refine ⟨nl', by omega, hnl'.2.1, n3, fun i hi => ?_⟩
                by_cases ei : i = J
                · subst ei
                  exact ⟨_, hs, n1.trans es⟩
                · rw [o2 1 i (by omega) ei]
                  exact (l6 i (hnl'.2.2 i hi ei)).2.2.2
              · have := (hC.2.2.2.1 k hk).d
                unfold iD1 at this ⊢
                rw [o1 0 k 3 (by omega), o1 0 k 1 (by omega)]
                exact this
            · obtain ⟨n, w, ch, hsy⟩ := hS.2.2.2.1 k hk
              exact ⟨n, hsy.2.1, by rw [o1 2 k 8 (by omega)]; exact hsy.2.2.2.2.2.1⟩
          obtain ⟨τ, hI, kl⟩ := law_loop (x1 := c) (l2 := some (vI y)) (l3 := some (vI s)) (l4 := some (vI b)) hNP (by rw [o1 5 0 9 (by omega)]; exact hP.2.1) vc hD
          have i1 := hI.1
          have t3 : τ.1 0 c.toNatClampNeg 3 0 = nI nl' := by rw [i1 0 _ 3 (by omega)]; exact n3
          rw [t3] at kl
          have cls : pq_RD 60 66 [vR 9 0 0, vI c, vI y, vI s, vI b] σ = some (some (vI (nI nl')), τ) := by
            rcases hb with e | e
            · exact (m66 59).trans ((g66_0_5 _ a1 (by decide) a2 (by decide) y1 y2 e vc k0 (by decide)).trans kl)
            · exact (m66 59).trans ((g66_0_7 _ a1 (by decide) a2 (by decide) y1 y2 (by rw [e]; decide) e vc k0 (by decide)).trans kl)
          have t10 : ∀ c o k, ¬ (c = 0) → ¬ (c = 5) → τ.1 c o k = σ.1 c o k := fun c o k h1 h2 => by rw [i1 c o k (by omega), o1 c o k (by omega)]
          obtain ⟨ρ, kr, r1, r2, r3, r4, r5, r6, r7⟩ := (law_mod (σ := τ) (y := y) (s := s) (b := b) (c := c.toNatClampNeg) (J := J) (by omega) l5 (by rw [t10 10 0 11 (by omega) (by omega)]; exact l4) (by rw [t10 10 0 12 (by omega) (by omega)]; exact hJ2)).2 hJ5
          rw [hnl] at kr r7
          refine ⟨_, _, _, cls, (mod0 τ t10).trans kr, ?_⟩
          have off : ∀ c o k, ¬ (c = 0) → ¬ (c = 5) → ¬ (c = 10 ∧ 11 ≤ k ∧ k ≤ 14) → ρ.1 c o k = σ.1 c o k := fun c o k h1 h2 h3 => by rw [r1 c o k h3, t10 c o k h1 h2]
          have p0 : ∀ o k, ρ.1 0 o k = σ1.1 0 o k := fun o k => by rw [r1 0 o k (by omega), i1 0 o k (by omega)]
          have p5 : ∀ k, k ≠ 7 → k ≠ 8 → ρ.1 5 0 k = σ.1 5 0 k := fun k h7 h8 => by rw [r1 5 0 k (by omega), i1 5 0 k (by omega), o1 5 0 k (by omega)]
          have q5 : ∀ k, ρ.1 5 0 k = τ.1 5 0 k := fun k => r1 5 0 k (by omega)
          have hC2 : iC ρ.1 NS NC := by
            refine ⟨hNC, by rw [off 9 0 10 (by omega) (by omega) (by omega)]; exact hC.2.1, by rw [off 10 0 15 (by omega) (by omega) (by omega)]; exact hC.2.2.1, fun k hk => ?_, fun k h1 h2 => ?_⟩
            · by_cases ek : k = c.toNatClampNeg
              · subst ek
                refine ⟨nl', by omega, hnl'.2.1, by rw [p0]; exact n3, r7, fun i hi => ?_⟩
                by_cases ei : i = J
                · subst ei
                  rw [p0, p0, p0, n0, n1, n2, r4, r5, r6]
                  exact ⟨rfl, rfl, rfl, _, hs, es⟩
                · rw [p0, p0, p0, o2 0 i (by omega) ei, o2 1 i (by omega) ei, o2 2 i (by omega) ei, r3 12 _ (by omega) (by omega) (by omega), r3 13 _ (by omega) (by omega) (by omega), r3 14 _ (by omega) (by omega) (by omega), t10 10 0 12 (by omega) (by omega), t10 10 0 13 (by omega) (by omega), t10 10 0 14 (by omega) (by omega)]
                  exact l6 i (hnl'.2.2 i hi ei)
              · obtain ⟨ml, m1, m5, m3, m4, m6⟩ := hC.2.2.2.1 k hk
                refine ⟨ml, m1, m5, by rw [p0, o1 0 k 3 (by omega)]; exact m3, by rw [r2 k ek, t10 10 0 11 (by omega) (by omega)]; exact m4, fun i hi => ?_⟩
                have hne : 5 * k + i ≠ 5 * c.toNatClampNeg + J := by
                  rcases Nat.lt_or_gt_of_ne ek with z | z <;> omega
                rw [p0, p0, p0, o1 0 k 0 (by omega), o1 0 k 1 (by omega), o1 0 k 2 (by omega), r3 12 _ (by omega) (by omega) hne, r3 13 _ (by omega) (by omega) hne, r3 14 _ (by omega) (by omega) hne, t10 10 0 12 (by omega) (by omega), t10 10 0 13 (by omega) (by omega), t10 10 0 14 (by omega) (by omega)]
                exact m6 i hi
            · rw [p0, o1 0 k 3 (by omega)]
              exact hC.2.2.2.2 k h1 h2
          have hP2 : iP ρ.1 NC NP := by
            refine ⟨hNP, by rw [p5 9 (by omega) (by omega)]; exact hP.2.1, by rw [off 10 0 16 (by omega) (by omega) (by omega)]; exact hP.2.2.1, fun p hp => ?_, fun p hp => ?_⟩
            · exact iP1_cong (fun k hk => by rw [p5 k (by omega) (by omega)]) (fun k k1 k2 => by rw [off 10 0 k (by omega) (by omega) (by omega)]) (hP.2.2.2.1 p hp)
            · obtain ⟨s1, s2⟩ := sOwn_cong (f := τ.1) (g := ρ.1) (p := p) (fun o k => r1 0 o k (by omega)) (fun o k _ => r1 2 o k (by omega)) (fun k _ _ => by rw [q5]) (by
                rw [i1 5 0 4 (by omega), i1 5 0 5 (by omega), o1 5 0 4 (by omega), o1 5 0 5 (by omega)]
                exact iP1_par (hP.2.2.2.1 p hp) (by omega)) (fun q _ => by rw [q5])
              rw [s1, s2, q5, q5]
              exact hI.2 p hp
          refine ⟨NS, NC, NP, (⟨iT_c ?_ hT, iS_c ?_ hS, hC2, hP2, iW_c ?_ hW, iM_c ?_ hM, iO_c ?_ hO⟩ : iAll ρ.1 NS NC NP)⟩
          all_goals intro c o k hk
          all_goals refine off c o k (fun e => ?_) (fun e => ?_) (fun e => ?_)
          all_goals first
            | (subst e; exact absurd (show false = true from hk) (by decide))
            | (obtain ⟨rfl, e⟩ := e; have hk' := of_decide_eq_true hk; omega)
      · rw [in01 hb] at b4
        exact ⟨_, _, _, (m66 59).trans (g66_0_8 _ a1 (by decide) a2 (by decide) y1 y2 (fun e => hb (Or.inl e)) (fun e => hb (Or.inr e))), (m136 59).trans (g136_0_3 _ b1 (by decide) b2 (by decide) b3 (by decide) b4 rfl), h⟩
