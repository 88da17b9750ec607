/-! living, die -/
theorem T_living {σ : pmS} (h : Inv σ) (x y z : Int32) : Tok 76 158 [vI x, vI y, vI z] σ := by
  obtain ⟨NS, NC, NP, hh⟩ := id h
  have hh : iAll σ.1 NS NC NP := hh
  obtain ⟨hT, hS, hC, hP, hW, hM, hO⟩ := hh
  have hNP := hP.1
  have hNC := hC.1
  have a1 := c88 58 (σ := σ) (x1 := x)
  have b1 := c133 58 (σ := σ) (x1 := x)
  rw [hC.2.1] at a1
  rw [hC.2.2.1] at b1
  cases q1 : sHas (nI NC) x with
  | false =>
    rw [q1] at a1 b1
    exact ⟨_, _, _, (m76 59).trans (g76_0_0 _ a1 rfl), (m158 59).trans (g158_0_0 _ b1 rfl), h⟩
  | true =>
    rw [q1] at a1 b1
    have b2 := c105 58 (σ := σ) (v := z) (a := -1) (b := 7) (A := -1) (B := 7) rfl rfl
    by_cases z1 : z < -1
    · have hin : sIn z (-1) 7 = false := by simp [sIn, z1]
      rw [hin] at b2
      exact ⟨_, _, _, (m76 59).trans (g76_0_1 _ a1 (by decide) z1), (m158 59).trans (g158_0_1 _ b1 (by decide) b2 rfl), h⟩
    by_cases z2 : z < 8
    · have hin : sIn z (-1) 7 = true := by
        have : ¬ (7 : Int32) < z := by
          rw [fa_lt] at z2 ⊢
          have l1 : (7 : Int32).toInt = 7 := rfl
          have l0 : (8 : Int32).toInt = 8 := rfl
          omega
        simp [sIn, z1, this]
      rw [hin] at b2
      obtain ⟨τ, k, hI⟩ := c146 55 hS hC hP
      have hτ : Inv τ := h.same (fcI_mask hI)
      have g := hI.1
      refine ⟨nI (fa_cnt (fun p => decide (σ.1 5 0 3 p = x) && (sLives (σ.1 5 0 1 p) (σ.1 5 0 2 p) y && (decide (z = -1) || decide (σ.1 5 0 7 p = z)))) NP), σ, τ, ?_, ?_, hτ⟩
      · refine (m76 59).trans ((g76_0_2 _ a1 (by decide) z1 z2).trans ?_)
        obtain ⟨l', e⟩ := lp_cntE (C := pq_RD 59) (fr := fun a k l => (76, 27, [some (vR 9 0 0), some (vI x), some (vI y), some (vI z), some (vI a), some (vI (nI k)), l], [], σ)) (p := fun p => decide (σ.1 5 0 3 p = x) && (sLives (σ.1 5 0 1 p) (σ.1 5 0 2 p) y && (decide (z = -1) || decide (σ.1 5 0 7 p = z)))) (n := NP) (l := none) (fun k a l hk => by
          have ek : (nI k).toNatClampNeg = k := nI_clamp (by omega)
          have hv : vp_in (nI k) 48 := vp_in_nI (by omega) (by omega)
          have hg : ¬ σ.1 5 0 9 0 ≤ nI k := by rw [hP.2.1]; exact nI_ge hk (by omega)
          have r := c34 58 (σ := σ) (x2 := y) hv
          rw [ek] at r
          rw [← nI_1]
          by_cases e1 : z = -1
          · by_cases e2 : σ.1 5 0 3 k = x
            · cases e3 : sLives (σ.1 5 0 1 k) (σ.1 5 0 2 k) y with
              | false =>
                rw [e3] at r
                rw [if_neg (by simp [e3])]
                exact ⟨_, g76_27_1 _ hg e1 hv (by rw [ek]; exact e2) r rfl⟩
              | true =>
                rw [e3] at r
                rw [if_pos (by simp [e1, e2, e3])]
                exact ⟨_, g76_27_2 _ hg e1 hv (by rw [ek]; exact e2) r (by decide)⟩
            · rw [if_neg (by simp [e2])]
              exact ⟨_, g76_27_3 _ hg e1 hv (by rw [ek]; exact e2)⟩
          · by_cases e4 : σ.1 5 0 7 k = z
            · by_cases e2 : σ.1 5 0 3 k = x
              · cases e3 : sLives (σ.1 5 0 1 k) (σ.1 5 0 2 k) y with
                | false =>
                  rw [e3] at r
                  rw [if_neg (by simp [e3])]
                  exact ⟨_, g76_27_4 _ hg e1 hv (by rw [ek]; exact e4) (by rw [ek]; exact e2) r rfl⟩
                | true =>
                  rw [e3] at r
                  rw [if_pos (by simp [e4, e2, e3])]
                  exact ⟨_, g76_27_5 _ hg e1 hv (by rw [ek]; exact e4) (by rw [ek]; exact e2) r (by decide)⟩
              · rw [if_neg (by simp [e2])]
                exact ⟨_, g76_27_6 _ hg e1 hv (by rw [ek]; exact e4) (by rw [ek]; exact e2)⟩
            · rw [if_neg (by simp [e1, e4])]
              exact ⟨_, g76_27_7 _ hg e1 hv (by rw [ek]; exact e4)⟩)
        refine Eq.trans e ?_
        exact g76_27_0 _ (by rw [hP.2.1, fa_le]; omega)
      · refine (m158 59).trans ((g158_0_2 _ b1 (by decide) b2 (by decide) k).trans ?_)
        refine (lp_cnt (C := pq_RD 59) (fr := fun a k => (158, 34, [some (vR 10 0 0), some (vI x), some (vI y), some (vI z), some (vI a), some (vI (nI k))], [], τ)) (p := fun p => decide (σ.1 5 0 3 p = x) && (sLives (σ.1 5 0 1 p) (σ.1 5 0 2 p) y && (decide (z = -1) || decide (σ.1 5 0 7 p = z)))) (n := NP) (fun k a hk => ?_)).trans ?_
        · have ek : (nI k).toNatClampNeg = k := nI_clamp (by omega)
          have hv : vp_in (nI k) 48 := vp_in_nI (by omega) (by omega)
          have hg : ¬ τ.1 10 0 16 0 ≤ nI k := by rw [g 10 0 16 (by omega), hP.2.2.1]; exact nI_ge hk (by omega)
          obtain ⟨p0, p1, p2, p3, -⟩ := hP.2.2.2.1 k hk
          have r := c141 58 (σ := τ) (x2 := y) hv
          rw [ek, g 10 0 20 (by omega), g 10 0 21 (by omega), ← p1, ← p2] at r
          have t22 : τ.1 10 0 22 k = σ.1 5 0 3 k := by rw [g 10 0 22 (by omega), p3]
          have o1 := (hI.2.2 k hk).1
          rw [← nI_1]
          by_cases e2 : σ.1 5 0 3 k = x
          · cases e3 : sLives (σ.1 5 0 1 k) (σ.1 5 0 2 k) y with
            | false =>
              rw [e3] at r
              rw [if_neg (by simp)]
              refine (g158_34_1 _ hg hv (by rw [ek, t22]; exact e2) r rfl).trans ?_
              rw [Int32.add_zero]
            | true =>
              rw [e3] at r
              by_cases e1 : z = -1
              · rw [if_pos (by simp [e1, e2])]
                exact g158_34_2 _ hg hv (by rw [ek, t22]; exact e2) r (by decide) e1
              · by_cases e4 : σ.1 5 0 7 k = z
                · rw [if_pos (by simp [e4, e2])]
                  exact g158_34_3 _ hg hv (by rw [ek, t22]; exact e2) r (by decide) e1 (by rw [ek, o1]; exact e4)
                · rw [if_neg (by simp [e1, e4])]
                  refine (g158_34_4 _ hg hv (by rw [ek, t22]; exact e2) r (by decide) e1 (by rw [ek, o1]; exact e4)).trans ?_
                  rw [Int32.add_zero]
          · rw [if_neg (by simp [e2])]
            refine (g158_34_5 _ hg hv (by rw [ek, t22]; exact e2)).trans ?_
            rw [Int32.add_zero]
        · exact g158_34_0 _ (by rw [g 10 0 16 (by omega), hP.2.2.1, fa_le]; omega)
    · have hin : sIn z (-1) 7 = false := by
        have : (7 : Int32) < z := by
          rw [fa_lt] at z2 ⊢
          have l1 : (7 : Int32).toInt = 7 := rfl
          have l0 : (8 : Int32).toInt = 8 := rfl
          omega
        simp [sIn, this]
      rw [hin] at b2
      exact ⟨_, _, _, (m76 59).trans (g76_0_3 _ a1 (by decide) z1 z2), (m158 59).trans (g158_0_1 _ b1 (by decide) b2 rfl), h⟩
/-- own and other class look at little -/
theorem sOwn_cong {f g : pmI} {p : Nat} (h0 : ∀ o k, g 0 o k = f 0 o k) (h2 : ∀ o k, k ≤ 8 → g 2 o k = f 2 o k) (h5 : ∀ k, k ≤ 6 → k ≠ 2 → g 5 0 k p = f 5 0 k p) (hp : f 5 0 4 p = -1 ∨ (f 5 0 4 p).toNatClampNeg < p ∧ (f 5 0 5 p).toNatClampNeg < p) (h7 : ∀ q, q < p → g 5 0 7 q = f 5 0 7 q) : sOwn g (g 5 0 7) p = sOwn f (f 5 0 7) p ∧ sOth g (g 5 0 7) p = sOth f (f 5 0 7) p := by
  have eb : sLb g p = sLb f p := by
    unfold sLb
    rw [h5 3 (by omega) (by omega), h5 1 (by omega) (by omega), h0, h0]
  have es : sSb g p = sSb f p := by
    unfold sSb
    rw [eb, h5 3 (by omega) (by omega), h0]
  have em : sBm g p = sBm f p := by
    unfold sBm
    rw [eb, h5 3 (by omega) (by omega), h0]
  unfold sOwn sOth
  rw [h5 4 (by omega) (by omega), h5 5 (by omega) (by omega), h5 6 (by omega) (by omega), em, es, h2 _ 8 (by omega), h2 _ 2 (by omega), h2 _ 3 (by omega)]
  rcases hp with hp | ⟨hm, hf⟩
  · rw [if_pos hp, if_pos hp, if_pos hp, if_pos hp]
    exact ⟨rfl, rfl⟩
  · rw [h7 _ hm, h7 _ hf]
    exact ⟨rfl, rfl⟩
theorem iP1_par {f : pmI} {NC p : Nat} (h : iP1 f NC p) (hp : p < 2 ^ 31) : f 5 0 4 p = -1 ∨ (f 5 0 4 p).toNatClampNeg < p ∧ (f 5 0 5 p).toNatClampNeg < p := by
  obtain ⟨-, -, -, -, -, -, -, -, -, -, h1, -⟩ := h
  rcases h1 with h1 | ⟨m, fa, hm, hf, em, ef⟩
  · exact Or.inl h1.1
  · rw [em, ef, nI_clamp (by omega), nI_clamp (by omega)]
    exact Or.inr ⟨hm, hf⟩
theorem iP1_cong {f g : pmI} {NC p : Nat} (h5 : ∀ k, k ≤ 6 → g 5 0 k p = f 5 0 k p) (h10 : ∀ k, 19 ≤ k → k ≤ 25 → g 10 0 k p = f 10 0 k p) (H : iP1 f NC p) : iP1 g NC p := by
  unfold iP1
  rw [h5 0 (by omega), h5 1 (by omega), h5 2 (by omega), h5 3 (by omega), h5 4 (by omega), h5 5 (by omega), h5 6 (by omega), h10 19 (by omega) (by omega), h10 20 (by omega) (by omega), h10 21 (by omega) (by omega), h10 22 (by omega) (by omega), h10 23 (by omega) (by omega), h10 24 (by omega) (by omega), h10 25 (by omega) (by omega)]
  exact H
theorem T_die {σ : pmS} (h : Inv σ) (x y : Int32) : Tok 69 143 [vI x, vI y] σ := by
  obtain ⟨NS, NC, NP, hh⟩ := id h
  have hh : iAll σ.1 NS NC NP := hh
  obtain ⟨hT, hS, hC, hP, hW, hM, hO⟩ := hh
  have hNP := hP.1
  have a1 := c32 58 (σ := σ) (x1 := x)
  have b1 := c134 58 (σ := σ) (x1 := x)
  rw [hP.2.1] at a1
  rw [hP.2.2.1] at b1
  cases q1 : sHas (nI NP) x with
  | false =>
    rw [q1] at a1 b1
    exact ⟨_, _, _, (m69 59).trans (g69_0_0 _ a1 rfl), (m143 59).trans (g143_0_0 _ b1 rfl), h⟩
  | true =>
    have hq1 := q1
    rw [q1] at a1 b1
    obtain ⟨ex, hx⟩ := in_nI (sHas_in (by omega) q1) (by omega)
    have vx : vp_in x 48 := in_le (sHas_in (by omega) q1) hNP (by omega)
    obtain ⟨p0, p1, p2, p3, -⟩ := hP.2.2.2.1 _ hx
    by_cases y1 : y ≤ σ.1 5 0 1 x.toNatClampNeg
    · exact ⟨_, _, _, (m69 59).trans (g69_0_1 _ a1 (by decide) vx y1), (m143 59).trans (g143_0_1 _ b1 (by decide) vx (by rw [← p1]; exact y1)), h⟩
    by_cases y2 : y ≤ 1000
    · by_cases y3 : σ.1 5 0 2 x.toNatClampNeg = -1
      · have b2 := c134 58 (σ := pm_wi σ 5 0 2 x.toNatClampNeg y) (x1 := x)
        rw [wi_k (by omega), hP.2.2.1, hq1] at b2
        refine ⟨_, _, _, (m69 59).trans (g69_0_2 _ a1 (by decide) vx y1 y2 y3), (m143 59).trans (g143_0_2 _ b2 (by decide) vx (by rw [wi_k (by omega), ← p1]; exact y1) y2 (by rw [wi_k (by omega), ← p2]; exact y3)), ?_⟩
        generalize e2 : pm_wi (pm_wi σ 5 0 2 x.toNatClampNeg y) 10 0 21 x.toNatClampNeg y = ρ
        have off : ∀ c o k, ¬ (c = 5 ∧ k = 2) → ¬ (c = 10 ∧ k = 21) → ρ.1 c o k = σ.1 c o k := fun c o k h1 h2 => by
          rw [← e2, wi_k h2, wi_k h1]
        have d1 : ∀ p, ρ.1 5 0 2 p = ρ.1 10 0 21 p ∨ (ρ.1 5 0 2 p = σ.1 5 0 2 p ∧ ρ.1 10 0 21 p = σ.1 10 0 21 p) := fun p => by
          rw [← e2]
          by_cases e : p = x.toNatClampNeg
          · left; simp [wi_1, e]
          · right; simp [wi_1, e]
        have hP2 : iP ρ.1 NC NP := by
          refine ⟨hNP, by rw [off 5 0 9 (by omega) (by omega)]; exact hP.2.1, by rw [off 10 0 16 (by omega) (by omega)]; exact hP.2.2.1, fun p hp => ?_, fun p hp => ?_⟩
          · obtain ⟨u0, u1, u2, u3, u4, u5, u6, u7⟩ := hP.2.2.2.1 p hp
            unfold iP1
            rw [off 5 0 0 (by omega) (by omega), off 5 0 1 (by omega) (by omega), off 5 0 3 (by omega) (by omega), off 5 0 4 (by omega) (by omega), off 5 0 5 (by omega) (by omega), off 5 0 6 (by omega) (by omega), off 10 0 19 (by omega) (by omega), off 10 0 20 (by omega) (by omega), off 10 0 22 (by omega) (by omega), off 10 0 23 (by omega) (by omega), off 10 0 24 (by omega) (by omega), off 10 0 25 (by omega) (by omega)]
            refine ⟨u0, u1, ?_, u3, u4, u5, u6, u7⟩
            rcases d1 p with d | ⟨d, d'⟩
            · exact d
            · rw [d, d']; exact u2
          · obtain ⟨s1, s2⟩ := sOwn_cong (f := σ.1) (g := ρ.1) (p := p) (fun o k => off 0 o k (by omega) (by omega)) (fun o k _ => off 2 o k (by omega) (by omega)) (fun k _ hk2 => by rw [off 5 0 k (by omega) (by omega)]) (iP1_par (hP.2.2.2.1 p hp) (by omega)) (fun q _ => by rw [off 5 0 7 (by omega) (by omega)])
            rw [s1, s2, off 5 0 7 (by omega) (by omega), off 5 0 8 (by omega) (by omega)]
            exact hP.2.2.2.2 p hp
        refine ⟨NS, NC, NP, (⟨iT_c ?_ hT, iS_c ?_ hS, iC_c ?_ hC, hP2, iW_c ?_ hW, iM_c ?_ hM, iO_c ?_ hO⟩ : iAll ρ.1 NS NC NP)⟩
        all_goals intro c o k hk
        all_goals refine off c o k (fun e => ?_) (fun e => ?_)
        all_goals (obtain ⟨rfl, rfl⟩ := e; exact absurd hk (by decide))
      · exact ⟨_, _, _, (m69 59).trans (g69_0_3 _ a1 (by decide) vx y1 y2 y3), (m143 59).trans (g143_0_3 _ b1 (by decide) vx (by rw [← p1]; exact y1) y2 (by rw [← p2]; exact y3)), h⟩
    · exact ⟨_, _, _, (m69 59).trans (g69_0_4 _ a1 (by decide) vx y1 y2), (m143 59).trans (g143_0_4 _ b1 (by decide) vx (by rw [← p1]; exact y1) y2), h⟩
