/-! stranger, born -/
theorem c87 (d : Nat) {σ : pmS} {NS : Nat} {x1 x2 : Int32} (hN : NS ≤ 4) (h : σ.1 9 0 9 0 = nI NS) : pq_RD (d + 2) 87 [vR 9 0 0, vI x1, vI x2] σ = some (some (vI (bI (sHas (nI NS) x1 && sHas (σ.1 2 x1.toNatClampNeg 8 0) x2))), σ) := by
  have k := c86 d (σ := σ) (x1 := x1)
  rw [h] at k
  have k2 := c9 d (σ := σ) (o0 := x1.toNatClampNeg) (x1 := x2)
  cases hb : sHas (nI NS) x1 with
  | false =>
    rw [hb] at k
    exact (m87 (d + 1)).trans (g87_0_0 _ k rfl)
  | true =>
    rw [hb] at k
    have hv : vp_in x1 4 := in_le (sHas_in (by omega) hb) hN (by omega)
    cases hb2 : sHas (σ.1 2 x1.toNatClampNeg 8 0) x2 with
    | false =>
      rw [hb2] at k2
      exact (m87 (d + 1)).trans (g87_0_1 _ k (by decide) hv k2 rfl)
    | true =>
      rw [hb2] at k2
      exact (m87 (d + 1)).trans (g87_0_2 _ k (by decide) hv k2 (by decide))
theorem sYear_rng {y : Int32} (h : sYear y = true) : 0 ≤ y ∧ y ≤ 999 := by
  have h : ¬ y < 0 ∧ ¬ 999 < y := by simpa [sYear] using h
  exact ⟨i_nlt.mp h.1, i_nlt.mp h.2⟩
theorem sSex_01 {s : Int32} (h : sSex s = true) : s = 0 ∨ s = 1 := by simpa [sSex] using h
theorem T_stranger {σ : pmS} (h : Inv σ) (s y c t : Int32) : Tok 67 140 [vI s, vI y, vI c, vI t] σ := by
  obtain ⟨NS, NC, NP, hh⟩ := id h
  have hh : iAll σ.1 NS NC NP := hh
  obtain ⟨hT, hS, hC, hP, hW, hM, hO⟩ := id hh
  have hNP := hP.1
  have hNC := hC.1
  have hNS := hS.1
  have a1 := c88 58 (σ := σ) (x1 := c)
  have a2 := c89 58 (σ := σ) (x0 := s)
  have a3 := c90 58 (σ := σ) (x0 := y)
  have b1 := c133 58 (σ := σ) (x1 := c)
  have b2 := c118 58 (σ := σ) (x0 := s)
  have b3 := c138 57 (σ := σ) (x0 := y)
  rw [hC.2.1] at a1
  rw [hC.2.2.1] at b1
  cases q2 : sSex s with
  | false =>
    rw [q2] at a2 b2
    cases q1 : sHas (nI NC) c with
    | false =>
      rw [q1] at a1
      exact ⟨_, _, _, (m67 59).trans (g67_0_0 _ a1 rfl), (m140 59).trans (g140_0_0 _ b2 rfl), h⟩
    | true =>
      rw [q1] at a1
      exact ⟨_, _, _, (m67 59).trans (g67_0_1 _ a1 (by decide) a2 rfl), (m140 59).trans (g140_0_0 _ b2 rfl), h⟩
  | true =>
    rw [q2] at a2 b2
    cases q1 : sHas (nI NC) c with
    | false =>
      rw [q1] at a1 b1
      exact ⟨_, _, _, (m67 59).trans (g67_0_0 _ a1 rfl), (m140 59).trans (g140_0_1 _ b2 (by decide) b1 rfl), h⟩
    | true =>
      have hq1 := q1
      rw [q1] at a1 b1
      obtain ⟨ec, hc⟩ := in_nI (sHas_in (by omega) q1) (by omega)
      have hs := sSex_01 q2
      -- the newcomer
      have new : NP < 48 → sYear y = true → (t = -1 ∨ ∃ k, k < 8 ∧ t = nI k) → ∃ σ1, pq_RD 59 31 [vR 5 0 0, vI s, vI y, vI c] σ = some (some (vI (nI NP)), σ1) ∧ ∃ σ3, pq_RD 59 95 [vR 9 0 0, vI (nI NP)] (pm_wi σ1 5 0 6 (nI NP).toNatClampNeg t) = some (none, σ3) ∧ (∀ c o k, ¬ (c = 5) → σ3.1 c o k = σ.1 c o k) ∧ ∃ ρ, pq_RD 59 139 [vR 10 0 0, vI s, vI y, vI c, vI (-1), vI (-1), vI t] σ3 = some (some (vI (nI NP)), ρ) ∧ Inv ρ := fun h48 hy ht => by
        obtain ⟨σ1, k31, o1, o2, n0, n1, n2, n3, n4, n5, n6, n9⟩ := c31 58 (σ := σ) (s := s) (y := y) (c := c) h48 hP.2.1
        refine ⟨σ1, k31, ?_⟩
        rw [nI_clamp (by omega)]
        refine comes (σ := σ) (σ2 := pm_wi σ1 5 0 6 NP t) (m := -1) (f := -1) (s := s) (y := y) (c := c) (t := t) hh h48 (fun c o k hc => ?_) (fun k p hk hp => ?_) ?_ ?_ ?_ ?_ ?_ ?_ (wi_s _ _ _ _ _ _) ?_ hs (sYear_rng hy) ⟨_, hc, ec⟩ (Or.inl ⟨rfl, rfl⟩) ht
        · rw [wi_k (fun z => hc z.1), o1 c o k hc]
        · rw [wi_1, if_neg (fun z => hp z.2.2.2), o2 k p hk hp]
        · rw [wi_k (by omega)]; exact n0
        · rw [wi_k (by omega)]; exact n1
        · rw [wi_k (by omega)]; exact n2
        · rw [wi_k (by omega)]; exact n3
        · rw [wi_k (by omega)]; exact n4
        · rw [wi_k (by omega)]; exact n5
        · rw [wi_k (by omega)]; exact n9
      by_cases t1 : t = -1
      · cases q3 : sYear y with
        | false =>
          rw [q3] at a3 b3
          exact ⟨_, _, _, (m67 59).trans (g67_0_2 _ a1 (by decide) a2 (by decide) t1 a3 rfl), (m140 59).trans (g140_0_2 _ b2 (by decide) b1 (by decide) t1 b3 rfl), h⟩
        | true =>
          have hq3 := q3
          rw [q3] at a3 b3
          rcases Nat.lt_or_ge NP 48 with h48 | h48
          · obtain ⟨σ1, k31, σ3, k95, o3, ρ, k139, hρ⟩ := new h48 q3 (Or.inl t1)
            have d1 := c133 58 (σ := σ3) (x1 := c)
            have d2 := c118 58 (σ := σ3) (x0 := s)
            have d3 := c138 57 (σ := σ3) (x0 := y)
            rw [o3 10 0 15 (by omega), hC.2.2.1, hq1] at d1
            rw [q2] at d2
            rw [hq3] at d3
            exact ⟨_, _, _, (m67 59).trans (g67_0_3 _ a1 (by decide) a2 (by decide) t1 a3 (by decide) (by rw [hP.2.1]; exact nI_lt (b := 48) h48 (by omega)) k31 (vp_in_nI h48 (by omega)) k95), (m140 59).trans (g140_0_4 _ d2 (by decide) d1 (by decide) t1 d3 (by decide) (by rw [o3 10 0 16 (by omega), hP.2.2.1]; intro e; have := (nI_eq (a := NP) (b := 48) (by omega) (by omega)).mp e; omega) k139), hρ⟩
          · have e48 : NP = 48 := by omega
            subst e48
            exact ⟨_, _, _, (m67 59).trans (g67_0_4 _ a1 (by decide) a2 (by decide) t1 a3 (by decide) (by rw [hP.2.1]; decide)), (m140 59).trans (g140_0_3 _ b2 (by decide) b1 (by decide) t1 b3 (by decide) (by rw [hP.2.2.1]; rfl)), h⟩
      · -- a class of its own
        have hi := hC.2.2.2.1 _ hc
        obtain ⟨nl, n1, n5, -, n4, hl, -, ⟨sy, hsy, esy⟩, l13, -, lmod⟩ := lawIx_ok hi y
        have hsyN := hsy
        have a4 := c92 57 (σ := σ) (y := y) (show c.toNatClampNeg < 3 by omega) hi
        rw [← ec, esy] at a4
        have a5 := c87 57 (σ := σ) (x1 := nI sy) (x2 := t) hNS hS.2.1
        obtain ⟨n, w, ch, hsys⟩ := hS.2.2.2.1 sy hsy
        have hn8 := hsys.2.1
        rw [sHas_nI (by omega) hsy, Bool.true_and, nI_clamp (by omega), hsys.2.2.2.2.2.1] at a5
        have mod : ∀ τ : pmS, (∀ c o k, ¬ (c = 5) → τ.1 c o k = σ.1 c o k) → pq_RD 59 137 [vR 10 0 0, vI c, vI y] τ = some (some (vI (nI (5 * c.toNatClampNeg + lawIx σ.1 c.toNatClampNeg y))), τ) ∧ vp_in (nI (5 * c.toNatClampNeg + lawIx σ.1 c.toNatClampNeg y)) 15 ∧ pq_RD 59 107 [vR 10 0 0, vI (τ.1 10 0 13 (nI (5 * c.toNatClampNeg + lawIx σ.1 c.toNatClampNeg y)).toNatClampNeg), vI t] τ = some (some (vI (bI (sHas (nI n) t))), τ) := fun τ hτ => by
          have k1 := c137 58 (σ := τ) (c := c.toNatClampNeg) (y := y) (by omega) n1 n5 (by rw [hτ 10 0 11 (by omega)]; exact n4)
          rw [hτ 10 0 12 (by omega), lmod, ← ec] at k1
          have k2 := c107 57 (σ := τ) (x1 := nI sy) (x2 := t) hNS (by rw [hτ 10 0 4 (by omega)]; exact hS.2.2.1)
          rw [sHas_nI (by omega) hsy, Bool.true_and, nI_clamp (by omega), hτ 10 0 0 (by omega), hsys.2.2.2.2.2.2.1] at k2
          refine ⟨k1, vp_in_nI (by omega) (by omega), ?_⟩
          rw [nI_clamp (by omega), hτ 10 0 13 (by omega), ← l13, esy]
          exact k2
        obtain ⟨b4, b5, b6⟩ := mod σ (fun _ _ _ _ => rfl)
        cases q4 : sHas (nI n) t with
        | false =>
          rw [q4] at a5 b6
          exact ⟨_, _, _, (m67 59).trans (g67_0_5 _ a1 (by decide) a2 (by decide) t1 a4 a5 rfl), (m140 59).trans (g140_0_5 _ b2 (by decide) b1 (by decide) t1 b4 b5 b6 rfl), h⟩
        | true =>
          have hq4 := q4
          rw [q4] at a5 b6
          cases q3 : sYear y with
          | false =>
            rw [q3] at a3 b3
            exact ⟨_, _, _, (m67 59).trans (g67_0_6 _ a1 (by decide) a2 (by decide) t1 a4 a5 (by decide) a3 rfl), (m140 59).trans (g140_0_6 _ b2 (by decide) b1 (by decide) t1 b4 b5 b6 (by decide) b3 rfl), h⟩
          | true =>
            have hq3 := q3
            rw [q3] at a3 b3
            rcases Nat.lt_or_ge NP 48 with h48 | h48
            · obtain ⟨et, ht⟩ := in_nI (sHas_in (by omega) hq4) (by omega)
              obtain ⟨σ1, k31, σ3, k95, o3, ρ, k139, hρ⟩ := new h48 q3 (Or.inr ⟨t.toNatClampNeg, by omega, et⟩)
              have d1 := c133 58 (σ := σ3) (x1 := c)
              have d2 := c118 58 (σ := σ3) (x0 := s)
              have d3 := c138 57 (σ := σ3) (x0 := y)
              obtain ⟨d4, d5, d6⟩ := mod σ3 o3
              rw [o3 10 0 15 (by omega), hC.2.2.1, hq1] at d1
              rw [q2] at d2
              rw [hq3] at d3
              rw [hq4] at d6
              exact ⟨_, _, _, (m67 59).trans (g67_0_7 _ a1 (by decide) a2 (by decide) t1 a4 a5 (by decide) a3 (by decide) (by rw [hP.2.1]; exact nI_lt (b := 48) h48 (by omega)) k31 (vp_in_nI h48 (by omega)) k95), (m140 59).trans (g140_0_8 _ d2 (by decide) d1 (by decide) t1 d4 d5 d6 (by decide) d3 (by decide) (by rw [o3 10 0 16 (by omega), hP.2.2.1]; intro e; have := (nI_eq (a := NP) (b := 48) (by omega) (by omega)).mp e; omega) k139), hρ⟩
            · have e48 : NP = 48 := by omega
              subst e48
              exact ⟨_, _, _, (m67 59).trans (g67_0_8 _ a1 (by decide) a2 (by decide) t1 a4 a5 (by decide) a3 (by decide) (by rw [hP.2.1]; decide)), (m140 59).trans (g140_0_7 _ b2 (by decide) b1 (by decide) t1 b4 b5 b6 (by decide) b3 (by decide) (by rw [hP.2.2.1]; rfl)), h⟩
def sBear (lm lf1 lf : Bool) (a b : Int32) : Bool := (lm && (lf1 || lf)) && (!decide (a < 12) && !decide (b < 12))
theorem c96 (d : Nat) {σ : pmS} {x1 x2 x3 : Int32} (v1 : vp_in x1 48) (v2 : vp_in x2 48) : pq_RD (d + 2) 96 [vR 9 0 0, vI x1, vI x2, vI x3] σ = some (some (vI (bI (sBear (sLives (σ.1 5 0 1 x1.toNatClampNeg) (σ.1 5 0 2 x1.toNatClampNeg) x3) (sLives (σ.1 5 0 1 x2.toNatClampNeg) (σ.1 5 0 2 x2.toNatClampNeg) (x3 - 1)) (sLives (σ.1 5 0 1 x2.toNatClampNeg) (σ.1 5 0 2 x2.toNatClampNeg) x3) (x3 - σ.1 5 0 1 x1.toNatClampNeg) (x3 - σ.1 5 0 1 x2.toNatClampNeg)))), σ) := by
  have k1 := c34 d (σ := σ) (x2 := x3) v1
  have k2 := c34 d (σ := σ) (x2 := x3 - 1) v2
  have k3 := c34 d (σ := σ) (x2 := x3) v2
  generalize sLives (σ.1 5 0 1 x1.toNatClampNeg) (σ.1 5 0 2 x1.toNatClampNeg) x3 = A at k1 ⊢
  generalize sLives (σ.1 5 0 1 x2.toNatClampNeg) (σ.1 5 0 2 x2.toNatClampNeg) (x3 - 1) = B at k2 ⊢
  generalize sLives (σ.1 5 0 1 x2.toNatClampNeg) (σ.1 5 0 2 x2.toNatClampNeg) x3 = D at k3 ⊢
  cases A with
  | false => exact (m96 (d + 1)).trans (g96_0_0 _ k1 rfl)
  | true =>
    by_cases a : x3 - σ.1 5 0 1 x1.toNatClampNeg < 12 <;> by_cases b : x3 - σ.1 5 0 1 x2.toNatClampNeg < 12 <;> cases B <;> cases D
    · exact (m96 (d + 1)).trans ((g96_0_1 _ k1 (by decide) k2 rfl k3 rfl).trans (by simp [sBear, bI]))
    · exact (m96 (d + 1)).trans ((g96_0_2 _ k1 (by decide) k2 rfl k3 (by decide) v1 a).trans (by simp [sBear, bI, a]))
    · exact (m96 (d + 1)).trans ((g96_0_5 _ k1 (by decide) k2 (by decide) v1 a).trans (by simp [sBear, bI, a]))
    · exact (m96 (d + 1)).trans ((g96_0_5 _ k1 (by decide) k2 (by decide) v1 a).trans (by simp [sBear, bI, a]))
    · exact (m96 (d + 1)).trans ((g96_0_1 _ k1 (by decide) k2 rfl k3 rfl).trans (by simp [sBear, bI]))
    · exact (m96 (d + 1)).trans ((g96_0_2 _ k1 (by decide) k2 rfl k3 (by decide) v1 a).trans (by simp [sBear, bI, a]))
    · exact (m96 (d + 1)).trans ((g96_0_5 _ k1 (by decide) k2 (by decide) v1 a).trans (by simp [sBear, bI, a]))
    · exact (m96 (d + 1)).trans ((g96_0_5 _ k1 (by decide) k2 (by decide) v1 a).trans (by simp [sBear, bI, a]))
    · exact (m96 (d + 1)).trans ((g96_0_1 _ k1 (by decide) k2 rfl k3 rfl).trans (by simp [sBear, bI]))
    · exact (m96 (d + 1)).trans ((g96_0_3 _ k1 (by decide) k2 rfl k3 (by decide) v1 a v2 b).trans (by simp [sBear, bI, b]))
    · exact (m96 (d + 1)).trans ((g96_0_6 _ k1 (by decide) k2 (by decide) v1 a v2 b).trans (by simp [sBear, bI, b]))
    · exact (m96 (d + 1)).trans ((g96_0_6 _ k1 (by decide) k2 (by decide) v1 a v2 b).trans (by simp [sBear, bI, b]))
    · exact (m96 (d + 1)).trans ((g96_0_1 _ k1 (by decide) k2 rfl k3 rfl).trans (by simp [sBear, bI]))
    · exact (m96 (d + 1)).trans ((g96_0_4 _ k1 (by decide) k2 rfl k3 (by decide) v1 a v2 b).trans (by simp [sBear, bI, a, b]))
    · exact (m96 (d + 1)).trans ((g96_0_7 _ k1 (by decide) k2 (by decide) v1 a v2 b).trans (by simp [sBear, bI, a, b]))
    · exact (m96 (d + 1)).trans ((g96_0_7 _ k1 (by decide) k2 (by decide) v1 a v2 b).trans (by simp [sBear, bI, a, b]))
theorem T_born {σ : pmS} (h : Inv σ) (s y m f : Int32) : Tok 68 142 [vI s, vI y, vI m, vI f] σ := by
  obtain ⟨NS, NC, NP, hh⟩ := id h
  have hh : iAll σ.1 NS NC NP := hh
  obtain ⟨hT, hS, hC, hP, hW, hM, hO⟩ := id hh
  have hNP := hP.1
  have a1 := c89 58 (σ := σ) (x0 := s)
  have a2 := c32 58 (σ := σ) (x1 := m)
  have a3 := c32 58 (σ := σ) (x1 := f)
  have a4 := c90 58 (σ := σ) (x0 := y)
  have b1 := c118 58 (σ := σ) (x0 := s)
  have b2 := c134 58 (σ := σ) (x1 := m)
  have b3 := c134 58 (σ := σ) (x1 := f)
  have b4 := c138 57 (σ := σ) (x0 := y)
  rw [hP.2.1] at a2 a3
  rw [hP.2.2.1] at b2 b3
  cases q1 : sSex s with
  | false =>
    rw [q1] at a1 b1
    exact ⟨_, _, _, (m68 59).trans (g68_0_0 _ a1 rfl), (m142 59).trans ((g142_0_0 _ b1 rfl).trans (g142_24_0 _)), h⟩
  | true =>
    rw [q1] at a1 b1
    cases q2 : sHas (nI NP) m with
    | false =>
      rw [q2] at a2 b2
      exact ⟨_, _, _, (m68 59).trans (g68_0_1 _ a1 (by decide) a2 rfl), (m142 59).trans ((g142_0_1 _ b1 (by decide) b2 rfl).trans (g142_24_0 _)), h⟩
    | true =>
      have hq2 := q2
      rw [q2] at a2 b2
      cases q3 : sHas (nI NP) f with
      | false =>
        rw [q3] at a3 b3
        exact ⟨_, _, _, (m68 59).trans (g68_0_2 _ a1 (by decide) a2 (by decide) a3 rfl), (m142 59).trans ((g142_0_2 _ b1 (by decide) b2 (by decide) b3 rfl).trans (g142_24_0 _)), h⟩
      | true =>
        have hq3 := q3
        rw [q3] at a3 b3
        obtain ⟨em, hm⟩ := in_nI (sHas_in (by omega) q2) (by omega)
        obtain ⟨ef, hf⟩ := in_nI (sHas_in (by omega) q3) (by omega)
        have vm : vp_in m 48 := in_le (sHas_in (by omega) q2) hNP (by omega)
        have vf : vp_in f 48 := in_le (sHas_in (by omega) q3) hNP (by omega)
        obtain ⟨u0, u1, u2, u3, u4, u5, u6, u7, u8, u9, -⟩ := hP.2.2.2.1 _ hm
        obtain ⟨v0, v1, v2, -⟩ := hP.2.2.2.1 _ hf
        cases q4 : sYear y with
        | false =>
          rw [q4] at a4 b4
          exact ⟨_, _, _, (m68 59).trans (g68_0_3 _ a1 (by decide) a2 (by decide) a3 (by decide) a4 rfl), (m142 59).trans ((g142_0_3 _ b1 (by decide) b2 (by decide) b3 (by decide) b4 rfl).trans (g142_53_0 _)), h⟩
        | true =>
          have hq4 := q4
          rw [q4] at a4 b4
          by_cases s1 : σ.1 5 0 0 m.toNatClampNeg = 1
          · by_cases s2 : σ.1 5 0 0 f.toNatClampNeg = 0
            · have a5 := c96 57 (σ := σ) (x3 := y) vm vf
              -- the model up to its size
              have mod : ∀ τ : pmS, (∀ c o k, ¬ (c = 5) → τ.1 c o k = σ.1 c o k) → pq_RD 60 142 [vR 10 0 0, vI s, vI y, vI m, vI f] τ = if sLives (σ.1 5 0 1 m.toNatClampNeg) (σ.1 5 0 2 m.toNatClampNeg) y && (sLives (σ.1 5 0 1 f.toNatClampNeg) (σ.1 5 0 2 f.toNatClampNeg) (y - 1) || sLives (σ.1 5 0 1 f.toNatClampNeg) (σ.1 5 0 2 f.toNatClampNeg) y) then pq_Rn (pq_RD 59) (142, 90, [some (vR 10 0 0), some (vI s), some (vI y), some (vI m), some (vI f)], [], τ) else some (some (vI (-3)), τ) := fun τ hτ => by
                have d1 := c118 58 (σ := τ) (x0 := s)
                have d2 := c134 58 (σ := τ) (x1 := m)
                have d3 := c134 58 (σ := τ) (x1 := f)
                have d4 := c138 57 (σ := τ) (x0 := y)
                rw [hτ 10 0 16 (by omega), hP.2.2.1] at d2 d3
                rw [q1] at d1
                rw [hq2] at d2
                rw [hq3] at d3
                rw [hq4] at d4
                have k1 := c141 58 (σ := τ) (x2 := y) vm
                have k2 := c141 58 (σ := τ) (x2 := y - 1) vf
                have k3 := c141 58 (σ := τ) (x2 := y) vf
                rw [hτ 10 0 20 (by omega), hτ 10 0 21 (by omega), ← u1, ← u2] at k1
                rw [hτ 10 0 20 (by omega), hτ 10 0 21 (by omega), ← v1, ← v2] at k2 k3
                have w1 : τ.1 10 0 19 m.toNatClampNeg = 1 := by rw [hτ 10 0 19 (by omega), ← u0]; exact s1
                have w2 : τ.1 10 0 19 f.toNatClampNeg = 0 := by rw [hτ 10 0 19 (by omega), ← v0]; exact s2
                generalize sLives (σ.1 5 0 1 m.toNatClampNeg) (σ.1 5 0 2 m.toNatClampNeg) y = A at k1 ⊢
                generalize sLives (σ.1 5 0 1 f.toNatClampNeg) (σ.1 5 0 2 f.toNatClampNeg) (y - 1) = B at k2 ⊢
                generalize sLives (σ.1 5 0 1 f.toNatClampNeg) (σ.1 5 0 2 f.toNatClampNeg) y = D at k3 ⊢
                cases A
                · exact (m142 59).trans ((g142_0_4 _ d1 (by decide) d2 (by decide) d3 (by decide) d4 (by decide) vm w1 vf w2 k1 rfl).trans (g142_87_0 _))
                · cases D
                  · cases B
                    · exact (m142 59).trans ((g142_0_5 _ d1 (by decide) d2 (by decide) d3 (by decide) d4 (by decide) vm w1 vf w2 k1 (by decide) k3 rfl k2 rfl).trans (g142_87_0 _))
                    · exact (m142 59).trans (g142_0_6 _ d1 (by decide) d2 (by decide) d3 (by decide) d4 (by decide) vm w1 vf w2 k1 (by decide) k3 rfl k2 (by decide))
                  · cases B
                    · exact (m142 59).trans (g142_0_7 _ d1 (by decide) d2 (by decide) d3 (by decide) d4 (by decide) vm w1 vf w2 k1 (by decide) k3 (by decide))
                    · exact (m142 59).trans (g142_0_7 _ d1 (by decide) d2 (by decide) d3 (by decide) d4 (by decide) vm w1 vf w2 k1 (by decide) k3 (by decide))
              have b5 := mod σ (fun _ _ _ _ => rfl)
              unfold sBear at a5
              generalize e0 : (sLives (σ.1 5 0 1 m.toNatClampNeg) (σ.1 5 0 2 m.toNatClampNeg) y && (sLives (σ.1 5 0 1 f.toNatClampNeg) (σ.1 5 0 2 f.toNatClampNeg) (y - 1) || sLives (σ.1 5 0 1 f.toNatClampNeg) (σ.1 5 0 2 f.toNatClampNeg) y)) = L at a5 b5 mod
              cases L with
              | false =>
                rw [Bool.false_and] at a5
                rw [if_neg (by decide)] at b5
                exact ⟨_, _, _, (m68 59).trans (g68_0_4 _ a1 (by decide) a2 (by decide) a3 (by decide) a4 (by decide) vm s1 vf s2 a5 rfl), b5, h⟩
              | true =>
                rw [Bool.true_and] at a5
                rw [if_pos rfl] at b5
                by_cases g1 : y - σ.1 5 0 1 m.toNatClampNeg < 12
                · rw [show (!decide (y - σ.1 5 0 1 m.toNatClampNeg < 12) && !decide (y - σ.1 5 0 1 f.toNatClampNeg < 12)) = false by simp [g1]] at a5
                  exact ⟨_, _, _, (m68 59).trans (g68_0_4 _ a1 (by decide) a2 (by decide) a3 (by decide) a4 (by decide) vm s1 vf s2 a5 rfl), b5.trans ((g142_90_0 _ vm (by rw [← u1]; exact g1)).trans (g142_117_0 _)), h⟩
                by_cases g2 : y - σ.1 5 0 1 f.toNatClampNeg < 12
                · rw [show (!decide (y - σ.1 5 0 1 m.toNatClampNeg < 12) && !decide (y - σ.1 5 0 1 f.toNatClampNeg < 12)) = false by simp [g2]] at a5
                  exact ⟨_, _, _, (m68 59).trans (g68_0_4 _ a1 (by decide) a2 (by decide) a3 (by decide) a4 (by decide) vm s1 vf s2 a5 rfl), b5.trans ((g142_90_3 _ vm (by rw [← u1]; exact g1) vf (by rw [← v1]; exact i_nle.mpr g2)).trans (g142_117_0 _)), h⟩
                rw [show (!decide (y - σ.1 5 0 1 m.toNatClampNeg < 12) && !decide (y - σ.1 5 0 1 f.toNatClampNeg < 12)) = true by simp [g1, g2]] at a5
                rcases Nat.lt_or_ge NP 48 with h48 | h48
                · obtain ⟨σ1, k31, o1, o2, n0, n1, n2, n3, n4, n5, n6, n9⟩ := c31 58 (σ := σ) (s := s) (y := y) (c := σ.1 5 0 3 m.toNatClampNeg) h48 hP.2.1
                  have cm := comes (σ := σ) (σ2 := pm_wi (pm_wi σ1 5 0 4 NP m) 5 0 5 NP f) (m := m) (f := f) (s := s) (y := y) (c := σ.1 5 0 3 m.toNatClampNeg) (t := -1) hh h48 (fun c o k hc => by rw [wi_k (fun z => hc z.1), wi_k (fun z => hc z.1), o1 c o k hc]) (fun k p hk hp => by rw [wi_1, if_neg (fun z => hp z.2.2.2), wi_1, if_neg (fun z => hp z.2.2.2), o2 k p hk hp]) (by rw [wi_k (by omega), wi_k (by omega)]; exact n0) (by rw [wi_k (by omega), wi_k (by omega)]; exact n1) (by rw [wi_k (by omega), wi_k (by omega)]; exact n2) (by rw [wi_k (by omega), wi_k (by omega)]; exact n3) (by rw [wi_k (by omega)]; exact wi_s _ _ _ _ _ _) (wi_s _ _ _ _ _ _) (by rw [wi_k (by omega), wi_k (by omega)]; exact n6) (by rw [wi_k (by omega), wi_k (by omega)]; exact n9) (sSex_01 q1) (sYear_rng hq4) u9 (Or.inr ⟨_, _, hm, hf, em, ef⟩) (Or.inl rfl)
                  obtain ⟨σ3, k95, o3, ρ, k139, hρ⟩ := cm
                  have b6 := mod σ3 o3
                  rw [if_pos rfl] at b6
                  have k95 : pq_RD 59 95 [vR 9 0 0, vI (nI NP)] (pm_wi (pm_wi σ1 5 0 4 (nI NP).toNatClampNeg m) 5 0 5 (nI NP).toNatClampNeg f) = some (none, σ3) := by rw [nI_clamp (by omega)]; exact k95
                  have k139 : pq_RD 59 139 [vR 10 0 0, vI s, vI y, vI (σ3.1 10 0 22 m.toNatClampNeg), vI m, vI f, vI (-1)] σ3 = some (some (vI (nI NP)), ρ) := by rw [o3 10 0 22 (by omega), ← u3]; exact k139
                  exact ⟨_, _, _, (m68 59).trans (g68_0_5 _ a1 (by decide) a2 (by decide) a3 (by decide) a4 (by decide) vm s1 vf s2 a5 (by decide) (by rw [hP.2.1]; exact nI_lt (b := 48) h48 (by omega)) k31 (vp_in_nI h48 (by omega)) k95), b6.trans ((g142_90_2 _ vm (by rw [o3 10 0 20 (by omega), ← u1]; exact g1) vf (by rw [o3 10 0 20 (by omega), ← v1]; exact i_nlt.mp g2) (by rw [o3 10 0 16 (by omega), hP.2.2.1]; intro e; have := (nI_eq (a := NP) (b := 48) (by omega) (by omega)).mp e; omega) k139).trans (g142_150_0 _)), hρ⟩
                · have e48 : NP = 48 := by omega
                  subst e48
                  exact ⟨_, _, _, (m68 59).trans (g68_0_6 _ a1 (by decide) a2 (by decide) a3 (by decide) a4 (by decide) vm s1 vf s2 a5 (by decide) (by rw [hP.2.1]; decide)), b5.trans ((g142_90_1 _ vm (by rw [← u1]; exact g1) vf (by rw [← v1]; exact i_nlt.mp g2) (by rw [hP.2.2.1]; rfl)).trans (g142_150_0 _)), h⟩
            · exact ⟨_, _, _, (m68 59).trans (g68_0_7 _ a1 (by decide) a2 (by decide) a3 (by decide) a4 (by decide) vm s1 vf s2), (m142 59).trans ((g142_0_8 _ b1 (by decide) b2 (by decide) b3 (by decide) b4 (by decide) vm (by rw [← u0]; exact s1) vf (by rw [← v0]; exact s2)).trans (g142_53_0 _)), h⟩
          · exact ⟨_, _, _, (m68 59).trans (g68_0_8 _ a1 (by decide) a2 (by decide) a3 (by decide) a4 (by decide) vm s1), (m142 59).trans ((g142_0_9 _ b1 (by decide) b2 (by decide) b3 (by decide) b4 (by decide) vm (by rw [← u0]; exact s1)).trans (g142_53_0 _)), h⟩
