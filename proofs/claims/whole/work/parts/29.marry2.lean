/-! marry, marriages, living, die -/
theorem fa_first_cong {p q : Nat → Bool} : ∀ {n : Nat}, (∀ k, k < n → p k = q k) → fa_first p n = fa_first q n
  | 0, _ => rfl
  | n + 1, h => by
    rw [fa_first, fa_first, fa_first_cong (fun k hk => h k (by omega)), h n (by omega)]
theorem wi_k {σ : pmS} {c0 o0 k0 i0 : Nat} {v : Int32} {c o k : Nat} (h : ¬ (c = c0 ∧ k = k0)) : (pm_wi σ c0 o0 k0 i0 v).1 c o k = σ.1 c o k := by
  funext i
  rw [wi_1, if_neg (fun z => h ⟨z.1, z.2.2.1⟩)]
theorem mask_at {f g : pmI} {c o k : Nat} (h : kept c k = true → f c o k = g c o k) : mask f c o k = mask g c o k := by
  funext i
  show (if kept c k = true then f c o k i else 0) = if kept c k = true then g c o k i else 0
  by_cases hk : kept c k = true
  · rw [if_pos hk, if_pos hk, h hk]
  · rw [if_neg hk, if_neg hk]
theorem sSp_cong {f g : pmI} {NM : Nat} (h0 : ∀ k, k < NM → g 8 0 0 k = f 8 0 0 k ∧ g 8 0 1 k = f 8 0 1 k ∧ g 8 0 2 k = f 8 0 2 k) (h5 : ∀ k, g 5 0 k = f 5 0 k) (p y : Int32) : sSp g p y NM = sSp f p y NM := by
  have e : ∀ k, k < NM → spQ g p y k = spQ f p y k := fun k hk => by
    obtain ⟨a, b, c⟩ := h0 k hk
    unfold spQ lastC
    rw [a, b, c, h5, h5]
  have e2 := fa_first_cong e
  unfold sSp
  rw [e2]
  by_cases hi : fa_first (spQ f p y) NM < NM
  · obtain ⟨a, b, c⟩ := h0 _ hi
    rw [if_pos hi, if_pos hi, a, b]
  · rw [if_neg hi, if_neg hi]
def kH (c k : Nat) : Bool := match c with
  | 0 => true
  | 2 => true
  | 5 => true
  | 9 => decide (k = 11)
  | _ => false
theorem sH_cong {f g : pmI} {NM : Nat} (h0 : ∀ k, k < NM → g 8 0 0 k = f 8 0 0 k ∧ g 8 0 1 k = f 8 0 1 k ∧ g 8 0 2 k = f 8 0 2 k) (h : ∀ c o k, kH c k = true → g c o k = f c o k) (m w : Nat) (y : Int32) : sH g NM m w y = sH f NM m w y := by
  have e := mk_eq h
  have a1 : ∀ p, hSp g NM p y = hSp f NM p y := fun p => by
    unfold hSp
    rw [sSp_cong h0 (fun k => h 5 0 k rfl)]
  have a2 : ∀ p, hLv g p y = hLv f p y := fun p => by
    have x1 : hLv g p y = hLv (mk kH g) p y := rfl
    have x2 : hLv f p y = hLv (mk kH f) p y := rfl
    rw [x1, x2, e]
  have a3 : ∀ p, hAg g p y = hAg f p y := fun p => by
    have x1 : hAg g p y = hAg (mk kH g) p y := rfl
    have x2 : hAg f p y = hAg (mk kH f) p y := rfl
    rw [x1, x2, e]
  have a4 : hNr g m w = hNr f m w := by
    have x1 : hNr g m w = hNr (mk kH g) m w := rfl
    have x2 : hNr f m w = hNr (mk kH f) m w := rfl
    rw [x1, x2, e]
  have a5 : sRight g m w y = sRight f m w y := by
    have x1 : sRight g m w y = sRight (mk kH g) m w y := rfl
    have x2 : sRight f m w y = sRight (mk kH f) m w y := rfl
    rw [x1, x2, e]
  unfold sH
  rw [a1, a1, a2, a2, a3, a3, a4, a5]
theorem sHind_v (lm lw am aw sm sw nr rt : Bool) : sHind lm lw am aw sm sw nr rt = 0 ∨ sHind lm lw am aw sm sw nr rt = 5 ∨ (¬ sHind lm lw am aw sm sw nr rt < 1 ∧ ¬ 4 < sHind lm lw am aw sm sw nr rt) := by
  cases lm <;> cases lw <;> cases am <;> cases aw <;> cases sm <;> cases sw <;> cases nr <;> cases rt <;> decide
theorem T_marry {σ : pmS} (h : Inv σ) (x z y : Int32) : Tok 71 153 [vI x, vI z, vI y] σ := by
  obtain ⟨NS, NC, NP, hh⟩ := id h
  have hh : iAll σ.1 NS NC NP := hh
  obtain ⟨hT, hS, hC, hP, hW, hM, hO⟩ := hh
  obtain ⟨NM, hw⟩ := wOk_of hP hW
  have hage : σ.1 9 0 11 0 = σ.1 10 0 18 0 := by
    obtain ⟨_, -, -, -, -, e⟩ := hW
    exact e
  have hNP := hP.1
  have hNM := hw.2.1
  have a1 := c32 57 (σ := σ) (x1 := x)
  have a2 := c32 57 (σ := σ) (x1 := z)
  have a3 := c90 57 (σ := σ) (x0 := y)
  have b1 := c134 58 (σ := σ) (x1 := x)
  have b2 := c134 58 (σ := σ) (x1 := z)
  have b3 := c138 57 (σ := σ) (x0 := y)
  rw [hP.2.1] at a1 a2
  rw [hP.2.2.1] at b1 b2
  cases q1 : sHas (nI NP) x with
  | false =>
    rw [q1] at a1 b1
    exact ⟨_, _, _, (m71 59).trans (g71_0_7 _ ((m72 58).trans (g72_0_0 _ a1 rfl)) (by decide)), (m153 59).trans (g153_0_0 _ b1 rfl), h⟩
  | true =>
    cases q2 : sHas (nI NP) z with
    | false =>
      rw [q1] at a1 b1
      rw [q2] at a2 b2
      exact ⟨_, _, _, (m71 59).trans (g71_0_7 _ ((m72 58).trans (g72_0_1 _ a1 (by decide) a2 rfl)) (by decide)), (m153 59).trans (g153_0_1 _ b1 (by decide) b2 rfl), h⟩
    | true =>
      obtain ⟨ex, hx⟩ := in_nI (sHas_in (by omega) q1) (by omega)
      obtain ⟨ez, hz⟩ := in_nI (sHas_in (by omega) q2) (by omega)
      have vx : vp_in x 48 := in_le (sHas_in (by omega) q1) hNP (by omega)
      have vz : vp_in z 48 := in_le (sHas_in (by omega) q2) hNP (by omega)
      have s1 := (hP.2.2.2.1 _ hx).1
      have s2 := (hP.2.2.2.1 _ hz).1
      have hq1 := q1
      have hq2 := q2
      rw [q1] at a1 b1
      rw [q2] at a2 b2
      cases q3 : sYear y with
      | false =>
        rw [q3] at a3 b3
        exact ⟨_, _, _, (m71 59).trans (g71_0_7 _ ((m72 58).trans (g72_0_2 _ a1 (by decide) a2 (by decide) a3 rfl)) (by decide)), (m153 59).trans (g153_0_2 _ b1 (by decide) b2 (by decide) b3 rfl), h⟩
      | true =>
        rw [q3] at a3 b3
        by_cases p1 : σ.1 5 0 0 x.toNatClampNeg = 0
        · by_cases p2 : σ.1 5 0 0 z.toNatClampNeg = 1
          · have r1 := c72 54 (y := y) hS hC hP hw hx hz q3 p1 p2
            rw [← ex, ← ez] at r1
            have w3 := hw.2.2.1
            have p1' : σ.1 10 0 19 x.toNatClampNeg = 0 := by rw [← s1]; exact p1
            have p2' : σ.1 10 0 19 z.toNatClampNeg = 1 := by rw [← s2]; exact p2
            obtain ⟨τ, k, hI⟩ := c146 55 hS hC hP
            have hτ : Inv τ := h.same (fcI_mask hI)
            have r2 := c152 55 (y := y) hS hC hP hw.m hage hI hx hz
            rw [← ex, ← ez] at r2
            have t17 : τ.1 10 0 17 0 = nI NM := by rw [hI.1 10 0 17 (by omega)]; exact hw.2.2.2.1
            rcases Nat.lt_or_ge NM 40 with h40 | h40
            · -- room
              have k51 : pq_RD 59 51 [vR 8 0 0, vI x, vI z, vI y] σ = some (some (vI 1), pm_wi (pm_wi (pm_wi (pm_wi σ 8 0 0 NM x) 8 0 1 NM z) 8 0 2 NM y) 8 0 3 0 (nI NM + 1)) := by
                refine (m51 58).trans ((g51_0_0 _ (by rw [w3]; exact nI_lt (b := 40) h40 (by omega)) (by rw [w3]; exact vp_in_nI h40 (by omega))).trans ?_)
                rw [w3, nI_clamp (by omega)]
              generalize e1 : pm_wi (pm_wi (pm_wi (pm_wi σ 8 0 0 NM x) 8 0 1 NM z) 8 0 2 NM y) 8 0 3 0 (nI NM + 1) = σ1 at k51
              have off : ∀ c o k, ¬ (c = 8) → σ1.1 c o k = σ.1 c o k := fun c o k hc => by
                rw [← e1, wi_k (by omega), wi_k (by omega), wi_k (by omega), wi_k (by omega)]
              have old : ∀ k, k < NM → σ1.1 8 0 0 k = σ.1 8 0 0 k ∧ σ1.1 8 0 1 k = σ.1 8 0 1 k ∧ σ1.1 8 0 2 k = σ.1 8 0 2 k := fun k hk => by
                have : k ≠ NM := by omega
                rw [← e1]
                simp [wi_1, this]
              have new : σ1.1 8 0 0 NM = x ∧ σ1.1 8 0 1 NM = z ∧ σ1.1 8 0 2 NM = y ∧ σ1.1 8 0 3 0 = nI (NM + 1) := by
                rw [← e1, nI_1]
                simp [wi_1]
              have hS1 : iS σ1.1 NS := iS_c (fun c o k hk => off c o k (fun e => by subst e; exact absurd (show false = true from hk) (by decide))) hS
              have hC1 : iC σ1.1 NS NC := iC_c (fun c o k hk => off c o k (fun e => by subst e; exact absurd (show false = true from hk) (by decide))) hC
              have hP1 : iP σ1.1 NC NP := iP_c (fun c o k hk => off c o k (fun e => by subst e; exact absurd (show false = true from hk) (by decide))) hP
              have hw1 : wOkM σ1.1 NP NM := by
                obtain ⟨v1, v2, v3, v4, v5, v6⟩ := hw.m
                refine ⟨v1, v2, v3, by rw [off 10 0 17 (by omega)]; exact v4, fun k hk => ?_, fun p hp => ?_⟩
                · obtain ⟨o1, o2, o3⟩ := old k hk
                  rw [o1, o2, o3, off 10 0 26 (by omega), off 10 0 27 (by omega), off 10 0 28 (by omega)]
                  exact v5 k hk
                · rw [off 5 0 1 (by omega), off 5 0 2 (by omega), off 10 0 20 (by omega), off 10 0 21 (by omega)]
                  exact v6 p hp
              obtain ⟨τ1, kk, hI1⟩ := c146 55 hS1 hC1 hP1
              have r3 := c152 55 (y := y) hS1 hC1 hP1 hw1 (by rw [off 9 0 11 (by omega), off 10 0 18 (by omega)]; exact hage) hI1 hx hz
              rw [← ex, ← ez, sH_cong old (fun c o k hk => off c o k (fun e => by subst e; exact absurd (show false = true from hk) (by decide)))] at r3
              have u17 : τ1.1 10 0 17 0 = nI NM := by rw [hI1.1 10 0 17 (by omega), off 10 0 17 (by omega)]; exact hw.2.2.2.1
              have c1 := c134 58 (σ := σ1) (x1 := x)
              have c2 := c134 58 (σ := σ1) (x1 := z)
              have c3 := c138 57 (σ := σ1) (x0 := y)
              rw [off 10 0 16 (by omega), hP.2.2.1, hq1] at c1
              rw [off 10 0 16 (by omega), hP.2.2.1, hq2] at c2
              rw [q3] at c3
              have n40 : ¬ τ1.1 10 0 17 0 = (40 : Int32) := by
                rw [u17]
                intro e
                have := (nI_eq (a := NM) (b := 40) (by omega) (by omega)).mp e
                omega
              have v40 : vp_in (τ1.1 10 0 17 0) 40 := by rw [u17]; exact vp_in_nI h40 (by omega)
              have fin : Inv (pm_wi (pm_wi (pm_wi (pm_wi τ1 10 0 26 (τ1.1 10 0 17 0).toNatClampNeg x) 10 0 27 (τ1.1 10 0 17 0).toNatClampNeg z) 10 0 28 (τ1.1 10 0 17 0).toNatClampNeg y) 10 0 17 0 (τ1.1 10 0 17 0 + 1)) := by
                rw [u17, nI_clamp (by omega), nI_1]
                generalize e2 : pm_wi (pm_wi (pm_wi (pm_wi τ1 10 0 26 NM x) 10 0 27 NM z) 10 0 28 NM y) 10 0 17 0 (nI (NM + 1)) = ρ
                have off2 : ∀ c o k, ¬ (c = 8) → ¬ (c = 10 ∧ (k = 17 ∨ k = 26 ∨ k = 27 ∨ k = 28 ∨ k = 29 ∨ k = 30)) → ρ.1 c o k = σ.1 c o k := fun c o k hc hk => by
                  rw [← e2, wi_k (by omega), wi_k (by omega), wi_k (by omega), wi_k (by omega), hI1.1 c o k (by omega), off c o k hc]
                have off8 : ∀ k, ρ.1 8 0 k = σ1.1 8 0 k := fun k => by
                  rw [← e2, wi_k (by omega), wi_k (by omega), wi_k (by omega), wi_k (by omega), hI1.1 8 0 k (by omega)]
                have oldm : ∀ k, k < NM → ρ.1 10 0 26 k = σ.1 10 0 26 k ∧ ρ.1 10 0 27 k = σ.1 10 0 27 k ∧ ρ.1 10 0 28 k = σ.1 10 0 28 k := fun k hk => by
                  have hne : k ≠ NM := by omega
                  rw [← e2]
                  simp only [wi_1, hne, and_false, if_false, Nat.reduceEqDiff, and_true, false_and]
                  rw [hI1.1 10 0 26 (by omega), hI1.1 10 0 27 (by omega), hI1.1 10 0 28 (by omega), off 10 0 26 (by omega), off 10 0 27 (by omega), off 10 0 28 (by omega)]
                  exact ⟨rfl, rfl, rfl⟩
                have newm : ρ.1 10 0 26 NM = x ∧ ρ.1 10 0 27 NM = z ∧ ρ.1 10 0 28 NM = y ∧ ρ.1 10 0 17 0 = nI (NM + 1) := by
                  rw [← e2]
                  simp [wi_1]
                obtain ⟨m1, m2, m3, m4⟩ := newm
                obtain ⟨n1, n2, n3, n4⟩ := new
                have hW2 : iW ρ.1 NP := by
                  refine ⟨NM + 1, by omega, by rw [off8]; exact n4, m4, fun k hk => ?_, by rw [off2 9 0 11 (by omega) (by omega), off2 10 0 18 (by omega) (by omega)]; exact hage⟩
                  rw [off8, off8, off8]
                  rcases Nat.lt_or_ge k NM with h1 | h1
                  · obtain ⟨o1, o2, o3⟩ := old k h1
                    obtain ⟨v1, v2, v3⟩ := oldm k h1
                    rw [o1, o2, o3, v1, v2, v3]
                    exact hw.2.2.2.2.1 k h1
                  · have : k = NM := by omega
                    subst this
                    rw [n1, n2, n3, m1, m2, m3]
                    exact ⟨rfl, rfl, rfl, ⟨_, hx, ex⟩, _, hz, ez⟩
                refine ⟨NS, NC, NP, (⟨iT_c ?_ hT, iS_c ?_ hS, iC_c ?_ hC, iP_c ?_ hP, hW2, iM_c ?_ hM, iO_c ?_ hO⟩ : iAll ρ.1 NS NC NP)⟩
                all_goals intro c o k hk
                all_goals refine off2 c o k (fun e => ?_) (fun e => ?_)
                all_goals first
                  | (obtain ⟨rfl, rfl | rfl | rfl | rfl | rfl | rfl⟩ := e <;> exact absurd hk (by decide))
                  | (subst e; exact absurd (show false = true from hk) (by decide))
              rcases sHind_v (hLv σ.1 x.toNatClampNeg y) (hLv σ.1 z.toNatClampNeg y) (hAg σ.1 x.toNatClampNeg y) (hAg σ.1 z.toNatClampNeg y) (hSp σ.1 NM x.toNatClampNeg y) (hSp σ.1 NM z.toNatClampNeg y) (hNr σ.1 x.toNatClampNeg z.toNatClampNeg) (sRight σ.1 x.toNatClampNeg z.toNatClampNeg y) with hv | hv | ⟨hv1, hv2⟩
              · change sH σ.1 NM x.toNatClampNeg z.toNatClampNeg y = 0 at hv
                rw [hv] at r1 r3
                exact ⟨_, _, _, (m71 59).trans (g71_0_1 _ r1 (by decide) (by decide) k51 (by decide) rfl), (m153 59).trans (g153_0_4 _ c1 (by decide) c2 (by decide) c3 (by decide) vx (by rw [off 10 0 19 (by omega)]; exact p1') vz (by rw [off 10 0 19 (by omega)]; exact p2') kk r3 (by decide) n40 v40 rfl), fin⟩
              · change sH σ.1 NM x.toNatClampNeg z.toNatClampNeg y = 5 at hv
                rw [hv] at r1 r3
                exact ⟨_, _, _, (m71 59).trans (g71_0_5 _ r1 (by decide) (by decide) (by decide) k51 (by decide) (by decide)), (m153 59).trans (g153_0_8 _ c1 (by decide) c2 (by decide) c3 (by decide) vx (by rw [off 10 0 19 (by omega)]; exact p1') vz (by rw [off 10 0 19 (by omega)]; exact p2') kk r3 (by decide) (by decide) n40 v40 (by decide)), fin⟩
              · change ¬ sH σ.1 NM x.toNatClampNeg z.toNatClampNeg y < 1 at hv1
                change ¬ 4 < sH σ.1 NM x.toNatClampNeg z.toNatClampNeg y at hv2
                generalize sH σ.1 NM x.toNatClampNeg z.toNatClampNeg y = r at r1 r2 hv1 hv2
                rw [i_nlt, fa_le] at hv1 hv2
                have l1 : (1 : Int32).toInt = 1 := rfl
                have l4 : (4 : Int32).toInt = 4 := rfl
                have l0 : (0 : Int32).toInt = 0 := rfl
                have l5 : (5 : Int32).toInt = 5 := rfl
                exact ⟨_, _, _, (m71 59).trans (g71_0_6 _ r1 (by rw [fa_le]; omega) (by rw [fa_lt]; omega) (by rw [fa_lt]; omega)), (m153 59).trans (g153_0_9 _ b1 (by decide) b2 (by decide) b3 (by decide) vx p1' vz p2' k r2 (by rw [fa_le]; omega) (by rw [fa_le]; omega)), hτ⟩
            · have e40 : NM = 40 := by omega
              subst e40
              have k51 : pq_RD 59 51 [vR 8 0 0, vI x, vI z, vI y] σ = some (some (vI 0), σ) := (m51 58).trans (g51_0_1 _ (by rw [w3]; decide))
              rcases sHind_v (hLv σ.1 x.toNatClampNeg y) (hLv σ.1 z.toNatClampNeg y) (hAg σ.1 x.toNatClampNeg y) (hAg σ.1 z.toNatClampNeg y) (hSp σ.1 40 x.toNatClampNeg y) (hSp σ.1 40 z.toNatClampNeg y) (hNr σ.1 x.toNatClampNeg z.toNatClampNeg) (sRight σ.1 x.toNatClampNeg z.toNatClampNeg y) with hv | hv | ⟨hv1, hv2⟩
              · change sH σ.1 40 x.toNatClampNeg z.toNatClampNeg y = 0 at hv
                rw [hv] at r1 r2
                exact ⟨_, _, _, (m71 59).trans (g71_0_0 _ r1 (by decide) (by decide) k51 rfl), (m153 59).trans (g153_0_3 _ b1 (by decide) b2 (by decide) b3 (by decide) vx p1' vz p2' k r2 (by decide) (by rw [t17]; rfl)), hτ⟩
              · change sH σ.1 40 x.toNatClampNeg z.toNatClampNeg y = 5 at hv
                rw [hv] at r1 r2
                exact ⟨_, _, _, (m71 59).trans (g71_0_3 _ r1 (by decide) (by decide) (by decide) k51 rfl), (m153 59).trans (g153_0_6 _ b1 (by decide) b2 (by decide) b3 (by decide) vx p1' vz p2' k r2 (by decide) (by decide) (by rw [t17]; rfl)), hτ⟩
              · change ¬ sH σ.1 40 x.toNatClampNeg z.toNatClampNeg y < 1 at hv1
                change ¬ 4 < sH σ.1 40 x.toNatClampNeg z.toNatClampNeg y at hv2
                generalize sH σ.1 40 x.toNatClampNeg z.toNatClampNeg y = r at r1 r2 hv1 hv2
                rw [i_nlt, fa_le] at hv1 hv2
                have l1 : (1 : Int32).toInt = 1 := rfl
                have l4 : (4 : Int32).toInt = 4 := rfl
                have l0 : (0 : Int32).toInt = 0 := rfl
                have l5 : (5 : Int32).toInt = 5 := rfl
                exact ⟨_, _, _, (m71 59).trans (g71_0_6 _ r1 (by rw [fa_le]; omega) (by rw [fa_lt]; omega) (by rw [fa_lt]; omega)), (m153 59).trans (g153_0_9 _ b1 (by decide) b2 (by decide) b3 (by decide) vx p1' vz p2' k r2 (by rw [fa_le]; omega) (by rw [fa_le]; omega)), hτ⟩
          · exact ⟨_, _, _, (m71 59).trans (g71_0_7 _ ((m72 58).trans (g72_0_8 _ a1 (by decide) a2 (by decide) a3 (by decide) vx p1 vz p2)) (by decide)), (m153 59).trans (g153_0_10 _ b1 (by decide) b2 (by decide) b3 (by decide) vx (by rw [← s1]; exact p1) vz (by rw [← s2]; exact p2)), h⟩
        · exact ⟨_, _, _, (m71 59).trans (g71_0_7 _ ((m72 58).trans (g72_0_9 _ a1 (by decide) a2 (by decide) a3 (by decide) vx p1)) (by decide)), (m153 59).trans (g153_0_11 _ b1 (by decide) b2 (by decide) b3 (by decide) vx (by rw [← s1]; exact p1)), h⟩
theorem T_marriages {σ : pmS} (h : Inv σ) (x y : Int32) : Tok 77 159 [vI x, vI y] σ := by
  obtain ⟨NS, NC, NP, hh⟩ := id h
  have hh : iAll σ.1 NS NC NP := hh
  obtain ⟨hT, hS, hC, hP, hW, hM, hO⟩ := hh
  obtain ⟨NM, hw⟩ := wOk_of hP hW
  have hNP := hP.1
  have hNM := hw.2.1
  have a1 := c90 58 (σ := σ) (x0 := x)
  have b1 := c138 57 (σ := σ) (x0 := x)
  cases q1 : sYear x with
  | false =>
    rw [q1] at a1 b1
    exact ⟨_, _, _, (m77 59).trans (g77_0_0 _ a1 rfl), (m159 59).trans (g159_0_0 _ b1 rfl), h⟩
  | true =>
    rw [q1] at a1 b1
    have b2 := c105 58 (σ := σ) (v := y) (a := 0) (b := 1) (A := 0) (B := 1) rfl rfl
    by_cases hy : y = 0 ∨ y = 1
    · have hin : sIn y 0 1 = true := by rcases hy with rfl | rfl <;> decide
      rw [hin] at b2
      obtain ⟨τ, k, hI⟩ := c146 55 hS hC hP
      have hτ : Inv τ := h.same (fcI_mask hI)
      have g := hI.1
      have hwt := wOk_c (fcI_kQ hI) hw.m
      refine ⟨nI (fa_cnt (fun k => lastC σ.1 k x && decide (bI (sRight σ.1 (σ.1 8 0 0 k).toNatClampNeg (σ.1 8 0 1 k).toNatClampNeg (σ.1 8 0 2 k)) = y)) NM), σ, τ, ?_, ?_, hτ⟩
      · have st : pq_RD 60 77 [vR 9 0 0, vI x, vI y] σ = pq_Rn (pq_RD 59) (77, 24, [some (vR 9 0 0), some (vI x), some (vI y), some (vI 0), some (vI 0)], [], σ) := by
          rcases hy with e | e
          · exact (m77 59).trans (g77_0_1 _ a1 (by decide) e)
          · exact (m77 59).trans (g77_0_2 _ a1 (by decide) (by rw [e]; decide) e)
        refine st.trans ?_
        refine (lp_cnt (C := pq_RD 59) (fr := fun a k => (77, 24, [some (vR 9 0 0), some (vI x), some (vI y), some (vI a), some (vI (nI k))], [], σ)) (p := fun k => lastC σ.1 k x && decide (bI (sRight σ.1 (σ.1 8 0 0 k).toNatClampNeg (σ.1 8 0 1 k).toNatClampNeg (σ.1 8 0 2 k)) = y)) (n := NM) (fun k a hk => ?_)).trans ?_
        · have ek : (nI k).toNatClampNeg = k := nI_clamp (by omega)
          have hv : vp_in (nI k) 40 := vp_in_nI (by omega) (by omega)
          have hg : ¬ σ.1 8 0 3 0 ≤ nI k := by rw [hw.2.2.1]; exact nI_ge hk (by omega)
          have hl := c52 57 (σ := σ) (y := x) (by omega : k < 40) (wOk_in hw.m hk).1 (wOk_in hw.m hk).2
          rw [← nI_1]
          cases q : lastC σ.1 k x with
          | false =>
            rw [q] at hl
            rw [if_neg (by simp)]
            exact g77_24_1 _ hg hl rfl
          | true =>
            rw [q] at hl
            obtain ⟨-, -, -, ⟨ma, hma, ema⟩, wo, hwo, ewo⟩ := hw.2.2.2.2.1 k hk
            have hr := c99 56 (σ := σ) (y := σ.1 8 0 2 k) (by omega : ma < 48) (iAll_pOk hS hC hP hwo)
            have hr : pq_RD 59 99 [vR 9 0 0, vI (σ.1 8 0 0 (nI k).toNatClampNeg), vI (σ.1 8 0 1 (nI k).toNatClampNeg), vI (σ.1 8 0 2 (nI k).toNatClampNeg)] σ = some (some (vI (bI (sRight σ.1 ma wo (σ.1 8 0 2 k)))), σ) := by rw [ek, ema, ewo]; exact hr
            rw [ema, ewo, nI_clamp (show ma < 2 ^ 31 by omega), nI_clamp (show wo < 2 ^ 31 by omega)]
            cases q2 : sRight σ.1 ma wo (σ.1 8 0 2 k) <;> rw [q2] at hr
            · rcases hy with rfl | rfl
              · rw [if_pos (by decide)]
                exact g77_24_4 _ hg hl (by decide) hv hr (by decide) rfl
              · rw [if_neg (by decide)]
                exact g77_24_3 _ hg hl (by decide) hv hr rfl (by decide)
            · rcases hy with rfl | rfl
              · rw [if_neg (by decide)]
                exact g77_24_5 _ hg hl (by decide) hv hr (by decide) (by decide)
              · rw [if_pos (by decide)]
                exact g77_24_2 _ hg hl (by decide) hv hr rfl rfl
        · exact g77_24_0 _ (by rw [hw.2.2.1, fa_le]; omega)
      · refine (m159 59).trans ((g159_0_2 _ b1 (by decide) b2 (by decide) k).trans ?_)
        refine (lp_cnt (C := pq_RD 59) (fr := fun a k => (159, 29, [some (vR 10 0 0), some (vI x), some (vI y), some (vI a), some (vI (nI k))], [], τ)) (p := fun k => lastC σ.1 k x && decide (bI (sRight σ.1 (σ.1 8 0 0 k).toNatClampNeg (σ.1 8 0 1 k).toNatClampNeg (σ.1 8 0 2 k)) = y)) (n := NM) (fun k a hk => ?_)).trans ?_
        · have ek : (nI k).toNatClampNeg = k := nI_clamp (by omega)
          have hv : vp_in (nI k) 40 := vp_in_nI (by omega) (by omega)
          have hg : ¬ τ.1 10 0 17 0 ≤ nI k := by rw [g 10 0 17 (by omega), hw.2.2.2.1]; exact nI_ge hk (by omega)
          obtain ⟨e0, e1, e2, ⟨ma, hma, ema⟩, wo, hwo, ewo⟩ := hw.2.2.2.2.1 k hk
          have hl := c149 57 (σ := τ) (y := x) (by omega : k < 40) (by rw [g 10 0 26 (by omega), ← e0]; exact (wOk_in hw.m hk).1) (by rw [g 10 0 27 (by omega), ← e1]; exact (wOk_in hw.m hk).2)
          rw [g 10 0 28 (by omega), g 10 0 20 (by omega), g 10 0 21 (by omega), g 10 0 26 (by omega), g 10 0 27 (by omega), wOk_last hw.m hk] at hl
          rw [← nI_1]
          cases q : lastC σ.1 k x with
          | false =>
            rw [q] at hl
            rw [if_neg (by simp)]
            refine (g159_29_1 _ hg hl rfl).trans ?_
            rw [Int32.add_zero]
          | true =>
            rw [q] at hl
            have hr := c148 56 (y := σ.1 8 0 2 k) hS hC hP hI hma hwo
            have hr : pq_RD 59 148 [vR 10 0 0, vI (τ.1 10 0 26 (nI k).toNatClampNeg), vI (τ.1 10 0 27 (nI k).toNatClampNeg), vI (τ.1 10 0 28 (nI k).toNatClampNeg)] τ = some (some (vI (bI (sRight σ.1 ma wo (σ.1 8 0 2 k)))), τ) := by
              rw [ek, g 10 0 26 (by omega), g 10 0 27 (by omega), g 10 0 28 (by omega), ← e0, ← e1, ← e2, ema, ewo]
              exact hr
            rw [ema, ewo, nI_clamp (show ma < 2 ^ 31 by omega), nI_clamp (show wo < 2 ^ 31 by omega)]
            cases q2 : sRight σ.1 ma wo (σ.1 8 0 2 k) <;> rw [q2] at hr
            · rcases hy with rfl | rfl
              · rw [if_pos (by decide)]
                exact g159_29_4 _ hg hl (by decide) hv hr (by decide) rfl
              · rw [if_neg (by decide)]
                refine (g159_29_3 _ hg hl (by decide) hv hr rfl (by decide)).trans ?_
                rw [Int32.add_zero]
            · rcases hy with rfl | rfl
              · rw [if_neg (by decide)]
                refine (g159_29_5 _ hg hl (by decide) hv hr (by decide) (by decide)).trans ?_
                rw [Int32.add_zero]
              · rw [if_pos (by decide)]
                exact g159_29_2 _ hg hl (by decide) hv hr rfl rfl
        · exact g159_29_0 _ (by rw [g 10 0 17 (by omega), hw.2.2.2.1, fa_le]; omega)
    · have y0 : ¬ y = 0 := fun e => hy (Or.inl e)
      have y1 : ¬ y = 1 := fun e => hy (Or.inr e)
      have hin : sIn y 0 1 = false := by
        cases hc : sIn y 0 1 with
        | false => rfl
        | true =>
          have hc : ¬ y < 0 ∧ ¬ 1 < y := by simpa [sIn] using hc
          rw [fa_lt, fa_lt] at hc
          rw [fa_eq] at y0 y1
          have l1 : (1 : Int32).toInt = 1 := rfl
          have l0 : (0 : Int32).toInt = 0 := rfl
          omega
      rw [hin] at b2
      exact ⟨_, _, _, (m77 59).trans (g77_0_3 _ a1 (by decide) y0 y1), (m159 59).trans (g159_0_1 _ b1 (by decide) b2 rfl), h⟩
