/-! the model's hindrances; may, marry, marriages, living, die -/
def kQ (c k : Nat) : Bool := match c with
  | 8 => true
  | 5 => decide (k = 1 ∨ k = 2)
  | 10 => decide (k = 17 ∨ k = 20 ∨ k = 21 ∨ k = 26 ∨ k = 27 ∨ k = 28)
  | _ => false
theorem wOk_c {f g : pmI} {NP NM : Nat} (h : ∀ c o k, kQ c k = true → g c o k = f c o k) (H : wOkM f NP NM) : wOkM g NP NM := by
  have e := mk_eq h
  have H2 : wOkM (mk kQ f) NP NM := H
  rw [← e] at H2
  exact H2
theorem sSp_c {f g : pmI} (h : ∀ c o k, kQ c k = true → g c o k = f c o k) (p y : Int32) (NM : Nat) : sSp g p y NM = sSp f p y NM := by
  have e := mk_eq h
  have h1 : sSp g p y NM = sSp (mk kQ g) p y NM := rfl
  have h2 : sSp f p y NM = sSp (mk kQ f) p y NM := rfl
  rw [h1, h2, e]
theorem fcI_kQ {σ τ : pmS} {k : Nat} (h : fcI σ k τ) : ∀ c o j, kQ c j = true → τ.1 c o j = σ.1 c o j := by
  intro c o j hk
  refine h.1 c o j (fun z => ?_)
  obtain ⟨rfl, rfl | rfl⟩ := z <;> exact absurd hk (by decide)
theorem sSp_neg {f : pmI} {NP NM : Nat} (h : wOkM f NP NM) (p y : Int32) : sSp f p y NM < 0 ↔ sSp f p y NM = -1 := by
  unfold sSp
  by_cases hi : fa_first (spQ f p y) NM < NM
  · rw [if_pos hi]
    have hN := h.1
    obtain ⟨-, -, -, ⟨a, ha, ea⟩, b, hb, eb⟩ := h.2.2.2.2.1 _ hi
    split
    · rw [eb]
      exact ⟨fun z => absurd z (nI_pos (by omega)), fun z => absurd z (nI_m1 (by omega))⟩
    · rw [ea]
      exact ⟨fun z => absurd z (nI_pos (by omega)), fun z => absurd z (nI_m1 (by omega))⟩
  · rw [if_neg hi]
    decide
theorem c151 (d : Nat) {σ : pmS} {NC NP m w : Nat} (hP : iP σ.1 NC NP) {τ : pmS} (hI : fcI σ NP τ) (hm : m < NP) (hw : w < NP) : pq_RD (d + 1) 151 [vR 10 0 0, vI (nI m), vI (nI w)] τ = some (some (vI (bI (hNr σ.1 m w))), τ) := by
  have hNP := hP.1
  have ew : (nI w).toNatClampNeg = w := nI_clamp (by omega)
  have em : (nI m).toNatClampNeg = m := nI_clamp (by omega)
  obtain ⟨-, -, -, -, a4, a5, -, -, -, -, apar, -⟩ := hP.2.2.2.1 m hm
  obtain ⟨-, -, -, -, b4, b5, -⟩ := hP.2.2.2.1 w hw
  have g := hI.1
  have t1 : τ.1 10 0 23 m = σ.1 5 0 4 m := by rw [g 10 0 23 (by omega), a4]
  have t2 : τ.1 10 0 24 m = σ.1 5 0 5 m := by rw [g 10 0 24 (by omega), a5]
  have t3 : τ.1 10 0 23 w = σ.1 5 0 4 w := by rw [g 10 0 23 (by omega), b4]
  have t4 : τ.1 10 0 24 w = σ.1 5 0 5 w := by rw [g 10 0 24 (by omega), b5]
  have neg : σ.1 5 0 4 m < 0 ↔ σ.1 5 0 4 m = -1 := by
    rcases apar with ⟨e, -⟩ | ⟨mo, fa, h1, h2, e, -⟩
    · rw [e]
      decide
    · rw [e]
      exact ⟨fun z => absurd z (nI_pos (by omega)), fun z => absurd z (nI_m1 (by omega))⟩
  refine (m151 d).trans ((t151_0 _ (vp_in_nI (by omega) (by omega)) (fun _ _ => vp_in_nI (by omega) (by omega))).trans ?_)
  rw [em, ew, t1, t2, t3, t4]
  simp only [neg]
  unfold hNr sNear sPar
  by_cases p1 : σ.1 5 0 4 m = nI w
  · simp [p1, bI]
  by_cases p2 : σ.1 5 0 5 m = nI w
  · simp [p1, p2, bI]
  by_cases p3 : σ.1 5 0 4 w = nI m
  · simp [p1, p2, p3, bI]
  by_cases p4 : σ.1 5 0 5 w = nI m
  · simp [p1, p2, p3, p4, bI]
  by_cases p5 : σ.1 5 0 4 m = -1
  · have p1' : ¬ (-1 : Int32) = nI w := fun z => p1 (p5.trans z)
    simp [p1', p2, p3, p4, p5, bI]
  by_cases p6 : σ.1 5 0 4 m = σ.1 5 0 4 w <;> by_cases p7 : σ.1 5 0 5 m = σ.1 5 0 5 w <;> simp_all [bI]
theorem c152 (d : Nat) {σ τ : pmS} {NS NC NP NM m w : Nat} {y : Int32} (hS : iS σ.1 NS) (hC : iC σ.1 NS NC) (hP : iP σ.1 NC NP) (hwk : wOkM σ.1 NP NM) (hage : σ.1 9 0 11 0 = σ.1 10 0 18 0) (hI : fcI σ NP τ) (hm : m < NP) (hw : w < NP) : pq_RD (d + 4) 152 [vR 10 0 0, vI (nI m), vI (nI w), vI y] τ = some (some (vI (sH σ.1 NM m w y)), τ) := by
  have hNP := hP.1
  have ew : (nI w).toNatClampNeg = w := nI_clamp (by omega)
  have em : (nI m).toNatClampNeg = m := nI_clamp (by omega)
  have vm : vp_in (nI m) 48 := vp_in_nI (by omega) (by omega)
  have vw : vp_in (nI w) 48 := vp_in_nI (by omega) (by omega)
  have g := hI.1
  obtain ⟨-, m1, m2, -⟩ := hP.2.2.2.1 m hm
  obtain ⟨-, w1, w2, -⟩ := hP.2.2.2.1 w hw
  have k1 := c141 (d + 2) (σ := τ) (x2 := y) vm
  have k2 := c141 (d + 2) (σ := τ) (x2 := y) vw
  rw [em, g 10 0 20 (by omega), g 10 0 21 (by omega), ← m1, ← m2] at k1
  rw [ew, g 10 0 20 (by omega), g 10 0 21 (by omega), ← w1, ← w2] at k2
  have hwt := wOk_c (fcI_kQ hI) hwk
  have k3 := c150 d (σ := τ) (p := nI m) (y := y) hwt
  have k4 := c150 d (σ := τ) (p := nI w) (y := y) hwt
  rw [sSp_c (fcI_kQ hI)] at k3 k4
  have k5 := c151 (d + 2) hP hI hm hw
  have k6 := c148 d (y := y) hS hC hP hI hm hw
  have t := t152_0 (pq_RD (d + 3)) k1 (fun _ => k2) (fun _ _ => vm) (fun _ _ _ => vw) (fun _ _ _ _ => k3) (fun _ _ _ _ _ => k4) (fun _ _ _ _ _ _ => k5) (fun _ _ _ _ _ _ _ => k6)
  refine (m152 (d + 3)).trans (t.trans ?_)
  rw [em, ew, g 10 0 20 (by omega), g 10 0 18 (by omega), ← m1, ← w1, ← hage]
  have n1 := sSp_neg hwk (nI m) y
  have n2 := sSp_neg hwk (nI w) y
  simp only [bI_0, n2, ← i_nlt, n1]
  unfold sH sHind hPair hLv hAg hSp
  generalize sLives (σ.1 5 0 1 m) (σ.1 5 0 2 m) y = A
  generalize sLives (σ.1 5 0 1 w) (σ.1 5 0 2 w) y = B
  generalize hNr σ.1 m w = N
  generalize sRight σ.1 m w y = T
  by_cases a1 : y - σ.1 5 0 1 m < σ.1 9 0 11 0 <;> by_cases a2 : y - σ.1 5 0 1 w < σ.1 9 0 11 0 <;> by_cases s1 : sSp σ.1 (nI m) y NM = -1 <;> by_cases s2 : sSp σ.1 (nI w) y NM = -1 <;> cases A <;> cases B <;> cases N <;> cases T <;> simp [a1, a2, s1, s2]
theorem T_may {σ : pmS} (h : Inv σ) (x z y : Int32) : Tok 72 154 [vI x, vI z, vI y] σ := by
  obtain ⟨NS, NC, NP, hh⟩ := id h
  have hh : iAll σ.1 NS NC NP := hh
  obtain ⟨-, hS, hC, hP, hW, -⟩ := hh
  obtain ⟨NM, hw⟩ := wOk_of hP hW
  have hage : σ.1 9 0 11 0 = σ.1 10 0 18 0 := by
    obtain ⟨_, -, -, -, -, e⟩ := hW
    exact e
  have hNP := hP.1
  have a1 := c32 58 (σ := σ) (x1 := x)
  have a2 := c32 58 (σ := σ) (x1 := z)
  have b1 := c134 58 (σ := σ) (x1 := x)
  have b2 := c134 58 (σ := σ) (x1 := z)
  have a3 := c90 58 (σ := σ) (x0 := y)
  have b3 := c138 57 (σ := σ) (x0 := y)
  rw [hP.2.1] at a1 a2
  rw [hP.2.2.1] at b1 b2
  cases q1 : sHas (nI NP) x with
  | false =>
    rw [q1] at a1 b1
    exact ⟨_, _, _, (m72 59).trans (g72_0_0 _ a1 rfl), (m154 59).trans (g154_0_0 _ b1 rfl), h⟩
  | true =>
    cases q2 : sHas (nI NP) z with
    | false =>
      rw [q1] at a1 b1
      rw [q2] at a2 b2
      exact ⟨_, _, _, (m72 59).trans (g72_0_1 _ a1 (by decide) a2 rfl), (m154 59).trans (g154_0_1 _ b1 (by decide) b2 rfl), h⟩
    | true =>
      obtain ⟨ex, hx⟩ := in_nI (sHas_in (by omega) q1) (by omega)
      obtain ⟨ez, hz⟩ := in_nI (sHas_in (by omega) q2) (by omega)
      have vx : vp_in x 48 := in_le (sHas_in (by omega) q1) hNP (by omega)
      have vz : vp_in z 48 := in_le (sHas_in (by omega) q2) hNP (by omega)
      have s1 := (hP.2.2.2.1 _ hx).1
      have s2 := (hP.2.2.2.1 _ hz).1
      rw [q1] at a1 b1
      rw [q2] at a2 b2
      cases q3 : sYear y with
      | false =>
        rw [q3] at a3 b3
        exact ⟨_, _, _, (m72 59).trans (g72_0_2 _ a1 (by decide) a2 (by decide) a3 rfl), (m154 59).trans (g154_0_2 _ b1 (by decide) b2 (by decide) b3 rfl), h⟩
      | true =>
        rw [q3] at a3 b3
        by_cases p1 : σ.1 5 0 0 x.toNatClampNeg = 0
        · by_cases p2 : σ.1 5 0 0 z.toNatClampNeg = 1
          · obtain ⟨τ, k, hI⟩ := c146 55 hS hC hP
            have hτ : Inv τ := h.same (fcI_mask hI)
            have r1 := c72 55 (y := y) hS hC hP hw hx hz q3 p1 p2
            have r2 := c152 55 (y := y) hS hC hP hw.m hage hI hx hz
            rw [← ex, ← ez] at r1 r2
            exact ⟨_, _, τ, r1, (m154 59).trans (g154_0_3 _ b1 (by decide) b2 (by decide) b3 (by decide) vx (by rw [← s1]; exact p1) vz (by rw [← s2]; exact p2) k r2), hτ⟩
          · exact ⟨_, _, _, (m72 59).trans (g72_0_8 _ a1 (by decide) a2 (by decide) a3 (by decide) vx p1 vz p2), (m154 59).trans (g154_0_4 _ b1 (by decide) b2 (by decide) b3 (by decide) vx (by rw [← s1]; exact p1) vz (by rw [← s2]; exact p2)), h⟩
        · exact ⟨_, _, _, (m72 59).trans (g72_0_9 _ a1 (by decide) a2 (by decide) a3 (by decide) vx p1), (m154 59).trans (g154_0_5 _ b1 (by decide) b2 (by decide) b3 (by decide) vx (by rw [← s1]; exact p1)), h⟩
