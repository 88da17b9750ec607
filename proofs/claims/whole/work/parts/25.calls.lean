/-! calls that look at people -/
theorem lp_cnt {C : pmC} {fr : Int32 → Nat → pmF} {p : Nat → Bool} {n : Nat} (h : ∀ k a, k < n → pq_Rn C (fr a k) = pq_Rn C (fr (if p k = true then a + 1 else a) (k + 1))) : pq_Rn C (fr 0 0) = pq_Rn C (fr (nI (fa_cnt p n)) n) := by
  have := lp_n (C := C) (fr := fun k => fr (nI (fa_cnt p k)) k) (n := n) (fun k hk => by
    refine (h k _ hk).trans ?_
    cases hp : p k with
    | true => rw [if_pos rfl, fa_cnt_yes hp, nI_1]
    | false => rw [if_neg (by decide), fa_cnt_no hp])
  exact this
theorem fcI_mask {σ τ : pmS} {k : Nat} (h : fcI σ k τ) : mask τ.1 = mask σ.1 := by
  refine mask_eq (fun c o j hk => h.1 c o j (fun z => ?_))
  obtain ⟨rfl, rfl | rfl⟩ := z <;> exact absurd hk (by decide)
/-- a class, or none -/
def isCl (x : Int32) : Prop := x = -1 ∨ ∃ t, t < 8 ∧ x = nI t
theorem isCl_neg {x : Int32} (h : isCl x) : x < 0 ↔ x = -1 := by
  rcases h with rfl | ⟨t, ht, rfl⟩
  · decide
  · constructor
    · intro z
      exact absurd z (nI_pos (by omega))
    · intro z
      exact absurd z (nI_m1 (by omega))
theorem sCh_cl {n : Nat} {t : Nat → Int32} {x : Int32} (hn : n < 2 ^ 31) (h : ∀ c, c < n → isCl (t c)) : isCl (sCh (nI n) t x) := by
  unfold sCh
  cases hb : sHas (nI n) x with
  | false => exact Or.inl (by simp)
  | true =>
    have := (in_nI (sHas_in hn hb) hn).2
    simp only [if_true]
    exact h _ this
theorem own_cl {f : pmI} {NS NC NP p : Nat} (hS : iS f NS) (hC : iC f NS NC) (hP : iP f NC NP) (hp : p < NP) : isCl (f 5 0 7 p) ∧ isCl (f 5 0 8 p) := by
  have hok := iAll_pOk hS hC hP hp
  obtain ⟨s1, -, n, hn, s3⟩ := pOk_s hok
  obtain ⟨n', w, ch, -, hn8, hwc, -, -, z1, -, z3⟩ := hS.2.2.2.1 _ s1
  have en : n' = n := by
    rw [z1] at s3
    exact (nI_eq (by omega) (by omega)).mp s3
  subst en
  obtain ⟨h1, h2⟩ := hP.2.2.2.2 p hp
  have a2 : ∀ x, isCl (sCh (f 2 (sSb f p) 8 0) (f 2 (sSb f p) 2) x) := fun x => by
    rw [z1]
    exact sCh_cl (by omega) (fun c hc => Or.inr ⟨ch c, by have := (hwc c hc).2; omega, (z3 c hc).2.2.1⟩)
  have a3 : ∀ x, isCl (sCh (f 2 (sSb f p) 8 0) (f 2 (sSb f p) 3) x) := fun x => by
    rw [z1]
    exact sCh_cl (by omega) (fun c hc => Or.inr ⟨ch (w c), by have := (hwc (w c) (hwc c hc).1).2; omega, (z3 c hc).2.2.2.1⟩)
  have told := (hP.2.2.2.1 p hp).2.2.2.2.2.2.2.2.2.2.2
  constructor
  · rw [h1]
    unfold sOwn
    split
    · exact told
    · split
      · exact a2 _
      · exact a3 _
  · rw [h2]
    unfold sOth
    split
    · exact Or.inl rfl
    · split
      · exact a3 _
      · exact a2 _
theorem c147 (d : Nat) {σ : pmS} {p : Nat} (hp : p < 48) (h1 : isCl (σ.1 10 0 29 p)) (h2 : isCl (σ.1 10 0 30 p)) : pq_RD (d + 1) 147 [vR 10 0 0, vI (nI p)] σ = some (some (vI (bI (sQuar (σ.1 10 0 29 p) (σ.1 10 0 30 p)))), σ) := by
  have ep : (nI p).toNatClampNeg = p := nI_clamp (by omega)
  refine (m147 d).trans ((t147_0 _ (vp_in_nI hp (by omega))).trans ?_)
  rw [ep]
  simp only [isCl_neg h1, isCl_neg h2]
  by_cases a : σ.1 10 0 29 p = -1 <;> by_cases b : σ.1 10 0 30 p = -1 <;> by_cases c : σ.1 10 0 29 p = σ.1 10 0 30 p <;> simp [a, b, c, sQuar, bI]
theorem T_about {σ : pmS} (h : Inv σ) (x y : Int32) : Tok 73 155 [vI x, vI y] σ := by
  obtain ⟨NS, NC, NP, hh⟩ := id h
  have hh : iAll σ.1 NS NC NP := hh
  obtain ⟨-, hS, hC, hP, -⟩ := hh
  have hNP := hP.1
  have c1 := c32 58 (σ := σ) (x1 := x)
  have c2 := c134 58 (σ := σ) (x1 := x)
  rw [hP.2.1] at c1
  rw [hP.2.2.1] at c2
  cases hb : sHas (nI NP) x with
  | false =>
    rw [hb] at c1 c2
    exact ⟨_, _, _, (m73 59).trans (g73_0_0 _ c1 rfl), (m155 59).trans (g155_0_0 _ c2 rfl), h⟩
  | true =>
    rw [hb] at c1 c2
    have hv0 := sHas_in (by omega) hb
    obtain ⟨ex, hx⟩ := in_nI hv0 (by omega)
    have hv : vp_in x 48 := in_le hv0 hNP (by omega)
    obtain ⟨τ, k, hI⟩ := c146 55 hS hC hP
    have hτ : Inv τ := h.same (fcI_mask hI)
    have g := hI.1
    obtain ⟨p0, p1, p2, p3, p4, p5, -⟩ := hP.2.2.2.1 _ hx
    obtain ⟨o1, o2⟩ := hI.2.2 _ hx
    obtain ⟨q1, q2⟩ := own_cl hS hC hP hx
    by_cases y0 : y = 0
    · exact ⟨_, _, τ, (m73 59).trans (g73_0_1 _ c1 (by decide) y0 hv), ((m155 59).trans (g155_0_1 _ c2 (by decide) k y0 hv)).trans (by rw [g 10 0 19 (by omega), p0]), hτ⟩
    by_cases y1 : y = 1
    · exact ⟨_, _, τ, (m73 59).trans (g73_0_2 _ c1 (by decide) y1 hv), ((m155 59).trans (g155_0_2 _ c2 (by decide) k y1 hv)).trans (by rw [g 10 0 20 (by omega), p1]), hτ⟩
    by_cases y2 : y = 2
    · exact ⟨_, _, τ, (m73 59).trans (g73_0_3 _ c1 (by decide) y2 hv), ((m155 59).trans (g155_0_3 _ c2 (by decide) k y2 hv)).trans (by rw [g 10 0 21 (by omega), p2]), hτ⟩
    by_cases y3 : y = 3
    · exact ⟨_, _, τ, (m73 59).trans (g73_0_4 _ c1 (by decide) y3 hv), ((m155 59).trans (g155_0_4 _ c2 (by decide) k y3 hv)).trans (by rw [g 10 0 22 (by omega), p3]), hτ⟩
    by_cases y4 : y = 4
    · exact ⟨_, _, τ, (m73 59).trans (g73_0_5 _ c1 (by decide) y4 hv), ((m155 59).trans (g155_0_5 _ c2 (by decide) k y4 hv)).trans (by rw [g 10 0 23 (by omega), p4]), hτ⟩
    by_cases y5 : y = 5
    · exact ⟨_, _, τ, (m73 59).trans (g73_0_6 _ c1 (by decide) y5 hv), ((m155 59).trans (g155_0_6 _ c2 (by decide) k y5 hv)).trans (by rw [g 10 0 24 (by omega), p5]), hτ⟩
    by_cases y6 : y = 6
    · exact ⟨_, _, τ, (m73 59).trans (g73_0_7 _ c1 (by decide) y6 hv), ((m155 59).trans (g155_0_7 _ c2 (by decide) k y6 hv)).trans (by rw [o1]), hτ⟩
    by_cases y7 : y = 7
    · exact ⟨_, _, τ, (m73 59).trans (g73_0_8 _ c1 (by decide) y7 hv), ((m155 59).trans (g155_0_8 _ c2 (by decide) k y7 hv)).trans (by rw [o2]), hτ⟩
    by_cases y8 : y = 8
    · have r1 := c37 58 (σ := σ) hv
      have r2 := c147 58 (σ := τ) (p := x.toNatClampNeg) (by omega) (by rw [o1]; exact q1) (by rw [o2]; exact q2)
      rw [o1, o2, ← ex] at r2
      cases hq : sQuar (σ.1 5 0 7 x.toNatClampNeg) (σ.1 5 0 8 x.toNatClampNeg) with
      | false =>
        rw [hq] at r1 r2
        exact ⟨_, _, τ, (m73 59).trans (g73_0_9 _ c1 (by decide) y8 r1 rfl), (m155 59).trans (g155_0_9 _ c2 (by decide) k y8 r2 rfl), hτ⟩
      | true =>
        rw [hq] at r1 r2
        exact ⟨_, _, τ, (m73 59).trans (g73_0_10 _ c1 (by decide) y8 r1 (by decide)), (m155 59).trans (g155_0_10 _ c2 (by decide) k y8 r2 (by decide)), hτ⟩
    exact ⟨_, _, τ, (m73 59).trans (g73_0_11 _ c1 (by decide) y0 y1 y2 y3 y4 y5 y6 y7 y8), (m155 59).trans (g155_0_11 _ c2 (by decide) k y0 y1 y2 y3 y4 y5 y6 y7 y8), hτ⟩
theorem c38 (d : Nat) {σ : pmS} {NP : Nat} (hN : NP ≤ 48) (h : σ.1 5 0 9 0 = nI NP) : pq_RD (d + 2) 38 [vR 5 0 0] σ = some (some (vI (nI (fa_cnt (fun p => sQuar (σ.1 5 0 7 p) (σ.1 5 0 8 p)) NP))), σ) := by
  refine (m38 (d + 1)).trans ((g38_0_0 _).trans ?_)
  refine (lp_cnt (C := pq_RD (d + 1)) (fr := fun a k => (38, 4, [some (vR 5 0 0), some (vI a), some (vI (nI k))], [], σ)) (p := fun p => sQuar (σ.1 5 0 7 p) (σ.1 5 0 8 p)) (n := NP) (fun k a hk => ?_)).trans ?_
  · have ek : (nI k).toNatClampNeg = k := nI_clamp (by omega)
    have r := c37 d (σ := σ) (x1 := nI k) (vp_in_nI (by omega) (by omega))
    rw [ek] at r
    have hg : ¬ σ.1 5 0 9 0 ≤ nI k := by rw [h]; exact nI_ge hk (by omega)
    cases hq : sQuar (σ.1 5 0 7 k) (σ.1 5 0 8 k) with
    | false =>
      rw [hq] at r
      rw [if_neg (by decide), ← nI_1]
      exact g38_4_1 _ hg r rfl
    | true =>
      rw [hq] at r
      rw [if_pos rfl, ← nI_1]
      exact g38_4_2 _ hg r (by decide)
  · exact g38_4_0 _ (by rw [h, fa_le]; omega)
theorem c39 (d : Nat) {σ : pmS} {NP : Nat} (hN : NP ≤ 48) (h : σ.1 5 0 9 0 = nI NP) : pq_RD (d + 1) 39 [vR 5 0 0] σ = some (some (vI (nI (fa_cnt (fun p => decide (σ.1 5 0 7 p = -1)) NP))), σ) := by
  refine (m39 d).trans ((g39_0_0 _).trans ?_)
  refine (lp_cnt (C := pq_RD d) (fr := fun a k => (39, 4, [some (vR 5 0 0), some (vI a), some (vI (nI k))], [], σ)) (p := fun p => decide (σ.1 5 0 7 p = -1)) (n := NP) (fun k a hk => ?_)).trans ?_
  · have ek : (nI k).toNatClampNeg = k := nI_clamp (by omega)
    have hv : vp_in (nI k) 48 := vp_in_nI (by omega) (by omega)
    have hg : ¬ σ.1 5 0 9 0 ≤ nI k := by rw [h]; exact nI_ge hk (by omega)
    rw [← nI_1]
    by_cases q : σ.1 5 0 7 k = -1
    · rw [if_pos (by simp [q])]
      exact g39_4_1 _ hg hv (by rw [ek]; exact q)
    · rw [if_neg (by simp [q])]
      exact g39_4_2 _ hg hv (by rw [ek]; exact q)
  · exact g39_4_0 _ (by rw [h, fa_le]; omega)
theorem T_count {σ : pmS} (h : Inv σ) (x : Int32) : Tok 85 178 [vI x] σ := by
  obtain ⟨NS, NC, NP, hh⟩ := id h
  have hh : iAll σ.1 NS NC NP := hh
  obtain ⟨⟨nt, -, t1, t2, -⟩, hS, hC, hP, ⟨NM, -, w1, w2, -, w3⟩, -⟩ := hh
  have hNP := hP.1
  obtain ⟨τ, k, hI⟩ := c146 55 hS hC hP
  have hτ : Inv τ := h.same (fcI_mask hI)
  have g := hI.1
  by_cases y0 : x = 0
  · exact ⟨_, _, τ, (m85 59).trans (g85_0_0 _ y0), ((m178 59).trans (g178_0_0 _ k y0)).trans (by rw [g 10 0 4 (by omega), hS.2.1, hS.2.2.1]), hτ⟩
  by_cases y1 : x = 1
  · exact ⟨_, _, τ, (m85 59).trans (g85_0_1 _ y1), ((m178 59).trans (g178_0_1 _ k y1)).trans (by rw [g 10 0 15 (by omega), hC.2.1, hC.2.2.1]), hτ⟩
  by_cases y2 : x = 2
  · exact ⟨_, _, τ, (m85 59).trans (g85_0_2 _ y2), ((m178 59).trans (g178_0_2 _ k y2)).trans (by rw [g 10 0 16 (by omega), hP.2.1, hP.2.2.1]), hτ⟩
  by_cases y3 : x = 3
  · exact ⟨_, _, τ, (m85 59).trans (g85_0_3 _ y3), ((m178 59).trans (g178_0_3 _ k y3)).trans (by rw [g 10 0 17 (by omega), w1, w2]), hτ⟩
  by_cases y4 : x = 4
  · exact ⟨_, _, τ, (m85 59).trans (g85_0_4 _ y4), ((m178 59).trans (g178_0_4 _ k y4)).trans (by rw [g 10 0 18 (by omega), w3]), hτ⟩
  by_cases y5 : x = 5
  · exact ⟨_, _, τ, (m85 59).trans (g85_0_5 _ y5), ((m178 59).trans (g178_0_5 _ k y5)).trans (by rw [g 10 0 6 (by omega), t1, t2]), hτ⟩
  by_cases y6 : x = 6
  · refine ⟨_, _, τ, (m85 59).trans (g85_0_6 _ y6 (c38 57 hNP hP.2.1)), ((m178 59).trans (g178_0_6 _ k y6)).trans ?_, hτ⟩
    refine (lp_cnt (C := pq_RD 59) (fr := fun a k => (178, 84, [some (vR 10 0 0), some (vI x), some (vI a), some (vI (nI k))], [], τ)) (p := fun p => sQuar (σ.1 5 0 7 p) (σ.1 5 0 8 p)) (n := NP) (fun k a hk => ?_)).trans ?_
    · obtain ⟨o1, o2⟩ := hI.2.2 k hk
      obtain ⟨q1, q2⟩ := own_cl hS hC hP hk
      have r := c147 58 (σ := τ) (p := k) (by omega) (by rw [o1]; exact q1) (by rw [o2]; exact q2)
      rw [o1, o2] at r
      have hg : ¬ τ.1 10 0 16 0 ≤ nI k := by rw [g 10 0 16 (by omega), hP.2.2.1]; exact nI_ge hk (by omega)
      cases hq : sQuar (σ.1 5 0 7 k) (σ.1 5 0 8 k) with
      | false =>
        rw [hq] at r
        rw [if_neg (by decide), ← nI_1]
        refine (g178_84_1 _ hg r rfl).trans ?_
        rw [Int32.add_zero]
      | true =>
        rw [hq] at r
        rw [if_pos rfl, ← nI_1]
        exact g178_84_2 _ hg r (by decide)
    · exact g178_84_0 _ (by rw [g 10 0 16 (by omega), hP.2.2.1, fa_le]; omega)
  by_cases y7 : x = 7
  · refine ⟨_, _, τ, (m85 59).trans (g85_0_7 _ y7 (c39 58 hNP hP.2.1)), ((m178 59).trans (g178_0_7 _ k y7)).trans ?_, hτ⟩
    refine (lp_cnt (C := pq_RD 59) (fr := fun a k => (178, 118, [some (vR 10 0 0), some (vI x), some (vI a), some (vI (nI k))], [], τ)) (p := fun p => decide (σ.1 5 0 7 p = -1)) (n := NP) (fun k a hk => ?_)).trans ?_
    · obtain ⟨o1, o2⟩ := hI.2.2 k hk
      obtain ⟨q1, q2⟩ := own_cl hS hC hP hk
      have ek : (nI k).toNatClampNeg = k := nI_clamp (by omega)
      have hv : vp_in (nI k) 48 := vp_in_nI (by omega) (by omega)
      have hg : ¬ τ.1 10 0 16 0 ≤ nI k := by rw [g 10 0 16 (by omega), hP.2.2.1]; exact nI_ge hk (by omega)
      have hneg := isCl_neg q1
      by_cases q : σ.1 5 0 7 k = -1
      · rw [if_pos (by simp [q]), ← nI_1]
        exact g178_118_2 _ hg hv (by rw [ek, o1, i_nle]; exact hneg.mpr q)
      · rw [if_neg (by simp [q]), ← nI_1]
        refine (g178_118_1 _ hg hv (by rw [ek, o1]; exact i_nlt.mp (fun z => q (hneg.mp z)))).trans ?_
        rw [Int32.add_zero]
    · exact g178_118_0 _ (by rw [g 10 0 16 (by omega), hP.2.2.1, fa_le]; omega)
  exact ⟨_, _, τ, (m85 59).trans (g85_0_8 _ y0 y1 y2 y3 y4 y5 y6 y7), (m178 59).trans (g178_0_8 _ k y0 y1 y2 y3 y4 y5 y6 y7), hτ⟩
