/-! feed, table -/
def fC (w : Int64) (x : Int32) : Int32 := (((w).toUInt64 >>> ((((8 : Int32) * x)).toInt64.toUInt64 &&& Int64.toUInt64 63)).toInt64 &&& (255 : Int64)).toInt32
def fM (w : Int64) (x : Int32) : Int32 := (((w >>> ((((8 : Int32) * x)).toInt64 &&& 63)) &&& (255 : Int64))).toInt32
theorem byte_shift (w : BitVec 64) (k : Nat) (hk : k + 8 ≤ 64) : (w >>> k) &&& 255#64 = (w.sshiftRight k) &&& 255#64 := by
  apply BitVec.eq_of_getLsbD_eq
  intro i hi
  rw [BitVec.getLsbD_and, BitVec.getLsbD_and, BitVec.getLsbD_ushiftRight, BitVec.getLsbD_sshiftRight]
  by_cases h : i < 8
  · have h1 : k + i < 64 := by omega
    have h2 : ¬ 64 ≤ i := by omega
    simp [h1, h2]
  · have : (255#64).getLsbD i = false := by
      have : (255 : Nat).testBit i = false := by
        apply Nat.testBit_lt_two_pow
        calc 255 < 2 ^ 8 := by decide
          _ ≤ 2 ^ i := Nat.pow_le_pow_right (by decide) (by omega)
      rw [BitVec.getLsbD_ofNat, this, Bool.and_false]
    rw [this, Bool.and_false, Bool.and_false]
theorem fCM (w : Int64) {i : Nat} (hi : i < 8) : fC w (nI i) = fM w (nI i) := by
  unfold fC fM
  congr 1
  have key : ∀ k : Nat, k + 8 ≤ 64 → (w.toBitVec >>> k) &&& 255#64 = (w.toBitVec.sshiftRight k) &&& 255#64 := fun k hk => byte_shift _ k hk
  apply Int64.toBitVec_inj.mp
  rcases (by omega : i = 0 ∨ i = 1 ∨ i = 2 ∨ i = 3 ∨ i = 4 ∨ i = 5 ∨ i = 6 ∨ i = 7) with rfl | rfl | rfl | rfl | rfl | rfl | rfl | rfl
  · exact key 0 (by omega)
  · exact key 8 (by omega)
  · exact key 16 (by omega)
  · exact key 24 (by omega)
  · exact key 32 (by omega)
  · exact key 40 (by omega)
  · exact key 48 (by omega)
  · exact key 56 (by omega)
theorem nI_dn {n k : Nat} (h : k < n) : nI (n - k) - 1 + (-1) = nI (n - (k + 1)) - 1 ∧ nI (n - k) - 1 = nI (n - (k + 1)) := by
  obtain ⟨m, e⟩ : ∃ m, n - k = m + 1 := ⟨n - (k + 1), by omega⟩
  have e2 : n - (k + 1) = m := by omega
  rw [e, e2, nI_pred]
  exact ⟨(Int32.sub_eq_add_neg (nI m) 1).symm, rfl⟩
theorem c40 (d : Nat) {σ : pmS} {w : Int64} {T n : Nat} (h1 : 1 ≤ n) (h8 : n ≤ 8) (hT : T + n ≤ 60) (h : σ.1 6 0 1 0 = nI T) : ∃ τ, pq_RD (d + 1) 40 [vR 6 0 0, vL w, vI (nI n)] σ = some (some (vI 1), τ) ∧ (∀ c o k, ¬ (c = 6 ∧ (k = 0 ∨ k = 1)) → τ.1 c o k = σ.1 c o k) ∧ τ.1 6 0 1 0 = nI (T + n) ∧ (∀ i, i < T → τ.1 6 0 0 i = σ.1 6 0 0 i) ∧ ∀ j, j < n → τ.1 6 0 0 (T + j) = fC w (nI (n - (j + 1))) := by
  have st := (m40 d).trans (g40_0_0 (pq_RD d) (l4 := none) (σ := σ) (w1 := w) (x3 := nI n) (by rw [h, nI_add]; exact nI_le (b := 60) (by omega) (by omega)))
  obtain ⟨τ, ⟨i1, i2, i3, i4⟩, hr⟩ := lp_ex (C := pq_RD d) (S := pmS) (I := fun k τ => (∀ c o j, ¬ (c = 6 ∧ (j = 0 ∨ j = 1)) → τ.1 c o j = σ.1 c o j) ∧ τ.1 6 0 1 0 = nI (T + k) ∧ (∀ i, i < T → τ.1 6 0 0 i = σ.1 6 0 0 i) ∧ ∀ j, j < k → τ.1 6 0 0 (T + j) = fC w (nI (n - (j + 1)))) (fr := fun k τ => (40, 18, [some (vR 6 0 0), some (vL w), none, some (vI (nI n)), some (vI (nI (n - k) - 1))], [], τ)) (s0 := σ) ⟨fun _ _ _ _ => rfl, h, fun _ _ => rfl, fun j hj => by omega⟩ (n := n) (fun k τ hk ⟨i1, i2, i3, i4⟩ => by
    obtain ⟨e1, e2⟩ := nI_dn hk
    refine ⟨pm_wi (pm_wi τ 6 0 0 (T + k) (fC w (nI (n - (k + 1))))) 6 0 1 0 (nI (T + (k + 1))), ⟨fun c o j hj => ?_, wi_s _ _ _ _ _ _, fun i hi => ?_, fun j hj => ?_⟩, ?_⟩
    · rw [wi_k (by omega), wi_k (by omega), i1 c o j hj]
    · have : i ≠ T + k := by omega
      rw [wi_k (by omega), wi_i this, i3 i hi]
    · rw [wi_k (by omega)]
      rcases Nat.lt_or_ge j k with hjk | hjk
      · rw [wi_i (by omega), i4 j hjk]
      · have : j = k := by omega
        subst this
        exact wi_s _ _ _ _ _ _
    · refine (g40_18_1 _ (by rw [e2]; exact nI_pos (by omega)) (by rw [i2]; exact vp_in_nI (by omega) (by omega))).trans ?_
      rw [e1, i2, nI_clamp (by omega), nI_1, e2]
      rfl)
  refine ⟨τ, ?_, i1, i2, i3, i4⟩
  refine st.trans (Eq.trans hr ?_)
  exact g40_18_0 _ (by rw [Nat.sub_self]; decide)
theorem c108r {σ : pmS} {w : Int64} {T n : Nat} (h1 : 1 ≤ n) (h8 : n ≤ 8) (hT : T + n ≤ 60) (h : σ.1 10 0 6 0 = nI T) : ∃ τ, pq_Rn (pq_RD 59) (108, 34, [some (vR 10 0 0), some (vL w), none, some (vI (nI n)), some (vI (nI n - 1))], [], σ) = some (some (vI (nI (T + n))), τ) ∧ (∀ c o k, ¬ (c = 10 ∧ (k = 5 ∨ k = 6)) → τ.1 c o k = σ.1 c o k) ∧ τ.1 10 0 6 0 = nI (T + n) ∧ (∀ i, i < T → τ.1 10 0 5 i = σ.1 10 0 5 i) ∧ ∀ j, j < n → τ.1 10 0 5 (T + j) = fM w (nI (n - (j + 1))) := by
  obtain ⟨τ, ⟨i1, i2, i3, i4⟩, hr⟩ := lp_ex (C := pq_RD 59) (S := pmS) (I := fun k τ => (∀ c o j, ¬ (c = 10 ∧ (j = 5 ∨ j = 6)) → τ.1 c o j = σ.1 c o j) ∧ τ.1 10 0 6 0 = nI (T + k) ∧ (∀ i, i < T → τ.1 10 0 5 i = σ.1 10 0 5 i) ∧ ∀ j, j < k → τ.1 10 0 5 (T + j) = fM w (nI (n - (j + 1)))) (fr := fun k τ => (108, 34, [some (vR 10 0 0), some (vL w), none, some (vI (nI n)), some (vI (nI (n - k) - 1))], [], τ)) (s0 := σ) ⟨fun _ _ _ _ => rfl, h, fun _ _ => rfl, fun j hj => by omega⟩ (n := n) (fun k τ hk ⟨i1, i2, i3, i4⟩ => by
    obtain ⟨e1, e2⟩ := nI_dn hk
    refine ⟨pm_wi (pm_wi τ 10 0 5 (T + k) (fM w (nI (n - (k + 1))))) 10 0 6 0 (nI (T + (k + 1))), ⟨fun c o j hj => ?_, wi_s _ _ _ _ _ _, fun i hi => ?_, fun j hj => ?_⟩, ?_⟩
    · rw [wi_k (by omega), wi_k (by omega), i1 c o j hj]
    · have : i ≠ T + k := by omega
      rw [wi_k (by omega), wi_i this, i3 i hi]
    · rw [wi_k (by omega)]
      rcases Nat.lt_or_ge j k with hjk | hjk
      · rw [wi_i (by omega), i4 j hjk]
      · have : j = k := by omega
        subst this
        exact wi_s _ _ _ _ _ _
    · refine (g108_34_1 _ (by rw [e2]; exact nI_pos (by omega)) (by rw [i2]; exact vp_in_nI (by omega) (by omega))).trans ?_
      rw [e1, i2, nI_clamp (by omega), nI_1, e2]
      rfl)
  refine ⟨τ, ?_, i1, i2, i3, i4⟩
  refine Eq.trans hr ?_
  refine (g108_34_0 _ (by rw [Nat.sub_self]; decide)).trans ?_
  rw [i2]
theorem T_feed {σ : pmS} (h : Inv σ) (w : Int64) (x : Int32) : Tok 54 108 [vL w, vI x] σ := by
  obtain ⟨NS, NC, NP, hh⟩ := id h
  have hh : iAll σ.1 NS NC NP := hh
  obtain ⟨⟨T, hT, t1, t2, t3, t4, t5⟩, hS, hC, hP, hW, hM, hO⟩ := id hh
  have b1 := c105 58 (σ := σ) (v := x) (a := 1) (b := 8) (A := 1) (B := 8) rfl rfl
  by_cases x1 : x < 1
  · rw [show sIn x 1 8 = false by simp [sIn, x1]] at b1
    exact ⟨_, _, _, (m54 59).trans (g54_0_0 _ x1), (m108 59).trans (g108_0_0 _ b1 rfl), h⟩
  by_cases x8 : x ≤ 8
  · have hin : sIn x 1 8 = true := by
      have : ¬ (8 : Int32) < x := i_nlt.mpr x8
      simp [sIn, x1, this]
    rw [hin] at b1
    obtain ⟨n, hn8, en⟩ := nI_of2 (M := 8) (n := 8) rfl (x := x) (fun z => x1 (by rw [fa_lt] at z ⊢; have l0 : (0 : Int32).toInt = 0 := rfl; have l1 : (1 : Int32).toInt = 1 := rfl; omega)) x8
    subst en
    have hn1 : 1 ≤ n := by
      rcases Nat.eq_zero_or_pos n with e | e
      · subst e
        exact absurd (by decide) x1
      · exact e
    rcases Nat.lt_or_ge 60 (T + n) with hr | hr
    · have k40 : pq_RD 59 40 [vR 6 0 0, vL w, vI (nI n)] σ = some (some (vI 0), σ) := (m40 58).trans (g40_0_1 _ (by rw [t1, nI_add]; exact nI_ge (a := 60) hr (by omega)))
      exact ⟨_, _, _, (m54 59).trans (g54_0_1 _ x1 x8 k40 rfl), (m108 59).trans (g108_0_2 _ b1 (by decide) (by rw [t2, nI_add]; exact nI_ge (a := 60) hr (by omega))), h⟩
    · obtain ⟨σ1, k40, o1, o2, o3, o4⟩ := c40 58 (σ := σ) (w := w) hn1 hn8 hr t1
      have b2 := c105 58 (σ := σ1) (v := nI n) (a := 1) (b := 8) (A := 1) (B := 8) rfl rfl
      rw [hin] at b2
      obtain ⟨ρ, kr, r1, r2, r3, r4⟩ := c108r (σ := σ1) (w := w) hn1 hn8 hr (by rw [o1 10 0 6 (by omega)]; exact t2)
      refine ⟨_, _, ρ, ((m54 59).trans (g54_0_2 _ x1 x8 k40 (by decide))).trans (by rw [o2]), (m108 59).trans ((g108_0_1 _ b2 (by decide) (by rw [o1 10 0 6 (by omega), t2, nI_add]; exact nI_le (b := 60) (by omega) (by omega))).trans kr), ?_⟩
      have off : ∀ c o k, ¬ (c = 6 ∧ (k = 0 ∨ k = 1)) → ¬ (c = 10 ∧ (k = 5 ∨ k = 6)) → ρ.1 c o k = σ.1 c o k := fun c o k h1 h2 => by rw [r1 c o k h2, o1 c o k h1]
      have q6 : ∀ k, ρ.1 6 0 k = σ1.1 6 0 k := fun k => r1 6 0 k (by omega)
      have hT2 : iT ρ.1 := by
        refine ⟨T + n, hr, by rw [q6]; exact o2, r2, fun i hi => ?_, by rw [off 6 0 2 (by omega) (by omega), off 10 0 7 (by omega) (by omega)]; exact t4, by rw [off 6 0 3 (by omega) (by omega), off 10 0 8 (by omega) (by omega)]; exact t5⟩
        rw [q6]
        rcases Nat.lt_or_ge i T with hi2 | hi2
        · rw [o3 i hi2, r3 i hi2, o1 10 0 5 (by omega)]
          exact t3 i hi2
        · obtain ⟨j, rfl⟩ : ∃ j, i = T + j := ⟨i - T, by omega⟩
          rw [o4 j (by omega), r4 j (by omega)]
          exact fCM w (by omega)
      refine ⟨NS, NC, NP, (⟨hT2, iS_c ?_ hS, iC_c ?_ hC, iP_c ?_ hP, iW_c ?_ hW, iM_c ?_ hM, iO_c ?_ hO⟩ : iAll ρ.1 NS NC NP)⟩
      all_goals intro c o k hk
      all_goals refine off c o k (fun e => ?_) (fun e => ?_)
      all_goals (obtain ⟨rfl, rfl | rfl⟩ := e <;> exact absurd hk (by decide))
  · rw [show sIn x 1 8 = false by simp [sIn, i_nle.mp x8]] at b1
    exact ⟨_, _, _, (m54 59).trans (g54_0_3 _ x1 x8), (m108 59).trans (g108_0_0 _ b1 rfl), h⟩
/-! table -/
theorem ix8 {s c : Nat} (hs : s < 4) (hc : c < 8) : (8 : Int32) * nI s + nI c = nI (8 * s + c) ∧ vp_in ((8 : Int32) * nI s + nI c) 32 ∧ ((8 : Int32) * nI s + nI c).toNatClampNeg = 8 * s + c := by
  have e : (8 : Int32) * nI s + nI c = nI (8 * s + c) := by
    show nI 8 * nI s + nI c = _
    rw [pk_mul, nI_add]
  refine ⟨e, ?_, ?_⟩
  · rw [e]
    exact vp_in_nI (by omega) (by omega)
  · rw [e]
    exact nI_clamp (by omega)
/-- back: the place at which a table has c -/
theorem c115a (d : Nat) {σ : pmS} {s k c : Nat} {x : Int32} (hs : s < 4) (hk : k < 8) (hx : x = nI c) (h1 : σ.1 10 0 1 (8 * s + k) = nI c) (h2 : ∀ j, j < k → ¬ σ.1 10 0 1 (8 * s + j) = nI c) : pq_RD (d + 1) 115 [vR 10 0 0, vR 10 0 2, vI (nI s), vI x] σ = some (some (vI (nI k)), σ) := by
  subst hx
  refine (m115a d).trans ((g115a_0_0 _).trans ?_)
  refine (lp_n (C := pq_RD d) (fr := fun j => (115, 3, [some (vR 10 0 0), some (vR 10 0 2), some (vI (nI s)), some (vI (nI c)), some (vI (nI j))], [], σ)) (n := k) (fun j hj => ?_)).trans ?_
  · obtain ⟨-, v, e⟩ := ix8 hs (by omega : j < 8)
    rw [← nI_1]
    exact g115a_3_1 _ v (by rw [e]; exact h2 j hj)
  · obtain ⟨-, v, e⟩ := ix8 hs hk
    exact g115a_3_0 _ v (by rw [e]; exact h1)
theorem T_table {σ : pmS} (h : Inv σ) (s c x : Int32) : Tok 57 116 [vI s, vI c, vI x] σ := by
  obtain ⟨NS, NC, NP, hh⟩ := id h
  have hh : iAll σ.1 NS NC NP := hh
  obtain ⟨hT, hS, hC, hP, hW, hM, hO⟩ := id hh
  have hNS := hS.1
  have a1 := c87 57 (σ := σ) (x1 := s) (x2 := c) hNS hS.2.1
  have b1 := c107 57 (σ := σ) (x1 := s) (x2 := c) hNS hS.2.2.1
  cases q1 : sHas (nI NS) s with
  | false =>
    rw [q1, Bool.false_and] at a1 b1
    exact ⟨_, _, _, (m57 59).trans (g57_0_0 _ a1 rfl), (m116 59).trans (g116_0_0 _ b1 rfl), h⟩
  | true =>
    obtain ⟨es, hs⟩ := in_nI (sHas_in (by omega) q1) (by omega)
    obtain ⟨n, w, ch, hsy⟩ := hS.2.2.2.1 _ hs
    obtain ⟨h2, hn8, hwc, wi, ci, z1, z2, z3⟩ := hsy
    rw [q1, Bool.true_and, z1] at a1
    rw [q1, Bool.true_and, z2] at b1
    cases q2 : sHas (nI n) c with
    | false =>
      rw [q2] at a1 b1
      exact ⟨_, _, _, (m57 59).trans (g57_0_0 _ a1 rfl), (m116 59).trans (g116_0_0 _ b1 rfl), h⟩
    | true =>
      rw [q2] at a1 b1
      obtain ⟨ec, hc⟩ := in_nI (sHas_in (by omega) q2) (by omega)
      have vs : vp_in s 4 := in_le (sHas_in (by omega) q1) hNS (by omega)
      have vc : vp_in c 8 := in_le (sHas_in (by omega) q2) hn8 (by omega)
      obtain ⟨-, v32, e32⟩ := ix8 (s := s.toNatClampNeg) (c := c.toNatClampNeg) (by omega) (by omega)
      rw [← es, ← ec] at v32 e32
      obtain ⟨y0, y1, y2, y3, y4, y5, y6, y7, y8⟩ := z3 _ hc
      by_cases x0 : x = 0
      · exact ⟨_, _, _, (m57 59).trans (g57_0_1 _ a1 (by decide) vs x0 vc), ((m116 59).trans (g116_0_1 _ b1 (by decide) x0 v32)).trans (by rw [e32, y0, y6]), h⟩
      by_cases x1 : x = 1
      · exact ⟨_, _, _, (m57 59).trans (g57_0_2 _ a1 (by decide) vs x1 vc), ((m116 59).trans (g116_0_2 _ b1 (by decide) x1 v32)).trans (by rw [e32, y2, y7]), h⟩
      by_cases x2 : x = 2
      · exact ⟨_, _, _, (m57 59).trans (g57_0_3 _ a1 (by decide) vs x2 vc), ((m116 59).trans (g116_0_3 _ b1 (by decide) x2 v32)).trans (by rw [e32, y3, y8]), h⟩
      by_cases x3 : x = 3
      · obtain ⟨k, hk, ek⟩ := fb_onto (n := n) (f := w) (fun i hi => (hwc i hi).1) (fun i j hij hj e => by have := wi i j (by omega) hj e; omega) hc
        have r := c115a 58 (σ := σ) (s := s.toNatClampNeg) (k := k) (c := c.toNatClampNeg) (x := c) (by omega) (by omega) ec (by rw [(z3 k hk).2.2.2.2.2.2.1, ek]) (fun j hj e => by
          rw [(z3 j (by omega)).2.2.2.2.2.2.1] at e
          have := (nI_eq (by have := (hwc j (by omega)).1; omega) (by omega)).mp e
          have := wi j k (by omega) hk (this.trans ek.symm)
          omega)
        rw [← es] at r
        have hy := (z3 k hk).2.1
        rw [ek] at hy
        exact ⟨_, _, _, ((m57 59).trans (g57_0_4 _ a1 (by decide) vs x3 vc)).trans (by rw [hy]), (m116 59).trans (g116_0_4 _ b1 (by decide) x3 r), h⟩
      by_cases x4 : x = 4
      · exact ⟨_, _, _, (m57 59).trans (g57_0_5 _ a1 (by decide) vs x4), ((m116 59).trans (g116_0_5 _ b1 (by decide) x4 vs)).trans (by rw [z1, z2]), h⟩
      exact ⟨_, _, _, (m57 59).trans (g57_0_6 _ a1 (by decide) vs x0 x1 x2 x3 x4), (m116 59).trans (g116_0_6 _ b1 (by decide) x0 x1 x2 x3 x4), h⟩
