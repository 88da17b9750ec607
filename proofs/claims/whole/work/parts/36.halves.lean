/-! half, halves -/
def sd (x v : Int32) : Int32 := (x >>> (v &&& 31)) &&& (1 : Int32)
def hfA (p : Nat → Bool) : Nat → Bool
  | 0 => true
  | k + 1 => hfA p k && p k
theorem hfA_cong {p q : Nat → Bool} : ∀ {n : Nat}, (∀ k, k < n → p k = q k) → hfA p n = hfA q n
  | 0, _ => rfl
  | n + 1, h => by rw [hfA, hfA, hfA_cong (fun k hk => h k (by omega)), h n (by omega)]
theorem hfA_t {p : Nat → Bool} : ∀ {n : Nat}, hfA p n = true ↔ ∀ k, k < n → p k = true
  | 0 => ⟨fun _ k hk => by omega, fun _ => rfl⟩
  | n + 1 => by
    rw [hfA, Bool.and_eq_true, hfA_t]
    constructor
    · rintro ⟨h1, h2⟩ k hk
      rcases Nat.lt_or_ge k n with h | h
      · exact h1 k h
      · have : k = n := by omega
        subst this
        exact h2
    · intro h
      exact ⟨fun k hk => h k (by omega), h n (by omega)⟩
def pa (x : Int32) (t : Nat → Int32) (c : Nat) : Bool := !decide (sd x (t c) = sd x (nI c))
def pb (x : Int32) (t : Nat → Int32) (c : Nat) : Bool := decide (sd x (t c) = sd x (nI c))
def sh (A B D : Bool) : Int32 := (if A = true then 1 else 0) + (if B = true then 2 else 0) + (if D = true then 4 else 0)
def sHalf (f : pmI) (s n : Nat) (x : Int32) : Int32 := sh (hfA (pa x (f 2 s 0)) n) (hfA (pb x (f 2 s 2)) n) (hfA (pb x (f 2 s 3)) n)
theorem c15 (d : Nat) {σ : pmS} {s n : Nat} {x : Int32} (hn : n ≤ 8) (h : σ.1 2 s 8 0 = nI n) : pq_RD (d + 1) 15 [vR 2 s 0, vI x] σ = some (some (vI (sHalf σ.1 s n x)), σ) := by
  obtain ⟨l6, -, hr⟩ := lp_ex (C := pq_RD d) (S := Option pmV) (I := fun _ _ => True) (fr := fun k l => (15, 10, [some (vR 2 s 0), some (vI x), some (vI (bI (hfA (pa x (σ.1 2 s 0)) k))), some (vI (bI (hfA (pb x (σ.1 2 s 2)) k))), some (vI (bI (hfA (pb x (σ.1 2 s 3)) k))), some (vI (nI k)), l], [], σ)) (s0 := none) trivial (n := n) (fun k l hk _ => by
    have ek : (nI k).toNatClampNeg = k := nI_clamp (by omega)
    have hv : vp_in (nI k) 8 := vp_in_nI (by omega) (by omega)
    have hg : ¬ σ.1 2 s 8 0 ≤ nI k := by rw [h]; exact nI_ge hk (by omega)
    refine ⟨some (vI (sd x (nI k))), trivial, ?_⟩
    rw [hfA, hfA, hfA, ← nI_1]
    generalize hfA (pa x (σ.1 2 s 0)) k = A
    generalize hfA (pb x (σ.1 2 s 2)) k = B
    generalize hfA (pb x (σ.1 2 s 3)) k = D
    have s1 : pq_Rn (pq_RD d) (15, 10, [some (vR 2 s 0), some (vI x), some (vI (bI A)), some (vI (bI B)), some (vI (bI D)), some (vI (nI k)), l], [], σ) = pq_Rn (pq_RD d) (15, 52, [some (vR 2 s 0), some (vI x), some (vI (bI A)), some (vI (bI B)), some (vI (bI D)), some (vI (nI k)), some (vI (sd x (nI k)))], [vI (bI (A && pa x (σ.1 2 s 0) k))], σ) := by
      cases A
      · exact (g15_10_2 _ hg rfl).trans (g15_51_0 _)
      · by_cases e : sd x (σ.1 2 s 0 k) = sd x (nI k)
        · rw [show pa x (σ.1 2 s 0) k = false by simp [pa, e]]
          exact (g15_10_3 _ hg (by decide) hv (by rw [ek]; exact e)).trans (g15_51_0 _)
        · rw [show pa x (σ.1 2 s 0) k = true by simp [pa, e]]
          exact g15_10_4 _ hg (by decide) hv (by rw [ek]; exact e)
    have s2 : ∀ a : Int32, pq_Rn (pq_RD d) (15, 52, [some (vR 2 s 0), some (vI x), some (vI (bI A)), some (vI (bI B)), some (vI (bI D)), some (vI (nI k)), some (vI (sd x (nI k)))], [vI a], σ) = pq_Rn (pq_RD d) (15, 78, [some (vR 2 s 0), some (vI x), some (vI a), some (vI (bI B)), some (vI (bI D)), some (vI (nI k)), some (vI (sd x (nI k)))], [vI (bI (B && pb x (σ.1 2 s 2) k))], σ) := fun a => by
      cases B
      · exact (g15_52_0 _ rfl).trans (g15_77_0 _)
      · by_cases e : sd x (σ.1 2 s 2 k) = sd x (nI k)
        · rw [show pb x (σ.1 2 s 2) k = true by simp [pb, e]]
          exact g15_52_1 _ (by decide) hv (by rw [ek]; exact e)
        · rw [show pb x (σ.1 2 s 2) k = false by simp [pb, e]]
          exact (g15_52_2 _ (by decide) hv (by rw [ek]; exact e)).trans (g15_77_0 _)
    have s3 : ∀ a b : Int32, pq_Rn (pq_RD d) (15, 78, [some (vR 2 s 0), some (vI x), some (vI a), some (vI (bI B)), some (vI (bI D)), some (vI (nI k)), some (vI (sd x (nI k)))], [vI b], σ) = pq_Rn (pq_RD d) (15, 105, [some (vR 2 s 0), some (vI x), some (vI a), some (vI b), some (vI (bI D)), some (vI (nI k)), some (vI (sd x (nI k)))], [vI (bI (D && pb x (σ.1 2 s 3) k))], σ) := fun a b => by
      cases D
      · exact (g15_78_0 _ rfl).trans (g15_104_0 _)
      · by_cases e : sd x (σ.1 2 s 3 k) = sd x (nI k)
        · rw [show pb x (σ.1 2 s 3) k = true by simp [pb, e]]
          exact g15_78_1 _ (by decide) hv (by rw [ek]; exact e)
        · rw [show pb x (σ.1 2 s 3) k = false by simp [pb, e]]
          exact (g15_78_2 _ (by decide) hv (by rw [ek]; exact e)).trans (g15_104_0 _)
    exact (s1.trans (s2 _)).trans ((s3 _ _).trans (g15_105_0 _)))
  refine (m15 d).trans ((g15_0_0 _).trans ?_)
  refine Eq.trans hr ?_
  unfold sHalf
  have hg : σ.1 2 s 8 0 ≤ nI n := by rw [h, fa_le]; omega
  generalize hfA (pa x (σ.1 2 s 0)) n = A
  generalize hfA (pb x (σ.1 2 s 2)) n = B
  generalize hfA (pb x (σ.1 2 s 3)) n = D
  have s1 : pq_Rn (pq_RD d) (15, 10, [some (vR 2 s 0), some (vI x), some (vI (bI A)), some (vI (bI B)), some (vI (bI D)), some (vI (nI n)), l6], [], σ) = pq_Rn (pq_RD d) (15, 122, [some (vR 2 s 0), some (vI x), some (vI (bI A)), some (vI (bI B)), some (vI (bI D)), some (vI (nI n)), l6], [vI (if A = true then 1 else 0)], σ) := by
    cases A
    · exact g15_10_0 _ hg rfl
    · exact g15_10_1 _ hg (by decide)
  refine s1.trans ?_
  cases B
  · refine (g15_122_0 _ rfl).trans ?_
    cases D
    · exact (g15_131_0 _ rfl).trans (g15_142_0 _)
    · exact (g15_131_1 _ (by decide)).trans (g15_142_0 _)
  · refine (g15_122_1 _ (by decide)).trans ?_
    cases D
    · exact (g15_131_0 _ rfl).trans (g15_142_0 _)
    · exact (g15_131_1 _ (by decide)).trans (g15_142_0 _)
theorem c130 (d : Nat) {σ : pmS} {s n : Nat} {x : Int32} {w ch : Nat → Nat} (hs : s < 4) (hsy : iSy σ.1 s n w ch) : pq_RD (d + 1) 130 [vR 10 0 0, vI (nI s), vI x] σ = some (some (vI (sHalf σ.1 s n x)), σ) := by
  obtain ⟨-, hn, -, -, -, -, z2, z3⟩ := hsy
  have es : (nI s).toNatClampNeg = s := nI_clamp (by omega)
  have vs : vp_in (nI s) 4 := vp_in_nI hs (by omega)
  obtain ⟨l6, -, hr⟩ := lp_ex (C := pq_RD d) (S := Option pmV) (I := fun _ _ => True) (fr := fun k l => (130, 6, [some (vR 10 0 0), some (vI (nI s)), some (vI x), some (vI (sHalf σ.1 s k x)), some (vI (nI k)), l], [], σ)) (s0 := none) trivial (n := n) (fun k l hk _ => by
    obtain ⟨-, v, e⟩ := ix8 hs (by omega : k < 8)
    have hg : ¬ σ.1 10 0 0 (nI s).toNatClampNeg ≤ nI k := by rw [es, z2]; exact nI_ge hk (by omega)
    obtain ⟨y0, -, y2, y3, -, -, y6, y7, y8⟩ := z3 k hk
    have t1 : σ.1 10 0 1 (8 * s + k) = σ.1 2 s 0 k := by rw [y0, y6]
    have t2 : σ.1 10 0 2 (8 * s + k) = σ.1 2 s 2 k := by rw [y2, y7]
    have t3 : σ.1 10 0 3 (8 * s + k) = σ.1 2 s 3 k := by rw [y3, y8]
    refine ⟨some (vI (sd x (nI k))), trivial, ?_⟩
    unfold sHalf
    rw [hfA, hfA, hfA, ← nI_1]
    unfold pa pb
    generalize hfA (fun c => !decide (sd x (σ.1 2 s 0 c) = sd x (nI c))) k = A
    generalize hfA (fun c => decide (sd x (σ.1 2 s 2 c) = sd x (nI c))) k = B
    generalize hfA (fun c => decide (sd x (σ.1 2 s 3 c) = sd x (nI c))) k = D
    by_cases e1 : sd x (σ.1 2 s 0 k) = sd x (nI k) <;> by_cases e2 : sd x (σ.1 2 s 2 k) = sd x (nI k) <;> by_cases e3 : sd x (σ.1 2 s 3 k) = sd x (nI k)
    · refine (g130_6_1 _ vs hg v (by rw [e, t1]; exact e1) (by rw [e, t2]; exact e2) (by rw [e, t3]; exact e3)).trans ?_
      simp only [e1, e2, e3]
      cases A <;> cases B <;> cases D <;> rfl
    · refine (g130_6_2 _ vs hg v (by rw [e, t1]; exact e1) (by rw [e, t2]; exact e2) (by rw [e, t3]; exact e3)).trans ?_
      simp only [e1, e2, e3]
      cases A <;> cases B <;> cases D <;> rfl
    · refine (g130_6_3 _ vs hg v (by rw [e, t1]; exact e1) (by rw [e, t2]; exact e2) (by rw [e, t3]; exact e3)).trans ?_
      simp only [e1, e2, e3]
      cases A <;> cases B <;> cases D <;> rfl
    · refine (g130_6_4 _ vs hg v (by rw [e, t1]; exact e1) (by rw [e, t2]; exact e2) (by rw [e, t3]; exact e3)).trans ?_
      simp only [e1, e2, e3]
      cases A <;> cases B <;> cases D <;> rfl
    · refine (g130_6_5 _ vs hg v (by rw [e, t1]; exact e1) (by rw [e, t2]; exact e2) (by rw [e, t3]; exact e3)).trans ?_
      simp only [e1, e2, e3]
      cases A <;> cases B <;> cases D <;> rfl
    · refine (g130_6_6 _ vs hg v (by rw [e, t1]; exact e1) (by rw [e, t2]; exact e2) (by rw [e, t3]; exact e3)).trans ?_
      simp only [e1, e2, e3]
      cases A <;> cases B <;> cases D <;> rfl
    · refine (g130_6_7 _ vs hg v (by rw [e, t1]; exact e1) (by rw [e, t2]; exact e2) (by rw [e, t3]; exact e3)).trans ?_
      simp only [e1, e2, e3]
      cases A <;> cases B <;> cases D <;> rfl
    · refine (g130_6_8 _ vs hg v (by rw [e, t1]; exact e1) (by rw [e, t2]; exact e2) (by rw [e, t3]; exact e3)).trans ?_
      simp only [e1, e2, e3]
      cases A <;> cases B <;> cases D <;> rfl)
  refine (m130 d).trans ((g130_0_0 _).trans ?_)
  refine Eq.trans hr ?_
  exact g130_6_0 _ vs (by rw [es, z2, fa_le]; omega)
theorem one_shl {n : Nat} (h : n ≤ 8) : (1 : Int32) <<< (nI n &&& 31) = nI (2 ^ n) := by
  rcases (by omega : n = 0 ∨ n = 1 ∨ n = 2 ∨ n = 3 ∨ n = 4 ∨ n = 5 ∨ n = 6 ∨ n = 7 ∨ n = 8) with rfl | rfl | rfl | rfl | rfl | rfl | rfl | rfl | rfl <;> rfl
theorem two_pow8 {n : Nat} (h2 : 2 ≤ n) (h : n ≤ 8) : 4 ≤ 2 ^ n ∧ 2 ^ n ≤ 256 ∧ ∃ m, 2 ^ n = 2 * m := by
  rcases (by omega : n = 2 ∨ n = 3 ∨ n = 4 ∨ n = 5 ∨ n = 6 ∨ n = 7 ∨ n = 8) with rfl | rfl | rfl | rfl | rfl | rfl | rfl
  · exact ⟨by decide, by decide, 2, rfl⟩
  · exact ⟨by decide, by decide, 4, rfl⟩
  · exact ⟨by decide, by decide, 8, rfl⟩
  · exact ⟨by decide, by decide, 16, rfl⟩
  · exact ⟨by decide, by decide, 32, rfl⟩
  · exact ⟨by decide, by decide, 64, rfl⟩
  · exact ⟨by decide, by decide, 128, rfl⟩
theorem T_half {σ : pmS} (h : Inv σ) (s x : Int32) : Tok 63 131 [vI s, vI x] σ := by
  obtain ⟨NS, NC, NP, hh⟩ := id h
  have hh : iAll σ.1 NS NC NP := hh
  obtain ⟨hT, hS, hC, hP, hW, hM, hO⟩ := id hh
  have hNS := hS.1
  have a1 := c86 58 (σ := σ) (x1 := s)
  have b1 := c106 58 (σ := σ) (x1 := s)
  rw [hS.2.1] at a1
  rw [hS.2.2.1] at b1
  cases q1 : sHas (nI NS) s with
  | false =>
    rw [q1] at a1 b1
    exact ⟨_, _, _, (m63 59).trans (g63_0_0 _ a1 rfl), (m131 59).trans (g131_0_0 _ b1 rfl), h⟩
  | true =>
    rw [q1] at a1 b1
    obtain ⟨es, hs⟩ := in_nI (sHas_in (by omega) q1) (by omega)
    have vs : vp_in s 4 := in_le (sHas_in (by omega) q1) hNS (by omega)
    obtain ⟨n, w, ch, hsy⟩ := hS.2.2.2.1 _ hs
    have hn2 := hsy.1
    have hn8 := hsy.2.1
    have z1 := hsy.2.2.2.2.2.1
    have z2 := hsy.2.2.2.2.2.2.1
    obtain ⟨p4, p256, m, hm⟩ := two_pow8 hn2 hn8
    have e1 : (1 : Int32) <<< (σ.1 2 s.toNatClampNeg 8 0 &&& 31) - 1 = nI (2 ^ n - 1) := by
      rw [z1, one_shl hn8]
      exact pk_sub (a := 2 ^ n) (b := 1) (by omega)
    have e2 : (1 : Int32) <<< (σ.1 10 0 0 s.toNatClampNeg &&& 31) - 2 = nI (2 ^ n - 2) := by
      rw [z2, one_shl hn8]
      exact pk_sub (a := 2 ^ n) (b := 2) (by omega)
    have b2 := c105 58 (σ := σ) (v := x) (a := 1) (b := nI (2 ^ n - 2)) (A := 1) rfl rfl
    rw [← e2] at b2
    have t1 : (nI (2 ^ n - 1)).toInt = ((2 ^ n - 1 : Nat) : Int) := nI_toInt (by omega)
    have t2 : (nI (2 ^ n - 2)).toInt = ((2 ^ n - 2 : Nat) : Int) := nI_toInt (by omega)
    have l0 : (0 : Int32).toInt = 0 := rfl
    have l1 : (1 : Int32).toInt = 1 := rfl
    by_cases x0 : x ≤ 0
    · have : x < 1 := by rw [fa_le] at x0; rw [fa_lt]; omega
      rw [show sIn x 1 ((1 : Int32) <<< (σ.1 10 0 0 s.toNatClampNeg &&& 31) - 2) = false by simp [sIn, this]] at b2
      exact ⟨_, _, _, (m63 59).trans (g63_0_1 _ a1 (by decide) vs x0), (m131 59).trans (g131_0_1 _ b1 (by decide) vs b2 rfl), h⟩
    have x1 : ¬ x < 1 := by rw [fa_le] at x0; rw [fa_lt]; omega
    by_cases x2 : x < nI (2 ^ n - 1)
    · have x3 : ¬ nI (2 ^ n - 2) < x := by rw [fa_lt] at x2 ⊢; omega
      rw [show sIn x 1 ((1 : Int32) <<< (σ.1 10 0 0 s.toNatClampNeg &&& 31) - 2) = true by rw [e2]; simp [sIn, x1, x3]] at b2
      have r1 := c15 58 (σ := σ) (s := s.toNatClampNeg) (x := x) hn8 z1
      have r2 := c130 58 (σ := σ) (s := s.toNatClampNeg) (x := x) (by omega) hsy
      rw [← es] at r2
      exact ⟨_, _, _, (m63 59).trans (g63_0_2 _ a1 (by decide) vs x0 (by rw [e1]; exact x2) r1), (m131 59).trans (g131_0_2 _ b1 (by decide) vs b2 (by decide) r2), h⟩
    · have x3 : nI (2 ^ n - 2) < x := by rw [fa_lt] at x2 ⊢; omega
      rw [show sIn x 1 ((1 : Int32) <<< (σ.1 10 0 0 s.toNatClampNeg &&& 31) - 2) = false by rw [e2]; simp [sIn, x3]] at b2
      exact ⟨_, _, _, (m63 59).trans (g63_0_3 _ a1 (by decide) vs x0 (by rw [e1]; exact x2)), (m131 59).trans (g131_0_1 _ b1 (by decide) vs b2 rfl), h⟩
theorem T_halves {σ : pmS} (h : Inv σ) (s x : Int32) : Tok 64 132 [vI s, vI x] σ := by
  obtain ⟨NS, NC, NP, hh⟩ := id h
  have hh : iAll σ.1 NS NC NP := hh
  obtain ⟨hT, hS, hC, hP, hW, hM, hO⟩ := id hh
  have hNS := hS.1
  have a1 := c86 58 (σ := σ) (x1 := s)
  have b1 := c106 58 (σ := σ) (x1 := s)
  rw [hS.2.1] at a1
  rw [hS.2.2.1] at b1
  cases q1 : sHas (nI NS) s with
  | false =>
    rw [q1] at a1 b1
    exact ⟨_, _, _, (m64 59).trans (g64_0_0 _ a1 rfl), (m132 59).trans (g132_0_0 _ b1 rfl), h⟩
  | true =>
    rw [q1] at a1 b1
    obtain ⟨es, hs⟩ := in_nI (sHas_in (by omega) q1) (by omega)
    have vs : vp_in s 4 := in_le (sHas_in (by omega) q1) hNS (by omega)
    obtain ⟨n, w, ch, hsy⟩ := hS.2.2.2.1 _ hs
    have hn2 := hsy.1
    have hn8 := hsy.2.1
    have z1 := hsy.2.2.2.2.2.1
    have z2 := hsy.2.2.2.2.2.2.1
    obtain ⟨p4, p256, m, hm⟩ := two_pow8 hn2 hn8
    have e1 : (1 : Int32) <<< (σ.1 2 s.toNatClampNeg 8 0 &&& 31) - 1 = nI (1 + 2 * (m - 1)) := by
      rw [z1, one_shl hn8, hm]
      exact (pk_sub (a := 2 * m) (b := 1) (by omega)).trans (congrArg nI (by omega))
    have e2 : (1 : Int32) <<< (σ.1 10 0 0 s.toNatClampNeg &&& 31) - 1 = nI (1 + 2 * (m - 1)) := by
      rw [z2, one_shl hn8, hm]
      exact (pk_sub (a := 2 * m) (b := 1) (by omega)).trans (congrArg nI (by omega))
    have b2 := c105 58 (σ := σ) (v := x) (a := 0) (b := 7) (A := 0) (B := 7) rfl rfl
    by_cases x0 : x < 0
    · rw [show sIn x 0 7 = false by simp [sIn, x0]] at b2
      exact ⟨_, _, _, (m64 59).trans (g64_0_1 _ a1 (by decide) x0), (m132 59).trans (g132_0_1 _ b1 (by decide) b2 rfl), h⟩
    by_cases x7 : x ≤ 7
    · rw [show sIn x 0 7 = true by simp [sIn, x0, i_nlt.mpr x7]] at b2
      refine ⟨nI (fa_cnt (fun k => decide (sHalf σ.1 s.toNatClampNeg n (nI (1 + 2 * k)) &&& x = x)) (m - 1)), σ, σ, ?_, ?_, h⟩
      · refine (m64 59).trans ((g64_0_2 _ a1 (by decide) x0 x7 vs).trans ?_)
        rw [e1]
        refine (lp_cnt (C := pq_RD 59) (fr := fun a k => (64, 46, [some (vR 9 0 0), some (vI s), some (vI x), some (vR 2 s.toNatClampNeg 0), some (vI (nI (1 + 2 * (m - 1)))), some (vI a), some (vI (nI (1 + 2 * k)))], [], σ)) (p := fun k => decide (sHalf σ.1 s.toNatClampNeg n (nI (1 + 2 * k)) &&& x = x)) (n := m - 1) (fun k a hk => ?_)).trans ?_
        · have r1 := c15 58 (σ := σ) (s := s.toNatClampNeg) (x := nI (1 + 2 * k)) hn8 z1
          have hg : ¬ nI (1 + 2 * (m - 1)) ≤ nI (1 + 2 * k) := nI_ge (by omega) (by omega)
          have en : nI (1 + 2 * (k + 1)) = nI (1 + 2 * k) + 2 := (nI_add (1 + 2 * k) 2).symm
          rw [en]
          by_cases e : sHalf σ.1 s.toNatClampNeg n (nI (1 + 2 * k)) &&& x = x
          · rw [if_pos (by simp [e])]
            exact g64_46_1 _ hg r1 e
          · rw [if_neg (by simp [e])]
            exact g64_46_2 _ hg r1 e
        · exact g64_46_0 _ (by rw [fa_le]; omega)
      · refine (m132 59).trans ((g132_0_2 _ b1 (by decide) b2 (by decide)).trans ?_)
        refine (lp_cnt (C := pq_RD 59) (fr := fun a k => (132, 30, [some (vR 10 0 0), some (vI s), some (vI x), some (vI a), some (vI (nI (1 + 2 * k)))], [], σ)) (p := fun k => decide (sHalf σ.1 s.toNatClampNeg n (nI (1 + 2 * k)) &&& x = x)) (n := m - 1) (fun k a hk => ?_)).trans ?_
        · have r1 := c130 58 (σ := σ) (s := s.toNatClampNeg) (x := nI (1 + 2 * k)) (by omega) hsy
          rw [← es] at r1
          have hg : ¬ (1 : Int32) <<< (σ.1 10 0 0 s.toNatClampNeg &&& 31) - 1 ≤ nI (1 + 2 * k) := by rw [e2]; exact nI_ge (by omega) (by omega)
          have en : nI (1 + 2 * (k + 1)) = nI (1 + 2 * k) + 2 := (nI_add (1 + 2 * k) 2).symm
          rw [en]
          by_cases e : sHalf σ.1 s.toNatClampNeg n (nI (1 + 2 * k)) &&& x = x
          · rw [if_pos (by simp [e])]
            exact g132_30_1 _ vs hg r1 e
          · rw [if_neg (by simp [e])]
            refine (g132_30_2 _ vs hg r1 e).trans ?_
            rw [Int32.add_zero]
        · exact g132_30_0 _ vs (by rw [e2, fa_le]; omega)
    · rw [show sIn x 0 7 = false by simp [sIn, i_nle.mp x7]] at b2
      exact ⟨_, _, _, (m64 59).trans (g64_0_3 _ a1 (by decide) x0 x7), (m132 59).trans (g132_0_1 _ b1 (by decide) b2 rfl), h⟩
