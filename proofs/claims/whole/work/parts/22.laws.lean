/-! the law of a year -/
theorem sLaw_lt (yr : Nat → Int32) (y : Int32) : ∀ k, sLaw yr y (k + 1) < k + 1
  | 0 => by
    rw [sLaw]
    split <;> simp [sLaw]
  | k + 1 => by
    have ih := sLaw_lt yr y k
    rw [sLaw]
    split
    · omega
    · omega
theorem sLaw_cong {f g : Nat → Int32} (y : Int32) : ∀ k, (∀ i, i < k → f i = g i) → sLaw f y k = sLaw g y k
  | 0, _ => rfl
  | k + 1, h => by
    have ih := sLaw_cong y k (fun i hi => h i (by omega))
    rw [sLaw, sLaw, ih, h k (by omega)]
    cases k with
    | zero => simp [sLaw]
    | succ k =>
      have := sLaw_lt g y k
      rw [h _ (by omega)]
theorem sLaw_1 (yr : Nat → Int32) (y : Int32) : sLaw yr y 1 = 0 := by
  have h : sLaw yr y (0 + 1) < 0 + 1 := sLaw_lt yr y 0
  have e : sLaw yr y (0 + 1) = sLaw yr y 1 := rfl
  omega
theorem c2 (d : Nat) {σ : pmS} {o nl : Nat} {y : Int32} (h1 : 1 ≤ nl) (h5 : nl ≤ 5) (h : σ.1 0 o 3 0 = nI nl) : pq_RD (d + 1) 2 [vR 0 o 0, vI y] σ = some (some (vI (nI (sLaw (σ.1 0 o 0) y nl))), σ) := by
  refine (m2 d).trans ((g2_0_0 _).trans ?_)
  have step := lp_from (C := pq_RD d) (fr := fun k => (2, 4, [some (vR 0 o 0), some (vI y), some (vI (nI (sLaw (σ.1 0 o 0) y k))), some (vI (nI k))], [], σ)) (a := 1) (n := nl) h1 (fun k hk1 hk2 => by
    have hv : vp_in (nI k) 5 := vp_in_nI (by omega) (by omega)
    have hg : ¬ σ.1 0 o 3 0 ≤ nI k := by rw [h]; exact nI_ge hk2 (by omega)
    have hlt : sLaw (σ.1 0 o 0) y k < k := by
      obtain ⟨j, rfl⟩ : ∃ j, k = j + 1 := ⟨k - 1, by omega⟩
      exact sLaw_lt _ _ j
    have hv2 : vp_in (nI (sLaw (σ.1 0 o 0) y k)) 5 := vp_in_nI (by omega) (by omega)
    have ek : (nI k).toNatClampNeg = k := nI_clamp (by omega)
    have el : (nI (sLaw (σ.1 0 o 0) y k)).toNatClampNeg = sLaw (σ.1 0 o 0) y k := nI_clamp (by omega)
    rw [← nI_1]
    by_cases a : y < σ.1 0 o 0 k
    · rw [g2_4_1 _ hg hv (by rw [ek]; exact a), sLaw, if_neg (fun z => z.1 a)]
    · by_cases b : σ.1 0 o 0 k ≤ σ.1 0 o 0 (sLaw (σ.1 0 o 0) y k)
      · rw [g2_4_2 _ hg hv (by rw [ek]; exact a) hv2 (by rw [ek, el]; exact b), sLaw, if_neg (fun z => z.2 b)]
      · rw [g2_4_3 _ hg hv (by rw [ek]; exact a) hv2 (by rw [ek, el]; exact b), sLaw, if_pos ⟨a, b⟩])
  rw [sLaw_1] at step
  refine Eq.trans step ?_
  exact g2_4_0 _ (by rw [h, fa_le]; omega)
theorem c137 (d : Nat) {σ : pmS} {c nl : Nat} {y : Int32} (hc : c < 3) (h1 : 1 ≤ nl) (h5 : nl ≤ 5) (h : σ.1 10 0 11 c = nI nl) : pq_RD (d + 1) 137 [vR 10 0 0, vI (nI c), vI y] σ = some (some (vI (nI (5 * c + sLaw (fun i => σ.1 10 0 12 (5 * c + i)) y nl))), σ) := by
  have ec : (nI c).toNatClampNeg = c := nI_clamp (by omega)
  have e5 : (5 : Int32) * nI c = nI (5 * c) := by
    show nI 5 * nI c = _
    rw [pk_mul]
  have hvc : vp_in (nI c) 3 := vp_in_nI hc (by omega)
  refine (m137 d).trans ((g137_0_0 _).trans ?_)
  rw [e5]
  have step := lp_n (C := pq_RD d) (fr := fun k => (137, 9, [some (vR 10 0 0), some (vI (nI c)), some (vI y), some (vI (nI (5 * c + sLaw (fun i => σ.1 10 0 12 (5 * c + i)) y k))), some (vI (nI (5 * c + k)))], [], σ)) (n := nl) (fun k hk => by
    have hv : vp_in (nI (5 * c + k)) 15 := vp_in_nI (by omega) (by omega)
    have hg : ¬ (5 : Int32) * nI c + σ.1 10 0 11 (nI c).toNatClampNeg ≤ nI (5 * c + k) := by
      rw [e5, ec, h, nI_add]
      exact nI_ge (by omega) (by omega)
    have hle : sLaw (fun i => σ.1 10 0 12 (5 * c + i)) y k ≤ k := by
      cases k with
      | zero => simp [sLaw]
      | succ j =>
        have := sLaw_lt (fun i => σ.1 10 0 12 (5 * c + i)) y j
        omega
    have hv2 : vp_in (nI (5 * c + sLaw (fun i => σ.1 10 0 12 (5 * c + i)) y k)) 15 := vp_in_nI (by omega) (by omega)
    have ek : (nI (5 * c + k)).toNatClampNeg = 5 * c + k := nI_clamp (by omega)
    have el : (nI (5 * c + sLaw (fun i => σ.1 10 0 12 (5 * c + i)) y k)).toNatClampNeg = 5 * c + sLaw (fun i => σ.1 10 0 12 (5 * c + i)) y k := nI_clamp (by omega)
    have en : nI (5 * c + k) + 1 = nI (5 * c + (k + 1)) := nI_1 (5 * c + k)
    by_cases a : y < σ.1 10 0 12 (5 * c + k)
    · rw [g137_9_1 _ hvc hg hv (by rw [ek]; exact a), en, sLaw, if_neg (fun z => z.1 a)]
    · by_cases b : σ.1 10 0 12 (5 * c + k) ≤ σ.1 10 0 12 (5 * c + sLaw (fun i => σ.1 10 0 12 (5 * c + i)) y k)
      · rw [g137_9_2 _ hvc hg hv (by rw [ek]; exact a) hv2 (by rw [ek, el]; exact b), en, sLaw, if_neg (fun z => z.2 b)]
      · rw [g137_9_3 _ hvc hg hv (by rw [ek]; exact a) hv2 (by rw [ek, el]; exact b), en, sLaw, if_pos ⟨a, b⟩])
  refine Eq.trans step ?_
  exact g137_9_0 _ hvc (by rw [e5, ec, h, nI_add, fa_le]; omega)
