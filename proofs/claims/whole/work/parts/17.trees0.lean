/-! tree rules, by program -/
theorem t0_0 (C : pmC) {σ : pmS} {o0 : Nat} {x1 : Int32} {x2 : Int32} {x3 : Int32} {l4 : Option pmV} {r101 : Int32} {σ101 : pmS} (u1 : C 1 [vR 0 o0 0, vI x1] σ = some (some (vI r101), σ101)) (u2 : (r101 = (-1 : Int32)) → ((σ101.1 0 o0 3 0) < (5 : Int32)) → vp_in (σ101.1 0 o0 3 0) 5) (u3 : (¬ r101 = (-1 : Int32)) → vp_in r101 5) : pq_Rn C (0, 0, [some (vR 0 o0 0), some (vI x1), some (vI x2), some (vI x3), l4], [], σ) = (if r101 = (-1 : Int32) then (if (σ101.1 0 o0 3 0) < (5 : Int32) then some (some (vI (1 : Int32)), (pm_wi (pm_wi (pm_wi (pm_wi σ101 0 o0 3 0 ((σ101.1 0 o0 3 0) + (1 : Int32))) 0 o0 0 ((σ101.1 0 o0 3 0)).toNatClampNeg x1) 0 o0 1 ((σ101.1 0 o0 3 0)).toNatClampNeg x2) 0 o0 2 ((σ101.1 0 o0 3 0)).toNatClampNeg x3)) else some (some (vI (0 : Int32)), σ101)) else some (some (vI (1 : Int32)), (pm_wi (pm_wi (pm_wi σ101 0 o0 0 (r101).toNatClampNeg x1) 0 o0 1 (r101).toNatClampNeg x2) 0 o0 2 (r101).toNatClampNeg x3))) := by
  by_cases c1 : r101 = (-1 : Int32)
  · refine Eq.trans ?_ (if_pos c1).symm
    by_cases c2 : (σ101.1 0 o0 3 0) < (5 : Int32)
    · refine Eq.trans ?_ (if_pos c2).symm
      exact g0_0_0 C u1 c1 c2 (u2 c1 c2)
    · refine Eq.trans ?_ (if_neg c2).symm
      exact g0_0_1 C u1 c1 c2
  · refine Eq.trans ?_ (if_neg c1).symm
    exact g0_0_2 C u1 c1 (u3 c1)
theorem t1_0 (C : pmC) {σ : pmS} {o0 : Nat} {x1 : Int32} {l2 : Option pmV}  : pq_Rn C (1, 0, [some (vR 0 o0 0), some (vI x1), l2], [], σ) = pq_Rn C (1, 2, [some (vR 0 o0 0), some (vI x1), some (vI (0 : Int32))], [], σ) := by
  exact g1_0_0 C 
theorem t1_2 (C : pmC) {σ : pmS} {o0 : Nat} {x1 : Int32} {x2 : Int32} (u1 : (¬ (σ.1 0 o0 3 0) ≤ x2) → vp_in x2 5) : pq_Rn C (1, 2, [some (vR 0 o0 0), some (vI x1), some (vI x2)], [], σ) = (if (σ.1 0 o0 3 0) ≤ x2 then some (some (vI (-1 : Int32)), σ) else (if (σ.1 0 o0 0 (x2).toNatClampNeg) = x1 then some (some (vI x2), σ) else pq_Rn C (1, 2, [some (vR 0 o0 0), some (vI x1), some (vI (x2 + (1 : Int32)))], [], σ))) := by
  by_cases c1 : (σ.1 0 o0 3 0) ≤ x2
  · refine Eq.trans ?_ (if_pos c1).symm
    exact g1_2_0 C c1
  · refine Eq.trans ?_ (if_neg c1).symm
    by_cases c2 : (σ.1 0 o0 0 (x2).toNatClampNeg) = x1
    · refine Eq.trans ?_ (if_pos c2).symm
      exact g1_2_1 C c1 (u1 c1) c2
    · refine Eq.trans ?_ (if_neg c2).symm
      exact g1_2_2 C c1 (u1 c1) c2
theorem t2_0 (C : pmC) {σ : pmS} {o0 : Nat} {x1 : Int32} {l2 : Option pmV} {l3 : Option pmV}  : pq_Rn C (2, 0, [some (vR 0 o0 0), some (vI x1), l2, l3], [], σ) = pq_Rn C (2, 4, [some (vR 0 o0 0), some (vI x1), some (vI (0 : Int32)), some (vI (1 : Int32))], [], σ) := by
  exact g2_0_0 C 
theorem t2_4 (C : pmC) {σ : pmS} {o0 : Nat} {x1 : Int32} {x2 : Int32} {x3 : Int32} (u1 : (¬ (σ.1 0 o0 3 0) ≤ x3) → vp_in x3 5) (u2 : (¬ (σ.1 0 o0 3 0) ≤ x3) → (¬ x1 < (σ.1 0 o0 0 (x3).toNatClampNeg)) → vp_in x2 5) : pq_Rn C (2, 4, [some (vR 0 o0 0), some (vI x1), some (vI x2), some (vI x3)], [], σ) = (if (σ.1 0 o0 3 0) ≤ x3 then some (some (vI x2), σ) else (if x1 < (σ.1 0 o0 0 (x3).toNatClampNeg) then pq_Rn C (2, 4, [some (vR 0 o0 0), some (vI x1), some (vI x2), some (vI (x3 + (1 : Int32)))], [], σ) else (if (σ.1 0 o0 0 (x3).toNatClampNeg) ≤ (σ.1 0 o0 0 (x2).toNatClampNeg) then pq_Rn C (2, 4, [some (vR 0 o0 0), some (vI x1), some (vI x2), some (vI (x3 + (1 : Int32)))], [], σ) else pq_Rn C (2, 4, [some (vR 0 o0 0), some (vI x1), some (vI x3), some (vI (x3 + (1 : Int32)))], [], σ)))) := by
  by_cases c1 : (σ.1 0 o0 3 0) ≤ x3
  · refine Eq.trans ?_ (if_pos c1).symm
    exact g2_4_0 C c1
  · refine Eq.trans ?_ (if_neg c1).symm
    by_cases c2 : x1 < (σ.1 0 o0 0 (x3).toNatClampNeg)
    · refine Eq.trans ?_ (if_pos c2).symm
      exact g2_4_1 C c1 (u1 c1) c2
    · refine Eq.trans ?_ (if_neg c2).symm
      by_cases c3 : (σ.1 0 o0 0 (x3).toNatClampNeg) ≤ (σ.1 0 o0 0 (x2).toNatClampNeg)
      · refine Eq.trans ?_ (if_pos c3).symm
        exact g2_4_2 C c1 (u1 c1) c2 (u2 c1 c2) c3
      · refine Eq.trans ?_ (if_neg c3).symm
        exact g2_4_3 C c1 (u1 c1) c2 (u2 c1 c2) c3
theorem t3_0 (C : pmC) {σ : pmS} {x1 : Int32} {l2 : Option pmV}  : pq_Rn C (3, 0, [some (vR 1 0 0), some (vI x1), l2], [], σ) = pq_Rn C (3, 2, [some (vR 1 0 0), some (vI x1), some (vI (0 : Int32))], [], σ) := by
  exact g3_0_0 C 
theorem t3_2 (C : pmC) {σ : pmS} {x1 : Int32} {x2 : Int32} (u1 : (¬ x1 ≤ x2) → vp_in x2 48) : pq_Rn C (3, 2, [some (vR 1 0 0), some (vI x1), some (vI x2)], [], σ) = (if x1 ≤ x2 then some (none, σ) else pq_Rn C (3, 2, [some (vR 1 0 0), some (vI x1), some (vI (x2 + (1 : Int32)))], [], (pm_wi σ 1 0 1 (x2).toNatClampNeg (0 : Int32)))) := by
  by_cases c1 : x1 ≤ x2
  · refine Eq.trans ?_ (if_pos c1).symm
    exact g3_2_0 C c1
  · refine Eq.trans ?_ (if_neg c1).symm
    exact g3_2_1 C c1 (u1 c1)
theorem t4_0 (C : pmC) {σ : pmS} {x1 : Int32} {x2 : Int32} {x3 : Int32} (u1 : vp_in x1 48) : pq_Rn C (4, 0, [some (vR 1 0 0), some (vI x1), some (vI x2), some (vI x3)], [], σ) = (if x3 = 0 then (if x3 = 0 then some (none, (pm_wi (pm_wi (pm_wi σ 1 0 2 (x1).toNatClampNeg x1) 1 0 0 (x1).toNatClampNeg (-1 : Int32)) 1 0 3 (x1).toNatClampNeg (1 : Int32))) else some (none, (pm_wi (pm_wi (pm_wi σ 1 0 2 (x1).toNatClampNeg x1) 1 0 0 (x1).toNatClampNeg (-1 : Int32)) 1 0 3 (x1).toNatClampNeg (0 : Int32)))) else (if x3 = 0 then some (none, (pm_wi (pm_wi (pm_wi σ 1 0 2 (x1).toNatClampNeg x1) 1 0 0 (x1).toNatClampNeg x2) 1 0 3 (x1).toNatClampNeg (1 : Int32))) else some (none, (pm_wi (pm_wi (pm_wi σ 1 0 2 (x1).toNatClampNeg x1) 1 0 0 (x1).toNatClampNeg x2) 1 0 3 (x1).toNatClampNeg (0 : Int32))))) := by
  by_cases c1 : x3 = 0
  · refine Eq.trans ?_ (if_pos c1).symm
    by_cases c2 : x3 = 0
    · refine Eq.trans ?_ (if_pos c2).symm
      exact g4_0_0 C u1 c1 c2
    · refine Eq.trans ?_ (if_neg c2).symm
      exact g4_0_1 C u1 c1 c2
  · refine Eq.trans ?_ (if_neg c1).symm
    by_cases c3 : x3 = 0
    · refine Eq.trans ?_ (if_pos c3).symm
      exact g4_0_2 C u1 c1 c3
    · refine Eq.trans ?_ (if_neg c3).symm
      exact g4_0_3 C u1 c1 c3
theorem t5_0 (C : pmC) {σ : pmS} {x1 : Int32} {x2 : Int32} {x3 : Int32} (u1 : vp_in x2 48) (u2 : vp_in x1 48) (u3 : (x3 = (-1 : Int32)) → vp_in ((pm_wi σ 1 0 2 (x1).toNatClampNeg (σ.1 1 0 2 (x2).toNatClampNeg)).1 1 0 2 (x1).toNatClampNeg) 48) : pq_Rn C (5, 0, [some (vR 1 0 0), some (vI x1), some (vI x2), some (vI x3)], [], σ) = (if x3 = (-1 : Int32) then some (none, (pm_wi (pm_wi (pm_wi σ 1 0 2 (x1).toNatClampNeg (σ.1 1 0 2 (x2).toNatClampNeg)) 1 0 0 (x1).toNatClampNeg x3) 1 0 3 (((pm_wi σ 1 0 2 (x1).toNatClampNeg (σ.1 1 0 2 (x2).toNatClampNeg)).1 1 0 2 (x1).toNatClampNeg)).toNatClampNeg (1 : Int32))) else some (none, (pm_wi (pm_wi σ 1 0 2 (x1).toNatClampNeg (σ.1 1 0 2 (x2).toNatClampNeg)) 1 0 0 (x1).toNatClampNeg x3))) := by
  by_cases c1 : x3 = (-1 : Int32)
  · refine Eq.trans ?_ (if_pos c1).symm
    exact g5_0_0 C u1 u2 c1 (u3 c1)
  · refine Eq.trans ?_ (if_neg c1).symm
    exact g5_0_1 C u1 u2 c1
theorem t6_0 (C : pmC) {σ : pmS} {x1 : Int32} {l2 : Option pmV}  : pq_Rn C (6, 0, [some (vR 1 0 0), some (vI x1), l2], [], σ) = pq_Rn C (6, 2, [some (vR 1 0 0), some (vI x1), some (vI (0 : Int32))], [], σ) := by
  exact g6_0_0 C 
theorem t6_2 (C : pmC) {σ : pmS} {x1 : Int32} {x2 : Int32} (u1 : (¬ x1 ≤ x2) → vp_in x2 48) (u2 : (¬ x1 ≤ x2) → vp_in (σ.1 1 0 2 (x2).toNatClampNeg) 48) : pq_Rn C (6, 2, [some (vR 1 0 0), some (vI x1), some (vI x2)], [], σ) = (if x1 ≤ x2 then some (none, σ) else (if (σ.1 1 0 3 ((σ.1 1 0 2 (x2).toNatClampNeg)).toNatClampNeg) = 0 then pq_Rn C (6, 2, [some (vR 1 0 0), some (vI x1), some (vI (x2 + (1 : Int32)))], [], (pm_wi σ 1 0 1 (x2).toNatClampNeg ((σ.1 1 0 1 (x2).toNatClampNeg) ||| ((1 : Int32) <<< ((σ.1 1 0 0 (x2).toNatClampNeg) &&& 31))))) else pq_Rn C (6, 2, [some (vR 1 0 0), some (vI x1), some (vI (x2 + (1 : Int32)))], [], σ))) := by
  by_cases c1 : x1 ≤ x2
  · refine Eq.trans ?_ (if_pos c1).symm
    exact g6_2_0 C c1
  · refine Eq.trans ?_ (if_neg c1).symm
    by_cases c2 : (σ.1 1 0 3 ((σ.1 1 0 2 (x2).toNatClampNeg)).toNatClampNeg) = 0
    · refine Eq.trans ?_ (if_pos c2).symm
      exact g6_2_1 C c1 (u1 c1) (u2 c1) c2
    · refine Eq.trans ?_ (if_neg c2).symm
      exact g6_2_2 C c1 (u1 c1) (u2 c1) c2
theorem t7_0 (C : pmC) {σ : pmS} {x1 : Int32} {l2 : Option pmV}  : pq_Rn C (7, 0, [some (vR 1 0 0), some (vI x1), l2], [], σ) = pq_Rn C (7, 2, [some (vR 1 0 0), some (vI x1), some (vI (0 : Int32))], [], σ) := by
  exact g7_0_0 C 
theorem t7_2 (C : pmC) {σ : pmS} {x1 : Int32} {x2 : Int32} (u1 : (¬ x1 ≤ x2) → vp_in x2 48) : pq_Rn C (7, 2, [some (vR 1 0 0), some (vI x1), some (vI x2)], [], σ) = (if x1 ≤ x2 then some (some (vI (1 : Int32)), σ) else (if (σ.1 1 0 1 (x2).toNatClampNeg) = 0 then some (some (vI (0 : Int32)), σ) else pq_Rn C (7, 2, [some (vR 1 0 0), some (vI x1), some (vI (x2 + (1 : Int32)))], [], σ))) := by
  by_cases c1 : x1 ≤ x2
  · refine Eq.trans ?_ (if_pos c1).symm
    exact g7_2_0 C c1
  · refine Eq.trans ?_ (if_neg c1).symm
    by_cases c2 : (σ.1 1 0 1 (x2).toNatClampNeg) = 0
    · refine Eq.trans ?_ (if_pos c2).symm
      exact g7_2_1 C c1 (u1 c1) c2
    · refine Eq.trans ?_ (if_neg c2).symm
      exact g7_2_2 C c1 (u1 c1) c2
theorem t8_0 (C : pmC) {σ : pmS} {o0 : Nat} {x1 : Int32} {x2 : Int32} {x3 : Int32} (u1 : vp_in x1 8) (u2 : vp_in x2 8) (u3 : vp_in x3 8) : pq_Rn C (8, 0, [some (vR 2 o0 0), some (vI x1), some (vI x2), some (vI x3)], [], σ) = some (none, (pm_wi (pm_wi (pm_wi (pm_wi (pm_wi (pm_wi (pm_wi σ 2 o0 0 (x1).toNatClampNeg x2) 2 o0 1 (x2).toNatClampNeg x1) 2 o0 2 (x2).toNatClampNeg x3) 2 o0 3 (x1).toNatClampNeg x3) 2 o0 4 (x3).toNatClampNeg x2) 2 o0 5 (x3).toNatClampNeg x1) 2 o0 8 0 (((pm_wi (pm_wi (pm_wi (pm_wi (pm_wi (pm_wi σ 2 o0 0 (x1).toNatClampNeg x2) 2 o0 1 (x2).toNatClampNeg x1) 2 o0 2 (x2).toNatClampNeg x3) 2 o0 3 (x1).toNatClampNeg x3) 2 o0 4 (x3).toNatClampNeg x2) 2 o0 5 (x3).toNatClampNeg x1).1 2 o0 8 0) + (1 : Int32)))) := by
  exact g8_0_0 C u1 u2 u3
theorem t9_0 (C : pmC) {σ : pmS} {o0 : Nat} {x1 : Int32}  : pq_Rn C (9, 0, [some (vR 2 o0 0), some (vI x1)], [], σ) = (if x1 < 0 then some (some (vI (0 : Int32)), σ) else (if (σ.1 2 o0 8 0) ≤ x1 then some (some (vI (0 : Int32)), σ) else some (some (vI (1 : Int32)), σ))) := by
  by_cases c1 : x1 < 0
  · refine Eq.trans ?_ (if_pos c1).symm
    exact g9_0_0 C c1
  · refine Eq.trans ?_ (if_neg c1).symm
    by_cases c2 : (σ.1 2 o0 8 0) ≤ x1
    · refine Eq.trans ?_ (if_pos c2).symm
      exact g9_0_1 C c1 c2
    · refine Eq.trans ?_ (if_neg c2).symm
      exact g9_0_2 C c1 c2
theorem t10_0 (C : pmC) {σ : pmS} {o0 : Nat} {x1 : Int32} {x2 : Int32} {r101 : Int32} {σ101 : pmS} (u1 : C 9 [vR 2 o0 0, vI x1] σ = some (some (vI r101), σ101)) (u2 : (¬ r101 = 0) → (x2 = (1 : Int32)) → vp_in x1 8) (u3 : (¬ r101 = 0) → (¬ x2 = (1 : Int32)) → vp_in x1 8) : pq_Rn C (10, 0, [some (vR 2 o0 0), some (vI x1), some (vI x2)], [], σ) = (if r101 = 0 then some (some (vI (-1 : Int32)), σ101) else (if x2 = (1 : Int32) then some (some (vI (σ101.1 2 o0 2 (x1).toNatClampNeg)), σ101) else some (some (vI (σ101.1 2 o0 3 (x1).toNatClampNeg)), σ101))) := by
  by_cases c1 : r101 = 0
  · refine Eq.trans ?_ (if_pos c1).symm
    exact g10_0_0 C u1 c1
  · refine Eq.trans ?_ (if_neg c1).symm
    by_cases c2 : x2 = (1 : Int32)
    · refine Eq.trans ?_ (if_pos c2).symm
      exact g10_0_1 C u1 c1 c2 (u2 c1 c2)
    · refine Eq.trans ?_ (if_neg c2).symm
      exact g10_0_2 C u1 c1 c2 (u3 c1 c2)
theorem t11_0 (C : pmC) {σ : pmS} {o0 : Nat} {x1 : Int32} {x2 : Int32} {l3 : Option pmV} {l4 : Option pmV} {r101 : Int32} {σ101 : pmS} {r102 : Int32} {σ102 : pmS} (u1 : (x2 = (1 : Int32)) → vp_in (x1 >>> ((1 : Int32) &&& 31)) 8) (u2 : (¬ x2 = (1 : Int32)) → (x2 = (2 : Int32)) → vp_in (x1 >>> ((1 : Int32) &&& 31)) 8) (u3 : (¬ x2 = (1 : Int32)) → (¬ x2 = (2 : Int32)) → (x2 = (3 : Int32)) → ((x1 &&& (1 : Int32)) = 0) → vp_in (x1 >>> ((1 : Int32) &&& 31)) 8) (u4 : (¬ x2 = (1 : Int32)) → (¬ x2 = (2 : Int32)) → (x2 = (3 : Int32)) → (¬ (x1 &&& (1 : Int32)) = 0) → vp_in (x1 >>> ((1 : Int32) &&& 31)) 8) (u5 : (¬ x2 = (1 : Int32)) → (¬ x2 = (2 : Int32)) → (¬ x2 = (3 : Int32)) → (x2 = (4 : Int32)) → C 10 [vR 2 o0 0, vI (x1 >>> ((1 : Int32) &&& 31)), vI (x1 &&& (1 : Int32))] σ = some (some (vI r101), σ101)) (u6 : (¬ x2 = (1 : Int32)) → (¬ x2 = (2 : Int32)) → (¬ x2 = (3 : Int32)) → (¬ x2 = (4 : Int32)) → C 10 [vR 2 o0 0, vI (x1 >>> ((1 : Int32) &&& 31)), vI (x1 &&& (1 : Int32))] σ = some (some (vI r102), σ102)) : pq_Rn C (11, 0, [some (vR 2 o0 0), some (vI x1), some (vI x2), l3, l4], [], σ) = (if x2 = (1 : Int32) then some (some (vI (((2 : Int32) * (σ.1 2 o0 5 ((x1 >>> ((1 : Int32) &&& 31))).toNatClampNeg)) + (0 : Int32))), σ) else (if x2 = (2 : Int32) then some (some (vI (((2 : Int32) * (σ.1 2 o0 4 ((x1 >>> ((1 : Int32) &&& 31))).toNatClampNeg)) + (1 : Int32))), σ) else (if x2 = (3 : Int32) then (if (x1 &&& (1 : Int32)) = 0 then some (some (vI (((2 : Int32) * (σ.1 2 o0 0 ((x1 >>> ((1 : Int32) &&& 31))).toNatClampNeg)) + (1 : Int32))), σ) else some (some (vI (((2 : Int32) * (σ.1 2 o0 1 ((x1 >>> ((1 : Int32) &&& 31))).toNatClampNeg)) + (0 : Int32))), σ)) else (if x2 = (4 : Int32) then some (some (vI (((2 : Int32) * r101) + (0 : Int32))), σ101) else some (some (vI (((2 : Int32) * r102) + (1 : Int32))), σ102))))) := by
  by_cases c1 : x2 = (1 : Int32)
  · refine Eq.trans ?_ (if_pos c1).symm
    exact g11_0_0 C c1 (u1 c1)
  · refine Eq.trans ?_ (if_neg c1).symm
    by_cases c2 : x2 = (2 : Int32)
    · refine Eq.trans ?_ (if_pos c2).symm
      exact g11_0_1 C c2 (u2 c1 c2)
    · refine Eq.trans ?_ (if_neg c2).symm
      by_cases c3 : x2 = (3 : Int32)
      · refine Eq.trans ?_ (if_pos c3).symm
        by_cases c4 : (x1 &&& (1 : Int32)) = 0
        · refine Eq.trans ?_ (if_pos c4).symm
          exact g11_0_2 C c3 c4 (u3 c1 c2 c3 c4)
        · refine Eq.trans ?_ (if_neg c4).symm
          exact g11_0_3 C c3 c4 (u4 c1 c2 c3 c4)
      · refine Eq.trans ?_ (if_neg c3).symm
        by_cases c5 : x2 = (4 : Int32)
        · refine Eq.trans ?_ (if_pos c5).symm
          exact g11_0_4 C c5 (u5 c1 c2 c3 c5)
        · refine Eq.trans ?_ (if_neg c5).symm
          exact g11_0_5 C c1 c2 c3 c5 (u6 c1 c2 c3 c5)
theorem t12_0 (C : pmC) {σ : pmS} {o0 : Nat} {x1 : Int32} {x2 : Int32} {x3 : Int32} {l4 : Option pmV} {l5 : Option pmV}  : pq_Rn C (12, 0, [some (vR 2 o0 0), some (vI x1), some (vI x2), some (vI x3), l4, l5], [], σ) = pq_Rn C (12, 10, [some (vR 2 o0 0), some (vI x1), some (vI x2), some (vI x3), some (vI (((2 : Int32) * x1) + x2)), some (vI (0 : Int32))], [], σ) := by
  exact g12_0_0 C 
theorem t12_10 (C : pmC) {σ : pmS} {o0 : Nat} {l1 : Option pmV} {l2 : Option pmV} {x3 : Int32} {x4 : Int32} {x5 : Int32} {r101 : Int32} {σ101 : pmS} (u1 : (¬ (18 : Int32) ≤ x5) → (¬ (x3 >>> (x5 &&& 31)) = 0) → C 11 [vR 2 o0 0, vI x4, vI ((x3 >>> (x5 &&& 31)) &&& (7 : Int32))] σ = some (some (vI r101), σ101)) : pq_Rn C (12, 10, [some (vR 2 o0 0), l1, l2, some (vI x3), some (vI x4), some (vI x5)], [], σ) = (if (18 : Int32) ≤ x5 then some (some (vI x4), σ) else (if (x3 >>> (x5 &&& 31)) = 0 then some (some (vI x4), σ) else pq_Rn C (12, 10, [some (vR 2 o0 0), l1, l2, some (vI x3), some (vI r101), some (vI (x5 + (3 : Int32)))], [], σ101))) := by
  by_cases c1 : (18 : Int32) ≤ x5
  · refine Eq.trans ?_ (if_pos c1).symm
    exact g12_10_0 C c1
  · refine Eq.trans ?_ (if_neg c1).symm
    by_cases c2 : (x3 >>> (x5 &&& 31)) = 0
    · refine Eq.trans ?_ (if_pos c2).symm
      exact g12_10_1 C c1 c2
    · refine Eq.trans ?_ (if_neg c2).symm
      exact g12_10_2 C c1 c2 (u1 c1 c2)
theorem t13_0 (C : pmC) {σ : pmS} {o0 : Nat} {x1 : Int32} {x2 : Int32} {l3 : Option pmV} {l4 : Option pmV} {l5 : Option pmV}  : pq_Rn C (13, 0, [some (vR 2 o0 0), some (vI x1), some (vI x2), l3, l4, l5], [], σ) = pq_Rn C (13, 2, [some (vR 2 o0 0), some (vI x1), some (vI x2), some (vI (0 : Int32)), l4, l5], [], σ) := by
  exact g13_0_0 C 
theorem t13_2 (C : pmC) {σ : pmS} {o0 : Nat} {x1 : Int32} {x2 : Int32} {x3 : Int32} {l4 : Option pmV} {l5 : Option pmV} (u1 : (¬ (σ.1 2 o0 8 0) ≤ x3) → vp_in x3 16) : pq_Rn C (13, 2, [some (vR 2 o0 0), some (vI x1), some (vI x2), some (vI x3), l4, l5], [], σ) = (if (σ.1 2 o0 8 0) ≤ x3 then pq_Rn C (13, 25, [some (vR 2 o0 0), some (vI x1), some (vI x2), some (vI (1 : Int32)), l4, l5], [], σ) else pq_Rn C (13, 2, [some (vR 2 o0 0), some (vI x1), some (vI x2), some (vI (x3 + (1 : Int32))), l4, l5], [], (pm_wi σ 2 o0 6 (x3).toNatClampNeg x3))) := by
  by_cases c1 : (σ.1 2 o0 8 0) ≤ x3
  · refine Eq.trans ?_ (if_pos c1).symm
    exact g13_2_0 C c1
  · refine Eq.trans ?_ (if_neg c1).symm
    exact g13_2_1 C c1 (u1 c1)
theorem t13_25 (C : pmC) {σ : pmS} {o0 : Nat} {x1 : Int32} {x2 : Int32} {x3 : Int32} {l4 : Option pmV} {l5 : Option pmV}  : pq_Rn C (13, 25, [some (vR 2 o0 0), some (vI x1), some (vI x2), some (vI x3), l4, l5], [], σ) = (if (840 : Int32) ≤ x3 then some (some (vI (840 : Int32)), σ) else pq_Rn C (13, 38, [some (vR 2 o0 0), some (vI x1), some (vI x2), some (vI x3), some (vI (1 : Int32)), some (vI (0 : Int32))], [], σ)) := by
  by_cases c1 : (840 : Int32) ≤ x3
  · refine Eq.trans ?_ (if_pos c1).symm
    exact g13_25_0 C c1
  · refine Eq.trans ?_ (if_neg c1).symm
    exact g13_25_1 C c1
theorem t13_38 (C : pmC) {σ : pmS} {o0 : Nat} {x1 : Int32} {x2 : Int32} {x3 : Int32} {x4 : Int32} {x5 : Int32} {r101 : Int32} {σ101 : pmS} (u1 : (¬ (σ.1 2 o0 8 0) ≤ x5) → vp_in x5 16) (u2 : (¬ (σ.1 2 o0 8 0) ≤ x5) → C 12 [vR 2 o0 0, vI (σ.1 2 o0 6 (x5).toNatClampNeg), vI x1, vI x2] σ = some (some (vI r101), σ101)) : pq_Rn C (13, 38, [some (vR 2 o0 0), some (vI x1), some (vI x2), some (vI x3), some (vI x4), some (vI x5)], [], σ) = (if (σ.1 2 o0 8 0) ≤ x5 then (if x4 = 0 then pq_Rn C (13, 25, [some (vR 2 o0 0), some (vI x1), some (vI x2), some (vI (x3 + (1 : Int32))), some (vI x4), some (vI x5)], [], σ) else some (some (vI x3), σ)) else (if x4 = 0 then pq_Rn C (13, 38, [some (vR 2 o0 0), some (vI x1), some (vI x2), some (vI x3), some (vI (0 : Int32)), some (vI (x5 + (1 : Int32)))], [], (pm_wi σ101 2 o0 6 (x5).toNatClampNeg (r101 >>> ((1 : Int32) &&& 31)))) else (if ((pm_wi σ101 2 o0 6 (x5).toNatClampNeg (r101 >>> ((1 : Int32) &&& 31))).1 2 o0 6 (x5).toNatClampNeg) = x5 then pq_Rn C (13, 38, [some (vR 2 o0 0), some (vI x1), some (vI x2), some (vI x3), some (vI (1 : Int32)), some (vI (x5 + (1 : Int32)))], [], (pm_wi σ101 2 o0 6 (x5).toNatClampNeg (r101 >>> ((1 : Int32) &&& 31)))) else pq_Rn C (13, 38, [some (vR 2 o0 0), some (vI x1), some (vI x2), some (vI x3), some (vI (0 : Int32)), some (vI (x5 + (1 : Int32)))], [], (pm_wi σ101 2 o0 6 (x5).toNatClampNeg (r101 >>> ((1 : Int32) &&& 31))))))) := by
  by_cases c1 : (σ.1 2 o0 8 0) ≤ x5
  · refine Eq.trans ?_ (if_pos c1).symm
    by_cases c2 : x4 = 0
    · refine Eq.trans ?_ (if_pos c2).symm
      exact g13_38_0 C c1 c2
    · refine Eq.trans ?_ (if_neg c2).symm
      exact g13_38_1 C c1 c2
  · refine Eq.trans ?_ (if_neg c1).symm
    by_cases c3 : x4 = 0
    · refine Eq.trans ?_ (if_pos c3).symm
      exact g13_38_2 C c1 (u1 c1) (u2 c1) c3
    · refine Eq.trans ?_ (if_neg c3).symm
      by_cases c4 : ((pm_wi σ101 2 o0 6 (x5).toNatClampNeg (r101 >>> ((1 : Int32) &&& 31))).1 2 o0 6 (x5).toNatClampNeg) = x5
      · refine Eq.trans ?_ (if_pos c4).symm
        exact g13_38_3 C c1 (u1 c1) (u2 c1) c3 c4
      · refine Eq.trans ?_ (if_neg c4).symm
        exact g13_38_4 C c1 (u1 c1) (u2 c1) c3 c4
theorem t14_0 (C : pmC) {σ : pmS} {o0 : Nat} {x1 : Int32} {x2 : Int32} {l3 : Option pmV} {l4 : Option pmV} {l5 : Option pmV} {σ101 : pmS} (u1 : C 182 [vR 2 o0 7, vI (0 : Int32)] σ = some (none, σ101)) (u2 : vp_in (((2 : Int32) * x1) + (0 : Int32)) 16) : pq_Rn C (14, 0, [some (vR 2 o0 0), some (vI x1), some (vI x2), l3, l4, l5], [], σ) = pq_Rn C (14, 21, [some (vR 2 o0 0), some (vI x1), some (vI x2), some (vI (0 : Int32)), l4, l5], [], (pm_wi σ101 2 o0 6 ((((2 : Int32) * x1) + (0 : Int32))).toNatClampNeg (1 : Int32))) := by
  exact g14_0_0 C u1 u2
theorem t14_21 (C : pmC) {σ : pmS} {o0 : Nat} {x1 : Int32} {x2 : Int32} {x3 : Int32} {l4 : Option pmV} {l5 : Option pmV} {σ101 : pmS} (u1 : (x2 ≤ x3) → vp_in x1 8) (u2 : (x2 ≤ x3) → vp_in (((2 : Int32) * (σ.1 2 o0 0 (x1).toNatClampNeg)) + (1 : Int32)) 16) (u3 : (¬ x2 ≤ x3) → C 182 [vR 2 o0 8, vI (0 : Int32)] σ = some (none, σ101)) : pq_Rn C (14, 21, [some (vR 2 o0 0), some (vI x1), some (vI x2), some (vI x3), l4, l5], [], σ) = (if x2 ≤ x3 then some (some (vI (σ.1 2 o0 6 ((((2 : Int32) * (σ.1 2 o0 0 (x1).toNatClampNeg)) + (1 : Int32))).toNatClampNeg)), σ) else pq_Rn C (14, 37, [some (vR 2 o0 0), some (vI x1), some (vI x2), some (vI x3), some (vI (0 : Int32)), l5], [], σ101)) := by
  by_cases c1 : x2 ≤ x3
  · refine Eq.trans ?_ (if_pos c1).symm
    exact g14_21_0 C c1 (u1 c1) (u2 c1)
  · refine Eq.trans ?_ (if_neg c1).symm
    exact g14_21_1 C c1 (u3 c1)
theorem t14_37 (C : pmC) {σ : pmS} {o0 : Nat} {x1 : Int32} {x2 : Int32} {x3 : Int32} {x4 : Int32} {l5 : Option pmV} (u1 : (((2 : Int32) * (σ.1 2 o0 8 0)) ≤ x4) → ¬ ((2 : Int32) * (σ.1 2 o0 8 0)) < 0) (u2 : (((2 : Int32) * (σ.1 2 o0 8 0)) ≤ x4) → (((2 : Int32) * (σ.1 2 o0 8 0))).toNatClampNeg ≤ 16) (u3 : (((2 : Int32) * (σ.1 2 o0 8 0)) ≤ x4) → (((2 : Int32) * (σ.1 2 o0 8 0))).toNatClampNeg ≤ 16) : pq_Rn C (14, 37, [some (vR 2 o0 0), some (vI x1), some (vI x2), some (vI x3), some (vI x4), l5], [], σ) = (if ((2 : Int32) * (σ.1 2 o0 8 0)) ≤ x4 then pq_Rn C (14, 21, [some (vR 2 o0 0), some (vI x1), some (vI x2), some (vI (x3 + (1 : Int32))), some (vI x4), l5], [], (pm_wr σ 2 o0 6 (va_cpy (σ.1 2 o0 7) (σ.1 2 o0 6) 0 0 (((2 : Int32) * (σ.1 2 o0 8 0))).toNatClampNeg))) else pq_Rn C (14, 51, [some (vR 2 o0 0), some (vI x1), some (vI x2), some (vI x3), some (vI x4), some (vI (1 : Int32))], [], σ)) := by
  by_cases c1 : ((2 : Int32) * (σ.1 2 o0 8 0)) ≤ x4
  · refine Eq.trans ?_ (if_pos c1).symm
    exact g14_37_0 C c1 (u1 c1) (u2 c1) (u3 c1)
  · refine Eq.trans ?_ (if_neg c1).symm
    exact g14_37_1 C c1
theorem t14_51 (C : pmC) {σ : pmS} {o0 : Nat} {x1 : Int32} {x2 : Int32} {x3 : Int32} {x4 : Int32} {x5 : Int32} {r101 : Int32} {σ101 : pmS} (u1 : (¬ (5 : Int32) < x5) → C 11 [vR 2 o0 0, vI x4, vI x5] σ = some (some (vI r101), σ101)) (u2 : (¬ (5 : Int32) < x5) → vp_in r101 16) (u3 : (¬ (5 : Int32) < x5) → vp_in x4 16) : pq_Rn C (14, 51, [some (vR 2 o0 0), some (vI x1), some (vI x2), some (vI x3), some (vI x4), some (vI x5)], [], σ) = (if (5 : Int32) < x5 then pq_Rn C (14, 37, [some (vR 2 o0 0), some (vI x1), some (vI x2), some (vI x3), some (vI (x4 + (1 : Int32))), some (vI x5)], [], σ) else pq_Rn C (14, 51, [some (vR 2 o0 0), some (vI x1), some (vI x2), some (vI x3), some (vI x4), some (vI (x5 + (1 : Int32)))], [], (pm_wi σ101 2 o0 7 (r101).toNatClampNeg ((σ101.1 2 o0 7 (r101).toNatClampNeg) + (σ101.1 2 o0 6 (x4).toNatClampNeg))))) := by
  by_cases c1 : (5 : Int32) < x5
  · refine Eq.trans ?_ (if_pos c1).symm
    exact g14_51_0 C c1
  · refine Eq.trans ?_ (if_neg c1).symm
    exact g14_51_1 C c1 (u1 c1) (u2 c1) (u3 c1)
theorem t15_0 (C : pmC) {σ : pmS} {o0 : Nat} {x1 : Int32} {l2 : Option pmV} {l3 : Option pmV} {l4 : Option pmV} {l5 : Option pmV} {l6 : Option pmV}  : pq_Rn C (15, 0, [some (vR 2 o0 0), some (vI x1), l2, l3, l4, l5, l6], [], σ) = pq_Rn C (15, 10, [some (vR 2 o0 0), some (vI x1), some (vI (1 : Int32)), some (vI (1 : Int32)), some (vI (1 : Int32)), some (vI (0 : Int32)), l6], [], σ) := by
  exact g15_0_0 C 
theorem t15_10 (C : pmC) {σ : pmS} {o0 : Nat} {x1 : Int32} {x2 : Int32} {x3 : Int32} {x4 : Int32} {x5 : Int32} {l6 : Option pmV} (u1 : (¬ (σ.1 2 o0 8 0) ≤ x5) → (¬ x2 = 0) → vp_in x5 8) : pq_Rn C (15, 10, [some (vR 2 o0 0), some (vI x1), some (vI x2), some (vI x3), some (vI x4), some (vI x5), l6], [], σ) = (if (σ.1 2 o0 8 0) ≤ x5 then (if x2 = 0 then pq_Rn C (15, 122, [some (vR 2 o0 0), some (vI x1), some (vI x2), some (vI x3), some (vI x4), some (vI x5), l6], [vI (0 : Int32)], σ) else pq_Rn C (15, 122, [some (vR 2 o0 0), some (vI x1), some (vI x2), some (vI x3), some (vI x4), some (vI x5), l6], [vI (1 : Int32)], σ)) else (if x2 = 0 then pq_Rn C (15, 51, [some (vR 2 o0 0), some (vI x1), some (vI x2), some (vI x3), some (vI x4), some (vI x5), some (vI ((x1 >>> (x5 &&& 31)) &&& (1 : Int32)))], [], σ) else (if ((x1 >>> ((σ.1 2 o0 0 (x5).toNatClampNeg) &&& 31)) &&& (1 : Int32)) = ((x1 >>> (x5 &&& 31)) &&& (1 : Int32)) then pq_Rn C (15, 51, [some (vR 2 o0 0), some (vI x1), some (vI x2), some (vI x3), some (vI x4), some (vI x5), some (vI ((x1 >>> (x5 &&& 31)) &&& (1 : Int32)))], [], σ) else pq_Rn C (15, 52, [some (vR 2 o0 0), some (vI x1), some (vI x2), some (vI x3), some (vI x4), some (vI x5), some (vI ((x1 >>> (x5 &&& 31)) &&& (1 : Int32)))], [vI (1 : Int32)], σ)))) := by
  by_cases c1 : (σ.1 2 o0 8 0) ≤ x5
  · refine Eq.trans ?_ (if_pos c1).symm
    by_cases c2 : x2 = 0
    · refine Eq.trans ?_ (if_pos c2).symm
      exact g15_10_0 C c1 c2
    · refine Eq.trans ?_ (if_neg c2).symm
      exact g15_10_1 C c1 c2
  · refine Eq.trans ?_ (if_neg c1).symm
    by_cases c3 : x2 = 0
    · refine Eq.trans ?_ (if_pos c3).symm
      exact g15_10_2 C c1 c3
    · refine Eq.trans ?_ (if_neg c3).symm
      by_cases c4 : ((x1 >>> ((σ.1 2 o0 0 (x5).toNatClampNeg) &&& 31)) &&& (1 : Int32)) = ((x1 >>> (x5 &&& 31)) &&& (1 : Int32))
      · refine Eq.trans ?_ (if_pos c4).symm
        exact g15_10_3 C c1 c3 (u1 c1 c3) c4
      · refine Eq.trans ?_ (if_neg c4).symm
        exact g15_10_4 C c1 c3 (u1 c1 c3) c4
theorem t15_51 (C : pmC) {σ : pmS} {o0 : Nat} {x1 : Int32} {l2 : Option pmV} {x3 : Int32} {x4 : Int32} {x5 : Int32} {x6 : Int32}  : pq_Rn C (15, 51, [some (vR 2 o0 0), some (vI x1), l2, some (vI x3), some (vI x4), some (vI x5), some (vI x6)], [], σ) = pq_Rn C (15, 52, [some (vR 2 o0 0), some (vI x1), l2, some (vI x3), some (vI x4), some (vI x5), some (vI x6)], [vI (0 : Int32)], σ) := by
  exact g15_51_0 C 
theorem t15_52 (C : pmC) {σ : pmS} {o0 : Nat} {x1 : Int32} {l2 : Option pmV} {x3 : Int32} {x4 : Int32} {x5 : Int32} {x6 : Int32} {s0 : Int32} (u1 : (¬ x3 = 0) → vp_in x5 8) : pq_Rn C (15, 52, [some (vR 2 o0 0), some (vI x1), l2, some (vI x3), some (vI x4), some (vI x5), some (vI x6)], [vI s0], σ) = (if x3 = 0 then pq_Rn C (15, 77, [some (vR 2 o0 0), some (vI x1), some (vI s0), some (vI x3), some (vI x4), some (vI x5), some (vI x6)], [], σ) else (if ((x1 >>> ((σ.1 2 o0 2 (x5).toNatClampNeg) &&& 31)) &&& (1 : Int32)) = x6 then pq_Rn C (15, 78, [some (vR 2 o0 0), some (vI x1), some (vI s0), some (vI x3), some (vI x4), some (vI x5), some (vI x6)], [vI (1 : Int32)], σ) else pq_Rn C (15, 77, [some (vR 2 o0 0), some (vI x1), some (vI s0), some (vI x3), some (vI x4), some (vI x5), some (vI x6)], [], σ))) := by
  by_cases c1 : x3 = 0
  · refine Eq.trans ?_ (if_pos c1).symm
    exact g15_52_0 C c1
  · refine Eq.trans ?_ (if_neg c1).symm
    by_cases c2 : ((x1 >>> ((σ.1 2 o0 2 (x5).toNatClampNeg) &&& 31)) &&& (1 : Int32)) = x6
    · refine Eq.trans ?_ (if_pos c2).symm
      exact g15_52_1 C c1 (u1 c1) c2
    · refine Eq.trans ?_ (if_neg c2).symm
      exact g15_52_2 C c1 (u1 c1) c2
theorem t15_77 (C : pmC) {σ : pmS} {o0 : Nat} {x1 : Int32} {x2 : Int32} {l3 : Option pmV} {x4 : Int32} {x5 : Int32} {x6 : Int32}  : pq_Rn C (15, 77, [some (vR 2 o0 0), some (vI x1), some (vI x2), l3, some (vI x4), some (vI x5), some (vI x6)], [], σ) = pq_Rn C (15, 78, [some (vR 2 o0 0), some (vI x1), some (vI x2), l3, some (vI x4), some (vI x5), some (vI x6)], [vI (0 : Int32)], σ) := by
  exact g15_77_0 C 
theorem t15_78 (C : pmC) {σ : pmS} {o0 : Nat} {x1 : Int32} {x2 : Int32} {l3 : Option pmV} {x4 : Int32} {x5 : Int32} {x6 : Int32} {s0 : Int32} (u1 : (¬ x4 = 0) → vp_in x5 8) : pq_Rn C (15, 78, [some (vR 2 o0 0), some (vI x1), some (vI x2), l3, some (vI x4), some (vI x5), some (vI x6)], [vI s0], σ) = (if x4 = 0 then pq_Rn C (15, 104, [some (vR 2 o0 0), some (vI x1), some (vI x2), some (vI s0), some (vI x4), some (vI x5), some (vI x6)], [], σ) else (if ((x1 >>> ((σ.1 2 o0 3 (x5).toNatClampNeg) &&& 31)) &&& (1 : Int32)) = x6 then pq_Rn C (15, 105, [some (vR 2 o0 0), some (vI x1), some (vI x2), some (vI s0), some (vI x4), some (vI x5), some (vI x6)], [vI (1 : Int32)], σ) else pq_Rn C (15, 104, [some (vR 2 o0 0), some (vI x1), some (vI x2), some (vI s0), some (vI x4), some (vI x5), some (vI x6)], [], σ))) := by
  by_cases c1 : x4 = 0
  · refine Eq.trans ?_ (if_pos c1).symm
    exact g15_78_0 C c1
  · refine Eq.trans ?_ (if_neg c1).symm
    by_cases c2 : ((x1 >>> ((σ.1 2 o0 3 (x5).toNatClampNeg) &&& 31)) &&& (1 : Int32)) = x6
    · refine Eq.trans ?_ (if_pos c2).symm
      exact g15_78_1 C c1 (u1 c1) c2
    · refine Eq.trans ?_ (if_neg c2).symm
      exact g15_78_2 C c1 (u1 c1) c2
theorem t15_104 (C : pmC) {σ : pmS} {o0 : Nat} {x1 : Int32} {x2 : Int32} {x3 : Int32} {l4 : Option pmV} {x5 : Int32} {l6 : Option pmV}  : pq_Rn C (15, 104, [some (vR 2 o0 0), some (vI x1), some (vI x2), some (vI x3), l4, some (vI x5), l6], [], σ) = pq_Rn C (15, 105, [some (vR 2 o0 0), some (vI x1), some (vI x2), some (vI x3), l4, some (vI x5), l6], [vI (0 : Int32)], σ) := by
  exact g15_104_0 C 
theorem t15_105 (C : pmC) {σ : pmS} {o0 : Nat} {x1 : Int32} {x2 : Int32} {x3 : Int32} {l4 : Option pmV} {x5 : Int32} {l6 : Option pmV} {s0 : Int32}  : pq_Rn C (15, 105, [some (vR 2 o0 0), some (vI x1), some (vI x2), some (vI x3), l4, some (vI x5), l6], [vI s0], σ) = pq_Rn C (15, 10, [some (vR 2 o0 0), some (vI x1), some (vI x2), some (vI x3), some (vI s0), some (vI (x5 + (1 : Int32))), l6], [], σ) := by
  exact g15_105_0 C 
theorem t15_122 (C : pmC) {σ : pmS} {l0 : Option pmV} {l1 : Option pmV} {l2 : Option pmV} {x3 : Int32} {x4 : Int32} {l5 : Option pmV} {l6 : Option pmV} {s0 : Int32}  : pq_Rn C (15, 122, [l0, l1, l2, some (vI x3), some (vI x4), l5, l6], [vI s0], σ) = (if x3 = 0 then pq_Rn C (15, 131, [l0, l1, l2, some (vI x3), some (vI x4), l5, l6], [vI (0 : Int32), vI s0], σ) else pq_Rn C (15, 131, [l0, l1, l2, some (vI x3), some (vI x4), l5, l6], [vI (2 : Int32), vI s0], σ)) := by
  by_cases c1 : x3 = 0
  · refine Eq.trans ?_ (if_pos c1).symm
    exact g15_122_0 C c1
  · refine Eq.trans ?_ (if_neg c1).symm
    exact g15_122_1 C c1
theorem t15_131 (C : pmC) {σ : pmS} {l0 : Option pmV} {l1 : Option pmV} {l2 : Option pmV} {l3 : Option pmV} {x4 : Int32} {l5 : Option pmV} {l6 : Option pmV} {s1 : Int32} {s0 : Int32}  : pq_Rn C (15, 131, [l0, l1, l2, l3, some (vI x4), l5, l6], [vI s1, vI s0], σ) = (if x4 = 0 then pq_Rn C (15, 142, [l0, l1, l2, l3, some (vI x4), l5, l6], [vI (0 : Int32), vI (s0 + s1)], σ) else pq_Rn C (15, 142, [l0, l1, l2, l3, some (vI x4), l5, l6], [vI (4 : Int32), vI (s0 + s1)], σ)) := by
  by_cases c1 : x4 = 0
  · refine Eq.trans ?_ (if_pos c1).symm
    exact g15_131_0 C c1
  · refine Eq.trans ?_ (if_neg c1).symm
    exact g15_131_1 C c1
theorem t15_142 (C : pmC) {σ : pmS} {l0 : Option pmV} {l1 : Option pmV} {l2 : Option pmV} {l3 : Option pmV} {l4 : Option pmV} {l5 : Option pmV} {l6 : Option pmV} {s1 : Int32} {s0 : Int32}  : pq_Rn C (15, 142, [l0, l1, l2, l3, l4, l5, l6], [vI s1, vI s0], σ) = some (some (vI (s0 + s1)), σ) := by
  exact g15_142_0 C 
theorem t16_0 (C : pmC) {σ : pmS} {σ101 : pmS} {σ102 : pmS} (u1 : C 181 [vR 3 0 1, vL (0 : Int64)] σ = some (none, σ101)) (u2 : C 182 [vR 3 0 2, vI (-1 : Int32)] σ101 = some (none, σ102)) : pq_Rn C (16, 0, [some (vR 3 0 0)], [], σ) = some (none, (pm_wl (pm_wl σ102 3 0 5 0 (0 : Int64)) 3 0 6 0 (0 : Int64))) := by
  exact g16_0_0 C u1 u2
theorem t17_0 (C : pmC) {σ : pmS} {x1 : Int32} {x2 : Int32} (u1 : vp_in x1 48) : pq_Rn C (17, 0, [some (vR 3 0 0), some (vI x1), some (vI x2)], [], σ) = some (none, (pm_wl σ 3 0 0 (x1).toNatClampNeg ((σ.2 3 0 0 (x1).toNatClampNeg) ||| ((1 : Int64) <<< ((x2).toInt64 &&& 63))))) := by
  exact g17_0_0 C u1
theorem t18_0 (C : pmC) {σ : pmS} {l1 : Option pmV} {l2 : Option pmV}  : pq_Rn C (18, 0, [some (vR 3 0 0), l1, l2], [], σ) = pq_Rn C (18, 2, [some (vR 3 0 0), some (vI (0 : Int32)), l2], [], σ) := by
  exact g18_0_0 C 
theorem t18_2 (C : pmC) {σ : pmS} {x1 : Int32} {l2 : Option pmV} {r101 : Int32} {σ101 : pmS} (u1 : (¬ (48 : Int32) ≤ x1) → C 21 [vR 3 0 0] σ = some (some (vI r101), σ101)) : pq_Rn C (18, 2, [some (vR 3 0 0), some (vI x1), l2], [], σ) = (if (48 : Int32) ≤ x1 then pq_Rn C (18, 23, [some (vR 3 0 0), some (vI x1), some (vI (0 : Int32))], [], σ) else (if r101 = 0 then pq_Rn C (18, 23, [some (vR 3 0 0), some (vI x1), some (vI (0 : Int32))], [], σ101) else pq_Rn C (18, 2, [some (vR 3 0 0), some (vI (x1 + (1 : Int32))), l2], [], σ101))) := by
  by_cases c1 : (48 : Int32) ≤ x1
  · refine Eq.trans ?_ (if_pos c1).symm
    exact g18_2_0 C c1
  · refine Eq.trans ?_ (if_neg c1).symm
    by_cases c2 : r101 = 0
    · refine Eq.trans ?_ (if_pos c2).symm
      exact g18_2_1 C c1 (u1 c1) c2
    · refine Eq.trans ?_ (if_neg c2).symm
      exact g18_2_2 C c1 (u1 c1) c2
theorem t18_23 (C : pmC) {σ : pmS} {x1 : Int32} {x2 : Int32} {σ101 : pmS} {σ102 : pmS} (u1 : ((48 : Int32) ≤ x2) → C 27 [vR 3 0 0] σ = some (none, σ101)) (u2 : (¬ (48 : Int32) ≤ x2) → C 25 [vR 3 0 0, vI x2] σ = some (none, σ102)) : pq_Rn C (18, 23, [some (vR 3 0 0), some (vI x1), some (vI x2)], [], σ) = (if (48 : Int32) ≤ x2 then some (some (vI x1), σ101) else pq_Rn C (18, 23, [some (vR 3 0 0), some (vI x1), some (vI (x2 + (1 : Int32)))], [], σ102)) := by
  by_cases c1 : (48 : Int32) ≤ x2
  · refine Eq.trans ?_ (if_pos c1).symm
    exact g18_23_0 C c1 (u1 c1)
  · refine Eq.trans ?_ (if_neg c1).symm
    exact g18_23_1 C c1 (u2 c1)
theorem t19_0 (C : pmC) {σ : pmS} {w0 : Int64} {x2 : Int32}  : pq_Rn C (19, 0, [some (vL w0), none, some (vI x2)], [], σ) = (if (lg_cmp (((w0).toUInt64 >>> ((x2).toInt64.toUInt64 &&& Int64.toUInt64 63)).toInt64 &&& (1 : Int64)) (0 : Int64)) = 0 then some (some (vI (0 : Int32)), σ) else some (some (vI (1 : Int32)), σ)) := by
  by_cases c1 : (lg_cmp (((w0).toUInt64 >>> ((x2).toInt64.toUInt64 &&& Int64.toUInt64 63)).toInt64 &&& (1 : Int64)) (0 : Int64)) = 0
  · refine Eq.trans ?_ (if_pos c1).symm
    exact g19_0_0 C c1
  · refine Eq.trans ?_ (if_neg c1).symm
    exact g19_0_1 C c1
theorem t20_0 (C : pmC) {σ : pmS} {l1 : Option pmV}  : pq_Rn C (20, 0, [some (vR 3 0 0), l1], [], σ) = pq_Rn C (20, 7, [some (vR 3 0 0), some (vI (0 : Int32))], [], (pm_wi σ 3 0 4 0 (0 : Int32))) := by
  exact g20_0_0 C 
theorem t20_7 (C : pmC) {σ : pmS} {x1 : Int32} {r101 : Int32} {σ101 : pmS} (u1 : (¬ (48 : Int32) ≤ x1) → vp_in x1 48) (u2 : (¬ (48 : Int32) ≤ x1) → (¬ (lg_cmp (σ.2 3 0 0 (x1).toNatClampNeg) (0 : Int64)) = 0) → ((σ.1 3 0 1 (x1).toNatClampNeg) = (-1 : Int32)) → C 19 [vL (σ.2 3 0 5 0), vI x1] σ = some (some (vI r101), σ101)) (u3 : (¬ (48 : Int32) ≤ x1) → (¬ (lg_cmp (σ.2 3 0 0 (x1).toNatClampNeg) (0 : Int64)) = 0) → ((σ.1 3 0 1 (x1).toNatClampNeg) = (-1 : Int32)) → (r101 = 0) → vp_in (σ101.1 3 0 4 0) 48) : pq_Rn C (20, 7, [some (vR 3 0 0), some (vI x1)], [], σ) = (if (48 : Int32) ≤ x1 then some (none, σ) else (if (lg_cmp (σ.2 3 0 0 (x1).toNatClampNeg) (0 : Int64)) = 0 then pq_Rn C (20, 7, [some (vR 3 0 0), some (vI (x1 + (1 : Int32)))], [], σ) else (if (σ.1 3 0 1 (x1).toNatClampNeg) = (-1 : Int32) then (if r101 = 0 then pq_Rn C (20, 7, [some (vR 3 0 0), some (vI (x1 + (1 : Int32)))], [], (pm_wi (pm_wi σ101 3 0 2 ((σ101.1 3 0 4 0)).toNatClampNeg x1) 3 0 4 0 ((σ101.1 3 0 4 0) + (1 : Int32)))) else pq_Rn C (20, 7, [some (vR 3 0 0), some (vI (x1 + (1 : Int32)))], [], σ101)) else pq_Rn C (20, 7, [some (vR 3 0 0), some (vI (x1 + (1 : Int32)))], [], σ)))) := by
  by_cases c1 : (48 : Int32) ≤ x1
  · refine Eq.trans ?_ (if_pos c1).symm
    exact g20_7_0 C c1
  · refine Eq.trans ?_ (if_neg c1).symm
    by_cases c2 : (lg_cmp (σ.2 3 0 0 (x1).toNatClampNeg) (0 : Int64)) = 0
    · refine Eq.trans ?_ (if_pos c2).symm
      exact g20_7_1 C c1 (u1 c1) c2
    · refine Eq.trans ?_ (if_neg c2).symm
      by_cases c3 : (σ.1 3 0 1 (x1).toNatClampNeg) = (-1 : Int32)
      · refine Eq.trans ?_ (if_pos c3).symm
        by_cases c4 : r101 = 0
        · refine Eq.trans ?_ (if_pos c4).symm
          exact g20_7_2 C c1 (u1 c1) c2 c3 (u2 c1 c2 c3) c4 (u3 c1 c2 c3 c4)
        · refine Eq.trans ?_ (if_neg c4).symm
          exact g20_7_3 C c1 (u1 c1) c2 c3 (u2 c1 c2 c3) c4
      · refine Eq.trans ?_ (if_neg c3).symm
        exact g20_7_4 C c1 (u1 c1) c2 c3
theorem t21_0 (C : pmC) {σ : pmS} {l1 : Option pmV} {l2 : Option pmV} {l3 : Option pmV} {l4 : Option pmV} {l5 : Option pmV} {l6 : Option pmV} {σ101 : pmS} (u1 : C 20 [vR 3 0 0] σ = some (none, σ101)) : pq_Rn C (21, 0, [some (vR 3 0 0), l1, l2, l3, l4, l5, l6], [], σ) = pq_Rn C (21, 11, [some (vR 3 0 0), some (vL (σ101.2 3 0 6 0)), none, some (vI (0 : Int32)), l4, l5, l6], [], σ101) := by
  exact g21_0_0 C u1
theorem t21_11 (C : pmC) {σ : pmS} {w1 : Int64} {x3 : Int32} {l4 : Option pmV} {l5 : Option pmV} {l6 : Option pmV} (u1 : (¬ (σ.1 3 0 4 0) ≤ x3) → (¬ (48 : Int32) ≤ x3) → vp_in x3 48) (u2 : (¬ (σ.1 3 0 4 0) ≤ x3) → (¬ (48 : Int32) ≤ x3) → vp_in (σ.1 3 0 2 (x3).toNatClampNeg) 48) : pq_Rn C (21, 11, [some (vR 3 0 0), some (vL w1), none, some (vI x3), l4, l5, l6], [], σ) = (if (σ.1 3 0 4 0) ≤ x3 then some (some (vI (0 : Int32)), σ) else (if (48 : Int32) ≤ x3 then some (some (vI (0 : Int32)), σ) else pq_Rn C (21, 52, [some (vR 3 0 0), some (vL (w1 ||| ((σ.2 3 0 0 ((σ.1 3 0 2 (x3).toNatClampNeg)).toNatClampNeg) &&& (w1 ^^^ (-1 : Int64))))), none, some (vI x3), some (vL ((σ.2 3 0 0 ((σ.1 3 0 2 (x3).toNatClampNeg)).toNatClampNeg) &&& (w1 ^^^ (-1 : Int64)))), none, some (vI (0 : Int32))], [], σ))) := by
  by_cases c1 : (σ.1 3 0 4 0) ≤ x3
  · refine Eq.trans ?_ (if_pos c1).symm
    exact g21_11_0 C c1
  · refine Eq.trans ?_ (if_neg c1).symm
    by_cases c2 : (48 : Int32) ≤ x3
    · refine Eq.trans ?_ (if_pos c2).symm
      exact g21_11_1 C c1 c2
    · refine Eq.trans ?_ (if_neg c2).symm
      exact g21_11_2 C c1 c2 (u1 c1 c2) (u2 c1 c2)
theorem t21_52 (C : pmC) {σ : pmS} {w1 : Int64} {x3 : Int32} {w4 : Int64} {x6 : Int32} {r101 : Int32} {σ101 : pmS} {σ102 : pmS} {σ103 : pmS} (u1 : (¬ (lg_cmp ((w4).toUInt64 >>> ((x6).toInt64.toUInt64 &&& Int64.toUInt64 63)).toInt64 (0 : Int64)) = 0) → (¬ (48 : Int32) ≤ x6) → C 19 [vL w4, vI x6] σ = some (some (vI r101), σ101)) (u2 : (¬ (lg_cmp ((w4).toUInt64 >>> ((x6).toInt64.toUInt64 &&& Int64.toUInt64 63)).toInt64 (0 : Int64)) = 0) → (¬ (48 : Int32) ≤ x6) → (¬ r101 = 0) → vp_in x3 48) (u3 : (¬ (lg_cmp ((w4).toUInt64 >>> ((x6).toInt64.toUInt64 &&& Int64.toUInt64 63)).toInt64 (0 : Int64)) = 0) → (¬ (48 : Int32) ≤ x6) → (¬ r101 = 0) → vp_in x6 48) (u4 : (¬ (lg_cmp ((w4).toUInt64 >>> ((x6).toInt64.toUInt64 &&& Int64.toUInt64 63)).toInt64 (0 : Int64)) = 0) → (¬ (48 : Int32) ≤ x6) → (¬ r101 = 0) → ((σ101.1 3 0 1 (x6).toNatClampNeg) = (-1 : Int32)) → C 23 [vR 3 0 0, vI x6] (pm_wi σ101 3 0 3 (x6).toNatClampNeg (σ101.1 3 0 2 (x3).toNatClampNeg)) = some (none, σ102)) (u5 : (¬ (lg_cmp ((w4).toUInt64 >>> ((x6).toInt64.toUInt64 &&& Int64.toUInt64 63)).toInt64 (0 : Int64)) = 0) → (¬ (48 : Int32) ≤ x6) → (¬ r101 = 0) → (¬ (σ101.1 3 0 1 (x6).toNatClampNeg) = (-1 : Int32)) → C 22 [vR 3 0 0, vI (σ101.1 3 0 1 (x6).toNatClampNeg)] (pm_wi σ101 3 0 3 (x6).toNatClampNeg (σ101.1 3 0 2 (x3).toNatClampNeg)) = some (none, σ103)) : pq_Rn C (21, 52, [some (vR 3 0 0), some (vL w1), none, some (vI x3), some (vL w4), none, some (vI x6)], [], σ) = (if (lg_cmp ((w4).toUInt64 >>> ((x6).toInt64.toUInt64 &&& Int64.toUInt64 63)).toInt64 (0 : Int64)) = 0 then pq_Rn C (21, 11, [some (vR 3 0 0), some (vL w1), none, some (vI (x3 + (1 : Int32))), some (vL w4), none, some (vI x6)], [], σ) else (if (48 : Int32) ≤ x6 then pq_Rn C (21, 11, [some (vR 3 0 0), some (vL w1), none, some (vI (x3 + (1 : Int32))), some (vL w4), none, some (vI x6)], [], σ) else (if r101 = 0 then pq_Rn C (21, 52, [some (vR 3 0 0), some (vL w1), none, some (vI x3), some (vL w4), none, some (vI (x6 + (1 : Int32)))], [], σ101) else (if (σ101.1 3 0 1 (x6).toNatClampNeg) = (-1 : Int32) then some (some (vI (1 : Int32)), σ102) else pq_Rn C (21, 52, [some (vR 3 0 0), some (vL w1), none, some (vI x3), some (vL w4), none, some (vI (x6 + (1 : Int32)))], [], σ103))))) := by
  by_cases c1 : (lg_cmp ((w4).toUInt64 >>> ((x6).toInt64.toUInt64 &&& Int64.toUInt64 63)).toInt64 (0 : Int64)) = 0
  · refine Eq.trans ?_ (if_pos c1).symm
    exact g21_52_0 C c1
  · refine Eq.trans ?_ (if_neg c1).symm
    by_cases c2 : (48 : Int32) ≤ x6
    · refine Eq.trans ?_ (if_pos c2).symm
      exact g21_52_1 C c1 c2
    · refine Eq.trans ?_ (if_neg c2).symm
      by_cases c3 : r101 = 0
      · refine Eq.trans ?_ (if_pos c3).symm
        exact g21_52_2 C c1 c2 (u1 c1 c2) c3
      · refine Eq.trans ?_ (if_neg c3).symm
        by_cases c4 : (σ101.1 3 0 1 (x6).toNatClampNeg) = (-1 : Int32)
        · refine Eq.trans ?_ (if_pos c4).symm
          exact g21_52_3 C c1 c2 (u1 c1 c2) c3 (u2 c1 c2 c3) (u3 c1 c2 c3) c4 (u4 c1 c2 c3 c4)
        · refine Eq.trans ?_ (if_neg c4).symm
          exact g21_52_4 C c1 c2 (u1 c1 c2) c3 (u2 c1 c2 c3) (u3 c1 c2 c3) c4 (u5 c1 c2 c3 c4)
theorem t22_0 (C : pmC) {σ : pmS} {x1 : Int32} (u1 : (¬ (48 : Int32) ≤ (σ.1 3 0 4 0)) → vp_in (σ.1 3 0 4 0) 48) : pq_Rn C (22, 0, [some (vR 3 0 0), some (vI x1)], [], σ) = (if (48 : Int32) ≤ (σ.1 3 0 4 0) then some (none, σ) else some (none, (pm_wi (pm_wi σ 3 0 2 ((σ.1 3 0 4 0)).toNatClampNeg x1) 3 0 4 0 ((σ.1 3 0 4 0) + (1 : Int32))))) := by
  by_cases c1 : (48 : Int32) ≤ (σ.1 3 0 4 0)
  · refine Eq.trans ?_ (if_pos c1).symm
    exact g22_0_0 C c1
  · refine Eq.trans ?_ (if_neg c1).symm
    exact g22_0_1 C c1 (u1 c1)
theorem t23_0 (C : pmC) {σ : pmS} {x1 : Int32} {l2 : Option pmV} {l3 : Option pmV} {l4 : Option pmV} {l5 : Option pmV}  : pq_Rn C (23, 0, [some (vR 3 0 0), some (vI x1), l2, l3, l4, l5], [], σ) = pq_Rn C (23, 4, [some (vR 3 0 0), some (vI x1), some (vI x1), some (vI (0 : Int32)), l4, l5], [], σ) := by
  exact g23_0_0 C 
theorem t23_4 (C : pmC) {σ : pmS} {l1 : Option pmV} {x2 : Int32} {x3 : Int32} {l4 : Option pmV} {l5 : Option pmV} {σ101 : pmS} (u1 : (¬ (48 : Int32) ≤ x3) → (¬ x2 = (-1 : Int32)) → vp_in x2 48) (u2 : (¬ (48 : Int32) ≤ x3) → (¬ x2 = (-1 : Int32)) → vp_in (σ.1 3 0 3 (x2).toNatClampNeg) 48) (u3 : (¬ (48 : Int32) ≤ x3) → (¬ x2 = (-1 : Int32)) → C 24 [vR 3 0 0, vI (σ.1 3 0 3 (x2).toNatClampNeg), vI x2] σ = some (none, σ101)) : pq_Rn C (23, 4, [some (vR 3 0 0), l1, some (vI x2), some (vI x3), l4, l5], [], σ) = (if (48 : Int32) ≤ x3 then some (none, σ) else (if x2 = (-1 : Int32) then some (none, σ) else pq_Rn C (23, 4, [some (vR 3 0 0), l1, some (vI (σ.1 3 0 1 ((σ.1 3 0 3 (x2).toNatClampNeg)).toNatClampNeg)), some (vI (x3 + (1 : Int32))), some (vI (σ.1 3 0 3 (x2).toNatClampNeg)), some (vI (σ.1 3 0 1 ((σ.1 3 0 3 (x2).toNatClampNeg)).toNatClampNeg))], [], σ101))) := by
  by_cases c1 : (48 : Int32) ≤ x3
  · refine Eq.trans ?_ (if_pos c1).symm
    exact g23_4_0 C c1
  · refine Eq.trans ?_ (if_neg c1).symm
    by_cases c2 : x2 = (-1 : Int32)
    · refine Eq.trans ?_ (if_pos c2).symm
      exact g23_4_1 C c1 c2
    · refine Eq.trans ?_ (if_neg c2).symm
      exact g23_4_2 C c1 c2 (u1 c1 c2) (u2 c1 c2) (u3 c1 c2)
theorem t24_0 (C : pmC) {σ : pmS} {x1 : Int32} {x2 : Int32} (u1 : vp_in x1 48) (u2 : vp_in x2 48) : pq_Rn C (24, 0, [some (vR 3 0 0), some (vI x1), some (vI x2)], [], σ) = some (none, (pm_wi (pm_wi σ 3 0 1 (x1).toNatClampNeg x2) 3 0 1 (x2).toNatClampNeg x1)) := by
  exact g24_0_0 C u1 u2
theorem t25_0 (C : pmC) {σ : pmS} {x1 : Int32} {l2 : Option pmV} {l3 : Option pmV} {l4 : Option pmV} (u1 : vp_in x1 48) : pq_Rn C (25, 0, [some (vR 3 0 0), some (vI x1), l2, l3, l4], [], σ) = pq_Rn C (25, 31, [some (vR 3 0 0), some (vI x1), some (vL ((σ.2 3 0 0 (x1).toNatClampNeg) &&& ((σ.2 3 0 6 0) ^^^ (-1 : Int64)))), none, some (vI (0 : Int32))], [], (pm_wl σ 3 0 5 0 ((σ.2 3 0 5 0) ||| ((1 : Int64) <<< ((x1).toInt64 &&& 63))))) := by
  exact g25_0_0 C u1
theorem t25_31 (C : pmC) {σ : pmS} {x1 : Int32} {w2 : Int64} {x4 : Int32} {r101 : Int32} {σ101 : pmS} {r102 : Int32} {σ102 : pmS} (u1 : (¬ (lg_cmp ((w2).toUInt64 >>> ((x4).toInt64.toUInt64 &&& Int64.toUInt64 63)).toInt64 (0 : Int64)) = 0) → (¬ (48 : Int32) ≤ x4) → C 19 [vL w2, vI x4] σ = some (some (vI r101), σ101)) (u2 : (¬ (lg_cmp ((w2).toUInt64 >>> ((x4).toInt64.toUInt64 &&& Int64.toUInt64 63)).toInt64 (0 : Int64)) = 0) → (¬ (48 : Int32) ≤ x4) → (¬ r101 = 0) → C 26 [vR 3 0 0, vI x1, vI x4] σ101 = some (some (vI r102), σ102)) : pq_Rn C (25, 31, [some (vR 3 0 0), some (vI x1), some (vL w2), none, some (vI x4)], [], σ) = (if (lg_cmp ((w2).toUInt64 >>> ((x4).toInt64.toUInt64 &&& Int64.toUInt64 63)).toInt64 (0 : Int64)) = 0 then some (none, σ) else (if (48 : Int32) ≤ x4 then some (none, σ) else (if r101 = 0 then pq_Rn C (25, 31, [some (vR 3 0 0), some (vI x1), some (vL w2), none, some (vI (x4 + (1 : Int32)))], [], σ101) else (if r102 = 0 then pq_Rn C (25, 31, [some (vR 3 0 0), some (vI x1), some (vL w2), none, some (vI (x4 + (1 : Int32)))], [], σ102) else some (none, σ102))))) := by
  by_cases c1 : (lg_cmp ((w2).toUInt64 >>> ((x4).toInt64.toUInt64 &&& Int64.toUInt64 63)).toInt64 (0 : Int64)) = 0
  · refine Eq.trans ?_ (if_pos c1).symm
    exact g25_31_0 C c1
  · refine Eq.trans ?_ (if_neg c1).symm
    by_cases c2 : (48 : Int32) ≤ x4
    · refine Eq.trans ?_ (if_pos c2).symm
      exact g25_31_1 C c1 c2
    · refine Eq.trans ?_ (if_neg c2).symm
      by_cases c3 : r101 = 0
      · refine Eq.trans ?_ (if_pos c3).symm
        exact g25_31_2 C c1 c2 (u1 c1 c2) c3
      · refine Eq.trans ?_ (if_neg c3).symm
        by_cases c4 : r102 = 0
        · refine Eq.trans ?_ (if_pos c4).symm
          exact g25_31_3 C c1 c2 (u1 c1 c2) c3 (u2 c1 c2 c3) c4
        · refine Eq.trans ?_ (if_neg c4).symm
          exact g25_31_4 C c1 c2 (u1 c1 c2) c3 (u2 c1 c2 c3) c4
theorem t26_0 (C : pmC) {σ : pmS} {x1 : Int32} {x2 : Int32} {l3 : Option pmV} {l4 : Option pmV} (u1 : vp_in x1 48) (u2 : vp_in x2 48) (u3 : (¬ (σ.1 3 0 1 (x2).toNatClampNeg) = x1) → (¬ (σ.1 3 0 1 (x1).toNatClampNeg) = (-1 : Int32)) → vp_in (σ.1 3 0 1 (x1).toNatClampNeg) 48) : pq_Rn C (26, 0, [some (vR 3 0 0), some (vI x1), some (vI x2), l3, l4], [], σ) = (if (σ.1 3 0 1 (x2).toNatClampNeg) = x1 then some (some (vI (1 : Int32)), (pm_wl σ 3 0 6 0 ((σ.2 3 0 6 0) ||| ((1 : Int64) <<< ((x2).toInt64 &&& 63))))) else (if (σ.1 3 0 1 (x1).toNatClampNeg) = (-1 : Int32) then pq_Rn C (26, 47, [some (vR 3 0 0), some (vI x1), some (vI x2), some (vI (σ.1 3 0 1 (x1).toNatClampNeg)), some (vI (σ.1 3 0 1 (x2).toNatClampNeg))], [], (pm_wl σ 3 0 6 0 ((σ.2 3 0 6 0) ||| ((1 : Int64) <<< ((x2).toInt64 &&& 63))))) else pq_Rn C (26, 47, [some (vR 3 0 0), some (vI x1), some (vI x2), some (vI (σ.1 3 0 1 (x1).toNatClampNeg)), some (vI (σ.1 3 0 1 (x2).toNatClampNeg))], [], (pm_wi (pm_wl σ 3 0 6 0 ((σ.2 3 0 6 0) ||| ((1 : Int64) <<< ((x2).toInt64 &&& 63)))) 3 0 1 ((σ.1 3 0 1 (x1).toNatClampNeg)).toNatClampNeg (-1 : Int32))))) := by
  by_cases c1 : (σ.1 3 0 1 (x2).toNatClampNeg) = x1
  · refine Eq.trans ?_ (if_pos c1).symm
    exact g26_0_0 C u1 u2 c1
  · refine Eq.trans ?_ (if_neg c1).symm
    by_cases c2 : (σ.1 3 0 1 (x1).toNatClampNeg) = (-1 : Int32)
    · refine Eq.trans ?_ (if_pos c2).symm
      exact g26_0_1 C u1 u2 c1 c2
    · refine Eq.trans ?_ (if_neg c2).symm
      exact g26_0_2 C u1 u2 c1 c2 (u3 c1 c2)
theorem t26_47 (C : pmC) {σ : pmS} {x1 : Int32} {x2 : Int32} {x3 : Int32} {x4 : Int32} (u1 : (¬ x4 = (-1 : Int32)) → vp_in x4 48) : pq_Rn C (26, 47, [some (vR 3 0 0), some (vI x1), some (vI x2), some (vI x3), some (vI x4)], [], σ) = (if x4 = (-1 : Int32) then pq_Rn C (26, 61, [some (vR 3 0 0), some (vI x1), some (vI x2), some (vI x3), some (vI x4)], [], σ) else pq_Rn C (26, 61, [some (vR 3 0 0), some (vI x1), some (vI x2), some (vI x3), some (vI x4)], [], (pm_wi σ 3 0 1 (x4).toNatClampNeg (-1 : Int32)))) := by
  by_cases c1 : x4 = (-1 : Int32)
  · refine Eq.trans ?_ (if_pos c1).symm
    exact g26_47_0 C c1
  · refine Eq.trans ?_ (if_neg c1).symm
    exact g26_47_1 C c1 (u1 c1)
theorem t26_61 (C : pmC) {σ : pmS} {x1 : Int32} {x2 : Int32} {x3 : Int32} {x4 : Int32} {σ101 : pmS} {r102 : Int32} {σ102 : pmS} {σ103 : pmS} {σ104 : pmS} (u1 : C 24 [vR 3 0 0, vI x1, vI x2] σ = some (none, σ101)) (u2 : (¬ x3 = (-1 : Int32)) → (¬ x4 = (-1 : Int32)) → C 21 [vR 3 0 0] σ101 = some (some (vI r102), σ102)) (u3 : (¬ x3 = (-1 : Int32)) → (¬ x4 = (-1 : Int32)) → (r102 = 0) → C 24 [vR 3 0 0, vI x1, vI x3] σ102 = some (none, σ103)) (u4 : (¬ x3 = (-1 : Int32)) → (¬ x4 = (-1 : Int32)) → (r102 = 0) → C 24 [vR 3 0 0, vI x4, vI x2] σ103 = some (none, σ104)) : pq_Rn C (26, 61, [some (vR 3 0 0), some (vI x1), some (vI x2), some (vI x3), some (vI x4)], [], σ) = (if x3 = (-1 : Int32) then pq_Rn C (26, 85, [some (vR 3 0 0), some (vI x1), some (vI x2), some (vI x3), some (vI x4)], [], σ101) else (if x4 = (-1 : Int32) then pq_Rn C (26, 85, [some (vR 3 0 0), some (vI x1), some (vI x2), some (vI x3), some (vI x4)], [], σ101) else (if r102 = 0 then some (some (vI (0 : Int32)), (pm_wl σ104 3 0 6 0 ((σ104.2 3 0 6 0) &&& (((1 : Int64) <<< ((x2).toInt64 &&& 63)) ^^^ (-1 : Int64))))) else pq_Rn C (26, 85, [some (vR 3 0 0), some (vI x1), some (vI x2), some (vI x3), some (vI x4)], [], σ102)))) := by
  by_cases c1 : x3 = (-1 : Int32)
  · refine Eq.trans ?_ (if_pos c1).symm
    exact g26_61_0 C u1 c1
  · refine Eq.trans ?_ (if_neg c1).symm
    by_cases c2 : x4 = (-1 : Int32)
    · refine Eq.trans ?_ (if_pos c2).symm
      exact g26_61_1 C u1 c1 c2
    · refine Eq.trans ?_ (if_neg c2).symm
      by_cases c3 : r102 = 0
      · refine Eq.trans ?_ (if_pos c3).symm
        exact g26_61_2 C u1 c1 c2 (u2 c1 c2) c3 (u3 c1 c2 c3) (u4 c1 c2 c3)
      · refine Eq.trans ?_ (if_neg c3).symm
        exact g26_61_3 C u1 c1 c2 (u2 c1 c2) c3
theorem t26_85 (C : pmC) {σ : pmS} {l0 : Option pmV} {l1 : Option pmV} {l2 : Option pmV} {l3 : Option pmV} {l4 : Option pmV}  : pq_Rn C (26, 85, [l0, l1, l2, l3, l4], [], σ) = some (some (vI (1 : Int32)), σ) := by
  exact g26_85_0 C 
theorem t27_0 (C : pmC) {σ : pmS} {l1 : Option pmV} {l2 : Option pmV} {l3 : Option pmV} {l4 : Option pmV} {l5 : Option pmV} {l6 : Option pmV} {σ101 : pmS} (u1 : C 20 [vR 3 0 0] (pm_wl σ 3 0 5 0 (0 : Int64)) = some (none, σ101)) : pq_Rn C (27, 0, [some (vR 3 0 0), l1, l2, l3, l4, l5, l6], [], σ) = pq_Rn C (27, 13, [some (vR 3 0 0), some (vL (0 : Int64)), none, some (vI (0 : Int32)), l4, l5, l6], [], σ101) := by
  exact g27_0_0 C u1
theorem t27_13 (C : pmC) {σ : pmS} {w1 : Int64} {x3 : Int32} {l4 : Option pmV} {l5 : Option pmV} {l6 : Option pmV} {r101 : Int32} {σ101 : pmS} {r102 : Int32} {σ102 : pmS} (u1 : ((σ.1 3 0 4 0) ≤ x3) → C 180 [vL w1] (pm_wi σ 3 0 7 0 (σ.1 3 0 4 0)) = some (some (vI r101), σ101)) (u2 : (¬ (σ.1 3 0 4 0) ≤ x3) → ((48 : Int32) ≤ x3) → C 180 [vL w1] (pm_wi σ 3 0 7 0 (σ.1 3 0 4 0)) = some (some (vI r102), σ102)) (u3 : (¬ (σ.1 3 0 4 0) ≤ x3) → (¬ (48 : Int32) ≤ x3) → vp_in x3 48) (u4 : (¬ (σ.1 3 0 4 0) ≤ x3) → (¬ (48 : Int32) ≤ x3) → vp_in (σ.1 3 0 2 (x3).toNatClampNeg) 48) : pq_Rn C (27, 13, [some (vR 3 0 0), some (vL w1), none, some (vI x3), l4, l5, l6], [], σ) = (if (σ.1 3 0 4 0) ≤ x3 then some (none, (pm_wi σ101 3 0 8 0 r101)) else (if (48 : Int32) ≤ x3 then some (none, (pm_wi σ102 3 0 8 0 r102)) else pq_Rn C (27, 54, [some (vR 3 0 0), some (vL (w1 ||| ((σ.2 3 0 0 ((σ.1 3 0 2 (x3).toNatClampNeg)).toNatClampNeg) &&& (w1 ^^^ (-1 : Int64))))), none, some (vI x3), some (vL ((σ.2 3 0 0 ((σ.1 3 0 2 (x3).toNatClampNeg)).toNatClampNeg) &&& (w1 ^^^ (-1 : Int64)))), none, some (vI (0 : Int32))], [], σ))) := by
  by_cases c1 : (σ.1 3 0 4 0) ≤ x3
  · refine Eq.trans ?_ (if_pos c1).symm
    exact g27_13_0 C c1 (u1 c1)
  · refine Eq.trans ?_ (if_neg c1).symm
    by_cases c2 : (48 : Int32) ≤ x3
    · refine Eq.trans ?_ (if_pos c2).symm
      exact g27_13_1 C c1 c2 (u2 c1 c2)
    · refine Eq.trans ?_ (if_neg c2).symm
      exact g27_13_2 C c1 c2 (u3 c1 c2) (u4 c1 c2)
theorem t27_54 (C : pmC) {σ : pmS} {w1 : Int64} {x3 : Int32} {w4 : Int64} {x6 : Int32} {r101 : Int32} {σ101 : pmS} {σ102 : pmS} (u1 : (¬ (lg_cmp ((w4).toUInt64 >>> ((x6).toInt64.toUInt64 &&& Int64.toUInt64 63)).toInt64 (0 : Int64)) = 0) → (¬ (48 : Int32) ≤ x6) → C 19 [vL w4, vI x6] σ = some (some (vI r101), σ101)) (u2 : (¬ (lg_cmp ((w4).toUInt64 >>> ((x6).toInt64.toUInt64 &&& Int64.toUInt64 63)).toInt64 (0 : Int64)) = 0) → (¬ (48 : Int32) ≤ x6) → (¬ r101 = 0) → vp_in x6 48) (u3 : (¬ (lg_cmp ((w4).toUInt64 >>> ((x6).toInt64.toUInt64 &&& Int64.toUInt64 63)).toInt64 (0 : Int64)) = 0) → (¬ (48 : Int32) ≤ x6) → (¬ r101 = 0) → (¬ (σ101.1 3 0 1 (x6).toNatClampNeg) = (-1 : Int32)) → C 22 [vR 3 0 0, vI (σ101.1 3 0 1 (x6).toNatClampNeg)] σ101 = some (none, σ102)) : pq_Rn C (27, 54, [some (vR 3 0 0), some (vL w1), none, some (vI x3), some (vL w4), none, some (vI x6)], [], σ) = (if (lg_cmp ((w4).toUInt64 >>> ((x6).toInt64.toUInt64 &&& Int64.toUInt64 63)).toInt64 (0 : Int64)) = 0 then pq_Rn C (27, 13, [some (vR 3 0 0), some (vL w1), none, some (vI (x3 + (1 : Int32))), some (vL w4), none, some (vI x6)], [], σ) else (if (48 : Int32) ≤ x6 then pq_Rn C (27, 13, [some (vR 3 0 0), some (vL w1), none, some (vI (x3 + (1 : Int32))), some (vL w4), none, some (vI x6)], [], σ) else (if r101 = 0 then pq_Rn C (27, 54, [some (vR 3 0 0), some (vL w1), none, some (vI x3), some (vL w4), none, some (vI (x6 + (1 : Int32)))], [], σ101) else (if (σ101.1 3 0 1 (x6).toNatClampNeg) = (-1 : Int32) then pq_Rn C (27, 54, [some (vR 3 0 0), some (vL w1), none, some (vI x3), some (vL w4), none, some (vI (x6 + (1 : Int32)))], [], σ101) else pq_Rn C (27, 54, [some (vR 3 0 0), some (vL w1), none, some (vI x3), some (vL w4), none, some (vI (x6 + (1 : Int32)))], [], σ102))))) := by
  by_cases c1 : (lg_cmp ((w4).toUInt64 >>> ((x6).toInt64.toUInt64 &&& Int64.toUInt64 63)).toInt64 (0 : Int64)) = 0
  · refine Eq.trans ?_ (if_pos c1).symm
    exact g27_54_0 C c1
  · refine Eq.trans ?_ (if_neg c1).symm
    by_cases c2 : (48 : Int32) ≤ x6
    · refine Eq.trans ?_ (if_pos c2).symm
      exact g27_54_1 C c1 c2
    · refine Eq.trans ?_ (if_neg c2).symm
      by_cases c3 : r101 = 0
      · refine Eq.trans ?_ (if_pos c3).symm
        exact g27_54_2 C c1 c2 (u1 c1 c2) c3
      · refine Eq.trans ?_ (if_neg c3).symm
        by_cases c4 : (σ101.1 3 0 1 (x6).toNatClampNeg) = (-1 : Int32)
        · refine Eq.trans ?_ (if_pos c4).symm
          exact g27_54_3 C c1 c2 (u1 c1 c2) c3 (u2 c1 c2 c3) c4
        · refine Eq.trans ?_ (if_neg c4).symm
          exact g27_54_4 C c1 c2 (u1 c1 c2) c3 (u2 c1 c2 c3) c4 (u3 c1 c2 c3 c4)
theorem t28_0 (C : pmC) {σ : pmS} {o1 : Nat} {o2 : Nat} {σ101 : pmS} (u1 : C 29 [vR 4 0 0, vR 2 o1 0, vR 2 o2 0, vI (0 : Int32), vI (0 : Int32)] (pm_wi (pm_wi (pm_wi σ 4 0 4 0 (σ.1 2 o1 8 0)) 4 0 2 0 (0 : Int32)) 4 0 3 0 (-1 : Int32)) = some (none, σ101)) : pq_Rn C (28, 0, [some (vR 4 0 0), some (vR 2 o1 0), some (vR 2 o2 0)], [], σ) = some (some (vI (σ101.1 4 0 3 0)), σ101) := by
  exact g28_0_0 C u1
theorem t29_0 (C : pmC) {σ : pmS} {o1 : Nat} {o2 : Nat} {x3 : Int32} {x4 : Int32} {l5 : Option pmV} {l6 : Option pmV} (u1 : ((σ.1 4 0 3 0) < (((2 : Int32) * (σ.1 4 0 4 0)) - x4)) → (¬ x3 < (σ.1 4 0 4 0)) → ¬ (σ.1 4 0 4 0) < 0) (u2 : ((σ.1 4 0 3 0) < (((2 : Int32) * (σ.1 4 0 4 0)) - x4)) → (¬ x3 < (σ.1 4 0 4 0)) → ((σ.1 4 0 4 0)).toNatClampNeg ≤ 8) (u3 : ((σ.1 4 0 3 0) < (((2 : Int32) * (σ.1 4 0 4 0)) - x4)) → (¬ x3 < (σ.1 4 0 4 0)) → ((σ.1 4 0 4 0)).toNatClampNeg ≤ 8) : pq_Rn C (29, 0, [some (vR 4 0 0), some (vR 2 o1 0), some (vR 2 o2 0), some (vI x3), some (vI x4), l5, l6], [], σ) = (if (σ.1 4 0 3 0) < (((2 : Int32) * (σ.1 4 0 4 0)) - x4) then (if x3 < (σ.1 4 0 4 0) then pq_Rn C (29, 59, [some (vR 4 0 0), some (vR 2 o1 0), some (vR 2 o2 0), some (vI x3), some (vI x4), some (vI (0 : Int32)), l6], [], σ) else some (none, (pm_wr (pm_wi σ 4 0 3 0 (((2 : Int32) * (σ.1 4 0 4 0)) - x4)) 4 0 0 (va_cpy ((pm_wi σ 4 0 3 0 (((2 : Int32) * (σ.1 4 0 4 0)) - x4)).1 4 0 1) ((pm_wi σ 4 0 3 0 (((2 : Int32) * (σ.1 4 0 4 0)) - x4)).1 4 0 0) 0 0 ((σ.1 4 0 4 0)).toNatClampNeg)))) else some (none, σ)) := by
  by_cases c1 : (σ.1 4 0 3 0) < (((2 : Int32) * (σ.1 4 0 4 0)) - x4)
  · refine Eq.trans ?_ (if_pos c1).symm
    by_cases c2 : x3 < (σ.1 4 0 4 0)
    · refine Eq.trans ?_ (if_pos c2).symm
      exact g29_0_0 C c1 c2
    · refine Eq.trans ?_ (if_neg c2).symm
      exact g29_0_1 C c1 c2 (u1 c1 c2) (u2 c1 c2) (u3 c1 c2)
  · refine Eq.trans ?_ (if_neg c1).symm
    exact g29_0_2 C c1
theorem t29_59 (C : pmC) {σ : pmS} {o1 : Nat} {o2 : Nat} {x3 : Int32} {x4 : Int32} {x5 : Int32} {l6 : Option pmV} {r101 : Int32} {σ101 : pmS} {r102 : Int32} {σ102 : pmS} {σ103 : pmS} (u1 : (¬ (σ.1 4 0 4 0) ≤ x5) → ((((σ.1 4 0 2 0) >>> (x5 &&& 31)) &&& (1 : Int32)) = 0) → vp_in x3 8) (u2 : (¬ (σ.1 4 0 4 0) ≤ x5) → ((((σ.1 4 0 2 0) >>> (x5 &&& 31)) &&& (1 : Int32)) = 0) → C 30 [vR 4 0 0, vR 2 o1 1, vR 2 o1 2, vR 2 o2 1, vI x3] (pm_wi (pm_wi σ 4 0 1 (x3).toNatClampNeg x5) 4 0 2 0 ((σ.1 4 0 2 0) ||| ((1 : Int32) <<< (x5 &&& 31)))) = some (some (vI r101), σ101)) (u3 : (¬ (σ.1 4 0 4 0) ≤ x5) → ((((σ.1 4 0 2 0) >>> (x5 &&& 31)) &&& (1 : Int32)) = 0) → C 30 [vR 4 0 0, vR 2 o1 3, vR 2 o1 5, vR 2 o2 3, vI x3] σ101 = some (some (vI r102), σ102)) (u4 : (¬ (σ.1 4 0 4 0) ≤ x5) → ((((σ.1 4 0 2 0) >>> (x5 &&& 31)) &&& (1 : Int32)) = 0) → C 29 [vR 4 0 0, vR 2 o1 0, vR 2 o2 0, vI (x3 + (1 : Int32)), vI (x4 + (r101 + r102))] σ102 = some (none, σ103)) : pq_Rn C (29, 59, [some (vR 4 0 0), some (vR 2 o1 0), some (vR 2 o2 0), some (vI x3), some (vI x4), some (vI x5), l6], [], σ) = (if (σ.1 4 0 4 0) ≤ x5 then some (none, σ) else (if (((σ.1 4 0 2 0) >>> (x5 &&& 31)) &&& (1 : Int32)) = 0 then pq_Rn C (29, 59, [some (vR 4 0 0), some (vR 2 o1 0), some (vR 2 o2 0), some (vI x3), some (vI x4), some (vI (x5 + (1 : Int32))), some (vI (r101 + r102))], [], (pm_wi σ103 4 0 2 0 ((σ103.1 4 0 2 0) &&& (((1 : Int32) <<< (x5 &&& 31)) ^^^ (-1 : Int32))))) else pq_Rn C (29, 59, [some (vR 4 0 0), some (vR 2 o1 0), some (vR 2 o2 0), some (vI x3), some (vI x4), some (vI (x5 + (1 : Int32))), l6], [], σ))) := by
  by_cases c1 : (σ.1 4 0 4 0) ≤ x5
  · refine Eq.trans ?_ (if_pos c1).symm
    exact g29_59_0 C c1
  · refine Eq.trans ?_ (if_neg c1).symm
    by_cases c2 : (((σ.1 4 0 2 0) >>> (x5 &&& 31)) &&& (1 : Int32)) = 0
    · refine Eq.trans ?_ (if_pos c2).symm
      exact g29_59_1 C c1 c2 (u1 c1 c2) (u2 c1 c2) (u3 c1 c2) (u4 c1 c2)
    · refine Eq.trans ?_ (if_neg c2).symm
      exact g29_59_2 C c1 c2
theorem t30a_0 (C : pmC) {σ : pmS} {o1 : Nat} {o2 : Nat} {o3 : Nat} {x4 : Int32} {l5 : Option pmV} {l6 : Option pmV} (u1 : vp_in x4 8) (u2 : (x4 < (σ.1 2 o1 0 (x4).toNatClampNeg)) → (¬ x4 ≤ (σ.1 2 o2 1 (x4).toNatClampNeg)) → vp_in (σ.1 2 o2 1 (x4).toNatClampNeg) 8) (u3 : (x4 < (σ.1 2 o1 0 (x4).toNatClampNeg)) → (¬ x4 ≤ (σ.1 2 o2 1 (x4).toNatClampNeg)) → vp_in (σ.1 4 0 1 ((σ.1 2 o2 1 (x4).toNatClampNeg)).toNatClampNeg) 8) (u4 : (¬ x4 < (σ.1 2 o1 0 (x4).toNatClampNeg)) → vp_in (σ.1 2 o1 0 (x4).toNatClampNeg) 8) (u5 : (¬ x4 < (σ.1 2 o1 0 (x4).toNatClampNeg)) → vp_in (σ.1 4 0 1 (x4).toNatClampNeg) 8) (u6 : (¬ x4 < (σ.1 2 o1 0 (x4).toNatClampNeg)) → ((σ.1 4 0 1 ((σ.1 2 o1 0 (x4).toNatClampNeg)).toNatClampNeg) = (σ.1 2 o3 0 ((σ.1 4 0 1 (x4).toNatClampNeg)).toNatClampNeg)) → (¬ x4 ≤ (σ.1 2 o2 1 (x4).toNatClampNeg)) → vp_in (σ.1 2 o2 1 (x4).toNatClampNeg) 8) (u7 : (¬ x4 < (σ.1 2 o1 0 (x4).toNatClampNeg)) → ((σ.1 4 0 1 ((σ.1 2 o1 0 (x4).toNatClampNeg)).toNatClampNeg) = (σ.1 2 o3 0 ((σ.1 4 0 1 (x4).toNatClampNeg)).toNatClampNeg)) → (¬ x4 ≤ (σ.1 2 o2 1 (x4).toNatClampNeg)) → vp_in (σ.1 4 0 1 ((σ.1 2 o2 1 (x4).toNatClampNeg)).toNatClampNeg) 8) (u8 : (¬ x4 < (σ.1 2 o1 0 (x4).toNatClampNeg)) → (¬ (σ.1 4 0 1 ((σ.1 2 o1 0 (x4).toNatClampNeg)).toNatClampNeg) = (σ.1 2 o3 0 ((σ.1 4 0 1 (x4).toNatClampNeg)).toNatClampNeg)) → (¬ x4 ≤ (σ.1 2 o2 1 (x4).toNatClampNeg)) → vp_in (σ.1 2 o2 1 (x4).toNatClampNeg) 8) (u9 : (¬ x4 < (σ.1 2 o1 0 (x4).toNatClampNeg)) → (¬ (σ.1 4 0 1 ((σ.1 2 o1 0 (x4).toNatClampNeg)).toNatClampNeg) = (σ.1 2 o3 0 ((σ.1 4 0 1 (x4).toNatClampNeg)).toNatClampNeg)) → (¬ x4 ≤ (σ.1 2 o2 1 (x4).toNatClampNeg)) → vp_in (σ.1 4 0 1 ((σ.1 2 o2 1 (x4).toNatClampNeg)).toNatClampNeg) 8) : pq_Rn C (30, 0, [some (vR 4 0 0), some (vR 2 o1 1), some (vR 2 o2 2), some (vR 2 o3 1), some (vI x4), l5, l6], [], σ) = (if x4 < (σ.1 2 o1 0 (x4).toNatClampNeg) then (if x4 ≤ (σ.1 2 o2 1 (x4).toNatClampNeg) then some (some (vI (0 : Int32)), σ) else (if (σ.1 4 0 1 (x4).toNatClampNeg) = (σ.1 2 o3 0 ((σ.1 4 0 1 ((σ.1 2 o2 1 (x4).toNatClampNeg)).toNatClampNeg)).toNatClampNeg) then some (some (vI (0 : Int32)), σ) else some (some (vI ((0 : Int32) + (1 : Int32))), σ))) else (if (σ.1 4 0 1 ((σ.1 2 o1 0 (x4).toNatClampNeg)).toNatClampNeg) = (σ.1 2 o3 0 ((σ.1 4 0 1 (x4).toNatClampNeg)).toNatClampNeg) then (if x4 ≤ (σ.1 2 o2 1 (x4).toNatClampNeg) then some (some (vI (0 : Int32)), σ) else (if (σ.1 4 0 1 (x4).toNatClampNeg) = (σ.1 2 o3 0 ((σ.1 4 0 1 ((σ.1 2 o2 1 (x4).toNatClampNeg)).toNatClampNeg)).toNatClampNeg) then some (some (vI (0 : Int32)), σ) else some (some (vI ((0 : Int32) + (1 : Int32))), σ))) else (if x4 ≤ (σ.1 2 o2 1 (x4).toNatClampNeg) then some (some (vI ((0 : Int32) + (1 : Int32))), σ) else (if (σ.1 4 0 1 (x4).toNatClampNeg) = (σ.1 2 o3 0 ((σ.1 4 0 1 ((σ.1 2 o2 1 (x4).toNatClampNeg)).toNatClampNeg)).toNatClampNeg) then some (some (vI ((0 : Int32) + (1 : Int32))), σ) else some (some (vI (((0 : Int32) + (1 : Int32)) + (1 : Int32))), σ))))) := by
  by_cases c1 : x4 < (σ.1 2 o1 0 (x4).toNatClampNeg)
  · refine Eq.trans ?_ (if_pos c1).symm
    by_cases c2 : x4 ≤ (σ.1 2 o2 1 (x4).toNatClampNeg)
    · refine Eq.trans ?_ (if_pos c2).symm
      exact g30a_0_0 C u1 c1 c2
    · refine Eq.trans ?_ (if_neg c2).symm
      by_cases c3 : (σ.1 4 0 1 (x4).toNatClampNeg) = (σ.1 2 o3 0 ((σ.1 4 0 1 ((σ.1 2 o2 1 (x4).toNatClampNeg)).toNatClampNeg)).toNatClampNeg)
      · refine Eq.trans ?_ (if_pos c3).symm
        exact g30a_0_1 C u1 c1 c2 (u2 c1 c2) (u3 c1 c2) c3
      · refine Eq.trans ?_ (if_neg c3).symm
        exact g30a_0_2 C u1 c1 c2 (u2 c1 c2) (u3 c1 c2) c3
  · refine Eq.trans ?_ (if_neg c1).symm
    by_cases c4 : (σ.1 4 0 1 ((σ.1 2 o1 0 (x4).toNatClampNeg)).toNatClampNeg) = (σ.1 2 o3 0 ((σ.1 4 0 1 (x4).toNatClampNeg)).toNatClampNeg)
    · refine Eq.trans ?_ (if_pos c4).symm
      by_cases c5 : x4 ≤ (σ.1 2 o2 1 (x4).toNatClampNeg)
      · refine Eq.trans ?_ (if_pos c5).symm
        exact g30a_0_3 C u1 c1 (u4 c1) (u5 c1) c4 c5
      · refine Eq.trans ?_ (if_neg c5).symm
        by_cases c6 : (σ.1 4 0 1 (x4).toNatClampNeg) = (σ.1 2 o3 0 ((σ.1 4 0 1 ((σ.1 2 o2 1 (x4).toNatClampNeg)).toNatClampNeg)).toNatClampNeg)
        · refine Eq.trans ?_ (if_pos c6).symm
          exact g30a_0_4 C u1 c1 (u4 c1) (u5 c1) c4 c5 (u6 c1 c4 c5) (u7 c1 c4 c5) c6
        · refine Eq.trans ?_ (if_neg c6).symm
          exact g30a_0_5 C u1 c1 (u4 c1) (u5 c1) c4 c5 (u6 c1 c4 c5) (u7 c1 c4 c5) c6
    · refine Eq.trans ?_ (if_neg c4).symm
      by_cases c7 : x4 ≤ (σ.1 2 o2 1 (x4).toNatClampNeg)
      · refine Eq.trans ?_ (if_pos c7).symm
        exact g30a_0_6 C u1 c1 (u4 c1) (u5 c1) c4 c7
      · refine Eq.trans ?_ (if_neg c7).symm
        by_cases c8 : (σ.1 4 0 1 (x4).toNatClampNeg) = (σ.1 2 o3 0 ((σ.1 4 0 1 ((σ.1 2 o2 1 (x4).toNatClampNeg)).toNatClampNeg)).toNatClampNeg)
        · refine Eq.trans ?_ (if_pos c8).symm
          exact g30a_0_7 C u1 c1 (u4 c1) (u5 c1) c4 c7 (u8 c1 c4 c7) (u9 c1 c4 c7) c8
        · refine Eq.trans ?_ (if_neg c8).symm
          exact g30a_0_8 C u1 c1 (u4 c1) (u5 c1) c4 c7 (u8 c1 c4 c7) (u9 c1 c4 c7) c8
theorem t30b_0 (C : pmC) {σ : pmS} {o1 : Nat} {o2 : Nat} {o3 : Nat} {x4 : Int32} {l5 : Option pmV} {l6 : Option pmV} (u1 : vp_in x4 8) (u2 : (x4 < (σ.1 2 o1 2 (x4).toNatClampNeg)) → (¬ x4 ≤ (σ.1 2 o2 4 (x4).toNatClampNeg)) → vp_in (σ.1 2 o2 4 (x4).toNatClampNeg) 8) (u3 : (x4 < (σ.1 2 o1 2 (x4).toNatClampNeg)) → (¬ x4 ≤ (σ.1 2 o2 4 (x4).toNatClampNeg)) → vp_in (σ.1 4 0 1 ((σ.1 2 o2 4 (x4).toNatClampNeg)).toNatClampNeg) 8) (u4 : (¬ x4 < (σ.1 2 o1 2 (x4).toNatClampNeg)) → vp_in (σ.1 2 o1 2 (x4).toNatClampNeg) 8) (u5 : (¬ x4 < (σ.1 2 o1 2 (x4).toNatClampNeg)) → vp_in (σ.1 4 0 1 (x4).toNatClampNeg) 8) (u6 : (¬ x4 < (σ.1 2 o1 2 (x4).toNatClampNeg)) → ((σ.1 4 0 1 ((σ.1 2 o1 2 (x4).toNatClampNeg)).toNatClampNeg) = (σ.1 2 o3 2 ((σ.1 4 0 1 (x4).toNatClampNeg)).toNatClampNeg)) → (¬ x4 ≤ (σ.1 2 o2 4 (x4).toNatClampNeg)) → vp_in (σ.1 2 o2 4 (x4).toNatClampNeg) 8) (u7 : (¬ x4 < (σ.1 2 o1 2 (x4).toNatClampNeg)) → ((σ.1 4 0 1 ((σ.1 2 o1 2 (x4).toNatClampNeg)).toNatClampNeg) = (σ.1 2 o3 2 ((σ.1 4 0 1 (x4).toNatClampNeg)).toNatClampNeg)) → (¬ x4 ≤ (σ.1 2 o2 4 (x4).toNatClampNeg)) → vp_in (σ.1 4 0 1 ((σ.1 2 o2 4 (x4).toNatClampNeg)).toNatClampNeg) 8) (u8 : (¬ x4 < (σ.1 2 o1 2 (x4).toNatClampNeg)) → (¬ (σ.1 4 0 1 ((σ.1 2 o1 2 (x4).toNatClampNeg)).toNatClampNeg) = (σ.1 2 o3 2 ((σ.1 4 0 1 (x4).toNatClampNeg)).toNatClampNeg)) → (¬ x4 ≤ (σ.1 2 o2 4 (x4).toNatClampNeg)) → vp_in (σ.1 2 o2 4 (x4).toNatClampNeg) 8) (u9 : (¬ x4 < (σ.1 2 o1 2 (x4).toNatClampNeg)) → (¬ (σ.1 4 0 1 ((σ.1 2 o1 2 (x4).toNatClampNeg)).toNatClampNeg) = (σ.1 2 o3 2 ((σ.1 4 0 1 (x4).toNatClampNeg)).toNatClampNeg)) → (¬ x4 ≤ (σ.1 2 o2 4 (x4).toNatClampNeg)) → vp_in (σ.1 4 0 1 ((σ.1 2 o2 4 (x4).toNatClampNeg)).toNatClampNeg) 8) : pq_Rn C (30, 0, [some (vR 4 0 0), some (vR 2 o1 3), some (vR 2 o2 5), some (vR 2 o3 3), some (vI x4), l5, l6], [], σ) = (if x4 < (σ.1 2 o1 2 (x4).toNatClampNeg) then (if x4 ≤ (σ.1 2 o2 4 (x4).toNatClampNeg) then some (some (vI (0 : Int32)), σ) else (if (σ.1 4 0 1 (x4).toNatClampNeg) = (σ.1 2 o3 2 ((σ.1 4 0 1 ((σ.1 2 o2 4 (x4).toNatClampNeg)).toNatClampNeg)).toNatClampNeg) then some (some (vI (0 : Int32)), σ) else some (some (vI ((0 : Int32) + (1 : Int32))), σ))) else (if (σ.1 4 0 1 ((σ.1 2 o1 2 (x4).toNatClampNeg)).toNatClampNeg) = (σ.1 2 o3 2 ((σ.1 4 0 1 (x4).toNatClampNeg)).toNatClampNeg) then (if x4 ≤ (σ.1 2 o2 4 (x4).toNatClampNeg) then some (some (vI (0 : Int32)), σ) else (if (σ.1 4 0 1 (x4).toNatClampNeg) = (σ.1 2 o3 2 ((σ.1 4 0 1 ((σ.1 2 o2 4 (x4).toNatClampNeg)).toNatClampNeg)).toNatClampNeg) then some (some (vI (0 : Int32)), σ) else some (some (vI ((0 : Int32) + (1 : Int32))), σ))) else (if x4 ≤ (σ.1 2 o2 4 (x4).toNatClampNeg) then some (some (vI ((0 : Int32) + (1 : Int32))), σ) else (if (σ.1 4 0 1 (x4).toNatClampNeg) = (σ.1 2 o3 2 ((σ.1 4 0 1 ((σ.1 2 o2 4 (x4).toNatClampNeg)).toNatClampNeg)).toNatClampNeg) then some (some (vI ((0 : Int32) + (1 : Int32))), σ) else some (some (vI (((0 : Int32) + (1 : Int32)) + (1 : Int32))), σ))))) := by
  by_cases c1 : x4 < (σ.1 2 o1 2 (x4).toNatClampNeg)
  · refine Eq.trans ?_ (if_pos c1).symm
    by_cases c2 : x4 ≤ (σ.1 2 o2 4 (x4).toNatClampNeg)
    · refine Eq.trans ?_ (if_pos c2).symm
      exact g30b_0_0 C u1 c1 c2
    · refine Eq.trans ?_ (if_neg c2).symm
      by_cases c3 : (σ.1 4 0 1 (x4).toNatClampNeg) = (σ.1 2 o3 2 ((σ.1 4 0 1 ((σ.1 2 o2 4 (x4).toNatClampNeg)).toNatClampNeg)).toNatClampNeg)
      · refine Eq.trans ?_ (if_pos c3).symm
        exact g30b_0_1 C u1 c1 c2 (u2 c1 c2) (u3 c1 c2) c3
      · refine Eq.trans ?_ (if_neg c3).symm
        exact g30b_0_2 C u1 c1 c2 (u2 c1 c2) (u3 c1 c2) c3
  · refine Eq.trans ?_ (if_neg c1).symm
    by_cases c4 : (σ.1 4 0 1 ((σ.1 2 o1 2 (x4).toNatClampNeg)).toNatClampNeg) = (σ.1 2 o3 2 ((σ.1 4 0 1 (x4).toNatClampNeg)).toNatClampNeg)
    · refine Eq.trans ?_ (if_pos c4).symm
      by_cases c5 : x4 ≤ (σ.1 2 o2 4 (x4).toNatClampNeg)
      · refine Eq.trans ?_ (if_pos c5).symm
        exact g30b_0_3 C u1 c1 (u4 c1) (u5 c1) c4 c5
      · refine Eq.trans ?_ (if_neg c5).symm
        by_cases c6 : (σ.1 4 0 1 (x4).toNatClampNeg) = (σ.1 2 o3 2 ((σ.1 4 0 1 ((σ.1 2 o2 4 (x4).toNatClampNeg)).toNatClampNeg)).toNatClampNeg)
        · refine Eq.trans ?_ (if_pos c6).symm
          exact g30b_0_4 C u1 c1 (u4 c1) (u5 c1) c4 c5 (u6 c1 c4 c5) (u7 c1 c4 c5) c6
        · refine Eq.trans ?_ (if_neg c6).symm
          exact g30b_0_5 C u1 c1 (u4 c1) (u5 c1) c4 c5 (u6 c1 c4 c5) (u7 c1 c4 c5) c6
    · refine Eq.trans ?_ (if_neg c4).symm
      by_cases c7 : x4 ≤ (σ.1 2 o2 4 (x4).toNatClampNeg)
      · refine Eq.trans ?_ (if_pos c7).symm
        exact g30b_0_6 C u1 c1 (u4 c1) (u5 c1) c4 c7
      · refine Eq.trans ?_ (if_neg c7).symm
        by_cases c8 : (σ.1 4 0 1 (x4).toNatClampNeg) = (σ.1 2 o3 2 ((σ.1 4 0 1 ((σ.1 2 o2 4 (x4).toNatClampNeg)).toNatClampNeg)).toNatClampNeg)
        · refine Eq.trans ?_ (if_pos c8).symm
          exact g30b_0_7 C u1 c1 (u4 c1) (u5 c1) c4 c7 (u8 c1 c4 c7) (u9 c1 c4 c7) c8
        · refine Eq.trans ?_ (if_neg c8).symm
          exact g30b_0_8 C u1 c1 (u4 c1) (u5 c1) c4 c7 (u8 c1 c4 c7) (u9 c1 c4 c7) c8
theorem t31_0 (C : pmC) {σ : pmS} {x1 : Int32} {x2 : Int32} {x3 : Int32} {l4 : Option pmV} (u1 : vp_in (σ.1 5 0 9 0) 48) : pq_Rn C (31, 0, [some (vR 5 0 0), some (vI x1), some (vI x2), some (vI x3), l4], [], σ) = some (some (vI (σ.1 5 0 9 0)), (pm_wi (pm_wi (pm_wi (pm_wi (pm_wi (pm_wi (pm_wi (pm_wi (pm_wi (pm_wi σ 5 0 0 ((σ.1 5 0 9 0)).toNatClampNeg x1) 5 0 1 ((σ.1 5 0 9 0)).toNatClampNeg x2) 5 0 2 ((σ.1 5 0 9 0)).toNatClampNeg (-1 : Int32)) 5 0 3 ((σ.1 5 0 9 0)).toNatClampNeg x3) 5 0 4 ((σ.1 5 0 9 0)).toNatClampNeg (-1 : Int32)) 5 0 5 ((σ.1 5 0 9 0)).toNatClampNeg (-1 : Int32)) 5 0 6 ((σ.1 5 0 9 0)).toNatClampNeg (-1 : Int32)) 5 0 7 ((σ.1 5 0 9 0)).toNatClampNeg (-1 : Int32)) 5 0 8 ((σ.1 5 0 9 0)).toNatClampNeg (-1 : Int32)) 5 0 9 0 ((σ.1 5 0 9 0) + (1 : Int32)))) := by
  exact g31_0_0 C u1
theorem t32_0 (C : pmC) {σ : pmS} {x1 : Int32}  : pq_Rn C (32, 0, [some (vR 5 0 0), some (vI x1)], [], σ) = (if x1 < 0 then some (some (vI (0 : Int32)), σ) else (if (σ.1 5 0 9 0) ≤ x1 then some (some (vI (0 : Int32)), σ) else some (some (vI (1 : Int32)), σ))) := by
  by_cases c1 : x1 < 0
  · refine Eq.trans ?_ (if_pos c1).symm
    exact g32_0_0 C c1
  · refine Eq.trans ?_ (if_neg c1).symm
    by_cases c2 : (σ.1 5 0 9 0) ≤ x1
    · refine Eq.trans ?_ (if_pos c2).symm
      exact g32_0_1 C c1 c2
    · refine Eq.trans ?_ (if_neg c2).symm
      exact g32_0_2 C c1 c2
theorem t33_0 (C : pmC) {σ : pmS} {x1 : Int32} (u1 : vp_in x1 48) : pq_Rn C (33, 0, [some (vR 5 0 0), some (vI x1)], [], σ) = (if (σ.1 5 0 4 (x1).toNatClampNeg) = (-1 : Int32) then some (some (vI (1 : Int32)), σ) else some (some (vI (0 : Int32)), σ)) := by
  by_cases c1 : (σ.1 5 0 4 (x1).toNatClampNeg) = (-1 : Int32)
  · refine Eq.trans ?_ (if_pos c1).symm
    exact g33_0_0 C u1 c1
  · refine Eq.trans ?_ (if_neg c1).symm
    exact g33_0_1 C u1 c1
theorem t34_0 (C : pmC) {σ : pmS} {x1 : Int32} {x2 : Int32} (u1 : vp_in x1 48) : pq_Rn C (34, 0, [some (vR 5 0 0), some (vI x1), some (vI x2)], [], σ) = (if x2 < (σ.1 5 0 1 (x1).toNatClampNeg) then some (some (vI (0 : Int32)), σ) else (if (σ.1 5 0 2 (x1).toNatClampNeg) = (-1 : Int32) then some (some (vI (1 : Int32)), σ) else (if (σ.1 5 0 2 (x1).toNatClampNeg) ≤ x2 then some (some (vI (0 : Int32)), σ) else some (some (vI (1 : Int32)), σ)))) := by
  by_cases c1 : x2 < (σ.1 5 0 1 (x1).toNatClampNeg)
  · refine Eq.trans ?_ (if_pos c1).symm
    exact g34_0_0 C u1 c1
  · refine Eq.trans ?_ (if_neg c1).symm
    by_cases c2 : (σ.1 5 0 2 (x1).toNatClampNeg) = (-1 : Int32)
    · refine Eq.trans ?_ (if_pos c2).symm
      exact g34_0_1 C u1 c1 c2
    · refine Eq.trans ?_ (if_neg c2).symm
      by_cases c3 : (σ.1 5 0 2 (x1).toNatClampNeg) ≤ x2
      · refine Eq.trans ?_ (if_pos c3).symm
        exact g34_0_2 C u1 c1 c2 c3
      · refine Eq.trans ?_ (if_neg c3).symm
        exact g34_0_3 C u1 c1 c2 c3
theorem t35_0 (C : pmC) {σ : pmS} {x1 : Int32} {x2 : Int32} (u1 : vp_in x2 48) : pq_Rn C (35, 0, [some (vR 5 0 0), some (vI x1), some (vI x2)], [], σ) = (if (σ.1 5 0 4 (x2).toNatClampNeg) = x1 then some (some (vI (1 : Int32)), σ) else (if (σ.1 5 0 5 (x2).toNatClampNeg) = x1 then some (some (vI (1 : Int32)), σ) else some (some (vI (0 : Int32)), σ))) := by
  by_cases c1 : (σ.1 5 0 4 (x2).toNatClampNeg) = x1
  · refine Eq.trans ?_ (if_pos c1).symm
    exact g35_0_0 C u1 c1
  · refine Eq.trans ?_ (if_neg c1).symm
    by_cases c2 : (σ.1 5 0 5 (x2).toNatClampNeg) = x1
    · refine Eq.trans ?_ (if_pos c2).symm
      exact g35_0_1 C u1 c1 c2
    · refine Eq.trans ?_ (if_neg c2).symm
      exact g35_0_2 C u1 c1 c2
theorem t36_0 (C : pmC) {σ : pmS} {x1 : Int32} {x2 : Int32} {r101 : Int32} {σ101 : pmS} {r102 : Int32} {σ102 : pmS} {r103 : Int32} {σ103 : pmS} (u1 : C 35 [vR 5 0 0, vI x1, vI x2] σ = some (some (vI r101), σ101)) (u2 : (r101 = 0) → C 35 [vR 5 0 0, vI x2, vI x1] σ101 = some (some (vI r102), σ102)) (u3 : (r101 = 0) → (r102 = 0) → C 33 [vR 5 0 0, vI x1] σ102 = some (some (vI r103), σ103)) (u4 : (r101 = 0) → (r102 = 0) → (r103 = 0) → vp_in x1 48) (u5 : (r101 = 0) → (r102 = 0) → (r103 = 0) → vp_in x2 48) : pq_Rn C (36, 0, [some (vR 5 0 0), some (vI x1), some (vI x2)], [], σ) = (if r101 = 0 then (if r102 = 0 then (if r103 = 0 then (if (σ103.1 5 0 4 (x1).toNatClampNeg) = (σ103.1 5 0 4 (x2).toNatClampNeg) then some (some (vI (1 : Int32)), σ103) else (if (σ103.1 5 0 5 (x1).toNatClampNeg) = (σ103.1 5 0 5 (x2).toNatClampNeg) then some (some (vI (1 : Int32)), σ103) else some (some (vI (0 : Int32)), σ103))) else some (some (vI (0 : Int32)), σ103)) else some (some (vI (1 : Int32)), σ102)) else some (some (vI (1 : Int32)), σ101)) := by
  by_cases c1 : r101 = 0
  · refine Eq.trans ?_ (if_pos c1).symm
    by_cases c2 : r102 = 0
    · refine Eq.trans ?_ (if_pos c2).symm
      by_cases c3 : r103 = 0
      · refine Eq.trans ?_ (if_pos c3).symm
        by_cases c4 : (σ103.1 5 0 4 (x1).toNatClampNeg) = (σ103.1 5 0 4 (x2).toNatClampNeg)
        · refine Eq.trans ?_ (if_pos c4).symm
          exact g36_0_0 C u1 c1 (u2 c1) c2 (u3 c1 c2) c3 (u4 c1 c2 c3) (u5 c1 c2 c3) c4
        · refine Eq.trans ?_ (if_neg c4).symm
          by_cases c5 : (σ103.1 5 0 5 (x1).toNatClampNeg) = (σ103.1 5 0 5 (x2).toNatClampNeg)
          · refine Eq.trans ?_ (if_pos c5).symm
            exact g36_0_1 C u1 c1 (u2 c1) c2 (u3 c1 c2) c3 (u4 c1 c2 c3) (u5 c1 c2 c3) c4 c5
          · refine Eq.trans ?_ (if_neg c5).symm
            exact g36_0_2 C u1 c1 (u2 c1) c2 (u3 c1 c2) c3 (u4 c1 c2 c3) (u5 c1 c2 c3) c4 c5
      · refine Eq.trans ?_ (if_neg c3).symm
        exact g36_0_3 C u1 c1 (u2 c1) c2 (u3 c1 c2) c3
    · refine Eq.trans ?_ (if_neg c2).symm
      exact g36_0_4 C u1 c1 (u2 c1) c2
  · refine Eq.trans ?_ (if_neg c1).symm
    exact g36_0_5 C u1 c1
theorem t37_0 (C : pmC) {σ : pmS} {x1 : Int32} (u1 : vp_in x1 48) : pq_Rn C (37, 0, [some (vR 5 0 0), some (vI x1)], [], σ) = (if (σ.1 5 0 7 (x1).toNatClampNeg) = (-1 : Int32) then some (some (vI (0 : Int32)), σ) else (if (σ.1 5 0 8 (x1).toNatClampNeg) = (-1 : Int32) then some (some (vI (0 : Int32)), σ) else (if (σ.1 5 0 7 (x1).toNatClampNeg) = (σ.1 5 0 8 (x1).toNatClampNeg) then some (some (vI (0 : Int32)), σ) else some (some (vI (1 : Int32)), σ)))) := by
  by_cases c1 : (σ.1 5 0 7 (x1).toNatClampNeg) = (-1 : Int32)
  · refine Eq.trans ?_ (if_pos c1).symm
    exact g37_0_0 C u1 c1
  · refine Eq.trans ?_ (if_neg c1).symm
    by_cases c2 : (σ.1 5 0 8 (x1).toNatClampNeg) = (-1 : Int32)
    · refine Eq.trans ?_ (if_pos c2).symm
      exact g37_0_1 C u1 c1 c2
    · refine Eq.trans ?_ (if_neg c2).symm
      by_cases c3 : (σ.1 5 0 7 (x1).toNatClampNeg) = (σ.1 5 0 8 (x1).toNatClampNeg)
      · refine Eq.trans ?_ (if_pos c3).symm
        exact g37_0_2 C u1 c1 c2 c3
      · refine Eq.trans ?_ (if_neg c3).symm
        exact g37_0_3 C u1 c1 c2 c3
theorem t38_0 (C : pmC) {σ : pmS} {l1 : Option pmV} {l2 : Option pmV}  : pq_Rn C (38, 0, [some (vR 5 0 0), l1, l2], [], σ) = pq_Rn C (38, 4, [some (vR 5 0 0), some (vI (0 : Int32)), some (vI (0 : Int32))], [], σ) := by
  exact g38_0_0 C 
theorem t38_4 (C : pmC) {σ : pmS} {x1 : Int32} {x2 : Int32} {r101 : Int32} {σ101 : pmS} (u1 : (¬ (σ.1 5 0 9 0) ≤ x2) → C 37 [vR 5 0 0, vI x2] σ = some (some (vI r101), σ101)) : pq_Rn C (38, 4, [some (vR 5 0 0), some (vI x1), some (vI x2)], [], σ) = (if (σ.1 5 0 9 0) ≤ x2 then some (some (vI x1), σ) else (if r101 = 0 then pq_Rn C (38, 4, [some (vR 5 0 0), some (vI x1), some (vI (x2 + (1 : Int32)))], [], σ101) else pq_Rn C (38, 4, [some (vR 5 0 0), some (vI (x1 + (1 : Int32))), some (vI (x2 + (1 : Int32)))], [], σ101))) := by
  by_cases c1 : (σ.1 5 0 9 0) ≤ x2
  · refine Eq.trans ?_ (if_pos c1).symm
    exact g38_4_0 C c1
  · refine Eq.trans ?_ (if_neg c1).symm
    by_cases c2 : r101 = 0
    · refine Eq.trans ?_ (if_pos c2).symm
      exact g38_4_1 C c1 (u1 c1) c2
    · refine Eq.trans ?_ (if_neg c2).symm
      exact g38_4_2 C c1 (u1 c1) c2
theorem t39_0 (C : pmC) {σ : pmS} {l1 : Option pmV} {l2 : Option pmV}  : pq_Rn C (39, 0, [some (vR 5 0 0), l1, l2], [], σ) = pq_Rn C (39, 4, [some (vR 5 0 0), some (vI (0 : Int32)), some (vI (0 : Int32))], [], σ) := by
  exact g39_0_0 C 
theorem t39_4 (C : pmC) {σ : pmS} {x1 : Int32} {x2 : Int32} (u1 : (¬ (σ.1 5 0 9 0) ≤ x2) → vp_in x2 48) : pq_Rn C (39, 4, [some (vR 5 0 0), some (vI x1), some (vI x2)], [], σ) = (if (σ.1 5 0 9 0) ≤ x2 then some (some (vI x1), σ) else (if (σ.1 5 0 7 (x2).toNatClampNeg) = (-1 : Int32) then pq_Rn C (39, 4, [some (vR 5 0 0), some (vI (x1 + (1 : Int32))), some (vI (x2 + (1 : Int32)))], [], σ) else pq_Rn C (39, 4, [some (vR 5 0 0), some (vI x1), some (vI (x2 + (1 : Int32)))], [], σ))) := by
  by_cases c1 : (σ.1 5 0 9 0) ≤ x2
  · refine Eq.trans ?_ (if_pos c1).symm
    exact g39_4_0 C c1
  · refine Eq.trans ?_ (if_neg c1).symm
    by_cases c2 : (σ.1 5 0 7 (x2).toNatClampNeg) = (-1 : Int32)
    · refine Eq.trans ?_ (if_pos c2).symm
      exact g39_4_1 C c1 (u1 c1) c2
    · refine Eq.trans ?_ (if_neg c2).symm
      exact g39_4_2 C c1 (u1 c1) c2
theorem t40_0 (C : pmC) {σ : pmS} {w1 : Int64} {x3 : Int32} {l4 : Option pmV}  : pq_Rn C (40, 0, [some (vR 6 0 0), some (vL w1), none, some (vI x3), l4], [], σ) = (if ((σ.1 6 0 1 0) + x3) ≤ (60 : Int32) then pq_Rn C (40, 18, [some (vR 6 0 0), some (vL w1), none, some (vI x3), some (vI (x3 - (1 : Int32)))], [], σ) else some (some (vI (0 : Int32)), σ)) := by
  by_cases c1 : ((σ.1 6 0 1 0) + x3) ≤ (60 : Int32)
  · refine Eq.trans ?_ (if_pos c1).symm
    exact g40_0_0 C c1
  · refine Eq.trans ?_ (if_neg c1).symm
    exact g40_0_1 C c1
theorem t40_18 (C : pmC) {σ : pmS} {w1 : Int64} {l3 : Option pmV} {x4 : Int32} (u1 : (¬ x4 < 0) → vp_in (σ.1 6 0 1 0) 60) : pq_Rn C (40, 18, [some (vR 6 0 0), some (vL w1), none, l3, some (vI x4)], [], σ) = (if x4 < 0 then some (some (vI (1 : Int32)), σ) else pq_Rn C (40, 18, [some (vR 6 0 0), some (vL w1), none, l3, some (vI (x4 + (-1 : Int32)))], [], (pm_wi (pm_wi σ 6 0 0 ((σ.1 6 0 1 0)).toNatClampNeg ((((w1).toUInt64 >>> ((((8 : Int32) * x4)).toInt64.toUInt64 &&& Int64.toUInt64 63)).toInt64 &&& (255 : Int64))).toInt32) 6 0 1 0 ((σ.1 6 0 1 0) + (1 : Int32))))) := by
  by_cases c1 : x4 < 0
  · refine Eq.trans ?_ (if_pos c1).symm
    exact g40_18_0 C c1
  · refine Eq.trans ?_ (if_neg c1).symm
    exact g40_18_1 C c1 (u1 c1)
theorem t41_0 (C : pmC) {σ : pmS} {r101 : Int32} {σ101 : pmS} {r102 : Int32} {σ102 : pmS} {r103 : Int32} {σ103 : pmS} {r104 : Int32} {σ104 : pmS} (u1 : C 43 [vR 6 0 0] (pm_wi σ 6 0 2 0 (1 : Int32)) = some (some (vI r101), σ101)) (u2 : (r101 = (-1 : Int32)) → C 45 [vR 6 0 0] (pm_wi (pm_wi σ101 6 0 3 0 r101) 6 0 2 0 (2 : Int32)) = some (some (vI r102), σ102)) (u3 : (r101 = (-1 : Int32)) → (r102 = (-1 : Int32)) → C 46 [vR 6 0 0] (pm_wi (pm_wi σ102 6 0 3 0 r102) 6 0 2 0 (3 : Int32)) = some (some (vI r103), σ103)) (u4 : (¬ r101 = (-1 : Int32)) → (r101 = (-1 : Int32)) → C 46 [vR 6 0 0] (pm_wi (pm_wi σ101 6 0 3 0 r101) 6 0 2 0 (3 : Int32)) = some (some (vI r104), σ104)) : pq_Rn C (41, 0, [some (vR 6 0 0)], [], σ) = (if r101 = (-1 : Int32) then (if r102 = (-1 : Int32) then (if r103 = (-1 : Int32) then some (none, (pm_wi (pm_wi σ103 6 0 3 0 r103) 6 0 2 0 (0 : Int32))) else some (none, (pm_wi σ103 6 0 3 0 r103))) else (if r102 = (-1 : Int32) then some (none, (pm_wi (pm_wi σ102 6 0 3 0 r102) 6 0 2 0 (0 : Int32))) else some (none, (pm_wi σ102 6 0 3 0 r102)))) else (if r101 = (-1 : Int32) then (if r104 = (-1 : Int32) then some (none, (pm_wi (pm_wi σ104 6 0 3 0 r104) 6 0 2 0 (0 : Int32))) else some (none, (pm_wi σ104 6 0 3 0 r104))) else (if r101 = (-1 : Int32) then some (none, (pm_wi (pm_wi σ101 6 0 3 0 r101) 6 0 2 0 (0 : Int32))) else some (none, (pm_wi σ101 6 0 3 0 r101))))) := by
  by_cases c1 : r101 = (-1 : Int32)
  · refine Eq.trans ?_ (if_pos c1).symm
    by_cases c2 : r102 = (-1 : Int32)
    · refine Eq.trans ?_ (if_pos c2).symm
      by_cases c3 : r103 = (-1 : Int32)
      · refine Eq.trans ?_ (if_pos c3).symm
        exact g41_0_0 C u1 c1 (u2 c1) c2 (u3 c1 c2) c3
      · refine Eq.trans ?_ (if_neg c3).symm
        exact g41_0_1 C u1 c1 (u2 c1) c2 (u3 c1 c2) c3
    · refine Eq.trans ?_ (if_neg c2).symm
      by_cases c4 : r102 = (-1 : Int32)
      · refine Eq.trans ?_ (if_pos c4).symm
        exact g41_0_2 C u1 c1 (u2 c1) c2 c4
      · refine Eq.trans ?_ (if_neg c4).symm
        exact g41_0_3 C u1 c1 (u2 c1) c2 c4
  · refine Eq.trans ?_ (if_neg c1).symm
    by_cases c5 : r101 = (-1 : Int32)
    · refine Eq.trans ?_ (if_pos c5).symm
      by_cases c6 : r104 = (-1 : Int32)
      · refine Eq.trans ?_ (if_pos c6).symm
        exact g41_0_4 C u1 c1 c5 (u4 c1 c5) c6
      · refine Eq.trans ?_ (if_neg c6).symm
        exact g41_0_5 C u1 c1 c5 (u4 c1 c5) c6
    · refine Eq.trans ?_ (if_neg c5).symm
      by_cases c7 : r101 = (-1 : Int32)
      · refine Eq.trans ?_ (if_pos c7).symm
        exact g41_0_6 C u1 c1 c5 c7
      · refine Eq.trans ?_ (if_neg c7).symm
        exact g41_0_7 C u1 c1 c5 c7
theorem t42_0 (C : pmC) {σ : pmS} {o1 : Nat} {l2 : Option pmV}  : pq_Rn C (42, 0, [some (vR 6 0 0), some (vR 2 o1 0), l2], [], σ) = pq_Rn C (42, 2, [some (vR 6 0 0), some (vR 2 o1 0), some (vI (0 : Int32))], [], σ) := by
  exact g42_0_0 C 
theorem t42_2 (C : pmC) {σ : pmS} {o1 : Nat} {x2 : Int32} {σ101 : pmS} (u1 : (¬ (σ.1 6 0 1 0) ≤ (x2 + (4 : Int32))) → vp_in x2 60) (u2 : (¬ (σ.1 6 0 1 0) ≤ (x2 + (4 : Int32))) → vp_in (x2 + (2 : Int32)) 60) (u3 : (¬ (σ.1 6 0 1 0) ≤ (x2 + (4 : Int32))) → vp_in (x2 + (4 : Int32)) 60) (u4 : (¬ (σ.1 6 0 1 0) ≤ (x2 + (4 : Int32))) → C 8 [vR 2 o1 0, vI ((σ.1 6 0 0 (x2).toNatClampNeg) - (97 : Int32)), vI ((σ.1 6 0 0 ((x2 + (2 : Int32))).toNatClampNeg) - (97 : Int32)), vI ((σ.1 6 0 0 ((x2 + (4 : Int32))).toNatClampNeg) - (97 : Int32))] σ = some (none, σ101)) : pq_Rn C (42, 2, [some (vR 6 0 0), some (vR 2 o1 0), some (vI x2)], [], σ) = (if (σ.1 6 0 1 0) ≤ (x2 + (4 : Int32)) then some (none, σ) else pq_Rn C (42, 2, [some (vR 6 0 0), some (vR 2 o1 0), some (vI (x2 + (6 : Int32)))], [], σ101)) := by
  by_cases c1 : (σ.1 6 0 1 0) ≤ (x2 + (4 : Int32))
  · refine Eq.trans ?_ (if_pos c1).symm
    exact g42_2_0 C c1
  · refine Eq.trans ?_ (if_neg c1).symm
    exact g42_2_1 C c1 (u1 c1) (u2 c1) (u3 c1) (u4 c1)
theorem t43_0 (C : pmC) {σ : pmS} {l1 : Option pmV}  : pq_Rn C (43, 0, [some (vR 6 0 0), l1], [], σ) = pq_Rn C (43, 2, [some (vR 6 0 0), some (vI (0 : Int32))], [], σ) := by
  exact g43_0_0 C 
theorem t43_2 (C : pmC) {σ : pmS} {x1 : Int32} {r101 : Int32} {σ101 : pmS} (u1 : (¬ (σ.1 6 0 1 0) ≤ x1) → C 44 [vR 6 0 0, vI x1] σ = some (some (vI r101), σ101)) : pq_Rn C (43, 2, [some (vR 6 0 0), some (vI x1)], [], σ) = (if (σ.1 6 0 1 0) ≤ x1 then (if (σ.1 6 0 1 0) < (11 : Int32) then some (some (vI (σ.1 6 0 1 0)), σ) else (if ((σ.1 6 0 1 0) - (σ.1 6 0 1 0) / (6 : Int32) * (6 : Int32)) = (5 : Int32) then some (some (vI (-1 : Int32)), σ) else some (some (vI (σ.1 6 0 1 0)), σ))) else (if r101 = 0 then some (some (vI x1), σ101) else pq_Rn C (43, 2, [some (vR 6 0 0), some (vI (x1 + (1 : Int32)))], [], σ101))) := by
  by_cases c1 : (σ.1 6 0 1 0) ≤ x1
  · refine Eq.trans ?_ (if_pos c1).symm
    by_cases c2 : (σ.1 6 0 1 0) < (11 : Int32)
    · refine Eq.trans ?_ (if_pos c2).symm
      exact g43_2_0 C c1 c2
    · refine Eq.trans ?_ (if_neg c2).symm
      by_cases c3 : ((σ.1 6 0 1 0) - (σ.1 6 0 1 0) / (6 : Int32) * (6 : Int32)) = (5 : Int32)
      · refine Eq.trans ?_ (if_pos c3).symm
        exact g43_2_1 C c1 c2 c3
      · refine Eq.trans ?_ (if_neg c3).symm
        exact g43_2_2 C c1 c2 c3
  · refine Eq.trans ?_ (if_neg c1).symm
    by_cases c4 : r101 = 0
    · refine Eq.trans ?_ (if_pos c4).symm
      exact g43_2_3 C c1 (u1 c1) c4
    · refine Eq.trans ?_ (if_neg c4).symm
      exact g43_2_4 C c1 (u1 c1) c4
theorem t44_0 (C : pmC) {σ : pmS} {x1 : Int32} (u1 : (x1 < (47 : Int32)) → ((x1 - x1 / (6 : Int32) * (6 : Int32)) = (1 : Int32)) → vp_in x1 60) (u2 : (x1 < (47 : Int32)) → (¬ (x1 - x1 / (6 : Int32) * (6 : Int32)) = (1 : Int32)) → ((x1 - x1 / (6 : Int32) * (6 : Int32)) = (2 : Int32)) → vp_in x1 60) (u3 : (x1 < (47 : Int32)) → (¬ (x1 - x1 / (6 : Int32) * (6 : Int32)) = (1 : Int32)) → (¬ (x1 - x1 / (6 : Int32) * (6 : Int32)) = (2 : Int32)) → ((x1 - x1 / (6 : Int32) * (6 : Int32)) = (3 : Int32)) → vp_in x1 60) (u4 : (x1 < (47 : Int32)) → (¬ (x1 - x1 / (6 : Int32) * (6 : Int32)) = (1 : Int32)) → (¬ (x1 - x1 / (6 : Int32) * (6 : Int32)) = (2 : Int32)) → (¬ (x1 - x1 / (6 : Int32) * (6 : Int32)) = (3 : Int32)) → ((x1 - x1 / (6 : Int32) * (6 : Int32)) = (4 : Int32)) → vp_in x1 60) (u5 : (x1 < (47 : Int32)) → (¬ (x1 - x1 / (6 : Int32) * (6 : Int32)) = (1 : Int32)) → (¬ (x1 - x1 / (6 : Int32) * (6 : Int32)) = (2 : Int32)) → (¬ (x1 - x1 / (6 : Int32) * (6 : Int32)) = (3 : Int32)) → (¬ (x1 - x1 / (6 : Int32) * (6 : Int32)) = (4 : Int32)) → ((x1 - x1 / (6 : Int32) * (6 : Int32)) = (5 : Int32)) → vp_in x1 60) (u6 : (x1 < (47 : Int32)) → (¬ (x1 - x1 / (6 : Int32) * (6 : Int32)) = (1 : Int32)) → (¬ (x1 - x1 / (6 : Int32) * (6 : Int32)) = (2 : Int32)) → (¬ (x1 - x1 / (6 : Int32) * (6 : Int32)) = (3 : Int32)) → (¬ (x1 - x1 / (6 : Int32) * (6 : Int32)) = (4 : Int32)) → (¬ (x1 - x1 / (6 : Int32) * (6 : Int32)) = (5 : Int32)) → vp_in x1 60) : pq_Rn C (44, 0, [some (vR 6 0 0), some (vI x1)], [], σ) = (if x1 < (47 : Int32) then (if (x1 - x1 / (6 : Int32) * (6 : Int32)) = (1 : Int32) then (if (σ.1 6 0 0 (x1).toNatClampNeg) = (43 : Int32) then pq_Rn C (44, 64, [some (vR 6 0 0), some (vI x1)], [vI (1 : Int32)], σ) else pq_Rn C (44, 64, [some (vR 6 0 0), some (vI x1)], [vI (0 : Int32)], σ)) else (if (x1 - x1 / (6 : Int32) * (6 : Int32)) = (2 : Int32) then (if (σ.1 6 0 0 (x1).toNatClampNeg) < (97 : Int32) then pq_Rn C (44, 125, [some (vR 6 0 0), some (vI x1)], [], σ) else (if (104 : Int32) < (σ.1 6 0 0 (x1).toNatClampNeg) then pq_Rn C (44, 125, [some (vR 6 0 0), some (vI x1)], [], σ) else pq_Rn C (44, 126, [some (vR 6 0 0), some (vI x1)], [vI (1 : Int32)], σ))) else (if (x1 - x1 / (6 : Int32) * (6 : Int32)) = (3 : Int32) then (if (σ.1 6 0 0 (x1).toNatClampNeg) = (61 : Int32) then pq_Rn C (44, 81, [some (vR 6 0 0), some (vI x1)], [vI (1 : Int32)], σ) else pq_Rn C (44, 81, [some (vR 6 0 0), some (vI x1)], [vI (0 : Int32)], σ)) else (if (x1 - x1 / (6 : Int32) * (6 : Int32)) = (4 : Int32) then (if (σ.1 6 0 0 (x1).toNatClampNeg) < (97 : Int32) then pq_Rn C (44, 125, [some (vR 6 0 0), some (vI x1)], [], σ) else (if (104 : Int32) < (σ.1 6 0 0 (x1).toNatClampNeg) then pq_Rn C (44, 125, [some (vR 6 0 0), some (vI x1)], [], σ) else pq_Rn C (44, 126, [some (vR 6 0 0), some (vI x1)], [vI (1 : Int32)], σ))) else (if (x1 - x1 / (6 : Int32) * (6 : Int32)) = (5 : Int32) then (if (σ.1 6 0 0 (x1).toNatClampNeg) = (59 : Int32) then pq_Rn C (44, 98, [some (vR 6 0 0), some (vI x1)], [vI (1 : Int32)], σ) else pq_Rn C (44, 98, [some (vR 6 0 0), some (vI x1)], [vI (0 : Int32)], σ)) else (if (σ.1 6 0 0 (x1).toNatClampNeg) < (97 : Int32) then pq_Rn C (44, 125, [some (vR 6 0 0), some (vI x1)], [], σ) else (if (104 : Int32) < (σ.1 6 0 0 (x1).toNatClampNeg) then pq_Rn C (44, 125, [some (vR 6 0 0), some (vI x1)], [], σ) else pq_Rn C (44, 126, [some (vR 6 0 0), some (vI x1)], [vI (1 : Int32)], σ)))))))) else some (some (vI (0 : Int32)), σ)) := by
  by_cases c1 : x1 < (47 : Int32)
  · refine Eq.trans ?_ (if_pos c1).symm
    by_cases c2 : (x1 - x1 / (6 : Int32) * (6 : Int32)) = (1 : Int32)
    · refine Eq.trans ?_ (if_pos c2).symm
      by_cases c3 : (σ.1 6 0 0 (x1).toNatClampNeg) = (43 : Int32)
      · refine Eq.trans ?_ (if_pos c3).symm
        exact g44_0_0 C c1 c2 (u1 c1 c2) c3
      · refine Eq.trans ?_ (if_neg c3).symm
        exact g44_0_1 C c1 c2 (u1 c1 c2) c3
    · refine Eq.trans ?_ (if_neg c2).symm
      by_cases c4 : (x1 - x1 / (6 : Int32) * (6 : Int32)) = (2 : Int32)
      · refine Eq.trans ?_ (if_pos c4).symm
        by_cases c5 : (σ.1 6 0 0 (x1).toNatClampNeg) < (97 : Int32)
        · refine Eq.trans ?_ (if_pos c5).symm
          exact g44_0_2 C c1 c4 (u2 c1 c2 c4) c5
        · refine Eq.trans ?_ (if_neg c5).symm
          by_cases c6 : (104 : Int32) < (σ.1 6 0 0 (x1).toNatClampNeg)
          · refine Eq.trans ?_ (if_pos c6).symm
            exact g44_0_3 C c1 c4 (u2 c1 c2 c4) c5 c6
          · refine Eq.trans ?_ (if_neg c6).symm
            exact g44_0_4 C c1 c4 (u2 c1 c2 c4) c5 c6
      · refine Eq.trans ?_ (if_neg c4).symm
        by_cases c7 : (x1 - x1 / (6 : Int32) * (6 : Int32)) = (3 : Int32)
        · refine Eq.trans ?_ (if_pos c7).symm
          by_cases c8 : (σ.1 6 0 0 (x1).toNatClampNeg) = (61 : Int32)
          · refine Eq.trans ?_ (if_pos c8).symm
            exact g44_0_5 C c1 c7 (u3 c1 c2 c4 c7) c8
          · refine Eq.trans ?_ (if_neg c8).symm
            exact g44_0_6 C c1 c7 (u3 c1 c2 c4 c7) c8
        · refine Eq.trans ?_ (if_neg c7).symm
          by_cases c9 : (x1 - x1 / (6 : Int32) * (6 : Int32)) = (4 : Int32)
          · refine Eq.trans ?_ (if_pos c9).symm
            by_cases c10 : (σ.1 6 0 0 (x1).toNatClampNeg) < (97 : Int32)
            · refine Eq.trans ?_ (if_pos c10).symm
              exact g44_0_7 C c1 c9 (u4 c1 c2 c4 c7 c9) c10
            · refine Eq.trans ?_ (if_neg c10).symm
              by_cases c11 : (104 : Int32) < (σ.1 6 0 0 (x1).toNatClampNeg)
              · refine Eq.trans ?_ (if_pos c11).symm
                exact g44_0_8 C c1 c9 (u4 c1 c2 c4 c7 c9) c10 c11
              · refine Eq.trans ?_ (if_neg c11).symm
                exact g44_0_9 C c1 c9 (u4 c1 c2 c4 c7 c9) c10 c11
          · refine Eq.trans ?_ (if_neg c9).symm
            by_cases c12 : (x1 - x1 / (6 : Int32) * (6 : Int32)) = (5 : Int32)
            · refine Eq.trans ?_ (if_pos c12).symm
              by_cases c13 : (σ.1 6 0 0 (x1).toNatClampNeg) = (59 : Int32)
              · refine Eq.trans ?_ (if_pos c13).symm
                exact g44_0_10 C c1 c12 (u5 c1 c2 c4 c7 c9 c12) c13
              · refine Eq.trans ?_ (if_neg c13).symm
                exact g44_0_11 C c1 c12 (u5 c1 c2 c4 c7 c9 c12) c13
            · refine Eq.trans ?_ (if_neg c12).symm
              by_cases c14 : (σ.1 6 0 0 (x1).toNatClampNeg) < (97 : Int32)
              · refine Eq.trans ?_ (if_pos c14).symm
                exact g44_0_12 C c1 c2 c4 c7 c9 c12 (u6 c1 c2 c4 c7 c9 c12) c14
              · refine Eq.trans ?_ (if_neg c14).symm
                by_cases c15 : (104 : Int32) < (σ.1 6 0 0 (x1).toNatClampNeg)
                · refine Eq.trans ?_ (if_pos c15).symm
                  exact g44_0_13 C c1 c2 c4 c7 c9 c12 (u6 c1 c2 c4 c7 c9 c12) c14 c15
                · refine Eq.trans ?_ (if_neg c15).symm
                  exact g44_0_14 C c1 c2 c4 c7 c9 c12 (u6 c1 c2 c4 c7 c9 c12) c14 c15
  · refine Eq.trans ?_ (if_neg c1).symm
    exact g44_0_15 C c1
theorem t44_64 (C : pmC) {σ : pmS} {l0 : Option pmV} {l1 : Option pmV} {s0 : Int32} (u1 : s0 = 0 ∨ s0 = 1) : pq_Rn C (44, 64, [l0, l1], [vI s0], σ) = some (some (vI s0), σ) := by
  exact g44_64_0 C u1
theorem t44_81 (C : pmC) {σ : pmS} {l0 : Option pmV} {l1 : Option pmV} {s0 : Int32} (u1 : s0 = 0 ∨ s0 = 1) : pq_Rn C (44, 81, [l0, l1], [vI s0], σ) = some (some (vI s0), σ) := by
  exact g44_81_0 C u1
theorem t44_98 (C : pmC) {σ : pmS} {l0 : Option pmV} {l1 : Option pmV} {s0 : Int32} (u1 : s0 = 0 ∨ s0 = 1) : pq_Rn C (44, 98, [l0, l1], [vI s0], σ) = some (some (vI s0), σ) := by
  exact g44_98_0 C u1
theorem t44_125 (C : pmC) {σ : pmS} {l0 : Option pmV} {l1 : Option pmV}  : pq_Rn C (44, 125, [l0, l1], [], σ) = pq_Rn C (44, 126, [l0, l1], [vI (0 : Int32)], σ) := by
  exact g44_125_0 C 
theorem t44_126 (C : pmC) {σ : pmS} {l0 : Option pmV} {l1 : Option pmV} {s0 : Int32} (u1 : s0 = 0 ∨ s0 = 1) : pq_Rn C (44, 126, [l0, l1], [vI s0], σ) = some (some (vI s0), σ) := by
  exact g44_126_0 C u1
theorem t45_0 (C : pmC) {σ : pmS} {l1 : Option pmV} {l2 : Option pmV}  : pq_Rn C (45, 0, [some (vR 6 0 0), l1, l2], [], σ) = pq_Rn C (45, 12, [some (vR 6 0 0), some (vI (((σ.1 6 0 1 0) + (1 : Int32)) / (6 : Int32))), some (vI (0 : Int32))], [], σ) := by
  exact g45_0_0 C 
theorem t45_12 (C : pmC) {σ : pmS} {x1 : Int32} {x2 : Int32} (u1 : (¬ (σ.1 6 0 1 0) ≤ x2) → vp_in x2 60) : pq_Rn C (45, 12, [some (vR 6 0 0), some (vI x1), some (vI x2)], [], σ) = (if (σ.1 6 0 1 0) ≤ x2 then some (some (vI (-1 : Int32)), σ) else (if ((σ.1 6 0 0 (x2).toNatClampNeg) - (97 : Int32)) < x1 then pq_Rn C (45, 12, [some (vR 6 0 0), some (vI x1), some (vI (x2 + (2 : Int32)))], [], σ) else some (some (vI x2), σ))) := by
  by_cases c1 : (σ.1 6 0 1 0) ≤ x2
  · refine Eq.trans ?_ (if_pos c1).symm
    exact g45_12_0 C c1
  · refine Eq.trans ?_ (if_neg c1).symm
    by_cases c2 : ((σ.1 6 0 0 (x2).toNatClampNeg) - (97 : Int32)) < x1
    · refine Eq.trans ?_ (if_pos c2).symm
      exact g45_12_1 C c1 (u1 c1) c2
    · refine Eq.trans ?_ (if_neg c2).symm
      exact g45_12_2 C c1 (u1 c1) c2
theorem t46_0 (C : pmC) {σ : pmS} {l1 : Option pmV} {l2 : Option pmV}  : pq_Rn C (46, 0, [some (vR 6 0 0), l1, l2], [], σ) = pq_Rn C (46, 3, [some (vR 6 0 0), some (vI (6 : Int32)), l2], [], σ) := by
  exact g46_0_0 C 
theorem t46_3 (C : pmC) {σ : pmS} {x1 : Int32} {l2 : Option pmV}  : pq_Rn C (46, 3, [some (vR 6 0 0), some (vI x1), l2], [], σ) = (if (σ.1 6 0 1 0) ≤ x1 then some (some (vI (-1 : Int32)), σ) else pq_Rn C (46, 16, [some (vR 6 0 0), some (vI x1), some (vI (x1 - (6 : Int32)))], [], σ)) := by
  by_cases c1 : (σ.1 6 0 1 0) ≤ x1
  · refine Eq.trans ?_ (if_pos c1).symm
    exact g46_3_0 C c1
  · refine Eq.trans ?_ (if_neg c1).symm
    exact g46_3_1 C c1
theorem t46_16 (C : pmC) {σ : pmS} {x1 : Int32} {x2 : Int32} (u1 : (¬ x2 < 0) → vp_in x2 60) (u2 : (¬ x2 < 0) → vp_in x1 60) : pq_Rn C (46, 16, [some (vR 6 0 0), some (vI x1), some (vI x2)], [], σ) = (if x2 < 0 then pq_Rn C (46, 3, [some (vR 6 0 0), some (vI (x1 + (2 : Int32))), some (vI x2)], [], σ) else (if (σ.1 6 0 0 (x2).toNatClampNeg) = (σ.1 6 0 0 (x1).toNatClampNeg) then some (some (vI x1), σ) else pq_Rn C (46, 16, [some (vR 6 0 0), some (vI x1), some (vI (x2 + (-6 : Int32)))], [], σ))) := by
  by_cases c1 : x2 < 0
  · refine Eq.trans ?_ (if_pos c1).symm
    exact g46_16_0 C c1
  · refine Eq.trans ?_ (if_neg c1).symm
    by_cases c2 : (σ.1 6 0 0 (x2).toNatClampNeg) = (σ.1 6 0 0 (x1).toNatClampNeg)
    · refine Eq.trans ?_ (if_pos c2).symm
      exact g46_16_1 C c1 (u1 c1) (u2 c1) c2
    · refine Eq.trans ?_ (if_neg c2).symm
      exact g46_16_2 C c1 (u1 c1) (u2 c1) c2
theorem t47_0 (C : pmC) {σ : pmS} {o1 : Nat} {l2 : Option pmV} {σ101 : pmS} {r102 : Int32} {σ102 : pmS} {σ103 : pmS} (u1 : C 182 [vR 7 0 2, vI (0 : Int32)] σ = some (none, σ101)) (u2 : C 48 [vI (σ101.1 2 o1 8 0)] (pm_wi σ101 7 0 2 0 (0 : Int32)) = some (some (vI r102), σ102)) (u3 : C 50 [vR 7 0 0, vI r102] σ102 = some (none, σ103)) : pq_Rn C (47, 0, [some (vR 7 0 0), some (vR 2 o1 0), l2], [], σ) = pq_Rn C (47, 26, [some (vR 7 0 0), some (vR 2 o1 0), some (vI (0 : Int32))], [], σ103) := by
  exact g47_0_0 C u1 u2 u3
theorem t47_26 (C : pmC) {σ : pmS} {o1 : Nat} {x2 : Int32} {r101 : Int32} {σ101 : pmS} {σ102 : pmS} {r103 : Int32} {σ103 : pmS} {σ104 : pmS} (u1 : (¬ (σ.1 7 0 2 0) ≤ x2) → (¬ (1000 : Int32) ≤ (σ.1 7 0 2 0)) → vp_in x2 1000) (u2 : (¬ (σ.1 7 0 2 0) ≤ x2) → (¬ (1000 : Int32) ≤ (σ.1 7 0 2 0)) → C 49 [vI (σ.1 7 0 0 (x2).toNatClampNeg), vR 2 o1 1, vI (σ.1 2 o1 8 0)] σ = some (some (vI r101), σ101)) (u3 : (¬ (σ.1 7 0 2 0) ≤ x2) → (¬ (1000 : Int32) ≤ (σ.1 7 0 2 0)) → C 50 [vR 7 0 0, vI r101] σ101 = some (none, σ102)) (u4 : (¬ (σ.1 7 0 2 0) ≤ x2) → (¬ (1000 : Int32) ≤ (σ.1 7 0 2 0)) → C 49 [vI (σ102.1 7 0 0 (x2).toNatClampNeg), vR 2 o1 3, vI (σ102.1 2 o1 8 0)] σ102 = some (some (vI r103), σ103)) (u5 : (¬ (σ.1 7 0 2 0) ≤ x2) → (¬ (1000 : Int32) ≤ (σ.1 7 0 2 0)) → C 50 [vR 7 0 0, vI r103] σ103 = some (none, σ104)) : pq_Rn C (47, 26, [some (vR 7 0 0), some (vR 2 o1 0), some (vI x2)], [], σ) = (if (σ.1 7 0 2 0) ≤ x2 then some (some (vI (σ.1 7 0 2 0)), σ) else (if (1000 : Int32) ≤ (σ.1 7 0 2 0) then some (some (vI (σ.1 7 0 2 0)), σ) else pq_Rn C (47, 26, [some (vR 7 0 0), some (vR 2 o1 0), some (vI (x2 + (1 : Int32)))], [], σ104))) := by
  by_cases c1 : (σ.1 7 0 2 0) ≤ x2
  · refine Eq.trans ?_ (if_pos c1).symm
    exact g47_26_0 C c1
  · refine Eq.trans ?_ (if_neg c1).symm
    by_cases c2 : (1000 : Int32) ≤ (σ.1 7 0 2 0)
    · refine Eq.trans ?_ (if_pos c2).symm
      exact g47_26_1 C c1 c2
    · refine Eq.trans ?_ (if_neg c2).symm
      exact g47_26_2 C c1 c2 (u1 c1 c2) (u2 c1 c2) (u3 c1 c2) (u4 c1 c2) (u5 c1 c2)
theorem t48_0 (C : pmC) {σ : pmS} {x0 : Int32} {l1 : Option pmV} {l2 : Option pmV}  : pq_Rn C (48, 0, [some (vI x0), l1, l2], [], σ) = pq_Rn C (48, 4, [some (vI x0), some (vI (0 : Int32)), some (vI (0 : Int32))], [], σ) := by
  exact g48_0_0 C 
theorem t48_4 (C : pmC) {σ : pmS} {x0 : Int32} {x1 : Int32} {x2 : Int32}  : pq_Rn C (48, 4, [some (vI x0), some (vI x1), some (vI x2)], [], σ) = (if x0 ≤ x2 then some (some (vI x1), σ) else pq_Rn C (48, 4, [some (vI x0), some (vI (x1 ||| (x2 <<< (((3 : Int32) * x2) &&& 31)))), some (vI (x2 + (1 : Int32)))], [], σ)) := by
  by_cases c1 : x0 ≤ x2
  · refine Eq.trans ?_ (if_pos c1).symm
    exact g48_4_0 C c1
  · refine Eq.trans ?_ (if_neg c1).symm
    exact g48_4_1 C c1
theorem t49a_0 (C : pmC) {σ : pmS} {x0 : Int32} {o1 : Nat} {x2 : Int32} {l3 : Option pmV} {l4 : Option pmV}  : pq_Rn C (49, 0, [some (vI x0), some (vR 2 o1 1), some (vI x2), l3, l4], [], σ) = pq_Rn C (49, 5, [some (vI x0), some (vR 2 o1 1), some (vI x2), some (vI (0 : Int32)), some (vI (0 : Int32))], [], σ) := by
  exact g49a_0_0 C 
theorem t49a_5 (C : pmC) {σ : pmS} {x0 : Int32} {o1 : Nat} {x2 : Int32} {x3 : Int32} {x4 : Int32} (u1 : (¬ x2 ≤ x4) → vp_in ((x0 >>> (((3 : Int32) * x4) &&& 31)) &&& (7 : Int32)) 8) : pq_Rn C (49, 5, [some (vI x0), some (vR 2 o1 1), some (vI x2), some (vI x3), some (vI x4)], [], σ) = (if x2 ≤ x4 then some (some (vI x3), σ) else pq_Rn C (49, 5, [some (vI x0), some (vR 2 o1 1), some (vI x2), some (vI (x3 ||| ((σ.1 2 o1 0 (((x0 >>> (((3 : Int32) * x4) &&& 31)) &&& (7 : Int32))).toNatClampNeg) <<< (((3 : Int32) * x4) &&& 31)))), some (vI (x4 + (1 : Int32)))], [], σ)) := by
  by_cases c1 : x2 ≤ x4
  · refine Eq.trans ?_ (if_pos c1).symm
    exact g49a_5_0 C c1
  · refine Eq.trans ?_ (if_neg c1).symm
    exact g49a_5_1 C c1 (u1 c1)
theorem t49b_0 (C : pmC) {σ : pmS} {x0 : Int32} {o1 : Nat} {x2 : Int32} {l3 : Option pmV} {l4 : Option pmV}  : pq_Rn C (49, 0, [some (vI x0), some (vR 2 o1 3), some (vI x2), l3, l4], [], σ) = pq_Rn C (49, 5, [some (vI x0), some (vR 2 o1 3), some (vI x2), some (vI (0 : Int32)), some (vI (0 : Int32))], [], σ) := by
  exact g49b_0_0 C 
theorem t49b_5 (C : pmC) {σ : pmS} {x0 : Int32} {o1 : Nat} {x2 : Int32} {x3 : Int32} {x4 : Int32} (u1 : (¬ x2 ≤ x4) → vp_in ((x0 >>> (((3 : Int32) * x4) &&& 31)) &&& (7 : Int32)) 8) : pq_Rn C (49, 5, [some (vI x0), some (vR 2 o1 3), some (vI x2), some (vI x3), some (vI x4)], [], σ) = (if x2 ≤ x4 then some (some (vI x3), σ) else pq_Rn C (49, 5, [some (vI x0), some (vR 2 o1 3), some (vI x2), some (vI (x3 ||| ((σ.1 2 o1 2 (((x0 >>> (((3 : Int32) * x4) &&& 31)) &&& (7 : Int32))).toNatClampNeg) <<< (((3 : Int32) * x4) &&& 31)))), some (vI (x4 + (1 : Int32)))], [], σ)) := by
  by_cases c1 : x2 ≤ x4
  · refine Eq.trans ?_ (if_pos c1).symm
    exact g49b_5_0 C c1
  · refine Eq.trans ?_ (if_neg c1).symm
    exact g49b_5_1 C c1 (u1 c1)
theorem t50_0 (C : pmC) {σ : pmS} {x1 : Int32} {l2 : Option pmV} {l3 : Option pmV}  : pq_Rn C (50, 0, [some (vR 7 0 0), some (vI x1), l2, l3], [], σ) = pq_Rn C (50, 10, [some (vR 7 0 0), some (vI x1), some (vI (((x1 * (-1640531535 : Int32))).toUInt32 >>> (((21 : Int32)).toUInt32 &&& Int32.toUInt32 31)).toInt32), some (vI (0 : Int32))], [], σ) := by
  exact g50_0_0 C 
theorem t50_10 (C : pmC) {σ : pmS} {x1 : Int32} {x2 : Int32} {x3 : Int32} (u1 : ((2048 : Int32) ≤ x3) → (¬ (1000 : Int32) ≤ (σ.1 7 0 2 0)) → vp_in x2 2048) (u2 : ((2048 : Int32) ≤ x3) → (¬ (1000 : Int32) ≤ (σ.1 7 0 2 0)) → vp_in (σ.1 7 0 2 0) 1000) (u3 : (¬ (2048 : Int32) ≤ x3) → vp_in x2 2048) (u4 : (¬ (2048 : Int32) ≤ x3) → ((σ.1 7 0 1 (x2).toNatClampNeg) = 0) → (¬ (1000 : Int32) ≤ (σ.1 7 0 2 0)) → vp_in (σ.1 7 0 2 0) 1000) : pq_Rn C (50, 10, [some (vR 7 0 0), some (vI x1), some (vI x2), some (vI x3)], [], σ) = (if (2048 : Int32) ≤ x3 then (if (1000 : Int32) ≤ (σ.1 7 0 2 0) then some (none, σ) else some (none, (pm_wi (pm_wi (pm_wi σ 7 0 1 (x2).toNatClampNeg (x1 + (1 : Int32))) 7 0 0 ((σ.1 7 0 2 0)).toNatClampNeg x1) 7 0 2 0 ((σ.1 7 0 2 0) + (1 : Int32))))) else (if (σ.1 7 0 1 (x2).toNatClampNeg) = 0 then (if (1000 : Int32) ≤ (σ.1 7 0 2 0) then some (none, σ) else some (none, (pm_wi (pm_wi (pm_wi σ 7 0 1 (x2).toNatClampNeg (x1 + (1 : Int32))) 7 0 0 ((σ.1 7 0 2 0)).toNatClampNeg x1) 7 0 2 0 ((σ.1 7 0 2 0) + (1 : Int32))))) else (if (σ.1 7 0 1 (x2).toNatClampNeg) = (x1 + (1 : Int32)) then some (none, σ) else pq_Rn C (50, 10, [some (vR 7 0 0), some (vI x1), some (vI ((x2 + (1 : Int32)) - (x2 + (1 : Int32)) / (2048 : Int32) * (2048 : Int32))), some (vI (x3 + (1 : Int32)))], [], σ)))) := by
  by_cases c1 : (2048 : Int32) ≤ x3
  · refine Eq.trans ?_ (if_pos c1).symm
    by_cases c2 : (1000 : Int32) ≤ (σ.1 7 0 2 0)
    · refine Eq.trans ?_ (if_pos c2).symm
      exact g50_10_0 C c1 c2
    · refine Eq.trans ?_ (if_neg c2).symm
      exact g50_10_1 C c1 c2 (u1 c1 c2) (u2 c1 c2)
  · refine Eq.trans ?_ (if_neg c1).symm
    by_cases c3 : (σ.1 7 0 1 (x2).toNatClampNeg) = 0
    · refine Eq.trans ?_ (if_pos c3).symm
      by_cases c4 : (1000 : Int32) ≤ (σ.1 7 0 2 0)
      · refine Eq.trans ?_ (if_pos c4).symm
        exact g50_10_2 C c1 (u3 c1) c3 c4
      · refine Eq.trans ?_ (if_neg c4).symm
        exact g50_10_3 C c1 (u3 c1) c3 c4 (u4 c1 c3 c4)
    · refine Eq.trans ?_ (if_neg c3).symm
      by_cases c5 : (σ.1 7 0 1 (x2).toNatClampNeg) = (x1 + (1 : Int32))
      · refine Eq.trans ?_ (if_pos c5).symm
        exact g50_10_4 C c1 (u3 c1) c3 c5
      · refine Eq.trans ?_ (if_neg c5).symm
        exact g50_10_5 C c1 (u3 c1) c3 c5
theorem t51_0 (C : pmC) {σ : pmS} {x1 : Int32} {x2 : Int32} {x3 : Int32} (u1 : ((σ.1 8 0 3 0) < (40 : Int32)) → vp_in (σ.1 8 0 3 0) 40) : pq_Rn C (51, 0, [some (vR 8 0 0), some (vI x1), some (vI x2), some (vI x3)], [], σ) = (if (σ.1 8 0 3 0) < (40 : Int32) then some (some (vI (1 : Int32)), (pm_wi (pm_wi (pm_wi (pm_wi σ 8 0 0 ((σ.1 8 0 3 0)).toNatClampNeg x1) 8 0 1 ((σ.1 8 0 3 0)).toNatClampNeg x2) 8 0 2 ((σ.1 8 0 3 0)).toNatClampNeg x3) 8 0 3 0 ((σ.1 8 0 3 0) + (1 : Int32)))) else some (some (vI (0 : Int32)), σ)) := by
  by_cases c1 : (σ.1 8 0 3 0) < (40 : Int32)
  · refine Eq.trans ?_ (if_pos c1).symm
    exact g51_0_0 C c1 (u1 c1)
  · refine Eq.trans ?_ (if_neg c1).symm
    exact g51_0_1 C c1
theorem t52_0 (C : pmC) {σ : pmS} {x2 : Int32} {x3 : Int32} {r101 : Int32} {σ101 : pmS} {r102 : Int32} {σ102 : pmS} (u1 : vp_in x2 40) (u2 : (¬ x3 < (σ.1 8 0 2 (x2).toNatClampNeg)) → C 34 [vR 5 0 0, vI (σ.1 8 0 0 (x2).toNatClampNeg), vI x3] σ = some (some (vI r101), σ101)) (u3 : (¬ x3 < (σ.1 8 0 2 (x2).toNatClampNeg)) → (¬ r101 = 0) → C 34 [vR 5 0 0, vI (σ101.1 8 0 1 (x2).toNatClampNeg), vI x3] σ101 = some (some (vI r102), σ102)) : pq_Rn C (52, 0, [some (vR 8 0 0), some (vR 5 0 0), some (vI x2), some (vI x3)], [], σ) = (if x3 < (σ.1 8 0 2 (x2).toNatClampNeg) then some (some (vI (0 : Int32)), σ) else (if r101 = 0 then some (some (vI (0 : Int32)), σ101) else (if r102 = 0 then some (some (vI (0 : Int32)), σ102) else some (some (vI (1 : Int32)), σ102)))) := by
  by_cases c1 : x3 < (σ.1 8 0 2 (x2).toNatClampNeg)
  · refine Eq.trans ?_ (if_pos c1).symm
    exact g52_0_0 C u1 c1
  · refine Eq.trans ?_ (if_neg c1).symm
    by_cases c2 : r101 = 0
    · refine Eq.trans ?_ (if_pos c2).symm
      exact g52_0_1 C u1 c1 (u2 c1) c2
    · refine Eq.trans ?_ (if_neg c2).symm
      by_cases c3 : r102 = 0
      · refine Eq.trans ?_ (if_pos c3).symm
        exact g52_0_2 C u1 c1 (u2 c1) c2 (u3 c1 c2) c3
      · refine Eq.trans ?_ (if_neg c3).symm
        exact g52_0_3 C u1 c1 (u2 c1) c2 (u3 c1 c2) c3
theorem t53_0 (C : pmC) {σ : pmS} {x2 : Int32} {x3 : Int32} {l4 : Option pmV}  : pq_Rn C (53, 0, [some (vR 8 0 0), some (vR 5 0 0), some (vI x2), some (vI x3), l4], [], σ) = pq_Rn C (53, 3, [some (vR 8 0 0), some (vR 5 0 0), some (vI x2), some (vI x3), some (vI (0 : Int32))], [], σ) := by
  exact g53_0_0 C 
theorem t53_3 (C : pmC) {σ : pmS} {x2 : Int32} {x3 : Int32} {x4 : Int32} {r101 : Int32} {σ101 : pmS} {r102 : Int32} {σ102 : pmS} (u1 : (¬ (σ.1 8 0 3 0) ≤ x4) → vp_in x4 40) (u2 : (¬ (σ.1 8 0 3 0) ≤ x4) → ((σ.1 8 0 0 (x4).toNatClampNeg) = x2) → C 52 [vR 8 0 0, vR 5 0 0, vI x4, vI x3] σ = some (some (vI r101), σ101)) (u3 : (¬ (σ.1 8 0 3 0) ≤ x4) → (¬ (σ.1 8 0 0 (x4).toNatClampNeg) = x2) → ((σ.1 8 0 1 (x4).toNatClampNeg) = x2) → C 52 [vR 8 0 0, vR 5 0 0, vI x4, vI x3] σ = some (some (vI r102), σ102)) : pq_Rn C (53, 3, [some (vR 8 0 0), some (vR 5 0 0), some (vI x2), some (vI x3), some (vI x4)], [], σ) = (if (σ.1 8 0 3 0) ≤ x4 then some (some (vI (-1 : Int32)), σ) else (if (σ.1 8 0 0 (x4).toNatClampNeg) = x2 then (if r101 = 0 then pq_Rn C (53, 3, [some (vR 8 0 0), some (vR 5 0 0), some (vI x2), some (vI x3), some (vI (x4 + (1 : Int32)))], [], σ101) else (if (σ101.1 8 0 0 (x4).toNatClampNeg) = x2 then some (some (vI (σ101.1 8 0 1 (x4).toNatClampNeg)), σ101) else some (some (vI (σ101.1 8 0 0 (x4).toNatClampNeg)), σ101))) else (if (σ.1 8 0 1 (x4).toNatClampNeg) = x2 then (if r102 = 0 then pq_Rn C (53, 3, [some (vR 8 0 0), some (vR 5 0 0), some (vI x2), some (vI x3), some (vI (x4 + (1 : Int32)))], [], σ102) else (if (σ102.1 8 0 0 (x4).toNatClampNeg) = x2 then some (some (vI (σ102.1 8 0 1 (x4).toNatClampNeg)), σ102) else some (some (vI (σ102.1 8 0 0 (x4).toNatClampNeg)), σ102))) else pq_Rn C (53, 3, [some (vR 8 0 0), some (vR 5 0 0), some (vI x2), some (vI x3), some (vI (x4 + (1 : Int32)))], [], σ)))) := by
  by_cases c1 : (σ.1 8 0 3 0) ≤ x4
  · refine Eq.trans ?_ (if_pos c1).symm
    exact g53_3_0 C c1
  · refine Eq.trans ?_ (if_neg c1).symm
    by_cases c2 : (σ.1 8 0 0 (x4).toNatClampNeg) = x2
    · refine Eq.trans ?_ (if_pos c2).symm
      by_cases c3 : r101 = 0
      · refine Eq.trans ?_ (if_pos c3).symm
        exact g53_3_1 C c1 (u1 c1) c2 (u2 c1 c2) c3
      · refine Eq.trans ?_ (if_neg c3).symm
        by_cases c4 : (σ101.1 8 0 0 (x4).toNatClampNeg) = x2
        · refine Eq.trans ?_ (if_pos c4).symm
          exact g53_3_2 C c1 (u1 c1) c2 (u2 c1 c2) c3 c4
        · refine Eq.trans ?_ (if_neg c4).symm
          exact g53_3_3 C c1 (u1 c1) c2 (u2 c1 c2) c3 c4
    · refine Eq.trans ?_ (if_neg c2).symm
      by_cases c5 : (σ.1 8 0 1 (x4).toNatClampNeg) = x2
      · refine Eq.trans ?_ (if_pos c5).symm
        by_cases c6 : r102 = 0
        · refine Eq.trans ?_ (if_pos c6).symm
          exact g53_3_4 C c1 (u1 c1) c2 c5 (u3 c1 c2 c5) c6
        · refine Eq.trans ?_ (if_neg c6).symm
          by_cases c7 : (σ102.1 8 0 0 (x4).toNatClampNeg) = x2
          · refine Eq.trans ?_ (if_pos c7).symm
            exact g53_3_5 C c1 (u1 c1) c2 c5 (u3 c1 c2 c5) c6 c7
          · refine Eq.trans ?_ (if_neg c7).symm
            exact g53_3_6 C c1 (u1 c1) c2 c5 (u3 c1 c2 c5) c6 c7
      · refine Eq.trans ?_ (if_neg c5).symm
        exact g53_3_7 C c1 (u1 c1) c2 c5
theorem t54_0 (C : pmC) {σ : pmS} {w1 : Int64} {x3 : Int32} {r101 : Int32} {σ101 : pmS} (u1 : (¬ x3 < (1 : Int32)) → (x3 ≤ (8 : Int32)) → C 40 [vR 6 0 0, vL w1, vI x3] σ = some (some (vI r101), σ101)) : pq_Rn C (54, 0, [some (vR 9 0 0), some (vL w1), none, some (vI x3)], [], σ) = (if x3 < (1 : Int32) then some (some (vI (-2 : Int32)), σ) else (if x3 ≤ (8 : Int32) then (if r101 = 0 then some (some (vI (-4 : Int32)), σ101) else some (some (vI (σ101.1 6 0 1 0)), σ101)) else some (some (vI (-2 : Int32)), σ))) := by
  by_cases c1 : x3 < (1 : Int32)
  · refine Eq.trans ?_ (if_pos c1).symm
    exact g54_0_0 C c1
  · refine Eq.trans ?_ (if_neg c1).symm
    by_cases c2 : x3 ≤ (8 : Int32)
    · refine Eq.trans ?_ (if_pos c2).symm
      by_cases c3 : r101 = 0
      · refine Eq.trans ?_ (if_pos c3).symm
        exact g54_0_1 C c1 c2 (u1 c1 c2) c3
      · refine Eq.trans ?_ (if_neg c3).symm
        exact g54_0_2 C c1 c2 (u1 c1 c2) c3
    · refine Eq.trans ?_ (if_neg c2).symm
      exact g54_0_3 C c1 c2
theorem t55_0 (C : pmC) {σ : pmS} {σ101 : pmS} {σ102 : pmS} (u1 : ((σ.1 9 0 9 0) < (4 : Int32)) → C 41 [vR 6 0 0] σ = some (none, σ101)) (u2 : ((σ.1 9 0 9 0) < (4 : Int32)) → ((σ101.1 6 0 2 0) = 0) → vp_in (σ101.1 9 0 9 0) 4) (u3 : ((σ.1 9 0 9 0) < (4 : Int32)) → ((σ101.1 6 0 2 0) = 0) → C 42 [vR 6 0 0, vR 2 ((σ101.1 9 0 9 0)).toNatClampNeg 0] σ101 = some (none, σ102)) : pq_Rn C (55, 0, [some (vR 9 0 0)], [], σ) = (if (σ.1 9 0 9 0) < (4 : Int32) then (if (σ101.1 6 0 2 0) = 0 then (if (σ102.1 6 0 2 0) = 0 then some (some (vI (((σ102.1 9 0 9 0) + (1 : Int32)) - (1 : Int32))), (pm_wi (pm_wi σ102 6 0 1 0 (0 : Int32)) 9 0 9 0 ((σ102.1 9 0 9 0) + (1 : Int32)))) else some (some (vI ((-10 : Int32) - (σ102.1 6 0 2 0))), (pm_wi σ102 6 0 1 0 (0 : Int32)))) else (if (σ101.1 6 0 2 0) = 0 then some (some (vI (((σ101.1 9 0 9 0) + (1 : Int32)) - (1 : Int32))), (pm_wi (pm_wi σ101 6 0 1 0 (0 : Int32)) 9 0 9 0 ((σ101.1 9 0 9 0) + (1 : Int32)))) else some (some (vI ((-10 : Int32) - (σ101.1 6 0 2 0))), (pm_wi σ101 6 0 1 0 (0 : Int32))))) else some (some (vI (-4 : Int32)), σ)) := by
  by_cases c1 : (σ.1 9 0 9 0) < (4 : Int32)
  · refine Eq.trans ?_ (if_pos c1).symm
    by_cases c2 : (σ101.1 6 0 2 0) = 0
    · refine Eq.trans ?_ (if_pos c2).symm
      by_cases c3 : (σ102.1 6 0 2 0) = 0
      · refine Eq.trans ?_ (if_pos c3).symm
        exact g55_0_0 C c1 (u1 c1) c2 (u2 c1 c2) (u3 c1 c2) c3
      · refine Eq.trans ?_ (if_neg c3).symm
        exact g55_0_1 C c1 (u1 c1) c2 (u2 c1 c2) (u3 c1 c2) c3
    · refine Eq.trans ?_ (if_neg c2).symm
      by_cases c4 : (σ101.1 6 0 2 0) = 0
      · refine Eq.trans ?_ (if_pos c4).symm
        exact g55_0_2 C c1 (u1 c1) c2 c4
      · refine Eq.trans ?_ (if_neg c4).symm
        exact g55_0_3 C c1 (u1 c1) c2 c4
  · refine Eq.trans ?_ (if_neg c1).symm
    exact g55_0_4 C c1
theorem t56_0 (C : pmC) {σ : pmS} {x1 : Int32}  : pq_Rn C (56, 0, [some (vR 9 0 0), some (vI x1)], [], σ) = (if x1 = (0 : Int32) then some (some (vI (σ.1 6 0 2 0)), σ) else (if x1 = (1 : Int32) then some (some (vI (σ.1 6 0 3 0)), σ) else some (some (vI (-1 : Int32)), σ))) := by
  by_cases c1 : x1 = (0 : Int32)
  · refine Eq.trans ?_ (if_pos c1).symm
    exact g56_0_0 C c1
  · refine Eq.trans ?_ (if_neg c1).symm
    by_cases c2 : x1 = (1 : Int32)
    · refine Eq.trans ?_ (if_pos c2).symm
      exact g56_0_1 C c2
    · refine Eq.trans ?_ (if_neg c2).symm
      exact g56_0_2 C c1 c2
theorem t57_0 (C : pmC) {σ : pmS} {x1 : Int32} {x2 : Int32} {x3 : Int32} {l4 : Option pmV} {r101 : Int32} {σ101 : pmS} (u1 : C 87 [vR 9 0 0, vI x1, vI x2] σ = some (some (vI r101), σ101)) (u2 : (¬ r101 = 0) → vp_in x1 4) (u3 : (¬ r101 = 0) → (x3 = (0 : Int32)) → vp_in x2 8) (u4 : (¬ r101 = 0) → (¬ x3 = (0 : Int32)) → (x3 = (1 : Int32)) → vp_in x2 8) (u5 : (¬ r101 = 0) → (¬ x3 = (0 : Int32)) → (¬ x3 = (1 : Int32)) → (x3 = (2 : Int32)) → vp_in x2 8) (u6 : (¬ r101 = 0) → (¬ x3 = (0 : Int32)) → (¬ x3 = (1 : Int32)) → (¬ x3 = (2 : Int32)) → (x3 = (3 : Int32)) → vp_in x2 8) : pq_Rn C (57, 0, [some (vR 9 0 0), some (vI x1), some (vI x2), some (vI x3), l4], [], σ) = (if r101 = 0 then some (some (vI (-1 : Int32)), σ101) else (if x3 = (0 : Int32) then some (some (vI (σ101.1 2 (x1).toNatClampNeg 0 (x2).toNatClampNeg)), σ101) else (if x3 = (1 : Int32) then some (some (vI (σ101.1 2 (x1).toNatClampNeg 2 (x2).toNatClampNeg)), σ101) else (if x3 = (2 : Int32) then some (some (vI (σ101.1 2 (x1).toNatClampNeg 3 (x2).toNatClampNeg)), σ101) else (if x3 = (3 : Int32) then some (some (vI (σ101.1 2 (x1).toNatClampNeg 1 (x2).toNatClampNeg)), σ101) else (if x3 = (4 : Int32) then some (some (vI (σ101.1 2 (x1).toNatClampNeg 8 0)), σ101) else some (some (vI (-1 : Int32)), σ101))))))) := by
  by_cases c1 : r101 = 0
  · refine Eq.trans ?_ (if_pos c1).symm
    exact g57_0_0 C u1 c1
  · refine Eq.trans ?_ (if_neg c1).symm
    by_cases c2 : x3 = (0 : Int32)
    · refine Eq.trans ?_ (if_pos c2).symm
      exact g57_0_1 C u1 c1 (u2 c1) c2 (u3 c1 c2)
    · refine Eq.trans ?_ (if_neg c2).symm
      by_cases c3 : x3 = (1 : Int32)
      · refine Eq.trans ?_ (if_pos c3).symm
        exact g57_0_2 C u1 c1 (u2 c1) c3 (u4 c1 c2 c3)
      · refine Eq.trans ?_ (if_neg c3).symm
        by_cases c4 : x3 = (2 : Int32)
        · refine Eq.trans ?_ (if_pos c4).symm
          exact g57_0_3 C u1 c1 (u2 c1) c4 (u5 c1 c2 c3 c4)
        · refine Eq.trans ?_ (if_neg c4).symm
          by_cases c5 : x3 = (3 : Int32)
          · refine Eq.trans ?_ (if_pos c5).symm
            exact g57_0_4 C u1 c1 (u2 c1) c5 (u6 c1 c2 c3 c4 c5)
          · refine Eq.trans ?_ (if_neg c5).symm
            by_cases c6 : x3 = (4 : Int32)
            · refine Eq.trans ?_ (if_pos c6).symm
              exact g57_0_5 C u1 c1 (u2 c1) c6
            · refine Eq.trans ?_ (if_neg c6).symm
              exact g57_0_6 C u1 c1 (u2 c1) c2 c3 c4 c5 c6
theorem t58_0 (C : pmC) {σ : pmS} {x1 : Int32} {x2 : Int32} {x3 : Int32} {x4 : Int32} {r101 : Int32} {σ101 : pmS} {r102 : Int32} {σ102 : pmS} {r103 : Int32} {σ103 : pmS} {r104 : Int32} {σ104 : pmS} (u1 : C 87 [vR 9 0 0, vI x1, vI x2] σ = some (some (vI r101), σ101)) (u2 : (¬ r101 = 0) → C 89 [vI x3] σ101 = some (some (vI r102), σ102)) (u3 : (¬ r101 = 0) → (¬ r102 = 0) → C 91 [vI x4] σ102 = some (some (vI r103), σ103)) (u4 : (¬ r101 = 0) → (¬ r102 = 0) → (¬ r103 = 0) → vp_in x1 4) (u5 : (¬ r101 = 0) → (¬ r102 = 0) → (¬ r103 = 0) → C 12 [vR 2 (x1).toNatClampNeg 0, vI x2, vI x3, vI x4] σ103 = some (some (vI r104), σ104)) : pq_Rn C (58, 0, [some (vR 9 0 0), some (vI x1), some (vI x2), some (vI x3), some (vI x4)], [], σ) = (if r101 = 0 then some (some (vI (-1 : Int32)), σ101) else (if r102 = 0 then some (some (vI (-1 : Int32)), σ102) else (if r103 = 0 then some (some (vI (-1 : Int32)), σ103) else some (some (vI (r104 >>> ((1 : Int32) &&& 31))), σ104)))) := by
  by_cases c1 : r101 = 0
  · refine Eq.trans ?_ (if_pos c1).symm
    exact g58_0_0 C u1 c1
  · refine Eq.trans ?_ (if_neg c1).symm
    by_cases c2 : r102 = 0
    · refine Eq.trans ?_ (if_pos c2).symm
      exact g58_0_1 C u1 c1 (u2 c1) c2
    · refine Eq.trans ?_ (if_neg c2).symm
      by_cases c3 : r103 = 0
      · refine Eq.trans ?_ (if_pos c3).symm
        exact g58_0_2 C u1 c1 (u2 c1) c2 (u3 c1 c2) c3
      · refine Eq.trans ?_ (if_neg c3).symm
        exact g58_0_3 C u1 c1 (u2 c1) c2 (u3 c1 c2) c3 (u4 c1 c2 c3) (u5 c1 c2 c3)
theorem t59_0 (C : pmC) {σ : pmS} {x1 : Int32} {x2 : Int32} {x3 : Int32} {x4 : Int32} {l5 : Option pmV} {l6 : Option pmV} {r101 : Int32} {σ101 : pmS} {r102 : Int32} {σ102 : pmS} {r103 : Int32} {σ103 : pmS} {r104 : Int32} {σ104 : pmS} (u1 : C 86 [vR 9 0 0, vI x1] σ = some (some (vI r101), σ101)) (u2 : (¬ r101 = 0) → C 89 [vI x2] σ101 = some (some (vI r102), σ102)) (u3 : (¬ r101 = 0) → (¬ r102 = 0) → C 91 [vI x3] σ102 = some (some (vI r103), σ103)) (u4 : (¬ r101 = 0) → (¬ r102 = 0) → (¬ r103 = 0) → C 91 [vI x4] σ103 = some (some (vI r104), σ104)) (u5 : (¬ r101 = 0) → (¬ r102 = 0) → (¬ r103 = 0) → (¬ r104 = 0) → vp_in x1 4) : pq_Rn C (59, 0, [some (vR 9 0 0), some (vI x1), some (vI x2), some (vI x3), some (vI x4), l5, l6], [], σ) = (if r101 = 0 then some (some (vI (-1 : Int32)), σ101) else (if r102 = 0 then some (some (vI (-1 : Int32)), σ102) else (if r103 = 0 then some (some (vI (-1 : Int32)), σ103) else (if r104 = 0 then some (some (vI (-1 : Int32)), σ104) else pq_Rn C (59, 43, [some (vR 9 0 0), some (vI x1), some (vI x2), some (vI x3), some (vI x4), some (vR 2 (x1).toNatClampNeg 0), some (vI (0 : Int32))], [], σ104))))) := by
  by_cases c1 : r101 = 0
  · refine Eq.trans ?_ (if_pos c1).symm
    exact g59_0_0 C u1 c1
  · refine Eq.trans ?_ (if_neg c1).symm
    by_cases c2 : r102 = 0
    · refine Eq.trans ?_ (if_pos c2).symm
      exact g59_0_1 C u1 c1 (u2 c1) c2
    · refine Eq.trans ?_ (if_neg c2).symm
      by_cases c3 : r103 = 0
      · refine Eq.trans ?_ (if_pos c3).symm
        exact g59_0_2 C u1 c1 (u2 c1) c2 (u3 c1 c2) c3
      · refine Eq.trans ?_ (if_neg c3).symm
        by_cases c4 : r104 = 0
        · refine Eq.trans ?_ (if_pos c4).symm
          exact g59_0_3 C u1 c1 (u2 c1) c2 (u3 c1 c2) c3 (u4 c1 c2 c3) c4
        · refine Eq.trans ?_ (if_neg c4).symm
          exact g59_0_4 C u1 c1 (u2 c1) c2 (u3 c1 c2) c3 (u4 c1 c2 c3) c4 (u5 c1 c2 c3 c4)
theorem t59_43 (C : pmC) {σ : pmS} {l0 : Option pmV} {l1 : Option pmV} {x2 : Int32} {x3 : Int32} {x4 : Int32} {o5 : Nat} {x6 : Int32} {r101 : Int32} {σ101 : pmS} {r102 : Int32} {σ102 : pmS} (u1 : (¬ (σ.1 2 o5 8 0) ≤ x6) → C 12 [vR 2 o5 0, vI x6, vI x2, vI x3] σ = some (some (vI r101), σ101)) (u2 : (¬ (σ.1 2 o5 8 0) ≤ x6) → C 12 [vR 2 o5 0, vI x6, vI x2, vI x4] σ101 = some (some (vI r102), σ102)) : pq_Rn C (59, 43, [l0, l1, some (vI x2), some (vI x3), some (vI x4), some (vR 2 o5 0), some (vI x6)], [], σ) = (if (σ.1 2 o5 8 0) ≤ x6 then some (some (vI (1 : Int32)), σ) else (if (r101 >>> ((1 : Int32) &&& 31)) = (r102 >>> ((1 : Int32) &&& 31)) then pq_Rn C (59, 43, [l0, l1, some (vI x2), some (vI x3), some (vI x4), some (vR 2 o5 0), some (vI (x6 + (1 : Int32)))], [], σ102) else some (some (vI (0 : Int32)), σ102))) := by
  by_cases c1 : (σ.1 2 o5 8 0) ≤ x6
  · refine Eq.trans ?_ (if_pos c1).symm
    exact g59_43_0 C c1
  · refine Eq.trans ?_ (if_neg c1).symm
    by_cases c2 : (r101 >>> ((1 : Int32) &&& 31)) = (r102 >>> ((1 : Int32) &&& 31))
    · refine Eq.trans ?_ (if_pos c2).symm
      exact g59_43_1 C c1 (u1 c1) (u2 c1) c2
    · refine Eq.trans ?_ (if_neg c2).symm
      exact g59_43_2 C c1 (u1 c1) (u2 c1) c2
theorem t60_0 (C : pmC) {σ : pmS} {x1 : Int32} {x2 : Int32} {x3 : Int32} {l4 : Option pmV} {r101 : Int32} {σ101 : pmS} {r102 : Int32} {σ102 : pmS} {r103 : Int32} {σ103 : pmS} {r104 : Int32} {σ104 : pmS} {r105 : Int32} {σ105 : pmS} (u1 : C 86 [vR 9 0 0, vI x1] σ = some (some (vI r101), σ101)) (u2 : (¬ r101 = 0) → C 89 [vI x2] σ101 = some (some (vI r102), σ102)) (u3 : (¬ r101 = 0) → (¬ r102 = 0) → C 91 [vI x3] σ102 = some (some (vI r103), σ103)) (u4 : (¬ r101 = 0) → (¬ r102 = 0) → (¬ r103 = 0) → vp_in x1 4) (u5 : (¬ r101 = 0) → (¬ r102 = 0) → (¬ r103 = 0) → C 12 [vR 2 (x1).toNatClampNeg 0, vI (0 : Int32), vI x2, vI x3] σ103 = some (some (vI r104), σ104)) (u6 : (¬ r101 = 0) → (¬ r102 = 0) → (¬ r103 = 0) → ((r104 &&& (1 : Int32)) = x2) → C 13 [vR 2 (x1).toNatClampNeg 0, vI x2, vI x3] σ104 = some (some (vI r105), σ105)) : pq_Rn C (60, 0, [some (vR 9 0 0), some (vI x1), some (vI x2), some (vI x3), l4], [], σ) = (if r101 = 0 then some (some (vI (-1 : Int32)), σ101) else (if r102 = 0 then some (some (vI (-1 : Int32)), σ102) else (if r103 = 0 then some (some (vI (-1 : Int32)), σ103) else (if (r104 &&& (1 : Int32)) = x2 then some (some (vI r105), σ105) else some (some (vI (-3 : Int32)), σ104))))) := by
  by_cases c1 : r101 = 0
  · refine Eq.trans ?_ (if_pos c1).symm
    exact g60_0_0 C u1 c1
  · refine Eq.trans ?_ (if_neg c1).symm
    by_cases c2 : r102 = 0
    · refine Eq.trans ?_ (if_pos c2).symm
      exact g60_0_1 C u1 c1 (u2 c1) c2
    · refine Eq.trans ?_ (if_neg c2).symm
      by_cases c3 : r103 = 0
      · refine Eq.trans ?_ (if_pos c3).symm
        exact g60_0_2 C u1 c1 (u2 c1) c2 (u3 c1 c2) c3
      · refine Eq.trans ?_ (if_neg c3).symm
        by_cases c4 : (r104 &&& (1 : Int32)) = x2
        · refine Eq.trans ?_ (if_pos c4).symm
          exact g60_0_3 C u1 c1 (u2 c1) c2 (u3 c1 c2) c3 (u4 c1 c2 c3) (u5 c1 c2 c3) c4 (u6 c1 c2 c3 c4)
        · refine Eq.trans ?_ (if_neg c4).symm
          exact g60_0_4 C u1 c1 (u2 c1) c2 (u3 c1 c2) c3 (u4 c1 c2 c3) (u5 c1 c2 c3) c4
theorem t61_0 (C : pmC) {σ : pmS} {x1 : Int32} {x2 : Int32} {x3 : Int32} {r101 : Int32} {σ101 : pmS} {r102 : Int32} {σ102 : pmS} (u1 : C 87 [vR 9 0 0, vI x1, vI x2] σ = some (some (vI r101), σ101)) (u2 : (¬ r101 = 0) → (¬ x3 < (1 : Int32)) → (x3 ≤ (4 : Int32)) → vp_in x1 4) (u3 : (¬ r101 = 0) → (¬ x3 < (1 : Int32)) → (x3 ≤ (4 : Int32)) → C 14 [vR 2 (x1).toNatClampNeg 0, vI x2, vI x3] σ101 = some (some (vI r102), σ102)) : pq_Rn C (61, 0, [some (vR 9 0 0), some (vI x1), some (vI x2), some (vI x3)], [], σ) = (if r101 = 0 then some (some (vI (-1 : Int32)), σ101) else (if x3 < (1 : Int32) then some (some (vI (-2 : Int32)), σ101) else (if x3 ≤ (4 : Int32) then some (some (vI r102), σ102) else some (some (vI (-2 : Int32)), σ101)))) := by
  by_cases c1 : r101 = 0
  · refine Eq.trans ?_ (if_pos c1).symm
    exact g61_0_0 C u1 c1
  · refine Eq.trans ?_ (if_neg c1).symm
    by_cases c2 : x3 < (1 : Int32)
    · refine Eq.trans ?_ (if_pos c2).symm
      exact g61_0_1 C u1 c1 c2
    · refine Eq.trans ?_ (if_neg c2).symm
      by_cases c3 : x3 ≤ (4 : Int32)
      · refine Eq.trans ?_ (if_pos c3).symm
        exact g61_0_2 C u1 c1 c2 c3 (u2 c1 c2 c3) (u3 c1 c2 c3)
      · refine Eq.trans ?_ (if_neg c3).symm
        exact g61_0_3 C u1 c1 c2 c3
theorem t62_0 (C : pmC) {σ : pmS} {x1 : Int32} {r101 : Int32} {σ101 : pmS} {r102 : Int32} {σ102 : pmS} (u1 : C 86 [vR 9 0 0, vI x1] σ = some (some (vI r101), σ101)) (u2 : (¬ r101 = 0) → vp_in x1 4) (u3 : (¬ r101 = 0) → C 47 [vR 7 0 0, vR 2 (x1).toNatClampNeg 0] σ101 = some (some (vI r102), σ102)) : pq_Rn C (62, 0, [some (vR 9 0 0), some (vI x1)], [], σ) = (if r101 = 0 then some (some (vI (-1 : Int32)), σ101) else some (some (vI r102), σ102)) := by
  by_cases c1 : r101 = 0
  · refine Eq.trans ?_ (if_pos c1).symm
    exact g62_0_0 C u1 c1
  · refine Eq.trans ?_ (if_neg c1).symm
    exact g62_0_1 C u1 c1 (u2 c1) (u3 c1)
theorem t63_0 (C : pmC) {σ : pmS} {x1 : Int32} {x2 : Int32} {l3 : Option pmV} {r101 : Int32} {σ101 : pmS} {r102 : Int32} {σ102 : pmS} (u1 : C 86 [vR 9 0 0, vI x1] σ = some (some (vI r101), σ101)) (u2 : (¬ r101 = 0) → vp_in x1 4) (u3 : (¬ r101 = 0) → (¬ x2 ≤ 0) → (x2 < (((1 : Int32) <<< ((σ101.1 2 (x1).toNatClampNeg 8 0) &&& 31)) - (1 : Int32))) → C 15 [vR 2 (x1).toNatClampNeg 0, vI x2] σ101 = some (some (vI r102), σ102)) : pq_Rn C (63, 0, [some (vR 9 0 0), some (vI x1), some (vI x2), l3], [], σ) = (if r101 = 0 then some (some (vI (-1 : Int32)), σ101) else (if x2 ≤ 0 then some (some (vI (-2 : Int32)), σ101) else (if x2 < (((1 : Int32) <<< ((σ101.1 2 (x1).toNatClampNeg 8 0) &&& 31)) - (1 : Int32)) then some (some (vI r102), σ102) else some (some (vI (-2 : Int32)), σ101)))) := by
  by_cases c1 : r101 = 0
  · refine Eq.trans ?_ (if_pos c1).symm
    exact g63_0_0 C u1 c1
  · refine Eq.trans ?_ (if_neg c1).symm
    by_cases c2 : x2 ≤ 0
    · refine Eq.trans ?_ (if_pos c2).symm
      exact g63_0_1 C u1 c1 (u2 c1) c2
    · refine Eq.trans ?_ (if_neg c2).symm
      by_cases c3 : x2 < (((1 : Int32) <<< ((σ101.1 2 (x1).toNatClampNeg 8 0) &&& 31)) - (1 : Int32))
      · refine Eq.trans ?_ (if_pos c3).symm
        exact g63_0_2 C u1 c1 (u2 c1) c2 c3 (u3 c1 c2 c3)
      · refine Eq.trans ?_ (if_neg c3).symm
        exact g63_0_3 C u1 c1 (u2 c1) c2 c3
theorem t64_0 (C : pmC) {σ : pmS} {x1 : Int32} {x2 : Int32} {l3 : Option pmV} {l4 : Option pmV} {l5 : Option pmV} {l6 : Option pmV} {r101 : Int32} {σ101 : pmS} (u1 : C 86 [vR 9 0 0, vI x1] σ = some (some (vI r101), σ101)) (u2 : (¬ r101 = 0) → (¬ x2 < 0) → (x2 ≤ (7 : Int32)) → vp_in x1 4) : pq_Rn C (64, 0, [some (vR 9 0 0), some (vI x1), some (vI x2), l3, l4, l5, l6], [], σ) = (if r101 = 0 then some (some (vI (-1 : Int32)), σ101) else (if x2 < 0 then some (some (vI (-2 : Int32)), σ101) else (if x2 ≤ (7 : Int32) then pq_Rn C (64, 46, [some (vR 9 0 0), some (vI x1), some (vI x2), some (vR 2 (x1).toNatClampNeg 0), some (vI (((1 : Int32) <<< ((σ101.1 2 (x1).toNatClampNeg 8 0) &&& 31)) - (1 : Int32))), some (vI (0 : Int32)), some (vI (1 : Int32))], [], σ101) else some (some (vI (-2 : Int32)), σ101)))) := by
  by_cases c1 : r101 = 0
  · refine Eq.trans ?_ (if_pos c1).symm
    exact g64_0_0 C u1 c1
  · refine Eq.trans ?_ (if_neg c1).symm
    by_cases c2 : x2 < 0
    · refine Eq.trans ?_ (if_pos c2).symm
      exact g64_0_1 C u1 c1 c2
    · refine Eq.trans ?_ (if_neg c2).symm
      by_cases c3 : x2 ≤ (7 : Int32)
      · refine Eq.trans ?_ (if_pos c3).symm
        exact g64_0_2 C u1 c1 c2 c3 (u2 c1 c2 c3)
      · refine Eq.trans ?_ (if_neg c3).symm
        exact g64_0_3 C u1 c1 c2 c3
theorem t64_46 (C : pmC) {σ : pmS} {l0 : Option pmV} {l1 : Option pmV} {x2 : Int32} {o3 : Nat} {x4 : Int32} {x5 : Int32} {x6 : Int32} {r101 : Int32} {σ101 : pmS} (u1 : (¬ x4 ≤ x6) → C 15 [vR 2 o3 0, vI x6] σ = some (some (vI r101), σ101)) : pq_Rn C (64, 46, [l0, l1, some (vI x2), some (vR 2 o3 0), some (vI x4), some (vI x5), some (vI x6)], [], σ) = (if x4 ≤ x6 then some (some (vI x5), σ) else (if (r101 &&& x2) = x2 then pq_Rn C (64, 46, [l0, l1, some (vI x2), some (vR 2 o3 0), some (vI x4), some (vI (x5 + (1 : Int32))), some (vI (x6 + (2 : Int32)))], [], σ101) else pq_Rn C (64, 46, [l0, l1, some (vI x2), some (vR 2 o3 0), some (vI x4), some (vI x5), some (vI (x6 + (2 : Int32)))], [], σ101))) := by
  by_cases c1 : x4 ≤ x6
  · refine Eq.trans ?_ (if_pos c1).symm
    exact g64_46_0 C c1
  · refine Eq.trans ?_ (if_neg c1).symm
    by_cases c2 : (r101 &&& x2) = x2
    · refine Eq.trans ?_ (if_pos c2).symm
      exact g64_46_1 C c1 (u1 c1) c2
    · refine Eq.trans ?_ (if_neg c2).symm
      exact g64_46_2 C c1 (u1 c1) c2
theorem t65_0 (C : pmC) {σ : pmS} {x1 : Int32} {x2 : Int32} {r101 : Int32} {σ101 : pmS} {r102 : Int32} {σ102 : pmS} {r103 : Int32} {σ103 : pmS} (u1 : C 86 [vR 9 0 0, vI x1] σ = some (some (vI r101), σ101)) (u2 : (¬ r101 = 0) → (x2 = 0) → ((σ101.1 9 0 10 0) < (3 : Int32)) → vp_in (σ101.1 9 0 10 0) 3) (u3 : (¬ r101 = 0) → (x2 = 0) → ((σ101.1 9 0 10 0) < (3 : Int32)) → C 0 [vR 0 ((σ101.1 9 0 10 0)).toNatClampNeg 0, vI (0 : Int32), vI x1, vI x2] σ101 = some (some (vI r102), σ102)) (u4 : (¬ r101 = 0) → (¬ x2 = 0) → (x2 = (1 : Int32)) → ((σ101.1 9 0 10 0) < (3 : Int32)) → vp_in (σ101.1 9 0 10 0) 3) (u5 : (¬ r101 = 0) → (¬ x2 = 0) → (x2 = (1 : Int32)) → ((σ101.1 9 0 10 0) < (3 : Int32)) → C 0 [vR 0 ((σ101.1 9 0 10 0)).toNatClampNeg 0, vI (0 : Int32), vI x1, vI x2] σ101 = some (some (vI r103), σ103)) : pq_Rn C (65, 0, [some (vR 9 0 0), some (vI x1), some (vI x2)], [], σ) = (if r101 = 0 then some (some (vI (-1 : Int32)), σ101) else (if x2 = 0 then (if (σ101.1 9 0 10 0) < (3 : Int32) then some (some (vI (((σ102.1 9 0 10 0) + (1 : Int32)) - (1 : Int32))), (pm_wi σ102 9 0 10 0 ((σ102.1 9 0 10 0) + (1 : Int32)))) else some (some (vI (-4 : Int32)), σ101)) else (if x2 = (1 : Int32) then (if (σ101.1 9 0 10 0) < (3 : Int32) then some (some (vI (((σ103.1 9 0 10 0) + (1 : Int32)) - (1 : Int32))), (pm_wi σ103 9 0 10 0 ((σ103.1 9 0 10 0) + (1 : Int32)))) else some (some (vI (-4 : Int32)), σ101)) else some (some (vI (-2 : Int32)), σ101)))) := by
  by_cases c1 : r101 = 0
  · refine Eq.trans ?_ (if_pos c1).symm
    exact g65_0_0 C u1 c1
  · refine Eq.trans ?_ (if_neg c1).symm
    by_cases c2 : x2 = 0
    · refine Eq.trans ?_ (if_pos c2).symm
      by_cases c3 : (σ101.1 9 0 10 0) < (3 : Int32)
      · refine Eq.trans ?_ (if_pos c3).symm
        exact g65_0_1 C u1 c1 c2 c3 (u2 c1 c2 c3) (u3 c1 c2 c3)
      · refine Eq.trans ?_ (if_neg c3).symm
        exact g65_0_2 C u1 c1 c2 c3
    · refine Eq.trans ?_ (if_neg c2).symm
      by_cases c4 : x2 = (1 : Int32)
      · refine Eq.trans ?_ (if_pos c4).symm
        by_cases c5 : (σ101.1 9 0 10 0) < (3 : Int32)
        · refine Eq.trans ?_ (if_pos c5).symm
          exact g65_0_3 C u1 c1 c2 c4 c5 (u4 c1 c2 c4 c5) (u5 c1 c2 c4 c5)
        · refine Eq.trans ?_ (if_neg c5).symm
          exact g65_0_4 C u1 c1 c2 c4 c5
      · refine Eq.trans ?_ (if_neg c4).symm
        exact g65_0_5 C u1 c1 c2 c4
theorem t66_0 (C : pmC) {σ : pmS} {x1 : Int32} {x2 : Int32} {x3 : Int32} {x4 : Int32} {l5 : Option pmV} {r101 : Int32} {σ101 : pmS} {r102 : Int32} {σ102 : pmS} {r103 : Int32} {σ103 : pmS} {r104 : Int32} {σ104 : pmS} (u1 : C 88 [vR 9 0 0, vI x1] σ = some (some (vI r101), σ101)) (u2 : (¬ r101 = 0) → C 86 [vR 9 0 0, vI x3] σ101 = some (some (vI r102), σ102)) (u3 : (¬ r101 = 0) → (¬ r102 = 0) → (¬ x2 < (1 : Int32)) → (¬ (999 : Int32) < x2) → (x4 = 0) → vp_in x1 3) (u4 : (¬ r101 = 0) → (¬ r102 = 0) → (¬ x2 < (1 : Int32)) → (¬ (999 : Int32) < x2) → (x4 = 0) → C 0 [vR 0 (x1).toNatClampNeg 0, vI x2, vI x3, vI x4] σ102 = some (some (vI r103), σ103)) (u5 : (¬ r101 = 0) → (¬ r102 = 0) → (¬ x2 < (1 : Int32)) → (¬ (999 : Int32) < x2) → (¬ x4 = 0) → (x4 = (1 : Int32)) → vp_in x1 3) (u6 : (¬ r101 = 0) → (¬ r102 = 0) → (¬ x2 < (1 : Int32)) → (¬ (999 : Int32) < x2) → (¬ x4 = 0) → (x4 = (1 : Int32)) → C 0 [vR 0 (x1).toNatClampNeg 0, vI x2, vI x3, vI x4] σ102 = some (some (vI r104), σ104)) : pq_Rn C (66, 0, [some (vR 9 0 0), some (vI x1), some (vI x2), some (vI x3), some (vI x4), l5], [], σ) = (if r101 = 0 then some (some (vI (-1 : Int32)), σ101) else (if r102 = 0 then some (some (vI (-1 : Int32)), σ102) else (if x2 < (1 : Int32) then some (some (vI (-2 : Int32)), σ102) else (if (999 : Int32) < x2 then some (some (vI (-2 : Int32)), σ102) else (if x4 = 0 then (if r103 = 0 then some (some (vI (-4 : Int32)), σ103) else pq_Rn C (66, 66, [some (vR 9 0 0), some (vI x1), some (vI x2), some (vI x3), some (vI x4), some (vI (0 : Int32))], [], σ103)) else (if x4 = (1 : Int32) then (if r104 = 0 then some (some (vI (-4 : Int32)), σ104) else pq_Rn C (66, 66, [some (vR 9 0 0), some (vI x1), some (vI x2), some (vI x3), some (vI x4), some (vI (0 : Int32))], [], σ104)) else some (some (vI (-2 : Int32)), σ102))))))) := by
  by_cases c1 : r101 = 0
  · refine Eq.trans ?_ (if_pos c1).symm
    exact g66_0_0 C u1 c1
  · refine Eq.trans ?_ (if_neg c1).symm
    by_cases c2 : r102 = 0
    · refine Eq.trans ?_ (if_pos c2).symm
      exact g66_0_1 C u1 c1 (u2 c1) c2
    · refine Eq.trans ?_ (if_neg c2).symm
      by_cases c3 : x2 < (1 : Int32)
      · refine Eq.trans ?_ (if_pos c3).symm
        exact g66_0_2 C u1 c1 (u2 c1) c2 c3
      · refine Eq.trans ?_ (if_neg c3).symm
        by_cases c4 : (999 : Int32) < x2
        · refine Eq.trans ?_ (if_pos c4).symm
          exact g66_0_3 C u1 c1 (u2 c1) c2 c3 c4
        · refine Eq.trans ?_ (if_neg c4).symm
          by_cases c5 : x4 = 0
          · refine Eq.trans ?_ (if_pos c5).symm
            by_cases c6 : r103 = 0
            · refine Eq.trans ?_ (if_pos c6).symm
              exact g66_0_4 C u1 c1 (u2 c1) c2 c3 c4 c5 (u3 c1 c2 c3 c4 c5) (u4 c1 c2 c3 c4 c5) c6
            · refine Eq.trans ?_ (if_neg c6).symm
              exact g66_0_5 C u1 c1 (u2 c1) c2 c3 c4 c5 (u3 c1 c2 c3 c4 c5) (u4 c1 c2 c3 c4 c5) c6
          · refine Eq.trans ?_ (if_neg c5).symm
            by_cases c7 : x4 = (1 : Int32)
            · refine Eq.trans ?_ (if_pos c7).symm
              by_cases c8 : r104 = 0
              · refine Eq.trans ?_ (if_pos c8).symm
                exact g66_0_6 C u1 c1 (u2 c1) c2 c3 c4 c5 c7 (u5 c1 c2 c3 c4 c5 c7) (u6 c1 c2 c3 c4 c5 c7) c8
              · refine Eq.trans ?_ (if_neg c8).symm
                exact g66_0_7 C u1 c1 (u2 c1) c2 c3 c4 c5 c7 (u5 c1 c2 c3 c4 c5 c7) (u6 c1 c2 c3 c4 c5 c7) c8
            · refine Eq.trans ?_ (if_neg c7).symm
              exact g66_0_8 C u1 c1 (u2 c1) c2 c3 c4 c5 c7
theorem t66_66 (C : pmC) {σ : pmS} {x1 : Int32} {l2 : Option pmV} {l3 : Option pmV} {l4 : Option pmV} {x5 : Int32} {σ101 : pmS} (u1 : ((σ.1 5 0 9 0) ≤ x5) → vp_in x1 3) (u2 : (¬ (σ.1 5 0 9 0) ≤ x5) → C 95 [vR 9 0 0, vI x5] σ = some (none, σ101)) : pq_Rn C (66, 66, [some (vR 9 0 0), some (vI x1), l2, l3, l4, some (vI x5)], [], σ) = (if (σ.1 5 0 9 0) ≤ x5 then some (some (vI (σ.1 0 (x1).toNatClampNeg 3 0)), σ) else pq_Rn C (66, 66, [some (vR 9 0 0), some (vI x1), l2, l3, l4, some (vI (x5 + (1 : Int32)))], [], σ101)) := by
  by_cases c1 : (σ.1 5 0 9 0) ≤ x5
  · refine Eq.trans ?_ (if_pos c1).symm
    exact g66_66_0 C c1 (u1 c1)
  · refine Eq.trans ?_ (if_neg c1).symm
    exact g66_66_1 C c1 (u2 c1)
theorem t67_0 (C : pmC) {σ : pmS} {x1 : Int32} {x2 : Int32} {x3 : Int32} {x4 : Int32} {l5 : Option pmV} {r101 : Int32} {σ101 : pmS} {r102 : Int32} {σ102 : pmS} {r103 : Int32} {σ103 : pmS} {r104 : Int32} {σ104 : pmS} {σ105 : pmS} {r106 : Int32} {σ106 : pmS} {r107 : Int32} {σ107 : pmS} {r108 : Int32} {σ108 : pmS} {r109 : Int32} {σ109 : pmS} {σ110 : pmS} (u1 : C 88 [vR 9 0 0, vI x3] σ = some (some (vI r101), σ101)) (u2 : (¬ r101 = 0) → C 89 [vI x1] σ101 = some (some (vI r102), σ102)) (u3 : (¬ r101 = 0) → (¬ r102 = 0) → (x4 = (-1 : Int32)) → C 90 [vI x2] σ102 = some (some (vI r103), σ103)) (u4 : (¬ r101 = 0) → (¬ r102 = 0) → (x4 = (-1 : Int32)) → (¬ r103 = 0) → ((σ103.1 5 0 9 0) < (48 : Int32)) → C 31 [vR 5 0 0, vI x1, vI x2, vI x3] σ103 = some (some (vI r104), σ104)) (u5 : (¬ r101 = 0) → (¬ r102 = 0) → (x4 = (-1 : Int32)) → (¬ r103 = 0) → ((σ103.1 5 0 9 0) < (48 : Int32)) → vp_in r104 48) (u6 : (¬ r101 = 0) → (¬ r102 = 0) → (x4 = (-1 : Int32)) → (¬ r103 = 0) → ((σ103.1 5 0 9 0) < (48 : Int32)) → C 95 [vR 9 0 0, vI r104] (pm_wi σ104 5 0 6 (r104).toNatClampNeg x4) = some (none, σ105)) (u7 : (¬ r101 = 0) → (¬ r102 = 0) → (¬ x4 = (-1 : Int32)) → C 92 [vR 9 0 0, vI x3, vI x2] σ102 = some (some (vI r106), σ106)) (u8 : (¬ r101 = 0) → (¬ r102 = 0) → (¬ x4 = (-1 : Int32)) → C 87 [vR 9 0 0, vI r106, vI x4] σ106 = some (some (vI r107), σ107)) (u9 : (¬ r101 = 0) → (¬ r102 = 0) → (¬ x4 = (-1 : Int32)) → (¬ r107 = 0) → C 90 [vI x2] σ107 = some (some (vI r108), σ108)) (u10 : (¬ r101 = 0) → (¬ r102 = 0) → (¬ x4 = (-1 : Int32)) → (¬ r107 = 0) → (¬ r108 = 0) → ((σ108.1 5 0 9 0) < (48 : Int32)) → C 31 [vR 5 0 0, vI x1, vI x2, vI x3] σ108 = some (some (vI r109), σ109)) (u11 : (¬ r101 = 0) → (¬ r102 = 0) → (¬ x4 = (-1 : Int32)) → (¬ r107 = 0) → (¬ r108 = 0) → ((σ108.1 5 0 9 0) < (48 : Int32)) → vp_in r109 48) (u12 : (¬ r101 = 0) → (¬ r102 = 0) → (¬ x4 = (-1 : Int32)) → (¬ r107 = 0) → (¬ r108 = 0) → ((σ108.1 5 0 9 0) < (48 : Int32)) → C 95 [vR 9 0 0, vI r109] (pm_wi σ109 5 0 6 (r109).toNatClampNeg x4) = some (none, σ110)) : pq_Rn C (67, 0, [some (vR 9 0 0), some (vI x1), some (vI x2), some (vI x3), some (vI x4), l5], [], σ) = (if r101 = 0 then some (some (vI (-1 : Int32)), σ101) else (if r102 = 0 then some (some (vI (-1 : Int32)), σ102) else (if x4 = (-1 : Int32) then (if r103 = 0 then some (some (vI (-2 : Int32)), σ103) else (if (σ103.1 5 0 9 0) < (48 : Int32) then some (some (vI r104), σ105) else some (some (vI (-4 : Int32)), σ103))) else (if r107 = 0 then some (some (vI (-1 : Int32)), σ107) else (if r108 = 0 then some (some (vI (-2 : Int32)), σ108) else (if (σ108.1 5 0 9 0) < (48 : Int32) then some (some (vI r109), σ110) else some (some (vI (-4 : Int32)), σ108))))))) := by
  by_cases c1 : r101 = 0
  · refine Eq.trans ?_ (if_pos c1).symm
    exact g67_0_0 C u1 c1
  · refine Eq.trans ?_ (if_neg c1).symm
    by_cases c2 : r102 = 0
    · refine Eq.trans ?_ (if_pos c2).symm
      exact g67_0_1 C u1 c1 (u2 c1) c2
    · refine Eq.trans ?_ (if_neg c2).symm
      by_cases c3 : x4 = (-1 : Int32)
      · refine Eq.trans ?_ (if_pos c3).symm
        by_cases c4 : r103 = 0
        · refine Eq.trans ?_ (if_pos c4).symm
          exact g67_0_2 C u1 c1 (u2 c1) c2 c3 (u3 c1 c2 c3) c4
        · refine Eq.trans ?_ (if_neg c4).symm
          by_cases c5 : (σ103.1 5 0 9 0) < (48 : Int32)
          · refine Eq.trans ?_ (if_pos c5).symm
            exact g67_0_3 C u1 c1 (u2 c1) c2 c3 (u3 c1 c2 c3) c4 c5 (u4 c1 c2 c3 c4 c5) (u5 c1 c2 c3 c4 c5) (u6 c1 c2 c3 c4 c5)
          · refine Eq.trans ?_ (if_neg c5).symm
            exact g67_0_4 C u1 c1 (u2 c1) c2 c3 (u3 c1 c2 c3) c4 c5
      · refine Eq.trans ?_ (if_neg c3).symm
        by_cases c6 : r107 = 0
        · refine Eq.trans ?_ (if_pos c6).symm
          exact g67_0_5 C u1 c1 (u2 c1) c2 c3 (u7 c1 c2 c3) (u8 c1 c2 c3) c6
        · refine Eq.trans ?_ (if_neg c6).symm
          by_cases c7 : r108 = 0
          · refine Eq.trans ?_ (if_pos c7).symm
            exact g67_0_6 C u1 c1 (u2 c1) c2 c3 (u7 c1 c2 c3) (u8 c1 c2 c3) c6 (u9 c1 c2 c3 c6) c7
          · refine Eq.trans ?_ (if_neg c7).symm
            by_cases c8 : (σ108.1 5 0 9 0) < (48 : Int32)
            · refine Eq.trans ?_ (if_pos c8).symm
              exact g67_0_7 C u1 c1 (u2 c1) c2 c3 (u7 c1 c2 c3) (u8 c1 c2 c3) c6 (u9 c1 c2 c3 c6) c7 c8 (u10 c1 c2 c3 c6 c7 c8) (u11 c1 c2 c3 c6 c7 c8) (u12 c1 c2 c3 c6 c7 c8)
            · refine Eq.trans ?_ (if_neg c8).symm
              exact g67_0_8 C u1 c1 (u2 c1) c2 c3 (u7 c1 c2 c3) (u8 c1 c2 c3) c6 (u9 c1 c2 c3 c6) c7 c8
theorem t68_0 (C : pmC) {σ : pmS} {x1 : Int32} {x2 : Int32} {x3 : Int32} {x4 : Int32} {l5 : Option pmV} {r101 : Int32} {σ101 : pmS} {r102 : Int32} {σ102 : pmS} {r103 : Int32} {σ103 : pmS} {r104 : Int32} {σ104 : pmS} {r105 : Int32} {σ105 : pmS} {r106 : Int32} {σ106 : pmS} {σ107 : pmS} (u1 : C 89 [vI x1] σ = some (some (vI r101), σ101)) (u2 : (¬ r101 = 0) → C 32 [vR 5 0 0, vI x3] σ101 = some (some (vI r102), σ102)) (u3 : (¬ r101 = 0) → (¬ r102 = 0) → C 32 [vR 5 0 0, vI x4] σ102 = some (some (vI r103), σ103)) (u4 : (¬ r101 = 0) → (¬ r102 = 0) → (¬ r103 = 0) → C 90 [vI x2] σ103 = some (some (vI r104), σ104)) (u5 : (¬ r101 = 0) → (¬ r102 = 0) → (¬ r103 = 0) → (¬ r104 = 0) → vp_in x3 48) (u6 : (¬ r101 = 0) → (¬ r102 = 0) → (¬ r103 = 0) → (¬ r104 = 0) → ((σ104.1 5 0 0 (x3).toNatClampNeg) = (1 : Int32)) → vp_in x4 48) (u7 : (¬ r101 = 0) → (¬ r102 = 0) → (¬ r103 = 0) → (¬ r104 = 0) → ((σ104.1 5 0 0 (x3).toNatClampNeg) = (1 : Int32)) → ((σ104.1 5 0 0 (x4).toNatClampNeg) = 0) → C 96 [vR 9 0 0, vI x3, vI x4, vI x2] σ104 = some (some (vI r105), σ105)) (u8 : (¬ r101 = 0) → (¬ r102 = 0) → (¬ r103 = 0) → (¬ r104 = 0) → ((σ104.1 5 0 0 (x3).toNatClampNeg) = (1 : Int32)) → ((σ104.1 5 0 0 (x4).toNatClampNeg) = 0) → (¬ r105 = 0) → ((σ105.1 5 0 9 0) < (48 : Int32)) → C 31 [vR 5 0 0, vI x1, vI x2, vI (σ105.1 5 0 3 (x3).toNatClampNeg)] σ105 = some (some (vI r106), σ106)) (u9 : (¬ r101 = 0) → (¬ r102 = 0) → (¬ r103 = 0) → (¬ r104 = 0) → ((σ104.1 5 0 0 (x3).toNatClampNeg) = (1 : Int32)) → ((σ104.1 5 0 0 (x4).toNatClampNeg) = 0) → (¬ r105 = 0) → ((σ105.1 5 0 9 0) < (48 : Int32)) → vp_in r106 48) (u10 : (¬ r101 = 0) → (¬ r102 = 0) → (¬ r103 = 0) → (¬ r104 = 0) → ((σ104.1 5 0 0 (x3).toNatClampNeg) = (1 : Int32)) → ((σ104.1 5 0 0 (x4).toNatClampNeg) = 0) → (¬ r105 = 0) → ((σ105.1 5 0 9 0) < (48 : Int32)) → C 95 [vR 9 0 0, vI r106] (pm_wi (pm_wi σ106 5 0 4 (r106).toNatClampNeg x3) 5 0 5 (r106).toNatClampNeg x4) = some (none, σ107)) : pq_Rn C (68, 0, [some (vR 9 0 0), some (vI x1), some (vI x2), some (vI x3), some (vI x4), l5], [], σ) = (if r101 = 0 then some (some (vI (-1 : Int32)), σ101) else (if r102 = 0 then some (some (vI (-1 : Int32)), σ102) else (if r103 = 0 then some (some (vI (-1 : Int32)), σ103) else (if r104 = 0 then some (some (vI (-2 : Int32)), σ104) else (if (σ104.1 5 0 0 (x3).toNatClampNeg) = (1 : Int32) then (if (σ104.1 5 0 0 (x4).toNatClampNeg) = 0 then (if r105 = 0 then some (some (vI (-3 : Int32)), σ105) else (if (σ105.1 5 0 9 0) < (48 : Int32) then some (some (vI r106), σ107) else some (some (vI (-4 : Int32)), σ105))) else some (some (vI (-2 : Int32)), σ104)) else some (some (vI (-2 : Int32)), σ104)))))) := by
  by_cases c1 : r101 = 0
  · refine Eq.trans ?_ (if_pos c1).symm
    exact g68_0_0 C u1 c1
  · refine Eq.trans ?_ (if_neg c1).symm
    by_cases c2 : r102 = 0
    · refine Eq.trans ?_ (if_pos c2).symm
      exact g68_0_1 C u1 c1 (u2 c1) c2
    · refine Eq.trans ?_ (if_neg c2).symm
      by_cases c3 : r103 = 0
      · refine Eq.trans ?_ (if_pos c3).symm
        exact g68_0_2 C u1 c1 (u2 c1) c2 (u3 c1 c2) c3
      · refine Eq.trans ?_ (if_neg c3).symm
        by_cases c4 : r104 = 0
        · refine Eq.trans ?_ (if_pos c4).symm
          exact g68_0_3 C u1 c1 (u2 c1) c2 (u3 c1 c2) c3 (u4 c1 c2 c3) c4
        · refine Eq.trans ?_ (if_neg c4).symm
          by_cases c5 : (σ104.1 5 0 0 (x3).toNatClampNeg) = (1 : Int32)
          · refine Eq.trans ?_ (if_pos c5).symm
            by_cases c6 : (σ104.1 5 0 0 (x4).toNatClampNeg) = 0
            · refine Eq.trans ?_ (if_pos c6).symm
              by_cases c7 : r105 = 0
              · refine Eq.trans ?_ (if_pos c7).symm
                exact g68_0_4 C u1 c1 (u2 c1) c2 (u3 c1 c2) c3 (u4 c1 c2 c3) c4 (u5 c1 c2 c3 c4) c5 (u6 c1 c2 c3 c4 c5) c6 (u7 c1 c2 c3 c4 c5 c6) c7
              · refine Eq.trans ?_ (if_neg c7).symm
                by_cases c8 : (σ105.1 5 0 9 0) < (48 : Int32)
                · refine Eq.trans ?_ (if_pos c8).symm
                  exact g68_0_5 C u1 c1 (u2 c1) c2 (u3 c1 c2) c3 (u4 c1 c2 c3) c4 (u5 c1 c2 c3 c4) c5 (u6 c1 c2 c3 c4 c5) c6 (u7 c1 c2 c3 c4 c5 c6) c7 c8 (u8 c1 c2 c3 c4 c5 c6 c7 c8) (u9 c1 c2 c3 c4 c5 c6 c7 c8) (u10 c1 c2 c3 c4 c5 c6 c7 c8)
                · refine Eq.trans ?_ (if_neg c8).symm
                  exact g68_0_6 C u1 c1 (u2 c1) c2 (u3 c1 c2) c3 (u4 c1 c2 c3) c4 (u5 c1 c2 c3 c4) c5 (u6 c1 c2 c3 c4 c5) c6 (u7 c1 c2 c3 c4 c5 c6) c7 c8
            · refine Eq.trans ?_ (if_neg c6).symm
              exact g68_0_7 C u1 c1 (u2 c1) c2 (u3 c1 c2) c3 (u4 c1 c2 c3) c4 (u5 c1 c2 c3 c4) c5 (u6 c1 c2 c3 c4 c5) c6
          · refine Eq.trans ?_ (if_neg c5).symm
            exact g68_0_8 C u1 c1 (u2 c1) c2 (u3 c1 c2) c3 (u4 c1 c2 c3) c4 (u5 c1 c2 c3 c4) c5
theorem t69_0 (C : pmC) {σ : pmS} {x1 : Int32} {x2 : Int32} {r101 : Int32} {σ101 : pmS} (u1 : C 32 [vR 5 0 0, vI x1] σ = some (some (vI r101), σ101)) (u2 : (¬ r101 = 0) → vp_in x1 48) : pq_Rn C (69, 0, [some (vR 9 0 0), some (vI x1), some (vI x2)], [], σ) = (if r101 = 0 then some (some (vI (-1 : Int32)), σ101) else (if x2 ≤ (σ101.1 5 0 1 (x1).toNatClampNeg) then some (some (vI (-2 : Int32)), σ101) else (if x2 ≤ (1000 : Int32) then (if (σ101.1 5 0 2 (x1).toNatClampNeg) = (-1 : Int32) then some (some (vI (0 : Int32)), (pm_wi σ101 5 0 2 (x1).toNatClampNeg x2)) else some (some (vI (-3 : Int32)), σ101)) else some (some (vI (-2 : Int32)), σ101)))) := by
  by_cases c1 : r101 = 0
  · refine Eq.trans ?_ (if_pos c1).symm
    exact g69_0_0 C u1 c1
  · refine Eq.trans ?_ (if_neg c1).symm
    by_cases c2 : x2 ≤ (σ101.1 5 0 1 (x1).toNatClampNeg)
    · refine Eq.trans ?_ (if_pos c2).symm
      exact g69_0_1 C u1 c1 (u2 c1) c2
    · refine Eq.trans ?_ (if_neg c2).symm
      by_cases c3 : x2 ≤ (1000 : Int32)
      · refine Eq.trans ?_ (if_pos c3).symm
        by_cases c4 : (σ101.1 5 0 2 (x1).toNatClampNeg) = (-1 : Int32)
        · refine Eq.trans ?_ (if_pos c4).symm
          exact g69_0_2 C u1 c1 (u2 c1) c2 c3 c4
        · refine Eq.trans ?_ (if_neg c4).symm
          exact g69_0_3 C u1 c1 (u2 c1) c2 c3 c4
      · refine Eq.trans ?_ (if_neg c3).symm
        exact g69_0_4 C u1 c1 (u2 c1) c2 c3
theorem t70_0 (C : pmC) {σ : pmS} {x1 : Int32} {l2 : Option pmV}  : pq_Rn C (70, 0, [some (vR 9 0 0), some (vI x1), l2], [], σ) = (if x1 < 0 then some (some (vI (-2 : Int32)), σ) else (if x1 ≤ (40 : Int32) then some (some (vI (σ.1 9 0 11 0)), (pm_wi σ 9 0 11 0 x1)) else some (some (vI (-2 : Int32)), σ))) := by
  by_cases c1 : x1 < 0
  · refine Eq.trans ?_ (if_pos c1).symm
    exact g70_0_0 C c1
  · refine Eq.trans ?_ (if_neg c1).symm
    by_cases c2 : x1 ≤ (40 : Int32)
    · refine Eq.trans ?_ (if_pos c2).symm
      exact g70_0_1 C c1 c2
    · refine Eq.trans ?_ (if_neg c2).symm
      exact g70_0_2 C c1 c2
theorem t71_0 (C : pmC) {σ : pmS} {x1 : Int32} {x2 : Int32} {x3 : Int32} {l4 : Option pmV} {r101 : Int32} {σ101 : pmS} {r102 : Int32} {σ102 : pmS} {r103 : Int32} {σ103 : pmS} (u1 : C 72 [vR 9 0 0, vI x1, vI x2, vI x3] σ = some (some (vI r101), σ101)) (u2 : (0 ≤ r101) → (r101 < (1 : Int32)) → C 51 [vR 8 0 0, vI x1, vI x2, vI x3] σ101 = some (some (vI r102), σ102)) (u3 : (0 ≤ r101) → (¬ r101 < (1 : Int32)) → ((4 : Int32) < r101) → C 51 [vR 8 0 0, vI x1, vI x2, vI x3] σ101 = some (some (vI r103), σ103)) : pq_Rn C (71, 0, [some (vR 9 0 0), some (vI x1), some (vI x2), some (vI x3), l4], [], σ) = (if 0 ≤ r101 then (if r101 < (1 : Int32) then (if r102 = 0 then some (some (vI (-4 : Int32)), σ102) else (if r101 = 0 then some (some (vI (1 : Int32)), σ102) else some (some (vI (0 : Int32)), σ102))) else (if (4 : Int32) < r101 then (if r103 = 0 then some (some (vI (-4 : Int32)), σ103) else (if r101 = 0 then some (some (vI (1 : Int32)), σ103) else some (some (vI (0 : Int32)), σ103))) else some (some (vI (-3 : Int32)), σ101))) else some (some (vI r101), σ101)) := by
  by_cases c1 : 0 ≤ r101
  · refine Eq.trans ?_ (if_pos c1).symm
    by_cases c2 : r101 < (1 : Int32)
    · refine Eq.trans ?_ (if_pos c2).symm
      by_cases c3 : r102 = 0
      · refine Eq.trans ?_ (if_pos c3).symm
        exact g71_0_0 C u1 c1 c2 (u2 c1 c2) c3
      · refine Eq.trans ?_ (if_neg c3).symm
        by_cases c4 : r101 = 0
        · refine Eq.trans ?_ (if_pos c4).symm
          exact g71_0_1 C u1 c1 c2 (u2 c1 c2) c3 c4
        · refine Eq.trans ?_ (if_neg c4).symm
          exact g71_0_2 C u1 c1 c2 (u2 c1 c2) c3 c4
    · refine Eq.trans ?_ (if_neg c2).symm
      by_cases c5 : (4 : Int32) < r101
      · refine Eq.trans ?_ (if_pos c5).symm
        by_cases c6 : r103 = 0
        · refine Eq.trans ?_ (if_pos c6).symm
          exact g71_0_3 C u1 c1 c2 c5 (u3 c1 c2 c5) c6
        · refine Eq.trans ?_ (if_neg c6).symm
          by_cases c7 : r101 = 0
          · refine Eq.trans ?_ (if_pos c7).symm
            exact g71_0_4 C u1 c1 c2 c5 (u3 c1 c2 c5) c6 c7
          · refine Eq.trans ?_ (if_neg c7).symm
            exact g71_0_5 C u1 c1 c2 c5 (u3 c1 c2 c5) c6 c7
      · refine Eq.trans ?_ (if_neg c5).symm
        exact g71_0_6 C u1 c1 c2 c5
  · refine Eq.trans ?_ (if_neg c1).symm
    exact g71_0_7 C u1 c1
theorem t72_0 (C : pmC) {σ : pmS} {x1 : Int32} {x2 : Int32} {x3 : Int32} {l4 : Option pmV} {l5 : Option pmV} {r101 : Int32} {σ101 : pmS} {r102 : Int32} {σ102 : pmS} {r103 : Int32} {σ103 : pmS} {r104 : Int32} {σ104 : pmS} {r105 : Int32} {σ105 : pmS} {r106 : Int32} {σ106 : pmS} {r107 : Int32} {σ107 : pmS} (u1 : C 32 [vR 5 0 0, vI x1] σ = some (some (vI r101), σ101)) (u2 : (¬ r101 = 0) → C 32 [vR 5 0 0, vI x2] σ101 = some (some (vI r102), σ102)) (u3 : (¬ r101 = 0) → (¬ r102 = 0) → C 90 [vI x3] σ102 = some (some (vI r103), σ103)) (u4 : (¬ r101 = 0) → (¬ r102 = 0) → (¬ r103 = 0) → vp_in x1 48) (u5 : (¬ r101 = 0) → (¬ r102 = 0) → (¬ r103 = 0) → ((σ103.1 5 0 0 (x1).toNatClampNeg) = 0) → vp_in x2 48) (u6 : (¬ r101 = 0) → (¬ r102 = 0) → (¬ r103 = 0) → ((σ103.1 5 0 0 (x1).toNatClampNeg) = 0) → ((σ103.1 5 0 0 (x2).toNatClampNeg) = (1 : Int32)) → C 97 [vR 9 0 0, vI x1, vI x3] σ103 = some (some (vI r104), σ104)) (u7 : (¬ r101 = 0) → (¬ r102 = 0) → (¬ r103 = 0) → ((σ103.1 5 0 0 (x1).toNatClampNeg) = 0) → ((σ103.1 5 0 0 (x2).toNatClampNeg) = (1 : Int32)) → C 97 [vR 9 0 0, vI x2, vI x3] σ104 = some (some (vI r105), σ105)) (u8 : (¬ r101 = 0) → (¬ r102 = 0) → (¬ r103 = 0) → ((σ103.1 5 0 0 (x1).toNatClampNeg) = 0) → ((σ103.1 5 0 0 (x2).toNatClampNeg) = (1 : Int32)) → (r104 = 0) → ((r104 + r105) = 0) → C 98 [vR 9 0 0, vI x1, vI x2, vI x3] σ105 = some (some (vI r106), σ106)) (u9 : (¬ r101 = 0) → (¬ r102 = 0) → (¬ r103 = 0) → ((σ103.1 5 0 0 (x1).toNatClampNeg) = 0) → ((σ103.1 5 0 0 (x2).toNatClampNeg) = (1 : Int32)) → (¬ r104 = 0) → (r105 = 0) → ((r104 + r105) = 0) → C 98 [vR 9 0 0, vI x1, vI x2, vI x3] σ105 = some (some (vI r107), σ107)) : pq_Rn C (72, 0, [some (vR 9 0 0), some (vI x1), some (vI x2), some (vI x3), l4, l5], [], σ) = (if r101 = 0 then some (some (vI (-1 : Int32)), σ101) else (if r102 = 0 then some (some (vI (-1 : Int32)), σ102) else (if r103 = 0 then some (some (vI (-2 : Int32)), σ103) else (if (σ103.1 5 0 0 (x1).toNatClampNeg) = 0 then (if (σ103.1 5 0 0 (x2).toNatClampNeg) = (1 : Int32) then (if r104 = 0 then (if (r104 + r105) = 0 then some (some (vI r106), σ106) else some (some (vI (r104 + r105)), σ105)) else (if r105 = 0 then (if (r104 + r105) = 0 then some (some (vI r107), σ107) else some (some (vI (r104 + r105)), σ105)) else some (some (vI (if r105 < r104 then r105 else r104)), σ105))) else some (some (vI (-2 : Int32)), σ103)) else some (some (vI (-2 : Int32)), σ103))))) := by
  by_cases c1 : r101 = 0
  · refine Eq.trans ?_ (if_pos c1).symm
    exact g72_0_0 C u1 c1
  · refine Eq.trans ?_ (if_neg c1).symm
    by_cases c2 : r102 = 0
    · refine Eq.trans ?_ (if_pos c2).symm
      exact g72_0_1 C u1 c1 (u2 c1) c2
    · refine Eq.trans ?_ (if_neg c2).symm
      by_cases c3 : r103 = 0
      · refine Eq.trans ?_ (if_pos c3).symm
        exact g72_0_2 C u1 c1 (u2 c1) c2 (u3 c1 c2) c3
      · refine Eq.trans ?_ (if_neg c3).symm
        by_cases c4 : (σ103.1 5 0 0 (x1).toNatClampNeg) = 0
        · refine Eq.trans ?_ (if_pos c4).symm
          by_cases c5 : (σ103.1 5 0 0 (x2).toNatClampNeg) = (1 : Int32)
          · refine Eq.trans ?_ (if_pos c5).symm
            by_cases c6 : r104 = 0
            · refine Eq.trans ?_ (if_pos c6).symm
              by_cases c7 : (r104 + r105) = 0
              · refine Eq.trans ?_ (if_pos c7).symm
                exact g72_0_3 C u1 c1 (u2 c1) c2 (u3 c1 c2) c3 (u4 c1 c2 c3) c4 (u5 c1 c2 c3 c4) c5 (u6 c1 c2 c3 c4 c5) (u7 c1 c2 c3 c4 c5) c6 c7 (u8 c1 c2 c3 c4 c5 c6 c7)
              · refine Eq.trans ?_ (if_neg c7).symm
                exact g72_0_4 C u1 c1 (u2 c1) c2 (u3 c1 c2) c3 (u4 c1 c2 c3) c4 (u5 c1 c2 c3 c4) c5 (u6 c1 c2 c3 c4 c5) (u7 c1 c2 c3 c4 c5) c6 c7
            · refine Eq.trans ?_ (if_neg c6).symm
              by_cases c8 : r105 = 0
              · refine Eq.trans ?_ (if_pos c8).symm
                by_cases c9 : (r104 + r105) = 0
                · refine Eq.trans ?_ (if_pos c9).symm
                  exact g72_0_5 C u1 c1 (u2 c1) c2 (u3 c1 c2) c3 (u4 c1 c2 c3) c4 (u5 c1 c2 c3 c4) c5 (u6 c1 c2 c3 c4 c5) (u7 c1 c2 c3 c4 c5) c6 c8 c9 (u9 c1 c2 c3 c4 c5 c6 c8 c9)
                · refine Eq.trans ?_ (if_neg c9).symm
                  exact g72_0_6 C u1 c1 (u2 c1) c2 (u3 c1 c2) c3 (u4 c1 c2 c3) c4 (u5 c1 c2 c3 c4) c5 (u6 c1 c2 c3 c4 c5) (u7 c1 c2 c3 c4 c5) c6 c8 c9
              · refine Eq.trans ?_ (if_neg c8).symm
                exact g72_0_7 C u1 c1 (u2 c1) c2 (u3 c1 c2) c3 (u4 c1 c2 c3) c4 (u5 c1 c2 c3 c4) c5 (u6 c1 c2 c3 c4 c5) (u7 c1 c2 c3 c4 c5) c6 c8
          · refine Eq.trans ?_ (if_neg c5).symm
            exact g72_0_8 C u1 c1 (u2 c1) c2 (u3 c1 c2) c3 (u4 c1 c2 c3) c4 (u5 c1 c2 c3 c4) c5
        · refine Eq.trans ?_ (if_neg c4).symm
          exact g72_0_9 C u1 c1 (u2 c1) c2 (u3 c1 c2) c3 (u4 c1 c2 c3) c4
theorem t73_0 (C : pmC) {σ : pmS} {x1 : Int32} {x2 : Int32} {r101 : Int32} {σ101 : pmS} {r102 : Int32} {σ102 : pmS} (u1 : C 32 [vR 5 0 0, vI x1] σ = some (some (vI r101), σ101)) (u2 : (¬ r101 = 0) → (x2 = (0 : Int32)) → vp_in x1 48) (u3 : (¬ r101 = 0) → (¬ x2 = (0 : Int32)) → (x2 = (1 : Int32)) → vp_in x1 48) (u4 : (¬ r101 = 0) → (¬ x2 = (0 : Int32)) → (¬ x2 = (1 : Int32)) → (x2 = (2 : Int32)) → vp_in x1 48) (u5 : (¬ r101 = 0) → (¬ x2 = (0 : Int32)) → (¬ x2 = (1 : Int32)) → (¬ x2 = (2 : Int32)) → (x2 = (3 : Int32)) → vp_in x1 48) (u6 : (¬ r101 = 0) → (¬ x2 = (0 : Int32)) → (¬ x2 = (1 : Int32)) → (¬ x2 = (2 : Int32)) → (¬ x2 = (3 : Int32)) → (x2 = (4 : Int32)) → vp_in x1 48) (u7 : (¬ r101 = 0) → (¬ x2 = (0 : Int32)) → (¬ x2 = (1 : Int32)) → (¬ x2 = (2 : Int32)) → (¬ x2 = (3 : Int32)) → (¬ x2 = (4 : Int32)) → (x2 = (5 : Int32)) → vp_in x1 48) (u8 : (¬ r101 = 0) → (¬ x2 = (0 : Int32)) → (¬ x2 = (1 : Int32)) → (¬ x2 = (2 : Int32)) → (¬ x2 = (3 : Int32)) → (¬ x2 = (4 : Int32)) → (¬ x2 = (5 : Int32)) → (x2 = (6 : Int32)) → vp_in x1 48) (u9 : (¬ r101 = 0) → (¬ x2 = (0 : Int32)) → (¬ x2 = (1 : Int32)) → (¬ x2 = (2 : Int32)) → (¬ x2 = (3 : Int32)) → (¬ x2 = (4 : Int32)) → (¬ x2 = (5 : Int32)) → (¬ x2 = (6 : Int32)) → (x2 = (7 : Int32)) → vp_in x1 48) (u10 : (¬ r101 = 0) → (¬ x2 = (0 : Int32)) → (¬ x2 = (1 : Int32)) → (¬ x2 = (2 : Int32)) → (¬ x2 = (3 : Int32)) → (¬ x2 = (4 : Int32)) → (¬ x2 = (5 : Int32)) → (¬ x2 = (6 : Int32)) → (¬ x2 = (7 : Int32)) → (x2 = (8 : Int32)) → C 37 [vR 5 0 0, vI x1] σ101 = some (some (vI r102), σ102)) : pq_Rn C (73, 0, [some (vR 9 0 0), some (vI x1), some (vI x2)], [], σ) = (if r101 = 0 then some (some (vI (-5 : Int32)), σ101) else (if x2 = (0 : Int32) then some (some (vI (σ101.1 5 0 0 (x1).toNatClampNeg)), σ101) else (if x2 = (1 : Int32) then some (some (vI (σ101.1 5 0 1 (x1).toNatClampNeg)), σ101) else (if x2 = (2 : Int32) then some (some (vI (σ101.1 5 0 2 (x1).toNatClampNeg)), σ101) else (if x2 = (3 : Int32) then some (some (vI (σ101.1 5 0 3 (x1).toNatClampNeg)), σ101) else (if x2 = (4 : Int32) then some (some (vI (σ101.1 5 0 4 (x1).toNatClampNeg)), σ101) else (if x2 = (5 : Int32) then some (some (vI (σ101.1 5 0 5 (x1).toNatClampNeg)), σ101) else (if x2 = (6 : Int32) then some (some (vI (σ101.1 5 0 7 (x1).toNatClampNeg)), σ101) else (if x2 = (7 : Int32) then some (some (vI (σ101.1 5 0 8 (x1).toNatClampNeg)), σ101) else (if x2 = (8 : Int32) then (if r102 = 0 then some (some (vI (0 : Int32)), σ102) else some (some (vI (1 : Int32)), σ102)) else some (some (vI (-5 : Int32)), σ101))))))))))) := by
  by_cases c1 : r101 = 0
  · refine Eq.trans ?_ (if_pos c1).symm
    exact g73_0_0 C u1 c1
  · refine Eq.trans ?_ (if_neg c1).symm
    by_cases c2 : x2 = (0 : Int32)
    · refine Eq.trans ?_ (if_pos c2).symm
      exact g73_0_1 C u1 c1 c2 (u2 c1 c2)
    · refine Eq.trans ?_ (if_neg c2).symm
      by_cases c3 : x2 = (1 : Int32)
      · refine Eq.trans ?_ (if_pos c3).symm
        exact g73_0_2 C u1 c1 c3 (u3 c1 c2 c3)
      · refine Eq.trans ?_ (if_neg c3).symm
        by_cases c4 : x2 = (2 : Int32)
        · refine Eq.trans ?_ (if_pos c4).symm
          exact g73_0_3 C u1 c1 c4 (u4 c1 c2 c3 c4)
        · refine Eq.trans ?_ (if_neg c4).symm
          by_cases c5 : x2 = (3 : Int32)
          · refine Eq.trans ?_ (if_pos c5).symm
            exact g73_0_4 C u1 c1 c5 (u5 c1 c2 c3 c4 c5)
          · refine Eq.trans ?_ (if_neg c5).symm
            by_cases c6 : x2 = (4 : Int32)
            · refine Eq.trans ?_ (if_pos c6).symm
              exact g73_0_5 C u1 c1 c6 (u6 c1 c2 c3 c4 c5 c6)
            · refine Eq.trans ?_ (if_neg c6).symm
              by_cases c7 : x2 = (5 : Int32)
              · refine Eq.trans ?_ (if_pos c7).symm
                exact g73_0_6 C u1 c1 c7 (u7 c1 c2 c3 c4 c5 c6 c7)
              · refine Eq.trans ?_ (if_neg c7).symm
                by_cases c8 : x2 = (6 : Int32)
                · refine Eq.trans ?_ (if_pos c8).symm
                  exact g73_0_7 C u1 c1 c8 (u8 c1 c2 c3 c4 c5 c6 c7 c8)
                · refine Eq.trans ?_ (if_neg c8).symm
                  by_cases c9 : x2 = (7 : Int32)
                  · refine Eq.trans ?_ (if_pos c9).symm
                    exact g73_0_8 C u1 c1 c9 (u9 c1 c2 c3 c4 c5 c6 c7 c8 c9)
                  · refine Eq.trans ?_ (if_neg c9).symm
                    by_cases c10 : x2 = (8 : Int32)
                    · refine Eq.trans ?_ (if_pos c10).symm
                      by_cases c11 : r102 = 0
                      · refine Eq.trans ?_ (if_pos c11).symm
                        exact g73_0_9 C u1 c1 c10 (u10 c1 c2 c3 c4 c5 c6 c7 c8 c9 c10) c11
                      · refine Eq.trans ?_ (if_neg c11).symm
                        exact g73_0_10 C u1 c1 c10 (u10 c1 c2 c3 c4 c5 c6 c7 c8 c9 c10) c11
                    · refine Eq.trans ?_ (if_neg c10).symm
                      exact g73_0_11 C u1 c1 c2 c3 c4 c5 c6 c7 c8 c9 c10
theorem t74_0 (C : pmC) {σ : pmS} {x1 : Int32} {x2 : Int32} {r101 : Int32} {σ101 : pmS} {r102 : Int32} {σ102 : pmS} (u1 : C 32 [vR 5 0 0, vI x1] σ = some (some (vI r101), σ101)) (u2 : (¬ r101 = 0) → C 53 [vR 8 0 0, vR 5 0 0, vI x1, vI x2] σ101 = some (some (vI r102), σ102)) : pq_Rn C (74, 0, [some (vR 9 0 0), some (vI x1), some (vI x2)], [], σ) = (if r101 = 0 then some (some (vI (-1 : Int32)), σ101) else some (some (vI r102), σ102)) := by
  by_cases c1 : r101 = 0
  · refine Eq.trans ?_ (if_pos c1).symm
    exact g74_0_0 C u1 c1
  · refine Eq.trans ?_ (if_neg c1).symm
    exact g74_0_1 C u1 c1 (u2 c1)
theorem t75_0 (C : pmC) {σ : pmS} {x1 : Int32} {x2 : Int32} {l3 : Option pmV} {l4 : Option pmV} {r101 : Int32} {σ101 : pmS} (u1 : C 32 [vR 5 0 0, vI x1] σ = some (some (vI r101), σ101)) : pq_Rn C (75, 0, [some (vR 9 0 0), some (vI x1), some (vI x2), l3, l4], [], σ) = (if r101 = 0 then some (some (vI (-1 : Int32)), σ101) else pq_Rn C (75, 18, [some (vR 9 0 0), some (vI x1), some (vI x2), some (vI (0 : Int32)), some (vI (0 : Int32))], [], σ101)) := by
  by_cases c1 : r101 = 0
  · refine Eq.trans ?_ (if_pos c1).symm
    exact g75_0_0 C u1 c1
  · refine Eq.trans ?_ (if_neg c1).symm
    exact g75_0_1 C u1 c1
theorem t75_18 (C : pmC) {σ : pmS} {x1 : Int32} {x2 : Int32} {x3 : Int32} {x4 : Int32} {r101 : Int32} {σ101 : pmS} (u1 : (¬ (σ.1 5 0 9 0) ≤ x4) → C 35 [vR 5 0 0, vI x1, vI x4] σ = some (some (vI r101), σ101)) (u2 : (¬ (σ.1 5 0 9 0) ≤ x4) → (¬ r101 = 0) → vp_in x4 48) : pq_Rn C (75, 18, [some (vR 9 0 0), some (vI x1), some (vI x2), some (vI x3), some (vI x4)], [], σ) = (if (σ.1 5 0 9 0) ≤ x4 then some (some (vI x3), σ) else (if r101 = 0 then pq_Rn C (75, 18, [some (vR 9 0 0), some (vI x1), some (vI x2), some (vI x3), some (vI (x4 + (1 : Int32)))], [], σ101) else (if x2 < (σ101.1 5 0 1 (x4).toNatClampNeg) then pq_Rn C (75, 18, [some (vR 9 0 0), some (vI x1), some (vI x2), some (vI x3), some (vI (x4 + (1 : Int32)))], [], σ101) else pq_Rn C (75, 18, [some (vR 9 0 0), some (vI x1), some (vI x2), some (vI (x3 + (1 : Int32))), some (vI (x4 + (1 : Int32)))], [], σ101)))) := by
  by_cases c1 : (σ.1 5 0 9 0) ≤ x4
  · refine Eq.trans ?_ (if_pos c1).symm
    exact g75_18_0 C c1
  · refine Eq.trans ?_ (if_neg c1).symm
    by_cases c2 : r101 = 0
    · refine Eq.trans ?_ (if_pos c2).symm
      exact g75_18_1 C c1 (u1 c1) c2
    · refine Eq.trans ?_ (if_neg c2).symm
      by_cases c3 : x2 < (σ101.1 5 0 1 (x4).toNatClampNeg)
      · refine Eq.trans ?_ (if_pos c3).symm
        exact g75_18_2 C c1 (u1 c1) c2 (u2 c1 c2) c3
      · refine Eq.trans ?_ (if_neg c3).symm
        exact g75_18_3 C c1 (u1 c1) c2 (u2 c1 c2) c3
theorem t76_0 (C : pmC) {σ : pmS} {x1 : Int32} {x2 : Int32} {x3 : Int32} {l4 : Option pmV} {l5 : Option pmV} {l6 : Option pmV} {r101 : Int32} {σ101 : pmS} (u1 : C 88 [vR 9 0 0, vI x1] σ = some (some (vI r101), σ101)) : pq_Rn C (76, 0, [some (vR 9 0 0), some (vI x1), some (vI x2), some (vI x3), l4, l5, l6], [], σ) = (if r101 = 0 then some (some (vI (-1 : Int32)), σ101) else (if x3 < (-1 : Int32) then some (some (vI (-1 : Int32)), σ101) else (if x3 < (8 : Int32) then pq_Rn C (76, 27, [some (vR 9 0 0), some (vI x1), some (vI x2), some (vI x3), some (vI (0 : Int32)), some (vI (0 : Int32)), l6], [], σ101) else some (some (vI (-1 : Int32)), σ101)))) := by
  by_cases c1 : r101 = 0
  · refine Eq.trans ?_ (if_pos c1).symm
    exact g76_0_0 C u1 c1
  · refine Eq.trans ?_ (if_neg c1).symm
    by_cases c2 : x3 < (-1 : Int32)
    · refine Eq.trans ?_ (if_pos c2).symm
      exact g76_0_1 C u1 c1 c2
    · refine Eq.trans ?_ (if_neg c2).symm
      by_cases c3 : x3 < (8 : Int32)
      · refine Eq.trans ?_ (if_pos c3).symm
        exact g76_0_2 C u1 c1 c2 c3
      · refine Eq.trans ?_ (if_neg c3).symm
        exact g76_0_3 C u1 c1 c2 c3
theorem t76_27 (C : pmC) {σ : pmS} {x1 : Int32} {x2 : Int32} {x3 : Int32} {x4 : Int32} {x5 : Int32} {l6 : Option pmV} {r101 : Int32} {σ101 : pmS} {r102 : Int32} {σ102 : pmS} (u1 : (¬ (σ.1 5 0 9 0) ≤ x5) → (x3 = (-1 : Int32)) → vp_in x5 48) (u2 : (¬ (σ.1 5 0 9 0) ≤ x5) → (x3 = (-1 : Int32)) → ((σ.1 5 0 3 (x5).toNatClampNeg) = x1) → C 34 [vR 5 0 0, vI x5, vI x2] σ = some (some (vI r101), σ101)) (u3 : (¬ (σ.1 5 0 9 0) ≤ x5) → (¬ x3 = (-1 : Int32)) → vp_in x5 48) (u4 : (¬ (σ.1 5 0 9 0) ≤ x5) → (¬ x3 = (-1 : Int32)) → ((σ.1 5 0 7 (x5).toNatClampNeg) = x3) → ((σ.1 5 0 3 (x5).toNatClampNeg) = x1) → C 34 [vR 5 0 0, vI x5, vI x2] σ = some (some (vI r102), σ102)) : pq_Rn C (76, 27, [some (vR 9 0 0), some (vI x1), some (vI x2), some (vI x3), some (vI x4), some (vI x5), l6], [], σ) = (if (σ.1 5 0 9 0) ≤ x5 then some (some (vI x4), σ) else (if x3 = (-1 : Int32) then (if (σ.1 5 0 3 (x5).toNatClampNeg) = x1 then (if r101 = 0 then pq_Rn C (76, 27, [some (vR 9 0 0), some (vI x1), some (vI x2), some (vI x3), some (vI x4), some (vI (x5 + (1 : Int32))), some (vI (1 : Int32))], [], σ101) else pq_Rn C (76, 27, [some (vR 9 0 0), some (vI x1), some (vI x2), some (vI x3), some (vI (x4 + (1 : Int32))), some (vI (x5 + (1 : Int32))), some (vI (1 : Int32))], [], σ101)) else pq_Rn C (76, 27, [some (vR 9 0 0), some (vI x1), some (vI x2), some (vI x3), some (vI x4), some (vI (x5 + (1 : Int32))), some (vI (1 : Int32))], [], σ)) else (if (σ.1 5 0 7 (x5).toNatClampNeg) = x3 then (if (σ.1 5 0 3 (x5).toNatClampNeg) = x1 then (if r102 = 0 then pq_Rn C (76, 27, [some (vR 9 0 0), some (vI x1), some (vI x2), some (vI x3), some (vI x4), some (vI (x5 + (1 : Int32))), some (vI (1 : Int32))], [], σ102) else pq_Rn C (76, 27, [some (vR 9 0 0), some (vI x1), some (vI x2), some (vI x3), some (vI (x4 + (1 : Int32))), some (vI (x5 + (1 : Int32))), some (vI (1 : Int32))], [], σ102)) else pq_Rn C (76, 27, [some (vR 9 0 0), some (vI x1), some (vI x2), some (vI x3), some (vI x4), some (vI (x5 + (1 : Int32))), some (vI (1 : Int32))], [], σ)) else pq_Rn C (76, 27, [some (vR 9 0 0), some (vI x1), some (vI x2), some (vI x3), some (vI x4), some (vI (x5 + (1 : Int32))), some (vI (0 : Int32))], [], σ)))) := by
  by_cases c1 : (σ.1 5 0 9 0) ≤ x5
  · refine Eq.trans ?_ (if_pos c1).symm
    exact g76_27_0 C c1
  · refine Eq.trans ?_ (if_neg c1).symm
    by_cases c2 : x3 = (-1 : Int32)
    · refine Eq.trans ?_ (if_pos c2).symm
      by_cases c3 : (σ.1 5 0 3 (x5).toNatClampNeg) = x1
      · refine Eq.trans ?_ (if_pos c3).symm
        by_cases c4 : r101 = 0
        · refine Eq.trans ?_ (if_pos c4).symm
          exact g76_27_1 C c1 c2 (u1 c1 c2) c3 (u2 c1 c2 c3) c4
        · refine Eq.trans ?_ (if_neg c4).symm
          exact g76_27_2 C c1 c2 (u1 c1 c2) c3 (u2 c1 c2 c3) c4
      · refine Eq.trans ?_ (if_neg c3).symm
        exact g76_27_3 C c1 c2 (u1 c1 c2) c3
    · refine Eq.trans ?_ (if_neg c2).symm
      by_cases c5 : (σ.1 5 0 7 (x5).toNatClampNeg) = x3
      · refine Eq.trans ?_ (if_pos c5).symm
        by_cases c6 : (σ.1 5 0 3 (x5).toNatClampNeg) = x1
        · refine Eq.trans ?_ (if_pos c6).symm
          by_cases c7 : r102 = 0
          · refine Eq.trans ?_ (if_pos c7).symm
            exact g76_27_4 C c1 c2 (u3 c1 c2) c5 c6 (u4 c1 c2 c5 c6) c7
          · refine Eq.trans ?_ (if_neg c7).symm
            exact g76_27_5 C c1 c2 (u3 c1 c2) c5 c6 (u4 c1 c2 c5 c6) c7
        · refine Eq.trans ?_ (if_neg c6).symm
          exact g76_27_6 C c1 c2 (u3 c1 c2) c5 c6
      · refine Eq.trans ?_ (if_neg c5).symm
        exact g76_27_7 C c1 c2 (u3 c1 c2) c5
theorem t77_0 (C : pmC) {σ : pmS} {x1 : Int32} {x2 : Int32} {l3 : Option pmV} {l4 : Option pmV} {r101 : Int32} {σ101 : pmS} (u1 : C 90 [vI x1] σ = some (some (vI r101), σ101)) : pq_Rn C (77, 0, [some (vR 9 0 0), some (vI x1), some (vI x2), l3, l4], [], σ) = (if r101 = 0 then some (some (vI (-2 : Int32)), σ101) else (if x2 = 0 then pq_Rn C (77, 24, [some (vR 9 0 0), some (vI x1), some (vI x2), some (vI (0 : Int32)), some (vI (0 : Int32))], [], σ101) else (if x2 = (1 : Int32) then pq_Rn C (77, 24, [some (vR 9 0 0), some (vI x1), some (vI x2), some (vI (0 : Int32)), some (vI (0 : Int32))], [], σ101) else some (some (vI (-2 : Int32)), σ101)))) := by
  by_cases c1 : r101 = 0
  · refine Eq.trans ?_ (if_pos c1).symm
    exact g77_0_0 C u1 c1
  · refine Eq.trans ?_ (if_neg c1).symm
    by_cases c2 : x2 = 0
    · refine Eq.trans ?_ (if_pos c2).symm
      exact g77_0_1 C u1 c1 c2
    · refine Eq.trans ?_ (if_neg c2).symm
      by_cases c3 : x2 = (1 : Int32)
      · refine Eq.trans ?_ (if_pos c3).symm
        exact g77_0_2 C u1 c1 c2 c3
      · refine Eq.trans ?_ (if_neg c3).symm
        exact g77_0_3 C u1 c1 c2 c3
theorem t77_24 (C : pmC) {σ : pmS} {x1 : Int32} {x2 : Int32} {x3 : Int32} {x4 : Int32} {r101 : Int32} {σ101 : pmS} {r102 : Int32} {σ102 : pmS} (u1 : (¬ (σ.1 8 0 3 0) ≤ x4) → C 52 [vR 8 0 0, vR 5 0 0, vI x4, vI x1] σ = some (some (vI r101), σ101)) (u2 : (¬ (σ.1 8 0 3 0) ≤ x4) → (¬ r101 = 0) → vp_in x4 40) (u3 : (¬ (σ.1 8 0 3 0) ≤ x4) → (¬ r101 = 0) → C 99 [vR 9 0 0, vI (σ101.1 8 0 0 (x4).toNatClampNeg), vI (σ101.1 8 0 1 (x4).toNatClampNeg), vI (σ101.1 8 0 2 (x4).toNatClampNeg)] σ101 = some (some (vI r102), σ102)) : pq_Rn C (77, 24, [some (vR 9 0 0), some (vI x1), some (vI x2), some (vI x3), some (vI x4)], [], σ) = (if (σ.1 8 0 3 0) ≤ x4 then some (some (vI x3), σ) else (if r101 = 0 then pq_Rn C (77, 24, [some (vR 9 0 0), some (vI x1), some (vI x2), some (vI x3), some (vI (x4 + (1 : Int32)))], [], σ101) else (if x2 = (1 : Int32) then (if r102 = (1 : Int32) then pq_Rn C (77, 24, [some (vR 9 0 0), some (vI x1), some (vI x2), some (vI (x3 + (1 : Int32))), some (vI (x4 + (1 : Int32)))], [], σ102) else pq_Rn C (77, 24, [some (vR 9 0 0), some (vI x1), some (vI x2), some (vI x3), some (vI (x4 + (1 : Int32)))], [], σ102)) else (if r102 = (0 : Int32) then pq_Rn C (77, 24, [some (vR 9 0 0), some (vI x1), some (vI x2), some (vI (x3 + (1 : Int32))), some (vI (x4 + (1 : Int32)))], [], σ102) else pq_Rn C (77, 24, [some (vR 9 0 0), some (vI x1), some (vI x2), some (vI x3), some (vI (x4 + (1 : Int32)))], [], σ102))))) := by
  by_cases c1 : (σ.1 8 0 3 0) ≤ x4
  · refine Eq.trans ?_ (if_pos c1).symm
    exact g77_24_0 C c1
  · refine Eq.trans ?_ (if_neg c1).symm
    by_cases c2 : r101 = 0
    · refine Eq.trans ?_ (if_pos c2).symm
      exact g77_24_1 C c1 (u1 c1) c2
    · refine Eq.trans ?_ (if_neg c2).symm
      by_cases c3 : x2 = (1 : Int32)
      · refine Eq.trans ?_ (if_pos c3).symm
        by_cases c4 : r102 = (1 : Int32)
        · refine Eq.trans ?_ (if_pos c4).symm
          exact g77_24_2 C c1 (u1 c1) c2 (u2 c1 c2) (u3 c1 c2) c3 c4
        · refine Eq.trans ?_ (if_neg c4).symm
          exact g77_24_3 C c1 (u1 c1) c2 (u2 c1 c2) (u3 c1 c2) c3 c4
      · refine Eq.trans ?_ (if_neg c3).symm
        by_cases c5 : r102 = (0 : Int32)
        · refine Eq.trans ?_ (if_pos c5).symm
          exact g77_24_4 C c1 (u1 c1) c2 (u2 c1 c2) (u3 c1 c2) c3 c5
        · refine Eq.trans ?_ (if_neg c5).symm
          exact g77_24_5 C c1 (u1 c1) c2 (u2 c1 c2) (u3 c1 c2) c3 c5
theorem t78_0 (C : pmC) {σ : pmS} {x1 : Int32} {x2 : Int32} {l3 : Option pmV} {r101 : Int32} {σ101 : pmS} {r102 : Int32} {σ102 : pmS} {σ103 : pmS} (u1 : C 88 [vR 9 0 0, vI x1] σ = some (some (vI r101), σ101)) (u2 : (¬ r101 = 0) → C 90 [vI x2] σ101 = some (some (vI r102), σ102)) (u3 : (¬ r101 = 0) → (¬ r102 = 0) → C 16 [vR 3 0 0] σ102 = some (none, σ103)) : pq_Rn C (78, 0, [some (vR 9 0 0), some (vI x1), some (vI x2), l3], [], σ) = (if r101 = 0 then some (some (vI (-1 : Int32)), σ101) else (if r102 = 0 then some (some (vI (-2 : Int32)), σ102) else pq_Rn C (78, 29, [some (vR 9 0 0), some (vI x1), some (vI x2), some (vI (0 : Int32))], [], σ103))) := by
  by_cases c1 : r101 = 0
  · refine Eq.trans ?_ (if_pos c1).symm
    exact g78_0_0 C u1 c1
  · refine Eq.trans ?_ (if_neg c1).symm
    by_cases c2 : r102 = 0
    · refine Eq.trans ?_ (if_pos c2).symm
      exact g78_0_1 C u1 c1 (u2 c1) c2
    · refine Eq.trans ?_ (if_neg c2).symm
      exact g78_0_2 C u1 c1 (u2 c1) c2 (u3 c1 c2)
theorem t78_29 (C : pmC) {σ : pmS} {x1 : Int32} {x2 : Int32} {x3 : Int32} {r101 : Int32} {σ101 : pmS} {r102 : Int32} {σ102 : pmS} {σ103 : pmS} (u1 : ((σ.1 5 0 9 0) ≤ x3) → C 18 [vR 3 0 0] σ = some (some (vI r101), σ101)) (u2 : (¬ (σ.1 5 0 9 0) ≤ x3) → C 100 [vR 9 0 0, vI x3, vI (0 : Int32), vI x1, vI x2] σ = some (some (vI r102), σ102)) (u3 : (¬ (σ.1 5 0 9 0) ≤ x3) → (¬ r102 = 0) → C 101 [vR 9 0 0, vI x3, vI x1, vI x2] σ102 = some (none, σ103)) : pq_Rn C (78, 29, [some (vR 9 0 0), some (vI x1), some (vI x2), some (vI x3)], [], σ) = (if (σ.1 5 0 9 0) ≤ x3 then some (some (vI r101), σ101) else (if r102 = 0 then pq_Rn C (78, 29, [some (vR 9 0 0), some (vI x1), some (vI x2), some (vI (x3 + (1 : Int32)))], [], σ102) else pq_Rn C (78, 29, [some (vR 9 0 0), some (vI x1), some (vI x2), some (vI (x3 + (1 : Int32)))], [], σ103))) := by
  by_cases c1 : (σ.1 5 0 9 0) ≤ x3
  · refine Eq.trans ?_ (if_pos c1).symm
    exact g78_29_0 C c1 (u1 c1)
  · refine Eq.trans ?_ (if_neg c1).symm
    by_cases c2 : r102 = 0
    · refine Eq.trans ?_ (if_pos c2).symm
      exact g78_29_1 C c1 (u2 c1) c2
    · refine Eq.trans ?_ (if_neg c2).symm
      exact g78_29_2 C c1 (u2 c1) c2 (u3 c1 c2)
theorem t79_0 (C : pmC) {σ : pmS} {x1 : Int32} {r101 : Int32} {σ101 : pmS} (u1 : C 32 [vR 5 0 0, vI x1] σ = some (some (vI r101), σ101)) (u2 : (¬ r101 = 0) → vp_in x1 48) : pq_Rn C (79, 0, [some (vR 9 0 0), some (vI x1)], [], σ) = (if r101 = 0 then some (some (vI (-1 : Int32)), σ101) else some (some (vI (σ101.1 3 0 1 (x1).toNatClampNeg)), σ101)) := by
  by_cases c1 : r101 = 0
  · refine Eq.trans ?_ (if_pos c1).symm
    exact g79_0_0 C u1 c1
  · refine Eq.trans ?_ (if_neg c1).symm
    exact g79_0_1 C u1 c1 (u2 c1)
theorem t80_0 (C : pmC) {σ : pmS} {x1 : Int32}  : pq_Rn C (80, 0, [some (vR 9 0 0), some (vI x1)], [], σ) = (if x1 = (0 : Int32) then some (some (vI (σ.1 3 0 7 0)), σ) else (if x1 = (1 : Int32) then some (some (vI (σ.1 3 0 8 0)), σ) else some (some (vI (-1 : Int32)), σ))) := by
  by_cases c1 : x1 = (0 : Int32)
  · refine Eq.trans ?_ (if_pos c1).symm
    exact g80_0_0 C c1
  · refine Eq.trans ?_ (if_neg c1).symm
    by_cases c2 : x1 = (1 : Int32)
    · refine Eq.trans ?_ (if_pos c2).symm
      exact g80_0_1 C c2
    · refine Eq.trans ?_ (if_neg c2).symm
      exact g80_0_2 C c1 c2
theorem t81_0 (C : pmC) {σ : pmS} {x1 : Int32} {x2 : Int32} {r101 : Int32} {σ101 : pmS} {r102 : Int32} {σ102 : pmS} {r103 : Int32} {σ103 : pmS} (u1 : C 86 [vR 9 0 0, vI x1] σ = some (some (vI r101), σ101)) (u2 : (¬ r101 = 0) → C 86 [vR 9 0 0, vI x2] σ101 = some (some (vI r102), σ102)) (u3 : (¬ r101 = 0) → (¬ r102 = 0) → vp_in x1 4) (u4 : (¬ r101 = 0) → (¬ r102 = 0) → vp_in x2 4) (u5 : (¬ r101 = 0) → (¬ r102 = 0) → ((σ102.1 2 (x1).toNatClampNeg 8 0) = (σ102.1 2 (x2).toNatClampNeg 8 0)) → C 28 [vR 4 0 0, vR 2 (x1).toNatClampNeg 0, vR 2 (x2).toNatClampNeg 0] σ102 = some (some (vI r103), σ103)) : pq_Rn C (81, 0, [some (vR 9 0 0), some (vI x1), some (vI x2)], [], σ) = (if r101 = 0 then some (some (vI (-1 : Int32)), σ101) else (if r102 = 0 then some (some (vI (-1 : Int32)), σ102) else (if (σ102.1 2 (x1).toNatClampNeg 8 0) = (σ102.1 2 (x2).toNatClampNeg 8 0) then some (some (vI r103), σ103) else some (some (vI (-3 : Int32)), σ102)))) := by
  by_cases c1 : r101 = 0
  · refine Eq.trans ?_ (if_pos c1).symm
    exact g81_0_0 C u1 c1
  · refine Eq.trans ?_ (if_neg c1).symm
    by_cases c2 : r102 = 0
    · refine Eq.trans ?_ (if_pos c2).symm
      exact g81_0_1 C u1 c1 (u2 c1) c2
    · refine Eq.trans ?_ (if_neg c2).symm
      by_cases c3 : (σ102.1 2 (x1).toNatClampNeg 8 0) = (σ102.1 2 (x2).toNatClampNeg 8 0)
      · refine Eq.trans ?_ (if_pos c3).symm
        exact g81_0_2 C u1 c1 (u2 c1) c2 (u3 c1 c2) (u4 c1 c2) c3 (u5 c1 c2 c3)
      · refine Eq.trans ?_ (if_neg c3).symm
        exact g81_0_3 C u1 c1 (u2 c1) c2 (u3 c1 c2) (u4 c1 c2) c3
theorem t82_0 (C : pmC) {σ : pmS} {x1 : Int32} (u1 : (¬ x1 < 0) → (¬ (σ.1 4 0 4 0) ≤ x1) → vp_in x1 8) : pq_Rn C (82, 0, [some (vR 9 0 0), some (vI x1)], [], σ) = (if x1 < 0 then some (some (vI (-1 : Int32)), σ) else (if (σ.1 4 0 4 0) ≤ x1 then some (some (vI (-1 : Int32)), σ) else some (some (vI (σ.1 4 0 0 (x1).toNatClampNeg)), σ))) := by
  by_cases c1 : x1 < 0
  · refine Eq.trans ?_ (if_pos c1).symm
    exact g82_0_0 C c1
  · refine Eq.trans ?_ (if_neg c1).symm
    by_cases c2 : (σ.1 4 0 4 0) ≤ x1
    · refine Eq.trans ?_ (if_pos c2).symm
      exact g82_0_1 C c1 c2
    · refine Eq.trans ?_ (if_neg c2).symm
      exact g82_0_2 C c1 c2 (u1 c1 c2)
theorem t83_0 (C : pmC) {σ : pmS} {x1 : Int32} {r101 : Int32} {σ101 : pmS} {r102 : Int32} {σ102 : pmS} (u1 : C 32 [vR 5 0 0, vI x1] σ = some (some (vI r101), σ101)) (u2 : (¬ r101 = 0) → C 102 [vR 9 0 0] σ101 = some (some (vI r102), σ102)) (u3 : (¬ r101 = 0) → (¬ r102 = 0) → vp_in x1 48) : pq_Rn C (83, 0, [some (vR 9 0 0), some (vI x1)], [], σ) = (if r101 = 0 then some (some (vI (-1 : Int32)), σ101) else (if r102 = 0 then some (some (vI (0 : Int32)), σ102) else some (some (vI (σ102.1 1 0 1 (x1).toNatClampNeg)), σ102))) := by
  by_cases c1 : r101 = 0
  · refine Eq.trans ?_ (if_pos c1).symm
    exact g83_0_0 C u1 c1
  · refine Eq.trans ?_ (if_neg c1).symm
    by_cases c2 : r102 = 0
    · refine Eq.trans ?_ (if_pos c2).symm
      exact g83_0_1 C u1 c1 (u2 c1) c2
    · refine Eq.trans ?_ (if_neg c2).symm
      exact g83_0_2 C u1 c1 (u2 c1) c2 (u3 c1 c2)
theorem t84_0 (C : pmC) {σ : pmS} {l1 : Option pmV} {l2 : Option pmV} {r101 : Int32} {σ101 : pmS} (u1 : C 102 [vR 9 0 0] σ = some (some (vI r101), σ101)) : pq_Rn C (84, 0, [some (vR 9 0 0), l1, l2], [], σ) = (if r101 = 0 then some (some (vI (-5 : Int32)), σ101) else pq_Rn C (84, 14, [some (vR 9 0 0), some (vI (0 : Int32)), some (vI (0 : Int32))], [], σ101)) := by
  by_cases c1 : r101 = 0
  · refine Eq.trans ?_ (if_pos c1).symm
    exact g84_0_0 C u1 c1
  · refine Eq.trans ?_ (if_neg c1).symm
    exact g84_0_1 C u1 c1
theorem t84_14 (C : pmC) {σ : pmS} {x1 : Int32} {x2 : Int32} {r101 : Int32} {σ101 : pmS} (u1 : (¬ (σ.1 5 0 9 0) ≤ x2) → vp_in x2 48) (u2 : (¬ (σ.1 5 0 9 0) ≤ x2) → C 179 [vI (σ.1 1 0 1 (x2).toNatClampNeg)] σ = some (some (vI r101), σ101)) : pq_Rn C (84, 14, [some (vR 9 0 0), some (vI x1), some (vI x2)], [], σ) = (if (σ.1 5 0 9 0) ≤ x2 then some (some (vI x1), σ) else (if r101 = (1 : Int32) then pq_Rn C (84, 14, [some (vR 9 0 0), some (vI (x1 + (1 : Int32))), some (vI (x2 + (1 : Int32)))], [], σ101) else pq_Rn C (84, 14, [some (vR 9 0 0), some (vI x1), some (vI (x2 + (1 : Int32)))], [], σ101))) := by
  by_cases c1 : (σ.1 5 0 9 0) ≤ x2
  · refine Eq.trans ?_ (if_pos c1).symm
    exact g84_14_0 C c1
  · refine Eq.trans ?_ (if_neg c1).symm
    by_cases c2 : r101 = (1 : Int32)
    · refine Eq.trans ?_ (if_pos c2).symm
      exact g84_14_1 C c1 (u1 c1) (u2 c1) c2
    · refine Eq.trans ?_ (if_neg c2).symm
      exact g84_14_2 C c1 (u1 c1) (u2 c1) c2
theorem t85_0 (C : pmC) {σ : pmS} {x1 : Int32} {r101 : Int32} {σ101 : pmS} {r102 : Int32} {σ102 : pmS} (u1 : (¬ x1 = (0 : Int32)) → (¬ x1 = (1 : Int32)) → (¬ x1 = (2 : Int32)) → (¬ x1 = (3 : Int32)) → (¬ x1 = (4 : Int32)) → (¬ x1 = (5 : Int32)) → (x1 = (6 : Int32)) → C 38 [vR 5 0 0] σ = some (some (vI r101), σ101)) (u2 : (¬ x1 = (0 : Int32)) → (¬ x1 = (1 : Int32)) → (¬ x1 = (2 : Int32)) → (¬ x1 = (3 : Int32)) → (¬ x1 = (4 : Int32)) → (¬ x1 = (5 : Int32)) → (¬ x1 = (6 : Int32)) → (x1 = (7 : Int32)) → C 39 [vR 5 0 0] σ = some (some (vI r102), σ102)) : pq_Rn C (85, 0, [some (vR 9 0 0), some (vI x1)], [], σ) = (if x1 = (0 : Int32) then some (some (vI (σ.1 9 0 9 0)), σ) else (if x1 = (1 : Int32) then some (some (vI (σ.1 9 0 10 0)), σ) else (if x1 = (2 : Int32) then some (some (vI (σ.1 5 0 9 0)), σ) else (if x1 = (3 : Int32) then some (some (vI (σ.1 8 0 3 0)), σ) else (if x1 = (4 : Int32) then some (some (vI (σ.1 9 0 11 0)), σ) else (if x1 = (5 : Int32) then some (some (vI (σ.1 6 0 1 0)), σ) else (if x1 = (6 : Int32) then some (some (vI r101), σ101) else (if x1 = (7 : Int32) then some (some (vI r102), σ102) else some (some (vI (-1 : Int32)), σ))))))))) := by
  by_cases c1 : x1 = (0 : Int32)
  · refine Eq.trans ?_ (if_pos c1).symm
    exact g85_0_0 C c1
  · refine Eq.trans ?_ (if_neg c1).symm
    by_cases c2 : x1 = (1 : Int32)
    · refine Eq.trans ?_ (if_pos c2).symm
      exact g85_0_1 C c2
    · refine Eq.trans ?_ (if_neg c2).symm
      by_cases c3 : x1 = (2 : Int32)
      · refine Eq.trans ?_ (if_pos c3).symm
        exact g85_0_2 C c3
      · refine Eq.trans ?_ (if_neg c3).symm
        by_cases c4 : x1 = (3 : Int32)
        · refine Eq.trans ?_ (if_pos c4).symm
          exact g85_0_3 C c4
        · refine Eq.trans ?_ (if_neg c4).symm
          by_cases c5 : x1 = (4 : Int32)
          · refine Eq.trans ?_ (if_pos c5).symm
            exact g85_0_4 C c5
          · refine Eq.trans ?_ (if_neg c5).symm
            by_cases c6 : x1 = (5 : Int32)
            · refine Eq.trans ?_ (if_pos c6).symm
              exact g85_0_5 C c6
            · refine Eq.trans ?_ (if_neg c6).symm
              by_cases c7 : x1 = (6 : Int32)
              · refine Eq.trans ?_ (if_pos c7).symm
                exact g85_0_6 C c7 (u1 c1 c2 c3 c4 c5 c6 c7)
              · refine Eq.trans ?_ (if_neg c7).symm
                by_cases c8 : x1 = (7 : Int32)
                · refine Eq.trans ?_ (if_pos c8).symm
                  exact g85_0_7 C c8 (u2 c1 c2 c3 c4 c5 c6 c7 c8)
                · refine Eq.trans ?_ (if_neg c8).symm
                  exact g85_0_8 C c1 c2 c3 c4 c5 c6 c7 c8
theorem t86_0 (C : pmC) {σ : pmS} {x1 : Int32}  : pq_Rn C (86, 0, [some (vR 9 0 0), some (vI x1)], [], σ) = (if x1 < 0 then some (some (vI (0 : Int32)), σ) else (if (σ.1 9 0 9 0) ≤ x1 then some (some (vI (0 : Int32)), σ) else some (some (vI (1 : Int32)), σ))) := by
  by_cases c1 : x1 < 0
  · refine Eq.trans ?_ (if_pos c1).symm
    exact g86_0_0 C c1
  · refine Eq.trans ?_ (if_neg c1).symm
    by_cases c2 : (σ.1 9 0 9 0) ≤ x1
    · refine Eq.trans ?_ (if_pos c2).symm
      exact g86_0_1 C c1 c2
    · refine Eq.trans ?_ (if_neg c2).symm
      exact g86_0_2 C c1 c2
theorem t87_0 (C : pmC) {σ : pmS} {x1 : Int32} {x2 : Int32} {r101 : Int32} {σ101 : pmS} {r102 : Int32} {σ102 : pmS} (u1 : C 86 [vR 9 0 0, vI x1] σ = some (some (vI r101), σ101)) (u2 : (¬ r101 = 0) → vp_in x1 4) (u3 : (¬ r101 = 0) → C 9 [vR 2 (x1).toNatClampNeg 0, vI x2] σ101 = some (some (vI r102), σ102)) : pq_Rn C (87, 0, [some (vR 9 0 0), some (vI x1), some (vI x2)], [], σ) = (if r101 = 0 then some (some (vI (0 : Int32)), σ101) else (if r102 = 0 then some (some (vI (0 : Int32)), σ102) else some (some (vI (1 : Int32)), σ102))) := by
  by_cases c1 : r101 = 0
  · refine Eq.trans ?_ (if_pos c1).symm
    exact g87_0_0 C u1 c1
  · refine Eq.trans ?_ (if_neg c1).symm
    by_cases c2 : r102 = 0
    · refine Eq.trans ?_ (if_pos c2).symm
      exact g87_0_1 C u1 c1 (u2 c1) (u3 c1) c2
    · refine Eq.trans ?_ (if_neg c2).symm
      exact g87_0_2 C u1 c1 (u2 c1) (u3 c1) c2
theorem t88_0 (C : pmC) {σ : pmS} {x1 : Int32}  : pq_Rn C (88, 0, [some (vR 9 0 0), some (vI x1)], [], σ) = (if x1 < 0 then some (some (vI (0 : Int32)), σ) else (if (σ.1 9 0 10 0) ≤ x1 then some (some (vI (0 : Int32)), σ) else some (some (vI (1 : Int32)), σ))) := by
  by_cases c1 : x1 < 0
  · refine Eq.trans ?_ (if_pos c1).symm
    exact g88_0_0 C c1
  · refine Eq.trans ?_ (if_neg c1).symm
    by_cases c2 : (σ.1 9 0 10 0) ≤ x1
    · refine Eq.trans ?_ (if_pos c2).symm
      exact g88_0_1 C c1 c2
    · refine Eq.trans ?_ (if_neg c2).symm
      exact g88_0_2 C c1 c2
theorem t89_0 (C : pmC) {σ : pmS} {x0 : Int32}  : pq_Rn C (89, 0, [some (vI x0)], [], σ) = (if x0 = 0 then some (some (vI (1 : Int32)), σ) else (if x0 = (1 : Int32) then some (some (vI (1 : Int32)), σ) else some (some (vI (0 : Int32)), σ))) := by
  by_cases c1 : x0 = 0
  · refine Eq.trans ?_ (if_pos c1).symm
    exact g89_0_0 C c1
  · refine Eq.trans ?_ (if_neg c1).symm
    by_cases c2 : x0 = (1 : Int32)
    · refine Eq.trans ?_ (if_pos c2).symm
      exact g89_0_1 C c1 c2
    · refine Eq.trans ?_ (if_neg c2).symm
      exact g89_0_2 C c1 c2
theorem t90_0 (C : pmC) {σ : pmS} {x0 : Int32}  : pq_Rn C (90, 0, [some (vI x0)], [], σ) = (if x0 < 0 then some (some (vI (0 : Int32)), σ) else (if (999 : Int32) < x0 then some (some (vI (0 : Int32)), σ) else some (some (vI (1 : Int32)), σ))) := by
  by_cases c1 : x0 < 0
  · refine Eq.trans ?_ (if_pos c1).symm
    exact g90_0_0 C c1
  · refine Eq.trans ?_ (if_neg c1).symm
    by_cases c2 : (999 : Int32) < x0
    · refine Eq.trans ?_ (if_pos c2).symm
      exact g90_0_1 C c1 c2
    · refine Eq.trans ?_ (if_neg c2).symm
      exact g90_0_2 C c1 c2
theorem t91_0 (C : pmC) {σ : pmS} {x0 : Int32} {l1 : Option pmV} {l2 : Option pmV}  : pq_Rn C (91, 0, [some (vI x0), l1, l2], [], σ) = (if x0 ≤ 0 then some (some (vI (0 : Int32)), σ) else (if x0 < (262144 : Int32) then pq_Rn C (91, 15, [some (vI x0), some (vI (0 : Int32)), l2], [], σ) else some (some (vI (0 : Int32)), σ))) := by
  by_cases c1 : x0 ≤ 0
  · refine Eq.trans ?_ (if_pos c1).symm
    exact g91_0_0 C c1
  · refine Eq.trans ?_ (if_neg c1).symm
    by_cases c2 : x0 < (262144 : Int32)
    · refine Eq.trans ?_ (if_pos c2).symm
      exact g91_0_1 C c1 c2
    · refine Eq.trans ?_ (if_neg c2).symm
      exact g91_0_2 C c1 c2
theorem t91_15 (C : pmC) {σ : pmS} {x0 : Int32} {x1 : Int32} {l2 : Option pmV}  : pq_Rn C (91, 15, [some (vI x0), some (vI x1), l2], [], σ) = (if (18 : Int32) ≤ x1 then some (some (vI (1 : Int32)), σ) else (if (x0 >>> (x1 &&& 31)) = 0 then some (some (vI (1 : Int32)), σ) else (if ((x0 >>> (x1 &&& 31)) &&& (7 : Int32)) < (1 : Int32) then some (some (vI (0 : Int32)), σ) else (if ((x0 >>> (x1 &&& 31)) &&& (7 : Int32)) ≤ (5 : Int32) then pq_Rn C (91, 15, [some (vI x0), some (vI (x1 + (3 : Int32))), some (vI ((x0 >>> (x1 &&& 31)) &&& (7 : Int32)))], [], σ) else some (some (vI (0 : Int32)), σ))))) := by
  by_cases c1 : (18 : Int32) ≤ x1
  · refine Eq.trans ?_ (if_pos c1).symm
    exact g91_15_0 C c1
  · refine Eq.trans ?_ (if_neg c1).symm
    by_cases c2 : (x0 >>> (x1 &&& 31)) = 0
    · refine Eq.trans ?_ (if_pos c2).symm
      exact g91_15_1 C c1 c2
    · refine Eq.trans ?_ (if_neg c2).symm
      by_cases c3 : ((x0 >>> (x1 &&& 31)) &&& (7 : Int32)) < (1 : Int32)
      · refine Eq.trans ?_ (if_pos c3).symm
        exact g91_15_2 C c1 c2 c3
      · refine Eq.trans ?_ (if_neg c3).symm
        by_cases c4 : ((x0 >>> (x1 &&& 31)) &&& (7 : Int32)) ≤ (5 : Int32)
        · refine Eq.trans ?_ (if_pos c4).symm
          exact g91_15_3 C c1 c2 c3 c4
        · refine Eq.trans ?_ (if_neg c4).symm
          exact g91_15_4 C c1 c2 c3 c4
theorem t92_0 (C : pmC) {σ : pmS} {x1 : Int32} {x2 : Int32} {r101 : Int32} {σ101 : pmS} (u1 : vp_in x1 3) (u2 : C 2 [vR 0 (x1).toNatClampNeg 0, vI x2] σ = some (some (vI r101), σ101)) (u3 : vp_in r101 5) : pq_Rn C (92, 0, [some (vR 9 0 0), some (vI x1), some (vI x2)], [], σ) = some (some (vI (σ101.1 0 (x1).toNatClampNeg 1 (r101).toNatClampNeg)), σ101) := by
  exact g92_0_0 C u1 u2 u3
theorem t93_0 (C : pmC) {σ : pmS} {x1 : Int32} {r101 : Int32} {σ101 : pmS} (u1 : vp_in x1 48) (u2 : C 92 [vR 9 0 0, vI (σ.1 5 0 3 (x1).toNatClampNeg), vI (σ.1 5 0 1 (x1).toNatClampNeg)] σ = some (some (vI r101), σ101)) (u3 : vp_in r101 4) : pq_Rn C (93, 0, [some (vR 9 0 0), some (vI x1)], [], σ) = some (some (vR 2 (r101).toNatClampNeg 0), σ101) := by
  exact g93_0_0 C u1 u2 u3
theorem t94_0 (C : pmC) {σ : pmS} {x1 : Int32} {l2 : Option pmV} {r101 : Int32} {σ101 : pmS} (u1 : vp_in x1 48) (u2 : vp_in (σ.1 5 0 3 (x1).toNatClampNeg) 3) (u3 : C 2 [vR 0 ((σ.1 5 0 3 (x1).toNatClampNeg)).toNatClampNeg 0, vI (σ.1 5 0 1 (x1).toNatClampNeg)] σ = some (some (vI r101), σ101)) (u4 : vp_in r101 5) : pq_Rn C (94, 0, [some (vR 9 0 0), some (vI x1), l2], [], σ) = (if (σ101.1 0 ((σ.1 5 0 3 (x1).toNatClampNeg)).toNatClampNeg 2 (r101).toNatClampNeg) = 0 then some (some (vI (1 : Int32)), σ101) else some (some (vI (0 : Int32)), σ101)) := by
  by_cases c1 : (σ101.1 0 ((σ.1 5 0 3 (x1).toNatClampNeg)).toNatClampNeg 2 (r101).toNatClampNeg) = 0
  · refine Eq.trans ?_ (if_pos c1).symm
    exact g94_0_0 C u1 u2 u3 u4 c1
  · refine Eq.trans ?_ (if_neg c1).symm
    exact g94_0_1 C u1 u2 u3 u4 c1
theorem t95_0 (C : pmC) {σ : pmS} {x1 : Int32} {l2 : Option pmV} {l3 : Option pmV} {l4 : Option pmV} {l5 : Option pmV} {r101 : Int32} {σ101 : pmS} {q102 : Nat} {σ102 : pmS} {r103 : Int32} {σ103 : pmS} {r104 : Int32} {σ104 : pmS} {r105 : Int32} {σ105 : pmS} (u1 : C 33 [vR 5 0 0, vI x1] σ = some (some (vI r101), σ101)) (u2 : (r101 = 0) → C 93 [vR 9 0 0, vI x1] σ101 = some (some (vR 2 q102 0), σ102)) (u3 : (r101 = 0) → vp_in x1 48) (u4 : (r101 = 0) → vp_in (σ102.1 5 0 4 (x1).toNatClampNeg) 48) (u5 : (r101 = 0) → C 10 [vR 2 q102 0, vI (σ102.1 5 0 7 ((σ102.1 5 0 4 (x1).toNatClampNeg)).toNatClampNeg), vI (1 : Int32)] σ102 = some (some (vI r103), σ103)) (u6 : (r101 = 0) → vp_in (σ103.1 5 0 5 (x1).toNatClampNeg) 48) (u7 : (r101 = 0) → C 10 [vR 2 q102 0, vI (σ103.1 5 0 7 ((σ103.1 5 0 5 (x1).toNatClampNeg)).toNatClampNeg), vI (0 : Int32)] σ103 = some (some (vI r104), σ104)) (u8 : (r101 = 0) → C 94 [vR 9 0 0, vI x1] σ104 = some (some (vI r105), σ105)) (u9 : (¬ r101 = 0) → vp_in x1 48) : pq_Rn C (95, 0, [some (vR 9 0 0), some (vI x1), l2, l3, l4, l5], [], σ) = (if r101 = 0 then (if r105 = 0 then (if r105 = 0 then some (none, (pm_wi (pm_wi σ105 5 0 7 (x1).toNatClampNeg r104) 5 0 8 (x1).toNatClampNeg r103)) else some (none, (pm_wi (pm_wi σ105 5 0 7 (x1).toNatClampNeg r104) 5 0 8 (x1).toNatClampNeg r104))) else (if r105 = 0 then some (none, (pm_wi (pm_wi σ105 5 0 7 (x1).toNatClampNeg r103) 5 0 8 (x1).toNatClampNeg r103)) else some (none, (pm_wi (pm_wi σ105 5 0 7 (x1).toNatClampNeg r103) 5 0 8 (x1).toNatClampNeg r104)))) else some (none, (pm_wi (pm_wi σ101 5 0 7 (x1).toNatClampNeg (σ101.1 5 0 6 (x1).toNatClampNeg)) 5 0 8 (x1).toNatClampNeg (-1 : Int32)))) := by
  by_cases c1 : r101 = 0
  · refine Eq.trans ?_ (if_pos c1).symm
    by_cases c2 : r105 = 0
    · refine Eq.trans ?_ (if_pos c2).symm
      by_cases c3 : r105 = 0
      · refine Eq.trans ?_ (if_pos c3).symm
        exact g95_0_0 C u1 c1 (u2 c1) (u3 c1) (u4 c1) (u5 c1) (u6 c1) (u7 c1) (u8 c1) c2 c3
      · refine Eq.trans ?_ (if_neg c3).symm
        exact g95_0_1 C u1 c1 (u2 c1) (u3 c1) (u4 c1) (u5 c1) (u6 c1) (u7 c1) (u8 c1) c2 c3
    · refine Eq.trans ?_ (if_neg c2).symm
      by_cases c4 : r105 = 0
      · refine Eq.trans ?_ (if_pos c4).symm
        exact g95_0_2 C u1 c1 (u2 c1) (u3 c1) (u4 c1) (u5 c1) (u6 c1) (u7 c1) (u8 c1) c2 c4
      · refine Eq.trans ?_ (if_neg c4).symm
        exact g95_0_3 C u1 c1 (u2 c1) (u3 c1) (u4 c1) (u5 c1) (u6 c1) (u7 c1) (u8 c1) c2 c4
  · refine Eq.trans ?_ (if_neg c1).symm
    exact g95_0_4 C u1 c1 (u9 c1)
theorem t96_0 (C : pmC) {σ : pmS} {x1 : Int32} {x2 : Int32} {x3 : Int32} {r101 : Int32} {σ101 : pmS} {r102 : Int32} {σ102 : pmS} {r103 : Int32} {σ103 : pmS} (u1 : C 34 [vR 5 0 0, vI x1, vI x3] σ = some (some (vI r101), σ101)) (u2 : (¬ r101 = 0) → C 34 [vR 5 0 0, vI x2, vI (x3 - (1 : Int32))] σ101 = some (some (vI r102), σ102)) (u3 : (¬ r101 = 0) → (r102 = 0) → C 34 [vR 5 0 0, vI x2, vI x3] σ102 = some (some (vI r103), σ103)) (u4 : (¬ r101 = 0) → (r102 = 0) → (¬ r103 = 0) → vp_in x1 48) (u5 : (¬ r101 = 0) → (r102 = 0) → (¬ r103 = 0) → (¬ (x3 - (σ103.1 5 0 1 (x1).toNatClampNeg)) < (12 : Int32)) → vp_in x2 48) (u6 : (¬ r101 = 0) → (¬ r102 = 0) → vp_in x1 48) (u7 : (¬ r101 = 0) → (¬ r102 = 0) → (¬ (x3 - (σ102.1 5 0 1 (x1).toNatClampNeg)) < (12 : Int32)) → vp_in x2 48) : pq_Rn C (96, 0, [some (vR 9 0 0), some (vI x1), some (vI x2), some (vI x3)], [], σ) = (if r101 = 0 then some (some (vI (0 : Int32)), σ101) else (if r102 = 0 then (if r103 = 0 then some (some (vI (0 : Int32)), σ103) else (if (x3 - (σ103.1 5 0 1 (x1).toNatClampNeg)) < (12 : Int32) then some (some (vI (0 : Int32)), σ103) else (if (x3 - (σ103.1 5 0 1 (x2).toNatClampNeg)) < (12 : Int32) then some (some (vI (0 : Int32)), σ103) else some (some (vI (1 : Int32)), σ103)))) else (if (x3 - (σ102.1 5 0 1 (x1).toNatClampNeg)) < (12 : Int32) then some (some (vI (0 : Int32)), σ102) else (if (x3 - (σ102.1 5 0 1 (x2).toNatClampNeg)) < (12 : Int32) then some (some (vI (0 : Int32)), σ102) else some (some (vI (1 : Int32)), σ102))))) := by
  by_cases c1 : r101 = 0
  · refine Eq.trans ?_ (if_pos c1).symm
    exact g96_0_0 C u1 c1
  · refine Eq.trans ?_ (if_neg c1).symm
    by_cases c2 : r102 = 0
    · refine Eq.trans ?_ (if_pos c2).symm
      by_cases c3 : r103 = 0
      · refine Eq.trans ?_ (if_pos c3).symm
        exact g96_0_1 C u1 c1 (u2 c1) c2 (u3 c1 c2) c3
      · refine Eq.trans ?_ (if_neg c3).symm
        by_cases c4 : (x3 - (σ103.1 5 0 1 (x1).toNatClampNeg)) < (12 : Int32)
        · refine Eq.trans ?_ (if_pos c4).symm
          exact g96_0_2 C u1 c1 (u2 c1) c2 (u3 c1 c2) c3 (u4 c1 c2 c3) c4
        · refine Eq.trans ?_ (if_neg c4).symm
          by_cases c5 : (x3 - (σ103.1 5 0 1 (x2).toNatClampNeg)) < (12 : Int32)
          · refine Eq.trans ?_ (if_pos c5).symm
            exact g96_0_3 C u1 c1 (u2 c1) c2 (u3 c1 c2) c3 (u4 c1 c2 c3) c4 (u5 c1 c2 c3 c4) c5
          · refine Eq.trans ?_ (if_neg c5).symm
            exact g96_0_4 C u1 c1 (u2 c1) c2 (u3 c1 c2) c3 (u4 c1 c2 c3) c4 (u5 c1 c2 c3 c4) c5
    · refine Eq.trans ?_ (if_neg c2).symm
      by_cases c6 : (x3 - (σ102.1 5 0 1 (x1).toNatClampNeg)) < (12 : Int32)
      · refine Eq.trans ?_ (if_pos c6).symm
        exact g96_0_5 C u1 c1 (u2 c1) c2 (u6 c1 c2) c6
      · refine Eq.trans ?_ (if_neg c6).symm
        by_cases c7 : (x3 - (σ102.1 5 0 1 (x2).toNatClampNeg)) < (12 : Int32)
        · refine Eq.trans ?_ (if_pos c7).symm
          exact g96_0_6 C u1 c1 (u2 c1) c2 (u6 c1 c2) c6 (u7 c1 c2 c6) c7
        · refine Eq.trans ?_ (if_neg c7).symm
          exact g96_0_7 C u1 c1 (u2 c1) c2 (u6 c1 c2) c6 (u7 c1 c2 c6) c7
theorem t97_0 (C : pmC) {σ : pmS} {x1 : Int32} {x2 : Int32} {r101 : Int32} {σ101 : pmS} {r102 : Int32} {σ102 : pmS} (u1 : C 34 [vR 5 0 0, vI x1, vI x2] σ = some (some (vI r101), σ101)) (u2 : (¬ r101 = 0) → vp_in x1 48) (u3 : (¬ r101 = 0) → ((σ101.1 9 0 11 0) ≤ (x2 - (σ101.1 5 0 1 (x1).toNatClampNeg))) → C 53 [vR 8 0 0, vR 5 0 0, vI x1, vI x2] σ101 = some (some (vI r102), σ102)) : pq_Rn C (97, 0, [some (vR 9 0 0), some (vI x1), some (vI x2)], [], σ) = (if r101 = 0 then some (some (vI (1 : Int32)), σ101) else (if (σ101.1 9 0 11 0) ≤ (x2 - (σ101.1 5 0 1 (x1).toNatClampNeg)) then (if r102 = (-1 : Int32) then some (some (vI (0 : Int32)), σ102) else some (some (vI (3 : Int32)), σ102)) else some (some (vI (2 : Int32)), σ101))) := by
  by_cases c1 : r101 = 0
  · refine Eq.trans ?_ (if_pos c1).symm
    exact g97_0_0 C u1 c1
  · refine Eq.trans ?_ (if_neg c1).symm
    by_cases c2 : (σ101.1 9 0 11 0) ≤ (x2 - (σ101.1 5 0 1 (x1).toNatClampNeg))
    · refine Eq.trans ?_ (if_pos c2).symm
      by_cases c3 : r102 = (-1 : Int32)
      · refine Eq.trans ?_ (if_pos c3).symm
        exact g97_0_1 C u1 c1 (u2 c1) c2 (u3 c1 c2) c3
      · refine Eq.trans ?_ (if_neg c3).symm
        exact g97_0_2 C u1 c1 (u2 c1) c2 (u3 c1 c2) c3
    · refine Eq.trans ?_ (if_neg c2).symm
      exact g97_0_3 C u1 c1 (u2 c1) c2
theorem t98_0 (C : pmC) {σ : pmS} {x1 : Int32} {x2 : Int32} {x3 : Int32} {r101 : Int32} {σ101 : pmS} {r102 : Int32} {σ102 : pmS} (u1 : C 36 [vR 5 0 0, vI x1, vI x2] σ = some (some (vI r101), σ101)) (u2 : (r101 = 0) → C 99 [vR 9 0 0, vI x1, vI x2, vI x3] σ101 = some (some (vI r102), σ102)) : pq_Rn C (98, 0, [some (vR 9 0 0), some (vI x1), some (vI x2), some (vI x3)], [], σ) = (if r101 = 0 then (if r102 = 0 then some (some (vI (5 : Int32)), σ102) else some (some (vI (0 : Int32)), σ102)) else some (some (vI (4 : Int32)), σ101)) := by
  by_cases c1 : r101 = 0
  · refine Eq.trans ?_ (if_pos c1).symm
    by_cases c2 : r102 = 0
    · refine Eq.trans ?_ (if_pos c2).symm
      exact g98_0_0 C u1 c1 (u2 c1) c2
    · refine Eq.trans ?_ (if_neg c2).symm
      exact g98_0_1 C u1 c1 (u2 c1) c2
  · refine Eq.trans ?_ (if_neg c1).symm
    exact g98_0_2 C u1 c1
theorem t99_0 (C : pmC) {σ : pmS} {x1 : Int32} {x2 : Int32} {x3 : Int32} {l4 : Option pmV} {l5 : Option pmV} {r101 : Int32} {σ101 : pmS} {r102 : Int32} {σ102 : pmS} (u1 : vp_in x2 48) (u2 : C 92 [vR 9 0 0, vI (σ.1 5 0 3 (x2).toNatClampNeg), vI x3] σ = some (some (vI r101), σ101)) (u3 : vp_in r101 4) (u4 : vp_in x1 48) (u5 : C 9 [vR 2 (r101).toNatClampNeg 0, vI (σ101.1 5 0 7 (x1).toNatClampNeg)] σ101 = some (some (vI r102), σ102)) (u6 : (¬ r102 = 0) → vp_in (σ101.1 5 0 7 (x1).toNatClampNeg) 8) : pq_Rn C (99, 0, [some (vR 9 0 0), some (vI x1), some (vI x2), some (vI x3), l4, l5], [], σ) = (if r102 = 0 then some (some (vI (0 : Int32)), σ102) else (if (σ102.1 2 (r101).toNatClampNeg 0 ((σ101.1 5 0 7 (x1).toNatClampNeg)).toNatClampNeg) = (σ102.1 5 0 7 (x2).toNatClampNeg) then some (some (vI (1 : Int32)), σ102) else some (some (vI (0 : Int32)), σ102))) := by
  by_cases c1 : r102 = 0
  · refine Eq.trans ?_ (if_pos c1).symm
    exact g99_0_0 C u1 u2 u3 u4 u5 c1
  · refine Eq.trans ?_ (if_neg c1).symm
    by_cases c2 : (σ102.1 2 (r101).toNatClampNeg 0 ((σ101.1 5 0 7 (x1).toNatClampNeg)).toNatClampNeg) = (σ102.1 5 0 7 (x2).toNatClampNeg)
    · refine Eq.trans ?_ (if_pos c2).symm
      exact g99_0_1 C u1 u2 u3 u4 u5 c1 (u6 c1) c2
    · refine Eq.trans ?_ (if_neg c2).symm
      exact g99_0_2 C u1 u2 u3 u4 u5 c1 (u6 c1) c2
theorem t100_0 (C : pmC) {σ : pmS} {x1 : Int32} {x2 : Int32} {x3 : Int32} {x4 : Int32} {r101 : Int32} {σ101 : pmS} (u1 : vp_in x1 48) (u2 : ((σ.1 5 0 0 (x1).toNatClampNeg) = x2) → ((σ.1 5 0 3 (x1).toNatClampNeg) = x3) → C 97 [vR 9 0 0, vI x1, vI x4] σ = some (some (vI r101), σ101)) : pq_Rn C (100, 0, [some (vR 9 0 0), some (vI x1), some (vI x2), some (vI x3), some (vI x4)], [], σ) = (if (σ.1 5 0 0 (x1).toNatClampNeg) = x2 then (if (σ.1 5 0 3 (x1).toNatClampNeg) = x3 then (if r101 = 0 then some (some (vI (1 : Int32)), σ101) else some (some (vI (0 : Int32)), σ101)) else some (some (vI (0 : Int32)), σ)) else some (some (vI (0 : Int32)), σ)) := by
  by_cases c1 : (σ.1 5 0 0 (x1).toNatClampNeg) = x2
  · refine Eq.trans ?_ (if_pos c1).symm
    by_cases c2 : (σ.1 5 0 3 (x1).toNatClampNeg) = x3
    · refine Eq.trans ?_ (if_pos c2).symm
      by_cases c3 : r101 = 0
      · refine Eq.trans ?_ (if_pos c3).symm
        exact g100_0_0 C u1 c1 c2 (u2 c1 c2) c3
      · refine Eq.trans ?_ (if_neg c3).symm
        exact g100_0_1 C u1 c1 c2 (u2 c1 c2) c3
    · refine Eq.trans ?_ (if_neg c2).symm
      exact g100_0_2 C u1 c1 c2
  · refine Eq.trans ?_ (if_neg c1).symm
    exact g100_0_3 C u1 c1
theorem t101_0 (C : pmC) {σ : pmS} {x1 : Int32} {x2 : Int32} {x3 : Int32} {l4 : Option pmV}  : pq_Rn C (101, 0, [some (vR 9 0 0), some (vI x1), some (vI x2), some (vI x3), l4], [], σ) = pq_Rn C (101, 3, [some (vR 9 0 0), some (vI x1), some (vI x2), some (vI x3), some (vI (0 : Int32))], [], σ) := by
  exact g101_0_0 C 
theorem t101_3 (C : pmC) {σ : pmS} {x1 : Int32} {x2 : Int32} {x3 : Int32} {x4 : Int32} {r101 : Int32} {σ101 : pmS} {r102 : Int32} {σ102 : pmS} {σ103 : pmS} (u1 : (¬ (σ.1 5 0 9 0) ≤ x4) → C 100 [vR 9 0 0, vI x4, vI (1 : Int32), vI x2, vI x3] σ = some (some (vI r101), σ101)) (u2 : (¬ (σ.1 5 0 9 0) ≤ x4) → (¬ r101 = 0) → C 98 [vR 9 0 0, vI x1, vI x4, vI x3] σ101 = some (some (vI r102), σ102)) (u3 : (¬ (σ.1 5 0 9 0) ≤ x4) → (¬ r101 = 0) → (r102 = 0) → C 17 [vR 3 0 0, vI x1, vI x4] σ102 = some (none, σ103)) : pq_Rn C (101, 3, [some (vR 9 0 0), some (vI x1), some (vI x2), some (vI x3), some (vI x4)], [], σ) = (if (σ.1 5 0 9 0) ≤ x4 then some (none, σ) else (if r101 = 0 then pq_Rn C (101, 3, [some (vR 9 0 0), some (vI x1), some (vI x2), some (vI x3), some (vI (x4 + (1 : Int32)))], [], σ101) else (if r102 = 0 then pq_Rn C (101, 3, [some (vR 9 0 0), some (vI x1), some (vI x2), some (vI x3), some (vI (x4 + (1 : Int32)))], [], σ103) else pq_Rn C (101, 3, [some (vR 9 0 0), some (vI x1), some (vI x2), some (vI x3), some (vI (x4 + (1 : Int32)))], [], σ102)))) := by
  by_cases c1 : (σ.1 5 0 9 0) ≤ x4
  · refine Eq.trans ?_ (if_pos c1).symm
    exact g101_3_0 C c1
  · refine Eq.trans ?_ (if_neg c1).symm
    by_cases c2 : r101 = 0
    · refine Eq.trans ?_ (if_pos c2).symm
      exact g101_3_1 C c1 (u1 c1) c2
    · refine Eq.trans ?_ (if_neg c2).symm
      by_cases c3 : r102 = 0
      · refine Eq.trans ?_ (if_pos c3).symm
        exact g101_3_2 C c1 (u1 c1) c2 (u2 c1 c2) c3 (u3 c1 c2 c3)
      · refine Eq.trans ?_ (if_neg c3).symm
        exact g101_3_3 C c1 (u1 c1) c2 (u2 c1 c2) c3
theorem t102_0 (C : pmC) {σ : pmS} {l1 : Option pmV} {l2 : Option pmV} {σ101 : pmS} (u1 : C 3 [vR 1 0 0, vI (σ.1 5 0 9 0)] σ = some (none, σ101)) : pq_Rn C (102, 0, [some (vR 9 0 0), l1, l2], [], σ) = pq_Rn C (102, 16, [some (vR 9 0 0), some (vI (0 : Int32)), l2], [], σ101) := by
  exact g102_0_0 C u1
theorem t102_16 (C : pmC) {σ : pmS} {x1 : Int32} {l2 : Option pmV} {r101 : Int32} {σ101 : pmS} (u1 : ((8 : Int32) ≤ x1) → C 7 [vR 1 0 0, vI (σ.1 5 0 9 0)] σ = some (some (vI r101), σ101)) (u2 : ((8 : Int32) ≤ x1) → r101 = 0 ∨ r101 = 1) : pq_Rn C (102, 16, [some (vR 9 0 0), some (vI x1), l2], [], σ) = (if (8 : Int32) ≤ x1 then some (some (vI r101), σ101) else pq_Rn C (102, 24, [some (vR 9 0 0), some (vI x1), some (vI (0 : Int32))], [], σ)) := by
  by_cases c1 : (8 : Int32) ≤ x1
  · refine Eq.trans ?_ (if_pos c1).symm
    exact g102_16_0 C c1 (u1 c1) (u2 c1)
  · refine Eq.trans ?_ (if_neg c1).symm
    exact g102_16_1 C c1
theorem t102_24 (C : pmC) {σ : pmS} {x1 : Int32} {x2 : Int32} {σ101 : pmS} {r102 : Int32} {σ102 : pmS} {σ103 : pmS} {r104 : Int32} {σ104 : pmS} {σ105 : pmS} (u1 : ((σ.1 5 0 9 0) ≤ x2) → C 6 [vR 1 0 0, vI (σ.1 5 0 9 0)] σ = some (none, σ101)) (u2 : (¬ (σ.1 5 0 9 0) ≤ x2) → C 33 [vR 5 0 0, vI x2] σ = some (some (vI r102), σ102)) (u3 : (¬ (σ.1 5 0 9 0) ≤ x2) → (r102 = 0) → C 104 [vR 9 0 0, vI x2] σ102 = some (none, σ103)) (u4 : (¬ (σ.1 5 0 9 0) ≤ x2) → (¬ r102 = 0) → C 103 [vR 9 0 0, vI x2, vI x1] σ102 = some (some (vI r104), σ104)) (u5 : (¬ (σ.1 5 0 9 0) ≤ x2) → (¬ r102 = 0) → C 4 [vR 1 0 0, vI x2, vI x1, vI r104] σ104 = some (none, σ105)) : pq_Rn C (102, 24, [some (vR 9 0 0), some (vI x1), some (vI x2)], [], σ) = (if (σ.1 5 0 9 0) ≤ x2 then pq_Rn C (102, 16, [some (vR 9 0 0), some (vI (x1 + (1 : Int32))), some (vI x2)], [], σ101) else (if r102 = 0 then pq_Rn C (102, 24, [some (vR 9 0 0), some (vI x1), some (vI (x2 + (1 : Int32)))], [], σ103) else pq_Rn C (102, 24, [some (vR 9 0 0), some (vI x1), some (vI (x2 + (1 : Int32)))], [], σ105))) := by
  by_cases c1 : (σ.1 5 0 9 0) ≤ x2
  · refine Eq.trans ?_ (if_pos c1).symm
    exact g102_24_0 C c1 (u1 c1)
  · refine Eq.trans ?_ (if_neg c1).symm
    by_cases c2 : r102 = 0
    · refine Eq.trans ?_ (if_pos c2).symm
      exact g102_24_1 C c1 (u2 c1) c2 (u3 c1 c2)
    · refine Eq.trans ?_ (if_neg c2).symm
      exact g102_24_2 C c1 (u2 c1) c2 (u4 c1 c2) (u5 c1 c2)
theorem t103_0 (C : pmC) {σ : pmS} {x1 : Int32} {x2 : Int32} {l3 : Option pmV} {q101 : Nat} {σ101 : pmS} {r102 : Int32} {σ102 : pmS} (u1 : vp_in x1 48) (u2 : ((σ.1 5 0 6 (x1).toNatClampNeg) = (-1 : Int32)) → C 93 [vR 9 0 0, vI x1] σ = some (some (vR 2 q101 0), σ101)) (u3 : ((σ.1 5 0 6 (x1).toNatClampNeg) = (-1 : Int32)) → C 9 [vR 2 q101 0, vI x2] σ101 = some (some (vI r102), σ102)) (u4 : ((σ.1 5 0 6 (x1).toNatClampNeg) = (-1 : Int32)) → r102 = 0 ∨ r102 = 1) : pq_Rn C (103, 0, [some (vR 9 0 0), some (vI x1), some (vI x2), l3], [], σ) = (if (σ.1 5 0 6 (x1).toNatClampNeg) = (-1 : Int32) then some (some (vI r102), σ102) else (if (σ.1 5 0 6 (x1).toNatClampNeg) = x2 then some (some (vI (1 : Int32)), σ) else some (some (vI (0 : Int32)), σ))) := by
  by_cases c1 : (σ.1 5 0 6 (x1).toNatClampNeg) = (-1 : Int32)
  · refine Eq.trans ?_ (if_pos c1).symm
    exact g103_0_0 C u1 c1 (u2 c1) (u3 c1) (u4 c1)
  · refine Eq.trans ?_ (if_neg c1).symm
    by_cases c2 : (σ.1 5 0 6 (x1).toNatClampNeg) = x2
    · refine Eq.trans ?_ (if_pos c2).symm
      exact g103_0_1 C u1 c1 c2
    · refine Eq.trans ?_ (if_neg c2).symm
      exact g103_0_2 C u1 c1 c2
theorem t104_0 (C : pmC) {σ : pmS} {x1 : Int32} {l2 : Option pmV} {l3 : Option pmV} {l4 : Option pmV} {r101 : Int32} {σ101 : pmS} {q102 : Nat} {σ102 : pmS} {r103 : Int32} {σ103 : pmS} {σ104 : pmS} {r105 : Int32} {σ105 : pmS} {σ106 : pmS} {q107 : Nat} {σ107 : pmS} {r108 : Int32} {σ108 : pmS} {σ109 : pmS} {r110 : Int32} {σ110 : pmS} {σ111 : pmS} (u1 : C 94 [vR 9 0 0, vI x1] σ = some (some (vI r101), σ101)) (u2 : (r101 = 0) → vp_in x1 48) (u3 : (r101 = 0) → C 93 [vR 9 0 0, vI x1] σ101 = some (some (vR 2 q102 0), σ102)) (u4 : (r101 = 0) → vp_in (σ101.1 5 0 5 (x1).toNatClampNeg) 48) (u5 : (r101 = 0) → (r101 = 0) → C 10 [vR 2 q102 0, vI (σ102.1 1 0 0 ((σ101.1 5 0 5 (x1).toNatClampNeg)).toNatClampNeg), vI (0 : Int32)] σ102 = some (some (vI r103), σ103)) (u6 : (r101 = 0) → (r101 = 0) → C 5 [vR 1 0 0, vI x1, vI (σ101.1 5 0 5 (x1).toNatClampNeg), vI r103] σ103 = some (none, σ104)) (u7 : (r101 = 0) → (¬ r101 = 0) → C 10 [vR 2 q102 0, vI (σ102.1 1 0 0 ((σ101.1 5 0 5 (x1).toNatClampNeg)).toNatClampNeg), vI (1 : Int32)] σ102 = some (some (vI r105), σ105)) (u8 : (r101 = 0) → (¬ r101 = 0) → C 5 [vR 1 0 0, vI x1, vI (σ101.1 5 0 5 (x1).toNatClampNeg), vI r105] σ105 = some (none, σ106)) (u9 : (¬ r101 = 0) → vp_in x1 48) (u10 : (¬ r101 = 0) → C 93 [vR 9 0 0, vI x1] σ101 = some (some (vR 2 q107 0), σ107)) (u11 : (¬ r101 = 0) → vp_in (σ101.1 5 0 4 (x1).toNatClampNeg) 48) (u12 : (¬ r101 = 0) → (r101 = 0) → C 10 [vR 2 q107 0, vI (σ107.1 1 0 0 ((σ101.1 5 0 4 (x1).toNatClampNeg)).toNatClampNeg), vI (0 : Int32)] σ107 = some (some (vI r108), σ108)) (u13 : (¬ r101 = 0) → (r101 = 0) → C 5 [vR 1 0 0, vI x1, vI (σ101.1 5 0 4 (x1).toNatClampNeg), vI r108] σ108 = some (none, σ109)) (u14 : (¬ r101 = 0) → (¬ r101 = 0) → C 10 [vR 2 q107 0, vI (σ107.1 1 0 0 ((σ101.1 5 0 4 (x1).toNatClampNeg)).toNatClampNeg), vI (1 : Int32)] σ107 = some (some (vI r110), σ110)) (u15 : (¬ r101 = 0) → (¬ r101 = 0) → C 5 [vR 1 0 0, vI x1, vI (σ101.1 5 0 4 (x1).toNatClampNeg), vI r110] σ110 = some (none, σ111)) : pq_Rn C (104, 0, [some (vR 9 0 0), some (vI x1), l2, l3, l4], [], σ) = (if r101 = 0 then (if r101 = 0 then some (none, σ104) else some (none, σ106)) else (if r101 = 0 then some (none, σ109) else some (none, σ111))) := by
  by_cases c1 : r101 = 0
  · refine Eq.trans ?_ (if_pos c1).symm
    by_cases c2 : r101 = 0
    · refine Eq.trans ?_ (if_pos c2).symm
      exact g104_0_0 C u1 c1 (u2 c1) (u3 c1) (u4 c1) c2 (u5 c1 c2) (u6 c1 c2)
    · refine Eq.trans ?_ (if_neg c2).symm
      exact g104_0_1 C u1 c1 (u2 c1) (u3 c1) (u4 c1) c2 (u7 c1 c2) (u8 c1 c2)
  · refine Eq.trans ?_ (if_neg c1).symm
    by_cases c3 : r101 = 0
    · refine Eq.trans ?_ (if_pos c3).symm
      exact g104_0_2 C u1 c1 (u9 c1) (u10 c1) (u11 c1) c3 (u12 c1 c3) (u13 c1 c3)
    · refine Eq.trans ?_ (if_neg c3).symm
      exact g104_0_3 C u1 c1 (u9 c1) (u10 c1) (u11 c1) c3 (u14 c1 c3) (u15 c1 c3)
theorem t105_0 (C : pmC) {σ : pmS} {w0 : Int64} {w2 : Int64} {w4 : Int64}  : pq_Rn C (105, 0, [some (vL w0), none, some (vL w2), none, some (vL w4), none], [], σ) = (if (lg_cmp w0 w2) < 0 then some (some (vI (0 : Int32)), σ) else (if 0 < (lg_cmp w0 w4) then some (some (vI (0 : Int32)), σ) else some (some (vI (1 : Int32)), σ))) := by
  by_cases c1 : (lg_cmp w0 w2) < 0
  · refine Eq.trans ?_ (if_pos c1).symm
    exact g105_0_0 C c1
  · refine Eq.trans ?_ (if_neg c1).symm
    by_cases c2 : 0 < (lg_cmp w0 w4)
    · refine Eq.trans ?_ (if_pos c2).symm
      exact g105_0_1 C c1 c2
    · refine Eq.trans ?_ (if_neg c2).symm
      exact g105_0_2 C c1 c2
theorem t106_0 (C : pmC) {σ : pmS} {x1 : Int32}  : pq_Rn C (106, 0, [some (vR 10 0 0), some (vI x1)], [], σ) = (if x1 < 0 then some (some (vI (0 : Int32)), σ) else (if (σ.1 10 0 4 0) ≤ x1 then some (some (vI (0 : Int32)), σ) else some (some (vI (1 : Int32)), σ))) := by
  by_cases c1 : x1 < 0
  · refine Eq.trans ?_ (if_pos c1).symm
    exact g106_0_0 C c1
  · refine Eq.trans ?_ (if_neg c1).symm
    by_cases c2 : (σ.1 10 0 4 0) ≤ x1
    · refine Eq.trans ?_ (if_pos c2).symm
      exact g106_0_1 C c1 c2
    · refine Eq.trans ?_ (if_neg c2).symm
      exact g106_0_2 C c1 c2
theorem t107_0 (C : pmC) {σ : pmS} {x1 : Int32} {x2 : Int32} {r101 : Int32} {σ101 : pmS} (u1 : C 106 [vR 10 0 0, vI x1] σ = some (some (vI r101), σ101)) (u2 : (¬ r101 = 0) → (¬ x2 < 0) → vp_in x1 4) : pq_Rn C (107, 0, [some (vR 10 0 0), some (vI x1), some (vI x2)], [], σ) = (if r101 = 0 then some (some (vI (0 : Int32)), σ101) else (if x2 < 0 then some (some (vI (0 : Int32)), σ101) else (if (σ101.1 10 0 0 (x1).toNatClampNeg) ≤ x2 then some (some (vI (0 : Int32)), σ101) else some (some (vI (1 : Int32)), σ101)))) := by
  by_cases c1 : r101 = 0
  · refine Eq.trans ?_ (if_pos c1).symm
    exact g107_0_0 C u1 c1
  · refine Eq.trans ?_ (if_neg c1).symm
    by_cases c2 : x2 < 0
    · refine Eq.trans ?_ (if_pos c2).symm
      exact g107_0_1 C u1 c1 c2
    · refine Eq.trans ?_ (if_neg c2).symm
      by_cases c3 : (σ101.1 10 0 0 (x1).toNatClampNeg) ≤ x2
      · refine Eq.trans ?_ (if_pos c3).symm
        exact g107_0_2 C u1 c1 c2 (u2 c1 c2) c3
      · refine Eq.trans ?_ (if_neg c3).symm
        exact g107_0_3 C u1 c1 c2 (u2 c1 c2) c3
theorem t108_0 (C : pmC) {σ : pmS} {w1 : Int64} {x3 : Int32} {l4 : Option pmV} {r101 : Int32} {σ101 : pmS} (u1 : C 105 [vL (x3).toInt64, vL (1 : Int64), vL (8 : Int64)] σ = some (some (vI r101), σ101)) : pq_Rn C (108, 0, [some (vR 10 0 0), some (vL w1), none, some (vI x3), l4], [], σ) = (if r101 = 0 then some (some (vI (-2 : Int32)), σ101) else (if ((σ101.1 10 0 6 0) + x3) ≤ (60 : Int32) then pq_Rn C (108, 34, [some (vR 10 0 0), some (vL w1), none, some (vI x3), some (vI (x3 - (1 : Int32)))], [], σ101) else some (some (vI (-4 : Int32)), σ101))) := by
  by_cases c1 : r101 = 0
  · refine Eq.trans ?_ (if_pos c1).symm
    exact g108_0_0 C u1 c1
  · refine Eq.trans ?_ (if_neg c1).symm
    by_cases c2 : ((σ101.1 10 0 6 0) + x3) ≤ (60 : Int32)
    · refine Eq.trans ?_ (if_pos c2).symm
      exact g108_0_1 C u1 c1 c2
    · refine Eq.trans ?_ (if_neg c2).symm
      exact g108_0_2 C u1 c1 c2
theorem t108_34 (C : pmC) {σ : pmS} {w1 : Int64} {l3 : Option pmV} {x4 : Int32} (u1 : (¬ x4 < 0) → vp_in (σ.1 10 0 6 0) 60) : pq_Rn C (108, 34, [some (vR 10 0 0), some (vL w1), none, l3, some (vI x4)], [], σ) = (if x4 < 0 then some (some (vI (σ.1 10 0 6 0)), σ) else pq_Rn C (108, 34, [some (vR 10 0 0), some (vL w1), none, l3, some (vI (x4 + (-1 : Int32)))], [], (pm_wi (pm_wi σ 10 0 5 ((σ.1 10 0 6 0)).toNatClampNeg (((w1 >>> ((((8 : Int32) * x4)).toInt64 &&& 63)) &&& (255 : Int64))).toInt32) 10 0 6 0 ((σ.1 10 0 6 0) + (1 : Int32))))) := by
  by_cases c1 : x4 < 0
  · refine Eq.trans ?_ (if_pos c1).symm
    exact g108_34_0 C c1
  · refine Eq.trans ?_ (if_neg c1).symm
    exact g108_34_1 C c1 (u1 c1)
theorem t109_0 (C : pmC) {σ : pmS} {x0 : Int32}  : pq_Rn C (109, 0, [some (vI x0)], [], σ) = (if x0 < (97 : Int32) then some (some (vI (0 : Int32)), σ) else (if (104 : Int32) < x0 then some (some (vI (0 : Int32)), σ) else some (some (vI (1 : Int32)), σ))) := by
  by_cases c1 : x0 < (97 : Int32)
  · refine Eq.trans ?_ (if_pos c1).symm
    exact g109_0_0 C c1
  · refine Eq.trans ?_ (if_neg c1).symm
    by_cases c2 : (104 : Int32) < x0
    · refine Eq.trans ?_ (if_pos c2).symm
      exact g109_0_1 C c1 c2
    · refine Eq.trans ?_ (if_neg c2).symm
      exact g109_0_2 C c1 c2
theorem t110_0 (C : pmC) {σ : pmS} {l1 : Option pmV} {l2 : Option pmV} {l3 : Option pmV}  : pq_Rn C (110, 0, [some (vR 10 0 0), l1, l2, l3], [], σ) = pq_Rn C (110, 2, [some (vR 10 0 0), some (vI (0 : Int32)), l2, l3], [], σ) := by
  exact g110_0_0 C 
theorem t110_2 (C : pmC) {σ : pmS} {x1 : Int32} {l2 : Option pmV} {l3 : Option pmV} {r101 : Int32} {σ101 : pmS} (u1 : (¬ (σ.1 10 0 6 0) ≤ x1) → ((x1 - x1 / (6 : Int32) * (6 : Int32)) = (1 : Int32)) → vp_in x1 60) (u2 : (¬ (σ.1 10 0 6 0) ≤ x1) → (¬ (x1 - x1 / (6 : Int32) * (6 : Int32)) = (1 : Int32)) → ((x1 - x1 / (6 : Int32) * (6 : Int32)) = (3 : Int32)) → vp_in x1 60) (u3 : (¬ (σ.1 10 0 6 0) ≤ x1) → (¬ (x1 - x1 / (6 : Int32) * (6 : Int32)) = (1 : Int32)) → (¬ (x1 - x1 / (6 : Int32) * (6 : Int32)) = (3 : Int32)) → ((x1 - x1 / (6 : Int32) * (6 : Int32)) = (5 : Int32)) → vp_in x1 60) (u4 : (¬ (σ.1 10 0 6 0) ≤ x1) → (¬ (x1 - x1 / (6 : Int32) * (6 : Int32)) = (1 : Int32)) → (¬ (x1 - x1 / (6 : Int32) * (6 : Int32)) = (3 : Int32)) → (¬ (x1 - x1 / (6 : Int32) * (6 : Int32)) = (5 : Int32)) → vp_in x1 60) (u5 : (¬ (σ.1 10 0 6 0) ≤ x1) → (¬ (x1 - x1 / (6 : Int32) * (6 : Int32)) = (1 : Int32)) → (¬ (x1 - x1 / (6 : Int32) * (6 : Int32)) = (3 : Int32)) → (¬ (x1 - x1 / (6 : Int32) * (6 : Int32)) = (5 : Int32)) → C 109 [vI (σ.1 10 0 5 (x1).toNatClampNeg)] σ = some (some (vI r101), σ101)) : pq_Rn C (110, 2, [some (vR 10 0 0), some (vI x1), l2, l3], [], σ) = (if (σ.1 10 0 6 0) ≤ x1 then (if ((σ.1 10 0 6 0) - (σ.1 10 0 6 0) / (6 : Int32) * (6 : Int32)) = (5 : Int32) then (if (σ.1 10 0 6 0) < (11 : Int32) then pq_Rn C (110, 139, [some (vR 10 0 0), some (vI x1), l2, l3], [], σ) else pq_Rn C (110, 143, [some (vR 10 0 0), some (vI x1), l2, l3], [vI (-1 : Int32)], σ)) else pq_Rn C (110, 139, [some (vR 10 0 0), some (vI x1), l2, l3], [], σ)) else (if (x1 - x1 / (6 : Int32) * (6 : Int32)) = (1 : Int32) then (if (σ.1 10 0 5 (x1).toNatClampNeg) = (43 : Int32) then pq_Rn C (110, 96, [some (vR 10 0 0), some (vI x1), some (vI (x1 - x1 / (6 : Int32) * (6 : Int32))), l3], [vI (1 : Int32)], σ) else pq_Rn C (110, 96, [some (vR 10 0 0), some (vI x1), some (vI (x1 - x1 / (6 : Int32) * (6 : Int32))), l3], [vI (0 : Int32)], σ)) else (if (x1 - x1 / (6 : Int32) * (6 : Int32)) = (3 : Int32) then (if (σ.1 10 0 5 (x1).toNatClampNeg) = (61 : Int32) then pq_Rn C (110, 96, [some (vR 10 0 0), some (vI x1), some (vI (x1 - x1 / (6 : Int32) * (6 : Int32))), l3], [vI (1 : Int32)], σ) else pq_Rn C (110, 96, [some (vR 10 0 0), some (vI x1), some (vI (x1 - x1 / (6 : Int32) * (6 : Int32))), l3], [vI (0 : Int32)], σ)) else (if (x1 - x1 / (6 : Int32) * (6 : Int32)) = (5 : Int32) then (if (σ.1 10 0 5 (x1).toNatClampNeg) = (59 : Int32) then pq_Rn C (110, 96, [some (vR 10 0 0), some (vI x1), some (vI (x1 - x1 / (6 : Int32) * (6 : Int32))), l3], [vI (1 : Int32)], σ) else pq_Rn C (110, 96, [some (vR 10 0 0), some (vI x1), some (vI (x1 - x1 / (6 : Int32) * (6 : Int32))), l3], [vI (0 : Int32)], σ)) else pq_Rn C (110, 96, [some (vR 10 0 0), some (vI x1), some (vI (x1 - x1 / (6 : Int32) * (6 : Int32))), l3], [vI r101], σ101))))) := by
  by_cases c1 : (σ.1 10 0 6 0) ≤ x1
  · refine Eq.trans ?_ (if_pos c1).symm
    by_cases c2 : ((σ.1 10 0 6 0) - (σ.1 10 0 6 0) / (6 : Int32) * (6 : Int32)) = (5 : Int32)
    · refine Eq.trans ?_ (if_pos c2).symm
      by_cases c3 : (σ.1 10 0 6 0) < (11 : Int32)
      · refine Eq.trans ?_ (if_pos c3).symm
        exact g110_2_0 C c1 c2 c3
      · refine Eq.trans ?_ (if_neg c3).symm
        exact g110_2_1 C c1 c2 c3
    · refine Eq.trans ?_ (if_neg c2).symm
      exact g110_2_2 C c1 c2
  · refine Eq.trans ?_ (if_neg c1).symm
    by_cases c4 : (x1 - x1 / (6 : Int32) * (6 : Int32)) = (1 : Int32)
    · refine Eq.trans ?_ (if_pos c4).symm
      by_cases c5 : (σ.1 10 0 5 (x1).toNatClampNeg) = (43 : Int32)
      · refine Eq.trans ?_ (if_pos c5).symm
        exact g110_2_3 C c1 c4 (u1 c1 c4) c5
      · refine Eq.trans ?_ (if_neg c5).symm
        exact g110_2_4 C c1 c4 (u1 c1 c4) c5
    · refine Eq.trans ?_ (if_neg c4).symm
      by_cases c6 : (x1 - x1 / (6 : Int32) * (6 : Int32)) = (3 : Int32)
      · refine Eq.trans ?_ (if_pos c6).symm
        by_cases c7 : (σ.1 10 0 5 (x1).toNatClampNeg) = (61 : Int32)
        · refine Eq.trans ?_ (if_pos c7).symm
          exact g110_2_5 C c1 c4 c6 (u2 c1 c4 c6) c7
        · refine Eq.trans ?_ (if_neg c7).symm
          exact g110_2_6 C c1 c4 c6 (u2 c1 c4 c6) c7
      · refine Eq.trans ?_ (if_neg c6).symm
        by_cases c8 : (x1 - x1 / (6 : Int32) * (6 : Int32)) = (5 : Int32)
        · refine Eq.trans ?_ (if_pos c8).symm
          by_cases c9 : (σ.1 10 0 5 (x1).toNatClampNeg) = (59 : Int32)
          · refine Eq.trans ?_ (if_pos c9).symm
            exact g110_2_7 C c1 c4 c6 c8 (u3 c1 c4 c6 c8) c9
          · refine Eq.trans ?_ (if_neg c9).symm
            exact g110_2_8 C c1 c4 c6 c8 (u3 c1 c4 c6 c8) c9
        · refine Eq.trans ?_ (if_neg c8).symm
          exact g110_2_9 C c1 c4 c6 c8 (u4 c1 c4 c6 c8) (u5 c1 c4 c6 c8)
theorem t110_96 (C : pmC) {σ : pmS} {x1 : Int32} {l2 : Option pmV} {l3 : Option pmV} {s0 : Int32}  : pq_Rn C (110, 96, [some (vR 10 0 0), some (vI x1), l2, l3], [vI s0], σ) = (if s0 = 0 then pq_Rn C (110, 107, [some (vR 10 0 0), some (vI x1), l2, some (vI s0)], [], σ) else (if x1 < (47 : Int32) then pq_Rn C (110, 2, [some (vR 10 0 0), some (vI (x1 + (1 : Int32))), l2, some (vI s0)], [], σ) else pq_Rn C (110, 107, [some (vR 10 0 0), some (vI x1), l2, some (vI s0)], [], σ))) := by
  by_cases c1 : s0 = 0
  · refine Eq.trans ?_ (if_pos c1).symm
    exact g110_96_0 C c1
  · refine Eq.trans ?_ (if_neg c1).symm
    by_cases c2 : x1 < (47 : Int32)
    · refine Eq.trans ?_ (if_pos c2).symm
      exact g110_96_1 C c1 c2
    · refine Eq.trans ?_ (if_neg c2).symm
      exact g110_96_2 C c1 c2
theorem t110_107 (C : pmC) {σ : pmS} {l0 : Option pmV} {x1 : Int32} {l2 : Option pmV} {l3 : Option pmV}  : pq_Rn C (110, 107, [l0, some (vI x1), l2, l3], [], σ) = some (some (vI x1), σ) := by
  exact g110_107_0 C 
theorem t110_139 (C : pmC) {σ : pmS} {l1 : Option pmV} {l2 : Option pmV} {l3 : Option pmV}  : pq_Rn C (110, 139, [some (vR 10 0 0), l1, l2, l3], [], σ) = pq_Rn C (110, 143, [some (vR 10 0 0), l1, l2, l3], [vI (σ.1 10 0 6 0)], σ) := by
  exact g110_139_0 C 
theorem t110_143 (C : pmC) {σ : pmS} {l0 : Option pmV} {l1 : Option pmV} {l2 : Option pmV} {l3 : Option pmV} {s0 : Int32}  : pq_Rn C (110, 143, [l0, l1, l2, l3], [vI s0], σ) = some (some (vI s0), σ) := by
  exact g110_143_0 C 
theorem t111_0 (C : pmC) {σ : pmS} {x1 : Int32} {l2 : Option pmV}  : pq_Rn C (111, 0, [some (vR 10 0 0), some (vI x1), l2], [], σ) = pq_Rn C (111, 2, [some (vR 10 0 0), some (vI x1), some (vI (0 : Int32))], [], σ) := by
  exact g111_0_0 C 
theorem t111_2 (C : pmC) {σ : pmS} {x1 : Int32} {x2 : Int32} (u1 : (¬ (σ.1 10 0 6 0) ≤ x2) → vp_in x2 60) : pq_Rn C (111, 2, [some (vR 10 0 0), some (vI x1), some (vI x2)], [], σ) = (if (σ.1 10 0 6 0) ≤ x2 then some (some (vI (-1 : Int32)), σ) else (if ((σ.1 10 0 5 (x2).toNatClampNeg) - (97 : Int32)) < x1 then pq_Rn C (111, 2, [some (vR 10 0 0), some (vI x1), some (vI (x2 + (2 : Int32)))], [], σ) else some (some (vI x2), σ))) := by
  by_cases c1 : (σ.1 10 0 6 0) ≤ x2
  · refine Eq.trans ?_ (if_pos c1).symm
    exact g111_2_0 C c1
  · refine Eq.trans ?_ (if_neg c1).symm
    by_cases c2 : ((σ.1 10 0 5 (x2).toNatClampNeg) - (97 : Int32)) < x1
    · refine Eq.trans ?_ (if_pos c2).symm
      exact g111_2_1 C c1 (u1 c1) c2
    · refine Eq.trans ?_ (if_neg c2).symm
      exact g111_2_2 C c1 (u1 c1) c2
theorem t112_0 (C : pmC) {σ : pmS} {l1 : Option pmV} {l2 : Option pmV}  : pq_Rn C (112, 0, [some (vR 10 0 0), l1, l2], [], σ) = pq_Rn C (112, 2, [some (vR 10 0 0), some (vI (0 : Int32)), l2], [], σ) := by
  exact g112_0_0 C 
theorem t112_2 (C : pmC) {σ : pmS} {x1 : Int32} {l2 : Option pmV}  : pq_Rn C (112, 2, [some (vR 10 0 0), some (vI x1), l2], [], σ) = (if (σ.1 10 0 6 0) ≤ x1 then some (some (vI (-1 : Int32)), σ) else pq_Rn C (112, 15, [some (vR 10 0 0), some (vI x1), some (vI (x1 - (6 : Int32)))], [], σ)) := by
  by_cases c1 : (σ.1 10 0 6 0) ≤ x1
  · refine Eq.trans ?_ (if_pos c1).symm
    exact g112_2_0 C c1
  · refine Eq.trans ?_ (if_neg c1).symm
    exact g112_2_1 C c1
theorem t112_15 (C : pmC) {σ : pmS} {x1 : Int32} {x2 : Int32} (u1 : (¬ x2 < 0) → vp_in x2 60) (u2 : (¬ x2 < 0) → vp_in x1 60) : pq_Rn C (112, 15, [some (vR 10 0 0), some (vI x1), some (vI x2)], [], σ) = (if x2 < 0 then pq_Rn C (112, 2, [some (vR 10 0 0), some (vI (x1 + (2 : Int32))), some (vI x2)], [], σ) else (if (σ.1 10 0 5 (x2).toNatClampNeg) = (σ.1 10 0 5 (x1).toNatClampNeg) then some (some (vI x1), σ) else pq_Rn C (112, 15, [some (vR 10 0 0), some (vI x1), some (vI (x2 + (-6 : Int32)))], [], σ))) := by
  by_cases c1 : x2 < 0
  · refine Eq.trans ?_ (if_pos c1).symm
    exact g112_15_0 C c1
  · refine Eq.trans ?_ (if_neg c1).symm
    by_cases c2 : (σ.1 10 0 5 (x2).toNatClampNeg) = (σ.1 10 0 5 (x1).toNatClampNeg)
    · refine Eq.trans ?_ (if_pos c2).symm
      exact g112_15_1 C c1 (u1 c1) (u2 c1) c2
    · refine Eq.trans ?_ (if_neg c2).symm
      exact g112_15_2 C c1 (u1 c1) (u2 c1) c2
theorem t113_0 (C : pmC) {σ : pmS} {l1 : Option pmV} {l2 : Option pmV} {l3 : Option pmV} {r101 : Int32} {σ101 : pmS} {r102 : Int32} {σ102 : pmS} {r103 : Int32} {σ103 : pmS} {r104 : Int32} {σ104 : pmS} (u1 : (¬ (σ.1 10 0 4 0) = (4 : Int32)) → C 110 [vR 10 0 0] (pm_wi σ 10 0 7 0 (1 : Int32)) = some (some (vI r101), σ101)) (u2 : (¬ (σ.1 10 0 4 0) = (4 : Int32)) → (0 ≤ r101) → (0 ≤ r101) → (r101 < 0) → vp_in (σ101.1 10 0 4 0) 4) (u3 : (¬ (σ.1 10 0 4 0) = (4 : Int32)) → (0 ≤ r101) → (¬ 0 ≤ r101) → C 112 [vR 10 0 0] (pm_wi (pm_wi σ101 10 0 8 0 r101) 10 0 7 0 (3 : Int32)) = some (some (vI r102), σ102)) (u4 : (¬ (σ.1 10 0 4 0) = (4 : Int32)) → (0 ≤ r101) → (¬ 0 ≤ r101) → (r102 < 0) → vp_in (σ102.1 10 0 4 0) 4) (u5 : (¬ (σ.1 10 0 4 0) = (4 : Int32)) → (¬ 0 ≤ r101) → C 111 [vR 10 0 0, vI (((σ.1 10 0 6 0) + (1 : Int32)) / (6 : Int32))] (pm_wi (pm_wi σ101 10 0 8 0 r101) 10 0 7 0 (2 : Int32)) = some (some (vI r103), σ103)) (u6 : (¬ (σ.1 10 0 4 0) = (4 : Int32)) → (¬ 0 ≤ r101) → (0 ≤ r103) → (r103 < 0) → vp_in (σ103.1 10 0 4 0) 4) (u7 : (¬ (σ.1 10 0 4 0) = (4 : Int32)) → (¬ 0 ≤ r101) → (¬ 0 ≤ r103) → C 112 [vR 10 0 0] (pm_wi (pm_wi σ103 10 0 8 0 r103) 10 0 7 0 (3 : Int32)) = some (some (vI r104), σ104)) (u8 : (¬ (σ.1 10 0 4 0) = (4 : Int32)) → (¬ 0 ≤ r101) → (¬ 0 ≤ r103) → (r104 < 0) → vp_in (σ104.1 10 0 4 0) 4) : pq_Rn C (113, 0, [some (vR 10 0 0), l1, l2, l3], [], σ) = (if (σ.1 10 0 4 0) = (4 : Int32) then some (some (vI (-4 : Int32)), σ) else (if 0 ≤ r101 then (if 0 ≤ r101 then (if r101 < 0 then pq_Rn C (113, 129, [some (vR 10 0 0), some (vI (((σ.1 10 0 6 0) + (1 : Int32)) / (6 : Int32))), some (vI (σ101.1 10 0 4 0)), some (vI (0 : Int32))], [], (pm_wi (pm_wi (pm_wi (pm_wi (pm_wi σ101 10 0 8 0 r101) 10 0 7 0 (0 : Int32)) 10 0 8 0 (-1 : Int32)) 10 0 4 0 ((σ101.1 10 0 4 0) + (1 : Int32))) 10 0 0 ((σ101.1 10 0 4 0)).toNatClampNeg (((σ.1 10 0 6 0) + (1 : Int32)) / (6 : Int32)))) else some (some (vI ((-10 : Int32) - (σ101.1 10 0 7 0))), (pm_wi (pm_wi σ101 10 0 8 0 r101) 10 0 6 0 (0 : Int32)))) else (if r102 < 0 then pq_Rn C (113, 129, [some (vR 10 0 0), some (vI (((σ.1 10 0 6 0) + (1 : Int32)) / (6 : Int32))), some (vI (σ102.1 10 0 4 0)), some (vI (0 : Int32))], [], (pm_wi (pm_wi (pm_wi (pm_wi (pm_wi σ102 10 0 8 0 r102) 10 0 7 0 (0 : Int32)) 10 0 8 0 (-1 : Int32)) 10 0 4 0 ((σ102.1 10 0 4 0) + (1 : Int32))) 10 0 0 ((σ102.1 10 0 4 0)).toNatClampNeg (((σ.1 10 0 6 0) + (1 : Int32)) / (6 : Int32)))) else some (some (vI ((-10 : Int32) - (σ102.1 10 0 7 0))), (pm_wi (pm_wi σ102 10 0 8 0 r102) 10 0 6 0 (0 : Int32))))) else (if 0 ≤ r103 then (if r103 < 0 then pq_Rn C (113, 129, [some (vR 10 0 0), some (vI (((σ.1 10 0 6 0) + (1 : Int32)) / (6 : Int32))), some (vI (σ103.1 10 0 4 0)), some (vI (0 : Int32))], [], (pm_wi (pm_wi (pm_wi (pm_wi (pm_wi σ103 10 0 8 0 r103) 10 0 7 0 (0 : Int32)) 10 0 8 0 (-1 : Int32)) 10 0 4 0 ((σ103.1 10 0 4 0) + (1 : Int32))) 10 0 0 ((σ103.1 10 0 4 0)).toNatClampNeg (((σ.1 10 0 6 0) + (1 : Int32)) / (6 : Int32)))) else some (some (vI ((-10 : Int32) - (σ103.1 10 0 7 0))), (pm_wi (pm_wi σ103 10 0 8 0 r103) 10 0 6 0 (0 : Int32)))) else (if r104 < 0 then pq_Rn C (113, 129, [some (vR 10 0 0), some (vI (((σ.1 10 0 6 0) + (1 : Int32)) / (6 : Int32))), some (vI (σ104.1 10 0 4 0)), some (vI (0 : Int32))], [], (pm_wi (pm_wi (pm_wi (pm_wi (pm_wi σ104 10 0 8 0 r104) 10 0 7 0 (0 : Int32)) 10 0 8 0 (-1 : Int32)) 10 0 4 0 ((σ104.1 10 0 4 0) + (1 : Int32))) 10 0 0 ((σ104.1 10 0 4 0)).toNatClampNeg (((σ.1 10 0 6 0) + (1 : Int32)) / (6 : Int32)))) else some (some (vI ((-10 : Int32) - (σ104.1 10 0 7 0))), (pm_wi (pm_wi σ104 10 0 8 0 r104) 10 0 6 0 (0 : Int32))))))) := by
  by_cases c1 : (σ.1 10 0 4 0) = (4 : Int32)
  · refine Eq.trans ?_ (if_pos c1).symm
    exact g113_0_0 C c1
  · refine Eq.trans ?_ (if_neg c1).symm
    by_cases c2 : 0 ≤ r101
    · refine Eq.trans ?_ (if_pos c2).symm
      by_cases c3 : 0 ≤ r101
      · refine Eq.trans ?_ (if_pos c3).symm
        by_cases c4 : r101 < 0
        · refine Eq.trans ?_ (if_pos c4).symm
          exact g113_0_1 C c1 (u1 c1) c2 c3 c4 (u2 c1 c2 c3 c4)
        · refine Eq.trans ?_ (if_neg c4).symm
          exact g113_0_2 C c1 (u1 c1) c2 c3 c4
      · refine Eq.trans ?_ (if_neg c3).symm
        by_cases c5 : r102 < 0
        · refine Eq.trans ?_ (if_pos c5).symm
          exact g113_0_3 C c1 (u1 c1) c2 c3 (u3 c1 c2 c3) c5 (u4 c1 c2 c3 c5)
        · refine Eq.trans ?_ (if_neg c5).symm
          exact g113_0_4 C c1 (u1 c1) c2 c3 (u3 c1 c2 c3) c5
    · refine Eq.trans ?_ (if_neg c2).symm
      by_cases c6 : 0 ≤ r103
      · refine Eq.trans ?_ (if_pos c6).symm
        by_cases c7 : r103 < 0
        · refine Eq.trans ?_ (if_pos c7).symm
          exact g113_0_5 C c1 (u1 c1) c2 (u5 c1 c2) c6 c7 (u6 c1 c2 c6 c7)
        · refine Eq.trans ?_ (if_neg c7).symm
          exact g113_0_6 C c1 (u1 c1) c2 (u5 c1 c2) c6 c7
      · refine Eq.trans ?_ (if_neg c6).symm
        by_cases c8 : r104 < 0
        · refine Eq.trans ?_ (if_pos c8).symm
          exact g113_0_7 C c1 (u1 c1) c2 (u5 c1 c2) c6 (u7 c1 c2 c6) c8 (u8 c1 c2 c6 c8)
        · refine Eq.trans ?_ (if_neg c8).symm
          exact g113_0_8 C c1 (u1 c1) c2 (u5 c1 c2) c6 (u7 c1 c2 c6) c8
theorem t113_129 (C : pmC) {σ : pmS} {l1 : Option pmV} {x2 : Int32} {x3 : Int32} (u1 : (¬ (σ.1 10 0 6 0) ≤ x3) → vp_in x3 60) (u2 : (¬ (σ.1 10 0 6 0) ≤ x3) → vp_in (x3 + (2 : Int32)) 60) (u3 : (¬ (σ.1 10 0 6 0) ≤ x3) → vp_in ((((8 : Int32) * x2) + (σ.1 10 0 5 (x3).toNatClampNeg)) - (97 : Int32)) 32) (u4 : (¬ (σ.1 10 0 6 0) ≤ x3) → vp_in (x3 + (4 : Int32)) 60) (u5 : (¬ (σ.1 10 0 6 0) ≤ x3) → vp_in ((((8 : Int32) * x2) + (σ.1 10 0 5 ((x3 + (2 : Int32))).toNatClampNeg)) - (97 : Int32)) 32) : pq_Rn C (113, 129, [some (vR 10 0 0), l1, some (vI x2), some (vI x3)], [], σ) = (if (σ.1 10 0 6 0) ≤ x3 then some (some (vI x2), (pm_wi σ 10 0 6 0 (0 : Int32))) else pq_Rn C (113, 129, [some (vR 10 0 0), l1, some (vI x2), some (vI (x3 + (6 : Int32)))], [], (pm_wi (pm_wi (pm_wi σ 10 0 1 (((((8 : Int32) * x2) + (σ.1 10 0 5 (x3).toNatClampNeg)) - (97 : Int32))).toNatClampNeg ((σ.1 10 0 5 ((x3 + (2 : Int32))).toNatClampNeg) - (97 : Int32))) 10 0 2 (((((8 : Int32) * x2) + (σ.1 10 0 5 ((x3 + (2 : Int32))).toNatClampNeg)) - (97 : Int32))).toNatClampNeg ((σ.1 10 0 5 ((x3 + (4 : Int32))).toNatClampNeg) - (97 : Int32))) 10 0 3 (((((8 : Int32) * x2) + (σ.1 10 0 5 (x3).toNatClampNeg)) - (97 : Int32))).toNatClampNeg ((σ.1 10 0 5 ((x3 + (4 : Int32))).toNatClampNeg) - (97 : Int32))))) := by
  by_cases c1 : (σ.1 10 0 6 0) ≤ x3
  · refine Eq.trans ?_ (if_pos c1).symm
    exact g113_129_0 C c1
  · refine Eq.trans ?_ (if_neg c1).symm
    exact g113_129_1 C c1 (u1 c1) (u2 c1) (u3 c1) (u4 c1) (u5 c1)
theorem t114_0 (C : pmC) {σ : pmS} {x1 : Int32}  : pq_Rn C (114, 0, [some (vR 10 0 0), some (vI x1)], [], σ) = (if x1 = 0 then some (some (vI (σ.1 10 0 7 0)), σ) else (if x1 = (1 : Int32) then some (some (vI (σ.1 10 0 8 0)), σ) else some (some (vI (-1 : Int32)), σ))) := by
  by_cases c1 : x1 = 0
  · refine Eq.trans ?_ (if_pos c1).symm
    exact g114_0_0 C c1
  · refine Eq.trans ?_ (if_neg c1).symm
    by_cases c2 : x1 = (1 : Int32)
    · refine Eq.trans ?_ (if_pos c2).symm
      exact g114_0_1 C c1 c2
    · refine Eq.trans ?_ (if_neg c2).symm
      exact g114_0_2 C c1 c2
theorem t115a_0 (C : pmC) {σ : pmS} {l0 : Option pmV} {x2 : Int32} {x3 : Int32} {l4 : Option pmV}  : pq_Rn C (115, 0, [l0, some (vR 10 0 2), some (vI x2), some (vI x3), l4], [], σ) = pq_Rn C (115, 3, [l0, some (vR 10 0 2), some (vI x2), some (vI x3), some (vI (0 : Int32))], [], σ) := by
  exact g115a_0_0 C 
theorem t115a_3 (C : pmC) {σ : pmS} {l0 : Option pmV} {x2 : Int32} {x3 : Int32} {x4 : Int32} (u1 : vp_in (((8 : Int32) * x2) + x4) 32) : pq_Rn C (115, 3, [l0, some (vR 10 0 2), some (vI x2), some (vI x3), some (vI x4)], [], σ) = (if (σ.1 10 0 1 ((((8 : Int32) * x2) + x4)).toNatClampNeg) = x3 then some (some (vI x4), σ) else pq_Rn C (115, 3, [l0, some (vR 10 0 2), some (vI x2), some (vI x3), some (vI (x4 + (1 : Int32)))], [], σ)) := by
  by_cases c1 : (σ.1 10 0 1 ((((8 : Int32) * x2) + x4)).toNatClampNeg) = x3
  · refine Eq.trans ?_ (if_pos c1).symm
    exact g115a_3_0 C u1 c1
  · refine Eq.trans ?_ (if_neg c1).symm
    exact g115a_3_1 C u1 c1
theorem t115b_0 (C : pmC) {σ : pmS} {l0 : Option pmV} {x2 : Int32} {x3 : Int32} {l4 : Option pmV}  : pq_Rn C (115, 0, [l0, some (vR 10 0 3), some (vI x2), some (vI x3), l4], [], σ) = pq_Rn C (115, 3, [l0, some (vR 10 0 3), some (vI x2), some (vI x3), some (vI (0 : Int32))], [], σ) := by
  exact g115b_0_0 C 
theorem t115b_3 (C : pmC) {σ : pmS} {l0 : Option pmV} {x2 : Int32} {x3 : Int32} {x4 : Int32} (u1 : vp_in (((8 : Int32) * x2) + x4) 32) : pq_Rn C (115, 3, [l0, some (vR 10 0 3), some (vI x2), some (vI x3), some (vI x4)], [], σ) = (if (σ.1 10 0 2 ((((8 : Int32) * x2) + x4)).toNatClampNeg) = x3 then some (some (vI x4), σ) else pq_Rn C (115, 3, [l0, some (vR 10 0 3), some (vI x2), some (vI x3), some (vI (x4 + (1 : Int32)))], [], σ)) := by
  by_cases c1 : (σ.1 10 0 2 ((((8 : Int32) * x2) + x4)).toNatClampNeg) = x3
  · refine Eq.trans ?_ (if_pos c1).symm
    exact g115b_3_0 C u1 c1
  · refine Eq.trans ?_ (if_neg c1).symm
    exact g115b_3_1 C u1 c1
theorem t115c_0 (C : pmC) {σ : pmS} {l0 : Option pmV} {x2 : Int32} {x3 : Int32} {l4 : Option pmV}  : pq_Rn C (115, 0, [l0, some (vR 10 0 4), some (vI x2), some (vI x3), l4], [], σ) = pq_Rn C (115, 3, [l0, some (vR 10 0 4), some (vI x2), some (vI x3), some (vI (0 : Int32))], [], σ) := by
  exact g115c_0_0 C 
theorem t115c_3 (C : pmC) {σ : pmS} {l0 : Option pmV} {x2 : Int32} {x3 : Int32} {x4 : Int32} (u1 : vp_in (((8 : Int32) * x2) + x4) 32) : pq_Rn C (115, 3, [l0, some (vR 10 0 4), some (vI x2), some (vI x3), some (vI x4)], [], σ) = (if (σ.1 10 0 3 ((((8 : Int32) * x2) + x4)).toNatClampNeg) = x3 then some (some (vI x4), σ) else pq_Rn C (115, 3, [l0, some (vR 10 0 4), some (vI x2), some (vI x3), some (vI (x4 + (1 : Int32)))], [], σ)) := by
  by_cases c1 : (σ.1 10 0 3 ((((8 : Int32) * x2) + x4)).toNatClampNeg) = x3
  · refine Eq.trans ?_ (if_pos c1).symm
    exact g115c_3_0 C u1 c1
  · refine Eq.trans ?_ (if_neg c1).symm
    exact g115c_3_1 C u1 c1
theorem t116_0 (C : pmC) {σ : pmS} {x1 : Int32} {x2 : Int32} {x3 : Int32} {r101 : Int32} {σ101 : pmS} {r102 : Int32} {σ102 : pmS} (u1 : C 107 [vR 10 0 0, vI x1, vI x2] σ = some (some (vI r101), σ101)) (u2 : (¬ r101 = 0) → (x3 = (0 : Int32)) → vp_in (((8 : Int32) * x1) + x2) 32) (u3 : (¬ r101 = 0) → (¬ x3 = (0 : Int32)) → (x3 = (1 : Int32)) → vp_in (((8 : Int32) * x1) + x2) 32) (u4 : (¬ r101 = 0) → (¬ x3 = (0 : Int32)) → (¬ x3 = (1 : Int32)) → (x3 = (2 : Int32)) → vp_in (((8 : Int32) * x1) + x2) 32) (u5 : (¬ r101 = 0) → (¬ x3 = (0 : Int32)) → (¬ x3 = (1 : Int32)) → (¬ x3 = (2 : Int32)) → (x3 = (3 : Int32)) → C 115 [vR 10 0 0, vR 10 0 2, vI x1, vI x2] σ101 = some (some (vI r102), σ102)) (u6 : (¬ r101 = 0) → (¬ x3 = (0 : Int32)) → (¬ x3 = (1 : Int32)) → (¬ x3 = (2 : Int32)) → (¬ x3 = (3 : Int32)) → (x3 = (4 : Int32)) → vp_in x1 4) : pq_Rn C (116, 0, [some (vR 10 0 0), some (vI x1), some (vI x2), some (vI x3)], [], σ) = (if r101 = 0 then some (some (vI (-1 : Int32)), σ101) else (if x3 = (0 : Int32) then some (some (vI (σ101.1 10 0 1 ((((8 : Int32) * x1) + x2)).toNatClampNeg)), σ101) else (if x3 = (1 : Int32) then some (some (vI (σ101.1 10 0 2 ((((8 : Int32) * x1) + x2)).toNatClampNeg)), σ101) else (if x3 = (2 : Int32) then some (some (vI (σ101.1 10 0 3 ((((8 : Int32) * x1) + x2)).toNatClampNeg)), σ101) else (if x3 = (3 : Int32) then some (some (vI r102), σ102) else (if x3 = (4 : Int32) then some (some (vI (σ101.1 10 0 0 (x1).toNatClampNeg)), σ101) else some (some (vI (-1 : Int32)), σ101))))))) := by
  by_cases c1 : r101 = 0
  · refine Eq.trans ?_ (if_pos c1).symm
    exact g116_0_0 C u1 c1
  · refine Eq.trans ?_ (if_neg c1).symm
    by_cases c2 : x3 = (0 : Int32)
    · refine Eq.trans ?_ (if_pos c2).symm
      exact g116_0_1 C u1 c1 c2 (u2 c1 c2)
    · refine Eq.trans ?_ (if_neg c2).symm
      by_cases c3 : x3 = (1 : Int32)
      · refine Eq.trans ?_ (if_pos c3).symm
        exact g116_0_2 C u1 c1 c3 (u3 c1 c2 c3)
      · refine Eq.trans ?_ (if_neg c3).symm
        by_cases c4 : x3 = (2 : Int32)
        · refine Eq.trans ?_ (if_pos c4).symm
          exact g116_0_3 C u1 c1 c4 (u4 c1 c2 c3 c4)
        · refine Eq.trans ?_ (if_neg c4).symm
          by_cases c5 : x3 = (3 : Int32)
          · refine Eq.trans ?_ (if_pos c5).symm
            exact g116_0_4 C u1 c1 c5 (u5 c1 c2 c3 c4 c5)
          · refine Eq.trans ?_ (if_neg c5).symm
            by_cases c6 : x3 = (4 : Int32)
            · refine Eq.trans ?_ (if_pos c6).symm
              exact g116_0_5 C u1 c1 c6 (u6 c1 c2 c3 c4 c5 c6)
            · refine Eq.trans ?_ (if_neg c6).symm
              exact g116_0_6 C u1 c1 c2 c3 c4 c5 c6
theorem t117_0 (C : pmC) {σ : pmS} {x0 : Int32} {l1 : Option pmV} {l2 : Option pmV}  : pq_Rn C (117, 0, [some (vI x0), l1, l2], [], σ) = pq_Rn C (117, 4, [some (vI x0), some (vI (0 : Int32)), some (vI x0)], [], σ) := by
  exact g117_0_0 C 
theorem t117_4 (C : pmC) {σ : pmS} {x0 : Int32} {x1 : Int32} {x2 : Int32}  : pq_Rn C (117, 4, [some (vI x0), some (vI x1), some (vI x2)], [], σ) = (if x2 ≤ 0 then (if x0 ≤ 0 then some (some (vI (0 : Int32)), σ) else (if (6 : Int32) < x1 then some (some (vI (0 : Int32)), σ) else some (some (vI (1 : Int32)), σ))) else (if (x2 - x2 / (8 : Int32) * (8 : Int32)) < (1 : Int32) then some (some (vI (0 : Int32)), σ) else (if (x2 - x2 / (8 : Int32) * (8 : Int32)) ≤ (5 : Int32) then pq_Rn C (117, 4, [some (vI x0), some (vI (x1 + (1 : Int32))), some (vI (x2 / (8 : Int32)))], [], σ) else some (some (vI (0 : Int32)), σ)))) := by
  by_cases c1 : x2 ≤ 0
  · refine Eq.trans ?_ (if_pos c1).symm
    by_cases c2 : x0 ≤ 0
    · refine Eq.trans ?_ (if_pos c2).symm
      exact g117_4_0 C c1 c2
    · refine Eq.trans ?_ (if_neg c2).symm
      by_cases c3 : (6 : Int32) < x1
      · refine Eq.trans ?_ (if_pos c3).symm
        exact g117_4_1 C c1 c2 c3
      · refine Eq.trans ?_ (if_neg c3).symm
        exact g117_4_2 C c1 c2 c3
  · refine Eq.trans ?_ (if_neg c1).symm
    by_cases c4 : (x2 - x2 / (8 : Int32) * (8 : Int32)) < (1 : Int32)
    · refine Eq.trans ?_ (if_pos c4).symm
      exact g117_4_3 C c1 c4
    · refine Eq.trans ?_ (if_neg c4).symm
      by_cases c5 : (x2 - x2 / (8 : Int32) * (8 : Int32)) ≤ (5 : Int32)
      · refine Eq.trans ?_ (if_pos c5).symm
        exact g117_4_4 C c1 c4 c5
      · refine Eq.trans ?_ (if_neg c5).symm
        exact g117_4_5 C c1 c4 c5
theorem t118_0 (C : pmC) {σ : pmS} {x0 : Int32}  : pq_Rn C (118, 0, [some (vI x0)], [], σ) = (if x0 = 0 then some (some (vI (1 : Int32)), σ) else (if x0 = (1 : Int32) then some (some (vI (1 : Int32)), σ) else some (some (vI (0 : Int32)), σ))) := by
  by_cases c1 : x0 = 0
  · refine Eq.trans ?_ (if_pos c1).symm
    exact g118_0_0 C c1
  · refine Eq.trans ?_ (if_neg c1).symm
    by_cases c2 : x0 = (1 : Int32)
    · refine Eq.trans ?_ (if_pos c2).symm
      exact g118_0_1 C c1 c2
    · refine Eq.trans ?_ (if_neg c2).symm
      exact g118_0_2 C c1 c2
theorem t119_0 (C : pmC) {σ : pmS} {x0 : Int32} {x1 : Int32}  : pq_Rn C (119, 0, [some (vI x0), some (vI x1)], [], σ) = (if x1 = (3 : Int32) then some (some (vI ((1 : Int32) - x0)), σ) else (if x1 = (2 : Int32) then some (some (vI (1 : Int32)), σ) else (if x1 = (5 : Int32) then some (some (vI (1 : Int32)), σ) else some (some (vI (0 : Int32)), σ)))) := by
  by_cases c1 : x1 = (3 : Int32)
  · refine Eq.trans ?_ (if_pos c1).symm
    exact g119_0_0 C c1
  · refine Eq.trans ?_ (if_neg c1).symm
    by_cases c2 : x1 = (2 : Int32)
    · refine Eq.trans ?_ (if_pos c2).symm
      exact g119_0_1 C c1 c2
    · refine Eq.trans ?_ (if_neg c2).symm
      by_cases c3 : x1 = (5 : Int32)
      · refine Eq.trans ?_ (if_pos c3).symm
        exact g119_0_2 C c1 c2 c3
      · refine Eq.trans ?_ (if_neg c3).symm
        exact g119_0_3 C c1 c2 c3
theorem t120_0 (C : pmC) {σ : pmS} {x1 : Int32} {x2 : Int32} {x3 : Int32} {x4 : Int32} {r101 : Int32} {σ101 : pmS} {r102 : Int32} {σ102 : pmS} {r103 : Int32} {σ103 : pmS} (u1 : (x4 = (1 : Int32)) → C 115 [vR 10 0 0, vR 10 0 4, vI x1, vI x2] σ = some (some (vI r101), σ101)) (u2 : (¬ x4 = (1 : Int32)) → (x4 = (2 : Int32)) → C 115 [vR 10 0 0, vR 10 0 3, vI x1, vI x2] σ = some (some (vI r102), σ102)) (u3 : (¬ x4 = (1 : Int32)) → (¬ x4 = (2 : Int32)) → (x4 = (3 : Int32)) → (x3 = 0) → vp_in (((8 : Int32) * x1) + x2) 32) (u4 : (¬ x4 = (1 : Int32)) → (¬ x4 = (2 : Int32)) → (x4 = (3 : Int32)) → (¬ x3 = 0) → C 115 [vR 10 0 0, vR 10 0 2, vI x1, vI x2] σ = some (some (vI r103), σ103)) (u5 : (¬ x4 = (1 : Int32)) → (¬ x4 = (2 : Int32)) → (¬ x4 = (3 : Int32)) → (x3 = 0) → vp_in (((8 : Int32) * x1) + x2) 32) (u6 : (¬ x4 = (1 : Int32)) → (¬ x4 = (2 : Int32)) → (¬ x4 = (3 : Int32)) → (¬ x3 = 0) → vp_in (((8 : Int32) * x1) + x2) 32) : pq_Rn C (120, 0, [some (vR 10 0 0), some (vI x1), some (vI x2), some (vI x3), some (vI x4)], [], σ) = (if x4 = (1 : Int32) then some (some (vI r101), σ101) else (if x4 = (2 : Int32) then some (some (vI r102), σ102) else (if x4 = (3 : Int32) then (if x3 = 0 then some (some (vI (σ.1 10 0 1 ((((8 : Int32) * x1) + x2)).toNatClampNeg)), σ) else some (some (vI r103), σ103)) else (if x3 = 0 then some (some (vI (σ.1 10 0 3 ((((8 : Int32) * x1) + x2)).toNatClampNeg)), σ) else some (some (vI (σ.1 10 0 2 ((((8 : Int32) * x1) + x2)).toNatClampNeg)), σ))))) := by
  by_cases c1 : x4 = (1 : Int32)
  · refine Eq.trans ?_ (if_pos c1).symm
    exact g120_0_0 C c1 (u1 c1)
  · refine Eq.trans ?_ (if_neg c1).symm
    by_cases c2 : x4 = (2 : Int32)
    · refine Eq.trans ?_ (if_pos c2).symm
      exact g120_0_1 C c2 (u2 c1 c2)
    · refine Eq.trans ?_ (if_neg c2).symm
      by_cases c3 : x4 = (3 : Int32)
      · refine Eq.trans ?_ (if_pos c3).symm
        by_cases c4 : x3 = 0
        · refine Eq.trans ?_ (if_pos c4).symm
          exact g120_0_2 C c3 c4 (u3 c1 c2 c3 c4)
        · refine Eq.trans ?_ (if_neg c4).symm
          exact g120_0_3 C c3 c4 (u4 c1 c2 c3 c4)
      · refine Eq.trans ?_ (if_neg c3).symm
        by_cases c5 : x3 = 0
        · refine Eq.trans ?_ (if_pos c5).symm
          exact g120_0_4 C c1 c2 c3 c5 (u5 c1 c2 c3 c5)
        · refine Eq.trans ?_ (if_neg c5).symm
          exact g120_0_5 C c1 c2 c3 c5 (u6 c1 c2 c3 c5)
theorem t121_0 (C : pmC) {σ : pmS} {x1 : Int32} {x2 : Int32} {x3 : Int32} {x4 : Int32} {l5 : Option pmV} {l6 : Option pmV} {l7 : Option pmV}  : pq_Rn C (121, 0, [some (vR 10 0 0), some (vI x1), some (vI x2), some (vI x3), some (vI x4), l5, l6, l7], [], σ) = pq_Rn C (121, 10, [some (vR 10 0 0), some (vI x1), some (vI x2), some (vI x3), some (vI x4), some (vI x2), some (vI x3), some (vI x4)], [], σ) := by
  exact g121_0_0 C 
theorem t121_10 (C : pmC) {σ : pmS} {x1 : Int32} {l2 : Option pmV} {l3 : Option pmV} {l4 : Option pmV} {x5 : Int32} {x6 : Int32} {x7 : Int32} {r101 : Int32} {σ101 : pmS} {r102 : Int32} {σ102 : pmS} (u1 : (¬ x7 ≤ 0) → C 120 [vR 10 0 0, vI x1, vI x5, vI x6, vI (x7 - x7 / (8 : Int32) * (8 : Int32))] σ = some (some (vI r101), σ101)) (u2 : (¬ x7 ≤ 0) → C 119 [vI x6, vI (x7 - x7 / (8 : Int32) * (8 : Int32))] σ101 = some (some (vI r102), σ102)) : pq_Rn C (121, 10, [some (vR 10 0 0), some (vI x1), l2, l3, l4, some (vI x5), some (vI x6), some (vI x7)], [], σ) = (if x7 ≤ 0 then some (some (vI x5), σ) else pq_Rn C (121, 10, [some (vR 10 0 0), some (vI x1), l2, l3, l4, some (vI r101), some (vI r102), some (vI (x7 / (8 : Int32)))], [], σ102)) := by
  by_cases c1 : x7 ≤ 0
  · refine Eq.trans ?_ (if_pos c1).symm
    exact g121_10_0 C c1
  · refine Eq.trans ?_ (if_neg c1).symm
    exact g121_10_1 C c1 (u1 c1) (u2 c1)
theorem t122_0 (C : pmC) {σ : pmS} {l0 : Option pmV} {x1 : Int32} {x2 : Int32} {l3 : Option pmV} {l4 : Option pmV}  : pq_Rn C (122, 0, [l0, some (vI x1), some (vI x2), l3, l4], [], σ) = pq_Rn C (122, 5, [l0, some (vI x1), some (vI x2), some (vI x1), some (vI x2)], [], σ) := by
  exact g122_0_0 C 
theorem t122_5 (C : pmC) {σ : pmS} {l0 : Option pmV} {l1 : Option pmV} {l2 : Option pmV} {x3 : Int32} {x4 : Int32} {r101 : Int32} {σ101 : pmS} (u1 : (¬ x4 ≤ 0) → C 119 [vI x3, vI (x4 - x4 / (8 : Int32) * (8 : Int32))] σ = some (some (vI r101), σ101)) : pq_Rn C (122, 5, [l0, l1, l2, some (vI x3), some (vI x4)], [], σ) = (if x4 ≤ 0 then some (some (vI x3), σ) else pq_Rn C (122, 5, [l0, l1, l2, some (vI r101), some (vI (x4 / (8 : Int32)))], [], σ101)) := by
  by_cases c1 : x4 ≤ 0
  · refine Eq.trans ?_ (if_pos c1).symm
    exact g122_5_0 C c1
  · refine Eq.trans ?_ (if_neg c1).symm
    exact g122_5_1 C c1 (u1 c1)
theorem t123_0 (C : pmC) {σ : pmS} {x1 : Int32} {x2 : Int32} {x3 : Int32} {x4 : Int32} {r101 : Int32} {σ101 : pmS} {r102 : Int32} {σ102 : pmS} {r103 : Int32} {σ103 : pmS} {r104 : Int32} {σ104 : pmS} (u1 : C 107 [vR 10 0 0, vI x1, vI x2] σ = some (some (vI r101), σ101)) (u2 : (¬ r101 = 0) → C 118 [vI x3] σ101 = some (some (vI r102), σ102)) (u3 : (¬ r101 = 0) → (¬ r102 = 0) → C 117 [vI x4] σ102 = some (some (vI r103), σ103)) (u4 : (¬ r101 = 0) → (¬ r102 = 0) → (¬ r103 = 0) → C 121 [vR 10 0 0, vI x1, vI x2, vI x3, vI x4] σ103 = some (some (vI r104), σ104)) : pq_Rn C (123, 0, [some (vR 10 0 0), some (vI x1), some (vI x2), some (vI x3), some (vI x4)], [], σ) = (if r101 = 0 then some (some (vI (-1 : Int32)), σ101) else (if r102 = 0 then some (some (vI (-1 : Int32)), σ102) else (if r103 = 0 then some (some (vI (-1 : Int32)), σ103) else some (some (vI r104), σ104)))) := by
  by_cases c1 : r101 = 0
  · refine Eq.trans ?_ (if_pos c1).symm
    exact g123_0_0 C u1 c1
  · refine Eq.trans ?_ (if_neg c1).symm
    by_cases c2 : r102 = 0
    · refine Eq.trans ?_ (if_pos c2).symm
      exact g123_0_1 C u1 c1 (u2 c1) c2
    · refine Eq.trans ?_ (if_neg c2).symm
      by_cases c3 : r103 = 0
      · refine Eq.trans ?_ (if_pos c3).symm
        exact g123_0_2 C u1 c1 (u2 c1) c2 (u3 c1 c2) c3
      · refine Eq.trans ?_ (if_neg c3).symm
        exact g123_0_3 C u1 c1 (u2 c1) c2 (u3 c1 c2) c3 (u4 c1 c2 c3)
theorem t124_0 (C : pmC) {σ : pmS} {x1 : Int32} {x2 : Int32} {x3 : Int32} {x4 : Int32} {l5 : Option pmV} {l6 : Option pmV} {r101 : Int32} {σ101 : pmS} {r102 : Int32} {σ102 : pmS} {r103 : Int32} {σ103 : pmS} {r104 : Int32} {σ104 : pmS} (u1 : C 106 [vR 10 0 0, vI x1] σ = some (some (vI r101), σ101)) (u2 : (¬ r101 = 0) → C 118 [vI x2] σ101 = some (some (vI r102), σ102)) (u3 : (¬ r101 = 0) → (¬ r102 = 0) → C 117 [vI x3] σ102 = some (some (vI r103), σ103)) (u4 : (¬ r101 = 0) → (¬ r102 = 0) → (¬ r103 = 0) → C 117 [vI x4] σ103 = some (some (vI r104), σ104)) : pq_Rn C (124, 0, [some (vR 10 0 0), some (vI x1), some (vI x2), some (vI x3), some (vI x4), l5, l6], [], σ) = (if r101 = 0 then some (some (vI (-1 : Int32)), σ101) else (if r102 = 0 then some (some (vI (-1 : Int32)), σ102) else (if r103 = 0 then some (some (vI (-1 : Int32)), σ103) else (if r104 = 0 then some (some (vI (-1 : Int32)), σ104) else pq_Rn C (124, 38, [some (vR 10 0 0), some (vI x1), some (vI x2), some (vI x3), some (vI x4), some (vI (1 : Int32)), some (vI (0 : Int32))], [], σ104))))) := by
  by_cases c1 : r101 = 0
  · refine Eq.trans ?_ (if_pos c1).symm
    exact g124_0_0 C u1 c1
  · refine Eq.trans ?_ (if_neg c1).symm
    by_cases c2 : r102 = 0
    · refine Eq.trans ?_ (if_pos c2).symm
      exact g124_0_1 C u1 c1 (u2 c1) c2
    · refine Eq.trans ?_ (if_neg c2).symm
      by_cases c3 : r103 = 0
      · refine Eq.trans ?_ (if_pos c3).symm
        exact g124_0_2 C u1 c1 (u2 c1) c2 (u3 c1 c2) c3
      · refine Eq.trans ?_ (if_neg c3).symm
        by_cases c4 : r104 = 0
        · refine Eq.trans ?_ (if_pos c4).symm
          exact g124_0_3 C u1 c1 (u2 c1) c2 (u3 c1 c2) c3 (u4 c1 c2 c3) c4
        · refine Eq.trans ?_ (if_neg c4).symm
          exact g124_0_4 C u1 c1 (u2 c1) c2 (u3 c1 c2) c3 (u4 c1 c2 c3) c4
theorem t124_38 (C : pmC) {σ : pmS} {x1 : Int32} {x2 : Int32} {x3 : Int32} {x4 : Int32} {x5 : Int32} {x6 : Int32} {r101 : Int32} {σ101 : pmS} {r102 : Int32} {σ102 : pmS} (u1 : vp_in x1 4) (u2 : (¬ (σ.1 10 0 0 (x1).toNatClampNeg) ≤ x6) → (¬ x5 = 0) → C 121 [vR 10 0 0, vI x1, vI x6, vI x2, vI x3] σ = some (some (vI r101), σ101)) (u3 : (¬ (σ.1 10 0 0 (x1).toNatClampNeg) ≤ x6) → (¬ x5 = 0) → C 121 [vR 10 0 0, vI x1, vI x6, vI x2, vI x4] σ101 = some (some (vI r102), σ102)) : pq_Rn C (124, 38, [some (vR 10 0 0), some (vI x1), some (vI x2), some (vI x3), some (vI x4), some (vI x5), some (vI x6)], [], σ) = (if (σ.1 10 0 0 (x1).toNatClampNeg) ≤ x6 then (if x5 = 0 then some (some (vI (0 : Int32)), σ) else some (some (vI (1 : Int32)), σ)) else (if x5 = 0 then pq_Rn C (124, 38, [some (vR 10 0 0), some (vI x1), some (vI x2), some (vI x3), some (vI x4), some (vI (0 : Int32)), some (vI (x6 + (1 : Int32)))], [], σ) else (if r101 = r102 then pq_Rn C (124, 38, [some (vR 10 0 0), some (vI x1), some (vI x2), some (vI x3), some (vI x4), some (vI (1 : Int32)), some (vI (x6 + (1 : Int32)))], [], σ102) else pq_Rn C (124, 38, [some (vR 10 0 0), some (vI x1), some (vI x2), some (vI x3), some (vI x4), some (vI (0 : Int32)), some (vI (x6 + (1 : Int32)))], [], σ102)))) := by
  by_cases c1 : (σ.1 10 0 0 (x1).toNatClampNeg) ≤ x6
  · refine Eq.trans ?_ (if_pos c1).symm
    by_cases c2 : x5 = 0
    · refine Eq.trans ?_ (if_pos c2).symm
      exact g124_38_0 C u1 c1 c2
    · refine Eq.trans ?_ (if_neg c2).symm
      exact g124_38_1 C u1 c1 c2
  · refine Eq.trans ?_ (if_neg c1).symm
    by_cases c3 : x5 = 0
    · refine Eq.trans ?_ (if_pos c3).symm
      exact g124_38_2 C u1 c1 c3
    · refine Eq.trans ?_ (if_neg c3).symm
      by_cases c4 : r101 = r102
      · refine Eq.trans ?_ (if_pos c4).symm
        exact g124_38_3 C u1 c1 c3 (u2 c1 c3) (u3 c1 c3) c4
      · refine Eq.trans ?_ (if_neg c4).symm
        exact g124_38_4 C u1 c1 c3 (u2 c1 c3) (u3 c1 c3) c4
theorem t125_0 (C : pmC) {σ : pmS} {x1 : Int32} {x2 : Int32} {x3 : Int32} {l4 : Option pmV} {l5 : Option pmV} {l6 : Option pmV} {r101 : Int32} {σ101 : pmS} {r102 : Int32} {σ102 : pmS} {r103 : Int32} {σ103 : pmS} {r104 : Int32} {σ104 : pmS} (u1 : C 106 [vR 10 0 0, vI x1] σ = some (some (vI r101), σ101)) (u2 : (¬ r101 = 0) → C 118 [vI x2] σ101 = some (some (vI r102), σ102)) (u3 : (¬ r101 = 0) → (¬ r102 = 0) → C 117 [vI x3] σ102 = some (some (vI r103), σ103)) (u4 : (¬ r101 = 0) → (¬ r102 = 0) → (¬ r103 = 0) → C 122 [vR 10 0 0, vI x2, vI x3] σ103 = some (some (vI r104), σ104)) : pq_Rn C (125, 0, [some (vR 10 0 0), some (vI x1), some (vI x2), some (vI x3), l4, l5, l6], [], σ) = (if r101 = 0 then some (some (vI (-1 : Int32)), σ101) else (if r102 = 0 then some (some (vI (-1 : Int32)), σ102) else (if r103 = 0 then some (some (vI (-1 : Int32)), σ103) else (if r104 = x2 then pq_Rn C (125, 40, [some (vR 10 0 0), some (vI x1), some (vI x2), some (vI x3), some (vI (0 : Int32)), l5, l6], [], σ104) else some (some (vI (-3 : Int32)), σ104))))) := by
  by_cases c1 : r101 = 0
  · refine Eq.trans ?_ (if_pos c1).symm
    exact g125_0_0 C u1 c1
  · refine Eq.trans ?_ (if_neg c1).symm
    by_cases c2 : r102 = 0
    · refine Eq.trans ?_ (if_pos c2).symm
      exact g125_0_1 C u1 c1 (u2 c1) c2
    · refine Eq.trans ?_ (if_neg c2).symm
      by_cases c3 : r103 = 0
      · refine Eq.trans ?_ (if_pos c3).symm
        exact g125_0_2 C u1 c1 (u2 c1) c2 (u3 c1 c2) c3
      · refine Eq.trans ?_ (if_neg c3).symm
        by_cases c4 : r104 = x2
        · refine Eq.trans ?_ (if_pos c4).symm
          exact g125_0_3 C u1 c1 (u2 c1) c2 (u3 c1 c2) c3 (u4 c1 c2 c3) c4
        · refine Eq.trans ?_ (if_neg c4).symm
          exact g125_0_4 C u1 c1 (u2 c1) c2 (u3 c1 c2) c3 (u4 c1 c2 c3) c4
theorem t125_40 (C : pmC) {σ : pmS} {x1 : Int32} {x2 : Int32} {x3 : Int32} {x4 : Int32} {l5 : Option pmV} {l6 : Option pmV} (u1 : vp_in x1 4) (u2 : (¬ (σ.1 10 0 0 (x1).toNatClampNeg) ≤ x4) → vp_in x4 8) : pq_Rn C (125, 40, [some (vR 10 0 0), some (vI x1), some (vI x2), some (vI x3), some (vI x4), l5, l6], [], σ) = (if (σ.1 10 0 0 (x1).toNatClampNeg) ≤ x4 then pq_Rn C (125, 72, [some (vR 10 0 0), some (vI x1), some (vI x2), some (vI x3), some (vI (0 : Int32)), some (vI (0 : Int32)), l6], [], σ) else pq_Rn C (125, 40, [some (vR 10 0 0), some (vI x1), some (vI x2), some (vI x3), some (vI (x4 + (1 : Int32))), l5, l6], [], (pm_wi σ 10 0 9 (x4).toNatClampNeg x4))) := by
  by_cases c1 : (σ.1 10 0 0 (x1).toNatClampNeg) ≤ x4
  · refine Eq.trans ?_ (if_pos c1).symm
    exact g125_40_0 C u1 c1
  · refine Eq.trans ?_ (if_neg c1).symm
    exact g125_40_1 C u1 c1 (u2 c1)
theorem t125_72 (C : pmC) {σ : pmS} {x1 : Int32} {x2 : Int32} {x3 : Int32} {x4 : Int32} {x5 : Int32} {l6 : Option pmV}  : pq_Rn C (125, 72, [some (vR 10 0 0), some (vI x1), some (vI x2), some (vI x3), some (vI x4), some (vI x5), l6], [], σ) = (if x5 = 0 then pq_Rn C (125, 86, [some (vR 10 0 0), some (vI x1), some (vI x2), some (vI x3), some (vI (x4 + (1 : Int32))), some (vI (1 : Int32)), some (vI (0 : Int32))], [], σ) else some (some (vI x4), σ)) := by
  by_cases c1 : x5 = 0
  · refine Eq.trans ?_ (if_pos c1).symm
    exact g125_72_0 C c1
  · refine Eq.trans ?_ (if_neg c1).symm
    exact g125_72_1 C c1
theorem t125_86 (C : pmC) {σ : pmS} {x1 : Int32} {x2 : Int32} {x3 : Int32} {x4 : Int32} {x5 : Int32} {x6 : Int32} {r101 : Int32} {σ101 : pmS} (u1 : vp_in x1 4) (u2 : (¬ (σ.1 10 0 0 (x1).toNatClampNeg) ≤ x6) → vp_in x6 8) (u3 : (¬ (σ.1 10 0 0 (x1).toNatClampNeg) ≤ x6) → C 121 [vR 10 0 0, vI x1, vI (σ.1 10 0 9 (x6).toNatClampNeg), vI x2, vI x3] σ = some (some (vI r101), σ101)) : pq_Rn C (125, 86, [some (vR 10 0 0), some (vI x1), some (vI x2), some (vI x3), some (vI x4), some (vI x5), some (vI x6)], [], σ) = (if (σ.1 10 0 0 (x1).toNatClampNeg) ≤ x6 then pq_Rn C (125, 72, [some (vR 10 0 0), some (vI x1), some (vI x2), some (vI x3), some (vI x4), some (vI x5), some (vI x6)], [], σ) else (if x5 = 0 then pq_Rn C (125, 86, [some (vR 10 0 0), some (vI x1), some (vI x2), some (vI x3), some (vI x4), some (vI (0 : Int32)), some (vI (x6 + (1 : Int32)))], [], (pm_wi σ101 10 0 9 (x6).toNatClampNeg r101)) else (if ((pm_wi σ101 10 0 9 (x6).toNatClampNeg r101).1 10 0 9 (x6).toNatClampNeg) = x6 then pq_Rn C (125, 86, [some (vR 10 0 0), some (vI x1), some (vI x2), some (vI x3), some (vI x4), some (vI (1 : Int32)), some (vI (x6 + (1 : Int32)))], [], (pm_wi σ101 10 0 9 (x6).toNatClampNeg r101)) else pq_Rn C (125, 86, [some (vR 10 0 0), some (vI x1), some (vI x2), some (vI x3), some (vI x4), some (vI (0 : Int32)), some (vI (x6 + (1 : Int32)))], [], (pm_wi σ101 10 0 9 (x6).toNatClampNeg r101))))) := by
  by_cases c1 : (σ.1 10 0 0 (x1).toNatClampNeg) ≤ x6
  · refine Eq.trans ?_ (if_pos c1).symm
    exact g125_86_0 C u1 c1
  · refine Eq.trans ?_ (if_neg c1).symm
    by_cases c2 : x5 = 0
    · refine Eq.trans ?_ (if_pos c2).symm
      exact g125_86_1 C u1 c1 (u2 c1) (u3 c1) c2
    · refine Eq.trans ?_ (if_neg c2).symm
      by_cases c3 : ((pm_wi σ101 10 0 9 (x6).toNatClampNeg r101).1 10 0 9 (x6).toNatClampNeg) = x6
      · refine Eq.trans ?_ (if_pos c3).symm
        exact g125_86_2 C u1 c1 (u2 c1) (u3 c1) c2 c3
      · refine Eq.trans ?_ (if_neg c3).symm
        exact g125_86_3 C u1 c1 (u2 c1) (u3 c1) c2 c3
theorem t126_0 (C : pmC) {σ : pmS} {x1 : Int32} {x2 : Int32} {x3 : Int32} {l4 : Option pmV} {l5 : Option pmV} {l6 : Option pmV} {l7 : Option pmV} {l8 : Option pmV} {l9 : Option pmV} {r101 : Int32} {σ101 : pmS} {r102 : Int32} {σ102 : pmS} (u1 : C 107 [vR 10 0 0, vI x1, vI x2] σ = some (some (vI r101), σ101)) (u2 : (¬ r101 = 0) → C 105 [vL (x3).toInt64, vL (1 : Int64), vL (4 : Int64)] σ101 = some (some (vI r102), σ102)) : pq_Rn C (126, 0, [some (vR 10 0 0), some (vI x1), some (vI x2), some (vI x3), l4, l5, l6, l7, l8, l9], [], σ) = (if r101 = 0 then some (some (vI (-1 : Int32)), σ101) else (if r102 = 0 then some (some (vI (-2 : Int32)), σ102) else pq_Rn C (126, 32, [some (vR 10 0 0), some (vI x1), some (vI x2), some (vI x3), some (vI (1 : Int32)), some (vI (0 : Int32)), l6, l7, l8, l9], [], σ102))) := by
  by_cases c1 : r101 = 0
  · refine Eq.trans ?_ (if_pos c1).symm
    exact g126_0_0 C u1 c1
  · refine Eq.trans ?_ (if_neg c1).symm
    by_cases c2 : r102 = 0
    · refine Eq.trans ?_ (if_pos c2).symm
      exact g126_0_1 C u1 c1 (u2 c1) c2
    · refine Eq.trans ?_ (if_neg c2).symm
      exact g126_0_2 C u1 c1 (u2 c1) c2
theorem t126_32 (C : pmC) {σ : pmS} {x1 : Int32} {x2 : Int32} {x3 : Int32} {x4 : Int32} {x5 : Int32} {l6 : Option pmV} {l7 : Option pmV} {l8 : Option pmV} {l9 : Option pmV}  : pq_Rn C (126, 32, [some (vR 10 0 0), some (vI x1), some (vI x2), some (vI x3), some (vI x4), some (vI x5), l6, l7, l8, l9], [], σ) = (if x3 ≤ x5 then pq_Rn C (126, 56, [some (vR 10 0 0), some (vI x1), some (vI x2), some (vI x3), some (vI x4), some (vI (0 : Int32)), some (vI (0 : Int32)), l7, l8, l9], [], σ) else pq_Rn C (126, 32, [some (vR 10 0 0), some (vI x1), some (vI x2), some (vI x3), some (vI (x4 * (5 : Int32))), some (vI (x5 + (1 : Int32))), l6, l7, l8, l9], [], σ)) := by
  by_cases c1 : x3 ≤ x5
  · refine Eq.trans ?_ (if_pos c1).symm
    exact g126_32_0 C c1
  · refine Eq.trans ?_ (if_neg c1).symm
    exact g126_32_1 C c1
theorem t126_56 (C : pmC) {σ : pmS} {x1 : Int32} {x2 : Int32} {x3 : Int32} {x4 : Int32} {x5 : Int32} {x6 : Int32} {l7 : Option pmV} {l8 : Option pmV} {l9 : Option pmV}  : pq_Rn C (126, 56, [some (vR 10 0 0), some (vI x1), some (vI x2), some (vI x3), some (vI x4), some (vI x5), some (vI x6), l7, l8, l9], [], σ) = (if x4 ≤ x6 then some (some (vI x5), σ) else pq_Rn C (126, 73, [some (vR 10 0 0), some (vI x1), some (vI x2), some (vI x3), some (vI x4), some (vI x5), some (vI x6), some (vI (0 : Int32)), some (vI x6), some (vI (0 : Int32))], [], σ)) := by
  by_cases c1 : x4 ≤ x6
  · refine Eq.trans ?_ (if_pos c1).symm
    exact g126_56_0 C c1
  · refine Eq.trans ?_ (if_neg c1).symm
    exact g126_56_1 C c1
theorem t126_73 (C : pmC) {σ : pmS} {x1 : Int32} {x2 : Int32} {x3 : Int32} {x4 : Int32} {x5 : Int32} {x6 : Int32} {x7 : Int32} {x8 : Int32} {x9 : Int32} {r101 : Int32} {σ101 : pmS} {r102 : Int32} {σ102 : pmS} (u1 : (x3 ≤ x9) → C 122 [vR 10 0 0, vI (0 : Int32), vI x7] σ = some (some (vI r101), σ101)) (u2 : (x3 ≤ x9) → (r101 = (1 : Int32)) → C 121 [vR 10 0 0, vI x1, vI x2, vI (0 : Int32), vI x7] σ101 = some (some (vI r102), σ102)) (u3 : (x3 ≤ x9) → (r101 = (1 : Int32)) → vp_in (((8 : Int32) * x1) + x2) 32) : pq_Rn C (126, 73, [some (vR 10 0 0), some (vI x1), some (vI x2), some (vI x3), some (vI x4), some (vI x5), some (vI x6), some (vI x7), some (vI x8), some (vI x9)], [], σ) = (if x3 ≤ x9 then (if r101 = (1 : Int32) then (if r102 = (σ102.1 10 0 1 ((((8 : Int32) * x1) + x2)).toNatClampNeg) then pq_Rn C (126, 56, [some (vR 10 0 0), some (vI x1), some (vI x2), some (vI x3), some (vI x4), some (vI (x5 + (1 : Int32))), some (vI (x6 + (1 : Int32))), some (vI x7), some (vI x8), some (vI x9)], [], σ102) else pq_Rn C (126, 56, [some (vR 10 0 0), some (vI x1), some (vI x2), some (vI x3), some (vI x4), some (vI (x5 + (0 : Int32))), some (vI (x6 + (1 : Int32))), some (vI x7), some (vI x8), some (vI x9)], [], σ102)) else pq_Rn C (126, 56, [some (vR 10 0 0), some (vI x1), some (vI x2), some (vI x3), some (vI x4), some (vI (x5 + (0 : Int32))), some (vI (x6 + (1 : Int32))), some (vI x7), some (vI x8), some (vI x9)], [], σ101)) else pq_Rn C (126, 73, [some (vR 10 0 0), some (vI x1), some (vI x2), some (vI x3), some (vI x4), some (vI x5), some (vI x6), some (vI ((((8 : Int32) * x7) + (1 : Int32)) + (x8 - x8 / (5 : Int32) * (5 : Int32)))), some (vI (x8 / (5 : Int32))), some (vI (x9 + (1 : Int32)))], [], σ)) := by
  by_cases c1 : x3 ≤ x9
  · refine Eq.trans ?_ (if_pos c1).symm
    by_cases c2 : r101 = (1 : Int32)
    · refine Eq.trans ?_ (if_pos c2).symm
      by_cases c3 : r102 = (σ102.1 10 0 1 ((((8 : Int32) * x1) + x2)).toNatClampNeg)
      · refine Eq.trans ?_ (if_pos c3).symm
        exact g126_73_0 C c1 (u1 c1) c2 (u2 c1 c2) (u3 c1 c2) c3
      · refine Eq.trans ?_ (if_neg c3).symm
        exact g126_73_1 C c1 (u1 c1) c2 (u2 c1 c2) (u3 c1 c2) c3
    · refine Eq.trans ?_ (if_neg c2).symm
      exact g126_73_2 C c1 (u1 c1) c2
  · refine Eq.trans ?_ (if_neg c1).symm
    exact g126_73_3 C c1
theorem t127a_0 (C : pmC) {σ : pmS} {x1 : Int32} {x2 : Int32} {l4 : Option pmV} {l5 : Option pmV}  : pq_Rn C (127, 0, [some (vR 10 0 0), some (vI x1), some (vI x2), some (vR 10 0 2), l4, l5], [], σ) = pq_Rn C (127, 6, [some (vR 10 0 0), some (vI x1), some (vI x2), some (vR 10 0 2), some (vI (0 : Int32)), some (vI (0 : Int32))], [], σ) := by
  exact g127a_0_0 C 
theorem t127a_6 (C : pmC) {σ : pmS} {x1 : Int32} {x2 : Int32} {x4 : Int32} {x5 : Int32} (u1 : vp_in x1 4) (u2 : (¬ (σ.1 10 0 0 (x1).toNatClampNeg) ≤ x5) → vp_in (((8 : Int32) * x1) + ((x2 >>> (((3 : Int32) * x5) &&& 31)) &&& (7 : Int32))) 32) : pq_Rn C (127, 6, [some (vR 10 0 0), some (vI x1), some (vI x2), some (vR 10 0 2), some (vI x4), some (vI x5)], [], σ) = (if (σ.1 10 0 0 (x1).toNatClampNeg) ≤ x5 then some (some (vI x4), σ) else pq_Rn C (127, 6, [some (vR 10 0 0), some (vI x1), some (vI x2), some (vR 10 0 2), some (vI (x4 ||| ((σ.1 10 0 1 ((((8 : Int32) * x1) + ((x2 >>> (((3 : Int32) * x5) &&& 31)) &&& (7 : Int32)))).toNatClampNeg) <<< (((3 : Int32) * x5) &&& 31)))), some (vI (x5 + (1 : Int32)))], [], σ)) := by
  by_cases c1 : (σ.1 10 0 0 (x1).toNatClampNeg) ≤ x5
  · refine Eq.trans ?_ (if_pos c1).symm
    exact g127a_6_0 C u1 c1
  · refine Eq.trans ?_ (if_neg c1).symm
    exact g127a_6_1 C u1 c1 (u2 c1)
theorem t127b_0 (C : pmC) {σ : pmS} {x1 : Int32} {x2 : Int32} {l4 : Option pmV} {l5 : Option pmV}  : pq_Rn C (127, 0, [some (vR 10 0 0), some (vI x1), some (vI x2), some (vR 10 0 3), l4, l5], [], σ) = pq_Rn C (127, 6, [some (vR 10 0 0), some (vI x1), some (vI x2), some (vR 10 0 3), some (vI (0 : Int32)), some (vI (0 : Int32))], [], σ) := by
  exact g127b_0_0 C 
theorem t127b_6 (C : pmC) {σ : pmS} {x1 : Int32} {x2 : Int32} {x4 : Int32} {x5 : Int32} (u1 : vp_in x1 4) (u2 : (¬ (σ.1 10 0 0 (x1).toNatClampNeg) ≤ x5) → vp_in (((8 : Int32) * x1) + ((x2 >>> (((3 : Int32) * x5) &&& 31)) &&& (7 : Int32))) 32) : pq_Rn C (127, 6, [some (vR 10 0 0), some (vI x1), some (vI x2), some (vR 10 0 3), some (vI x4), some (vI x5)], [], σ) = (if (σ.1 10 0 0 (x1).toNatClampNeg) ≤ x5 then some (some (vI x4), σ) else pq_Rn C (127, 6, [some (vR 10 0 0), some (vI x1), some (vI x2), some (vR 10 0 3), some (vI (x4 ||| ((σ.1 10 0 2 ((((8 : Int32) * x1) + ((x2 >>> (((3 : Int32) * x5) &&& 31)) &&& (7 : Int32)))).toNatClampNeg) <<< (((3 : Int32) * x5) &&& 31)))), some (vI (x5 + (1 : Int32)))], [], σ)) := by
  by_cases c1 : (σ.1 10 0 0 (x1).toNatClampNeg) ≤ x5
  · refine Eq.trans ?_ (if_pos c1).symm
    exact g127b_6_0 C u1 c1
  · refine Eq.trans ?_ (if_neg c1).symm
    exact g127b_6_1 C u1 c1 (u2 c1)
theorem t127c_0 (C : pmC) {σ : pmS} {x1 : Int32} {x2 : Int32} {l4 : Option pmV} {l5 : Option pmV}  : pq_Rn C (127, 0, [some (vR 10 0 0), some (vI x1), some (vI x2), some (vR 10 0 4), l4, l5], [], σ) = pq_Rn C (127, 6, [some (vR 10 0 0), some (vI x1), some (vI x2), some (vR 10 0 4), some (vI (0 : Int32)), some (vI (0 : Int32))], [], σ) := by
  exact g127c_0_0 C 
theorem t127c_6 (C : pmC) {σ : pmS} {x1 : Int32} {x2 : Int32} {x4 : Int32} {x5 : Int32} (u1 : vp_in x1 4) (u2 : (¬ (σ.1 10 0 0 (x1).toNatClampNeg) ≤ x5) → vp_in (((8 : Int32) * x1) + ((x2 >>> (((3 : Int32) * x5) &&& 31)) &&& (7 : Int32))) 32) : pq_Rn C (127, 6, [some (vR 10 0 0), some (vI x1), some (vI x2), some (vR 10 0 4), some (vI x4), some (vI x5)], [], σ) = (if (σ.1 10 0 0 (x1).toNatClampNeg) ≤ x5 then some (some (vI x4), σ) else pq_Rn C (127, 6, [some (vR 10 0 0), some (vI x1), some (vI x2), some (vR 10 0 4), some (vI (x4 ||| ((σ.1 10 0 3 ((((8 : Int32) * x1) + ((x2 >>> (((3 : Int32) * x5) &&& 31)) &&& (7 : Int32)))).toNatClampNeg) <<< (((3 : Int32) * x5) &&& 31)))), some (vI (x5 + (1 : Int32)))], [], σ)) := by
  by_cases c1 : (σ.1 10 0 0 (x1).toNatClampNeg) ≤ x5
  · refine Eq.trans ?_ (if_pos c1).symm
    exact g127c_6_0 C u1 c1
  · refine Eq.trans ?_ (if_neg c1).symm
    exact g127c_6_1 C u1 c1 (u2 c1)
theorem t128_0 (C : pmC) {σ : pmS} {x1 : Int32} {x2 : Int32} {l3 : Option pmV}  : pq_Rn C (128, 0, [some (vR 10 0 0), some (vI x1), some (vI x2), l3], [], σ) = pq_Rn C (128, 2, [some (vR 10 0 0), some (vI x1), some (vI x2), some (vI (0 : Int32))], [], σ) := by
  exact g128_0_0 C 
theorem t128_2 (C : pmC) {σ : pmS} {x1 : Int32} {x2 : Int32} {x3 : Int32} (u1 : (¬ x2 ≤ x3) → vp_in x3 1000) : pq_Rn C (128, 2, [some (vR 10 0 0), some (vI x1), some (vI x2), some (vI x3)], [], σ) = (if x2 ≤ x3 then some (some (vI (1 : Int32)), σ) else (if (σ.1 10 0 10 (x3).toNatClampNeg) = x1 then some (some (vI (0 : Int32)), σ) else pq_Rn C (128, 2, [some (vR 10 0 0), some (vI x1), some (vI x2), some (vI (x3 + (1 : Int32)))], [], σ))) := by
  by_cases c1 : x2 ≤ x3
  · refine Eq.trans ?_ (if_pos c1).symm
    exact g128_2_0 C c1
  · refine Eq.trans ?_ (if_neg c1).symm
    by_cases c2 : (σ.1 10 0 10 (x3).toNatClampNeg) = x1
    · refine Eq.trans ?_ (if_pos c2).symm
      exact g128_2_1 C c1 (u1 c1) c2
    · refine Eq.trans ?_ (if_neg c2).symm
      exact g128_2_2 C c1 (u1 c1) c2
theorem t129_0 (C : pmC) {σ : pmS} {x1 : Int32} {l2 : Option pmV} {l3 : Option pmV} {l4 : Option pmV} {l5 : Option pmV} {r101 : Int32} {σ101 : pmS} (u1 : C 106 [vR 10 0 0, vI x1] σ = some (some (vI r101), σ101)) : pq_Rn C (129, 0, [some (vR 10 0 0), some (vI x1), l2, l3, l4, l5], [], σ) = (if r101 = 0 then some (some (vI (-1 : Int32)), σ101) else pq_Rn C (129, 21, [some (vR 10 0 0), some (vI x1), some (vI (1 : Int32)), some (vI (0 : Int32)), l4, l5], [], (pm_wi σ101 10 0 10 ((0 : Int32)).toNatClampNeg (0 : Int32)))) := by
  by_cases c1 : r101 = 0
  · refine Eq.trans ?_ (if_pos c1).symm
    exact g129_0_0 C u1 c1
  · refine Eq.trans ?_ (if_neg c1).symm
    exact g129_0_1 C u1 c1
theorem t129_21 (C : pmC) {σ : pmS} {x1 : Int32} {x2 : Int32} {x3 : Int32} {l4 : Option pmV} {l5 : Option pmV} (u1 : vp_in x1 4) : pq_Rn C (129, 21, [some (vR 10 0 0), some (vI x1), some (vI x2), some (vI x3), l4, l5], [], σ) = (if (σ.1 10 0 0 (x1).toNatClampNeg) ≤ x3 then pq_Rn C (129, 53, [some (vR 10 0 0), some (vI x1), some (vI x2), some (vI (0 : Int32)), l4, l5], [], σ) else pq_Rn C (129, 21, [some (vR 10 0 0), some (vI x1), some (vI x2), some (vI (x3 + (1 : Int32))), l4, l5], [], (pm_wi σ 10 0 10 ((0 : Int32)).toNatClampNeg ((σ.1 10 0 10 ((0 : Int32)).toNatClampNeg) ||| (x3 <<< (((3 : Int32) * x3) &&& 31)))))) := by
  by_cases c1 : (σ.1 10 0 0 (x1).toNatClampNeg) ≤ x3
  · refine Eq.trans ?_ (if_pos c1).symm
    exact g129_21_0 C u1 c1
  · refine Eq.trans ?_ (if_neg c1).symm
    exact g129_21_1 C u1 c1
theorem t129_53 (C : pmC) {σ : pmS} {x1 : Int32} {x2 : Int32} {x3 : Int32} {l4 : Option pmV} {l5 : Option pmV}  : pq_Rn C (129, 53, [some (vR 10 0 0), some (vI x1), some (vI x2), some (vI x3), l4, l5], [], σ) = (if x2 ≤ x3 then some (some (vI x2), σ) else pq_Rn C (129, 61, [some (vR 10 0 0), some (vI x1), some (vI x2), some (vI x3), some (vI (0 : Int32)), l5], [], σ)) := by
  by_cases c1 : x2 ≤ x3
  · refine Eq.trans ?_ (if_pos c1).symm
    exact g129_53_0 C c1
  · refine Eq.trans ?_ (if_neg c1).symm
    exact g129_53_1 C c1
theorem t129_61 (C : pmC) {σ : pmS} {x1 : Int32} {x2 : Int32} {x3 : Int32} {x4 : Int32} {l5 : Option pmV} {r101 : Int32} {σ101 : pmS} {r102 : Int32} {σ102 : pmS} {r103 : Int32} {σ103 : pmS} {r104 : Int32} {σ104 : pmS} {r105 : Int32} {σ105 : pmS} {r106 : Int32} {σ106 : pmS} (u1 : (¬ (3 : Int32) ≤ x4) → (¬ (1000 : Int32) ≤ x2) → vp_in x3 1000) (u2 : (¬ (3 : Int32) ≤ x4) → (¬ (1000 : Int32) ≤ x2) → (x4 = 0) → C 127 [vR 10 0 0, vI x1, vI (σ.1 10 0 10 (x3).toNatClampNeg), vR 10 0 2] σ = some (some (vI r101), σ101)) (u3 : (¬ (3 : Int32) ≤ x4) → (¬ (1000 : Int32) ≤ x2) → (x4 = 0) → C 128 [vR 10 0 0, vI r101, vI x2] σ101 = some (some (vI r102), σ102)) (u4 : (¬ (3 : Int32) ≤ x4) → (¬ (1000 : Int32) ≤ x2) → (x4 = 0) → (¬ r102 = 0) → vp_in x2 1000) (u5 : (¬ (3 : Int32) ≤ x4) → (¬ (1000 : Int32) ≤ x2) → (¬ x4 = 0) → (x4 = (1 : Int32)) → C 127 [vR 10 0 0, vI x1, vI (σ.1 10 0 10 (x3).toNatClampNeg), vR 10 0 3] σ = some (some (vI r103), σ103)) (u6 : (¬ (3 : Int32) ≤ x4) → (¬ (1000 : Int32) ≤ x2) → (¬ x4 = 0) → (x4 = (1 : Int32)) → C 128 [vR 10 0 0, vI r103, vI x2] σ103 = some (some (vI r104), σ104)) (u7 : (¬ (3 : Int32) ≤ x4) → (¬ (1000 : Int32) ≤ x2) → (¬ x4 = 0) → (x4 = (1 : Int32)) → (¬ r104 = 0) → vp_in x2 1000) (u8 : (¬ (3 : Int32) ≤ x4) → (¬ (1000 : Int32) ≤ x2) → (¬ x4 = 0) → (¬ x4 = (1 : Int32)) → C 127 [vR 10 0 0, vI x1, vI (σ.1 10 0 10 (x3).toNatClampNeg), vR 10 0 4] σ = some (some (vI r105), σ105)) (u9 : (¬ (3 : Int32) ≤ x4) → (¬ (1000 : Int32) ≤ x2) → (¬ x4 = 0) → (¬ x4 = (1 : Int32)) → C 128 [vR 10 0 0, vI r105, vI x2] σ105 = some (some (vI r106), σ106)) (u10 : (¬ (3 : Int32) ≤ x4) → (¬ (1000 : Int32) ≤ x2) → (¬ x4 = 0) → (¬ x4 = (1 : Int32)) → (¬ r106 = 0) → vp_in x2 1000) : pq_Rn C (129, 61, [some (vR 10 0 0), some (vI x1), some (vI x2), some (vI x3), some (vI x4), l5], [], σ) = (if (3 : Int32) ≤ x4 then pq_Rn C (129, 53, [some (vR 10 0 0), some (vI x1), some (vI x2), some (vI (x3 + (1 : Int32))), some (vI x4), l5], [], σ) else (if (1000 : Int32) ≤ x2 then pq_Rn C (129, 53, [some (vR 10 0 0), some (vI x1), some (vI x2), some (vI (x3 + (1 : Int32))), some (vI x4), l5], [], σ) else (if x4 = 0 then (if r102 = 0 then pq_Rn C (129, 61, [some (vR 10 0 0), some (vI x1), some (vI x2), some (vI x3), some (vI (x4 + (1 : Int32))), some (vI r101)], [], σ102) else pq_Rn C (129, 61, [some (vR 10 0 0), some (vI x1), some (vI (x2 + (1 : Int32))), some (vI x3), some (vI (x4 + (1 : Int32))), some (vI r101)], [], (pm_wi σ102 10 0 10 (x2).toNatClampNeg r101))) else (if x4 = (1 : Int32) then (if r104 = 0 then pq_Rn C (129, 61, [some (vR 10 0 0), some (vI x1), some (vI x2), some (vI x3), some (vI (x4 + (1 : Int32))), some (vI r103)], [], σ104) else pq_Rn C (129, 61, [some (vR 10 0 0), some (vI x1), some (vI (x2 + (1 : Int32))), some (vI x3), some (vI (x4 + (1 : Int32))), some (vI r103)], [], (pm_wi σ104 10 0 10 (x2).toNatClampNeg r103))) else (if r106 = 0 then pq_Rn C (129, 61, [some (vR 10 0 0), some (vI x1), some (vI x2), some (vI x3), some (vI (x4 + (1 : Int32))), some (vI r105)], [], σ106) else pq_Rn C (129, 61, [some (vR 10 0 0), some (vI x1), some (vI (x2 + (1 : Int32))), some (vI x3), some (vI (x4 + (1 : Int32))), some (vI r105)], [], (pm_wi σ106 10 0 10 (x2).toNatClampNeg r105))))))) := by
  by_cases c1 : (3 : Int32) ≤ x4
  · refine Eq.trans ?_ (if_pos c1).symm
    exact g129_61_0 C c1
  · refine Eq.trans ?_ (if_neg c1).symm
    by_cases c2 : (1000 : Int32) ≤ x2
    · refine Eq.trans ?_ (if_pos c2).symm
      exact g129_61_1 C c1 c2
    · refine Eq.trans ?_ (if_neg c2).symm
      by_cases c3 : x4 = 0
      · refine Eq.trans ?_ (if_pos c3).symm
        by_cases c4 : r102 = 0
        · refine Eq.trans ?_ (if_pos c4).symm
          exact g129_61_2 C c1 c2 (u1 c1 c2) c3 (u2 c1 c2 c3) (u3 c1 c2 c3) c4
        · refine Eq.trans ?_ (if_neg c4).symm
          exact g129_61_3 C c1 c2 (u1 c1 c2) c3 (u2 c1 c2 c3) (u3 c1 c2 c3) c4 (u4 c1 c2 c3 c4)
      · refine Eq.trans ?_ (if_neg c3).symm
        by_cases c5 : x4 = (1 : Int32)
        · refine Eq.trans ?_ (if_pos c5).symm
          by_cases c6 : r104 = 0
          · refine Eq.trans ?_ (if_pos c6).symm
            exact g129_61_4 C c1 c2 (u1 c1 c2) c3 c5 (u5 c1 c2 c3 c5) (u6 c1 c2 c3 c5) c6
          · refine Eq.trans ?_ (if_neg c6).symm
            exact g129_61_5 C c1 c2 (u1 c1 c2) c3 c5 (u5 c1 c2 c3 c5) (u6 c1 c2 c3 c5) c6 (u7 c1 c2 c3 c5 c6)
        · refine Eq.trans ?_ (if_neg c5).symm
          by_cases c7 : r106 = 0
          · refine Eq.trans ?_ (if_pos c7).symm
            exact g129_61_6 C c1 c2 (u1 c1 c2) c3 c5 (u8 c1 c2 c3 c5) (u9 c1 c2 c3 c5) c7
          · refine Eq.trans ?_ (if_neg c7).symm
            exact g129_61_7 C c1 c2 (u1 c1 c2) c3 c5 (u8 c1 c2 c3 c5) (u9 c1 c2 c3 c5) c7 (u10 c1 c2 c3 c5 c7)
theorem t130_0 (C : pmC) {σ : pmS} {x1 : Int32} {x2 : Int32} {l3 : Option pmV} {l4 : Option pmV} {l5 : Option pmV}  : pq_Rn C (130, 0, [some (vR 10 0 0), some (vI x1), some (vI x2), l3, l4, l5], [], σ) = pq_Rn C (130, 6, [some (vR 10 0 0), some (vI x1), some (vI x2), some (vI (7 : Int32)), some (vI (0 : Int32)), l5], [], σ) := by
  exact g130_0_0 C 
theorem t130_6 (C : pmC) {σ : pmS} {x1 : Int32} {x2 : Int32} {x3 : Int32} {x4 : Int32} {l5 : Option pmV} (u1 : vp_in x1 4) (u2 : (¬ (σ.1 10 0 0 (x1).toNatClampNeg) ≤ x4) → vp_in (((8 : Int32) * x1) + x4) 32) : pq_Rn C (130, 6, [some (vR 10 0 0), some (vI x1), some (vI x2), some (vI x3), some (vI x4), l5], [], σ) = (if (σ.1 10 0 0 (x1).toNatClampNeg) ≤ x4 then some (some (vI x3), σ) else (if ((x2 >>> ((σ.1 10 0 1 ((((8 : Int32) * x1) + x4)).toNatClampNeg) &&& 31)) &&& (1 : Int32)) = ((x2 >>> (x4 &&& 31)) &&& (1 : Int32)) then (if ((x2 >>> ((σ.1 10 0 2 ((((8 : Int32) * x1) + x4)).toNatClampNeg) &&& 31)) &&& (1 : Int32)) = ((x2 >>> (x4 &&& 31)) &&& (1 : Int32)) then (if ((x2 >>> ((σ.1 10 0 3 ((((8 : Int32) * x1) + x4)).toNatClampNeg) &&& 31)) &&& (1 : Int32)) = ((x2 >>> (x4 &&& 31)) &&& (1 : Int32)) then pq_Rn C (130, 6, [some (vR 10 0 0), some (vI x1), some (vI x2), some (vI (x3 &&& (6 : Int32))), some (vI (x4 + (1 : Int32))), some (vI ((x2 >>> (x4 &&& 31)) &&& (1 : Int32)))], [], σ) else pq_Rn C (130, 6, [some (vR 10 0 0), some (vI x1), some (vI x2), some (vI ((x3 &&& (6 : Int32)) &&& (3 : Int32))), some (vI (x4 + (1 : Int32))), some (vI ((x2 >>> (x4 &&& 31)) &&& (1 : Int32)))], [], σ)) else (if ((x2 >>> ((σ.1 10 0 3 ((((8 : Int32) * x1) + x4)).toNatClampNeg) &&& 31)) &&& (1 : Int32)) = ((x2 >>> (x4 &&& 31)) &&& (1 : Int32)) then pq_Rn C (130, 6, [some (vR 10 0 0), some (vI x1), some (vI x2), some (vI ((x3 &&& (6 : Int32)) &&& (5 : Int32))), some (vI (x4 + (1 : Int32))), some (vI ((x2 >>> (x4 &&& 31)) &&& (1 : Int32)))], [], σ) else pq_Rn C (130, 6, [some (vR 10 0 0), some (vI x1), some (vI x2), some (vI (((x3 &&& (6 : Int32)) &&& (5 : Int32)) &&& (3 : Int32))), some (vI (x4 + (1 : Int32))), some (vI ((x2 >>> (x4 &&& 31)) &&& (1 : Int32)))], [], σ))) else (if ((x2 >>> ((σ.1 10 0 2 ((((8 : Int32) * x1) + x4)).toNatClampNeg) &&& 31)) &&& (1 : Int32)) = ((x2 >>> (x4 &&& 31)) &&& (1 : Int32)) then (if ((x2 >>> ((σ.1 10 0 3 ((((8 : Int32) * x1) + x4)).toNatClampNeg) &&& 31)) &&& (1 : Int32)) = ((x2 >>> (x4 &&& 31)) &&& (1 : Int32)) then pq_Rn C (130, 6, [some (vR 10 0 0), some (vI x1), some (vI x2), some (vI x3), some (vI (x4 + (1 : Int32))), some (vI ((x2 >>> (x4 &&& 31)) &&& (1 : Int32)))], [], σ) else pq_Rn C (130, 6, [some (vR 10 0 0), some (vI x1), some (vI x2), some (vI (x3 &&& (3 : Int32))), some (vI (x4 + (1 : Int32))), some (vI ((x2 >>> (x4 &&& 31)) &&& (1 : Int32)))], [], σ)) else (if ((x2 >>> ((σ.1 10 0 3 ((((8 : Int32) * x1) + x4)).toNatClampNeg) &&& 31)) &&& (1 : Int32)) = ((x2 >>> (x4 &&& 31)) &&& (1 : Int32)) then pq_Rn C (130, 6, [some (vR 10 0 0), some (vI x1), some (vI x2), some (vI (x3 &&& (5 : Int32))), some (vI (x4 + (1 : Int32))), some (vI ((x2 >>> (x4 &&& 31)) &&& (1 : Int32)))], [], σ) else pq_Rn C (130, 6, [some (vR 10 0 0), some (vI x1), some (vI x2), some (vI ((x3 &&& (5 : Int32)) &&& (3 : Int32))), some (vI (x4 + (1 : Int32))), some (vI ((x2 >>> (x4 &&& 31)) &&& (1 : Int32)))], [], σ))))) := by
  by_cases c1 : (σ.1 10 0 0 (x1).toNatClampNeg) ≤ x4
  · refine Eq.trans ?_ (if_pos c1).symm
    exact g130_6_0 C u1 c1
  · refine Eq.trans ?_ (if_neg c1).symm
    by_cases c2 : ((x2 >>> ((σ.1 10 0 1 ((((8 : Int32) * x1) + x4)).toNatClampNeg) &&& 31)) &&& (1 : Int32)) = ((x2 >>> (x4 &&& 31)) &&& (1 : Int32))
    · refine Eq.trans ?_ (if_pos c2).symm
      by_cases c3 : ((x2 >>> ((σ.1 10 0 2 ((((8 : Int32) * x1) + x4)).toNatClampNeg) &&& 31)) &&& (1 : Int32)) = ((x2 >>> (x4 &&& 31)) &&& (1 : Int32))
      · refine Eq.trans ?_ (if_pos c3).symm
        by_cases c4 : ((x2 >>> ((σ.1 10 0 3 ((((8 : Int32) * x1) + x4)).toNatClampNeg) &&& 31)) &&& (1 : Int32)) = ((x2 >>> (x4 &&& 31)) &&& (1 : Int32))
        · refine Eq.trans ?_ (if_pos c4).symm
          exact g130_6_1 C u1 c1 (u2 c1) c2 c3 c4
        · refine Eq.trans ?_ (if_neg c4).symm
          exact g130_6_2 C u1 c1 (u2 c1) c2 c3 c4
      · refine Eq.trans ?_ (if_neg c3).symm
        by_cases c5 : ((x2 >>> ((σ.1 10 0 3 ((((8 : Int32) * x1) + x4)).toNatClampNeg) &&& 31)) &&& (1 : Int32)) = ((x2 >>> (x4 &&& 31)) &&& (1 : Int32))
        · refine Eq.trans ?_ (if_pos c5).symm
          exact g130_6_3 C u1 c1 (u2 c1) c2 c3 c5
        · refine Eq.trans ?_ (if_neg c5).symm
          exact g130_6_4 C u1 c1 (u2 c1) c2 c3 c5
    · refine Eq.trans ?_ (if_neg c2).symm
      by_cases c6 : ((x2 >>> ((σ.1 10 0 2 ((((8 : Int32) * x1) + x4)).toNatClampNeg) &&& 31)) &&& (1 : Int32)) = ((x2 >>> (x4 &&& 31)) &&& (1 : Int32))
      · refine Eq.trans ?_ (if_pos c6).symm
        by_cases c7 : ((x2 >>> ((σ.1 10 0 3 ((((8 : Int32) * x1) + x4)).toNatClampNeg) &&& 31)) &&& (1 : Int32)) = ((x2 >>> (x4 &&& 31)) &&& (1 : Int32))
        · refine Eq.trans ?_ (if_pos c7).symm
          exact g130_6_5 C u1 c1 (u2 c1) c2 c6 c7
        · refine Eq.trans ?_ (if_neg c7).symm
          exact g130_6_6 C u1 c1 (u2 c1) c2 c6 c7
      · refine Eq.trans ?_ (if_neg c6).symm
        by_cases c8 : ((x2 >>> ((σ.1 10 0 3 ((((8 : Int32) * x1) + x4)).toNatClampNeg) &&& 31)) &&& (1 : Int32)) = ((x2 >>> (x4 &&& 31)) &&& (1 : Int32))
        · refine Eq.trans ?_ (if_pos c8).symm
          exact g130_6_7 C u1 c1 (u2 c1) c2 c6 c8
        · refine Eq.trans ?_ (if_neg c8).symm
          exact g130_6_8 C u1 c1 (u2 c1) c2 c6 c8
theorem t131_0 (C : pmC) {σ : pmS} {x1 : Int32} {x2 : Int32} {r101 : Int32} {σ101 : pmS} {r102 : Int32} {σ102 : pmS} {r103 : Int32} {σ103 : pmS} (u1 : C 106 [vR 10 0 0, vI x1] σ = some (some (vI r101), σ101)) (u2 : (¬ r101 = 0) → vp_in x1 4) (u3 : (¬ r101 = 0) → C 105 [vL (x2).toInt64, vL (1 : Int64), vL ((((1 : Int32) <<< ((σ101.1 10 0 0 (x1).toNatClampNeg) &&& 31)) - (2 : Int32))).toInt64] σ101 = some (some (vI r102), σ102)) (u4 : (¬ r101 = 0) → (¬ r102 = 0) → C 130 [vR 10 0 0, vI x1, vI x2] σ102 = some (some (vI r103), σ103)) : pq_Rn C (131, 0, [some (vR 10 0 0), some (vI x1), some (vI x2)], [], σ) = (if r101 = 0 then some (some (vI (-1 : Int32)), σ101) else (if r102 = 0 then some (some (vI (-2 : Int32)), σ102) else some (some (vI r103), σ103))) := by
  by_cases c1 : r101 = 0
  · refine Eq.trans ?_ (if_pos c1).symm
    exact g131_0_0 C u1 c1
  · refine Eq.trans ?_ (if_neg c1).symm
    by_cases c2 : r102 = 0
    · refine Eq.trans ?_ (if_pos c2).symm
      exact g131_0_1 C u1 c1 (u2 c1) (u3 c1) c2
    · refine Eq.trans ?_ (if_neg c2).symm
      exact g131_0_2 C u1 c1 (u2 c1) (u3 c1) c2 (u4 c1 c2)
theorem t132_0 (C : pmC) {σ : pmS} {x1 : Int32} {x2 : Int32} {l3 : Option pmV} {l4 : Option pmV} {r101 : Int32} {σ101 : pmS} {r102 : Int32} {σ102 : pmS} (u1 : C 106 [vR 10 0 0, vI x1] σ = some (some (vI r101), σ101)) (u2 : (¬ r101 = 0) → C 105 [vL (x2).toInt64, vL (0 : Int64), vL (7 : Int64)] σ101 = some (some (vI r102), σ102)) : pq_Rn C (132, 0, [some (vR 10 0 0), some (vI x1), some (vI x2), l3, l4], [], σ) = (if r101 = 0 then some (some (vI (-1 : Int32)), σ101) else (if r102 = 0 then some (some (vI (-2 : Int32)), σ102) else pq_Rn C (132, 30, [some (vR 10 0 0), some (vI x1), some (vI x2), some (vI (0 : Int32)), some (vI (1 : Int32))], [], σ102))) := by
  by_cases c1 : r101 = 0
  · refine Eq.trans ?_ (if_pos c1).symm
    exact g132_0_0 C u1 c1
  · refine Eq.trans ?_ (if_neg c1).symm
    by_cases c2 : r102 = 0
    · refine Eq.trans ?_ (if_pos c2).symm
      exact g132_0_1 C u1 c1 (u2 c1) c2
    · refine Eq.trans ?_ (if_neg c2).symm
      exact g132_0_2 C u1 c1 (u2 c1) c2
theorem t132_30 (C : pmC) {σ : pmS} {x1 : Int32} {x2 : Int32} {x3 : Int32} {x4 : Int32} {r101 : Int32} {σ101 : pmS} (u1 : vp_in x1 4) (u2 : (¬ (((1 : Int32) <<< ((σ.1 10 0 0 (x1).toNatClampNeg) &&& 31)) - (1 : Int32)) ≤ x4) → C 130 [vR 10 0 0, vI x1, vI x4] σ = some (some (vI r101), σ101)) : pq_Rn C (132, 30, [some (vR 10 0 0), some (vI x1), some (vI x2), some (vI x3), some (vI x4)], [], σ) = (if (((1 : Int32) <<< ((σ.1 10 0 0 (x1).toNatClampNeg) &&& 31)) - (1 : Int32)) ≤ x4 then some (some (vI x3), σ) else (if (r101 &&& x2) = x2 then pq_Rn C (132, 30, [some (vR 10 0 0), some (vI x1), some (vI x2), some (vI (x3 + (1 : Int32))), some (vI (x4 + (2 : Int32)))], [], σ101) else pq_Rn C (132, 30, [some (vR 10 0 0), some (vI x1), some (vI x2), some (vI (x3 + (0 : Int32))), some (vI (x4 + (2 : Int32)))], [], σ101))) := by
  by_cases c1 : (((1 : Int32) <<< ((σ.1 10 0 0 (x1).toNatClampNeg) &&& 31)) - (1 : Int32)) ≤ x4
  · refine Eq.trans ?_ (if_pos c1).symm
    exact g132_30_0 C u1 c1
  · refine Eq.trans ?_ (if_neg c1).symm
    by_cases c2 : (r101 &&& x2) = x2
    · refine Eq.trans ?_ (if_pos c2).symm
      exact g132_30_1 C u1 c1 (u2 c1) c2
    · refine Eq.trans ?_ (if_neg c2).symm
      exact g132_30_2 C u1 c1 (u2 c1) c2
theorem t133_0 (C : pmC) {σ : pmS} {x1 : Int32}  : pq_Rn C (133, 0, [some (vR 10 0 0), some (vI x1)], [], σ) = (if x1 < 0 then some (some (vI (0 : Int32)), σ) else (if (σ.1 10 0 15 0) ≤ x1 then some (some (vI (0 : Int32)), σ) else some (some (vI (1 : Int32)), σ))) := by
  by_cases c1 : x1 < 0
  · refine Eq.trans ?_ (if_pos c1).symm
    exact g133_0_0 C c1
  · refine Eq.trans ?_ (if_neg c1).symm
    by_cases c2 : (σ.1 10 0 15 0) ≤ x1
    · refine Eq.trans ?_ (if_pos c2).symm
      exact g133_0_1 C c1 c2
    · refine Eq.trans ?_ (if_neg c2).symm
      exact g133_0_2 C c1 c2
theorem t134_0 (C : pmC) {σ : pmS} {x1 : Int32}  : pq_Rn C (134, 0, [some (vR 10 0 0), some (vI x1)], [], σ) = (if x1 < 0 then some (some (vI (0 : Int32)), σ) else (if (σ.1 10 0 16 0) ≤ x1 then some (some (vI (0 : Int32)), σ) else some (some (vI (1 : Int32)), σ))) := by
  by_cases c1 : x1 < 0
  · refine Eq.trans ?_ (if_pos c1).symm
    exact g134_0_0 C c1
  · refine Eq.trans ?_ (if_neg c1).symm
    by_cases c2 : (σ.1 10 0 16 0) ≤ x1
    · refine Eq.trans ?_ (if_pos c2).symm
      exact g134_0_1 C c1 c2
    · refine Eq.trans ?_ (if_neg c2).symm
      exact g134_0_2 C c1 c2
theorem t135_0 (C : pmC) {σ : pmS} {x1 : Int32} {x2 : Int32} {r101 : Int32} {σ101 : pmS} {r102 : Int32} {σ102 : pmS} (u1 : C 106 [vR 10 0 0, vI x1] σ = some (some (vI r101), σ101)) (u2 : (¬ r101 = 0) → C 105 [vL (x2).toInt64, vL (0 : Int64), vL (1 : Int64)] σ101 = some (some (vI r102), σ102)) (u3 : (¬ r101 = 0) → (¬ r102 = 0) → (¬ (σ102.1 10 0 15 0) = (3 : Int32)) → vp_in (σ102.1 10 0 15 0) 3) (u4 : (¬ r101 = 0) → (¬ r102 = 0) → (¬ (σ102.1 10 0 15 0) = (3 : Int32)) → vp_in ((5 : Int32) * (σ102.1 10 0 15 0)) 15) : pq_Rn C (135, 0, [some (vR 10 0 0), some (vI x1), some (vI x2)], [], σ) = (if r101 = 0 then some (some (vI (-1 : Int32)), σ101) else (if r102 = 0 then some (some (vI (-2 : Int32)), σ102) else (if (σ102.1 10 0 15 0) = (3 : Int32) then some (some (vI (-4 : Int32)), σ102) else some (some (vI (((σ102.1 10 0 15 0) + (1 : Int32)) - (1 : Int32))), (pm_wi (pm_wi (pm_wi (pm_wi (pm_wi σ102 10 0 11 ((σ102.1 10 0 15 0)).toNatClampNeg (1 : Int32)) 10 0 12 (((5 : Int32) * (σ102.1 10 0 15 0))).toNatClampNeg (0 : Int32)) 10 0 13 (((5 : Int32) * (σ102.1 10 0 15 0))).toNatClampNeg x1) 10 0 14 (((5 : Int32) * (σ102.1 10 0 15 0))).toNatClampNeg x2) 10 0 15 0 ((σ102.1 10 0 15 0) + (1 : Int32))))))) := by
  by_cases c1 : r101 = 0
  · refine Eq.trans ?_ (if_pos c1).symm
    exact g135_0_0 C u1 c1
  · refine Eq.trans ?_ (if_neg c1).symm
    by_cases c2 : r102 = 0
    · refine Eq.trans ?_ (if_pos c2).symm
      exact g135_0_1 C u1 c1 (u2 c1) c2
    · refine Eq.trans ?_ (if_neg c2).symm
      by_cases c3 : (σ102.1 10 0 15 0) = (3 : Int32)
      · refine Eq.trans ?_ (if_pos c3).symm
        exact g135_0_2 C u1 c1 (u2 c1) c2 c3
      · refine Eq.trans ?_ (if_neg c3).symm
        exact g135_0_3 C u1 c1 (u2 c1) c2 c3 (u3 c1 c2 c3) (u4 c1 c2 c3)
theorem t136_0 (C : pmC) {σ : pmS} {x1 : Int32} {x2 : Int32} {x3 : Int32} {x4 : Int32} {l5 : Option pmV} {r101 : Int32} {σ101 : pmS} {r102 : Int32} {σ102 : pmS} {r103 : Int32} {σ103 : pmS} {r104 : Int32} {σ104 : pmS} (u1 : C 133 [vR 10 0 0, vI x1] σ = some (some (vI r101), σ101)) (u2 : (¬ r101 = 0) → C 106 [vR 10 0 0, vI x3] σ101 = some (some (vI r102), σ102)) (u3 : (¬ r101 = 0) → (¬ r102 = 0) → C 105 [vL (x2).toInt64, vL (1 : Int64), vL (999 : Int64)] σ102 = some (some (vI r103), σ103)) (u4 : (¬ r101 = 0) → (¬ r102 = 0) → (¬ r103 = 0) → C 105 [vL (x4).toInt64, vL (0 : Int64), vL (1 : Int64)] σ103 = some (some (vI r104), σ104)) : pq_Rn C (136, 0, [some (vR 10 0 0), some (vI x1), some (vI x2), some (vI x3), some (vI x4), l5], [], σ) = (if r101 = 0 then some (some (vI (-1 : Int32)), σ101) else (if r102 = 0 then some (some (vI (-1 : Int32)), σ102) else (if r103 = 0 then some (some (vI (-2 : Int32)), σ103) else (if r104 = 0 then some (some (vI (-2 : Int32)), σ104) else pq_Rn C (136, 49, [some (vR 10 0 0), some (vI x1), some (vI x2), some (vI x3), some (vI x4), some (vI ((5 : Int32) * x1))], [], σ104))))) := by
  by_cases c1 : r101 = 0
  · refine Eq.trans ?_ (if_pos c1).symm
    exact g136_0_0 C u1 c1
  · refine Eq.trans ?_ (if_neg c1).symm
    by_cases c2 : r102 = 0
    · refine Eq.trans ?_ (if_pos c2).symm
      exact g136_0_1 C u1 c1 (u2 c1) c2
    · refine Eq.trans ?_ (if_neg c2).symm
      by_cases c3 : r103 = 0
      · refine Eq.trans ?_ (if_pos c3).symm
        exact g136_0_2 C u1 c1 (u2 c1) c2 (u3 c1 c2) c3
      · refine Eq.trans ?_ (if_neg c3).symm
        by_cases c4 : r104 = 0
        · refine Eq.trans ?_ (if_pos c4).symm
          exact g136_0_3 C u1 c1 (u2 c1) c2 (u3 c1 c2) c3 (u4 c1 c2 c3) c4
        · refine Eq.trans ?_ (if_neg c4).symm
          exact g136_0_4 C u1 c1 (u2 c1) c2 (u3 c1 c2) c3 (u4 c1 c2 c3) c4
theorem t136_49 (C : pmC) {σ : pmS} {x1 : Int32} {x2 : Int32} {x3 : Int32} {x4 : Int32} {x5 : Int32} (u1 : vp_in x1 3) (u2 : ((((5 : Int32) * x1) + (σ.1 10 0 11 (x1).toNatClampNeg)) ≤ x5) → (¬ x5 = (((5 : Int32) * x1) + (5 : Int32))) → (x5 = (((5 : Int32) * x1) + (σ.1 10 0 11 (x1).toNatClampNeg))) → vp_in x5 15) (u3 : ((((5 : Int32) * x1) + (σ.1 10 0 11 (x1).toNatClampNeg)) ≤ x5) → (¬ x5 = (((5 : Int32) * x1) + (5 : Int32))) → (¬ x5 = (((5 : Int32) * x1) + (σ.1 10 0 11 (x1).toNatClampNeg))) → vp_in x5 15) (u4 : (¬ (((5 : Int32) * x1) + (σ.1 10 0 11 (x1).toNatClampNeg)) ≤ x5) → vp_in x5 15) : pq_Rn C (136, 49, [some (vR 10 0 0), some (vI x1), some (vI x2), some (vI x3), some (vI x4), some (vI x5)], [], σ) = (if (((5 : Int32) * x1) + (σ.1 10 0 11 (x1).toNatClampNeg)) ≤ x5 then (if x5 = (((5 : Int32) * x1) + (5 : Int32)) then some (some (vI (-4 : Int32)), σ) else (if x5 = (((5 : Int32) * x1) + (σ.1 10 0 11 (x1).toNatClampNeg)) then some (some (vI ((pm_wi σ 10 0 11 (x1).toNatClampNeg ((σ.1 10 0 11 (x1).toNatClampNeg) + (1 : Int32))).1 10 0 11 (x1).toNatClampNeg)), (pm_wi (pm_wi (pm_wi (pm_wi σ 10 0 11 (x1).toNatClampNeg ((σ.1 10 0 11 (x1).toNatClampNeg) + (1 : Int32))) 10 0 12 (x5).toNatClampNeg x2) 10 0 13 (x5).toNatClampNeg x3) 10 0 14 (x5).toNatClampNeg x4)) else some (some (vI (σ.1 10 0 11 (x1).toNatClampNeg)), (pm_wi (pm_wi (pm_wi σ 10 0 12 (x5).toNatClampNeg x2) 10 0 13 (x5).toNatClampNeg x3) 10 0 14 (x5).toNatClampNeg x4)))) else (if (σ.1 10 0 12 (x5).toNatClampNeg) = x2 then (if x5 = (((5 : Int32) * x1) + (5 : Int32)) then some (some (vI (-4 : Int32)), σ) else (if x5 = (((5 : Int32) * x1) + (σ.1 10 0 11 (x1).toNatClampNeg)) then some (some (vI ((pm_wi σ 10 0 11 (x1).toNatClampNeg ((σ.1 10 0 11 (x1).toNatClampNeg) + (1 : Int32))).1 10 0 11 (x1).toNatClampNeg)), (pm_wi (pm_wi (pm_wi (pm_wi σ 10 0 11 (x1).toNatClampNeg ((σ.1 10 0 11 (x1).toNatClampNeg) + (1 : Int32))) 10 0 12 (x5).toNatClampNeg x2) 10 0 13 (x5).toNatClampNeg x3) 10 0 14 (x5).toNatClampNeg x4)) else some (some (vI (σ.1 10 0 11 (x1).toNatClampNeg)), (pm_wi (pm_wi (pm_wi σ 10 0 12 (x5).toNatClampNeg x2) 10 0 13 (x5).toNatClampNeg x3) 10 0 14 (x5).toNatClampNeg x4)))) else pq_Rn C (136, 49, [some (vR 10 0 0), some (vI x1), some (vI x2), some (vI x3), some (vI x4), some (vI (x5 + (1 : Int32)))], [], σ))) := by
  by_cases c1 : (((5 : Int32) * x1) + (σ.1 10 0 11 (x1).toNatClampNeg)) ≤ x5
  · refine Eq.trans ?_ (if_pos c1).symm
    by_cases c2 : x5 = (((5 : Int32) * x1) + (5 : Int32))
    · refine Eq.trans ?_ (if_pos c2).symm
      exact g136_49_0 C u1 c1 c2
    · refine Eq.trans ?_ (if_neg c2).symm
      by_cases c3 : x5 = (((5 : Int32) * x1) + (σ.1 10 0 11 (x1).toNatClampNeg))
      · refine Eq.trans ?_ (if_pos c3).symm
        exact g136_49_1 C u1 c1 c2 c3 (u2 c1 c2 c3)
      · refine Eq.trans ?_ (if_neg c3).symm
        exact g136_49_2 C u1 c1 c2 c3 (u3 c1 c2 c3)
  · refine Eq.trans ?_ (if_neg c1).symm
    by_cases c4 : (σ.1 10 0 12 (x5).toNatClampNeg) = x2
    · refine Eq.trans ?_ (if_pos c4).symm
      by_cases c5 : x5 = (((5 : Int32) * x1) + (5 : Int32))
      · refine Eq.trans ?_ (if_pos c5).symm
        exact g136_49_3 C u1 c1 (u4 c1) c4 c5
      · refine Eq.trans ?_ (if_neg c5).symm
        by_cases c6 : x5 = (((5 : Int32) * x1) + (σ.1 10 0 11 (x1).toNatClampNeg))
        · refine Eq.trans ?_ (if_pos c6).symm
          exact g136_49_4 C u1 c1 (u4 c1) c4 c5 c6
        · refine Eq.trans ?_ (if_neg c6).symm
          exact g136_49_5 C u1 c1 (u4 c1) c4 c5 c6
    · refine Eq.trans ?_ (if_neg c4).symm
      exact g136_49_6 C u1 c1 (u4 c1) c4
theorem t137_0 (C : pmC) {σ : pmS} {x1 : Int32} {x2 : Int32} {l3 : Option pmV} {l4 : Option pmV}  : pq_Rn C (137, 0, [some (vR 10 0 0), some (vI x1), some (vI x2), l3, l4], [], σ) = pq_Rn C (137, 9, [some (vR 10 0 0), some (vI x1), some (vI x2), some (vI ((5 : Int32) * x1)), some (vI ((5 : Int32) * x1))], [], σ) := by
  exact g137_0_0 C 
theorem t137_9 (C : pmC) {σ : pmS} {x1 : Int32} {x2 : Int32} {x3 : Int32} {x4 : Int32} (u1 : vp_in x1 3) (u2 : (¬ (((5 : Int32) * x1) + (σ.1 10 0 11 (x1).toNatClampNeg)) ≤ x4) → vp_in x4 15) (u3 : (¬ (((5 : Int32) * x1) + (σ.1 10 0 11 (x1).toNatClampNeg)) ≤ x4) → (¬ x2 < (σ.1 10 0 12 (x4).toNatClampNeg)) → vp_in x3 15) : pq_Rn C (137, 9, [some (vR 10 0 0), some (vI x1), some (vI x2), some (vI x3), some (vI x4)], [], σ) = (if (((5 : Int32) * x1) + (σ.1 10 0 11 (x1).toNatClampNeg)) ≤ x4 then some (some (vI x3), σ) else (if x2 < (σ.1 10 0 12 (x4).toNatClampNeg) then pq_Rn C (137, 9, [some (vR 10 0 0), some (vI x1), some (vI x2), some (vI x3), some (vI (x4 + (1 : Int32)))], [], σ) else (if (σ.1 10 0 12 (x4).toNatClampNeg) ≤ (σ.1 10 0 12 (x3).toNatClampNeg) then pq_Rn C (137, 9, [some (vR 10 0 0), some (vI x1), some (vI x2), some (vI x3), some (vI (x4 + (1 : Int32)))], [], σ) else pq_Rn C (137, 9, [some (vR 10 0 0), some (vI x1), some (vI x2), some (vI x4), some (vI (x4 + (1 : Int32)))], [], σ)))) := by
  by_cases c1 : (((5 : Int32) * x1) + (σ.1 10 0 11 (x1).toNatClampNeg)) ≤ x4
  · refine Eq.trans ?_ (if_pos c1).symm
    exact g137_9_0 C u1 c1
  · refine Eq.trans ?_ (if_neg c1).symm
    by_cases c2 : x2 < (σ.1 10 0 12 (x4).toNatClampNeg)
    · refine Eq.trans ?_ (if_pos c2).symm
      exact g137_9_1 C u1 c1 (u2 c1) c2
    · refine Eq.trans ?_ (if_neg c2).symm
      by_cases c3 : (σ.1 10 0 12 (x4).toNatClampNeg) ≤ (σ.1 10 0 12 (x3).toNatClampNeg)
      · refine Eq.trans ?_ (if_pos c3).symm
        exact g137_9_2 C u1 c1 (u2 c1) c2 (u3 c1 c2) c3
      · refine Eq.trans ?_ (if_neg c3).symm
        exact g137_9_3 C u1 c1 (u2 c1) c2 (u3 c1 c2) c3
theorem t138_0 (C : pmC) {σ : pmS} {x0 : Int32} {r101 : Int32} {σ101 : pmS} (u1 : C 105 [vL (x0).toInt64, vL (0 : Int64), vL (999 : Int64)] σ = some (some (vI r101), σ101)) (u2 : r101 = 0 ∨ r101 = 1) : pq_Rn C (138, 0, [some (vI x0)], [], σ) = some (some (vI r101), σ101) := by
  exact g138_0_0 C u1 u2
theorem t139_0 (C : pmC) {σ : pmS} {x1 : Int32} {x2 : Int32} {x3 : Int32} {x4 : Int32} {x5 : Int32} {x6 : Int32} {l7 : Option pmV} (u1 : vp_in (σ.1 10 0 16 0) 48) : pq_Rn C (139, 0, [some (vR 10 0 0), some (vI x1), some (vI x2), some (vI x3), some (vI x4), some (vI x5), some (vI x6), l7], [], σ) = some (some (vI (σ.1 10 0 16 0)), (pm_wi (pm_wi (pm_wi (pm_wi (pm_wi (pm_wi (pm_wi (pm_wi σ 10 0 16 0 ((σ.1 10 0 16 0) + (1 : Int32))) 10 0 19 ((σ.1 10 0 16 0)).toNatClampNeg x1) 10 0 20 ((σ.1 10 0 16 0)).toNatClampNeg x2) 10 0 21 ((σ.1 10 0 16 0)).toNatClampNeg (-1 : Int32)) 10 0 22 ((σ.1 10 0 16 0)).toNatClampNeg x3) 10 0 23 ((σ.1 10 0 16 0)).toNatClampNeg x4) 10 0 24 ((σ.1 10 0 16 0)).toNatClampNeg x5) 10 0 25 ((σ.1 10 0 16 0)).toNatClampNeg x6)) := by
  exact g139_0_0 C u1
theorem t140_0 (C : pmC) {σ : pmS} {x1 : Int32} {x2 : Int32} {x3 : Int32} {x4 : Int32} {r101 : Int32} {σ101 : pmS} {r102 : Int32} {σ102 : pmS} {r103 : Int32} {σ103 : pmS} {r104 : Int32} {σ104 : pmS} {r105 : Int32} {σ105 : pmS} {r106 : Int32} {σ106 : pmS} {r107 : Int32} {σ107 : pmS} {r108 : Int32} {σ108 : pmS} (u1 : C 118 [vI x1] σ = some (some (vI r101), σ101)) (u2 : (¬ r101 = 0) → C 133 [vR 10 0 0, vI x3] σ101 = some (some (vI r102), σ102)) (u3 : (¬ r101 = 0) → (¬ r102 = 0) → (x4 = (-1 : Int32)) → C 138 [vI x2] σ102 = some (some (vI r103), σ103)) (u4 : (¬ r101 = 0) → (¬ r102 = 0) → (x4 = (-1 : Int32)) → (¬ r103 = 0) → (¬ (σ103.1 10 0 16 0) = (48 : Int32)) → C 139 [vR 10 0 0, vI x1, vI x2, vI x3, vI (-1 : Int32), vI (-1 : Int32), vI x4] σ103 = some (some (vI r104), σ104)) (u5 : (¬ r101 = 0) → (¬ r102 = 0) → (¬ x4 = (-1 : Int32)) → C 137 [vR 10 0 0, vI x3, vI x2] σ102 = some (some (vI r105), σ105)) (u6 : (¬ r101 = 0) → (¬ r102 = 0) → (¬ x4 = (-1 : Int32)) → vp_in r105 15) (u7 : (¬ r101 = 0) → (¬ r102 = 0) → (¬ x4 = (-1 : Int32)) → C 107 [vR 10 0 0, vI (σ105.1 10 0 13 (r105).toNatClampNeg), vI x4] σ105 = some (some (vI r106), σ106)) (u8 : (¬ r101 = 0) → (¬ r102 = 0) → (¬ x4 = (-1 : Int32)) → (¬ r106 = 0) → C 138 [vI x2] σ106 = some (some (vI r107), σ107)) (u9 : (¬ r101 = 0) → (¬ r102 = 0) → (¬ x4 = (-1 : Int32)) → (¬ r106 = 0) → (¬ r107 = 0) → (¬ (σ107.1 10 0 16 0) = (48 : Int32)) → C 139 [vR 10 0 0, vI x1, vI x2, vI x3, vI (-1 : Int32), vI (-1 : Int32), vI x4] σ107 = some (some (vI r108), σ108)) : pq_Rn C (140, 0, [some (vR 10 0 0), some (vI x1), some (vI x2), some (vI x3), some (vI x4)], [], σ) = (if r101 = 0 then some (some (vI (-1 : Int32)), σ101) else (if r102 = 0 then some (some (vI (-1 : Int32)), σ102) else (if x4 = (-1 : Int32) then (if r103 = 0 then some (some (vI (-2 : Int32)), σ103) else (if (σ103.1 10 0 16 0) = (48 : Int32) then some (some (vI (-4 : Int32)), σ103) else some (some (vI r104), σ104))) else (if r106 = 0 then some (some (vI (-1 : Int32)), σ106) else (if r107 = 0 then some (some (vI (-2 : Int32)), σ107) else (if (σ107.1 10 0 16 0) = (48 : Int32) then some (some (vI (-4 : Int32)), σ107) else some (some (vI r108), σ108))))))) := by
  by_cases c1 : r101 = 0
  · refine Eq.trans ?_ (if_pos c1).symm
    exact g140_0_0 C u1 c1
  · refine Eq.trans ?_ (if_neg c1).symm
    by_cases c2 : r102 = 0
    · refine Eq.trans ?_ (if_pos c2).symm
      exact g140_0_1 C u1 c1 (u2 c1) c2
    · refine Eq.trans ?_ (if_neg c2).symm
      by_cases c3 : x4 = (-1 : Int32)
      · refine Eq.trans ?_ (if_pos c3).symm
        by_cases c4 : r103 = 0
        · refine Eq.trans ?_ (if_pos c4).symm
          exact g140_0_2 C u1 c1 (u2 c1) c2 c3 (u3 c1 c2 c3) c4
        · refine Eq.trans ?_ (if_neg c4).symm
          by_cases c5 : (σ103.1 10 0 16 0) = (48 : Int32)
          · refine Eq.trans ?_ (if_pos c5).symm
            exact g140_0_3 C u1 c1 (u2 c1) c2 c3 (u3 c1 c2 c3) c4 c5
          · refine Eq.trans ?_ (if_neg c5).symm
            exact g140_0_4 C u1 c1 (u2 c1) c2 c3 (u3 c1 c2 c3) c4 c5 (u4 c1 c2 c3 c4 c5)
      · refine Eq.trans ?_ (if_neg c3).symm
        by_cases c6 : r106 = 0
        · refine Eq.trans ?_ (if_pos c6).symm
          exact g140_0_5 C u1 c1 (u2 c1) c2 c3 (u5 c1 c2 c3) (u6 c1 c2 c3) (u7 c1 c2 c3) c6
        · refine Eq.trans ?_ (if_neg c6).symm
          by_cases c7 : r107 = 0
          · refine Eq.trans ?_ (if_pos c7).symm
            exact g140_0_6 C u1 c1 (u2 c1) c2 c3 (u5 c1 c2 c3) (u6 c1 c2 c3) (u7 c1 c2 c3) c6 (u8 c1 c2 c3 c6) c7
          · refine Eq.trans ?_ (if_neg c7).symm
            by_cases c8 : (σ107.1 10 0 16 0) = (48 : Int32)
            · refine Eq.trans ?_ (if_pos c8).symm
              exact g140_0_7 C u1 c1 (u2 c1) c2 c3 (u5 c1 c2 c3) (u6 c1 c2 c3) (u7 c1 c2 c3) c6 (u8 c1 c2 c3 c6) c7 c8
            · refine Eq.trans ?_ (if_neg c8).symm
              exact g140_0_8 C u1 c1 (u2 c1) c2 c3 (u5 c1 c2 c3) (u6 c1 c2 c3) (u7 c1 c2 c3) c6 (u8 c1 c2 c3 c6) c7 c8 (u9 c1 c2 c3 c6 c7 c8)
theorem t141_0 (C : pmC) {σ : pmS} {x1 : Int32} {x2 : Int32} (u1 : vp_in x1 48) : pq_Rn C (141, 0, [some (vR 10 0 0), some (vI x1), some (vI x2)], [], σ) = (if x2 < (σ.1 10 0 20 (x1).toNatClampNeg) then some (some (vI (0 : Int32)), σ) else (if (σ.1 10 0 21 (x1).toNatClampNeg) = (-1 : Int32) then some (some (vI (1 : Int32)), σ) else (if (σ.1 10 0 21 (x1).toNatClampNeg) ≤ x2 then some (some (vI (0 : Int32)), σ) else some (some (vI (1 : Int32)), σ)))) := by
  by_cases c1 : x2 < (σ.1 10 0 20 (x1).toNatClampNeg)
  · refine Eq.trans ?_ (if_pos c1).symm
    exact g141_0_0 C u1 c1
  · refine Eq.trans ?_ (if_neg c1).symm
    by_cases c2 : (σ.1 10 0 21 (x1).toNatClampNeg) = (-1 : Int32)
    · refine Eq.trans ?_ (if_pos c2).symm
      exact g141_0_1 C u1 c1 c2
    · refine Eq.trans ?_ (if_neg c2).symm
      by_cases c3 : (σ.1 10 0 21 (x1).toNatClampNeg) ≤ x2
      · refine Eq.trans ?_ (if_pos c3).symm
        exact g141_0_2 C u1 c1 c2 c3
      · refine Eq.trans ?_ (if_neg c3).symm
        exact g141_0_3 C u1 c1 c2 c3
theorem t142_0 (C : pmC) {σ : pmS} {x1 : Int32} {x2 : Int32} {x3 : Int32} {x4 : Int32} {r101 : Int32} {σ101 : pmS} {r102 : Int32} {σ102 : pmS} {r103 : Int32} {σ103 : pmS} {r104 : Int32} {σ104 : pmS} {r105 : Int32} {σ105 : pmS} {r106 : Int32} {σ106 : pmS} {r107 : Int32} {σ107 : pmS} (u1 : C 118 [vI x1] σ = some (some (vI r101), σ101)) (u2 : (¬ r101 = 0) → C 134 [vR 10 0 0, vI x3] σ101 = some (some (vI r102), σ102)) (u3 : (¬ r101 = 0) → (¬ r102 = 0) → C 134 [vR 10 0 0, vI x4] σ102 = some (some (vI r103), σ103)) (u4 : (¬ r101 = 0) → (¬ r102 = 0) → (¬ r103 = 0) → C 138 [vI x2] σ103 = some (some (vI r104), σ104)) (u5 : (¬ r101 = 0) → (¬ r102 = 0) → (¬ r103 = 0) → (¬ r104 = 0) → vp_in x3 48) (u6 : (¬ r101 = 0) → (¬ r102 = 0) → (¬ r103 = 0) → (¬ r104 = 0) → ((σ104.1 10 0 19 (x3).toNatClampNeg) = (1 : Int32)) → vp_in x4 48) (u7 : (¬ r101 = 0) → (¬ r102 = 0) → (¬ r103 = 0) → (¬ r104 = 0) → ((σ104.1 10 0 19 (x3).toNatClampNeg) = (1 : Int32)) → ((σ104.1 10 0 19 (x4).toNatClampNeg) = 0) → C 141 [vR 10 0 0, vI x3, vI x2] σ104 = some (some (vI r105), σ105)) (u8 : (¬ r101 = 0) → (¬ r102 = 0) → (¬ r103 = 0) → (¬ r104 = 0) → ((σ104.1 10 0 19 (x3).toNatClampNeg) = (1 : Int32)) → ((σ104.1 10 0 19 (x4).toNatClampNeg) = 0) → (¬ r105 = 0) → C 141 [vR 10 0 0, vI x4, vI x2] σ105 = some (some (vI r106), σ106)) (u9 : (¬ r101 = 0) → (¬ r102 = 0) → (¬ r103 = 0) → (¬ r104 = 0) → ((σ104.1 10 0 19 (x3).toNatClampNeg) = (1 : Int32)) → ((σ104.1 10 0 19 (x4).toNatClampNeg) = 0) → (¬ r105 = 0) → (r106 = 0) → C 141 [vR 10 0 0, vI x4, vI (x2 - (1 : Int32))] σ106 = some (some (vI r107), σ107)) : pq_Rn C (142, 0, [some (vR 10 0 0), some (vI x1), some (vI x2), some (vI x3), some (vI x4)], [], σ) = (if r101 = 0 then pq_Rn C (142, 24, [some (vR 10 0 0), some (vI x1), some (vI x2), some (vI x3), some (vI x4)], [], σ101) else (if r102 = 0 then pq_Rn C (142, 24, [some (vR 10 0 0), some (vI x1), some (vI x2), some (vI x3), some (vI x4)], [], σ102) else (if r103 = 0 then pq_Rn C (142, 24, [some (vR 10 0 0), some (vI x1), some (vI x2), some (vI x3), some (vI x4)], [], σ103) else (if r104 = 0 then pq_Rn C (142, 53, [some (vR 10 0 0), some (vI x1), some (vI x2), some (vI x3), some (vI x4)], [], σ104) else (if (σ104.1 10 0 19 (x3).toNatClampNeg) = (1 : Int32) then (if (σ104.1 10 0 19 (x4).toNatClampNeg) = 0 then (if r105 = 0 then pq_Rn C (142, 87, [some (vR 10 0 0), some (vI x1), some (vI x2), some (vI x3), some (vI x4)], [], σ105) else (if r106 = 0 then (if r107 = 0 then pq_Rn C (142, 87, [some (vR 10 0 0), some (vI x1), some (vI x2), some (vI x3), some (vI x4)], [], σ107) else pq_Rn C (142, 90, [some (vR 10 0 0), some (vI x1), some (vI x2), some (vI x3), some (vI x4)], [], σ107)) else pq_Rn C (142, 90, [some (vR 10 0 0), some (vI x1), some (vI x2), some (vI x3), some (vI x4)], [], σ106))) else pq_Rn C (142, 53, [some (vR 10 0 0), some (vI x1), some (vI x2), some (vI x3), some (vI x4)], [], σ104)) else pq_Rn C (142, 53, [some (vR 10 0 0), some (vI x1), some (vI x2), some (vI x3), some (vI x4)], [], σ104)))))) := by
  by_cases c1 : r101 = 0
  · refine Eq.trans ?_ (if_pos c1).symm
    exact g142_0_0 C u1 c1
  · refine Eq.trans ?_ (if_neg c1).symm
    by_cases c2 : r102 = 0
    · refine Eq.trans ?_ (if_pos c2).symm
      exact g142_0_1 C u1 c1 (u2 c1) c2
    · refine Eq.trans ?_ (if_neg c2).symm
      by_cases c3 : r103 = 0
      · refine Eq.trans ?_ (if_pos c3).symm
        exact g142_0_2 C u1 c1 (u2 c1) c2 (u3 c1 c2) c3
      · refine Eq.trans ?_ (if_neg c3).symm
        by_cases c4 : r104 = 0
        · refine Eq.trans ?_ (if_pos c4).symm
          exact g142_0_3 C u1 c1 (u2 c1) c2 (u3 c1 c2) c3 (u4 c1 c2 c3) c4
        · refine Eq.trans ?_ (if_neg c4).symm
          by_cases c5 : (σ104.1 10 0 19 (x3).toNatClampNeg) = (1 : Int32)
          · refine Eq.trans ?_ (if_pos c5).symm
            by_cases c6 : (σ104.1 10 0 19 (x4).toNatClampNeg) = 0
            · refine Eq.trans ?_ (if_pos c6).symm
              by_cases c7 : r105 = 0
              · refine Eq.trans ?_ (if_pos c7).symm
                exact g142_0_4 C u1 c1 (u2 c1) c2 (u3 c1 c2) c3 (u4 c1 c2 c3) c4 (u5 c1 c2 c3 c4) c5 (u6 c1 c2 c3 c4 c5) c6 (u7 c1 c2 c3 c4 c5 c6) c7
              · refine Eq.trans ?_ (if_neg c7).symm
                by_cases c8 : r106 = 0
                · refine Eq.trans ?_ (if_pos c8).symm
                  by_cases c9 : r107 = 0
                  · refine Eq.trans ?_ (if_pos c9).symm
                    exact g142_0_5 C u1 c1 (u2 c1) c2 (u3 c1 c2) c3 (u4 c1 c2 c3) c4 (u5 c1 c2 c3 c4) c5 (u6 c1 c2 c3 c4 c5) c6 (u7 c1 c2 c3 c4 c5 c6) c7 (u8 c1 c2 c3 c4 c5 c6 c7) c8 (u9 c1 c2 c3 c4 c5 c6 c7 c8) c9
                  · refine Eq.trans ?_ (if_neg c9).symm
                    exact g142_0_6 C u1 c1 (u2 c1) c2 (u3 c1 c2) c3 (u4 c1 c2 c3) c4 (u5 c1 c2 c3 c4) c5 (u6 c1 c2 c3 c4 c5) c6 (u7 c1 c2 c3 c4 c5 c6) c7 (u8 c1 c2 c3 c4 c5 c6 c7) c8 (u9 c1 c2 c3 c4 c5 c6 c7 c8) c9
                · refine Eq.trans ?_ (if_neg c8).symm
                  exact g142_0_7 C u1 c1 (u2 c1) c2 (u3 c1 c2) c3 (u4 c1 c2 c3) c4 (u5 c1 c2 c3 c4) c5 (u6 c1 c2 c3 c4 c5) c6 (u7 c1 c2 c3 c4 c5 c6) c7 (u8 c1 c2 c3 c4 c5 c6 c7) c8
            · refine Eq.trans ?_ (if_neg c6).symm
              exact g142_0_8 C u1 c1 (u2 c1) c2 (u3 c1 c2) c3 (u4 c1 c2 c3) c4 (u5 c1 c2 c3 c4) c5 (u6 c1 c2 c3 c4 c5) c6
          · refine Eq.trans ?_ (if_neg c5).symm
            exact g142_0_9 C u1 c1 (u2 c1) c2 (u3 c1 c2) c3 (u4 c1 c2 c3) c4 (u5 c1 c2 c3 c4) c5
theorem t142_24 (C : pmC) {σ : pmS} {l0 : Option pmV} {l1 : Option pmV} {l2 : Option pmV} {l3 : Option pmV} {l4 : Option pmV}  : pq_Rn C (142, 24, [l0, l1, l2, l3, l4], [], σ) = some (some (vI (-1 : Int32)), σ) := by
  exact g142_24_0 C 
theorem t142_53 (C : pmC) {σ : pmS} {l0 : Option pmV} {l1 : Option pmV} {l2 : Option pmV} {l3 : Option pmV} {l4 : Option pmV}  : pq_Rn C (142, 53, [l0, l1, l2, l3, l4], [], σ) = some (some (vI (-2 : Int32)), σ) := by
  exact g142_53_0 C 
theorem t142_87 (C : pmC) {σ : pmS} {l0 : Option pmV} {l1 : Option pmV} {l2 : Option pmV} {l3 : Option pmV} {l4 : Option pmV}  : pq_Rn C (142, 87, [l0, l1, l2, l3, l4], [], σ) = some (some (vI (-3 : Int32)), σ) := by
  exact g142_87_0 C 
theorem t142_90 (C : pmC) {σ : pmS} {x1 : Int32} {x2 : Int32} {x3 : Int32} {x4 : Int32} {r101 : Int32} {σ101 : pmS} (u1 : vp_in x3 48) (u2 : (¬ (x2 - (σ.1 10 0 20 (x3).toNatClampNeg)) < (12 : Int32)) → vp_in x4 48) (u3 : (¬ (x2 - (σ.1 10 0 20 (x3).toNatClampNeg)) < (12 : Int32)) → ((12 : Int32) ≤ (x2 - (σ.1 10 0 20 (x4).toNatClampNeg))) → (¬ (σ.1 10 0 16 0) = (48 : Int32)) → C 139 [vR 10 0 0, vI x1, vI x2, vI (σ.1 10 0 22 (x3).toNatClampNeg), vI x3, vI x4, vI (-1 : Int32)] σ = some (some (vI r101), σ101)) : pq_Rn C (142, 90, [some (vR 10 0 0), some (vI x1), some (vI x2), some (vI x3), some (vI x4)], [], σ) = (if (x2 - (σ.1 10 0 20 (x3).toNatClampNeg)) < (12 : Int32) then pq_Rn C (142, 117, [some (vR 10 0 0), some (vI x1), some (vI x2), some (vI x3), some (vI x4)], [], σ) else (if (12 : Int32) ≤ (x2 - (σ.1 10 0 20 (x4).toNatClampNeg)) then (if (σ.1 10 0 16 0) = (48 : Int32) then pq_Rn C (142, 150, [some (vR 10 0 0), some (vI x1), some (vI x2), some (vI x3), some (vI x4)], [vI (-4 : Int32)], σ) else pq_Rn C (142, 150, [some (vR 10 0 0), some (vI x1), some (vI x2), some (vI x3), some (vI x4)], [vI r101], σ101)) else pq_Rn C (142, 117, [some (vR 10 0 0), some (vI x1), some (vI x2), some (vI x3), some (vI x4)], [], σ))) := by
  by_cases c1 : (x2 - (σ.1 10 0 20 (x3).toNatClampNeg)) < (12 : Int32)
  · refine Eq.trans ?_ (if_pos c1).symm
    exact g142_90_0 C u1 c1
  · refine Eq.trans ?_ (if_neg c1).symm
    by_cases c2 : (12 : Int32) ≤ (x2 - (σ.1 10 0 20 (x4).toNatClampNeg))
    · refine Eq.trans ?_ (if_pos c2).symm
      by_cases c3 : (σ.1 10 0 16 0) = (48 : Int32)
      · refine Eq.trans ?_ (if_pos c3).symm
        exact g142_90_1 C u1 c1 (u2 c1) c2 c3
      · refine Eq.trans ?_ (if_neg c3).symm
        exact g142_90_2 C u1 c1 (u2 c1) c2 c3 (u3 c1 c2 c3)
    · refine Eq.trans ?_ (if_neg c2).symm
      exact g142_90_3 C u1 c1 (u2 c1) c2
theorem t142_117 (C : pmC) {σ : pmS} {l0 : Option pmV} {l1 : Option pmV} {l2 : Option pmV} {l3 : Option pmV} {l4 : Option pmV}  : pq_Rn C (142, 117, [l0, l1, l2, l3, l4], [], σ) = some (some (vI (-3 : Int32)), σ) := by
  exact g142_117_0 C 
theorem t142_150 (C : pmC) {σ : pmS} {l0 : Option pmV} {l1 : Option pmV} {l2 : Option pmV} {l3 : Option pmV} {l4 : Option pmV} {s0 : Int32}  : pq_Rn C (142, 150, [l0, l1, l2, l3, l4], [vI s0], σ) = some (some (vI s0), σ) := by
  exact g142_150_0 C 
theorem t143_0 (C : pmC) {σ : pmS} {x1 : Int32} {x2 : Int32} {r101 : Int32} {σ101 : pmS} (u1 : C 134 [vR 10 0 0, vI x1] σ = some (some (vI r101), σ101)) (u2 : (¬ r101 = 0) → vp_in x1 48) : pq_Rn C (143, 0, [some (vR 10 0 0), some (vI x1), some (vI x2)], [], σ) = (if r101 = 0 then some (some (vI (-1 : Int32)), σ101) else (if x2 ≤ (σ101.1 10 0 20 (x1).toNatClampNeg) then some (some (vI (-2 : Int32)), σ101) else (if x2 ≤ (1000 : Int32) then (if (σ101.1 10 0 21 (x1).toNatClampNeg) = (-1 : Int32) then some (some (vI (0 : Int32)), (pm_wi σ101 10 0 21 (x1).toNatClampNeg x2)) else some (some (vI (-3 : Int32)), σ101)) else some (some (vI (-2 : Int32)), σ101)))) := by
  by_cases c1 : r101 = 0
  · refine Eq.trans ?_ (if_pos c1).symm
    exact g143_0_0 C u1 c1
  · refine Eq.trans ?_ (if_neg c1).symm
    by_cases c2 : x2 ≤ (σ101.1 10 0 20 (x1).toNatClampNeg)
    · refine Eq.trans ?_ (if_pos c2).symm
      exact g143_0_1 C u1 c1 (u2 c1) c2
    · refine Eq.trans ?_ (if_neg c2).symm
      by_cases c3 : x2 ≤ (1000 : Int32)
      · refine Eq.trans ?_ (if_pos c3).symm
        by_cases c4 : (σ101.1 10 0 21 (x1).toNatClampNeg) = (-1 : Int32)
        · refine Eq.trans ?_ (if_pos c4).symm
          exact g143_0_2 C u1 c1 (u2 c1) c2 c3 c4
        · refine Eq.trans ?_ (if_neg c4).symm
          exact g143_0_3 C u1 c1 (u2 c1) c2 c3 c4
      · refine Eq.trans ?_ (if_neg c3).symm
        exact g143_0_4 C u1 c1 (u2 c1) c2 c3
theorem t144_0 (C : pmC) {σ : pmS} {x1 : Int32} {l2 : Option pmV} {r101 : Int32} {σ101 : pmS} (u1 : C 105 [vL (x1).toInt64, vL (0 : Int64), vL (40 : Int64)] σ = some (some (vI r101), σ101)) : pq_Rn C (144, 0, [some (vR 10 0 0), some (vI x1), l2], [], σ) = (if r101 = 0 then some (some (vI (-2 : Int32)), σ101) else some (some (vI (σ101.1 10 0 18 0)), (pm_wi σ101 10 0 18 0 x1))) := by
  by_cases c1 : r101 = 0
  · refine Eq.trans ?_ (if_pos c1).symm
    exact g144_0_0 C u1 c1
  · refine Eq.trans ?_ (if_neg c1).symm
    exact g144_0_1 C u1 c1
theorem t145_0 (C : pmC) {σ : pmS} {x1 : Int32} {x2 : Int32} {x3 : Int32} {r101 : Int32} {σ101 : pmS} (u1 : C 107 [vR 10 0 0, vI x1, vI x2] σ = some (some (vI r101), σ101)) (u2 : (¬ r101 = 0) → (x3 = 0) → vp_in (((8 : Int32) * x1) + x2) 32) (u3 : (¬ r101 = 0) → (¬ x3 = 0) → vp_in (((8 : Int32) * x1) + x2) 32) : pq_Rn C (145, 0, [some (vR 10 0 0), some (vI x1), some (vI x2), some (vI x3)], [], σ) = (if r101 = 0 then some (some (vI (-1 : Int32)), σ101) else (if x3 = 0 then some (some (vI (σ101.1 10 0 3 ((((8 : Int32) * x1) + x2)).toNatClampNeg)), σ101) else some (some (vI (σ101.1 10 0 2 ((((8 : Int32) * x1) + x2)).toNatClampNeg)), σ101))) := by
  by_cases c1 : r101 = 0
  · refine Eq.trans ?_ (if_pos c1).symm
    exact g145_0_0 C u1 c1
  · refine Eq.trans ?_ (if_neg c1).symm
    by_cases c2 : x3 = 0
    · refine Eq.trans ?_ (if_pos c2).symm
      exact g145_0_1 C u1 c1 c2 (u2 c1 c2)
    · refine Eq.trans ?_ (if_neg c2).symm
      exact g145_0_2 C u1 c1 c2 (u3 c1 c2)
theorem t146_0 (C : pmC) {σ : pmS} {l1 : Option pmV} {l2 : Option pmV} {l3 : Option pmV} {l4 : Option pmV} {l5 : Option pmV}  : pq_Rn C (146, 0, [some (vR 10 0 0), l1, l2, l3, l4, l5], [], σ) = pq_Rn C (146, 2, [some (vR 10 0 0), some (vI (0 : Int32)), l2, l3, l4, l5], [], σ) := by
  exact g146_0_0 C 
theorem t146_2 (C : pmC) {σ : pmS} {x1 : Int32} {l2 : Option pmV} {l3 : Option pmV} {l4 : Option pmV} {l5 : Option pmV} {r101 : Int32} {σ101 : pmS} {r102 : Int32} {σ102 : pmS} {r103 : Int32} {σ103 : pmS} {r104 : Int32} {σ104 : pmS} {r105 : Int32} {σ105 : pmS} (u1 : (¬ (σ.1 10 0 16 0) ≤ x1) → vp_in x1 48) (u2 : (¬ (σ.1 10 0 16 0) ≤ x1) → (0 ≤ (σ.1 10 0 23 (x1).toNatClampNeg)) → C 137 [vR 10 0 0, vI (σ.1 10 0 22 (x1).toNatClampNeg), vI (σ.1 10 0 20 (x1).toNatClampNeg)] (pm_wi (pm_wi σ 10 0 29 (x1).toNatClampNeg (σ.1 10 0 25 (x1).toNatClampNeg)) 10 0 30 (x1).toNatClampNeg (-1 : Int32)) = some (some (vI r101), σ101)) (u3 : (¬ (σ.1 10 0 16 0) ≤ x1) → (0 ≤ (σ.1 10 0 23 (x1).toNatClampNeg)) → vp_in r101 15) (u4 : (¬ (σ.1 10 0 16 0) ≤ x1) → (0 ≤ (σ.1 10 0 23 (x1).toNatClampNeg)) → ((σ101.1 10 0 14 (r101).toNatClampNeg) = 0) → vp_in (σ101.1 10 0 23 (x1).toNatClampNeg) 48) (u5 : (¬ (σ.1 10 0 16 0) ≤ x1) → (0 ≤ (σ.1 10 0 23 (x1).toNatClampNeg)) → ((σ101.1 10 0 14 (r101).toNatClampNeg) = 0) → C 145 [vR 10 0 0, vI (σ101.1 10 0 13 (r101).toNatClampNeg), vI (σ101.1 10 0 29 ((σ101.1 10 0 23 (x1).toNatClampNeg)).toNatClampNeg), vI (1 : Int32)] σ101 = some (some (vI r102), σ102)) (u6 : (¬ (σ.1 10 0 16 0) ≤ x1) → (0 ≤ (σ.1 10 0 23 (x1).toNatClampNeg)) → ((σ101.1 10 0 14 (r101).toNatClampNeg) = 0) → vp_in (σ102.1 10 0 24 (x1).toNatClampNeg) 48) (u7 : (¬ (σ.1 10 0 16 0) ≤ x1) → (0 ≤ (σ.1 10 0 23 (x1).toNatClampNeg)) → ((σ101.1 10 0 14 (r101).toNatClampNeg) = 0) → C 145 [vR 10 0 0, vI (σ102.1 10 0 13 (r101).toNatClampNeg), vI (σ102.1 10 0 29 ((σ102.1 10 0 24 (x1).toNatClampNeg)).toNatClampNeg), vI (0 : Int32)] σ102 = some (some (vI r103), σ103)) (u8 : (¬ (σ.1 10 0 16 0) ≤ x1) → (0 ≤ (σ.1 10 0 23 (x1).toNatClampNeg)) → (¬ (σ101.1 10 0 14 (r101).toNatClampNeg) = 0) → vp_in (σ101.1 10 0 23 (x1).toNatClampNeg) 48) (u9 : (¬ (σ.1 10 0 16 0) ≤ x1) → (0 ≤ (σ.1 10 0 23 (x1).toNatClampNeg)) → (¬ (σ101.1 10 0 14 (r101).toNatClampNeg) = 0) → C 145 [vR 10 0 0, vI (σ101.1 10 0 13 (r101).toNatClampNeg), vI (σ101.1 10 0 29 ((σ101.1 10 0 23 (x1).toNatClampNeg)).toNatClampNeg), vI (1 : Int32)] σ101 = some (some (vI r104), σ104)) (u10 : (¬ (σ.1 10 0 16 0) ≤ x1) → (0 ≤ (σ.1 10 0 23 (x1).toNatClampNeg)) → (¬ (σ101.1 10 0 14 (r101).toNatClampNeg) = 0) → vp_in (σ104.1 10 0 24 (x1).toNatClampNeg) 48) (u11 : (¬ (σ.1 10 0 16 0) ≤ x1) → (0 ≤ (σ.1 10 0 23 (x1).toNatClampNeg)) → (¬ (σ101.1 10 0 14 (r101).toNatClampNeg) = 0) → C 145 [vR 10 0 0, vI (σ104.1 10 0 13 (r101).toNatClampNeg), vI (σ104.1 10 0 29 ((σ104.1 10 0 24 (x1).toNatClampNeg)).toNatClampNeg), vI (0 : Int32)] σ104 = some (some (vI r105), σ105)) : pq_Rn C (146, 2, [some (vR 10 0 0), some (vI x1), l2, l3, l4, l5], [], σ) = (if (σ.1 10 0 16 0) ≤ x1 then some (none, σ) else (if 0 ≤ (σ.1 10 0 23 (x1).toNatClampNeg) then (if (σ101.1 10 0 14 (r101).toNatClampNeg) = 0 then pq_Rn C (146, 2, [some (vR 10 0 0), some (vI (x1 + (1 : Int32))), some (vI r101), some (vI (1 : Int32)), some (vI r102), some (vI r103)], [], (pm_wi (pm_wi σ103 10 0 29 (x1).toNatClampNeg r102) 10 0 30 (x1).toNatClampNeg r103)) else pq_Rn C (146, 2, [some (vR 10 0 0), some (vI (x1 + (1 : Int32))), some (vI r101), some (vI (0 : Int32)), some (vI r104), some (vI r105)], [], (pm_wi (pm_wi σ105 10 0 29 (x1).toNatClampNeg r105) 10 0 30 (x1).toNatClampNeg r104))) else pq_Rn C (146, 2, [some (vR 10 0 0), some (vI (x1 + (1 : Int32))), l2, l3, l4, l5], [], (pm_wi (pm_wi σ 10 0 29 (x1).toNatClampNeg (σ.1 10 0 25 (x1).toNatClampNeg)) 10 0 30 (x1).toNatClampNeg (-1 : Int32))))) := by
  by_cases c1 : (σ.1 10 0 16 0) ≤ x1
  · refine Eq.trans ?_ (if_pos c1).symm
    exact g146_2_0 C c1
  · refine Eq.trans ?_ (if_neg c1).symm
    by_cases c2 : 0 ≤ (σ.1 10 0 23 (x1).toNatClampNeg)
    · refine Eq.trans ?_ (if_pos c2).symm
      by_cases c3 : (σ101.1 10 0 14 (r101).toNatClampNeg) = 0
      · refine Eq.trans ?_ (if_pos c3).symm
        exact g146_2_1 C c1 (u1 c1) c2 (u2 c1 c2) (u3 c1 c2) c3 (u4 c1 c2 c3) (u5 c1 c2 c3) (u6 c1 c2 c3) (u7 c1 c2 c3)
      · refine Eq.trans ?_ (if_neg c3).symm
        exact g146_2_2 C c1 (u1 c1) c2 (u2 c1 c2) (u3 c1 c2) c3 (u8 c1 c2 c3) (u9 c1 c2 c3) (u10 c1 c2 c3) (u11 c1 c2 c3)
    · refine Eq.trans ?_ (if_neg c2).symm
      exact g146_2_3 C c1 (u1 c1) c2
theorem t147_0 (C : pmC) {σ : pmS} {x1 : Int32} (u1 : vp_in x1 48) : pq_Rn C (147, 0, [some (vR 10 0 0), some (vI x1)], [], σ) = (if (σ.1 10 0 29 (x1).toNatClampNeg) < 0 then some (some (vI (0 : Int32)), σ) else (if (σ.1 10 0 30 (x1).toNatClampNeg) < 0 then some (some (vI (0 : Int32)), σ) else (if (σ.1 10 0 29 (x1).toNatClampNeg) = (σ.1 10 0 30 (x1).toNatClampNeg) then some (some (vI (0 : Int32)), σ) else some (some (vI (1 : Int32)), σ)))) := by
  by_cases c1 : (σ.1 10 0 29 (x1).toNatClampNeg) < 0
  · refine Eq.trans ?_ (if_pos c1).symm
    exact g147_0_0 C u1 c1
  · refine Eq.trans ?_ (if_neg c1).symm
    by_cases c2 : (σ.1 10 0 30 (x1).toNatClampNeg) < 0
    · refine Eq.trans ?_ (if_pos c2).symm
      exact g147_0_1 C u1 c1 c2
    · refine Eq.trans ?_ (if_neg c2).symm
      by_cases c3 : (σ.1 10 0 29 (x1).toNatClampNeg) = (σ.1 10 0 30 (x1).toNatClampNeg)
      · refine Eq.trans ?_ (if_pos c3).symm
        exact g147_0_2 C u1 c1 c2 c3
      · refine Eq.trans ?_ (if_neg c3).symm
        exact g147_0_3 C u1 c1 c2 c3
theorem t148_0 (C : pmC) {σ : pmS} {x1 : Int32} {x2 : Int32} {x3 : Int32} {l4 : Option pmV} {r101 : Int32} {σ101 : pmS} {r102 : Int32} {σ102 : pmS} (u1 : vp_in x2 48) (u2 : C 137 [vR 10 0 0, vI (σ.1 10 0 22 (x2).toNatClampNeg), vI x3] σ = some (some (vI r101), σ101)) (u3 : vp_in r101 15) (u4 : vp_in x1 48) (u5 : C 107 [vR 10 0 0, vI (σ101.1 10 0 13 (r101).toNatClampNeg), vI (σ101.1 10 0 29 (x1).toNatClampNeg)] σ101 = some (some (vI r102), σ102)) (u6 : (¬ r102 = 0) → (¬ (σ102.1 10 0 29 (x2).toNatClampNeg) < 0) → vp_in (((8 : Int32) * (σ101.1 10 0 13 (r101).toNatClampNeg)) + (σ102.1 10 0 29 (x1).toNatClampNeg)) 32) : pq_Rn C (148, 0, [some (vR 10 0 0), some (vI x1), some (vI x2), some (vI x3), l4], [], σ) = (if r102 = 0 then some (some (vI (0 : Int32)), σ102) else (if (σ102.1 10 0 29 (x2).toNatClampNeg) < 0 then some (some (vI (0 : Int32)), σ102) else (if (σ102.1 10 0 1 ((((8 : Int32) * (σ101.1 10 0 13 (r101).toNatClampNeg)) + (σ102.1 10 0 29 (x1).toNatClampNeg))).toNatClampNeg) = (σ102.1 10 0 29 (x2).toNatClampNeg) then some (some (vI (1 : Int32)), σ102) else some (some (vI (0 : Int32)), σ102)))) := by
  by_cases c1 : r102 = 0
  · refine Eq.trans ?_ (if_pos c1).symm
    exact g148_0_0 C u1 u2 u3 u4 u5 c1
  · refine Eq.trans ?_ (if_neg c1).symm
    by_cases c2 : (σ102.1 10 0 29 (x2).toNatClampNeg) < 0
    · refine Eq.trans ?_ (if_pos c2).symm
      exact g148_0_1 C u1 u2 u3 u4 u5 c1 c2
    · refine Eq.trans ?_ (if_neg c2).symm
      by_cases c3 : (σ102.1 10 0 1 ((((8 : Int32) * (σ101.1 10 0 13 (r101).toNatClampNeg)) + (σ102.1 10 0 29 (x1).toNatClampNeg))).toNatClampNeg) = (σ102.1 10 0 29 (x2).toNatClampNeg)
      · refine Eq.trans ?_ (if_pos c3).symm
        exact g148_0_2 C u1 u2 u3 u4 u5 c1 c2 (u6 c1 c2) c3
      · refine Eq.trans ?_ (if_neg c3).symm
        exact g148_0_3 C u1 u2 u3 u4 u5 c1 c2 (u6 c1 c2) c3
theorem t149_0 (C : pmC) {σ : pmS} {x1 : Int32} {x2 : Int32} {r101 : Int32} {σ101 : pmS} {r102 : Int32} {σ102 : pmS} (u1 : vp_in x1 40) (u2 : (¬ x2 < (σ.1 10 0 28 (x1).toNatClampNeg)) → C 141 [vR 10 0 0, vI (σ.1 10 0 26 (x1).toNatClampNeg), vI x2] σ = some (some (vI r101), σ101)) (u3 : (¬ x2 < (σ.1 10 0 28 (x1).toNatClampNeg)) → (¬ r101 = 0) → C 141 [vR 10 0 0, vI (σ101.1 10 0 27 (x1).toNatClampNeg), vI x2] σ101 = some (some (vI r102), σ102)) : pq_Rn C (149, 0, [some (vR 10 0 0), some (vI x1), some (vI x2)], [], σ) = (if x2 < (σ.1 10 0 28 (x1).toNatClampNeg) then some (some (vI (0 : Int32)), σ) else (if r101 = 0 then some (some (vI (0 : Int32)), σ101) else (if r102 = 0 then some (some (vI (0 : Int32)), σ102) else some (some (vI (1 : Int32)), σ102)))) := by
  by_cases c1 : x2 < (σ.1 10 0 28 (x1).toNatClampNeg)
  · refine Eq.trans ?_ (if_pos c1).symm
    exact g149_0_0 C u1 c1
  · refine Eq.trans ?_ (if_neg c1).symm
    by_cases c2 : r101 = 0
    · refine Eq.trans ?_ (if_pos c2).symm
      exact g149_0_1 C u1 c1 (u2 c1) c2
    · refine Eq.trans ?_ (if_neg c2).symm
      by_cases c3 : r102 = 0
      · refine Eq.trans ?_ (if_pos c3).symm
        exact g149_0_2 C u1 c1 (u2 c1) c2 (u3 c1 c2) c3
      · refine Eq.trans ?_ (if_neg c3).symm
        exact g149_0_3 C u1 c1 (u2 c1) c2 (u3 c1 c2) c3
theorem t150_0 (C : pmC) {σ : pmS} {x1 : Int32} {x2 : Int32} {l3 : Option pmV}  : pq_Rn C (150, 0, [some (vR 10 0 0), some (vI x1), some (vI x2), l3], [], σ) = pq_Rn C (150, 2, [some (vR 10 0 0), some (vI x1), some (vI x2), some (vI (0 : Int32))], [], σ) := by
  exact g150_0_0 C 
theorem t150_2 (C : pmC) {σ : pmS} {x1 : Int32} {x2 : Int32} {x3 : Int32} {r101 : Int32} {σ101 : pmS} (u1 : (¬ (σ.1 10 0 17 0) ≤ x3) → C 149 [vR 10 0 0, vI x3, vI x2] σ = some (some (vI r101), σ101)) (u2 : (¬ (σ.1 10 0 17 0) ≤ x3) → (¬ r101 = 0) → vp_in x3 40) : pq_Rn C (150, 2, [some (vR 10 0 0), some (vI x1), some (vI x2), some (vI x3)], [], σ) = (if (σ.1 10 0 17 0) ≤ x3 then some (some (vI (-1 : Int32)), σ) else (if r101 = 0 then pq_Rn C (150, 2, [some (vR 10 0 0), some (vI x1), some (vI x2), some (vI (x3 + (1 : Int32)))], [], σ101) else (if (σ101.1 10 0 26 (x3).toNatClampNeg) = x1 then (if (σ101.1 10 0 26 (x3).toNatClampNeg) = x1 then some (some (vI (σ101.1 10 0 27 (x3).toNatClampNeg)), σ101) else some (some (vI (σ101.1 10 0 26 (x3).toNatClampNeg)), σ101)) else (if (σ101.1 10 0 27 (x3).toNatClampNeg) = x1 then (if (σ101.1 10 0 26 (x3).toNatClampNeg) = x1 then some (some (vI (σ101.1 10 0 27 (x3).toNatClampNeg)), σ101) else some (some (vI (σ101.1 10 0 26 (x3).toNatClampNeg)), σ101)) else pq_Rn C (150, 2, [some (vR 10 0 0), some (vI x1), some (vI x2), some (vI (x3 + (1 : Int32)))], [], σ101))))) := by
  by_cases c1 : (σ.1 10 0 17 0) ≤ x3
  · refine Eq.trans ?_ (if_pos c1).symm
    exact g150_2_0 C c1
  · refine Eq.trans ?_ (if_neg c1).symm
    by_cases c2 : r101 = 0
    · refine Eq.trans ?_ (if_pos c2).symm
      exact g150_2_1 C c1 (u1 c1) c2
    · refine Eq.trans ?_ (if_neg c2).symm
      by_cases c3 : (σ101.1 10 0 26 (x3).toNatClampNeg) = x1
      · refine Eq.trans ?_ (if_pos c3).symm
        by_cases c4 : (σ101.1 10 0 26 (x3).toNatClampNeg) = x1
        · refine Eq.trans ?_ (if_pos c4).symm
          exact g150_2_2 C c1 (u1 c1) c2 (u2 c1 c2) c3 c4
        · refine Eq.trans ?_ (if_neg c4).symm
          exact g150_2_3 C c1 (u1 c1) c2 (u2 c1 c2) c3 c4
      · refine Eq.trans ?_ (if_neg c3).symm
        by_cases c5 : (σ101.1 10 0 27 (x3).toNatClampNeg) = x1
        · refine Eq.trans ?_ (if_pos c5).symm
          by_cases c6 : (σ101.1 10 0 26 (x3).toNatClampNeg) = x1
          · refine Eq.trans ?_ (if_pos c6).symm
            exact g150_2_4 C c1 (u1 c1) c2 (u2 c1 c2) c3 c5 c6
          · refine Eq.trans ?_ (if_neg c6).symm
            exact g150_2_5 C c1 (u1 c1) c2 (u2 c1 c2) c3 c5 c6
        · refine Eq.trans ?_ (if_neg c5).symm
          exact g150_2_6 C c1 (u1 c1) c2 (u2 c1 c2) c3 c5
theorem t151_0 (C : pmC) {σ : pmS} {x1 : Int32} {x2 : Int32} (u1 : vp_in x1 48) (u2 : (¬ (σ.1 10 0 23 (x1).toNatClampNeg) = x2) → (¬ (σ.1 10 0 24 (x1).toNatClampNeg) = x2) → vp_in x2 48) : pq_Rn C (151, 0, [some (vR 10 0 0), some (vI x1), some (vI x2)], [], σ) = (if (σ.1 10 0 23 (x1).toNatClampNeg) = x2 then some (some (vI (1 : Int32)), σ) else (if (σ.1 10 0 24 (x1).toNatClampNeg) = x2 then some (some (vI (1 : Int32)), σ) else (if (σ.1 10 0 23 (x2).toNatClampNeg) = x1 then some (some (vI (1 : Int32)), σ) else (if (σ.1 10 0 24 (x2).toNatClampNeg) = x1 then some (some (vI (1 : Int32)), σ) else (if (σ.1 10 0 23 (x1).toNatClampNeg) < 0 then some (some (vI (0 : Int32)), σ) else (if (σ.1 10 0 23 (x1).toNatClampNeg) = (σ.1 10 0 23 (x2).toNatClampNeg) then some (some (vI (1 : Int32)), σ) else (if (σ.1 10 0 24 (x1).toNatClampNeg) = (σ.1 10 0 24 (x2).toNatClampNeg) then some (some (vI (1 : Int32)), σ) else some (some (vI (0 : Int32)), σ)))))))) := by
  by_cases c1 : (σ.1 10 0 23 (x1).toNatClampNeg) = x2
  · refine Eq.trans ?_ (if_pos c1).symm
    exact g151_0_0 C u1 c1
  · refine Eq.trans ?_ (if_neg c1).symm
    by_cases c2 : (σ.1 10 0 24 (x1).toNatClampNeg) = x2
    · refine Eq.trans ?_ (if_pos c2).symm
      exact g151_0_1 C u1 c1 c2
    · refine Eq.trans ?_ (if_neg c2).symm
      by_cases c3 : (σ.1 10 0 23 (x2).toNatClampNeg) = x1
      · refine Eq.trans ?_ (if_pos c3).symm
        exact g151_0_2 C u1 c1 c2 (u2 c1 c2) c3
      · refine Eq.trans ?_ (if_neg c3).symm
        by_cases c4 : (σ.1 10 0 24 (x2).toNatClampNeg) = x1
        · refine Eq.trans ?_ (if_pos c4).symm
          exact g151_0_3 C u1 c1 c2 (u2 c1 c2) c3 c4
        · refine Eq.trans ?_ (if_neg c4).symm
          by_cases c5 : (σ.1 10 0 23 (x1).toNatClampNeg) < 0
          · refine Eq.trans ?_ (if_pos c5).symm
            exact g151_0_4 C u1 c1 c2 (u2 c1 c2) c3 c4 c5
          · refine Eq.trans ?_ (if_neg c5).symm
            by_cases c6 : (σ.1 10 0 23 (x1).toNatClampNeg) = (σ.1 10 0 23 (x2).toNatClampNeg)
            · refine Eq.trans ?_ (if_pos c6).symm
              exact g151_0_5 C u1 c1 c2 (u2 c1 c2) c3 c4 c5 c6
            · refine Eq.trans ?_ (if_neg c6).symm
              by_cases c7 : (σ.1 10 0 24 (x1).toNatClampNeg) = (σ.1 10 0 24 (x2).toNatClampNeg)
              · refine Eq.trans ?_ (if_pos c7).symm
                exact g151_0_6 C u1 c1 c2 (u2 c1 c2) c3 c4 c5 c6 c7
              · refine Eq.trans ?_ (if_neg c7).symm
                exact g151_0_7 C u1 c1 c2 (u2 c1 c2) c3 c4 c5 c6 c7
theorem t152_0 (C : pmC) {σ : pmS} {x1 : Int32} {x2 : Int32} {x3 : Int32} {r101 : Int32} {σ101 : pmS} {r102 : Int32} {σ102 : pmS} {r103 : Int32} {σ103 : pmS} {r104 : Int32} {σ104 : pmS} {r105 : Int32} {σ105 : pmS} {r106 : Int32} {σ106 : pmS} (u1 : C 141 [vR 10 0 0, vI x1, vI x3] σ = some (some (vI r101), σ101)) (u2 : (¬ r101 = 0) → C 141 [vR 10 0 0, vI x2, vI x3] σ101 = some (some (vI r102), σ102)) (u3 : (¬ r101 = 0) → (¬ r102 = 0) → vp_in x1 48) (u4 : (¬ r101 = 0) → (¬ r102 = 0) → (¬ (x3 - (σ102.1 10 0 20 (x1).toNatClampNeg)) < (σ102.1 10 0 18 0)) → vp_in x2 48) (u5 : (¬ r101 = 0) → (¬ r102 = 0) → (¬ (x3 - (σ102.1 10 0 20 (x1).toNatClampNeg)) < (σ102.1 10 0 18 0)) → ((σ102.1 10 0 18 0) ≤ (x3 - (σ102.1 10 0 20 (x2).toNatClampNeg))) → C 150 [vR 10 0 0, vI x1, vI x3] σ102 = some (some (vI r103), σ103)) (u6 : (¬ r101 = 0) → (¬ r102 = 0) → (¬ (x3 - (σ102.1 10 0 20 (x1).toNatClampNeg)) < (σ102.1 10 0 18 0)) → ((σ102.1 10 0 18 0) ≤ (x3 - (σ102.1 10 0 20 (x2).toNatClampNeg))) → (¬ 0 ≤ r103) → C 150 [vR 10 0 0, vI x2, vI x3] σ103 = some (some (vI r104), σ104)) (u7 : (¬ r101 = 0) → (¬ r102 = 0) → (¬ (x3 - (σ102.1 10 0 20 (x1).toNatClampNeg)) < (σ102.1 10 0 18 0)) → ((σ102.1 10 0 18 0) ≤ (x3 - (σ102.1 10 0 20 (x2).toNatClampNeg))) → (¬ 0 ≤ r103) → (r104 < 0) → C 151 [vR 10 0 0, vI x1, vI x2] σ104 = some (some (vI r105), σ105)) (u8 : (¬ r101 = 0) → (¬ r102 = 0) → (¬ (x3 - (σ102.1 10 0 20 (x1).toNatClampNeg)) < (σ102.1 10 0 18 0)) → ((σ102.1 10 0 18 0) ≤ (x3 - (σ102.1 10 0 20 (x2).toNatClampNeg))) → (¬ 0 ≤ r103) → (r104 < 0) → (r105 = 0) → C 148 [vR 10 0 0, vI x1, vI x2, vI x3] σ105 = some (some (vI r106), σ106)) : pq_Rn C (152, 0, [some (vR 10 0 0), some (vI x1), some (vI x2), some (vI x3)], [], σ) = (if r101 = 0 then some (some (vI (1 : Int32)), σ101) else (if r102 = 0 then some (some (vI (1 : Int32)), σ102) else (if (x3 - (σ102.1 10 0 20 (x1).toNatClampNeg)) < (σ102.1 10 0 18 0) then some (some (vI (2 : Int32)), σ102) else (if (σ102.1 10 0 18 0) ≤ (x3 - (σ102.1 10 0 20 (x2).toNatClampNeg)) then (if 0 ≤ r103 then some (some (vI (3 : Int32)), σ103) else (if r104 < 0 then (if r105 = 0 then (if r106 = 0 then some (some (vI (5 : Int32)), σ106) else some (some (vI (0 : Int32)), σ106)) else some (some (vI (4 : Int32)), σ105)) else some (some (vI (3 : Int32)), σ104))) else some (some (vI (2 : Int32)), σ102))))) := by
  by_cases c1 : r101 = 0
  · refine Eq.trans ?_ (if_pos c1).symm
    exact g152_0_0 C u1 c1
  · refine Eq.trans ?_ (if_neg c1).symm
    by_cases c2 : r102 = 0
    · refine Eq.trans ?_ (if_pos c2).symm
      exact g152_0_1 C u1 c1 (u2 c1) c2
    · refine Eq.trans ?_ (if_neg c2).symm
      by_cases c3 : (x3 - (σ102.1 10 0 20 (x1).toNatClampNeg)) < (σ102.1 10 0 18 0)
      · refine Eq.trans ?_ (if_pos c3).symm
        exact g152_0_2 C u1 c1 (u2 c1) c2 (u3 c1 c2) c3
      · refine Eq.trans ?_ (if_neg c3).symm
        by_cases c4 : (σ102.1 10 0 18 0) ≤ (x3 - (σ102.1 10 0 20 (x2).toNatClampNeg))
        · refine Eq.trans ?_ (if_pos c4).symm
          by_cases c5 : 0 ≤ r103
          · refine Eq.trans ?_ (if_pos c5).symm
            exact g152_0_3 C u1 c1 (u2 c1) c2 (u3 c1 c2) c3 (u4 c1 c2 c3) c4 (u5 c1 c2 c3 c4) c5
          · refine Eq.trans ?_ (if_neg c5).symm
            by_cases c6 : r104 < 0
            · refine Eq.trans ?_ (if_pos c6).symm
              by_cases c7 : r105 = 0
              · refine Eq.trans ?_ (if_pos c7).symm
                by_cases c8 : r106 = 0
                · refine Eq.trans ?_ (if_pos c8).symm
                  exact g152_0_4 C u1 c1 (u2 c1) c2 (u3 c1 c2) c3 (u4 c1 c2 c3) c4 (u5 c1 c2 c3 c4) c5 (u6 c1 c2 c3 c4 c5) c6 (u7 c1 c2 c3 c4 c5 c6) c7 (u8 c1 c2 c3 c4 c5 c6 c7) c8
                · refine Eq.trans ?_ (if_neg c8).symm
                  exact g152_0_5 C u1 c1 (u2 c1) c2 (u3 c1 c2) c3 (u4 c1 c2 c3) c4 (u5 c1 c2 c3 c4) c5 (u6 c1 c2 c3 c4 c5) c6 (u7 c1 c2 c3 c4 c5 c6) c7 (u8 c1 c2 c3 c4 c5 c6 c7) c8
              · refine Eq.trans ?_ (if_neg c7).symm
                exact g152_0_6 C u1 c1 (u2 c1) c2 (u3 c1 c2) c3 (u4 c1 c2 c3) c4 (u5 c1 c2 c3 c4) c5 (u6 c1 c2 c3 c4 c5) c6 (u7 c1 c2 c3 c4 c5 c6) c7
            · refine Eq.trans ?_ (if_neg c6).symm
              exact g152_0_7 C u1 c1 (u2 c1) c2 (u3 c1 c2) c3 (u4 c1 c2 c3) c4 (u5 c1 c2 c3 c4) c5 (u6 c1 c2 c3 c4 c5) c6
        · refine Eq.trans ?_ (if_neg c4).symm
          exact g152_0_8 C u1 c1 (u2 c1) c2 (u3 c1 c2) c3 (u4 c1 c2 c3) c4
theorem t153_0 (C : pmC) {σ : pmS} {x1 : Int32} {x2 : Int32} {x3 : Int32} {l4 : Option pmV} {r101 : Int32} {σ101 : pmS} {r102 : Int32} {σ102 : pmS} {r103 : Int32} {σ103 : pmS} {σ104 : pmS} {r105 : Int32} {σ105 : pmS} (u1 : C 134 [vR 10 0 0, vI x1] σ = some (some (vI r101), σ101)) (u2 : (¬ r101 = 0) → C 134 [vR 10 0 0, vI x2] σ101 = some (some (vI r102), σ102)) (u3 : (¬ r101 = 0) → (¬ r102 = 0) → C 138 [vI x3] σ102 = some (some (vI r103), σ103)) (u4 : (¬ r101 = 0) → (¬ r102 = 0) → (¬ r103 = 0) → vp_in x1 48) (u5 : (¬ r101 = 0) → (¬ r102 = 0) → (¬ r103 = 0) → ((σ103.1 10 0 19 (x1).toNatClampNeg) = 0) → vp_in x2 48) (u6 : (¬ r101 = 0) → (¬ r102 = 0) → (¬ r103 = 0) → ((σ103.1 10 0 19 (x1).toNatClampNeg) = 0) → ((σ103.1 10 0 19 (x2).toNatClampNeg) = (1 : Int32)) → C 146 [vR 10 0 0] σ103 = some (none, σ104)) (u7 : (¬ r101 = 0) → (¬ r102 = 0) → (¬ r103 = 0) → ((σ103.1 10 0 19 (x1).toNatClampNeg) = 0) → ((σ103.1 10 0 19 (x2).toNatClampNeg) = (1 : Int32)) → C 152 [vR 10 0 0, vI x1, vI x2, vI x3] σ104 = some (some (vI r105), σ105)) (u8 : (¬ r101 = 0) → (¬ r102 = 0) → (¬ r103 = 0) → ((σ103.1 10 0 19 (x1).toNatClampNeg) = 0) → ((σ103.1 10 0 19 (x2).toNatClampNeg) = (1 : Int32)) → (r105 ≤ 0) → (¬ (σ105.1 10 0 17 0) = (40 : Int32)) → vp_in (σ105.1 10 0 17 0) 40) (u9 : (¬ r101 = 0) → (¬ r102 = 0) → (¬ r103 = 0) → ((σ103.1 10 0 19 (x1).toNatClampNeg) = 0) → ((σ103.1 10 0 19 (x2).toNatClampNeg) = (1 : Int32)) → (¬ r105 ≤ 0) → ((5 : Int32) ≤ r105) → (¬ (σ105.1 10 0 17 0) = (40 : Int32)) → vp_in (σ105.1 10 0 17 0) 40) : pq_Rn C (153, 0, [some (vR 10 0 0), some (vI x1), some (vI x2), some (vI x3), l4], [], σ) = (if r101 = 0 then some (some (vI (-1 : Int32)), σ101) else (if r102 = 0 then some (some (vI (-1 : Int32)), σ102) else (if r103 = 0 then some (some (vI (-2 : Int32)), σ103) else (if (σ103.1 10 0 19 (x1).toNatClampNeg) = 0 then (if (σ103.1 10 0 19 (x2).toNatClampNeg) = (1 : Int32) then (if r105 ≤ 0 then (if (σ105.1 10 0 17 0) = (40 : Int32) then some (some (vI (-4 : Int32)), σ105) else (if r105 = 0 then some (some (vI (1 : Int32)), (pm_wi (pm_wi (pm_wi (pm_wi σ105 10 0 26 ((σ105.1 10 0 17 0)).toNatClampNeg x1) 10 0 27 ((σ105.1 10 0 17 0)).toNatClampNeg x2) 10 0 28 ((σ105.1 10 0 17 0)).toNatClampNeg x3) 10 0 17 0 ((σ105.1 10 0 17 0) + (1 : Int32)))) else some (some (vI (0 : Int32)), (pm_wi (pm_wi (pm_wi (pm_wi σ105 10 0 26 ((σ105.1 10 0 17 0)).toNatClampNeg x1) 10 0 27 ((σ105.1 10 0 17 0)).toNatClampNeg x2) 10 0 28 ((σ105.1 10 0 17 0)).toNatClampNeg x3) 10 0 17 0 ((σ105.1 10 0 17 0) + (1 : Int32)))))) else (if (5 : Int32) ≤ r105 then (if (σ105.1 10 0 17 0) = (40 : Int32) then some (some (vI (-4 : Int32)), σ105) else (if r105 = 0 then some (some (vI (1 : Int32)), (pm_wi (pm_wi (pm_wi (pm_wi σ105 10 0 26 ((σ105.1 10 0 17 0)).toNatClampNeg x1) 10 0 27 ((σ105.1 10 0 17 0)).toNatClampNeg x2) 10 0 28 ((σ105.1 10 0 17 0)).toNatClampNeg x3) 10 0 17 0 ((σ105.1 10 0 17 0) + (1 : Int32)))) else some (some (vI (0 : Int32)), (pm_wi (pm_wi (pm_wi (pm_wi σ105 10 0 26 ((σ105.1 10 0 17 0)).toNatClampNeg x1) 10 0 27 ((σ105.1 10 0 17 0)).toNatClampNeg x2) 10 0 28 ((σ105.1 10 0 17 0)).toNatClampNeg x3) 10 0 17 0 ((σ105.1 10 0 17 0) + (1 : Int32)))))) else some (some (vI (-3 : Int32)), σ105))) else some (some (vI (-2 : Int32)), σ103)) else some (some (vI (-2 : Int32)), σ103))))) := by
  by_cases c1 : r101 = 0
  · refine Eq.trans ?_ (if_pos c1).symm
    exact g153_0_0 C u1 c1
  · refine Eq.trans ?_ (if_neg c1).symm
    by_cases c2 : r102 = 0
    · refine Eq.trans ?_ (if_pos c2).symm
      exact g153_0_1 C u1 c1 (u2 c1) c2
    · refine Eq.trans ?_ (if_neg c2).symm
      by_cases c3 : r103 = 0
      · refine Eq.trans ?_ (if_pos c3).symm
        exact g153_0_2 C u1 c1 (u2 c1) c2 (u3 c1 c2) c3
      · refine Eq.trans ?_ (if_neg c3).symm
        by_cases c4 : (σ103.1 10 0 19 (x1).toNatClampNeg) = 0
        · refine Eq.trans ?_ (if_pos c4).symm
          by_cases c5 : (σ103.1 10 0 19 (x2).toNatClampNeg) = (1 : Int32)
          · refine Eq.trans ?_ (if_pos c5).symm
            by_cases c6 : r105 ≤ 0
            · refine Eq.trans ?_ (if_pos c6).symm
              by_cases c7 : (σ105.1 10 0 17 0) = (40 : Int32)
              · refine Eq.trans ?_ (if_pos c7).symm
                exact g153_0_3 C u1 c1 (u2 c1) c2 (u3 c1 c2) c3 (u4 c1 c2 c3) c4 (u5 c1 c2 c3 c4) c5 (u6 c1 c2 c3 c4 c5) (u7 c1 c2 c3 c4 c5) c6 c7
              · refine Eq.trans ?_ (if_neg c7).symm
                by_cases c8 : r105 = 0
                · refine Eq.trans ?_ (if_pos c8).symm
                  exact g153_0_4 C u1 c1 (u2 c1) c2 (u3 c1 c2) c3 (u4 c1 c2 c3) c4 (u5 c1 c2 c3 c4) c5 (u6 c1 c2 c3 c4 c5) (u7 c1 c2 c3 c4 c5) c6 c7 (u8 c1 c2 c3 c4 c5 c6 c7) c8
                · refine Eq.trans ?_ (if_neg c8).symm
                  exact g153_0_5 C u1 c1 (u2 c1) c2 (u3 c1 c2) c3 (u4 c1 c2 c3) c4 (u5 c1 c2 c3 c4) c5 (u6 c1 c2 c3 c4 c5) (u7 c1 c2 c3 c4 c5) c6 c7 (u8 c1 c2 c3 c4 c5 c6 c7) c8
            · refine Eq.trans ?_ (if_neg c6).symm
              by_cases c9 : (5 : Int32) ≤ r105
              · refine Eq.trans ?_ (if_pos c9).symm
                by_cases c10 : (σ105.1 10 0 17 0) = (40 : Int32)
                · refine Eq.trans ?_ (if_pos c10).symm
                  exact g153_0_6 C u1 c1 (u2 c1) c2 (u3 c1 c2) c3 (u4 c1 c2 c3) c4 (u5 c1 c2 c3 c4) c5 (u6 c1 c2 c3 c4 c5) (u7 c1 c2 c3 c4 c5) c6 c9 c10
                · refine Eq.trans ?_ (if_neg c10).symm
                  by_cases c11 : r105 = 0
                  · refine Eq.trans ?_ (if_pos c11).symm
                    exact g153_0_7 C u1 c1 (u2 c1) c2 (u3 c1 c2) c3 (u4 c1 c2 c3) c4 (u5 c1 c2 c3 c4) c5 (u6 c1 c2 c3 c4 c5) (u7 c1 c2 c3 c4 c5) c6 c9 c10 (u9 c1 c2 c3 c4 c5 c6 c9 c10) c11
                  · refine Eq.trans ?_ (if_neg c11).symm
                    exact g153_0_8 C u1 c1 (u2 c1) c2 (u3 c1 c2) c3 (u4 c1 c2 c3) c4 (u5 c1 c2 c3 c4) c5 (u6 c1 c2 c3 c4 c5) (u7 c1 c2 c3 c4 c5) c6 c9 c10 (u9 c1 c2 c3 c4 c5 c6 c9 c10) c11
              · refine Eq.trans ?_ (if_neg c9).symm
                exact g153_0_9 C u1 c1 (u2 c1) c2 (u3 c1 c2) c3 (u4 c1 c2 c3) c4 (u5 c1 c2 c3 c4) c5 (u6 c1 c2 c3 c4 c5) (u7 c1 c2 c3 c4 c5) c6 c9
          · refine Eq.trans ?_ (if_neg c5).symm
            exact g153_0_10 C u1 c1 (u2 c1) c2 (u3 c1 c2) c3 (u4 c1 c2 c3) c4 (u5 c1 c2 c3 c4) c5
        · refine Eq.trans ?_ (if_neg c4).symm
          exact g153_0_11 C u1 c1 (u2 c1) c2 (u3 c1 c2) c3 (u4 c1 c2 c3) c4
theorem t154_0 (C : pmC) {σ : pmS} {x1 : Int32} {x2 : Int32} {x3 : Int32} {r101 : Int32} {σ101 : pmS} {r102 : Int32} {σ102 : pmS} {r103 : Int32} {σ103 : pmS} {σ104 : pmS} {r105 : Int32} {σ105 : pmS} (u1 : C 134 [vR 10 0 0, vI x1] σ = some (some (vI r101), σ101)) (u2 : (¬ r101 = 0) → C 134 [vR 10 0 0, vI x2] σ101 = some (some (vI r102), σ102)) (u3 : (¬ r101 = 0) → (¬ r102 = 0) → C 138 [vI x3] σ102 = some (some (vI r103), σ103)) (u4 : (¬ r101 = 0) → (¬ r102 = 0) → (¬ r103 = 0) → vp_in x1 48) (u5 : (¬ r101 = 0) → (¬ r102 = 0) → (¬ r103 = 0) → ((σ103.1 10 0 19 (x1).toNatClampNeg) = 0) → vp_in x2 48) (u6 : (¬ r101 = 0) → (¬ r102 = 0) → (¬ r103 = 0) → ((σ103.1 10 0 19 (x1).toNatClampNeg) = 0) → ((σ103.1 10 0 19 (x2).toNatClampNeg) = (1 : Int32)) → C 146 [vR 10 0 0] σ103 = some (none, σ104)) (u7 : (¬ r101 = 0) → (¬ r102 = 0) → (¬ r103 = 0) → ((σ103.1 10 0 19 (x1).toNatClampNeg) = 0) → ((σ103.1 10 0 19 (x2).toNatClampNeg) = (1 : Int32)) → C 152 [vR 10 0 0, vI x1, vI x2, vI x3] σ104 = some (some (vI r105), σ105)) : pq_Rn C (154, 0, [some (vR 10 0 0), some (vI x1), some (vI x2), some (vI x3)], [], σ) = (if r101 = 0 then some (some (vI (-1 : Int32)), σ101) else (if r102 = 0 then some (some (vI (-1 : Int32)), σ102) else (if r103 = 0 then some (some (vI (-2 : Int32)), σ103) else (if (σ103.1 10 0 19 (x1).toNatClampNeg) = 0 then (if (σ103.1 10 0 19 (x2).toNatClampNeg) = (1 : Int32) then some (some (vI r105), σ105) else some (some (vI (-2 : Int32)), σ103)) else some (some (vI (-2 : Int32)), σ103))))) := by
  by_cases c1 : r101 = 0
  · refine Eq.trans ?_ (if_pos c1).symm
    exact g154_0_0 C u1 c1
  · refine Eq.trans ?_ (if_neg c1).symm
    by_cases c2 : r102 = 0
    · refine Eq.trans ?_ (if_pos c2).symm
      exact g154_0_1 C u1 c1 (u2 c1) c2
    · refine Eq.trans ?_ (if_neg c2).symm
      by_cases c3 : r103 = 0
      · refine Eq.trans ?_ (if_pos c3).symm
        exact g154_0_2 C u1 c1 (u2 c1) c2 (u3 c1 c2) c3
      · refine Eq.trans ?_ (if_neg c3).symm
        by_cases c4 : (σ103.1 10 0 19 (x1).toNatClampNeg) = 0
        · refine Eq.trans ?_ (if_pos c4).symm
          by_cases c5 : (σ103.1 10 0 19 (x2).toNatClampNeg) = (1 : Int32)
          · refine Eq.trans ?_ (if_pos c5).symm
            exact g154_0_3 C u1 c1 (u2 c1) c2 (u3 c1 c2) c3 (u4 c1 c2 c3) c4 (u5 c1 c2 c3 c4) c5 (u6 c1 c2 c3 c4 c5) (u7 c1 c2 c3 c4 c5)
          · refine Eq.trans ?_ (if_neg c5).symm
            exact g154_0_4 C u1 c1 (u2 c1) c2 (u3 c1 c2) c3 (u4 c1 c2 c3) c4 (u5 c1 c2 c3 c4) c5
        · refine Eq.trans ?_ (if_neg c4).symm
          exact g154_0_5 C u1 c1 (u2 c1) c2 (u3 c1 c2) c3 (u4 c1 c2 c3) c4
theorem t155_0 (C : pmC) {σ : pmS} {x1 : Int32} {x2 : Int32} {r101 : Int32} {σ101 : pmS} {σ102 : pmS} {r103 : Int32} {σ103 : pmS} (u1 : C 134 [vR 10 0 0, vI x1] σ = some (some (vI r101), σ101)) (u2 : (¬ r101 = 0) → C 146 [vR 10 0 0] σ101 = some (none, σ102)) (u3 : (¬ r101 = 0) → (x2 = (0 : Int32)) → vp_in x1 48) (u4 : (¬ r101 = 0) → (¬ x2 = (0 : Int32)) → (x2 = (1 : Int32)) → vp_in x1 48) (u5 : (¬ r101 = 0) → (¬ x2 = (0 : Int32)) → (¬ x2 = (1 : Int32)) → (x2 = (2 : Int32)) → vp_in x1 48) (u6 : (¬ r101 = 0) → (¬ x2 = (0 : Int32)) → (¬ x2 = (1 : Int32)) → (¬ x2 = (2 : Int32)) → (x2 = (3 : Int32)) → vp_in x1 48) (u7 : (¬ r101 = 0) → (¬ x2 = (0 : Int32)) → (¬ x2 = (1 : Int32)) → (¬ x2 = (2 : Int32)) → (¬ x2 = (3 : Int32)) → (x2 = (4 : Int32)) → vp_in x1 48) (u8 : (¬ r101 = 0) → (¬ x2 = (0 : Int32)) → (¬ x2 = (1 : Int32)) → (¬ x2 = (2 : Int32)) → (¬ x2 = (3 : Int32)) → (¬ x2 = (4 : Int32)) → (x2 = (5 : Int32)) → vp_in x1 48) (u9 : (¬ r101 = 0) → (¬ x2 = (0 : Int32)) → (¬ x2 = (1 : Int32)) → (¬ x2 = (2 : Int32)) → (¬ x2 = (3 : Int32)) → (¬ x2 = (4 : Int32)) → (¬ x2 = (5 : Int32)) → (x2 = (6 : Int32)) → vp_in x1 48) (u10 : (¬ r101 = 0) → (¬ x2 = (0 : Int32)) → (¬ x2 = (1 : Int32)) → (¬ x2 = (2 : Int32)) → (¬ x2 = (3 : Int32)) → (¬ x2 = (4 : Int32)) → (¬ x2 = (5 : Int32)) → (¬ x2 = (6 : Int32)) → (x2 = (7 : Int32)) → vp_in x1 48) (u11 : (¬ r101 = 0) → (¬ x2 = (0 : Int32)) → (¬ x2 = (1 : Int32)) → (¬ x2 = (2 : Int32)) → (¬ x2 = (3 : Int32)) → (¬ x2 = (4 : Int32)) → (¬ x2 = (5 : Int32)) → (¬ x2 = (6 : Int32)) → (¬ x2 = (7 : Int32)) → (x2 = (8 : Int32)) → C 147 [vR 10 0 0, vI x1] σ102 = some (some (vI r103), σ103)) : pq_Rn C (155, 0, [some (vR 10 0 0), some (vI x1), some (vI x2)], [], σ) = (if r101 = 0 then some (some (vI (-5 : Int32)), σ101) else (if x2 = (0 : Int32) then some (some (vI (σ102.1 10 0 19 (x1).toNatClampNeg)), σ102) else (if x2 = (1 : Int32) then some (some (vI (σ102.1 10 0 20 (x1).toNatClampNeg)), σ102) else (if x2 = (2 : Int32) then some (some (vI (σ102.1 10 0 21 (x1).toNatClampNeg)), σ102) else (if x2 = (3 : Int32) then some (some (vI (σ102.1 10 0 22 (x1).toNatClampNeg)), σ102) else (if x2 = (4 : Int32) then some (some (vI (σ102.1 10 0 23 (x1).toNatClampNeg)), σ102) else (if x2 = (5 : Int32) then some (some (vI (σ102.1 10 0 24 (x1).toNatClampNeg)), σ102) else (if x2 = (6 : Int32) then some (some (vI (σ102.1 10 0 29 (x1).toNatClampNeg)), σ102) else (if x2 = (7 : Int32) then some (some (vI (σ102.1 10 0 30 (x1).toNatClampNeg)), σ102) else (if x2 = (8 : Int32) then (if r103 = 0 then some (some (vI (0 : Int32)), σ103) else some (some (vI (1 : Int32)), σ103)) else some (some (vI (-5 : Int32)), σ102))))))))))) := by
  by_cases c1 : r101 = 0
  · refine Eq.trans ?_ (if_pos c1).symm
    exact g155_0_0 C u1 c1
  · refine Eq.trans ?_ (if_neg c1).symm
    by_cases c2 : x2 = (0 : Int32)
    · refine Eq.trans ?_ (if_pos c2).symm
      exact g155_0_1 C u1 c1 (u2 c1) c2 (u3 c1 c2)
    · refine Eq.trans ?_ (if_neg c2).symm
      by_cases c3 : x2 = (1 : Int32)
      · refine Eq.trans ?_ (if_pos c3).symm
        exact g155_0_2 C u1 c1 (u2 c1) c3 (u4 c1 c2 c3)
      · refine Eq.trans ?_ (if_neg c3).symm
        by_cases c4 : x2 = (2 : Int32)
        · refine Eq.trans ?_ (if_pos c4).symm
          exact g155_0_3 C u1 c1 (u2 c1) c4 (u5 c1 c2 c3 c4)
        · refine Eq.trans ?_ (if_neg c4).symm
          by_cases c5 : x2 = (3 : Int32)
          · refine Eq.trans ?_ (if_pos c5).symm
            exact g155_0_4 C u1 c1 (u2 c1) c5 (u6 c1 c2 c3 c4 c5)
          · refine Eq.trans ?_ (if_neg c5).symm
            by_cases c6 : x2 = (4 : Int32)
            · refine Eq.trans ?_ (if_pos c6).symm
              exact g155_0_5 C u1 c1 (u2 c1) c6 (u7 c1 c2 c3 c4 c5 c6)
            · refine Eq.trans ?_ (if_neg c6).symm
              by_cases c7 : x2 = (5 : Int32)
              · refine Eq.trans ?_ (if_pos c7).symm
                exact g155_0_6 C u1 c1 (u2 c1) c7 (u8 c1 c2 c3 c4 c5 c6 c7)
              · refine Eq.trans ?_ (if_neg c7).symm
                by_cases c8 : x2 = (6 : Int32)
                · refine Eq.trans ?_ (if_pos c8).symm
                  exact g155_0_7 C u1 c1 (u2 c1) c8 (u9 c1 c2 c3 c4 c5 c6 c7 c8)
                · refine Eq.trans ?_ (if_neg c8).symm
                  by_cases c9 : x2 = (7 : Int32)
                  · refine Eq.trans ?_ (if_pos c9).symm
                    exact g155_0_8 C u1 c1 (u2 c1) c9 (u10 c1 c2 c3 c4 c5 c6 c7 c8 c9)
                  · refine Eq.trans ?_ (if_neg c9).symm
                    by_cases c10 : x2 = (8 : Int32)
                    · refine Eq.trans ?_ (if_pos c10).symm
                      by_cases c11 : r103 = 0
                      · refine Eq.trans ?_ (if_pos c11).symm
                        exact g155_0_9 C u1 c1 (u2 c1) c10 (u11 c1 c2 c3 c4 c5 c6 c7 c8 c9 c10) c11
                      · refine Eq.trans ?_ (if_neg c11).symm
                        exact g155_0_10 C u1 c1 (u2 c1) c10 (u11 c1 c2 c3 c4 c5 c6 c7 c8 c9 c10) c11
                    · refine Eq.trans ?_ (if_neg c10).symm
                      exact g155_0_11 C u1 c1 (u2 c1) c2 c3 c4 c5 c6 c7 c8 c9 c10
theorem t156_0 (C : pmC) {σ : pmS} {x1 : Int32} {x2 : Int32} {r101 : Int32} {σ101 : pmS} {r102 : Int32} {σ102 : pmS} (u1 : C 134 [vR 10 0 0, vI x1] σ = some (some (vI r101), σ101)) (u2 : (¬ r101 = 0) → C 150 [vR 10 0 0, vI x1, vI x2] σ101 = some (some (vI r102), σ102)) : pq_Rn C (156, 0, [some (vR 10 0 0), some (vI x1), some (vI x2)], [], σ) = (if r101 = 0 then some (some (vI (-1 : Int32)), σ101) else some (some (vI r102), σ102)) := by
  by_cases c1 : r101 = 0
  · refine Eq.trans ?_ (if_pos c1).symm
    exact g156_0_0 C u1 c1
  · refine Eq.trans ?_ (if_neg c1).symm
    exact g156_0_1 C u1 c1 (u2 c1)
theorem t157_0 (C : pmC) {σ : pmS} {x1 : Int32} {x2 : Int32} {l3 : Option pmV} {l4 : Option pmV} {r101 : Int32} {σ101 : pmS} (u1 : C 134 [vR 10 0 0, vI x1] σ = some (some (vI r101), σ101)) : pq_Rn C (157, 0, [some (vR 10 0 0), some (vI x1), some (vI x2), l3, l4], [], σ) = (if r101 = 0 then some (some (vI (-1 : Int32)), σ101) else pq_Rn C (157, 15, [some (vR 10 0 0), some (vI x1), some (vI x2), some (vI (0 : Int32)), some (vI (0 : Int32))], [], σ101)) := by
  by_cases c1 : r101 = 0
  · refine Eq.trans ?_ (if_pos c1).symm
    exact g157_0_0 C u1 c1
  · refine Eq.trans ?_ (if_neg c1).symm
    exact g157_0_1 C u1 c1
theorem t157_15 (C : pmC) {σ : pmS} {x1 : Int32} {x2 : Int32} {x3 : Int32} {x4 : Int32} (u1 : (¬ (σ.1 10 0 16 0) ≤ x4) → vp_in x4 48) : pq_Rn C (157, 15, [some (vR 10 0 0), some (vI x1), some (vI x2), some (vI x3), some (vI x4)], [], σ) = (if (σ.1 10 0 16 0) ≤ x4 then some (some (vI x3), σ) else (if (σ.1 10 0 23 (x4).toNatClampNeg) = x1 then (if x2 < (σ.1 10 0 20 (x4).toNatClampNeg) then pq_Rn C (157, 15, [some (vR 10 0 0), some (vI x1), some (vI x2), some (vI (x3 + (0 : Int32))), some (vI (x4 + (1 : Int32)))], [], σ) else pq_Rn C (157, 15, [some (vR 10 0 0), some (vI x1), some (vI x2), some (vI (x3 + (1 : Int32))), some (vI (x4 + (1 : Int32)))], [], σ)) else (if (σ.1 10 0 24 (x4).toNatClampNeg) = x1 then (if x2 < (σ.1 10 0 20 (x4).toNatClampNeg) then pq_Rn C (157, 15, [some (vR 10 0 0), some (vI x1), some (vI x2), some (vI (x3 + (0 : Int32))), some (vI (x4 + (1 : Int32)))], [], σ) else pq_Rn C (157, 15, [some (vR 10 0 0), some (vI x1), some (vI x2), some (vI (x3 + (1 : Int32))), some (vI (x4 + (1 : Int32)))], [], σ)) else pq_Rn C (157, 15, [some (vR 10 0 0), some (vI x1), some (vI x2), some (vI (x3 + (0 : Int32))), some (vI (x4 + (1 : Int32)))], [], σ)))) := by
  by_cases c1 : (σ.1 10 0 16 0) ≤ x4
  · refine Eq.trans ?_ (if_pos c1).symm
    exact g157_15_0 C c1
  · refine Eq.trans ?_ (if_neg c1).symm
    by_cases c2 : (σ.1 10 0 23 (x4).toNatClampNeg) = x1
    · refine Eq.trans ?_ (if_pos c2).symm
      by_cases c3 : x2 < (σ.1 10 0 20 (x4).toNatClampNeg)
      · refine Eq.trans ?_ (if_pos c3).symm
        exact g157_15_1 C c1 (u1 c1) c2 c3
      · refine Eq.trans ?_ (if_neg c3).symm
        exact g157_15_2 C c1 (u1 c1) c2 c3
    · refine Eq.trans ?_ (if_neg c2).symm
      by_cases c4 : (σ.1 10 0 24 (x4).toNatClampNeg) = x1
      · refine Eq.trans ?_ (if_pos c4).symm
        by_cases c5 : x2 < (σ.1 10 0 20 (x4).toNatClampNeg)
        · refine Eq.trans ?_ (if_pos c5).symm
          exact g157_15_3 C c1 (u1 c1) c2 c4 c5
        · refine Eq.trans ?_ (if_neg c5).symm
          exact g157_15_4 C c1 (u1 c1) c2 c4 c5
      · refine Eq.trans ?_ (if_neg c4).symm
        exact g157_15_5 C c1 (u1 c1) c2 c4
theorem t158_0 (C : pmC) {σ : pmS} {x1 : Int32} {x2 : Int32} {x3 : Int32} {l4 : Option pmV} {l5 : Option pmV} {r101 : Int32} {σ101 : pmS} {r102 : Int32} {σ102 : pmS} {σ103 : pmS} (u1 : C 133 [vR 10 0 0, vI x1] σ = some (some (vI r101), σ101)) (u2 : (¬ r101 = 0) → C 105 [vL (x3).toInt64, vL (-1 : Int64), vL (7 : Int64)] σ101 = some (some (vI r102), σ102)) (u3 : (¬ r101 = 0) → (¬ r102 = 0) → C 146 [vR 10 0 0] σ102 = some (none, σ103)) : pq_Rn C (158, 0, [some (vR 10 0 0), some (vI x1), some (vI x2), some (vI x3), l4, l5], [], σ) = (if r101 = 0 then some (some (vI (-1 : Int32)), σ101) else (if r102 = 0 then some (some (vI (-1 : Int32)), σ102) else pq_Rn C (158, 34, [some (vR 10 0 0), some (vI x1), some (vI x2), some (vI x3), some (vI (0 : Int32)), some (vI (0 : Int32))], [], σ103))) := by
  by_cases c1 : r101 = 0
  · refine Eq.trans ?_ (if_pos c1).symm
    exact g158_0_0 C u1 c1
  · refine Eq.trans ?_ (if_neg c1).symm
    by_cases c2 : r102 = 0
    · refine Eq.trans ?_ (if_pos c2).symm
      exact g158_0_1 C u1 c1 (u2 c1) c2
    · refine Eq.trans ?_ (if_neg c2).symm
      exact g158_0_2 C u1 c1 (u2 c1) c2 (u3 c1 c2)
theorem t158_34 (C : pmC) {σ : pmS} {x1 : Int32} {x2 : Int32} {x3 : Int32} {x4 : Int32} {x5 : Int32} {r101 : Int32} {σ101 : pmS} (u1 : (¬ (σ.1 10 0 16 0) ≤ x5) → vp_in x5 48) (u2 : (¬ (σ.1 10 0 16 0) ≤ x5) → ((σ.1 10 0 22 (x5).toNatClampNeg) = x1) → C 141 [vR 10 0 0, vI x5, vI x2] σ = some (some (vI r101), σ101)) : pq_Rn C (158, 34, [some (vR 10 0 0), some (vI x1), some (vI x2), some (vI x3), some (vI x4), some (vI x5)], [], σ) = (if (σ.1 10 0 16 0) ≤ x5 then some (some (vI x4), σ) else (if (σ.1 10 0 22 (x5).toNatClampNeg) = x1 then (if r101 = 0 then pq_Rn C (158, 34, [some (vR 10 0 0), some (vI x1), some (vI x2), some (vI x3), some (vI (x4 + (0 : Int32))), some (vI (x5 + (1 : Int32)))], [], σ101) else (if x3 = (-1 : Int32) then pq_Rn C (158, 34, [some (vR 10 0 0), some (vI x1), some (vI x2), some (vI x3), some (vI (x4 + (1 : Int32))), some (vI (x5 + (1 : Int32)))], [], σ101) else (if (σ101.1 10 0 29 (x5).toNatClampNeg) = x3 then pq_Rn C (158, 34, [some (vR 10 0 0), some (vI x1), some (vI x2), some (vI x3), some (vI (x4 + (1 : Int32))), some (vI (x5 + (1 : Int32)))], [], σ101) else pq_Rn C (158, 34, [some (vR 10 0 0), some (vI x1), some (vI x2), some (vI x3), some (vI (x4 + (0 : Int32))), some (vI (x5 + (1 : Int32)))], [], σ101)))) else pq_Rn C (158, 34, [some (vR 10 0 0), some (vI x1), some (vI x2), some (vI x3), some (vI (x4 + (0 : Int32))), some (vI (x5 + (1 : Int32)))], [], σ))) := by
  by_cases c1 : (σ.1 10 0 16 0) ≤ x5
  · refine Eq.trans ?_ (if_pos c1).symm
    exact g158_34_0 C c1
  · refine Eq.trans ?_ (if_neg c1).symm
    by_cases c2 : (σ.1 10 0 22 (x5).toNatClampNeg) = x1
    · refine Eq.trans ?_ (if_pos c2).symm
      by_cases c3 : r101 = 0
      · refine Eq.trans ?_ (if_pos c3).symm
        exact g158_34_1 C c1 (u1 c1) c2 (u2 c1 c2) c3
      · refine Eq.trans ?_ (if_neg c3).symm
        by_cases c4 : x3 = (-1 : Int32)
        · refine Eq.trans ?_ (if_pos c4).symm
          exact g158_34_2 C c1 (u1 c1) c2 (u2 c1 c2) c3 c4
        · refine Eq.trans ?_ (if_neg c4).symm
          by_cases c5 : (σ101.1 10 0 29 (x5).toNatClampNeg) = x3
          · refine Eq.trans ?_ (if_pos c5).symm
            exact g158_34_3 C c1 (u1 c1) c2 (u2 c1 c2) c3 c4 c5
          · refine Eq.trans ?_ (if_neg c5).symm
            exact g158_34_4 C c1 (u1 c1) c2 (u2 c1 c2) c3 c4 c5
    · refine Eq.trans ?_ (if_neg c2).symm
      exact g158_34_5 C c1 (u1 c1) c2
theorem t159_0 (C : pmC) {σ : pmS} {x1 : Int32} {x2 : Int32} {l3 : Option pmV} {l4 : Option pmV} {r101 : Int32} {σ101 : pmS} {r102 : Int32} {σ102 : pmS} {σ103 : pmS} (u1 : C 138 [vI x1] σ = some (some (vI r101), σ101)) (u2 : (¬ r101 = 0) → C 105 [vL (x2).toInt64, vL (0 : Int64), vL (1 : Int64)] σ101 = some (some (vI r102), σ102)) (u3 : (¬ r101 = 0) → (¬ r102 = 0) → C 146 [vR 10 0 0] σ102 = some (none, σ103)) : pq_Rn C (159, 0, [some (vR 10 0 0), some (vI x1), some (vI x2), l3, l4], [], σ) = (if r101 = 0 then some (some (vI (-2 : Int32)), σ101) else (if r102 = 0 then some (some (vI (-2 : Int32)), σ102) else pq_Rn C (159, 29, [some (vR 10 0 0), some (vI x1), some (vI x2), some (vI (0 : Int32)), some (vI (0 : Int32))], [], σ103))) := by
  by_cases c1 : r101 = 0
  · refine Eq.trans ?_ (if_pos c1).symm
    exact g159_0_0 C u1 c1
  · refine Eq.trans ?_ (if_neg c1).symm
    by_cases c2 : r102 = 0
    · refine Eq.trans ?_ (if_pos c2).symm
      exact g159_0_1 C u1 c1 (u2 c1) c2
    · refine Eq.trans ?_ (if_neg c2).symm
      exact g159_0_2 C u1 c1 (u2 c1) c2 (u3 c1 c2)
theorem t159_29 (C : pmC) {σ : pmS} {x1 : Int32} {x2 : Int32} {x3 : Int32} {x4 : Int32} {r101 : Int32} {σ101 : pmS} {r102 : Int32} {σ102 : pmS} (u1 : (¬ (σ.1 10 0 17 0) ≤ x4) → C 149 [vR 10 0 0, vI x4, vI x1] σ = some (some (vI r101), σ101)) (u2 : (¬ (σ.1 10 0 17 0) ≤ x4) → (¬ r101 = 0) → vp_in x4 40) (u3 : (¬ (σ.1 10 0 17 0) ≤ x4) → (¬ r101 = 0) → C 148 [vR 10 0 0, vI (σ101.1 10 0 26 (x4).toNatClampNeg), vI (σ101.1 10 0 27 (x4).toNatClampNeg), vI (σ101.1 10 0 28 (x4).toNatClampNeg)] σ101 = some (some (vI r102), σ102)) : pq_Rn C (159, 29, [some (vR 10 0 0), some (vI x1), some (vI x2), some (vI x3), some (vI x4)], [], σ) = (if (σ.1 10 0 17 0) ≤ x4 then some (some (vI x3), σ) else (if r101 = 0 then pq_Rn C (159, 29, [some (vR 10 0 0), some (vI x1), some (vI x2), some (vI (x3 + (0 : Int32))), some (vI (x4 + (1 : Int32)))], [], σ101) else (if x2 = (1 : Int32) then (if r102 = (1 : Int32) then pq_Rn C (159, 29, [some (vR 10 0 0), some (vI x1), some (vI x2), some (vI (x3 + (1 : Int32))), some (vI (x4 + (1 : Int32)))], [], σ102) else pq_Rn C (159, 29, [some (vR 10 0 0), some (vI x1), some (vI x2), some (vI (x3 + (0 : Int32))), some (vI (x4 + (1 : Int32)))], [], σ102)) else (if r102 = (0 : Int32) then pq_Rn C (159, 29, [some (vR 10 0 0), some (vI x1), some (vI x2), some (vI (x3 + (1 : Int32))), some (vI (x4 + (1 : Int32)))], [], σ102) else pq_Rn C (159, 29, [some (vR 10 0 0), some (vI x1), some (vI x2), some (vI (x3 + (0 : Int32))), some (vI (x4 + (1 : Int32)))], [], σ102))))) := by
  by_cases c1 : (σ.1 10 0 17 0) ≤ x4
  · refine Eq.trans ?_ (if_pos c1).symm
    exact g159_29_0 C c1
  · refine Eq.trans ?_ (if_neg c1).symm
    by_cases c2 : r101 = 0
    · refine Eq.trans ?_ (if_pos c2).symm
      exact g159_29_1 C c1 (u1 c1) c2
    · refine Eq.trans ?_ (if_neg c2).symm
      by_cases c3 : x2 = (1 : Int32)
      · refine Eq.trans ?_ (if_pos c3).symm
        by_cases c4 : r102 = (1 : Int32)
        · refine Eq.trans ?_ (if_pos c4).symm
          exact g159_29_2 C c1 (u1 c1) c2 (u2 c1 c2) (u3 c1 c2) c3 c4
        · refine Eq.trans ?_ (if_neg c4).symm
          exact g159_29_3 C c1 (u1 c1) c2 (u2 c1 c2) (u3 c1 c2) c3 c4
      · refine Eq.trans ?_ (if_neg c3).symm
        by_cases c5 : r102 = (0 : Int32)
        · refine Eq.trans ?_ (if_pos c5).symm
          exact g159_29_4 C c1 (u1 c1) c2 (u2 c1 c2) (u3 c1 c2) c3 c5
        · refine Eq.trans ?_ (if_neg c5).symm
          exact g159_29_5 C c1 (u1 c1) c2 (u2 c1 c2) (u3 c1 c2) c3 c5
theorem t160_0 (C : pmC) {σ : pmS} {x1 : Int32} {l2 : Option pmV} {l3 : Option pmV} {l4 : Option pmV}  : pq_Rn C (160, 0, [some (vR 10 0 0), some (vI x1), l2, l3, l4], [], σ) = pq_Rn C (160, 2, [some (vR 10 0 0), some (vI x1), some (vI (0 : Int32)), l3, l4], [], σ) := by
  exact g160_0_0 C 
theorem t160_2 (C : pmC) {σ : pmS} {x1 : Int32} {x2 : Int32} {l3 : Option pmV} {l4 : Option pmV} (u1 : (¬ (σ.1 10 0 16 0) ≤ x2) → vp_in x2 48) : pq_Rn C (160, 2, [some (vR 10 0 0), some (vI x1), some (vI x2), l3, l4], [], σ) = (if (σ.1 10 0 16 0) ≤ x2 then pq_Rn C (160, 34, [some (vR 10 0 0), some (vI x1), some (vI (1 : Int32)), some (vI (0 : Int32)), l4], [], (pm_wi σ 10 0 34 ((0 : Int32)).toNatClampNeg x1)) else pq_Rn C (160, 2, [some (vR 10 0 0), some (vI x1), some (vI (x2 + (1 : Int32))), l3, l4], [], (pm_wi σ 10 0 33 (x2).toNatClampNeg (-1 : Int32)))) := by
  by_cases c1 : (σ.1 10 0 16 0) ≤ x2
  · refine Eq.trans ?_ (if_pos c1).symm
    exact g160_2_0 C c1
  · refine Eq.trans ?_ (if_neg c1).symm
    exact g160_2_1 C c1 (u1 c1)
theorem t160_34 (C : pmC) {σ : pmS} {l1 : Option pmV} {x2 : Int32} {x3 : Int32} {l4 : Option pmV}  : pq_Rn C (160, 34, [some (vR 10 0 0), l1, some (vI x2), some (vI x3), l4], [], σ) = (if x2 ≤ x3 then some (some (vI (0 : Int32)), σ) else pq_Rn C (160, 42, [some (vR 10 0 0), l1, some (vI x2), some (vI x3), some (vI (0 : Int32))], [], σ)) := by
  by_cases c1 : x2 ≤ x3
  · refine Eq.trans ?_ (if_pos c1).symm
    exact g160_34_0 C c1
  · refine Eq.trans ?_ (if_neg c1).symm
    exact g160_34_1 C c1
theorem t160_42 (C : pmC) {σ : pmS} {l1 : Option pmV} {x2 : Int32} {x3 : Int32} {x4 : Int32} {σ101 : pmS} (u1 : (¬ (σ.1 10 0 16 0) ≤ x4) → vp_in x3 48) (u2 : (¬ (σ.1 10 0 16 0) ≤ x4) → vp_in (((48 : Int32) * (σ.1 10 0 34 (x3).toNatClampNeg)) + x4) 2304) (u3 : (¬ (σ.1 10 0 16 0) ≤ x4) → (¬ (σ.1 10 0 31 ((((48 : Int32) * (σ.1 10 0 34 (x3).toNatClampNeg)) + x4)).toNatClampNeg) = 0) → vp_in x4 48) (u4 : (¬ (σ.1 10 0 16 0) ≤ x4) → (¬ (σ.1 10 0 31 ((((48 : Int32) * (σ.1 10 0 34 (x3).toNatClampNeg)) + x4)).toNatClampNeg) = 0) → (¬ 0 ≤ (σ.1 10 0 33 (x4).toNatClampNeg)) → ((σ.1 10 0 35 (x4).toNatClampNeg) < 0) → ((σ.1 10 0 32 (x4).toNatClampNeg) < 0) → C 161 [vR 10 0 0, vI x4] (pm_wi σ 10 0 33 (x4).toNatClampNeg (σ.1 10 0 34 (x3).toNatClampNeg)) = some (none, σ101)) (u5 : (¬ (σ.1 10 0 16 0) ≤ x4) → (¬ (σ.1 10 0 31 ((((48 : Int32) * (σ.1 10 0 34 (x3).toNatClampNeg)) + x4)).toNatClampNeg) = 0) → (¬ 0 ≤ (σ.1 10 0 33 (x4).toNatClampNeg)) → ((σ.1 10 0 35 (x4).toNatClampNeg) < 0) → (¬ (σ.1 10 0 32 (x4).toNatClampNeg) < 0) → vp_in x2 48) : pq_Rn C (160, 42, [some (vR 10 0 0), l1, some (vI x2), some (vI x3), some (vI x4)], [], σ) = (if (σ.1 10 0 16 0) ≤ x4 then pq_Rn C (160, 34, [some (vR 10 0 0), l1, some (vI x2), some (vI (x3 + (1 : Int32))), some (vI x4)], [], σ) else (if (σ.1 10 0 31 ((((48 : Int32) * (σ.1 10 0 34 (x3).toNatClampNeg)) + x4)).toNatClampNeg) = 0 then pq_Rn C (160, 42, [some (vR 10 0 0), l1, some (vI x2), some (vI x3), some (vI (x4 + (1 : Int32)))], [], σ) else (if 0 ≤ (σ.1 10 0 33 (x4).toNatClampNeg) then pq_Rn C (160, 42, [some (vR 10 0 0), l1, some (vI x2), some (vI x3), some (vI (x4 + (1 : Int32)))], [], σ) else (if (σ.1 10 0 35 (x4).toNatClampNeg) < 0 then (if (σ.1 10 0 32 (x4).toNatClampNeg) < 0 then some (some (vI (1 : Int32)), σ101) else pq_Rn C (160, 42, [some (vR 10 0 0), l1, some (vI (x2 + (1 : Int32))), some (vI x3), some (vI (x4 + (1 : Int32)))], [], (pm_wi (pm_wi σ 10 0 33 (x4).toNatClampNeg (σ.1 10 0 34 (x3).toNatClampNeg)) 10 0 34 (x2).toNatClampNeg (σ.1 10 0 32 (x4).toNatClampNeg)))) else pq_Rn C (160, 42, [some (vR 10 0 0), l1, some (vI x2), some (vI x3), some (vI (x4 + (1 : Int32)))], [], σ))))) := by
  by_cases c1 : (σ.1 10 0 16 0) ≤ x4
  · refine Eq.trans ?_ (if_pos c1).symm
    exact g160_42_0 C c1
  · refine Eq.trans ?_ (if_neg c1).symm
    by_cases c2 : (σ.1 10 0 31 ((((48 : Int32) * (σ.1 10 0 34 (x3).toNatClampNeg)) + x4)).toNatClampNeg) = 0
    · refine Eq.trans ?_ (if_pos c2).symm
      exact g160_42_1 C c1 (u1 c1) (u2 c1) c2
    · refine Eq.trans ?_ (if_neg c2).symm
      by_cases c3 : 0 ≤ (σ.1 10 0 33 (x4).toNatClampNeg)
      · refine Eq.trans ?_ (if_pos c3).symm
        exact g160_42_2 C c1 (u1 c1) (u2 c1) c2 (u3 c1 c2) c3
      · refine Eq.trans ?_ (if_neg c3).symm
        by_cases c4 : (σ.1 10 0 35 (x4).toNatClampNeg) < 0
        · refine Eq.trans ?_ (if_pos c4).symm
          by_cases c5 : (σ.1 10 0 32 (x4).toNatClampNeg) < 0
          · refine Eq.trans ?_ (if_pos c5).symm
            exact g160_42_3 C c1 (u1 c1) (u2 c1) c2 (u3 c1 c2) c3 c4 c5 (u4 c1 c2 c3 c4 c5)
          · refine Eq.trans ?_ (if_neg c5).symm
            exact g160_42_4 C c1 (u1 c1) (u2 c1) c2 (u3 c1 c2) c3 c4 c5 (u5 c1 c2 c3 c4 c5)
        · refine Eq.trans ?_ (if_neg c4).symm
          exact g160_42_5 C c1 (u1 c1) (u2 c1) c2 (u3 c1 c2) c3 c4
theorem t161_0 (C : pmC) {σ : pmS} {x1 : Int32} {l2 : Option pmV} {l3 : Option pmV} {l4 : Option pmV}  : pq_Rn C (161, 0, [some (vR 10 0 0), some (vI x1), l2, l3, l4], [], σ) = pq_Rn C (161, 2, [some (vR 10 0 0), some (vI x1), some (vI x1), l3, l4], [], σ) := by
  exact g161_0_0 C 
theorem t161_2 (C : pmC) {σ : pmS} {l1 : Option pmV} {x2 : Int32} {l3 : Option pmV} {l4 : Option pmV} (u1 : (¬ x2 < 0) → vp_in x2 48) (u2 : (¬ x2 < 0) → vp_in (σ.1 10 0 33 (x2).toNatClampNeg) 48) : pq_Rn C (161, 2, [some (vR 10 0 0), l1, some (vI x2), l3, l4], [], σ) = (if x2 < 0 then some (none, σ) else pq_Rn C (161, 2, [some (vR 10 0 0), l1, some (vI (σ.1 10 0 32 ((σ.1 10 0 33 (x2).toNatClampNeg)).toNatClampNeg)), some (vI (σ.1 10 0 33 (x2).toNatClampNeg)), some (vI (σ.1 10 0 32 ((σ.1 10 0 33 (x2).toNatClampNeg)).toNatClampNeg))], [], (pm_wi (pm_wi σ 10 0 32 (x2).toNatClampNeg (σ.1 10 0 33 (x2).toNatClampNeg)) 10 0 32 ((σ.1 10 0 33 (x2).toNatClampNeg)).toNatClampNeg x2))) := by
  by_cases c1 : x2 < 0
  · refine Eq.trans ?_ (if_pos c1).symm
    exact g161_2_0 C c1
  · refine Eq.trans ?_ (if_neg c1).symm
    exact g161_2_1 C c1 (u1 c1) (u2 c1)
theorem t162_0 (C : pmC) {σ : pmS} {x1 : Int32} {l2 : Option pmV} {l3 : Option pmV}  : pq_Rn C (162, 0, [some (vR 10 0 0), some (vI x1), l2, l3], [], σ) = pq_Rn C (162, 4, [some (vR 10 0 0), some (vI x1), some (vI (0 : Int32)), some (vI (0 : Int32))], [], σ) := by
  exact g162_0_0 C 
theorem t162_4 (C : pmC) {σ : pmS} {x1 : Int32} {x2 : Int32} {x3 : Int32} (u1 : (¬ (σ.1 10 0 16 0) ≤ x3) → vp_in x3 48) : pq_Rn C (162, 4, [some (vR 10 0 0), some (vI x1), some (vI x2), some (vI x3)], [], σ) = (if (σ.1 10 0 16 0) ≤ x3 then pq_Rn C (162, 58, [some (vR 10 0 0), some (vI x1), some (vI x2), some (vI x1)], [], σ) else (if (σ.1 10 0 19 (x3).toNatClampNeg) = 0 then (if (σ.1 10 0 35 (x3).toNatClampNeg) < 0 then pq_Rn C (162, 4, [some (vR 10 0 0), some (vI x1), some (vI (x2 + (0 : Int32))), some (vI (x3 + (1 : Int32)))], [], (pm_wi σ 10 0 32 (x3).toNatClampNeg (σ.1 10 0 35 (x3).toNatClampNeg))) else pq_Rn C (162, 4, [some (vR 10 0 0), some (vI x1), some (vI (x2 + (1 : Int32))), some (vI (x3 + (1 : Int32)))], [], (pm_wi σ 10 0 32 (x3).toNatClampNeg (σ.1 10 0 35 (x3).toNatClampNeg)))) else pq_Rn C (162, 4, [some (vR 10 0 0), some (vI x1), some (vI (x2 + (0 : Int32))), some (vI (x3 + (1 : Int32)))], [], (pm_wi σ 10 0 32 (x3).toNatClampNeg (σ.1 10 0 35 (x3).toNatClampNeg))))) := by
  by_cases c1 : (σ.1 10 0 16 0) ≤ x3
  · refine Eq.trans ?_ (if_pos c1).symm
    exact g162_4_0 C c1
  · refine Eq.trans ?_ (if_neg c1).symm
    by_cases c2 : (σ.1 10 0 19 (x3).toNatClampNeg) = 0
    · refine Eq.trans ?_ (if_pos c2).symm
      by_cases c3 : (σ.1 10 0 35 (x3).toNatClampNeg) < 0
      · refine Eq.trans ?_ (if_pos c3).symm
        exact g162_4_1 C c1 (u1 c1) c2 c3
      · refine Eq.trans ?_ (if_neg c3).symm
        exact g162_4_2 C c1 (u1 c1) c2 c3
    · refine Eq.trans ?_ (if_neg c2).symm
      exact g162_4_3 C c1 (u1 c1) c2
theorem t162_58 (C : pmC) {σ : pmS} {l1 : Option pmV} {x2 : Int32} {x3 : Int32} {r101 : Int32} {σ101 : pmS} (u1 : (¬ (σ.1 10 0 16 0) ≤ x3) → vp_in x3 48) (u2 : (¬ (σ.1 10 0 16 0) ≤ x3) → ((σ.1 10 0 19 (x3).toNatClampNeg) = 0) → (¬ 0 ≤ (σ.1 10 0 35 (x3).toNatClampNeg)) → C 160 [vR 10 0 0, vI x3] σ = some (some (vI r101), σ101)) : pq_Rn C (162, 58, [some (vR 10 0 0), l1, some (vI x2), some (vI x3)], [], σ) = (if (σ.1 10 0 16 0) ≤ x3 then some (some (vI x2), σ) else (if (σ.1 10 0 19 (x3).toNatClampNeg) = 0 then (if 0 ≤ (σ.1 10 0 35 (x3).toNatClampNeg) then pq_Rn C (162, 58, [some (vR 10 0 0), l1, some (vI x2), some (vI (x3 + (1 : Int32)))], [], σ) else (if r101 = 0 then pq_Rn C (162, 58, [some (vR 10 0 0), l1, some (vI x2), some (vI (x3 + (1 : Int32)))], [], σ101) else pq_Rn C (162, 58, [some (vR 10 0 0), l1, some (vI (x2 + (1 : Int32))), some (vI (x3 + (1 : Int32)))], [], σ101))) else pq_Rn C (162, 58, [some (vR 10 0 0), l1, some (vI x2), some (vI (x3 + (1 : Int32)))], [], σ))) := by
  by_cases c1 : (σ.1 10 0 16 0) ≤ x3
  · refine Eq.trans ?_ (if_pos c1).symm
    exact g162_58_0 C c1
  · refine Eq.trans ?_ (if_neg c1).symm
    by_cases c2 : (σ.1 10 0 19 (x3).toNatClampNeg) = 0
    · refine Eq.trans ?_ (if_pos c2).symm
      by_cases c3 : 0 ≤ (σ.1 10 0 35 (x3).toNatClampNeg)
      · refine Eq.trans ?_ (if_pos c3).symm
        exact g162_58_1 C c1 (u1 c1) c2 c3
      · refine Eq.trans ?_ (if_neg c3).symm
        by_cases c4 : r101 = 0
        · refine Eq.trans ?_ (if_pos c4).symm
          exact g162_58_2 C c1 (u1 c1) c2 c3 (u2 c1 c2 c3) c4
        · refine Eq.trans ?_ (if_neg c4).symm
          exact g162_58_3 C c1 (u1 c1) c2 c3 (u2 c1 c2 c3) c4
    · refine Eq.trans ?_ (if_neg c2).symm
      exact g162_58_4 C c1 (u1 c1) c2
theorem t163_0 (C : pmC) {σ : pmS} {x1 : Int32} {x2 : Int32} {l3 : Option pmV} {l4 : Option pmV} {l5 : Option pmV}  : pq_Rn C (163, 0, [some (vR 10 0 0), some (vI x1), some (vI x2), l3, l4, l5], [], σ) = pq_Rn C (163, 2, [some (vR 10 0 0), some (vI x1), some (vI x2), some (vI (0 : Int32)), l4, l5], [], σ) := by
  exact g163_0_0 C 
theorem t163_2 (C : pmC) {σ : pmS} {x1 : Int32} {x2 : Int32} {x3 : Int32} {l4 : Option pmV} {l5 : Option pmV}  : pq_Rn C (163, 2, [some (vR 10 0 0), some (vI x1), some (vI x2), some (vI x3), l4, l5], [], σ) = (if (σ.1 10 0 16 0) ≤ x3 then some (none, σ) else pq_Rn C (163, 13, [some (vR 10 0 0), some (vI x1), some (vI x2), some (vI x3), some (vI (0 : Int32)), l5], [], σ)) := by
  by_cases c1 : (σ.1 10 0 16 0) ≤ x3
  · refine Eq.trans ?_ (if_pos c1).symm
    exact g163_2_0 C c1
  · refine Eq.trans ?_ (if_neg c1).symm
    exact g163_2_1 C c1
theorem t163_13 (C : pmC) {σ : pmS} {x1 : Int32} {x2 : Int32} {x3 : Int32} {x4 : Int32} {l5 : Option pmV} {r101 : Int32} {σ101 : pmS} (u1 : ((σ.1 10 0 16 0) ≤ x4) → vp_in x3 48) (u2 : (¬ (σ.1 10 0 16 0) ≤ x4) → vp_in x3 48) (u3 : (¬ (σ.1 10 0 16 0) ≤ x4) → ((σ.1 10 0 19 (x3).toNatClampNeg) = 0) → vp_in x4 48) (u4 : (¬ (σ.1 10 0 16 0) ≤ x4) → ((σ.1 10 0 19 (x3).toNatClampNeg) = 0) → ((σ.1 10 0 19 (x4).toNatClampNeg) = (1 : Int32)) → ((σ.1 10 0 22 (x3).toNatClampNeg) = x1) → ((σ.1 10 0 22 (x4).toNatClampNeg) = x1) → C 152 [vR 10 0 0, vI x3, vI x4, vI x2] σ = some (some (vI r101), σ101)) (u5 : (¬ (σ.1 10 0 16 0) ≤ x4) → ((σ.1 10 0 19 (x3).toNatClampNeg) = 0) → ((σ.1 10 0 19 (x4).toNatClampNeg) = (1 : Int32)) → ((σ.1 10 0 22 (x3).toNatClampNeg) = x1) → ((σ.1 10 0 22 (x4).toNatClampNeg) = x1) → (r101 = 0) → vp_in (((48 : Int32) * x3) + x4) 2304) (u6 : (¬ (σ.1 10 0 16 0) ≤ x4) → ((σ.1 10 0 19 (x3).toNatClampNeg) = 0) → ((σ.1 10 0 19 (x4).toNatClampNeg) = (1 : Int32)) → ((σ.1 10 0 22 (x3).toNatClampNeg) = x1) → ((σ.1 10 0 22 (x4).toNatClampNeg) = x1) → (¬ r101 = 0) → vp_in (((48 : Int32) * x3) + x4) 2304) (u7 : (¬ (σ.1 10 0 16 0) ≤ x4) → ((σ.1 10 0 19 (x3).toNatClampNeg) = 0) → ((σ.1 10 0 19 (x4).toNatClampNeg) = (1 : Int32)) → ((σ.1 10 0 22 (x3).toNatClampNeg) = x1) → (¬ (σ.1 10 0 22 (x4).toNatClampNeg) = x1) → vp_in (((48 : Int32) * x3) + x4) 2304) (u8 : (¬ (σ.1 10 0 16 0) ≤ x4) → ((σ.1 10 0 19 (x3).toNatClampNeg) = 0) → ((σ.1 10 0 19 (x4).toNatClampNeg) = (1 : Int32)) → (¬ (σ.1 10 0 22 (x3).toNatClampNeg) = x1) → vp_in (((48 : Int32) * x3) + x4) 2304) (u9 : (¬ (σ.1 10 0 16 0) ≤ x4) → ((σ.1 10 0 19 (x3).toNatClampNeg) = 0) → (¬ (σ.1 10 0 19 (x4).toNatClampNeg) = (1 : Int32)) → vp_in (((48 : Int32) * x3) + x4) 2304) (u10 : (¬ (σ.1 10 0 16 0) ≤ x4) → (¬ (σ.1 10 0 19 (x3).toNatClampNeg) = 0) → vp_in (((48 : Int32) * x3) + x4) 2304) : pq_Rn C (163, 13, [some (vR 10 0 0), some (vI x1), some (vI x2), some (vI x3), some (vI x4), l5], [], σ) = (if (σ.1 10 0 16 0) ≤ x4 then pq_Rn C (163, 2, [some (vR 10 0 0), some (vI x1), some (vI x2), some (vI (x3 + (1 : Int32))), some (vI x4), l5], [], (pm_wi σ 10 0 35 (x3).toNatClampNeg (-1 : Int32))) else (if (σ.1 10 0 19 (x3).toNatClampNeg) = 0 then (if (σ.1 10 0 19 (x4).toNatClampNeg) = (1 : Int32) then (if (σ.1 10 0 22 (x3).toNatClampNeg) = x1 then (if (σ.1 10 0 22 (x4).toNatClampNeg) = x1 then (if r101 = 0 then pq_Rn C (163, 13, [some (vR 10 0 0), some (vI x1), some (vI x2), some (vI x3), some (vI (x4 + (1 : Int32))), some (vI (1 : Int32))], [], (pm_wi σ101 10 0 31 ((((48 : Int32) * x3) + x4)).toNatClampNeg (1 : Int32))) else pq_Rn C (163, 13, [some (vR 10 0 0), some (vI x1), some (vI x2), some (vI x3), some (vI (x4 + (1 : Int32))), some (vI (1 : Int32))], [], (pm_wi σ101 10 0 31 ((((48 : Int32) * x3) + x4)).toNatClampNeg (0 : Int32)))) else pq_Rn C (163, 13, [some (vR 10 0 0), some (vI x1), some (vI x2), some (vI x3), some (vI (x4 + (1 : Int32))), some (vI (0 : Int32))], [], (pm_wi σ 10 0 31 ((((48 : Int32) * x3) + x4)).toNatClampNeg (0 : Int32)))) else pq_Rn C (163, 13, [some (vR 10 0 0), some (vI x1), some (vI x2), some (vI x3), some (vI (x4 + (1 : Int32))), some (vI (0 : Int32))], [], (pm_wi σ 10 0 31 ((((48 : Int32) * x3) + x4)).toNatClampNeg (0 : Int32)))) else pq_Rn C (163, 13, [some (vR 10 0 0), some (vI x1), some (vI x2), some (vI x3), some (vI (x4 + (1 : Int32))), some (vI (0 : Int32))], [], (pm_wi σ 10 0 31 ((((48 : Int32) * x3) + x4)).toNatClampNeg (0 : Int32)))) else pq_Rn C (163, 13, [some (vR 10 0 0), some (vI x1), some (vI x2), some (vI x3), some (vI (x4 + (1 : Int32))), some (vI (0 : Int32))], [], (pm_wi σ 10 0 31 ((((48 : Int32) * x3) + x4)).toNatClampNeg (0 : Int32))))) := by
  by_cases c1 : (σ.1 10 0 16 0) ≤ x4
  · refine Eq.trans ?_ (if_pos c1).symm
    exact g163_13_0 C c1 (u1 c1)
  · refine Eq.trans ?_ (if_neg c1).symm
    by_cases c2 : (σ.1 10 0 19 (x3).toNatClampNeg) = 0
    · refine Eq.trans ?_ (if_pos c2).symm
      by_cases c3 : (σ.1 10 0 19 (x4).toNatClampNeg) = (1 : Int32)
      · refine Eq.trans ?_ (if_pos c3).symm
        by_cases c4 : (σ.1 10 0 22 (x3).toNatClampNeg) = x1
        · refine Eq.trans ?_ (if_pos c4).symm
          by_cases c5 : (σ.1 10 0 22 (x4).toNatClampNeg) = x1
          · refine Eq.trans ?_ (if_pos c5).symm
            by_cases c6 : r101 = 0
            · refine Eq.trans ?_ (if_pos c6).symm
              exact g163_13_1 C c1 (u2 c1) c2 (u3 c1 c2) c3 c4 c5 (u4 c1 c2 c3 c4 c5) c6 (u5 c1 c2 c3 c4 c5 c6)
            · refine Eq.trans ?_ (if_neg c6).symm
              exact g163_13_2 C c1 (u2 c1) c2 (u3 c1 c2) c3 c4 c5 (u4 c1 c2 c3 c4 c5) c6 (u6 c1 c2 c3 c4 c5 c6)
          · refine Eq.trans ?_ (if_neg c5).symm
            exact g163_13_3 C c1 (u2 c1) c2 (u3 c1 c2) c3 c4 c5 (u7 c1 c2 c3 c4 c5)
        · refine Eq.trans ?_ (if_neg c4).symm
          exact g163_13_4 C c1 (u2 c1) c2 (u3 c1 c2) c3 c4 (u8 c1 c2 c3 c4)
      · refine Eq.trans ?_ (if_neg c3).symm
        exact g163_13_5 C c1 (u2 c1) c2 (u3 c1 c2) c3 (u9 c1 c2 c3)
    · refine Eq.trans ?_ (if_neg c2).symm
      exact g163_13_6 C c1 (u2 c1) c2 (u10 c1 c2)
theorem t164_0 (C : pmC) {σ : pmS} {x1 : Int32} {x2 : Int32} {l3 : Option pmV} {l4 : Option pmV} {l5 : Option pmV} {r101 : Int32} {σ101 : pmS} {r102 : Int32} {σ102 : pmS} {σ103 : pmS} {σ104 : pmS} {r105 : Int32} {σ105 : pmS} (u1 : C 133 [vR 10 0 0, vI x1] σ = some (some (vI r101), σ101)) (u2 : (¬ r101 = 0) → C 138 [vI x2] σ101 = some (some (vI r102), σ102)) (u3 : (¬ r101 = 0) → (¬ r102 = 0) → C 146 [vR 10 0 0] σ102 = some (none, σ103)) (u4 : (¬ r101 = 0) → (¬ r102 = 0) → C 163 [vR 10 0 0, vI x1, vI x2] σ103 = some (none, σ104)) (u5 : (¬ r101 = 0) → (¬ r102 = 0) → C 162 [vR 10 0 0, vI (0 : Int32)] σ104 = some (some (vI r105), σ105)) : pq_Rn C (164, 0, [some (vR 10 0 0), some (vI x1), some (vI x2), l3, l4, l5], [], σ) = (if r101 = 0 then some (some (vI (-1 : Int32)), σ101) else (if r102 = 0 then some (some (vI (-2 : Int32)), σ102) else pq_Rn C (164, 39, [some (vR 10 0 0), some (vI x1), some (vI x2), some (vI r105), some (vI (0 : Int32)), l5], [], σ105))) := by
  by_cases c1 : r101 = 0
  · refine Eq.trans ?_ (if_pos c1).symm
    exact g164_0_0 C u1 c1
  · refine Eq.trans ?_ (if_neg c1).symm
    by_cases c2 : r102 = 0
    · refine Eq.trans ?_ (if_pos c2).symm
      exact g164_0_1 C u1 c1 (u2 c1) c2
    · refine Eq.trans ?_ (if_neg c2).symm
      exact g164_0_2 C u1 c1 (u2 c1) c2 (u3 c1 c2) (u4 c1 c2) (u5 c1 c2)
theorem t164_39 (C : pmC) {σ : pmS} {l1 : Option pmV} {l2 : Option pmV} {x3 : Int32} {x4 : Int32} {l5 : Option pmV}  : pq_Rn C (164, 39, [some (vR 10 0 0), l1, l2, some (vI x3), some (vI x4), l5], [], σ) = (if (σ.1 10 0 16 0) ≤ x4 then pq_Rn C (164, 163, [some (vR 10 0 0), l1, l2, some (vI x3), some (vI (0 : Int32)), l5], [], σ) else pq_Rn C (164, 51, [some (vR 10 0 0), l1, l2, some (vI x3), some (vI x4), some (vI (0 : Int32))], [], σ)) := by
  by_cases c1 : (σ.1 10 0 16 0) ≤ x4
  · refine Eq.trans ?_ (if_pos c1).symm
    exact g164_39_0 C c1
  · refine Eq.trans ?_ (if_neg c1).symm
    exact g164_39_1 C c1
theorem t164_51 (C : pmC) {σ : pmS} {l1 : Option pmV} {l2 : Option pmV} {x3 : Int32} {x4 : Int32} {x5 : Int32} {r101 : Int32} {σ101 : pmS} (u1 : (¬ (σ.1 10 0 16 0) ≤ x5) → vp_in x4 48) (u2 : (¬ (σ.1 10 0 16 0) ≤ x5) → (¬ 0 ≤ (σ.1 10 0 35 (x4).toNatClampNeg)) → vp_in (((48 : Int32) * x4) + x5) 2304) (u3 : (¬ (σ.1 10 0 16 0) ≤ x5) → (¬ 0 ≤ (σ.1 10 0 35 (x4).toNatClampNeg)) → (¬ (σ.1 10 0 31 ((((48 : Int32) * x4) + x5)).toNatClampNeg) = 0) → vp_in x5 48) (u4 : (¬ (σ.1 10 0 16 0) ≤ x5) → (¬ 0 ≤ (σ.1 10 0 35 (x4).toNatClampNeg)) → (¬ (σ.1 10 0 31 ((((48 : Int32) * x4) + x5)).toNatClampNeg) = 0) → ((σ.1 10 0 35 (x5).toNatClampNeg) < 0) → C 162 [vR 10 0 0, vI (x4 + (1 : Int32))] (pm_wi (pm_wi σ 10 0 35 (x4).toNatClampNeg x5) 10 0 35 (x5).toNatClampNeg x4) = some (some (vI r101), σ101)) : pq_Rn C (164, 51, [some (vR 10 0 0), l1, l2, some (vI x3), some (vI x4), some (vI x5)], [], σ) = (if (σ.1 10 0 16 0) ≤ x5 then pq_Rn C (164, 39, [some (vR 10 0 0), l1, l2, some (vI x3), some (vI (x4 + (1 : Int32))), some (vI x5)], [], σ) else (if 0 ≤ (σ.1 10 0 35 (x4).toNatClampNeg) then pq_Rn C (164, 39, [some (vR 10 0 0), l1, l2, some (vI x3), some (vI (x4 + (1 : Int32))), some (vI x5)], [], σ) else (if (σ.1 10 0 31 ((((48 : Int32) * x4) + x5)).toNatClampNeg) = 0 then pq_Rn C (164, 51, [some (vR 10 0 0), l1, l2, some (vI x3), some (vI x4), some (vI (x5 + (1 : Int32)))], [], σ) else (if (σ.1 10 0 35 (x5).toNatClampNeg) < 0 then (if r101 = x3 then pq_Rn C (164, 51, [some (vR 10 0 0), l1, l2, some (vI x3), some (vI x4), some (vI (x5 + (1 : Int32)))], [], σ101) else pq_Rn C (164, 51, [some (vR 10 0 0), l1, l2, some (vI x3), some (vI x4), some (vI (x5 + (1 : Int32)))], [], (pm_wi (pm_wi σ101 10 0 35 (x4).toNatClampNeg (-1 : Int32)) 10 0 35 (x5).toNatClampNeg (-1 : Int32)))) else pq_Rn C (164, 51, [some (vR 10 0 0), l1, l2, some (vI x3), some (vI x4), some (vI (x5 + (1 : Int32)))], [], σ))))) := by
  by_cases c1 : (σ.1 10 0 16 0) ≤ x5
  · refine Eq.trans ?_ (if_pos c1).symm
    exact g164_51_0 C c1
  · refine Eq.trans ?_ (if_neg c1).symm
    by_cases c2 : 0 ≤ (σ.1 10 0 35 (x4).toNatClampNeg)
    · refine Eq.trans ?_ (if_pos c2).symm
      exact g164_51_1 C c1 (u1 c1) c2
    · refine Eq.trans ?_ (if_neg c2).symm
      by_cases c3 : (σ.1 10 0 31 ((((48 : Int32) * x4) + x5)).toNatClampNeg) = 0
      · refine Eq.trans ?_ (if_pos c3).symm
        exact g164_51_2 C c1 (u1 c1) c2 (u2 c1 c2) c3
      · refine Eq.trans ?_ (if_neg c3).symm
        by_cases c4 : (σ.1 10 0 35 (x5).toNatClampNeg) < 0
        · refine Eq.trans ?_ (if_pos c4).symm
          by_cases c5 : r101 = x3
          · refine Eq.trans ?_ (if_pos c5).symm
            exact g164_51_3 C c1 (u1 c1) c2 (u2 c1 c2) c3 (u3 c1 c2 c3) c4 (u4 c1 c2 c3 c4) c5
          · refine Eq.trans ?_ (if_neg c5).symm
            exact g164_51_4 C c1 (u1 c1) c2 (u2 c1 c2) c3 (u3 c1 c2 c3) c4 (u4 c1 c2 c3 c4) c5
        · refine Eq.trans ?_ (if_neg c4).symm
          exact g164_51_5 C c1 (u1 c1) c2 (u2 c1 c2) c3 (u3 c1 c2 c3) c4
theorem t164_163 (C : pmC) {σ : pmS} {l1 : Option pmV} {l2 : Option pmV} {x3 : Int32} {x4 : Int32} {l5 : Option pmV} {σ101 : pmS} (u1 : ((48 : Int32) ≤ x4) → C 166 [vR 10 0 0] σ = some (none, σ101)) (u2 : (¬ (48 : Int32) ≤ x4) → ((σ.1 10 0 16 0) ≤ x4) → vp_in x4 48) (u3 : (¬ (48 : Int32) ≤ x4) → (¬ (σ.1 10 0 16 0) ≤ x4) → vp_in x4 48) : pq_Rn C (164, 163, [some (vR 10 0 0), l1, l2, some (vI x3), some (vI x4), l5], [], σ) = (if (48 : Int32) ≤ x4 then some (some (vI x3), σ101) else (if (σ.1 10 0 16 0) ≤ x4 then pq_Rn C (164, 163, [some (vR 10 0 0), l1, l2, some (vI x3), some (vI (x4 + (1 : Int32))), l5], [], (pm_wi σ 10 0 38 (x4).toNatClampNeg (-1 : Int32))) else pq_Rn C (164, 163, [some (vR 10 0 0), l1, l2, some (vI x3), some (vI (x4 + (1 : Int32))), l5], [], (pm_wi σ 10 0 38 (x4).toNatClampNeg (σ.1 10 0 35 (x4).toNatClampNeg))))) := by
  by_cases c1 : (48 : Int32) ≤ x4
  · refine Eq.trans ?_ (if_pos c1).symm
    exact g164_163_0 C c1 (u1 c1)
  · refine Eq.trans ?_ (if_neg c1).symm
    by_cases c2 : (σ.1 10 0 16 0) ≤ x4
    · refine Eq.trans ?_ (if_pos c2).symm
      exact g164_163_1 C c1 c2 (u2 c1 c2)
    · refine Eq.trans ?_ (if_neg c2).symm
      exact g164_163_2 C c1 c2 (u3 c1 c2)
theorem t165_0 (C : pmC) {σ : pmS} {x1 : Int32} {l2 : Option pmV} {l3 : Option pmV}  : pq_Rn C (165, 0, [some (vR 10 0 0), some (vI x1), l2, l3], [], σ) = pq_Rn C (165, 4, [some (vR 10 0 0), some (vI x1), some (vI (0 : Int32)), some (vI (0 : Int32))], [], σ) := by
  exact g165_0_0 C 
theorem t165_4 (C : pmC) {σ : pmS} {x1 : Int32} {x2 : Int32} {x3 : Int32} (u1 : ((σ.1 10 0 16 0) ≤ x3) → x2 = 0 ∨ x2 = 1) (u2 : (¬ (σ.1 10 0 16 0) ≤ x3) → (x2 = 0) → vp_in (((48 : Int32) * x1) + x3) 2304) : pq_Rn C (165, 4, [some (vR 10 0 0), some (vI x1), some (vI x2), some (vI x3)], [], σ) = (if (σ.1 10 0 16 0) ≤ x3 then some (some (vI x2), σ) else (if x2 = 0 then (if (σ.1 10 0 31 ((((48 : Int32) * x1) + x3)).toNatClampNeg) = 0 then pq_Rn C (165, 4, [some (vR 10 0 0), some (vI x1), some (vI (0 : Int32)), some (vI (x3 + (1 : Int32)))], [], σ) else pq_Rn C (165, 4, [some (vR 10 0 0), some (vI x1), some (vI (1 : Int32)), some (vI (x3 + (1 : Int32)))], [], σ)) else pq_Rn C (165, 4, [some (vR 10 0 0), some (vI x1), some (vI (1 : Int32)), some (vI (x3 + (1 : Int32)))], [], σ))) := by
  by_cases c1 : (σ.1 10 0 16 0) ≤ x3
  · refine Eq.trans ?_ (if_pos c1).symm
    exact g165_4_0 C c1 (u1 c1)
  · refine Eq.trans ?_ (if_neg c1).symm
    by_cases c2 : x2 = 0
    · refine Eq.trans ?_ (if_pos c2).symm
      by_cases c3 : (σ.1 10 0 31 ((((48 : Int32) * x1) + x3)).toNatClampNeg) = 0
      · refine Eq.trans ?_ (if_pos c3).symm
        exact g165_4_1 C c1 c2 (u2 c1 c2) c3
      · refine Eq.trans ?_ (if_neg c3).symm
        exact g165_4_2 C c1 c2 (u2 c1 c2) c3
    · refine Eq.trans ?_ (if_neg c2).symm
      exact g165_4_3 C c1 c2
theorem t166_0 (C : pmC) {σ : pmS} {l1 : Option pmV} {l2 : Option pmV} {l3 : Option pmV} {l4 : Option pmV}  : pq_Rn C (166, 0, [some (vR 10 0 0), l1, l2, l3, l4], [], σ) = pq_Rn C (166, 2, [some (vR 10 0 0), some (vI (0 : Int32)), l2, l3, l4], [], σ) := by
  exact g166_0_0 C 
theorem t166_2 (C : pmC) {σ : pmS} {x1 : Int32} {l2 : Option pmV} {l3 : Option pmV} {l4 : Option pmV} {r101 : Int32} {σ101 : pmS} (u1 : (¬ (σ.1 10 0 16 0) ≤ x1) → vp_in x1 48) (u2 : (¬ (σ.1 10 0 16 0) ≤ x1) → ((σ.1 10 0 19 (x1).toNatClampNeg) = 0) → (¬ 0 ≤ (σ.1 10 0 38 (x1).toNatClampNeg)) → C 165 [vR 10 0 0, vI x1] σ = some (some (vI r101), σ101)) : pq_Rn C (166, 2, [some (vR 10 0 0), some (vI x1), l2, l3, l4], [], σ) = (if (σ.1 10 0 16 0) ≤ x1 then pq_Rn C (166, 55, [some (vR 10 0 0), some (vI (1 : Int32)), l2, l3, l4], [], σ) else (if (σ.1 10 0 19 (x1).toNatClampNeg) = 0 then (if 0 ≤ (σ.1 10 0 38 (x1).toNatClampNeg) then pq_Rn C (166, 2, [some (vR 10 0 0), some (vI (x1 + (1 : Int32))), l2, l3, l4], [], (pm_wi σ 10 0 39 (x1).toNatClampNeg (0 : Int32))) else (if r101 = 0 then pq_Rn C (166, 2, [some (vR 10 0 0), some (vI (x1 + (1 : Int32))), l2, l3, l4], [], (pm_wi σ101 10 0 39 (x1).toNatClampNeg (0 : Int32))) else pq_Rn C (166, 2, [some (vR 10 0 0), some (vI (x1 + (1 : Int32))), l2, l3, l4], [], (pm_wi σ101 10 0 39 (x1).toNatClampNeg (1 : Int32))))) else pq_Rn C (166, 2, [some (vR 10 0 0), some (vI (x1 + (1 : Int32))), l2, l3, l4], [], (pm_wi σ 10 0 39 (x1).toNatClampNeg (0 : Int32))))) := by
  by_cases c1 : (σ.1 10 0 16 0) ≤ x1
  · refine Eq.trans ?_ (if_pos c1).symm
    exact g166_2_0 C c1
  · refine Eq.trans ?_ (if_neg c1).symm
    by_cases c2 : (σ.1 10 0 19 (x1).toNatClampNeg) = 0
    · refine Eq.trans ?_ (if_pos c2).symm
      by_cases c3 : 0 ≤ (σ.1 10 0 38 (x1).toNatClampNeg)
      · refine Eq.trans ?_ (if_pos c3).symm
        exact g166_2_1 C c1 (u1 c1) c2 c3
      · refine Eq.trans ?_ (if_neg c3).symm
        by_cases c4 : r101 = 0
        · refine Eq.trans ?_ (if_pos c4).symm
          exact g166_2_2 C c1 (u1 c1) c2 c3 (u2 c1 c2 c3) c4
        · refine Eq.trans ?_ (if_neg c4).symm
          exact g166_2_3 C c1 (u1 c1) c2 c3 (u2 c1 c2 c3) c4
    · refine Eq.trans ?_ (if_neg c2).symm
      exact g166_2_4 C c1 (u1 c1) c2
theorem t166_55 (C : pmC) {σ : pmS} {x1 : Int32} {l2 : Option pmV} {l3 : Option pmV} {l4 : Option pmV}  : pq_Rn C (166, 55, [some (vR 10 0 0), some (vI x1), l2, l3, l4], [], σ) = (if x1 = 0 then pq_Rn C (166, 180, [some (vR 10 0 0), some (vI x1), some (vI (0 : Int32)), l3, l4], [], (pm_wi (pm_wi σ 10 0 36 0 (0 : Int32)) 10 0 37 0 (0 : Int32))) else pq_Rn C (166, 63, [some (vR 10 0 0), some (vI (0 : Int32)), some (vI (0 : Int32)), l3, l4], [], σ)) := by
  by_cases c1 : x1 = 0
  · refine Eq.trans ?_ (if_pos c1).symm
    exact g166_55_0 C c1
  · refine Eq.trans ?_ (if_neg c1).symm
    exact g166_55_1 C c1
theorem t166_63 (C : pmC) {σ : pmS} {x1 : Int32} {x2 : Int32} {l3 : Option pmV} {l4 : Option pmV}  : pq_Rn C (166, 63, [some (vR 10 0 0), some (vI x1), some (vI x2), l3, l4], [], σ) = (if (σ.1 10 0 16 0) ≤ x2 then pq_Rn C (166, 55, [some (vR 10 0 0), some (vI x1), some (vI x2), l3, l4], [], σ) else pq_Rn C (166, 73, [some (vR 10 0 0), some (vI x1), some (vI x2), some (vI (0 : Int32)), l4], [], σ)) := by
  by_cases c1 : (σ.1 10 0 16 0) ≤ x2
  · refine Eq.trans ?_ (if_pos c1).symm
    exact g166_63_0 C c1
  · refine Eq.trans ?_ (if_neg c1).symm
    exact g166_63_1 C c1
theorem t166_73 (C : pmC) {σ : pmS} {x1 : Int32} {x2 : Int32} {x3 : Int32} {l4 : Option pmV} (u1 : (¬ (σ.1 10 0 16 0) ≤ x3) → vp_in x2 48) (u2 : (¬ (σ.1 10 0 16 0) ≤ x3) → (¬ (σ.1 10 0 39 (x2).toNatClampNeg) = 0) → ((σ.1 10 0 19 (x2).toNatClampNeg) = 0) → vp_in (((48 : Int32) * x2) + x3) 2304) (u3 : (¬ (σ.1 10 0 16 0) ≤ x3) → (¬ (σ.1 10 0 39 (x2).toNatClampNeg) = 0) → ((σ.1 10 0 19 (x2).toNatClampNeg) = 0) → (¬ (σ.1 10 0 31 ((((48 : Int32) * x2) + x3)).toNatClampNeg) = 0) → vp_in x3 48) (u4 : (¬ (σ.1 10 0 16 0) ≤ x3) → (¬ (σ.1 10 0 39 (x2).toNatClampNeg) = 0) → ((σ.1 10 0 19 (x2).toNatClampNeg) = 0) → (¬ (σ.1 10 0 31 ((((48 : Int32) * x2) + x3)).toNatClampNeg) = 0) → (¬ (σ.1 10 0 38 (x3).toNatClampNeg) < 0) → vp_in (σ.1 10 0 38 (x3).toNatClampNeg) 48) : pq_Rn C (166, 73, [some (vR 10 0 0), some (vI x1), some (vI x2), some (vI x3), l4], [], σ) = (if (σ.1 10 0 16 0) ≤ x3 then pq_Rn C (166, 63, [some (vR 10 0 0), some (vI x1), some (vI (x2 + (1 : Int32))), some (vI x3), l4], [], σ) else (if (σ.1 10 0 39 (x2).toNatClampNeg) = 0 then pq_Rn C (166, 73, [some (vR 10 0 0), some (vI x1), some (vI x2), some (vI (x3 + (1 : Int32))), l4], [], σ) else (if (σ.1 10 0 19 (x2).toNatClampNeg) = 0 then (if (σ.1 10 0 31 ((((48 : Int32) * x2) + x3)).toNatClampNeg) = 0 then pq_Rn C (166, 73, [some (vR 10 0 0), some (vI x1), some (vI x2), some (vI (x3 + (1 : Int32))), l4], [], σ) else (if (σ.1 10 0 38 (x3).toNatClampNeg) < 0 then pq_Rn C (166, 73, [some (vR 10 0 0), some (vI x1), some (vI x2), some (vI (x3 + (1 : Int32))), l4], [], σ) else (if (σ.1 10 0 39 ((σ.1 10 0 38 (x3).toNatClampNeg)).toNatClampNeg) = 0 then pq_Rn C (166, 73, [some (vR 10 0 0), some (vI (1 : Int32)), some (vI x2), some (vI (x3 + (1 : Int32))), l4], [], (pm_wi σ 10 0 39 ((σ.1 10 0 38 (x3).toNatClampNeg)).toNatClampNeg (1 : Int32))) else pq_Rn C (166, 73, [some (vR 10 0 0), some (vI x1), some (vI x2), some (vI (x3 + (1 : Int32))), l4], [], σ)))) else pq_Rn C (166, 73, [some (vR 10 0 0), some (vI x1), some (vI x2), some (vI (x3 + (1 : Int32))), l4], [], σ)))) := by
  by_cases c1 : (σ.1 10 0 16 0) ≤ x3
  · refine Eq.trans ?_ (if_pos c1).symm
    exact g166_73_0 C c1
  · refine Eq.trans ?_ (if_neg c1).symm
    by_cases c2 : (σ.1 10 0 39 (x2).toNatClampNeg) = 0
    · refine Eq.trans ?_ (if_pos c2).symm
      exact g166_73_1 C c1 (u1 c1) c2
    · refine Eq.trans ?_ (if_neg c2).symm
      by_cases c3 : (σ.1 10 0 19 (x2).toNatClampNeg) = 0
      · refine Eq.trans ?_ (if_pos c3).symm
        by_cases c4 : (σ.1 10 0 31 ((((48 : Int32) * x2) + x3)).toNatClampNeg) = 0
        · refine Eq.trans ?_ (if_pos c4).symm
          exact g166_73_2 C c1 (u1 c1) c2 c3 (u2 c1 c2 c3) c4
        · refine Eq.trans ?_ (if_neg c4).symm
          by_cases c5 : (σ.1 10 0 38 (x3).toNatClampNeg) < 0
          · refine Eq.trans ?_ (if_pos c5).symm
            exact g166_73_3 C c1 (u1 c1) c2 c3 (u2 c1 c2 c3) c4 (u3 c1 c2 c3 c4) c5
          · refine Eq.trans ?_ (if_neg c5).symm
            by_cases c6 : (σ.1 10 0 39 ((σ.1 10 0 38 (x3).toNatClampNeg)).toNatClampNeg) = 0
            · refine Eq.trans ?_ (if_pos c6).symm
              exact g166_73_4 C c1 (u1 c1) c2 c3 (u2 c1 c2 c3) c4 (u3 c1 c2 c3 c4) c5 (u4 c1 c2 c3 c4 c5) c6
            · refine Eq.trans ?_ (if_neg c6).symm
              exact g166_73_5 C c1 (u1 c1) c2 c3 (u2 c1 c2 c3) c4 (u3 c1 c2 c3 c4) c5 (u4 c1 c2 c3 c4 c5) c6
      · refine Eq.trans ?_ (if_neg c3).symm
        exact g166_73_6 C c1 (u1 c1) c2 c3
theorem t166_180 (C : pmC) {σ : pmS} {l1 : Option pmV} {x2 : Int32} {l3 : Option pmV} {l4 : Option pmV} (u1 : (¬ (σ.1 10 0 16 0) ≤ x2) → vp_in x2 48) : pq_Rn C (166, 180, [some (vR 10 0 0), l1, some (vI x2), l3, l4], [], σ) = (if (σ.1 10 0 16 0) ≤ x2 then some (none, σ) else (if (σ.1 10 0 19 (x2).toNatClampNeg) = 0 then (if (σ.1 10 0 39 (x2).toNatClampNeg) = 0 then pq_Rn C (166, 225, [some (vR 10 0 0), l1, some (vI x2), some (vI (0 : Int32)), some (vI (0 : Int32))], [], (pm_wi σ 10 0 36 0 ((σ.1 10 0 36 0) + (0 : Int32)))) else pq_Rn C (166, 225, [some (vR 10 0 0), l1, some (vI x2), some (vI (0 : Int32)), some (vI (0 : Int32))], [], (pm_wi σ 10 0 36 0 ((σ.1 10 0 36 0) + (1 : Int32))))) else pq_Rn C (166, 225, [some (vR 10 0 0), l1, some (vI x2), some (vI (0 : Int32)), some (vI (0 : Int32))], [], (pm_wi σ 10 0 36 0 ((σ.1 10 0 36 0) + (0 : Int32)))))) := by
  by_cases c1 : (σ.1 10 0 16 0) ≤ x2
  · refine Eq.trans ?_ (if_pos c1).symm
    exact g166_180_0 C c1
  · refine Eq.trans ?_ (if_neg c1).symm
    by_cases c2 : (σ.1 10 0 19 (x2).toNatClampNeg) = 0
    · refine Eq.trans ?_ (if_pos c2).symm
      by_cases c3 : (σ.1 10 0 39 (x2).toNatClampNeg) = 0
      · refine Eq.trans ?_ (if_pos c3).symm
        exact g166_180_1 C c1 (u1 c1) c2 c3
      · refine Eq.trans ?_ (if_neg c3).symm
        exact g166_180_2 C c1 (u1 c1) c2 c3
    · refine Eq.trans ?_ (if_neg c2).symm
      exact g166_180_3 C c1 (u1 c1) c2
theorem t166_225 (C : pmC) {σ : pmS} {l1 : Option pmV} {x2 : Int32} {x3 : Int32} {x4 : Int32} (u1 : (¬ (σ.1 10 0 16 0) ≤ x4) → (x3 = 0) → vp_in x4 48) (u2 : (¬ (σ.1 10 0 16 0) ≤ x4) → (x3 = 0) → (¬ (σ.1 10 0 39 (x4).toNatClampNeg) = 0) → vp_in (((48 : Int32) * x4) + x2) 2304) : pq_Rn C (166, 225, [some (vR 10 0 0), l1, some (vI x2), some (vI x3), some (vI x4)], [], σ) = (if (σ.1 10 0 16 0) ≤ x4 then (if x3 = 0 then pq_Rn C (166, 180, [some (vR 10 0 0), l1, some (vI (x2 + (1 : Int32))), some (vI x3), some (vI x4)], [], (pm_wi σ 10 0 37 0 ((σ.1 10 0 37 0) + (0 : Int32)))) else pq_Rn C (166, 180, [some (vR 10 0 0), l1, some (vI (x2 + (1 : Int32))), some (vI x3), some (vI x4)], [], (pm_wi σ 10 0 37 0 ((σ.1 10 0 37 0) + (1 : Int32))))) else (if x3 = 0 then (if (σ.1 10 0 39 (x4).toNatClampNeg) = 0 then pq_Rn C (166, 225, [some (vR 10 0 0), l1, some (vI x2), some (vI (0 : Int32)), some (vI (x4 + (1 : Int32)))], [], σ) else (if (σ.1 10 0 31 ((((48 : Int32) * x4) + x2)).toNatClampNeg) = 0 then pq_Rn C (166, 225, [some (vR 10 0 0), l1, some (vI x2), some (vI (0 : Int32)), some (vI (x4 + (1 : Int32)))], [], σ) else pq_Rn C (166, 225, [some (vR 10 0 0), l1, some (vI x2), some (vI (1 : Int32)), some (vI (x4 + (1 : Int32)))], [], σ))) else pq_Rn C (166, 225, [some (vR 10 0 0), l1, some (vI x2), some (vI (1 : Int32)), some (vI (x4 + (1 : Int32)))], [], σ))) := by
  by_cases c1 : (σ.1 10 0 16 0) ≤ x4
  · refine Eq.trans ?_ (if_pos c1).symm
    by_cases c2 : x3 = 0
    · refine Eq.trans ?_ (if_pos c2).symm
      exact g166_225_0 C c1 c2
    · refine Eq.trans ?_ (if_neg c2).symm
      exact g166_225_1 C c1 c2
  · refine Eq.trans ?_ (if_neg c1).symm
    by_cases c3 : x3 = 0
    · refine Eq.trans ?_ (if_pos c3).symm
      by_cases c4 : (σ.1 10 0 39 (x4).toNatClampNeg) = 0
      · refine Eq.trans ?_ (if_pos c4).symm
        exact g166_225_2 C c1 c3 (u1 c1 c3) c4
      · refine Eq.trans ?_ (if_neg c4).symm
        by_cases c5 : (σ.1 10 0 31 ((((48 : Int32) * x4) + x2)).toNatClampNeg) = 0
        · refine Eq.trans ?_ (if_pos c5).symm
          exact g166_225_3 C c1 c3 (u1 c1 c3) c4 (u2 c1 c3 c4) c5
        · refine Eq.trans ?_ (if_neg c5).symm
          exact g166_225_4 C c1 c3 (u1 c1 c3) c4 (u2 c1 c3 c4) c5
    · refine Eq.trans ?_ (if_neg c3).symm
      exact g166_225_5 C c1 c3
theorem t167_0 (C : pmC) {σ : pmS} {x1 : Int32} {r101 : Int32} {σ101 : pmS} (u1 : C 134 [vR 10 0 0, vI x1] σ = some (some (vI r101), σ101)) (u2 : (¬ r101 = 0) → vp_in x1 48) : pq_Rn C (167, 0, [some (vR 10 0 0), some (vI x1)], [], σ) = (if r101 = 0 then some (some (vI (-1 : Int32)), σ101) else some (some (vI (σ101.1 10 0 38 (x1).toNatClampNeg)), σ101)) := by
  by_cases c1 : r101 = 0
  · refine Eq.trans ?_ (if_pos c1).symm
    exact g167_0_0 C u1 c1
  · refine Eq.trans ?_ (if_neg c1).symm
    exact g167_0_1 C u1 c1 (u2 c1)
theorem t168_0 (C : pmC) {σ : pmS} {x1 : Int32}  : pq_Rn C (168, 0, [some (vR 10 0 0), some (vI x1)], [], σ) = (if x1 = 0 then some (some (vI (σ.1 10 0 36 0)), σ) else (if x1 = (1 : Int32) then some (some (vI (σ.1 10 0 37 0)), σ) else some (some (vI (-1 : Int32)), σ))) := by
  by_cases c1 : x1 = 0
  · refine Eq.trans ?_ (if_pos c1).symm
    exact g168_0_0 C c1
  · refine Eq.trans ?_ (if_neg c1).symm
    by_cases c2 : x1 = (1 : Int32)
    · refine Eq.trans ?_ (if_pos c2).symm
      exact g168_0_1 C c1 c2
    · refine Eq.trans ?_ (if_neg c2).symm
      exact g168_0_2 C c1 c2
theorem t169_0 (C : pmC) {σ : pmS} {x1 : Int32} {x2 : Int32} {l3 : Option pmV} {l4 : Option pmV}  : pq_Rn C (169, 0, [some (vR 10 0 0), some (vI x1), some (vI x2), l3, l4], [], σ) = pq_Rn C (169, 5, [some (vR 10 0 0), some (vI x1), some (vI x2), some (vI (0 : Int32)), some (vI (0 : Int32))], [], σ) := by
  exact g169_0_0 C 
theorem t169_5 (C : pmC) {σ : pmS} {x1 : Int32} {x2 : Int32} {x3 : Int32} {x4 : Int32} (u1 : vp_in x1 4) (u2 : (¬ (σ.1 10 0 0 (x1).toNatClampNeg) ≤ x4) → vp_in (((8 : Int32) * x1) + x4) 32) (u3 : (¬ (σ.1 10 0 0 (x1).toNatClampNeg) ≤ x4) → vp_in (σ.1 10 0 1 ((((8 : Int32) * x1) + x4)).toNatClampNeg) 8) (u4 : (¬ (σ.1 10 0 0 (x1).toNatClampNeg) ≤ x4) → vp_in x4 8) (u5 : (¬ (σ.1 10 0 0 (x1).toNatClampNeg) ≤ x4) → vp_in (((8 : Int32) * x2) + (σ.1 10 0 40 (x4).toNatClampNeg)) 32) (u6 : (¬ (σ.1 10 0 0 (x1).toNatClampNeg) ≤ x4) → ((σ.1 10 0 40 ((σ.1 10 0 1 ((((8 : Int32) * x1) + x4)).toNatClampNeg)).toNatClampNeg) = (σ.1 10 0 1 ((((8 : Int32) * x2) + (σ.1 10 0 40 (x4).toNatClampNeg))).toNatClampNeg)) → vp_in (σ.1 10 0 2 ((((8 : Int32) * x1) + x4)).toNatClampNeg) 8) (u7 : (¬ (σ.1 10 0 0 (x1).toNatClampNeg) ≤ x4) → (¬ (σ.1 10 0 40 ((σ.1 10 0 1 ((((8 : Int32) * x1) + x4)).toNatClampNeg)).toNatClampNeg) = (σ.1 10 0 1 ((((8 : Int32) * x2) + (σ.1 10 0 40 (x4).toNatClampNeg))).toNatClampNeg)) → vp_in (σ.1 10 0 2 ((((8 : Int32) * x1) + x4)).toNatClampNeg) 8) : pq_Rn C (169, 5, [some (vR 10 0 0), some (vI x1), some (vI x2), some (vI x3), some (vI x4)], [], σ) = (if (σ.1 10 0 0 (x1).toNatClampNeg) ≤ x4 then some (some (vI x3), σ) else (if (σ.1 10 0 40 ((σ.1 10 0 1 ((((8 : Int32) * x1) + x4)).toNatClampNeg)).toNatClampNeg) = (σ.1 10 0 1 ((((8 : Int32) * x2) + (σ.1 10 0 40 (x4).toNatClampNeg))).toNatClampNeg) then (if (σ.1 10 0 40 ((σ.1 10 0 2 ((((8 : Int32) * x1) + x4)).toNatClampNeg)).toNatClampNeg) = (σ.1 10 0 2 ((((8 : Int32) * x2) + (σ.1 10 0 40 (x4).toNatClampNeg))).toNatClampNeg) then pq_Rn C (169, 5, [some (vR 10 0 0), some (vI x1), some (vI x2), some (vI ((x3 + (1 : Int32)) + (1 : Int32))), some (vI (x4 + (1 : Int32)))], [], σ) else pq_Rn C (169, 5, [some (vR 10 0 0), some (vI x1), some (vI x2), some (vI ((x3 + (1 : Int32)) + (0 : Int32))), some (vI (x4 + (1 : Int32)))], [], σ)) else (if (σ.1 10 0 40 ((σ.1 10 0 2 ((((8 : Int32) * x1) + x4)).toNatClampNeg)).toNatClampNeg) = (σ.1 10 0 2 ((((8 : Int32) * x2) + (σ.1 10 0 40 (x4).toNatClampNeg))).toNatClampNeg) then pq_Rn C (169, 5, [some (vR 10 0 0), some (vI x1), some (vI x2), some (vI ((x3 + (0 : Int32)) + (1 : Int32))), some (vI (x4 + (1 : Int32)))], [], σ) else pq_Rn C (169, 5, [some (vR 10 0 0), some (vI x1), some (vI x2), some (vI ((x3 + (0 : Int32)) + (0 : Int32))), some (vI (x4 + (1 : Int32)))], [], σ)))) := by
  by_cases c1 : (σ.1 10 0 0 (x1).toNatClampNeg) ≤ x4
  · refine Eq.trans ?_ (if_pos c1).symm
    exact g169_5_0 C u1 c1
  · refine Eq.trans ?_ (if_neg c1).symm
    by_cases c2 : (σ.1 10 0 40 ((σ.1 10 0 1 ((((8 : Int32) * x1) + x4)).toNatClampNeg)).toNatClampNeg) = (σ.1 10 0 1 ((((8 : Int32) * x2) + (σ.1 10 0 40 (x4).toNatClampNeg))).toNatClampNeg)
    · refine Eq.trans ?_ (if_pos c2).symm
      by_cases c3 : (σ.1 10 0 40 ((σ.1 10 0 2 ((((8 : Int32) * x1) + x4)).toNatClampNeg)).toNatClampNeg) = (σ.1 10 0 2 ((((8 : Int32) * x2) + (σ.1 10 0 40 (x4).toNatClampNeg))).toNatClampNeg)
      · refine Eq.trans ?_ (if_pos c3).symm
        exact g169_5_1 C u1 c1 (u2 c1) (u3 c1) (u4 c1) (u5 c1) c2 (u6 c1 c2) c3
      · refine Eq.trans ?_ (if_neg c3).symm
        exact g169_5_2 C u1 c1 (u2 c1) (u3 c1) (u4 c1) (u5 c1) c2 (u6 c1 c2) c3
    · refine Eq.trans ?_ (if_neg c2).symm
      by_cases c4 : (σ.1 10 0 40 ((σ.1 10 0 2 ((((8 : Int32) * x1) + x4)).toNatClampNeg)).toNatClampNeg) = (σ.1 10 0 2 ((((8 : Int32) * x2) + (σ.1 10 0 40 (x4).toNatClampNeg))).toNatClampNeg)
      · refine Eq.trans ?_ (if_pos c4).symm
        exact g169_5_3 C u1 c1 (u2 c1) (u3 c1) (u4 c1) (u5 c1) c2 (u7 c1 c2) c4
      · refine Eq.trans ?_ (if_neg c4).symm
        exact g169_5_4 C u1 c1 (u2 c1) (u3 c1) (u4 c1) (u5 c1) c2 (u7 c1 c2) c4
theorem t170_0 (C : pmC) {σ : pmS} {x1 : Int32} {l2 : Option pmV} {l3 : Option pmV} {l4 : Option pmV} {l5 : Option pmV}  : pq_Rn C (170, 0, [some (vR 10 0 0), some (vI x1), l2, l3, l4, l5], [], σ) = pq_Rn C (170, 4, [some (vR 10 0 0), some (vI x1), some (vI (x1 - (2 : Int32))), l3, l4, l5], [], σ) := by
  exact g170_0_0 C 
theorem t170_4 (C : pmC) {σ : pmS} {x1 : Int32} {x2 : Int32} {l3 : Option pmV} {l4 : Option pmV} {l5 : Option pmV} (u1 : (¬ x2 < 0) → vp_in x2 8) (u2 : (¬ x2 < 0) → vp_in (x2 + (1 : Int32)) 8) : pq_Rn C (170, 4, [some (vR 10 0 0), some (vI x1), some (vI x2), l3, l4, l5], [], σ) = (if x2 < 0 then (if 0 ≤ x2 then pq_Rn C (170, 41, [some (vR 10 0 0), some (vI x1), some (vI x2), some (vI (x1 - (1 : Int32))), l4, l5], [], σ) else some (some (vI (0 : Int32)), σ)) else (if (σ.1 10 0 40 (x2).toNatClampNeg) ≤ (σ.1 10 0 40 ((x2 + (1 : Int32))).toNatClampNeg) then (if 0 ≤ x2 then pq_Rn C (170, 41, [some (vR 10 0 0), some (vI x1), some (vI x2), some (vI (x1 - (1 : Int32))), l4, l5], [], σ) else some (some (vI (0 : Int32)), σ)) else pq_Rn C (170, 4, [some (vR 10 0 0), some (vI x1), some (vI (x2 + (-1 : Int32))), l3, l4, l5], [], σ))) := by
  by_cases c1 : x2 < 0
  · refine Eq.trans ?_ (if_pos c1).symm
    by_cases c2 : 0 ≤ x2
    · refine Eq.trans ?_ (if_pos c2).symm
      exact g170_4_0 C c1 c2
    · refine Eq.trans ?_ (if_neg c2).symm
      exact g170_4_1 C c1 c2
  · refine Eq.trans ?_ (if_neg c1).symm
    by_cases c3 : (σ.1 10 0 40 (x2).toNatClampNeg) ≤ (σ.1 10 0 40 ((x2 + (1 : Int32))).toNatClampNeg)
    · refine Eq.trans ?_ (if_pos c3).symm
      by_cases c4 : 0 ≤ x2
      · refine Eq.trans ?_ (if_pos c4).symm
        exact g170_4_2 C c1 (u1 c1) (u2 c1) c3 c4
      · refine Eq.trans ?_ (if_neg c4).symm
        exact g170_4_3 C c1 (u1 c1) (u2 c1) c3 c4
    · refine Eq.trans ?_ (if_neg c3).symm
      exact g170_4_4 C c1 (u1 c1) (u2 c1) c3
theorem t170_41 (C : pmC) {σ : pmS} {x1 : Int32} {x2 : Int32} {x3 : Int32} {l4 : Option pmV} {l5 : Option pmV} {σ101 : pmS} (u1 : vp_in x3 8) (u2 : vp_in x2 8) (u3 : ((σ.1 10 0 40 (x2).toNatClampNeg) ≤ (σ.1 10 0 40 (x3).toNatClampNeg)) → C 171 [vR 10 0 0, vI x2, vI x3] σ = some (none, σ101)) : pq_Rn C (170, 41, [some (vR 10 0 0), some (vI x1), some (vI x2), some (vI x3), l4, l5], [], σ) = (if (σ.1 10 0 40 (x2).toNatClampNeg) ≤ (σ.1 10 0 40 (x3).toNatClampNeg) then pq_Rn C (170, 78, [some (vR 10 0 0), some (vI x1), some (vI x2), some (vI x3), some (vI (x2 + (1 : Int32))), some (vI (x1 - (1 : Int32)))], [], σ101) else pq_Rn C (170, 41, [some (vR 10 0 0), some (vI x1), some (vI x2), some (vI (x3 + (-1 : Int32))), l4, l5], [], σ)) := by
  by_cases c1 : (σ.1 10 0 40 (x2).toNatClampNeg) ≤ (σ.1 10 0 40 (x3).toNatClampNeg)
  · refine Eq.trans ?_ (if_pos c1).symm
    exact g170_41_0 C u1 u2 c1 (u3 c1)
  · refine Eq.trans ?_ (if_neg c1).symm
    exact g170_41_1 C u1 u2 c1
theorem t170_78 (C : pmC) {σ : pmS} {l1 : Option pmV} {l2 : Option pmV} {l3 : Option pmV} {x4 : Int32} {x5 : Int32} {σ101 : pmS} (u1 : (¬ x5 ≤ x4) → C 171 [vR 10 0 0, vI x4, vI x5] σ = some (none, σ101)) : pq_Rn C (170, 78, [some (vR 10 0 0), l1, l2, l3, some (vI x4), some (vI x5)], [], σ) = (if x5 ≤ x4 then some (some (vI (1 : Int32)), σ) else pq_Rn C (170, 78, [some (vR 10 0 0), l1, l2, l3, some (vI (x4 + (1 : Int32))), some (vI (x5 + (-1 : Int32)))], [], σ101)) := by
  by_cases c1 : x5 ≤ x4
  · refine Eq.trans ?_ (if_pos c1).symm
    exact g170_78_0 C c1
  · refine Eq.trans ?_ (if_neg c1).symm
    exact g170_78_1 C c1 (u1 c1)
theorem t171_0 (C : pmC) {σ : pmS} {x1 : Int32} {x2 : Int32} {l3 : Option pmV} (u1 : vp_in x1 8) (u2 : vp_in x2 8) : pq_Rn C (171, 0, [some (vR 10 0 0), some (vI x1), some (vI x2), l3], [], σ) = some (none, (pm_wi (pm_wi σ 10 0 40 (x1).toNatClampNeg (σ.1 10 0 40 (x2).toNatClampNeg)) 10 0 40 (x2).toNatClampNeg (σ.1 10 0 40 (x1).toNatClampNeg))) := by
  exact g171_0_0 C u1 u2
theorem t172_0 (C : pmC) {σ : pmS} {x1 : Int32} {x2 : Int32} {l3 : Option pmV} {l4 : Option pmV} {l5 : Option pmV} {l6 : Option pmV} {l7 : Option pmV} {r101 : Int32} {σ101 : pmS} {r102 : Int32} {σ102 : pmS} (u1 : C 106 [vR 10 0 0, vI x1] σ = some (some (vI r101), σ101)) (u2 : (¬ r101 = 0) → C 106 [vR 10 0 0, vI x2] σ101 = some (some (vI r102), σ102)) (u3 : (¬ r101 = 0) → (¬ r102 = 0) → vp_in x1 4) (u4 : (¬ r101 = 0) → (¬ r102 = 0) → vp_in x2 4) : pq_Rn C (172, 0, [some (vR 10 0 0), some (vI x1), some (vI x2), l3, l4, l5, l6, l7], [], σ) = (if r101 = 0 then some (some (vI (-1 : Int32)), σ101) else (if r102 = 0 then some (some (vI (-1 : Int32)), σ102) else (if (σ102.1 10 0 0 (x2).toNatClampNeg) = (σ102.1 10 0 0 (x1).toNatClampNeg) then pq_Rn C (172, 41, [some (vR 10 0 0), some (vI x1), some (vI x2), some (vI (σ102.1 10 0 0 (x1).toNatClampNeg)), some (vI (0 : Int32)), l5, l6, l7], [], σ102) else some (some (vI (-3 : Int32)), σ102)))) := by
  by_cases c1 : r101 = 0
  · refine Eq.trans ?_ (if_pos c1).symm
    exact g172_0_0 C u1 c1
  · refine Eq.trans ?_ (if_neg c1).symm
    by_cases c2 : r102 = 0
    · refine Eq.trans ?_ (if_pos c2).symm
      exact g172_0_1 C u1 c1 (u2 c1) c2
    · refine Eq.trans ?_ (if_neg c2).symm
      by_cases c3 : (σ102.1 10 0 0 (x2).toNatClampNeg) = (σ102.1 10 0 0 (x1).toNatClampNeg)
      · refine Eq.trans ?_ (if_pos c3).symm
        exact g172_0_2 C u1 c1 (u2 c1) c2 (u3 c1 c2) (u4 c1 c2) c3
      · refine Eq.trans ?_ (if_neg c3).symm
        exact g172_0_3 C u1 c1 (u2 c1) c2 (u3 c1 c2) (u4 c1 c2) c3
theorem t172_41 (C : pmC) {σ : pmS} {x1 : Int32} {x2 : Int32} {x3 : Int32} {x4 : Int32} {l5 : Option pmV} {l6 : Option pmV} {l7 : Option pmV} (u1 : (¬ x3 ≤ x4) → vp_in x4 8) : pq_Rn C (172, 41, [some (vR 10 0 0), some (vI x1), some (vI x2), some (vI x3), some (vI x4), l5, l6, l7], [], σ) = (if x3 ≤ x4 then pq_Rn C (172, 68, [some (vR 10 0 0), some (vI x1), some (vI x2), some (vI x3), some (vI (-1 : Int32)), some (vI (1 : Int32)), l6, l7], [], σ) else pq_Rn C (172, 41, [some (vR 10 0 0), some (vI x1), some (vI x2), some (vI x3), some (vI (x4 + (1 : Int32))), l5, l6, l7], [], (pm_wi σ 10 0 40 (x4).toNatClampNeg x4))) := by
  by_cases c1 : x3 ≤ x4
  · refine Eq.trans ?_ (if_pos c1).symm
    exact g172_41_0 C c1
  · refine Eq.trans ?_ (if_neg c1).symm
    exact g172_41_1 C c1 (u1 c1)
theorem t172_68 (C : pmC) {σ : pmS} {x1 : Int32} {x2 : Int32} {x3 : Int32} {x4 : Int32} {x5 : Int32} {l6 : Option pmV} {l7 : Option pmV} {r101 : Int32} {σ101 : pmS} {r102 : Int32} {σ102 : pmS} (u1 : (¬ x5 = 0) → C 169 [vR 10 0 0, vI x1, vI x2] σ = some (some (vI r101), σ101)) (u2 : (¬ x5 = 0) → (r101 ≤ x4) → C 170 [vR 10 0 0, vI x3] σ101 = some (some (vI r102), σ102)) : pq_Rn C (172, 68, [some (vR 10 0 0), some (vI x1), some (vI x2), some (vI x3), some (vI x4), some (vI x5), l6, l7], [], σ) = (if x5 = 0 then some (some (vI x4), (pm_wi σ 10 0 42 0 x3)) else (if r101 ≤ x4 then pq_Rn C (172, 68, [some (vR 10 0 0), some (vI x1), some (vI x2), some (vI x3), some (vI x4), some (vI r102), some (vI r101), l7], [], σ102) else pq_Rn C (172, 95, [some (vR 10 0 0), some (vI x1), some (vI x2), some (vI x3), some (vI r101), some (vI x5), some (vI r101), some (vI (0 : Int32))], [], σ101))) := by
  by_cases c1 : x5 = 0
  · refine Eq.trans ?_ (if_pos c1).symm
    exact g172_68_0 C c1
  · refine Eq.trans ?_ (if_neg c1).symm
    by_cases c2 : r101 ≤ x4
    · refine Eq.trans ?_ (if_pos c2).symm
      exact g172_68_1 C c1 (u1 c1) c2 (u2 c1 c2)
    · refine Eq.trans ?_ (if_neg c2).symm
      exact g172_68_2 C c1 (u1 c1) c2
theorem t172_95 (C : pmC) {σ : pmS} {x1 : Int32} {x2 : Int32} {x3 : Int32} {x4 : Int32} {l5 : Option pmV} {l6 : Option pmV} {x7 : Int32} {r101 : Int32} {σ101 : pmS} (u1 : (x3 ≤ x7) → C 170 [vR 10 0 0, vI x3] σ = some (some (vI r101), σ101)) (u2 : (¬ x3 ≤ x7) → vp_in x7 8) : pq_Rn C (172, 95, [some (vR 10 0 0), some (vI x1), some (vI x2), some (vI x3), some (vI x4), l5, l6, some (vI x7)], [], σ) = (if x3 ≤ x7 then pq_Rn C (172, 68, [some (vR 10 0 0), some (vI x1), some (vI x2), some (vI x3), some (vI x4), some (vI r101), l6, some (vI x7)], [], σ101) else pq_Rn C (172, 95, [some (vR 10 0 0), some (vI x1), some (vI x2), some (vI x3), some (vI x4), l5, l6, some (vI (x7 + (1 : Int32)))], [], (pm_wi σ 10 0 41 (x7).toNatClampNeg (σ.1 10 0 40 (x7).toNatClampNeg)))) := by
  by_cases c1 : x3 ≤ x7
  · refine Eq.trans ?_ (if_pos c1).symm
    exact g172_95_0 C c1 (u1 c1)
  · refine Eq.trans ?_ (if_neg c1).symm
    exact g172_95_1 C c1 (u2 c1)
theorem t173_0 (C : pmC) {σ : pmS} {x1 : Int32} {r101 : Int32} {σ101 : pmS} (u1 : C 105 [vL (x1).toInt64, vL (0 : Int64), vL (((σ.1 10 0 42 0) - (1 : Int32))).toInt64] σ = some (some (vI r101), σ101)) (u2 : (¬ r101 = 0) → vp_in x1 8) : pq_Rn C (173, 0, [some (vR 10 0 0), some (vI x1)], [], σ) = (if r101 = 0 then some (some (vI (-1 : Int32)), σ101) else some (some (vI (σ101.1 10 0 41 (x1).toNatClampNeg)), σ101)) := by
  by_cases c1 : r101 = 0
  · refine Eq.trans ?_ (if_pos c1).symm
    exact g173_0_0 C u1 c1
  · refine Eq.trans ?_ (if_neg c1).symm
    exact g173_0_1 C u1 c1 (u2 c1)
theorem t174_0 (C : pmC) {σ : pmS} {l1 : Option pmV} {l2 : Option pmV} {l3 : Option pmV} {l4 : Option pmV} {l5 : Option pmV} {l6 : Option pmV}  : pq_Rn C (174, 0, [some (vR 10 0 0), l1, l2, l3, l4, l5, l6], [], σ) = pq_Rn C (174, 2, [some (vR 10 0 0), some (vI (0 : Int32)), l2, l3, l4, l5, l6], [], σ) := by
  exact g174_0_0 C 
theorem t174_2 (C : pmC) {σ : pmS} {x1 : Int32} {l2 : Option pmV} {l3 : Option pmV} {l4 : Option pmV} {l5 : Option pmV} {l6 : Option pmV} {r101 : Int32} {σ101 : pmS} (u1 : (¬ (σ.1 10 0 16 0) ≤ x1) → vp_in x1 48) (u2 : (¬ (σ.1 10 0 16 0) ≤ x1) → C 137 [vR 10 0 0, vI (σ.1 10 0 22 (x1).toNatClampNeg), vI (σ.1 10 0 20 (x1).toNatClampNeg)] σ = some (some (vI r101), σ101)) (u3 : (¬ (σ.1 10 0 16 0) ≤ x1) → vp_in r101 15) : pq_Rn C (174, 2, [some (vR 10 0 0), some (vI x1), l2, l3, l4, l5, l6], [], σ) = (if (σ.1 10 0 16 0) ≤ x1 then pq_Rn C (174, 251, [some (vR 10 0 0), some (vI (1 : Int32)), some (vI (0 : Int32)), l3, l4, l5, l6], [], σ) else (if (σ101.1 10 0 14 (r101).toNatClampNeg) = 0 then pq_Rn C (174, 48, [some (vR 10 0 0), some (vI x1), some (vI r101), some (vI (σ101.1 10 0 13 (r101).toNatClampNeg)), l4, l5, l6], [vI (1 : Int32)], σ101) else pq_Rn C (174, 48, [some (vR 10 0 0), some (vI x1), some (vI r101), some (vI (σ101.1 10 0 13 (r101).toNatClampNeg)), l4, l5, l6], [vI (0 : Int32)], σ101))) := by
  by_cases c1 : (σ.1 10 0 16 0) ≤ x1
  · refine Eq.trans ?_ (if_pos c1).symm
    exact g174_2_0 C c1
  · refine Eq.trans ?_ (if_neg c1).symm
    by_cases c2 : (σ101.1 10 0 14 (r101).toNatClampNeg) = 0
    · refine Eq.trans ?_ (if_pos c2).symm
      exact g174_2_1 C c1 (u1 c1) (u2 c1) (u3 c1) c2
    · refine Eq.trans ?_ (if_neg c2).symm
      exact g174_2_2 C c1 (u1 c1) (u2 c1) (u3 c1) c2
theorem t174_48 (C : pmC) {σ : pmS} {x1 : Int32} {l2 : Option pmV} {x3 : Int32} {l4 : Option pmV} {l5 : Option pmV} {l6 : Option pmV} {s0 : Int32} (u1 : vp_in x1 48) : pq_Rn C (174, 48, [some (vR 10 0 0), some (vI x1), l2, some (vI x3), l4, l5, l6], [vI s0], σ) = (if 0 ≤ (σ.1 10 0 23 (x1).toNatClampNeg) then (if s0 = 0 then pq_Rn C (174, 83, [some (vR 10 0 0), some (vI x1), l2, some (vI x3), some (vI s0), l5, l6], [vI (σ.1 10 0 24 (x1).toNatClampNeg)], σ) else pq_Rn C (174, 83, [some (vR 10 0 0), some (vI x1), l2, some (vI x3), some (vI s0), l5, l6], [vI (σ.1 10 0 23 (x1).toNatClampNeg)], σ)) else pq_Rn C (174, 83, [some (vR 10 0 0), some (vI x1), l2, some (vI x3), some (vI s0), l5, l6], [vI (-1 : Int32)], σ)) := by
  by_cases c1 : 0 ≤ (σ.1 10 0 23 (x1).toNatClampNeg)
  · refine Eq.trans ?_ (if_pos c1).symm
    by_cases c2 : s0 = 0
    · refine Eq.trans ?_ (if_pos c2).symm
      exact g174_48_0 C u1 c1 c2
    · refine Eq.trans ?_ (if_neg c2).symm
      exact g174_48_1 C u1 c1 c2
  · refine Eq.trans ?_ (if_neg c1).symm
    exact g174_48_2 C u1 c1
theorem t174_83 (C : pmC) {σ : pmS} {x1 : Int32} {l2 : Option pmV} {x3 : Int32} {x4 : Int32} {l5 : Option pmV} {l6 : Option pmV} {s0 : Int32} (u1 : (0 ≤ s0) → vp_in s0 48) : pq_Rn C (174, 83, [some (vR 10 0 0), some (vI x1), l2, some (vI x3), some (vI x4), l5, l6], [vI s0], σ) = (if 0 ≤ s0 then pq_Rn C (174, 106, [some (vR 10 0 0), some (vI x1), l2, some (vI x3), some (vI x4), some (vI s0), l6], [vI (σ.1 10 0 43 (s0).toNatClampNeg), vI x1, vR 10 0 44], σ) else pq_Rn C (174, 106, [some (vR 10 0 0), some (vI x1), l2, some (vI x3), some (vI x4), some (vI s0), l6], [vI x1, vI x1, vR 10 0 44], σ)) := by
  by_cases c1 : 0 ≤ s0
  · refine Eq.trans ?_ (if_pos c1).symm
    exact g174_83_0 C c1 (u1 c1)
  · refine Eq.trans ?_ (if_neg c1).symm
    exact g174_83_1 C c1
theorem t174_106 (C : pmC) {σ : pmS} {x1 : Int32} {l2 : Option pmV} {x3 : Int32} {x4 : Int32} {x5 : Int32} {l6 : Option pmV} {s2 : Int32} {s1 : Int32} (u1 : vp_in s1 48) (u2 : (¬ 0 ≤ x5) → vp_in x1 48) (u3 : (¬ 0 ≤ x5) → ((σ.1 10 0 25 (x1).toNatClampNeg) < 0) → vp_in x3 4) : pq_Rn C (174, 106, [some (vR 10 0 0), some (vI x1), l2, some (vI x3), some (vI x4), some (vI x5), l6], [vI s2, vI s1, vR 10 0 44], σ) = (if 0 ≤ x5 then pq_Rn C (174, 148, [some (vR 10 0 0), some (vI x1), l2, some (vI x3), some (vI x4), some (vI x5), l6], [], (pm_wi σ 10 0 43 (s1).toNatClampNeg s2)) else (if (σ.1 10 0 25 (x1).toNatClampNeg) < 0 then pq_Rn C (174, 147, [some (vR 10 0 0), some (vI x1), l2, some (vI x3), some (vI x4), some (vI x5), l6], [vI (((1 : Int32) <<< ((σ.1 10 0 0 (x3).toNatClampNeg) &&& 31)) - (1 : Int32)), vI x1, vR 10 0 46], (pm_wi σ 10 0 43 (s1).toNatClampNeg s2)) else pq_Rn C (174, 147, [some (vR 10 0 0), some (vI x1), l2, some (vI x3), some (vI x4), some (vI x5), l6], [vI ((1 : Int32) <<< ((σ.1 10 0 25 (x1).toNatClampNeg) &&& 31)), vI x1, vR 10 0 46], (pm_wi σ 10 0 43 (s1).toNatClampNeg s2)))) := by
  by_cases c1 : 0 ≤ x5
  · refine Eq.trans ?_ (if_pos c1).symm
    exact g174_106_0 C u1 c1
  · refine Eq.trans ?_ (if_neg c1).symm
    by_cases c2 : (σ.1 10 0 25 (x1).toNatClampNeg) < 0
    · refine Eq.trans ?_ (if_pos c2).symm
      exact g174_106_1 C u1 c1 (u2 c1) c2 (u3 c1 c2)
    · refine Eq.trans ?_ (if_neg c2).symm
      exact g174_106_2 C u1 c1 (u2 c1) c2
theorem t174_147 (C : pmC) {σ : pmS} {x1 : Int32} {l2 : Option pmV} {x3 : Int32} {x4 : Int32} {x5 : Int32} {l6 : Option pmV} {s2 : Int32} {s1 : Int32} (u1 : vp_in s1 48) : pq_Rn C (174, 147, [some (vR 10 0 0), some (vI x1), l2, some (vI x3), some (vI x4), some (vI x5), l6], [vI s2, vI s1, vR 10 0 46], σ) = pq_Rn C (174, 148, [some (vR 10 0 0), some (vI x1), l2, some (vI x3), some (vI x4), some (vI x5), l6], [], (pm_wi σ 10 0 45 (s1).toNatClampNeg s2)) := by
  exact g174_147_0 C u1
theorem t174_148 (C : pmC) {σ : pmS} {x1 : Int32} {l2 : Option pmV} {x3 : Int32} {x4 : Int32} {x5 : Int32} {l6 : Option pmV}  : pq_Rn C (174, 148, [some (vR 10 0 0), some (vI x1), l2, some (vI x3), some (vI x4), some (vI x5), l6], [], σ) = pq_Rn C (174, 151, [some (vR 10 0 0), some (vI x1), l2, some (vI x3), some (vI x4), some (vI x5), some (vI (0 : Int32))], [], σ) := by
  exact g174_148_0 C 
theorem t174_151 (C : pmC) {σ : pmS} {x1 : Int32} {l2 : Option pmV} {x3 : Int32} {x4 : Int32} {x5 : Int32} {x6 : Int32} {r101 : Int32} {σ101 : pmS} (u1 : (¬ (8 : Int32) ≤ x6) → (0 ≤ x5) → vp_in (((8 : Int32) * x5) + x6) 384) (u2 : (¬ (8 : Int32) ≤ x6) → (0 ≤ x5) → C 145 [vR 10 0 0, vI x3, vI (σ.1 10 0 44 ((((8 : Int32) * x5) + x6)).toNatClampNeg), vI x4] σ = some (some (vI r101), σ101)) : pq_Rn C (174, 151, [some (vR 10 0 0), some (vI x1), l2, some (vI x3), some (vI x4), some (vI x5), some (vI x6)], [], σ) = (if (8 : Int32) ≤ x6 then pq_Rn C (174, 2, [some (vR 10 0 0), some (vI (x1 + (1 : Int32))), l2, some (vI x3), some (vI x4), some (vI x5), some (vI x6)], [], σ) else (if 0 ≤ x5 then pq_Rn C (174, 199, [some (vR 10 0 0), some (vI x1), l2, some (vI x3), some (vI x4), some (vI x5), some (vI x6)], [vI r101, vI (((8 : Int32) * x1) + x6), vR 10 0 45], σ101) else pq_Rn C (174, 199, [some (vR 10 0 0), some (vI x1), l2, some (vI x3), some (vI x4), some (vI x5), some (vI x6)], [vI x6, vI (((8 : Int32) * x1) + x6), vR 10 0 45], σ))) := by
  by_cases c1 : (8 : Int32) ≤ x6
  · refine Eq.trans ?_ (if_pos c1).symm
    exact g174_151_0 C c1
  · refine Eq.trans ?_ (if_neg c1).symm
    by_cases c2 : 0 ≤ x5
    · refine Eq.trans ?_ (if_pos c2).symm
      exact g174_151_1 C c1 c2 (u1 c1 c2) (u2 c1 c2)
    · refine Eq.trans ?_ (if_neg c2).symm
      exact g174_151_2 C c1 c2
theorem t174_199 (C : pmC) {σ : pmS} {x1 : Int32} {l2 : Option pmV} {x3 : Int32} {x4 : Int32} {x5 : Int32} {x6 : Int32} {s2 : Int32} {s1 : Int32} (u1 : vp_in s1 384) (u2 : vp_in (((8 : Int32) * x1) + x6) 384) (u3 : (¬ 0 ≤ ((pm_wi σ 10 0 44 (s1).toNatClampNeg s2).1 10 0 44 ((((8 : Int32) * x1) + x6)).toNatClampNeg)) → vp_in x1 48) (u4 : (¬ 0 ≤ ((pm_wi σ 10 0 44 (s1).toNatClampNeg s2).1 10 0 44 ((((8 : Int32) * x1) + x6)).toNatClampNeg)) → vp_in (σ.1 10 0 43 (x1).toNatClampNeg) 48) : pq_Rn C (174, 199, [some (vR 10 0 0), some (vI x1), l2, some (vI x3), some (vI x4), some (vI x5), some (vI x6)], [vI s2, vI s1, vR 10 0 45], σ) = (if 0 ≤ ((pm_wi σ 10 0 44 (s1).toNatClampNeg s2).1 10 0 44 ((((8 : Int32) * x1) + x6)).toNatClampNeg) then pq_Rn C (174, 235, [some (vR 10 0 0), some (vI x1), l2, some (vI x3), some (vI x4), some (vI x5), some (vI x6)], [], (pm_wi σ 10 0 44 (s1).toNatClampNeg s2)) else pq_Rn C (174, 235, [some (vR 10 0 0), some (vI x1), l2, some (vI x3), some (vI x4), some (vI x5), some (vI x6)], [], (pm_wi (pm_wi σ 10 0 44 (s1).toNatClampNeg s2) 10 0 45 ((σ.1 10 0 43 (x1).toNatClampNeg)).toNatClampNeg ((σ.1 10 0 45 ((σ.1 10 0 43 (x1).toNatClampNeg)).toNatClampNeg) &&& (((1 : Int32) <<< (x6 &&& 31)) ^^^ (-1 : Int32)))))) := by
  by_cases c1 : 0 ≤ ((pm_wi σ 10 0 44 (s1).toNatClampNeg s2).1 10 0 44 ((((8 : Int32) * x1) + x6)).toNatClampNeg)
  · refine Eq.trans ?_ (if_pos c1).symm
    exact g174_199_0 C u1 u2 c1
  · refine Eq.trans ?_ (if_neg c1).symm
    exact g174_199_1 C u1 u2 c1 (u3 c1) (u4 c1)
theorem t174_235 (C : pmC) {σ : pmS} {x1 : Int32} {l2 : Option pmV} {x3 : Int32} {x4 : Int32} {x5 : Int32} {x6 : Int32}  : pq_Rn C (174, 235, [some (vR 10 0 0), some (vI x1), l2, some (vI x3), some (vI x4), some (vI x5), some (vI x6)], [], σ) = pq_Rn C (174, 151, [some (vR 10 0 0), some (vI x1), l2, some (vI x3), some (vI x4), some (vI x5), some (vI (x6 + (1 : Int32)))], [], σ) := by
  exact g174_235_0 C 
theorem t174_251 (C : pmC) {σ : pmS} {x1 : Int32} {x2 : Int32} {l3 : Option pmV} {l4 : Option pmV} {l5 : Option pmV} {l6 : Option pmV} (u1 : ((σ.1 10 0 16 0) ≤ x2) → x1 = 0 ∨ x1 = 1) (u2 : (¬ (σ.1 10 0 16 0) ≤ x2) → (¬ x1 = 0) → vp_in x2 48) (u3 : (¬ (σ.1 10 0 16 0) ≤ x2) → (¬ x1 = 0) → vp_in (σ.1 10 0 43 (x2).toNatClampNeg) 48) : pq_Rn C (174, 251, [some (vR 10 0 0), some (vI x1), some (vI x2), l3, l4, l5, l6], [], σ) = (if (σ.1 10 0 16 0) ≤ x2 then some (some (vI x1), σ) else (if x1 = 0 then pq_Rn C (174, 281, [some (vR 10 0 0), some (vI x1), some (vI x2), l3, l4, l5, l6], [], σ) else (if (σ.1 10 0 45 ((σ.1 10 0 43 (x2).toNatClampNeg)).toNatClampNeg) = 0 then pq_Rn C (174, 281, [some (vR 10 0 0), some (vI x1), some (vI x2), l3, l4, l5, l6], [], σ) else pq_Rn C (174, 282, [some (vR 10 0 0), some (vI x1), some (vI x2), l3, l4, l5, l6], [vI (1 : Int32)], σ)))) := by
  by_cases c1 : (σ.1 10 0 16 0) ≤ x2
  · refine Eq.trans ?_ (if_pos c1).symm
    exact g174_251_0 C c1 (u1 c1)
  · refine Eq.trans ?_ (if_neg c1).symm
    by_cases c2 : x1 = 0
    · refine Eq.trans ?_ (if_pos c2).symm
      exact g174_251_1 C c1 c2
    · refine Eq.trans ?_ (if_neg c2).symm
      by_cases c3 : (σ.1 10 0 45 ((σ.1 10 0 43 (x2).toNatClampNeg)).toNatClampNeg) = 0
      · refine Eq.trans ?_ (if_pos c3).symm
        exact g174_251_2 C c1 c2 (u2 c1 c2) (u3 c1 c2) c3
      · refine Eq.trans ?_ (if_neg c3).symm
        exact g174_251_3 C c1 c2 (u2 c1 c2) (u3 c1 c2) c3
theorem t174_281 (C : pmC) {σ : pmS} {l1 : Option pmV} {x2 : Int32} {l3 : Option pmV} {l4 : Option pmV} {l5 : Option pmV} {l6 : Option pmV}  : pq_Rn C (174, 281, [some (vR 10 0 0), l1, some (vI x2), l3, l4, l5, l6], [], σ) = pq_Rn C (174, 282, [some (vR 10 0 0), l1, some (vI x2), l3, l4, l5, l6], [vI (0 : Int32)], σ) := by
  exact g174_281_0 C 
theorem t174_282 (C : pmC) {σ : pmS} {l1 : Option pmV} {x2 : Int32} {l3 : Option pmV} {l4 : Option pmV} {l5 : Option pmV} {l6 : Option pmV} {s0 : Int32}  : pq_Rn C (174, 282, [some (vR 10 0 0), l1, some (vI x2), l3, l4, l5, l6], [vI s0], σ) = pq_Rn C (174, 251, [some (vR 10 0 0), some (vI s0), some (vI (x2 + (1 : Int32))), l3, l4, l5, l6], [], σ) := by
  exact g174_282_0 C 
theorem t175_0 (C : pmC) {σ : pmS} {x1 : Int32} {l2 : Option pmV} {l3 : Option pmV}  : pq_Rn C (175, 0, [some (vR 10 0 0), some (vI x1), l2, l3], [], σ) = pq_Rn C (175, 4, [some (vR 10 0 0), some (vI x1), some (vI (0 : Int32)), some (vI (0 : Int32))], [], σ) := by
  exact g175_0_0 C 
theorem t175_4 (C : pmC) {σ : pmS} {x1 : Int32} {x2 : Int32} {x3 : Int32} (u1 : (¬ (8 : Int32) ≤ x3) → vp_in x1 48) (u2 : (¬ (8 : Int32) ≤ x3) → vp_in (σ.1 10 0 43 (x1).toNatClampNeg) 48) (u3 : (¬ (8 : Int32) ≤ x3) → ((((σ.1 10 0 45 ((σ.1 10 0 43 (x1).toNatClampNeg)).toNatClampNeg) >>> (x3 &&& 31)) &&& (1 : Int32)) = (1 : Int32)) → vp_in (((8 : Int32) * x1) + x3) 384) : pq_Rn C (175, 4, [some (vR 10 0 0), some (vI x1), some (vI x2), some (vI x3)], [], σ) = (if (8 : Int32) ≤ x3 then some (some (vI x2), σ) else (if (((σ.1 10 0 45 ((σ.1 10 0 43 (x1).toNatClampNeg)).toNatClampNeg) >>> (x3 &&& 31)) &&& (1 : Int32)) = (1 : Int32) then pq_Rn C (175, 4, [some (vR 10 0 0), some (vI x1), some (vI (x2 ||| ((1 : Int32) <<< ((σ.1 10 0 44 ((((8 : Int32) * x1) + x3)).toNatClampNeg) &&& 31)))), some (vI (x3 + (1 : Int32)))], [], σ) else pq_Rn C (175, 4, [some (vR 10 0 0), some (vI x1), some (vI (x2 ||| (0 : Int32))), some (vI (x3 + (1 : Int32)))], [], σ))) := by
  by_cases c1 : (8 : Int32) ≤ x3
  · refine Eq.trans ?_ (if_pos c1).symm
    exact g175_4_0 C c1
  · refine Eq.trans ?_ (if_neg c1).symm
    by_cases c2 : (((σ.1 10 0 45 ((σ.1 10 0 43 (x1).toNatClampNeg)).toNatClampNeg) >>> (x3 &&& 31)) &&& (1 : Int32)) = (1 : Int32)
    · refine Eq.trans ?_ (if_pos c2).symm
      exact g175_4_1 C c1 (u1 c1) (u2 c1) c2 (u3 c1 c2)
    · refine Eq.trans ?_ (if_neg c2).symm
      exact g175_4_2 C c1 (u1 c1) (u2 c1) c2
theorem t176_0 (C : pmC) {σ : pmS} {x1 : Int32} {r101 : Int32} {σ101 : pmS} {r102 : Int32} {σ102 : pmS} {r103 : Int32} {σ103 : pmS} (u1 : C 134 [vR 10 0 0, vI x1] σ = some (some (vI r101), σ101)) (u2 : (¬ r101 = 0) → C 174 [vR 10 0 0] σ101 = some (some (vI r102), σ102)) (u3 : (¬ r101 = 0) → (¬ r102 = 0) → C 175 [vR 10 0 0, vI x1] σ102 = some (some (vI r103), σ103)) : pq_Rn C (176, 0, [some (vR 10 0 0), some (vI x1)], [], σ) = (if r101 = 0 then some (some (vI (-1 : Int32)), σ101) else (if r102 = 0 then some (some (vI (0 : Int32)), σ102) else some (some (vI r103), σ103))) := by
  by_cases c1 : r101 = 0
  · refine Eq.trans ?_ (if_pos c1).symm
    exact g176_0_0 C u1 c1
  · refine Eq.trans ?_ (if_neg c1).symm
    by_cases c2 : r102 = 0
    · refine Eq.trans ?_ (if_pos c2).symm
      exact g176_0_1 C u1 c1 (u2 c1) c2
    · refine Eq.trans ?_ (if_neg c2).symm
      exact g176_0_2 C u1 c1 (u2 c1) c2 (u3 c1 c2)
theorem t177_0 (C : pmC) {σ : pmS} {l1 : Option pmV} {l2 : Option pmV} {l3 : Option pmV} {r101 : Int32} {σ101 : pmS} (u1 : C 174 [vR 10 0 0] σ = some (some (vI r101), σ101)) : pq_Rn C (177, 0, [some (vR 10 0 0), l1, l2, l3], [], σ) = (if r101 = 0 then some (some (vI (-5 : Int32)), σ101) else pq_Rn C (177, 14, [some (vR 10 0 0), some (vI (0 : Int32)), some (vI (0 : Int32)), l3], [], σ101)) := by
  by_cases c1 : r101 = 0
  · refine Eq.trans ?_ (if_pos c1).symm
    exact g177_0_0 C u1 c1
  · refine Eq.trans ?_ (if_neg c1).symm
    exact g177_0_1 C u1 c1
theorem t177_14 (C : pmC) {σ : pmS} {x1 : Int32} {x2 : Int32} {l3 : Option pmV} {r101 : Int32} {σ101 : pmS} (u1 : (¬ (σ.1 10 0 16 0) ≤ x2) → C 175 [vR 10 0 0, vI x2] σ = some (some (vI r101), σ101)) : pq_Rn C (177, 14, [some (vR 10 0 0), some (vI x1), some (vI x2), l3], [], σ) = (if (σ.1 10 0 16 0) ≤ x2 then some (some (vI x1), σ) else (if (r101 &&& (r101 - (1 : Int32))) = 0 then pq_Rn C (177, 14, [some (vR 10 0 0), some (vI (x1 + (1 : Int32))), some (vI (x2 + (1 : Int32))), some (vI r101)], [], σ101) else pq_Rn C (177, 14, [some (vR 10 0 0), some (vI (x1 + (0 : Int32))), some (vI (x2 + (1 : Int32))), some (vI r101)], [], σ101))) := by
  by_cases c1 : (σ.1 10 0 16 0) ≤ x2
  · refine Eq.trans ?_ (if_pos c1).symm
    exact g177_14_0 C c1
  · refine Eq.trans ?_ (if_neg c1).symm
    by_cases c2 : (r101 &&& (r101 - (1 : Int32))) = 0
    · refine Eq.trans ?_ (if_pos c2).symm
      exact g177_14_1 C c1 (u1 c1) c2
    · refine Eq.trans ?_ (if_neg c2).symm
      exact g177_14_2 C c1 (u1 c1) c2
theorem t178_0 (C : pmC) {σ : pmS} {x1 : Int32} {l2 : Option pmV} {l3 : Option pmV} {σ101 : pmS} (u1 : C 146 [vR 10 0 0] σ = some (none, σ101)) : pq_Rn C (178, 0, [some (vR 10 0 0), some (vI x1), l2, l3], [], σ) = (if x1 = (0 : Int32) then some (some (vI (σ101.1 10 0 4 0)), σ101) else (if x1 = (1 : Int32) then some (some (vI (σ101.1 10 0 15 0)), σ101) else (if x1 = (2 : Int32) then some (some (vI (σ101.1 10 0 16 0)), σ101) else (if x1 = (3 : Int32) then some (some (vI (σ101.1 10 0 17 0)), σ101) else (if x1 = (4 : Int32) then some (some (vI (σ101.1 10 0 18 0)), σ101) else (if x1 = (5 : Int32) then some (some (vI (σ101.1 10 0 6 0)), σ101) else (if x1 = (6 : Int32) then pq_Rn C (178, 84, [some (vR 10 0 0), some (vI x1), some (vI (0 : Int32)), some (vI (0 : Int32))], [], σ101) else (if x1 = (7 : Int32) then pq_Rn C (178, 118, [some (vR 10 0 0), some (vI x1), some (vI (0 : Int32)), some (vI (0 : Int32))], [], σ101) else some (some (vI (-1 : Int32)), σ101))))))))) := by
  by_cases c1 : x1 = (0 : Int32)
  · refine Eq.trans ?_ (if_pos c1).symm
    exact g178_0_0 C u1 c1
  · refine Eq.trans ?_ (if_neg c1).symm
    by_cases c2 : x1 = (1 : Int32)
    · refine Eq.trans ?_ (if_pos c2).symm
      exact g178_0_1 C u1 c2
    · refine Eq.trans ?_ (if_neg c2).symm
      by_cases c3 : x1 = (2 : Int32)
      · refine Eq.trans ?_ (if_pos c3).symm
        exact g178_0_2 C u1 c3
      · refine Eq.trans ?_ (if_neg c3).symm
        by_cases c4 : x1 = (3 : Int32)
        · refine Eq.trans ?_ (if_pos c4).symm
          exact g178_0_3 C u1 c4
        · refine Eq.trans ?_ (if_neg c4).symm
          by_cases c5 : x1 = (4 : Int32)
          · refine Eq.trans ?_ (if_pos c5).symm
            exact g178_0_4 C u1 c5
          · refine Eq.trans ?_ (if_neg c5).symm
            by_cases c6 : x1 = (5 : Int32)
            · refine Eq.trans ?_ (if_pos c6).symm
              exact g178_0_5 C u1 c6
            · refine Eq.trans ?_ (if_neg c6).symm
              by_cases c7 : x1 = (6 : Int32)
              · refine Eq.trans ?_ (if_pos c7).symm
                exact g178_0_6 C u1 c7
              · refine Eq.trans ?_ (if_neg c7).symm
                by_cases c8 : x1 = (7 : Int32)
                · refine Eq.trans ?_ (if_pos c8).symm
                  exact g178_0_7 C u1 c8
                · refine Eq.trans ?_ (if_neg c8).symm
                  exact g178_0_8 C u1 c1 c2 c3 c4 c5 c6 c7 c8
theorem t178_84 (C : pmC) {σ : pmS} {l1 : Option pmV} {x2 : Int32} {x3 : Int32} {r101 : Int32} {σ101 : pmS} (u1 : (¬ (σ.1 10 0 16 0) ≤ x3) → C 147 [vR 10 0 0, vI x3] σ = some (some (vI r101), σ101)) : pq_Rn C (178, 84, [some (vR 10 0 0), l1, some (vI x2), some (vI x3)], [], σ) = (if (σ.1 10 0 16 0) ≤ x3 then some (some (vI x2), σ) else (if r101 = 0 then pq_Rn C (178, 84, [some (vR 10 0 0), l1, some (vI (x2 + (0 : Int32))), some (vI (x3 + (1 : Int32)))], [], σ101) else pq_Rn C (178, 84, [some (vR 10 0 0), l1, some (vI (x2 + (1 : Int32))), some (vI (x3 + (1 : Int32)))], [], σ101))) := by
  by_cases c1 : (σ.1 10 0 16 0) ≤ x3
  · refine Eq.trans ?_ (if_pos c1).symm
    exact g178_84_0 C c1
  · refine Eq.trans ?_ (if_neg c1).symm
    by_cases c2 : r101 = 0
    · refine Eq.trans ?_ (if_pos c2).symm
      exact g178_84_1 C c1 (u1 c1) c2
    · refine Eq.trans ?_ (if_neg c2).symm
      exact g178_84_2 C c1 (u1 c1) c2
theorem t178_118 (C : pmC) {σ : pmS} {l1 : Option pmV} {x2 : Int32} {x3 : Int32} (u1 : (¬ (σ.1 10 0 16 0) ≤ x3) → vp_in x3 48) : pq_Rn C (178, 118, [some (vR 10 0 0), l1, some (vI x2), some (vI x3)], [], σ) = (if (σ.1 10 0 16 0) ≤ x3 then some (some (vI x2), σ) else (if 0 ≤ (σ.1 10 0 29 (x3).toNatClampNeg) then pq_Rn C (178, 118, [some (vR 10 0 0), l1, some (vI (x2 + (0 : Int32))), some (vI (x3 + (1 : Int32)))], [], σ) else pq_Rn C (178, 118, [some (vR 10 0 0), l1, some (vI (x2 + (1 : Int32))), some (vI (x3 + (1 : Int32)))], [], σ))) := by
  by_cases c1 : (σ.1 10 0 16 0) ≤ x3
  · refine Eq.trans ?_ (if_pos c1).symm
    exact g178_118_0 C c1
  · refine Eq.trans ?_ (if_neg c1).symm
    by_cases c2 : 0 ≤ (σ.1 10 0 29 (x3).toNatClampNeg)
    · refine Eq.trans ?_ (if_pos c2).symm
      exact g178_118_1 C c1 (u1 c1) c2
    · refine Eq.trans ?_ (if_neg c2).symm
      exact g178_118_2 C c1 (u1 c1) c2
theorem t179_0 (C : pmC) {σ : pmS} {x0 : Int32}  : pq_Rn C (179, 0, [some (vI x0)], [], σ) = some (some (vI ((((((((x0 - (((x0).toUInt32 >>> (((1 : Int32)).toUInt32 &&& Int32.toUInt32 31)).toInt32 &&& (1431655765 : Int32))) &&& (858993459 : Int32)) + ((((x0 - (((x0).toUInt32 >>> (((1 : Int32)).toUInt32 &&& Int32.toUInt32 31)).toInt32 &&& (1431655765 : Int32)))).toUInt32 >>> (((2 : Int32)).toUInt32 &&& Int32.toUInt32 31)).toInt32 &&& (858993459 : Int32))) + (((((x0 - (((x0).toUInt32 >>> (((1 : Int32)).toUInt32 &&& Int32.toUInt32 31)).toInt32 &&& (1431655765 : Int32))) &&& (858993459 : Int32)) + ((((x0 - (((x0).toUInt32 >>> (((1 : Int32)).toUInt32 &&& Int32.toUInt32 31)).toInt32 &&& (1431655765 : Int32)))).toUInt32 >>> (((2 : Int32)).toUInt32 &&& Int32.toUInt32 31)).toInt32 &&& (858993459 : Int32)))).toUInt32 >>> (((4 : Int32)).toUInt32 &&& Int32.toUInt32 31)).toInt32) &&& (252645135 : Int32)) + (((((((x0 - (((x0).toUInt32 >>> (((1 : Int32)).toUInt32 &&& Int32.toUInt32 31)).toInt32 &&& (1431655765 : Int32))) &&& (858993459 : Int32)) + ((((x0 - (((x0).toUInt32 >>> (((1 : Int32)).toUInt32 &&& Int32.toUInt32 31)).toInt32 &&& (1431655765 : Int32)))).toUInt32 >>> (((2 : Int32)).toUInt32 &&& Int32.toUInt32 31)).toInt32 &&& (858993459 : Int32))) + (((((x0 - (((x0).toUInt32 >>> (((1 : Int32)).toUInt32 &&& Int32.toUInt32 31)).toInt32 &&& (1431655765 : Int32))) &&& (858993459 : Int32)) + ((((x0 - (((x0).toUInt32 >>> (((1 : Int32)).toUInt32 &&& Int32.toUInt32 31)).toInt32 &&& (1431655765 : Int32)))).toUInt32 >>> (((2 : Int32)).toUInt32 &&& Int32.toUInt32 31)).toInt32 &&& (858993459 : Int32)))).toUInt32 >>> (((4 : Int32)).toUInt32 &&& Int32.toUInt32 31)).toInt32) &&& (252645135 : Int32))).toUInt32 >>> (((8 : Int32)).toUInt32 &&& Int32.toUInt32 31)).toInt32) + ((((((((x0 - (((x0).toUInt32 >>> (((1 : Int32)).toUInt32 &&& Int32.toUInt32 31)).toInt32 &&& (1431655765 : Int32))) &&& (858993459 : Int32)) + ((((x0 - (((x0).toUInt32 >>> (((1 : Int32)).toUInt32 &&& Int32.toUInt32 31)).toInt32 &&& (1431655765 : Int32)))).toUInt32 >>> (((2 : Int32)).toUInt32 &&& Int32.toUInt32 31)).toInt32 &&& (858993459 : Int32))) + (((((x0 - (((x0).toUInt32 >>> (((1 : Int32)).toUInt32 &&& Int32.toUInt32 31)).toInt32 &&& (1431655765 : Int32))) &&& (858993459 : Int32)) + ((((x0 - (((x0).toUInt32 >>> (((1 : Int32)).toUInt32 &&& Int32.toUInt32 31)).toInt32 &&& (1431655765 : Int32)))).toUInt32 >>> (((2 : Int32)).toUInt32 &&& Int32.toUInt32 31)).toInt32 &&& (858993459 : Int32)))).toUInt32 >>> (((4 : Int32)).toUInt32 &&& Int32.toUInt32 31)).toInt32) &&& (252645135 : Int32)) + (((((((x0 - (((x0).toUInt32 >>> (((1 : Int32)).toUInt32 &&& Int32.toUInt32 31)).toInt32 &&& (1431655765 : Int32))) &&& (858993459 : Int32)) + ((((x0 - (((x0).toUInt32 >>> (((1 : Int32)).toUInt32 &&& Int32.toUInt32 31)).toInt32 &&& (1431655765 : Int32)))).toUInt32 >>> (((2 : Int32)).toUInt32 &&& Int32.toUInt32 31)).toInt32 &&& (858993459 : Int32))) + (((((x0 - (((x0).toUInt32 >>> (((1 : Int32)).toUInt32 &&& Int32.toUInt32 31)).toInt32 &&& (1431655765 : Int32))) &&& (858993459 : Int32)) + ((((x0 - (((x0).toUInt32 >>> (((1 : Int32)).toUInt32 &&& Int32.toUInt32 31)).toInt32 &&& (1431655765 : Int32)))).toUInt32 >>> (((2 : Int32)).toUInt32 &&& Int32.toUInt32 31)).toInt32 &&& (858993459 : Int32)))).toUInt32 >>> (((4 : Int32)).toUInt32 &&& Int32.toUInt32 31)).toInt32) &&& (252645135 : Int32))).toUInt32 >>> (((8 : Int32)).toUInt32 &&& Int32.toUInt32 31)).toInt32)).toUInt32 >>> (((16 : Int32)).toUInt32 &&& Int32.toUInt32 31)).toInt32) &&& (63 : Int32))), σ) := by
  exact g179_0_0 C 
theorem t180_0 (C : pmC) {σ : pmS} {w0 : Int64}  : pq_Rn C (180, 0, [some (vL w0), none], [], σ) = some (some (vI ((((((((((w0 - (((w0).toUInt64 >>> (((1 : Int32)).toInt64.toUInt64 &&& Int64.toUInt64 63)).toInt64 &&& (6148914691236517205 : Int64))) &&& (3689348814741910323 : Int64)) + ((((w0 - (((w0).toUInt64 >>> (((1 : Int32)).toInt64.toUInt64 &&& Int64.toUInt64 63)).toInt64 &&& (6148914691236517205 : Int64)))).toUInt64 >>> (((2 : Int32)).toInt64.toUInt64 &&& Int64.toUInt64 63)).toInt64 &&& (3689348814741910323 : Int64))) + (((((w0 - (((w0).toUInt64 >>> (((1 : Int32)).toInt64.toUInt64 &&& Int64.toUInt64 63)).toInt64 &&& (6148914691236517205 : Int64))) &&& (3689348814741910323 : Int64)) + ((((w0 - (((w0).toUInt64 >>> (((1 : Int32)).toInt64.toUInt64 &&& Int64.toUInt64 63)).toInt64 &&& (6148914691236517205 : Int64)))).toUInt64 >>> (((2 : Int32)).toInt64.toUInt64 &&& Int64.toUInt64 63)).toInt64 &&& (3689348814741910323 : Int64)))).toUInt64 >>> (((4 : Int32)).toInt64.toUInt64 &&& Int64.toUInt64 63)).toInt64) &&& (1085102592571150095 : Int64)) + (((((((w0 - (((w0).toUInt64 >>> (((1 : Int32)).toInt64.toUInt64 &&& Int64.toUInt64 63)).toInt64 &&& (6148914691236517205 : Int64))) &&& (3689348814741910323 : Int64)) + ((((w0 - (((w0).toUInt64 >>> (((1 : Int32)).toInt64.toUInt64 &&& Int64.toUInt64 63)).toInt64 &&& (6148914691236517205 : Int64)))).toUInt64 >>> (((2 : Int32)).toInt64.toUInt64 &&& Int64.toUInt64 63)).toInt64 &&& (3689348814741910323 : Int64))) + (((((w0 - (((w0).toUInt64 >>> (((1 : Int32)).toInt64.toUInt64 &&& Int64.toUInt64 63)).toInt64 &&& (6148914691236517205 : Int64))) &&& (3689348814741910323 : Int64)) + ((((w0 - (((w0).toUInt64 >>> (((1 : Int32)).toInt64.toUInt64 &&& Int64.toUInt64 63)).toInt64 &&& (6148914691236517205 : Int64)))).toUInt64 >>> (((2 : Int32)).toInt64.toUInt64 &&& Int64.toUInt64 63)).toInt64 &&& (3689348814741910323 : Int64)))).toUInt64 >>> (((4 : Int32)).toInt64.toUInt64 &&& Int64.toUInt64 63)).toInt64) &&& (1085102592571150095 : Int64))).toUInt64 >>> (((8 : Int32)).toInt64.toUInt64 &&& Int64.toUInt64 63)).toInt64) + ((((((((w0 - (((w0).toUInt64 >>> (((1 : Int32)).toInt64.toUInt64 &&& Int64.toUInt64 63)).toInt64 &&& (6148914691236517205 : Int64))) &&& (3689348814741910323 : Int64)) + ((((w0 - (((w0).toUInt64 >>> (((1 : Int32)).toInt64.toUInt64 &&& Int64.toUInt64 63)).toInt64 &&& (6148914691236517205 : Int64)))).toUInt64 >>> (((2 : Int32)).toInt64.toUInt64 &&& Int64.toUInt64 63)).toInt64 &&& (3689348814741910323 : Int64))) + (((((w0 - (((w0).toUInt64 >>> (((1 : Int32)).toInt64.toUInt64 &&& Int64.toUInt64 63)).toInt64 &&& (6148914691236517205 : Int64))) &&& (3689348814741910323 : Int64)) + ((((w0 - (((w0).toUInt64 >>> (((1 : Int32)).toInt64.toUInt64 &&& Int64.toUInt64 63)).toInt64 &&& (6148914691236517205 : Int64)))).toUInt64 >>> (((2 : Int32)).toInt64.toUInt64 &&& Int64.toUInt64 63)).toInt64 &&& (3689348814741910323 : Int64)))).toUInt64 >>> (((4 : Int32)).toInt64.toUInt64 &&& Int64.toUInt64 63)).toInt64) &&& (1085102592571150095 : Int64)) + (((((((w0 - (((w0).toUInt64 >>> (((1 : Int32)).toInt64.toUInt64 &&& Int64.toUInt64 63)).toInt64 &&& (6148914691236517205 : Int64))) &&& (3689348814741910323 : Int64)) + ((((w0 - (((w0).toUInt64 >>> (((1 : Int32)).toInt64.toUInt64 &&& Int64.toUInt64 63)).toInt64 &&& (6148914691236517205 : Int64)))).toUInt64 >>> (((2 : Int32)).toInt64.toUInt64 &&& Int64.toUInt64 63)).toInt64 &&& (3689348814741910323 : Int64))) + (((((w0 - (((w0).toUInt64 >>> (((1 : Int32)).toInt64.toUInt64 &&& Int64.toUInt64 63)).toInt64 &&& (6148914691236517205 : Int64))) &&& (3689348814741910323 : Int64)) + ((((w0 - (((w0).toUInt64 >>> (((1 : Int32)).toInt64.toUInt64 &&& Int64.toUInt64 63)).toInt64 &&& (6148914691236517205 : Int64)))).toUInt64 >>> (((2 : Int32)).toInt64.toUInt64 &&& Int64.toUInt64 63)).toInt64 &&& (3689348814741910323 : Int64)))).toUInt64 >>> (((4 : Int32)).toInt64.toUInt64 &&& Int64.toUInt64 63)).toInt64) &&& (1085102592571150095 : Int64))).toUInt64 >>> (((8 : Int32)).toInt64.toUInt64 &&& Int64.toUInt64 63)).toInt64)).toUInt64 >>> (((16 : Int32)).toInt64.toUInt64 &&& Int64.toUInt64 63)).toInt64) + (((((((((w0 - (((w0).toUInt64 >>> (((1 : Int32)).toInt64.toUInt64 &&& Int64.toUInt64 63)).toInt64 &&& (6148914691236517205 : Int64))) &&& (3689348814741910323 : Int64)) + ((((w0 - (((w0).toUInt64 >>> (((1 : Int32)).toInt64.toUInt64 &&& Int64.toUInt64 63)).toInt64 &&& (6148914691236517205 : Int64)))).toUInt64 >>> (((2 : Int32)).toInt64.toUInt64 &&& Int64.toUInt64 63)).toInt64 &&& (3689348814741910323 : Int64))) + (((((w0 - (((w0).toUInt64 >>> (((1 : Int32)).toInt64.toUInt64 &&& Int64.toUInt64 63)).toInt64 &&& (6148914691236517205 : Int64))) &&& (3689348814741910323 : Int64)) + ((((w0 - (((w0).toUInt64 >>> (((1 : Int32)).toInt64.toUInt64 &&& Int64.toUInt64 63)).toInt64 &&& (6148914691236517205 : Int64)))).toUInt64 >>> (((2 : Int32)).toInt64.toUInt64 &&& Int64.toUInt64 63)).toInt64 &&& (3689348814741910323 : Int64)))).toUInt64 >>> (((4 : Int32)).toInt64.toUInt64 &&& Int64.toUInt64 63)).toInt64) &&& (1085102592571150095 : Int64)) + (((((((w0 - (((w0).toUInt64 >>> (((1 : Int32)).toInt64.toUInt64 &&& Int64.toUInt64 63)).toInt64 &&& (6148914691236517205 : Int64))) &&& (3689348814741910323 : Int64)) + ((((w0 - (((w0).toUInt64 >>> (((1 : Int32)).toInt64.toUInt64 &&& Int64.toUInt64 63)).toInt64 &&& (6148914691236517205 : Int64)))).toUInt64 >>> (((2 : Int32)).toInt64.toUInt64 &&& Int64.toUInt64 63)).toInt64 &&& (3689348814741910323 : Int64))) + (((((w0 - (((w0).toUInt64 >>> (((1 : Int32)).toInt64.toUInt64 &&& Int64.toUInt64 63)).toInt64 &&& (6148914691236517205 : Int64))) &&& (3689348814741910323 : Int64)) + ((((w0 - (((w0).toUInt64 >>> (((1 : Int32)).toInt64.toUInt64 &&& Int64.toUInt64 63)).toInt64 &&& (6148914691236517205 : Int64)))).toUInt64 >>> (((2 : Int32)).toInt64.toUInt64 &&& Int64.toUInt64 63)).toInt64 &&& (3689348814741910323 : Int64)))).toUInt64 >>> (((4 : Int32)).toInt64.toUInt64 &&& Int64.toUInt64 63)).toInt64) &&& (1085102592571150095 : Int64))).toUInt64 >>> (((8 : Int32)).toInt64.toUInt64 &&& Int64.toUInt64 63)).toInt64) + ((((((((w0 - (((w0).toUInt64 >>> (((1 : Int32)).toInt64.toUInt64 &&& Int64.toUInt64 63)).toInt64 &&& (6148914691236517205 : Int64))) &&& (3689348814741910323 : Int64)) + ((((w0 - (((w0).toUInt64 >>> (((1 : Int32)).toInt64.toUInt64 &&& Int64.toUInt64 63)).toInt64 &&& (6148914691236517205 : Int64)))).toUInt64 >>> (((2 : Int32)).toInt64.toUInt64 &&& Int64.toUInt64 63)).toInt64 &&& (3689348814741910323 : Int64))) + (((((w0 - (((w0).toUInt64 >>> (((1 : Int32)).toInt64.toUInt64 &&& Int64.toUInt64 63)).toInt64 &&& (6148914691236517205 : Int64))) &&& (3689348814741910323 : Int64)) + ((((w0 - (((w0).toUInt64 >>> (((1 : Int32)).toInt64.toUInt64 &&& Int64.toUInt64 63)).toInt64 &&& (6148914691236517205 : Int64)))).toUInt64 >>> (((2 : Int32)).toInt64.toUInt64 &&& Int64.toUInt64 63)).toInt64 &&& (3689348814741910323 : Int64)))).toUInt64 >>> (((4 : Int32)).toInt64.toUInt64 &&& Int64.toUInt64 63)).toInt64) &&& (1085102592571150095 : Int64)) + (((((((w0 - (((w0).toUInt64 >>> (((1 : Int32)).toInt64.toUInt64 &&& Int64.toUInt64 63)).toInt64 &&& (6148914691236517205 : Int64))) &&& (3689348814741910323 : Int64)) + ((((w0 - (((w0).toUInt64 >>> (((1 : Int32)).toInt64.toUInt64 &&& Int64.toUInt64 63)).toInt64 &&& (6148914691236517205 : Int64)))).toUInt64 >>> (((2 : Int32)).toInt64.toUInt64 &&& Int64.toUInt64 63)).toInt64 &&& (3689348814741910323 : Int64))) + (((((w0 - (((w0).toUInt64 >>> (((1 : Int32)).toInt64.toUInt64 &&& Int64.toUInt64 63)).toInt64 &&& (6148914691236517205 : Int64))) &&& (3689348814741910323 : Int64)) + ((((w0 - (((w0).toUInt64 >>> (((1 : Int32)).toInt64.toUInt64 &&& Int64.toUInt64 63)).toInt64 &&& (6148914691236517205 : Int64)))).toUInt64 >>> (((2 : Int32)).toInt64.toUInt64 &&& Int64.toUInt64 63)).toInt64 &&& (3689348814741910323 : Int64)))).toUInt64 >>> (((4 : Int32)).toInt64.toUInt64 &&& Int64.toUInt64 63)).toInt64) &&& (1085102592571150095 : Int64))).toUInt64 >>> (((8 : Int32)).toInt64.toUInt64 &&& Int64.toUInt64 63)).toInt64)).toUInt64 >>> (((16 : Int32)).toInt64.toUInt64 &&& Int64.toUInt64 63)).toInt64)).toUInt64 >>> (((32 : Int32)).toInt64.toUInt64 &&& Int64.toUInt64 63)).toInt64)).toInt32 &&& (127 : Int32))), σ) := by
  exact g180_0_0 C 
theorem t181a_0 (C : pmC) {σ : pmS} {w1 : Int64} {l3 : Option pmV} {l4 : Option pmV}  : pq_Rn C (181, 0, [some (vR 3 0 1), some (vL w1), none, l3, l4], [], σ) = pq_Rn C (181, 6, [some (vR 3 0 1), some (vL w1), none, some (vI (0 : Int32)), some (vI (nI 48))], [], σ) := by
  exact g181a_0_0 C 
theorem t181a_6 (C : pmC) {σ : pmS} {w1 : Int64} {x3 : Int32} {x4 : Int32} (u1 : (¬ x4 ≤ x3) → vp_in x3 48) : pq_Rn C (181, 6, [some (vR 3 0 1), some (vL w1), none, some (vI x3), some (vI x4)], [], σ) = (if x4 ≤ x3 then some (none, σ) else pq_Rn C (181, 6, [some (vR 3 0 1), some (vL w1), none, some (vI (x3 + (1 : Int32))), some (vI x4)], [], (pm_wl σ 3 0 0 (x3).toNatClampNeg w1))) := by
  by_cases c1 : x4 ≤ x3
  · refine Eq.trans ?_ (if_pos c1).symm
    exact g181a_6_0 C c1
  · refine Eq.trans ?_ (if_neg c1).symm
    exact g181a_6_1 C c1 (u1 c1)
theorem t182a_0 (C : pmC) {σ : pmS} {o0 : Nat} {x1 : Int32} {l2 : Option pmV} {l3 : Option pmV}  : pq_Rn C (182, 0, [some (vR 2 o0 7), some (vI x1), l2, l3], [], σ) = pq_Rn C (182, 5, [some (vR 2 o0 7), some (vI x1), some (vI (0 : Int32)), some (vI (nI 16))], [], σ) := by
  exact g182a_0_0 C 
theorem t182a_5 (C : pmC) {σ : pmS} {o0 : Nat} {x1 : Int32} {x2 : Int32} {x3 : Int32} (u1 : (¬ x3 ≤ x2) → vp_in x2 16) : pq_Rn C (182, 5, [some (vR 2 o0 7), some (vI x1), some (vI x2), some (vI x3)], [], σ) = (if x3 ≤ x2 then some (none, σ) else pq_Rn C (182, 5, [some (vR 2 o0 7), some (vI x1), some (vI (x2 + (1 : Int32))), some (vI x3)], [], (pm_wi σ 2 o0 6 (x2).toNatClampNeg x1))) := by
  by_cases c1 : x3 ≤ x2
  · refine Eq.trans ?_ (if_pos c1).symm
    exact g182a_5_0 C c1
  · refine Eq.trans ?_ (if_neg c1).symm
    exact g182a_5_1 C c1 (u1 c1)
theorem t182b_0 (C : pmC) {σ : pmS} {o0 : Nat} {x1 : Int32} {l2 : Option pmV} {l3 : Option pmV}  : pq_Rn C (182, 0, [some (vR 2 o0 8), some (vI x1), l2, l3], [], σ) = pq_Rn C (182, 5, [some (vR 2 o0 8), some (vI x1), some (vI (0 : Int32)), some (vI (nI 16))], [], σ) := by
  exact g182b_0_0 C 
theorem t182b_5 (C : pmC) {σ : pmS} {o0 : Nat} {x1 : Int32} {x2 : Int32} {x3 : Int32} (u1 : (¬ x3 ≤ x2) → vp_in x2 16) : pq_Rn C (182, 5, [some (vR 2 o0 8), some (vI x1), some (vI x2), some (vI x3)], [], σ) = (if x3 ≤ x2 then some (none, σ) else pq_Rn C (182, 5, [some (vR 2 o0 8), some (vI x1), some (vI (x2 + (1 : Int32))), some (vI x3)], [], (pm_wi σ 2 o0 7 (x2).toNatClampNeg x1))) := by
  by_cases c1 : x3 ≤ x2
  · refine Eq.trans ?_ (if_pos c1).symm
    exact g182b_5_0 C c1
  · refine Eq.trans ?_ (if_neg c1).symm
    exact g182b_5_1 C c1 (u1 c1)
theorem t182c_0 (C : pmC) {σ : pmS} {x1 : Int32} {l2 : Option pmV} {l3 : Option pmV}  : pq_Rn C (182, 0, [some (vR 7 0 2), some (vI x1), l2, l3], [], σ) = pq_Rn C (182, 5, [some (vR 7 0 2), some (vI x1), some (vI (0 : Int32)), some (vI (nI 2048))], [], σ) := by
  exact g182c_0_0 C 
theorem t182c_5 (C : pmC) {σ : pmS} {x1 : Int32} {x2 : Int32} {x3 : Int32} (u1 : (¬ x3 ≤ x2) → vp_in x2 2048) : pq_Rn C (182, 5, [some (vR 7 0 2), some (vI x1), some (vI x2), some (vI x3)], [], σ) = (if x3 ≤ x2 then some (none, σ) else pq_Rn C (182, 5, [some (vR 7 0 2), some (vI x1), some (vI (x2 + (1 : Int32))), some (vI x3)], [], (pm_wi σ 7 0 1 (x2).toNatClampNeg x1))) := by
  by_cases c1 : x3 ≤ x2
  · refine Eq.trans ?_ (if_pos c1).symm
    exact g182c_5_0 C c1
  · refine Eq.trans ?_ (if_neg c1).symm
    exact g182c_5_1 C c1 (u1 c1)
theorem t182d_0 (C : pmC) {σ : pmS} {x1 : Int32} {l2 : Option pmV} {l3 : Option pmV}  : pq_Rn C (182, 0, [some (vR 3 0 2), some (vI x1), l2, l3], [], σ) = pq_Rn C (182, 5, [some (vR 3 0 2), some (vI x1), some (vI (0 : Int32)), some (vI (nI 48))], [], σ) := by
  exact g182d_0_0 C 
theorem t182d_5 (C : pmC) {σ : pmS} {x1 : Int32} {x2 : Int32} {x3 : Int32} (u1 : (¬ x3 ≤ x2) → vp_in x2 48) : pq_Rn C (182, 5, [some (vR 3 0 2), some (vI x1), some (vI x2), some (vI x3)], [], σ) = (if x3 ≤ x2 then some (none, σ) else pq_Rn C (182, 5, [some (vR 3 0 2), some (vI x1), some (vI (x2 + (1 : Int32))), some (vI x3)], [], (pm_wi σ 3 0 1 (x2).toNatClampNeg x1))) := by
  by_cases c1 : x3 ≤ x2
  · refine Eq.trans ?_ (if_pos c1).symm
    exact g182d_5_0 C c1
  · refine Eq.trans ?_ (if_neg c1).symm
    exact g182d_5_1 C c1 (u1 c1)
