/-! segment rules, by program -/
set_option maxRecDepth 20000 in
theorem g50_10_4 (C : pmC) {σ : pmS} {x1 : Int32} {x2 : Int32} {x3 : Int32} (h1 : ¬ (2048 : Int32) ≤ x3) (h2 : vp_in x2 2048) (h3 : ¬ (σ.1 7 0 1 (x2).toNatClampNeg) = 0) (h4 : (σ.1 7 0 1 (x2).toNatClampNeg) = (x1 + (1 : Int32))) : pq_Rn C (50, 10, [some (vR 7 0 0), some (vI x1), some (vI x2), some (vI x3)], [], σ) = some (none, σ) := by
  refine (e_n 2 (fr' := (50, 14, [some (vR 7 0 0), some (vI x1), some (vI x2), some (vI x3)], [vI (2048 : Int32), vI x3], σ)) rfl).trans ?_
  refine (e_f (B := (50, 17, [some (vR 7 0 0), some (vI x1), some (vI x2), some (vI x3)], [], σ)) rfl h1).trans ?_
  refine (e_n 3 (fr' := (50, 22, [some (vR 7 0 0), some (vI x1), some (vI x2), some (vI x3)], [vI x2, vR 7 0 2], σ)) rfl).trans ?_
  refine (e_a (A := (50, 23, [some (vR 7 0 0), some (vI x1), some (vI x2), some (vI x3)], [vI (σ.1 7 0 1 (x2).toNatClampNeg)], σ)) rfl h2).trans ?_
  refine (e_f (B := (50, 26, [some (vR 7 0 0), some (vI x1), some (vI x2), some (vI x3)], [], σ)) rfl h3).trans ?_
  refine (e_n 3 (fr' := (50, 31, [some (vR 7 0 0), some (vI x1), some (vI x2), some (vI x3)], [vI x2, vR 7 0 2], σ)) rfl).trans ?_
  refine (e_a (A := (50, 32, [some (vR 7 0 0), some (vI x1), some (vI x2), some (vI x3)], [vI (σ.1 7 0 1 (x2).toNatClampNeg)], σ)) rfl h2).trans ?_
  refine (e_n 3 (fr' := (50, 35, [some (vR 7 0 0), some (vI x1), some (vI x2), some (vI x3)], [vI (x1 + (1 : Int32)), vI (σ.1 7 0 1 (x2).toNatClampNeg)], σ)) rfl).trans ?_
  refine (e_t (A := (50, 38, [some (vR 7 0 0), some (vI x1), some (vI x2), some (vI x3)], [], σ)) rfl h4).trans ?_
  exact e_r rfl
set_option maxRecDepth 20000 in
theorem g50_10_5 (C : pmC) {σ : pmS} {x1 : Int32} {x2 : Int32} {x3 : Int32} (h1 : ¬ (2048 : Int32) ≤ x3) (h2 : vp_in x2 2048) (h3 : ¬ (σ.1 7 0 1 (x2).toNatClampNeg) = 0) (h4 : ¬ (σ.1 7 0 1 (x2).toNatClampNeg) = (x1 + (1 : Int32))) : pq_Rn C (50, 10, [some (vR 7 0 0), some (vI x1), some (vI x2), some (vI x3)], [], σ) = pq_Rn C (50, 10, [some (vR 7 0 0), some (vI x1), some (vI ((x2 + (1 : Int32)) - (x2 + (1 : Int32)) / (2048 : Int32) * (2048 : Int32))), some (vI (x3 + (1 : Int32)))], [], σ) := by
  refine (e_n 2 (fr' := (50, 14, [some (vR 7 0 0), some (vI x1), some (vI x2), some (vI x3)], [vI (2048 : Int32), vI x3], σ)) rfl).trans ?_
  refine (e_f (B := (50, 17, [some (vR 7 0 0), some (vI x1), some (vI x2), some (vI x3)], [], σ)) rfl h1).trans ?_
  refine (e_n 3 (fr' := (50, 22, [some (vR 7 0 0), some (vI x1), some (vI x2), some (vI x3)], [vI x2, vR 7 0 2], σ)) rfl).trans ?_
  refine (e_a (A := (50, 23, [some (vR 7 0 0), some (vI x1), some (vI x2), some (vI x3)], [vI (σ.1 7 0 1 (x2).toNatClampNeg)], σ)) rfl h2).trans ?_
  refine (e_f (B := (50, 26, [some (vR 7 0 0), some (vI x1), some (vI x2), some (vI x3)], [], σ)) rfl h3).trans ?_
  refine (e_n 3 (fr' := (50, 31, [some (vR 7 0 0), some (vI x1), some (vI x2), some (vI x3)], [vI x2, vR 7 0 2], σ)) rfl).trans ?_
  refine (e_a (A := (50, 32, [some (vR 7 0 0), some (vI x1), some (vI x2), some (vI x3)], [vI (σ.1 7 0 1 (x2).toNatClampNeg)], σ)) rfl h2).trans ?_
  refine (e_n 3 (fr' := (50, 35, [some (vR 7 0 0), some (vI x1), some (vI x2), some (vI x3)], [vI (x1 + (1 : Int32)), vI (σ.1 7 0 1 (x2).toNatClampNeg)], σ)) rfl).trans ?_
  refine (e_f (B := (50, 39, [some (vR 7 0 0), some (vI x1), some (vI x2), some (vI x3)], [], σ)) rfl h4).trans ?_
  exact e_n 8 rfl
set_option maxRecDepth 20000 in
theorem g51_0_0 (C : pmC) {σ : pmS} {x1 : Int32} {x2 : Int32} {x3 : Int32} (h1 : (σ.1 8 0 3 0) < (40 : Int32)) (h2 : vp_in (σ.1 8 0 3 0) 40) : pq_Rn C (51, 0, [some (vR 8 0 0), some (vI x1), some (vI x2), some (vI x3)], [], σ) = some (some (vI (1 : Int32)), (pm_wi (pm_wi (pm_wi (pm_wi σ 8 0 0 ((σ.1 8 0 3 0)).toNatClampNeg x1) 8 0 1 ((σ.1 8 0 3 0)).toNatClampNeg x2) 8 0 2 ((σ.1 8 0 3 0)).toNatClampNeg x3) 8 0 3 0 ((σ.1 8 0 3 0) + (1 : Int32)))) := by
  refine (e_n 3 (fr' := (51, 6, [some (vR 8 0 0), some (vI x1), some (vI x2), some (vI x3)], [vI (40 : Int32), vI (σ.1 8 0 3 0)], σ)) rfl).trans ?_
  refine (e_t (A := (51, 11, [some (vR 8 0 0), some (vI x1), some (vI x2), some (vI x3)], [], σ)) rfl h1).trans ?_
  refine (e_n 5 (fr' := (51, 20, [some (vR 8 0 0), some (vI x1), some (vI x2), some (vI x3)], [vI x1, vI (σ.1 8 0 3 0), vR 8 0 1], σ)) rfl).trans ?_
  refine (e_a (A := (51, 21, [some (vR 8 0 0), some (vI x1), some (vI x2), some (vI x3)], [], (pm_wi σ 8 0 0 ((σ.1 8 0 3 0)).toNatClampNeg x1))) rfl h2).trans ?_
  refine (e_n 5 (fr' := (51, 30, [some (vR 8 0 0), some (vI x1), some (vI x2), some (vI x3)], [vI x2, vI (σ.1 8 0 3 0), vR 8 0 2], (pm_wi σ 8 0 0 ((σ.1 8 0 3 0)).toNatClampNeg x1))) rfl).trans ?_
  refine (e_a (A := (51, 31, [some (vR 8 0 0), some (vI x1), some (vI x2), some (vI x3)], [], (pm_wi (pm_wi σ 8 0 0 ((σ.1 8 0 3 0)).toNatClampNeg x1) 8 0 1 ((σ.1 8 0 3 0)).toNatClampNeg x2))) rfl h2).trans ?_
  refine (e_n 5 (fr' := (51, 40, [some (vR 8 0 0), some (vI x1), some (vI x2), some (vI x3)], [vI x3, vI (σ.1 8 0 3 0), vR 8 0 3], (pm_wi (pm_wi σ 8 0 0 ((σ.1 8 0 3 0)).toNatClampNeg x1) 8 0 1 ((σ.1 8 0 3 0)).toNatClampNeg x2))) rfl).trans ?_
  refine (e_a (A := (51, 41, [some (vR 8 0 0), some (vI x1), some (vI x2), some (vI x3)], [], (pm_wi (pm_wi (pm_wi σ 8 0 0 ((σ.1 8 0 3 0)).toNatClampNeg x1) 8 0 1 ((σ.1 8 0 3 0)).toNatClampNeg x2) 8 0 2 ((σ.1 8 0 3 0)).toNatClampNeg x3))) rfl h2).trans ?_
  refine (e_n 7 (fr' := (51, 52, [some (vR 8 0 0), some (vI x1), some (vI x2), some (vI x3)], [vI (1 : Int32)], (pm_wi (pm_wi (pm_wi (pm_wi σ 8 0 0 ((σ.1 8 0 3 0)).toNatClampNeg x1) 8 0 1 ((σ.1 8 0 3 0)).toNatClampNeg x2) 8 0 2 ((σ.1 8 0 3 0)).toNatClampNeg x3) 8 0 3 0 ((σ.1 8 0 3 0) + (1 : Int32))))) rfl).trans ?_
  exact e_r rfl
set_option maxRecDepth 20000 in
theorem g51_0_1 (C : pmC) {σ : pmS} {x1 : Int32} {x2 : Int32} {x3 : Int32} (h1 : ¬ (σ.1 8 0 3 0) < (40 : Int32)) : pq_Rn C (51, 0, [some (vR 8 0 0), some (vI x1), some (vI x2), some (vI x3)], [], σ) = some (some (vI (0 : Int32)), σ) := by
  refine (e_n 3 (fr' := (51, 6, [some (vR 8 0 0), some (vI x1), some (vI x2), some (vI x3)], [vI (40 : Int32), vI (σ.1 8 0 3 0)], σ)) rfl).trans ?_
  refine (e_f (B := (51, 9, [some (vR 8 0 0), some (vI x1), some (vI x2), some (vI x3)], [], σ)) rfl h1).trans ?_
  refine (e_n 1 (fr' := (51, 10, [some (vR 8 0 0), some (vI x1), some (vI x2), some (vI x3)], [vI (0 : Int32)], σ)) rfl).trans ?_
  exact e_r rfl
set_option maxRecDepth 20000 in
theorem g52_0_0 (C : pmC) {σ : pmS} {x2 : Int32} {x3 : Int32} (h1 : vp_in x2 40) (h2 : x3 < (σ.1 8 0 2 (x2).toNatClampNeg)) : pq_Rn C (52, 0, [some (vR 8 0 0), some (vR 5 0 0), some (vI x2), some (vI x3)], [], σ) = some (some (vI (0 : Int32)), σ) := by
  refine (e_n 4 (fr' := (52, 6, [some (vR 8 0 0), some (vR 5 0 0), some (vI x2), some (vI x3)], [vI x2, vR 8 0 3, vI x3], σ)) rfl).trans ?_
  refine (e_a (A := (52, 7, [some (vR 8 0 0), some (vR 5 0 0), some (vI x2), some (vI x3)], [vI (σ.1 8 0 2 (x2).toNatClampNeg), vI x3], σ)) rfl h1).trans ?_
  refine (e_t (A := (52, 42, [some (vR 8 0 0), some (vR 5 0 0), some (vI x2), some (vI x3)], [], σ)) rfl h2).trans ?_
  refine (e_n 1 (fr' := (52, 43, [some (vR 8 0 0), some (vR 5 0 0), some (vI x2), some (vI x3)], [vI (0 : Int32)], σ)) rfl).trans ?_
  exact e_r rfl
set_option maxRecDepth 20000 in
theorem g52_0_1 (C : pmC) {σ : pmS} {x2 : Int32} {x3 : Int32} {σ1 : pmS} {r1 : Int32} (h1 : vp_in x2 40) (h2 : ¬ x3 < (σ.1 8 0 2 (x2).toNatClampNeg)) (h3 : C 34 [vR 5 0 0, vI (σ.1 8 0 0 (x2).toNatClampNeg), vI x3] σ = some (some (vI r1), σ1)) (h4 : r1 = 0) : pq_Rn C (52, 0, [some (vR 8 0 0), some (vR 5 0 0), some (vI x2), some (vI x3)], [], σ) = some (some (vI (0 : Int32)), σ1) := by
  refine (e_n 4 (fr' := (52, 6, [some (vR 8 0 0), some (vR 5 0 0), some (vI x2), some (vI x3)], [vI x2, vR 8 0 3, vI x3], σ)) rfl).trans ?_
  refine (e_a (A := (52, 7, [some (vR 8 0 0), some (vR 5 0 0), some (vI x2), some (vI x3)], [vI (σ.1 8 0 2 (x2).toNatClampNeg), vI x3], σ)) rfl h1).trans ?_
  refine (e_f (B := (52, 10, [some (vR 8 0 0), some (vR 5 0 0), some (vI x2), some (vI x3)], [], σ)) rfl h2).trans ?_
  refine (e_n 4 (fr' := (52, 16, [some (vR 8 0 0), some (vR 5 0 0), some (vI x2), some (vI x3)], [vI x2, vR 8 0 1, vR 5 0 0], σ)) rfl).trans ?_
  refine (e_a (A := (52, 17, [some (vR 8 0 0), some (vR 5 0 0), some (vI x2), some (vI x3)], [vI (σ.1 8 0 0 (x2).toNatClampNeg), vR 5 0 0], σ)) rfl h1).trans ?_
  refine (e_n 1 (fr' := (52, 18, [some (vR 8 0 0), some (vR 5 0 0), some (vI x2), some (vI x3)], [vI x3, vI (σ.1 8 0 0 (x2).toNatClampNeg), vR 5 0 0], σ)) rfl).trans ?_
  refine (e_ci (m := 52) (pc := 21) (ls := [some (vR 8 0 0), some (vR 5 0 0), some (vI x2), some (vI x3)]) (rest := []) rfl h3).trans ?_
  refine (e_t (A := (52, 42, [some (vR 8 0 0), some (vR 5 0 0), some (vI x2), some (vI x3)], [], σ1)) rfl h4).trans ?_
  refine (e_n 1 (fr' := (52, 43, [some (vR 8 0 0), some (vR 5 0 0), some (vI x2), some (vI x3)], [vI (0 : Int32)], σ1)) rfl).trans ?_
  exact e_r rfl
set_option maxRecDepth 20000 in
theorem g52_0_2 (C : pmC) {σ : pmS} {x2 : Int32} {x3 : Int32} {σ1 : pmS} {r1 : Int32} {σ2 : pmS} {r2 : Int32} (h1 : vp_in x2 40) (h2 : ¬ x3 < (σ.1 8 0 2 (x2).toNatClampNeg)) (h3 : C 34 [vR 5 0 0, vI (σ.1 8 0 0 (x2).toNatClampNeg), vI x3] σ = some (some (vI r1), σ1)) (h4 : ¬ r1 = 0) (h5 : C 34 [vR 5 0 0, vI (σ1.1 8 0 1 (x2).toNatClampNeg), vI x3] σ1 = some (some (vI r2), σ2)) (h6 : r2 = 0) : pq_Rn C (52, 0, [some (vR 8 0 0), some (vR 5 0 0), some (vI x2), some (vI x3)], [], σ) = some (some (vI (0 : Int32)), σ2) := by
  refine (e_n 4 (fr' := (52, 6, [some (vR 8 0 0), some (vR 5 0 0), some (vI x2), some (vI x3)], [vI x2, vR 8 0 3, vI x3], σ)) rfl).trans ?_
  refine (e_a (A := (52, 7, [some (vR 8 0 0), some (vR 5 0 0), some (vI x2), some (vI x3)], [vI (σ.1 8 0 2 (x2).toNatClampNeg), vI x3], σ)) rfl h1).trans ?_
  refine (e_f (B := (52, 10, [some (vR 8 0 0), some (vR 5 0 0), some (vI x2), some (vI x3)], [], σ)) rfl h2).trans ?_
  refine (e_n 4 (fr' := (52, 16, [some (vR 8 0 0), some (vR 5 0 0), some (vI x2), some (vI x3)], [vI x2, vR 8 0 1, vR 5 0 0], σ)) rfl).trans ?_
  refine (e_a (A := (52, 17, [some (vR 8 0 0), some (vR 5 0 0), some (vI x2), some (vI x3)], [vI (σ.1 8 0 0 (x2).toNatClampNeg), vR 5 0 0], σ)) rfl h1).trans ?_
  refine (e_n 1 (fr' := (52, 18, [some (vR 8 0 0), some (vR 5 0 0), some (vI x2), some (vI x3)], [vI x3, vI (σ.1 8 0 0 (x2).toNatClampNeg), vR 5 0 0], σ)) rfl).trans ?_
  refine (e_ci (m := 52) (pc := 21) (ls := [some (vR 8 0 0), some (vR 5 0 0), some (vI x2), some (vI x3)]) (rest := []) rfl h3).trans ?_
  refine (e_f (B := (52, 24, [some (vR 8 0 0), some (vR 5 0 0), some (vI x2), some (vI x3)], [], σ1)) rfl h4).trans ?_
  refine (e_n 4 (fr' := (52, 30, [some (vR 8 0 0), some (vR 5 0 0), some (vI x2), some (vI x3)], [vI x2, vR 8 0 2, vR 5 0 0], σ1)) rfl).trans ?_
  refine (e_a (A := (52, 31, [some (vR 8 0 0), some (vR 5 0 0), some (vI x2), some (vI x3)], [vI (σ1.1 8 0 1 (x2).toNatClampNeg), vR 5 0 0], σ1)) rfl h1).trans ?_
  refine (e_n 1 (fr' := (52, 32, [some (vR 8 0 0), some (vR 5 0 0), some (vI x2), some (vI x3)], [vI x3, vI (σ1.1 8 0 1 (x2).toNatClampNeg), vR 5 0 0], σ1)) rfl).trans ?_
  refine (e_ci (m := 52) (pc := 35) (ls := [some (vR 8 0 0), some (vR 5 0 0), some (vI x2), some (vI x3)]) (rest := []) rfl h5).trans ?_
  refine (e_t (A := (52, 42, [some (vR 8 0 0), some (vR 5 0 0), some (vI x2), some (vI x3)], [], σ2)) rfl h6).trans ?_
  refine (e_n 1 (fr' := (52, 43, [some (vR 8 0 0), some (vR 5 0 0), some (vI x2), some (vI x3)], [vI (0 : Int32)], σ2)) rfl).trans ?_
  exact e_r rfl
set_option maxRecDepth 20000 in
theorem g52_0_3 (C : pmC) {σ : pmS} {x2 : Int32} {x3 : Int32} {σ1 : pmS} {r1 : Int32} {σ2 : pmS} {r2 : Int32} (h1 : vp_in x2 40) (h2 : ¬ x3 < (σ.1 8 0 2 (x2).toNatClampNeg)) (h3 : C 34 [vR 5 0 0, vI (σ.1 8 0 0 (x2).toNatClampNeg), vI x3] σ = some (some (vI r1), σ1)) (h4 : ¬ r1 = 0) (h5 : C 34 [vR 5 0 0, vI (σ1.1 8 0 1 (x2).toNatClampNeg), vI x3] σ1 = some (some (vI r2), σ2)) (h6 : ¬ r2 = 0) : pq_Rn C (52, 0, [some (vR 8 0 0), some (vR 5 0 0), some (vI x2), some (vI x3)], [], σ) = some (some (vI (1 : Int32)), σ2) := by
  refine (e_n 4 (fr' := (52, 6, [some (vR 8 0 0), some (vR 5 0 0), some (vI x2), some (vI x3)], [vI x2, vR 8 0 3, vI x3], σ)) rfl).trans ?_
  refine (e_a (A := (52, 7, [some (vR 8 0 0), some (vR 5 0 0), some (vI x2), some (vI x3)], [vI (σ.1 8 0 2 (x2).toNatClampNeg), vI x3], σ)) rfl h1).trans ?_
  refine (e_f (B := (52, 10, [some (vR 8 0 0), some (vR 5 0 0), some (vI x2), some (vI x3)], [], σ)) rfl h2).trans ?_
  refine (e_n 4 (fr' := (52, 16, [some (vR 8 0 0), some (vR 5 0 0), some (vI x2), some (vI x3)], [vI x2, vR 8 0 1, vR 5 0 0], σ)) rfl).trans ?_
  refine (e_a (A := (52, 17, [some (vR 8 0 0), some (vR 5 0 0), some (vI x2), some (vI x3)], [vI (σ.1 8 0 0 (x2).toNatClampNeg), vR 5 0 0], σ)) rfl h1).trans ?_
  refine (e_n 1 (fr' := (52, 18, [some (vR 8 0 0), some (vR 5 0 0), some (vI x2), some (vI x3)], [vI x3, vI (σ.1 8 0 0 (x2).toNatClampNeg), vR 5 0 0], σ)) rfl).trans ?_
  refine (e_ci (m := 52) (pc := 21) (ls := [some (vR 8 0 0), some (vR 5 0 0), some (vI x2), some (vI x3)]) (rest := []) rfl h3).trans ?_
  refine (e_f (B := (52, 24, [some (vR 8 0 0), some (vR 5 0 0), some (vI x2), some (vI x3)], [], σ1)) rfl h4).trans ?_
  refine (e_n 4 (fr' := (52, 30, [some (vR 8 0 0), some (vR 5 0 0), some (vI x2), some (vI x3)], [vI x2, vR 8 0 2, vR 5 0 0], σ1)) rfl).trans ?_
  refine (e_a (A := (52, 31, [some (vR 8 0 0), some (vR 5 0 0), some (vI x2), some (vI x3)], [vI (σ1.1 8 0 1 (x2).toNatClampNeg), vR 5 0 0], σ1)) rfl h1).trans ?_
  refine (e_n 1 (fr' := (52, 32, [some (vR 8 0 0), some (vR 5 0 0), some (vI x2), some (vI x3)], [vI x3, vI (σ1.1 8 0 1 (x2).toNatClampNeg), vR 5 0 0], σ1)) rfl).trans ?_
  refine (e_ci (m := 52) (pc := 35) (ls := [some (vR 8 0 0), some (vR 5 0 0), some (vI x2), some (vI x3)]) (rest := []) rfl h5).trans ?_
  refine (e_f (B := (52, 38, [some (vR 8 0 0), some (vR 5 0 0), some (vI x2), some (vI x3)], [], σ2)) rfl h6).trans ?_
  refine (e_n 2 (fr' := (52, 43, [some (vR 8 0 0), some (vR 5 0 0), some (vI x2), some (vI x3)], [vI (1 : Int32)], σ2)) rfl).trans ?_
  exact e_r rfl
set_option maxRecDepth 20000 in
theorem g53_0_0 (C : pmC) {σ : pmS} {x2 : Int32} {x3 : Int32} {l4 : Option pmV}  : pq_Rn C (53, 0, [some (vR 8 0 0), some (vR 5 0 0), some (vI x2), some (vI x3), l4], [], σ) = pq_Rn C (53, 3, [some (vR 8 0 0), some (vR 5 0 0), some (vI x2), some (vI x3), some (vI (0 : Int32))], [], σ) := by
  exact e_n 2 rfl
set_option maxRecDepth 20000 in
theorem g53_3_0 (C : pmC) {σ : pmS} {x2 : Int32} {x3 : Int32} {x4 : Int32} (h1 : (σ.1 8 0 3 0) ≤ x4) : pq_Rn C (53, 3, [some (vR 8 0 0), some (vR 5 0 0), some (vI x2), some (vI x3), some (vI x4)], [], σ) = some (some (vI (-1 : Int32)), σ) := by
  refine (e_n 3 (fr' := (53, 9, [some (vR 8 0 0), some (vR 5 0 0), some (vI x2), some (vI x3), some (vI x4)], [vI (σ.1 8 0 3 0), vI x4], σ)) rfl).trans ?_
  refine (e_t (A := (53, 80, [some (vR 8 0 0), some (vR 5 0 0), some (vI x2), some (vI x3), some (vI x4)], [], σ)) rfl h1).trans ?_
  refine (e_n 1 (fr' := (53, 81, [some (vR 8 0 0), some (vR 5 0 0), some (vI x2), some (vI x3), some (vI x4)], [vI (-1 : Int32)], σ)) rfl).trans ?_
  exact e_r rfl
set_option maxRecDepth 20000 in
theorem g53_3_1 (C : pmC) {σ : pmS} {x2 : Int32} {x3 : Int32} {x4 : Int32} {σ1 : pmS} {r1 : Int32} (h1 : ¬ (σ.1 8 0 3 0) ≤ x4) (h2 : vp_in x4 40) (h3 : (σ.1 8 0 0 (x4).toNatClampNeg) = x2) (h4 : C 52 [vR 8 0 0, vR 5 0 0, vI x4, vI x3] σ = some (some (vI r1), σ1)) (h5 : r1 = 0) : pq_Rn C (53, 3, [some (vR 8 0 0), some (vR 5 0 0), some (vI x2), some (vI x3), some (vI x4)], [], σ) = pq_Rn C (53, 3, [some (vR 8 0 0), some (vR 5 0 0), some (vI x2), some (vI x3), some (vI (x4 + (1 : Int32)))], [], σ1) := by
  refine (e_n 3 (fr' := (53, 9, [some (vR 8 0 0), some (vR 5 0 0), some (vI x2), some (vI x3), some (vI x4)], [vI (σ.1 8 0 3 0), vI x4], σ)) rfl).trans ?_
  refine (e_f (B := (53, 12, [some (vR 8 0 0), some (vR 5 0 0), some (vI x2), some (vI x3), some (vI x4)], [], σ)) rfl h1).trans ?_
  refine (e_n 3 (fr' := (53, 18, [some (vR 8 0 0), some (vR 5 0 0), some (vI x2), some (vI x3), some (vI x4)], [vI x4, vR 8 0 1], σ)) rfl).trans ?_
  refine (e_a (A := (53, 19, [some (vR 8 0 0), some (vR 5 0 0), some (vI x2), some (vI x3), some (vI x4)], [vI (σ.1 8 0 0 (x4).toNatClampNeg)], σ)) rfl h2).trans ?_
  refine (e_n 1 (fr' := (53, 20, [some (vR 8 0 0), some (vR 5 0 0), some (vI x2), some (vI x3), some (vI x4)], [vI x2, vI (σ.1 8 0 0 (x4).toNatClampNeg)], σ)) rfl).trans ?_
  refine (e_t (A := (53, 34, [some (vR 8 0 0), some (vR 5 0 0), some (vI x2), some (vI x3), some (vI x4)], [], σ)) rfl h3).trans ?_
  refine (e_n 4 (fr' := (53, 39, [some (vR 8 0 0), some (vR 5 0 0), some (vI x2), some (vI x3), some (vI x4)], [vI x3, vI x4, vR 5 0 0, vR 8 0 0], σ)) rfl).trans ?_
  refine (e_ci (m := 53) (pc := 42) (ls := [some (vR 8 0 0), some (vR 5 0 0), some (vI x2), some (vI x3), some (vI x4)]) (rest := []) rfl h4).trans ?_
  refine (e_t (A := (53, 74, [some (vR 8 0 0), some (vR 5 0 0), some (vI x2), some (vI x3), some (vI x4)], [], σ1)) rfl h5).trans ?_
  exact e_n 2 rfl
set_option maxRecDepth 20000 in
theorem g53_3_2 (C : pmC) {σ : pmS} {x2 : Int32} {x3 : Int32} {x4 : Int32} {σ1 : pmS} {r1 : Int32} (h1 : ¬ (σ.1 8 0 3 0) ≤ x4) (h2 : vp_in x4 40) (h3 : (σ.1 8 0 0 (x4).toNatClampNeg) = x2) (h4 : C 52 [vR 8 0 0, vR 5 0 0, vI x4, vI x3] σ = some (some (vI r1), σ1)) (h5 : ¬ r1 = 0) (h6 : (σ1.1 8 0 0 (x4).toNatClampNeg) = x2) : pq_Rn C (53, 3, [some (vR 8 0 0), some (vR 5 0 0), some (vI x2), some (vI x3), some (vI x4)], [], σ) = some (some (vI (σ1.1 8 0 1 (x4).toNatClampNeg)), σ1) := by
  refine (e_n 3 (fr' := (53, 9, [some (vR 8 0 0), some (vR 5 0 0), some (vI x2), some (vI x3), some (vI x4)], [vI (σ.1 8 0 3 0), vI x4], σ)) rfl).trans ?_
  refine (e_f (B := (53, 12, [some (vR 8 0 0), some (vR 5 0 0), some (vI x2), some (vI x3), some (vI x4)], [], σ)) rfl h1).trans ?_
  refine (e_n 3 (fr' := (53, 18, [some (vR 8 0 0), some (vR 5 0 0), some (vI x2), some (vI x3), some (vI x4)], [vI x4, vR 8 0 1], σ)) rfl).trans ?_
  refine (e_a (A := (53, 19, [some (vR 8 0 0), some (vR 5 0 0), some (vI x2), some (vI x3), some (vI x4)], [vI (σ.1 8 0 0 (x4).toNatClampNeg)], σ)) rfl h2).trans ?_
  refine (e_n 1 (fr' := (53, 20, [some (vR 8 0 0), some (vR 5 0 0), some (vI x2), some (vI x3), some (vI x4)], [vI x2, vI (σ.1 8 0 0 (x4).toNatClampNeg)], σ)) rfl).trans ?_
  refine (e_t (A := (53, 34, [some (vR 8 0 0), some (vR 5 0 0), some (vI x2), some (vI x3), some (vI x4)], [], σ)) rfl h3).trans ?_
  refine (e_n 4 (fr' := (53, 39, [some (vR 8 0 0), some (vR 5 0 0), some (vI x2), some (vI x3), some (vI x4)], [vI x3, vI x4, vR 5 0 0, vR 8 0 0], σ)) rfl).trans ?_
  refine (e_ci (m := 53) (pc := 42) (ls := [some (vR 8 0 0), some (vR 5 0 0), some (vI x2), some (vI x3), some (vI x4)]) (rest := []) rfl h4).trans ?_
  refine (e_f (B := (53, 45, [some (vR 8 0 0), some (vR 5 0 0), some (vI x2), some (vI x3), some (vI x4)], [], σ1)) rfl h5).trans ?_
  refine (e_n 3 (fr' := (53, 51, [some (vR 8 0 0), some (vR 5 0 0), some (vI x2), some (vI x3), some (vI x4)], [vI x4, vR 8 0 1], σ1)) rfl).trans ?_
  refine (e_a (A := (53, 52, [some (vR 8 0 0), some (vR 5 0 0), some (vI x2), some (vI x3), some (vI x4)], [vI (σ1.1 8 0 0 (x4).toNatClampNeg)], σ1)) rfl h2).trans ?_
  refine (e_n 1 (fr' := (53, 53, [some (vR 8 0 0), some (vR 5 0 0), some (vI x2), some (vI x3), some (vI x4)], [vI x2, vI (σ1.1 8 0 0 (x4).toNatClampNeg)], σ1)) rfl).trans ?_
  refine (e_t (A := (53, 56, [some (vR 8 0 0), some (vR 5 0 0), some (vI x2), some (vI x3), some (vI x4)], [], σ1)) rfl h6).trans ?_
  refine (e_n 3 (fr' := (53, 62, [some (vR 8 0 0), some (vR 5 0 0), some (vI x2), some (vI x3), some (vI x4)], [vI x4, vR 8 0 2], σ1)) rfl).trans ?_
  refine (e_a (A := (53, 63, [some (vR 8 0 0), some (vR 5 0 0), some (vI x2), some (vI x3), some (vI x4)], [vI (σ1.1 8 0 1 (x4).toNatClampNeg)], σ1)) rfl h2).trans ?_
  refine (e_n 1 (fr' := (53, 73, [some (vR 8 0 0), some (vR 5 0 0), some (vI x2), some (vI x3), some (vI x4)], [vI (σ1.1 8 0 1 (x4).toNatClampNeg)], σ1)) rfl).trans ?_
  exact e_r rfl
set_option maxRecDepth 20000 in
theorem g53_3_3 (C : pmC) {σ : pmS} {x2 : Int32} {x3 : Int32} {x4 : Int32} {σ1 : pmS} {r1 : Int32} (h1 : ¬ (σ.1 8 0 3 0) ≤ x4) (h2 : vp_in x4 40) (h3 : (σ.1 8 0 0 (x4).toNatClampNeg) = x2) (h4 : C 52 [vR 8 0 0, vR 5 0 0, vI x4, vI x3] σ = some (some (vI r1), σ1)) (h5 : ¬ r1 = 0) (h6 : ¬ (σ1.1 8 0 0 (x4).toNatClampNeg) = x2) : pq_Rn C (53, 3, [some (vR 8 0 0), some (vR 5 0 0), some (vI x2), some (vI x3), some (vI x4)], [], σ) = some (some (vI (σ1.1 8 0 0 (x4).toNatClampNeg)), σ1) := by
  refine (e_n 3 (fr' := (53, 9, [some (vR 8 0 0), some (vR 5 0 0), some (vI x2), some (vI x3), some (vI x4)], [vI (σ.1 8 0 3 0), vI x4], σ)) rfl).trans ?_
  refine (e_f (B := (53, 12, [some (vR 8 0 0), some (vR 5 0 0), some (vI x2), some (vI x3), some (vI x4)], [], σ)) rfl h1).trans ?_
  refine (e_n 3 (fr' := (53, 18, [some (vR 8 0 0), some (vR 5 0 0), some (vI x2), some (vI x3), some (vI x4)], [vI x4, vR 8 0 1], σ)) rfl).trans ?_
  refine (e_a (A := (53, 19, [some (vR 8 0 0), some (vR 5 0 0), some (vI x2), some (vI x3), some (vI x4)], [vI (σ.1 8 0 0 (x4).toNatClampNeg)], σ)) rfl h2).trans ?_
  refine (e_n 1 (fr' := (53, 20, [some (vR 8 0 0), some (vR 5 0 0), some (vI x2), some (vI x3), some (vI x4)], [vI x2, vI (σ.1 8 0 0 (x4).toNatClampNeg)], σ)) rfl).trans ?_
  refine (e_t (A := (53, 34, [some (vR 8 0 0), some (vR 5 0 0), some (vI x2), some (vI x3), some (vI x4)], [], σ)) rfl h3).trans ?_
  refine (e_n 4 (fr' := (53, 39, [some (vR 8 0 0), some (vR 5 0 0), some (vI x2), some (vI x3), some (vI x4)], [vI x3, vI x4, vR 5 0 0, vR 8 0 0], σ)) rfl).trans ?_
  refine (e_ci (m := 53) (pc := 42) (ls := [some (vR 8 0 0), some (vR 5 0 0), some (vI x2), some (vI x3), some (vI x4)]) (rest := []) rfl h4).trans ?_
  refine (e_f (B := (53, 45, [some (vR 8 0 0), some (vR 5 0 0), some (vI x2), some (vI x3), some (vI x4)], [], σ1)) rfl h5).trans ?_
  refine (e_n 3 (fr' := (53, 51, [some (vR 8 0 0), some (vR 5 0 0), some (vI x2), some (vI x3), some (vI x4)], [vI x4, vR 8 0 1], σ1)) rfl).trans ?_
  refine (e_a (A := (53, 52, [some (vR 8 0 0), some (vR 5 0 0), some (vI x2), some (vI x3), some (vI x4)], [vI (σ1.1 8 0 0 (x4).toNatClampNeg)], σ1)) rfl h2).trans ?_
  refine (e_n 1 (fr' := (53, 53, [some (vR 8 0 0), some (vR 5 0 0), some (vI x2), some (vI x3), some (vI x4)], [vI x2, vI (σ1.1 8 0 0 (x4).toNatClampNeg)], σ1)) rfl).trans ?_
  refine (e_f (B := (53, 66, [some (vR 8 0 0), some (vR 5 0 0), some (vI x2), some (vI x3), some (vI x4)], [], σ1)) rfl h6).trans ?_
  refine (e_n 3 (fr' := (53, 72, [some (vR 8 0 0), some (vR 5 0 0), some (vI x2), some (vI x3), some (vI x4)], [vI x4, vR 8 0 1], σ1)) rfl).trans ?_
  refine (e_a (A := (53, 73, [some (vR 8 0 0), some (vR 5 0 0), some (vI x2), some (vI x3), some (vI x4)], [vI (σ1.1 8 0 0 (x4).toNatClampNeg)], σ1)) rfl h2).trans ?_
  exact e_r rfl
set_option maxRecDepth 20000 in
theorem g53_3_4 (C : pmC) {σ : pmS} {x2 : Int32} {x3 : Int32} {x4 : Int32} {σ1 : pmS} {r1 : Int32} (h1 : ¬ (σ.1 8 0 3 0) ≤ x4) (h2 : vp_in x4 40) (h3 : ¬ (σ.1 8 0 0 (x4).toNatClampNeg) = x2) (h4 : (σ.1 8 0 1 (x4).toNatClampNeg) = x2) (h5 : C 52 [vR 8 0 0, vR 5 0 0, vI x4, vI x3] σ = some (some (vI r1), σ1)) (h6 : r1 = 0) : pq_Rn C (53, 3, [some (vR 8 0 0), some (vR 5 0 0), some (vI x2), some (vI x3), some (vI x4)], [], σ) = pq_Rn C (53, 3, [some (vR 8 0 0), some (vR 5 0 0), some (vI x2), some (vI x3), some (vI (x4 + (1 : Int32)))], [], σ1) := by
  refine (e_n 3 (fr' := (53, 9, [some (vR 8 0 0), some (vR 5 0 0), some (vI x2), some (vI x3), some (vI x4)], [vI (σ.1 8 0 3 0), vI x4], σ)) rfl).trans ?_
  refine (e_f (B := (53, 12, [some (vR 8 0 0), some (vR 5 0 0), some (vI x2), some (vI x3), some (vI x4)], [], σ)) rfl h1).trans ?_
  refine (e_n 3 (fr' := (53, 18, [some (vR 8 0 0), some (vR 5 0 0), some (vI x2), some (vI x3), some (vI x4)], [vI x4, vR 8 0 1], σ)) rfl).trans ?_
  refine (e_a (A := (53, 19, [some (vR 8 0 0), some (vR 5 0 0), some (vI x2), some (vI x3), some (vI x4)], [vI (σ.1 8 0 0 (x4).toNatClampNeg)], σ)) rfl h2).trans ?_
  refine (e_n 1 (fr' := (53, 20, [some (vR 8 0 0), some (vR 5 0 0), some (vI x2), some (vI x3), some (vI x4)], [vI x2, vI (σ.1 8 0 0 (x4).toNatClampNeg)], σ)) rfl).trans ?_
  refine (e_f (B := (53, 23, [some (vR 8 0 0), some (vR 5 0 0), some (vI x2), some (vI x3), some (vI x4)], [], σ)) rfl h3).trans ?_
  refine (e_n 3 (fr' := (53, 29, [some (vR 8 0 0), some (vR 5 0 0), some (vI x2), some (vI x3), some (vI x4)], [vI x4, vR 8 0 2], σ)) rfl).trans ?_
  refine (e_a (A := (53, 30, [some (vR 8 0 0), some (vR 5 0 0), some (vI x2), some (vI x3), some (vI x4)], [vI (σ.1 8 0 1 (x4).toNatClampNeg)], σ)) rfl h2).trans ?_
  refine (e_n 1 (fr' := (53, 31, [some (vR 8 0 0), some (vR 5 0 0), some (vI x2), some (vI x3), some (vI x4)], [vI x2, vI (σ.1 8 0 1 (x4).toNatClampNeg)], σ)) rfl).trans ?_
  refine (e_t (A := (53, 34, [some (vR 8 0 0), some (vR 5 0 0), some (vI x2), some (vI x3), some (vI x4)], [], σ)) rfl h4).trans ?_
  refine (e_n 4 (fr' := (53, 39, [some (vR 8 0 0), some (vR 5 0 0), some (vI x2), some (vI x3), some (vI x4)], [vI x3, vI x4, vR 5 0 0, vR 8 0 0], σ)) rfl).trans ?_
  refine (e_ci (m := 53) (pc := 42) (ls := [some (vR 8 0 0), some (vR 5 0 0), some (vI x2), some (vI x3), some (vI x4)]) (rest := []) rfl h5).trans ?_
  refine (e_t (A := (53, 74, [some (vR 8 0 0), some (vR 5 0 0), some (vI x2), some (vI x3), some (vI x4)], [], σ1)) rfl h6).trans ?_
  exact e_n 2 rfl
set_option maxRecDepth 20000 in
theorem g53_3_5 (C : pmC) {σ : pmS} {x2 : Int32} {x3 : Int32} {x4 : Int32} {σ1 : pmS} {r1 : Int32} (h1 : ¬ (σ.1 8 0 3 0) ≤ x4) (h2 : vp_in x4 40) (h3 : ¬ (σ.1 8 0 0 (x4).toNatClampNeg) = x2) (h4 : (σ.1 8 0 1 (x4).toNatClampNeg) = x2) (h5 : C 52 [vR 8 0 0, vR 5 0 0, vI x4, vI x3] σ = some (some (vI r1), σ1)) (h6 : ¬ r1 = 0) (h7 : (σ1.1 8 0 0 (x4).toNatClampNeg) = x2) : pq_Rn C (53, 3, [some (vR 8 0 0), some (vR 5 0 0), some (vI x2), some (vI x3), some (vI x4)], [], σ) = some (some (vI (σ1.1 8 0 1 (x4).toNatClampNeg)), σ1) := by
  refine (e_n 3 (fr' := (53, 9, [some (vR 8 0 0), some (vR 5 0 0), some (vI x2), some (vI x3), some (vI x4)], [vI (σ.1 8 0 3 0), vI x4], σ)) rfl).trans ?_
  refine (e_f (B := (53, 12, [some (vR 8 0 0), some (vR 5 0 0), some (vI x2), some (vI x3), some (vI x4)], [], σ)) rfl h1).trans ?_
  refine (e_n 3 (fr' := (53, 18, [some (vR 8 0 0), some (vR 5 0 0), some (vI x2), some (vI x3), some (vI x4)], [vI x4, vR 8 0 1], σ)) rfl).trans ?_
  refine (e_a (A := (53, 19, [some (vR 8 0 0), some (vR 5 0 0), some (vI x2), some (vI x3), some (vI x4)], [vI (σ.1 8 0 0 (x4).toNatClampNeg)], σ)) rfl h2).trans ?_
  refine (e_n 1 (fr' := (53, 20, [some (vR 8 0 0), some (vR 5 0 0), some (vI x2), some (vI x3), some (vI x4)], [vI x2, vI (σ.1 8 0 0 (x4).toNatClampNeg)], σ)) rfl).trans ?_
  refine (e_f (B := (53, 23, [some (vR 8 0 0), some (vR 5 0 0), some (vI x2), some (vI x3), some (vI x4)], [], σ)) rfl h3).trans ?_
  refine (e_n 3 (fr' := (53, 29, [some (vR 8 0 0), some (vR 5 0 0), some (vI x2), some (vI x3), some (vI x4)], [vI x4, vR 8 0 2], σ)) rfl).trans ?_
  refine (e_a (A := (53, 30, [some (vR 8 0 0), some (vR 5 0 0), some (vI x2), some (vI x3), some (vI x4)], [vI (σ.1 8 0 1 (x4).toNatClampNeg)], σ)) rfl h2).trans ?_
  refine (e_n 1 (fr' := (53, 31, [some (vR 8 0 0), some (vR 5 0 0), some (vI x2), some (vI x3), some (vI x4)], [vI x2, vI (σ.1 8 0 1 (x4).toNatClampNeg)], σ)) rfl).trans ?_
  refine (e_t (A := (53, 34, [some (vR 8 0 0), some (vR 5 0 0), some (vI x2), some (vI x3), some (vI x4)], [], σ)) rfl h4).trans ?_
  refine (e_n 4 (fr' := (53, 39, [some (vR 8 0 0), some (vR 5 0 0), some (vI x2), some (vI x3), some (vI x4)], [vI x3, vI x4, vR 5 0 0, vR 8 0 0], σ)) rfl).trans ?_
  refine (e_ci (m := 53) (pc := 42) (ls := [some (vR 8 0 0), some (vR 5 0 0), some (vI x2), some (vI x3), some (vI x4)]) (rest := []) rfl h5).trans ?_
  refine (e_f (B := (53, 45, [some (vR 8 0 0), some (vR 5 0 0), some (vI x2), some (vI x3), some (vI x4)], [], σ1)) rfl h6).trans ?_
  refine (e_n 3 (fr' := (53, 51, [some (vR 8 0 0), some (vR 5 0 0), some (vI x2), some (vI x3), some (vI x4)], [vI x4, vR 8 0 1], σ1)) rfl).trans ?_
  refine (e_a (A := (53, 52, [some (vR 8 0 0), some (vR 5 0 0), some (vI x2), some (vI x3), some (vI x4)], [vI (σ1.1 8 0 0 (x4).toNatClampNeg)], σ1)) rfl h2).trans ?_
  refine (e_n 1 (fr' := (53, 53, [some (vR 8 0 0), some (vR 5 0 0), some (vI x2), some (vI x3), some (vI x4)], [vI x2, vI (σ1.1 8 0 0 (x4).toNatClampNeg)], σ1)) rfl).trans ?_
  refine (e_t (A := (53, 56, [some (vR 8 0 0), some (vR 5 0 0), some (vI x2), some (vI x3), some (vI x4)], [], σ1)) rfl h7).trans ?_
  refine (e_n 3 (fr' := (53, 62, [some (vR 8 0 0), some (vR 5 0 0), some (vI x2), some (vI x3), some (vI x4)], [vI x4, vR 8 0 2], σ1)) rfl).trans ?_
  refine (e_a (A := (53, 63, [some (vR 8 0 0), some (vR 5 0 0), some (vI x2), some (vI x3), some (vI x4)], [vI (σ1.1 8 0 1 (x4).toNatClampNeg)], σ1)) rfl h2).trans ?_
  refine (e_n 1 (fr' := (53, 73, [some (vR 8 0 0), some (vR 5 0 0), some (vI x2), some (vI x3), some (vI x4)], [vI (σ1.1 8 0 1 (x4).toNatClampNeg)], σ1)) rfl).trans ?_
  exact e_r rfl
set_option maxRecDepth 20000 in
theorem g53_3_6 (C : pmC) {σ : pmS} {x2 : Int32} {x3 : Int32} {x4 : Int32} {σ1 : pmS} {r1 : Int32} (h1 : ¬ (σ.1 8 0 3 0) ≤ x4) (h2 : vp_in x4 40) (h3 : ¬ (σ.1 8 0 0 (x4).toNatClampNeg) = x2) (h4 : (σ.1 8 0 1 (x4).toNatClampNeg) = x2) (h5 : C 52 [vR 8 0 0, vR 5 0 0, vI x4, vI x3] σ = some (some (vI r1), σ1)) (h6 : ¬ r1 = 0) (h7 : ¬ (σ1.1 8 0 0 (x4).toNatClampNeg) = x2) : pq_Rn C (53, 3, [some (vR 8 0 0), some (vR 5 0 0), some (vI x2), some (vI x3), some (vI x4)], [], σ) = some (some (vI (σ1.1 8 0 0 (x4).toNatClampNeg)), σ1) := by
  refine (e_n 3 (fr' := (53, 9, [some (vR 8 0 0), some (vR 5 0 0), some (vI x2), some (vI x3), some (vI x4)], [vI (σ.1 8 0 3 0), vI x4], σ)) rfl).trans ?_
  refine (e_f (B := (53, 12, [some (vR 8 0 0), some (vR 5 0 0), some (vI x2), some (vI x3), some (vI x4)], [], σ)) rfl h1).trans ?_
  refine (e_n 3 (fr' := (53, 18, [some (vR 8 0 0), some (vR 5 0 0), some (vI x2), some (vI x3), some (vI x4)], [vI x4, vR 8 0 1], σ)) rfl).trans ?_
  refine (e_a (A := (53, 19, [some (vR 8 0 0), some (vR 5 0 0), some (vI x2), some (vI x3), some (vI x4)], [vI (σ.1 8 0 0 (x4).toNatClampNeg)], σ)) rfl h2).trans ?_
  refine (e_n 1 (fr' := (53, 20, [some (vR 8 0 0), some (vR 5 0 0), some (vI x2), some (vI x3), some (vI x4)], [vI x2, vI (σ.1 8 0 0 (x4).toNatClampNeg)], σ)) rfl).trans ?_
  refine (e_f (B := (53, 23, [some (vR 8 0 0), some (vR 5 0 0), some (vI x2), some (vI x3), some (vI x4)], [], σ)) rfl h3).trans ?_
  refine (e_n 3 (fr' := (53, 29, [some (vR 8 0 0), some (vR 5 0 0), some (vI x2), some (vI x3), some (vI x4)], [vI x4, vR 8 0 2], σ)) rfl).trans ?_
  refine (e_a (A := (53, 30, [some (vR 8 0 0), some (vR 5 0 0), some (vI x2), some (vI x3), some (vI x4)], [vI (σ.1 8 0 1 (x4).toNatClampNeg)], σ)) rfl h2).trans ?_
  refine (e_n 1 (fr' := (53, 31, [some (vR 8 0 0), some (vR 5 0 0), some (vI x2), some (vI x3), some (vI x4)], [vI x2, vI (σ.1 8 0 1 (x4).toNatClampNeg)], σ)) rfl).trans ?_
  refine (e_t (A := (53, 34, [some (vR 8 0 0), some (vR 5 0 0), some (vI x2), some (vI x3), some (vI x4)], [], σ)) rfl h4).trans ?_
  refine (e_n 4 (fr' := (53, 39, [some (vR 8 0 0), some (vR 5 0 0), some (vI x2), some (vI x3), some (vI x4)], [vI x3, vI x4, vR 5 0 0, vR 8 0 0], σ)) rfl).trans ?_
  refine (e_ci (m := 53) (pc := 42) (ls := [some (vR 8 0 0), some (vR 5 0 0), some (vI x2), some (vI x3), some (vI x4)]) (rest := []) rfl h5).trans ?_
  refine (e_f (B := (53, 45, [some (vR 8 0 0), some (vR 5 0 0), some (vI x2), some (vI x3), some (vI x4)], [], σ1)) rfl h6).trans ?_
  refine (e_n 3 (fr' := (53, 51, [some (vR 8 0 0), some (vR 5 0 0), some (vI x2), some (vI x3), some (vI x4)], [vI x4, vR 8 0 1], σ1)) rfl).trans ?_
  refine (e_a (A := (53, 52, [some (vR 8 0 0), some (vR 5 0 0), some (vI x2), some (vI x3), some (vI x4)], [vI (σ1.1 8 0 0 (x4).toNatClampNeg)], σ1)) rfl h2).trans ?_
  refine (e_n 1 (fr' := (53, 53, [some (vR 8 0 0), some (vR 5 0 0), some (vI x2), some (vI x3), some (vI x4)], [vI x2, vI (σ1.1 8 0 0 (x4).toNatClampNeg)], σ1)) rfl).trans ?_
  refine (e_f (B := (53, 66, [some (vR 8 0 0), some (vR 5 0 0), some (vI x2), some (vI x3), some (vI x4)], [], σ1)) rfl h7).trans ?_
  refine (e_n 3 (fr' := (53, 72, [some (vR 8 0 0), some (vR 5 0 0), some (vI x2), some (vI x3), some (vI x4)], [vI x4, vR 8 0 1], σ1)) rfl).trans ?_
  refine (e_a (A := (53, 73, [some (vR 8 0 0), some (vR 5 0 0), some (vI x2), some (vI x3), some (vI x4)], [vI (σ1.1 8 0 0 (x4).toNatClampNeg)], σ1)) rfl h2).trans ?_
  exact e_r rfl
set_option maxRecDepth 20000 in
theorem g53_3_7 (C : pmC) {σ : pmS} {x2 : Int32} {x3 : Int32} {x4 : Int32} (h1 : ¬ (σ.1 8 0 3 0) ≤ x4) (h2 : vp_in x4 40) (h3 : ¬ (σ.1 8 0 0 (x4).toNatClampNeg) = x2) (h4 : ¬ (σ.1 8 0 1 (x4).toNatClampNeg) = x2) : pq_Rn C (53, 3, [some (vR 8 0 0), some (vR 5 0 0), some (vI x2), some (vI x3), some (vI x4)], [], σ) = pq_Rn C (53, 3, [some (vR 8 0 0), some (vR 5 0 0), some (vI x2), some (vI x3), some (vI (x4 + (1 : Int32)))], [], σ) := by
  refine (e_n 3 (fr' := (53, 9, [some (vR 8 0 0), some (vR 5 0 0), some (vI x2), some (vI x3), some (vI x4)], [vI (σ.1 8 0 3 0), vI x4], σ)) rfl).trans ?_
  refine (e_f (B := (53, 12, [some (vR 8 0 0), some (vR 5 0 0), some (vI x2), some (vI x3), some (vI x4)], [], σ)) rfl h1).trans ?_
  refine (e_n 3 (fr' := (53, 18, [some (vR 8 0 0), some (vR 5 0 0), some (vI x2), some (vI x3), some (vI x4)], [vI x4, vR 8 0 1], σ)) rfl).trans ?_
  refine (e_a (A := (53, 19, [some (vR 8 0 0), some (vR 5 0 0), some (vI x2), some (vI x3), some (vI x4)], [vI (σ.1 8 0 0 (x4).toNatClampNeg)], σ)) rfl h2).trans ?_
  refine (e_n 1 (fr' := (53, 20, [some (vR 8 0 0), some (vR 5 0 0), some (vI x2), some (vI x3), some (vI x4)], [vI x2, vI (σ.1 8 0 0 (x4).toNatClampNeg)], σ)) rfl).trans ?_
  refine (e_f (B := (53, 23, [some (vR 8 0 0), some (vR 5 0 0), some (vI x2), some (vI x3), some (vI x4)], [], σ)) rfl h3).trans ?_
  refine (e_n 3 (fr' := (53, 29, [some (vR 8 0 0), some (vR 5 0 0), some (vI x2), some (vI x3), some (vI x4)], [vI x4, vR 8 0 2], σ)) rfl).trans ?_
  refine (e_a (A := (53, 30, [some (vR 8 0 0), some (vR 5 0 0), some (vI x2), some (vI x3), some (vI x4)], [vI (σ.1 8 0 1 (x4).toNatClampNeg)], σ)) rfl h2).trans ?_
  refine (e_n 1 (fr' := (53, 31, [some (vR 8 0 0), some (vR 5 0 0), some (vI x2), some (vI x3), some (vI x4)], [vI x2, vI (σ.1 8 0 1 (x4).toNatClampNeg)], σ)) rfl).trans ?_
  refine (e_f (B := (53, 74, [some (vR 8 0 0), some (vR 5 0 0), some (vI x2), some (vI x3), some (vI x4)], [], σ)) rfl h4).trans ?_
  exact e_n 2 rfl
set_option maxRecDepth 20000 in
theorem g54_0_0 (C : pmC) {σ : pmS} {w1 : Int64} {x3 : Int32} (h1 : x3 < (1 : Int32)) : pq_Rn C (54, 0, [some (vR 9 0 0), some (vL w1), none, some (vI x3)], [], σ) = some (some (vI (-2 : Int32)), σ) := by
  refine (e_n 2 (fr' := (54, 2, [some (vR 9 0 0), some (vL w1), none, some (vI x3)], [vI (1 : Int32), vI x3], σ)) rfl).trans ?_
  refine (e_t (A := (54, 11, [some (vR 9 0 0), some (vL w1), none, some (vI x3)], [], σ)) rfl h1).trans ?_
  refine (e_n 1 (fr' := (54, 13, [some (vR 9 0 0), some (vL w1), none, some (vI x3)], [vI (-2 : Int32)], σ)) rfl).trans ?_
  exact e_r rfl
set_option maxRecDepth 20000 in
theorem g54_0_1 (C : pmC) {σ : pmS} {w1 : Int64} {x3 : Int32} {σ1 : pmS} {r1 : Int32} (h1 : ¬ x3 < (1 : Int32)) (h2 : x3 ≤ (8 : Int32)) (h3 : C 40 [vR 6 0 0, vL w1, vI x3] σ = some (some (vI r1), σ1)) (h4 : r1 = 0) : pq_Rn C (54, 0, [some (vR 9 0 0), some (vL w1), none, some (vI x3)], [], σ) = some (some (vI (-4 : Int32)), σ1) := by
  refine (e_n 2 (fr' := (54, 2, [some (vR 9 0 0), some (vL w1), none, some (vI x3)], [vI (1 : Int32), vI x3], σ)) rfl).trans ?_
  refine (e_f (B := (54, 5, [some (vR 9 0 0), some (vL w1), none, some (vI x3)], [], σ)) rfl h1).trans ?_
  refine (e_n 2 (fr' := (54, 8, [some (vR 9 0 0), some (vL w1), none, some (vI x3)], [vI (8 : Int32), vI x3], σ)) rfl).trans ?_
  refine (e_t (A := (54, 14, [some (vR 9 0 0), some (vL w1), none, some (vI x3)], [], σ)) rfl h2).trans ?_
  refine (e_n 4 (fr' := (54, 20, [some (vR 9 0 0), some (vL w1), none, some (vI x3)], [vI x3, vL w1, vR 6 0 0], σ)) rfl).trans ?_
  refine (e_ci (m := 54) (pc := 23) (ls := [some (vR 9 0 0), some (vL w1), none, some (vI x3)]) (rest := []) rfl h3).trans ?_
  refine (e_t (A := (54, 36, [some (vR 9 0 0), some (vL w1), none, some (vI x3)], [], σ1)) rfl h4).trans ?_
  refine (e_n 1 (fr' := (54, 38, [some (vR 9 0 0), some (vL w1), none, some (vI x3)], [vI (-4 : Int32)], σ1)) rfl).trans ?_
  exact e_r rfl
set_option maxRecDepth 20000 in
theorem g54_0_2 (C : pmC) {σ : pmS} {w1 : Int64} {x3 : Int32} {σ1 : pmS} {r1 : Int32} (h1 : ¬ x3 < (1 : Int32)) (h2 : x3 ≤ (8 : Int32)) (h3 : C 40 [vR 6 0 0, vL w1, vI x3] σ = some (some (vI r1), σ1)) (h4 : ¬ r1 = 0) : pq_Rn C (54, 0, [some (vR 9 0 0), some (vL w1), none, some (vI x3)], [], σ) = some (some (vI (σ1.1 6 0 1 0)), σ1) := by
  refine (e_n 2 (fr' := (54, 2, [some (vR 9 0 0), some (vL w1), none, some (vI x3)], [vI (1 : Int32), vI x3], σ)) rfl).trans ?_
  refine (e_f (B := (54, 5, [some (vR 9 0 0), some (vL w1), none, some (vI x3)], [], σ)) rfl h1).trans ?_
  refine (e_n 2 (fr' := (54, 8, [some (vR 9 0 0), some (vL w1), none, some (vI x3)], [vI (8 : Int32), vI x3], σ)) rfl).trans ?_
  refine (e_t (A := (54, 14, [some (vR 9 0 0), some (vL w1), none, some (vI x3)], [], σ)) rfl h2).trans ?_
  refine (e_n 4 (fr' := (54, 20, [some (vR 9 0 0), some (vL w1), none, some (vI x3)], [vI x3, vL w1, vR 6 0 0], σ)) rfl).trans ?_
  refine (e_ci (m := 54) (pc := 23) (ls := [some (vR 9 0 0), some (vL w1), none, some (vI x3)]) (rest := []) rfl h3).trans ?_
  refine (e_f (B := (54, 26, [some (vR 9 0 0), some (vL w1), none, some (vI x3)], [], σ1)) rfl h4).trans ?_
  refine (e_n 4 (fr' := (54, 38, [some (vR 9 0 0), some (vL w1), none, some (vI x3)], [vI (σ1.1 6 0 1 0)], σ1)) rfl).trans ?_
  exact e_r rfl
set_option maxRecDepth 20000 in
theorem g54_0_3 (C : pmC) {σ : pmS} {w1 : Int64} {x3 : Int32} (h1 : ¬ x3 < (1 : Int32)) (h2 : ¬ x3 ≤ (8 : Int32)) : pq_Rn C (54, 0, [some (vR 9 0 0), some (vL w1), none, some (vI x3)], [], σ) = some (some (vI (-2 : Int32)), σ) := by
  refine (e_n 2 (fr' := (54, 2, [some (vR 9 0 0), some (vL w1), none, some (vI x3)], [vI (1 : Int32), vI x3], σ)) rfl).trans ?_
  refine (e_f (B := (54, 5, [some (vR 9 0 0), some (vL w1), none, some (vI x3)], [], σ)) rfl h1).trans ?_
  refine (e_n 2 (fr' := (54, 8, [some (vR 9 0 0), some (vL w1), none, some (vI x3)], [vI (8 : Int32), vI x3], σ)) rfl).trans ?_
  refine (e_f (B := (54, 11, [some (vR 9 0 0), some (vL w1), none, some (vI x3)], [], σ)) rfl h2).trans ?_
  refine (e_n 1 (fr' := (54, 13, [some (vR 9 0 0), some (vL w1), none, some (vI x3)], [vI (-2 : Int32)], σ)) rfl).trans ?_
  exact e_r rfl
set_option maxRecDepth 20000 in
theorem g55_0_0 (C : pmC) {σ : pmS} {σ1 : pmS} {σ2 : pmS} (h1 : (σ.1 9 0 9 0) < (4 : Int32)) (h2 : C 41 [vR 6 0 0] σ = some (none, σ1)) (h3 : (σ1.1 6 0 2 0) = 0) (h4 : vp_in (σ1.1 9 0 9 0) 4) (h5 : C 42 [vR 6 0 0, vR 2 ((σ1.1 9 0 9 0)).toNatClampNeg 0] σ1 = some (none, σ2)) (h6 : (σ2.1 6 0 2 0) = 0) : pq_Rn C (55, 0, [some (vR 9 0 0)], [], σ) = some (some (vI (((σ2.1 9 0 9 0) + (1 : Int32)) - (1 : Int32))), (pm_wi (pm_wi σ2 6 0 1 0 (0 : Int32)) 9 0 9 0 ((σ2.1 9 0 9 0) + (1 : Int32)))) := by
  refine (e_n 3 (fr' := (55, 5, [some (vR 9 0 0)], [vI (4 : Int32), vI (σ.1 9 0 9 0)], σ)) rfl).trans ?_
  refine (e_t (A := (55, 11, [some (vR 9 0 0)], [], σ)) rfl h1).trans ?_
  refine (e_n 2 (fr' := (55, 15, [some (vR 9 0 0)], [vR 6 0 0], σ)) rfl).trans ?_
  refine (e_cv (m := 55) (pc := 18) (ls := [some (vR 9 0 0)]) (rest := []) rfl h2).trans ?_
  refine (e_n 3 (fr' := (55, 25, [some (vR 9 0 0)], [vI (σ1.1 6 0 2 0)], σ1)) rfl).trans ?_
  refine (e_t (A := (55, 28, [some (vR 9 0 0)], [], σ1)) rfl h3).trans ?_
  refine (e_n 6 (fr' := (55, 40, [some (vR 9 0 0)], [vI (σ1.1 9 0 9 0), vR 9 0 2, vR 6 0 0], σ1)) rfl).trans ?_
  refine (e_a (A := (55, 41, [some (vR 9 0 0)], [vR 2 ((σ1.1 9 0 9 0)).toNatClampNeg 0, vR 6 0 0], σ1)) rfl h4).trans ?_
  refine (e_cv (m := 55) (pc := 44) (ls := [some (vR 9 0 0)]) (rest := []) rfl h5).trans ?_
  refine (e_n 7 (fr' := (55, 59, [some (vR 9 0 0)], [vI (σ2.1 6 0 2 0)], (pm_wi σ2 6 0 1 0 (0 : Int32)))) rfl).trans ?_
  refine (e_t (A := (55, 73, [some (vR 9 0 0)], [], (pm_wi σ2 6 0 1 0 (0 : Int32)))) rfl h6).trans ?_
  refine (e_n 10 (fr' := (55, 89, [some (vR 9 0 0)], [vI (((σ2.1 9 0 9 0) + (1 : Int32)) - (1 : Int32))], (pm_wi (pm_wi σ2 6 0 1 0 (0 : Int32)) 9 0 9 0 ((σ2.1 9 0 9 0) + (1 : Int32))))) rfl).trans ?_
  exact e_r rfl
set_option maxRecDepth 20000 in
theorem g55_0_1 (C : pmC) {σ : pmS} {σ1 : pmS} {σ2 : pmS} (h1 : (σ.1 9 0 9 0) < (4 : Int32)) (h2 : C 41 [vR 6 0 0] σ = some (none, σ1)) (h3 : (σ1.1 6 0 2 0) = 0) (h4 : vp_in (σ1.1 9 0 9 0) 4) (h5 : C 42 [vR 6 0 0, vR 2 ((σ1.1 9 0 9 0)).toNatClampNeg 0] σ1 = some (none, σ2)) (h6 : ¬ (σ2.1 6 0 2 0) = 0) : pq_Rn C (55, 0, [some (vR 9 0 0)], [], σ) = some (some (vI ((-10 : Int32) - (σ2.1 6 0 2 0))), (pm_wi σ2 6 0 1 0 (0 : Int32))) := by
  refine (e_n 3 (fr' := (55, 5, [some (vR 9 0 0)], [vI (4 : Int32), vI (σ.1 9 0 9 0)], σ)) rfl).trans ?_
  refine (e_t (A := (55, 11, [some (vR 9 0 0)], [], σ)) rfl h1).trans ?_
  refine (e_n 2 (fr' := (55, 15, [some (vR 9 0 0)], [vR 6 0 0], σ)) rfl).trans ?_
  refine (e_cv (m := 55) (pc := 18) (ls := [some (vR 9 0 0)]) (rest := []) rfl h2).trans ?_
  refine (e_n 3 (fr' := (55, 25, [some (vR 9 0 0)], [vI (σ1.1 6 0 2 0)], σ1)) rfl).trans ?_
  refine (e_t (A := (55, 28, [some (vR 9 0 0)], [], σ1)) rfl h3).trans ?_
  refine (e_n 6 (fr' := (55, 40, [some (vR 9 0 0)], [vI (σ1.1 9 0 9 0), vR 9 0 2, vR 6 0 0], σ1)) rfl).trans ?_
  refine (e_a (A := (55, 41, [some (vR 9 0 0)], [vR 2 ((σ1.1 9 0 9 0)).toNatClampNeg 0, vR 6 0 0], σ1)) rfl h4).trans ?_
  refine (e_cv (m := 55) (pc := 44) (ls := [some (vR 9 0 0)]) (rest := []) rfl h5).trans ?_
  refine (e_n 7 (fr' := (55, 59, [some (vR 9 0 0)], [vI (σ2.1 6 0 2 0)], (pm_wi σ2 6 0 1 0 (0 : Int32)))) rfl).trans ?_
  refine (e_f (B := (55, 62, [some (vR 9 0 0)], [], (pm_wi σ2 6 0 1 0 (0 : Int32)))) rfl h6).trans ?_
  refine (e_n 5 (fr' := (55, 72, [some (vR 9 0 0)], [vI ((-10 : Int32) - (σ2.1 6 0 2 0))], (pm_wi σ2 6 0 1 0 (0 : Int32)))) rfl).trans ?_
  exact e_r rfl
set_option maxRecDepth 20000 in
theorem g55_0_2 (C : pmC) {σ : pmS} {σ1 : pmS} (h1 : (σ.1 9 0 9 0) < (4 : Int32)) (h2 : C 41 [vR 6 0 0] σ = some (none, σ1)) (h3 : ¬ (σ1.1 6 0 2 0) = 0) (h4 : (σ1.1 6 0 2 0) = 0) : pq_Rn C (55, 0, [some (vR 9 0 0)], [], σ) = some (some (vI (((σ1.1 9 0 9 0) + (1 : Int32)) - (1 : Int32))), (pm_wi (pm_wi σ1 6 0 1 0 (0 : Int32)) 9 0 9 0 ((σ1.1 9 0 9 0) + (1 : Int32)))) := by
  refine (e_n 3 (fr' := (55, 5, [some (vR 9 0 0)], [vI (4 : Int32), vI (σ.1 9 0 9 0)], σ)) rfl).trans ?_
  refine (e_t (A := (55, 11, [some (vR 9 0 0)], [], σ)) rfl h1).trans ?_
  refine (e_n 2 (fr' := (55, 15, [some (vR 9 0 0)], [vR 6 0 0], σ)) rfl).trans ?_
  refine (e_cv (m := 55) (pc := 18) (ls := [some (vR 9 0 0)]) (rest := []) rfl h2).trans ?_
  refine (e_n 3 (fr' := (55, 25, [some (vR 9 0 0)], [vI (σ1.1 6 0 2 0)], σ1)) rfl).trans ?_
  refine (e_f (B := (55, 44, [some (vR 9 0 0)], [], σ1)) rfl h3).trans ?_
  refine (e_n 7 (fr' := (55, 59, [some (vR 9 0 0)], [vI (σ1.1 6 0 2 0)], (pm_wi σ1 6 0 1 0 (0 : Int32)))) rfl).trans ?_
  refine (e_t (A := (55, 73, [some (vR 9 0 0)], [], (pm_wi σ1 6 0 1 0 (0 : Int32)))) rfl h4).trans ?_
  refine (e_n 10 (fr' := (55, 89, [some (vR 9 0 0)], [vI (((σ1.1 9 0 9 0) + (1 : Int32)) - (1 : Int32))], (pm_wi (pm_wi σ1 6 0 1 0 (0 : Int32)) 9 0 9 0 ((σ1.1 9 0 9 0) + (1 : Int32))))) rfl).trans ?_
  exact e_r rfl
set_option maxRecDepth 20000 in
theorem g55_0_3 (C : pmC) {σ : pmS} {σ1 : pmS} (h1 : (σ.1 9 0 9 0) < (4 : Int32)) (h2 : C 41 [vR 6 0 0] σ = some (none, σ1)) (h3 : ¬ (σ1.1 6 0 2 0) = 0) (h4 : ¬ (σ1.1 6 0 2 0) = 0) : pq_Rn C (55, 0, [some (vR 9 0 0)], [], σ) = some (some (vI ((-10 : Int32) - (σ1.1 6 0 2 0))), (pm_wi σ1 6 0 1 0 (0 : Int32))) := by
  refine (e_n 3 (fr' := (55, 5, [some (vR 9 0 0)], [vI (4 : Int32), vI (σ.1 9 0 9 0)], σ)) rfl).trans ?_
  refine (e_t (A := (55, 11, [some (vR 9 0 0)], [], σ)) rfl h1).trans ?_
  refine (e_n 2 (fr' := (55, 15, [some (vR 9 0 0)], [vR 6 0 0], σ)) rfl).trans ?_
  refine (e_cv (m := 55) (pc := 18) (ls := [some (vR 9 0 0)]) (rest := []) rfl h2).trans ?_
  refine (e_n 3 (fr' := (55, 25, [some (vR 9 0 0)], [vI (σ1.1 6 0 2 0)], σ1)) rfl).trans ?_
  refine (e_f (B := (55, 44, [some (vR 9 0 0)], [], σ1)) rfl h3).trans ?_
  refine (e_n 7 (fr' := (55, 59, [some (vR 9 0 0)], [vI (σ1.1 6 0 2 0)], (pm_wi σ1 6 0 1 0 (0 : Int32)))) rfl).trans ?_
  refine (e_f (B := (55, 62, [some (vR 9 0 0)], [], (pm_wi σ1 6 0 1 0 (0 : Int32)))) rfl h4).trans ?_
  refine (e_n 5 (fr' := (55, 72, [some (vR 9 0 0)], [vI ((-10 : Int32) - (σ1.1 6 0 2 0))], (pm_wi σ1 6 0 1 0 (0 : Int32)))) rfl).trans ?_
  exact e_r rfl
set_option maxRecDepth 20000 in
theorem g55_0_4 (C : pmC) {σ : pmS}  (h1 : ¬ (σ.1 9 0 9 0) < (4 : Int32)) : pq_Rn C (55, 0, [some (vR 9 0 0)], [], σ) = some (some (vI (-4 : Int32)), σ) := by
  refine (e_n 3 (fr' := (55, 5, [some (vR 9 0 0)], [vI (4 : Int32), vI (σ.1 9 0 9 0)], σ)) rfl).trans ?_
  refine (e_f (B := (55, 8, [some (vR 9 0 0)], [], σ)) rfl h1).trans ?_
  refine (e_n 1 (fr' := (55, 10, [some (vR 9 0 0)], [vI (-4 : Int32)], σ)) rfl).trans ?_
  exact e_r rfl
set_option maxRecDepth 20000 in
theorem g56_0_0 (C : pmC) {σ : pmS} {x1 : Int32} (h1 : x1 = (0 : Int32)) : pq_Rn C (56, 0, [some (vR 9 0 0), some (vI x1)], [], σ) = some (some (vI (σ.1 6 0 2 0)), σ) := by
  refine (e_n 1 (fr' := (56, 1, [some (vR 9 0 0), some (vI x1)], [vI x1], σ)) rfl).trans ?_
  refine (e_g (A := (56, 28, [some (vR 9 0 0), some (vI x1)], [], σ)) (off' := 27) rfl (by rw [h1]; decide) rfl).trans ?_
  refine (e_n 3 (fr' := (56, 35, [some (vR 9 0 0), some (vI x1)], [vI (σ.1 6 0 2 0)], σ)) rfl).trans ?_
  exact e_r rfl
set_option maxRecDepth 20000 in
theorem g56_0_1 (C : pmC) {σ : pmS} {x1 : Int32} (h1 : x1 = (1 : Int32)) : pq_Rn C (56, 0, [some (vR 9 0 0), some (vI x1)], [], σ) = some (some (vI (σ.1 6 0 3 0)), σ) := by
  refine (e_n 1 (fr' := (56, 1, [some (vR 9 0 0), some (vI x1)], [vI x1], σ)) rfl).trans ?_
  refine (e_g (A := (56, 36, [some (vR 9 0 0), some (vI x1)], [], σ)) (off' := 35) rfl (by rw [h1]; decide) rfl).trans ?_
  refine (e_n 3 (fr' := (56, 43, [some (vR 9 0 0), some (vI x1)], [vI (σ.1 6 0 3 0)], σ)) rfl).trans ?_
  exact e_r rfl
set_option maxRecDepth 20000 in
theorem g56_0_2 (C : pmC) {σ : pmS} {x1 : Int32} (h1 : ¬ x1 = (0 : Int32)) (h2 : ¬ x1 = (1 : Int32)) : pq_Rn C (56, 0, [some (vR 9 0 0), some (vI x1)], [], σ) = some (some (vI (-1 : Int32)), σ) := by
  refine (e_n 1 (fr' := (56, 1, [some (vR 9 0 0), some (vI x1)], [vI x1], σ)) rfl).trans ?_
  refine (e_g (A := (56, 44, [some (vR 9 0 0), some (vI x1)], [], σ)) (off' := 43) rfl ((pm_lk_ne h1).trans ((pm_lk_ne h2).trans (rfl))) rfl).trans ?_
  refine (e_n 1 (fr' := (56, 45, [some (vR 9 0 0), some (vI x1)], [vI (-1 : Int32)], σ)) rfl).trans ?_
  exact e_r rfl
set_option maxRecDepth 20000 in
theorem g57_0_0 (C : pmC) {σ : pmS} {x1 : Int32} {x2 : Int32} {x3 : Int32} {l4 : Option pmV} {σ1 : pmS} {r1 : Int32} (h1 : C 87 [vR 9 0 0, vI x1, vI x2] σ = some (some (vI r1), σ1)) (h2 : r1 = 0) : pq_Rn C (57, 0, [some (vR 9 0 0), some (vI x1), some (vI x2), some (vI x3), l4], [], σ) = some (some (vI (-1 : Int32)), σ1) := by
  refine (e_n 3 (fr' := (57, 3, [some (vR 9 0 0), some (vI x1), some (vI x2), some (vI x3), l4], [vI x2, vI x1, vR 9 0 0], σ)) rfl).trans ?_
  refine (e_ci (m := 57) (pc := 6) (ls := [some (vR 9 0 0), some (vI x1), some (vI x2), some (vI x3), l4]) (rest := []) rfl h1).trans ?_
  refine (e_t (A := (57, 9, [some (vR 9 0 0), some (vI x1), some (vI x2), some (vI x3), l4], [], σ1)) rfl h2).trans ?_
  refine (e_n 1 (fr' := (57, 10, [some (vR 9 0 0), some (vI x1), some (vI x2), some (vI x3), l4], [vI (-1 : Int32)], σ1)) rfl).trans ?_
  exact e_r rfl
set_option maxRecDepth 20000 in
theorem g57_0_1 (C : pmC) {σ : pmS} {x1 : Int32} {x2 : Int32} {x3 : Int32} {l4 : Option pmV} {σ1 : pmS} {r1 : Int32} (h1 : C 87 [vR 9 0 0, vI x1, vI x2] σ = some (some (vI r1), σ1)) (h2 : ¬ r1 = 0) (h3 : vp_in x1 4) (h4 : x3 = (0 : Int32)) (h5 : vp_in x2 8) : pq_Rn C (57, 0, [some (vR 9 0 0), some (vI x1), some (vI x2), some (vI x3), l4], [], σ) = some (some (vI (σ1.1 2 (x1).toNatClampNeg 0 (x2).toNatClampNeg)), σ1) := by
  refine (e_n 3 (fr' := (57, 3, [some (vR 9 0 0), some (vI x1), some (vI x2), some (vI x3), l4], [vI x2, vI x1, vR 9 0 0], σ)) rfl).trans ?_
  refine (e_ci (m := 57) (pc := 6) (ls := [some (vR 9 0 0), some (vI x1), some (vI x2), some (vI x3), l4]) (rest := []) rfl h1).trans ?_
  refine (e_f (B := (57, 11, [some (vR 9 0 0), some (vI x1), some (vI x2), some (vI x3), l4], [], σ1)) rfl h2).trans ?_
  refine (e_n 3 (fr' := (57, 16, [some (vR 9 0 0), some (vI x1), some (vI x2), some (vI x3), l4], [vI x1, vR 9 0 2], σ1)) rfl).trans ?_
  refine (e_a (A := (57, 17, [some (vR 9 0 0), some (vI x1), some (vI x2), some (vI x3), l4], [vR 2 (x1).toNatClampNeg 0], σ1)) rfl h3).trans ?_
  refine (e_n 2 (fr' := (57, 20, [some (vR 9 0 0), some (vI x1), some (vI x2), some (vI x3), some (vR 2 (x1).toNatClampNeg 0)], [vI x3], σ1)) rfl).trans ?_
  refine (e_g (A := (57, 56, [some (vR 9 0 0), some (vI x1), some (vI x2), some (vI x3), some (vR 2 (x1).toNatClampNeg 0)], [], σ1)) (off' := 36) rfl (by rw [h4]; decide) rfl).trans ?_
  refine (e_n 3 (fr' := (57, 62, [some (vR 9 0 0), some (vI x1), some (vI x2), some (vI x3), some (vR 2 (x1).toNatClampNeg 0)], [vI x2, vR 2 (x1).toNatClampNeg 1], σ1)) rfl).trans ?_
  refine (e_a (A := (57, 63, [some (vR 9 0 0), some (vI x1), some (vI x2), some (vI x3), some (vR 2 (x1).toNatClampNeg 0)], [vI (σ1.1 2 (x1).toNatClampNeg 0 (x2).toNatClampNeg)], σ1)) rfl h5).trans ?_
  exact e_r rfl
set_option maxRecDepth 20000 in
theorem g57_0_2 (C : pmC) {σ : pmS} {x1 : Int32} {x2 : Int32} {x3 : Int32} {l4 : Option pmV} {σ1 : pmS} {r1 : Int32} (h1 : C 87 [vR 9 0 0, vI x1, vI x2] σ = some (some (vI r1), σ1)) (h2 : ¬ r1 = 0) (h3 : vp_in x1 4) (h4 : x3 = (1 : Int32)) (h5 : vp_in x2 8) : pq_Rn C (57, 0, [some (vR 9 0 0), some (vI x1), some (vI x2), some (vI x3), l4], [], σ) = some (some (vI (σ1.1 2 (x1).toNatClampNeg 2 (x2).toNatClampNeg)), σ1) := by
  refine (e_n 3 (fr' := (57, 3, [some (vR 9 0 0), some (vI x1), some (vI x2), some (vI x3), l4], [vI x2, vI x1, vR 9 0 0], σ)) rfl).trans ?_
  refine (e_ci (m := 57) (pc := 6) (ls := [some (vR 9 0 0), some (vI x1), some (vI x2), some (vI x3), l4]) (rest := []) rfl h1).trans ?_
  refine (e_f (B := (57, 11, [some (vR 9 0 0), some (vI x1), some (vI x2), some (vI x3), l4], [], σ1)) rfl h2).trans ?_
  refine (e_n 3 (fr' := (57, 16, [some (vR 9 0 0), some (vI x1), some (vI x2), some (vI x3), l4], [vI x1, vR 9 0 2], σ1)) rfl).trans ?_
  refine (e_a (A := (57, 17, [some (vR 9 0 0), some (vI x1), some (vI x2), some (vI x3), l4], [vR 2 (x1).toNatClampNeg 0], σ1)) rfl h3).trans ?_
  refine (e_n 2 (fr' := (57, 20, [some (vR 9 0 0), some (vI x1), some (vI x2), some (vI x3), some (vR 2 (x1).toNatClampNeg 0)], [vI x3], σ1)) rfl).trans ?_
  refine (e_g (A := (57, 64, [some (vR 9 0 0), some (vI x1), some (vI x2), some (vI x3), some (vR 2 (x1).toNatClampNeg 0)], [], σ1)) (off' := 44) rfl (by rw [h4]; decide) rfl).trans ?_
  refine (e_n 3 (fr' := (57, 70, [some (vR 9 0 0), some (vI x1), some (vI x2), some (vI x3), some (vR 2 (x1).toNatClampNeg 0)], [vI x2, vR 2 (x1).toNatClampNeg 3], σ1)) rfl).trans ?_
  refine (e_a (A := (57, 71, [some (vR 9 0 0), some (vI x1), some (vI x2), some (vI x3), some (vR 2 (x1).toNatClampNeg 0)], [vI (σ1.1 2 (x1).toNatClampNeg 2 (x2).toNatClampNeg)], σ1)) rfl h5).trans ?_
  exact e_r rfl
set_option maxRecDepth 20000 in
theorem g57_0_3 (C : pmC) {σ : pmS} {x1 : Int32} {x2 : Int32} {x3 : Int32} {l4 : Option pmV} {σ1 : pmS} {r1 : Int32} (h1 : C 87 [vR 9 0 0, vI x1, vI x2] σ = some (some (vI r1), σ1)) (h2 : ¬ r1 = 0) (h3 : vp_in x1 4) (h4 : x3 = (2 : Int32)) (h5 : vp_in x2 8) : pq_Rn C (57, 0, [some (vR 9 0 0), some (vI x1), some (vI x2), some (vI x3), l4], [], σ) = some (some (vI (σ1.1 2 (x1).toNatClampNeg 3 (x2).toNatClampNeg)), σ1) := by
  refine (e_n 3 (fr' := (57, 3, [some (vR 9 0 0), some (vI x1), some (vI x2), some (vI x3), l4], [vI x2, vI x1, vR 9 0 0], σ)) rfl).trans ?_
  refine (e_ci (m := 57) (pc := 6) (ls := [some (vR 9 0 0), some (vI x1), some (vI x2), some (vI x3), l4]) (rest := []) rfl h1).trans ?_
  refine (e_f (B := (57, 11, [some (vR 9 0 0), some (vI x1), some (vI x2), some (vI x3), l4], [], σ1)) rfl h2).trans ?_
  refine (e_n 3 (fr' := (57, 16, [some (vR 9 0 0), some (vI x1), some (vI x2), some (vI x3), l4], [vI x1, vR 9 0 2], σ1)) rfl).trans ?_
  refine (e_a (A := (57, 17, [some (vR 9 0 0), some (vI x1), some (vI x2), some (vI x3), l4], [vR 2 (x1).toNatClampNeg 0], σ1)) rfl h3).trans ?_
  refine (e_n 2 (fr' := (57, 20, [some (vR 9 0 0), some (vI x1), some (vI x2), some (vI x3), some (vR 2 (x1).toNatClampNeg 0)], [vI x3], σ1)) rfl).trans ?_
  refine (e_g (A := (57, 72, [some (vR 9 0 0), some (vI x1), some (vI x2), some (vI x3), some (vR 2 (x1).toNatClampNeg 0)], [], σ1)) (off' := 52) rfl (by rw [h4]; decide) rfl).trans ?_
  refine (e_n 3 (fr' := (57, 78, [some (vR 9 0 0), some (vI x1), some (vI x2), some (vI x3), some (vR 2 (x1).toNatClampNeg 0)], [vI x2, vR 2 (x1).toNatClampNeg 4], σ1)) rfl).trans ?_
  refine (e_a (A := (57, 79, [some (vR 9 0 0), some (vI x1), some (vI x2), some (vI x3), some (vR 2 (x1).toNatClampNeg 0)], [vI (σ1.1 2 (x1).toNatClampNeg 3 (x2).toNatClampNeg)], σ1)) rfl h5).trans ?_
  exact e_r rfl
set_option maxRecDepth 20000 in
theorem g57_0_4 (C : pmC) {σ : pmS} {x1 : Int32} {x2 : Int32} {x3 : Int32} {l4 : Option pmV} {σ1 : pmS} {r1 : Int32} (h1 : C 87 [vR 9 0 0, vI x1, vI x2] σ = some (some (vI r1), σ1)) (h2 : ¬ r1 = 0) (h3 : vp_in x1 4) (h4 : x3 = (3 : Int32)) (h5 : vp_in x2 8) : pq_Rn C (57, 0, [some (vR 9 0 0), some (vI x1), some (vI x2), some (vI x3), l4], [], σ) = some (some (vI (σ1.1 2 (x1).toNatClampNeg 1 (x2).toNatClampNeg)), σ1) := by
  refine (e_n 3 (fr' := (57, 3, [some (vR 9 0 0), some (vI x1), some (vI x2), some (vI x3), l4], [vI x2, vI x1, vR 9 0 0], σ)) rfl).trans ?_
  refine (e_ci (m := 57) (pc := 6) (ls := [some (vR 9 0 0), some (vI x1), some (vI x2), some (vI x3), l4]) (rest := []) rfl h1).trans ?_
  refine (e_f (B := (57, 11, [some (vR 9 0 0), some (vI x1), some (vI x2), some (vI x3), l4], [], σ1)) rfl h2).trans ?_
  refine (e_n 3 (fr' := (57, 16, [some (vR 9 0 0), some (vI x1), some (vI x2), some (vI x3), l4], [vI x1, vR 9 0 2], σ1)) rfl).trans ?_
  refine (e_a (A := (57, 17, [some (vR 9 0 0), some (vI x1), some (vI x2), some (vI x3), l4], [vR 2 (x1).toNatClampNeg 0], σ1)) rfl h3).trans ?_
  refine (e_n 2 (fr' := (57, 20, [some (vR 9 0 0), some (vI x1), some (vI x2), some (vI x3), some (vR 2 (x1).toNatClampNeg 0)], [vI x3], σ1)) rfl).trans ?_
  refine (e_g (A := (57, 80, [some (vR 9 0 0), some (vI x1), some (vI x2), some (vI x3), some (vR 2 (x1).toNatClampNeg 0)], [], σ1)) (off' := 60) rfl (by rw [h4]; decide) rfl).trans ?_
  refine (e_n 3 (fr' := (57, 86, [some (vR 9 0 0), some (vI x1), some (vI x2), some (vI x3), some (vR 2 (x1).toNatClampNeg 0)], [vI x2, vR 2 (x1).toNatClampNeg 2], σ1)) rfl).trans ?_
  refine (e_a (A := (57, 87, [some (vR 9 0 0), some (vI x1), some (vI x2), some (vI x3), some (vR 2 (x1).toNatClampNeg 0)], [vI (σ1.1 2 (x1).toNatClampNeg 1 (x2).toNatClampNeg)], σ1)) rfl h5).trans ?_
  exact e_r rfl
set_option maxRecDepth 20000 in
theorem g57_0_5 (C : pmC) {σ : pmS} {x1 : Int32} {x2 : Int32} {x3 : Int32} {l4 : Option pmV} {σ1 : pmS} {r1 : Int32} (h1 : C 87 [vR 9 0 0, vI x1, vI x2] σ = some (some (vI r1), σ1)) (h2 : ¬ r1 = 0) (h3 : vp_in x1 4) (h4 : x3 = (4 : Int32)) : pq_Rn C (57, 0, [some (vR 9 0 0), some (vI x1), some (vI x2), some (vI x3), l4], [], σ) = some (some (vI (σ1.1 2 (x1).toNatClampNeg 8 0)), σ1) := by
  refine (e_n 3 (fr' := (57, 3, [some (vR 9 0 0), some (vI x1), some (vI x2), some (vI x3), l4], [vI x2, vI x1, vR 9 0 0], σ)) rfl).trans ?_
  refine (e_ci (m := 57) (pc := 6) (ls := [some (vR 9 0 0), some (vI x1), some (vI x2), some (vI x3), l4]) (rest := []) rfl h1).trans ?_
  refine (e_f (B := (57, 11, [some (vR 9 0 0), some (vI x1), some (vI x2), some (vI x3), l4], [], σ1)) rfl h2).trans ?_
  refine (e_n 3 (fr' := (57, 16, [some (vR 9 0 0), some (vI x1), some (vI x2), some (vI x3), l4], [vI x1, vR 9 0 2], σ1)) rfl).trans ?_
  refine (e_a (A := (57, 17, [some (vR 9 0 0), some (vI x1), some (vI x2), some (vI x3), l4], [vR 2 (x1).toNatClampNeg 0], σ1)) rfl h3).trans ?_
  refine (e_n 2 (fr' := (57, 20, [some (vR 9 0 0), some (vI x1), some (vI x2), some (vI x3), some (vR 2 (x1).toNatClampNeg 0)], [vI x3], σ1)) rfl).trans ?_
  refine (e_g (A := (57, 88, [some (vR 9 0 0), some (vI x1), some (vI x2), some (vI x3), some (vR 2 (x1).toNatClampNeg 0)], [], σ1)) (off' := 68) rfl (by rw [h4]; decide) rfl).trans ?_
  refine (e_n 2 (fr' := (57, 93, [some (vR 9 0 0), some (vI x1), some (vI x2), some (vI x3), some (vR 2 (x1).toNatClampNeg 0)], [vI (σ1.1 2 (x1).toNatClampNeg 8 0)], σ1)) rfl).trans ?_
  exact e_r rfl
set_option maxRecDepth 20000 in
theorem g57_0_6 (C : pmC) {σ : pmS} {x1 : Int32} {x2 : Int32} {x3 : Int32} {l4 : Option pmV} {σ1 : pmS} {r1 : Int32} (h1 : C 87 [vR 9 0 0, vI x1, vI x2] σ = some (some (vI r1), σ1)) (h2 : ¬ r1 = 0) (h3 : vp_in x1 4) (h4 : ¬ x3 = (0 : Int32)) (h5 : ¬ x3 = (1 : Int32)) (h6 : ¬ x3 = (2 : Int32)) (h7 : ¬ x3 = (3 : Int32)) (h8 : ¬ x3 = (4 : Int32)) : pq_Rn C (57, 0, [some (vR 9 0 0), some (vI x1), some (vI x2), some (vI x3), l4], [], σ) = some (some (vI (-1 : Int32)), σ1) := by
  refine (e_n 3 (fr' := (57, 3, [some (vR 9 0 0), some (vI x1), some (vI x2), some (vI x3), l4], [vI x2, vI x1, vR 9 0 0], σ)) rfl).trans ?_
  refine (e_ci (m := 57) (pc := 6) (ls := [some (vR 9 0 0), some (vI x1), some (vI x2), some (vI x3), l4]) (rest := []) rfl h1).trans ?_
  refine (e_f (B := (57, 11, [some (vR 9 0 0), some (vI x1), some (vI x2), some (vI x3), l4], [], σ1)) rfl h2).trans ?_
  refine (e_n 3 (fr' := (57, 16, [some (vR 9 0 0), some (vI x1), some (vI x2), some (vI x3), l4], [vI x1, vR 9 0 2], σ1)) rfl).trans ?_
  refine (e_a (A := (57, 17, [some (vR 9 0 0), some (vI x1), some (vI x2), some (vI x3), l4], [vR 2 (x1).toNatClampNeg 0], σ1)) rfl h3).trans ?_
  refine (e_n 2 (fr' := (57, 20, [some (vR 9 0 0), some (vI x1), some (vI x2), some (vI x3), some (vR 2 (x1).toNatClampNeg 0)], [vI x3], σ1)) rfl).trans ?_
  refine (e_g (A := (57, 94, [some (vR 9 0 0), some (vI x1), some (vI x2), some (vI x3), some (vR 2 (x1).toNatClampNeg 0)], [], σ1)) (off' := 74) rfl ((pm_sw_ne h4).trans ((pm_sw_ne h5).trans ((pm_sw_ne h6).trans ((pm_sw_ne h7).trans ((pm_sw_ne h8).trans (rfl)))))) rfl).trans ?_
  refine (e_n 1 (fr' := (57, 95, [some (vR 9 0 0), some (vI x1), some (vI x2), some (vI x3), some (vR 2 (x1).toNatClampNeg 0)], [vI (-1 : Int32)], σ1)) rfl).trans ?_
  exact e_r rfl
set_option maxRecDepth 20000 in
theorem g58_0_0 (C : pmC) {σ : pmS} {x1 : Int32} {x2 : Int32} {x3 : Int32} {x4 : Int32} {σ1 : pmS} {r1 : Int32} (h1 : C 87 [vR 9 0 0, vI x1, vI x2] σ = some (some (vI r1), σ1)) (h2 : r1 = 0) : pq_Rn C (58, 0, [some (vR 9 0 0), some (vI x1), some (vI x2), some (vI x3), some (vI x4)], [], σ) = some (some (vI (-1 : Int32)), σ1) := by
  refine (e_n 3 (fr' := (58, 3, [some (vR 9 0 0), some (vI x1), some (vI x2), some (vI x3), some (vI x4)], [vI x2, vI x1, vR 9 0 0], σ)) rfl).trans ?_
  refine (e_ci (m := 58) (pc := 6) (ls := [some (vR 9 0 0), some (vI x1), some (vI x2), some (vI x3), some (vI x4)]) (rest := []) rfl h1).trans ?_
  refine (e_t (A := (58, 24, [some (vR 9 0 0), some (vI x1), some (vI x2), some (vI x3), some (vI x4)], [], σ1)) rfl h2).trans ?_
  refine (e_n 1 (fr' := (58, 25, [some (vR 9 0 0), some (vI x1), some (vI x2), some (vI x3), some (vI x4)], [vI (-1 : Int32)], σ1)) rfl).trans ?_
  exact e_r rfl
set_option maxRecDepth 20000 in
theorem g58_0_1 (C : pmC) {σ : pmS} {x1 : Int32} {x2 : Int32} {x3 : Int32} {x4 : Int32} {σ1 : pmS} {r1 : Int32} {σ2 : pmS} {r2 : Int32} (h1 : C 87 [vR 9 0 0, vI x1, vI x2] σ = some (some (vI r1), σ1)) (h2 : ¬ r1 = 0) (h3 : C 89 [vI x3] σ1 = some (some (vI r2), σ2)) (h4 : r2 = 0) : pq_Rn C (58, 0, [some (vR 9 0 0), some (vI x1), some (vI x2), some (vI x3), some (vI x4)], [], σ) = some (some (vI (-1 : Int32)), σ2) := by
  refine (e_n 3 (fr' := (58, 3, [some (vR 9 0 0), some (vI x1), some (vI x2), some (vI x3), some (vI x4)], [vI x2, vI x1, vR 9 0 0], σ)) rfl).trans ?_
  refine (e_ci (m := 58) (pc := 6) (ls := [some (vR 9 0 0), some (vI x1), some (vI x2), some (vI x3), some (vI x4)]) (rest := []) rfl h1).trans ?_
  refine (e_f (B := (58, 9, [some (vR 9 0 0), some (vI x1), some (vI x2), some (vI x3), some (vI x4)], [], σ1)) rfl h2).trans ?_
  refine (e_n 1 (fr' := (58, 10, [some (vR 9 0 0), some (vI x1), some (vI x2), some (vI x3), some (vI x4)], [vI x3], σ1)) rfl).trans ?_
  refine (e_ci (m := 58) (pc := 13) (ls := [some (vR 9 0 0), some (vI x1), some (vI x2), some (vI x3), some (vI x4)]) (rest := []) rfl h3).trans ?_
  refine (e_t (A := (58, 24, [some (vR 9 0 0), some (vI x1), some (vI x2), some (vI x3), some (vI x4)], [], σ2)) rfl h4).trans ?_
  refine (e_n 1 (fr' := (58, 25, [some (vR 9 0 0), some (vI x1), some (vI x2), some (vI x3), some (vI x4)], [vI (-1 : Int32)], σ2)) rfl).trans ?_
  exact e_r rfl
set_option maxRecDepth 20000 in
theorem g58_0_2 (C : pmC) {σ : pmS} {x1 : Int32} {x2 : Int32} {x3 : Int32} {x4 : Int32} {σ1 : pmS} {r1 : Int32} {σ2 : pmS} {r2 : Int32} {σ3 : pmS} {r3 : Int32} (h1 : C 87 [vR 9 0 0, vI x1, vI x2] σ = some (some (vI r1), σ1)) (h2 : ¬ r1 = 0) (h3 : C 89 [vI x3] σ1 = some (some (vI r2), σ2)) (h4 : ¬ r2 = 0) (h5 : C 91 [vI x4] σ2 = some (some (vI r3), σ3)) (h6 : r3 = 0) : pq_Rn C (58, 0, [some (vR 9 0 0), some (vI x1), some (vI x2), some (vI x3), some (vI x4)], [], σ) = some (some (vI (-1 : Int32)), σ3) := by
  refine (e_n 3 (fr' := (58, 3, [some (vR 9 0 0), some (vI x1), some (vI x2), some (vI x3), some (vI x4)], [vI x2, vI x1, vR 9 0 0], σ)) rfl).trans ?_
  refine (e_ci (m := 58) (pc := 6) (ls := [some (vR 9 0 0), some (vI x1), some (vI x2), some (vI x3), some (vI x4)]) (rest := []) rfl h1).trans ?_
  refine (e_f (B := (58, 9, [some (vR 9 0 0), some (vI x1), some (vI x2), some (vI x3), some (vI x4)], [], σ1)) rfl h2).trans ?_
  refine (e_n 1 (fr' := (58, 10, [some (vR 9 0 0), some (vI x1), some (vI x2), some (vI x3), some (vI x4)], [vI x3], σ1)) rfl).trans ?_
  refine (e_ci (m := 58) (pc := 13) (ls := [some (vR 9 0 0), some (vI x1), some (vI x2), some (vI x3), some (vI x4)]) (rest := []) rfl h3).trans ?_
  refine (e_f (B := (58, 16, [some (vR 9 0 0), some (vI x1), some (vI x2), some (vI x3), some (vI x4)], [], σ2)) rfl h4).trans ?_
  refine (e_n 1 (fr' := (58, 18, [some (vR 9 0 0), some (vI x1), some (vI x2), some (vI x3), some (vI x4)], [vI x4], σ2)) rfl).trans ?_
  refine (e_ci (m := 58) (pc := 21) (ls := [some (vR 9 0 0), some (vI x1), some (vI x2), some (vI x3), some (vI x4)]) (rest := []) rfl h5).trans ?_
  refine (e_t (A := (58, 24, [some (vR 9 0 0), some (vI x1), some (vI x2), some (vI x3), some (vI x4)], [], σ3)) rfl h6).trans ?_
  refine (e_n 1 (fr' := (58, 25, [some (vR 9 0 0), some (vI x1), some (vI x2), some (vI x3), some (vI x4)], [vI (-1 : Int32)], σ3)) rfl).trans ?_
  exact e_r rfl
set_option maxRecDepth 20000 in
theorem g58_0_3 (C : pmC) {σ : pmS} {x1 : Int32} {x2 : Int32} {x3 : Int32} {x4 : Int32} {σ1 : pmS} {r1 : Int32} {σ2 : pmS} {r2 : Int32} {σ3 : pmS} {r3 : Int32} {σ4 : pmS} {r4 : Int32} (h1 : C 87 [vR 9 0 0, vI x1, vI x2] σ = some (some (vI r1), σ1)) (h2 : ¬ r1 = 0) (h3 : C 89 [vI x3] σ1 = some (some (vI r2), σ2)) (h4 : ¬ r2 = 0) (h5 : C 91 [vI x4] σ2 = some (some (vI r3), σ3)) (h6 : ¬ r3 = 0) (h7 : vp_in x1 4) (h8 : C 12 [vR 2 (x1).toNatClampNeg 0, vI x2, vI x3, vI x4] σ3 = some (some (vI r4), σ4)) : pq_Rn C (58, 0, [some (vR 9 0 0), some (vI x1), some (vI x2), some (vI x3), some (vI x4)], [], σ) = some (some (vI (r4 >>> ((1 : Int32) &&& 31))), σ4) := by
  refine (e_n 3 (fr' := (58, 3, [some (vR 9 0 0), some (vI x1), some (vI x2), some (vI x3), some (vI x4)], [vI x2, vI x1, vR 9 0 0], σ)) rfl).trans ?_
  refine (e_ci (m := 58) (pc := 6) (ls := [some (vR 9 0 0), some (vI x1), some (vI x2), some (vI x3), some (vI x4)]) (rest := []) rfl h1).trans ?_
  refine (e_f (B := (58, 9, [some (vR 9 0 0), some (vI x1), some (vI x2), some (vI x3), some (vI x4)], [], σ1)) rfl h2).trans ?_
  refine (e_n 1 (fr' := (58, 10, [some (vR 9 0 0), some (vI x1), some (vI x2), some (vI x3), some (vI x4)], [vI x3], σ1)) rfl).trans ?_
  refine (e_ci (m := 58) (pc := 13) (ls := [some (vR 9 0 0), some (vI x1), some (vI x2), some (vI x3), some (vI x4)]) (rest := []) rfl h3).trans ?_
  refine (e_f (B := (58, 16, [some (vR 9 0 0), some (vI x1), some (vI x2), some (vI x3), some (vI x4)], [], σ2)) rfl h4).trans ?_
  refine (e_n 1 (fr' := (58, 18, [some (vR 9 0 0), some (vI x1), some (vI x2), some (vI x3), some (vI x4)], [vI x4], σ2)) rfl).trans ?_
  refine (e_ci (m := 58) (pc := 21) (ls := [some (vR 9 0 0), some (vI x1), some (vI x2), some (vI x3), some (vI x4)]) (rest := []) rfl h5).trans ?_
  refine (e_f (B := (58, 26, [some (vR 9 0 0), some (vI x1), some (vI x2), some (vI x3), some (vI x4)], [], σ3)) rfl h6).trans ?_
  refine (e_n 3 (fr' := (58, 31, [some (vR 9 0 0), some (vI x1), some (vI x2), some (vI x3), some (vI x4)], [vI x1, vR 9 0 2], σ3)) rfl).trans ?_
  refine (e_a (A := (58, 32, [some (vR 9 0 0), some (vI x1), some (vI x2), some (vI x3), some (vI x4)], [vR 2 (x1).toNatClampNeg 0], σ3)) rfl h7).trans ?_
  refine (e_n 3 (fr' := (58, 36, [some (vR 9 0 0), some (vI x1), some (vI x2), some (vI x3), some (vI x4)], [vI x4, vI x3, vI x2, vR 2 (x1).toNatClampNeg 0], σ3)) rfl).trans ?_
  refine (e_ci (m := 58) (pc := 39) (ls := [some (vR 9 0 0), some (vI x1), some (vI x2), some (vI x3), some (vI x4)]) (rest := []) rfl h8).trans ?_
  refine (e_n 2 (fr' := (58, 41, [some (vR 9 0 0), some (vI x1), some (vI x2), some (vI x3), some (vI x4)], [vI (r4 >>> ((1 : Int32) &&& 31))], σ4)) rfl).trans ?_
  exact e_r rfl
set_option maxRecDepth 20000 in
theorem g59_0_0 (C : pmC) {σ : pmS} {x1 : Int32} {x2 : Int32} {x3 : Int32} {x4 : Int32} {l5 : Option pmV} {l6 : Option pmV} {σ1 : pmS} {r1 : Int32} (h1 : C 86 [vR 9 0 0, vI x1] σ = some (some (vI r1), σ1)) (h2 : r1 = 0) : pq_Rn C (59, 0, [some (vR 9 0 0), some (vI x1), some (vI x2), some (vI x3), some (vI x4), l5, l6], [], σ) = some (some (vI (-1 : Int32)), σ1) := by
  refine (e_n 2 (fr' := (59, 2, [some (vR 9 0 0), some (vI x1), some (vI x2), some (vI x3), some (vI x4), l5, l6], [vI x1, vR 9 0 0], σ)) rfl).trans ?_
  refine (e_ci (m := 59) (pc := 5) (ls := [some (vR 9 0 0), some (vI x1), some (vI x2), some (vI x3), some (vI x4), l5, l6]) (rest := []) rfl h1).trans ?_
  refine (e_t (A := (59, 30, [some (vR 9 0 0), some (vI x1), some (vI x2), some (vI x3), some (vI x4), l5, l6], [], σ1)) rfl h2).trans ?_
  refine (e_n 1 (fr' := (59, 31, [some (vR 9 0 0), some (vI x1), some (vI x2), some (vI x3), some (vI x4), l5, l6], [vI (-1 : Int32)], σ1)) rfl).trans ?_
  exact e_r rfl
set_option maxRecDepth 20000 in
theorem g59_0_1 (C : pmC) {σ : pmS} {x1 : Int32} {x2 : Int32} {x3 : Int32} {x4 : Int32} {l5 : Option pmV} {l6 : Option pmV} {σ1 : pmS} {r1 : Int32} {σ2 : pmS} {r2 : Int32} (h1 : C 86 [vR 9 0 0, vI x1] σ = some (some (vI r1), σ1)) (h2 : ¬ r1 = 0) (h3 : C 89 [vI x2] σ1 = some (some (vI r2), σ2)) (h4 : r2 = 0) : pq_Rn C (59, 0, [some (vR 9 0 0), some (vI x1), some (vI x2), some (vI x3), some (vI x4), l5, l6], [], σ) = some (some (vI (-1 : Int32)), σ2) := by
  refine (e_n 2 (fr' := (59, 2, [some (vR 9 0 0), some (vI x1), some (vI x2), some (vI x3), some (vI x4), l5, l6], [vI x1, vR 9 0 0], σ)) rfl).trans ?_
  refine (e_ci (m := 59) (pc := 5) (ls := [some (vR 9 0 0), some (vI x1), some (vI x2), some (vI x3), some (vI x4), l5, l6]) (rest := []) rfl h1).trans ?_
  refine (e_f (B := (59, 8, [some (vR 9 0 0), some (vI x1), some (vI x2), some (vI x3), some (vI x4), l5, l6], [], σ1)) rfl h2).trans ?_
  refine (e_n 1 (fr' := (59, 9, [some (vR 9 0 0), some (vI x1), some (vI x2), some (vI x3), some (vI x4), l5, l6], [vI x2], σ1)) rfl).trans ?_
  refine (e_ci (m := 59) (pc := 12) (ls := [some (vR 9 0 0), some (vI x1), some (vI x2), some (vI x3), some (vI x4), l5, l6]) (rest := []) rfl h3).trans ?_
  refine (e_t (A := (59, 30, [some (vR 9 0 0), some (vI x1), some (vI x2), some (vI x3), some (vI x4), l5, l6], [], σ2)) rfl h4).trans ?_
  refine (e_n 1 (fr' := (59, 31, [some (vR 9 0 0), some (vI x1), some (vI x2), some (vI x3), some (vI x4), l5, l6], [vI (-1 : Int32)], σ2)) rfl).trans ?_
  exact e_r rfl
set_option maxRecDepth 20000 in
theorem g59_0_2 (C : pmC) {σ : pmS} {x1 : Int32} {x2 : Int32} {x3 : Int32} {x4 : Int32} {l5 : Option pmV} {l6 : Option pmV} {σ1 : pmS} {r1 : Int32} {σ2 : pmS} {r2 : Int32} {σ3 : pmS} {r3 : Int32} (h1 : C 86 [vR 9 0 0, vI x1] σ = some (some (vI r1), σ1)) (h2 : ¬ r1 = 0) (h3 : C 89 [vI x2] σ1 = some (some (vI r2), σ2)) (h4 : ¬ r2 = 0) (h5 : C 91 [vI x3] σ2 = some (some (vI r3), σ3)) (h6 : r3 = 0) : pq_Rn C (59, 0, [some (vR 9 0 0), some (vI x1), some (vI x2), some (vI x3), some (vI x4), l5, l6], [], σ) = some (some (vI (-1 : Int32)), σ3) := by
  refine (e_n 2 (fr' := (59, 2, [some (vR 9 0 0), some (vI x1), some (vI x2), some (vI x3), some (vI x4), l5, l6], [vI x1, vR 9 0 0], σ)) rfl).trans ?_
  refine (e_ci (m := 59) (pc := 5) (ls := [some (vR 9 0 0), some (vI x1), some (vI x2), some (vI x3), some (vI x4), l5, l6]) (rest := []) rfl h1).trans ?_
  refine (e_f (B := (59, 8, [some (vR 9 0 0), some (vI x1), some (vI x2), some (vI x3), some (vI x4), l5, l6], [], σ1)) rfl h2).trans ?_
  refine (e_n 1 (fr' := (59, 9, [some (vR 9 0 0), some (vI x1), some (vI x2), some (vI x3), some (vI x4), l5, l6], [vI x2], σ1)) rfl).trans ?_
  refine (e_ci (m := 59) (pc := 12) (ls := [some (vR 9 0 0), some (vI x1), some (vI x2), some (vI x3), some (vI x4), l5, l6]) (rest := []) rfl h3).trans ?_
  refine (e_f (B := (59, 15, [some (vR 9 0 0), some (vI x1), some (vI x2), some (vI x3), some (vI x4), l5, l6], [], σ2)) rfl h4).trans ?_
  refine (e_n 1 (fr' := (59, 16, [some (vR 9 0 0), some (vI x1), some (vI x2), some (vI x3), some (vI x4), l5, l6], [vI x3], σ2)) rfl).trans ?_
  refine (e_ci (m := 59) (pc := 19) (ls := [some (vR 9 0 0), some (vI x1), some (vI x2), some (vI x3), some (vI x4), l5, l6]) (rest := []) rfl h5).trans ?_
  refine (e_t (A := (59, 30, [some (vR 9 0 0), some (vI x1), some (vI x2), some (vI x3), some (vI x4), l5, l6], [], σ3)) rfl h6).trans ?_
  refine (e_n 1 (fr' := (59, 31, [some (vR 9 0 0), some (vI x1), some (vI x2), some (vI x3), some (vI x4), l5, l6], [vI (-1 : Int32)], σ3)) rfl).trans ?_
  exact e_r rfl
set_option maxRecDepth 20000 in
theorem g59_0_3 (C : pmC) {σ : pmS} {x1 : Int32} {x2 : Int32} {x3 : Int32} {x4 : Int32} {l5 : Option pmV} {l6 : Option pmV} {σ1 : pmS} {r1 : Int32} {σ2 : pmS} {r2 : Int32} {σ3 : pmS} {r3 : Int32} {σ4 : pmS} {r4 : Int32} (h1 : C 86 [vR 9 0 0, vI x1] σ = some (some (vI r1), σ1)) (h2 : ¬ r1 = 0) (h3 : C 89 [vI x2] σ1 = some (some (vI r2), σ2)) (h4 : ¬ r2 = 0) (h5 : C 91 [vI x3] σ2 = some (some (vI r3), σ3)) (h6 : ¬ r3 = 0) (h7 : C 91 [vI x4] σ3 = some (some (vI r4), σ4)) (h8 : r4 = 0) : pq_Rn C (59, 0, [some (vR 9 0 0), some (vI x1), some (vI x2), some (vI x3), some (vI x4), l5, l6], [], σ) = some (some (vI (-1 : Int32)), σ4) := by
  refine (e_n 2 (fr' := (59, 2, [some (vR 9 0 0), some (vI x1), some (vI x2), some (vI x3), some (vI x4), l5, l6], [vI x1, vR 9 0 0], σ)) rfl).trans ?_
  refine (e_ci (m := 59) (pc := 5) (ls := [some (vR 9 0 0), some (vI x1), some (vI x2), some (vI x3), some (vI x4), l5, l6]) (rest := []) rfl h1).trans ?_
  refine (e_f (B := (59, 8, [some (vR 9 0 0), some (vI x1), some (vI x2), some (vI x3), some (vI x4), l5, l6], [], σ1)) rfl h2).trans ?_
  refine (e_n 1 (fr' := (59, 9, [some (vR 9 0 0), some (vI x1), some (vI x2), some (vI x3), some (vI x4), l5, l6], [vI x2], σ1)) rfl).trans ?_
  refine (e_ci (m := 59) (pc := 12) (ls := [some (vR 9 0 0), some (vI x1), some (vI x2), some (vI x3), some (vI x4), l5, l6]) (rest := []) rfl h3).trans ?_
  refine (e_f (B := (59, 15, [some (vR 9 0 0), some (vI x1), some (vI x2), some (vI x3), some (vI x4), l5, l6], [], σ2)) rfl h4).trans ?_
  refine (e_n 1 (fr' := (59, 16, [some (vR 9 0 0), some (vI x1), some (vI x2), some (vI x3), some (vI x4), l5, l6], [vI x3], σ2)) rfl).trans ?_
  refine (e_ci (m := 59) (pc := 19) (ls := [some (vR 9 0 0), some (vI x1), some (vI x2), some (vI x3), some (vI x4), l5, l6]) (rest := []) rfl h5).trans ?_
  refine (e_f (B := (59, 22, [some (vR 9 0 0), some (vI x1), some (vI x2), some (vI x3), some (vI x4), l5, l6], [], σ3)) rfl h6).trans ?_
  refine (e_n 1 (fr' := (59, 24, [some (vR 9 0 0), some (vI x1), some (vI x2), some (vI x3), some (vI x4), l5, l6], [vI x4], σ3)) rfl).trans ?_
  refine (e_ci (m := 59) (pc := 27) (ls := [some (vR 9 0 0), some (vI x1), some (vI x2), some (vI x3), some (vI x4), l5, l6]) (rest := []) rfl h7).trans ?_
  refine (e_t (A := (59, 30, [some (vR 9 0 0), some (vI x1), some (vI x2), some (vI x3), some (vI x4), l5, l6], [], σ4)) rfl h8).trans ?_
  refine (e_n 1 (fr' := (59, 31, [some (vR 9 0 0), some (vI x1), some (vI x2), some (vI x3), some (vI x4), l5, l6], [vI (-1 : Int32)], σ4)) rfl).trans ?_
  exact e_r rfl
set_option maxRecDepth 20000 in
theorem g59_0_4 (C : pmC) {σ : pmS} {x1 : Int32} {x2 : Int32} {x3 : Int32} {x4 : Int32} {l5 : Option pmV} {l6 : Option pmV} {σ1 : pmS} {r1 : Int32} {σ2 : pmS} {r2 : Int32} {σ3 : pmS} {r3 : Int32} {σ4 : pmS} {r4 : Int32} (h1 : C 86 [vR 9 0 0, vI x1] σ = some (some (vI r1), σ1)) (h2 : ¬ r1 = 0) (h3 : C 89 [vI x2] σ1 = some (some (vI r2), σ2)) (h4 : ¬ r2 = 0) (h5 : C 91 [vI x3] σ2 = some (some (vI r3), σ3)) (h6 : ¬ r3 = 0) (h7 : C 91 [vI x4] σ3 = some (some (vI r4), σ4)) (h8 : ¬ r4 = 0) (h9 : vp_in x1 4) : pq_Rn C (59, 0, [some (vR 9 0 0), some (vI x1), some (vI x2), some (vI x3), some (vI x4), l5, l6], [], σ) = pq_Rn C (59, 43, [some (vR 9 0 0), some (vI x1), some (vI x2), some (vI x3), some (vI x4), some (vR 2 (x1).toNatClampNeg 0), some (vI (0 : Int32))], [], σ4) := by
  refine (e_n 2 (fr' := (59, 2, [some (vR 9 0 0), some (vI x1), some (vI x2), some (vI x3), some (vI x4), l5, l6], [vI x1, vR 9 0 0], σ)) rfl).trans ?_
  refine (e_ci (m := 59) (pc := 5) (ls := [some (vR 9 0 0), some (vI x1), some (vI x2), some (vI x3), some (vI x4), l5, l6]) (rest := []) rfl h1).trans ?_
  refine (e_f (B := (59, 8, [some (vR 9 0 0), some (vI x1), some (vI x2), some (vI x3), some (vI x4), l5, l6], [], σ1)) rfl h2).trans ?_
  refine (e_n 1 (fr' := (59, 9, [some (vR 9 0 0), some (vI x1), some (vI x2), some (vI x3), some (vI x4), l5, l6], [vI x2], σ1)) rfl).trans ?_
  refine (e_ci (m := 59) (pc := 12) (ls := [some (vR 9 0 0), some (vI x1), some (vI x2), some (vI x3), some (vI x4), l5, l6]) (rest := []) rfl h3).trans ?_
  refine (e_f (B := (59, 15, [some (vR 9 0 0), some (vI x1), some (vI x2), some (vI x3), some (vI x4), l5, l6], [], σ2)) rfl h4).trans ?_
  refine (e_n 1 (fr' := (59, 16, [some (vR 9 0 0), some (vI x1), some (vI x2), some (vI x3), some (vI x4), l5, l6], [vI x3], σ2)) rfl).trans ?_
  refine (e_ci (m := 59) (pc := 19) (ls := [some (vR 9 0 0), some (vI x1), some (vI x2), some (vI x3), some (vI x4), l5, l6]) (rest := []) rfl h5).trans ?_
  refine (e_f (B := (59, 22, [some (vR 9 0 0), some (vI x1), some (vI x2), some (vI x3), some (vI x4), l5, l6], [], σ3)) rfl h6).trans ?_
  refine (e_n 1 (fr' := (59, 24, [some (vR 9 0 0), some (vI x1), some (vI x2), some (vI x3), some (vI x4), l5, l6], [vI x4], σ3)) rfl).trans ?_
  refine (e_ci (m := 59) (pc := 27) (ls := [some (vR 9 0 0), some (vI x1), some (vI x2), some (vI x3), some (vI x4), l5, l6]) (rest := []) rfl h7).trans ?_
  refine (e_f (B := (59, 32, [some (vR 9 0 0), some (vI x1), some (vI x2), some (vI x3), some (vI x4), l5, l6], [], σ4)) rfl h8).trans ?_
  refine (e_n 3 (fr' := (59, 37, [some (vR 9 0 0), some (vI x1), some (vI x2), some (vI x3), some (vI x4), l5, l6], [vI x1, vR 9 0 2], σ4)) rfl).trans ?_
  refine (e_a (A := (59, 38, [some (vR 9 0 0), some (vI x1), some (vI x2), some (vI x3), some (vI x4), l5, l6], [vR 2 (x1).toNatClampNeg 0], σ4)) rfl h9).trans ?_
  exact e_n 3 rfl
set_option maxRecDepth 20000 in
theorem g59_43_0 (C : pmC) {σ : pmS} {l0 : Option pmV} {l1 : Option pmV} {x2 : Int32} {x3 : Int32} {x4 : Int32} {o5 : Nat} {x6 : Int32} (h1 : (σ.1 2 o5 8 0) ≤ x6) : pq_Rn C (59, 43, [l0, l1, some (vI x2), some (vI x3), some (vI x4), some (vR 2 o5 0), some (vI x6)], [], σ) = some (some (vI (1 : Int32)), σ) := by
  refine (e_n 3 (fr' := (59, 50, [l0, l1, some (vI x2), some (vI x3), some (vI x4), some (vR 2 o5 0), some (vI x6)], [vI (σ.1 2 o5 8 0), vI x6], σ)) rfl).trans ?_
  refine (e_t (A := (59, 87, [l0, l1, some (vI x2), some (vI x3), some (vI x4), some (vR 2 o5 0), some (vI x6)], [], σ)) rfl h1).trans ?_
  refine (e_n 1 (fr' := (59, 88, [l0, l1, some (vI x2), some (vI x3), some (vI x4), some (vR 2 o5 0), some (vI x6)], [vI (1 : Int32)], σ)) rfl).trans ?_
  exact e_r rfl
set_option maxRecDepth 20000 in
theorem g59_43_1 (C : pmC) {σ : pmS} {l0 : Option pmV} {l1 : Option pmV} {x2 : Int32} {x3 : Int32} {x4 : Int32} {o5 : Nat} {x6 : Int32} {σ1 : pmS} {r1 : Int32} {σ2 : pmS} {r2 : Int32} (h1 : ¬ (σ.1 2 o5 8 0) ≤ x6) (h2 : C 12 [vR 2 o5 0, vI x6, vI x2, vI x3] σ = some (some (vI r1), σ1)) (h3 : C 12 [vR 2 o5 0, vI x6, vI x2, vI x4] σ1 = some (some (vI r2), σ2)) (h4 : (r1 >>> ((1 : Int32) &&& 31)) = (r2 >>> ((1 : Int32) &&& 31))) : pq_Rn C (59, 43, [l0, l1, some (vI x2), some (vI x3), some (vI x4), some (vR 2 o5 0), some (vI x6)], [], σ) = pq_Rn C (59, 43, [l0, l1, some (vI x2), some (vI x3), some (vI x4), some (vR 2 o5 0), some (vI (x6 + (1 : Int32)))], [], σ2) := by
  refine (e_n 3 (fr' := (59, 50, [l0, l1, some (vI x2), some (vI x3), some (vI x4), some (vR 2 o5 0), some (vI x6)], [vI (σ.1 2 o5 8 0), vI x6], σ)) rfl).trans ?_
  refine (e_f (B := (59, 53, [l0, l1, some (vI x2), some (vI x3), some (vI x4), some (vR 2 o5 0), some (vI x6)], [], σ)) rfl h1).trans ?_
  refine (e_n 4 (fr' := (59, 59, [l0, l1, some (vI x2), some (vI x3), some (vI x4), some (vR 2 o5 0), some (vI x6)], [vI x3, vI x2, vI x6, vR 2 o5 0], σ)) rfl).trans ?_
  refine (e_ci (m := 59) (pc := 62) (ls := [l0, l1, some (vI x2), some (vI x3), some (vI x4), some (vR 2 o5 0), some (vI x6)]) (rest := []) rfl h2).trans ?_
  refine (e_n 6 (fr' := (59, 71, [l0, l1, some (vI x2), some (vI x3), some (vI x4), some (vR 2 o5 0), some (vI x6)], [vI x4, vI x2, vI x6, vR 2 o5 0, vI (r1 >>> ((1 : Int32) &&& 31))], σ1)) rfl).trans ?_
  refine (e_ci (m := 59) (pc := 74) (ls := [l0, l1, some (vI x2), some (vI x3), some (vI x4), some (vR 2 o5 0), some (vI x6)]) (rest := [vI (r1 >>> ((1 : Int32) &&& 31))]) rfl h3).trans ?_
  refine (e_n 2 (fr' := (59, 76, [l0, l1, some (vI x2), some (vI x3), some (vI x4), some (vR 2 o5 0), some (vI x6)], [vI (r2 >>> ((1 : Int32) &&& 31)), vI (r1 >>> ((1 : Int32) &&& 31))], σ2)) rfl).trans ?_
  refine (e_t (A := (59, 81, [l0, l1, some (vI x2), some (vI x3), some (vI x4), some (vR 2 o5 0), some (vI x6)], [], σ2)) rfl h4).trans ?_
  exact e_n 2 rfl
set_option maxRecDepth 20000 in
theorem g59_43_2 (C : pmC) {σ : pmS} {l0 : Option pmV} {l1 : Option pmV} {x2 : Int32} {x3 : Int32} {x4 : Int32} {o5 : Nat} {x6 : Int32} {σ1 : pmS} {r1 : Int32} {σ2 : pmS} {r2 : Int32} (h1 : ¬ (σ.1 2 o5 8 0) ≤ x6) (h2 : C 12 [vR 2 o5 0, vI x6, vI x2, vI x3] σ = some (some (vI r1), σ1)) (h3 : C 12 [vR 2 o5 0, vI x6, vI x2, vI x4] σ1 = some (some (vI r2), σ2)) (h4 : ¬ (r1 >>> ((1 : Int32) &&& 31)) = (r2 >>> ((1 : Int32) &&& 31))) : pq_Rn C (59, 43, [l0, l1, some (vI x2), some (vI x3), some (vI x4), some (vR 2 o5 0), some (vI x6)], [], σ) = some (some (vI (0 : Int32)), σ2) := by
  refine (e_n 3 (fr' := (59, 50, [l0, l1, some (vI x2), some (vI x3), some (vI x4), some (vR 2 o5 0), some (vI x6)], [vI (σ.1 2 o5 8 0), vI x6], σ)) rfl).trans ?_
  refine (e_f (B := (59, 53, [l0, l1, some (vI x2), some (vI x3), some (vI x4), some (vR 2 o5 0), some (vI x6)], [], σ)) rfl h1).trans ?_
  refine (e_n 4 (fr' := (59, 59, [l0, l1, some (vI x2), some (vI x3), some (vI x4), some (vR 2 o5 0), some (vI x6)], [vI x3, vI x2, vI x6, vR 2 o5 0], σ)) rfl).trans ?_
  refine (e_ci (m := 59) (pc := 62) (ls := [l0, l1, some (vI x2), some (vI x3), some (vI x4), some (vR 2 o5 0), some (vI x6)]) (rest := []) rfl h2).trans ?_
  refine (e_n 6 (fr' := (59, 71, [l0, l1, some (vI x2), some (vI x3), some (vI x4), some (vR 2 o5 0), some (vI x6)], [vI x4, vI x2, vI x6, vR 2 o5 0, vI (r1 >>> ((1 : Int32) &&& 31))], σ1)) rfl).trans ?_
  refine (e_ci (m := 59) (pc := 74) (ls := [l0, l1, some (vI x2), some (vI x3), some (vI x4), some (vR 2 o5 0), some (vI x6)]) (rest := [vI (r1 >>> ((1 : Int32) &&& 31))]) rfl h3).trans ?_
  refine (e_n 2 (fr' := (59, 76, [l0, l1, some (vI x2), some (vI x3), some (vI x4), some (vR 2 o5 0), some (vI x6)], [vI (r2 >>> ((1 : Int32) &&& 31)), vI (r1 >>> ((1 : Int32) &&& 31))], σ2)) rfl).trans ?_
  refine (e_f (B := (59, 79, [l0, l1, some (vI x2), some (vI x3), some (vI x4), some (vR 2 o5 0), some (vI x6)], [], σ2)) rfl h4).trans ?_
  refine (e_n 1 (fr' := (59, 80, [l0, l1, some (vI x2), some (vI x3), some (vI x4), some (vR 2 o5 0), some (vI x6)], [vI (0 : Int32)], σ2)) rfl).trans ?_
  exact e_r rfl
set_option maxRecDepth 20000 in
theorem g60_0_0 (C : pmC) {σ : pmS} {x1 : Int32} {x2 : Int32} {x3 : Int32} {l4 : Option pmV} {σ1 : pmS} {r1 : Int32} (h1 : C 86 [vR 9 0 0, vI x1] σ = some (some (vI r1), σ1)) (h2 : r1 = 0) : pq_Rn C (60, 0, [some (vR 9 0 0), some (vI x1), some (vI x2), some (vI x3), l4], [], σ) = some (some (vI (-1 : Int32)), σ1) := by
  refine (e_n 2 (fr' := (60, 2, [some (vR 9 0 0), some (vI x1), some (vI x2), some (vI x3), l4], [vI x1, vR 9 0 0], σ)) rfl).trans ?_
  refine (e_ci (m := 60) (pc := 5) (ls := [some (vR 9 0 0), some (vI x1), some (vI x2), some (vI x3), l4]) (rest := []) rfl h1).trans ?_
  refine (e_t (A := (60, 22, [some (vR 9 0 0), some (vI x1), some (vI x2), some (vI x3), l4], [], σ1)) rfl h2).trans ?_
  refine (e_n 1 (fr' := (60, 23, [some (vR 9 0 0), some (vI x1), some (vI x2), some (vI x3), l4], [vI (-1 : Int32)], σ1)) rfl).trans ?_
  exact e_r rfl
set_option maxRecDepth 20000 in
theorem g60_0_1 (C : pmC) {σ : pmS} {x1 : Int32} {x2 : Int32} {x3 : Int32} {l4 : Option pmV} {σ1 : pmS} {r1 : Int32} {σ2 : pmS} {r2 : Int32} (h1 : C 86 [vR 9 0 0, vI x1] σ = some (some (vI r1), σ1)) (h2 : ¬ r1 = 0) (h3 : C 89 [vI x2] σ1 = some (some (vI r2), σ2)) (h4 : r2 = 0) : pq_Rn C (60, 0, [some (vR 9 0 0), some (vI x1), some (vI x2), some (vI x3), l4], [], σ) = some (some (vI (-1 : Int32)), σ2) := by
  refine (e_n 2 (fr' := (60, 2, [some (vR 9 0 0), some (vI x1), some (vI x2), some (vI x3), l4], [vI x1, vR 9 0 0], σ)) rfl).trans ?_
  refine (e_ci (m := 60) (pc := 5) (ls := [some (vR 9 0 0), some (vI x1), some (vI x2), some (vI x3), l4]) (rest := []) rfl h1).trans ?_
  refine (e_f (B := (60, 8, [some (vR 9 0 0), some (vI x1), some (vI x2), some (vI x3), l4], [], σ1)) rfl h2).trans ?_
  refine (e_n 1 (fr' := (60, 9, [some (vR 9 0 0), some (vI x1), some (vI x2), some (vI x3), l4], [vI x2], σ1)) rfl).trans ?_
  refine (e_ci (m := 60) (pc := 12) (ls := [some (vR 9 0 0), some (vI x1), some (vI x2), some (vI x3), l4]) (rest := []) rfl h3).trans ?_
  refine (e_t (A := (60, 22, [some (vR 9 0 0), some (vI x1), some (vI x2), some (vI x3), l4], [], σ2)) rfl h4).trans ?_
  refine (e_n 1 (fr' := (60, 23, [some (vR 9 0 0), some (vI x1), some (vI x2), some (vI x3), l4], [vI (-1 : Int32)], σ2)) rfl).trans ?_
  exact e_r rfl
set_option maxRecDepth 20000 in
theorem g60_0_2 (C : pmC) {σ : pmS} {x1 : Int32} {x2 : Int32} {x3 : Int32} {l4 : Option pmV} {σ1 : pmS} {r1 : Int32} {σ2 : pmS} {r2 : Int32} {σ3 : pmS} {r3 : Int32} (h1 : C 86 [vR 9 0 0, vI x1] σ = some (some (vI r1), σ1)) (h2 : ¬ r1 = 0) (h3 : C 89 [vI x2] σ1 = some (some (vI r2), σ2)) (h4 : ¬ r2 = 0) (h5 : C 91 [vI x3] σ2 = some (some (vI r3), σ3)) (h6 : r3 = 0) : pq_Rn C (60, 0, [some (vR 9 0 0), some (vI x1), some (vI x2), some (vI x3), l4], [], σ) = some (some (vI (-1 : Int32)), σ3) := by
  refine (e_n 2 (fr' := (60, 2, [some (vR 9 0 0), some (vI x1), some (vI x2), some (vI x3), l4], [vI x1, vR 9 0 0], σ)) rfl).trans ?_
  refine (e_ci (m := 60) (pc := 5) (ls := [some (vR 9 0 0), some (vI x1), some (vI x2), some (vI x3), l4]) (rest := []) rfl h1).trans ?_
  refine (e_f (B := (60, 8, [some (vR 9 0 0), some (vI x1), some (vI x2), some (vI x3), l4], [], σ1)) rfl h2).trans ?_
  refine (e_n 1 (fr' := (60, 9, [some (vR 9 0 0), some (vI x1), some (vI x2), some (vI x3), l4], [vI x2], σ1)) rfl).trans ?_
  refine (e_ci (m := 60) (pc := 12) (ls := [some (vR 9 0 0), some (vI x1), some (vI x2), some (vI x3), l4]) (rest := []) rfl h3).trans ?_
  refine (e_f (B := (60, 15, [some (vR 9 0 0), some (vI x1), some (vI x2), some (vI x3), l4], [], σ2)) rfl h4).trans ?_
  refine (e_n 1 (fr' := (60, 16, [some (vR 9 0 0), some (vI x1), some (vI x2), some (vI x3), l4], [vI x3], σ2)) rfl).trans ?_
  refine (e_ci (m := 60) (pc := 19) (ls := [some (vR 9 0 0), some (vI x1), some (vI x2), some (vI x3), l4]) (rest := []) rfl h5).trans ?_
  refine (e_t (A := (60, 22, [some (vR 9 0 0), some (vI x1), some (vI x2), some (vI x3), l4], [], σ3)) rfl h6).trans ?_
  refine (e_n 1 (fr' := (60, 23, [some (vR 9 0 0), some (vI x1), some (vI x2), some (vI x3), l4], [vI (-1 : Int32)], σ3)) rfl).trans ?_
  exact e_r rfl
set_option maxRecDepth 20000 in
theorem g60_0_3 (C : pmC) {σ : pmS} {x1 : Int32} {x2 : Int32} {x3 : Int32} {l4 : Option pmV} {σ1 : pmS} {r1 : Int32} {σ2 : pmS} {r2 : Int32} {σ3 : pmS} {r3 : Int32} {σ4 : pmS} {r4 : Int32} {σ5 : pmS} {r5 : Int32} (h1 : C 86 [vR 9 0 0, vI x1] σ = some (some (vI r1), σ1)) (h2 : ¬ r1 = 0) (h3 : C 89 [vI x2] σ1 = some (some (vI r2), σ2)) (h4 : ¬ r2 = 0) (h5 : C 91 [vI x3] σ2 = some (some (vI r3), σ3)) (h6 : ¬ r3 = 0) (h7 : vp_in x1 4) (h8 : C 12 [vR 2 (x1).toNatClampNeg 0, vI (0 : Int32), vI x2, vI x3] σ3 = some (some (vI r4), σ4)) (h9 : (r4 &&& (1 : Int32)) = x2) (h10 : C 13 [vR 2 (x1).toNatClampNeg 0, vI x2, vI x3] σ4 = some (some (vI r5), σ5)) : pq_Rn C (60, 0, [some (vR 9 0 0), some (vI x1), some (vI x2), some (vI x3), l4], [], σ) = some (some (vI r5), σ5) := by
  refine (e_n 2 (fr' := (60, 2, [some (vR 9 0 0), some (vI x1), some (vI x2), some (vI x3), l4], [vI x1, vR 9 0 0], σ)) rfl).trans ?_
  refine (e_ci (m := 60) (pc := 5) (ls := [some (vR 9 0 0), some (vI x1), some (vI x2), some (vI x3), l4]) (rest := []) rfl h1).trans ?_
  refine (e_f (B := (60, 8, [some (vR 9 0 0), some (vI x1), some (vI x2), some (vI x3), l4], [], σ1)) rfl h2).trans ?_
  refine (e_n 1 (fr' := (60, 9, [some (vR 9 0 0), some (vI x1), some (vI x2), some (vI x3), l4], [vI x2], σ1)) rfl).trans ?_
  refine (e_ci (m := 60) (pc := 12) (ls := [some (vR 9 0 0), some (vI x1), some (vI x2), some (vI x3), l4]) (rest := []) rfl h3).trans ?_
  refine (e_f (B := (60, 15, [some (vR 9 0 0), some (vI x1), some (vI x2), some (vI x3), l4], [], σ2)) rfl h4).trans ?_
  refine (e_n 1 (fr' := (60, 16, [some (vR 9 0 0), some (vI x1), some (vI x2), some (vI x3), l4], [vI x3], σ2)) rfl).trans ?_
  refine (e_ci (m := 60) (pc := 19) (ls := [some (vR 9 0 0), some (vI x1), some (vI x2), some (vI x3), l4]) (rest := []) rfl h5).trans ?_
  refine (e_f (B := (60, 24, [some (vR 9 0 0), some (vI x1), some (vI x2), some (vI x3), l4], [], σ3)) rfl h6).trans ?_
  refine (e_n 3 (fr' := (60, 29, [some (vR 9 0 0), some (vI x1), some (vI x2), some (vI x3), l4], [vI x1, vR 9 0 2], σ3)) rfl).trans ?_
  refine (e_a (A := (60, 30, [some (vR 9 0 0), some (vI x1), some (vI x2), some (vI x3), l4], [vR 2 (x1).toNatClampNeg 0], σ3)) rfl h7).trans ?_
  refine (e_n 5 (fr' := (60, 37, [some (vR 9 0 0), some (vI x1), some (vI x2), some (vI x3), some (vR 2 (x1).toNatClampNeg 0)], [vI x3, vI x2, vI (0 : Int32), vR 2 (x1).toNatClampNeg 0], σ3)) rfl).trans ?_
  refine (e_ci (m := 60) (pc := 40) (ls := [some (vR 9 0 0), some (vI x1), some (vI x2), some (vI x3), some (vR 2 (x1).toNatClampNeg 0)]) (rest := []) rfl h8).trans ?_
  refine (e_n 3 (fr' := (60, 43, [some (vR 9 0 0), some (vI x1), some (vI x2), some (vI x3), some (vR 2 (x1).toNatClampNeg 0)], [vI x2, vI (r4 &&& (1 : Int32))], σ4)) rfl).trans ?_
  refine (e_t (A := (60, 49, [some (vR 9 0 0), some (vI x1), some (vI x2), some (vI x3), some (vR 2 (x1).toNatClampNeg 0)], [], σ4)) rfl h9).trans ?_
  refine (e_n 3 (fr' := (60, 53, [some (vR 9 0 0), some (vI x1), some (vI x2), some (vI x3), some (vR 2 (x1).toNatClampNeg 0)], [vI x3, vI x2, vR 2 (x1).toNatClampNeg 0], σ4)) rfl).trans ?_
  refine (e_ci (m := 60) (pc := 56) (ls := [some (vR 9 0 0), some (vI x1), some (vI x2), some (vI x3), some (vR 2 (x1).toNatClampNeg 0)]) (rest := []) rfl h10).trans ?_
  exact e_r rfl
set_option maxRecDepth 20000 in
theorem g60_0_4 (C : pmC) {σ : pmS} {x1 : Int32} {x2 : Int32} {x3 : Int32} {l4 : Option pmV} {σ1 : pmS} {r1 : Int32} {σ2 : pmS} {r2 : Int32} {σ3 : pmS} {r3 : Int32} {σ4 : pmS} {r4 : Int32} (h1 : C 86 [vR 9 0 0, vI x1] σ = some (some (vI r1), σ1)) (h2 : ¬ r1 = 0) (h3 : C 89 [vI x2] σ1 = some (some (vI r2), σ2)) (h4 : ¬ r2 = 0) (h5 : C 91 [vI x3] σ2 = some (some (vI r3), σ3)) (h6 : ¬ r3 = 0) (h7 : vp_in x1 4) (h8 : C 12 [vR 2 (x1).toNatClampNeg 0, vI (0 : Int32), vI x2, vI x3] σ3 = some (some (vI r4), σ4)) (h9 : ¬ (r4 &&& (1 : Int32)) = x2) : pq_Rn C (60, 0, [some (vR 9 0 0), some (vI x1), some (vI x2), some (vI x3), l4], [], σ) = some (some (vI (-3 : Int32)), σ4) := by
  refine (e_n 2 (fr' := (60, 2, [some (vR 9 0 0), some (vI x1), some (vI x2), some (vI x3), l4], [vI x1, vR 9 0 0], σ)) rfl).trans ?_
  refine (e_ci (m := 60) (pc := 5) (ls := [some (vR 9 0 0), some (vI x1), some (vI x2), some (vI x3), l4]) (rest := []) rfl h1).trans ?_
  refine (e_f (B := (60, 8, [some (vR 9 0 0), some (vI x1), some (vI x2), some (vI x3), l4], [], σ1)) rfl h2).trans ?_
  refine (e_n 1 (fr' := (60, 9, [some (vR 9 0 0), some (vI x1), some (vI x2), some (vI x3), l4], [vI x2], σ1)) rfl).trans ?_
  refine (e_ci (m := 60) (pc := 12) (ls := [some (vR 9 0 0), some (vI x1), some (vI x2), some (vI x3), l4]) (rest := []) rfl h3).trans ?_
  refine (e_f (B := (60, 15, [some (vR 9 0 0), some (vI x1), some (vI x2), some (vI x3), l4], [], σ2)) rfl h4).trans ?_
  refine (e_n 1 (fr' := (60, 16, [some (vR 9 0 0), some (vI x1), some (vI x2), some (vI x3), l4], [vI x3], σ2)) rfl).trans ?_
  refine (e_ci (m := 60) (pc := 19) (ls := [some (vR 9 0 0), some (vI x1), some (vI x2), some (vI x3), l4]) (rest := []) rfl h5).trans ?_
  refine (e_f (B := (60, 24, [some (vR 9 0 0), some (vI x1), some (vI x2), some (vI x3), l4], [], σ3)) rfl h6).trans ?_
  refine (e_n 3 (fr' := (60, 29, [some (vR 9 0 0), some (vI x1), some (vI x2), some (vI x3), l4], [vI x1, vR 9 0 2], σ3)) rfl).trans ?_
  refine (e_a (A := (60, 30, [some (vR 9 0 0), some (vI x1), some (vI x2), some (vI x3), l4], [vR 2 (x1).toNatClampNeg 0], σ3)) rfl h7).trans ?_
  refine (e_n 5 (fr' := (60, 37, [some (vR 9 0 0), some (vI x1), some (vI x2), some (vI x3), some (vR 2 (x1).toNatClampNeg 0)], [vI x3, vI x2, vI (0 : Int32), vR 2 (x1).toNatClampNeg 0], σ3)) rfl).trans ?_
  refine (e_ci (m := 60) (pc := 40) (ls := [some (vR 9 0 0), some (vI x1), some (vI x2), some (vI x3), some (vR 2 (x1).toNatClampNeg 0)]) (rest := []) rfl h8).trans ?_
  refine (e_n 3 (fr' := (60, 43, [some (vR 9 0 0), some (vI x1), some (vI x2), some (vI x3), some (vR 2 (x1).toNatClampNeg 0)], [vI x2, vI (r4 &&& (1 : Int32))], σ4)) rfl).trans ?_
  refine (e_f (B := (60, 46, [some (vR 9 0 0), some (vI x1), some (vI x2), some (vI x3), some (vR 2 (x1).toNatClampNeg 0)], [], σ4)) rfl h9).trans ?_
  refine (e_n 1 (fr' := (60, 48, [some (vR 9 0 0), some (vI x1), some (vI x2), some (vI x3), some (vR 2 (x1).toNatClampNeg 0)], [vI (-3 : Int32)], σ4)) rfl).trans ?_
  exact e_r rfl
set_option maxRecDepth 20000 in
theorem g61_0_0 (C : pmC) {σ : pmS} {x1 : Int32} {x2 : Int32} {x3 : Int32} {σ1 : pmS} {r1 : Int32} (h1 : C 87 [vR 9 0 0, vI x1, vI x2] σ = some (some (vI r1), σ1)) (h2 : r1 = 0) : pq_Rn C (61, 0, [some (vR 9 0 0), some (vI x1), some (vI x2), some (vI x3)], [], σ) = some (some (vI (-1 : Int32)), σ1) := by
  refine (e_n 3 (fr' := (61, 3, [some (vR 9 0 0), some (vI x1), some (vI x2), some (vI x3)], [vI x2, vI x1, vR 9 0 0], σ)) rfl).trans ?_
  refine (e_ci (m := 61) (pc := 6) (ls := [some (vR 9 0 0), some (vI x1), some (vI x2), some (vI x3)]) (rest := []) rfl h1).trans ?_
  refine (e_t (A := (61, 9, [some (vR 9 0 0), some (vI x1), some (vI x2), some (vI x3)], [], σ1)) rfl h2).trans ?_
  refine (e_n 1 (fr' := (61, 10, [some (vR 9 0 0), some (vI x1), some (vI x2), some (vI x3)], [vI (-1 : Int32)], σ1)) rfl).trans ?_
  exact e_r rfl
set_option maxRecDepth 20000 in
theorem g61_0_1 (C : pmC) {σ : pmS} {x1 : Int32} {x2 : Int32} {x3 : Int32} {σ1 : pmS} {r1 : Int32} (h1 : C 87 [vR 9 0 0, vI x1, vI x2] σ = some (some (vI r1), σ1)) (h2 : ¬ r1 = 0) (h3 : x3 < (1 : Int32)) : pq_Rn C (61, 0, [some (vR 9 0 0), some (vI x1), some (vI x2), some (vI x3)], [], σ) = some (some (vI (-2 : Int32)), σ1) := by
  refine (e_n 3 (fr' := (61, 3, [some (vR 9 0 0), some (vI x1), some (vI x2), some (vI x3)], [vI x2, vI x1, vR 9 0 0], σ)) rfl).trans ?_
  refine (e_ci (m := 61) (pc := 6) (ls := [some (vR 9 0 0), some (vI x1), some (vI x2), some (vI x3)]) (rest := []) rfl h1).trans ?_
  refine (e_f (B := (61, 11, [some (vR 9 0 0), some (vI x1), some (vI x2), some (vI x3)], [], σ1)) rfl h2).trans ?_
  refine (e_n 2 (fr' := (61, 13, [some (vR 9 0 0), some (vI x1), some (vI x2), some (vI x3)], [vI (1 : Int32), vI x3], σ1)) rfl).trans ?_
  refine (e_t (A := (61, 21, [some (vR 9 0 0), some (vI x1), some (vI x2), some (vI x3)], [], σ1)) rfl h3).trans ?_
  refine (e_n 1 (fr' := (61, 23, [some (vR 9 0 0), some (vI x1), some (vI x2), some (vI x3)], [vI (-2 : Int32)], σ1)) rfl).trans ?_
  exact e_r rfl
set_option maxRecDepth 20000 in
theorem g61_0_2 (C : pmC) {σ : pmS} {x1 : Int32} {x2 : Int32} {x3 : Int32} {σ1 : pmS} {r1 : Int32} {σ2 : pmS} {r2 : Int32} (h1 : C 87 [vR 9 0 0, vI x1, vI x2] σ = some (some (vI r1), σ1)) (h2 : ¬ r1 = 0) (h3 : ¬ x3 < (1 : Int32)) (h4 : x3 ≤ (4 : Int32)) (h5 : vp_in x1 4) (h6 : C 14 [vR 2 (x1).toNatClampNeg 0, vI x2, vI x3] σ1 = some (some (vI r2), σ2)) : pq_Rn C (61, 0, [some (vR 9 0 0), some (vI x1), some (vI x2), some (vI x3)], [], σ) = some (some (vI r2), σ2) := by
  refine (e_n 3 (fr' := (61, 3, [some (vR 9 0 0), some (vI x1), some (vI x2), some (vI x3)], [vI x2, vI x1, vR 9 0 0], σ)) rfl).trans ?_
  refine (e_ci (m := 61) (pc := 6) (ls := [some (vR 9 0 0), some (vI x1), some (vI x2), some (vI x3)]) (rest := []) rfl h1).trans ?_
  refine (e_f (B := (61, 11, [some (vR 9 0 0), some (vI x1), some (vI x2), some (vI x3)], [], σ1)) rfl h2).trans ?_
  refine (e_n 2 (fr' := (61, 13, [some (vR 9 0 0), some (vI x1), some (vI x2), some (vI x3)], [vI (1 : Int32), vI x3], σ1)) rfl).trans ?_
  refine (e_f (B := (61, 16, [some (vR 9 0 0), some (vI x1), some (vI x2), some (vI x3)], [], σ1)) rfl h3).trans ?_
  refine (e_n 2 (fr' := (61, 18, [some (vR 9 0 0), some (vI x1), some (vI x2), some (vI x3)], [vI (4 : Int32), vI x3], σ1)) rfl).trans ?_
  refine (e_t (A := (61, 24, [some (vR 9 0 0), some (vI x1), some (vI x2), some (vI x3)], [], σ1)) rfl h4).trans ?_
  refine (e_n 3 (fr' := (61, 29, [some (vR 9 0 0), some (vI x1), some (vI x2), some (vI x3)], [vI x1, vR 9 0 2], σ1)) rfl).trans ?_
  refine (e_a (A := (61, 30, [some (vR 9 0 0), some (vI x1), some (vI x2), some (vI x3)], [vR 2 (x1).toNatClampNeg 0], σ1)) rfl h5).trans ?_
  refine (e_n 2 (fr' := (61, 32, [some (vR 9 0 0), some (vI x1), some (vI x2), some (vI x3)], [vI x3, vI x2, vR 2 (x1).toNatClampNeg 0], σ1)) rfl).trans ?_
  refine (e_ci (m := 61) (pc := 35) (ls := [some (vR 9 0 0), some (vI x1), some (vI x2), some (vI x3)]) (rest := []) rfl h6).trans ?_
  exact e_r rfl
set_option maxRecDepth 20000 in
theorem g61_0_3 (C : pmC) {σ : pmS} {x1 : Int32} {x2 : Int32} {x3 : Int32} {σ1 : pmS} {r1 : Int32} (h1 : C 87 [vR 9 0 0, vI x1, vI x2] σ = some (some (vI r1), σ1)) (h2 : ¬ r1 = 0) (h3 : ¬ x3 < (1 : Int32)) (h4 : ¬ x3 ≤ (4 : Int32)) : pq_Rn C (61, 0, [some (vR 9 0 0), some (vI x1), some (vI x2), some (vI x3)], [], σ) = some (some (vI (-2 : Int32)), σ1) := by
  refine (e_n 3 (fr' := (61, 3, [some (vR 9 0 0), some (vI x1), some (vI x2), some (vI x3)], [vI x2, vI x1, vR 9 0 0], σ)) rfl).trans ?_
  refine (e_ci (m := 61) (pc := 6) (ls := [some (vR 9 0 0), some (vI x1), some (vI x2), some (vI x3)]) (rest := []) rfl h1).trans ?_
  refine (e_f (B := (61, 11, [some (vR 9 0 0), some (vI x1), some (vI x2), some (vI x3)], [], σ1)) rfl h2).trans ?_
  refine (e_n 2 (fr' := (61, 13, [some (vR 9 0 0), some (vI x1), some (vI x2), some (vI x3)], [vI (1 : Int32), vI x3], σ1)) rfl).trans ?_
  refine (e_f (B := (61, 16, [some (vR 9 0 0), some (vI x1), some (vI x2), some (vI x3)], [], σ1)) rfl h3).trans ?_
  refine (e_n 2 (fr' := (61, 18, [some (vR 9 0 0), some (vI x1), some (vI x2), some (vI x3)], [vI (4 : Int32), vI x3], σ1)) rfl).trans ?_
  refine (e_f (B := (61, 21, [some (vR 9 0 0), some (vI x1), some (vI x2), some (vI x3)], [], σ1)) rfl h4).trans ?_
  refine (e_n 1 (fr' := (61, 23, [some (vR 9 0 0), some (vI x1), some (vI x2), some (vI x3)], [vI (-2 : Int32)], σ1)) rfl).trans ?_
  exact e_r rfl
set_option maxRecDepth 20000 in
theorem g62_0_0 (C : pmC) {σ : pmS} {x1 : Int32} {σ1 : pmS} {r1 : Int32} (h1 : C 86 [vR 9 0 0, vI x1] σ = some (some (vI r1), σ1)) (h2 : r1 = 0) : pq_Rn C (62, 0, [some (vR 9 0 0), some (vI x1)], [], σ) = some (some (vI (-1 : Int32)), σ1) := by
  refine (e_n 2 (fr' := (62, 2, [some (vR 9 0 0), some (vI x1)], [vI x1, vR 9 0 0], σ)) rfl).trans ?_
  refine (e_ci (m := 62) (pc := 5) (ls := [some (vR 9 0 0), some (vI x1)]) (rest := []) rfl h1).trans ?_
  refine (e_t (A := (62, 24, [some (vR 9 0 0), some (vI x1)], [], σ1)) rfl h2).trans ?_
  refine (e_n 1 (fr' := (62, 25, [some (vR 9 0 0), some (vI x1)], [vI (-1 : Int32)], σ1)) rfl).trans ?_
  exact e_r rfl
set_option maxRecDepth 20000 in
theorem g62_0_1 (C : pmC) {σ : pmS} {x1 : Int32} {σ1 : pmS} {r1 : Int32} {σ2 : pmS} {r2 : Int32} (h1 : C 86 [vR 9 0 0, vI x1] σ = some (some (vI r1), σ1)) (h2 : ¬ r1 = 0) (h3 : vp_in x1 4) (h4 : C 47 [vR 7 0 0, vR 2 (x1).toNatClampNeg 0] σ1 = some (some (vI r2), σ2)) : pq_Rn C (62, 0, [some (vR 9 0 0), some (vI x1)], [], σ) = some (some (vI r2), σ2) := by
  refine (e_n 2 (fr' := (62, 2, [some (vR 9 0 0), some (vI x1)], [vI x1, vR 9 0 0], σ)) rfl).trans ?_
  refine (e_ci (m := 62) (pc := 5) (ls := [some (vR 9 0 0), some (vI x1)]) (rest := []) rfl h1).trans ?_
  refine (e_f (B := (62, 8, [some (vR 9 0 0), some (vI x1)], [], σ1)) rfl h2).trans ?_
  refine (e_n 5 (fr' := (62, 17, [some (vR 9 0 0), some (vI x1)], [vI x1, vR 9 0 2, vR 7 0 0], σ1)) rfl).trans ?_
  refine (e_a (A := (62, 18, [some (vR 9 0 0), some (vI x1)], [vR 2 (x1).toNatClampNeg 0, vR 7 0 0], σ1)) rfl h3).trans ?_
  refine (e_ci (m := 62) (pc := 21) (ls := [some (vR 9 0 0), some (vI x1)]) (rest := []) rfl h4).trans ?_
  refine (e_n 1 (fr' := (62, 25, [some (vR 9 0 0), some (vI x1)], [vI r2], σ2)) rfl).trans ?_
  exact e_r rfl
set_option maxRecDepth 20000 in
theorem g63_0_0 (C : pmC) {σ : pmS} {x1 : Int32} {x2 : Int32} {l3 : Option pmV} {σ1 : pmS} {r1 : Int32} (h1 : C 86 [vR 9 0 0, vI x1] σ = some (some (vI r1), σ1)) (h2 : r1 = 0) : pq_Rn C (63, 0, [some (vR 9 0 0), some (vI x1), some (vI x2), l3], [], σ) = some (some (vI (-1 : Int32)), σ1) := by
  refine (e_n 2 (fr' := (63, 2, [some (vR 9 0 0), some (vI x1), some (vI x2), l3], [vI x1, vR 9 0 0], σ)) rfl).trans ?_
  refine (e_ci (m := 63) (pc := 5) (ls := [some (vR 9 0 0), some (vI x1), some (vI x2), l3]) (rest := []) rfl h1).trans ?_
  refine (e_t (A := (63, 8, [some (vR 9 0 0), some (vI x1), some (vI x2), l3], [], σ1)) rfl h2).trans ?_
  refine (e_n 1 (fr' := (63, 9, [some (vR 9 0 0), some (vI x1), some (vI x2), l3], [vI (-1 : Int32)], σ1)) rfl).trans ?_
  exact e_r rfl
set_option maxRecDepth 20000 in
theorem g63_0_1 (C : pmC) {σ : pmS} {x1 : Int32} {x2 : Int32} {l3 : Option pmV} {σ1 : pmS} {r1 : Int32} (h1 : C 86 [vR 9 0 0, vI x1] σ = some (some (vI r1), σ1)) (h2 : ¬ r1 = 0) (h3 : vp_in x1 4) (h4 : x2 ≤ 0) : pq_Rn C (63, 0, [some (vR 9 0 0), some (vI x1), some (vI x2), l3], [], σ) = some (some (vI (-2 : Int32)), σ1) := by
  refine (e_n 2 (fr' := (63, 2, [some (vR 9 0 0), some (vI x1), some (vI x2), l3], [vI x1, vR 9 0 0], σ)) rfl).trans ?_
  refine (e_ci (m := 63) (pc := 5) (ls := [some (vR 9 0 0), some (vI x1), some (vI x2), l3]) (rest := []) rfl h1).trans ?_
  refine (e_f (B := (63, 10, [some (vR 9 0 0), some (vI x1), some (vI x2), l3], [], σ1)) rfl h2).trans ?_
  refine (e_n 4 (fr' := (63, 16, [some (vR 9 0 0), some (vI x1), some (vI x2), l3], [vI x1, vR 9 0 2, vI (1 : Int32)], σ1)) rfl).trans ?_
  refine (e_a (A := (63, 17, [some (vR 9 0 0), some (vI x1), some (vI x2), l3], [vR 2 (x1).toNatClampNeg 0, vI (1 : Int32)], σ1)) rfl h3).trans ?_
  refine (e_n 6 (fr' := (63, 25, [some (vR 9 0 0), some (vI x1), some (vI x2), some (vI (((1 : Int32) <<< ((σ1.1 2 (x1).toNatClampNeg 8 0) &&& 31)) - (1 : Int32)))], [vI x2], σ1)) rfl).trans ?_
  refine (e_t (A := (63, 33, [some (vR 9 0 0), some (vI x1), some (vI x2), some (vI (((1 : Int32) <<< ((σ1.1 2 (x1).toNatClampNeg 8 0) &&& 31)) - (1 : Int32)))], [], σ1)) rfl h4).trans ?_
  refine (e_n 1 (fr' := (63, 35, [some (vR 9 0 0), some (vI x1), some (vI x2), some (vI (((1 : Int32) <<< ((σ1.1 2 (x1).toNatClampNeg 8 0) &&& 31)) - (1 : Int32)))], [vI (-2 : Int32)], σ1)) rfl).trans ?_
  exact e_r rfl
set_option maxRecDepth 20000 in
theorem g63_0_2 (C : pmC) {σ : pmS} {x1 : Int32} {x2 : Int32} {l3 : Option pmV} {σ1 : pmS} {r1 : Int32} {σ2 : pmS} {r2 : Int32} (h1 : C 86 [vR 9 0 0, vI x1] σ = some (some (vI r1), σ1)) (h2 : ¬ r1 = 0) (h3 : vp_in x1 4) (h4 : ¬ x2 ≤ 0) (h5 : x2 < (((1 : Int32) <<< ((σ1.1 2 (x1).toNatClampNeg 8 0) &&& 31)) - (1 : Int32))) (h6 : C 15 [vR 2 (x1).toNatClampNeg 0, vI x2] σ1 = some (some (vI r2), σ2)) : pq_Rn C (63, 0, [some (vR 9 0 0), some (vI x1), some (vI x2), l3], [], σ) = some (some (vI r2), σ2) := by
  refine (e_n 2 (fr' := (63, 2, [some (vR 9 0 0), some (vI x1), some (vI x2), l3], [vI x1, vR 9 0 0], σ)) rfl).trans ?_
  refine (e_ci (m := 63) (pc := 5) (ls := [some (vR 9 0 0), some (vI x1), some (vI x2), l3]) (rest := []) rfl h1).trans ?_
  refine (e_f (B := (63, 10, [some (vR 9 0 0), some (vI x1), some (vI x2), l3], [], σ1)) rfl h2).trans ?_
  refine (e_n 4 (fr' := (63, 16, [some (vR 9 0 0), some (vI x1), some (vI x2), l3], [vI x1, vR 9 0 2, vI (1 : Int32)], σ1)) rfl).trans ?_
  refine (e_a (A := (63, 17, [some (vR 9 0 0), some (vI x1), some (vI x2), l3], [vR 2 (x1).toNatClampNeg 0, vI (1 : Int32)], σ1)) rfl h3).trans ?_
  refine (e_n 6 (fr' := (63, 25, [some (vR 9 0 0), some (vI x1), some (vI x2), some (vI (((1 : Int32) <<< ((σ1.1 2 (x1).toNatClampNeg 8 0) &&& 31)) - (1 : Int32)))], [vI x2], σ1)) rfl).trans ?_
  refine (e_f (B := (63, 28, [some (vR 9 0 0), some (vI x1), some (vI x2), some (vI (((1 : Int32) <<< ((σ1.1 2 (x1).toNatClampNeg 8 0) &&& 31)) - (1 : Int32)))], [], σ1)) rfl h4).trans ?_
  refine (e_n 2 (fr' := (63, 30, [some (vR 9 0 0), some (vI x1), some (vI x2), some (vI (((1 : Int32) <<< ((σ1.1 2 (x1).toNatClampNeg 8 0) &&& 31)) - (1 : Int32)))], [vI (((1 : Int32) <<< ((σ1.1 2 (x1).toNatClampNeg 8 0) &&& 31)) - (1 : Int32)), vI x2], σ1)) rfl).trans ?_
  refine (e_t (A := (63, 36, [some (vR 9 0 0), some (vI x1), some (vI x2), some (vI (((1 : Int32) <<< ((σ1.1 2 (x1).toNatClampNeg 8 0) &&& 31)) - (1 : Int32)))], [], σ1)) rfl h5).trans ?_
  refine (e_n 3 (fr' := (63, 41, [some (vR 9 0 0), some (vI x1), some (vI x2), some (vI (((1 : Int32) <<< ((σ1.1 2 (x1).toNatClampNeg 8 0) &&& 31)) - (1 : Int32)))], [vI x1, vR 9 0 2], σ1)) rfl).trans ?_
  refine (e_a (A := (63, 42, [some (vR 9 0 0), some (vI x1), some (vI x2), some (vI (((1 : Int32) <<< ((σ1.1 2 (x1).toNatClampNeg 8 0) &&& 31)) - (1 : Int32)))], [vR 2 (x1).toNatClampNeg 0], σ1)) rfl h3).trans ?_
  refine (e_n 1 (fr' := (63, 43, [some (vR 9 0 0), some (vI x1), some (vI x2), some (vI (((1 : Int32) <<< ((σ1.1 2 (x1).toNatClampNeg 8 0) &&& 31)) - (1 : Int32)))], [vI x2, vR 2 (x1).toNatClampNeg 0], σ1)) rfl).trans ?_
  refine (e_ci (m := 63) (pc := 46) (ls := [some (vR 9 0 0), some (vI x1), some (vI x2), some (vI (((1 : Int32) <<< ((σ1.1 2 (x1).toNatClampNeg 8 0) &&& 31)) - (1 : Int32)))]) (rest := []) rfl h6).trans ?_
  exact e_r rfl
set_option maxRecDepth 20000 in
theorem g63_0_3 (C : pmC) {σ : pmS} {x1 : Int32} {x2 : Int32} {l3 : Option pmV} {σ1 : pmS} {r1 : Int32} (h1 : C 86 [vR 9 0 0, vI x1] σ = some (some (vI r1), σ1)) (h2 : ¬ r1 = 0) (h3 : vp_in x1 4) (h4 : ¬ x2 ≤ 0) (h5 : ¬ x2 < (((1 : Int32) <<< ((σ1.1 2 (x1).toNatClampNeg 8 0) &&& 31)) - (1 : Int32))) : pq_Rn C (63, 0, [some (vR 9 0 0), some (vI x1), some (vI x2), l3], [], σ) = some (some (vI (-2 : Int32)), σ1) := by
  refine (e_n 2 (fr' := (63, 2, [some (vR 9 0 0), some (vI x1), some (vI x2), l3], [vI x1, vR 9 0 0], σ)) rfl).trans ?_
  refine (e_ci (m := 63) (pc := 5) (ls := [some (vR 9 0 0), some (vI x1), some (vI x2), l3]) (rest := []) rfl h1).trans ?_
  refine (e_f (B := (63, 10, [some (vR 9 0 0), some (vI x1), some (vI x2), l3], [], σ1)) rfl h2).trans ?_
  refine (e_n 4 (fr' := (63, 16, [some (vR 9 0 0), some (vI x1), some (vI x2), l3], [vI x1, vR 9 0 2, vI (1 : Int32)], σ1)) rfl).trans ?_
  refine (e_a (A := (63, 17, [some (vR 9 0 0), some (vI x1), some (vI x2), l3], [vR 2 (x1).toNatClampNeg 0, vI (1 : Int32)], σ1)) rfl h3).trans ?_
  refine (e_n 6 (fr' := (63, 25, [some (vR 9 0 0), some (vI x1), some (vI x2), some (vI (((1 : Int32) <<< ((σ1.1 2 (x1).toNatClampNeg 8 0) &&& 31)) - (1 : Int32)))], [vI x2], σ1)) rfl).trans ?_
  refine (e_f (B := (63, 28, [some (vR 9 0 0), some (vI x1), some (vI x2), some (vI (((1 : Int32) <<< ((σ1.1 2 (x1).toNatClampNeg 8 0) &&& 31)) - (1 : Int32)))], [], σ1)) rfl h4).trans ?_
  refine (e_n 2 (fr' := (63, 30, [some (vR 9 0 0), some (vI x1), some (vI x2), some (vI (((1 : Int32) <<< ((σ1.1 2 (x1).toNatClampNeg 8 0) &&& 31)) - (1 : Int32)))], [vI (((1 : Int32) <<< ((σ1.1 2 (x1).toNatClampNeg 8 0) &&& 31)) - (1 : Int32)), vI x2], σ1)) rfl).trans ?_
  refine (e_f (B := (63, 33, [some (vR 9 0 0), some (vI x1), some (vI x2), some (vI (((1 : Int32) <<< ((σ1.1 2 (x1).toNatClampNeg 8 0) &&& 31)) - (1 : Int32)))], [], σ1)) rfl h5).trans ?_
  refine (e_n 1 (fr' := (63, 35, [some (vR 9 0 0), some (vI x1), some (vI x2), some (vI (((1 : Int32) <<< ((σ1.1 2 (x1).toNatClampNeg 8 0) &&& 31)) - (1 : Int32)))], [vI (-2 : Int32)], σ1)) rfl).trans ?_
  exact e_r rfl
set_option maxRecDepth 20000 in
theorem g64_0_0 (C : pmC) {σ : pmS} {x1 : Int32} {x2 : Int32} {l3 : Option pmV} {l4 : Option pmV} {l5 : Option pmV} {l6 : Option pmV} {σ1 : pmS} {r1 : Int32} (h1 : C 86 [vR 9 0 0, vI x1] σ = some (some (vI r1), σ1)) (h2 : r1 = 0) : pq_Rn C (64, 0, [some (vR 9 0 0), some (vI x1), some (vI x2), l3, l4, l5, l6], [], σ) = some (some (vI (-1 : Int32)), σ1) := by
  refine (e_n 2 (fr' := (64, 2, [some (vR 9 0 0), some (vI x1), some (vI x2), l3, l4, l5, l6], [vI x1, vR 9 0 0], σ)) rfl).trans ?_
  refine (e_ci (m := 64) (pc := 5) (ls := [some (vR 9 0 0), some (vI x1), some (vI x2), l3, l4, l5, l6]) (rest := []) rfl h1).trans ?_
  refine (e_t (A := (64, 8, [some (vR 9 0 0), some (vI x1), some (vI x2), l3, l4, l5, l6], [], σ1)) rfl h2).trans ?_
  refine (e_n 1 (fr' := (64, 9, [some (vR 9 0 0), some (vI x1), some (vI x2), l3, l4, l5, l6], [vI (-1 : Int32)], σ1)) rfl).trans ?_
  exact e_r rfl
set_option maxRecDepth 20000 in
theorem g64_0_1 (C : pmC) {σ : pmS} {x1 : Int32} {x2 : Int32} {l3 : Option pmV} {l4 : Option pmV} {l5 : Option pmV} {l6 : Option pmV} {σ1 : pmS} {r1 : Int32} (h1 : C 86 [vR 9 0 0, vI x1] σ = some (some (vI r1), σ1)) (h2 : ¬ r1 = 0) (h3 : x2 < 0) : pq_Rn C (64, 0, [some (vR 9 0 0), some (vI x1), some (vI x2), l3, l4, l5, l6], [], σ) = some (some (vI (-2 : Int32)), σ1) := by
  refine (e_n 2 (fr' := (64, 2, [some (vR 9 0 0), some (vI x1), some (vI x2), l3, l4, l5, l6], [vI x1, vR 9 0 0], σ)) rfl).trans ?_
  refine (e_ci (m := 64) (pc := 5) (ls := [some (vR 9 0 0), some (vI x1), some (vI x2), l3, l4, l5, l6]) (rest := []) rfl h1).trans ?_
  refine (e_f (B := (64, 10, [some (vR 9 0 0), some (vI x1), some (vI x2), l3, l4, l5, l6], [], σ1)) rfl h2).trans ?_
  refine (e_n 1 (fr' := (64, 11, [some (vR 9 0 0), some (vI x1), some (vI x2), l3, l4, l5, l6], [vI x2], σ1)) rfl).trans ?_
  refine (e_t (A := (64, 20, [some (vR 9 0 0), some (vI x1), some (vI x2), l3, l4, l5, l6], [], σ1)) rfl h3).trans ?_
  refine (e_n 1 (fr' := (64, 22, [some (vR 9 0 0), some (vI x1), some (vI x2), l3, l4, l5, l6], [vI (-2 : Int32)], σ1)) rfl).trans ?_
  exact e_r rfl
set_option maxRecDepth 20000 in
theorem g64_0_2 (C : pmC) {σ : pmS} {x1 : Int32} {x2 : Int32} {l3 : Option pmV} {l4 : Option pmV} {l5 : Option pmV} {l6 : Option pmV} {σ1 : pmS} {r1 : Int32} (h1 : C 86 [vR 9 0 0, vI x1] σ = some (some (vI r1), σ1)) (h2 : ¬ r1 = 0) (h3 : ¬ x2 < 0) (h4 : x2 ≤ (7 : Int32)) (h5 : vp_in x1 4) : pq_Rn C (64, 0, [some (vR 9 0 0), some (vI x1), some (vI x2), l3, l4, l5, l6], [], σ) = pq_Rn C (64, 46, [some (vR 9 0 0), some (vI x1), some (vI x2), some (vR 2 (x1).toNatClampNeg 0), some (vI (((1 : Int32) <<< ((σ1.1 2 (x1).toNatClampNeg 8 0) &&& 31)) - (1 : Int32))), some (vI (0 : Int32)), some (vI (1 : Int32))], [], σ1) := by
  refine (e_n 2 (fr' := (64, 2, [some (vR 9 0 0), some (vI x1), some (vI x2), l3, l4, l5, l6], [vI x1, vR 9 0 0], σ)) rfl).trans ?_
  refine (e_ci (m := 64) (pc := 5) (ls := [some (vR 9 0 0), some (vI x1), some (vI x2), l3, l4, l5, l6]) (rest := []) rfl h1).trans ?_
  refine (e_f (B := (64, 10, [some (vR 9 0 0), some (vI x1), some (vI x2), l3, l4, l5, l6], [], σ1)) rfl h2).trans ?_
  refine (e_n 1 (fr' := (64, 11, [some (vR 9 0 0), some (vI x1), some (vI x2), l3, l4, l5, l6], [vI x2], σ1)) rfl).trans ?_
  refine (e_f (B := (64, 14, [some (vR 9 0 0), some (vI x1), some (vI x2), l3, l4, l5, l6], [], σ1)) rfl h3).trans ?_
  refine (e_n 2 (fr' := (64, 17, [some (vR 9 0 0), some (vI x1), some (vI x2), l3, l4, l5, l6], [vI (7 : Int32), vI x2], σ1)) rfl).trans ?_
  refine (e_t (A := (64, 23, [some (vR 9 0 0), some (vI x1), some (vI x2), l3, l4, l5, l6], [], σ1)) rfl h4).trans ?_
  refine (e_n 3 (fr' := (64, 28, [some (vR 9 0 0), some (vI x1), some (vI x2), l3, l4, l5, l6], [vI x1, vR 9 0 2], σ1)) rfl).trans ?_
  refine (e_a (A := (64, 29, [some (vR 9 0 0), some (vI x1), some (vI x2), l3, l4, l5, l6], [vR 2 (x1).toNatClampNeg 0], σ1)) rfl h5).trans ?_
  exact e_n 12 rfl
set_option maxRecDepth 20000 in
theorem g64_0_3 (C : pmC) {σ : pmS} {x1 : Int32} {x2 : Int32} {l3 : Option pmV} {l4 : Option pmV} {l5 : Option pmV} {l6 : Option pmV} {σ1 : pmS} {r1 : Int32} (h1 : C 86 [vR 9 0 0, vI x1] σ = some (some (vI r1), σ1)) (h2 : ¬ r1 = 0) (h3 : ¬ x2 < 0) (h4 : ¬ x2 ≤ (7 : Int32)) : pq_Rn C (64, 0, [some (vR 9 0 0), some (vI x1), some (vI x2), l3, l4, l5, l6], [], σ) = some (some (vI (-2 : Int32)), σ1) := by
  refine (e_n 2 (fr' := (64, 2, [some (vR 9 0 0), some (vI x1), some (vI x2), l3, l4, l5, l6], [vI x1, vR 9 0 0], σ)) rfl).trans ?_
  refine (e_ci (m := 64) (pc := 5) (ls := [some (vR 9 0 0), some (vI x1), some (vI x2), l3, l4, l5, l6]) (rest := []) rfl h1).trans ?_
  refine (e_f (B := (64, 10, [some (vR 9 0 0), some (vI x1), some (vI x2), l3, l4, l5, l6], [], σ1)) rfl h2).trans ?_
  refine (e_n 1 (fr' := (64, 11, [some (vR 9 0 0), some (vI x1), some (vI x2), l3, l4, l5, l6], [vI x2], σ1)) rfl).trans ?_
  refine (e_f (B := (64, 14, [some (vR 9 0 0), some (vI x1), some (vI x2), l3, l4, l5, l6], [], σ1)) rfl h3).trans ?_
  refine (e_n 2 (fr' := (64, 17, [some (vR 9 0 0), some (vI x1), some (vI x2), l3, l4, l5, l6], [vI (7 : Int32), vI x2], σ1)) rfl).trans ?_
  refine (e_f (B := (64, 20, [some (vR 9 0 0), some (vI x1), some (vI x2), l3, l4, l5, l6], [], σ1)) rfl h4).trans ?_
  refine (e_n 1 (fr' := (64, 22, [some (vR 9 0 0), some (vI x1), some (vI x2), l3, l4, l5, l6], [vI (-2 : Int32)], σ1)) rfl).trans ?_
  exact e_r rfl
set_option maxRecDepth 20000 in
theorem g64_46_0 (C : pmC) {σ : pmS} {l0 : Option pmV} {l1 : Option pmV} {x2 : Int32} {o3 : Nat} {x4 : Int32} {x5 : Int32} {x6 : Int32} (h1 : x4 ≤ x6) : pq_Rn C (64, 46, [l0, l1, some (vI x2), some (vR 2 o3 0), some (vI x4), some (vI x5), some (vI x6)], [], σ) = some (some (vI x5), σ) := by
  refine (e_n 2 (fr' := (64, 50, [l0, l1, some (vI x2), some (vR 2 o3 0), some (vI x4), some (vI x5), some (vI x6)], [vI x4, vI x6], σ)) rfl).trans ?_
  refine (e_t (A := (64, 74, [l0, l1, some (vI x2), some (vR 2 o3 0), some (vI x4), some (vI x5), some (vI x6)], [], σ)) rfl h1).trans ?_
  refine (e_n 1 (fr' := (64, 76, [l0, l1, some (vI x2), some (vR 2 o3 0), some (vI x4), some (vI x5), some (vI x6)], [vI x5], σ)) rfl).trans ?_
  exact e_r rfl
set_option maxRecDepth 20000 in
theorem g64_46_1 (C : pmC) {σ : pmS} {l0 : Option pmV} {l1 : Option pmV} {x2 : Int32} {o3 : Nat} {x4 : Int32} {x5 : Int32} {x6 : Int32} {σ1 : pmS} {r1 : Int32} (h1 : ¬ x4 ≤ x6) (h2 : C 15 [vR 2 o3 0, vI x6] σ = some (some (vI r1), σ1)) (h3 : (r1 &&& x2) = x2) : pq_Rn C (64, 46, [l0, l1, some (vI x2), some (vR 2 o3 0), some (vI x4), some (vI x5), some (vI x6)], [], σ) = pq_Rn C (64, 46, [l0, l1, some (vI x2), some (vR 2 o3 0), some (vI x4), some (vI (x5 + (1 : Int32))), some (vI (x6 + (2 : Int32)))], [], σ1) := by
  refine (e_n 2 (fr' := (64, 50, [l0, l1, some (vI x2), some (vR 2 o3 0), some (vI x4), some (vI x5), some (vI x6)], [vI x4, vI x6], σ)) rfl).trans ?_
  refine (e_f (B := (64, 53, [l0, l1, some (vI x2), some (vR 2 o3 0), some (vI x4), some (vI x5), some (vI x6)], [], σ)) rfl h1).trans ?_
  refine (e_n 2 (fr' := (64, 56, [l0, l1, some (vI x2), some (vR 2 o3 0), some (vI x4), some (vI x5), some (vI x6)], [vI x6, vR 2 o3 0], σ)) rfl).trans ?_
  refine (e_ci (m := 64) (pc := 59) (ls := [l0, l1, some (vI x2), some (vR 2 o3 0), some (vI x4), some (vI x5), some (vI x6)]) (rest := []) rfl h2).trans ?_
  refine (e_n 3 (fr' := (64, 62, [l0, l1, some (vI x2), some (vR 2 o3 0), some (vI x4), some (vI x5), some (vI x6)], [vI x2, vI (r1 &&& x2)], σ1)) rfl).trans ?_
  refine (e_t (A := (64, 65, [l0, l1, some (vI x2), some (vR 2 o3 0), some (vI x4), some (vI x5), some (vI x6)], [], σ1)) rfl h3).trans ?_
  exact e_n 3 rfl
set_option maxRecDepth 20000 in
theorem g64_46_2 (C : pmC) {σ : pmS} {l0 : Option pmV} {l1 : Option pmV} {x2 : Int32} {o3 : Nat} {x4 : Int32} {x5 : Int32} {x6 : Int32} {σ1 : pmS} {r1 : Int32} (h1 : ¬ x4 ≤ x6) (h2 : C 15 [vR 2 o3 0, vI x6] σ = some (some (vI r1), σ1)) (h3 : ¬ (r1 &&& x2) = x2) : pq_Rn C (64, 46, [l0, l1, some (vI x2), some (vR 2 o3 0), some (vI x4), some (vI x5), some (vI x6)], [], σ) = pq_Rn C (64, 46, [l0, l1, some (vI x2), some (vR 2 o3 0), some (vI x4), some (vI x5), some (vI (x6 + (2 : Int32)))], [], σ1) := by
  refine (e_n 2 (fr' := (64, 50, [l0, l1, some (vI x2), some (vR 2 o3 0), some (vI x4), some (vI x5), some (vI x6)], [vI x4, vI x6], σ)) rfl).trans ?_
  refine (e_f (B := (64, 53, [l0, l1, some (vI x2), some (vR 2 o3 0), some (vI x4), some (vI x5), some (vI x6)], [], σ)) rfl h1).trans ?_
  refine (e_n 2 (fr' := (64, 56, [l0, l1, some (vI x2), some (vR 2 o3 0), some (vI x4), some (vI x5), some (vI x6)], [vI x6, vR 2 o3 0], σ)) rfl).trans ?_
  refine (e_ci (m := 64) (pc := 59) (ls := [l0, l1, some (vI x2), some (vR 2 o3 0), some (vI x4), some (vI x5), some (vI x6)]) (rest := []) rfl h2).trans ?_
  refine (e_n 3 (fr' := (64, 62, [l0, l1, some (vI x2), some (vR 2 o3 0), some (vI x4), some (vI x5), some (vI x6)], [vI x2, vI (r1 &&& x2)], σ1)) rfl).trans ?_
  refine (e_f (B := (64, 68, [l0, l1, some (vI x2), some (vR 2 o3 0), some (vI x4), some (vI x5), some (vI x6)], [], σ1)) rfl h3).trans ?_
  exact e_n 2 rfl
set_option maxRecDepth 20000 in
theorem g65_0_0 (C : pmC) {σ : pmS} {x1 : Int32} {x2 : Int32} {σ1 : pmS} {r1 : Int32} (h1 : C 86 [vR 9 0 0, vI x1] σ = some (some (vI r1), σ1)) (h2 : r1 = 0) : pq_Rn C (65, 0, [some (vR 9 0 0), some (vI x1), some (vI x2)], [], σ) = some (some (vI (-1 : Int32)), σ1) := by
  refine (e_n 2 (fr' := (65, 2, [some (vR 9 0 0), some (vI x1), some (vI x2)], [vI x1, vR 9 0 0], σ)) rfl).trans ?_
  refine (e_ci (m := 65) (pc := 5) (ls := [some (vR 9 0 0), some (vI x1), some (vI x2)]) (rest := []) rfl h1).trans ?_
  refine (e_t (A := (65, 8, [some (vR 9 0 0), some (vI x1), some (vI x2)], [], σ1)) rfl h2).trans ?_
  refine (e_n 1 (fr' := (65, 9, [some (vR 9 0 0), some (vI x1), some (vI x2)], [vI (-1 : Int32)], σ1)) rfl).trans ?_
  exact e_r rfl
set_option maxRecDepth 20000 in
theorem g65_0_1 (C : pmC) {σ : pmS} {x1 : Int32} {x2 : Int32} {σ1 : pmS} {r1 : Int32} {σ2 : pmS} {r2 : Int32} (h1 : C 86 [vR 9 0 0, vI x1] σ = some (some (vI r1), σ1)) (h2 : ¬ r1 = 0) (h3 : x2 = 0) (h4 : (σ1.1 9 0 10 0) < (3 : Int32)) (h5 : vp_in (σ1.1 9 0 10 0) 3) (h6 : C 0 [vR 0 ((σ1.1 9 0 10 0)).toNatClampNeg 0, vI (0 : Int32), vI x1, vI x2] σ1 = some (some (vI r2), σ2)) : pq_Rn C (65, 0, [some (vR 9 0 0), some (vI x1), some (vI x2)], [], σ) = some (some (vI (((σ2.1 9 0 10 0) + (1 : Int32)) - (1 : Int32))), (pm_wi σ2 9 0 10 0 ((σ2.1 9 0 10 0) + (1 : Int32)))) := by
  refine (e_n 2 (fr' := (65, 2, [some (vR 9 0 0), some (vI x1), some (vI x2)], [vI x1, vR 9 0 0], σ)) rfl).trans ?_
  refine (e_ci (m := 65) (pc := 5) (ls := [some (vR 9 0 0), some (vI x1), some (vI x2)]) (rest := []) rfl h1).trans ?_
  refine (e_f (B := (65, 10, [some (vR 9 0 0), some (vI x1), some (vI x2)], [], σ1)) rfl h2).trans ?_
  refine (e_n 1 (fr' := (65, 11, [some (vR 9 0 0), some (vI x1), some (vI x2)], [vI x2], σ1)) rfl).trans ?_
  refine (e_t (A := (65, 22, [some (vR 9 0 0), some (vI x1), some (vI x2)], [], σ1)) rfl h3).trans ?_
  refine (e_n 3 (fr' := (65, 27, [some (vR 9 0 0), some (vI x1), some (vI x2)], [vI (3 : Int32), vI (σ1.1 9 0 10 0)], σ1)) rfl).trans ?_
  refine (e_t (A := (65, 33, [some (vR 9 0 0), some (vI x1), some (vI x2)], [], σ1)) rfl h4).trans ?_
  refine (e_n 4 (fr' := (65, 41, [some (vR 9 0 0), some (vI x1), some (vI x2)], [vI (σ1.1 9 0 10 0), vR 9 0 3], σ1)) rfl).trans ?_
  refine (e_a (A := (65, 42, [some (vR 9 0 0), some (vI x1), some (vI x2)], [vR 0 ((σ1.1 9 0 10 0)).toNatClampNeg 0], σ1)) rfl h5).trans ?_
  refine (e_n 3 (fr' := (65, 45, [some (vR 9 0 0), some (vI x1), some (vI x2)], [vI x2, vI x1, vI (0 : Int32), vR 0 ((σ1.1 9 0 10 0)).toNatClampNeg 0], σ1)) rfl).trans ?_
  refine (e_ci (m := 65) (pc := 48) (ls := [some (vR 9 0 0), some (vI x1), some (vI x2)]) (rest := []) rfl h6).trans ?_
  refine (e_n 11 (fr' := (65, 65, [some (vR 9 0 0), some (vI x1), some (vI x2)], [vI (((σ2.1 9 0 10 0) + (1 : Int32)) - (1 : Int32))], (pm_wi σ2 9 0 10 0 ((σ2.1 9 0 10 0) + (1 : Int32))))) rfl).trans ?_
  exact e_r rfl
set_option maxRecDepth 20000 in
theorem g65_0_2 (C : pmC) {σ : pmS} {x1 : Int32} {x2 : Int32} {σ1 : pmS} {r1 : Int32} (h1 : C 86 [vR 9 0 0, vI x1] σ = some (some (vI r1), σ1)) (h2 : ¬ r1 = 0) (h3 : x2 = 0) (h4 : ¬ (σ1.1 9 0 10 0) < (3 : Int32)) : pq_Rn C (65, 0, [some (vR 9 0 0), some (vI x1), some (vI x2)], [], σ) = some (some (vI (-4 : Int32)), σ1) := by
  refine (e_n 2 (fr' := (65, 2, [some (vR 9 0 0), some (vI x1), some (vI x2)], [vI x1, vR 9 0 0], σ)) rfl).trans ?_
  refine (e_ci (m := 65) (pc := 5) (ls := [some (vR 9 0 0), some (vI x1), some (vI x2)]) (rest := []) rfl h1).trans ?_
  refine (e_f (B := (65, 10, [some (vR 9 0 0), some (vI x1), some (vI x2)], [], σ1)) rfl h2).trans ?_
  refine (e_n 1 (fr' := (65, 11, [some (vR 9 0 0), some (vI x1), some (vI x2)], [vI x2], σ1)) rfl).trans ?_
  refine (e_t (A := (65, 22, [some (vR 9 0 0), some (vI x1), some (vI x2)], [], σ1)) rfl h3).trans ?_
  refine (e_n 3 (fr' := (65, 27, [some (vR 9 0 0), some (vI x1), some (vI x2)], [vI (3 : Int32), vI (σ1.1 9 0 10 0)], σ1)) rfl).trans ?_
  refine (e_f (B := (65, 30, [some (vR 9 0 0), some (vI x1), some (vI x2)], [], σ1)) rfl h4).trans ?_
  refine (e_n 1 (fr' := (65, 32, [some (vR 9 0 0), some (vI x1), some (vI x2)], [vI (-4 : Int32)], σ1)) rfl).trans ?_
  exact e_r rfl
set_option maxRecDepth 20000 in
theorem g65_0_3 (C : pmC) {σ : pmS} {x1 : Int32} {x2 : Int32} {σ1 : pmS} {r1 : Int32} {σ2 : pmS} {r2 : Int32} (h1 : C 86 [vR 9 0 0, vI x1] σ = some (some (vI r1), σ1)) (h2 : ¬ r1 = 0) (h3 : ¬ x2 = 0) (h4 : x2 = (1 : Int32)) (h5 : (σ1.1 9 0 10 0) < (3 : Int32)) (h6 : vp_in (σ1.1 9 0 10 0) 3) (h7 : C 0 [vR 0 ((σ1.1 9 0 10 0)).toNatClampNeg 0, vI (0 : Int32), vI x1, vI x2] σ1 = some (some (vI r2), σ2)) : pq_Rn C (65, 0, [some (vR 9 0 0), some (vI x1), some (vI x2)], [], σ) = some (some (vI (((σ2.1 9 0 10 0) + (1 : Int32)) - (1 : Int32))), (pm_wi σ2 9 0 10 0 ((σ2.1 9 0 10 0) + (1 : Int32)))) := by
  refine (e_n 2 (fr' := (65, 2, [some (vR 9 0 0), some (vI x1), some (vI x2)], [vI x1, vR 9 0 0], σ)) rfl).trans ?_
  refine (e_ci (m := 65) (pc := 5) (ls := [some (vR 9 0 0), some (vI x1), some (vI x2)]) (rest := []) rfl h1).trans ?_
  refine (e_f (B := (65, 10, [some (vR 9 0 0), some (vI x1), some (vI x2)], [], σ1)) rfl h2).trans ?_
  refine (e_n 1 (fr' := (65, 11, [some (vR 9 0 0), some (vI x1), some (vI x2)], [vI x2], σ1)) rfl).trans ?_
  refine (e_f (B := (65, 14, [some (vR 9 0 0), some (vI x1), some (vI x2)], [], σ1)) rfl h3).trans ?_
  refine (e_n 2 (fr' := (65, 16, [some (vR 9 0 0), some (vI x1), some (vI x2)], [vI (1 : Int32), vI x2], σ1)) rfl).trans ?_
  refine (e_t (A := (65, 22, [some (vR 9 0 0), some (vI x1), some (vI x2)], [], σ1)) rfl h4).trans ?_
  refine (e_n 3 (fr' := (65, 27, [some (vR 9 0 0), some (vI x1), some (vI x2)], [vI (3 : Int32), vI (σ1.1 9 0 10 0)], σ1)) rfl).trans ?_
  refine (e_t (A := (65, 33, [some (vR 9 0 0), some (vI x1), some (vI x2)], [], σ1)) rfl h5).trans ?_
  refine (e_n 4 (fr' := (65, 41, [some (vR 9 0 0), some (vI x1), some (vI x2)], [vI (σ1.1 9 0 10 0), vR 9 0 3], σ1)) rfl).trans ?_
  refine (e_a (A := (65, 42, [some (vR 9 0 0), some (vI x1), some (vI x2)], [vR 0 ((σ1.1 9 0 10 0)).toNatClampNeg 0], σ1)) rfl h6).trans ?_
  refine (e_n 3 (fr' := (65, 45, [some (vR 9 0 0), some (vI x1), some (vI x2)], [vI x2, vI x1, vI (0 : Int32), vR 0 ((σ1.1 9 0 10 0)).toNatClampNeg 0], σ1)) rfl).trans ?_
  refine (e_ci (m := 65) (pc := 48) (ls := [some (vR 9 0 0), some (vI x1), some (vI x2)]) (rest := []) rfl h7).trans ?_
  refine (e_n 11 (fr' := (65, 65, [some (vR 9 0 0), some (vI x1), some (vI x2)], [vI (((σ2.1 9 0 10 0) + (1 : Int32)) - (1 : Int32))], (pm_wi σ2 9 0 10 0 ((σ2.1 9 0 10 0) + (1 : Int32))))) rfl).trans ?_
  exact e_r rfl
set_option maxRecDepth 20000 in
theorem g65_0_4 (C : pmC) {σ : pmS} {x1 : Int32} {x2 : Int32} {σ1 : pmS} {r1 : Int32} (h1 : C 86 [vR 9 0 0, vI x1] σ = some (some (vI r1), σ1)) (h2 : ¬ r1 = 0) (h3 : ¬ x2 = 0) (h4 : x2 = (1 : Int32)) (h5 : ¬ (σ1.1 9 0 10 0) < (3 : Int32)) : pq_Rn C (65, 0, [some (vR 9 0 0), some (vI x1), some (vI x2)], [], σ) = some (some (vI (-4 : Int32)), σ1) := by
  refine (e_n 2 (fr' := (65, 2, [some (vR 9 0 0), some (vI x1), some (vI x2)], [vI x1, vR 9 0 0], σ)) rfl).trans ?_
  refine (e_ci (m := 65) (pc := 5) (ls := [some (vR 9 0 0), some (vI x1), some (vI x2)]) (rest := []) rfl h1).trans ?_
  refine (e_f (B := (65, 10, [some (vR 9 0 0), some (vI x1), some (vI x2)], [], σ1)) rfl h2).trans ?_
  refine (e_n 1 (fr' := (65, 11, [some (vR 9 0 0), some (vI x1), some (vI x2)], [vI x2], σ1)) rfl).trans ?_
  refine (e_f (B := (65, 14, [some (vR 9 0 0), some (vI x1), some (vI x2)], [], σ1)) rfl h3).trans ?_
  refine (e_n 2 (fr' := (65, 16, [some (vR 9 0 0), some (vI x1), some (vI x2)], [vI (1 : Int32), vI x2], σ1)) rfl).trans ?_
  refine (e_t (A := (65, 22, [some (vR 9 0 0), some (vI x1), some (vI x2)], [], σ1)) rfl h4).trans ?_
  refine (e_n 3 (fr' := (65, 27, [some (vR 9 0 0), some (vI x1), some (vI x2)], [vI (3 : Int32), vI (σ1.1 9 0 10 0)], σ1)) rfl).trans ?_
  refine (e_f (B := (65, 30, [some (vR 9 0 0), some (vI x1), some (vI x2)], [], σ1)) rfl h5).trans ?_
  refine (e_n 1 (fr' := (65, 32, [some (vR 9 0 0), some (vI x1), some (vI x2)], [vI (-4 : Int32)], σ1)) rfl).trans ?_
  exact e_r rfl
set_option maxRecDepth 20000 in
theorem g65_0_5 (C : pmC) {σ : pmS} {x1 : Int32} {x2 : Int32} {σ1 : pmS} {r1 : Int32} (h1 : C 86 [vR 9 0 0, vI x1] σ = some (some (vI r1), σ1)) (h2 : ¬ r1 = 0) (h3 : ¬ x2 = 0) (h4 : ¬ x2 = (1 : Int32)) : pq_Rn C (65, 0, [some (vR 9 0 0), some (vI x1), some (vI x2)], [], σ) = some (some (vI (-2 : Int32)), σ1) := by
  refine (e_n 2 (fr' := (65, 2, [some (vR 9 0 0), some (vI x1), some (vI x2)], [vI x1, vR 9 0 0], σ)) rfl).trans ?_
  refine (e_ci (m := 65) (pc := 5) (ls := [some (vR 9 0 0), some (vI x1), some (vI x2)]) (rest := []) rfl h1).trans ?_
  refine (e_f (B := (65, 10, [some (vR 9 0 0), some (vI x1), some (vI x2)], [], σ1)) rfl h2).trans ?_
  refine (e_n 1 (fr' := (65, 11, [some (vR 9 0 0), some (vI x1), some (vI x2)], [vI x2], σ1)) rfl).trans ?_
  refine (e_f (B := (65, 14, [some (vR 9 0 0), some (vI x1), some (vI x2)], [], σ1)) rfl h3).trans ?_
  refine (e_n 2 (fr' := (65, 16, [some (vR 9 0 0), some (vI x1), some (vI x2)], [vI (1 : Int32), vI x2], σ1)) rfl).trans ?_
  refine (e_f (B := (65, 19, [some (vR 9 0 0), some (vI x1), some (vI x2)], [], σ1)) rfl h4).trans ?_
  refine (e_n 1 (fr' := (65, 21, [some (vR 9 0 0), some (vI x1), some (vI x2)], [vI (-2 : Int32)], σ1)) rfl).trans ?_
  exact e_r rfl
set_option maxRecDepth 20000 in
theorem g66_0_0 (C : pmC) {σ : pmS} {x1 : Int32} {x2 : Int32} {x3 : Int32} {x4 : Int32} {l5 : Option pmV} {σ1 : pmS} {r1 : Int32} (h1 : C 88 [vR 9 0 0, vI x1] σ = some (some (vI r1), σ1)) (h2 : r1 = 0) : pq_Rn C (66, 0, [some (vR 9 0 0), some (vI x1), some (vI x2), some (vI x3), some (vI x4), l5], [], σ) = some (some (vI (-1 : Int32)), σ1) := by
  refine (e_n 2 (fr' := (66, 2, [some (vR 9 0 0), some (vI x1), some (vI x2), some (vI x3), some (vI x4), l5], [vI x1, vR 9 0 0], σ)) rfl).trans ?_
  refine (e_ci (m := 66) (pc := 5) (ls := [some (vR 9 0 0), some (vI x1), some (vI x2), some (vI x3), some (vI x4), l5]) (rest := []) rfl h1).trans ?_
  refine (e_t (A := (66, 16, [some (vR 9 0 0), some (vI x1), some (vI x2), some (vI x3), some (vI x4), l5], [], σ1)) rfl h2).trans ?_
  refine (e_n 1 (fr' := (66, 17, [some (vR 9 0 0), some (vI x1), some (vI x2), some (vI x3), some (vI x4), l5], [vI (-1 : Int32)], σ1)) rfl).trans ?_
  exact e_r rfl
set_option maxRecDepth 20000 in
theorem g66_0_1 (C : pmC) {σ : pmS} {x1 : Int32} {x2 : Int32} {x3 : Int32} {x4 : Int32} {l5 : Option pmV} {σ1 : pmS} {r1 : Int32} {σ2 : pmS} {r2 : Int32} (h1 : C 88 [vR 9 0 0, vI x1] σ = some (some (vI r1), σ1)) (h2 : ¬ r1 = 0) (h3 : C 86 [vR 9 0 0, vI x3] σ1 = some (some (vI r2), σ2)) (h4 : r2 = 0) : pq_Rn C (66, 0, [some (vR 9 0 0), some (vI x1), some (vI x2), some (vI x3), some (vI x4), l5], [], σ) = some (some (vI (-1 : Int32)), σ2) := by
  refine (e_n 2 (fr' := (66, 2, [some (vR 9 0 0), some (vI x1), some (vI x2), some (vI x3), some (vI x4), l5], [vI x1, vR 9 0 0], σ)) rfl).trans ?_
  refine (e_ci (m := 66) (pc := 5) (ls := [some (vR 9 0 0), some (vI x1), some (vI x2), some (vI x3), some (vI x4), l5]) (rest := []) rfl h1).trans ?_
  refine (e_f (B := (66, 8, [some (vR 9 0 0), some (vI x1), some (vI x2), some (vI x3), some (vI x4), l5], [], σ1)) rfl h2).trans ?_
  refine (e_n 2 (fr' := (66, 10, [some (vR 9 0 0), some (vI x1), some (vI x2), some (vI x3), some (vI x4), l5], [vI x3, vR 9 0 0], σ1)) rfl).trans ?_
  refine (e_ci (m := 66) (pc := 13) (ls := [some (vR 9 0 0), some (vI x1), some (vI x2), some (vI x3), some (vI x4), l5]) (rest := []) rfl h3).trans ?_
  refine (e_t (A := (66, 16, [some (vR 9 0 0), some (vI x1), some (vI x2), some (vI x3), some (vI x4), l5], [], σ2)) rfl h4).trans ?_
  refine (e_n 1 (fr' := (66, 17, [some (vR 9 0 0), some (vI x1), some (vI x2), some (vI x3), some (vI x4), l5], [vI (-1 : Int32)], σ2)) rfl).trans ?_
  exact e_r rfl
set_option maxRecDepth 20000 in
theorem g66_0_2 (C : pmC) {σ : pmS} {x1 : Int32} {x2 : Int32} {x3 : Int32} {x4 : Int32} {l5 : Option pmV} {σ1 : pmS} {r1 : Int32} {σ2 : pmS} {r2 : Int32} (h1 : C 88 [vR 9 0 0, vI x1] σ = some (some (vI r1), σ1)) (h2 : ¬ r1 = 0) (h3 : C 86 [vR 9 0 0, vI x3] σ1 = some (some (vI r2), σ2)) (h4 : ¬ r2 = 0) (h5 : x2 < (1 : Int32)) : pq_Rn C (66, 0, [some (vR 9 0 0), some (vI x1), some (vI x2), some (vI x3), some (vI x4), l5], [], σ) = some (some (vI (-2 : Int32)), σ2) := by
  refine (e_n 2 (fr' := (66, 2, [some (vR 9 0 0), some (vI x1), some (vI x2), some (vI x3), some (vI x4), l5], [vI x1, vR 9 0 0], σ)) rfl).trans ?_
  refine (e_ci (m := 66) (pc := 5) (ls := [some (vR 9 0 0), some (vI x1), some (vI x2), some (vI x3), some (vI x4), l5]) (rest := []) rfl h1).trans ?_
  refine (e_f (B := (66, 8, [some (vR 9 0 0), some (vI x1), some (vI x2), some (vI x3), some (vI x4), l5], [], σ1)) rfl h2).trans ?_
  refine (e_n 2 (fr' := (66, 10, [some (vR 9 0 0), some (vI x1), some (vI x2), some (vI x3), some (vI x4), l5], [vI x3, vR 9 0 0], σ1)) rfl).trans ?_
  refine (e_ci (m := 66) (pc := 13) (ls := [some (vR 9 0 0), some (vI x1), some (vI x2), some (vI x3), some (vI x4), l5]) (rest := []) rfl h3).trans ?_
  refine (e_f (B := (66, 18, [some (vR 9 0 0), some (vI x1), some (vI x2), some (vI x3), some (vI x4), l5], [], σ2)) rfl h4).trans ?_
  refine (e_n 2 (fr' := (66, 20, [some (vR 9 0 0), some (vI x1), some (vI x2), some (vI x3), some (vI x4), l5], [vI (1 : Int32), vI x2], σ2)) rfl).trans ?_
  refine (e_t (A := (66, 41, [some (vR 9 0 0), some (vI x1), some (vI x2), some (vI x3), some (vI x4), l5], [], σ2)) rfl h5).trans ?_
  refine (e_n 1 (fr' := (66, 43, [some (vR 9 0 0), some (vI x1), some (vI x2), some (vI x3), some (vI x4), l5], [vI (-2 : Int32)], σ2)) rfl).trans ?_
  exact e_r rfl
set_option maxRecDepth 20000 in
theorem g66_0_3 (C : pmC) {σ : pmS} {x1 : Int32} {x2 : Int32} {x3 : Int32} {x4 : Int32} {l5 : Option pmV} {σ1 : pmS} {r1 : Int32} {σ2 : pmS} {r2 : Int32} (h1 : C 88 [vR 9 0 0, vI x1] σ = some (some (vI r1), σ1)) (h2 : ¬ r1 = 0) (h3 : C 86 [vR 9 0 0, vI x3] σ1 = some (some (vI r2), σ2)) (h4 : ¬ r2 = 0) (h5 : ¬ x2 < (1 : Int32)) (h6 : (999 : Int32) < x2) : pq_Rn C (66, 0, [some (vR 9 0 0), some (vI x1), some (vI x2), some (vI x3), some (vI x4), l5], [], σ) = some (some (vI (-2 : Int32)), σ2) := by
  refine (e_n 2 (fr' := (66, 2, [some (vR 9 0 0), some (vI x1), some (vI x2), some (vI x3), some (vI x4), l5], [vI x1, vR 9 0 0], σ)) rfl).trans ?_
  refine (e_ci (m := 66) (pc := 5) (ls := [some (vR 9 0 0), some (vI x1), some (vI x2), some (vI x3), some (vI x4), l5]) (rest := []) rfl h1).trans ?_
  refine (e_f (B := (66, 8, [some (vR 9 0 0), some (vI x1), some (vI x2), some (vI x3), some (vI x4), l5], [], σ1)) rfl h2).trans ?_
  refine (e_n 2 (fr' := (66, 10, [some (vR 9 0 0), some (vI x1), some (vI x2), some (vI x3), some (vI x4), l5], [vI x3, vR 9 0 0], σ1)) rfl).trans ?_
  refine (e_ci (m := 66) (pc := 13) (ls := [some (vR 9 0 0), some (vI x1), some (vI x2), some (vI x3), some (vI x4), l5]) (rest := []) rfl h3).trans ?_
  refine (e_f (B := (66, 18, [some (vR 9 0 0), some (vI x1), some (vI x2), some (vI x3), some (vI x4), l5], [], σ2)) rfl h4).trans ?_
  refine (e_n 2 (fr' := (66, 20, [some (vR 9 0 0), some (vI x1), some (vI x2), some (vI x3), some (vI x4), l5], [vI (1 : Int32), vI x2], σ2)) rfl).trans ?_
  refine (e_f (B := (66, 23, [some (vR 9 0 0), some (vI x1), some (vI x2), some (vI x3), some (vI x4), l5], [], σ2)) rfl h5).trans ?_
  refine (e_n 2 (fr' := (66, 27, [some (vR 9 0 0), some (vI x1), some (vI x2), some (vI x3), some (vI x4), l5], [vI (999 : Int32), vI x2], σ2)) rfl).trans ?_
  refine (e_t (A := (66, 41, [some (vR 9 0 0), some (vI x1), some (vI x2), some (vI x3), some (vI x4), l5], [], σ2)) rfl h6).trans ?_
  refine (e_n 1 (fr' := (66, 43, [some (vR 9 0 0), some (vI x1), some (vI x2), some (vI x3), some (vI x4), l5], [vI (-2 : Int32)], σ2)) rfl).trans ?_
  exact e_r rfl
set_option maxRecDepth 20000 in
theorem g66_0_4 (C : pmC) {σ : pmS} {x1 : Int32} {x2 : Int32} {x3 : Int32} {x4 : Int32} {l5 : Option pmV} {σ1 : pmS} {r1 : Int32} {σ2 : pmS} {r2 : Int32} {σ3 : pmS} {r3 : Int32} (h1 : C 88 [vR 9 0 0, vI x1] σ = some (some (vI r1), σ1)) (h2 : ¬ r1 = 0) (h3 : C 86 [vR 9 0 0, vI x3] σ1 = some (some (vI r2), σ2)) (h4 : ¬ r2 = 0) (h5 : ¬ x2 < (1 : Int32)) (h6 : ¬ (999 : Int32) < x2) (h7 : x4 = 0) (h8 : vp_in x1 3) (h9 : C 0 [vR 0 (x1).toNatClampNeg 0, vI x2, vI x3, vI x4] σ2 = some (some (vI r3), σ3)) (h10 : r3 = 0) : pq_Rn C (66, 0, [some (vR 9 0 0), some (vI x1), some (vI x2), some (vI x3), some (vI x4), l5], [], σ) = some (some (vI (-4 : Int32)), σ3) := by
  refine (e_n 2 (fr' := (66, 2, [some (vR 9 0 0), some (vI x1), some (vI x2), some (vI x3), some (vI x4), l5], [vI x1, vR 9 0 0], σ)) rfl).trans ?_
  refine (e_ci (m := 66) (pc := 5) (ls := [some (vR 9 0 0), some (vI x1), some (vI x2), some (vI x3), some (vI x4), l5]) (rest := []) rfl h1).trans ?_
  refine (e_f (B := (66, 8, [some (vR 9 0 0), some (vI x1), some (vI x2), some (vI x3), some (vI x4), l5], [], σ1)) rfl h2).trans ?_
  refine (e_n 2 (fr' := (66, 10, [some (vR 9 0 0), some (vI x1), some (vI x2), some (vI x3), some (vI x4), l5], [vI x3, vR 9 0 0], σ1)) rfl).trans ?_
  refine (e_ci (m := 66) (pc := 13) (ls := [some (vR 9 0 0), some (vI x1), some (vI x2), some (vI x3), some (vI x4), l5]) (rest := []) rfl h3).trans ?_
  refine (e_f (B := (66, 18, [some (vR 9 0 0), some (vI x1), some (vI x2), some (vI x3), some (vI x4), l5], [], σ2)) rfl h4).trans ?_
  refine (e_n 2 (fr' := (66, 20, [some (vR 9 0 0), some (vI x1), some (vI x2), some (vI x3), some (vI x4), l5], [vI (1 : Int32), vI x2], σ2)) rfl).trans ?_
  refine (e_f (B := (66, 23, [some (vR 9 0 0), some (vI x1), some (vI x2), some (vI x3), some (vI x4), l5], [], σ2)) rfl h5).trans ?_
  refine (e_n 2 (fr' := (66, 27, [some (vR 9 0 0), some (vI x1), some (vI x2), some (vI x3), some (vI x4), l5], [vI (999 : Int32), vI x2], σ2)) rfl).trans ?_
  refine (e_f (B := (66, 30, [some (vR 9 0 0), some (vI x1), some (vI x2), some (vI x3), some (vI x4), l5], [], σ2)) rfl h6).trans ?_
  refine (e_n 1 (fr' := (66, 32, [some (vR 9 0 0), some (vI x1), some (vI x2), some (vI x3), some (vI x4), l5], [vI x4], σ2)) rfl).trans ?_
  refine (e_t (A := (66, 44, [some (vR 9 0 0), some (vI x1), some (vI x2), some (vI x3), some (vI x4), l5], [], σ2)) rfl h7).trans ?_
  refine (e_n 3 (fr' := (66, 49, [some (vR 9 0 0), some (vI x1), some (vI x2), some (vI x3), some (vI x4), l5], [vI x1, vR 9 0 3], σ2)) rfl).trans ?_
  refine (e_a (A := (66, 50, [some (vR 9 0 0), some (vI x1), some (vI x2), some (vI x3), some (vI x4), l5], [vR 0 (x1).toNatClampNeg 0], σ2)) rfl h8).trans ?_
  refine (e_n 3 (fr' := (66, 54, [some (vR 9 0 0), some (vI x1), some (vI x2), some (vI x3), some (vI x4), l5], [vI x4, vI x3, vI x2, vR 0 (x1).toNatClampNeg 0], σ2)) rfl).trans ?_
  refine (e_ci (m := 66) (pc := 57) (ls := [some (vR 9 0 0), some (vI x1), some (vI x2), some (vI x3), some (vI x4), l5]) (rest := []) rfl h9).trans ?_
  refine (e_t (A := (66, 60, [some (vR 9 0 0), some (vI x1), some (vI x2), some (vI x3), some (vI x4), l5], [], σ3)) rfl h10).trans ?_
  refine (e_n 1 (fr' := (66, 62, [some (vR 9 0 0), some (vI x1), some (vI x2), some (vI x3), some (vI x4), l5], [vI (-4 : Int32)], σ3)) rfl).trans ?_
  exact e_r rfl
set_option maxRecDepth 20000 in
theorem g66_0_5 (C : pmC) {σ : pmS} {x1 : Int32} {x2 : Int32} {x3 : Int32} {x4 : Int32} {l5 : Option pmV} {σ1 : pmS} {r1 : Int32} {σ2 : pmS} {r2 : Int32} {σ3 : pmS} {r3 : Int32} (h1 : C 88 [vR 9 0 0, vI x1] σ = some (some (vI r1), σ1)) (h2 : ¬ r1 = 0) (h3 : C 86 [vR 9 0 0, vI x3] σ1 = some (some (vI r2), σ2)) (h4 : ¬ r2 = 0) (h5 : ¬ x2 < (1 : Int32)) (h6 : ¬ (999 : Int32) < x2) (h7 : x4 = 0) (h8 : vp_in x1 3) (h9 : C 0 [vR 0 (x1).toNatClampNeg 0, vI x2, vI x3, vI x4] σ2 = some (some (vI r3), σ3)) (h10 : ¬ r3 = 0) : pq_Rn C (66, 0, [some (vR 9 0 0), some (vI x1), some (vI x2), some (vI x3), some (vI x4), l5], [], σ) = pq_Rn C (66, 66, [some (vR 9 0 0), some (vI x1), some (vI x2), some (vI x3), some (vI x4), some (vI (0 : Int32))], [], σ3) := by
  refine (e_n 2 (fr' := (66, 2, [some (vR 9 0 0), some (vI x1), some (vI x2), some (vI x3), some (vI x4), l5], [vI x1, vR 9 0 0], σ)) rfl).trans ?_
  refine (e_ci (m := 66) (pc := 5) (ls := [some (vR 9 0 0), some (vI x1), some (vI x2), some (vI x3), some (vI x4), l5]) (rest := []) rfl h1).trans ?_
  refine (e_f (B := (66, 8, [some (vR 9 0 0), some (vI x1), some (vI x2), some (vI x3), some (vI x4), l5], [], σ1)) rfl h2).trans ?_
  refine (e_n 2 (fr' := (66, 10, [some (vR 9 0 0), some (vI x1), some (vI x2), some (vI x3), some (vI x4), l5], [vI x3, vR 9 0 0], σ1)) rfl).trans ?_
  refine (e_ci (m := 66) (pc := 13) (ls := [some (vR 9 0 0), some (vI x1), some (vI x2), some (vI x3), some (vI x4), l5]) (rest := []) rfl h3).trans ?_
  refine (e_f (B := (66, 18, [some (vR 9 0 0), some (vI x1), some (vI x2), some (vI x3), some (vI x4), l5], [], σ2)) rfl h4).trans ?_
  refine (e_n 2 (fr' := (66, 20, [some (vR 9 0 0), some (vI x1), some (vI x2), some (vI x3), some (vI x4), l5], [vI (1 : Int32), vI x2], σ2)) rfl).trans ?_
  refine (e_f (B := (66, 23, [some (vR 9 0 0), some (vI x1), some (vI x2), some (vI x3), some (vI x4), l5], [], σ2)) rfl h5).trans ?_
  refine (e_n 2 (fr' := (66, 27, [some (vR 9 0 0), some (vI x1), some (vI x2), some (vI x3), some (vI x4), l5], [vI (999 : Int32), vI x2], σ2)) rfl).trans ?_
  refine (e_f (B := (66, 30, [some (vR 9 0 0), some (vI x1), some (vI x2), some (vI x3), some (vI x4), l5], [], σ2)) rfl h6).trans ?_
  refine (e_n 1 (fr' := (66, 32, [some (vR 9 0 0), some (vI x1), some (vI x2), some (vI x3), some (vI x4), l5], [vI x4], σ2)) rfl).trans ?_
  refine (e_t (A := (66, 44, [some (vR 9 0 0), some (vI x1), some (vI x2), some (vI x3), some (vI x4), l5], [], σ2)) rfl h7).trans ?_
  refine (e_n 3 (fr' := (66, 49, [some (vR 9 0 0), some (vI x1), some (vI x2), some (vI x3), some (vI x4), l5], [vI x1, vR 9 0 3], σ2)) rfl).trans ?_
  refine (e_a (A := (66, 50, [some (vR 9 0 0), some (vI x1), some (vI x2), some (vI x3), some (vI x4), l5], [vR 0 (x1).toNatClampNeg 0], σ2)) rfl h8).trans ?_
  refine (e_n 3 (fr' := (66, 54, [some (vR 9 0 0), some (vI x1), some (vI x2), some (vI x3), some (vI x4), l5], [vI x4, vI x3, vI x2, vR 0 (x1).toNatClampNeg 0], σ2)) rfl).trans ?_
  refine (e_ci (m := 66) (pc := 57) (ls := [some (vR 9 0 0), some (vI x1), some (vI x2), some (vI x3), some (vI x4), l5]) (rest := []) rfl h9).trans ?_
  refine (e_f (B := (66, 63, [some (vR 9 0 0), some (vI x1), some (vI x2), some (vI x3), some (vI x4), l5], [], σ3)) rfl h10).trans ?_
  exact e_n 2 rfl
set_option maxRecDepth 20000 in
theorem g66_0_6 (C : pmC) {σ : pmS} {x1 : Int32} {x2 : Int32} {x3 : Int32} {x4 : Int32} {l5 : Option pmV} {σ1 : pmS} {r1 : Int32} {σ2 : pmS} {r2 : Int32} {σ3 : pmS} {r3 : Int32} (h1 : C 88 [vR 9 0 0, vI x1] σ = some (some (vI r1), σ1)) (h2 : ¬ r1 = 0) (h3 : C 86 [vR 9 0 0, vI x3] σ1 = some (some (vI r2), σ2)) (h4 : ¬ r2 = 0) (h5 : ¬ x2 < (1 : Int32)) (h6 : ¬ (999 : Int32) < x2) (h7 : ¬ x4 = 0) (h8 : x4 = (1 : Int32)) (h9 : vp_in x1 3) (h10 : C 0 [vR 0 (x1).toNatClampNeg 0, vI x2, vI x3, vI x4] σ2 = some (some (vI r3), σ3)) (h11 : r3 = 0) : pq_Rn C (66, 0, [some (vR 9 0 0), some (vI x1), some (vI x2), some (vI x3), some (vI x4), l5], [], σ) = some (some (vI (-4 : Int32)), σ3) := by
  refine (e_n 2 (fr' := (66, 2, [some (vR 9 0 0), some (vI x1), some (vI x2), some (vI x3), some (vI x4), l5], [vI x1, vR 9 0 0], σ)) rfl).trans ?_
  refine (e_ci (m := 66) (pc := 5) (ls := [some (vR 9 0 0), some (vI x1), some (vI x2), some (vI x3), some (vI x4), l5]) (rest := []) rfl h1).trans ?_
  refine (e_f (B := (66, 8, [some (vR 9 0 0), some (vI x1), some (vI x2), some (vI x3), some (vI x4), l5], [], σ1)) rfl h2).trans ?_
  refine (e_n 2 (fr' := (66, 10, [some (vR 9 0 0), some (vI x1), some (vI x2), some (vI x3), some (vI x4), l5], [vI x3, vR 9 0 0], σ1)) rfl).trans ?_
  refine (e_ci (m := 66) (pc := 13) (ls := [some (vR 9 0 0), some (vI x1), some (vI x2), some (vI x3), some (vI x4), l5]) (rest := []) rfl h3).trans ?_
  refine (e_f (B := (66, 18, [some (vR 9 0 0), some (vI x1), some (vI x2), some (vI x3), some (vI x4), l5], [], σ2)) rfl h4).trans ?_
  refine (e_n 2 (fr' := (66, 20, [some (vR 9 0 0), some (vI x1), some (vI x2), some (vI x3), some (vI x4), l5], [vI (1 : Int32), vI x2], σ2)) rfl).trans ?_
  refine (e_f (B := (66, 23, [some (vR 9 0 0), some (vI x1), some (vI x2), some (vI x3), some (vI x4), l5], [], σ2)) rfl h5).trans ?_
  refine (e_n 2 (fr' := (66, 27, [some (vR 9 0 0), some (vI x1), some (vI x2), some (vI x3), some (vI x4), l5], [vI (999 : Int32), vI x2], σ2)) rfl).trans ?_
  refine (e_f (B := (66, 30, [some (vR 9 0 0), some (vI x1), some (vI x2), some (vI x3), some (vI x4), l5], [], σ2)) rfl h6).trans ?_
  refine (e_n 1 (fr' := (66, 32, [some (vR 9 0 0), some (vI x1), some (vI x2), some (vI x3), some (vI x4), l5], [vI x4], σ2)) rfl).trans ?_
  refine (e_f (B := (66, 35, [some (vR 9 0 0), some (vI x1), some (vI x2), some (vI x3), some (vI x4), l5], [], σ2)) rfl h7).trans ?_
  refine (e_n 2 (fr' := (66, 38, [some (vR 9 0 0), some (vI x1), some (vI x2), some (vI x3), some (vI x4), l5], [vI (1 : Int32), vI x4], σ2)) rfl).trans ?_
  refine (e_t (A := (66, 44, [some (vR 9 0 0), some (vI x1), some (vI x2), some (vI x3), some (vI x4), l5], [], σ2)) rfl h8).trans ?_
  refine (e_n 3 (fr' := (66, 49, [some (vR 9 0 0), some (vI x1), some (vI x2), some (vI x3), some (vI x4), l5], [vI x1, vR 9 0 3], σ2)) rfl).trans ?_
  refine (e_a (A := (66, 50, [some (vR 9 0 0), some (vI x1), some (vI x2), some (vI x3), some (vI x4), l5], [vR 0 (x1).toNatClampNeg 0], σ2)) rfl h9).trans ?_
  refine (e_n 3 (fr' := (66, 54, [some (vR 9 0 0), some (vI x1), some (vI x2), some (vI x3), some (vI x4), l5], [vI x4, vI x3, vI x2, vR 0 (x1).toNatClampNeg 0], σ2)) rfl).trans ?_
  refine (e_ci (m := 66) (pc := 57) (ls := [some (vR 9 0 0), some (vI x1), some (vI x2), some (vI x3), some (vI x4), l5]) (rest := []) rfl h10).trans ?_
  refine (e_t (A := (66, 60, [some (vR 9 0 0), some (vI x1), some (vI x2), some (vI x3), some (vI x4), l5], [], σ3)) rfl h11).trans ?_
  refine (e_n 1 (fr' := (66, 62, [some (vR 9 0 0), some (vI x1), some (vI x2), some (vI x3), some (vI x4), l5], [vI (-4 : Int32)], σ3)) rfl).trans ?_
  exact e_r rfl
set_option maxRecDepth 20000 in
theorem g66_0_7 (C : pmC) {σ : pmS} {x1 : Int32} {x2 : Int32} {x3 : Int32} {x4 : Int32} {l5 : Option pmV} {σ1 : pmS} {r1 : Int32} {σ2 : pmS} {r2 : Int32} {σ3 : pmS} {r3 : Int32} (h1 : C 88 [vR 9 0 0, vI x1] σ = some (some (vI r1), σ1)) (h2 : ¬ r1 = 0) (h3 : C 86 [vR 9 0 0, vI x3] σ1 = some (some (vI r2), σ2)) (h4 : ¬ r2 = 0) (h5 : ¬ x2 < (1 : Int32)) (h6 : ¬ (999 : Int32) < x2) (h7 : ¬ x4 = 0) (h8 : x4 = (1 : Int32)) (h9 : vp_in x1 3) (h10 : C 0 [vR 0 (x1).toNatClampNeg 0, vI x2, vI x3, vI x4] σ2 = some (some (vI r3), σ3)) (h11 : ¬ r3 = 0) : pq_Rn C (66, 0, [some (vR 9 0 0), some (vI x1), some (vI x2), some (vI x3), some (vI x4), l5], [], σ) = pq_Rn C (66, 66, [some (vR 9 0 0), some (vI x1), some (vI x2), some (vI x3), some (vI x4), some (vI (0 : Int32))], [], σ3) := by
  refine (e_n 2 (fr' := (66, 2, [some (vR 9 0 0), some (vI x1), some (vI x2), some (vI x3), some (vI x4), l5], [vI x1, vR 9 0 0], σ)) rfl).trans ?_
  refine (e_ci (m := 66) (pc := 5) (ls := [some (vR 9 0 0), some (vI x1), some (vI x2), some (vI x3), some (vI x4), l5]) (rest := []) rfl h1).trans ?_
  refine (e_f (B := (66, 8, [some (vR 9 0 0), some (vI x1), some (vI x2), some (vI x3), some (vI x4), l5], [], σ1)) rfl h2).trans ?_
  refine (e_n 2 (fr' := (66, 10, [some (vR 9 0 0), some (vI x1), some (vI x2), some (vI x3), some (vI x4), l5], [vI x3, vR 9 0 0], σ1)) rfl).trans ?_
  refine (e_ci (m := 66) (pc := 13) (ls := [some (vR 9 0 0), some (vI x1), some (vI x2), some (vI x3), some (vI x4), l5]) (rest := []) rfl h3).trans ?_
  refine (e_f (B := (66, 18, [some (vR 9 0 0), some (vI x1), some (vI x2), some (vI x3), some (vI x4), l5], [], σ2)) rfl h4).trans ?_
  refine (e_n 2 (fr' := (66, 20, [some (vR 9 0 0), some (vI x1), some (vI x2), some (vI x3), some (vI x4), l5], [vI (1 : Int32), vI x2], σ2)) rfl).trans ?_
  refine (e_f (B := (66, 23, [some (vR 9 0 0), some (vI x1), some (vI x2), some (vI x3), some (vI x4), l5], [], σ2)) rfl h5).trans ?_
  refine (e_n 2 (fr' := (66, 27, [some (vR 9 0 0), some (vI x1), some (vI x2), some (vI x3), some (vI x4), l5], [vI (999 : Int32), vI x2], σ2)) rfl).trans ?_
  refine (e_f (B := (66, 30, [some (vR 9 0 0), some (vI x1), some (vI x2), some (vI x3), some (vI x4), l5], [], σ2)) rfl h6).trans ?_
  refine (e_n 1 (fr' := (66, 32, [some (vR 9 0 0), some (vI x1), some (vI x2), some (vI x3), some (vI x4), l5], [vI x4], σ2)) rfl).trans ?_
  refine (e_f (B := (66, 35, [some (vR 9 0 0), some (vI x1), some (vI x2), some (vI x3), some (vI x4), l5], [], σ2)) rfl h7).trans ?_
  refine (e_n 2 (fr' := (66, 38, [some (vR 9 0 0), some (vI x1), some (vI x2), some (vI x3), some (vI x4), l5], [vI (1 : Int32), vI x4], σ2)) rfl).trans ?_
  refine (e_t (A := (66, 44, [some (vR 9 0 0), some (vI x1), some (vI x2), some (vI x3), some (vI x4), l5], [], σ2)) rfl h8).trans ?_
  refine (e_n 3 (fr' := (66, 49, [some (vR 9 0 0), some (vI x1), some (vI x2), some (vI x3), some (vI x4), l5], [vI x1, vR 9 0 3], σ2)) rfl).trans ?_
  refine (e_a (A := (66, 50, [some (vR 9 0 0), some (vI x1), some (vI x2), some (vI x3), some (vI x4), l5], [vR 0 (x1).toNatClampNeg 0], σ2)) rfl h9).trans ?_
  refine (e_n 3 (fr' := (66, 54, [some (vR 9 0 0), some (vI x1), some (vI x2), some (vI x3), some (vI x4), l5], [vI x4, vI x3, vI x2, vR 0 (x1).toNatClampNeg 0], σ2)) rfl).trans ?_
  refine (e_ci (m := 66) (pc := 57) (ls := [some (vR 9 0 0), some (vI x1), some (vI x2), some (vI x3), some (vI x4), l5]) (rest := []) rfl h10).trans ?_
  refine (e_f (B := (66, 63, [some (vR 9 0 0), some (vI x1), some (vI x2), some (vI x3), some (vI x4), l5], [], σ3)) rfl h11).trans ?_
  exact e_n 2 rfl
set_option maxRecDepth 20000 in
theorem g66_0_8 (C : pmC) {σ : pmS} {x1 : Int32} {x2 : Int32} {x3 : Int32} {x4 : Int32} {l5 : Option pmV} {σ1 : pmS} {r1 : Int32} {σ2 : pmS} {r2 : Int32} (h1 : C 88 [vR 9 0 0, vI x1] σ = some (some (vI r1), σ1)) (h2 : ¬ r1 = 0) (h3 : C 86 [vR 9 0 0, vI x3] σ1 = some (some (vI r2), σ2)) (h4 : ¬ r2 = 0) (h5 : ¬ x2 < (1 : Int32)) (h6 : ¬ (999 : Int32) < x2) (h7 : ¬ x4 = 0) (h8 : ¬ x4 = (1 : Int32)) : pq_Rn C (66, 0, [some (vR 9 0 0), some (vI x1), some (vI x2), some (vI x3), some (vI x4), l5], [], σ) = some (some (vI (-2 : Int32)), σ2) := by
  refine (e_n 2 (fr' := (66, 2, [some (vR 9 0 0), some (vI x1), some (vI x2), some (vI x3), some (vI x4), l5], [vI x1, vR 9 0 0], σ)) rfl).trans ?_
  refine (e_ci (m := 66) (pc := 5) (ls := [some (vR 9 0 0), some (vI x1), some (vI x2), some (vI x3), some (vI x4), l5]) (rest := []) rfl h1).trans ?_
  refine (e_f (B := (66, 8, [some (vR 9 0 0), some (vI x1), some (vI x2), some (vI x3), some (vI x4), l5], [], σ1)) rfl h2).trans ?_
  refine (e_n 2 (fr' := (66, 10, [some (vR 9 0 0), some (vI x1), some (vI x2), some (vI x3), some (vI x4), l5], [vI x3, vR 9 0 0], σ1)) rfl).trans ?_
  refine (e_ci (m := 66) (pc := 13) (ls := [some (vR 9 0 0), some (vI x1), some (vI x2), some (vI x3), some (vI x4), l5]) (rest := []) rfl h3).trans ?_
  refine (e_f (B := (66, 18, [some (vR 9 0 0), some (vI x1), some (vI x2), some (vI x3), some (vI x4), l5], [], σ2)) rfl h4).trans ?_
  refine (e_n 2 (fr' := (66, 20, [some (vR 9 0 0), some (vI x1), some (vI x2), some (vI x3), some (vI x4), l5], [vI (1 : Int32), vI x2], σ2)) rfl).trans ?_
  refine (e_f (B := (66, 23, [some (vR 9 0 0), some (vI x1), some (vI x2), some (vI x3), some (vI x4), l5], [], σ2)) rfl h5).trans ?_
  refine (e_n 2 (fr' := (66, 27, [some (vR 9 0 0), some (vI x1), some (vI x2), some (vI x3), some (vI x4), l5], [vI (999 : Int32), vI x2], σ2)) rfl).trans ?_
  refine (e_f (B := (66, 30, [some (vR 9 0 0), some (vI x1), some (vI x2), some (vI x3), some (vI x4), l5], [], σ2)) rfl h6).trans ?_
  refine (e_n 1 (fr' := (66, 32, [some (vR 9 0 0), some (vI x1), some (vI x2), some (vI x3), some (vI x4), l5], [vI x4], σ2)) rfl).trans ?_
  refine (e_f (B := (66, 35, [some (vR 9 0 0), some (vI x1), some (vI x2), some (vI x3), some (vI x4), l5], [], σ2)) rfl h7).trans ?_
  refine (e_n 2 (fr' := (66, 38, [some (vR 9 0 0), some (vI x1), some (vI x2), some (vI x3), some (vI x4), l5], [vI (1 : Int32), vI x4], σ2)) rfl).trans ?_
  refine (e_f (B := (66, 41, [some (vR 9 0 0), some (vI x1), some (vI x2), some (vI x3), some (vI x4), l5], [], σ2)) rfl h8).trans ?_
  refine (e_n 1 (fr' := (66, 43, [some (vR 9 0 0), some (vI x1), some (vI x2), some (vI x3), some (vI x4), l5], [vI (-2 : Int32)], σ2)) rfl).trans ?_
  exact e_r rfl
set_option maxRecDepth 20000 in
theorem g66_66_0 (C : pmC) {σ : pmS} {x1 : Int32} {l2 : Option pmV} {l3 : Option pmV} {l4 : Option pmV} {x5 : Int32} (h1 : (σ.1 5 0 9 0) ≤ x5) (h2 : vp_in x1 3) : pq_Rn C (66, 66, [some (vR 9 0 0), some (vI x1), l2, l3, l4, some (vI x5)], [], σ) = some (some (vI (σ.1 0 (x1).toNatClampNeg 3 0)), σ) := by
  refine (e_n 4 (fr' := (66, 75, [some (vR 9 0 0), some (vI x1), l2, l3, l4, some (vI x5)], [vI (σ.1 5 0 9 0), vI x5], σ)) rfl).trans ?_
  refine (e_t (A := (66, 90, [some (vR 9 0 0), some (vI x1), l2, l3, l4, some (vI x5)], [], σ)) rfl h1).trans ?_
  refine (e_n 3 (fr' := (66, 95, [some (vR 9 0 0), some (vI x1), l2, l3, l4, some (vI x5)], [vI x1, vR 9 0 3], σ)) rfl).trans ?_
  refine (e_a (A := (66, 96, [some (vR 9 0 0), some (vI x1), l2, l3, l4, some (vI x5)], [vR 0 (x1).toNatClampNeg 0], σ)) rfl h2).trans ?_
  refine (e_n 1 (fr' := (66, 99, [some (vR 9 0 0), some (vI x1), l2, l3, l4, some (vI x5)], [vI (σ.1 0 (x1).toNatClampNeg 3 0)], σ)) rfl).trans ?_
  exact e_r rfl
set_option maxRecDepth 20000 in
theorem g66_66_1 (C : pmC) {σ : pmS} {x1 : Int32} {l2 : Option pmV} {l3 : Option pmV} {l4 : Option pmV} {x5 : Int32} {σ1 : pmS} (h1 : ¬ (σ.1 5 0 9 0) ≤ x5) (h2 : C 95 [vR 9 0 0, vI x5] σ = some (none, σ1)) : pq_Rn C (66, 66, [some (vR 9 0 0), some (vI x1), l2, l3, l4, some (vI x5)], [], σ) = pq_Rn C (66, 66, [some (vR 9 0 0), some (vI x1), l2, l3, l4, some (vI (x5 + (1 : Int32)))], [], σ1) := by
  refine (e_n 4 (fr' := (66, 75, [some (vR 9 0 0), some (vI x1), l2, l3, l4, some (vI x5)], [vI (σ.1 5 0 9 0), vI x5], σ)) rfl).trans ?_
  refine (e_f (B := (66, 78, [some (vR 9 0 0), some (vI x1), l2, l3, l4, some (vI x5)], [], σ)) rfl h1).trans ?_
  refine (e_n 2 (fr' := (66, 81, [some (vR 9 0 0), some (vI x1), l2, l3, l4, some (vI x5)], [vI x5, vR 9 0 0], σ)) rfl).trans ?_
  refine (e_cv (m := 66) (pc := 84) (ls := [some (vR 9 0 0), some (vI x1), l2, l3, l4, some (vI x5)]) (rest := []) rfl h2).trans ?_
  exact e_n 2 rfl
set_option maxRecDepth 20000 in
theorem g67_0_0 (C : pmC) {σ : pmS} {x1 : Int32} {x2 : Int32} {x3 : Int32} {x4 : Int32} {l5 : Option pmV} {σ1 : pmS} {r1 : Int32} (h1 : C 88 [vR 9 0 0, vI x3] σ = some (some (vI r1), σ1)) (h2 : r1 = 0) : pq_Rn C (67, 0, [some (vR 9 0 0), some (vI x1), some (vI x2), some (vI x3), some (vI x4), l5], [], σ) = some (some (vI (-1 : Int32)), σ1) := by
  refine (e_n 2 (fr' := (67, 2, [some (vR 9 0 0), some (vI x1), some (vI x2), some (vI x3), some (vI x4), l5], [vI x3, vR 9 0 0], σ)) rfl).trans ?_
  refine (e_ci (m := 67) (pc := 5) (ls := [some (vR 9 0 0), some (vI x1), some (vI x2), some (vI x3), some (vI x4), l5]) (rest := []) rfl h1).trans ?_
  refine (e_t (A := (67, 15, [some (vR 9 0 0), some (vI x1), some (vI x2), some (vI x3), some (vI x4), l5], [], σ1)) rfl h2).trans ?_
  refine (e_n 1 (fr' := (67, 16, [some (vR 9 0 0), some (vI x1), some (vI x2), some (vI x3), some (vI x4), l5], [vI (-1 : Int32)], σ1)) rfl).trans ?_
  exact e_r rfl
set_option maxRecDepth 20000 in
theorem g67_0_1 (C : pmC) {σ : pmS} {x1 : Int32} {x2 : Int32} {x3 : Int32} {x4 : Int32} {l5 : Option pmV} {σ1 : pmS} {r1 : Int32} {σ2 : pmS} {r2 : Int32} (h1 : C 88 [vR 9 0 0, vI x3] σ = some (some (vI r1), σ1)) (h2 : ¬ r1 = 0) (h3 : C 89 [vI x1] σ1 = some (some (vI r2), σ2)) (h4 : r2 = 0) : pq_Rn C (67, 0, [some (vR 9 0 0), some (vI x1), some (vI x2), some (vI x3), some (vI x4), l5], [], σ) = some (some (vI (-1 : Int32)), σ2) := by
  refine (e_n 2 (fr' := (67, 2, [some (vR 9 0 0), some (vI x1), some (vI x2), some (vI x3), some (vI x4), l5], [vI x3, vR 9 0 0], σ)) rfl).trans ?_
  refine (e_ci (m := 67) (pc := 5) (ls := [some (vR 9 0 0), some (vI x1), some (vI x2), some (vI x3), some (vI x4), l5]) (rest := []) rfl h1).trans ?_
  refine (e_f (B := (67, 8, [some (vR 9 0 0), some (vI x1), some (vI x2), some (vI x3), some (vI x4), l5], [], σ1)) rfl h2).trans ?_
  refine (e_n 1 (fr' := (67, 9, [some (vR 9 0 0), some (vI x1), some (vI x2), some (vI x3), some (vI x4), l5], [vI x1], σ1)) rfl).trans ?_
  refine (e_ci (m := 67) (pc := 12) (ls := [some (vR 9 0 0), some (vI x1), some (vI x2), some (vI x3), some (vI x4), l5]) (rest := []) rfl h3).trans ?_
  refine (e_t (A := (67, 15, [some (vR 9 0 0), some (vI x1), some (vI x2), some (vI x3), some (vI x4), l5], [], σ2)) rfl h4).trans ?_
  refine (e_n 1 (fr' := (67, 16, [some (vR 9 0 0), some (vI x1), some (vI x2), some (vI x3), some (vI x4), l5], [vI (-1 : Int32)], σ2)) rfl).trans ?_
  exact e_r rfl
set_option maxRecDepth 20000 in
theorem g67_0_2 (C : pmC) {σ : pmS} {x1 : Int32} {x2 : Int32} {x3 : Int32} {x4 : Int32} {l5 : Option pmV} {σ1 : pmS} {r1 : Int32} {σ2 : pmS} {r2 : Int32} {σ3 : pmS} {r3 : Int32} (h1 : C 88 [vR 9 0 0, vI x3] σ = some (some (vI r1), σ1)) (h2 : ¬ r1 = 0) (h3 : C 89 [vI x1] σ1 = some (some (vI r2), σ2)) (h4 : ¬ r2 = 0) (h5 : x4 = (-1 : Int32)) (h6 : C 90 [vI x2] σ2 = some (some (vI r3), σ3)) (h7 : r3 = 0) : pq_Rn C (67, 0, [some (vR 9 0 0), some (vI x1), some (vI x2), some (vI x3), some (vI x4), l5], [], σ) = some (some (vI (-2 : Int32)), σ3) := by
  refine (e_n 2 (fr' := (67, 2, [some (vR 9 0 0), some (vI x1), some (vI x2), some (vI x3), some (vI x4), l5], [vI x3, vR 9 0 0], σ)) rfl).trans ?_
  refine (e_ci (m := 67) (pc := 5) (ls := [some (vR 9 0 0), some (vI x1), some (vI x2), some (vI x3), some (vI x4), l5]) (rest := []) rfl h1).trans ?_
  refine (e_f (B := (67, 8, [some (vR 9 0 0), some (vI x1), some (vI x2), some (vI x3), some (vI x4), l5], [], σ1)) rfl h2).trans ?_
  refine (e_n 1 (fr' := (67, 9, [some (vR 9 0 0), some (vI x1), some (vI x2), some (vI x3), some (vI x4), l5], [vI x1], σ1)) rfl).trans ?_
  refine (e_ci (m := 67) (pc := 12) (ls := [some (vR 9 0 0), some (vI x1), some (vI x2), some (vI x3), some (vI x4), l5]) (rest := []) rfl h3).trans ?_
  refine (e_f (B := (67, 17, [some (vR 9 0 0), some (vI x1), some (vI x2), some (vI x3), some (vI x4), l5], [], σ2)) rfl h4).trans ?_
  refine (e_n 2 (fr' := (67, 20, [some (vR 9 0 0), some (vI x1), some (vI x2), some (vI x3), some (vI x4), l5], [vI (-1 : Int32), vI x4], σ2)) rfl).trans ?_
  refine (e_t (A := (67, 40, [some (vR 9 0 0), some (vI x1), some (vI x2), some (vI x3), some (vI x4), l5], [], σ2)) rfl h5).trans ?_
  refine (e_n 1 (fr' := (67, 41, [some (vR 9 0 0), some (vI x1), some (vI x2), some (vI x3), some (vI x4), l5], [vI x2], σ2)) rfl).trans ?_
  refine (e_ci (m := 67) (pc := 44) (ls := [some (vR 9 0 0), some (vI x1), some (vI x2), some (vI x3), some (vI x4), l5]) (rest := []) rfl h6).trans ?_
  refine (e_t (A := (67, 47, [some (vR 9 0 0), some (vI x1), some (vI x2), some (vI x3), some (vI x4), l5], [], σ3)) rfl h7).trans ?_
  refine (e_n 1 (fr' := (67, 49, [some (vR 9 0 0), some (vI x1), some (vI x2), some (vI x3), some (vI x4), l5], [vI (-2 : Int32)], σ3)) rfl).trans ?_
  exact e_r rfl
set_option maxRecDepth 20000 in
theorem g67_0_3 (C : pmC) {σ : pmS} {x1 : Int32} {x2 : Int32} {x3 : Int32} {x4 : Int32} {l5 : Option pmV} {σ1 : pmS} {r1 : Int32} {σ2 : pmS} {r2 : Int32} {σ3 : pmS} {r3 : Int32} {σ4 : pmS} {r4 : Int32} {σ5 : pmS} (h1 : C 88 [vR 9 0 0, vI x3] σ = some (some (vI r1), σ1)) (h2 : ¬ r1 = 0) (h3 : C 89 [vI x1] σ1 = some (some (vI r2), σ2)) (h4 : ¬ r2 = 0) (h5 : x4 = (-1 : Int32)) (h6 : C 90 [vI x2] σ2 = some (some (vI r3), σ3)) (h7 : ¬ r3 = 0) (h8 : (σ3.1 5 0 9 0) < (48 : Int32)) (h9 : C 31 [vR 5 0 0, vI x1, vI x2, vI x3] σ3 = some (some (vI r4), σ4)) (h10 : vp_in r4 48) (h11 : C 95 [vR 9 0 0, vI r4] (pm_wi σ4 5 0 6 (r4).toNatClampNeg x4) = some (none, σ5)) : pq_Rn C (67, 0, [some (vR 9 0 0), some (vI x1), some (vI x2), some (vI x3), some (vI x4), l5], [], σ) = some (some (vI r4), σ5) := by
  refine (e_n 2 (fr' := (67, 2, [some (vR 9 0 0), some (vI x1), some (vI x2), some (vI x3), some (vI x4), l5], [vI x3, vR 9 0 0], σ)) rfl).trans ?_
  refine (e_ci (m := 67) (pc := 5) (ls := [some (vR 9 0 0), some (vI x1), some (vI x2), some (vI x3), some (vI x4), l5]) (rest := []) rfl h1).trans ?_
  refine (e_f (B := (67, 8, [some (vR 9 0 0), some (vI x1), some (vI x2), some (vI x3), some (vI x4), l5], [], σ1)) rfl h2).trans ?_
  refine (e_n 1 (fr' := (67, 9, [some (vR 9 0 0), some (vI x1), some (vI x2), some (vI x3), some (vI x4), l5], [vI x1], σ1)) rfl).trans ?_
  refine (e_ci (m := 67) (pc := 12) (ls := [some (vR 9 0 0), some (vI x1), some (vI x2), some (vI x3), some (vI x4), l5]) (rest := []) rfl h3).trans ?_
  refine (e_f (B := (67, 17, [some (vR 9 0 0), some (vI x1), some (vI x2), some (vI x3), some (vI x4), l5], [], σ2)) rfl h4).trans ?_
  refine (e_n 2 (fr' := (67, 20, [some (vR 9 0 0), some (vI x1), some (vI x2), some (vI x3), some (vI x4), l5], [vI (-1 : Int32), vI x4], σ2)) rfl).trans ?_
  refine (e_t (A := (67, 40, [some (vR 9 0 0), some (vI x1), some (vI x2), some (vI x3), some (vI x4), l5], [], σ2)) rfl h5).trans ?_
  refine (e_n 1 (fr' := (67, 41, [some (vR 9 0 0), some (vI x1), some (vI x2), some (vI x3), some (vI x4), l5], [vI x2], σ2)) rfl).trans ?_
  refine (e_ci (m := 67) (pc := 44) (ls := [some (vR 9 0 0), some (vI x1), some (vI x2), some (vI x3), some (vI x4), l5]) (rest := []) rfl h6).trans ?_
  refine (e_f (B := (67, 50, [some (vR 9 0 0), some (vI x1), some (vI x2), some (vI x3), some (vI x4), l5], [], σ3)) rfl h7).trans ?_
  refine (e_n 4 (fr' := (67, 59, [some (vR 9 0 0), some (vI x1), some (vI x2), some (vI x3), some (vI x4), l5], [vI (48 : Int32), vI (σ3.1 5 0 9 0)], σ3)) rfl).trans ?_
  refine (e_t (A := (67, 65, [some (vR 9 0 0), some (vI x1), some (vI x2), some (vI x3), some (vI x4), l5], [], σ3)) rfl h8).trans ?_
  refine (e_n 5 (fr' := (67, 72, [some (vR 9 0 0), some (vI x1), some (vI x2), some (vI x3), some (vI x4), l5], [vI x3, vI x2, vI x1, vR 5 0 0], σ3)) rfl).trans ?_
  refine (e_ci (m := 67) (pc := 75) (ls := [some (vR 9 0 0), some (vI x1), some (vI x2), some (vI x3), some (vI x4), l5]) (rest := []) rfl h9).trans ?_
  refine (e_n 6 (fr' := (67, 88, [some (vR 9 0 0), some (vI x1), some (vI x2), some (vI x3), some (vI x4), some (vI r4)], [vI x4, vI r4, vR 5 0 7], σ4)) rfl).trans ?_
  refine (e_a (A := (67, 89, [some (vR 9 0 0), some (vI x1), some (vI x2), some (vI x3), some (vI x4), some (vI r4)], [], (pm_wi σ4 5 0 6 (r4).toNatClampNeg x4))) rfl h10).trans ?_
  refine (e_n 2 (fr' := (67, 92, [some (vR 9 0 0), some (vI x1), some (vI x2), some (vI x3), some (vI x4), some (vI r4)], [vI r4, vR 9 0 0], (pm_wi σ4 5 0 6 (r4).toNatClampNeg x4))) rfl).trans ?_
  refine (e_cv (m := 67) (pc := 95) (ls := [some (vR 9 0 0), some (vI x1), some (vI x2), some (vI x3), some (vI x4), some (vI r4)]) (rest := []) rfl h11).trans ?_
  refine (e_n 1 (fr' := (67, 97, [some (vR 9 0 0), some (vI x1), some (vI x2), some (vI x3), some (vI x4), some (vI r4)], [vI r4], σ5)) rfl).trans ?_
  exact e_r rfl
set_option maxRecDepth 20000 in
theorem g67_0_4 (C : pmC) {σ : pmS} {x1 : Int32} {x2 : Int32} {x3 : Int32} {x4 : Int32} {l5 : Option pmV} {σ1 : pmS} {r1 : Int32} {σ2 : pmS} {r2 : Int32} {σ3 : pmS} {r3 : Int32} (h1 : C 88 [vR 9 0 0, vI x3] σ = some (some (vI r1), σ1)) (h2 : ¬ r1 = 0) (h3 : C 89 [vI x1] σ1 = some (some (vI r2), σ2)) (h4 : ¬ r2 = 0) (h5 : x4 = (-1 : Int32)) (h6 : C 90 [vI x2] σ2 = some (some (vI r3), σ3)) (h7 : ¬ r3 = 0) (h8 : ¬ (σ3.1 5 0 9 0) < (48 : Int32)) : pq_Rn C (67, 0, [some (vR 9 0 0), some (vI x1), some (vI x2), some (vI x3), some (vI x4), l5], [], σ) = some (some (vI (-4 : Int32)), σ3) := by
  refine (e_n 2 (fr' := (67, 2, [some (vR 9 0 0), some (vI x1), some (vI x2), some (vI x3), some (vI x4), l5], [vI x3, vR 9 0 0], σ)) rfl).trans ?_
  refine (e_ci (m := 67) (pc := 5) (ls := [some (vR 9 0 0), some (vI x1), some (vI x2), some (vI x3), some (vI x4), l5]) (rest := []) rfl h1).trans ?_
  refine (e_f (B := (67, 8, [some (vR 9 0 0), some (vI x1), some (vI x2), some (vI x3), some (vI x4), l5], [], σ1)) rfl h2).trans ?_
  refine (e_n 1 (fr' := (67, 9, [some (vR 9 0 0), some (vI x1), some (vI x2), some (vI x3), some (vI x4), l5], [vI x1], σ1)) rfl).trans ?_
  refine (e_ci (m := 67) (pc := 12) (ls := [some (vR 9 0 0), some (vI x1), some (vI x2), some (vI x3), some (vI x4), l5]) (rest := []) rfl h3).trans ?_
  refine (e_f (B := (67, 17, [some (vR 9 0 0), some (vI x1), some (vI x2), some (vI x3), some (vI x4), l5], [], σ2)) rfl h4).trans ?_
  refine (e_n 2 (fr' := (67, 20, [some (vR 9 0 0), some (vI x1), some (vI x2), some (vI x3), some (vI x4), l5], [vI (-1 : Int32), vI x4], σ2)) rfl).trans ?_
  refine (e_t (A := (67, 40, [some (vR 9 0 0), some (vI x1), some (vI x2), some (vI x3), some (vI x4), l5], [], σ2)) rfl h5).trans ?_
  refine (e_n 1 (fr' := (67, 41, [some (vR 9 0 0), some (vI x1), some (vI x2), some (vI x3), some (vI x4), l5], [vI x2], σ2)) rfl).trans ?_
  refine (e_ci (m := 67) (pc := 44) (ls := [some (vR 9 0 0), some (vI x1), some (vI x2), some (vI x3), some (vI x4), l5]) (rest := []) rfl h6).trans ?_
  refine (e_f (B := (67, 50, [some (vR 9 0 0), some (vI x1), some (vI x2), some (vI x3), some (vI x4), l5], [], σ3)) rfl h7).trans ?_
  refine (e_n 4 (fr' := (67, 59, [some (vR 9 0 0), some (vI x1), some (vI x2), some (vI x3), some (vI x4), l5], [vI (48 : Int32), vI (σ3.1 5 0 9 0)], σ3)) rfl).trans ?_
  refine (e_f (B := (67, 62, [some (vR 9 0 0), some (vI x1), some (vI x2), some (vI x3), some (vI x4), l5], [], σ3)) rfl h8).trans ?_
  refine (e_n 1 (fr' := (67, 64, [some (vR 9 0 0), some (vI x1), some (vI x2), some (vI x3), some (vI x4), l5], [vI (-4 : Int32)], σ3)) rfl).trans ?_
  exact e_r rfl
set_option maxRecDepth 20000 in
theorem g67_0_5 (C : pmC) {σ : pmS} {x1 : Int32} {x2 : Int32} {x3 : Int32} {x4 : Int32} {l5 : Option pmV} {σ1 : pmS} {r1 : Int32} {σ2 : pmS} {r2 : Int32} {σ3 : pmS} {r3 : Int32} {σ4 : pmS} {r4 : Int32} (h1 : C 88 [vR 9 0 0, vI x3] σ = some (some (vI r1), σ1)) (h2 : ¬ r1 = 0) (h3 : C 89 [vI x1] σ1 = some (some (vI r2), σ2)) (h4 : ¬ r2 = 0) (h5 : ¬ x4 = (-1 : Int32)) (h6 : C 92 [vR 9 0 0, vI x3, vI x2] σ2 = some (some (vI r3), σ3)) (h7 : C 87 [vR 9 0 0, vI r3, vI x4] σ3 = some (some (vI r4), σ4)) (h8 : r4 = 0) : pq_Rn C (67, 0, [some (vR 9 0 0), some (vI x1), some (vI x2), some (vI x3), some (vI x4), l5], [], σ) = some (some (vI (-1 : Int32)), σ4) := by
  refine (e_n 2 (fr' := (67, 2, [some (vR 9 0 0), some (vI x1), some (vI x2), some (vI x3), some (vI x4), l5], [vI x3, vR 9 0 0], σ)) rfl).trans ?_
  refine (e_ci (m := 67) (pc := 5) (ls := [some (vR 9 0 0), some (vI x1), some (vI x2), some (vI x3), some (vI x4), l5]) (rest := []) rfl h1).trans ?_
  refine (e_f (B := (67, 8, [some (vR 9 0 0), some (vI x1), some (vI x2), some (vI x3), some (vI x4), l5], [], σ1)) rfl h2).trans ?_
  refine (e_n 1 (fr' := (67, 9, [some (vR 9 0 0), some (vI x1), some (vI x2), some (vI x3), some (vI x4), l5], [vI x1], σ1)) rfl).trans ?_
  refine (e_ci (m := 67) (pc := 12) (ls := [some (vR 9 0 0), some (vI x1), some (vI x2), some (vI x3), some (vI x4), l5]) (rest := []) rfl h3).trans ?_
  refine (e_f (B := (67, 17, [some (vR 9 0 0), some (vI x1), some (vI x2), some (vI x3), some (vI x4), l5], [], σ2)) rfl h4).trans ?_
  refine (e_n 2 (fr' := (67, 20, [some (vR 9 0 0), some (vI x1), some (vI x2), some (vI x3), some (vI x4), l5], [vI (-1 : Int32), vI x4], σ2)) rfl).trans ?_
  refine (e_f (B := (67, 23, [some (vR 9 0 0), some (vI x1), some (vI x2), some (vI x3), some (vI x4), l5], [], σ2)) rfl h5).trans ?_
  refine (e_n 4 (fr' := (67, 27, [some (vR 9 0 0), some (vI x1), some (vI x2), some (vI x3), some (vI x4), l5], [vI x2, vI x3, vR 9 0 0, vR 9 0 0], σ2)) rfl).trans ?_
  refine (e_ci (m := 67) (pc := 30) (ls := [some (vR 9 0 0), some (vI x1), some (vI x2), some (vI x3), some (vI x4), l5]) (rest := [vR 9 0 0]) rfl h6).trans ?_
  refine (e_n 1 (fr' := (67, 32, [some (vR 9 0 0), some (vI x1), some (vI x2), some (vI x3), some (vI x4), l5], [vI x4, vI r3, vR 9 0 0], σ3)) rfl).trans ?_
  refine (e_ci (m := 67) (pc := 35) (ls := [some (vR 9 0 0), some (vI x1), some (vI x2), some (vI x3), some (vI x4), l5]) (rest := []) rfl h7).trans ?_
  refine (e_t (A := (67, 38, [some (vR 9 0 0), some (vI x1), some (vI x2), some (vI x3), some (vI x4), l5], [], σ4)) rfl h8).trans ?_
  refine (e_n 1 (fr' := (67, 39, [some (vR 9 0 0), some (vI x1), some (vI x2), some (vI x3), some (vI x4), l5], [vI (-1 : Int32)], σ4)) rfl).trans ?_
  exact e_r rfl
set_option maxRecDepth 20000 in
theorem g67_0_6 (C : pmC) {σ : pmS} {x1 : Int32} {x2 : Int32} {x3 : Int32} {x4 : Int32} {l5 : Option pmV} {σ1 : pmS} {r1 : Int32} {σ2 : pmS} {r2 : Int32} {σ3 : pmS} {r3 : Int32} {σ4 : pmS} {r4 : Int32} {σ5 : pmS} {r5 : Int32} (h1 : C 88 [vR 9 0 0, vI x3] σ = some (some (vI r1), σ1)) (h2 : ¬ r1 = 0) (h3 : C 89 [vI x1] σ1 = some (some (vI r2), σ2)) (h4 : ¬ r2 = 0) (h5 : ¬ x4 = (-1 : Int32)) (h6 : C 92 [vR 9 0 0, vI x3, vI x2] σ2 = some (some (vI r3), σ3)) (h7 : C 87 [vR 9 0 0, vI r3, vI x4] σ3 = some (some (vI r4), σ4)) (h8 : ¬ r4 = 0) (h9 : C 90 [vI x2] σ4 = some (some (vI r5), σ5)) (h10 : r5 = 0) : pq_Rn C (67, 0, [some (vR 9 0 0), some (vI x1), some (vI x2), some (vI x3), some (vI x4), l5], [], σ) = some (some (vI (-2 : Int32)), σ5) := by
  refine (e_n 2 (fr' := (67, 2, [some (vR 9 0 0), some (vI x1), some (vI x2), some (vI x3), some (vI x4), l5], [vI x3, vR 9 0 0], σ)) rfl).trans ?_
  refine (e_ci (m := 67) (pc := 5) (ls := [some (vR 9 0 0), some (vI x1), some (vI x2), some (vI x3), some (vI x4), l5]) (rest := []) rfl h1).trans ?_
  refine (e_f (B := (67, 8, [some (vR 9 0 0), some (vI x1), some (vI x2), some (vI x3), some (vI x4), l5], [], σ1)) rfl h2).trans ?_
  refine (e_n 1 (fr' := (67, 9, [some (vR 9 0 0), some (vI x1), some (vI x2), some (vI x3), some (vI x4), l5], [vI x1], σ1)) rfl).trans ?_
  refine (e_ci (m := 67) (pc := 12) (ls := [some (vR 9 0 0), some (vI x1), some (vI x2), some (vI x3), some (vI x4), l5]) (rest := []) rfl h3).trans ?_
  refine (e_f (B := (67, 17, [some (vR 9 0 0), some (vI x1), some (vI x2), some (vI x3), some (vI x4), l5], [], σ2)) rfl h4).trans ?_
  refine (e_n 2 (fr' := (67, 20, [some (vR 9 0 0), some (vI x1), some (vI x2), some (vI x3), some (vI x4), l5], [vI (-1 : Int32), vI x4], σ2)) rfl).trans ?_
  refine (e_f (B := (67, 23, [some (vR 9 0 0), some (vI x1), some (vI x2), some (vI x3), some (vI x4), l5], [], σ2)) rfl h5).trans ?_
  refine (e_n 4 (fr' := (67, 27, [some (vR 9 0 0), some (vI x1), some (vI x2), some (vI x3), some (vI x4), l5], [vI x2, vI x3, vR 9 0 0, vR 9 0 0], σ2)) rfl).trans ?_
  refine (e_ci (m := 67) (pc := 30) (ls := [some (vR 9 0 0), some (vI x1), some (vI x2), some (vI x3), some (vI x4), l5]) (rest := [vR 9 0 0]) rfl h6).trans ?_
  refine (e_n 1 (fr' := (67, 32, [some (vR 9 0 0), some (vI x1), some (vI x2), some (vI x3), some (vI x4), l5], [vI x4, vI r3, vR 9 0 0], σ3)) rfl).trans ?_
  refine (e_ci (m := 67) (pc := 35) (ls := [some (vR 9 0 0), some (vI x1), some (vI x2), some (vI x3), some (vI x4), l5]) (rest := []) rfl h7).trans ?_
  refine (e_f (B := (67, 40, [some (vR 9 0 0), some (vI x1), some (vI x2), some (vI x3), some (vI x4), l5], [], σ4)) rfl h8).trans ?_
  refine (e_n 1 (fr' := (67, 41, [some (vR 9 0 0), some (vI x1), some (vI x2), some (vI x3), some (vI x4), l5], [vI x2], σ4)) rfl).trans ?_
  refine (e_ci (m := 67) (pc := 44) (ls := [some (vR 9 0 0), some (vI x1), some (vI x2), some (vI x3), some (vI x4), l5]) (rest := []) rfl h9).trans ?_
  refine (e_t (A := (67, 47, [some (vR 9 0 0), some (vI x1), some (vI x2), some (vI x3), some (vI x4), l5], [], σ5)) rfl h10).trans ?_
  refine (e_n 1 (fr' := (67, 49, [some (vR 9 0 0), some (vI x1), some (vI x2), some (vI x3), some (vI x4), l5], [vI (-2 : Int32)], σ5)) rfl).trans ?_
  exact e_r rfl
set_option maxRecDepth 20000 in
theorem g67_0_7 (C : pmC) {σ : pmS} {x1 : Int32} {x2 : Int32} {x3 : Int32} {x4 : Int32} {l5 : Option pmV} {σ1 : pmS} {r1 : Int32} {σ2 : pmS} {r2 : Int32} {σ3 : pmS} {r3 : Int32} {σ4 : pmS} {r4 : Int32} {σ5 : pmS} {r5 : Int32} {σ6 : pmS} {r6 : Int32} {σ7 : pmS} (h1 : C 88 [vR 9 0 0, vI x3] σ = some (some (vI r1), σ1)) (h2 : ¬ r1 = 0) (h3 : C 89 [vI x1] σ1 = some (some (vI r2), σ2)) (h4 : ¬ r2 = 0) (h5 : ¬ x4 = (-1 : Int32)) (h6 : C 92 [vR 9 0 0, vI x3, vI x2] σ2 = some (some (vI r3), σ3)) (h7 : C 87 [vR 9 0 0, vI r3, vI x4] σ3 = some (some (vI r4), σ4)) (h8 : ¬ r4 = 0) (h9 : C 90 [vI x2] σ4 = some (some (vI r5), σ5)) (h10 : ¬ r5 = 0) (h11 : (σ5.1 5 0 9 0) < (48 : Int32)) (h12 : C 31 [vR 5 0 0, vI x1, vI x2, vI x3] σ5 = some (some (vI r6), σ6)) (h13 : vp_in r6 48) (h14 : C 95 [vR 9 0 0, vI r6] (pm_wi σ6 5 0 6 (r6).toNatClampNeg x4) = some (none, σ7)) : pq_Rn C (67, 0, [some (vR 9 0 0), some (vI x1), some (vI x2), some (vI x3), some (vI x4), l5], [], σ) = some (some (vI r6), σ7) := by
  refine (e_n 2 (fr' := (67, 2, [some (vR 9 0 0), some (vI x1), some (vI x2), some (vI x3), some (vI x4), l5], [vI x3, vR 9 0 0], σ)) rfl).trans ?_
  refine (e_ci (m := 67) (pc := 5) (ls := [some (vR 9 0 0), some (vI x1), some (vI x2), some (vI x3), some (vI x4), l5]) (rest := []) rfl h1).trans ?_
  refine (e_f (B := (67, 8, [some (vR 9 0 0), some (vI x1), some (vI x2), some (vI x3), some (vI x4), l5], [], σ1)) rfl h2).trans ?_
  refine (e_n 1 (fr' := (67, 9, [some (vR 9 0 0), some (vI x1), some (vI x2), some (vI x3), some (vI x4), l5], [vI x1], σ1)) rfl).trans ?_
  refine (e_ci (m := 67) (pc := 12) (ls := [some (vR 9 0 0), some (vI x1), some (vI x2), some (vI x3), some (vI x4), l5]) (rest := []) rfl h3).trans ?_
  refine (e_f (B := (67, 17, [some (vR 9 0 0), some (vI x1), some (vI x2), some (vI x3), some (vI x4), l5], [], σ2)) rfl h4).trans ?_
  refine (e_n 2 (fr' := (67, 20, [some (vR 9 0 0), some (vI x1), some (vI x2), some (vI x3), some (vI x4), l5], [vI (-1 : Int32), vI x4], σ2)) rfl).trans ?_
  refine (e_f (B := (67, 23, [some (vR 9 0 0), some (vI x1), some (vI x2), some (vI x3), some (vI x4), l5], [], σ2)) rfl h5).trans ?_
  refine (e_n 4 (fr' := (67, 27, [some (vR 9 0 0), some (vI x1), some (vI x2), some (vI x3), some (vI x4), l5], [vI x2, vI x3, vR 9 0 0, vR 9 0 0], σ2)) rfl).trans ?_
  refine (e_ci (m := 67) (pc := 30) (ls := [some (vR 9 0 0), some (vI x1), some (vI x2), some (vI x3), some (vI x4), l5]) (rest := [vR 9 0 0]) rfl h6).trans ?_
  refine (e_n 1 (fr' := (67, 32, [some (vR 9 0 0), some (vI x1), some (vI x2), some (vI x3), some (vI x4), l5], [vI x4, vI r3, vR 9 0 0], σ3)) rfl).trans ?_
  refine (e_ci (m := 67) (pc := 35) (ls := [some (vR 9 0 0), some (vI x1), some (vI x2), some (vI x3), some (vI x4), l5]) (rest := []) rfl h7).trans ?_
  refine (e_f (B := (67, 40, [some (vR 9 0 0), some (vI x1), some (vI x2), some (vI x3), some (vI x4), l5], [], σ4)) rfl h8).trans ?_
  refine (e_n 1 (fr' := (67, 41, [some (vR 9 0 0), some (vI x1), some (vI x2), some (vI x3), some (vI x4), l5], [vI x2], σ4)) rfl).trans ?_
  refine (e_ci (m := 67) (pc := 44) (ls := [some (vR 9 0 0), some (vI x1), some (vI x2), some (vI x3), some (vI x4), l5]) (rest := []) rfl h9).trans ?_
  refine (e_f (B := (67, 50, [some (vR 9 0 0), some (vI x1), some (vI x2), some (vI x3), some (vI x4), l5], [], σ5)) rfl h10).trans ?_
  refine (e_n 4 (fr' := (67, 59, [some (vR 9 0 0), some (vI x1), some (vI x2), some (vI x3), some (vI x4), l5], [vI (48 : Int32), vI (σ5.1 5 0 9 0)], σ5)) rfl).trans ?_
  refine (e_t (A := (67, 65, [some (vR 9 0 0), some (vI x1), some (vI x2), some (vI x3), some (vI x4), l5], [], σ5)) rfl h11).trans ?_
  refine (e_n 5 (fr' := (67, 72, [some (vR 9 0 0), some (vI x1), some (vI x2), some (vI x3), some (vI x4), l5], [vI x3, vI x2, vI x1, vR 5 0 0], σ5)) rfl).trans ?_
  refine (e_ci (m := 67) (pc := 75) (ls := [some (vR 9 0 0), some (vI x1), some (vI x2), some (vI x3), some (vI x4), l5]) (rest := []) rfl h12).trans ?_
  refine (e_n 6 (fr' := (67, 88, [some (vR 9 0 0), some (vI x1), some (vI x2), some (vI x3), some (vI x4), some (vI r6)], [vI x4, vI r6, vR 5 0 7], σ6)) rfl).trans ?_
  refine (e_a (A := (67, 89, [some (vR 9 0 0), some (vI x1), some (vI x2), some (vI x3), some (vI x4), some (vI r6)], [], (pm_wi σ6 5 0 6 (r6).toNatClampNeg x4))) rfl h13).trans ?_
  refine (e_n 2 (fr' := (67, 92, [some (vR 9 0 0), some (vI x1), some (vI x2), some (vI x3), some (vI x4), some (vI r6)], [vI r6, vR 9 0 0], (pm_wi σ6 5 0 6 (r6).toNatClampNeg x4))) rfl).trans ?_
  refine (e_cv (m := 67) (pc := 95) (ls := [some (vR 9 0 0), some (vI x1), some (vI x2), some (vI x3), some (vI x4), some (vI r6)]) (rest := []) rfl h14).trans ?_
  refine (e_n 1 (fr' := (67, 97, [some (vR 9 0 0), some (vI x1), some (vI x2), some (vI x3), some (vI x4), some (vI r6)], [vI r6], σ7)) rfl).trans ?_
  exact e_r rfl
set_option maxRecDepth 20000 in
theorem g67_0_8 (C : pmC) {σ : pmS} {x1 : Int32} {x2 : Int32} {x3 : Int32} {x4 : Int32} {l5 : Option pmV} {σ1 : pmS} {r1 : Int32} {σ2 : pmS} {r2 : Int32} {σ3 : pmS} {r3 : Int32} {σ4 : pmS} {r4 : Int32} {σ5 : pmS} {r5 : Int32} (h1 : C 88 [vR 9 0 0, vI x3] σ = some (some (vI r1), σ1)) (h2 : ¬ r1 = 0) (h3 : C 89 [vI x1] σ1 = some (some (vI r2), σ2)) (h4 : ¬ r2 = 0) (h5 : ¬ x4 = (-1 : Int32)) (h6 : C 92 [vR 9 0 0, vI x3, vI x2] σ2 = some (some (vI r3), σ3)) (h7 : C 87 [vR 9 0 0, vI r3, vI x4] σ3 = some (some (vI r4), σ4)) (h8 : ¬ r4 = 0) (h9 : C 90 [vI x2] σ4 = some (some (vI r5), σ5)) (h10 : ¬ r5 = 0) (h11 : ¬ (σ5.1 5 0 9 0) < (48 : Int32)) : pq_Rn C (67, 0, [some (vR 9 0 0), some (vI x1), some (vI x2), some (vI x3), some (vI x4), l5], [], σ) = some (some (vI (-4 : Int32)), σ5) := by
  refine (e_n 2 (fr' := (67, 2, [some (vR 9 0 0), some (vI x1), some (vI x2), some (vI x3), some (vI x4), l5], [vI x3, vR 9 0 0], σ)) rfl).trans ?_
  refine (e_ci (m := 67) (pc := 5) (ls := [some (vR 9 0 0), some (vI x1), some (vI x2), some (vI x3), some (vI x4), l5]) (rest := []) rfl h1).trans ?_
  refine (e_f (B := (67, 8, [some (vR 9 0 0), some (vI x1), some (vI x2), some (vI x3), some (vI x4), l5], [], σ1)) rfl h2).trans ?_
  refine (e_n 1 (fr' := (67, 9, [some (vR 9 0 0), some (vI x1), some (vI x2), some (vI x3), some (vI x4), l5], [vI x1], σ1)) rfl).trans ?_
  refine (e_ci (m := 67) (pc := 12) (ls := [some (vR 9 0 0), some (vI x1), some (vI x2), some (vI x3), some (vI x4), l5]) (rest := []) rfl h3).trans ?_
  refine (e_f (B := (67, 17, [some (vR 9 0 0), some (vI x1), some (vI x2), some (vI x3), some (vI x4), l5], [], σ2)) rfl h4).trans ?_
  refine (e_n 2 (fr' := (67, 20, [some (vR 9 0 0), some (vI x1), some (vI x2), some (vI x3), some (vI x4), l5], [vI (-1 : Int32), vI x4], σ2)) rfl).trans ?_
  refine (e_f (B := (67, 23, [some (vR 9 0 0), some (vI x1), some (vI x2), some (vI x3), some (vI x4), l5], [], σ2)) rfl h5).trans ?_
  refine (e_n 4 (fr' := (67, 27, [some (vR 9 0 0), some (vI x1), some (vI x2), some (vI x3), some (vI x4), l5], [vI x2, vI x3, vR 9 0 0, vR 9 0 0], σ2)) rfl).trans ?_
  refine (e_ci (m := 67) (pc := 30) (ls := [some (vR 9 0 0), some (vI x1), some (vI x2), some (vI x3), some (vI x4), l5]) (rest := [vR 9 0 0]) rfl h6).trans ?_
  refine (e_n 1 (fr' := (67, 32, [some (vR 9 0 0), some (vI x1), some (vI x2), some (vI x3), some (vI x4), l5], [vI x4, vI r3, vR 9 0 0], σ3)) rfl).trans ?_
  refine (e_ci (m := 67) (pc := 35) (ls := [some (vR 9 0 0), some (vI x1), some (vI x2), some (vI x3), some (vI x4), l5]) (rest := []) rfl h7).trans ?_
  refine (e_f (B := (67, 40, [some (vR 9 0 0), some (vI x1), some (vI x2), some (vI x3), some (vI x4), l5], [], σ4)) rfl h8).trans ?_
  refine (e_n 1 (fr' := (67, 41, [some (vR 9 0 0), some (vI x1), some (vI x2), some (vI x3), some (vI x4), l5], [vI x2], σ4)) rfl).trans ?_
  refine (e_ci (m := 67) (pc := 44) (ls := [some (vR 9 0 0), some (vI x1), some (vI x2), some (vI x3), some (vI x4), l5]) (rest := []) rfl h9).trans ?_
  refine (e_f (B := (67, 50, [some (vR 9 0 0), some (vI x1), some (vI x2), some (vI x3), some (vI x4), l5], [], σ5)) rfl h10).trans ?_
  refine (e_n 4 (fr' := (67, 59, [some (vR 9 0 0), some (vI x1), some (vI x2), some (vI x3), some (vI x4), l5], [vI (48 : Int32), vI (σ5.1 5 0 9 0)], σ5)) rfl).trans ?_
  refine (e_f (B := (67, 62, [some (vR 9 0 0), some (vI x1), some (vI x2), some (vI x3), some (vI x4), l5], [], σ5)) rfl h11).trans ?_
  refine (e_n 1 (fr' := (67, 64, [some (vR 9 0 0), some (vI x1), some (vI x2), some (vI x3), some (vI x4), l5], [vI (-4 : Int32)], σ5)) rfl).trans ?_
  exact e_r rfl
set_option maxRecDepth 20000 in
theorem g68_0_0 (C : pmC) {σ : pmS} {x1 : Int32} {x2 : Int32} {x3 : Int32} {x4 : Int32} {l5 : Option pmV} {σ1 : pmS} {r1 : Int32} (h1 : C 89 [vI x1] σ = some (some (vI r1), σ1)) (h2 : r1 = 0) : pq_Rn C (68, 0, [some (vR 9 0 0), some (vI x1), some (vI x2), some (vI x3), some (vI x4), l5], [], σ) = some (some (vI (-1 : Int32)), σ1) := by
  refine (e_n 1 (fr' := (68, 1, [some (vR 9 0 0), some (vI x1), some (vI x2), some (vI x3), some (vI x4), l5], [vI x1], σ)) rfl).trans ?_
  refine (e_ci (m := 68) (pc := 4) (ls := [some (vR 9 0 0), some (vI x1), some (vI x2), some (vI x3), some (vI x4), l5]) (rest := []) rfl h1).trans ?_
  refine (e_t (A := (68, 30, [some (vR 9 0 0), some (vI x1), some (vI x2), some (vI x3), some (vI x4), l5], [], σ1)) rfl h2).trans ?_
  refine (e_n 1 (fr' := (68, 31, [some (vR 9 0 0), some (vI x1), some (vI x2), some (vI x3), some (vI x4), l5], [vI (-1 : Int32)], σ1)) rfl).trans ?_
  exact e_r rfl
set_option maxRecDepth 20000 in
theorem g68_0_1 (C : pmC) {σ : pmS} {x1 : Int32} {x2 : Int32} {x3 : Int32} {x4 : Int32} {l5 : Option pmV} {σ1 : pmS} {r1 : Int32} {σ2 : pmS} {r2 : Int32} (h1 : C 89 [vI x1] σ = some (some (vI r1), σ1)) (h2 : ¬ r1 = 0) (h3 : C 32 [vR 5 0 0, vI x3] σ1 = some (some (vI r2), σ2)) (h4 : r2 = 0) : pq_Rn C (68, 0, [some (vR 9 0 0), some (vI x1), some (vI x2), some (vI x3), some (vI x4), l5], [], σ) = some (some (vI (-1 : Int32)), σ2) := by
  refine (e_n 1 (fr' := (68, 1, [some (vR 9 0 0), some (vI x1), some (vI x2), some (vI x3), some (vI x4), l5], [vI x1], σ)) rfl).trans ?_
  refine (e_ci (m := 68) (pc := 4) (ls := [some (vR 9 0 0), some (vI x1), some (vI x2), some (vI x3), some (vI x4), l5]) (rest := []) rfl h1).trans ?_
  refine (e_f (B := (68, 7, [some (vR 9 0 0), some (vI x1), some (vI x2), some (vI x3), some (vI x4), l5], [], σ1)) rfl h2).trans ?_
  refine (e_n 3 (fr' := (68, 12, [some (vR 9 0 0), some (vI x1), some (vI x2), some (vI x3), some (vI x4), l5], [vI x3, vR 5 0 0], σ1)) rfl).trans ?_
  refine (e_ci (m := 68) (pc := 15) (ls := [some (vR 9 0 0), some (vI x1), some (vI x2), some (vI x3), some (vI x4), l5]) (rest := []) rfl h3).trans ?_
  refine (e_t (A := (68, 30, [some (vR 9 0 0), some (vI x1), some (vI x2), some (vI x3), some (vI x4), l5], [], σ2)) rfl h4).trans ?_
  refine (e_n 1 (fr' := (68, 31, [some (vR 9 0 0), some (vI x1), some (vI x2), some (vI x3), some (vI x4), l5], [vI (-1 : Int32)], σ2)) rfl).trans ?_
  exact e_r rfl
set_option maxRecDepth 20000 in
theorem g68_0_2 (C : pmC) {σ : pmS} {x1 : Int32} {x2 : Int32} {x3 : Int32} {x4 : Int32} {l5 : Option pmV} {σ1 : pmS} {r1 : Int32} {σ2 : pmS} {r2 : Int32} {σ3 : pmS} {r3 : Int32} (h1 : C 89 [vI x1] σ = some (some (vI r1), σ1)) (h2 : ¬ r1 = 0) (h3 : C 32 [vR 5 0 0, vI x3] σ1 = some (some (vI r2), σ2)) (h4 : ¬ r2 = 0) (h5 : C 32 [vR 5 0 0, vI x4] σ2 = some (some (vI r3), σ3)) (h6 : r3 = 0) : pq_Rn C (68, 0, [some (vR 9 0 0), some (vI x1), some (vI x2), some (vI x3), some (vI x4), l5], [], σ) = some (some (vI (-1 : Int32)), σ3) := by
  refine (e_n 1 (fr' := (68, 1, [some (vR 9 0 0), some (vI x1), some (vI x2), some (vI x3), some (vI x4), l5], [vI x1], σ)) rfl).trans ?_
  refine (e_ci (m := 68) (pc := 4) (ls := [some (vR 9 0 0), some (vI x1), some (vI x2), some (vI x3), some (vI x4), l5]) (rest := []) rfl h1).trans ?_
  refine (e_f (B := (68, 7, [some (vR 9 0 0), some (vI x1), some (vI x2), some (vI x3), some (vI x4), l5], [], σ1)) rfl h2).trans ?_
  refine (e_n 3 (fr' := (68, 12, [some (vR 9 0 0), some (vI x1), some (vI x2), some (vI x3), some (vI x4), l5], [vI x3, vR 5 0 0], σ1)) rfl).trans ?_
  refine (e_ci (m := 68) (pc := 15) (ls := [some (vR 9 0 0), some (vI x1), some (vI x2), some (vI x3), some (vI x4), l5]) (rest := []) rfl h3).trans ?_
  refine (e_f (B := (68, 18, [some (vR 9 0 0), some (vI x1), some (vI x2), some (vI x3), some (vI x4), l5], [], σ2)) rfl h4).trans ?_
  refine (e_n 3 (fr' := (68, 24, [some (vR 9 0 0), some (vI x1), some (vI x2), some (vI x3), some (vI x4), l5], [vI x4, vR 5 0 0], σ2)) rfl).trans ?_
  refine (e_ci (m := 68) (pc := 27) (ls := [some (vR 9 0 0), some (vI x1), some (vI x2), some (vI x3), some (vI x4), l5]) (rest := []) rfl h5).trans ?_
  refine (e_t (A := (68, 30, [some (vR 9 0 0), some (vI x1), some (vI x2), some (vI x3), some (vI x4), l5], [], σ3)) rfl h6).trans ?_
  refine (e_n 1 (fr' := (68, 31, [some (vR 9 0 0), some (vI x1), some (vI x2), some (vI x3), some (vI x4), l5], [vI (-1 : Int32)], σ3)) rfl).trans ?_
  exact e_r rfl
set_option maxRecDepth 20000 in
theorem g68_0_3 (C : pmC) {σ : pmS} {x1 : Int32} {x2 : Int32} {x3 : Int32} {x4 : Int32} {l5 : Option pmV} {σ1 : pmS} {r1 : Int32} {σ2 : pmS} {r2 : Int32} {σ3 : pmS} {r3 : Int32} {σ4 : pmS} {r4 : Int32} (h1 : C 89 [vI x1] σ = some (some (vI r1), σ1)) (h2 : ¬ r1 = 0) (h3 : C 32 [vR 5 0 0, vI x3] σ1 = some (some (vI r2), σ2)) (h4 : ¬ r2 = 0) (h5 : C 32 [vR 5 0 0, vI x4] σ2 = some (some (vI r3), σ3)) (h6 : ¬ r3 = 0) (h7 : C 90 [vI x2] σ3 = some (some (vI r4), σ4)) (h8 : r4 = 0) : pq_Rn C (68, 0, [some (vR 9 0 0), some (vI x1), some (vI x2), some (vI x3), some (vI x4), l5], [], σ) = some (some (vI (-2 : Int32)), σ4) := by
  refine (e_n 1 (fr' := (68, 1, [some (vR 9 0 0), some (vI x1), some (vI x2), some (vI x3), some (vI x4), l5], [vI x1], σ)) rfl).trans ?_
  refine (e_ci (m := 68) (pc := 4) (ls := [some (vR 9 0 0), some (vI x1), some (vI x2), some (vI x3), some (vI x4), l5]) (rest := []) rfl h1).trans ?_
  refine (e_f (B := (68, 7, [some (vR 9 0 0), some (vI x1), some (vI x2), some (vI x3), some (vI x4), l5], [], σ1)) rfl h2).trans ?_
  refine (e_n 3 (fr' := (68, 12, [some (vR 9 0 0), some (vI x1), some (vI x2), some (vI x3), some (vI x4), l5], [vI x3, vR 5 0 0], σ1)) rfl).trans ?_
  refine (e_ci (m := 68) (pc := 15) (ls := [some (vR 9 0 0), some (vI x1), some (vI x2), some (vI x3), some (vI x4), l5]) (rest := []) rfl h3).trans ?_
  refine (e_f (B := (68, 18, [some (vR 9 0 0), some (vI x1), some (vI x2), some (vI x3), some (vI x4), l5], [], σ2)) rfl h4).trans ?_
  refine (e_n 3 (fr' := (68, 24, [some (vR 9 0 0), some (vI x1), some (vI x2), some (vI x3), some (vI x4), l5], [vI x4, vR 5 0 0], σ2)) rfl).trans ?_
  refine (e_ci (m := 68) (pc := 27) (ls := [some (vR 9 0 0), some (vI x1), some (vI x2), some (vI x3), some (vI x4), l5]) (rest := []) rfl h5).trans ?_
  refine (e_f (B := (68, 32, [some (vR 9 0 0), some (vI x1), some (vI x2), some (vI x3), some (vI x4), l5], [], σ3)) rfl h6).trans ?_
  refine (e_n 1 (fr' := (68, 33, [some (vR 9 0 0), some (vI x1), some (vI x2), some (vI x3), some (vI x4), l5], [vI x2], σ3)) rfl).trans ?_
  refine (e_ci (m := 68) (pc := 36) (ls := [some (vR 9 0 0), some (vI x1), some (vI x2), some (vI x3), some (vI x4), l5]) (rest := []) rfl h7).trans ?_
  refine (e_t (A := (68, 65, [some (vR 9 0 0), some (vI x1), some (vI x2), some (vI x3), some (vI x4), l5], [], σ4)) rfl h8).trans ?_
  refine (e_n 1 (fr' := (68, 67, [some (vR 9 0 0), some (vI x1), some (vI x2), some (vI x3), some (vI x4), l5], [vI (-2 : Int32)], σ4)) rfl).trans ?_
  exact e_r rfl
set_option maxRecDepth 20000 in
theorem g68_0_4 (C : pmC) {σ : pmS} {x1 : Int32} {x2 : Int32} {x3 : Int32} {x4 : Int32} {l5 : Option pmV} {σ1 : pmS} {r1 : Int32} {σ2 : pmS} {r2 : Int32} {σ3 : pmS} {r3 : Int32} {σ4 : pmS} {r4 : Int32} {σ5 : pmS} {r5 : Int32} (h1 : C 89 [vI x1] σ = some (some (vI r1), σ1)) (h2 : ¬ r1 = 0) (h3 : C 32 [vR 5 0 0, vI x3] σ1 = some (some (vI r2), σ2)) (h4 : ¬ r2 = 0) (h5 : C 32 [vR 5 0 0, vI x4] σ2 = some (some (vI r3), σ3)) (h6 : ¬ r3 = 0) (h7 : C 90 [vI x2] σ3 = some (some (vI r4), σ4)) (h8 : ¬ r4 = 0) (h9 : vp_in x3 48) (h10 : (σ4.1 5 0 0 (x3).toNatClampNeg) = (1 : Int32)) (h11 : vp_in x4 48) (h12 : (σ4.1 5 0 0 (x4).toNatClampNeg) = 0) (h13 : C 96 [vR 9 0 0, vI x3, vI x4, vI x2] σ4 = some (some (vI r5), σ5)) (h14 : r5 = 0) : pq_Rn C (68, 0, [some (vR 9 0 0), some (vI x1), some (vI x2), some (vI x3), some (vI x4), l5], [], σ) = some (some (vI (-3 : Int32)), σ5) := by
  refine (e_n 1 (fr' := (68, 1, [some (vR 9 0 0), some (vI x1), some (vI x2), some (vI x3), some (vI x4), l5], [vI x1], σ)) rfl).trans ?_
  refine (e_ci (m := 68) (pc := 4) (ls := [some (vR 9 0 0), some (vI x1), some (vI x2), some (vI x3), some (vI x4), l5]) (rest := []) rfl h1).trans ?_
  refine (e_f (B := (68, 7, [some (vR 9 0 0), some (vI x1), some (vI x2), some (vI x3), some (vI x4), l5], [], σ1)) rfl h2).trans ?_
  refine (e_n 3 (fr' := (68, 12, [some (vR 9 0 0), some (vI x1), some (vI x2), some (vI x3), some (vI x4), l5], [vI x3, vR 5 0 0], σ1)) rfl).trans ?_
  refine (e_ci (m := 68) (pc := 15) (ls := [some (vR 9 0 0), some (vI x1), some (vI x2), some (vI x3), some (vI x4), l5]) (rest := []) rfl h3).trans ?_
  refine (e_f (B := (68, 18, [some (vR 9 0 0), some (vI x1), some (vI x2), some (vI x3), some (vI x4), l5], [], σ2)) rfl h4).trans ?_
  refine (e_n 3 (fr' := (68, 24, [some (vR 9 0 0), some (vI x1), some (vI x2), some (vI x3), some (vI x4), l5], [vI x4, vR 5 0 0], σ2)) rfl).trans ?_
  refine (e_ci (m := 68) (pc := 27) (ls := [some (vR 9 0 0), some (vI x1), some (vI x2), some (vI x3), some (vI x4), l5]) (rest := []) rfl h5).trans ?_
  refine (e_f (B := (68, 32, [some (vR 9 0 0), some (vI x1), some (vI x2), some (vI x3), some (vI x4), l5], [], σ3)) rfl h6).trans ?_
  refine (e_n 1 (fr' := (68, 33, [some (vR 9 0 0), some (vI x1), some (vI x2), some (vI x3), some (vI x4), l5], [vI x2], σ3)) rfl).trans ?_
  refine (e_ci (m := 68) (pc := 36) (ls := [some (vR 9 0 0), some (vI x1), some (vI x2), some (vI x3), some (vI x4), l5]) (rest := []) rfl h7).trans ?_
  refine (e_f (B := (68, 39, [some (vR 9 0 0), some (vI x1), some (vI x2), some (vI x3), some (vI x4), l5], [], σ4)) rfl h8).trans ?_
  refine (e_n 4 (fr' := (68, 47, [some (vR 9 0 0), some (vI x1), some (vI x2), some (vI x3), some (vI x4), l5], [vI x3, vR 5 0 1], σ4)) rfl).trans ?_
  refine (e_a (A := (68, 48, [some (vR 9 0 0), some (vI x1), some (vI x2), some (vI x3), some (vI x4), l5], [vI (σ4.1 5 0 0 (x3).toNatClampNeg)], σ4)) rfl h9).trans ?_
  refine (e_n 1 (fr' := (68, 49, [some (vR 9 0 0), some (vI x1), some (vI x2), some (vI x3), some (vI x4), l5], [vI (1 : Int32), vI (σ4.1 5 0 0 (x3).toNatClampNeg)], σ4)) rfl).trans ?_
  refine (e_t (A := (68, 52, [some (vR 9 0 0), some (vI x1), some (vI x2), some (vI x3), some (vI x4), l5], [], σ4)) rfl h10).trans ?_
  refine (e_n 4 (fr' := (68, 61, [some (vR 9 0 0), some (vI x1), some (vI x2), some (vI x3), some (vI x4), l5], [vI x4, vR 5 0 1], σ4)) rfl).trans ?_
  refine (e_a (A := (68, 62, [some (vR 9 0 0), some (vI x1), some (vI x2), some (vI x3), some (vI x4), l5], [vI (σ4.1 5 0 0 (x4).toNatClampNeg)], σ4)) rfl h11).trans ?_
  refine (e_t (A := (68, 68, [some (vR 9 0 0), some (vI x1), some (vI x2), some (vI x3), some (vI x4), l5], [], σ4)) rfl h12).trans ?_
  refine (e_n 4 (fr' := (68, 73, [some (vR 9 0 0), some (vI x1), some (vI x2), some (vI x3), some (vI x4), l5], [vI x2, vI x4, vI x3, vR 9 0 0], σ4)) rfl).trans ?_
  refine (e_ci (m := 68) (pc := 76) (ls := [some (vR 9 0 0), some (vI x1), some (vI x2), some (vI x3), some (vI x4), l5]) (rest := []) rfl h13).trans ?_
  refine (e_t (A := (68, 79, [some (vR 9 0 0), some (vI x1), some (vI x2), some (vI x3), some (vI x4), l5], [], σ5)) rfl h14).trans ?_
  refine (e_n 1 (fr' := (68, 81, [some (vR 9 0 0), some (vI x1), some (vI x2), some (vI x3), some (vI x4), l5], [vI (-3 : Int32)], σ5)) rfl).trans ?_
  exact e_r rfl
set_option maxRecDepth 20000 in
theorem g68_0_5 (C : pmC) {σ : pmS} {x1 : Int32} {x2 : Int32} {x3 : Int32} {x4 : Int32} {l5 : Option pmV} {σ1 : pmS} {r1 : Int32} {σ2 : pmS} {r2 : Int32} {σ3 : pmS} {r3 : Int32} {σ4 : pmS} {r4 : Int32} {σ5 : pmS} {r5 : Int32} {σ6 : pmS} {r6 : Int32} {σ7 : pmS} (h1 : C 89 [vI x1] σ = some (some (vI r1), σ1)) (h2 : ¬ r1 = 0) (h3 : C 32 [vR 5 0 0, vI x3] σ1 = some (some (vI r2), σ2)) (h4 : ¬ r2 = 0) (h5 : C 32 [vR 5 0 0, vI x4] σ2 = some (some (vI r3), σ3)) (h6 : ¬ r3 = 0) (h7 : C 90 [vI x2] σ3 = some (some (vI r4), σ4)) (h8 : ¬ r4 = 0) (h9 : vp_in x3 48) (h10 : (σ4.1 5 0 0 (x3).toNatClampNeg) = (1 : Int32)) (h11 : vp_in x4 48) (h12 : (σ4.1 5 0 0 (x4).toNatClampNeg) = 0) (h13 : C 96 [vR 9 0 0, vI x3, vI x4, vI x2] σ4 = some (some (vI r5), σ5)) (h14 : ¬ r5 = 0) (h15 : (σ5.1 5 0 9 0) < (48 : Int32)) (h16 : C 31 [vR 5 0 0, vI x1, vI x2, vI (σ5.1 5 0 3 (x3).toNatClampNeg)] σ5 = some (some (vI r6), σ6)) (h17 : vp_in r6 48) (h18 : C 95 [vR 9 0 0, vI r6] (pm_wi (pm_wi σ6 5 0 4 (r6).toNatClampNeg x3) 5 0 5 (r6).toNatClampNeg x4) = some (none, σ7)) : pq_Rn C (68, 0, [some (vR 9 0 0), some (vI x1), some (vI x2), some (vI x3), some (vI x4), l5], [], σ) = some (some (vI r6), σ7) := by
  refine (e_n 1 (fr' := (68, 1, [some (vR 9 0 0), some (vI x1), some (vI x2), some (vI x3), some (vI x4), l5], [vI x1], σ)) rfl).trans ?_
  refine (e_ci (m := 68) (pc := 4) (ls := [some (vR 9 0 0), some (vI x1), some (vI x2), some (vI x3), some (vI x4), l5]) (rest := []) rfl h1).trans ?_
  refine (e_f (B := (68, 7, [some (vR 9 0 0), some (vI x1), some (vI x2), some (vI x3), some (vI x4), l5], [], σ1)) rfl h2).trans ?_
  refine (e_n 3 (fr' := (68, 12, [some (vR 9 0 0), some (vI x1), some (vI x2), some (vI x3), some (vI x4), l5], [vI x3, vR 5 0 0], σ1)) rfl).trans ?_
  refine (e_ci (m := 68) (pc := 15) (ls := [some (vR 9 0 0), some (vI x1), some (vI x2), some (vI x3), some (vI x4), l5]) (rest := []) rfl h3).trans ?_
  refine (e_f (B := (68, 18, [some (vR 9 0 0), some (vI x1), some (vI x2), some (vI x3), some (vI x4), l5], [], σ2)) rfl h4).trans ?_
  refine (e_n 3 (fr' := (68, 24, [some (vR 9 0 0), some (vI x1), some (vI x2), some (vI x3), some (vI x4), l5], [vI x4, vR 5 0 0], σ2)) rfl).trans ?_
  refine (e_ci (m := 68) (pc := 27) (ls := [some (vR 9 0 0), some (vI x1), some (vI x2), some (vI x3), some (vI x4), l5]) (rest := []) rfl h5).trans ?_
  refine (e_f (B := (68, 32, [some (vR 9 0 0), some (vI x1), some (vI x2), some (vI x3), some (vI x4), l5], [], σ3)) rfl h6).trans ?_
  refine (e_n 1 (fr' := (68, 33, [some (vR 9 0 0), some (vI x1), some (vI x2), some (vI x3), some (vI x4), l5], [vI x2], σ3)) rfl).trans ?_
  refine (e_ci (m := 68) (pc := 36) (ls := [some (vR 9 0 0), some (vI x1), some (vI x2), some (vI x3), some (vI x4), l5]) (rest := []) rfl h7).trans ?_
  refine (e_f (B := (68, 39, [some (vR 9 0 0), some (vI x1), some (vI x2), some (vI x3), some (vI x4), l5], [], σ4)) rfl h8).trans ?_
  refine (e_n 4 (fr' := (68, 47, [some (vR 9 0 0), some (vI x1), some (vI x2), some (vI x3), some (vI x4), l5], [vI x3, vR 5 0 1], σ4)) rfl).trans ?_
  refine (e_a (A := (68, 48, [some (vR 9 0 0), some (vI x1), some (vI x2), some (vI x3), some (vI x4), l5], [vI (σ4.1 5 0 0 (x3).toNatClampNeg)], σ4)) rfl h9).trans ?_
  refine (e_n 1 (fr' := (68, 49, [some (vR 9 0 0), some (vI x1), some (vI x2), some (vI x3), some (vI x4), l5], [vI (1 : Int32), vI (σ4.1 5 0 0 (x3).toNatClampNeg)], σ4)) rfl).trans ?_
  refine (e_t (A := (68, 52, [some (vR 9 0 0), some (vI x1), some (vI x2), some (vI x3), some (vI x4), l5], [], σ4)) rfl h10).trans ?_
  refine (e_n 4 (fr' := (68, 61, [some (vR 9 0 0), some (vI x1), some (vI x2), some (vI x3), some (vI x4), l5], [vI x4, vR 5 0 1], σ4)) rfl).trans ?_
  refine (e_a (A := (68, 62, [some (vR 9 0 0), some (vI x1), some (vI x2), some (vI x3), some (vI x4), l5], [vI (σ4.1 5 0 0 (x4).toNatClampNeg)], σ4)) rfl h11).trans ?_
  refine (e_t (A := (68, 68, [some (vR 9 0 0), some (vI x1), some (vI x2), some (vI x3), some (vI x4), l5], [], σ4)) rfl h12).trans ?_
  refine (e_n 4 (fr' := (68, 73, [some (vR 9 0 0), some (vI x1), some (vI x2), some (vI x3), some (vI x4), l5], [vI x2, vI x4, vI x3, vR 9 0 0], σ4)) rfl).trans ?_
  refine (e_ci (m := 68) (pc := 76) (ls := [some (vR 9 0 0), some (vI x1), some (vI x2), some (vI x3), some (vI x4), l5]) (rest := []) rfl h13).trans ?_
  refine (e_f (B := (68, 82, [some (vR 9 0 0), some (vI x1), some (vI x2), some (vI x3), some (vI x4), l5], [], σ5)) rfl h14).trans ?_
  refine (e_n 4 (fr' := (68, 91, [some (vR 9 0 0), some (vI x1), some (vI x2), some (vI x3), some (vI x4), l5], [vI (48 : Int32), vI (σ5.1 5 0 9 0)], σ5)) rfl).trans ?_
  refine (e_t (A := (68, 97, [some (vR 9 0 0), some (vI x1), some (vI x2), some (vI x3), some (vI x4), l5], [], σ5)) rfl h15).trans ?_
  refine (e_n 8 (fr' := (68, 111, [some (vR 9 0 0), some (vI x1), some (vI x2), some (vI x3), some (vI x4), l5], [vI x3, vR 5 0 4, vI x2, vI x1, vR 5 0 0], σ5)) rfl).trans ?_
  refine (e_a (A := (68, 112, [some (vR 9 0 0), some (vI x1), some (vI x2), some (vI x3), some (vI x4), l5], [vI (σ5.1 5 0 3 (x3).toNatClampNeg), vI x2, vI x1, vR 5 0 0], σ5)) rfl h9).trans ?_
  refine (e_ci (m := 68) (pc := 115) (ls := [some (vR 9 0 0), some (vI x1), some (vI x2), some (vI x3), some (vI x4), l5]) (rest := []) rfl h16).trans ?_
  refine (e_n 6 (fr' := (68, 127, [some (vR 9 0 0), some (vI x1), some (vI x2), some (vI x3), some (vI x4), some (vI r6)], [vI x3, vI r6, vR 5 0 5], σ6)) rfl).trans ?_
  refine (e_a (A := (68, 128, [some (vR 9 0 0), some (vI x1), some (vI x2), some (vI x3), some (vI x4), some (vI r6)], [], (pm_wi σ6 5 0 4 (r6).toNatClampNeg x3))) rfl h17).trans ?_
  refine (e_n 5 (fr' := (68, 139, [some (vR 9 0 0), some (vI x1), some (vI x2), some (vI x3), some (vI x4), some (vI r6)], [vI x4, vI r6, vR 5 0 6], (pm_wi σ6 5 0 4 (r6).toNatClampNeg x3))) rfl).trans ?_
  refine (e_a (A := (68, 140, [some (vR 9 0 0), some (vI x1), some (vI x2), some (vI x3), some (vI x4), some (vI r6)], [], (pm_wi (pm_wi σ6 5 0 4 (r6).toNatClampNeg x3) 5 0 5 (r6).toNatClampNeg x4))) rfl h17).trans ?_
  refine (e_n 2 (fr' := (68, 143, [some (vR 9 0 0), some (vI x1), some (vI x2), some (vI x3), some (vI x4), some (vI r6)], [vI r6, vR 9 0 0], (pm_wi (pm_wi σ6 5 0 4 (r6).toNatClampNeg x3) 5 0 5 (r6).toNatClampNeg x4))) rfl).trans ?_
  refine (e_cv (m := 68) (pc := 146) (ls := [some (vR 9 0 0), some (vI x1), some (vI x2), some (vI x3), some (vI x4), some (vI r6)]) (rest := []) rfl h18).trans ?_
  refine (e_n 1 (fr' := (68, 148, [some (vR 9 0 0), some (vI x1), some (vI x2), some (vI x3), some (vI x4), some (vI r6)], [vI r6], σ7)) rfl).trans ?_
  exact e_r rfl
set_option maxRecDepth 20000 in
theorem g68_0_6 (C : pmC) {σ : pmS} {x1 : Int32} {x2 : Int32} {x3 : Int32} {x4 : Int32} {l5 : Option pmV} {σ1 : pmS} {r1 : Int32} {σ2 : pmS} {r2 : Int32} {σ3 : pmS} {r3 : Int32} {σ4 : pmS} {r4 : Int32} {σ5 : pmS} {r5 : Int32} (h1 : C 89 [vI x1] σ = some (some (vI r1), σ1)) (h2 : ¬ r1 = 0) (h3 : C 32 [vR 5 0 0, vI x3] σ1 = some (some (vI r2), σ2)) (h4 : ¬ r2 = 0) (h5 : C 32 [vR 5 0 0, vI x4] σ2 = some (some (vI r3), σ3)) (h6 : ¬ r3 = 0) (h7 : C 90 [vI x2] σ3 = some (some (vI r4), σ4)) (h8 : ¬ r4 = 0) (h9 : vp_in x3 48) (h10 : (σ4.1 5 0 0 (x3).toNatClampNeg) = (1 : Int32)) (h11 : vp_in x4 48) (h12 : (σ4.1 5 0 0 (x4).toNatClampNeg) = 0) (h13 : C 96 [vR 9 0 0, vI x3, vI x4, vI x2] σ4 = some (some (vI r5), σ5)) (h14 : ¬ r5 = 0) (h15 : ¬ (σ5.1 5 0 9 0) < (48 : Int32)) : pq_Rn C (68, 0, [some (vR 9 0 0), some (vI x1), some (vI x2), some (vI x3), some (vI x4), l5], [], σ) = some (some (vI (-4 : Int32)), σ5) := by
  refine (e_n 1 (fr' := (68, 1, [some (vR 9 0 0), some (vI x1), some (vI x2), some (vI x3), some (vI x4), l5], [vI x1], σ)) rfl).trans ?_
  refine (e_ci (m := 68) (pc := 4) (ls := [some (vR 9 0 0), some (vI x1), some (vI x2), some (vI x3), some (vI x4), l5]) (rest := []) rfl h1).trans ?_
  refine (e_f (B := (68, 7, [some (vR 9 0 0), some (vI x1), some (vI x2), some (vI x3), some (vI x4), l5], [], σ1)) rfl h2).trans ?_
  refine (e_n 3 (fr' := (68, 12, [some (vR 9 0 0), some (vI x1), some (vI x2), some (vI x3), some (vI x4), l5], [vI x3, vR 5 0 0], σ1)) rfl).trans ?_
  refine (e_ci (m := 68) (pc := 15) (ls := [some (vR 9 0 0), some (vI x1), some (vI x2), some (vI x3), some (vI x4), l5]) (rest := []) rfl h3).trans ?_
  refine (e_f (B := (68, 18, [some (vR 9 0 0), some (vI x1), some (vI x2), some (vI x3), some (vI x4), l5], [], σ2)) rfl h4).trans ?_
  refine (e_n 3 (fr' := (68, 24, [some (vR 9 0 0), some (vI x1), some (vI x2), some (vI x3), some (vI x4), l5], [vI x4, vR 5 0 0], σ2)) rfl).trans ?_
  refine (e_ci (m := 68) (pc := 27) (ls := [some (vR 9 0 0), some (vI x1), some (vI x2), some (vI x3), some (vI x4), l5]) (rest := []) rfl h5).trans ?_
  refine (e_f (B := (68, 32, [some (vR 9 0 0), some (vI x1), some (vI x2), some (vI x3), some (vI x4), l5], [], σ3)) rfl h6).trans ?_
  refine (e_n 1 (fr' := (68, 33, [some (vR 9 0 0), some (vI x1), some (vI x2), some (vI x3), some (vI x4), l5], [vI x2], σ3)) rfl).trans ?_
  refine (e_ci (m := 68) (pc := 36) (ls := [some (vR 9 0 0), some (vI x1), some (vI x2), some (vI x3), some (vI x4), l5]) (rest := []) rfl h7).trans ?_
  refine (e_f (B := (68, 39, [some (vR 9 0 0), some (vI x1), some (vI x2), some (vI x3), some (vI x4), l5], [], σ4)) rfl h8).trans ?_
  refine (e_n 4 (fr' := (68, 47, [some (vR 9 0 0), some (vI x1), some (vI x2), some (vI x3), some (vI x4), l5], [vI x3, vR 5 0 1], σ4)) rfl).trans ?_
  refine (e_a (A := (68, 48, [some (vR 9 0 0), some (vI x1), some (vI x2), some (vI x3), some (vI x4), l5], [vI (σ4.1 5 0 0 (x3).toNatClampNeg)], σ4)) rfl h9).trans ?_
  refine (e_n 1 (fr' := (68, 49, [some (vR 9 0 0), some (vI x1), some (vI x2), some (vI x3), some (vI x4), l5], [vI (1 : Int32), vI (σ4.1 5 0 0 (x3).toNatClampNeg)], σ4)) rfl).trans ?_
  refine (e_t (A := (68, 52, [some (vR 9 0 0), some (vI x1), some (vI x2), some (vI x3), some (vI x4), l5], [], σ4)) rfl h10).trans ?_
  refine (e_n 4 (fr' := (68, 61, [some (vR 9 0 0), some (vI x1), some (vI x2), some (vI x3), some (vI x4), l5], [vI x4, vR 5 0 1], σ4)) rfl).trans ?_
  refine (e_a (A := (68, 62, [some (vR 9 0 0), some (vI x1), some (vI x2), some (vI x3), some (vI x4), l5], [vI (σ4.1 5 0 0 (x4).toNatClampNeg)], σ4)) rfl h11).trans ?_
  refine (e_t (A := (68, 68, [some (vR 9 0 0), some (vI x1), some (vI x2), some (vI x3), some (vI x4), l5], [], σ4)) rfl h12).trans ?_
  refine (e_n 4 (fr' := (68, 73, [some (vR 9 0 0), some (vI x1), some (vI x2), some (vI x3), some (vI x4), l5], [vI x2, vI x4, vI x3, vR 9 0 0], σ4)) rfl).trans ?_
  refine (e_ci (m := 68) (pc := 76) (ls := [some (vR 9 0 0), some (vI x1), some (vI x2), some (vI x3), some (vI x4), l5]) (rest := []) rfl h13).trans ?_
  refine (e_f (B := (68, 82, [some (vR 9 0 0), some (vI x1), some (vI x2), some (vI x3), some (vI x4), l5], [], σ5)) rfl h14).trans ?_
  refine (e_n 4 (fr' := (68, 91, [some (vR 9 0 0), some (vI x1), some (vI x2), some (vI x3), some (vI x4), l5], [vI (48 : Int32), vI (σ5.1 5 0 9 0)], σ5)) rfl).trans ?_
  refine (e_f (B := (68, 94, [some (vR 9 0 0), some (vI x1), some (vI x2), some (vI x3), some (vI x4), l5], [], σ5)) rfl h15).trans ?_
  refine (e_n 1 (fr' := (68, 96, [some (vR 9 0 0), some (vI x1), some (vI x2), some (vI x3), some (vI x4), l5], [vI (-4 : Int32)], σ5)) rfl).trans ?_
  exact e_r rfl
set_option maxRecDepth 20000 in
theorem g68_0_7 (C : pmC) {σ : pmS} {x1 : Int32} {x2 : Int32} {x3 : Int32} {x4 : Int32} {l5 : Option pmV} {σ1 : pmS} {r1 : Int32} {σ2 : pmS} {r2 : Int32} {σ3 : pmS} {r3 : Int32} {σ4 : pmS} {r4 : Int32} (h1 : C 89 [vI x1] σ = some (some (vI r1), σ1)) (h2 : ¬ r1 = 0) (h3 : C 32 [vR 5 0 0, vI x3] σ1 = some (some (vI r2), σ2)) (h4 : ¬ r2 = 0) (h5 : C 32 [vR 5 0 0, vI x4] σ2 = some (some (vI r3), σ3)) (h6 : ¬ r3 = 0) (h7 : C 90 [vI x2] σ3 = some (some (vI r4), σ4)) (h8 : ¬ r4 = 0) (h9 : vp_in x3 48) (h10 : (σ4.1 5 0 0 (x3).toNatClampNeg) = (1 : Int32)) (h11 : vp_in x4 48) (h12 : ¬ (σ4.1 5 0 0 (x4).toNatClampNeg) = 0) : pq_Rn C (68, 0, [some (vR 9 0 0), some (vI x1), some (vI x2), some (vI x3), some (vI x4), l5], [], σ) = some (some (vI (-2 : Int32)), σ4) := by
  refine (e_n 1 (fr' := (68, 1, [some (vR 9 0 0), some (vI x1), some (vI x2), some (vI x3), some (vI x4), l5], [vI x1], σ)) rfl).trans ?_
  refine (e_ci (m := 68) (pc := 4) (ls := [some (vR 9 0 0), some (vI x1), some (vI x2), some (vI x3), some (vI x4), l5]) (rest := []) rfl h1).trans ?_
  refine (e_f (B := (68, 7, [some (vR 9 0 0), some (vI x1), some (vI x2), some (vI x3), some (vI x4), l5], [], σ1)) rfl h2).trans ?_
  refine (e_n 3 (fr' := (68, 12, [some (vR 9 0 0), some (vI x1), some (vI x2), some (vI x3), some (vI x4), l5], [vI x3, vR 5 0 0], σ1)) rfl).trans ?_
  refine (e_ci (m := 68) (pc := 15) (ls := [some (vR 9 0 0), some (vI x1), some (vI x2), some (vI x3), some (vI x4), l5]) (rest := []) rfl h3).trans ?_
  refine (e_f (B := (68, 18, [some (vR 9 0 0), some (vI x1), some (vI x2), some (vI x3), some (vI x4), l5], [], σ2)) rfl h4).trans ?_
  refine (e_n 3 (fr' := (68, 24, [some (vR 9 0 0), some (vI x1), some (vI x2), some (vI x3), some (vI x4), l5], [vI x4, vR 5 0 0], σ2)) rfl).trans ?_
  refine (e_ci (m := 68) (pc := 27) (ls := [some (vR 9 0 0), some (vI x1), some (vI x2), some (vI x3), some (vI x4), l5]) (rest := []) rfl h5).trans ?_
  refine (e_f (B := (68, 32, [some (vR 9 0 0), some (vI x1), some (vI x2), some (vI x3), some (vI x4), l5], [], σ3)) rfl h6).trans ?_
  refine (e_n 1 (fr' := (68, 33, [some (vR 9 0 0), some (vI x1), some (vI x2), some (vI x3), some (vI x4), l5], [vI x2], σ3)) rfl).trans ?_
  refine (e_ci (m := 68) (pc := 36) (ls := [some (vR 9 0 0), some (vI x1), some (vI x2), some (vI x3), some (vI x4), l5]) (rest := []) rfl h7).trans ?_
  refine (e_f (B := (68, 39, [some (vR 9 0 0), some (vI x1), some (vI x2), some (vI x3), some (vI x4), l5], [], σ4)) rfl h8).trans ?_
  refine (e_n 4 (fr' := (68, 47, [some (vR 9 0 0), some (vI x1), some (vI x2), some (vI x3), some (vI x4), l5], [vI x3, vR 5 0 1], σ4)) rfl).trans ?_
  refine (e_a (A := (68, 48, [some (vR 9 0 0), some (vI x1), some (vI x2), some (vI x3), some (vI x4), l5], [vI (σ4.1 5 0 0 (x3).toNatClampNeg)], σ4)) rfl h9).trans ?_
  refine (e_n 1 (fr' := (68, 49, [some (vR 9 0 0), some (vI x1), some (vI x2), some (vI x3), some (vI x4), l5], [vI (1 : Int32), vI (σ4.1 5 0 0 (x3).toNatClampNeg)], σ4)) rfl).trans ?_
  refine (e_t (A := (68, 52, [some (vR 9 0 0), some (vI x1), some (vI x2), some (vI x3), some (vI x4), l5], [], σ4)) rfl h10).trans ?_
  refine (e_n 4 (fr' := (68, 61, [some (vR 9 0 0), some (vI x1), some (vI x2), some (vI x3), some (vI x4), l5], [vI x4, vR 5 0 1], σ4)) rfl).trans ?_
  refine (e_a (A := (68, 62, [some (vR 9 0 0), some (vI x1), some (vI x2), some (vI x3), some (vI x4), l5], [vI (σ4.1 5 0 0 (x4).toNatClampNeg)], σ4)) rfl h11).trans ?_
  refine (e_f (B := (68, 65, [some (vR 9 0 0), some (vI x1), some (vI x2), some (vI x3), some (vI x4), l5], [], σ4)) rfl h12).trans ?_
  refine (e_n 1 (fr' := (68, 67, [some (vR 9 0 0), some (vI x1), some (vI x2), some (vI x3), some (vI x4), l5], [vI (-2 : Int32)], σ4)) rfl).trans ?_
  exact e_r rfl
