/-! segment rules, by program -/
set_option maxRecDepth 20000 in
theorem g50_10_2 (C : pmC) {σ : pmS} {x1 : Int32} {x2 : Int32} {x3 : Int32} (h1 : ¬ (2048 : Int32) ≤ x3) (h2 : vp_in x2 2048) (h3 : (σ.1 7 0 1 (x2).toNatClampNeg) = 0) (h4 : (1000 : Int32) ≤ (σ.1 7 0 2 0)) : pm_Rn C (50, 10, [some (vR 7 0 0), some (vI x1), some (vI x2), some (vI x3)], [], σ) = some (none, σ) := by
  refine (e_n 2 (fr' := (50, 14, [some (vR 7 0 0), some (vI x1), some (vI x2), some (vI x3)], [vI (2048 : Int32), vI x3], σ)) rfl).trans ?_
  refine (e_f (B := (50, 17, [some (vR 7 0 0), some (vI x1), some (vI x2), some (vI x3)], [], σ)) rfl h1).trans ?_
  refine (e_n 3 (fr' := (50, 22, [some (vR 7 0 0), some (vI x1), some (vI x2), some (vI x3)], [vI x2, vR 7 0 2], σ)) rfl).trans ?_
  refine (e_a (A := (50, 23, [some (vR 7 0 0), some (vI x1), some (vI x2), some (vI x3)], [vI (σ.1 7 0 1 (x2).toNatClampNeg)], σ)) rfl h2).trans ?_
  refine (e_t (A := (50, 53, [some (vR 7 0 0), some (vI x1), some (vI x2), some (vI x3)], [], σ)) rfl h3).trans ?_
  refine (e_n 3 (fr' := (50, 60, [some (vR 7 0 0), some (vI x1), some (vI x2), some (vI x3)], [vI (1000 : Int32), vI (σ.1 7 0 2 0)], σ)) rfl).trans ?_
  refine (e_t (A := (50, 92, [some (vR 7 0 0), some (vI x1), some (vI x2), some (vI x3)], [], σ)) rfl h4).trans ?_
  exact e_r rfl
set_option maxRecDepth 20000 in
theorem g50_10_3 (C : pmC) {σ : pmS} {x1 : Int32} {x2 : Int32} {x3 : Int32} (h1 : ¬ (2048 : Int32) ≤ x3) (h2 : vp_in x2 2048) (h3 : (σ.1 7 0 1 (x2).toNatClampNeg) = 0) (h4 : ¬ (1000 : Int32) ≤ (σ.1 7 0 2 0)) (h5 : vp_in (σ.1 7 0 2 0) 1000) : pm_Rn C (50, 10, [some (vR 7 0 0), some (vI x1), some (vI x2), some (vI x3)], [], σ) = some (none, (pm_wi (pm_wi (pm_wi σ 7 0 1 (x2).toNatClampNeg (x1 + (1 : Int32))) 7 0 0 ((σ.1 7 0 2 0)).toNatClampNeg x1) 7 0 2 0 ((σ.1 7 0 2 0) + (1 : Int32)))) := by
  refine (e_n 2 (fr' := (50, 14, [some (vR 7 0 0), some (vI x1), some (vI x2), some (vI x3)], [vI (2048 : Int32), vI x3], σ)) rfl).trans ?_
  refine (e_f (B := (50, 17, [some (vR 7 0 0), some (vI x1), some (vI x2), some (vI x3)], [], σ)) rfl h1).trans ?_
  refine (e_n 3 (fr' := (50, 22, [some (vR 7 0 0), some (vI x1), some (vI x2), some (vI x3)], [vI x2, vR 7 0 2], σ)) rfl).trans ?_
  refine (e_a (A := (50, 23, [some (vR 7 0 0), some (vI x1), some (vI x2), some (vI x3)], [vI (σ.1 7 0 1 (x2).toNatClampNeg)], σ)) rfl h2).trans ?_
  refine (e_t (A := (50, 53, [some (vR 7 0 0), some (vI x1), some (vI x2), some (vI x3)], [], σ)) rfl h3).trans ?_
  refine (e_n 3 (fr' := (50, 60, [some (vR 7 0 0), some (vI x1), some (vI x2), some (vI x3)], [vI (1000 : Int32), vI (σ.1 7 0 2 0)], σ)) rfl).trans ?_
  refine (e_f (B := (50, 63, [some (vR 7 0 0), some (vI x1), some (vI x2), some (vI x3)], [], σ)) rfl h4).trans ?_
  refine (e_n 6 (fr' := (50, 71, [some (vR 7 0 0), some (vI x1), some (vI x2), some (vI x3)], [vI (x1 + (1 : Int32)), vI x2, vR 7 0 2], σ)) rfl).trans ?_
  refine (e_a (A := (50, 72, [some (vR 7 0 0), some (vI x1), some (vI x2), some (vI x3)], [], (pm_wi σ 7 0 1 (x2).toNatClampNeg (x1 + (1 : Int32))))) rfl h2).trans ?_
  refine (e_n 5 (fr' := (50, 81, [some (vR 7 0 0), some (vI x1), some (vI x2), some (vI x3)], [vI x1, vI (σ.1 7 0 2 0), vR 7 0 1], (pm_wi σ 7 0 1 (x2).toNatClampNeg (x1 + (1 : Int32))))) rfl).trans ?_
  refine (e_a (A := (50, 82, [some (vR 7 0 0), some (vI x1), some (vI x2), some (vI x3)], [], (pm_wi (pm_wi σ 7 0 1 (x2).toNatClampNeg (x1 + (1 : Int32))) 7 0 0 ((σ.1 7 0 2 0)).toNatClampNeg x1))) rfl h5).trans ?_
  refine (e_n 6 (fr' := (50, 92, [some (vR 7 0 0), some (vI x1), some (vI x2), some (vI x3)], [], (pm_wi (pm_wi (pm_wi σ 7 0 1 (x2).toNatClampNeg (x1 + (1 : Int32))) 7 0 0 ((σ.1 7 0 2 0)).toNatClampNeg x1) 7 0 2 0 ((σ.1 7 0 2 0) + (1 : Int32))))) rfl).trans ?_
  exact e_r rfl
set_option maxRecDepth 20000 in
theorem g50_10_4 (C : pmC) {σ : pmS} {x1 : Int32} {x2 : Int32} {x3 : Int32} (h1 : ¬ (2048 : Int32) ≤ x3) (h2 : vp_in x2 2048) (h3 : ¬ (σ.1 7 0 1 (x2).toNatClampNeg) = 0) (h4 : (σ.1 7 0 1 (x2).toNatClampNeg) = (x1 + (1 : Int32))) : pm_Rn C (50, 10, [some (vR 7 0 0), some (vI x1), some (vI x2), some (vI x3)], [], σ) = some (none, σ) := by
  refine (e_n 2 (fr' := (50, 14, [some (vR 7 0 0), some (vI x1), some (vI x2), some (vI x3)], [vI (2048 : Int32), vI x3], σ)) rfl).trans ?_
  refine (e_f (B := (50, 17, [some (vR 7 0 0), some (vI x1), some (vI x2), some (vI x3)], [], σ)) rfl h1).trans ?_
  refine (e_n 3 (fr' := (50, 22, [some (vR 7 0 0), some (vI x1), some (vI x2), some (vI x3)], [vI x2, vR 7 0 2], σ)) rfl).trans ?_
  refine (e_a (A := (50, 23, [some (vR 7 0 0), some (vI x1), some (vI x2), some (vI x3)], [vI (σ.1 7 0 1 (x2).toNatClampNeg)], σ)) rfl h2).trans ?_
  refine (e_f (B := (50, 26, [some (vR 7 0 0), some (vI x1), some (vI x2), some (vI x3)], [], σ)) rfl h3).trans ?_
  refine (e_n 3 (fr' := (50, 31, [some (vR 7 0 0), some (vI x1), some (vI x2), some (vI x3)], [vI x2, vR 7 0 2], σ)) rfl).trans ?_
  refine (e_a (A := (50, 32, [some (vR 7 0 0), some (vI x1), some (vI x2), some (vI x3)], [vI (σ.1 7 0 1 (x2).toNatClampNeg)], σ)) rfl h2).trans ?_
  refine (e_n 3 (fr' := (50, 35, [some (vR 7 0 0), some (vI x1), some (vI x2), some (vI x3)], [vI (x1 + (1 : Int32)), vI (σ.1 7 0 1 (x2).toNatClampNeg)], σ)) rfl).trans ?_
  refine (e_t (A := (50, 38, [some (vR 7 0 0), some (vI x1), some (vI x2), some (vI x3)], [], σ)) rfl h4).trans ?_
  exact e_r rfl
set_option maxRecDepth 20000 in
theorem g50_10_5 (C : pmC) {σ : pmS} {x1 : Int32} {x2 : Int32} {x3 : Int32} (h1 : ¬ (2048 : Int32) ≤ x3) (h2 : vp_in x2 2048) (h3 : ¬ (σ.1 7 0 1 (x2).toNatClampNeg) = 0) (h4 : ¬ (σ.1 7 0 1 (x2).toNatClampNeg) = (x1 + (1 : Int32))) : pm_Rn C (50, 10, [some (vR 7 0 0), some (vI x1), some (vI x2), some (vI x3)], [], σ) = pm_Rn C (50, 10, [some (vR 7 0 0), some (vI x1), some (vI ((x2 + (1 : Int32)) - (x2 + (1 : Int32)) / (2048 : Int32) * (2048 : Int32))), some (vI (x3 + (1 : Int32)))], [], σ) := by
  refine (e_n 2 (fr' := (50, 14, [some (vR 7 0 0), some (vI x1), some (vI x2), some (vI x3)], [vI (2048 : Int32), vI x3], σ)) rfl).trans ?_
  refine (e_f (B := (50, 17, [some (vR 7 0 0), some (vI x1), some (vI x2), some (vI x3)], [], σ)) rfl h1).trans ?_
  refine (e_n 3 (fr' := (50, 22, [some (vR 7 0 0), some (vI x1), some (vI x2), some (vI x3)], [vI x2, vR 7 0 2], σ)) rfl).trans ?_
  refine (e_a (A := (50, 23, [some (vR 7 0 0), some (vI x1), some (vI x2), some (vI x3)], [vI (σ.1 7 0 1 (x2).toNatClampNeg)], σ)) rfl h2).trans ?_
  refine (e_f (B := (50, 26, [some (vR 7 0 0), some (vI x1), some (vI x2), some (vI x3)], [], σ)) rfl h3).trans ?_
  refine (e_n 3 (fr' := (50, 31, [some (vR 7 0 0), some (vI x1), some (vI x2), some (vI x3)], [vI x2, vR 7 0 2], σ)) rfl).trans ?_
  refine (e_a (A := (50, 32, [some (vR 7 0 0), some (vI x1), some (vI x2), some (vI x3)], [vI (σ.1 7 0 1 (x2).toNatClampNeg)], σ)) rfl h2).trans ?_
  refine (e_n 3 (fr' := (50, 35, [some (vR 7 0 0), some (vI x1), some (vI x2), some (vI x3)], [vI (x1 + (1 : Int32)), vI (σ.1 7 0 1 (x2).toNatClampNeg)], σ)) rfl).trans ?_
  refine (e_f (B := (50, 39, [some (vR 7 0 0), some (vI x1), some (vI x2), some (vI x3)], [], σ)) rfl h4).trans ?_
  exact e_n 8 rfl
set_option maxRecDepth 20000 in
theorem g51_0_0 (C : pmC) {σ : pmS} {x1 : Int32} {x2 : Int32} {x3 : Int32} (h1 : (σ.1 8 0 3 0) < (40 : Int32)) (h2 : vp_in (σ.1 8 0 3 0) 40) : pm_Rn C (51, 0, [some (vR 8 0 0), some (vI x1), some (vI x2), some (vI x3)], [], σ) = some (some (vI (1 : Int32)), (pm_wi (pm_wi (pm_wi (pm_wi σ 8 0 0 ((σ.1 8 0 3 0)).toNatClampNeg x1) 8 0 1 ((σ.1 8 0 3 0)).toNatClampNeg x2) 8 0 2 ((σ.1 8 0 3 0)).toNatClampNeg x3) 8 0 3 0 ((σ.1 8 0 3 0) + (1 : Int32)))) := by
  refine (e_n 3 (fr' := (51, 6, [some (vR 8 0 0), some (vI x1), some (vI x2), some (vI x3)], [vI (40 : Int32), vI (σ.1 8 0 3 0)], σ)) rfl).trans ?_
  refine (e_t (A := (51, 11, [some (vR 8 0 0), some (vI x1), some (vI x2), some (vI x3)], [], σ)) rfl h1).trans ?_
  refine (e_n 5 (fr' := (51, 20, [some (vR 8 0 0), some (vI x1), some (vI x2), some (vI x3)], [vI x1, vI (σ.1 8 0 3 0), vR 8 0 1], σ)) rfl).trans ?_
  refine (e_a (A := (51, 21, [some (vR 8 0 0), some (vI x1), some (vI x2), some (vI x3)], [], (pm_wi σ 8 0 0 ((σ.1 8 0 3 0)).toNatClampNeg x1))) rfl h2).trans ?_
  refine (e_n 5 (fr' := (51, 30, [some (vR 8 0 0), some (vI x1), some (vI x2), some (vI x3)], [vI x2, vI (σ.1 8 0 3 0), vR 8 0 2], (pm_wi σ 8 0 0 ((σ.1 8 0 3 0)).toNatClampNeg x1))) rfl).trans ?_
  refine (e_a (A := (51, 31, [some (vR 8 0 0), some (vI x1), some (vI x2), some (vI x3)], [], (pm_wi (pm_wi σ 8 0 0 ((σ.1 8 0 3 0)).toNatClampNeg x1) 8 0 1 ((σ.1 8 0 3 0)).toNatClampNeg x2))) rfl h2).trans ?_
  refine (e_n 5 (fr' := (51, 40, [some (vR 8 0 0), some (vI x1), some (vI x2), some (vI x3)], [vI x3, vI (σ.1 8 0 3 0), vR 8 0 3], (pm_wi (pm_wi σ 8 0 0 ((σ.1 8 0 3 0)).toNatClampNeg x1) 8 0 1 ((σ.1 8 0 3 0)).toNatClampNeg x2))) rfl).trans ?_
  refine (e_a (A := (51, 41, [some (vR 8 0 0), some (vI x1), some (vI x2), some (vI x3)], [], (pm_wi (pm_wi (pm_wi σ 8 0 0 ((σ.1 8 0 3 0)).toNatClampNeg x1) 8 0 1 ((σ.1 8 0 3 0)).toNatClampNeg x2) 8 0 2 ((σ.1 8 0 3 0)).toNatClampNeg x3))) rfl h2).trans ?_
  refine (e_n 7 (fr' := (51, 52, [some (vR 8 0 0), some (vI x1), some (vI x2), some (vI x3)], [vI (1 : Int32)], (pm_wi (pm_wi (pm_wi (pm_wi σ 8 0 0 ((σ.1 8 0 3 0)).toNatClampNeg x1) 8 0 1 ((σ.1 8 0 3 0)).toNatClampNeg x2) 8 0 2 ((σ.1 8 0 3 0)).toNatClampNeg x3) 8 0 3 0 ((σ.1 8 0 3 0) + (1 : Int32))))) rfl).trans ?_
  exact e_r rfl
set_option maxRecDepth 20000 in
theorem g51_0_1 (C : pmC) {σ : pmS} {x1 : Int32} {x2 : Int32} {x3 : Int32} (h1 : ¬ (σ.1 8 0 3 0) < (40 : Int32)) : pm_Rn C (51, 0, [some (vR 8 0 0), some (vI x1), some (vI x2), some (vI x3)], [], σ) = some (some (vI (0 : Int32)), σ) := by
  refine (e_n 3 (fr' := (51, 6, [some (vR 8 0 0), some (vI x1), some (vI x2), some (vI x3)], [vI (40 : Int32), vI (σ.1 8 0 3 0)], σ)) rfl).trans ?_
  refine (e_f (B := (51, 9, [some (vR 8 0 0), some (vI x1), some (vI x2), some (vI x3)], [], σ)) rfl h1).trans ?_
  refine (e_n 1 (fr' := (51, 10, [some (vR 8 0 0), some (vI x1), some (vI x2), some (vI x3)], [vI (0 : Int32)], σ)) rfl).trans ?_
  exact e_r rfl
set_option maxRecDepth 20000 in
theorem g52_0_0 (C : pmC) {σ : pmS} {x2 : Int32} {x3 : Int32} (h1 : vp_in x2 40) (h2 : x3 < (σ.1 8 0 2 (x2).toNatClampNeg)) : pm_Rn C (52, 0, [some (vR 8 0 0), some (vR 5 0 0), some (vI x2), some (vI x3)], [], σ) = some (some (vI (0 : Int32)), σ) := by
  refine (e_n 4 (fr' := (52, 6, [some (vR 8 0 0), some (vR 5 0 0), some (vI x2), some (vI x3)], [vI x2, vR 8 0 3, vI x3], σ)) rfl).trans ?_
  refine (e_a (A := (52, 7, [some (vR 8 0 0), some (vR 5 0 0), some (vI x2), some (vI x3)], [vI (σ.1 8 0 2 (x2).toNatClampNeg), vI x3], σ)) rfl h1).trans ?_
  refine (e_t (A := (52, 42, [some (vR 8 0 0), some (vR 5 0 0), some (vI x2), some (vI x3)], [], σ)) rfl h2).trans ?_
  refine (e_n 1 (fr' := (52, 43, [some (vR 8 0 0), some (vR 5 0 0), some (vI x2), some (vI x3)], [vI (0 : Int32)], σ)) rfl).trans ?_
  exact e_r rfl
set_option maxRecDepth 20000 in
theorem g52_0_1 (C : pmC) {σ : pmS} {x2 : Int32} {x3 : Int32} {σ1 : pmS} {r1 : Int32} (h1 : vp_in x2 40) (h2 : ¬ x3 < (σ.1 8 0 2 (x2).toNatClampNeg)) (h3 : C 34 [vR 5 0 0, vI (σ.1 8 0 0 (x2).toNatClampNeg), vI x3] σ = some (some (vI r1), σ1)) (h4 : r1 = 0) : pm_Rn C (52, 0, [some (vR 8 0 0), some (vR 5 0 0), some (vI x2), some (vI x3)], [], σ) = some (some (vI (0 : Int32)), σ1) := by
  refine (e_n 4 (fr' := (52, 6, [some (vR 8 0 0), some (vR 5 0 0), some (vI x2), some (vI x3)], [vI x2, vR 8 0 3, vI x3], σ)) rfl).trans ?_
  refine (e_a (A := (52, 7, [some (vR 8 0 0), some (vR 5 0 0), some (vI x2), some (vI x3)], [vI (σ.1 8 0 2 (x2).toNatClampNeg), vI x3], σ)) rfl h1).trans ?_
  refine (e_f (B := (52, 10, [some (vR 8 0 0), some (vR 5 0 0), some (vI x2), some (vI x3)], [], σ)) rfl h2).trans ?_
  refine (e_n 4 (fr' := (52, 16, [some (vR 8 0 0), some (vR 5 0 0), some (vI x2), some (vI x3)], [vI x2, vR 8 0 1, vR 5 0 0], σ)) rfl).trans ?_
  refine (e_a (A := (52, 17, [some (vR 8 0 0), some (vR 5 0 0), some (vI x2), some (vI x3)], [vI (σ.1 8 0 0 (x2).toNatClampNeg), vR 5 0 0], σ)) rfl h1).trans ?_
  refine (e_n 1 (fr' := (52, 18, [some (vR 8 0 0), some (vR 5 0 0), some (vI x2), some (vI x3)], [vI x3, vI (σ.1 8 0 0 (x2).toNatClampNeg), vR 5 0 0], σ)) rfl).trans ?_
  refine (e_ci (m := 52) (pc := 21) (ls := [some (vR 8 0 0), some (vR 5 0 0), some (vI x2), some (vI x3)]) (rest := []) rfl h3).trans ?_
  refine (e_t (A := (52, 42, [some (vR 8 0 0), some (vR 5 0 0), some (vI x2), some (vI x3)], [], σ1)) rfl h4).trans ?_
  refine (e_n 1 (fr' := (52, 43, [some (vR 8 0 0), some (vR 5 0 0), some (vI x2), some (vI x3)], [vI (0 : Int32)], σ1)) rfl).trans ?_
  exact e_r rfl
set_option maxRecDepth 20000 in
theorem g52_0_2 (C : pmC) {σ : pmS} {x2 : Int32} {x3 : Int32} {σ1 : pmS} {r1 : Int32} {σ2 : pmS} {r2 : Int32} (h1 : vp_in x2 40) (h2 : ¬ x3 < (σ.1 8 0 2 (x2).toNatClampNeg)) (h3 : C 34 [vR 5 0 0, vI (σ.1 8 0 0 (x2).toNatClampNeg), vI x3] σ = some (some (vI r1), σ1)) (h4 : ¬ r1 = 0) (h5 : C 34 [vR 5 0 0, vI (σ1.1 8 0 1 (x2).toNatClampNeg), vI x3] σ1 = some (some (vI r2), σ2)) (h6 : r2 = 0) : pm_Rn C (52, 0, [some (vR 8 0 0), some (vR 5 0 0), some (vI x2), some (vI x3)], [], σ) = some (some (vI (0 : Int32)), σ2) := by
  refine (e_n 4 (fr' := (52, 6, [some (vR 8 0 0), some (vR 5 0 0), some (vI x2), some (vI x3)], [vI x2, vR 8 0 3, vI x3], σ)) rfl).trans ?_
  refine (e_a (A := (52, 7, [some (vR 8 0 0), some (vR 5 0 0), some (vI x2), some (vI x3)], [vI (σ.1 8 0 2 (x2).toNatClampNeg), vI x3], σ)) rfl h1).trans ?_
  refine (e_f (B := (52, 10, [some (vR 8 0 0), some (vR 5 0 0), some (vI x2), some (vI x3)], [], σ)) rfl h2).trans ?_
  refine (e_n 4 (fr' := (52, 16, [some (vR 8 0 0), some (vR 5 0 0), some (vI x2), some (vI x3)], [vI x2, vR 8 0 1, vR 5 0 0], σ)) rfl).trans ?_
  refine (e_a (A := (52, 17, [some (vR 8 0 0), some (vR 5 0 0), some (vI x2), some (vI x3)], [vI (σ.1 8 0 0 (x2).toNatClampNeg), vR 5 0 0], σ)) rfl h1).trans ?_
  refine (e_n 1 (fr' := (52, 18, [some (vR 8 0 0), some (vR 5 0 0), some (vI x2), some (vI x3)], [vI x3, vI (σ.1 8 0 0 (x2).toNatClampNeg), vR 5 0 0], σ)) rfl).trans ?_
  refine (e_ci (m := 52) (pc := 21) (ls := [some (vR 8 0 0), some (vR 5 0 0), some (vI x2), some (vI x3)]) (rest := []) rfl h3).trans ?_
  refine (e_f (B := (52, 24, [some (vR 8 0 0), some (vR 5 0 0), some (vI x2), some (vI x3)], [], σ1)) rfl h4).trans ?_
  refine (e_n 4 (fr' := (52, 30, [some (vR 8 0 0), some (vR 5 0 0), some (vI x2), some (vI x3)], [vI x2, vR 8 0 2, vR 5 0 0], σ1)) rfl).trans ?_
  refine (e_a (A := (52, 31, [some (vR 8 0 0), some (vR 5 0 0), some (vI x2), some (vI x3)], [vI (σ1.1 8 0 1 (x2).toNatClampNeg), vR 5 0 0], σ1)) rfl h1).trans ?_
  refine (e_n 1 (fr' := (52, 32, [some (vR 8 0 0), some (vR 5 0 0), some (vI x2), some (vI x3)], [vI x3, vI (σ1.1 8 0 1 (x2).toNatClampNeg), vR 5 0 0], σ1)) rfl).trans ?_
  refine (e_ci (m := 52) (pc := 35) (ls := [some (vR 8 0 0), some (vR 5 0 0), some (vI x2), some (vI x3)]) (rest := []) rfl h5).trans ?_
  refine (e_t (A := (52, 42, [some (vR 8 0 0), some (vR 5 0 0), some (vI x2), some (vI x3)], [], σ2)) rfl h6).trans ?_
  refine (e_n 1 (fr' := (52, 43, [some (vR 8 0 0), some (vR 5 0 0), some (vI x2), some (vI x3)], [vI (0 : Int32)], σ2)) rfl).trans ?_
  exact e_r rfl
set_option maxRecDepth 20000 in
theorem g52_0_3 (C : pmC) {σ : pmS} {x2 : Int32} {x3 : Int32} {σ1 : pmS} {r1 : Int32} {σ2 : pmS} {r2 : Int32} (h1 : vp_in x2 40) (h2 : ¬ x3 < (σ.1 8 0 2 (x2).toNatClampNeg)) (h3 : C 34 [vR 5 0 0, vI (σ.1 8 0 0 (x2).toNatClampNeg), vI x3] σ = some (some (vI r1), σ1)) (h4 : ¬ r1 = 0) (h5 : C 34 [vR 5 0 0, vI (σ1.1 8 0 1 (x2).toNatClampNeg), vI x3] σ1 = some (some (vI r2), σ2)) (h6 : ¬ r2 = 0) : pm_Rn C (52, 0, [some (vR 8 0 0), some (vR 5 0 0), some (vI x2), some (vI x3)], [], σ) = some (some (vI (1 : Int32)), σ2) := by
  refine (e_n 4 (fr' := (52, 6, [some (vR 8 0 0), some (vR 5 0 0), some (vI x2), some (vI x3)], [vI x2, vR 8 0 3, vI x3], σ)) rfl).trans ?_
  refine (e_a (A := (52, 7, [some (vR 8 0 0), some (vR 5 0 0), some (vI x2), some (vI x3)], [vI (σ.1 8 0 2 (x2).toNatClampNeg), vI x3], σ)) rfl h1).trans ?_
  refine (e_f (B := (52, 10, [some (vR 8 0 0), some (vR 5 0 0), some (vI x2), some (vI x3)], [], σ)) rfl h2).trans ?_
  refine (e_n 4 (fr' := (52, 16, [some (vR 8 0 0), some (vR 5 0 0), some (vI x2), some (vI x3)], [vI x2, vR 8 0 1, vR 5 0 0], σ)) rfl).trans ?_
  refine (e_a (A := (52, 17, [some (vR 8 0 0), some (vR 5 0 0), some (vI x2), some (vI x3)], [vI (σ.1 8 0 0 (x2).toNatClampNeg), vR 5 0 0], σ)) rfl h1).trans ?_
  refine (e_n 1 (fr' := (52, 18, [some (vR 8 0 0), some (vR 5 0 0), some (vI x2), some (vI x3)], [vI x3, vI (σ.1 8 0 0 (x2).toNatClampNeg), vR 5 0 0], σ)) rfl).trans ?_
  refine (e_ci (m := 52) (pc := 21) (ls := [some (vR 8 0 0), some (vR 5 0 0), some (vI x2), some (vI x3)]) (rest := []) rfl h3).trans ?_
  refine (e_f (B := (52, 24, [some (vR 8 0 0), some (vR 5 0 0), some (vI x2), some (vI x3)], [], σ1)) rfl h4).trans ?_
  refine (e_n 4 (fr' := (52, 30, [some (vR 8 0 0), some (vR 5 0 0), some (vI x2), some (vI x3)], [vI x2, vR 8 0 2, vR 5 0 0], σ1)) rfl).trans ?_
  refine (e_a (A := (52, 31, [some (vR 8 0 0), some (vR 5 0 0), some (vI x2), some (vI x3)], [vI (σ1.1 8 0 1 (x2).toNatClampNeg), vR 5 0 0], σ1)) rfl h1).trans ?_
  refine (e_n 1 (fr' := (52, 32, [some (vR 8 0 0), some (vR 5 0 0), some (vI x2), some (vI x3)], [vI x3, vI (σ1.1 8 0 1 (x2).toNatClampNeg), vR 5 0 0], σ1)) rfl).trans ?_
  refine (e_ci (m := 52) (pc := 35) (ls := [some (vR 8 0 0), some (vR 5 0 0), some (vI x2), some (vI x3)]) (rest := []) rfl h5).trans ?_
  refine (e_f (B := (52, 38, [some (vR 8 0 0), some (vR 5 0 0), some (vI x2), some (vI x3)], [], σ2)) rfl h6).trans ?_
  refine (e_n 2 (fr' := (52, 43, [some (vR 8 0 0), some (vR 5 0 0), some (vI x2), some (vI x3)], [vI (1 : Int32)], σ2)) rfl).trans ?_
  exact e_r rfl
set_option maxRecDepth 20000 in
theorem g53_0_0 (C : pmC) {σ : pmS} {x2 : Int32} {x3 : Int32} {l4 : Option pmV}  : pm_Rn C (53, 0, [some (vR 8 0 0), some (vR 5 0 0), some (vI x2), some (vI x3), l4], [], σ) = pm_Rn C (53, 3, [some (vR 8 0 0), some (vR 5 0 0), some (vI x2), some (vI x3), some (vI (0 : Int32))], [], σ) := by
  exact e_n 2 rfl
set_option maxRecDepth 20000 in
theorem g53_3_0 (C : pmC) {σ : pmS} {x2 : Int32} {x3 : Int32} {x4 : Int32} (h1 : (σ.1 8 0 3 0) ≤ x4) : pm_Rn C (53, 3, [some (vR 8 0 0), some (vR 5 0 0), some (vI x2), some (vI x3), some (vI x4)], [], σ) = some (some (vI (-1 : Int32)), σ) := by
  refine (e_n 3 (fr' := (53, 9, [some (vR 8 0 0), some (vR 5 0 0), some (vI x2), some (vI x3), some (vI x4)], [vI (σ.1 8 0 3 0), vI x4], σ)) rfl).trans ?_
  refine (e_t (A := (53, 80, [some (vR 8 0 0), some (vR 5 0 0), some (vI x2), some (vI x3), some (vI x4)], [], σ)) rfl h1).trans ?_
  refine (e_n 1 (fr' := (53, 81, [some (vR 8 0 0), some (vR 5 0 0), some (vI x2), some (vI x3), some (vI x4)], [vI (-1 : Int32)], σ)) rfl).trans ?_
  exact e_r rfl
set_option maxRecDepth 20000 in
theorem g53_3_1 (C : pmC) {σ : pmS} {x2 : Int32} {x3 : Int32} {x4 : Int32} {σ1 : pmS} {r1 : Int32} (h1 : ¬ (σ.1 8 0 3 0) ≤ x4) (h2 : vp_in x4 40) (h3 : (σ.1 8 0 0 (x4).toNatClampNeg) = x2) (h4 : C 52 [vR 8 0 0, vR 5 0 0, vI x4, vI x3] σ = some (some (vI r1), σ1)) (h5 : r1 = 0) : pm_Rn C (53, 3, [some (vR 8 0 0), some (vR 5 0 0), some (vI x2), some (vI x3), some (vI x4)], [], σ) = pm_Rn C (53, 3, [some (vR 8 0 0), some (vR 5 0 0), some (vI x2), some (vI x3), some (vI (x4 + (1 : Int32)))], [], σ1) := by
  refine (e_n 3 (fr' := (53, 9, [some (vR 8 0 0), some (vR 5 0 0), some (vI x2), some (vI x3), some (vI x4)], [vI (σ.1 8 0 3 0), vI x4], σ)) rfl).trans ?_
  refine (e_f (B := (53, 12, [some (vR 8 0 0), some (vR 5 0 0), some (vI x2), some (vI x3), some (vI x4)], [], σ)) rfl h1).trans ?_
  refine (e_n 3 (fr' := (53, 18, [some (vR 8 0 0), some (vR 5 0 0), some (vI x2), some (vI x3), some (vI x4)], [vI x4, vR 8 0 1], σ)) rfl).trans ?_
  refine (e_a (A := (53, 19, [some (vR 8 0 0), some (vR 5 0 0), some (vI x2), some (vI x3), some (vI x4)], [vI (σ.1 8 0 0 (x4).toNatClampNeg)], σ)) rfl h2).trans ?_
  refine (e_n 1 (fr' := (53, 20, [some (vR 8 0 0), some (vR 5 0 0), some (vI x2), some (vI x3), some (vI x4)], [vI x2, vI (σ.1 8 0 0 (x4).toNatClampNeg)], σ)) rfl).trans ?_
  refine (e_t (A := (53, 34, [some (vR 8 0 0), some (vR 5 0 0), some (vI x2), some (vI x3), some (vI x4)], [], σ)) rfl h3).trans ?_
  refine (e_n 4 (fr' := (53, 39, [some (vR 8 0 0), some (vR 5 0 0), some (vI x2), some (vI x3), some (vI x4)], [vI x3, vI x4, vR 5 0 0, vR 8 0 0], σ)) rfl).trans ?_
  refine (e_ci (m := 53) (pc := 42) (ls := [some (vR 8 0 0), some (vR 5 0 0), some (vI x2), some (vI x3), some (vI x4)]) (rest := []) rfl h4).trans ?_
  refine (e_t (A := (53, 74, [some (vR 8 0 0), some (vR 5 0 0), some (vI x2), some (vI x3), some (vI x4)], [], σ1)) rfl h5).trans ?_
  exact e_n 2 rfl
set_option maxRecDepth 20000 in
theorem g53_3_2 (C : pmC) {σ : pmS} {x2 : Int32} {x3 : Int32} {x4 : Int32} {σ1 : pmS} {r1 : Int32} (h1 : ¬ (σ.1 8 0 3 0) ≤ x4) (h2 : vp_in x4 40) (h3 : (σ.1 8 0 0 (x4).toNatClampNeg) = x2) (h4 : C 52 [vR 8 0 0, vR 5 0 0, vI x4, vI x3] σ = some (some (vI r1), σ1)) (h5 : ¬ r1 = 0) (h6 : (σ1.1 8 0 0 (x4).toNatClampNeg) = x2) : pm_Rn C (53, 3, [some (vR 8 0 0), some (vR 5 0 0), some (vI x2), some (vI x3), some (vI x4)], [], σ) = some (some (vI (σ1.1 8 0 1 (x4).toNatClampNeg)), σ1) := by
  refine (e_n 3 (fr' := (53, 9, [some (vR 8 0 0), some (vR 5 0 0), some (vI x2), some (vI x3), some (vI x4)], [vI (σ.1 8 0 3 0), vI x4], σ)) rfl).trans ?_
  refine (e_f (B := (53, 12, [some (vR 8 0 0), some (vR 5 0 0), some (vI x2), some (vI x3), some (vI x4)], [], σ)) rfl h1).trans ?_
  refine (e_n 3 (fr' := (53, 18, [some (vR 8 0 0), some (vR 5 0 0), some (vI x2), some (vI x3), some (vI x4)], [vI x4, vR 8 0 1], σ)) rfl).trans ?_
  refine (e_a (A := (53, 19, [some (vR 8 0 0), some (vR 5 0 0), some (vI x2), some (vI x3), some (vI x4)], [vI (σ.1 8 0 0 (x4).toNatClampNeg)], σ)) rfl h2).trans ?_
  refine (e_n 1 (fr' := (53, 20, [some (vR 8 0 0), some (vR 5 0 0), some (vI x2), some (vI x3), some (vI x4)], [vI x2, vI (σ.1 8 0 0 (x4).toNatClampNeg)], σ)) rfl).trans ?_
  refine (e_t (A := (53, 34, [some (vR 8 0 0), some (vR 5 0 0), some (vI x2), some (vI x3), some (vI x4)], [], σ)) rfl h3).trans ?_
  refine (e_n 4 (fr' := (53, 39, [some (vR 8 0 0), some (vR 5 0 0), some (vI x2), some (vI x3), some (vI x4)], [vI x3, vI x4, vR 5 0 0, vR 8 0 0], σ)) rfl).trans ?_
  refine (e_ci (m := 53) (pc := 42) (ls := [some (vR 8 0 0), some (vR 5 0 0), some (vI x2), some (vI x3), some (vI x4)]) (rest := []) rfl h4).trans ?_
  refine (e_f (B := (53, 45, [some (vR 8 0 0), some (vR 5 0 0), some (vI x2), some (vI x3), some (vI x4)], [], σ1)) rfl h5).trans ?_
  refine (e_n 3 (fr' := (53, 51, [some (vR 8 0 0), some (vR 5 0 0), some (vI x2), some (vI x3), some (vI x4)], [vI x4, vR 8 0 1], σ1)) rfl).trans ?_
  refine (e_a (A := (53, 52, [some (vR 8 0 0), some (vR 5 0 0), some (vI x2), some (vI x3), some (vI x4)], [vI (σ1.1 8 0 0 (x4).toNatClampNeg)], σ1)) rfl h2).trans ?_
  refine (e_n 1 (fr' := (53, 53, [some (vR 8 0 0), some (vR 5 0 0), some (vI x2), some (vI x3), some (vI x4)], [vI x2, vI (σ1.1 8 0 0 (x4).toNatClampNeg)], σ1)) rfl).trans ?_
  refine (e_t (A := (53, 56, [some (vR 8 0 0), some (vR 5 0 0), some (vI x2), some (vI x3), some (vI x4)], [], σ1)) rfl h6).trans ?_
  refine (e_n 3 (fr' := (53, 62, [some (vR 8 0 0), some (vR 5 0 0), some (vI x2), some (vI x3), some (vI x4)], [vI x4, vR 8 0 2], σ1)) rfl).trans ?_
  refine (e_a (A := (53, 63, [some (vR 8 0 0), some (vR 5 0 0), some (vI x2), some (vI x3), some (vI x4)], [vI (σ1.1 8 0 1 (x4).toNatClampNeg)], σ1)) rfl h2).trans ?_
  refine (e_n 1 (fr' := (53, 73, [some (vR 8 0 0), some (vR 5 0 0), some (vI x2), some (vI x3), some (vI x4)], [vI (σ1.1 8 0 1 (x4).toNatClampNeg)], σ1)) rfl).trans ?_
  exact e_r rfl
set_option maxRecDepth 20000 in
theorem g53_3_3 (C : pmC) {σ : pmS} {x2 : Int32} {x3 : Int32} {x4 : Int32} {σ1 : pmS} {r1 : Int32} (h1 : ¬ (σ.1 8 0 3 0) ≤ x4) (h2 : vp_in x4 40) (h3 : (σ.1 8 0 0 (x4).toNatClampNeg) = x2) (h4 : C 52 [vR 8 0 0, vR 5 0 0, vI x4, vI x3] σ = some (some (vI r1), σ1)) (h5 : ¬ r1 = 0) (h6 : ¬ (σ1.1 8 0 0 (x4).toNatClampNeg) = x2) : pm_Rn C (53, 3, [some (vR 8 0 0), some (vR 5 0 0), some (vI x2), some (vI x3), some (vI x4)], [], σ) = some (some (vI (σ1.1 8 0 0 (x4).toNatClampNeg)), σ1) := by
  refine (e_n 3 (fr' := (53, 9, [some (vR 8 0 0), some (vR 5 0 0), some (vI x2), some (vI x3), some (vI x4)], [vI (σ.1 8 0 3 0), vI x4], σ)) rfl).trans ?_
  refine (e_f (B := (53, 12, [some (vR 8 0 0), some (vR 5 0 0), some (vI x2), some (vI x3), some (vI x4)], [], σ)) rfl h1).trans ?_
  refine (e_n 3 (fr' := (53, 18, [some (vR 8 0 0), some (vR 5 0 0), some (vI x2), some (vI x3), some (vI x4)], [vI x4, vR 8 0 1], σ)) rfl).trans ?_
  refine (e_a (A := (53, 19, [some (vR 8 0 0), some (vR 5 0 0), some (vI x2), some (vI x3), some (vI x4)], [vI (σ.1 8 0 0 (x4).toNatClampNeg)], σ)) rfl h2).trans ?_
  refine (e_n 1 (fr' := (53, 20, [some (vR 8 0 0), some (vR 5 0 0), some (vI x2), some (vI x3), some (vI x4)], [vI x2, vI (σ.1 8 0 0 (x4).toNatClampNeg)], σ)) rfl).trans ?_
  refine (e_t (A := (53, 34, [some (vR 8 0 0), some (vR 5 0 0), some (vI x2), some (vI x3), some (vI x4)], [], σ)) rfl h3).trans ?_
  refine (e_n 4 (fr' := (53, 39, [some (vR 8 0 0), some (vR 5 0 0), some (vI x2), some (vI x3), some (vI x4)], [vI x3, vI x4, vR 5 0 0, vR 8 0 0], σ)) rfl).trans ?_
  refine (e_ci (m := 53) (pc := 42) (ls := [some (vR 8 0 0), some (vR 5 0 0), some (vI x2), some (vI x3), some (vI x4)]) (rest := []) rfl h4).trans ?_
  refine (e_f (B := (53, 45, [some (vR 8 0 0), some (vR 5 0 0), some (vI x2), some (vI x3), some (vI x4)], [], σ1)) rfl h5).trans ?_
  refine (e_n 3 (fr' := (53, 51, [some (vR 8 0 0), some (vR 5 0 0), some (vI x2), some (vI x3), some (vI x4)], [vI x4, vR 8 0 1], σ1)) rfl).trans ?_
  refine (e_a (A := (53, 52, [some (vR 8 0 0), some (vR 5 0 0), some (vI x2), some (vI x3), some (vI x4)], [vI (σ1.1 8 0 0 (x4).toNatClampNeg)], σ1)) rfl h2).trans ?_
  refine (e_n 1 (fr' := (53, 53, [some (vR 8 0 0), some (vR 5 0 0), some (vI x2), some (vI x3), some (vI x4)], [vI x2, vI (σ1.1 8 0 0 (x4).toNatClampNeg)], σ1)) rfl).trans ?_
  refine (e_f (B := (53, 66, [some (vR 8 0 0), some (vR 5 0 0), some (vI x2), some (vI x3), some (vI x4)], [], σ1)) rfl h6).trans ?_
  refine (e_n 3 (fr' := (53, 72, [some (vR 8 0 0), some (vR 5 0 0), some (vI x2), some (vI x3), some (vI x4)], [vI x4, vR 8 0 1], σ1)) rfl).trans ?_
  refine (e_a (A := (53, 73, [some (vR 8 0 0), some (vR 5 0 0), some (vI x2), some (vI x3), some (vI x4)], [vI (σ1.1 8 0 0 (x4).toNatClampNeg)], σ1)) rfl h2).trans ?_
  exact e_r rfl
set_option maxRecDepth 20000 in
theorem g53_3_4 (C : pmC) {σ : pmS} {x2 : Int32} {x3 : Int32} {x4 : Int32} {σ1 : pmS} {r1 : Int32} (h1 : ¬ (σ.1 8 0 3 0) ≤ x4) (h2 : vp_in x4 40) (h3 : ¬ (σ.1 8 0 0 (x4).toNatClampNeg) = x2) (h4 : (σ.1 8 0 1 (x4).toNatClampNeg) = x2) (h5 : C 52 [vR 8 0 0, vR 5 0 0, vI x4, vI x3] σ = some (some (vI r1), σ1)) (h6 : r1 = 0) : pm_Rn C (53, 3, [some (vR 8 0 0), some (vR 5 0 0), some (vI x2), some (vI x3), some (vI x4)], [], σ) = pm_Rn C (53, 3, [some (vR 8 0 0), some (vR 5 0 0), some (vI x2), some (vI x3), some (vI (x4 + (1 : Int32)))], [], σ1) := by
  refine (e_n 3 (fr' := (53, 9, [some (vR 8 0 0), some (vR 5 0 0), some (vI x2), some (vI x3), some (vI x4)], [vI (σ.1 8 0 3 0), vI x4], σ)) rfl).trans ?_
  refine (e_f (B := (53, 12, [some (vR 8 0 0), some (vR 5 0 0), some (vI x2), some (vI x3), some (vI x4)], [], σ)) rfl h1).trans ?_
  refine (e_n 3 (fr' := (53, 18, [some (vR 8 0 0), some (vR 5 0 0), some (vI x2), some (vI x3), some (vI x4)], [vI x4, vR 8 0 1], σ)) rfl).trans ?_
  refine (e_a (A := (53, 19, [some (vR 8 0 0), some (vR 5 0 0), some (vI x2), some (vI x3), some (vI x4)], [vI (σ.1 8 0 0 (x4).toNatClampNeg)], σ)) rfl h2).trans ?_
  refine (e_n 1 (fr' := (53, 20, [some (vR 8 0 0), some (vR 5 0 0), some (vI x2), some (vI x3), some (vI x4)], [vI x2, vI (σ.1 8 0 0 (x4).toNatClampNeg)], σ)) rfl).trans ?_
  refine (e_f (B := (53, 23, [some (vR 8 0 0), some (vR 5 0 0), some (vI x2), some (vI x3), some (vI x4)], [], σ)) rfl h3).trans ?_
  refine (e_n 3 (fr' := (53, 29, [some (vR 8 0 0), some (vR 5 0 0), some (vI x2), some (vI x3), some (vI x4)], [vI x4, vR 8 0 2], σ)) rfl).trans ?_
  refine (e_a (A := (53, 30, [some (vR 8 0 0), some (vR 5 0 0), some (vI x2), some (vI x3), some (vI x4)], [vI (σ.1 8 0 1 (x4).toNatClampNeg)], σ)) rfl h2).trans ?_
  refine (e_n 1 (fr' := (53, 31, [some (vR 8 0 0), some (vR 5 0 0), some (vI x2), some (vI x3), some (vI x4)], [vI x2, vI (σ.1 8 0 1 (x4).toNatClampNeg)], σ)) rfl).trans ?_
  refine (e_t (A := (53, 34, [some (vR 8 0 0), some (vR 5 0 0), some (vI x2), some (vI x3), some (vI x4)], [], σ)) rfl h4).trans ?_
  refine (e_n 4 (fr' := (53, 39, [some (vR 8 0 0), some (vR 5 0 0), some (vI x2), some (vI x3), some (vI x4)], [vI x3, vI x4, vR 5 0 0, vR 8 0 0], σ)) rfl).trans ?_
  refine (e_ci (m := 53) (pc := 42) (ls := [some (vR 8 0 0), some (vR 5 0 0), some (vI x2), some (vI x3), some (vI x4)]) (rest := []) rfl h5).trans ?_
  refine (e_t (A := (53, 74, [some (vR 8 0 0), some (vR 5 0 0), some (vI x2), some (vI x3), some (vI x4)], [], σ1)) rfl h6).trans ?_
  exact e_n 2 rfl
set_option maxRecDepth 20000 in
theorem g53_3_5 (C : pmC) {σ : pmS} {x2 : Int32} {x3 : Int32} {x4 : Int32} {σ1 : pmS} {r1 : Int32} (h1 : ¬ (σ.1 8 0 3 0) ≤ x4) (h2 : vp_in x4 40) (h3 : ¬ (σ.1 8 0 0 (x4).toNatClampNeg) = x2) (h4 : (σ.1 8 0 1 (x4).toNatClampNeg) = x2) (h5 : C 52 [vR 8 0 0, vR 5 0 0, vI x4, vI x3] σ = some (some (vI r1), σ1)) (h6 : ¬ r1 = 0) (h7 : (σ1.1 8 0 0 (x4).toNatClampNeg) = x2) : pm_Rn C (53, 3, [some (vR 8 0 0), some (vR 5 0 0), some (vI x2), some (vI x3), some (vI x4)], [], σ) = some (some (vI (σ1.1 8 0 1 (x4).toNatClampNeg)), σ1) := by
  refine (e_n 3 (fr' := (53, 9, [some (vR 8 0 0), some (vR 5 0 0), some (vI x2), some (vI x3), some (vI x4)], [vI (σ.1 8 0 3 0), vI x4], σ)) rfl).trans ?_
  refine (e_f (B := (53, 12, [some (vR 8 0 0), some (vR 5 0 0), some (vI x2), some (vI x3), some (vI x4)], [], σ)) rfl h1).trans ?_
  refine (e_n 3 (fr' := (53, 18, [some (vR 8 0 0), some (vR 5 0 0), some (vI x2), some (vI x3), some (vI x4)], [vI x4, vR 8 0 1], σ)) rfl).trans ?_
  refine (e_a (A := (53, 19, [some (vR 8 0 0), some (vR 5 0 0), some (vI x2), some (vI x3), some (vI x4)], [vI (σ.1 8 0 0 (x4).toNatClampNeg)], σ)) rfl h2).trans ?_
  refine (e_n 1 (fr' := (53, 20, [some (vR 8 0 0), some (vR 5 0 0), some (vI x2), some (vI x3), some (vI x4)], [vI x2, vI (σ.1 8 0 0 (x4).toNatClampNeg)], σ)) rfl).trans ?_
  refine (e_f (B := (53, 23, [some (vR 8 0 0), some (vR 5 0 0), some (vI x2), some (vI x3), some (vI x4)], [], σ)) rfl h3).trans ?_
  refine (e_n 3 (fr' := (53, 29, [some (vR 8 0 0), some (vR 5 0 0), some (vI x2), some (vI x3), some (vI x4)], [vI x4, vR 8 0 2], σ)) rfl).trans ?_
  refine (e_a (A := (53, 30, [some (vR 8 0 0), some (vR 5 0 0), some (vI x2), some (vI x3), some (vI x4)], [vI (σ.1 8 0 1 (x4).toNatClampNeg)], σ)) rfl h2).trans ?_
  refine (e_n 1 (fr' := (53, 31, [some (vR 8 0 0), some (vR 5 0 0), some (vI x2), some (vI x3), some (vI x4)], [vI x2, vI (σ.1 8 0 1 (x4).toNatClampNeg)], σ)) rfl).trans ?_
  refine (e_t (A := (53, 34, [some (vR 8 0 0), some (vR 5 0 0), some (vI x2), some (vI x3), some (vI x4)], [], σ)) rfl h4).trans ?_
  refine (e_n 4 (fr' := (53, 39, [some (vR 8 0 0), some (vR 5 0 0), some (vI x2), some (vI x3), some (vI x4)], [vI x3, vI x4, vR 5 0 0, vR 8 0 0], σ)) rfl).trans ?_
  refine (e_ci (m := 53) (pc := 42) (ls := [some (vR 8 0 0), some (vR 5 0 0), some (vI x2), some (vI x3), some (vI x4)]) (rest := []) rfl h5).trans ?_
  refine (e_f (B := (53, 45, [some (vR 8 0 0), some (vR 5 0 0), some (vI x2), some (vI x3), some (vI x4)], [], σ1)) rfl h6).trans ?_
  refine (e_n 3 (fr' := (53, 51, [some (vR 8 0 0), some (vR 5 0 0), some (vI x2), some (vI x3), some (vI x4)], [vI x4, vR 8 0 1], σ1)) rfl).trans ?_
  refine (e_a (A := (53, 52, [some (vR 8 0 0), some (vR 5 0 0), some (vI x2), some (vI x3), some (vI x4)], [vI (σ1.1 8 0 0 (x4).toNatClampNeg)], σ1)) rfl h2).trans ?_
  refine (e_n 1 (fr' := (53, 53, [some (vR 8 0 0), some (vR 5 0 0), some (vI x2), some (vI x3), some (vI x4)], [vI x2, vI (σ1.1 8 0 0 (x4).toNatClampNeg)], σ1)) rfl).trans ?_
  refine (e_t (A := (53, 56, [some (vR 8 0 0), some (vR 5 0 0), some (vI x2), some (vI x3), some (vI x4)], [], σ1)) rfl h7).trans ?_
  refine (e_n 3 (fr' := (53, 62, [some (vR 8 0 0), some (vR 5 0 0), some (vI x2), some (vI x3), some (vI x4)], [vI x4, vR 8 0 2], σ1)) rfl).trans ?_
  refine (e_a (A := (53, 63, [some (vR 8 0 0), some (vR 5 0 0), some (vI x2), some (vI x3), some (vI x4)], [vI (σ1.1 8 0 1 (x4).toNatClampNeg)], σ1)) rfl h2).trans ?_
  refine (e_n 1 (fr' := (53, 73, [some (vR 8 0 0), some (vR 5 0 0), some (vI x2), some (vI x3), some (vI x4)], [vI (σ1.1 8 0 1 (x4).toNatClampNeg)], σ1)) rfl).trans ?_
  exact e_r rfl
set_option maxRecDepth 20000 in
theorem g53_3_6 (C : pmC) {σ : pmS} {x2 : Int32} {x3 : Int32} {x4 : Int32} {σ1 : pmS} {r1 : Int32} (h1 : ¬ (σ.1 8 0 3 0) ≤ x4) (h2 : vp_in x4 40) (h3 : ¬ (σ.1 8 0 0 (x4).toNatClampNeg) = x2) (h4 : (σ.1 8 0 1 (x4).toNatClampNeg) = x2) (h5 : C 52 [vR 8 0 0, vR 5 0 0, vI x4, vI x3] σ = some (some (vI r1), σ1)) (h6 : ¬ r1 = 0) (h7 : ¬ (σ1.1 8 0 0 (x4).toNatClampNeg) = x2) : pm_Rn C (53, 3, [some (vR 8 0 0), some (vR 5 0 0), some (vI x2), some (vI x3), some (vI x4)], [], σ) = some (some (vI (σ1.1 8 0 0 (x4).toNatClampNeg)), σ1) := by
  refine (e_n 3 (fr' := (53, 9, [some (vR 8 0 0), some (vR 5 0 0), some (vI x2), some (vI x3), some (vI x4)], [vI (σ.1 8 0 3 0), vI x4], σ)) rfl).trans ?_
  refine (e_f (B := (53, 12, [some (vR 8 0 0), some (vR 5 0 0), some (vI x2), some (vI x3), some (vI x4)], [], σ)) rfl h1).trans ?_
  refine (e_n 3 (fr' := (53, 18, [some (vR 8 0 0), some (vR 5 0 0), some (vI x2), some (vI x3), some (vI x4)], [vI x4, vR 8 0 1], σ)) rfl).trans ?_
  refine (e_a (A := (53, 19, [some (vR 8 0 0), some (vR 5 0 0), some (vI x2), some (vI x3), some (vI x4)], [vI (σ.1 8 0 0 (x4).toNatClampNeg)], σ)) rfl h2).trans ?_
  refine (e_n 1 (fr' := (53, 20, [some (vR 8 0 0), some (vR 5 0 0), some (vI x2), some (vI x3), some (vI x4)], [vI x2, vI (σ.1 8 0 0 (x4).toNatClampNeg)], σ)) rfl).trans ?_
  refine (e_f (B := (53, 23, [some (vR 8 0 0), some (vR 5 0 0), some (vI x2), some (vI x3), some (vI x4)], [], σ)) rfl h3).trans ?_
  refine (e_n 3 (fr' := (53, 29, [some (vR 8 0 0), some (vR 5 0 0), some (vI x2), some (vI x3), some (vI x4)], [vI x4, vR 8 0 2], σ)) rfl).trans ?_
  refine (e_a (A := (53, 30, [some (vR 8 0 0), some (vR 5 0 0), some (vI x2), some (vI x3), some (vI x4)], [vI (σ.1 8 0 1 (x4).toNatClampNeg)], σ)) rfl h2).trans ?_
  refine (e_n 1 (fr' := (53, 31, [some (vR 8 0 0), some (vR 5 0 0), some (vI x2), some (vI x3), some (vI x4)], [vI x2, vI (σ.1 8 0 1 (x4).toNatClampNeg)], σ)) rfl).trans ?_
  refine (e_t (A := (53, 34, [some (vR 8 0 0), some (vR 5 0 0), some (vI x2), some (vI x3), some (vI x4)], [], σ)) rfl h4).trans ?_
  refine (e_n 4 (fr' := (53, 39, [some (vR 8 0 0), some (vR 5 0 0), some (vI x2), some (vI x3), some (vI x4)], [vI x3, vI x4, vR 5 0 0, vR 8 0 0], σ)) rfl).trans ?_
  refine (e_ci (m := 53) (pc := 42) (ls := [some (vR 8 0 0), some (vR 5 0 0), some (vI x2), some (vI x3), some (vI x4)]) (rest := []) rfl h5).trans ?_
  refine (e_f (B := (53, 45, [some (vR 8 0 0), some (vR 5 0 0), some (vI x2), some (vI x3), some (vI x4)], [], σ1)) rfl h6).trans ?_
  refine (e_n 3 (fr' := (53, 51, [some (vR 8 0 0), some (vR 5 0 0), some (vI x2), some (vI x3), some (vI x4)], [vI x4, vR 8 0 1], σ1)) rfl).trans ?_
  refine (e_a (A := (53, 52, [some (vR 8 0 0), some (vR 5 0 0), some (vI x2), some (vI x3), some (vI x4)], [vI (σ1.1 8 0 0 (x4).toNatClampNeg)], σ1)) rfl h2).trans ?_
  refine (e_n 1 (fr' := (53, 53, [some (vR 8 0 0), some (vR 5 0 0), some (vI x2), some (vI x3), some (vI x4)], [vI x2, vI (σ1.1 8 0 0 (x4).toNatClampNeg)], σ1)) rfl).trans ?_
  refine (e_f (B := (53, 66, [some (vR 8 0 0), some (vR 5 0 0), some (vI x2), some (vI x3), some (vI x4)], [], σ1)) rfl h7).trans ?_
  refine (e_n 3 (fr' := (53, 72, [some (vR 8 0 0), some (vR 5 0 0), some (vI x2), some (vI x3), some (vI x4)], [vI x4, vR 8 0 1], σ1)) rfl).trans ?_
  refine (e_a (A := (53, 73, [some (vR 8 0 0), some (vR 5 0 0), some (vI x2), some (vI x3), some (vI x4)], [vI (σ1.1 8 0 0 (x4).toNatClampNeg)], σ1)) rfl h2).trans ?_
  exact e_r rfl
set_option maxRecDepth 20000 in
theorem g53_3_7 (C : pmC) {σ : pmS} {x2 : Int32} {x3 : Int32} {x4 : Int32} (h1 : ¬ (σ.1 8 0 3 0) ≤ x4) (h2 : vp_in x4 40) (h3 : ¬ (σ.1 8 0 0 (x4).toNatClampNeg) = x2) (h4 : ¬ (σ.1 8 0 1 (x4).toNatClampNeg) = x2) : pm_Rn C (53, 3, [some (vR 8 0 0), some (vR 5 0 0), some (vI x2), some (vI x3), some (vI x4)], [], σ) = pm_Rn C (53, 3, [some (vR 8 0 0), some (vR 5 0 0), some (vI x2), some (vI x3), some (vI (x4 + (1 : Int32)))], [], σ) := by
  refine (e_n 3 (fr' := (53, 9, [some (vR 8 0 0), some (vR 5 0 0), some (vI x2), some (vI x3), some (vI x4)], [vI (σ.1 8 0 3 0), vI x4], σ)) rfl).trans ?_
  refine (e_f (B := (53, 12, [some (vR 8 0 0), some (vR 5 0 0), some (vI x2), some (vI x3), some (vI x4)], [], σ)) rfl h1).trans ?_
  refine (e_n 3 (fr' := (53, 18, [some (vR 8 0 0), some (vR 5 0 0), some (vI x2), some (vI x3), some (vI x4)], [vI x4, vR 8 0 1], σ)) rfl).trans ?_
  refine (e_a (A := (53, 19, [some (vR 8 0 0), some (vR 5 0 0), some (vI x2), some (vI x3), some (vI x4)], [vI (σ.1 8 0 0 (x4).toNatClampNeg)], σ)) rfl h2).trans ?_
  refine (e_n 1 (fr' := (53, 20, [some (vR 8 0 0), some (vR 5 0 0), some (vI x2), some (vI x3), some (vI x4)], [vI x2, vI (σ.1 8 0 0 (x4).toNatClampNeg)], σ)) rfl).trans ?_
  refine (e_f (B := (53, 23, [some (vR 8 0 0), some (vR 5 0 0), some (vI x2), some (vI x3), some (vI x4)], [], σ)) rfl h3).trans ?_
  refine (e_n 3 (fr' := (53, 29, [some (vR 8 0 0), some (vR 5 0 0), some (vI x2), some (vI x3), some (vI x4)], [vI x4, vR 8 0 2], σ)) rfl).trans ?_
  refine (e_a (A := (53, 30, [some (vR 8 0 0), some (vR 5 0 0), some (vI x2), some (vI x3), some (vI x4)], [vI (σ.1 8 0 1 (x4).toNatClampNeg)], σ)) rfl h2).trans ?_
  refine (e_n 1 (fr' := (53, 31, [some (vR 8 0 0), some (vR 5 0 0), some (vI x2), some (vI x3), some (vI x4)], [vI x2, vI (σ.1 8 0 1 (x4).toNatClampNeg)], σ)) rfl).trans ?_
  refine (e_f (B := (53, 74, [some (vR 8 0 0), some (vR 5 0 0), some (vI x2), some (vI x3), some (vI x4)], [], σ)) rfl h4).trans ?_
  exact e_n 2 rfl
set_option maxRecDepth 20000 in
theorem g54_0_0 (C : pmC) {σ : pmS} {w1 : Int64} {x3 : Int32} (h1 : x3 < (1 : Int32)) : pm_Rn C (54, 0, [some (vR 9 0 0), some (vL w1), none, some (vI x3)], [], σ) = some (some (vI (-2 : Int32)), σ) := by
  refine (e_n 2 (fr' := (54, 2, [some (vR 9 0 0), some (vL w1), none, some (vI x3)], [vI (1 : Int32), vI x3], σ)) rfl).trans ?_
  refine (e_t (A := (54, 11, [some (vR 9 0 0), some (vL w1), none, some (vI x3)], [], σ)) rfl h1).trans ?_
  refine (e_n 1 (fr' := (54, 13, [some (vR 9 0 0), some (vL w1), none, some (vI x3)], [vI (-2 : Int32)], σ)) rfl).trans ?_
  exact e_r rfl
set_option maxRecDepth 20000 in
theorem g54_0_1 (C : pmC) {σ : pmS} {w1 : Int64} {x3 : Int32} {σ1 : pmS} {r1 : Int32} (h1 : ¬ x3 < (1 : Int32)) (h2 : x3 ≤ (8 : Int32)) (h3 : C 40 [vR 6 0 0, vL w1, vI x3] σ = some (some (vI r1), σ1)) (h4 : r1 = 0) : pm_Rn C (54, 0, [some (vR 9 0 0), some (vL w1), none, some (vI x3)], [], σ) = some (some (vI (-4 : Int32)), σ1) := by
  refine (e_n 2 (fr' := (54, 2, [some (vR 9 0 0), some (vL w1), none, some (vI x3)], [vI (1 : Int32), vI x3], σ)) rfl).trans ?_
  refine (e_f (B := (54, 5, [some (vR 9 0 0), some (vL w1), none, some (vI x3)], [], σ)) rfl h1).trans ?_
  refine (e_n 2 (fr' := (54, 8, [some (vR 9 0 0), some (vL w1), none, some (vI x3)], [vI (8 : Int32), vI x3], σ)) rfl).trans ?_
  refine (e_t (A := (54, 14, [some (vR 9 0 0), some (vL w1), none, some (vI x3)], [], σ)) rfl h2).trans ?_
  refine (e_n 4 (fr' := (54, 20, [some (vR 9 0 0), some (vL w1), none, some (vI x3)], [vI x3, vL w1, vR 6 0 0], σ)) rfl).trans ?_
  refine (e_ci (m := 54) (pc := 23) (ls := [some (vR 9 0 0), some (vL w1), none, some (vI x3)]) (rest := []) rfl h3).trans ?_
  refine (e_t (A := (54, 36, [some (vR 9 0 0), some (vL w1), none, some (vI x3)], [], σ1)) rfl h4).trans ?_
  refine (e_n 1 (fr' := (54, 38, [some (vR 9 0 0), some (vL w1), none, some (vI x3)], [vI (-4 : Int32)], σ1)) rfl).trans ?_
  exact e_r rfl
set_option maxRecDepth 20000 in
theorem g54_0_2 (C : pmC) {σ : pmS} {w1 : Int64} {x3 : Int32} {σ1 : pmS} {r1 : Int32} (h1 : ¬ x3 < (1 : Int32)) (h2 : x3 ≤ (8 : Int32)) (h3 : C 40 [vR 6 0 0, vL w1, vI x3] σ = some (some (vI r1), σ1)) (h4 : ¬ r1 = 0) : pm_Rn C (54, 0, [some (vR 9 0 0), some (vL w1), none, some (vI x3)], [], σ) = some (some (vI (σ1.1 6 0 1 0)), σ1) := by
  refine (e_n 2 (fr' := (54, 2, [some (vR 9 0 0), some (vL w1), none, some (vI x3)], [vI (1 : Int32), vI x3], σ)) rfl).trans ?_
  refine (e_f (B := (54, 5, [some (vR 9 0 0), some (vL w1), none, some (vI x3)], [], σ)) rfl h1).trans ?_
  refine (e_n 2 (fr' := (54, 8, [some (vR 9 0 0), some (vL w1), none, some (vI x3)], [vI (8 : Int32), vI x3], σ)) rfl).trans ?_
  refine (e_t (A := (54, 14, [some (vR 9 0 0), some (vL w1), none, some (vI x3)], [], σ)) rfl h2).trans ?_
  refine (e_n 4 (fr' := (54, 20, [some (vR 9 0 0), some (vL w1), none, some (vI x3)], [vI x3, vL w1, vR 6 0 0], σ)) rfl).trans ?_
  refine (e_ci (m := 54) (pc := 23) (ls := [some (vR 9 0 0), some (vL w1), none, some (vI x3)]) (rest := []) rfl h3).trans ?_
  refine (e_f (B := (54, 26, [some (vR 9 0 0), some (vL w1), none, some (vI x3)], [], σ1)) rfl h4).trans ?_
  refine (e_n 4 (fr' := (54, 38, [some (vR 9 0 0), some (vL w1), none, some (vI x3)], [vI (σ1.1 6 0 1 0)], σ1)) rfl).trans ?_
  exact e_r rfl
set_option maxRecDepth 20000 in
theorem g54_0_3 (C : pmC) {σ : pmS} {w1 : Int64} {x3 : Int32} (h1 : ¬ x3 < (1 : Int32)) (h2 : ¬ x3 ≤ (8 : Int32)) : pm_Rn C (54, 0, [some (vR 9 0 0), some (vL w1), none, some (vI x3)], [], σ) = some (some (vI (-2 : Int32)), σ) := by
  refine (e_n 2 (fr' := (54, 2, [some (vR 9 0 0), some (vL w1), none, some (vI x3)], [vI (1 : Int32), vI x3], σ)) rfl).trans ?_
  refine (e_f (B := (54, 5, [some (vR 9 0 0), some (vL w1), none, some (vI x3)], [], σ)) rfl h1).trans ?_
  refine (e_n 2 (fr' := (54, 8, [some (vR 9 0 0), some (vL w1), none, some (vI x3)], [vI (8 : Int32), vI x3], σ)) rfl).trans ?_
  refine (e_f (B := (54, 11, [some (vR 9 0 0), some (vL w1), none, some (vI x3)], [], σ)) rfl h2).trans ?_
  refine (e_n 1 (fr' := (54, 13, [some (vR 9 0 0), some (vL w1), none, some (vI x3)], [vI (-2 : Int32)], σ)) rfl).trans ?_
  exact e_r rfl
set_option maxRecDepth 20000 in
theorem g55_0_0 (C : pmC) {σ : pmS} {σ1 : pmS} {σ2 : pmS} (h1 : (σ.1 9 0 9 0) < (4 : Int32)) (h2 : C 41 [vR 6 0 0] σ = some (none, σ1)) (h3 : (σ1.1 6 0 2 0) = 0) (h4 : vp_in (σ1.1 9 0 9 0) 4) (h5 : C 42 [vR 6 0 0, vR 2 ((σ1.1 9 0 9 0)).toNatClampNeg 0] σ1 = some (none, σ2)) (h6 : (σ2.1 6 0 2 0) = 0) : pm_Rn C (55, 0, [some (vR 9 0 0)], [], σ) = some (some (vI (((σ2.1 9 0 9 0) + (1 : Int32)) - (1 : Int32))), (pm_wi (pm_wi σ2 6 0 1 0 (0 : Int32)) 9 0 9 0 ((σ2.1 9 0 9 0) + (1 : Int32)))) := by
  refine (e_n 3 (fr' := (55, 5, [some (vR 9 0 0)], [vI (4 : Int32), vI (σ.1 9 0 9 0)], σ)) rfl).trans ?_
  refine (e_t (A := (55, 11, [some (vR 9 0 0)], [], σ)) rfl h1).trans ?_
  refine (e_n 2 (fr' := (55, 15, [some (vR 9 0 0)], [vR 6 0 0], σ)) rfl).trans ?_
  refine (e_cv (m := 55) (pc := 18) (ls := [some (vR 9 0 0)]) (rest := []) rfl h2).trans ?_
  refine (e_n 3 (fr' := (55, 25, [some (vR 9 0 0)], [vI (σ1.1 6 0 2 0)], σ1)) rfl).trans ?_
  refine (e_t (A := (55, 28, [some (vR 9 0 0)], [], σ1)) rfl h3).trans ?_
  refine (e_n 6 (fr' := (55, 40, [some (vR 9 0 0)], [vI (σ1.1 9 0 9 0), vR 9 0 2, vR 6 0 0], σ1)) rfl).trans ?_
  refine (e_a (A := (55, 41, [some (vR 9 0 0)], [vR 2 ((σ1.1 9 0 9 0)).toNatClampNeg 0, vR 6 0 0], σ1)) rfl h4).trans ?_
  refine (e_cv (m := 55) (pc := 44) (ls := [some (vR 9 0 0)]) (rest := []) rfl h5).trans ?_
  refine (e_n 7 (fr' := (55, 59, [some (vR 9 0 0)], [vI (σ2.1 6 0 2 0)], (pm_wi σ2 6 0 1 0 (0 : Int32)))) rfl).trans ?_
  refine (e_t (A := (55, 73, [some (vR 9 0 0)], [], (pm_wi σ2 6 0 1 0 (0 : Int32)))) rfl h6).trans ?_
  refine (e_n 10 (fr' := (55, 89, [some (vR 9 0 0)], [vI (((σ2.1 9 0 9 0) + (1 : Int32)) - (1 : Int32))], (pm_wi (pm_wi σ2 6 0 1 0 (0 : Int32)) 9 0 9 0 ((σ2.1 9 0 9 0) + (1 : Int32))))) rfl).trans ?_
  exact e_r rfl
set_option maxRecDepth 20000 in
theorem g55_0_1 (C : pmC) {σ : pmS} {σ1 : pmS} {σ2 : pmS} (h1 : (σ.1 9 0 9 0) < (4 : Int32)) (h2 : C 41 [vR 6 0 0] σ = some (none, σ1)) (h3 : (σ1.1 6 0 2 0) = 0) (h4 : vp_in (σ1.1 9 0 9 0) 4) (h5 : C 42 [vR 6 0 0, vR 2 ((σ1.1 9 0 9 0)).toNatClampNeg 0] σ1 = some (none, σ2)) (h6 : ¬ (σ2.1 6 0 2 0) = 0) : pm_Rn C (55, 0, [some (vR 9 0 0)], [], σ) = some (some (vI ((-10 : Int32) - (σ2.1 6 0 2 0))), (pm_wi σ2 6 0 1 0 (0 : Int32))) := by
  refine (e_n 3 (fr' := (55, 5, [some (vR 9 0 0)], [vI (4 : Int32), vI (σ.1 9 0 9 0)], σ)) rfl).trans ?_
  refine (e_t (A := (55, 11, [some (vR 9 0 0)], [], σ)) rfl h1).trans ?_
  refine (e_n 2 (fr' := (55, 15, [some (vR 9 0 0)], [vR 6 0 0], σ)) rfl).trans ?_
  refine (e_cv (m := 55) (pc := 18) (ls := [some (vR 9 0 0)]) (rest := []) rfl h2).trans ?_
  refine (e_n 3 (fr' := (55, 25, [some (vR 9 0 0)], [vI (σ1.1 6 0 2 0)], σ1)) rfl).trans ?_
  refine (e_t (A := (55, 28, [some (vR 9 0 0)], [], σ1)) rfl h3).trans ?_
  refine (e_n 6 (fr' := (55, 40, [some (vR 9 0 0)], [vI (σ1.1 9 0 9 0), vR 9 0 2, vR 6 0 0], σ1)) rfl).trans ?_
  refine (e_a (A := (55, 41, [some (vR 9 0 0)], [vR 2 ((σ1.1 9 0 9 0)).toNatClampNeg 0, vR 6 0 0], σ1)) rfl h4).trans ?_
  refine (e_cv (m := 55) (pc := 44) (ls := [some (vR 9 0 0)]) (rest := []) rfl h5).trans ?_
  refine (e_n 7 (fr' := (55, 59, [some (vR 9 0 0)], [vI (σ2.1 6 0 2 0)], (pm_wi σ2 6 0 1 0 (0 : Int32)))) rfl).trans ?_
  refine (e_f (B := (55, 62, [some (vR 9 0 0)], [], (pm_wi σ2 6 0 1 0 (0 : Int32)))) rfl h6).trans ?_
  refine (e_n 5 (fr' := (55, 72, [some (vR 9 0 0)], [vI ((-10 : Int32) - (σ2.1 6 0 2 0))], (pm_wi σ2 6 0 1 0 (0 : Int32)))) rfl).trans ?_
  exact e_r rfl
set_option maxRecDepth 20000 in
theorem g55_0_2 (C : pmC) {σ : pmS} {σ1 : pmS} (h1 : (σ.1 9 0 9 0) < (4 : Int32)) (h2 : C 41 [vR 6 0 0] σ = some (none, σ1)) (h3 : ¬ (σ1.1 6 0 2 0) = 0) (h4 : (σ1.1 6 0 2 0) = 0) : pm_Rn C (55, 0, [some (vR 9 0 0)], [], σ) = some (some (vI (((σ1.1 9 0 9 0) + (1 : Int32)) - (1 : Int32))), (pm_wi (pm_wi σ1 6 0 1 0 (0 : Int32)) 9 0 9 0 ((σ1.1 9 0 9 0) + (1 : Int32)))) := by
  refine (e_n 3 (fr' := (55, 5, [some (vR 9 0 0)], [vI (4 : Int32), vI (σ.1 9 0 9 0)], σ)) rfl).trans ?_
  refine (e_t (A := (55, 11, [some (vR 9 0 0)], [], σ)) rfl h1).trans ?_
  refine (e_n 2 (fr' := (55, 15, [some (vR 9 0 0)], [vR 6 0 0], σ)) rfl).trans ?_
  refine (e_cv (m := 55) (pc := 18) (ls := [some (vR 9 0 0)]) (rest := []) rfl h2).trans ?_
  refine (e_n 3 (fr' := (55, 25, [some (vR 9 0 0)], [vI (σ1.1 6 0 2 0)], σ1)) rfl).trans ?_
  refine (e_f (B := (55, 44, [some (vR 9 0 0)], [], σ1)) rfl h3).trans ?_
  refine (e_n 7 (fr' := (55, 59, [some (vR 9 0 0)], [vI (σ1.1 6 0 2 0)], (pm_wi σ1 6 0 1 0 (0 : Int32)))) rfl).trans ?_
  refine (e_t (A := (55, 73, [some (vR 9 0 0)], [], (pm_wi σ1 6 0 1 0 (0 : Int32)))) rfl h4).trans ?_
  refine (e_n 10 (fr' := (55, 89, [some (vR 9 0 0)], [vI (((σ1.1 9 0 9 0) + (1 : Int32)) - (1 : Int32))], (pm_wi (pm_wi σ1 6 0 1 0 (0 : Int32)) 9 0 9 0 ((σ1.1 9 0 9 0) + (1 : Int32))))) rfl).trans ?_
  exact e_r rfl
set_option maxRecDepth 20000 in
theorem g55_0_3 (C : pmC) {σ : pmS} {σ1 : pmS} (h1 : (σ.1 9 0 9 0) < (4 : Int32)) (h2 : C 41 [vR 6 0 0] σ = some (none, σ1)) (h3 : ¬ (σ1.1 6 0 2 0) = 0) (h4 : ¬ (σ1.1 6 0 2 0) = 0) : pm_Rn C (55, 0, [some (vR 9 0 0)], [], σ) = some (some (vI ((-10 : Int32) - (σ1.1 6 0 2 0))), (pm_wi σ1 6 0 1 0 (0 : Int32))) := by
  refine (e_n 3 (fr' := (55, 5, [some (vR 9 0 0)], [vI (4 : Int32), vI (σ.1 9 0 9 0)], σ)) rfl).trans ?_
  refine (e_t (A := (55, 11, [some (vR 9 0 0)], [], σ)) rfl h1).trans ?_
  refine (e_n 2 (fr' := (55, 15, [some (vR 9 0 0)], [vR 6 0 0], σ)) rfl).trans ?_
  refine (e_cv (m := 55) (pc := 18) (ls := [some (vR 9 0 0)]) (rest := []) rfl h2).trans ?_
  refine (e_n 3 (fr' := (55, 25, [some (vR 9 0 0)], [vI (σ1.1 6 0 2 0)], σ1)) rfl).trans ?_
  refine (e_f (B := (55, 44, [some (vR 9 0 0)], [], σ1)) rfl h3).trans ?_
  refine (e_n 7 (fr' := (55, 59, [some (vR 9 0 0)], [vI (σ1.1 6 0 2 0)], (pm_wi σ1 6 0 1 0 (0 : Int32)))) rfl).trans ?_
  refine (e_f (B := (55, 62, [some (vR 9 0 0)], [], (pm_wi σ1 6 0 1 0 (0 : Int32)))) rfl h4).trans ?_
  refine (e_n 5 (fr' := (55, 72, [some (vR 9 0 0)], [vI ((-10 : Int32) - (σ1.1 6 0 2 0))], (pm_wi σ1 6 0 1 0 (0 : Int32)))) rfl).trans ?_
  exact e_r rfl
set_option maxRecDepth 20000 in
theorem g55_0_4 (C : pmC) {σ : pmS}  (h1 : ¬ (σ.1 9 0 9 0) < (4 : Int32)) : pm_Rn C (55, 0, [some (vR 9 0 0)], [], σ) = some (some (vI (-4 : Int32)), σ) := by
  refine (e_n 3 (fr' := (55, 5, [some (vR 9 0 0)], [vI (4 : Int32), vI (σ.1 9 0 9 0)], σ)) rfl).trans ?_
  refine (e_f (B := (55, 8, [some (vR 9 0 0)], [], σ)) rfl h1).trans ?_
  refine (e_n 1 (fr' := (55, 10, [some (vR 9 0 0)], [vI (-4 : Int32)], σ)) rfl).trans ?_
  exact e_r rfl
set_option maxRecDepth 20000 in
theorem g56_0_0 (C : pmC) {σ : pmS} {x1 : Int32} (h1 : x1 = (0 : Int32)) : pm_Rn C (56, 0, [some (vR 9 0 0), some (vI x1)], [], σ) = some (some (vI (σ.1 6 0 2 0)), σ) := by
  refine (e_n 1 (fr' := (56, 1, [some (vR 9 0 0), some (vI x1)], [vI x1], σ)) rfl).trans ?_
  refine (e_g (A := (56, 28, [some (vR 9 0 0), some (vI x1)], [], σ)) (off' := 27) rfl (by rw [h1]; decide) rfl).trans ?_
  refine (e_n 3 (fr' := (56, 35, [some (vR 9 0 0), some (vI x1)], [vI (σ.1 6 0 2 0)], σ)) rfl).trans ?_
  exact e_r rfl
set_option maxRecDepth 20000 in
theorem g56_0_1 (C : pmC) {σ : pmS} {x1 : Int32} (h1 : x1 = (1 : Int32)) : pm_Rn C (56, 0, [some (vR 9 0 0), some (vI x1)], [], σ) = some (some (vI (σ.1 6 0 3 0)), σ) := by
  refine (e_n 1 (fr' := (56, 1, [some (vR 9 0 0), some (vI x1)], [vI x1], σ)) rfl).trans ?_
  refine (e_g (A := (56, 36, [some (vR 9 0 0), some (vI x1)], [], σ)) (off' := 35) rfl (by rw [h1]; decide) rfl).trans ?_
  refine (e_n 3 (fr' := (56, 43, [some (vR 9 0 0), some (vI x1)], [vI (σ.1 6 0 3 0)], σ)) rfl).trans ?_
  exact e_r rfl
set_option maxRecDepth 20000 in
theorem g56_0_2 (C : pmC) {σ : pmS} {x1 : Int32} (h1 : ¬ x1 = (0 : Int32)) (h2 : ¬ x1 = (1 : Int32)) : pm_Rn C (56, 0, [some (vR 9 0 0), some (vI x1)], [], σ) = some (some (vI (-1 : Int32)), σ) := by
  refine (e_n 1 (fr' := (56, 1, [some (vR 9 0 0), some (vI x1)], [vI x1], σ)) rfl).trans ?_
  refine (e_g (A := (56, 44, [some (vR 9 0 0), some (vI x1)], [], σ)) (off' := 43) rfl ((pm_lk_ne h1).trans ((pm_lk_ne h2).trans (rfl))) rfl).trans ?_
  refine (e_n 1 (fr' := (56, 45, [some (vR 9 0 0), some (vI x1)], [vI (-1 : Int32)], σ)) rfl).trans ?_
  exact e_r rfl
set_option maxRecDepth 20000 in
theorem g57_0_0 (C : pmC) {σ : pmS} {x1 : Int32} {x2 : Int32} {x3 : Int32} {l4 : Option pmV} {σ1 : pmS} {r1 : Int32} (h1 : C 87 [vR 9 0 0, vI x1, vI x2] σ = some (some (vI r1), σ1)) (h2 : r1 = 0) : pm_Rn C (57, 0, [some (vR 9 0 0), some (vI x1), some (vI x2), some (vI x3), l4], [], σ) = some (some (vI (-1 : Int32)), σ1) := by
  refine (e_n 3 (fr' := (57, 3, [some (vR 9 0 0), some (vI x1), some (vI x2), some (vI x3), l4], [vI x2, vI x1, vR 9 0 0], σ)) rfl).trans ?_
  refine (e_ci (m := 57) (pc := 6) (ls := [some (vR 9 0 0), some (vI x1), some (vI x2), some (vI x3), l4]) (rest := []) rfl h1).trans ?_
  refine (e_t (A := (57, 9, [some (vR 9 0 0), some (vI x1), some (vI x2), some (vI x3), l4], [], σ1)) rfl h2).trans ?_
  refine (e_n 1 (fr' := (57, 10, [some (vR 9 0 0), some (vI x1), some (vI x2), some (vI x3), l4], [vI (-1 : Int32)], σ1)) rfl).trans ?_
  exact e_r rfl
set_option maxRecDepth 20000 in
theorem g57_0_1 (C : pmC) {σ : pmS} {x1 : Int32} {x2 : Int32} {x3 : Int32} {l4 : Option pmV} {σ1 : pmS} {r1 : Int32} (h1 : C 87 [vR 9 0 0, vI x1, vI x2] σ = some (some (vI r1), σ1)) (h2 : ¬ r1 = 0) (h3 : vp_in x1 4) (h4 : x3 = (0 : Int32)) (h5 : vp_in x2 8) : pm_Rn C (57, 0, [some (vR 9 0 0), some (vI x1), some (vI x2), some (vI x3), l4], [], σ) = some (some (vI (σ1.1 2 (x1).toNatClampNeg 0 (x2).toNatClampNeg)), σ1) := by
  refine (e_n 3 (fr' := (57, 3, [some (vR 9 0 0), some (vI x1), some (vI x2), some (vI x3), l4], [vI x2, vI x1, vR 9 0 0], σ)) rfl).trans ?_
  refine (e_ci (m := 57) (pc := 6) (ls := [some (vR 9 0 0), some (vI x1), some (vI x2), some (vI x3), l4]) (rest := []) rfl h1).trans ?_
  refine (e_f (B := (57, 11, [some (vR 9 0 0), some (vI x1), some (vI x2), some (vI x3), l4], [], σ1)) rfl h2).trans ?_
  refine (e_n 3 (fr' := (57, 16, [some (vR 9 0 0), some (vI x1), some (vI x2), some (vI x3), l4], [vI x1, vR 9 0 2], σ1)) rfl).trans ?_
  refine (e_a (A := (57, 17, [some (vR 9 0 0), some (vI x1), some (vI x2), some (vI x3), l4], [vR 2 (x1).toNatClampNeg 0], σ1)) rfl h3).trans ?_
  refine (e_n 2 (fr' := (57, 20, [some (vR 9 0 0), some (vI x1), some (vI x2), some (vI x3), some (vR 2 (x1).toNatClampNeg 0)], [vI x3], σ1)) rfl).trans ?_
  refine (e_g (A := (57, 56, [some (vR 9 0 0), some (vI x1), some (vI x2), some (vI x3), some (vR 2 (x1).toNatClampNeg 0)], [], σ1)) (off' := 36) rfl (by rw [h4]; decide) rfl).trans ?_
  refine (e_n 3 (fr' := (57, 62, [some (vR 9 0 0), some (vI x1), some (vI x2), some (vI x3), some (vR 2 (x1).toNatClampNeg 0)], [vI x2, vR 2 (x1).toNatClampNeg 1], σ1)) rfl).trans ?_
  refine (e_a (A := (57, 63, [some (vR 9 0 0), some (vI x1), some (vI x2), some (vI x3), some (vR 2 (x1).toNatClampNeg 0)], [vI (σ1.1 2 (x1).toNatClampNeg 0 (x2).toNatClampNeg)], σ1)) rfl h5).trans ?_
  exact e_r rfl
set_option maxRecDepth 20000 in
theorem g57_0_2 (C : pmC) {σ : pmS} {x1 : Int32} {x2 : Int32} {x3 : Int32} {l4 : Option pmV} {σ1 : pmS} {r1 : Int32} (h1 : C 87 [vR 9 0 0, vI x1, vI x2] σ = some (some (vI r1), σ1)) (h2 : ¬ r1 = 0) (h3 : vp_in x1 4) (h4 : x3 = (1 : Int32)) (h5 : vp_in x2 8) : pm_Rn C (57, 0, [some (vR 9 0 0), some (vI x1), some (vI x2), some (vI x3), l4], [], σ) = some (some (vI (σ1.1 2 (x1).toNatClampNeg 2 (x2).toNatClampNeg)), σ1) := by
  refine (e_n 3 (fr' := (57, 3, [some (vR 9 0 0), some (vI x1), some (vI x2), some (vI x3), l4], [vI x2, vI x1, vR 9 0 0], σ)) rfl).trans ?_
  refine (e_ci (m := 57) (pc := 6) (ls := [some (vR 9 0 0), some (vI x1), some (vI x2), some (vI x3), l4]) (rest := []) rfl h1).trans ?_
  refine (e_f (B := (57, 11, [some (vR 9 0 0), some (vI x1), some (vI x2), some (vI x3), l4], [], σ1)) rfl h2).trans ?_
  refine (e_n 3 (fr' := (57, 16, [some (vR 9 0 0), some (vI x1), some (vI x2), some (vI x3), l4], [vI x1, vR 9 0 2], σ1)) rfl).trans ?_
  refine (e_a (A := (57, 17, [some (vR 9 0 0), some (vI x1), some (vI x2), some (vI x3), l4], [vR 2 (x1).toNatClampNeg 0], σ1)) rfl h3).trans ?_
  refine (e_n 2 (fr' := (57, 20, [some (vR 9 0 0), some (vI x1), some (vI x2), some (vI x3), some (vR 2 (x1).toNatClampNeg 0)], [vI x3], σ1)) rfl).trans ?_
  refine (e_g (A := (57, 64, [some (vR 9 0 0), some (vI x1), some (vI x2), some (vI x3), some (vR 2 (x1).toNatClampNeg 0)], [], σ1)) (off' := 44) rfl (by rw [h4]; decide) rfl).trans ?_
  refine (e_n 3 (fr' := (57, 70, [some (vR 9 0 0), some (vI x1), some (vI x2), some (vI x3), some (vR 2 (x1).toNatClampNeg 0)], [vI x2, vR 2 (x1).toNatClampNeg 3], σ1)) rfl).trans ?_
  refine (e_a (A := (57, 71, [some (vR 9 0 0), some (vI x1), some (vI x2), some (vI x3), some (vR 2 (x1).toNatClampNeg 0)], [vI (σ1.1 2 (x1).toNatClampNeg 2 (x2).toNatClampNeg)], σ1)) rfl h5).trans ?_
  exact e_r rfl
set_option maxRecDepth 20000 in
theorem g57_0_3 (C : pmC) {σ : pmS} {x1 : Int32} {x2 : Int32} {x3 : Int32} {l4 : Option pmV} {σ1 : pmS} {r1 : Int32} (h1 : C 87 [vR 9 0 0, vI x1, vI x2] σ = some (some (vI r1), σ1)) (h2 : ¬ r1 = 0) (h3 : vp_in x1 4) (h4 : x3 = (2 : Int32)) (h5 : vp_in x2 8) : pm_Rn C (57, 0, [some (vR 9 0 0), some (vI x1), some (vI x2), some (vI x3), l4], [], σ) = some (some (vI (σ1.1 2 (x1).toNatClampNeg 3 (x2).toNatClampNeg)), σ1) := by
  refine (e_n 3 (fr' := (57, 3, [some (vR 9 0 0), some (vI x1), some (vI x2), some (vI x3), l4], [vI x2, vI x1, vR 9 0 0], σ)) rfl).trans ?_
  refine (e_ci (m := 57) (pc := 6) (ls := [some (vR 9 0 0), some (vI x1), some (vI x2), some (vI x3), l4]) (rest := []) rfl h1).trans ?_
  refine (e_f (B := (57, 11, [some (vR 9 0 0), some (vI x1), some (vI x2), some (vI x3), l4], [], σ1)) rfl h2).trans ?_
  refine (e_n 3 (fr' := (57, 16, [some (vR 9 0 0), some (vI x1), some (vI x2), some (vI x3), l4], [vI x1, vR 9 0 2], σ1)) rfl).trans ?_
  refine (e_a (A := (57, 17, [some (vR 9 0 0), some (vI x1), some (vI x2), some (vI x3), l4], [vR 2 (x1).toNatClampNeg 0], σ1)) rfl h3).trans ?_
  refine (e_n 2 (fr' := (57, 20, [some (vR 9 0 0), some (vI x1), some (vI x2), some (vI x3), some (vR 2 (x1).toNatClampNeg 0)], [vI x3], σ1)) rfl).trans ?_
  refine (e_g (A := (57, 72, [some (vR 9 0 0), some (vI x1), some (vI x2), some (vI x3), some (vR 2 (x1).toNatClampNeg 0)], [], σ1)) (off' := 52) rfl (by rw [h4]; decide) rfl).trans ?_
  refine (e_n 3 (fr' := (57, 78, [some (vR 9 0 0), some (vI x1), some (vI x2), some (vI x3), some (vR 2 (x1).toNatClampNeg 0)], [vI x2, vR 2 (x1).toNatClampNeg 4], σ1)) rfl).trans ?_
  refine (e_a (A := (57, 79, [some (vR 9 0 0), some (vI x1), some (vI x2), some (vI x3), some (vR 2 (x1).toNatClampNeg 0)], [vI (σ1.1 2 (x1).toNatClampNeg 3 (x2).toNatClampNeg)], σ1)) rfl h5).trans ?_
  exact e_r rfl
set_option maxRecDepth 20000 in
theorem g57_0_4 (C : pmC) {σ : pmS} {x1 : Int32} {x2 : Int32} {x3 : Int32} {l4 : Option pmV} {σ1 : pmS} {r1 : Int32} (h1 : C 87 [vR 9 0 0, vI x1, vI x2] σ = some (some (vI r1), σ1)) (h2 : ¬ r1 = 0) (h3 : vp_in x1 4) (h4 : x3 = (3 : Int32)) (h5 : vp_in x2 8) : pm_Rn C (57, 0, [some (vR 9 0 0), some (vI x1), some (vI x2), some (vI x3), l4], [], σ) = some (some (vI (σ1.1 2 (x1).toNatClampNeg 1 (x2).toNatClampNeg)), σ1) := by
  refine (e_n 3 (fr' := (57, 3, [some (vR 9 0 0), some (vI x1), some (vI x2), some (vI x3), l4], [vI x2, vI x1, vR 9 0 0], σ)) rfl).trans ?_
  refine (e_ci (m := 57) (pc := 6) (ls := [some (vR 9 0 0), some (vI x1), some (vI x2), some (vI x3), l4]) (rest := []) rfl h1).trans ?_
  refine (e_f (B := (57, 11, [some (vR 9 0 0), some (vI x1), some (vI x2), some (vI x3), l4], [], σ1)) rfl h2).trans ?_
  refine (e_n 3 (fr' := (57, 16, [some (vR 9 0 0), some (vI x1), some (vI x2), some (vI x3), l4], [vI x1, vR 9 0 2], σ1)) rfl).trans ?_
  refine (e_a (A := (57, 17, [some (vR 9 0 0), some (vI x1), some (vI x2), some (vI x3), l4], [vR 2 (x1).toNatClampNeg 0], σ1)) rfl h3).trans ?_
  refine (e_n 2 (fr' := (57, 20, [some (vR 9 0 0), some (vI x1), some (vI x2), some (vI x3), some (vR 2 (x1).toNatClampNeg 0)], [vI x3], σ1)) rfl).trans ?_
  refine (e_g (A := (57, 80, [some (vR 9 0 0), some (vI x1), some (vI x2), some (vI x3), some (vR 2 (x1).toNatClampNeg 0)], [], σ1)) (off' := 60) rfl (by rw [h4]; decide) rfl).trans ?_
  refine (e_n 3 (fr' := (57, 86, [some (vR 9 0 0), some (vI x1), some (vI x2), some (vI x3), some (vR 2 (x1).toNatClampNeg 0)], [vI x2, vR 2 (x1).toNatClampNeg 2], σ1)) rfl).trans ?_
  refine (e_a (A := (57, 87, [some (vR 9 0 0), some (vI x1), some (vI x2), some (vI x3), some (vR 2 (x1).toNatClampNeg 0)], [vI (σ1.1 2 (x1).toNatClampNeg 1 (x2).toNatClampNeg)], σ1)) rfl h5).trans ?_
  exact e_r rfl
set_option maxRecDepth 20000 in
theorem g57_0_5 (C : pmC) {σ : pmS} {x1 : Int32} {x2 : Int32} {x3 : Int32} {l4 : Option pmV} {σ1 : pmS} {r1 : Int32} (h1 : C 87 [vR 9 0 0, vI x1, vI x2] σ = some (some (vI r1), σ1)) (h2 : ¬ r1 = 0) (h3 : vp_in x1 4) (h4 : x3 = (4 : Int32)) : pm_Rn C (57, 0, [some (vR 9 0 0), some (vI x1), some (vI x2), some (vI x3), l4], [], σ) = some (some (vI (σ1.1 2 (x1).toNatClampNeg 8 0)), σ1) := by
  refine (e_n 3 (fr' := (57, 3, [some (vR 9 0 0), some (vI x1), some (vI x2), some (vI x3), l4], [vI x2, vI x1, vR 9 0 0], σ)) rfl).trans ?_
  refine (e_ci (m := 57) (pc := 6) (ls := [some (vR 9 0 0), some (vI x1), some (vI x2), some (vI x3), l4]) (rest := []) rfl h1).trans ?_
  refine (e_f (B := (57, 11, [some (vR 9 0 0), some (vI x1), some (vI x2), some (vI x3), l4], [], σ1)) rfl h2).trans ?_
  refine (e_n 3 (fr' := (57, 16, [some (vR 9 0 0), some (vI x1), some (vI x2), some (vI x3), l4], [vI x1, vR 9 0 2], σ1)) rfl).trans ?_
  refine (e_a (A := (57, 17, [some (vR 9 0 0), some (vI x1), some (vI x2), some (vI x3), l4], [vR 2 (x1).toNatClampNeg 0], σ1)) rfl h3).trans ?_
  refine (e_n 2 (fr' := (57, 20, [some (vR 9 0 0), some (vI x1), some (vI x2), some (vI x3), some (vR 2 (x1).toNatClampNeg 0)], [vI x3], σ1)) rfl).trans ?_
  refine (e_g (A := (57, 88, [some (vR 9 0 0), some (vI x1), some (vI x2), some (vI x3), some (vR 2 (x1).toNatClampNeg 0)], [], σ1)) (off' := 68) rfl (by rw [h4]; decide) rfl).trans ?_
  refine (e_n 2 (fr' := (57, 93, [some (vR 9 0 0), some (vI x1), some (vI x2), some (vI x3), some (vR 2 (x1).toNatClampNeg 0)], [vI (σ1.1 2 (x1).toNatClampNeg 8 0)], σ1)) rfl).trans ?_
  exact e_r rfl
set_option maxRecDepth 20000 in
theorem g57_0_6 (C : pmC) {σ : pmS} {x1 : Int32} {x2 : Int32} {x3 : Int32} {l4 : Option pmV} {σ1 : pmS} {r1 : Int32} (h1 : C 87 [vR 9 0 0, vI x1, vI x2] σ = some (some (vI r1), σ1)) (h2 : ¬ r1 = 0) (h3 : vp_in x1 4) (h4 : ¬ x3 = (0 : Int32)) (h5 : ¬ x3 = (1 : Int32)) (h6 : ¬ x3 = (2 : Int32)) (h7 : ¬ x3 = (3 : Int32)) (h8 : ¬ x3 = (4 : Int32)) : pm_Rn C (57, 0, [some (vR 9 0 0), some (vI x1), some (vI x2), some (vI x3), l4], [], σ) = some (some (vI (-1 : Int32)), σ1) := by
  refine (e_n 3 (fr' := (57, 3, [some (vR 9 0 0), some (vI x1), some (vI x2), some (vI x3), l4], [vI x2, vI x1, vR 9 0 0], σ)) rfl).trans ?_
  refine (e_ci (m := 57) (pc := 6) (ls := [some (vR 9 0 0), some (vI x1), some (vI x2), some (vI x3), l4]) (rest := []) rfl h1).trans ?_
  refine (e_f (B := (57, 11, [some (vR 9 0 0), some (vI x1), some (vI x2), some (vI x3), l4], [], σ1)) rfl h2).trans ?_
  refine (e_n 3 (fr' := (57, 16, [some (vR 9 0 0), some (vI x1), some (vI x2), some (vI x3), l4], [vI x1, vR 9 0 2], σ1)) rfl).trans ?_
  refine (e_a (A := (57, 17, [some (vR 9 0 0), some (vI x1), some (vI x2), some (vI x3), l4], [vR 2 (x1).toNatClampNeg 0], σ1)) rfl h3).trans ?_
  refine (e_n 2 (fr' := (57, 20, [some (vR 9 0 0), some (vI x1), some (vI x2), some (vI x3), some (vR 2 (x1).toNatClampNeg 0)], [vI x3], σ1)) rfl).trans ?_
  refine (e_g (A := (57, 94, [some (vR 9 0 0), some (vI x1), some (vI x2), some (vI x3), some (vR 2 (x1).toNatClampNeg 0)], [], σ1)) (off' := 74) rfl ((pm_sw_ne h4).trans ((pm_sw_ne h5).trans ((pm_sw_ne h6).trans ((pm_sw_ne h7).trans ((pm_sw_ne h8).trans (rfl)))))) rfl).trans ?_
  refine (e_n 1 (fr' := (57, 95, [some (vR 9 0 0), some (vI x1), some (vI x2), some (vI x3), some (vR 2 (x1).toNatClampNeg 0)], [vI (-1 : Int32)], σ1)) rfl).trans ?_
  exact e_r rfl
set_option maxRecDepth 20000 in
theorem g58_0_0 (C : pmC) {σ : pmS} {x1 : Int32} {x2 : Int32} {x3 : Int32} {x4 : Int32} {σ1 : pmS} {r1 : Int32} (h1 : C 87 [vR 9 0 0, vI x1, vI x2] σ = some (some (vI r1), σ1)) (h2 : r1 = 0) : pm_Rn C (58, 0, [some (vR 9 0 0), some (vI x1), some (vI x2), some (vI x3), some (vI x4)], [], σ) = some (some (vI (-1 : Int32)), σ1) := by
  refine (e_n 3 (fr' := (58, 3, [some (vR 9 0 0), some (vI x1), some (vI x2), some (vI x3), some (vI x4)], [vI x2, vI x1, vR 9 0 0], σ)) rfl).trans ?_
  refine (e_ci (m := 58) (pc := 6) (ls := [some (vR 9 0 0), some (vI x1), some (vI x2), some (vI x3), some (vI x4)]) (rest := []) rfl h1).trans ?_
  refine (e_t (A := (58, 24, [some (vR 9 0 0), some (vI x1), some (vI x2), some (vI x3), some (vI x4)], [], σ1)) rfl h2).trans ?_
  refine (e_n 1 (fr' := (58, 25, [some (vR 9 0 0), some (vI x1), some (vI x2), some (vI x3), some (vI x4)], [vI (-1 : Int32)], σ1)) rfl).trans ?_
  exact e_r rfl
set_option maxRecDepth 20000 in
theorem g58_0_1 (C : pmC) {σ : pmS} {x1 : Int32} {x2 : Int32} {x3 : Int32} {x4 : Int32} {σ1 : pmS} {r1 : Int32} {σ2 : pmS} {r2 : Int32} (h1 : C 87 [vR 9 0 0, vI x1, vI x2] σ = some (some (vI r1), σ1)) (h2 : ¬ r1 = 0) (h3 : C 89 [vI x3] σ1 = some (some (vI r2), σ2)) (h4 : r2 = 0) : pm_Rn C (58, 0, [some (vR 9 0 0), some (vI x1), some (vI x2), some (vI x3), some (vI x4)], [], σ) = some (some (vI (-1 : Int32)), σ2) := by
  refine (e_n 3 (fr' := (58, 3, [some (vR 9 0 0), some (vI x1), some (vI x2), some (vI x3), some (vI x4)], [vI x2, vI x1, vR 9 0 0], σ)) rfl).trans ?_
  refine (e_ci (m := 58) (pc := 6) (ls := [some (vR 9 0 0), some (vI x1), some (vI x2), some (vI x3), some (vI x4)]) (rest := []) rfl h1).trans ?_
  refine (e_f (B := (58, 9, [some (vR 9 0 0), some (vI x1), some (vI x2), some (vI x3), some (vI x4)], [], σ1)) rfl h2).trans ?_
  refine (e_n 1 (fr' := (58, 10, [some (vR 9 0 0), some (vI x1), some (vI x2), some (vI x3), some (vI x4)], [vI x3], σ1)) rfl).trans ?_
  refine (e_ci (m := 58) (pc := 13) (ls := [some (vR 9 0 0), some (vI x1), some (vI x2), some (vI x3), some (vI x4)]) (rest := []) rfl h3).trans ?_
  refine (e_t (A := (58, 24, [some (vR 9 0 0), some (vI x1), some (vI x2), some (vI x3), some (vI x4)], [], σ2)) rfl h4).trans ?_
  refine (e_n 1 (fr' := (58, 25, [some (vR 9 0 0), some (vI x1), some (vI x2), some (vI x3), some (vI x4)], [vI (-1 : Int32)], σ2)) rfl).trans ?_
  exact e_r rfl
set_option maxRecDepth 20000 in
theorem g58_0_2 (C : pmC) {σ : pmS} {x1 : Int32} {x2 : Int32} {x3 : Int32} {x4 : Int32} {σ1 : pmS} {r1 : Int32} {σ2 : pmS} {r2 : Int32} {σ3 : pmS} {r3 : Int32} (h1 : C 87 [vR 9 0 0, vI x1, vI x2] σ = some (some (vI r1), σ1)) (h2 : ¬ r1 = 0) (h3 : C 89 [vI x3] σ1 = some (some (vI r2), σ2)) (h4 : ¬ r2 = 0) (h5 : C 91 [vI x4] σ2 = some (some (vI r3), σ3)) (h6 : r3 = 0) : pm_Rn C (58, 0, [some (vR 9 0 0), some (vI x1), some (vI x2), some (vI x3), some (vI x4)], [], σ) = some (some (vI (-1 : Int32)), σ3) := by
  refine (e_n 3 (fr' := (58, 3, [some (vR 9 0 0), some (vI x1), some (vI x2), some (vI x3), some (vI x4)], [vI x2, vI x1, vR 9 0 0], σ)) rfl).trans ?_
  refine (e_ci (m := 58) (pc := 6) (ls := [some (vR 9 0 0), some (vI x1), some (vI x2), some (vI x3), some (vI x4)]) (rest := []) rfl h1).trans ?_
  refine (e_f (B := (58, 9, [some (vR 9 0 0), some (vI x1), some (vI x2), some (vI x3), some (vI x4)], [], σ1)) rfl h2).trans ?_
  refine (e_n 1 (fr' := (58, 10, [some (vR 9 0 0), some (vI x1), some (vI x2), some (vI x3), some (vI x4)], [vI x3], σ1)) rfl).trans ?_
  refine (e_ci (m := 58) (pc := 13) (ls := [some (vR 9 0 0), some (vI x1), some (vI x2), some (vI x3), some (vI x4)]) (rest := []) rfl h3).trans ?_
  refine (e_f (B := (58, 16, [some (vR 9 0 0), some (vI x1), some (vI x2), some (vI x3), some (vI x4)], [], σ2)) rfl h4).trans ?_
  refine (e_n 1 (fr' := (58, 18, [some (vR 9 0 0), some (vI x1), some (vI x2), some (vI x3), some (vI x4)], [vI x4], σ2)) rfl).trans ?_
  refine (e_ci (m := 58) (pc := 21) (ls := [some (vR 9 0 0), some (vI x1), some (vI x2), some (vI x3), some (vI x4)]) (rest := []) rfl h5).trans ?_
  refine (e_t (A := (58, 24, [some (vR 9 0 0), some (vI x1), some (vI x2), some (vI x3), some (vI x4)], [], σ3)) rfl h6).trans ?_
  refine (e_n 1 (fr' := (58, 25, [some (vR 9 0 0), some (vI x1), some (vI x2), some (vI x3), some (vI x4)], [vI (-1 : Int32)], σ3)) rfl).trans ?_
  exact e_r rfl
set_option maxRecDepth 20000 in
theorem g58_0_3 (C : pmC) {σ : pmS} {x1 : Int32} {x2 : Int32} {x3 : Int32} {x4 : Int32} {σ1 : pmS} {r1 : Int32} {σ2 : pmS} {r2 : Int32} {σ3 : pmS} {r3 : Int32} {σ4 : pmS} {r4 : Int32} (h1 : C 87 [vR 9 0 0, vI x1, vI x2] σ = some (some (vI r1), σ1)) (h2 : ¬ r1 = 0) (h3 : C 89 [vI x3] σ1 = some (some (vI r2), σ2)) (h4 : ¬ r2 = 0) (h5 : C 91 [vI x4] σ2 = some (some (vI r3), σ3)) (h6 : ¬ r3 = 0) (h7 : vp_in x1 4) (h8 : C 12 [vR 2 (x1).toNatClampNeg 0, vI x2, vI x3, vI x4] σ3 = some (some (vI r4), σ4)) : pm_Rn C (58, 0, [some (vR 9 0 0), some (vI x1), some (vI x2), some (vI x3), some (vI x4)], [], σ) = some (some (vI (r4 >>> ((1 : Int32) &&& 31))), σ4) := by
  refine (e_n 3 (fr' := (58, 3, [some (vR 9 0 0), some (vI x1), some (vI x2), some (vI x3), some (vI x4)], [vI x2, vI x1, vR 9 0 0], σ)) rfl).trans ?_
  refine (e_ci (m := 58) (pc := 6) (ls := [some (vR 9 0 0), some (vI x1), some (vI x2), some (vI x3), some (vI x4)]) (rest := []) rfl h1).trans ?_
  refine (e_f (B := (58, 9, [some (vR 9 0 0), some (vI x1), some (vI x2), some (vI x3), some (vI x4)], [], σ1)) rfl h2).trans ?_
  refine (e_n 1 (fr' := (58, 10, [some (vR 9 0 0), some (vI x1), some (vI x2), some (vI x3), some (vI x4)], [vI x3], σ1)) rfl).trans ?_
  refine (e_ci (m := 58) (pc := 13) (ls := [some (vR 9 0 0), some (vI x1), some (vI x2), some (vI x3), some (vI x4)]) (rest := []) rfl h3).trans ?_
  refine (e_f (B := (58, 16, [some (vR 9 0 0), some (vI x1), some (vI x2), some (vI x3), some (vI x4)], [], σ2)) rfl h4).trans ?_
  refine (e_n 1 (fr' := (58, 18, [some (vR 9 0 0), some (vI x1), some (vI x2), some (vI x3), some (vI x4)], [vI x4], σ2)) rfl).trans ?_
  refine (e_ci (m := 58) (pc := 21) (ls := [some (vR 9 0 0), some (vI x1), some (vI x2), some (vI x3), some (vI x4)]) (rest := []) rfl h5).trans ?_
  refine (e_f (B := (58, 26, [some (vR 9 0 0), some (vI x1), some (vI x2), some (vI x3), some (vI x4)], [], σ3)) rfl h6).trans ?_
  refine (e_n 3 (fr' := (58, 31, [some (vR 9 0 0), some (vI x1), some (vI x2), some (vI x3), some (vI x4)], [vI x1, vR 9 0 2], σ3)) rfl).trans ?_
  refine (e_a (A := (58, 32, [some (vR 9 0 0), some (vI x1), some (vI x2), some (vI x3), some (vI x4)], [vR 2 (x1).toNatClampNeg 0], σ3)) rfl h7).trans ?_
  refine (e_n 3 (fr' := (58, 36, [some (vR 9 0 0), some (vI x1), some (vI x2), some (vI x3), some (vI x4)], [vI x4, vI x3, vI x2, vR 2 (x1).toNatClampNeg 0], σ3)) rfl).trans ?_
  refine (e_ci (m := 58) (pc := 39) (ls := [some (vR 9 0 0), some (vI x1), some (vI x2), some (vI x3), some (vI x4)]) (rest := []) rfl h8).trans ?_
  refine (e_n 2 (fr' := (58, 41, [some (vR 9 0 0), some (vI x1), some (vI x2), some (vI x3), some (vI x4)], [vI (r4 >>> ((1 : Int32) &&& 31))], σ4)) rfl).trans ?_
  exact e_r rfl
set_option maxRecDepth 20000 in
theorem g59_0_0 (C : pmC) {σ : pmS} {x1 : Int32} {x2 : Int32} {x3 : Int32} {x4 : Int32} {l5 : Option pmV} {l6 : Option pmV} {σ1 : pmS} {r1 : Int32} (h1 : C 86 [vR 9 0 0, vI x1] σ = some (some (vI r1), σ1)) (h2 : r1 = 0) : pm_Rn C (59, 0, [some (vR 9 0 0), some (vI x1), some (vI x2), some (vI x3), some (vI x4), l5, l6], [], σ) = some (some (vI (-1 : Int32)), σ1) := by
  refine (e_n 2 (fr' := (59, 2, [some (vR 9 0 0), some (vI x1), some (vI x2), some (vI x3), some (vI x4), l5, l6], [vI x1, vR 9 0 0], σ)) rfl).trans ?_
  refine (e_ci (m := 59) (pc := 5) (ls := [some (vR 9 0 0), some (vI x1), some (vI x2), some (vI x3), some (vI x4), l5, l6]) (rest := []) rfl h1).trans ?_
  refine (e_t (A := (59, 30, [some (vR 9 0 0), some (vI x1), some (vI x2), some (vI x3), some (vI x4), l5, l6], [], σ1)) rfl h2).trans ?_
  refine (e_n 1 (fr' := (59, 31, [some (vR 9 0 0), some (vI x1), some (vI x2), some (vI x3), some (vI x4), l5, l6], [vI (-1 : Int32)], σ1)) rfl).trans ?_
  exact e_r rfl
set_option maxRecDepth 20000 in
theorem g59_0_1 (C : pmC) {σ : pmS} {x1 : Int32} {x2 : Int32} {x3 : Int32} {x4 : Int32} {l5 : Option pmV} {l6 : Option pmV} {σ1 : pmS} {r1 : Int32} {σ2 : pmS} {r2 : Int32} (h1 : C 86 [vR 9 0 0, vI x1] σ = some (some (vI r1), σ1)) (h2 : ¬ r1 = 0) (h3 : C 89 [vI x2] σ1 = some (some (vI r2), σ2)) (h4 : r2 = 0) : pm_Rn C (59, 0, [some (vR 9 0 0), some (vI x1), some (vI x2), some (vI x3), some (vI x4), l5, l6], [], σ) = some (some (vI (-1 : Int32)), σ2) := by
  refine (e_n 2 (fr' := (59, 2, [some (vR 9 0 0), some (vI x1), some (vI x2), some (vI x3), some (vI x4), l5, l6], [vI x1, vR 9 0 0], σ)) rfl).trans ?_
  refine (e_ci (m := 59) (pc := 5) (ls := [some (vR 9 0 0), some (vI x1), some (vI x2), some (vI x3), some (vI x4), l5, l6]) (rest := []) rfl h1).trans ?_
  refine (e_f (B := (59, 8, [some (vR 9 0 0), some (vI x1), some (vI x2), some (vI x3), some (vI x4), l5, l6], [], σ1)) rfl h2).trans ?_
  refine (e_n 1 (fr' := (59, 9, [some (vR 9 0 0), some (vI x1), some (vI x2), some (vI x3), some (vI x4), l5, l6], [vI x2], σ1)) rfl).trans ?_
  refine (e_ci (m := 59) (pc := 12) (ls := [some (vR 9 0 0), some (vI x1), some (vI x2), some (vI x3), some (vI x4), l5, l6]) (rest := []) rfl h3).trans ?_
  refine (e_t (A := (59, 30, [some (vR 9 0 0), some (vI x1), some (vI x2), some (vI x3), some (vI x4), l5, l6], [], σ2)) rfl h4).trans ?_
  refine (e_n 1 (fr' := (59, 31, [some (vR 9 0 0), some (vI x1), some (vI x2), some (vI x3), some (vI x4), l5, l6], [vI (-1 : Int32)], σ2)) rfl).trans ?_
  exact e_r rfl
set_option maxRecDepth 20000 in
theorem g59_0_2 (C : pmC) {σ : pmS} {x1 : Int32} {x2 : Int32} {x3 : Int32} {x4 : Int32} {l5 : Option pmV} {l6 : Option pmV} {σ1 : pmS} {r1 : Int32} {σ2 : pmS} {r2 : Int32} {σ3 : pmS} {r3 : Int32} (h1 : C 86 [vR 9 0 0, vI x1] σ = some (some (vI r1), σ1)) (h2 : ¬ r1 = 0) (h3 : C 89 [vI x2] σ1 = some (some (vI r2), σ2)) (h4 : ¬ r2 = 0) (h5 : C 91 [vI x3] σ2 = some (some (vI r3), σ3)) (h6 : r3 = 0) : pm_Rn C (59, 0, [some (vR 9 0 0), some (vI x1), some (vI x2), some (vI x3), some (vI x4), l5, l6], [], σ) = some (some (vI (-1 : Int32)), σ3) := by
  refine (e_n 2 (fr' := (59, 2, [some (vR 9 0 0), some (vI x1), some (vI x2), some (vI x3), some (vI x4), l5, l6], [vI x1, vR 9 0 0], σ)) rfl).trans ?_
  refine (e_ci (m := 59) (pc := 5) (ls := [some (vR 9 0 0), some (vI x1), some (vI x2), some (vI x3), some (vI x4), l5, l6]) (rest := []) rfl h1).trans ?_
  refine (e_f (B := (59, 8, [some (vR 9 0 0), some (vI x1), some (vI x2), some (vI x3), some (vI x4), l5, l6], [], σ1)) rfl h2).trans ?_
  refine (e_n 1 (fr' := (59, 9, [some (vR 9 0 0), some (vI x1), some (vI x2), some (vI x3), some (vI x4), l5, l6], [vI x2], σ1)) rfl).trans ?_
  refine (e_ci (m := 59) (pc := 12) (ls := [some (vR 9 0 0), some (vI x1), some (vI x2), some (vI x3), some (vI x4), l5, l6]) (rest := []) rfl h3).trans ?_
  refine (e_f (B := (59, 15, [some (vR 9 0 0), some (vI x1), some (vI x2), some (vI x3), some (vI x4), l5, l6], [], σ2)) rfl h4).trans ?_
  refine (e_n 1 (fr' := (59, 16, [some (vR 9 0 0), some (vI x1), some (vI x2), some (vI x3), some (vI x4), l5, l6], [vI x3], σ2)) rfl).trans ?_
  refine (e_ci (m := 59) (pc := 19) (ls := [some (vR 9 0 0), some (vI x1), some (vI x2), some (vI x3), some (vI x4), l5, l6]) (rest := []) rfl h5).trans ?_
  refine (e_t (A := (59, 30, [some (vR 9 0 0), some (vI x1), some (vI x2), some (vI x3), some (vI x4), l5, l6], [], σ3)) rfl h6).trans ?_
  refine (e_n 1 (fr' := (59, 31, [some (vR 9 0 0), some (vI x1), some (vI x2), some (vI x3), some (vI x4), l5, l6], [vI (-1 : Int32)], σ3)) rfl).trans ?_
  exact e_r rfl
set_option maxRecDepth 20000 in
theorem g59_0_3 (C : pmC) {σ : pmS} {x1 : Int32} {x2 : Int32} {x3 : Int32} {x4 : Int32} {l5 : Option pmV} {l6 : Option pmV} {σ1 : pmS} {r1 : Int32} {σ2 : pmS} {r2 : Int32} {σ3 : pmS} {r3 : Int32} {σ4 : pmS} {r4 : Int32} (h1 : C 86 [vR 9 0 0, vI x1] σ = some (some (vI r1), σ1)) (h2 : ¬ r1 = 0) (h3 : C 89 [vI x2] σ1 = some (some (vI r2), σ2)) (h4 : ¬ r2 = 0) (h5 : C 91 [vI x3] σ2 = some (some (vI r3), σ3)) (h6 : ¬ r3 = 0) (h7 : C 91 [vI x4] σ3 = some (some (vI r4), σ4)) (h8 : r4 = 0) : pm_Rn C (59, 0, [some (vR 9 0 0), some (vI x1), some (vI x2), some (vI x3), some (vI x4), l5, l6], [], σ) = some (some (vI (-1 : Int32)), σ4) := by
  refine (e_n 2 (fr' := (59, 2, [some (vR 9 0 0), some (vI x1), some (vI x2), some (vI x3), some (vI x4), l5, l6], [vI x1, vR 9 0 0], σ)) rfl).trans ?_
  refine (e_ci (m := 59) (pc := 5) (ls := [some (vR 9 0 0), some (vI x1), some (vI x2), some (vI x3), some (vI x4), l5, l6]) (rest := []) rfl h1).trans ?_
  refine (e_f (B := (59, 8, [some (vR 9 0 0), some (vI x1), some (vI x2), some (vI x3), some (vI x4), l5, l6], [], σ1)) rfl h2).trans ?_
  refine (e_n 1 (fr' := (59, 9, [some (vR 9 0 0), some (vI x1), some (vI x2), some (vI x3), some (vI x4), l5, l6], [vI x2], σ1)) rfl).trans ?_
  refine (e_ci (m := 59) (pc := 12) (ls := [some (vR 9 0 0), some (vI x1), some (vI x2), some (vI x3), some (vI x4), l5, l6]) (rest := []) rfl h3).trans ?_
  refine (e_f (B := (59, 15, [some (vR 9 0 0), some (vI x1), some (vI x2), some (vI x3), some (vI x4), l5, l6], [], σ2)) rfl h4).trans ?_
  refine (e_n 1 (fr' := (59, 16, [some (vR 9 0 0), some (vI x1), some (vI x2), some (vI x3), some (vI x4), l5, l6], [vI x3], σ2)) rfl).trans ?_
  refine (e_ci (m := 59) (pc := 19) (ls := [some (vR 9 0 0), some (vI x1), some (vI x2), some (vI x3), some (vI x4), l5, l6]) (rest := []) rfl h5).trans ?_
  refine (e_f (B := (59, 22, [some (vR 9 0 0), some (vI x1), some (vI x2), some (vI x3), some (vI x4), l5, l6], [], σ3)) rfl h6).trans ?_
  refine (e_n 1 (fr' := (59, 24, [some (vR 9 0 0), some (vI x1), some (vI x2), some (vI x3), some (vI x4), l5, l6], [vI x4], σ3)) rfl).trans ?_
  refine (e_ci (m := 59) (pc := 27) (ls := [some (vR 9 0 0), some (vI x1), some (vI x2), some (vI x3), some (vI x4), l5, l6]) (rest := []) rfl h7).trans ?_
  refine (e_t (A := (59, 30, [some (vR 9 0 0), some (vI x1), some (vI x2), some (vI x3), some (vI x4), l5, l6], [], σ4)) rfl h8).trans ?_
  refine (e_n 1 (fr' := (59, 31, [some (vR 9 0 0), some (vI x1), some (vI x2), some (vI x3), some (vI x4), l5, l6], [vI (-1 : Int32)], σ4)) rfl).trans ?_
  exact e_r rfl
set_option maxRecDepth 20000 in
theorem g59_0_4 (C : pmC) {σ : pmS} {x1 : Int32} {x2 : Int32} {x3 : Int32} {x4 : Int32} {l5 : Option pmV} {l6 : Option pmV} {σ1 : pmS} {r1 : Int32} {σ2 : pmS} {r2 : Int32} {σ3 : pmS} {r3 : Int32} {σ4 : pmS} {r4 : Int32} (h1 : C 86 [vR 9 0 0, vI x1] σ = some (some (vI r1), σ1)) (h2 : ¬ r1 = 0) (h3 : C 89 [vI x2] σ1 = some (some (vI r2), σ2)) (h4 : ¬ r2 = 0) (h5 : C 91 [vI x3] σ2 = some (some (vI r3), σ3)) (h6 : ¬ r3 = 0) (h7 : C 91 [vI x4] σ3 = some (some (vI r4), σ4)) (h8 : ¬ r4 = 0) (h9 : vp_in x1 4) : pm_Rn C (59, 0, [some (vR 9 0 0), some (vI x1), some (vI x2), some (vI x3), some (vI x4), l5, l6], [], σ) = pm_Rn C (59, 43, [some (vR 9 0 0), some (vI x1), some (vI x2), some (vI x3), some (vI x4), some (vR 2 (x1).toNatClampNeg 0), some (vI (0 : Int32))], [], σ4) := by
  refine (e_n 2 (fr' := (59, 2, [some (vR 9 0 0), some (vI x1), some (vI x2), some (vI x3), some (vI x4), l5, l6], [vI x1, vR 9 0 0], σ)) rfl).trans ?_
  refine (e_ci (m := 59) (pc := 5) (ls := [some (vR 9 0 0), some (vI x1), some (vI x2), some (vI x3), some (vI x4), l5, l6]) (rest := []) rfl h1).trans ?_
  refine (e_f (B := (59, 8, [some (vR 9 0 0), some (vI x1), some (vI x2), some (vI x3), some (vI x4), l5, l6], [], σ1)) rfl h2).trans ?_
  refine (e_n 1 (fr' := (59, 9, [some (vR 9 0 0), some (vI x1), some (vI x2), some (vI x3), some (vI x4), l5, l6], [vI x2], σ1)) rfl).trans ?_
  refine (e_ci (m := 59) (pc := 12) (ls := [some (vR 9 0 0), some (vI x1), some (vI x2), some (vI x3), some (vI x4), l5, l6]) (rest := []) rfl h3).trans ?_
  refine (e_f (B := (59, 15, [some (vR 9 0 0), some (vI x1), some (vI x2), some (vI x3), some (vI x4), l5, l6], [], σ2)) rfl h4).trans ?_
  refine (e_n 1 (fr' := (59, 16, [some (vR 9 0 0), some (vI x1), some (vI x2), some (vI x3), some (vI x4), l5, l6], [vI x3], σ2)) rfl).trans ?_
  refine (e_ci (m := 59) (pc := 19) (ls := [some (vR 9 0 0), some (vI x1), some (vI x2), some (vI x3), some (vI x4), l5, l6]) (rest := []) rfl h5).trans ?_
  refine (e_f (B := (59, 22, [some (vR 9 0 0), some (vI x1), some (vI x2), some (vI x3), some (vI x4), l5, l6], [], σ3)) rfl h6).trans ?_
  refine (e_n 1 (fr' := (59, 24, [some (vR 9 0 0), some (vI x1), some (vI x2), some (vI x3), some (vI x4), l5, l6], [vI x4], σ3)) rfl).trans ?_
  refine (e_ci (m := 59) (pc := 27) (ls := [some (vR 9 0 0), some (vI x1), some (vI x2), some (vI x3), some (vI x4), l5, l6]) (rest := []) rfl h7).trans ?_
  refine (e_f (B := (59, 32, [some (vR 9 0 0), some (vI x1), some (vI x2), some (vI x3), some (vI x4), l5, l6], [], σ4)) rfl h8).trans ?_
  refine (e_n 3 (fr' := (59, 37, [some (vR 9 0 0), some (vI x1), some (vI x2), some (vI x3), some (vI x4), l5, l6], [vI x1, vR 9 0 2], σ4)) rfl).trans ?_
  refine (e_a (A := (59, 38, [some (vR 9 0 0), some (vI x1), some (vI x2), some (vI x3), some (vI x4), l5, l6], [vR 2 (x1).toNatClampNeg 0], σ4)) rfl h9).trans ?_
  exact e_n 3 rfl
set_option maxRecDepth 20000 in
theorem g59_43_0 (C : pmC) {σ : pmS} {l0 : Option pmV} {l1 : Option pmV} {x2 : Int32} {x3 : Int32} {x4 : Int32} {o5 : Nat} {x6 : Int32} (h1 : (σ.1 2 o5 8 0) ≤ x6) : pm_Rn C (59, 43, [l0, l1, some (vI x2), some (vI x3), some (vI x4), some (vR 2 o5 0), some (vI x6)], [], σ) = some (some (vI (1 : Int32)), σ) := by
  refine (e_n 3 (fr' := (59, 50, [l0, l1, some (vI x2), some (vI x3), some (vI x4), some (vR 2 o5 0), some (vI x6)], [vI (σ.1 2 o5 8 0), vI x6], σ)) rfl).trans ?_
  refine (e_t (A := (59, 87, [l0, l1, some (vI x2), some (vI x3), some (vI x4), some (vR 2 o5 0), some (vI x6)], [], σ)) rfl h1).trans ?_
  refine (e_n 1 (fr' := (59, 88, [l0, l1, some (vI x2), some (vI x3), some (vI x4), some (vR 2 o5 0), some (vI x6)], [vI (1 : Int32)], σ)) rfl).trans ?_
  exact e_r rfl
set_option maxRecDepth 20000 in
theorem g59_43_1 (C : pmC) {σ : pmS} {l0 : Option pmV} {l1 : Option pmV} {x2 : Int32} {x3 : Int32} {x4 : Int32} {o5 : Nat} {x6 : Int32} {σ1 : pmS} {r1 : Int32} {σ2 : pmS} {r2 : Int32} (h1 : ¬ (σ.1 2 o5 8 0) ≤ x6) (h2 : C 12 [vR 2 o5 0, vI x6, vI x2, vI x3] σ = some (some (vI r1), σ1)) (h3 : C 12 [vR 2 o5 0, vI x6, vI x2, vI x4] σ1 = some (some (vI r2), σ2)) (h4 : (r1 >>> ((1 : Int32) &&& 31)) = (r2 >>> ((1 : Int32) &&& 31))) : pm_Rn C (59, 43, [l0, l1, some (vI x2), some (vI x3), some (vI x4), some (vR 2 o5 0), some (vI x6)], [], σ) = pm_Rn C (59, 43, [l0, l1, some (vI x2), some (vI x3), some (vI x4), some (vR 2 o5 0), some (vI (x6 + (1 : Int32)))], [], σ2) := by
  refine (e_n 3 (fr' := (59, 50, [l0, l1, some (vI x2), some (vI x3), some (vI x4), some (vR 2 o5 0), some (vI x6)], [vI (σ.1 2 o5 8 0), vI x6], σ)) rfl).trans ?_
  refine (e_f (B := (59, 53, [l0, l1, some (vI x2), some (vI x3), some (vI x4), some (vR 2 o5 0), some (vI x6)], [], σ)) rfl h1).trans ?_
  refine (e_n 4 (fr' := (59, 59, [l0, l1, some (vI x2), some (vI x3), some (vI x4), some (vR 2 o5 0), some (vI x6)], [vI x3, vI x2, vI x6, vR 2 o5 0], σ)) rfl).trans ?_
  refine (e_ci (m := 59) (pc := 62) (ls := [l0, l1, some (vI x2), some (vI x3), some (vI x4), some (vR 2 o5 0), some (vI x6)]) (rest := []) rfl h2).trans ?_
  refine (e_n 6 (fr' := (59, 71, [l0, l1, some (vI x2), some (vI x3), some (vI x4), some (vR 2 o5 0), some (vI x6)], [vI x4, vI x2, vI x6, vR 2 o5 0, vI (r1 >>> ((1 : Int32) &&& 31))], σ1)) rfl).trans ?_
  refine (e_ci (m := 59) (pc := 74) (ls := [l0, l1, some (vI x2), some (vI x3), some (vI x4), some (vR 2 o5 0), some (vI x6)]) (rest := [vI (r1 >>> ((1 : Int32) &&& 31))]) rfl h3).trans ?_
  refine (e_n 2 (fr' := (59, 76, [l0, l1, some (vI x2), some (vI x3), some (vI x4), some (vR 2 o5 0), some (vI x6)], [vI (r2 >>> ((1 : Int32) &&& 31)), vI (r1 >>> ((1 : Int32) &&& 31))], σ2)) rfl).trans ?_
  refine (e_t (A := (59, 81, [l0, l1, some (vI x2), some (vI x3), some (vI x4), some (vR 2 o5 0), some (vI x6)], [], σ2)) rfl h4).trans ?_
  exact e_n 2 rfl
set_option maxRecDepth 20000 in
theorem g59_43_2 (C : pmC) {σ : pmS} {l0 : Option pmV} {l1 : Option pmV} {x2 : Int32} {x3 : Int32} {x4 : Int32} {o5 : Nat} {x6 : Int32} {σ1 : pmS} {r1 : Int32} {σ2 : pmS} {r2 : Int32} (h1 : ¬ (σ.1 2 o5 8 0) ≤ x6) (h2 : C 12 [vR 2 o5 0, vI x6, vI x2, vI x3] σ = some (some (vI r1), σ1)) (h3 : C 12 [vR 2 o5 0, vI x6, vI x2, vI x4] σ1 = some (some (vI r2), σ2)) (h4 : ¬ (r1 >>> ((1 : Int32) &&& 31)) = (r2 >>> ((1 : Int32) &&& 31))) : pm_Rn C (59, 43, [l0, l1, some (vI x2), some (vI x3), some (vI x4), some (vR 2 o5 0), some (vI x6)], [], σ) = some (some (vI (0 : Int32)), σ2) := by
  refine (e_n 3 (fr' := (59, 50, [l0, l1, some (vI x2), some (vI x3), some (vI x4), some (vR 2 o5 0), some (vI x6)], [vI (σ.1 2 o5 8 0), vI x6], σ)) rfl).trans ?_
  refine (e_f (B := (59, 53, [l0, l1, some (vI x2), some (vI x3), some (vI x4), some (vR 2 o5 0), some (vI x6)], [], σ)) rfl h1).trans ?_
  refine (e_n 4 (fr' := (59, 59, [l0, l1, some (vI x2), some (vI x3), some (vI x4), some (vR 2 o5 0), some (vI x6)], [vI x3, vI x2, vI x6, vR 2 o5 0], σ)) rfl).trans ?_
  refine (e_ci (m := 59) (pc := 62) (ls := [l0, l1, some (vI x2), some (vI x3), some (vI x4), some (vR 2 o5 0), some (vI x6)]) (rest := []) rfl h2).trans ?_
  refine (e_n 6 (fr' := (59, 71, [l0, l1, some (vI x2), some (vI x3), some (vI x4), some (vR 2 o5 0), some (vI x6)], [vI x4, vI x2, vI x6, vR 2 o5 0, vI (r1 >>> ((1 : Int32) &&& 31))], σ1)) rfl).trans ?_
  refine (e_ci (m := 59) (pc := 74) (ls := [l0, l1, some (vI x2), some (vI x3), some (vI x4), some (vR 2 o5 0), some (vI x6)]) (rest := [vI (r1 >>> ((1 : Int32) &&& 31))]) rfl h3).trans ?_
  refine (e_n 2 (fr' := (59, 76, [l0, l1, some (vI x2), some (vI x3), some (vI x4), some (vR 2 o5 0), some (vI x6)], [vI (r2 >>> ((1 : Int32) &&& 31)), vI (r1 >>> ((1 : Int32) &&& 31))], σ2)) rfl).trans ?_
  refine (e_f (B := (59, 79, [l0, l1, some (vI x2), some (vI x3), some (vI x4), some (vR 2 o5 0), some (vI x6)], [], σ2)) rfl h4).trans ?_
  refine (e_n 1 (fr' := (59, 80, [l0, l1, some (vI x2), some (vI x3), some (vI x4), some (vR 2 o5 0), some (vI x6)], [vI (0 : Int32)], σ2)) rfl).trans ?_
  exact e_r rfl
set_option maxRecDepth 20000 in
theorem g60_0_0 (C : pmC) {σ : pmS} {x1 : Int32} {x2 : Int32} {x3 : Int32} {l4 : Option pmV} {σ1 : pmS} {r1 : Int32} (h1 : C 86 [vR 9 0 0, vI x1] σ = some (some (vI r1), σ1)) (h2 : r1 = 0) : pm_Rn C (60, 0, [some (vR 9 0 0), some (vI x1), some (vI x2), some (vI x3), l4], [], σ) = some (some (vI (-1 : Int32)), σ1) := by
  refine (e_n 2 (fr' := (60, 2, [some (vR 9 0 0), some (vI x1), some (vI x2), some (vI x3), l4], [vI x1, vR 9 0 0], σ)) rfl).trans ?_
  refine (e_ci (m := 60) (pc := 5) (ls := [some (vR 9 0 0), some (vI x1), some (vI x2), some (vI x3), l4]) (rest := []) rfl h1).trans ?_
  refine (e_t (A := (60, 22, [some (vR 9 0 0), some (vI x1), some (vI x2), some (vI x3), l4], [], σ1)) rfl h2).trans ?_
  refine (e_n 1 (fr' := (60, 23, [some (vR 9 0 0), some (vI x1), some (vI x2), some (vI x3), l4], [vI (-1 : Int32)], σ1)) rfl).trans ?_
  exact e_r rfl
set_option maxRecDepth 20000 in
theorem g60_0_1 (C : pmC) {σ : pmS} {x1 : Int32} {x2 : Int32} {x3 : Int32} {l4 : Option pmV} {σ1 : pmS} {r1 : Int32} {σ2 : pmS} {r2 : Int32} (h1 : C 86 [vR 9 0 0, vI x1] σ = some (some (vI r1), σ1)) (h2 : ¬ r1 = 0) (h3 : C 89 [vI x2] σ1 = some (some (vI r2), σ2)) (h4 : r2 = 0) : pm_Rn C (60, 0, [some (vR 9 0 0), some (vI x1), some (vI x2), some (vI x3), l4], [], σ) = some (some (vI (-1 : Int32)), σ2) := by
  refine (e_n 2 (fr' := (60, 2, [some (vR 9 0 0), some (vI x1), some (vI x2), some (vI x3), l4], [vI x1, vR 9 0 0], σ)) rfl).trans ?_
  refine (e_ci (m := 60) (pc := 5) (ls := [some (vR 9 0 0), some (vI x1), some (vI x2), some (vI x3), l4]) (rest := []) rfl h1).trans ?_
  refine (e_f (B := (60, 8, [some (vR 9 0 0), some (vI x1), some (vI x2), some (vI x3), l4], [], σ1)) rfl h2).trans ?_
  refine (e_n 1 (fr' := (60, 9, [some (vR 9 0 0), some (vI x1), some (vI x2), some (vI x3), l4], [vI x2], σ1)) rfl).trans ?_
  refine (e_ci (m := 60) (pc := 12) (ls := [some (vR 9 0 0), some (vI x1), some (vI x2), some (vI x3), l4]) (rest := []) rfl h3).trans ?_
  refine (e_t (A := (60, 22, [some (vR 9 0 0), some (vI x1), some (vI x2), some (vI x3), l4], [], σ2)) rfl h4).trans ?_
  refine (e_n 1 (fr' := (60, 23, [some (vR 9 0 0), some (vI x1), some (vI x2), some (vI x3), l4], [vI (-1 : Int32)], σ2)) rfl).trans ?_
  exact e_r rfl
set_option maxRecDepth 20000 in
theorem g60_0_2 (C : pmC) {σ : pmS} {x1 : Int32} {x2 : Int32} {x3 : Int32} {l4 : Option pmV} {σ1 : pmS} {r1 : Int32} {σ2 : pmS} {r2 : Int32} {σ3 : pmS} {r3 : Int32} (h1 : C 86 [vR 9 0 0, vI x1] σ = some (some (vI r1), σ1)) (h2 : ¬ r1 = 0) (h3 : C 89 [vI x2] σ1 = some (some (vI r2), σ2)) (h4 : ¬ r2 = 0) (h5 : C 91 [vI x3] σ2 = some (some (vI r3), σ3)) (h6 : r3 = 0) : pm_Rn C (60, 0, [some (vR 9 0 0), some (vI x1), some (vI x2), some (vI x3), l4], [], σ) = some (some (vI (-1 : Int32)), σ3) := by
  refine (e_n 2 (fr' := (60, 2, [some (vR 9 0 0), some (vI x1), some (vI x2), some (vI x3), l4], [vI x1, vR 9 0 0], σ)) rfl).trans ?_
  refine (e_ci (m := 60) (pc := 5) (ls := [some (vR 9 0 0), some (vI x1), some (vI x2), some (vI x3), l4]) (rest := []) rfl h1).trans ?_
  refine (e_f (B := (60, 8, [some (vR 9 0 0), some (vI x1), some (vI x2), some (vI x3), l4], [], σ1)) rfl h2).trans ?_
  refine (e_n 1 (fr' := (60, 9, [some (vR 9 0 0), some (vI x1), some (vI x2), some (vI x3), l4], [vI x2], σ1)) rfl).trans ?_
  refine (e_ci (m := 60) (pc := 12) (ls := [some (vR 9 0 0), some (vI x1), some (vI x2), some (vI x3), l4]) (rest := []) rfl h3).trans ?_
  refine (e_f (B := (60, 15, [some (vR 9 0 0), some (vI x1), some (vI x2), some (vI x3), l4], [], σ2)) rfl h4).trans ?_
  refine (e_n 1 (fr' := (60, 16, [some (vR 9 0 0), some (vI x1), some (vI x2), some (vI x3), l4], [vI x3], σ2)) rfl).trans ?_
  refine (e_ci (m := 60) (pc := 19) (ls := [some (vR 9 0 0), some (vI x1), some (vI x2), some (vI x3), l4]) (rest := []) rfl h5).trans ?_
  refine (e_t (A := (60, 22, [some (vR 9 0 0), some (vI x1), some (vI x2), some (vI x3), l4], [], σ3)) rfl h6).trans ?_
  refine (e_n 1 (fr' := (60, 23, [some (vR 9 0 0), some (vI x1), some (vI x2), some (vI x3), l4], [vI (-1 : Int32)], σ3)) rfl).trans ?_
  exact e_r rfl
set_option maxRecDepth 20000 in
theorem g60_0_3 (C : pmC) {σ : pmS} {x1 : Int32} {x2 : Int32} {x3 : Int32} {l4 : Option pmV} {σ1 : pmS} {r1 : Int32} {σ2 : pmS} {r2 : Int32} {σ3 : pmS} {r3 : Int32} {σ4 : pmS} {r4 : Int32} {σ5 : pmS} {r5 : Int32} (h1 : C 86 [vR 9 0 0, vI x1] σ = some (some (vI r1), σ1)) (h2 : ¬ r1 = 0) (h3 : C 89 [vI x2] σ1 = some (some (vI r2), σ2)) (h4 : ¬ r2 = 0) (h5 : C 91 [vI x3] σ2 = some (some (vI r3), σ3)) (h6 : ¬ r3 = 0) (h7 : vp_in x1 4) (h8 : C 12 [vR 2 (x1).toNatClampNeg 0, vI (0 : Int32), vI x2, vI x3] σ3 = some (some (vI r4), σ4)) (h9 : (r4 &&& (1 : Int32)) = x2) (h10 : C 13 [vR 2 (x1).toNatClampNeg 0, vI x2, vI x3] σ4 = some (some (vI r5), σ5)) : pm_Rn C (60, 0, [some (vR 9 0 0), some (vI x1), some (vI x2), some (vI x3), l4], [], σ) = some (some (vI r5), σ5) := by
  refine (e_n 2 (fr' := (60, 2, [some (vR 9 0 0), some (vI x1), some (vI x2), some (vI x3), l4], [vI x1, vR 9 0 0], σ)) rfl).trans ?_
  refine (e_ci (m := 60) (pc := 5) (ls := [some (vR 9 0 0), some (vI x1), some (vI x2), some (vI x3), l4]) (rest := []) rfl h1).trans ?_
  refine (e_f (B := (60, 8, [some (vR 9 0 0), some (vI x1), some (vI x2), some (vI x3), l4], [], σ1)) rfl h2).trans ?_
  refine (e_n 1 (fr' := (60, 9, [some (vR 9 0 0), some (vI x1), some (vI x2), some (vI x3), l4], [vI x2], σ1)) rfl).trans ?_
  refine (e_ci (m := 60) (pc := 12) (ls := [some (vR 9 0 0), some (vI x1), some (vI x2), some (vI x3), l4]) (rest := []) rfl h3).trans ?_
  refine (e_f (B := (60, 15, [some (vR 9 0 0), some (vI x1), some (vI x2), some (vI x3), l4], [], σ2)) rfl h4).trans ?_
  refine (e_n 1 (fr' := (60, 16, [some (vR 9 0 0), some (vI x1), some (vI x2), some (vI x3), l4], [vI x3], σ2)) rfl).trans ?_
  refine (e_ci (m := 60) (pc := 19) (ls := [some (vR 9 0 0), some (vI x1), some (vI x2), some (vI x3), l4]) (rest := []) rfl h5).trans ?_
  refine (e_f (B := (60, 24, [some (vR 9 0 0), some (vI x1), some (vI x2), some (vI x3), l4], [], σ3)) rfl h6).trans ?_
  refine (e_n 3 (fr' := (60, 29, [some (vR 9 0 0), some (vI x1), some (vI x2), some (vI x3), l4], [vI x1, vR 9 0 2], σ3)) rfl).trans ?_
  refine (e_a (A := (60, 30, [some (vR 9 0 0), some (vI x1), some (vI x2), some (vI x3), l4], [vR 2 (x1).toNatClampNeg 0], σ3)) rfl h7).trans ?_
  refine (e_n 5 (fr' := (60, 37, [some (vR 9 0 0), some (vI x1), some (vI x2), some (vI x3), some (vR 2 (x1).toNatClampNeg 0)], [vI x3, vI x2, vI (0 : Int32), vR 2 (x1).toNatClampNeg 0], σ3)) rfl).trans ?_
  refine (e_ci (m := 60) (pc := 40) (ls := [some (vR 9 0 0), some (vI x1), some (vI x2), some (vI x3), some (vR 2 (x1).toNatClampNeg 0)]) (rest := []) rfl h8).trans ?_
  refine (e_n 3 (fr' := (60, 43, [some (vR 9 0 0), some (vI x1), some (vI x2), some (vI x3), some (vR 2 (x1).toNatClampNeg 0)], [vI x2, vI (r4 &&& (1 : Int32))], σ4)) rfl).trans ?_
  refine (e_t (A := (60, 49, [some (vR 9 0 0), some (vI x1), some (vI x2), some (vI x3), some (vR 2 (x1).toNatClampNeg 0)], [], σ4)) rfl h9).trans ?_
  refine (e_n 3 (fr' := (60, 53, [some (vR 9 0 0), some (vI x1), some (vI x2), some (vI x3), some (vR 2 (x1).toNatClampNeg 0)], [vI x3, vI x2, vR 2 (x1).toNatClampNeg 0], σ4)) rfl).trans ?_
  refine (e_ci (m := 60) (pc := 56) (ls := [some (vR 9 0 0), some (vI x1), some (vI x2), some (vI x3), some (vR 2 (x1).toNatClampNeg 0)]) (rest := []) rfl h10).trans ?_
  exact e_r rfl
set_option maxRecDepth 20000 in
theorem g60_0_4 (C : pmC) {σ : pmS} {x1 : Int32} {x2 : Int32} {x3 : Int32} {l4 : Option pmV} {σ1 : pmS} {r1 : Int32} {σ2 : pmS} {r2 : Int32} {σ3 : pmS} {r3 : Int32} {σ4 : pmS} {r4 : Int32} (h1 : C 86 [vR 9 0 0, vI x1] σ = some (some (vI r1), σ1)) (h2 : ¬ r1 = 0) (h3 : C 89 [vI x2] σ1 = some (some (vI r2), σ2)) (h4 : ¬ r2 = 0) (h5 : C 91 [vI x3] σ2 = some (some (vI r3), σ3)) (h6 : ¬ r3 = 0) (h7 : vp_in x1 4) (h8 : C 12 [vR 2 (x1).toNatClampNeg 0, vI (0 : Int32), vI x2, vI x3] σ3 = some (some (vI r4), σ4)) (h9 : ¬ (r4 &&& (1 : Int32)) = x2) : pm_Rn C (60, 0, [some (vR 9 0 0), some (vI x1), some (vI x2), some (vI x3), l4], [], σ) = some (some (vI (-3 : Int32)), σ4) := by
  refine (e_n 2 (fr' := (60, 2, [some (vR 9 0 0), some (vI x1), some (vI x2), some (vI x3), l4], [vI x1, vR 9 0 0], σ)) rfl).trans ?_
  refine (e_ci (m := 60) (pc := 5) (ls := [some (vR 9 0 0), some (vI x1), some (vI x2), some (vI x3), l4]) (rest := []) rfl h1).trans ?_
  refine (e_f (B := (60, 8, [some (vR 9 0 0), some (vI x1), some (vI x2), some (vI x3), l4], [], σ1)) rfl h2).trans ?_
  refine (e_n 1 (fr' := (60, 9, [some (vR 9 0 0), some (vI x1), some (vI x2), some (vI x3), l4], [vI x2], σ1)) rfl).trans ?_
  refine (e_ci (m := 60) (pc := 12) (ls := [some (vR 9 0 0), some (vI x1), some (vI x2), some (vI x3), l4]) (rest := []) rfl h3).trans ?_
  refine (e_f (B := (60, 15, [some (vR 9 0 0), some (vI x1), some (vI x2), some (vI x3), l4], [], σ2)) rfl h4).trans ?_
  refine (e_n 1 (fr' := (60, 16, [some (vR 9 0 0), some (vI x1), some (vI x2), some (vI x3), l4], [vI x3], σ2)) rfl).trans ?_
  refine (e_ci (m := 60) (pc := 19) (ls := [some (vR 9 0 0), some (vI x1), some (vI x2), some (vI x3), l4]) (rest := []) rfl h5).trans ?_
  refine (e_f (B := (60, 24, [some (vR 9 0 0), some (vI x1), some (vI x2), some (vI x3), l4], [], σ3)) rfl h6).trans ?_
  refine (e_n 3 (fr' := (60, 29, [some (vR 9 0 0), some (vI x1), some (vI x2), some (vI x3), l4], [vI x1, vR 9 0 2], σ3)) rfl).trans ?_
  refine (e_a (A := (60, 30, [some (vR 9 0 0), some (vI x1), some (vI x2), some (vI x3), l4], [vR 2 (x1).toNatClampNeg 0], σ3)) rfl h7).trans ?_
  refine (e_n 5 (fr' := (60, 37, [some (vR 9 0 0), some (vI x1), some (vI x2), some (vI x3), some (vR 2 (x1).toNatClampNeg 0)], [vI x3, vI x2, vI (0 : Int32), vR 2 (x1).toNatClampNeg 0], σ3)) rfl).trans ?_
  refine (e_ci (m := 60) (pc := 40) (ls := [some (vR 9 0 0), some (vI x1), some (vI x2), some (vI x3), some (vR 2 (x1).toNatClampNeg 0)]) (rest := []) rfl h8).trans ?_
  refine (e_n 3 (fr' := (60, 43, [some (vR 9 0 0), some (vI x1), some (vI x2), some (vI x3), some (vR 2 (x1).toNatClampNeg 0)], [vI x2, vI (r4 &&& (1 : Int32))], σ4)) rfl).trans ?_
  refine (e_f (B := (60, 46, [some (vR 9 0 0), some (vI x1), some (vI x2), some (vI x3), some (vR 2 (x1).toNatClampNeg 0)], [], σ4)) rfl h9).trans ?_
  refine (e_n 1 (fr' := (60, 48, [some (vR 9 0 0), some (vI x1), some (vI x2), some (vI x3), some (vR 2 (x1).toNatClampNeg 0)], [vI (-3 : Int32)], σ4)) rfl).trans ?_
  exact e_r rfl
set_option maxRecDepth 20000 in
theorem g61_0_0 (C : pmC) {σ : pmS} {x1 : Int32} {x2 : Int32} {x3 : Int32} {σ1 : pmS} {r1 : Int32} (h1 : C 87 [vR 9 0 0, vI x1, vI x2] σ = some (some (vI r1), σ1)) (h2 : r1 = 0) : pm_Rn C (61, 0, [some (vR 9 0 0), some (vI x1), some (vI x2), some (vI x3)], [], σ) = some (some (vI (-1 : Int32)), σ1) := by
  refine (e_n 3 (fr' := (61, 3, [some (vR 9 0 0), some (vI x1), some (vI x2), some (vI x3)], [vI x2, vI x1, vR 9 0 0], σ)) rfl).trans ?_
  refine (e_ci (m := 61) (pc := 6) (ls := [some (vR 9 0 0), some (vI x1), some (vI x2), some (vI x3)]) (rest := []) rfl h1).trans ?_
  refine (e_t (A := (61, 9, [some (vR 9 0 0), some (vI x1), some (vI x2), some (vI x3)], [], σ1)) rfl h2).trans ?_
  refine (e_n 1 (fr' := (61, 10, [some (vR 9 0 0), some (vI x1), some (vI x2), some (vI x3)], [vI (-1 : Int32)], σ1)) rfl).trans ?_
  exact e_r rfl
set_option maxRecDepth 20000 in
theorem g61_0_1 (C : pmC) {σ : pmS} {x1 : Int32} {x2 : Int32} {x3 : Int32} {σ1 : pmS} {r1 : Int32} (h1 : C 87 [vR 9 0 0, vI x1, vI x2] σ = some (some (vI r1), σ1)) (h2 : ¬ r1 = 0) (h3 : x3 < (1 : Int32)) : pm_Rn C (61, 0, [some (vR 9 0 0), some (vI x1), some (vI x2), some (vI x3)], [], σ) = some (some (vI (-2 : Int32)), σ1) := by
  refine (e_n 3 (fr' := (61, 3, [some (vR 9 0 0), some (vI x1), some (vI x2), some (vI x3)], [vI x2, vI x1, vR 9 0 0], σ)) rfl).trans ?_
  refine (e_ci (m := 61) (pc := 6) (ls := [some (vR 9 0 0), some (vI x1), some (vI x2), some (vI x3)]) (rest := []) rfl h1).trans ?_
  refine (e_f (B := (61, 11, [some (vR 9 0 0), some (vI x1), some (vI x2), some (vI x3)], [], σ1)) rfl h2).trans ?_
  refine (e_n 2 (fr' := (61, 13, [some (vR 9 0 0), some (vI x1), some (vI x2), some (vI x3)], [vI (1 : Int32), vI x3], σ1)) rfl).trans ?_
  refine (e_t (A := (61, 21, [some (vR 9 0 0), some (vI x1), some (vI x2), some (vI x3)], [], σ1)) rfl h3).trans ?_
  refine (e_n 1 (fr' := (61, 23, [some (vR 9 0 0), some (vI x1), some (vI x2), some (vI x3)], [vI (-2 : Int32)], σ1)) rfl).trans ?_
  exact e_r rfl
set_option maxRecDepth 20000 in
theorem g61_0_2 (C : pmC) {σ : pmS} {x1 : Int32} {x2 : Int32} {x3 : Int32} {σ1 : pmS} {r1 : Int32} {σ2 : pmS} {r2 : Int32} (h1 : C 87 [vR 9 0 0, vI x1, vI x2] σ = some (some (vI r1), σ1)) (h2 : ¬ r1 = 0) (h3 : ¬ x3 < (1 : Int32)) (h4 : x3 ≤ (4 : Int32)) (h5 : vp_in x1 4) (h6 : C 14 [vR 2 (x1).toNatClampNeg 0, vI x2, vI x3] σ1 = some (some (vI r2), σ2)) : pm_Rn C (61, 0, [some (vR 9 0 0), some (vI x1), some (vI x2), some (vI x3)], [], σ) = some (some (vI r2), σ2) := by
  refine (e_n 3 (fr' := (61, 3, [some (vR 9 0 0), some (vI x1), some (vI x2), some (vI x3)], [vI x2, vI x1, vR 9 0 0], σ)) rfl).trans ?_
  refine (e_ci (m := 61) (pc := 6) (ls := [some (vR 9 0 0), some (vI x1), some (vI x2), some (vI x3)]) (rest := []) rfl h1).trans ?_
  refine (e_f (B := (61, 11, [some (vR 9 0 0), some (vI x1), some (vI x2), some (vI x3)], [], σ1)) rfl h2).trans ?_
  refine (e_n 2 (fr' := (61, 13, [some (vR 9 0 0), some (vI x1), some (vI x2), some (vI x3)], [vI (1 : Int32), vI x3], σ1)) rfl).trans ?_
  refine (e_f (B := (61, 16, [some (vR 9 0 0), some (vI x1), some (vI x2), some (vI x3)], [], σ1)) rfl h3).trans ?_
  refine (e_n 2 (fr' := (61, 18, [some (vR 9 0 0), some (vI x1), some (vI x2), some (vI x3)], [vI (4 : Int32), vI x3], σ1)) rfl).trans ?_
  refine (e_t (A := (61, 24, [some (vR 9 0 0), some (vI x1), some (vI x2), some (vI x3)], [], σ1)) rfl h4).trans ?_
  refine (e_n 3 (fr' := (61, 29, [some (vR 9 0 0), some (vI x1), some (vI x2), some (vI x3)], [vI x1, vR 9 0 2], σ1)) rfl).trans ?_
  refine (e_a (A := (61, 30, [some (vR 9 0 0), some (vI x1), some (vI x2), some (vI x3)], [vR 2 (x1).toNatClampNeg 0], σ1)) rfl h5).trans ?_
  refine (e_n 2 (fr' := (61, 32, [some (vR 9 0 0), some (vI x1), some (vI x2), some (vI x3)], [vI x3, vI x2, vR 2 (x1).toNatClampNeg 0], σ1)) rfl).trans ?_
  refine (e_ci (m := 61) (pc := 35) (ls := [some (vR 9 0 0), some (vI x1), some (vI x2), some (vI x3)]) (rest := []) rfl h6).trans ?_
  exact e_r rfl
set_option maxRecDepth 20000 in
theorem g61_0_3 (C : pmC) {σ : pmS} {x1 : Int32} {x2 : Int32} {x3 : Int32} {σ1 : pmS} {r1 : Int32} (h1 : C 87 [vR 9 0 0, vI x1, vI x2] σ = some (some (vI r1), σ1)) (h2 : ¬ r1 = 0) (h3 : ¬ x3 < (1 : Int32)) (h4 : ¬ x3 ≤ (4 : Int32)) : pm_Rn C (61, 0, [some (vR 9 0 0), some (vI x1), some (vI x2), some (vI x3)], [], σ) = some (some (vI (-2 : Int32)), σ1) := by
  refine (e_n 3 (fr' := (61, 3, [some (vR 9 0 0), some (vI x1), some (vI x2), some (vI x3)], [vI x2, vI x1, vR 9 0 0], σ)) rfl).trans ?_
  refine (e_ci (m := 61) (pc := 6) (ls := [some (vR 9 0 0), some (vI x1), some (vI x2), some (vI x3)]) (rest := []) rfl h1).trans ?_
  refine (e_f (B := (61, 11, [some (vR 9 0 0), some (vI x1), some (vI x2), some (vI x3)], [], σ1)) rfl h2).trans ?_
  refine (e_n 2 (fr' := (61, 13, [some (vR 9 0 0), some (vI x1), some (vI x2), some (vI x3)], [vI (1 : Int32), vI x3], σ1)) rfl).trans ?_
  refine (e_f (B := (61, 16, [some (vR 9 0 0), some (vI x1), some (vI x2), some (vI x3)], [], σ1)) rfl h3).trans ?_
  refine (e_n 2 (fr' := (61, 18, [some (vR 9 0 0), some (vI x1), some (vI x2), some (vI x3)], [vI (4 : Int32), vI x3], σ1)) rfl).trans ?_
  refine (e_f (B := (61, 21, [some (vR 9 0 0), some (vI x1), some (vI x2), some (vI x3)], [], σ1)) rfl h4).trans ?_
  refine (e_n 1 (fr' := (61, 23, [some (vR 9 0 0), some (vI x1), some (vI x2), some (vI x3)], [vI (-2 : Int32)], σ1)) rfl).trans ?_
  exact e_r rfl
set_option maxRecDepth 20000 in
theorem g62_0_0 (C : pmC) {σ : pmS} {x1 : Int32} {σ1 : pmS} {r1 : Int32} (h1 : C 86 [vR 9 0 0, vI x1] σ = some (some (vI r1), σ1)) (h2 : r1 = 0) : pm_Rn C (62, 0, [some (vR 9 0 0), some (vI x1)], [], σ) = some (some (vI (-1 : Int32)), σ1) := by
  refine (e_n 2 (fr' := (62, 2, [some (vR 9 0 0), some (vI x1)], [vI x1, vR 9 0 0], σ)) rfl).trans ?_
  refine (e_ci (m := 62) (pc := 5) (ls := [some (vR 9 0 0), some (vI x1)]) (rest := []) rfl h1).trans ?_
  refine (e_t (A := (62, 24, [some (vR 9 0 0), some (vI x1)], [], σ1)) rfl h2).trans ?_
  refine (e_n 1 (fr' := (62, 25, [some (vR 9 0 0), some (vI x1)], [vI (-1 : Int32)], σ1)) rfl).trans ?_
  exact e_r rfl
set_option maxRecDepth 20000 in
theorem g62_0_1 (C : pmC) {σ : pmS} {x1 : Int32} {σ1 : pmS} {r1 : Int32} {σ2 : pmS} {r2 : Int32} (h1 : C 86 [vR 9 0 0, vI x1] σ = some (some (vI r1), σ1)) (h2 : ¬ r1 = 0) (h3 : vp_in x1 4) (h4 : C 47 [vR 7 0 0, vR 2 (x1).toNatClampNeg 0] σ1 = some (some (vI r2), σ2)) : pm_Rn C (62, 0, [some (vR 9 0 0), some (vI x1)], [], σ) = some (some (vI r2), σ2) := by
  refine (e_n 2 (fr' := (62, 2, [some (vR 9 0 0), some (vI x1)], [vI x1, vR 9 0 0], σ)) rfl).trans ?_
  refine (e_ci (m := 62) (pc := 5) (ls := [some (vR 9 0 0), some (vI x1)]) (rest := []) rfl h1).trans ?_
  refine (e_f (B := (62, 8, [some (vR 9 0 0), some (vI x1)], [], σ1)) rfl h2).trans ?_
  refine (e_n 5 (fr' := (62, 17, [some (vR 9 0 0), some (vI x1)], [vI x1, vR 9 0 2, vR 7 0 0], σ1)) rfl).trans ?_
  refine (e_a (A := (62, 18, [some (vR 9 0 0), some (vI x1)], [vR 2 (x1).toNatClampNeg 0, vR 7 0 0], σ1)) rfl h3).trans ?_
  refine (e_ci (m := 62) (pc := 21) (ls := [some (vR 9 0 0), some (vI x1)]) (rest := []) rfl h4).trans ?_
  refine (e_n 1 (fr' := (62, 25, [some (vR 9 0 0), some (vI x1)], [vI r2], σ2)) rfl).trans ?_
  exact e_r rfl
set_option maxRecDepth 20000 in
theorem g63_0_0 (C : pmC) {σ : pmS} {x1 : Int32} {x2 : Int32} {l3 : Option pmV} {σ1 : pmS} {r1 : Int32} (h1 : C 86 [vR 9 0 0, vI x1] σ = some (some (vI r1), σ1)) (h2 : r1 = 0) : pm_Rn C (63, 0, [some (vR 9 0 0), some (vI x1), some (vI x2), l3], [], σ) = some (some (vI (-1 : Int32)), σ1) := by
  refine (e_n 2 (fr' := (63, 2, [some (vR 9 0 0), some (vI x1), some (vI x2), l3], [vI x1, vR 9 0 0], σ)) rfl).trans ?_
  refine (e_ci (m := 63) (pc := 5) (ls := [some (vR 9 0 0), some (vI x1), some (vI x2), l3]) (rest := []) rfl h1).trans ?_
  refine (e_t (A := (63, 8, [some (vR 9 0 0), some (vI x1), some (vI x2), l3], [], σ1)) rfl h2).trans ?_
  refine (e_n 1 (fr' := (63, 9, [some (vR 9 0 0), some (vI x1), some (vI x2), l3], [vI (-1 : Int32)], σ1)) rfl).trans ?_
  exact e_r rfl
set_option maxRecDepth 20000 in
theorem g63_0_1 (C : pmC) {σ : pmS} {x1 : Int32} {x2 : Int32} {l3 : Option pmV} {σ1 : pmS} {r1 : Int32} (h1 : C 86 [vR 9 0 0, vI x1] σ = some (some (vI r1), σ1)) (h2 : ¬ r1 = 0) (h3 : vp_in x1 4) (h4 : x2 ≤ 0) : pm_Rn C (63, 0, [some (vR 9 0 0), some (vI x1), some (vI x2), l3], [], σ) = some (some (vI (-2 : Int32)), σ1) := by
  refine (e_n 2 (fr' := (63, 2, [some (vR 9 0 0), some (vI x1), some (vI x2), l3], [vI x1, vR 9 0 0], σ)) rfl).trans ?_
  refine (e_ci (m := 63) (pc := 5) (ls := [some (vR 9 0 0), some (vI x1), some (vI x2), l3]) (rest := []) rfl h1).trans ?_
  refine (e_f (B := (63, 10, [some (vR 9 0 0), some (vI x1), some (vI x2), l3], [], σ1)) rfl h2).trans ?_
  refine (e_n 4 (fr' := (63, 16, [some (vR 9 0 0), some (vI x1), some (vI x2), l3], [vI x1, vR 9 0 2, vI (1 : Int32)], σ1)) rfl).trans ?_
  refine (e_a (A := (63, 17, [some (vR 9 0 0), some (vI x1), some (vI x2), l3], [vR 2 (x1).toNatClampNeg 0, vI (1 : Int32)], σ1)) rfl h3).trans ?_
  refine (e_n 6 (fr' := (63, 25, [some (vR 9 0 0), some (vI x1), some (vI x2), some (vI (((1 : Int32) <<< ((σ1.1 2 (x1).toNatClampNeg 8 0) &&& 31)) - (1 : Int32)))], [vI x2], σ1)) rfl).trans ?_
  refine (e_t (A := (63, 33, [some (vR 9 0 0), some (vI x1), some (vI x2), some (vI (((1 : Int32) <<< ((σ1.1 2 (x1).toNatClampNeg 8 0) &&& 31)) - (1 : Int32)))], [], σ1)) rfl h4).trans ?_
  refine (e_n 1 (fr' := (63, 35, [some (vR 9 0 0), some (vI x1), some (vI x2), some (vI (((1 : Int32) <<< ((σ1.1 2 (x1).toNatClampNeg 8 0) &&& 31)) - (1 : Int32)))], [vI (-2 : Int32)], σ1)) rfl).trans ?_
  exact e_r rfl
set_option maxRecDepth 20000 in
theorem g63_0_2 (C : pmC) {σ : pmS} {x1 : Int32} {x2 : Int32} {l3 : Option pmV} {σ1 : pmS} {r1 : Int32} {σ2 : pmS} {r2 : Int32} (h1 : C 86 [vR 9 0 0, vI x1] σ = some (some (vI r1), σ1)) (h2 : ¬ r1 = 0) (h3 : vp_in x1 4) (h4 : ¬ x2 ≤ 0) (h5 : x2 < (((1 : Int32) <<< ((σ1.1 2 (x1).toNatClampNeg 8 0) &&& 31)) - (1 : Int32))) (h6 : C 15 [vR 2 (x1).toNatClampNeg 0, vI x2] σ1 = some (some (vI r2), σ2)) : pm_Rn C (63, 0, [some (vR 9 0 0), some (vI x1), some (vI x2), l3], [], σ) = some (some (vI r2), σ2) := by
  refine (e_n 2 (fr' := (63, 2, [some (vR 9 0 0), some (vI x1), some (vI x2), l3], [vI x1, vR 9 0 0], σ)) rfl).trans ?_
  refine (e_ci (m := 63) (pc := 5) (ls := [some (vR 9 0 0), some (vI x1), some (vI x2), l3]) (rest := []) rfl h1).trans ?_
  refine (e_f (B := (63, 10, [some (vR 9 0 0), some (vI x1), some (vI x2), l3], [], σ1)) rfl h2).trans ?_
  refine (e_n 4 (fr' := (63, 16, [some (vR 9 0 0), some (vI x1), some (vI x2), l3], [vI x1, vR 9 0 2, vI (1 : Int32)], σ1)) rfl).trans ?_
  refine (e_a (A := (63, 17, [some (vR 9 0 0), some (vI x1), some (vI x2), l3], [vR 2 (x1).toNatClampNeg 0, vI (1 : Int32)], σ1)) rfl h3).trans ?_
  refine (e_n 6 (fr' := (63, 25, [some (vR 9 0 0), some (vI x1), some (vI x2), some (vI (((1 : Int32) <<< ((σ1.1 2 (x1).toNatClampNeg 8 0) &&& 31)) - (1 : Int32)))], [vI x2], σ1)) rfl).trans ?_
  refine (e_f (B := (63, 28, [some (vR 9 0 0), some (vI x1), some (vI x2), some (vI (((1 : Int32) <<< ((σ1.1 2 (x1).toNatClampNeg 8 0) &&& 31)) - (1 : Int32)))], [], σ1)) rfl h4).trans ?_
  refine (e_n 2 (fr' := (63, 30, [some (vR 9 0 0), some (vI x1), some (vI x2), some (vI (((1 : Int32) <<< ((σ1.1 2 (x1).toNatClampNeg 8 0) &&& 31)) - (1 : Int32)))], [vI (((1 : Int32) <<< ((σ1.1 2 (x1).toNatClampNeg 8 0) &&& 31)) - (1 : Int32)), vI x2], σ1)) rfl).trans ?_
  refine (e_t (A := (63, 36, [some (vR 9 0 0), some (vI x1), some (vI x2), some (vI (((1 : Int32) <<< ((σ1.1 2 (x1).toNatClampNeg 8 0) &&& 31)) - (1 : Int32)))], [], σ1)) rfl h5).trans ?_
  refine (e_n 3 (fr' := (63, 41, [some (vR 9 0 0), some (vI x1), some (vI x2), some (vI (((1 : Int32) <<< ((σ1.1 2 (x1).toNatClampNeg 8 0) &&& 31)) - (1 : Int32)))], [vI x1, vR 9 0 2], σ1)) rfl).trans ?_
  refine (e_a (A := (63, 42, [some (vR 9 0 0), some (vI x1), some (vI x2), some (vI (((1 : Int32) <<< ((σ1.1 2 (x1).toNatClampNeg 8 0) &&& 31)) - (1 : Int32)))], [vR 2 (x1).toNatClampNeg 0], σ1)) rfl h3).trans ?_
  refine (e_n 1 (fr' := (63, 43, [some (vR 9 0 0), some (vI x1), some (vI x2), some (vI (((1 : Int32) <<< ((σ1.1 2 (x1).toNatClampNeg 8 0) &&& 31)) - (1 : Int32)))], [vI x2, vR 2 (x1).toNatClampNeg 0], σ1)) rfl).trans ?_
  refine (e_ci (m := 63) (pc := 46) (ls := [some (vR 9 0 0), some (vI x1), some (vI x2), some (vI (((1 : Int32) <<< ((σ1.1 2 (x1).toNatClampNeg 8 0) &&& 31)) - (1 : Int32)))]) (rest := []) rfl h6).trans ?_
  exact e_r rfl
set_option maxRecDepth 20000 in
theorem g63_0_3 (C : pmC) {σ : pmS} {x1 : Int32} {x2 : Int32} {l3 : Option pmV} {σ1 : pmS} {r1 : Int32} (h1 : C 86 [vR 9 0 0, vI x1] σ = some (some (vI r1), σ1)) (h2 : ¬ r1 = 0) (h3 : vp_in x1 4) (h4 : ¬ x2 ≤ 0) (h5 : ¬ x2 < (((1 : Int32) <<< ((σ1.1 2 (x1).toNatClampNeg 8 0) &&& 31)) - (1 : Int32))) : pm_Rn C (63, 0, [some (vR 9 0 0), some (vI x1), some (vI x2), l3], [], σ) = some (some (vI (-2 : Int32)), σ1) := by
  refine (e_n 2 (fr' := (63, 2, [some (vR 9 0 0), some (vI x1), some (vI x2), l3], [vI x1, vR 9 0 0], σ)) rfl).trans ?_
  refine (e_ci (m := 63) (pc := 5) (ls := [some (vR 9 0 0), some (vI x1), some (vI x2), l3]) (rest := []) rfl h1).trans ?_
  refine (e_f (B := (63, 10, [some (vR 9 0 0), some (vI x1), some (vI x2), l3], [], σ1)) rfl h2).trans ?_
  refine (e_n 4 (fr' := (63, 16, [some (vR 9 0 0), some (vI x1), some (vI x2), l3], [vI x1, vR 9 0 2, vI (1 : Int32)], σ1)) rfl).trans ?_
  refine (e_a (A := (63, 17, [some (vR 9 0 0), some (vI x1), some (vI x2), l3], [vR 2 (x1).toNatClampNeg 0, vI (1 : Int32)], σ1)) rfl h3).trans ?_
  refine (e_n 6 (fr' := (63, 25, [some (vR 9 0 0), some (vI x1), some (vI x2), some (vI (((1 : Int32) <<< ((σ1.1 2 (x1).toNatClampNeg 8 0) &&& 31)) - (1 : Int32)))], [vI x2], σ1)) rfl).trans ?_
  refine (e_f (B := (63, 28, [some (vR 9 0 0), some (vI x1), some (vI x2), some (vI (((1 : Int32) <<< ((σ1.1 2 (x1).toNatClampNeg 8 0) &&& 31)) - (1 : Int32)))], [], σ1)) rfl h4).trans ?_
  refine (e_n 2 (fr' := (63, 30, [some (vR 9 0 0), some (vI x1), some (vI x2), some (vI (((1 : Int32) <<< ((σ1.1 2 (x1).toNatClampNeg 8 0) &&& 31)) - (1 : Int32)))], [vI (((1 : Int32) <<< ((σ1.1 2 (x1).toNatClampNeg 8 0) &&& 31)) - (1 : Int32)), vI x2], σ1)) rfl).trans ?_
  refine (e_f (B := (63, 33, [some (vR 9 0 0), some (vI x1), some (vI x2), some (vI (((1 : Int32) <<< ((σ1.1 2 (x1).toNatClampNeg 8 0) &&& 31)) - (1 : Int32)))], [], σ1)) rfl h5).trans ?_
  refine (e_n 1 (fr' := (63, 35, [some (vR 9 0 0), some (vI x1), some (vI x2), some (vI (((1 : Int32) <<< ((σ1.1 2 (x1).toNatClampNeg 8 0) &&& 31)) - (1 : Int32)))], [vI (-2 : Int32)], σ1)) rfl).trans ?_
  exact e_r rfl
set_option maxRecDepth 20000 in
theorem g64_0_0 (C : pmC) {σ : pmS} {x1 : Int32} {x2 : Int32} {l3 : Option pmV} {l4 : Option pmV} {l5 : Option pmV} {l6 : Option pmV} {σ1 : pmS} {r1 : Int32} (h1 : C 86 [vR 9 0 0, vI x1] σ = some (some (vI r1), σ1)) (h2 : r1 = 0) : pm_Rn C (64, 0, [some (vR 9 0 0), some (vI x1), some (vI x2), l3, l4, l5, l6], [], σ) = some (some (vI (-1 : Int32)), σ1) := by
  refine (e_n 2 (fr' := (64, 2, [some (vR 9 0 0), some (vI x1), some (vI x2), l3, l4, l5, l6], [vI x1, vR 9 0 0], σ)) rfl).trans ?_
  refine (e_ci (m := 64) (pc := 5) (ls := [some (vR 9 0 0), some (vI x1), some (vI x2), l3, l4, l5, l6]) (rest := []) rfl h1).trans ?_
  refine (e_t (A := (64, 8, [some (vR 9 0 0), some (vI x1), some (vI x2), l3, l4, l5, l6], [], σ1)) rfl h2).trans ?_
  refine (e_n 1 (fr' := (64, 9, [some (vR 9 0 0), some (vI x1), some (vI x2), l3, l4, l5, l6], [vI (-1 : Int32)], σ1)) rfl).trans ?_
  exact e_r rfl
set_option maxRecDepth 20000 in
theorem g64_0_1 (C : pmC) {σ : pmS} {x1 : Int32} {x2 : Int32} {l3 : Option pmV} {l4 : Option pmV} {l5 : Option pmV} {l6 : Option pmV} {σ1 : pmS} {r1 : Int32} (h1 : C 86 [vR 9 0 0, vI x1] σ = some (some (vI r1), σ1)) (h2 : ¬ r1 = 0) (h3 : x2 < 0) : pm_Rn C (64, 0, [some (vR 9 0 0), some (vI x1), some (vI x2), l3, l4, l5, l6], [], σ) = some (some (vI (-2 : Int32)), σ1) := by
  refine (e_n 2 (fr' := (64, 2, [some (vR 9 0 0), some (vI x1), some (vI x2), l3, l4, l5, l6], [vI x1, vR 9 0 0], σ)) rfl).trans ?_
  refine (e_ci (m := 64) (pc := 5) (ls := [some (vR 9 0 0), some (vI x1), some (vI x2), l3, l4, l5, l6]) (rest := []) rfl h1).trans ?_
  refine (e_f (B := (64, 10, [some (vR 9 0 0), some (vI x1), some (vI x2), l3, l4, l5, l6], [], σ1)) rfl h2).trans ?_
  refine (e_n 1 (fr' := (64, 11, [some (vR 9 0 0), some (vI x1), some (vI x2), l3, l4, l5, l6], [vI x2], σ1)) rfl).trans ?_
  refine (e_t (A := (64, 20, [some (vR 9 0 0), some (vI x1), some (vI x2), l3, l4, l5, l6], [], σ1)) rfl h3).trans ?_
  refine (e_n 1 (fr' := (64, 22, [some (vR 9 0 0), some (vI x1), some (vI x2), l3, l4, l5, l6], [vI (-2 : Int32)], σ1)) rfl).trans ?_
  exact e_r rfl
set_option maxRecDepth 20000 in
theorem g64_0_2 (C : pmC) {σ : pmS} {x1 : Int32} {x2 : Int32} {l3 : Option pmV} {l4 : Option pmV} {l5 : Option pmV} {l6 : Option pmV} {σ1 : pmS} {r1 : Int32} (h1 : C 86 [vR 9 0 0, vI x1] σ = some (some (vI r1), σ1)) (h2 : ¬ r1 = 0) (h3 : ¬ x2 < 0) (h4 : x2 ≤ (7 : Int32)) (h5 : vp_in x1 4) : pm_Rn C (64, 0, [some (vR 9 0 0), some (vI x1), some (vI x2), l3, l4, l5, l6], [], σ) = pm_Rn C (64, 46, [some (vR 9 0 0), some (vI x1), some (vI x2), some (vR 2 (x1).toNatClampNeg 0), some (vI (((1 : Int32) <<< ((σ1.1 2 (x1).toNatClampNeg 8 0) &&& 31)) - (1 : Int32))), some (vI (0 : Int32)), some (vI (1 : Int32))], [], σ1) := by
  refine (e_n 2 (fr' := (64, 2, [some (vR 9 0 0), some (vI x1), some (vI x2), l3, l4, l5, l6], [vI x1, vR 9 0 0], σ)) rfl).trans ?_
  refine (e_ci (m := 64) (pc := 5) (ls := [some (vR 9 0 0), some (vI x1), some (vI x2), l3, l4, l5, l6]) (rest := []) rfl h1).trans ?_
  refine (e_f (B := (64, 10, [some (vR 9 0 0), some (vI x1), some (vI x2), l3, l4, l5, l6], [], σ1)) rfl h2).trans ?_
  refine (e_n 1 (fr' := (64, 11, [some (vR 9 0 0), some (vI x1), some (vI x2), l3, l4, l5, l6], [vI x2], σ1)) rfl).trans ?_
  refine (e_f (B := (64, 14, [some (vR 9 0 0), some (vI x1), some (vI x2), l3, l4, l5, l6], [], σ1)) rfl h3).trans ?_
  refine (e_n 2 (fr' := (64, 17, [some (vR 9 0 0), some (vI x1), some (vI x2), l3, l4, l5, l6], [vI (7 : Int32), vI x2], σ1)) rfl).trans ?_
  refine (e_t (A := (64, 23, [some (vR 9 0 0), some (vI x1), some (vI x2), l3, l4, l5, l6], [], σ1)) rfl h4).trans ?_
  refine (e_n 3 (fr' := (64, 28, [some (vR 9 0 0), some (vI x1), some (vI x2), l3, l4, l5, l6], [vI x1, vR 9 0 2], σ1)) rfl).trans ?_
  refine (e_a (A := (64, 29, [some (vR 9 0 0), some (vI x1), some (vI x2), l3, l4, l5, l6], [vR 2 (x1).toNatClampNeg 0], σ1)) rfl h5).trans ?_
  exact e_n 12 rfl
set_option maxRecDepth 20000 in
theorem g64_0_3 (C : pmC) {σ : pmS} {x1 : Int32} {x2 : Int32} {l3 : Option pmV} {l4 : Option pmV} {l5 : Option pmV} {l6 : Option pmV} {σ1 : pmS} {r1 : Int32} (h1 : C 86 [vR 9 0 0, vI x1] σ = some (some (vI r1), σ1)) (h2 : ¬ r1 = 0) (h3 : ¬ x2 < 0) (h4 : ¬ x2 ≤ (7 : Int32)) : pm_Rn C (64, 0, [some (vR 9 0 0), some (vI x1), some (vI x2), l3, l4, l5, l6], [], σ) = some (some (vI (-2 : Int32)), σ1) := by
  refine (e_n 2 (fr' := (64, 2, [some (vR 9 0 0), some (vI x1), some (vI x2), l3, l4, l5, l6], [vI x1, vR 9 0 0], σ)) rfl).trans ?_
  refine (e_ci (m := 64) (pc := 5) (ls := [some (vR 9 0 0), some (vI x1), some (vI x2), l3, l4, l5, l6]) (rest := []) rfl h1).trans ?_
  refine (e_f (B := (64, 10, [some (vR 9 0 0), some (vI x1), some (vI x2), l3, l4, l5, l6], [], σ1)) rfl h2).trans ?_
  refine (e_n 1 (fr' := (64, 11, [some (vR 9 0 0), some (vI x1), some (vI x2), l3, l4, l5, l6], [vI x2], σ1)) rfl).trans ?_
  refine (e_f (B := (64, 14, [some (vR 9 0 0), some (vI x1), some (vI x2), l3, l4, l5, l6], [], σ1)) rfl h3).trans ?_
  refine (e_n 2 (fr' := (64, 17, [some (vR 9 0 0), some (vI x1), some (vI x2), l3, l4, l5, l6], [vI (7 : Int32), vI x2], σ1)) rfl).trans ?_
  refine (e_f (B := (64, 20, [some (vR 9 0 0), some (vI x1), some (vI x2), l3, l4, l5, l6], [], σ1)) rfl h4).trans ?_
  refine (e_n 1 (fr' := (64, 22, [some (vR 9 0 0), some (vI x1), some (vI x2), l3, l4, l5, l6], [vI (-2 : Int32)], σ1)) rfl).trans ?_
  exact e_r rfl
set_option maxRecDepth 20000 in
theorem g64_46_0 (C : pmC) {σ : pmS} {l0 : Option pmV} {l1 : Option pmV} {x2 : Int32} {o3 : Nat} {x4 : Int32} {x5 : Int32} {x6 : Int32} (h1 : x4 ≤ x6) : pm_Rn C (64, 46, [l0, l1, some (vI x2), some (vR 2 o3 0), some (vI x4), some (vI x5), some (vI x6)], [], σ) = some (some (vI x5), σ) := by
  refine (e_n 2 (fr' := (64, 50, [l0, l1, some (vI x2), some (vR 2 o3 0), some (vI x4), some (vI x5), some (vI x6)], [vI x4, vI x6], σ)) rfl).trans ?_
  refine (e_t (A := (64, 74, [l0, l1, some (vI x2), some (vR 2 o3 0), some (vI x4), some (vI x5), some (vI x6)], [], σ)) rfl h1).trans ?_
  refine (e_n 1 (fr' := (64, 76, [l0, l1, some (vI x2), some (vR 2 o3 0), some (vI x4), some (vI x5), some (vI x6)], [vI x5], σ)) rfl).trans ?_
  exact e_r rfl
set_option maxRecDepth 20000 in
theorem g64_46_1 (C : pmC) {σ : pmS} {l0 : Option pmV} {l1 : Option pmV} {x2 : Int32} {o3 : Nat} {x4 : Int32} {x5 : Int32} {x6 : Int32} {σ1 : pmS} {r1 : Int32} (h1 : ¬ x4 ≤ x6) (h2 : C 15 [vR 2 o3 0, vI x6] σ = some (some (vI r1), σ1)) (h3 : (r1 &&& x2) = x2) : pm_Rn C (64, 46, [l0, l1, some (vI x2), some (vR 2 o3 0), some (vI x4), some (vI x5), some (vI x6)], [], σ) = pm_Rn C (64, 46, [l0, l1, some (vI x2), some (vR 2 o3 0), some (vI x4), some (vI (x5 + (1 : Int32))), some (vI (x6 + (2 : Int32)))], [], σ1) := by
  refine (e_n 2 (fr' := (64, 50, [l0, l1, some (vI x2), some (vR 2 o3 0), some (vI x4), some (vI x5), some (vI x6)], [vI x4, vI x6], σ)) rfl).trans ?_
  refine (e_f (B := (64, 53, [l0, l1, some (vI x2), some (vR 2 o3 0), some (vI x4), some (vI x5), some (vI x6)], [], σ)) rfl h1).trans ?_
  refine (e_n 2 (fr' := (64, 56, [l0, l1, some (vI x2), some (vR 2 o3 0), some (vI x4), some (vI x5), some (vI x6)], [vI x6, vR 2 o3 0], σ)) rfl).trans ?_
  refine (e_ci (m := 64) (pc := 59) (ls := [l0, l1, some (vI x2), some (vR 2 o3 0), some (vI x4), some (vI x5), some (vI x6)]) (rest := []) rfl h2).trans ?_
  refine (e_n 3 (fr' := (64, 62, [l0, l1, some (vI x2), some (vR 2 o3 0), some (vI x4), some (vI x5), some (vI x6)], [vI x2, vI (r1 &&& x2)], σ1)) rfl).trans ?_
  refine (e_t (A := (64, 65, [l0, l1, some (vI x2), some (vR 2 o3 0), some (vI x4), some (vI x5), some (vI x6)], [], σ1)) rfl h3).trans ?_
  exact e_n 3 rfl
set_option maxRecDepth 20000 in
theorem g64_46_2 (C : pmC) {σ : pmS} {l0 : Option pmV} {l1 : Option pmV} {x2 : Int32} {o3 : Nat} {x4 : Int32} {x5 : Int32} {x6 : Int32} {σ1 : pmS} {r1 : Int32} (h1 : ¬ x4 ≤ x6) (h2 : C 15 [vR 2 o3 0, vI x6] σ = some (some (vI r1), σ1)) (h3 : ¬ (r1 &&& x2) = x2) : pm_Rn C (64, 46, [l0, l1, some (vI x2), some (vR 2 o3 0), some (vI x4), some (vI x5), some (vI x6)], [], σ) = pm_Rn C (64, 46, [l0, l1, some (vI x2), some (vR 2 o3 0), some (vI x4), some (vI x5), some (vI (x6 + (2 : Int32)))], [], σ1) := by
  refine (e_n 2 (fr' := (64, 50, [l0, l1, some (vI x2), some (vR 2 o3 0), some (vI x4), some (vI x5), some (vI x6)], [vI x4, vI x6], σ)) rfl).trans ?_
  refine (e_f (B := (64, 53, [l0, l1, some (vI x2), some (vR 2 o3 0), some (vI x4), some (vI x5), some (vI x6)], [], σ)) rfl h1).trans ?_
  refine (e_n 2 (fr' := (64, 56, [l0, l1, some (vI x2), some (vR 2 o3 0), some (vI x4), some (vI x5), some (vI x6)], [vI x6, vR 2 o3 0], σ)) rfl).trans ?_
  refine (e_ci (m := 64) (pc := 59) (ls := [l0, l1, some (vI x2), some (vR 2 o3 0), some (vI x4), some (vI x5), some (vI x6)]) (rest := []) rfl h2).trans ?_
  refine (e_n 3 (fr' := (64, 62, [l0, l1, some (vI x2), some (vR 2 o3 0), some (vI x4), some (vI x5), some (vI x6)], [vI x2, vI (r1 &&& x2)], σ1)) rfl).trans ?_
  refine (e_f (B := (64, 68, [l0, l1, some (vI x2), some (vR 2 o3 0), some (vI x4), some (vI x5), some (vI x6)], [], σ1)) rfl h3).trans ?_
  exact e_n 2 rfl
set_option maxRecDepth 20000 in
theorem g65_0_0 (C : pmC) {σ : pmS} {x1 : Int32} {x2 : Int32} {σ1 : pmS} {r1 : Int32} (h1 : C 86 [vR 9 0 0, vI x1] σ = some (some (vI r1), σ1)) (h2 : r1 = 0) : pm_Rn C (65, 0, [some (vR 9 0 0), some (vI x1), some (vI x2)], [], σ) = some (some (vI (-1 : Int32)), σ1) := by
  refine (e_n 2 (fr' := (65, 2, [some (vR 9 0 0), some (vI x1), some (vI x2)], [vI x1, vR 9 0 0], σ)) rfl).trans ?_
  refine (e_ci (m := 65) (pc := 5) (ls := [some (vR 9 0 0), some (vI x1), some (vI x2)]) (rest := []) rfl h1).trans ?_
  refine (e_t (A := (65, 8, [some (vR 9 0 0), some (vI x1), some (vI x2)], [], σ1)) rfl h2).trans ?_
  refine (e_n 1 (fr' := (65, 9, [some (vR 9 0 0), some (vI x1), some (vI x2)], [vI (-1 : Int32)], σ1)) rfl).trans ?_
  exact e_r rfl
set_option maxRecDepth 20000 in
theorem g65_0_1 (C : pmC) {σ : pmS} {x1 : Int32} {x2 : Int32} {σ1 : pmS} {r1 : Int32} {σ2 : pmS} {r2 : Int32} (h1 : C 86 [vR 9 0 0, vI x1] σ = some (some (vI r1), σ1)) (h2 : ¬ r1 = 0) (h3 : x2 = 0) (h4 : (σ1.1 9 0 10 0) < (3 : Int32)) (h5 : vp_in (σ1.1 9 0 10 0) 3) (h6 : C 0 [vR 0 ((σ1.1 9 0 10 0)).toNatClampNeg 0, vI (0 : Int32), vI x1, vI x2] σ1 = some (some (vI r2), σ2)) : pm_Rn C (65, 0, [some (vR 9 0 0), some (vI x1), some (vI x2)], [], σ) = some (some (vI (((σ2.1 9 0 10 0) + (1 : Int32)) - (1 : Int32))), (pm_wi σ2 9 0 10 0 ((σ2.1 9 0 10 0) + (1 : Int32)))) := by
  refine (e_n 2 (fr' := (65, 2, [some (vR 9 0 0), some (vI x1), some (vI x2)], [vI x1, vR 9 0 0], σ)) rfl).trans ?_
  refine (e_ci (m := 65) (pc := 5) (ls := [some (vR 9 0 0), some (vI x1), some (vI x2)]) (rest := []) rfl h1).trans ?_
  refine (e_f (B := (65, 10, [some (vR 9 0 0), some (vI x1), some (vI x2)], [], σ1)) rfl h2).trans ?_
  refine (e_n 1 (fr' := (65, 11, [some (vR 9 0 0), some (vI x1), some (vI x2)], [vI x2], σ1)) rfl).trans ?_
  refine (e_t (A := (65, 22, [some (vR 9 0 0), some (vI x1), some (vI x2)], [], σ1)) rfl h3).trans ?_
  refine (e_n 3 (fr' := (65, 27, [some (vR 9 0 0), some (vI x1), some (vI x2)], [vI (3 : Int32), vI (σ1.1 9 0 10 0)], σ1)) rfl).trans ?_
  refine (e_t (A := (65, 33, [some (vR 9 0 0), some (vI x1), some (vI x2)], [], σ1)) rfl h4).trans ?_
  refine (e_n 4 (fr' := (65, 41, [some (vR 9 0 0), some (vI x1), some (vI x2)], [vI (σ1.1 9 0 10 0), vR 9 0 3], σ1)) rfl).trans ?_
  refine (e_a (A := (65, 42, [some (vR 9 0 0), some (vI x1), some (vI x2)], [vR 0 ((σ1.1 9 0 10 0)).toNatClampNeg 0], σ1)) rfl h5).trans ?_
  refine (e_n 3 (fr' := (65, 45, [some (vR 9 0 0), some (vI x1), some (vI x2)], [vI x2, vI x1, vI (0 : Int32), vR 0 ((σ1.1 9 0 10 0)).toNatClampNeg 0], σ1)) rfl).trans ?_
  refine (e_ci (m := 65) (pc := 48) (ls := [some (vR 9 0 0), some (vI x1), some (vI x2)]) (rest := []) rfl h6).trans ?_
  refine (e_n 11 (fr' := (65, 65, [some (vR 9 0 0), some (vI x1), some (vI x2)], [vI (((σ2.1 9 0 10 0) + (1 : Int32)) - (1 : Int32))], (pm_wi σ2 9 0 10 0 ((σ2.1 9 0 10 0) + (1 : Int32))))) rfl).trans ?_
  exact e_r rfl
set_option maxRecDepth 20000 in
theorem g65_0_2 (C : pmC) {σ : pmS} {x1 : Int32} {x2 : Int32} {σ1 : pmS} {r1 : Int32} (h1 : C 86 [vR 9 0 0, vI x1] σ = some (some (vI r1), σ1)) (h2 : ¬ r1 = 0) (h3 : x2 = 0) (h4 : ¬ (σ1.1 9 0 10 0) < (3 : Int32)) : pm_Rn C (65, 0, [some (vR 9 0 0), some (vI x1), some (vI x2)], [], σ) = some (some (vI (-4 : Int32)), σ1) := by
  refine (e_n 2 (fr' := (65, 2, [some (vR 9 0 0), some (vI x1), some (vI x2)], [vI x1, vR 9 0 0], σ)) rfl).trans ?_
  refine (e_ci (m := 65) (pc := 5) (ls := [some (vR 9 0 0), some (vI x1), some (vI x2)]) (rest := []) rfl h1).trans ?_
  refine (e_f (B := (65, 10, [some (vR 9 0 0), some (vI x1), some (vI x2)], [], σ1)) rfl h2).trans ?_
  refine (e_n 1 (fr' := (65, 11, [some (vR 9 0 0), some (vI x1), some (vI x2)], [vI x2], σ1)) rfl).trans ?_
  refine (e_t (A := (65, 22, [some (vR 9 0 0), some (vI x1), some (vI x2)], [], σ1)) rfl h3).trans ?_
  refine (e_n 3 (fr' := (65, 27, [some (vR 9 0 0), some (vI x1), some (vI x2)], [vI (3 : Int32), vI (σ1.1 9 0 10 0)], σ1)) rfl).trans ?_
  refine (e_f (B := (65, 30, [some (vR 9 0 0), some (vI x1), some (vI x2)], [], σ1)) rfl h4).trans ?_
  refine (e_n 1 (fr' := (65, 32, [some (vR 9 0 0), some (vI x1), some (vI x2)], [vI (-4 : Int32)], σ1)) rfl).trans ?_
  exact e_r rfl
set_option maxRecDepth 20000 in
theorem g65_0_3 (C : pmC) {σ : pmS} {x1 : Int32} {x2 : Int32} {σ1 : pmS} {r1 : Int32} {σ2 : pmS} {r2 : Int32} (h1 : C 86 [vR 9 0 0, vI x1] σ = some (some (vI r1), σ1)) (h2 : ¬ r1 = 0) (h3 : ¬ x2 = 0) (h4 : x2 = (1 : Int32)) (h5 : (σ1.1 9 0 10 0) < (3 : Int32)) (h6 : vp_in (σ1.1 9 0 10 0) 3) (h7 : C 0 [vR 0 ((σ1.1 9 0 10 0)).toNatClampNeg 0, vI (0 : Int32), vI x1, vI x2] σ1 = some (some (vI r2), σ2)) : pm_Rn C (65, 0, [some (vR 9 0 0), some (vI x1), some (vI x2)], [], σ) = some (some (vI (((σ2.1 9 0 10 0) + (1 : Int32)) - (1 : Int32))), (pm_wi σ2 9 0 10 0 ((σ2.1 9 0 10 0) + (1 : Int32)))) := by
  refine (e_n 2 (fr' := (65, 2, [some (vR 9 0 0), some (vI x1), some (vI x2)], [vI x1, vR 9 0 0], σ)) rfl).trans ?_
  refine (e_ci (m := 65) (pc := 5) (ls := [some (vR 9 0 0), some (vI x1), some (vI x2)]) (rest := []) rfl h1).trans ?_
  refine (e_f (B := (65, 10, [some (vR 9 0 0), some (vI x1), some (vI x2)], [], σ1)) rfl h2).trans ?_
  refine (e_n 1 (fr' := (65, 11, [some (vR 9 0 0), some (vI x1), some (vI x2)], [vI x2], σ1)) rfl).trans ?_
  refine (e_f (B := (65, 14, [some (vR 9 0 0), some (vI x1), some (vI x2)], [], σ1)) rfl h3).trans ?_
  refine (e_n 2 (fr' := (65, 16, [some (vR 9 0 0), some (vI x1), some (vI x2)], [vI (1 : Int32), vI x2], σ1)) rfl).trans ?_
  refine (e_t (A := (65, 22, [some (vR 9 0 0), some (vI x1), some (vI x2)], [], σ1)) rfl h4).trans ?_
  refine (e_n 3 (fr' := (65, 27, [some (vR 9 0 0), some (vI x1), some (vI x2)], [vI (3 : Int32), vI (σ1.1 9 0 10 0)], σ1)) rfl).trans ?_
  refine (e_t (A := (65, 33, [some (vR 9 0 0), some (vI x1), some (vI x2)], [], σ1)) rfl h5).trans ?_
  refine (e_n 4 (fr' := (65, 41, [some (vR 9 0 0), some (vI x1), some (vI x2)], [vI (σ1.1 9 0 10 0), vR 9 0 3], σ1)) rfl).trans ?_
  refine (e_a (A := (65, 42, [some (vR 9 0 0), some (vI x1), some (vI x2)], [vR 0 ((σ1.1 9 0 10 0)).toNatClampNeg 0], σ1)) rfl h6).trans ?_
  refine (e_n 3 (fr' := (65, 45, [some (vR 9 0 0), some (vI x1), some (vI x2)], [vI x2, vI x1, vI (0 : Int32), vR 0 ((σ1.1 9 0 10 0)).toNatClampNeg 0], σ1)) rfl).trans ?_
  refine (e_ci (m := 65) (pc := 48) (ls := [some (vR 9 0 0), some (vI x1), some (vI x2)]) (rest := []) rfl h7).trans ?_
  refine (e_n 11 (fr' := (65, 65, [some (vR 9 0 0), some (vI x1), some (vI x2)], [vI (((σ2.1 9 0 10 0) + (1 : Int32)) - (1 : Int32))], (pm_wi σ2 9 0 10 0 ((σ2.1 9 0 10 0) + (1 : Int32))))) rfl).trans ?_
  exact e_r rfl
set_option maxRecDepth 20000 in
theorem g65_0_4 (C : pmC) {σ : pmS} {x1 : Int32} {x2 : Int32} {σ1 : pmS} {r1 : Int32} (h1 : C 86 [vR 9 0 0, vI x1] σ = some (some (vI r1), σ1)) (h2 : ¬ r1 = 0) (h3 : ¬ x2 = 0) (h4 : x2 = (1 : Int32)) (h5 : ¬ (σ1.1 9 0 10 0) < (3 : Int32)) : pm_Rn C (65, 0, [some (vR 9 0 0), some (vI x1), some (vI x2)], [], σ) = some (some (vI (-4 : Int32)), σ1) := by
  refine (e_n 2 (fr' := (65, 2, [some (vR 9 0 0), some (vI x1), some (vI x2)], [vI x1, vR 9 0 0], σ)) rfl).trans ?_
  refine (e_ci (m := 65) (pc := 5) (ls := [some (vR 9 0 0), some (vI x1), some (vI x2)]) (rest := []) rfl h1).trans ?_
  refine (e_f (B := (65, 10, [some (vR 9 0 0), some (vI x1), some (vI x2)], [], σ1)) rfl h2).trans ?_
  refine (e_n 1 (fr' := (65, 11, [some (vR 9 0 0), some (vI x1), some (vI x2)], [vI x2], σ1)) rfl).trans ?_
  refine (e_f (B := (65, 14, [some (vR 9 0 0), some (vI x1), some (vI x2)], [], σ1)) rfl h3).trans ?_
  refine (e_n 2 (fr' := (65, 16, [some (vR 9 0 0), some (vI x1), some (vI x2)], [vI (1 : Int32), vI x2], σ1)) rfl).trans ?_
  refine (e_t (A := (65, 22, [some (vR 9 0 0), some (vI x1), some (vI x2)], [], σ1)) rfl h4).trans ?_
  refine (e_n 3 (fr' := (65, 27, [some (vR 9 0 0), some (vI x1), some (vI x2)], [vI (3 : Int32), vI (σ1.1 9 0 10 0)], σ1)) rfl).trans ?_
  refine (e_f (B := (65, 30, [some (vR 9 0 0), some (vI x1), some (vI x2)], [], σ1)) rfl h5).trans ?_
  refine (e_n 1 (fr' := (65, 32, [some (vR 9 0 0), some (vI x1), some (vI x2)], [vI (-4 : Int32)], σ1)) rfl).trans ?_
  exact e_r rfl
set_option maxRecDepth 20000 in
theorem g65_0_5 (C : pmC) {σ : pmS} {x1 : Int32} {x2 : Int32} {σ1 : pmS} {r1 : Int32} (h1 : C 86 [vR 9 0 0, vI x1] σ = some (some (vI r1), σ1)) (h2 : ¬ r1 = 0) (h3 : ¬ x2 = 0) (h4 : ¬ x2 = (1 : Int32)) : pm_Rn C (65, 0, [some (vR 9 0 0), some (vI x1), some (vI x2)], [], σ) = some (some (vI (-2 : Int32)), σ1) := by
  refine (e_n 2 (fr' := (65, 2, [some (vR 9 0 0), some (vI x1), some (vI x2)], [vI x1, vR 9 0 0], σ)) rfl).trans ?_
  refine (e_ci (m := 65) (pc := 5) (ls := [some (vR 9 0 0), some (vI x1), some (vI x2)]) (rest := []) rfl h1).trans ?_
  refine (e_f (B := (65, 10, [some (vR 9 0 0), some (vI x1), some (vI x2)], [], σ1)) rfl h2).trans ?_
  refine (e_n 1 (fr' := (65, 11, [some (vR 9 0 0), some (vI x1), some (vI x2)], [vI x2], σ1)) rfl).trans ?_
  refine (e_f (B := (65, 14, [some (vR 9 0 0), some (vI x1), some (vI x2)], [], σ1)) rfl h3).trans ?_
  refine (e_n 2 (fr' := (65, 16, [some (vR 9 0 0), some (vI x1), some (vI x2)], [vI (1 : Int32), vI x2], σ1)) rfl).trans ?_
  refine (e_f (B := (65, 19, [some (vR 9 0 0), some (vI x1), some (vI x2)], [], σ1)) rfl h4).trans ?_
  refine (e_n 1 (fr' := (65, 21, [some (vR 9 0 0), some (vI x1), some (vI x2)], [vI (-2 : Int32)], σ1)) rfl).trans ?_
  exact e_r rfl
set_option maxRecDepth 20000 in
theorem g66_0_0 (C : pmC) {σ : pmS} {x1 : Int32} {x2 : Int32} {x3 : Int32} {x4 : Int32} {l5 : Option pmV} {σ1 : pmS} {r1 : Int32} (h1 : C 88 [vR 9 0 0, vI x1] σ = some (some (vI r1), σ1)) (h2 : r1 = 0) : pm_Rn C (66, 0, [some (vR 9 0 0), some (vI x1), some (vI x2), some (vI x3), some (vI x4), l5], [], σ) = some (some (vI (-1 : Int32)), σ1) := by
  refine (e_n 2 (fr' := (66, 2, [some (vR 9 0 0), some (vI x1), some (vI x2), some (vI x3), some (vI x4), l5], [vI x1, vR 9 0 0], σ)) rfl).trans ?_
  refine (e_ci (m := 66) (pc := 5) (ls := [some (vR 9 0 0), some (vI x1), some (vI x2), some (vI x3), some (vI x4), l5]) (rest := []) rfl h1).trans ?_
  refine (e_t (A := (66, 16, [some (vR 9 0 0), some (vI x1), some (vI x2), some (vI x3), some (vI x4), l5], [], σ1)) rfl h2).trans ?_
  refine (e_n 1 (fr' := (66, 17, [some (vR 9 0 0), some (vI x1), some (vI x2), some (vI x3), some (vI x4), l5], [vI (-1 : Int32)], σ1)) rfl).trans ?_
  exact e_r rfl
set_option maxRecDepth 20000 in
theorem g66_0_1 (C : pmC) {σ : pmS} {x1 : Int32} {x2 : Int32} {x3 : Int32} {x4 : Int32} {l5 : Option pmV} {σ1 : pmS} {r1 : Int32} {σ2 : pmS} {r2 : Int32} (h1 : C 88 [vR 9 0 0, vI x1] σ = some (some (vI r1), σ1)) (h2 : ¬ r1 = 0) (h3 : C 86 [vR 9 0 0, vI x3] σ1 = some (some (vI r2), σ2)) (h4 : r2 = 0) : pm_Rn C (66, 0, [some (vR 9 0 0), some (vI x1), some (vI x2), some (vI x3), some (vI x4), l5], [], σ) = some (some (vI (-1 : Int32)), σ2) := by
  refine (e_n 2 (fr' := (66, 2, [some (vR 9 0 0), some (vI x1), some (vI x2), some (vI x3), some (vI x4), l5], [vI x1, vR 9 0 0], σ)) rfl).trans ?_
  refine (e_ci (m := 66) (pc := 5) (ls := [some (vR 9 0 0), some (vI x1), some (vI x2), some (vI x3), some (vI x4), l5]) (rest := []) rfl h1).trans ?_
  refine (e_f (B := (66, 8, [some (vR 9 0 0), some (vI x1), some (vI x2), some (vI x3), some (vI x4), l5], [], σ1)) rfl h2).trans ?_
  refine (e_n 2 (fr' := (66, 10, [some (vR 9 0 0), some (vI x1), some (vI x2), some (vI x3), some (vI x4), l5], [vI x3, vR 9 0 0], σ1)) rfl).trans ?_
  refine (e_ci (m := 66) (pc := 13) (ls := [some (vR 9 0 0), some (vI x1), some (vI x2), some (vI x3), some (vI x4), l5]) (rest := []) rfl h3).trans ?_
  refine (e_t (A := (66, 16, [some (vR 9 0 0), some (vI x1), some (vI x2), some (vI x3), some (vI x4), l5], [], σ2)) rfl h4).trans ?_
  refine (e_n 1 (fr' := (66, 17, [some (vR 9 0 0), some (vI x1), some (vI x2), some (vI x3), some (vI x4), l5], [vI (-1 : Int32)], σ2)) rfl).trans ?_
  exact e_r rfl
set_option maxRecDepth 20000 in
theorem g66_0_2 (C : pmC) {σ : pmS} {x1 : Int32} {x2 : Int32} {x3 : Int32} {x4 : Int32} {l5 : Option pmV} {σ1 : pmS} {r1 : Int32} {σ2 : pmS} {r2 : Int32} (h1 : C 88 [vR 9 0 0, vI x1] σ = some (some (vI r1), σ1)) (h2 : ¬ r1 = 0) (h3 : C 86 [vR 9 0 0, vI x3] σ1 = some (some (vI r2), σ2)) (h4 : ¬ r2 = 0) (h5 : x2 < (1 : Int32)) : pm_Rn C (66, 0, [some (vR 9 0 0), some (vI x1), some (vI x2), some (vI x3), some (vI x4), l5], [], σ) = some (some (vI (-2 : Int32)), σ2) := by
  refine (e_n 2 (fr' := (66, 2, [some (vR 9 0 0), some (vI x1), some (vI x2), some (vI x3), some (vI x4), l5], [vI x1, vR 9 0 0], σ)) rfl).trans ?_
  refine (e_ci (m := 66) (pc := 5) (ls := [some (vR 9 0 0), some (vI x1), some (vI x2), some (vI x3), some (vI x4), l5]) (rest := []) rfl h1).trans ?_
  refine (e_f (B := (66, 8, [some (vR 9 0 0), some (vI x1), some (vI x2), some (vI x3), some (vI x4), l5], [], σ1)) rfl h2).trans ?_
  refine (e_n 2 (fr' := (66, 10, [some (vR 9 0 0), some (vI x1), some (vI x2), some (vI x3), some (vI x4), l5], [vI x3, vR 9 0 0], σ1)) rfl).trans ?_
  refine (e_ci (m := 66) (pc := 13) (ls := [some (vR 9 0 0), some (vI x1), some (vI x2), some (vI x3), some (vI x4), l5]) (rest := []) rfl h3).trans ?_
  refine (e_f (B := (66, 18, [some (vR 9 0 0), some (vI x1), some (vI x2), some (vI x3), some (vI x4), l5], [], σ2)) rfl h4).trans ?_
  refine (e_n 2 (fr' := (66, 20, [some (vR 9 0 0), some (vI x1), some (vI x2), some (vI x3), some (vI x4), l5], [vI (1 : Int32), vI x2], σ2)) rfl).trans ?_
  refine (e_t (A := (66, 41, [some (vR 9 0 0), some (vI x1), some (vI x2), some (vI x3), some (vI x4), l5], [], σ2)) rfl h5).trans ?_
  refine (e_n 1 (fr' := (66, 43, [some (vR 9 0 0), some (vI x1), some (vI x2), some (vI x3), some (vI x4), l5], [vI (-2 : Int32)], σ2)) rfl).trans ?_
  exact e_r rfl
set_option maxRecDepth 20000 in
theorem g66_0_3 (C : pmC) {σ : pmS} {x1 : Int32} {x2 : Int32} {x3 : Int32} {x4 : Int32} {l5 : Option pmV} {σ1 : pmS} {r1 : Int32} {σ2 : pmS} {r2 : Int32} (h1 : C 88 [vR 9 0 0, vI x1] σ = some (some (vI r1), σ1)) (h2 : ¬ r1 = 0) (h3 : C 86 [vR 9 0 0, vI x3] σ1 = some (some (vI r2), σ2)) (h4 : ¬ r2 = 0) (h5 : ¬ x2 < (1 : Int32)) (h6 : (999 : Int32) < x2) : pm_Rn C (66, 0, [some (vR 9 0 0), some (vI x1), some (vI x2), some (vI x3), some (vI x4), l5], [], σ) = some (some (vI (-2 : Int32)), σ2) := by
  refine (e_n 2 (fr' := (66, 2, [some (vR 9 0 0), some (vI x1), some (vI x2), some (vI x3), some (vI x4), l5], [vI x1, vR 9 0 0], σ)) rfl).trans ?_
  refine (e_ci (m := 66) (pc := 5) (ls := [some (vR 9 0 0), some (vI x1), some (vI x2), some (vI x3), some (vI x4), l5]) (rest := []) rfl h1).trans ?_
  refine (e_f (B := (66, 8, [some (vR 9 0 0), some (vI x1), some (vI x2), some (vI x3), some (vI x4), l5], [], σ1)) rfl h2).trans ?_
  refine (e_n 2 (fr' := (66, 10, [some (vR 9 0 0), some (vI x1), some (vI x2), some (vI x3), some (vI x4), l5], [vI x3, vR 9 0 0], σ1)) rfl).trans ?_
  refine (e_ci (m := 66) (pc := 13) (ls := [some (vR 9 0 0), some (vI x1), some (vI x2), some (vI x3), some (vI x4), l5]) (rest := []) rfl h3).trans ?_
  refine (e_f (B := (66, 18, [some (vR 9 0 0), some (vI x1), some (vI x2), some (vI x3), some (vI x4), l5], [], σ2)) rfl h4).trans ?_
  refine (e_n 2 (fr' := (66, 20, [some (vR 9 0 0), some (vI x1), some (vI x2), some (vI x3), some (vI x4), l5], [vI (1 : Int32), vI x2], σ2)) rfl).trans ?_
  refine (e_f (B := (66, 23, [some (vR 9 0 0), some (vI x1), some (vI x2), some (vI x3), some (vI x4), l5], [], σ2)) rfl h5).trans ?_
  refine (e_n 2 (fr' := (66, 27, [some (vR 9 0 0), some (vI x1), some (vI x2), some (vI x3), some (vI x4), l5], [vI (999 : Int32), vI x2], σ2)) rfl).trans ?_
  refine (e_t (A := (66, 41, [some (vR 9 0 0), some (vI x1), some (vI x2), some (vI x3), some (vI x4), l5], [], σ2)) rfl h6).trans ?_
  refine (e_n 1 (fr' := (66, 43, [some (vR 9 0 0), some (vI x1), some (vI x2), some (vI x3), some (vI x4), l5], [vI (-2 : Int32)], σ2)) rfl).trans ?_
  exact e_r rfl
set_option maxRecDepth 20000 in
theorem g66_0_4 (C : pmC) {σ : pmS} {x1 : Int32} {x2 : Int32} {x3 : Int32} {x4 : Int32} {l5 : Option pmV} {σ1 : pmS} {r1 : Int32} {σ2 : pmS} {r2 : Int32} {σ3 : pmS} {r3 : Int32} (h1 : C 88 [vR 9 0 0, vI x1] σ = some (some (vI r1), σ1)) (h2 : ¬ r1 = 0) (h3 : C 86 [vR 9 0 0, vI x3] σ1 = some (some (vI r2), σ2)) (h4 : ¬ r2 = 0) (h5 : ¬ x2 < (1 : Int32)) (h6 : ¬ (999 : Int32) < x2) (h7 : x4 = 0) (h8 : vp_in x1 3) (h9 : C 0 [vR 0 (x1).toNatClampNeg 0, vI x2, vI x3, vI x4] σ2 = some (some (vI r3), σ3)) (h10 : r3 = 0) : pm_Rn C (66, 0, [some (vR 9 0 0), some (vI x1), some (vI x2), some (vI x3), some (vI x4), l5], [], σ) = some (some (vI (-4 : Int32)), σ3) := by
  refine (e_n 2 (fr' := (66, 2, [some (vR 9 0 0), some (vI x1), some (vI x2), some (vI x3), some (vI x4), l5], [vI x1, vR 9 0 0], σ)) rfl).trans ?_
  refine (e_ci (m := 66) (pc := 5) (ls := [some (vR 9 0 0), some (vI x1), some (vI x2), some (vI x3), some (vI x4), l5]) (rest := []) rfl h1).trans ?_
  refine (e_f (B := (66, 8, [some (vR 9 0 0), some (vI x1), some (vI x2), some (vI x3), some (vI x4), l5], [], σ1)) rfl h2).trans ?_
  refine (e_n 2 (fr' := (66, 10, [some (vR 9 0 0), some (vI x1), some (vI x2), some (vI x3), some (vI x4), l5], [vI x3, vR 9 0 0], σ1)) rfl).trans ?_
  refine (e_ci (m := 66) (pc := 13) (ls := [some (vR 9 0 0), some (vI x1), some (vI x2), some (vI x3), some (vI x4), l5]) (rest := []) rfl h3).trans ?_
  refine (e_f (B := (66, 18, [some (vR 9 0 0), some (vI x1), some (vI x2), some (vI x3), some (vI x4), l5], [], σ2)) rfl h4).trans ?_
  refine (e_n 2 (fr' := (66, 20, [some (vR 9 0 0), some (vI x1), some (vI x2), some (vI x3), some (vI x4), l5], [vI (1 : Int32), vI x2], σ2)) rfl).trans ?_
  refine (e_f (B := (66, 23, [some (vR 9 0 0), some (vI x1), some (vI x2), some (vI x3), some (vI x4), l5], [], σ2)) rfl h5).trans ?_
  refine (e_n 2 (fr' := (66, 27, [some (vR 9 0 0), some (vI x1), some (vI x2), some (vI x3), some (vI x4), l5], [vI (999 : Int32), vI x2], σ2)) rfl).trans ?_
  refine (e_f (B := (66, 30, [some (vR 9 0 0), some (vI x1), some (vI x2), some (vI x3), some (vI x4), l5], [], σ2)) rfl h6).trans ?_
  refine (e_n 1 (fr' := (66, 32, [some (vR 9 0 0), some (vI x1), some (vI x2), some (vI x3), some (vI x4), l5], [vI x4], σ2)) rfl).trans ?_
  refine (e_t (A := (66, 44, [some (vR 9 0 0), some (vI x1), some (vI x2), some (vI x3), some (vI x4), l5], [], σ2)) rfl h7).trans ?_
  refine (e_n 3 (fr' := (66, 49, [some (vR 9 0 0), some (vI x1), some (vI x2), some (vI x3), some (vI x4), l5], [vI x1, vR 9 0 3], σ2)) rfl).trans ?_
  refine (e_a (A := (66, 50, [some (vR 9 0 0), some (vI x1), some (vI x2), some (vI x3), some (vI x4), l5], [vR 0 (x1).toNatClampNeg 0], σ2)) rfl h8).trans ?_
  refine (e_n 3 (fr' := (66, 54, [some (vR 9 0 0), some (vI x1), some (vI x2), some (vI x3), some (vI x4), l5], [vI x4, vI x3, vI x2, vR 0 (x1).toNatClampNeg 0], σ2)) rfl).trans ?_
  refine (e_ci (m := 66) (pc := 57) (ls := [some (vR 9 0 0), some (vI x1), some (vI x2), some (vI x3), some (vI x4), l5]) (rest := []) rfl h9).trans ?_
  refine (e_t (A := (66, 60, [some (vR 9 0 0), some (vI x1), some (vI x2), some (vI x3), some (vI x4), l5], [], σ3)) rfl h10).trans ?_
  refine (e_n 1 (fr' := (66, 62, [some (vR 9 0 0), some (vI x1), some (vI x2), some (vI x3), some (vI x4), l5], [vI (-4 : Int32)], σ3)) rfl).trans ?_
  exact e_r rfl
set_option maxRecDepth 20000 in
theorem g66_0_5 (C : pmC) {σ : pmS} {x1 : Int32} {x2 : Int32} {x3 : Int32} {x4 : Int32} {l5 : Option pmV} {σ1 : pmS} {r1 : Int32} {σ2 : pmS} {r2 : Int32} {σ3 : pmS} {r3 : Int32} (h1 : C 88 [vR 9 0 0, vI x1] σ = some (some (vI r1), σ1)) (h2 : ¬ r1 = 0) (h3 : C 86 [vR 9 0 0, vI x3] σ1 = some (some (vI r2), σ2)) (h4 : ¬ r2 = 0) (h5 : ¬ x2 < (1 : Int32)) (h6 : ¬ (999 : Int32) < x2) (h7 : x4 = 0) (h8 : vp_in x1 3) (h9 : C 0 [vR 0 (x1).toNatClampNeg 0, vI x2, vI x3, vI x4] σ2 = some (some (vI r3), σ3)) (h10 : ¬ r3 = 0) : pm_Rn C (66, 0, [some (vR 9 0 0), some (vI x1), some (vI x2), some (vI x3), some (vI x4), l5], [], σ) = pm_Rn C (66, 66, [some (vR 9 0 0), some (vI x1), some (vI x2), some (vI x3), some (vI x4), some (vI (0 : Int32))], [], σ3) := by
  refine (e_n 2 (fr' := (66, 2, [some (vR 9 0 0), some (vI x1), some (vI x2), some (vI x3), some (vI x4), l5], [vI x1, vR 9 0 0], σ)) rfl).trans ?_
  refine (e_ci (m := 66) (pc := 5) (ls := [some (vR 9 0 0), some (vI x1), some (vI x2), some (vI x3), some (vI x4), l5]) (rest := []) rfl h1).trans ?_
  refine (e_f (B := (66, 8, [some (vR 9 0 0), some (vI x1), some (vI x2), some (vI x3), some (vI x4), l5], [], σ1)) rfl h2).trans ?_
  refine (e_n 2 (fr' := (66, 10, [some (vR 9 0 0), some (vI x1), some (vI x2), some (vI x3), some (vI x4), l5], [vI x3, vR 9 0 0], σ1)) rfl).trans ?_
  refine (e_ci (m := 66) (pc := 13) (ls := [some (vR 9 0 0), some (vI x1), some (vI x2), some (vI x3), some (vI x4), l5]) (rest := []) rfl h3).trans ?_
  refine (e_f (B := (66, 18, [some (vR 9 0 0), some (vI x1), some (vI x2), some (vI x3), some (vI x4), l5], [], σ2)) rfl h4).trans ?_
  refine (e_n 2 (fr' := (66, 20, [some (vR 9 0 0), some (vI x1), some (vI x2), some (vI x3), some (vI x4), l5], [vI (1 : Int32), vI x2], σ2)) rfl).trans ?_
  refine (e_f (B := (66, 23, [some (vR 9 0 0), some (vI x1), some (vI x2), some (vI x3), some (vI x4), l5], [], σ2)) rfl h5).trans ?_
  refine (e_n 2 (fr' := (66, 27, [some (vR 9 0 0), some (vI x1), some (vI x2), some (vI x3), some (vI x4), l5], [vI (999 : Int32), vI x2], σ2)) rfl).trans ?_
  refine (e_f (B := (66, 30, [some (vR 9 0 0), some (vI x1), some (vI x2), some (vI x3), some (vI x4), l5], [], σ2)) rfl h6).trans ?_
  refine (e_n 1 (fr' := (66, 32, [some (vR 9 0 0), some (vI x1), some (vI x2), some (vI x3), some (vI x4), l5], [vI x4], σ2)) rfl).trans ?_
  refine (e_t (A := (66, 44, [some (vR 9 0 0), some (vI x1), some (vI x2), some (vI x3), some (vI x4), l5], [], σ2)) rfl h7).trans ?_
  refine (e_n 3 (fr' := (66, 49, [some (vR 9 0 0), some (vI x1), some (vI x2), some (vI x3), some (vI x4), l5], [vI x1, vR 9 0 3], σ2)) rfl).trans ?_
  refine (e_a (A := (66, 50, [some (vR 9 0 0), some (vI x1), some (vI x2), some (vI x3), some (vI x4), l5], [vR 0 (x1).toNatClampNeg 0], σ2)) rfl h8).trans ?_
  refine (e_n 3 (fr' := (66, 54, [some (vR 9 0 0), some (vI x1), some (vI x2), some (vI x3), some (vI x4), l5], [vI x4, vI x3, vI x2, vR 0 (x1).toNatClampNeg 0], σ2)) rfl).trans ?_
  refine (e_ci (m := 66) (pc := 57) (ls := [some (vR 9 0 0), some (vI x1), some (vI x2), some (vI x3), some (vI x4), l5]) (rest := []) rfl h9).trans ?_
  refine (e_f (B := (66, 63, [some (vR 9 0 0), some (vI x1), some (vI x2), some (vI x3), some (vI x4), l5], [], σ3)) rfl h10).trans ?_
  exact e_n 2 rfl
set_option maxRecDepth 20000 in
theorem g66_0_6 (C : pmC) {σ : pmS} {x1 : Int32} {x2 : Int32} {x3 : Int32} {x4 : Int32} {l5 : Option pmV} {σ1 : pmS} {r1 : Int32} {σ2 : pmS} {r2 : Int32} {σ3 : pmS} {r3 : Int32} (h1 : C 88 [vR 9 0 0, vI x1] σ = some (some (vI r1), σ1)) (h2 : ¬ r1 = 0) (h3 : C 86 [vR 9 0 0, vI x3] σ1 = some (some (vI r2), σ2)) (h4 : ¬ r2 = 0) (h5 : ¬ x2 < (1 : Int32)) (h6 : ¬ (999 : Int32) < x2) (h7 : ¬ x4 = 0) (h8 : x4 = (1 : Int32)) (h9 : vp_in x1 3) (h10 : C 0 [vR 0 (x1).toNatClampNeg 0, vI x2, vI x3, vI x4] σ2 = some (some (vI r3), σ3)) (h11 : r3 = 0) : pm_Rn C (66, 0, [some (vR 9 0 0), some (vI x1), some (vI x2), some (vI x3), some (vI x4), l5], [], σ) = some (some (vI (-4 : Int32)), σ3) := by
  refine (e_n 2 (fr' := (66, 2, [some (vR 9 0 0), some (vI x1), some (vI x2), some (vI x3), some (vI x4), l5], [vI x1, vR 9 0 0], σ)) rfl).trans ?_
  refine (e_ci (m := 66) (pc := 5) (ls := [some (vR 9 0 0), some (vI x1), some (vI x2), some (vI x3), some (vI x4), l5]) (rest := []) rfl h1).trans ?_
  refine (e_f (B := (66, 8, [some (vR 9 0 0), some (vI x1), some (vI x2), some (vI x3), some (vI x4), l5], [], σ1)) rfl h2).trans ?_
  refine (e_n 2 (fr' := (66, 10, [some (vR 9 0 0), some (vI x1), some (vI x2), some (vI x3), some (vI x4), l5], [vI x3, vR 9 0 0], σ1)) rfl).trans ?_
  refine (e_ci (m := 66) (pc := 13) (ls := [some (vR 9 0 0), some (vI x1), some (vI x2), some (vI x3), some (vI x4), l5]) (rest := []) rfl h3).trans ?_
  refine (e_f (B := (66, 18, [some (vR 9 0 0), some (vI x1), some (vI x2), some (vI x3), some (vI x4), l5], [], σ2)) rfl h4).trans ?_
  refine (e_n 2 (fr' := (66, 20, [some (vR 9 0 0), some (vI x1), some (vI x2), some (vI x3), some (vI x4), l5], [vI (1 : Int32), vI x2], σ2)) rfl).trans ?_
  refine (e_f (B := (66, 23, [some (vR 9 0 0), some (vI x1), some (vI x2), some (vI x3), some (vI x4), l5], [], σ2)) rfl h5).trans ?_
  refine (e_n 2 (fr' := (66, 27, [some (vR 9 0 0), some (vI x1), some (vI x2), some (vI x3), some (vI x4), l5], [vI (999 : Int32), vI x2], σ2)) rfl).trans ?_
  refine (e_f (B := (66, 30, [some (vR 9 0 0), some (vI x1), some (vI x2), some (vI x3), some (vI x4), l5], [], σ2)) rfl h6).trans ?_
  refine (e_n 1 (fr' := (66, 32, [some (vR 9 0 0), some (vI x1), some (vI x2), some (vI x3), some (vI x4), l5], [vI x4], σ2)) rfl).trans ?_
  refine (e_f (B := (66, 35, [some (vR 9 0 0), some (vI x1), some (vI x2), some (vI x3), some (vI x4), l5], [], σ2)) rfl h7).trans ?_
  refine (e_n 2 (fr' := (66, 38, [some (vR 9 0 0), some (vI x1), some (vI x2), some (vI x3), some (vI x4), l5], [vI (1 : Int32), vI x4], σ2)) rfl).trans ?_
  refine (e_t (A := (66, 44, [some (vR 9 0 0), some (vI x1), some (vI x2), some (vI x3), some (vI x4), l5], [], σ2)) rfl h8).trans ?_
  refine (e_n 3 (fr' := (66, 49, [some (vR 9 0 0), some (vI x1), some (vI x2), some (vI x3), some (vI x4), l5], [vI x1, vR 9 0 3], σ2)) rfl).trans ?_
  refine (e_a (A := (66, 50, [some (vR 9 0 0), some (vI x1), some (vI x2), some (vI x3), some (vI x4), l5], [vR 0 (x1).toNatClampNeg 0], σ2)) rfl h9).trans ?_
  refine (e_n 3 (fr' := (66, 54, [some (vR 9 0 0), some (vI x1), some (vI x2), some (vI x3), some (vI x4), l5], [vI x4, vI x3, vI x2, vR 0 (x1).toNatClampNeg 0], σ2)) rfl).trans ?_
  refine (e_ci (m := 66) (pc := 57) (ls := [some (vR 9 0 0), some (vI x1), some (vI x2), some (vI x3), some (vI x4), l5]) (rest := []) rfl h10).trans ?_
  refine (e_t (A := (66, 60, [some (vR 9 0 0), some (vI x1), some (vI x2), some (vI x3), some (vI x4), l5], [], σ3)) rfl h11).trans ?_
  refine (e_n 1 (fr' := (66, 62, [some (vR 9 0 0), some (vI x1), some (vI x2), some (vI x3), some (vI x4), l5], [vI (-4 : Int32)], σ3)) rfl).trans ?_
  exact e_r rfl
set_option maxRecDepth 20000 in
theorem g66_0_7 (C : pmC) {σ : pmS} {x1 : Int32} {x2 : Int32} {x3 : Int32} {x4 : Int32} {l5 : Option pmV} {σ1 : pmS} {r1 : Int32} {σ2 : pmS} {r2 : Int32} {σ3 : pmS} {r3 : Int32} (h1 : C 88 [vR 9 0 0, vI x1] σ = some (some (vI r1), σ1)) (h2 : ¬ r1 = 0) (h3 : C 86 [vR 9 0 0, vI x3] σ1 = some (some (vI r2), σ2)) (h4 : ¬ r2 = 0) (h5 : ¬ x2 < (1 : Int32)) (h6 : ¬ (999 : Int32) < x2) (h7 : ¬ x4 = 0) (h8 : x4 = (1 : Int32)) (h9 : vp_in x1 3) (h10 : C 0 [vR 0 (x1).toNatClampNeg 0, vI x2, vI x3, vI x4] σ2 = some (some (vI r3), σ3)) (h11 : ¬ r3 = 0) : pm_Rn C (66, 0, [some (vR 9 0 0), some (vI x1), some (vI x2), some (vI x3), some (vI x4), l5], [], σ) = pm_Rn C (66, 66, [some (vR 9 0 0), some (vI x1), some (vI x2), some (vI x3), some (vI x4), some (vI (0 : Int32))], [], σ3) := by
  refine (e_n 2 (fr' := (66, 2, [some (vR 9 0 0), some (vI x1), some (vI x2), some (vI x3), some (vI x4), l5], [vI x1, vR 9 0 0], σ)) rfl).trans ?_
  refine (e_ci (m := 66) (pc := 5) (ls := [some (vR 9 0 0), some (vI x1), some (vI x2), some (vI x3), some (vI x4), l5]) (rest := []) rfl h1).trans ?_
  refine (e_f (B := (66, 8, [some (vR 9 0 0), some (vI x1), some (vI x2), some (vI x3), some (vI x4), l5], [], σ1)) rfl h2).trans ?_
  refine (e_n 2 (fr' := (66, 10, [some (vR 9 0 0), some (vI x1), some (vI x2), some (vI x3), some (vI x4), l5], [vI x3, vR 9 0 0], σ1)) rfl).trans ?_
  refine (e_ci (m := 66) (pc := 13) (ls := [some (vR 9 0 0), some (vI x1), some (vI x2), some (vI x3), some (vI x4), l5]) (rest := []) rfl h3).trans ?_
  refine (e_f (B := (66, 18, [some (vR 9 0 0), some (vI x1), some (vI x2), some (vI x3), some (vI x4), l5], [], σ2)) rfl h4).trans ?_
  refine (e_n 2 (fr' := (66, 20, [some (vR 9 0 0), some (vI x1), some (vI x2), some (vI x3), some (vI x4), l5], [vI (1 : Int32), vI x2], σ2)) rfl).trans ?_
  refine (e_f (B := (66, 23, [some (vR 9 0 0), some (vI x1), some (vI x2), some (vI x3), some (vI x4), l5], [], σ2)) rfl h5).trans ?_
  refine (e_n 2 (fr' := (66, 27, [some (vR 9 0 0), some (vI x1), some (vI x2), some (vI x3), some (vI x4), l5], [vI (999 : Int32), vI x2], σ2)) rfl).trans ?_
  refine (e_f (B := (66, 30, [some (vR 9 0 0), some (vI x1), some (vI x2), some (vI x3), some (vI x4), l5], [], σ2)) rfl h6).trans ?_
  refine (e_n 1 (fr' := (66, 32, [some (vR 9 0 0), some (vI x1), some (vI x2), some (vI x3), some (vI x4), l5], [vI x4], σ2)) rfl).trans ?_
  refine (e_f (B := (66, 35, [some (vR 9 0 0), some (vI x1), some (vI x2), some (vI x3), some (vI x4), l5], [], σ2)) rfl h7).trans ?_
  refine (e_n 2 (fr' := (66, 38, [some (vR 9 0 0), some (vI x1), some (vI x2), some (vI x3), some (vI x4), l5], [vI (1 : Int32), vI x4], σ2)) rfl).trans ?_
  refine (e_t (A := (66, 44, [some (vR 9 0 0), some (vI x1), some (vI x2), some (vI x3), some (vI x4), l5], [], σ2)) rfl h8).trans ?_
  refine (e_n 3 (fr' := (66, 49, [some (vR 9 0 0), some (vI x1), some (vI x2), some (vI x3), some (vI x4), l5], [vI x1, vR 9 0 3], σ2)) rfl).trans ?_
  refine (e_a (A := (66, 50, [some (vR 9 0 0), some (vI x1), some (vI x2), some (vI x3), some (vI x4), l5], [vR 0 (x1).toNatClampNeg 0], σ2)) rfl h9).trans ?_
  refine (e_n 3 (fr' := (66, 54, [some (vR 9 0 0), some (vI x1), some (vI x2), some (vI x3), some (vI x4), l5], [vI x4, vI x3, vI x2, vR 0 (x1).toNatClampNeg 0], σ2)) rfl).trans ?_
  refine (e_ci (m := 66) (pc := 57) (ls := [some (vR 9 0 0), some (vI x1), some (vI x2), some (vI x3), some (vI x4), l5]) (rest := []) rfl h10).trans ?_
  refine (e_f (B := (66, 63, [some (vR 9 0 0), some (vI x1), some (vI x2), some (vI x3), some (vI x4), l5], [], σ3)) rfl h11).trans ?_
  exact e_n 2 rfl
set_option maxRecDepth 20000 in
theorem g66_0_8 (C : pmC) {σ : pmS} {x1 : Int32} {x2 : Int32} {x3 : Int32} {x4 : Int32} {l5 : Option pmV} {σ1 : pmS} {r1 : Int32} {σ2 : pmS} {r2 : Int32} (h1 : C 88 [vR 9 0 0, vI x1] σ = some (some (vI r1), σ1)) (h2 : ¬ r1 = 0) (h3 : C 86 [vR 9 0 0, vI x3] σ1 = some (some (vI r2), σ2)) (h4 : ¬ r2 = 0) (h5 : ¬ x2 < (1 : Int32)) (h6 : ¬ (999 : Int32) < x2) (h7 : ¬ x4 = 0) (h8 : ¬ x4 = (1 : Int32)) : pm_Rn C (66, 0, [some (vR 9 0 0), some (vI x1), some (vI x2), some (vI x3), some (vI x4), l5], [], σ) = some (some (vI (-2 : Int32)), σ2) := by
  refine (e_n 2 (fr' := (66, 2, [some (vR 9 0 0), some (vI x1), some (vI x2), some (vI x3), some (vI x4), l5], [vI x1, vR 9 0 0], σ)) rfl).trans ?_
  refine (e_ci (m := 66) (pc := 5) (ls := [some (vR 9 0 0), some (vI x1), some (vI x2), some (vI x3), some (vI x4), l5]) (rest := []) rfl h1).trans ?_
  refine (e_f (B := (66, 8, [some (vR 9 0 0), some (vI x1), some (vI x2), some (vI x3), some (vI x4), l5], [], σ1)) rfl h2).trans ?_
  refine (e_n 2 (fr' := (66, 10, [some (vR 9 0 0), some (vI x1), some (vI x2), some (vI x3), some (vI x4), l5], [vI x3, vR 9 0 0], σ1)) rfl).trans ?_
  refine (e_ci (m := 66) (pc := 13) (ls := [some (vR 9 0 0), some (vI x1), some (vI x2), some (vI x3), some (vI x4), l5]) (rest := []) rfl h3).trans ?_
  refine (e_f (B := (66, 18, [some (vR 9 0 0), some (vI x1), some (vI x2), some (vI x3), some (vI x4), l5], [], σ2)) rfl h4).trans ?_
  refine (e_n 2 (fr' := (66, 20, [some (vR 9 0 0), some (vI x1), some (vI x2), some (vI x3), some (vI x4), l5], [vI (1 : Int32), vI x2], σ2)) rfl).trans ?_
  refine (e_f (B := (66, 23, [some (vR 9 0 0), some (vI x1), some (vI x2), some (vI x3), some (vI x4), l5], [], σ2)) rfl h5).trans ?_
  refine (e_n 2 (fr' := (66, 27, [some (vR 9 0 0), some (vI x1), some (vI x2), some (vI x3), some (vI x4), l5], [vI (999 : Int32), vI x2], σ2)) rfl).trans ?_
  refine (e_f (B := (66, 30, [some (vR 9 0 0), some (vI x1), some (vI x2), some (vI x3), some (vI x4), l5], [], σ2)) rfl h6).trans ?_
  refine (e_n 1 (fr' := (66, 32, [some (vR 9 0 0), some (vI x1), some (vI x2), some (vI x3), some (vI x4), l5], [vI x4], σ2)) rfl).trans ?_
  refine (e_f (B := (66, 35, [some (vR 9 0 0), some (vI x1), some (vI x2), some (vI x3), some (vI x4), l5], [], σ2)) rfl h7).trans ?_
  refine (e_n 2 (fr' := (66, 38, [some (vR 9 0 0), some (vI x1), some (vI x2), some (vI x3), some (vI x4), l5], [vI (1 : Int32), vI x4], σ2)) rfl).trans ?_
  refine (e_f (B := (66, 41, [some (vR 9 0 0), some (vI x1), some (vI x2), some (vI x3), some (vI x4), l5], [], σ2)) rfl h8).trans ?_
  refine (e_n 1 (fr' := (66, 43, [some (vR 9 0 0), some (vI x1), some (vI x2), some (vI x3), some (vI x4), l5], [vI (-2 : Int32)], σ2)) rfl).trans ?_
  exact e_r rfl
set_option maxRecDepth 20000 in
theorem g66_66_0 (C : pmC) {σ : pmS} {x1 : Int32} {l2 : Option pmV} {l3 : Option pmV} {l4 : Option pmV} {x5 : Int32} (h1 : (σ.1 5 0 9 0) ≤ x5) (h2 : vp_in x1 3) : pm_Rn C (66, 66, [some (vR 9 0 0), some (vI x1), l2, l3, l4, some (vI x5)], [], σ) = some (some (vI (σ.1 0 (x1).toNatClampNeg 3 0)), σ) := by
  refine (e_n 4 (fr' := (66, 75, [some (vR 9 0 0), some (vI x1), l2, l3, l4, some (vI x5)], [vI (σ.1 5 0 9 0), vI x5], σ)) rfl).trans ?_
  refine (e_t (A := (66, 90, [some (vR 9 0 0), some (vI x1), l2, l3, l4, some (vI x5)], [], σ)) rfl h1).trans ?_
  refine (e_n 3 (fr' := (66, 95, [some (vR 9 0 0), some (vI x1), l2, l3, l4, some (vI x5)], [vI x1, vR 9 0 3], σ)) rfl).trans ?_
  refine (e_a (A := (66, 96, [some (vR 9 0 0), some (vI x1), l2, l3, l4, some (vI x5)], [vR 0 (x1).toNatClampNeg 0], σ)) rfl h2).trans ?_
  refine (e_n 1 (fr' := (66, 99, [some (vR 9 0 0), some (vI x1), l2, l3, l4, some (vI x5)], [vI (σ.1 0 (x1).toNatClampNeg 3 0)], σ)) rfl).trans ?_
  exact e_r rfl
set_option maxRecDepth 20000 in
theorem g66_66_1 (C : pmC) {σ : pmS} {x1 : Int32} {l2 : Option pmV} {l3 : Option pmV} {l4 : Option pmV} {x5 : Int32} {σ1 : pmS} (h1 : ¬ (σ.1 5 0 9 0) ≤ x5) (h2 : C 95 [vR 9 0 0, vI x5] σ = some (none, σ1)) : pm_Rn C (66, 66, [some (vR 9 0 0), some (vI x1), l2, l3, l4, some (vI x5)], [], σ) = pm_Rn C (66, 66, [some (vR 9 0 0), some (vI x1), l2, l3, l4, some (vI (x5 + (1 : Int32)))], [], σ1) := by
  refine (e_n 4 (fr' := (66, 75, [some (vR 9 0 0), some (vI x1), l2, l3, l4, some (vI x5)], [vI (σ.1 5 0 9 0), vI x5], σ)) rfl).trans ?_
  refine (e_f (B := (66, 78, [some (vR 9 0 0), some (vI x1), l2, l3, l4, some (vI x5)], [], σ)) rfl h1).trans ?_
  refine (e_n 2 (fr' := (66, 81, [some (vR 9 0 0), some (vI x1), l2, l3, l4, some (vI x5)], [vI x5, vR 9 0 0], σ)) rfl).trans ?_
  refine (e_cv (m := 66) (pc := 84) (ls := [some (vR 9 0 0), some (vI x1), l2, l3, l4, some (vI x5)]) (rest := []) rfl h2).trans ?_
  exact e_n 2 rfl
set_option maxRecDepth 20000 in
theorem g67_0_0 (C : pmC) {σ : pmS} {x1 : Int32} {x2 : Int32} {x3 : Int32} {x4 : Int32} {l5 : Option pmV} {σ1 : pmS} {r1 : Int32} (h1 : C 88 [vR 9 0 0, vI x3] σ = some (some (vI r1), σ1)) (h2 : r1 = 0) : pm_Rn C (67, 0, [some (vR 9 0 0), some (vI x1), some (vI x2), some (vI x3), some (vI x4), l5], [], σ) = some (some (vI (-1 : Int32)), σ1) := by
  refine (e_n 2 (fr' := (67, 2, [some (vR 9 0 0), some (vI x1), some (vI x2), some (vI x3), some (vI x4), l5], [vI x3, vR 9 0 0], σ)) rfl).trans ?_
  refine (e_ci (m := 67) (pc := 5) (ls := [some (vR 9 0 0), some (vI x1), some (vI x2), some (vI x3), some (vI x4), l5]) (rest := []) rfl h1).trans ?_
  refine (e_t (A := (67, 15, [some (vR 9 0 0), some (vI x1), some (vI x2), some (vI x3), some (vI x4), l5], [], σ1)) rfl h2).trans ?_
  refine (e_n 1 (fr' := (67, 16, [some (vR 9 0 0), some (vI x1), some (vI x2), some (vI x3), some (vI x4), l5], [vI (-1 : Int32)], σ1)) rfl).trans ?_
  exact e_r rfl
set_option maxRecDepth 20000 in
theorem g67_0_1 (C : pmC) {σ : pmS} {x1 : Int32} {x2 : Int32} {x3 : Int32} {x4 : Int32} {l5 : Option pmV} {σ1 : pmS} {r1 : Int32} {σ2 : pmS} {r2 : Int32} (h1 : C 88 [vR 9 0 0, vI x3] σ = some (some (vI r1), σ1)) (h2 : ¬ r1 = 0) (h3 : C 89 [vI x1] σ1 = some (some (vI r2), σ2)) (h4 : r2 = 0) : pm_Rn C (67, 0, [some (vR 9 0 0), some (vI x1), some (vI x2), some (vI x3), some (vI x4), l5], [], σ) = some (some (vI (-1 : Int32)), σ2) := by
  refine (e_n 2 (fr' := (67, 2, [some (vR 9 0 0), some (vI x1), some (vI x2), some (vI x3), some (vI x4), l5], [vI x3, vR 9 0 0], σ)) rfl).trans ?_
  refine (e_ci (m := 67) (pc := 5) (ls := [some (vR 9 0 0), some (vI x1), some (vI x2), some (vI x3), some (vI x4), l5]) (rest := []) rfl h1).trans ?_
  refine (e_f (B := (67, 8, [some (vR 9 0 0), some (vI x1), some (vI x2), some (vI x3), some (vI x4), l5], [], σ1)) rfl h2).trans ?_
  refine (e_n 1 (fr' := (67, 9, [some (vR 9 0 0), some (vI x1), some (vI x2), some (vI x3), some (vI x4), l5], [vI x1], σ1)) rfl).trans ?_
  refine (e_ci (m := 67) (pc := 12) (ls := [some (vR 9 0 0), some (vI x1), some (vI x2), some (vI x3), some (vI x4), l5]) (rest := []) rfl h3).trans ?_
  refine (e_t (A := (67, 15, [some (vR 9 0 0), some (vI x1), some (vI x2), some (vI x3), some (vI x4), l5], [], σ2)) rfl h4).trans ?_
  refine (e_n 1 (fr' := (67, 16, [some (vR 9 0 0), some (vI x1), some (vI x2), some (vI x3), some (vI x4), l5], [vI (-1 : Int32)], σ2)) rfl).trans ?_
  exact e_r rfl
set_option maxRecDepth 20000 in
theorem g67_0_2 (C : pmC) {σ : pmS} {x1 : Int32} {x2 : Int32} {x3 : Int32} {x4 : Int32} {l5 : Option pmV} {σ1 : pmS} {r1 : Int32} {σ2 : pmS} {r2 : Int32} {σ3 : pmS} {r3 : Int32} (h1 : C 88 [vR 9 0 0, vI x3] σ = some (some (vI r1), σ1)) (h2 : ¬ r1 = 0) (h3 : C 89 [vI x1] σ1 = some (some (vI r2), σ2)) (h4 : ¬ r2 = 0) (h5 : x4 = (-1 : Int32)) (h6 : C 90 [vI x2] σ2 = some (some (vI r3), σ3)) (h7 : r3 = 0) : pm_Rn C (67, 0, [some (vR 9 0 0), some (vI x1), some (vI x2), some (vI x3), some (vI x4), l5], [], σ) = some (some (vI (-2 : Int32)), σ3) := by
  refine (e_n 2 (fr' := (67, 2, [some (vR 9 0 0), some (vI x1), some (vI x2), some (vI x3), some (vI x4), l5], [vI x3, vR 9 0 0], σ)) rfl).trans ?_
  refine (e_ci (m := 67) (pc := 5) (ls := [some (vR 9 0 0), some (vI x1), some (vI x2), some (vI x3), some (vI x4), l5]) (rest := []) rfl h1).trans ?_
  refine (e_f (B := (67, 8, [some (vR 9 0 0), some (vI x1), some (vI x2), some (vI x3), some (vI x4), l5], [], σ1)) rfl h2).trans ?_
  refine (e_n 1 (fr' := (67, 9, [some (vR 9 0 0), some (vI x1), some (vI x2), some (vI x3), some (vI x4), l5], [vI x1], σ1)) rfl).trans ?_
  refine (e_ci (m := 67) (pc := 12) (ls := [some (vR 9 0 0), some (vI x1), some (vI x2), some (vI x3), some (vI x4), l5]) (rest := []) rfl h3).trans ?_
  refine (e_f (B := (67, 17, [some (vR 9 0 0), some (vI x1), some (vI x2), some (vI x3), some (vI x4), l5], [], σ2)) rfl h4).trans ?_
  refine (e_n 2 (fr' := (67, 20, [some (vR 9 0 0), some (vI x1), some (vI x2), some (vI x3), some (vI x4), l5], [vI (-1 : Int32), vI x4], σ2)) rfl).trans ?_
  refine (e_t (A := (67, 40, [some (vR 9 0 0), some (vI x1), some (vI x2), some (vI x3), some (vI x4), l5], [], σ2)) rfl h5).trans ?_
  refine (e_n 1 (fr' := (67, 41, [some (vR 9 0 0), some (vI x1), some (vI x2), some (vI x3), some (vI x4), l5], [vI x2], σ2)) rfl).trans ?_
  refine (e_ci (m := 67) (pc := 44) (ls := [some (vR 9 0 0), some (vI x1), some (vI x2), some (vI x3), some (vI x4), l5]) (rest := []) rfl h6).trans ?_
  refine (e_t (A := (67, 47, [some (vR 9 0 0), some (vI x1), some (vI x2), some (vI x3), some (vI x4), l5], [], σ3)) rfl h7).trans ?_
  refine (e_n 1 (fr' := (67, 49, [some (vR 9 0 0), some (vI x1), some (vI x2), some (vI x3), some (vI x4), l5], [vI (-2 : Int32)], σ3)) rfl).trans ?_
  exact e_r rfl
set_option maxRecDepth 20000 in
theorem g67_0_3 (C : pmC) {σ : pmS} {x1 : Int32} {x2 : Int32} {x3 : Int32} {x4 : Int32} {l5 : Option pmV} {σ1 : pmS} {r1 : Int32} {σ2 : pmS} {r2 : Int32} {σ3 : pmS} {r3 : Int32} {σ4 : pmS} {r4 : Int32} {σ5 : pmS} (h1 : C 88 [vR 9 0 0, vI x3] σ = some (some (vI r1), σ1)) (h2 : ¬ r1 = 0) (h3 : C 89 [vI x1] σ1 = some (some (vI r2), σ2)) (h4 : ¬ r2 = 0) (h5 : x4 = (-1 : Int32)) (h6 : C 90 [vI x2] σ2 = some (some (vI r3), σ3)) (h7 : ¬ r3 = 0) (h8 : (σ3.1 5 0 9 0) < (48 : Int32)) (h9 : C 31 [vR 5 0 0, vI x1, vI x2, vI x3] σ3 = some (some (vI r4), σ4)) (h10 : vp_in r4 48) (h11 : C 95 [vR 9 0 0, vI r4] (pm_wi σ4 5 0 6 (r4).toNatClampNeg x4) = some (none, σ5)) : pm_Rn C (67, 0, [some (vR 9 0 0), some (vI x1), some (vI x2), some (vI x3), some (vI x4), l5], [], σ) = some (some (vI r4), σ5) := by
  refine (e_n 2 (fr' := (67, 2, [some (vR 9 0 0), some (vI x1), some (vI x2), some (vI x3), some (vI x4), l5], [vI x3, vR 9 0 0], σ)) rfl).trans ?_
  refine (e_ci (m := 67) (pc := 5) (ls := [some (vR 9 0 0), some (vI x1), some (vI x2), some (vI x3), some (vI x4), l5]) (rest := []) rfl h1).trans ?_
  refine (e_f (B := (67, 8, [some (vR 9 0 0), some (vI x1), some (vI x2), some (vI x3), some (vI x4), l5], [], σ1)) rfl h2).trans ?_
  refine (e_n 1 (fr' := (67, 9, [some (vR 9 0 0), some (vI x1), some (vI x2), some (vI x3), some (vI x4), l5], [vI x1], σ1)) rfl).trans ?_
  refine (e_ci (m := 67) (pc := 12) (ls := [some (vR 9 0 0), some (vI x1), some (vI x2), some (vI x3), some (vI x4), l5]) (rest := []) rfl h3).trans ?_
  refine (e_f (B := (67, 17, [some (vR 9 0 0), some (vI x1), some (vI x2), some (vI x3), some (vI x4), l5], [], σ2)) rfl h4).trans ?_
  refine (e_n 2 (fr' := (67, 20, [some (vR 9 0 0), some (vI x1), some (vI x2), some (vI x3), some (vI x4), l5], [vI (-1 : Int32), vI x4], σ2)) rfl).trans ?_
  refine (e_t (A := (67, 40, [some (vR 9 0 0), some (vI x1), some (vI x2), some (vI x3), some (vI x4), l5], [], σ2)) rfl h5).trans ?_
  refine (e_n 1 (fr' := (67, 41, [some (vR 9 0 0), some (vI x1), some (vI x2), some (vI x3), some (vI x4), l5], [vI x2], σ2)) rfl).trans ?_
  refine (e_ci (m := 67) (pc := 44) (ls := [some (vR 9 0 0), some (vI x1), some (vI x2), some (vI x3), some (vI x4), l5]) (rest := []) rfl h6).trans ?_
  refine (e_f (B := (67, 50, [some (vR 9 0 0), some (vI x1), some (vI x2), some (vI x3), some (vI x4), l5], [], σ3)) rfl h7).trans ?_
  refine (e_n 4 (fr' := (67, 59, [some (vR 9 0 0), some (vI x1), some (vI x2), some (vI x3), some (vI x4), l5], [vI (48 : Int32), vI (σ3.1 5 0 9 0)], σ3)) rfl).trans ?_
  refine (e_t (A := (67, 65, [some (vR 9 0 0), some (vI x1), some (vI x2), some (vI x3), some (vI x4), l5], [], σ3)) rfl h8).trans ?_
  refine (e_n 5 (fr' := (67, 72, [some (vR 9 0 0), some (vI x1), some (vI x2), some (vI x3), some (vI x4), l5], [vI x3, vI x2, vI x1, vR 5 0 0], σ3)) rfl).trans ?_
  refine (e_ci (m := 67) (pc := 75) (ls := [some (vR 9 0 0), some (vI x1), some (vI x2), some (vI x3), some (vI x4), l5]) (rest := []) rfl h9).trans ?_
  refine (e_n 6 (fr' := (67, 88, [some (vR 9 0 0), some (vI x1), some (vI x2), some (vI x3), some (vI x4), some (vI r4)], [vI x4, vI r4, vR 5 0 7], σ4)) rfl).trans ?_
  refine (e_a (A := (67, 89, [some (vR 9 0 0), some (vI x1), some (vI x2), some (vI x3), some (vI x4), some (vI r4)], [], (pm_wi σ4 5 0 6 (r4).toNatClampNeg x4))) rfl h10).trans ?_
  refine (e_n 2 (fr' := (67, 92, [some (vR 9 0 0), some (vI x1), some (vI x2), some (vI x3), some (vI x4), some (vI r4)], [vI r4, vR 9 0 0], (pm_wi σ4 5 0 6 (r4).toNatClampNeg x4))) rfl).trans ?_
  refine (e_cv (m := 67) (pc := 95) (ls := [some (vR 9 0 0), some (vI x1), some (vI x2), some (vI x3), some (vI x4), some (vI r4)]) (rest := []) rfl h11).trans ?_
  refine (e_n 1 (fr' := (67, 97, [some (vR 9 0 0), some (vI x1), some (vI x2), some (vI x3), some (vI x4), some (vI r4)], [vI r4], σ5)) rfl).trans ?_
  exact e_r rfl
set_option maxRecDepth 20000 in
theorem g67_0_4 (C : pmC) {σ : pmS} {x1 : Int32} {x2 : Int32} {x3 : Int32} {x4 : Int32} {l5 : Option pmV} {σ1 : pmS} {r1 : Int32} {σ2 : pmS} {r2 : Int32} {σ3 : pmS} {r3 : Int32} (h1 : C 88 [vR 9 0 0, vI x3] σ = some (some (vI r1), σ1)) (h2 : ¬ r1 = 0) (h3 : C 89 [vI x1] σ1 = some (some (vI r2), σ2)) (h4 : ¬ r2 = 0) (h5 : x4 = (-1 : Int32)) (h6 : C 90 [vI x2] σ2 = some (some (vI r3), σ3)) (h7 : ¬ r3 = 0) (h8 : ¬ (σ3.1 5 0 9 0) < (48 : Int32)) : pm_Rn C (67, 0, [some (vR 9 0 0), some (vI x1), some (vI x2), some (vI x3), some (vI x4), l5], [], σ) = some (some (vI (-4 : Int32)), σ3) := by
  refine (e_n 2 (fr' := (67, 2, [some (vR 9 0 0), some (vI x1), some (vI x2), some (vI x3), some (vI x4), l5], [vI x3, vR 9 0 0], σ)) rfl).trans ?_
  refine (e_ci (m := 67) (pc := 5) (ls := [some (vR 9 0 0), some (vI x1), some (vI x2), some (vI x3), some (vI x4), l5]) (rest := []) rfl h1).trans ?_
  refine (e_f (B := (67, 8, [some (vR 9 0 0), some (vI x1), some (vI x2), some (vI x3), some (vI x4), l5], [], σ1)) rfl h2).trans ?_
  refine (e_n 1 (fr' := (67, 9, [some (vR 9 0 0), some (vI x1), some (vI x2), some (vI x3), some (vI x4), l5], [vI x1], σ1)) rfl).trans ?_
  refine (e_ci (m := 67) (pc := 12) (ls := [some (vR 9 0 0), some (vI x1), some (vI x2), some (vI x3), some (vI x4), l5]) (rest := []) rfl h3).trans ?_
  refine (e_f (B := (67, 17, [some (vR 9 0 0), some (vI x1), some (vI x2), some (vI x3), some (vI x4), l5], [], σ2)) rfl h4).trans ?_
  refine (e_n 2 (fr' := (67, 20, [some (vR 9 0 0), some (vI x1), some (vI x2), some (vI x3), some (vI x4), l5], [vI (-1 : Int32), vI x4], σ2)) rfl).trans ?_
  refine (e_t (A := (67, 40, [some (vR 9 0 0), some (vI x1), some (vI x2), some (vI x3), some (vI x4), l5], [], σ2)) rfl h5).trans ?_
  refine (e_n 1 (fr' := (67, 41, [some (vR 9 0 0), some (vI x1), some (vI x2), some (vI x3), some (vI x4), l5], [vI x2], σ2)) rfl).trans ?_
  refine (e_ci (m := 67) (pc := 44) (ls := [some (vR 9 0 0), some (vI x1), some (vI x2), some (vI x3), some (vI x4), l5]) (rest := []) rfl h6).trans ?_
  refine (e_f (B := (67, 50, [some (vR 9 0 0), some (vI x1), some (vI x2), some (vI x3), some (vI x4), l5], [], σ3)) rfl h7).trans ?_
  refine (e_n 4 (fr' := (67, 59, [some (vR 9 0 0), some (vI x1), some (vI x2), some (vI x3), some (vI x4), l5], [vI (48 : Int32), vI (σ3.1 5 0 9 0)], σ3)) rfl).trans ?_
  refine (e_f (B := (67, 62, [some (vR 9 0 0), some (vI x1), some (vI x2), some (vI x3), some (vI x4), l5], [], σ3)) rfl h8).trans ?_
  refine (e_n 1 (fr' := (67, 64, [some (vR 9 0 0), some (vI x1), some (vI x2), some (vI x3), some (vI x4), l5], [vI (-4 : Int32)], σ3)) rfl).trans ?_
  exact e_r rfl
set_option maxRecDepth 20000 in
theorem g67_0_5 (C : pmC) {σ : pmS} {x1 : Int32} {x2 : Int32} {x3 : Int32} {x4 : Int32} {l5 : Option pmV} {σ1 : pmS} {r1 : Int32} {σ2 : pmS} {r2 : Int32} {σ3 : pmS} {r3 : Int32} {σ4 : pmS} {r4 : Int32} (h1 : C 88 [vR 9 0 0, vI x3] σ = some (some (vI r1), σ1)) (h2 : ¬ r1 = 0) (h3 : C 89 [vI x1] σ1 = some (some (vI r2), σ2)) (h4 : ¬ r2 = 0) (h5 : ¬ x4 = (-1 : Int32)) (h6 : C 92 [vR 9 0 0, vI x3, vI x2] σ2 = some (some (vI r3), σ3)) (h7 : C 87 [vR 9 0 0, vI r3, vI x4] σ3 = some (some (vI r4), σ4)) (h8 : r4 = 0) : pm_Rn C (67, 0, [some (vR 9 0 0), some (vI x1), some (vI x2), some (vI x3), some (vI x4), l5], [], σ) = some (some (vI (-1 : Int32)), σ4) := by
  refine (e_n 2 (fr' := (67, 2, [some (vR 9 0 0), some (vI x1), some (vI x2), some (vI x3), some (vI x4), l5], [vI x3, vR 9 0 0], σ)) rfl).trans ?_
  refine (e_ci (m := 67) (pc := 5) (ls := [some (vR 9 0 0), some (vI x1), some (vI x2), some (vI x3), some (vI x4), l5]) (rest := []) rfl h1).trans ?_
  refine (e_f (B := (67, 8, [some (vR 9 0 0), some (vI x1), some (vI x2), some (vI x3), some (vI x4), l5], [], σ1)) rfl h2).trans ?_
  refine (e_n 1 (fr' := (67, 9, [some (vR 9 0 0), some (vI x1), some (vI x2), some (vI x3), some (vI x4), l5], [vI x1], σ1)) rfl).trans ?_
  refine (e_ci (m := 67) (pc := 12) (ls := [some (vR 9 0 0), some (vI x1), some (vI x2), some (vI x3), some (vI x4), l5]) (rest := []) rfl h3).trans ?_
  refine (e_f (B := (67, 17, [some (vR 9 0 0), some (vI x1), some (vI x2), some (vI x3), some (vI x4), l5], [], σ2)) rfl h4).trans ?_
  refine (e_n 2 (fr' := (67, 20, [some (vR 9 0 0), some (vI x1), some (vI x2), some (vI x3), some (vI x4), l5], [vI (-1 : Int32), vI x4], σ2)) rfl).trans ?_
  refine (e_f (B := (67, 23, [some (vR 9 0 0), some (vI x1), some (vI x2), some (vI x3), some (vI x4), l5], [], σ2)) rfl h5).trans ?_
  refine (e_n 4 (fr' := (67, 27, [some (vR 9 0 0), some (vI x1), some (vI x2), some (vI x3), some (vI x4), l5], [vI x2, vI x3, vR 9 0 0, vR 9 0 0], σ2)) rfl).trans ?_
  refine (e_ci (m := 67) (pc := 30) (ls := [some (vR 9 0 0), some (vI x1), some (vI x2), some (vI x3), some (vI x4), l5]) (rest := [vR 9 0 0]) rfl h6).trans ?_
  refine (e_n 1 (fr' := (67, 32, [some (vR 9 0 0), some (vI x1), some (vI x2), some (vI x3), some (vI x4), l5], [vI x4, vI r3, vR 9 0 0], σ3)) rfl).trans ?_
  refine (e_ci (m := 67) (pc := 35) (ls := [some (vR 9 0 0), some (vI x1), some (vI x2), some (vI x3), some (vI x4), l5]) (rest := []) rfl h7).trans ?_
  refine (e_t (A := (67, 38, [some (vR 9 0 0), some (vI x1), some (vI x2), some (vI x3), some (vI x4), l5], [], σ4)) rfl h8).trans ?_
  refine (e_n 1 (fr' := (67, 39, [some (vR 9 0 0), some (vI x1), some (vI x2), some (vI x3), some (vI x4), l5], [vI (-1 : Int32)], σ4)) rfl).trans ?_
  exact e_r rfl
set_option maxRecDepth 20000 in
theorem g67_0_6 (C : pmC) {σ : pmS} {x1 : Int32} {x2 : Int32} {x3 : Int32} {x4 : Int32} {l5 : Option pmV} {σ1 : pmS} {r1 : Int32} {σ2 : pmS} {r2 : Int32} {σ3 : pmS} {r3 : Int32} {σ4 : pmS} {r4 : Int32} {σ5 : pmS} {r5 : Int32} (h1 : C 88 [vR 9 0 0, vI x3] σ = some (some (vI r1), σ1)) (h2 : ¬ r1 = 0) (h3 : C 89 [vI x1] σ1 = some (some (vI r2), σ2)) (h4 : ¬ r2 = 0) (h5 : ¬ x4 = (-1 : Int32)) (h6 : C 92 [vR 9 0 0, vI x3, vI x2] σ2 = some (some (vI r3), σ3)) (h7 : C 87 [vR 9 0 0, vI r3, vI x4] σ3 = some (some (vI r4), σ4)) (h8 : ¬ r4 = 0) (h9 : C 90 [vI x2] σ4 = some (some (vI r5), σ5)) (h10 : r5 = 0) : pm_Rn C (67, 0, [some (vR 9 0 0), some (vI x1), some (vI x2), some (vI x3), some (vI x4), l5], [], σ) = some (some (vI (-2 : Int32)), σ5) := by
  refine (e_n 2 (fr' := (67, 2, [some (vR 9 0 0), some (vI x1), some (vI x2), some (vI x3), some (vI x4), l5], [vI x3, vR 9 0 0], σ)) rfl).trans ?_
  refine (e_ci (m := 67) (pc := 5) (ls := [some (vR 9 0 0), some (vI x1), some (vI x2), some (vI x3), some (vI x4), l5]) (rest := []) rfl h1).trans ?_
  refine (e_f (B := (67, 8, [some (vR 9 0 0), some (vI x1), some (vI x2), some (vI x3), some (vI x4), l5], [], σ1)) rfl h2).trans ?_
  refine (e_n 1 (fr' := (67, 9, [some (vR 9 0 0), some (vI x1), some (vI x2), some (vI x3), some (vI x4), l5], [vI x1], σ1)) rfl).trans ?_
  refine (e_ci (m := 67) (pc := 12) (ls := [some (vR 9 0 0), some (vI x1), some (vI x2), some (vI x3), some (vI x4), l5]) (rest := []) rfl h3).trans ?_
  refine (e_f (B := (67, 17, [some (vR 9 0 0), some (vI x1), some (vI x2), some (vI x3), some (vI x4), l5], [], σ2)) rfl h4).trans ?_
  refine (e_n 2 (fr' := (67, 20, [some (vR 9 0 0), some (vI x1), some (vI x2), some (vI x3), some (vI x4), l5], [vI (-1 : Int32), vI x4], σ2)) rfl).trans ?_
  refine (e_f (B := (67, 23, [some (vR 9 0 0), some (vI x1), some (vI x2), some (vI x3), some (vI x4), l5], [], σ2)) rfl h5).trans ?_
  refine (e_n 4 (fr' := (67, 27, [some (vR 9 0 0), some (vI x1), some (vI x2), some (vI x3), some (vI x4), l5], [vI x2, vI x3, vR 9 0 0, vR 9 0 0], σ2)) rfl).trans ?_
  refine (e_ci (m := 67) (pc := 30) (ls := [some (vR 9 0 0), some (vI x1), some (vI x2), some (vI x3), some (vI x4), l5]) (rest := [vR 9 0 0]) rfl h6).trans ?_
  refine (e_n 1 (fr' := (67, 32, [some (vR 9 0 0), some (vI x1), some (vI x2), some (vI x3), some (vI x4), l5], [vI x4, vI r3, vR 9 0 0], σ3)) rfl).trans ?_
  refine (e_ci (m := 67) (pc := 35) (ls := [some (vR 9 0 0), some (vI x1), some (vI x2), some (vI x3), some (vI x4), l5]) (rest := []) rfl h7).trans ?_
  refine (e_f (B := (67, 40, [some (vR 9 0 0), some (vI x1), some (vI x2), some (vI x3), some (vI x4), l5], [], σ4)) rfl h8).trans ?_
  refine (e_n 1 (fr' := (67, 41, [some (vR 9 0 0), some (vI x1), some (vI x2), some (vI x3), some (vI x4), l5], [vI x2], σ4)) rfl).trans ?_
  refine (e_ci (m := 67) (pc := 44) (ls := [some (vR 9 0 0), some (vI x1), some (vI x2), some (vI x3), some (vI x4), l5]) (rest := []) rfl h9).trans ?_
  refine (e_t (A := (67, 47, [some (vR 9 0 0), some (vI x1), some (vI x2), some (vI x3), some (vI x4), l5], [], σ5)) rfl h10).trans ?_
  refine (e_n 1 (fr' := (67, 49, [some (vR 9 0 0), some (vI x1), some (vI x2), some (vI x3), some (vI x4), l5], [vI (-2 : Int32)], σ5)) rfl).trans ?_
  exact e_r rfl
set_option maxRecDepth 20000 in
theorem g67_0_7 (C : pmC) {σ : pmS} {x1 : Int32} {x2 : Int32} {x3 : Int32} {x4 : Int32} {l5 : Option pmV} {σ1 : pmS} {r1 : Int32} {σ2 : pmS} {r2 : Int32} {σ3 : pmS} {r3 : Int32} {σ4 : pmS} {r4 : Int32} {σ5 : pmS} {r5 : Int32} {σ6 : pmS} {r6 : Int32} {σ7 : pmS} (h1 : C 88 [vR 9 0 0, vI x3] σ = some (some (vI r1), σ1)) (h2 : ¬ r1 = 0) (h3 : C 89 [vI x1] σ1 = some (some (vI r2), σ2)) (h4 : ¬ r2 = 0) (h5 : ¬ x4 = (-1 : Int32)) (h6 : C 92 [vR 9 0 0, vI x3, vI x2] σ2 = some (some (vI r3), σ3)) (h7 : C 87 [vR 9 0 0, vI r3, vI x4] σ3 = some (some (vI r4), σ4)) (h8 : ¬ r4 = 0) (h9 : C 90 [vI x2] σ4 = some (some (vI r5), σ5)) (h10 : ¬ r5 = 0) (h11 : (σ5.1 5 0 9 0) < (48 : Int32)) (h12 : C 31 [vR 5 0 0, vI x1, vI x2, vI x3] σ5 = some (some (vI r6), σ6)) (h13 : vp_in r6 48) (h14 : C 95 [vR 9 0 0, vI r6] (pm_wi σ6 5 0 6 (r6).toNatClampNeg x4) = some (none, σ7)) : pm_Rn C (67, 0, [some (vR 9 0 0), some (vI x1), some (vI x2), some (vI x3), some (vI x4), l5], [], σ) = some (some (vI r6), σ7) := by
  refine (e_n 2 (fr' := (67, 2, [some (vR 9 0 0), some (vI x1), some (vI x2), some (vI x3), some (vI x4), l5], [vI x3, vR 9 0 0], σ)) rfl).trans ?_
  refine (e_ci (m := 67) (pc := 5) (ls := [some (vR 9 0 0), some (vI x1), some (vI x2), some (vI x3), some (vI x4), l5]) (rest := []) rfl h1).trans ?_
  refine (e_f (B := (67, 8, [some (vR 9 0 0), some (vI x1), some (vI x2), some (vI x3), some (vI x4), l5], [], σ1)) rfl h2).trans ?_
  refine (e_n 1 (fr' := (67, 9, [some (vR 9 0 0), some (vI x1), some (vI x2), some (vI x3), some (vI x4), l5], [vI x1], σ1)) rfl).trans ?_
  refine (e_ci (m := 67) (pc := 12) (ls := [some (vR 9 0 0), some (vI x1), some (vI x2), some (vI x3), some (vI x4), l5]) (rest := []) rfl h3).trans ?_
  refine (e_f (B := (67, 17, [some (vR 9 0 0), some (vI x1), some (vI x2), some (vI x3), some (vI x4), l5], [], σ2)) rfl h4).trans ?_
  refine (e_n 2 (fr' := (67, 20, [some (vR 9 0 0), some (vI x1), some (vI x2), some (vI x3), some (vI x4), l5], [vI (-1 : Int32), vI x4], σ2)) rfl).trans ?_
  refine (e_f (B := (67, 23, [some (vR 9 0 0), some (vI x1), some (vI x2), some (vI x3), some (vI x4), l5], [], σ2)) rfl h5).trans ?_
  refine (e_n 4 (fr' := (67, 27, [some (vR 9 0 0), some (vI x1), some (vI x2), some (vI x3), some (vI x4), l5], [vI x2, vI x3, vR 9 0 0, vR 9 0 0], σ2)) rfl).trans ?_
  refine (e_ci (m := 67) (pc := 30) (ls := [some (vR 9 0 0), some (vI x1), some (vI x2), some (vI x3), some (vI x4), l5]) (rest := [vR 9 0 0]) rfl h6).trans ?_
  refine (e_n 1 (fr' := (67, 32, [some (vR 9 0 0), some (vI x1), some (vI x2), some (vI x3), some (vI x4), l5], [vI x4, vI r3, vR 9 0 0], σ3)) rfl).trans ?_
  refine (e_ci (m := 67) (pc := 35) (ls := [some (vR 9 0 0), some (vI x1), some (vI x2), some (vI x3), some (vI x4), l5]) (rest := []) rfl h7).trans ?_
  refine (e_f (B := (67, 40, [some (vR 9 0 0), some (vI x1), some (vI x2), some (vI x3), some (vI x4), l5], [], σ4)) rfl h8).trans ?_
  refine (e_n 1 (fr' := (67, 41, [some (vR 9 0 0), some (vI x1), some (vI x2), some (vI x3), some (vI x4), l5], [vI x2], σ4)) rfl).trans ?_
  refine (e_ci (m := 67) (pc := 44) (ls := [some (vR 9 0 0), some (vI x1), some (vI x2), some (vI x3), some (vI x4), l5]) (rest := []) rfl h9).trans ?_
  refine (e_f (B := (67, 50, [some (vR 9 0 0), some (vI x1), some (vI x2), some (vI x3), some (vI x4), l5], [], σ5)) rfl h10).trans ?_
  refine (e_n 4 (fr' := (67, 59, [some (vR 9 0 0), some (vI x1), some (vI x2), some (vI x3), some (vI x4), l5], [vI (48 : Int32), vI (σ5.1 5 0 9 0)], σ5)) rfl).trans ?_
  refine (e_t (A := (67, 65, [some (vR 9 0 0), some (vI x1), some (vI x2), some (vI x3), some (vI x4), l5], [], σ5)) rfl h11).trans ?_
  refine (e_n 5 (fr' := (67, 72, [some (vR 9 0 0), some (vI x1), some (vI x2), some (vI x3), some (vI x4), l5], [vI x3, vI x2, vI x1, vR 5 0 0], σ5)) rfl).trans ?_
  refine (e_ci (m := 67) (pc := 75) (ls := [some (vR 9 0 0), some (vI x1), some (vI x2), some (vI x3), some (vI x4), l5]) (rest := []) rfl h12).trans ?_
  refine (e_n 6 (fr' := (67, 88, [some (vR 9 0 0), some (vI x1), some (vI x2), some (vI x3), some (vI x4), some (vI r6)], [vI x4, vI r6, vR 5 0 7], σ6)) rfl).trans ?_
  refine (e_a (A := (67, 89, [some (vR 9 0 0), some (vI x1), some (vI x2), some (vI x3), some (vI x4), some (vI r6)], [], (pm_wi σ6 5 0 6 (r6).toNatClampNeg x4))) rfl h13).trans ?_
  refine (e_n 2 (fr' := (67, 92, [some (vR 9 0 0), some (vI x1), some (vI x2), some (vI x3), some (vI x4), some (vI r6)], [vI r6, vR 9 0 0], (pm_wi σ6 5 0 6 (r6).toNatClampNeg x4))) rfl).trans ?_
  refine (e_cv (m := 67) (pc := 95) (ls := [some (vR 9 0 0), some (vI x1), some (vI x2), some (vI x3), some (vI x4), some (vI r6)]) (rest := []) rfl h14).trans ?_
  refine (e_n 1 (fr' := (67, 97, [some (vR 9 0 0), some (vI x1), some (vI x2), some (vI x3), some (vI x4), some (vI r6)], [vI r6], σ7)) rfl).trans ?_
  exact e_r rfl
set_option maxRecDepth 20000 in
theorem g67_0_8 (C : pmC) {σ : pmS} {x1 : Int32} {x2 : Int32} {x3 : Int32} {x4 : Int32} {l5 : Option pmV} {σ1 : pmS} {r1 : Int32} {σ2 : pmS} {r2 : Int32} {σ3 : pmS} {r3 : Int32} {σ4 : pmS} {r4 : Int32} {σ5 : pmS} {r5 : Int32} (h1 : C 88 [vR 9 0 0, vI x3] σ = some (some (vI r1), σ1)) (h2 : ¬ r1 = 0) (h3 : C 89 [vI x1] σ1 = some (some (vI r2), σ2)) (h4 : ¬ r2 = 0) (h5 : ¬ x4 = (-1 : Int32)) (h6 : C 92 [vR 9 0 0, vI x3, vI x2] σ2 = some (some (vI r3), σ3)) (h7 : C 87 [vR 9 0 0, vI r3, vI x4] σ3 = some (some (vI r4), σ4)) (h8 : ¬ r4 = 0) (h9 : C 90 [vI x2] σ4 = some (some (vI r5), σ5)) (h10 : ¬ r5 = 0) (h11 : ¬ (σ5.1 5 0 9 0) < (48 : Int32)) : pm_Rn C (67, 0, [some (vR 9 0 0), some (vI x1), some (vI x2), some (vI x3), some (vI x4), l5], [], σ) = some (some (vI (-4 : Int32)), σ5) := by
  refine (e_n 2 (fr' := (67, 2, [some (vR 9 0 0), some (vI x1), some (vI x2), some (vI x3), some (vI x4), l5], [vI x3, vR 9 0 0], σ)) rfl).trans ?_
  refine (e_ci (m := 67) (pc := 5) (ls := [some (vR 9 0 0), some (vI x1), some (vI x2), some (vI x3), some (vI x4), l5]) (rest := []) rfl h1).trans ?_
  refine (e_f (B := (67, 8, [some (vR 9 0 0), some (vI x1), some (vI x2), some (vI x3), some (vI x4), l5], [], σ1)) rfl h2).trans ?_
  refine (e_n 1 (fr' := (67, 9, [some (vR 9 0 0), some (vI x1), some (vI x2), some (vI x3), some (vI x4), l5], [vI x1], σ1)) rfl).trans ?_
  refine (e_ci (m := 67) (pc := 12) (ls := [some (vR 9 0 0), some (vI x1), some (vI x2), some (vI x3), some (vI x4), l5]) (rest := []) rfl h3).trans ?_
  refine (e_f (B := (67, 17, [some (vR 9 0 0), some (vI x1), some (vI x2), some (vI x3), some (vI x4), l5], [], σ2)) rfl h4).trans ?_
  refine (e_n 2 (fr' := (67, 20, [some (vR 9 0 0), some (vI x1), some (vI x2), some (vI x3), some (vI x4), l5], [vI (-1 : Int32), vI x4], σ2)) rfl).trans ?_
  refine (e_f (B := (67, 23, [some (vR 9 0 0), some (vI x1), some (vI x2), some (vI x3), some (vI x4), l5], [], σ2)) rfl h5).trans ?_
  refine (e_n 4 (fr' := (67, 27, [some (vR 9 0 0), some (vI x1), some (vI x2), some (vI x3), some (vI x4), l5], [vI x2, vI x3, vR 9 0 0, vR 9 0 0], σ2)) rfl).trans ?_
  refine (e_ci (m := 67) (pc := 30) (ls := [some (vR 9 0 0), some (vI x1), some (vI x2), some (vI x3), some (vI x4), l5]) (rest := [vR 9 0 0]) rfl h6).trans ?_
  refine (e_n 1 (fr' := (67, 32, [some (vR 9 0 0), some (vI x1), some (vI x2), some (vI x3), some (vI x4), l5], [vI x4, vI r3, vR 9 0 0], σ3)) rfl).trans ?_
  refine (e_ci (m := 67) (pc := 35) (ls := [some (vR 9 0 0), some (vI x1), some (vI x2), some (vI x3), some (vI x4), l5]) (rest := []) rfl h7).trans ?_
  refine (e_f (B := (67, 40, [some (vR 9 0 0), some (vI x1), some (vI x2), some (vI x3), some (vI x4), l5], [], σ4)) rfl h8).trans ?_
  refine (e_n 1 (fr' := (67, 41, [some (vR 9 0 0), some (vI x1), some (vI x2), some (vI x3), some (vI x4), l5], [vI x2], σ4)) rfl).trans ?_
  refine (e_ci (m := 67) (pc := 44) (ls := [some (vR 9 0 0), some (vI x1), some (vI x2), some (vI x3), some (vI x4), l5]) (rest := []) rfl h9).trans ?_
  refine (e_f (B := (67, 50, [some (vR 9 0 0), some (vI x1), some (vI x2), some (vI x3), some (vI x4), l5], [], σ5)) rfl h10).trans ?_
  refine (e_n 4 (fr' := (67, 59, [some (vR 9 0 0), some (vI x1), some (vI x2), some (vI x3), some (vI x4), l5], [vI (48 : Int32), vI (σ5.1 5 0 9 0)], σ5)) rfl).trans ?_
  refine (e_f (B := (67, 62, [some (vR 9 0 0), some (vI x1), some (vI x2), some (vI x3), some (vI x4), l5], [], σ5)) rfl h11).trans ?_
  refine (e_n 1 (fr' := (67, 64, [some (vR 9 0 0), some (vI x1), some (vI x2), some (vI x3), some (vI x4), l5], [vI (-4 : Int32)], σ5)) rfl).trans ?_
  exact e_r rfl
set_option maxRecDepth 20000 in
theorem g68_0_0 (C : pmC) {σ : pmS} {x1 : Int32} {x2 : Int32} {x3 : Int32} {x4 : Int32} {l5 : Option pmV} {σ1 : pmS} {r1 : Int32} (h1 : C 89 [vI x1] σ = some (some (vI r1), σ1)) (h2 : r1 = 0) : pm_Rn C (68, 0, [some (vR 9 0 0), some (vI x1), some (vI x2), some (vI x3), some (vI x4), l5], [], σ) = some (some (vI (-1 : Int32)), σ1) := by
  refine (e_n 1 (fr' := (68, 1, [some (vR 9 0 0), some (vI x1), some (vI x2), some (vI x3), some (vI x4), l5], [vI x1], σ)) rfl).trans ?_
  refine (e_ci (m := 68) (pc := 4) (ls := [some (vR 9 0 0), some (vI x1), some (vI x2), some (vI x3), some (vI x4), l5]) (rest := []) rfl h1).trans ?_
  refine (e_t (A := (68, 30, [some (vR 9 0 0), some (vI x1), some (vI x2), some (vI x3), some (vI x4), l5], [], σ1)) rfl h2).trans ?_
  refine (e_n 1 (fr' := (68, 31, [some (vR 9 0 0), some (vI x1), some (vI x2), some (vI x3), some (vI x4), l5], [vI (-1 : Int32)], σ1)) rfl).trans ?_
  exact e_r rfl
set_option maxRecDepth 20000 in
theorem g68_0_1 (C : pmC) {σ : pmS} {x1 : Int32} {x2 : Int32} {x3 : Int32} {x4 : Int32} {l5 : Option pmV} {σ1 : pmS} {r1 : Int32} {σ2 : pmS} {r2 : Int32} (h1 : C 89 [vI x1] σ = some (some (vI r1), σ1)) (h2 : ¬ r1 = 0) (h3 : C 32 [vR 5 0 0, vI x3] σ1 = some (some (vI r2), σ2)) (h4 : r2 = 0) : pm_Rn C (68, 0, [some (vR 9 0 0), some (vI x1), some (vI x2), some (vI x3), some (vI x4), l5], [], σ) = some (some (vI (-1 : Int32)), σ2) := by
  refine (e_n 1 (fr' := (68, 1, [some (vR 9 0 0), some (vI x1), some (vI x2), some (vI x3), some (vI x4), l5], [vI x1], σ)) rfl).trans ?_
  refine (e_ci (m := 68) (pc := 4) (ls := [some (vR 9 0 0), some (vI x1), some (vI x2), some (vI x3), some (vI x4), l5]) (rest := []) rfl h1).trans ?_
  refine (e_f (B := (68, 7, [some (vR 9 0 0), some (vI x1), some (vI x2), some (vI x3), some (vI x4), l5], [], σ1)) rfl h2).trans ?_
  refine (e_n 3 (fr' := (68, 12, [some (vR 9 0 0), some (vI x1), some (vI x2), some (vI x3), some (vI x4), l5], [vI x3, vR 5 0 0], σ1)) rfl).trans ?_
  refine (e_ci (m := 68) (pc := 15) (ls := [some (vR 9 0 0), some (vI x1), some (vI x2), some (vI x3), some (vI x4), l5]) (rest := []) rfl h3).trans ?_
  refine (e_t (A := (68, 30, [some (vR 9 0 0), some (vI x1), some (vI x2), some (vI x3), some (vI x4), l5], [], σ2)) rfl h4).trans ?_
  refine (e_n 1 (fr' := (68, 31, [some (vR 9 0 0), some (vI x1), some (vI x2), some (vI x3), some (vI x4), l5], [vI (-1 : Int32)], σ2)) rfl).trans ?_
  exact e_r rfl
set_option maxRecDepth 20000 in
theorem g68_0_2 (C : pmC) {σ : pmS} {x1 : Int32} {x2 : Int32} {x3 : Int32} {x4 : Int32} {l5 : Option pmV} {σ1 : pmS} {r1 : Int32} {σ2 : pmS} {r2 : Int32} {σ3 : pmS} {r3 : Int32} (h1 : C 89 [vI x1] σ = some (some (vI r1), σ1)) (h2 : ¬ r1 = 0) (h3 : C 32 [vR 5 0 0, vI x3] σ1 = some (some (vI r2), σ2)) (h4 : ¬ r2 = 0) (h5 : C 32 [vR 5 0 0, vI x4] σ2 = some (some (vI r3), σ3)) (h6 : r3 = 0) : pm_Rn C (68, 0, [some (vR 9 0 0), some (vI x1), some (vI x2), some (vI x3), some (vI x4), l5], [], σ) = some (some (vI (-1 : Int32)), σ3) := by
  refine (e_n 1 (fr' := (68, 1, [some (vR 9 0 0), some (vI x1), some (vI x2), some (vI x3), some (vI x4), l5], [vI x1], σ)) rfl).trans ?_
  refine (e_ci (m := 68) (pc := 4) (ls := [some (vR 9 0 0), some (vI x1), some (vI x2), some (vI x3), some (vI x4), l5]) (rest := []) rfl h1).trans ?_
  refine (e_f (B := (68, 7, [some (vR 9 0 0), some (vI x1), some (vI x2), some (vI x3), some (vI x4), l5], [], σ1)) rfl h2).trans ?_
  refine (e_n 3 (fr' := (68, 12, [some (vR 9 0 0), some (vI x1), some (vI x2), some (vI x3), some (vI x4), l5], [vI x3, vR 5 0 0], σ1)) rfl).trans ?_
  refine (e_ci (m := 68) (pc := 15) (ls := [some (vR 9 0 0), some (vI x1), some (vI x2), some (vI x3), some (vI x4), l5]) (rest := []) rfl h3).trans ?_
  refine (e_f (B := (68, 18, [some (vR 9 0 0), some (vI x1), some (vI x2), some (vI x3), some (vI x4), l5], [], σ2)) rfl h4).trans ?_
  refine (e_n 3 (fr' := (68, 24, [some (vR 9 0 0), some (vI x1), some (vI x2), some (vI x3), some (vI x4), l5], [vI x4, vR 5 0 0], σ2)) rfl).trans ?_
  refine (e_ci (m := 68) (pc := 27) (ls := [some (vR 9 0 0), some (vI x1), some (vI x2), some (vI x3), some (vI x4), l5]) (rest := []) rfl h5).trans ?_
  refine (e_t (A := (68, 30, [some (vR 9 0 0), some (vI x1), some (vI x2), some (vI x3), some (vI x4), l5], [], σ3)) rfl h6).trans ?_
  refine (e_n 1 (fr' := (68, 31, [some (vR 9 0 0), some (vI x1), some (vI x2), some (vI x3), some (vI x4), l5], [vI (-1 : Int32)], σ3)) rfl).trans ?_
  exact e_r rfl
set_option maxRecDepth 20000 in
theorem g68_0_3 (C : pmC) {σ : pmS} {x1 : Int32} {x2 : Int32} {x3 : Int32} {x4 : Int32} {l5 : Option pmV} {σ1 : pmS} {r1 : Int32} {σ2 : pmS} {r2 : Int32} {σ3 : pmS} {r3 : Int32} {σ4 : pmS} {r4 : Int32} (h1 : C 89 [vI x1] σ = some (some (vI r1), σ1)) (h2 : ¬ r1 = 0) (h3 : C 32 [vR 5 0 0, vI x3] σ1 = some (some (vI r2), σ2)) (h4 : ¬ r2 = 0) (h5 : C 32 [vR 5 0 0, vI x4] σ2 = some (some (vI r3), σ3)) (h6 : ¬ r3 = 0) (h7 : C 90 [vI x2] σ3 = some (some (vI r4), σ4)) (h8 : r4 = 0) : pm_Rn C (68, 0, [some (vR 9 0 0), some (vI x1), some (vI x2), some (vI x3), some (vI x4), l5], [], σ) = some (some (vI (-2 : Int32)), σ4) := by
  refine (e_n 1 (fr' := (68, 1, [some (vR 9 0 0), some (vI x1), some (vI x2), some (vI x3), some (vI x4), l5], [vI x1], σ)) rfl).trans ?_
  refine (e_ci (m := 68) (pc := 4) (ls := [some (vR 9 0 0), some (vI x1), some (vI x2), some (vI x3), some (vI x4), l5]) (rest := []) rfl h1).trans ?_
  refine (e_f (B := (68, 7, [some (vR 9 0 0), some (vI x1), some (vI x2), some (vI x3), some (vI x4), l5], [], σ1)) rfl h2).trans ?_
  refine (e_n 3 (fr' := (68, 12, [some (vR 9 0 0), some (vI x1), some (vI x2), some (vI x3), some (vI x4), l5], [vI x3, vR 5 0 0], σ1)) rfl).trans ?_
  refine (e_ci (m := 68) (pc := 15) (ls := [some (vR 9 0 0), some (vI x1), some (vI x2), some (vI x3), some (vI x4), l5]) (rest := []) rfl h3).trans ?_
  refine (e_f (B := (68, 18, [some (vR 9 0 0), some (vI x1), some (vI x2), some (vI x3), some (vI x4), l5], [], σ2)) rfl h4).trans ?_
  refine (e_n 3 (fr' := (68, 24, [some (vR 9 0 0), some (vI x1), some (vI x2), some (vI x3), some (vI x4), l5], [vI x4, vR 5 0 0], σ2)) rfl).trans ?_
  refine (e_ci (m := 68) (pc := 27) (ls := [some (vR 9 0 0), some (vI x1), some (vI x2), some (vI x3), some (vI x4), l5]) (rest := []) rfl h5).trans ?_
  refine (e_f (B := (68, 32, [some (vR 9 0 0), some (vI x1), some (vI x2), some (vI x3), some (vI x4), l5], [], σ3)) rfl h6).trans ?_
  refine (e_n 1 (fr' := (68, 33, [some (vR 9 0 0), some (vI x1), some (vI x2), some (vI x3), some (vI x4), l5], [vI x2], σ3)) rfl).trans ?_
  refine (e_ci (m := 68) (pc := 36) (ls := [some (vR 9 0 0), some (vI x1), some (vI x2), some (vI x3), some (vI x4), l5]) (rest := []) rfl h7).trans ?_
  refine (e_t (A := (68, 65, [some (vR 9 0 0), some (vI x1), some (vI x2), some (vI x3), some (vI x4), l5], [], σ4)) rfl h8).trans ?_
  refine (e_n 1 (fr' := (68, 67, [some (vR 9 0 0), some (vI x1), some (vI x2), some (vI x3), some (vI x4), l5], [vI (-2 : Int32)], σ4)) rfl).trans ?_
  exact e_r rfl
set_option maxRecDepth 20000 in
theorem g68_0_4 (C : pmC) {σ : pmS} {x1 : Int32} {x2 : Int32} {x3 : Int32} {x4 : Int32} {l5 : Option pmV} {σ1 : pmS} {r1 : Int32} {σ2 : pmS} {r2 : Int32} {σ3 : pmS} {r3 : Int32} {σ4 : pmS} {r4 : Int32} {σ5 : pmS} {r5 : Int32} (h1 : C 89 [vI x1] σ = some (some (vI r1), σ1)) (h2 : ¬ r1 = 0) (h3 : C 32 [vR 5 0 0, vI x3] σ1 = some (some (vI r2), σ2)) (h4 : ¬ r2 = 0) (h5 : C 32 [vR 5 0 0, vI x4] σ2 = some (some (vI r3), σ3)) (h6 : ¬ r3 = 0) (h7 : C 90 [vI x2] σ3 = some (some (vI r4), σ4)) (h8 : ¬ r4 = 0) (h9 : vp_in x3 48) (h10 : (σ4.1 5 0 0 (x3).toNatClampNeg) = (1 : Int32)) (h11 : vp_in x4 48) (h12 : (σ4.1 5 0 0 (x4).toNatClampNeg) = 0) (h13 : C 96 [vR 9 0 0, vI x3, vI x4, vI x2] σ4 = some (some (vI r5), σ5)) (h14 : r5 = 0) : pm_Rn C (68, 0, [some (vR 9 0 0), some (vI x1), some (vI x2), some (vI x3), some (vI x4), l5], [], σ) = some (some (vI (-3 : Int32)), σ5) := by
  refine (e_n 1 (fr' := (68, 1, [some (vR 9 0 0), some (vI x1), some (vI x2), some (vI x3), some (vI x4), l5], [vI x1], σ)) rfl).trans ?_
  refine (e_ci (m := 68) (pc := 4) (ls := [some (vR 9 0 0), some (vI x1), some (vI x2), some (vI x3), some (vI x4), l5]) (rest := []) rfl h1).trans ?_
  refine (e_f (B := (68, 7, [some (vR 9 0 0), some (vI x1), some (vI x2), some (vI x3), some (vI x4), l5], [], σ1)) rfl h2).trans ?_
  refine (e_n 3 (fr' := (68, 12, [some (vR 9 0 0), some (vI x1), some (vI x2), some (vI x3), some (vI x4), l5], [vI x3, vR 5 0 0], σ1)) rfl).trans ?_
  refine (e_ci (m := 68) (pc := 15) (ls := [some (vR 9 0 0), some (vI x1), some (vI x2), some (vI x3), some (vI x4), l5]) (rest := []) rfl h3).trans ?_
  refine (e_f (B := (68, 18, [some (vR 9 0 0), some (vI x1), some (vI x2), some (vI x3), some (vI x4), l5], [], σ2)) rfl h4).trans ?_
  refine (e_n 3 (fr' := (68, 24, [some (vR 9 0 0), some (vI x1), some (vI x2), some (vI x3), some (vI x4), l5], [vI x4, vR 5 0 0], σ2)) rfl).trans ?_
  refine (e_ci (m := 68) (pc := 27) (ls := [some (vR 9 0 0), some (vI x1), some (vI x2), some (vI x3), some (vI x4), l5]) (rest := []) rfl h5).trans ?_
  refine (e_f (B := (68, 32, [some (vR 9 0 0), some (vI x1), some (vI x2), some (vI x3), some (vI x4), l5], [], σ3)) rfl h6).trans ?_
  refine (e_n 1 (fr' := (68, 33, [some (vR 9 0 0), some (vI x1), some (vI x2), some (vI x3), some (vI x4), l5], [vI x2], σ3)) rfl).trans ?_
  refine (e_ci (m := 68) (pc := 36) (ls := [some (vR 9 0 0), some (vI x1), some (vI x2), some (vI x3), some (vI x4), l5]) (rest := []) rfl h7).trans ?_
  refine (e_f (B := (68, 39, [some (vR 9 0 0), some (vI x1), some (vI x2), some (vI x3), some (vI x4), l5], [], σ4)) rfl h8).trans ?_
  refine (e_n 4 (fr' := (68, 47, [some (vR 9 0 0), some (vI x1), some (vI x2), some (vI x3), some (vI x4), l5], [vI x3, vR 5 0 1], σ4)) rfl).trans ?_
  refine (e_a (A := (68, 48, [some (vR 9 0 0), some (vI x1), some (vI x2), some (vI x3), some (vI x4), l5], [vI (σ4.1 5 0 0 (x3).toNatClampNeg)], σ4)) rfl h9).trans ?_
  refine (e_n 1 (fr' := (68, 49, [some (vR 9 0 0), some (vI x1), some (vI x2), some (vI x3), some (vI x4), l5], [vI (1 : Int32), vI (σ4.1 5 0 0 (x3).toNatClampNeg)], σ4)) rfl).trans ?_
  refine (e_t (A := (68, 52, [some (vR 9 0 0), some (vI x1), some (vI x2), some (vI x3), some (vI x4), l5], [], σ4)) rfl h10).trans ?_
  refine (e_n 4 (fr' := (68, 61, [some (vR 9 0 0), some (vI x1), some (vI x2), some (vI x3), some (vI x4), l5], [vI x4, vR 5 0 1], σ4)) rfl).trans ?_
  refine (e_a (A := (68, 62, [some (vR 9 0 0), some (vI x1), some (vI x2), some (vI x3), some (vI x4), l5], [vI (σ4.1 5 0 0 (x4).toNatClampNeg)], σ4)) rfl h11).trans ?_
  refine (e_t (A := (68, 68, [some (vR 9 0 0), some (vI x1), some (vI x2), some (vI x3), some (vI x4), l5], [], σ4)) rfl h12).trans ?_
  refine (e_n 4 (fr' := (68, 73, [some (vR 9 0 0), some (vI x1), some (vI x2), some (vI x3), some (vI x4), l5], [vI x2, vI x4, vI x3, vR 9 0 0], σ4)) rfl).trans ?_
  refine (e_ci (m := 68) (pc := 76) (ls := [some (vR 9 0 0), some (vI x1), some (vI x2), some (vI x3), some (vI x4), l5]) (rest := []) rfl h13).trans ?_
  refine (e_t (A := (68, 79, [some (vR 9 0 0), some (vI x1), some (vI x2), some (vI x3), some (vI x4), l5], [], σ5)) rfl h14).trans ?_
  refine (e_n 1 (fr' := (68, 81, [some (vR 9 0 0), some (vI x1), some (vI x2), some (vI x3), some (vI x4), l5], [vI (-3 : Int32)], σ5)) rfl).trans ?_
  exact e_r rfl
set_option maxRecDepth 20000 in
theorem g68_0_5 (C : pmC) {σ : pmS} {x1 : Int32} {x2 : Int32} {x3 : Int32} {x4 : Int32} {l5 : Option pmV} {σ1 : pmS} {r1 : Int32} {σ2 : pmS} {r2 : Int32} {σ3 : pmS} {r3 : Int32} {σ4 : pmS} {r4 : Int32} {σ5 : pmS} {r5 : Int32} {σ6 : pmS} {r6 : Int32} {σ7 : pmS} (h1 : C 89 [vI x1] σ = some (some (vI r1), σ1)) (h2 : ¬ r1 = 0) (h3 : C 32 [vR 5 0 0, vI x3] σ1 = some (some (vI r2), σ2)) (h4 : ¬ r2 = 0) (h5 : C 32 [vR 5 0 0, vI x4] σ2 = some (some (vI r3), σ3)) (h6 : ¬ r3 = 0) (h7 : C 90 [vI x2] σ3 = some (some (vI r4), σ4)) (h8 : ¬ r4 = 0) (h9 : vp_in x3 48) (h10 : (σ4.1 5 0 0 (x3).toNatClampNeg) = (1 : Int32)) (h11 : vp_in x4 48) (h12 : (σ4.1 5 0 0 (x4).toNatClampNeg) = 0) (h13 : C 96 [vR 9 0 0, vI x3, vI x4, vI x2] σ4 = some (some (vI r5), σ5)) (h14 : ¬ r5 = 0) (h15 : (σ5.1 5 0 9 0) < (48 : Int32)) (h16 : C 31 [vR 5 0 0, vI x1, vI x2, vI (σ5.1 5 0 3 (x3).toNatClampNeg)] σ5 = some (some (vI r6), σ6)) (h17 : vp_in r6 48) (h18 : C 95 [vR 9 0 0, vI r6] (pm_wi (pm_wi σ6 5 0 4 (r6).toNatClampNeg x3) 5 0 5 (r6).toNatClampNeg x4) = some (none, σ7)) : pm_Rn C (68, 0, [some (vR 9 0 0), some (vI x1), some (vI x2), some (vI x3), some (vI x4), l5], [], σ) = some (some (vI r6), σ7) := by
  refine (e_n 1 (fr' := (68, 1, [some (vR 9 0 0), some (vI x1), some (vI x2), some (vI x3), some (vI x4), l5], [vI x1], σ)) rfl).trans ?_
  refine (e_ci (m := 68) (pc := 4) (ls := [some (vR 9 0 0), some (vI x1), some (vI x2), some (vI x3), some (vI x4), l5]) (rest := []) rfl h1).trans ?_
  refine (e_f (B := (68, 7, [some (vR 9 0 0), some (vI x1), some (vI x2), some (vI x3), some (vI x4), l5], [], σ1)) rfl h2).trans ?_
  refine (e_n 3 (fr' := (68, 12, [some (vR 9 0 0), some (vI x1), some (vI x2), some (vI x3), some (vI x4), l5], [vI x3, vR 5 0 0], σ1)) rfl).trans ?_
  refine (e_ci (m := 68) (pc := 15) (ls := [some (vR 9 0 0), some (vI x1), some (vI x2), some (vI x3), some (vI x4), l5]) (rest := []) rfl h3).trans ?_
  refine (e_f (B := (68, 18, [some (vR 9 0 0), some (vI x1), some (vI x2), some (vI x3), some (vI x4), l5], [], σ2)) rfl h4).trans ?_
  refine (e_n 3 (fr' := (68, 24, [some (vR 9 0 0), some (vI x1), some (vI x2), some (vI x3), some (vI x4), l5], [vI x4, vR 5 0 0], σ2)) rfl).trans ?_
  refine (e_ci (m := 68) (pc := 27) (ls := [some (vR 9 0 0), some (vI x1), some (vI x2), some (vI x3), some (vI x4), l5]) (rest := []) rfl h5).trans ?_
  refine (e_f (B := (68, 32, [some (vR 9 0 0), some (vI x1), some (vI x2), some (vI x3), some (vI x4), l5], [], σ3)) rfl h6).trans ?_
  refine (e_n 1 (fr' := (68, 33, [some (vR 9 0 0), some (vI x1), some (vI x2), some (vI x3), some (vI x4), l5], [vI x2], σ3)) rfl).trans ?_
  refine (e_ci (m := 68) (pc := 36) (ls := [some (vR 9 0 0), some (vI x1), some (vI x2), some (vI x3), some (vI x4), l5]) (rest := []) rfl h7).trans ?_
  refine (e_f (B := (68, 39, [some (vR 9 0 0), some (vI x1), some (vI x2), some (vI x3), some (vI x4), l5], [], σ4)) rfl h8).trans ?_
  refine (e_n 4 (fr' := (68, 47, [some (vR 9 0 0), some (vI x1), some (vI x2), some (vI x3), some (vI x4), l5], [vI x3, vR 5 0 1], σ4)) rfl).trans ?_
  refine (e_a (A := (68, 48, [some (vR 9 0 0), some (vI x1), some (vI x2), some (vI x3), some (vI x4), l5], [vI (σ4.1 5 0 0 (x3).toNatClampNeg)], σ4)) rfl h9).trans ?_
  refine (e_n 1 (fr' := (68, 49, [some (vR 9 0 0), some (vI x1), some (vI x2), some (vI x3), some (vI x4), l5], [vI (1 : Int32), vI (σ4.1 5 0 0 (x3).toNatClampNeg)], σ4)) rfl).trans ?_
  refine (e_t (A := (68, 52, [some (vR 9 0 0), some (vI x1), some (vI x2), some (vI x3), some (vI x4), l5], [], σ4)) rfl h10).trans ?_
  refine (e_n 4 (fr' := (68, 61, [some (vR 9 0 0), some (vI x1), some (vI x2), some (vI x3), some (vI x4), l5], [vI x4, vR 5 0 1], σ4)) rfl).trans ?_
  refine (e_a (A := (68, 62, [some (vR 9 0 0), some (vI x1), some (vI x2), some (vI x3), some (vI x4), l5], [vI (σ4.1 5 0 0 (x4).toNatClampNeg)], σ4)) rfl h11).trans ?_
  refine (e_t (A := (68, 68, [some (vR 9 0 0), some (vI x1), some (vI x2), some (vI x3), some (vI x4), l5], [], σ4)) rfl h12).trans ?_
  refine (e_n 4 (fr' := (68, 73, [some (vR 9 0 0), some (vI x1), some (vI x2), some (vI x3), some (vI x4), l5], [vI x2, vI x4, vI x3, vR 9 0 0], σ4)) rfl).trans ?_
  refine (e_ci (m := 68) (pc := 76) (ls := [some (vR 9 0 0), some (vI x1), some (vI x2), some (vI x3), some (vI x4), l5]) (rest := []) rfl h13).trans ?_
  refine (e_f (B := (68, 82, [some (vR 9 0 0), some (vI x1), some (vI x2), some (vI x3), some (vI x4), l5], [], σ5)) rfl h14).trans ?_
  refine (e_n 4 (fr' := (68, 91, [some (vR 9 0 0), some (vI x1), some (vI x2), some (vI x3), some (vI x4), l5], [vI (48 : Int32), vI (σ5.1 5 0 9 0)], σ5)) rfl).trans ?_
  refine (e_t (A := (68, 97, [some (vR 9 0 0), some (vI x1), some (vI x2), some (vI x3), some (vI x4), l5], [], σ5)) rfl h15).trans ?_
  refine (e_n 8 (fr' := (68, 111, [some (vR 9 0 0), some (vI x1), some (vI x2), some (vI x3), some (vI x4), l5], [vI x3, vR 5 0 4, vI x2, vI x1, vR 5 0 0], σ5)) rfl).trans ?_
  refine (e_a (A := (68, 112, [some (vR 9 0 0), some (vI x1), some (vI x2), some (vI x3), some (vI x4), l5], [vI (σ5.1 5 0 3 (x3).toNatClampNeg), vI x2, vI x1, vR 5 0 0], σ5)) rfl h9).trans ?_
  refine (e_ci (m := 68) (pc := 115) (ls := [some (vR 9 0 0), some (vI x1), some (vI x2), some (vI x3), some (vI x4), l5]) (rest := []) rfl h16).trans ?_
  refine (e_n 6 (fr' := (68, 127, [some (vR 9 0 0), some (vI x1), some (vI x2), some (vI x3), some (vI x4), some (vI r6)], [vI x3, vI r6, vR 5 0 5], σ6)) rfl).trans ?_
  refine (e_a (A := (68, 128, [some (vR 9 0 0), some (vI x1), some (vI x2), some (vI x3), some (vI x4), some (vI r6)], [], (pm_wi σ6 5 0 4 (r6).toNatClampNeg x3))) rfl h17).trans ?_
  refine (e_n 5 (fr' := (68, 139, [some (vR 9 0 0), some (vI x1), some (vI x2), some (vI x3), some (vI x4), some (vI r6)], [vI x4, vI r6, vR 5 0 6], (pm_wi σ6 5 0 4 (r6).toNatClampNeg x3))) rfl).trans ?_
  refine (e_a (A := (68, 140, [some (vR 9 0 0), some (vI x1), some (vI x2), some (vI x3), some (vI x4), some (vI r6)], [], (pm_wi (pm_wi σ6 5 0 4 (r6).toNatClampNeg x3) 5 0 5 (r6).toNatClampNeg x4))) rfl h17).trans ?_
  refine (e_n 2 (fr' := (68, 143, [some (vR 9 0 0), some (vI x1), some (vI x2), some (vI x3), some (vI x4), some (vI r6)], [vI r6, vR 9 0 0], (pm_wi (pm_wi σ6 5 0 4 (r6).toNatClampNeg x3) 5 0 5 (r6).toNatClampNeg x4))) rfl).trans ?_
  refine (e_cv (m := 68) (pc := 146) (ls := [some (vR 9 0 0), some (vI x1), some (vI x2), some (vI x3), some (vI x4), some (vI r6)]) (rest := []) rfl h18).trans ?_
  refine (e_n 1 (fr' := (68, 148, [some (vR 9 0 0), some (vI x1), some (vI x2), some (vI x3), some (vI x4), some (vI r6)], [vI r6], σ7)) rfl).trans ?_
  exact e_r rfl
set_option maxRecDepth 20000 in
theorem g68_0_6 (C : pmC) {σ : pmS} {x1 : Int32} {x2 : Int32} {x3 : Int32} {x4 : Int32} {l5 : Option pmV} {σ1 : pmS} {r1 : Int32} {σ2 : pmS} {r2 : Int32} {σ3 : pmS} {r3 : Int32} {σ4 : pmS} {r4 : Int32} {σ5 : pmS} {r5 : Int32} (h1 : C 89 [vI x1] σ = some (some (vI r1), σ1)) (h2 : ¬ r1 = 0) (h3 : C 32 [vR 5 0 0, vI x3] σ1 = some (some (vI r2), σ2)) (h4 : ¬ r2 = 0) (h5 : C 32 [vR 5 0 0, vI x4] σ2 = some (some (vI r3), σ3)) (h6 : ¬ r3 = 0) (h7 : C 90 [vI x2] σ3 = some (some (vI r4), σ4)) (h8 : ¬ r4 = 0) (h9 : vp_in x3 48) (h10 : (σ4.1 5 0 0 (x3).toNatClampNeg) = (1 : Int32)) (h11 : vp_in x4 48) (h12 : (σ4.1 5 0 0 (x4).toNatClampNeg) = 0) (h13 : C 96 [vR 9 0 0, vI x3, vI x4, vI x2] σ4 = some (some (vI r5), σ5)) (h14 : ¬ r5 = 0) (h15 : ¬ (σ5.1 5 0 9 0) < (48 : Int32)) : pm_Rn C (68, 0, [some (vR 9 0 0), some (vI x1), some (vI x2), some (vI x3), some (vI x4), l5], [], σ) = some (some (vI (-4 : Int32)), σ5) := by
  refine (e_n 1 (fr' := (68, 1, [some (vR 9 0 0), some (vI x1), some (vI x2), some (vI x3), some (vI x4), l5], [vI x1], σ)) rfl).trans ?_
  refine (e_ci (m := 68) (pc := 4) (ls := [some (vR 9 0 0), some (vI x1), some (vI x2), some (vI x3), some (vI x4), l5]) (rest := []) rfl h1).trans ?_
  refine (e_f (B := (68, 7, [some (vR 9 0 0), some (vI x1), some (vI x2), some (vI x3), some (vI x4), l5], [], σ1)) rfl h2).trans ?_
  refine (e_n 3 (fr' := (68, 12, [some (vR 9 0 0), some (vI x1), some (vI x2), some (vI x3), some (vI x4), l5], [vI x3, vR 5 0 0], σ1)) rfl).trans ?_
  refine (e_ci (m := 68) (pc := 15) (ls := [some (vR 9 0 0), some (vI x1), some (vI x2), some (vI x3), some (vI x4), l5]) (rest := []) rfl h3).trans ?_
  refine (e_f (B := (68, 18, [some (vR 9 0 0), some (vI x1), some (vI x2), some (vI x3), some (vI x4), l5], [], σ2)) rfl h4).trans ?_
  refine (e_n 3 (fr' := (68, 24, [some (vR 9 0 0), some (vI x1), some (vI x2), some (vI x3), some (vI x4), l5], [vI x4, vR 5 0 0], σ2)) rfl).trans ?_
  refine (e_ci (m := 68) (pc := 27) (ls := [some (vR 9 0 0), some (vI x1), some (vI x2), some (vI x3), some (vI x4), l5]) (rest := []) rfl h5).trans ?_
  refine (e_f (B := (68, 32, [some (vR 9 0 0), some (vI x1), some (vI x2), some (vI x3), some (vI x4), l5], [], σ3)) rfl h6).trans ?_
  refine (e_n 1 (fr' := (68, 33, [some (vR 9 0 0), some (vI x1), some (vI x2), some (vI x3), some (vI x4), l5], [vI x2], σ3)) rfl).trans ?_
  refine (e_ci (m := 68) (pc := 36) (ls := [some (vR 9 0 0), some (vI x1), some (vI x2), some (vI x3), some (vI x4), l5]) (rest := []) rfl h7).trans ?_
  refine (e_f (B := (68, 39, [some (vR 9 0 0), some (vI x1), some (vI x2), some (vI x3), some (vI x4), l5], [], σ4)) rfl h8).trans ?_
  refine (e_n 4 (fr' := (68, 47, [some (vR 9 0 0), some (vI x1), some (vI x2), some (vI x3), some (vI x4), l5], [vI x3, vR 5 0 1], σ4)) rfl).trans ?_
  refine (e_a (A := (68, 48, [some (vR 9 0 0), some (vI x1), some (vI x2), some (vI x3), some (vI x4), l5], [vI (σ4.1 5 0 0 (x3).toNatClampNeg)], σ4)) rfl h9).trans ?_
  refine (e_n 1 (fr' := (68, 49, [some (vR 9 0 0), some (vI x1), some (vI x2), some (vI x3), some (vI x4), l5], [vI (1 : Int32), vI (σ4.1 5 0 0 (x3).toNatClampNeg)], σ4)) rfl).trans ?_
  refine (e_t (A := (68, 52, [some (vR 9 0 0), some (vI x1), some (vI x2), some (vI x3), some (vI x4), l5], [], σ4)) rfl h10).trans ?_
  refine (e_n 4 (fr' := (68, 61, [some (vR 9 0 0), some (vI x1), some (vI x2), some (vI x3), some (vI x4), l5], [vI x4, vR 5 0 1], σ4)) rfl).trans ?_
  refine (e_a (A := (68, 62, [some (vR 9 0 0), some (vI x1), some (vI x2), some (vI x3), some (vI x4), l5], [vI (σ4.1 5 0 0 (x4).toNatClampNeg)], σ4)) rfl h11).trans ?_
  refine (e_t (A := (68, 68, [some (vR 9 0 0), some (vI x1), some (vI x2), some (vI x3), some (vI x4), l5], [], σ4)) rfl h12).trans ?_
  refine (e_n 4 (fr' := (68, 73, [some (vR 9 0 0), some (vI x1), some (vI x2), some (vI x3), some (vI x4), l5], [vI x2, vI x4, vI x3, vR 9 0 0], σ4)) rfl).trans ?_
  refine (e_ci (m := 68) (pc := 76) (ls := [some (vR 9 0 0), some (vI x1), some (vI x2), some (vI x3), some (vI x4), l5]) (rest := []) rfl h13).trans ?_
  refine (e_f (B := (68, 82, [some (vR 9 0 0), some (vI x1), some (vI x2), some (vI x3), some (vI x4), l5], [], σ5)) rfl h14).trans ?_
  refine (e_n 4 (fr' := (68, 91, [some (vR 9 0 0), some (vI x1), some (vI x2), some (vI x3), some (vI x4), l5], [vI (48 : Int32), vI (σ5.1 5 0 9 0)], σ5)) rfl).trans ?_
  refine (e_f (B := (68, 94, [some (vR 9 0 0), some (vI x1), some (vI x2), some (vI x3), some (vI x4), l5], [], σ5)) rfl h15).trans ?_
  refine (e_n 1 (fr' := (68, 96, [some (vR 9 0 0), some (vI x1), some (vI x2), some (vI x3), some (vI x4), l5], [vI (-4 : Int32)], σ5)) rfl).trans ?_
  exact e_r rfl
set_option maxRecDepth 20000 in
theorem g68_0_7 (C : pmC) {σ : pmS} {x1 : Int32} {x2 : Int32} {x3 : Int32} {x4 : Int32} {l5 : Option pmV} {σ1 : pmS} {r1 : Int32} {σ2 : pmS} {r2 : Int32} {σ3 : pmS} {r3 : Int32} {σ4 : pmS} {r4 : Int32} (h1 : C 89 [vI x1] σ = some (some (vI r1), σ1)) (h2 : ¬ r1 = 0) (h3 : C 32 [vR 5 0 0, vI x3] σ1 = some (some (vI r2), σ2)) (h4 : ¬ r2 = 0) (h5 : C 32 [vR 5 0 0, vI x4] σ2 = some (some (vI r3), σ3)) (h6 : ¬ r3 = 0) (h7 : C 90 [vI x2] σ3 = some (some (vI r4), σ4)) (h8 : ¬ r4 = 0) (h9 : vp_in x3 48) (h10 : (σ4.1 5 0 0 (x3).toNatClampNeg) = (1 : Int32)) (h11 : vp_in x4 48) (h12 : ¬ (σ4.1 5 0 0 (x4).toNatClampNeg) = 0) : pm_Rn C (68, 0, [some (vR 9 0 0), some (vI x1), some (vI x2), some (vI x3), some (vI x4), l5], [], σ) = some (some (vI (-2 : Int32)), σ4) := by
  refine (e_n 1 (fr' := (68, 1, [some (vR 9 0 0), some (vI x1), some (vI x2), some (vI x3), some (vI x4), l5], [vI x1], σ)) rfl).trans ?_
  refine (e_ci (m := 68) (pc := 4) (ls := [some (vR 9 0 0), some (vI x1), some (vI x2), some (vI x3), some (vI x4), l5]) (rest := []) rfl h1).trans ?_
  refine (e_f (B := (68, 7, [some (vR 9 0 0), some (vI x1), some (vI x2), some (vI x3), some (vI x4), l5], [], σ1)) rfl h2).trans ?_
  refine (e_n 3 (fr' := (68, 12, [some (vR 9 0 0), some (vI x1), some (vI x2), some (vI x3), some (vI x4), l5], [vI x3, vR 5 0 0], σ1)) rfl).trans ?_
  refine (e_ci (m := 68) (pc := 15) (ls := [some (vR 9 0 0), some (vI x1), some (vI x2), some (vI x3), some (vI x4), l5]) (rest := []) rfl h3).trans ?_
  refine (e_f (B := (68, 18, [some (vR 9 0 0), some (vI x1), some (vI x2), some (vI x3), some (vI x4), l5], [], σ2)) rfl h4).trans ?_
  refine (e_n 3 (fr' := (68, 24, [some (vR 9 0 0), some (vI x1), some (vI x2), some (vI x3), some (vI x4), l5], [vI x4, vR 5 0 0], σ2)) rfl).trans ?_
  refine (e_ci (m := 68) (pc := 27) (ls := [some (vR 9 0 0), some (vI x1), some (vI x2), some (vI x3), some (vI x4), l5]) (rest := []) rfl h5).trans ?_
  refine (e_f (B := (68, 32, [some (vR 9 0 0), some (vI x1), some (vI x2), some (vI x3), some (vI x4), l5], [], σ3)) rfl h6).trans ?_
  refine (e_n 1 (fr' := (68, 33, [some (vR 9 0 0), some (vI x1), some (vI x2), some (vI x3), some (vI x4), l5], [vI x2], σ3)) rfl).trans ?_
  refine (e_ci (m := 68) (pc := 36) (ls := [some (vR 9 0 0), some (vI x1), some (vI x2), some (vI x3), some (vI x4), l5]) (rest := []) rfl h7).trans ?_
  refine (e_f (B := (68, 39, [some (vR 9 0 0), some (vI x1), some (vI x2), some (vI x3), some (vI x4), l5], [], σ4)) rfl h8).trans ?_
  refine (e_n 4 (fr' := (68, 47, [some (vR 9 0 0), some (vI x1), some (vI x2), some (vI x3), some (vI x4), l5], [vI x3, vR 5 0 1], σ4)) rfl).trans ?_
  refine (e_a (A := (68, 48, [some (vR 9 0 0), some (vI x1), some (vI x2), some (vI x3), some (vI x4), l5], [vI (σ4.1 5 0 0 (x3).toNatClampNeg)], σ4)) rfl h9).trans ?_
  refine (e_n 1 (fr' := (68, 49, [some (vR 9 0 0), some (vI x1), some (vI x2), some (vI x3), some (vI x4), l5], [vI (1 : Int32), vI (σ4.1 5 0 0 (x3).toNatClampNeg)], σ4)) rfl).trans ?_
  refine (e_t (A := (68, 52, [some (vR 9 0 0), some (vI x1), some (vI x2), some (vI x3), some (vI x4), l5], [], σ4)) rfl h10).trans ?_
  refine (e_n 4 (fr' := (68, 61, [some (vR 9 0 0), some (vI x1), some (vI x2), some (vI x3), some (vI x4), l5], [vI x4, vR 5 0 1], σ4)) rfl).trans ?_
  refine (e_a (A := (68, 62, [some (vR 9 0 0), some (vI x1), some (vI x2), some (vI x3), some (vI x4), l5], [vI (σ4.1 5 0 0 (x4).toNatClampNeg)], σ4)) rfl h11).trans ?_
  refine (e_f (B := (68, 65, [some (vR 9 0 0), some (vI x1), some (vI x2), some (vI x3), some (vI x4), l5], [], σ4)) rfl h12).trans ?_
  refine (e_n 1 (fr' := (68, 67, [some (vR 9 0 0), some (vI x1), some (vI x2), some (vI x3), some (vI x4), l5], [vI (-2 : Int32)], σ4)) rfl).trans ?_
  exact e_r rfl
set_option maxRecDepth 20000 in
theorem g68_0_8 (C : pmC) {σ : pmS} {x1 : Int32} {x2 : Int32} {x3 : Int32} {x4 : Int32} {l5 : Option pmV} {σ1 : pmS} {r1 : Int32} {σ2 : pmS} {r2 : Int32} {σ3 : pmS} {r3 : Int32} {σ4 : pmS} {r4 : Int32} (h1 : C 89 [vI x1] σ = some (some (vI r1), σ1)) (h2 : ¬ r1 = 0) (h3 : C 32 [vR 5 0 0, vI x3] σ1 = some (some (vI r2), σ2)) (h4 : ¬ r2 = 0) (h5 : C 32 [vR 5 0 0, vI x4] σ2 = some (some (vI r3), σ3)) (h6 : ¬ r3 = 0) (h7 : C 90 [vI x2] σ3 = some (some (vI r4), σ4)) (h8 : ¬ r4 = 0) (h9 : vp_in x3 48) (h10 : ¬ (σ4.1 5 0 0 (x3).toNatClampNeg) = (1 : Int32)) : pm_Rn C (68, 0, [some (vR 9 0 0), some (vI x1), some (vI x2), some (vI x3), some (vI x4), l5], [], σ) = some (some (vI (-2 : Int32)), σ4) := by
  refine (e_n 1 (fr' := (68, 1, [some (vR 9 0 0), some (vI x1), some (vI x2), some (vI x3), some (vI x4), l5], [vI x1], σ)) rfl).trans ?_
  refine (e_ci (m := 68) (pc := 4) (ls := [some (vR 9 0 0), some (vI x1), some (vI x2), some (vI x3), some (vI x4), l5]) (rest := []) rfl h1).trans ?_
  refine (e_f (B := (68, 7, [some (vR 9 0 0), some (vI x1), some (vI x2), some (vI x3), some (vI x4), l5], [], σ1)) rfl h2).trans ?_
  refine (e_n 3 (fr' := (68, 12, [some (vR 9 0 0), some (vI x1), some (vI x2), some (vI x3), some (vI x4), l5], [vI x3, vR 5 0 0], σ1)) rfl).trans ?_
  refine (e_ci (m := 68) (pc := 15) (ls := [some (vR 9 0 0), some (vI x1), some (vI x2), some (vI x3), some (vI x4), l5]) (rest := []) rfl h3).trans ?_
  refine (e_f (B := (68, 18, [some (vR 9 0 0), some (vI x1), some (vI x2), some (vI x3), some (vI x4), l5], [], σ2)) rfl h4).trans ?_
  refine (e_n 3 (fr' := (68, 24, [some (vR 9 0 0), some (vI x1), some (vI x2), some (vI x3), some (vI x4), l5], [vI x4, vR 5 0 0], σ2)) rfl).trans ?_
  refine (e_ci (m := 68) (pc := 27) (ls := [some (vR 9 0 0), some (vI x1), some (vI x2), some (vI x3), some (vI x4), l5]) (rest := []) rfl h5).trans ?_
  refine (e_f (B := (68, 32, [some (vR 9 0 0), some (vI x1), some (vI x2), some (vI x3), some (vI x4), l5], [], σ3)) rfl h6).trans ?_
  refine (e_n 1 (fr' := (68, 33, [some (vR 9 0 0), some (vI x1), some (vI x2), some (vI x3), some (vI x4), l5], [vI x2], σ3)) rfl).trans ?_
  refine (e_ci (m := 68) (pc := 36) (ls := [some (vR 9 0 0), some (vI x1), some (vI x2), some (vI x3), some (vI x4), l5]) (rest := []) rfl h7).trans ?_
  refine (e_f (B := (68, 39, [some (vR 9 0 0), some (vI x1), some (vI x2), some (vI x3), some (vI x4), l5], [], σ4)) rfl h8).trans ?_
  refine (e_n 4 (fr' := (68, 47, [some (vR 9 0 0), some (vI x1), some (vI x2), some (vI x3), some (vI x4), l5], [vI x3, vR 5 0 1], σ4)) rfl).trans ?_
  refine (e_a (A := (68, 48, [some (vR 9 0 0), some (vI x1), some (vI x2), some (vI x3), some (vI x4), l5], [vI (σ4.1 5 0 0 (x3).toNatClampNeg)], σ4)) rfl h9).trans ?_
  refine (e_n 1 (fr' := (68, 49, [some (vR 9 0 0), some (vI x1), some (vI x2), some (vI x3), some (vI x4), l5], [vI (1 : Int32), vI (σ4.1 5 0 0 (x3).toNatClampNeg)], σ4)) rfl).trans ?_
  refine (e_f (B := (68, 65, [some (vR 9 0 0), some (vI x1), some (vI x2), some (vI x3), some (vI x4), l5], [], σ4)) rfl h10).trans ?_
  refine (e_n 1 (fr' := (68, 67, [some (vR 9 0 0), some (vI x1), some (vI x2), some (vI x3), some (vI x4), l5], [vI (-2 : Int32)], σ4)) rfl).trans ?_
  exact e_r rfl
set_option maxRecDepth 20000 in
theorem g69_0_0 (C : pmC) {σ : pmS} {x1 : Int32} {x2 : Int32} {σ1 : pmS} {r1 : Int32} (h1 : C 32 [vR 5 0 0, vI x1] σ = some (some (vI r1), σ1)) (h2 : r1 = 0) : pm_Rn C (69, 0, [some (vR 9 0 0), some (vI x1), some (vI x2)], [], σ) = some (some (vI (-1 : Int32)), σ1) := by
  refine (e_n 3 (fr' := (69, 5, [some (vR 9 0 0), some (vI x1), some (vI x2)], [vI x1, vR 5 0 0], σ)) rfl).trans ?_
  refine (e_ci (m := 69) (pc := 8) (ls := [some (vR 9 0 0), some (vI x1), some (vI x2)]) (rest := []) rfl h1).trans ?_
  refine (e_t (A := (69, 11, [some (vR 9 0 0), some (vI x1), some (vI x2)], [], σ1)) rfl h2).trans ?_
  refine (e_n 1 (fr' := (69, 12, [some (vR 9 0 0), some (vI x1), some (vI x2)], [vI (-1 : Int32)], σ1)) rfl).trans ?_
  exact e_r rfl
set_option maxRecDepth 20000 in
theorem g69_0_1 (C : pmC) {σ : pmS} {x1 : Int32} {x2 : Int32} {σ1 : pmS} {r1 : Int32} (h1 : C 32 [vR 5 0 0, vI x1] σ = some (some (vI r1), σ1)) (h2 : ¬ r1 = 0) (h3 : vp_in x1 48) (h4 : x2 ≤ (σ1.1 5 0 1 (x1).toNatClampNeg)) : pm_Rn C (69, 0, [some (vR 9 0 0), some (vI x1), some (vI x2)], [], σ) = some (some (vI (-2 : Int32)), σ1) := by
  refine (e_n 3 (fr' := (69, 5, [some (vR 9 0 0), some (vI x1), some (vI x2)], [vI x1, vR 5 0 0], σ)) rfl).trans ?_
  refine (e_ci (m := 69) (pc := 8) (ls := [some (vR 9 0 0), some (vI x1), some (vI x2)]) (rest := []) rfl h1).trans ?_
  refine (e_f (B := (69, 13, [some (vR 9 0 0), some (vI x1), some (vI x2)], [], σ1)) rfl h2).trans ?_
  refine (e_n 5 (fr' := (69, 22, [some (vR 9 0 0), some (vI x1), some (vI x2)], [vI x1, vR 5 0 2, vI x2], σ1)) rfl).trans ?_
  refine (e_a (A := (69, 23, [some (vR 9 0 0), some (vI x1), some (vI x2)], [vI (σ1.1 5 0 1 (x1).toNatClampNeg), vI x2], σ1)) rfl h3).trans ?_
  refine (e_t (A := (69, 33, [some (vR 9 0 0), some (vI x1), some (vI x2)], [], σ1)) rfl h4).trans ?_
  refine (e_n 1 (fr' := (69, 35, [some (vR 9 0 0), some (vI x1), some (vI x2)], [vI (-2 : Int32)], σ1)) rfl).trans ?_
  exact e_r rfl
set_option maxRecDepth 20000 in
theorem g69_0_2 (C : pmC) {σ : pmS} {x1 : Int32} {x2 : Int32} {σ1 : pmS} {r1 : Int32} (h1 : C 32 [vR 5 0 0, vI x1] σ = some (some (vI r1), σ1)) (h2 : ¬ r1 = 0) (h3 : vp_in x1 48) (h4 : ¬ x2 ≤ (σ1.1 5 0 1 (x1).toNatClampNeg)) (h5 : x2 ≤ (1000 : Int32)) (h6 : (σ1.1 5 0 2 (x1).toNatClampNeg) = (-1 : Int32)) : pm_Rn C (69, 0, [some (vR 9 0 0), some (vI x1), some (vI x2)], [], σ) = some (some (vI (0 : Int32)), (pm_wi σ1 5 0 2 (x1).toNatClampNeg x2)) := by
  refine (e_n 3 (fr' := (69, 5, [some (vR 9 0 0), some (vI x1), some (vI x2)], [vI x1, vR 5 0 0], σ)) rfl).trans ?_
  refine (e_ci (m := 69) (pc := 8) (ls := [some (vR 9 0 0), some (vI x1), some (vI x2)]) (rest := []) rfl h1).trans ?_
  refine (e_f (B := (69, 13, [some (vR 9 0 0), some (vI x1), some (vI x2)], [], σ1)) rfl h2).trans ?_
  refine (e_n 5 (fr' := (69, 22, [some (vR 9 0 0), some (vI x1), some (vI x2)], [vI x1, vR 5 0 2, vI x2], σ1)) rfl).trans ?_
  refine (e_a (A := (69, 23, [some (vR 9 0 0), some (vI x1), some (vI x2)], [vI (σ1.1 5 0 1 (x1).toNatClampNeg), vI x2], σ1)) rfl h3).trans ?_
  refine (e_f (B := (69, 26, [some (vR 9 0 0), some (vI x1), some (vI x2)], [], σ1)) rfl h4).trans ?_
  refine (e_n 2 (fr' := (69, 30, [some (vR 9 0 0), some (vI x1), some (vI x2)], [vI (1000 : Int32), vI x2], σ1)) rfl).trans ?_
  refine (e_t (A := (69, 36, [some (vR 9 0 0), some (vI x1), some (vI x2)], [], σ1)) rfl h5).trans ?_
  refine (e_n 4 (fr' := (69, 44, [some (vR 9 0 0), some (vI x1), some (vI x2)], [vI x1, vR 5 0 3], σ1)) rfl).trans ?_
  refine (e_a (A := (69, 45, [some (vR 9 0 0), some (vI x1), some (vI x2)], [vI (σ1.1 5 0 2 (x1).toNatClampNeg)], σ1)) rfl h3).trans ?_
  refine (e_n 1 (fr' := (69, 46, [some (vR 9 0 0), some (vI x1), some (vI x2)], [vI (-1 : Int32), vI (σ1.1 5 0 2 (x1).toNatClampNeg)], σ1)) rfl).trans ?_
  refine (e_t (A := (69, 52, [some (vR 9 0 0), some (vI x1), some (vI x2)], [], σ1)) rfl h6).trans ?_
  refine (e_n 5 (fr' := (69, 61, [some (vR 9 0 0), some (vI x1), some (vI x2)], [vI x2, vI x1, vR 5 0 3], σ1)) rfl).trans ?_
  refine (e_a (A := (69, 62, [some (vR 9 0 0), some (vI x1), some (vI x2)], [], (pm_wi σ1 5 0 2 (x1).toNatClampNeg x2))) rfl h3).trans ?_
  refine (e_n 1 (fr' := (69, 63, [some (vR 9 0 0), some (vI x1), some (vI x2)], [vI (0 : Int32)], (pm_wi σ1 5 0 2 (x1).toNatClampNeg x2))) rfl).trans ?_
  exact e_r rfl
set_option maxRecDepth 20000 in
theorem g69_0_3 (C : pmC) {σ : pmS} {x1 : Int32} {x2 : Int32} {σ1 : pmS} {r1 : Int32} (h1 : C 32 [vR 5 0 0, vI x1] σ = some (some (vI r1), σ1)) (h2 : ¬ r1 = 0) (h3 : vp_in x1 48) (h4 : ¬ x2 ≤ (σ1.1 5 0 1 (x1).toNatClampNeg)) (h5 : x2 ≤ (1000 : Int32)) (h6 : ¬ (σ1.1 5 0 2 (x1).toNatClampNeg) = (-1 : Int32)) : pm_Rn C (69, 0, [some (vR 9 0 0), some (vI x1), some (vI x2)], [], σ) = some (some (vI (-3 : Int32)), σ1) := by
  refine (e_n 3 (fr' := (69, 5, [some (vR 9 0 0), some (vI x1), some (vI x2)], [vI x1, vR 5 0 0], σ)) rfl).trans ?_
  refine (e_ci (m := 69) (pc := 8) (ls := [some (vR 9 0 0), some (vI x1), some (vI x2)]) (rest := []) rfl h1).trans ?_
  refine (e_f (B := (69, 13, [some (vR 9 0 0), some (vI x1), some (vI x2)], [], σ1)) rfl h2).trans ?_
  refine (e_n 5 (fr' := (69, 22, [some (vR 9 0 0), some (vI x1), some (vI x2)], [vI x1, vR 5 0 2, vI x2], σ1)) rfl).trans ?_
  refine (e_a (A := (69, 23, [some (vR 9 0 0), some (vI x1), some (vI x2)], [vI (σ1.1 5 0 1 (x1).toNatClampNeg), vI x2], σ1)) rfl h3).trans ?_
  refine (e_f (B := (69, 26, [some (vR 9 0 0), some (vI x1), some (vI x2)], [], σ1)) rfl h4).trans ?_
  refine (e_n 2 (fr' := (69, 30, [some (vR 9 0 0), some (vI x1), some (vI x2)], [vI (1000 : Int32), vI x2], σ1)) rfl).trans ?_
  refine (e_t (A := (69, 36, [some (vR 9 0 0), some (vI x1), some (vI x2)], [], σ1)) rfl h5).trans ?_
  refine (e_n 4 (fr' := (69, 44, [some (vR 9 0 0), some (vI x1), some (vI x2)], [vI x1, vR 5 0 3], σ1)) rfl).trans ?_
  refine (e_a (A := (69, 45, [some (vR 9 0 0), some (vI x1), some (vI x2)], [vI (σ1.1 5 0 2 (x1).toNatClampNeg)], σ1)) rfl h3).trans ?_
  refine (e_n 1 (fr' := (69, 46, [some (vR 9 0 0), some (vI x1), some (vI x2)], [vI (-1 : Int32), vI (σ1.1 5 0 2 (x1).toNatClampNeg)], σ1)) rfl).trans ?_
  refine (e_f (B := (69, 49, [some (vR 9 0 0), some (vI x1), some (vI x2)], [], σ1)) rfl h6).trans ?_
  refine (e_n 1 (fr' := (69, 51, [some (vR 9 0 0), some (vI x1), some (vI x2)], [vI (-3 : Int32)], σ1)) rfl).trans ?_
  exact e_r rfl
set_option maxRecDepth 20000 in
theorem g69_0_4 (C : pmC) {σ : pmS} {x1 : Int32} {x2 : Int32} {σ1 : pmS} {r1 : Int32} (h1 : C 32 [vR 5 0 0, vI x1] σ = some (some (vI r1), σ1)) (h2 : ¬ r1 = 0) (h3 : vp_in x1 48) (h4 : ¬ x2 ≤ (σ1.1 5 0 1 (x1).toNatClampNeg)) (h5 : ¬ x2 ≤ (1000 : Int32)) : pm_Rn C (69, 0, [some (vR 9 0 0), some (vI x1), some (vI x2)], [], σ) = some (some (vI (-2 : Int32)), σ1) := by
  refine (e_n 3 (fr' := (69, 5, [some (vR 9 0 0), some (vI x1), some (vI x2)], [vI x1, vR 5 0 0], σ)) rfl).trans ?_
  refine (e_ci (m := 69) (pc := 8) (ls := [some (vR 9 0 0), some (vI x1), some (vI x2)]) (rest := []) rfl h1).trans ?_
  refine (e_f (B := (69, 13, [some (vR 9 0 0), some (vI x1), some (vI x2)], [], σ1)) rfl h2).trans ?_
  refine (e_n 5 (fr' := (69, 22, [some (vR 9 0 0), some (vI x1), some (vI x2)], [vI x1, vR 5 0 2, vI x2], σ1)) rfl).trans ?_
  refine (e_a (A := (69, 23, [some (vR 9 0 0), some (vI x1), some (vI x2)], [vI (σ1.1 5 0 1 (x1).toNatClampNeg), vI x2], σ1)) rfl h3).trans ?_
  refine (e_f (B := (69, 26, [some (vR 9 0 0), some (vI x1), some (vI x2)], [], σ1)) rfl h4).trans ?_
  refine (e_n 2 (fr' := (69, 30, [some (vR 9 0 0), some (vI x1), some (vI x2)], [vI (1000 : Int32), vI x2], σ1)) rfl).trans ?_
  refine (e_f (B := (69, 33, [some (vR 9 0 0), some (vI x1), some (vI x2)], [], σ1)) rfl h5).trans ?_
  refine (e_n 1 (fr' := (69, 35, [some (vR 9 0 0), some (vI x1), some (vI x2)], [vI (-2 : Int32)], σ1)) rfl).trans ?_
  exact e_r rfl
set_option maxRecDepth 20000 in
theorem g70_0_0 (C : pmC) {σ : pmS} {x1 : Int32} {l2 : Option pmV} (h1 : x1 < 0) : pm_Rn C (70, 0, [some (vR 9 0 0), some (vI x1), l2], [], σ) = some (some (vI (-2 : Int32)), σ) := by
  refine (e_n 1 (fr' := (70, 1, [some (vR 9 0 0), some (vI x1), l2], [vI x1], σ)) rfl).trans ?_
  refine (e_t (A := (70, 10, [some (vR 9 0 0), some (vI x1), l2], [], σ)) rfl h1).trans ?_
  refine (e_n 1 (fr' := (70, 12, [some (vR 9 0 0), some (vI x1), l2], [vI (-2 : Int32)], σ)) rfl).trans ?_
  exact e_r rfl
set_option maxRecDepth 20000 in
theorem g70_0_1 (C : pmC) {σ : pmS} {x1 : Int32} {l2 : Option pmV} (h1 : ¬ x1 < 0) (h2 : x1 ≤ (40 : Int32)) : pm_Rn C (70, 0, [some (vR 9 0 0), some (vI x1), l2], [], σ) = some (some (vI (σ.1 9 0 11 0)), (pm_wi σ 9 0 11 0 x1)) := by
  refine (e_n 1 (fr' := (70, 1, [some (vR 9 0 0), some (vI x1), l2], [vI x1], σ)) rfl).trans ?_
  refine (e_f (B := (70, 4, [some (vR 9 0 0), some (vI x1), l2], [], σ)) rfl h1).trans ?_
  refine (e_n 2 (fr' := (70, 7, [some (vR 9 0 0), some (vI x1), l2], [vI (40 : Int32), vI x1], σ)) rfl).trans ?_
  refine (e_t (A := (70, 13, [some (vR 9 0 0), some (vI x1), l2], [], σ)) rfl h2).trans ?_
  refine (e_n 7 (fr' := (70, 24, [some (vR 9 0 0), some (vI x1), some (vI (σ.1 9 0 11 0))], [vI (σ.1 9 0 11 0)], (pm_wi σ 9 0 11 0 x1))) rfl).trans ?_
  exact e_r rfl
set_option maxRecDepth 20000 in
theorem g70_0_2 (C : pmC) {σ : pmS} {x1 : Int32} {l2 : Option pmV} (h1 : ¬ x1 < 0) (h2 : ¬ x1 ≤ (40 : Int32)) : pm_Rn C (70, 0, [some (vR 9 0 0), some (vI x1), l2], [], σ) = some (some (vI (-2 : Int32)), σ) := by
  refine (e_n 1 (fr' := (70, 1, [some (vR 9 0 0), some (vI x1), l2], [vI x1], σ)) rfl).trans ?_
  refine (e_f (B := (70, 4, [some (vR 9 0 0), some (vI x1), l2], [], σ)) rfl h1).trans ?_
  refine (e_n 2 (fr' := (70, 7, [some (vR 9 0 0), some (vI x1), l2], [vI (40 : Int32), vI x1], σ)) rfl).trans ?_
  refine (e_f (B := (70, 10, [some (vR 9 0 0), some (vI x1), l2], [], σ)) rfl h2).trans ?_
  refine (e_n 1 (fr' := (70, 12, [some (vR 9 0 0), some (vI x1), l2], [vI (-2 : Int32)], σ)) rfl).trans ?_
  exact e_r rfl
set_option maxRecDepth 20000 in
theorem g71_0_0 (C : pmC) {σ : pmS} {x1 : Int32} {x2 : Int32} {x3 : Int32} {l4 : Option pmV} {σ1 : pmS} {r1 : Int32} {σ2 : pmS} {r2 : Int32} (h1 : C 72 [vR 9 0 0, vI x1, vI x2, vI x3] σ = some (some (vI r1), σ1)) (h2 : 0 ≤ r1) (h3 : r1 < (1 : Int32)) (h4 : C 51 [vR 8 0 0, vI x1, vI x2, vI x3] σ1 = some (some (vI r2), σ2)) (h5 : r2 = 0) : pm_Rn C (71, 0, [some (vR 9 0 0), some (vI x1), some (vI x2), some (vI x3), l4], [], σ) = some (some (vI (-4 : Int32)), σ2) := by
  refine (e_n 4 (fr' := (71, 4, [some (vR 9 0 0), some (vI x1), some (vI x2), some (vI x3), l4], [vI x3, vI x2, vI x1, vR 9 0 0], σ)) rfl).trans ?_
  refine (e_ci (m := 71) (pc := 7) (ls := [some (vR 9 0 0), some (vI x1), some (vI x2), some (vI x3), l4]) (rest := []) rfl h1).trans ?_
  refine (e_n 2 (fr' := (71, 11, [some (vR 9 0 0), some (vI x1), some (vI x2), some (vI x3), some (vI r1)], [vI r1], σ1)) rfl).trans ?_
  refine (e_t (A := (71, 17, [some (vR 9 0 0), some (vI x1), some (vI x2), some (vI x3), some (vI r1)], [], σ1)) rfl h2).trans ?_
  refine (e_n 2 (fr' := (71, 20, [some (vR 9 0 0), some (vI x1), some (vI x2), some (vI x3), some (vI r1)], [vI (1 : Int32), vI r1], σ1)) rfl).trans ?_
  refine (e_t (A := (71, 32, [some (vR 9 0 0), some (vI x1), some (vI x2), some (vI x3), some (vI r1)], [], σ1)) rfl h3).trans ?_
  refine (e_n 5 (fr' := (71, 39, [some (vR 9 0 0), some (vI x1), some (vI x2), some (vI x3), some (vI r1)], [vI x3, vI x2, vI x1, vR 8 0 0], σ1)) rfl).trans ?_
  refine (e_ci (m := 71) (pc := 42) (ls := [some (vR 9 0 0), some (vI x1), some (vI x2), some (vI x3), some (vI r1)]) (rest := []) rfl h4).trans ?_
  refine (e_t (A := (71, 45, [some (vR 9 0 0), some (vI x1), some (vI x2), some (vI x3), some (vI r1)], [], σ2)) rfl h5).trans ?_
  refine (e_n 1 (fr' := (71, 47, [some (vR 9 0 0), some (vI x1), some (vI x2), some (vI x3), some (vI r1)], [vI (-4 : Int32)], σ2)) rfl).trans ?_
  exact e_r rfl
set_option maxRecDepth 20000 in
theorem g71_0_1 (C : pmC) {σ : pmS} {x1 : Int32} {x2 : Int32} {x3 : Int32} {l4 : Option pmV} {σ1 : pmS} {r1 : Int32} {σ2 : pmS} {r2 : Int32} (h1 : C 72 [vR 9 0 0, vI x1, vI x2, vI x3] σ = some (some (vI r1), σ1)) (h2 : 0 ≤ r1) (h3 : r1 < (1 : Int32)) (h4 : C 51 [vR 8 0 0, vI x1, vI x2, vI x3] σ1 = some (some (vI r2), σ2)) (h5 : ¬ r2 = 0) (h6 : r1 = 0) : pm_Rn C (71, 0, [some (vR 9 0 0), some (vI x1), some (vI x2), some (vI x3), l4], [], σ) = some (some (vI (1 : Int32)), σ2) := by
  refine (e_n 4 (fr' := (71, 4, [some (vR 9 0 0), some (vI x1), some (vI x2), some (vI x3), l4], [vI x3, vI x2, vI x1, vR 9 0 0], σ)) rfl).trans ?_
  refine (e_ci (m := 71) (pc := 7) (ls := [some (vR 9 0 0), some (vI x1), some (vI x2), some (vI x3), l4]) (rest := []) rfl h1).trans ?_
  refine (e_n 2 (fr' := (71, 11, [some (vR 9 0 0), some (vI x1), some (vI x2), some (vI x3), some (vI r1)], [vI r1], σ1)) rfl).trans ?_
  refine (e_t (A := (71, 17, [some (vR 9 0 0), some (vI x1), some (vI x2), some (vI x3), some (vI r1)], [], σ1)) rfl h2).trans ?_
  refine (e_n 2 (fr' := (71, 20, [some (vR 9 0 0), some (vI x1), some (vI x2), some (vI x3), some (vI r1)], [vI (1 : Int32), vI r1], σ1)) rfl).trans ?_
  refine (e_t (A := (71, 32, [some (vR 9 0 0), some (vI x1), some (vI x2), some (vI x3), some (vI r1)], [], σ1)) rfl h3).trans ?_
  refine (e_n 5 (fr' := (71, 39, [some (vR 9 0 0), some (vI x1), some (vI x2), some (vI x3), some (vI r1)], [vI x3, vI x2, vI x1, vR 8 0 0], σ1)) rfl).trans ?_
  refine (e_ci (m := 71) (pc := 42) (ls := [some (vR 9 0 0), some (vI x1), some (vI x2), some (vI x3), some (vI r1)]) (rest := []) rfl h4).trans ?_
  refine (e_f (B := (71, 48, [some (vR 9 0 0), some (vI x1), some (vI x2), some (vI x3), some (vI r1)], [], σ2)) rfl h5).trans ?_
  refine (e_n 1 (fr' := (71, 50, [some (vR 9 0 0), some (vI x1), some (vI x2), some (vI x3), some (vI r1)], [vI r1], σ2)) rfl).trans ?_
  refine (e_t (A := (71, 53, [some (vR 9 0 0), some (vI x1), some (vI x2), some (vI x3), some (vI r1)], [], σ2)) rfl h6).trans ?_
  refine (e_n 2 (fr' := (71, 58, [some (vR 9 0 0), some (vI x1), some (vI x2), some (vI x3), some (vI r1)], [vI (1 : Int32)], σ2)) rfl).trans ?_
  exact e_r rfl
set_option maxRecDepth 20000 in
theorem g71_0_2 (C : pmC) {σ : pmS} {x1 : Int32} {x2 : Int32} {x3 : Int32} {l4 : Option pmV} {σ1 : pmS} {r1 : Int32} {σ2 : pmS} {r2 : Int32} (h1 : C 72 [vR 9 0 0, vI x1, vI x2, vI x3] σ = some (some (vI r1), σ1)) (h2 : 0 ≤ r1) (h3 : r1 < (1 : Int32)) (h4 : C 51 [vR 8 0 0, vI x1, vI x2, vI x3] σ1 = some (some (vI r2), σ2)) (h5 : ¬ r2 = 0) (h6 : ¬ r1 = 0) : pm_Rn C (71, 0, [some (vR 9 0 0), some (vI x1), some (vI x2), some (vI x3), l4], [], σ) = some (some (vI (0 : Int32)), σ2) := by
  refine (e_n 4 (fr' := (71, 4, [some (vR 9 0 0), some (vI x1), some (vI x2), some (vI x3), l4], [vI x3, vI x2, vI x1, vR 9 0 0], σ)) rfl).trans ?_
  refine (e_ci (m := 71) (pc := 7) (ls := [some (vR 9 0 0), some (vI x1), some (vI x2), some (vI x3), l4]) (rest := []) rfl h1).trans ?_
  refine (e_n 2 (fr' := (71, 11, [some (vR 9 0 0), some (vI x1), some (vI x2), some (vI x3), some (vI r1)], [vI r1], σ1)) rfl).trans ?_
  refine (e_t (A := (71, 17, [some (vR 9 0 0), some (vI x1), some (vI x2), some (vI x3), some (vI r1)], [], σ1)) rfl h2).trans ?_
  refine (e_n 2 (fr' := (71, 20, [some (vR 9 0 0), some (vI x1), some (vI x2), some (vI x3), some (vI r1)], [vI (1 : Int32), vI r1], σ1)) rfl).trans ?_
  refine (e_t (A := (71, 32, [some (vR 9 0 0), some (vI x1), some (vI x2), some (vI x3), some (vI r1)], [], σ1)) rfl h3).trans ?_
  refine (e_n 5 (fr' := (71, 39, [some (vR 9 0 0), some (vI x1), some (vI x2), some (vI x3), some (vI r1)], [vI x3, vI x2, vI x1, vR 8 0 0], σ1)) rfl).trans ?_
  refine (e_ci (m := 71) (pc := 42) (ls := [some (vR 9 0 0), some (vI x1), some (vI x2), some (vI x3), some (vI r1)]) (rest := []) rfl h4).trans ?_
  refine (e_f (B := (71, 48, [some (vR 9 0 0), some (vI x1), some (vI x2), some (vI x3), some (vI r1)], [], σ2)) rfl h5).trans ?_
  refine (e_n 1 (fr' := (71, 50, [some (vR 9 0 0), some (vI x1), some (vI x2), some (vI x3), some (vI r1)], [vI r1], σ2)) rfl).trans ?_
  refine (e_f (B := (71, 57, [some (vR 9 0 0), some (vI x1), some (vI x2), some (vI x3), some (vI r1)], [], σ2)) rfl h6).trans ?_
  refine (e_n 1 (fr' := (71, 58, [some (vR 9 0 0), some (vI x1), some (vI x2), some (vI x3), some (vI r1)], [vI (0 : Int32)], σ2)) rfl).trans ?_
  exact e_r rfl
set_option maxRecDepth 20000 in
theorem g71_0_3 (C : pmC) {σ : pmS} {x1 : Int32} {x2 : Int32} {x3 : Int32} {l4 : Option pmV} {σ1 : pmS} {r1 : Int32} {σ2 : pmS} {r2 : Int32} (h1 : C 72 [vR 9 0 0, vI x1, vI x2, vI x3] σ = some (some (vI r1), σ1)) (h2 : 0 ≤ r1) (h3 : ¬ r1 < (1 : Int32)) (h4 : (4 : Int32) < r1) (h5 : C 51 [vR 8 0 0, vI x1, vI x2, vI x3] σ1 = some (some (vI r2), σ2)) (h6 : r2 = 0) : pm_Rn C (71, 0, [some (vR 9 0 0), some (vI x1), some (vI x2), some (vI x3), l4], [], σ) = some (some (vI (-4 : Int32)), σ2) := by
  refine (e_n 4 (fr' := (71, 4, [some (vR 9 0 0), some (vI x1), some (vI x2), some (vI x3), l4], [vI x3, vI x2, vI x1, vR 9 0 0], σ)) rfl).trans ?_
  refine (e_ci (m := 71) (pc := 7) (ls := [some (vR 9 0 0), some (vI x1), some (vI x2), some (vI x3), l4]) (rest := []) rfl h1).trans ?_
  refine (e_n 2 (fr' := (71, 11, [some (vR 9 0 0), some (vI x1), some (vI x2), some (vI x3), some (vI r1)], [vI r1], σ1)) rfl).trans ?_
  refine (e_t (A := (71, 17, [some (vR 9 0 0), some (vI x1), some (vI x2), some (vI x3), some (vI r1)], [], σ1)) rfl h2).trans ?_
  refine (e_n 2 (fr' := (71, 20, [some (vR 9 0 0), some (vI x1), some (vI x2), some (vI x3), some (vI r1)], [vI (1 : Int32), vI r1], σ1)) rfl).trans ?_
  refine (e_f (B := (71, 23, [some (vR 9 0 0), some (vI x1), some (vI x2), some (vI x3), some (vI r1)], [], σ1)) rfl h3).trans ?_
  refine (e_n 2 (fr' := (71, 26, [some (vR 9 0 0), some (vI x1), some (vI x2), some (vI x3), some (vI r1)], [vI (4 : Int32), vI r1], σ1)) rfl).trans ?_
  refine (e_t (A := (71, 32, [some (vR 9 0 0), some (vI x1), some (vI x2), some (vI x3), some (vI r1)], [], σ1)) rfl h4).trans ?_
  refine (e_n 5 (fr' := (71, 39, [some (vR 9 0 0), some (vI x1), some (vI x2), some (vI x3), some (vI r1)], [vI x3, vI x2, vI x1, vR 8 0 0], σ1)) rfl).trans ?_
  refine (e_ci (m := 71) (pc := 42) (ls := [some (vR 9 0 0), some (vI x1), some (vI x2), some (vI x3), some (vI r1)]) (rest := []) rfl h5).trans ?_
  refine (e_t (A := (71, 45, [some (vR 9 0 0), some (vI x1), some (vI x2), some (vI x3), some (vI r1)], [], σ2)) rfl h6).trans ?_
  refine (e_n 1 (fr' := (71, 47, [some (vR 9 0 0), some (vI x1), some (vI x2), some (vI x3), some (vI r1)], [vI (-4 : Int32)], σ2)) rfl).trans ?_
  exact e_r rfl
set_option maxRecDepth 20000 in
theorem g71_0_4 (C : pmC) {σ : pmS} {x1 : Int32} {x2 : Int32} {x3 : Int32} {l4 : Option pmV} {σ1 : pmS} {r1 : Int32} {σ2 : pmS} {r2 : Int32} (h1 : C 72 [vR 9 0 0, vI x1, vI x2, vI x3] σ = some (some (vI r1), σ1)) (h2 : 0 ≤ r1) (h3 : ¬ r1 < (1 : Int32)) (h4 : (4 : Int32) < r1) (h5 : C 51 [vR 8 0 0, vI x1, vI x2, vI x3] σ1 = some (some (vI r2), σ2)) (h6 : ¬ r2 = 0) (h7 : r1 = 0) : pm_Rn C (71, 0, [some (vR 9 0 0), some (vI x1), some (vI x2), some (vI x3), l4], [], σ) = some (some (vI (1 : Int32)), σ2) := by
  refine (e_n 4 (fr' := (71, 4, [some (vR 9 0 0), some (vI x1), some (vI x2), some (vI x3), l4], [vI x3, vI x2, vI x1, vR 9 0 0], σ)) rfl).trans ?_
  refine (e_ci (m := 71) (pc := 7) (ls := [some (vR 9 0 0), some (vI x1), some (vI x2), some (vI x3), l4]) (rest := []) rfl h1).trans ?_
  refine (e_n 2 (fr' := (71, 11, [some (vR 9 0 0), some (vI x1), some (vI x2), some (vI x3), some (vI r1)], [vI r1], σ1)) rfl).trans ?_
  refine (e_t (A := (71, 17, [some (vR 9 0 0), some (vI x1), some (vI x2), some (vI x3), some (vI r1)], [], σ1)) rfl h2).trans ?_
  refine (e_n 2 (fr' := (71, 20, [some (vR 9 0 0), some (vI x1), some (vI x2), some (vI x3), some (vI r1)], [vI (1 : Int32), vI r1], σ1)) rfl).trans ?_
  refine (e_f (B := (71, 23, [some (vR 9 0 0), some (vI x1), some (vI x2), some (vI x3), some (vI r1)], [], σ1)) rfl h3).trans ?_
  refine (e_n 2 (fr' := (71, 26, [some (vR 9 0 0), some (vI x1), some (vI x2), some (vI x3), some (vI r1)], [vI (4 : Int32), vI r1], σ1)) rfl).trans ?_
  refine (e_t (A := (71, 32, [some (vR 9 0 0), some (vI x1), some (vI x2), some (vI x3), some (vI r1)], [], σ1)) rfl h4).trans ?_
  refine (e_n 5 (fr' := (71, 39, [some (vR 9 0 0), some (vI x1), some (vI x2), some (vI x3), some (vI r1)], [vI x3, vI x2, vI x1, vR 8 0 0], σ1)) rfl).trans ?_
  refine (e_ci (m := 71) (pc := 42) (ls := [some (vR 9 0 0), some (vI x1), some (vI x2), some (vI x3), some (vI r1)]) (rest := []) rfl h5).trans ?_
  refine (e_f (B := (71, 48, [some (vR 9 0 0), some (vI x1), some (vI x2), some (vI x3), some (vI r1)], [], σ2)) rfl h6).trans ?_
  refine (e_n 1 (fr' := (71, 50, [some (vR 9 0 0), some (vI x1), some (vI x2), some (vI x3), some (vI r1)], [vI r1], σ2)) rfl).trans ?_
  refine (e_t (A := (71, 53, [some (vR 9 0 0), some (vI x1), some (vI x2), some (vI x3), some (vI r1)], [], σ2)) rfl h7).trans ?_
  refine (e_n 2 (fr' := (71, 58, [some (vR 9 0 0), some (vI x1), some (vI x2), some (vI x3), some (vI r1)], [vI (1 : Int32)], σ2)) rfl).trans ?_
  exact e_r rfl
set_option maxRecDepth 20000 in
theorem g71_0_5 (C : pmC) {σ : pmS} {x1 : Int32} {x2 : Int32} {x3 : Int32} {l4 : Option pmV} {σ1 : pmS} {r1 : Int32} {σ2 : pmS} {r2 : Int32} (h1 : C 72 [vR 9 0 0, vI x1, vI x2, vI x3] σ = some (some (vI r1), σ1)) (h2 : 0 ≤ r1) (h3 : ¬ r1 < (1 : Int32)) (h4 : (4 : Int32) < r1) (h5 : C 51 [vR 8 0 0, vI x1, vI x2, vI x3] σ1 = some (some (vI r2), σ2)) (h6 : ¬ r2 = 0) (h7 : ¬ r1 = 0) : pm_Rn C (71, 0, [some (vR 9 0 0), some (vI x1), some (vI x2), some (vI x3), l4], [], σ) = some (some (vI (0 : Int32)), σ2) := by
  refine (e_n 4 (fr' := (71, 4, [some (vR 9 0 0), some (vI x1), some (vI x2), some (vI x3), l4], [vI x3, vI x2, vI x1, vR 9 0 0], σ)) rfl).trans ?_
  refine (e_ci (m := 71) (pc := 7) (ls := [some (vR 9 0 0), some (vI x1), some (vI x2), some (vI x3), l4]) (rest := []) rfl h1).trans ?_
  refine (e_n 2 (fr' := (71, 11, [some (vR 9 0 0), some (vI x1), some (vI x2), some (vI x3), some (vI r1)], [vI r1], σ1)) rfl).trans ?_
  refine (e_t (A := (71, 17, [some (vR 9 0 0), some (vI x1), some (vI x2), some (vI x3), some (vI r1)], [], σ1)) rfl h2).trans ?_
  refine (e_n 2 (fr' := (71, 20, [some (vR 9 0 0), some (vI x1), some (vI x2), some (vI x3), some (vI r1)], [vI (1 : Int32), vI r1], σ1)) rfl).trans ?_
  refine (e_f (B := (71, 23, [some (vR 9 0 0), some (vI x1), some (vI x2), some (vI x3), some (vI r1)], [], σ1)) rfl h3).trans ?_
  refine (e_n 2 (fr' := (71, 26, [some (vR 9 0 0), some (vI x1), some (vI x2), some (vI x3), some (vI r1)], [vI (4 : Int32), vI r1], σ1)) rfl).trans ?_
  refine (e_t (A := (71, 32, [some (vR 9 0 0), some (vI x1), some (vI x2), some (vI x3), some (vI r1)], [], σ1)) rfl h4).trans ?_
  refine (e_n 5 (fr' := (71, 39, [some (vR 9 0 0), some (vI x1), some (vI x2), some (vI x3), some (vI r1)], [vI x3, vI x2, vI x1, vR 8 0 0], σ1)) rfl).trans ?_
  refine (e_ci (m := 71) (pc := 42) (ls := [some (vR 9 0 0), some (vI x1), some (vI x2), some (vI x3), some (vI r1)]) (rest := []) rfl h5).trans ?_
  refine (e_f (B := (71, 48, [some (vR 9 0 0), some (vI x1), some (vI x2), some (vI x3), some (vI r1)], [], σ2)) rfl h6).trans ?_
  refine (e_n 1 (fr' := (71, 50, [some (vR 9 0 0), some (vI x1), some (vI x2), some (vI x3), some (vI r1)], [vI r1], σ2)) rfl).trans ?_
  refine (e_f (B := (71, 57, [some (vR 9 0 0), some (vI x1), some (vI x2), some (vI x3), some (vI r1)], [], σ2)) rfl h7).trans ?_
  refine (e_n 1 (fr' := (71, 58, [some (vR 9 0 0), some (vI x1), some (vI x2), some (vI x3), some (vI r1)], [vI (0 : Int32)], σ2)) rfl).trans ?_
  exact e_r rfl
set_option maxRecDepth 20000 in
theorem g71_0_6 (C : pmC) {σ : pmS} {x1 : Int32} {x2 : Int32} {x3 : Int32} {l4 : Option pmV} {σ1 : pmS} {r1 : Int32} (h1 : C 72 [vR 9 0 0, vI x1, vI x2, vI x3] σ = some (some (vI r1), σ1)) (h2 : 0 ≤ r1) (h3 : ¬ r1 < (1 : Int32)) (h4 : ¬ (4 : Int32) < r1) : pm_Rn C (71, 0, [some (vR 9 0 0), some (vI x1), some (vI x2), some (vI x3), l4], [], σ) = some (some (vI (-3 : Int32)), σ1) := by
  refine (e_n 4 (fr' := (71, 4, [some (vR 9 0 0), some (vI x1), some (vI x2), some (vI x3), l4], [vI x3, vI x2, vI x1, vR 9 0 0], σ)) rfl).trans ?_
  refine (e_ci (m := 71) (pc := 7) (ls := [some (vR 9 0 0), some (vI x1), some (vI x2), some (vI x3), l4]) (rest := []) rfl h1).trans ?_
  refine (e_n 2 (fr' := (71, 11, [some (vR 9 0 0), some (vI x1), some (vI x2), some (vI x3), some (vI r1)], [vI r1], σ1)) rfl).trans ?_
  refine (e_t (A := (71, 17, [some (vR 9 0 0), some (vI x1), some (vI x2), some (vI x3), some (vI r1)], [], σ1)) rfl h2).trans ?_
  refine (e_n 2 (fr' := (71, 20, [some (vR 9 0 0), some (vI x1), some (vI x2), some (vI x3), some (vI r1)], [vI (1 : Int32), vI r1], σ1)) rfl).trans ?_
  refine (e_f (B := (71, 23, [some (vR 9 0 0), some (vI x1), some (vI x2), some (vI x3), some (vI r1)], [], σ1)) rfl h3).trans ?_
  refine (e_n 2 (fr' := (71, 26, [some (vR 9 0 0), some (vI x1), some (vI x2), some (vI x3), some (vI r1)], [vI (4 : Int32), vI r1], σ1)) rfl).trans ?_
  refine (e_f (B := (71, 29, [some (vR 9 0 0), some (vI x1), some (vI x2), some (vI x3), some (vI r1)], [], σ1)) rfl h4).trans ?_
  refine (e_n 1 (fr' := (71, 31, [some (vR 9 0 0), some (vI x1), some (vI x2), some (vI x3), some (vI r1)], [vI (-3 : Int32)], σ1)) rfl).trans ?_
  exact e_r rfl
set_option maxRecDepth 20000 in
theorem g71_0_7 (C : pmC) {σ : pmS} {x1 : Int32} {x2 : Int32} {x3 : Int32} {l4 : Option pmV} {σ1 : pmS} {r1 : Int32} (h1 : C 72 [vR 9 0 0, vI x1, vI x2, vI x3] σ = some (some (vI r1), σ1)) (h2 : ¬ 0 ≤ r1) : pm_Rn C (71, 0, [some (vR 9 0 0), some (vI x1), some (vI x2), some (vI x3), l4], [], σ) = some (some (vI r1), σ1) := by
  refine (e_n 4 (fr' := (71, 4, [some (vR 9 0 0), some (vI x1), some (vI x2), some (vI x3), l4], [vI x3, vI x2, vI x1, vR 9 0 0], σ)) rfl).trans ?_
  refine (e_ci (m := 71) (pc := 7) (ls := [some (vR 9 0 0), some (vI x1), some (vI x2), some (vI x3), l4]) (rest := []) rfl h1).trans ?_
  refine (e_n 2 (fr' := (71, 11, [some (vR 9 0 0), some (vI x1), some (vI x2), some (vI x3), some (vI r1)], [vI r1], σ1)) rfl).trans ?_
  refine (e_f (B := (71, 14, [some (vR 9 0 0), some (vI x1), some (vI x2), some (vI x3), some (vI r1)], [], σ1)) rfl h2).trans ?_
  refine (e_n 1 (fr' := (71, 16, [some (vR 9 0 0), some (vI x1), some (vI x2), some (vI x3), some (vI r1)], [vI r1], σ1)) rfl).trans ?_
  exact e_r rfl
set_option maxRecDepth 20000 in
theorem g72_0_0 (C : pmC) {σ : pmS} {x1 : Int32} {x2 : Int32} {x3 : Int32} {l4 : Option pmV} {l5 : Option pmV} {σ1 : pmS} {r1 : Int32} (h1 : C 32 [vR 5 0 0, vI x1] σ = some (some (vI r1), σ1)) (h2 : r1 = 0) : pm_Rn C (72, 0, [some (vR 9 0 0), some (vI x1), some (vI x2), some (vI x3), l4, l5], [], σ) = some (some (vI (-1 : Int32)), σ1) := by
  refine (e_n 3 (fr' := (72, 5, [some (vR 9 0 0), some (vI x1), some (vI x2), some (vI x3), l4, l5], [vI x1, vR 5 0 0], σ)) rfl).trans ?_
  refine (e_ci (m := 72) (pc := 8) (ls := [some (vR 9 0 0), some (vI x1), some (vI x2), some (vI x3), l4, l5]) (rest := []) rfl h1).trans ?_
  refine (e_t (A := (72, 22, [some (vR 9 0 0), some (vI x1), some (vI x2), some (vI x3), l4, l5], [], σ1)) rfl h2).trans ?_
  refine (e_n 1 (fr' := (72, 23, [some (vR 9 0 0), some (vI x1), some (vI x2), some (vI x3), l4, l5], [vI (-1 : Int32)], σ1)) rfl).trans ?_
  exact e_r rfl
set_option maxRecDepth 20000 in
theorem g72_0_1 (C : pmC) {σ : pmS} {x1 : Int32} {x2 : Int32} {x3 : Int32} {l4 : Option pmV} {l5 : Option pmV} {σ1 : pmS} {r1 : Int32} {σ2 : pmS} {r2 : Int32} (h1 : C 32 [vR 5 0 0, vI x1] σ = some (some (vI r1), σ1)) (h2 : ¬ r1 = 0) (h3 : C 32 [vR 5 0 0, vI x2] σ1 = some (some (vI r2), σ2)) (h4 : r2 = 0) : pm_Rn C (72, 0, [some (vR 9 0 0), some (vI x1), some (vI x2), some (vI x3), l4, l5], [], σ) = some (some (vI (-1 : Int32)), σ2) := by
  refine (e_n 3 (fr' := (72, 5, [some (vR 9 0 0), some (vI x1), some (vI x2), some (vI x3), l4, l5], [vI x1, vR 5 0 0], σ)) rfl).trans ?_
  refine (e_ci (m := 72) (pc := 8) (ls := [some (vR 9 0 0), some (vI x1), some (vI x2), some (vI x3), l4, l5]) (rest := []) rfl h1).trans ?_
  refine (e_f (B := (72, 11, [some (vR 9 0 0), some (vI x1), some (vI x2), some (vI x3), l4, l5], [], σ1)) rfl h2).trans ?_
  refine (e_n 3 (fr' := (72, 16, [some (vR 9 0 0), some (vI x1), some (vI x2), some (vI x3), l4, l5], [vI x2, vR 5 0 0], σ1)) rfl).trans ?_
  refine (e_ci (m := 72) (pc := 19) (ls := [some (vR 9 0 0), some (vI x1), some (vI x2), some (vI x3), l4, l5]) (rest := []) rfl h3).trans ?_
  refine (e_t (A := (72, 22, [some (vR 9 0 0), some (vI x1), some (vI x2), some (vI x3), l4, l5], [], σ2)) rfl h4).trans ?_
  refine (e_n 1 (fr' := (72, 23, [some (vR 9 0 0), some (vI x1), some (vI x2), some (vI x3), l4, l5], [vI (-1 : Int32)], σ2)) rfl).trans ?_
  exact e_r rfl
set_option maxRecDepth 20000 in
theorem g72_0_2 (C : pmC) {σ : pmS} {x1 : Int32} {x2 : Int32} {x3 : Int32} {l4 : Option pmV} {l5 : Option pmV} {σ1 : pmS} {r1 : Int32} {σ2 : pmS} {r2 : Int32} {σ3 : pmS} {r3 : Int32} (h1 : C 32 [vR 5 0 0, vI x1] σ = some (some (vI r1), σ1)) (h2 : ¬ r1 = 0) (h3 : C 32 [vR 5 0 0, vI x2] σ1 = some (some (vI r2), σ2)) (h4 : ¬ r2 = 0) (h5 : C 90 [vI x3] σ2 = some (some (vI r3), σ3)) (h6 : r3 = 0) : pm_Rn C (72, 0, [some (vR 9 0 0), some (vI x1), some (vI x2), some (vI x3), l4, l5], [], σ) = some (some (vI (-2 : Int32)), σ3) := by
  refine (e_n 3 (fr' := (72, 5, [some (vR 9 0 0), some (vI x1), some (vI x2), some (vI x3), l4, l5], [vI x1, vR 5 0 0], σ)) rfl).trans ?_
  refine (e_ci (m := 72) (pc := 8) (ls := [some (vR 9 0 0), some (vI x1), some (vI x2), some (vI x3), l4, l5]) (rest := []) rfl h1).trans ?_
  refine (e_f (B := (72, 11, [some (vR 9 0 0), some (vI x1), some (vI x2), some (vI x3), l4, l5], [], σ1)) rfl h2).trans ?_
  refine (e_n 3 (fr' := (72, 16, [some (vR 9 0 0), some (vI x1), some (vI x2), some (vI x3), l4, l5], [vI x2, vR 5 0 0], σ1)) rfl).trans ?_
  refine (e_ci (m := 72) (pc := 19) (ls := [some (vR 9 0 0), some (vI x1), some (vI x2), some (vI x3), l4, l5]) (rest := []) rfl h3).trans ?_
  refine (e_f (B := (72, 24, [some (vR 9 0 0), some (vI x1), some (vI x2), some (vI x3), l4, l5], [], σ2)) rfl h4).trans ?_
  refine (e_n 1 (fr' := (72, 25, [some (vR 9 0 0), some (vI x1), some (vI x2), some (vI x3), l4, l5], [vI x3], σ2)) rfl).trans ?_
  refine (e_ci (m := 72) (pc := 28) (ls := [some (vR 9 0 0), some (vI x1), some (vI x2), some (vI x3), l4, l5]) (rest := []) rfl h5).trans ?_
  refine (e_t (A := (72, 56, [some (vR 9 0 0), some (vI x1), some (vI x2), some (vI x3), l4, l5], [], σ3)) rfl h6).trans ?_
  refine (e_n 1 (fr' := (72, 58, [some (vR 9 0 0), some (vI x1), some (vI x2), some (vI x3), l4, l5], [vI (-2 : Int32)], σ3)) rfl).trans ?_
  exact e_r rfl
set_option maxRecDepth 20000 in
theorem g72_0_3 (C : pmC) {σ : pmS} {x1 : Int32} {x2 : Int32} {x3 : Int32} {l4 : Option pmV} {l5 : Option pmV} {σ1 : pmS} {r1 : Int32} {σ2 : pmS} {r2 : Int32} {σ3 : pmS} {r3 : Int32} {σ4 : pmS} {r4 : Int32} {σ5 : pmS} {r5 : Int32} {σ6 : pmS} {r6 : Int32} (h1 : C 32 [vR 5 0 0, vI x1] σ = some (some (vI r1), σ1)) (h2 : ¬ r1 = 0) (h3 : C 32 [vR 5 0 0, vI x2] σ1 = some (some (vI r2), σ2)) (h4 : ¬ r2 = 0) (h5 : C 90 [vI x3] σ2 = some (some (vI r3), σ3)) (h6 : ¬ r3 = 0) (h7 : vp_in x1 48) (h8 : (σ3.1 5 0 0 (x1).toNatClampNeg) = 0) (h9 : vp_in x2 48) (h10 : (σ3.1 5 0 0 (x2).toNatClampNeg) = (1 : Int32)) (h11 : C 97 [vR 9 0 0, vI x1, vI x3] σ3 = some (some (vI r4), σ4)) (h12 : C 97 [vR 9 0 0, vI x2, vI x3] σ4 = some (some (vI r5), σ5)) (h13 : r4 = 0) (h14 : (r4 + r5) = 0) (h15 : C 98 [vR 9 0 0, vI x1, vI x2, vI x3] σ5 = some (some (vI r6), σ6)) : pm_Rn C (72, 0, [some (vR 9 0 0), some (vI x1), some (vI x2), some (vI x3), l4, l5], [], σ) = some (some (vI r6), σ6) := by
  refine (e_n 3 (fr' := (72, 5, [some (vR 9 0 0), some (vI x1), some (vI x2), some (vI x3), l4, l5], [vI x1, vR 5 0 0], σ)) rfl).trans ?_
  refine (e_ci (m := 72) (pc := 8) (ls := [some (vR 9 0 0), some (vI x1), some (vI x2), some (vI x3), l4, l5]) (rest := []) rfl h1).trans ?_
  refine (e_f (B := (72, 11, [some (vR 9 0 0), some (vI x1), some (vI x2), some (vI x3), l4, l5], [], σ1)) rfl h2).trans ?_
  refine (e_n 3 (fr' := (72, 16, [some (vR 9 0 0), some (vI x1), some (vI x2), some (vI x3), l4, l5], [vI x2, vR 5 0 0], σ1)) rfl).trans ?_
  refine (e_ci (m := 72) (pc := 19) (ls := [some (vR 9 0 0), some (vI x1), some (vI x2), some (vI x3), l4, l5]) (rest := []) rfl h3).trans ?_
  refine (e_f (B := (72, 24, [some (vR 9 0 0), some (vI x1), some (vI x2), some (vI x3), l4, l5], [], σ2)) rfl h4).trans ?_
  refine (e_n 1 (fr' := (72, 25, [some (vR 9 0 0), some (vI x1), some (vI x2), some (vI x3), l4, l5], [vI x3], σ2)) rfl).trans ?_
  refine (e_ci (m := 72) (pc := 28) (ls := [some (vR 9 0 0), some (vI x1), some (vI x2), some (vI x3), l4, l5]) (rest := []) rfl h5).trans ?_
  refine (e_f (B := (72, 31, [some (vR 9 0 0), some (vI x1), some (vI x2), some (vI x3), l4, l5], [], σ3)) rfl h6).trans ?_
  refine (e_n 4 (fr' := (72, 39, [some (vR 9 0 0), some (vI x1), some (vI x2), some (vI x3), l4, l5], [vI x1, vR 5 0 1], σ3)) rfl).trans ?_
  refine (e_a (A := (72, 40, [some (vR 9 0 0), some (vI x1), some (vI x2), some (vI x3), l4, l5], [vI (σ3.1 5 0 0 (x1).toNatClampNeg)], σ3)) rfl h7).trans ?_
  refine (e_t (A := (72, 43, [some (vR 9 0 0), some (vI x1), some (vI x2), some (vI x3), l4, l5], [], σ3)) rfl h8).trans ?_
  refine (e_n 4 (fr' := (72, 51, [some (vR 9 0 0), some (vI x1), some (vI x2), some (vI x3), l4, l5], [vI x2, vR 5 0 1], σ3)) rfl).trans ?_
  refine (e_a (A := (72, 52, [some (vR 9 0 0), some (vI x1), some (vI x2), some (vI x3), l4, l5], [vI (σ3.1 5 0 0 (x2).toNatClampNeg)], σ3)) rfl h9).trans ?_
  refine (e_n 1 (fr' := (72, 53, [some (vR 9 0 0), some (vI x1), some (vI x2), some (vI x3), l4, l5], [vI (1 : Int32), vI (σ3.1 5 0 0 (x2).toNatClampNeg)], σ3)) rfl).trans ?_
  refine (e_t (A := (72, 59, [some (vR 9 0 0), some (vI x1), some (vI x2), some (vI x3), l4, l5], [], σ3)) rfl h10).trans ?_
  refine (e_n 3 (fr' := (72, 62, [some (vR 9 0 0), some (vI x1), some (vI x2), some (vI x3), l4, l5], [vI x3, vI x1, vR 9 0 0], σ3)) rfl).trans ?_
  refine (e_ci (m := 72) (pc := 65) (ls := [some (vR 9 0 0), some (vI x1), some (vI x2), some (vI x3), l4, l5]) (rest := []) rfl h11).trans ?_
  refine (e_n 4 (fr' := (72, 70, [some (vR 9 0 0), some (vI x1), some (vI x2), some (vI x3), some (vI r4), l5], [vI x3, vI x2, vR 9 0 0], σ4)) rfl).trans ?_
  refine (e_ci (m := 72) (pc := 73) (ls := [some (vR 9 0 0), some (vI x1), some (vI x2), some (vI x3), some (vI r4), l5]) (rest := []) rfl h12).trans ?_
  refine (e_n 2 (fr' := (72, 77, [some (vR 9 0 0), some (vI x1), some (vI x2), some (vI x3), some (vI r4), some (vI r5)], [vI r4], σ5)) rfl).trans ?_
  refine (e_t (A := (72, 93, [some (vR 9 0 0), some (vI x1), some (vI x2), some (vI x3), some (vI r4), some (vI r5)], [], σ5)) rfl h13).trans ?_
  refine (e_n 3 (fr' := (72, 98, [some (vR 9 0 0), some (vI x1), some (vI x2), some (vI x3), some (vI r4), some (vI r5)], [vI (r4 + r5)], σ5)) rfl).trans ?_
  refine (e_t (A := (72, 109, [some (vR 9 0 0), some (vI x1), some (vI x2), some (vI x3), some (vI r4), some (vI r5)], [], σ5)) rfl h14).trans ?_
  refine (e_n 4 (fr' := (72, 113, [some (vR 9 0 0), some (vI x1), some (vI x2), some (vI x3), some (vI r4), some (vI r5)], [vI x3, vI x2, vI x1, vR 9 0 0], σ5)) rfl).trans ?_
  refine (e_ci (m := 72) (pc := 116) (ls := [some (vR 9 0 0), some (vI x1), some (vI x2), some (vI x3), some (vI r4), some (vI r5)]) (rest := []) rfl h15).trans ?_
  exact e_r rfl
set_option maxRecDepth 20000 in
theorem g72_0_4 (C : pmC) {σ : pmS} {x1 : Int32} {x2 : Int32} {x3 : Int32} {l4 : Option pmV} {l5 : Option pmV} {σ1 : pmS} {r1 : Int32} {σ2 : pmS} {r2 : Int32} {σ3 : pmS} {r3 : Int32} {σ4 : pmS} {r4 : Int32} {σ5 : pmS} {r5 : Int32} (h1 : C 32 [vR 5 0 0, vI x1] σ = some (some (vI r1), σ1)) (h2 : ¬ r1 = 0) (h3 : C 32 [vR 5 0 0, vI x2] σ1 = some (some (vI r2), σ2)) (h4 : ¬ r2 = 0) (h5 : C 90 [vI x3] σ2 = some (some (vI r3), σ3)) (h6 : ¬ r3 = 0) (h7 : vp_in x1 48) (h8 : (σ3.1 5 0 0 (x1).toNatClampNeg) = 0) (h9 : vp_in x2 48) (h10 : (σ3.1 5 0 0 (x2).toNatClampNeg) = (1 : Int32)) (h11 : C 97 [vR 9 0 0, vI x1, vI x3] σ3 = some (some (vI r4), σ4)) (h12 : C 97 [vR 9 0 0, vI x2, vI x3] σ4 = some (some (vI r5), σ5)) (h13 : r4 = 0) (h14 : ¬ (r4 + r5) = 0) : pm_Rn C (72, 0, [some (vR 9 0 0), some (vI x1), some (vI x2), some (vI x3), l4, l5], [], σ) = some (some (vI (r4 + r5)), σ5) := by
  refine (e_n 3 (fr' := (72, 5, [some (vR 9 0 0), some (vI x1), some (vI x2), some (vI x3), l4, l5], [vI x1, vR 5 0 0], σ)) rfl).trans ?_
  refine (e_ci (m := 72) (pc := 8) (ls := [some (vR 9 0 0), some (vI x1), some (vI x2), some (vI x3), l4, l5]) (rest := []) rfl h1).trans ?_
  refine (e_f (B := (72, 11, [some (vR 9 0 0), some (vI x1), some (vI x2), some (vI x3), l4, l5], [], σ1)) rfl h2).trans ?_
  refine (e_n 3 (fr' := (72, 16, [some (vR 9 0 0), some (vI x1), some (vI x2), some (vI x3), l4, l5], [vI x2, vR 5 0 0], σ1)) rfl).trans ?_
  refine (e_ci (m := 72) (pc := 19) (ls := [some (vR 9 0 0), some (vI x1), some (vI x2), some (vI x3), l4, l5]) (rest := []) rfl h3).trans ?_
  refine (e_f (B := (72, 24, [some (vR 9 0 0), some (vI x1), some (vI x2), some (vI x3), l4, l5], [], σ2)) rfl h4).trans ?_
  refine (e_n 1 (fr' := (72, 25, [some (vR 9 0 0), some (vI x1), some (vI x2), some (vI x3), l4, l5], [vI x3], σ2)) rfl).trans ?_
  refine (e_ci (m := 72) (pc := 28) (ls := [some (vR 9 0 0), some (vI x1), some (vI x2), some (vI x3), l4, l5]) (rest := []) rfl h5).trans ?_
  refine (e_f (B := (72, 31, [some (vR 9 0 0), some (vI x1), some (vI x2), some (vI x3), l4, l5], [], σ3)) rfl h6).trans ?_
  refine (e_n 4 (fr' := (72, 39, [some (vR 9 0 0), some (vI x1), some (vI x2), some (vI x3), l4, l5], [vI x1, vR 5 0 1], σ3)) rfl).trans ?_
  refine (e_a (A := (72, 40, [some (vR 9 0 0), some (vI x1), some (vI x2), some (vI x3), l4, l5], [vI (σ3.1 5 0 0 (x1).toNatClampNeg)], σ3)) rfl h7).trans ?_
  refine (e_t (A := (72, 43, [some (vR 9 0 0), some (vI x1), some (vI x2), some (vI x3), l4, l5], [], σ3)) rfl h8).trans ?_
  refine (e_n 4 (fr' := (72, 51, [some (vR 9 0 0), some (vI x1), some (vI x2), some (vI x3), l4, l5], [vI x2, vR 5 0 1], σ3)) rfl).trans ?_
  refine (e_a (A := (72, 52, [some (vR 9 0 0), some (vI x1), some (vI x2), some (vI x3), l4, l5], [vI (σ3.1 5 0 0 (x2).toNatClampNeg)], σ3)) rfl h9).trans ?_
  refine (e_n 1 (fr' := (72, 53, [some (vR 9 0 0), some (vI x1), some (vI x2), some (vI x3), l4, l5], [vI (1 : Int32), vI (σ3.1 5 0 0 (x2).toNatClampNeg)], σ3)) rfl).trans ?_
  refine (e_t (A := (72, 59, [some (vR 9 0 0), some (vI x1), some (vI x2), some (vI x3), l4, l5], [], σ3)) rfl h10).trans ?_
  refine (e_n 3 (fr' := (72, 62, [some (vR 9 0 0), some (vI x1), some (vI x2), some (vI x3), l4, l5], [vI x3, vI x1, vR 9 0 0], σ3)) rfl).trans ?_
  refine (e_ci (m := 72) (pc := 65) (ls := [some (vR 9 0 0), some (vI x1), some (vI x2), some (vI x3), l4, l5]) (rest := []) rfl h11).trans ?_
  refine (e_n 4 (fr' := (72, 70, [some (vR 9 0 0), some (vI x1), some (vI x2), some (vI x3), some (vI r4), l5], [vI x3, vI x2, vR 9 0 0], σ4)) rfl).trans ?_
  refine (e_ci (m := 72) (pc := 73) (ls := [some (vR 9 0 0), some (vI x1), some (vI x2), some (vI x3), some (vI r4), l5]) (rest := []) rfl h12).trans ?_
  refine (e_n 2 (fr' := (72, 77, [some (vR 9 0 0), some (vI x1), some (vI x2), some (vI x3), some (vI r4), some (vI r5)], [vI r4], σ5)) rfl).trans ?_
  refine (e_t (A := (72, 93, [some (vR 9 0 0), some (vI x1), some (vI x2), some (vI x3), some (vI r4), some (vI r5)], [], σ5)) rfl h13).trans ?_
  refine (e_n 3 (fr' := (72, 98, [some (vR 9 0 0), some (vI x1), some (vI x2), some (vI x3), some (vI r4), some (vI r5)], [vI (r4 + r5)], σ5)) rfl).trans ?_
  refine (e_f (B := (72, 101, [some (vR 9 0 0), some (vI x1), some (vI x2), some (vI x3), some (vI r4), some (vI r5)], [], σ5)) rfl h14).trans ?_
  refine (e_n 4 (fr' := (72, 116, [some (vR 9 0 0), some (vI x1), some (vI x2), some (vI x3), some (vI r4), some (vI r5)], [vI (r4 + r5)], σ5)) rfl).trans ?_
  exact e_r rfl
set_option maxRecDepth 20000 in
theorem g72_0_5 (C : pmC) {σ : pmS} {x1 : Int32} {x2 : Int32} {x3 : Int32} {l4 : Option pmV} {l5 : Option pmV} {σ1 : pmS} {r1 : Int32} {σ2 : pmS} {r2 : Int32} {σ3 : pmS} {r3 : Int32} {σ4 : pmS} {r4 : Int32} {σ5 : pmS} {r5 : Int32} {σ6 : pmS} {r6 : Int32} (h1 : C 32 [vR 5 0 0, vI x1] σ = some (some (vI r1), σ1)) (h2 : ¬ r1 = 0) (h3 : C 32 [vR 5 0 0, vI x2] σ1 = some (some (vI r2), σ2)) (h4 : ¬ r2 = 0) (h5 : C 90 [vI x3] σ2 = some (some (vI r3), σ3)) (h6 : ¬ r3 = 0) (h7 : vp_in x1 48) (h8 : (σ3.1 5 0 0 (x1).toNatClampNeg) = 0) (h9 : vp_in x2 48) (h10 : (σ3.1 5 0 0 (x2).toNatClampNeg) = (1 : Int32)) (h11 : C 97 [vR 9 0 0, vI x1, vI x3] σ3 = some (some (vI r4), σ4)) (h12 : C 97 [vR 9 0 0, vI x2, vI x3] σ4 = some (some (vI r5), σ5)) (h13 : ¬ r4 = 0) (h14 : r5 = 0) (h15 : (r4 + r5) = 0) (h16 : C 98 [vR 9 0 0, vI x1, vI x2, vI x3] σ5 = some (some (vI r6), σ6)) : pm_Rn C (72, 0, [some (vR 9 0 0), some (vI x1), some (vI x2), some (vI x3), l4, l5], [], σ) = some (some (vI r6), σ6) := by
  refine (e_n 3 (fr' := (72, 5, [some (vR 9 0 0), some (vI x1), some (vI x2), some (vI x3), l4, l5], [vI x1, vR 5 0 0], σ)) rfl).trans ?_
  refine (e_ci (m := 72) (pc := 8) (ls := [some (vR 9 0 0), some (vI x1), some (vI x2), some (vI x3), l4, l5]) (rest := []) rfl h1).trans ?_
  refine (e_f (B := (72, 11, [some (vR 9 0 0), some (vI x1), some (vI x2), some (vI x3), l4, l5], [], σ1)) rfl h2).trans ?_
  refine (e_n 3 (fr' := (72, 16, [some (vR 9 0 0), some (vI x1), some (vI x2), some (vI x3), l4, l5], [vI x2, vR 5 0 0], σ1)) rfl).trans ?_
  refine (e_ci (m := 72) (pc := 19) (ls := [some (vR 9 0 0), some (vI x1), some (vI x2), some (vI x3), l4, l5]) (rest := []) rfl h3).trans ?_
  refine (e_f (B := (72, 24, [some (vR 9 0 0), some (vI x1), some (vI x2), some (vI x3), l4, l5], [], σ2)) rfl h4).trans ?_
  refine (e_n 1 (fr' := (72, 25, [some (vR 9 0 0), some (vI x1), some (vI x2), some (vI x3), l4, l5], [vI x3], σ2)) rfl).trans ?_
  refine (e_ci (m := 72) (pc := 28) (ls := [some (vR 9 0 0), some (vI x1), some (vI x2), some (vI x3), l4, l5]) (rest := []) rfl h5).trans ?_
  refine (e_f (B := (72, 31, [some (vR 9 0 0), some (vI x1), some (vI x2), some (vI x3), l4, l5], [], σ3)) rfl h6).trans ?_
  refine (e_n 4 (fr' := (72, 39, [some (vR 9 0 0), some (vI x1), some (vI x2), some (vI x3), l4, l5], [vI x1, vR 5 0 1], σ3)) rfl).trans ?_
  refine (e_a (A := (72, 40, [some (vR 9 0 0), some (vI x1), some (vI x2), some (vI x3), l4, l5], [vI (σ3.1 5 0 0 (x1).toNatClampNeg)], σ3)) rfl h7).trans ?_
  refine (e_t (A := (72, 43, [some (vR 9 0 0), some (vI x1), some (vI x2), some (vI x3), l4, l5], [], σ3)) rfl h8).trans ?_
  refine (e_n 4 (fr' := (72, 51, [some (vR 9 0 0), some (vI x1), some (vI x2), some (vI x3), l4, l5], [vI x2, vR 5 0 1], σ3)) rfl).trans ?_
  refine (e_a (A := (72, 52, [some (vR 9 0 0), some (vI x1), some (vI x2), some (vI x3), l4, l5], [vI (σ3.1 5 0 0 (x2).toNatClampNeg)], σ3)) rfl h9).trans ?_
  refine (e_n 1 (fr' := (72, 53, [some (vR 9 0 0), some (vI x1), some (vI x2), some (vI x3), l4, l5], [vI (1 : Int32), vI (σ3.1 5 0 0 (x2).toNatClampNeg)], σ3)) rfl).trans ?_
  refine (e_t (A := (72, 59, [some (vR 9 0 0), some (vI x1), some (vI x2), some (vI x3), l4, l5], [], σ3)) rfl h10).trans ?_
  refine (e_n 3 (fr' := (72, 62, [some (vR 9 0 0), some (vI x1), some (vI x2), some (vI x3), l4, l5], [vI x3, vI x1, vR 9 0 0], σ3)) rfl).trans ?_
  refine (e_ci (m := 72) (pc := 65) (ls := [some (vR 9 0 0), some (vI x1), some (vI x2), some (vI x3), l4, l5]) (rest := []) rfl h11).trans ?_
  refine (e_n 4 (fr' := (72, 70, [some (vR 9 0 0), some (vI x1), some (vI x2), some (vI x3), some (vI r4), l5], [vI x3, vI x2, vR 9 0 0], σ4)) rfl).trans ?_
  refine (e_ci (m := 72) (pc := 73) (ls := [some (vR 9 0 0), some (vI x1), some (vI x2), some (vI x3), some (vI r4), l5]) (rest := []) rfl h12).trans ?_
  refine (e_n 2 (fr' := (72, 77, [some (vR 9 0 0), some (vI x1), some (vI x2), some (vI x3), some (vI r4), some (vI r5)], [vI r4], σ5)) rfl).trans ?_
  refine (e_f (B := (72, 80, [some (vR 9 0 0), some (vI x1), some (vI x2), some (vI x3), some (vI r4), some (vI r5)], [], σ5)) rfl h13).trans ?_
  refine (e_n 1 (fr' := (72, 82, [some (vR 9 0 0), some (vI x1), some (vI x2), some (vI x3), some (vI r4), some (vI r5)], [vI r5], σ5)) rfl).trans ?_
  refine (e_t (A := (72, 93, [some (vR 9 0 0), some (vI x1), some (vI x2), some (vI x3), some (vI r4), some (vI r5)], [], σ5)) rfl h14).trans ?_
  refine (e_n 3 (fr' := (72, 98, [some (vR 9 0 0), some (vI x1), some (vI x2), some (vI x3), some (vI r4), some (vI r5)], [vI (r4 + r5)], σ5)) rfl).trans ?_
  refine (e_t (A := (72, 109, [some (vR 9 0 0), some (vI x1), some (vI x2), some (vI x3), some (vI r4), some (vI r5)], [], σ5)) rfl h15).trans ?_
  refine (e_n 4 (fr' := (72, 113, [some (vR 9 0 0), some (vI x1), some (vI x2), some (vI x3), some (vI r4), some (vI r5)], [vI x3, vI x2, vI x1, vR 9 0 0], σ5)) rfl).trans ?_
  refine (e_ci (m := 72) (pc := 116) (ls := [some (vR 9 0 0), some (vI x1), some (vI x2), some (vI x3), some (vI r4), some (vI r5)]) (rest := []) rfl h16).trans ?_
  exact e_r rfl
set_option maxRecDepth 20000 in
theorem g72_0_6 (C : pmC) {σ : pmS} {x1 : Int32} {x2 : Int32} {x3 : Int32} {l4 : Option pmV} {l5 : Option pmV} {σ1 : pmS} {r1 : Int32} {σ2 : pmS} {r2 : Int32} {σ3 : pmS} {r3 : Int32} {σ4 : pmS} {r4 : Int32} {σ5 : pmS} {r5 : Int32} (h1 : C 32 [vR 5 0 0, vI x1] σ = some (some (vI r1), σ1)) (h2 : ¬ r1 = 0) (h3 : C 32 [vR 5 0 0, vI x2] σ1 = some (some (vI r2), σ2)) (h4 : ¬ r2 = 0) (h5 : C 90 [vI x3] σ2 = some (some (vI r3), σ3)) (h6 : ¬ r3 = 0) (h7 : vp_in x1 48) (h8 : (σ3.1 5 0 0 (x1).toNatClampNeg) = 0) (h9 : vp_in x2 48) (h10 : (σ3.1 5 0 0 (x2).toNatClampNeg) = (1 : Int32)) (h11 : C 97 [vR 9 0 0, vI x1, vI x3] σ3 = some (some (vI r4), σ4)) (h12 : C 97 [vR 9 0 0, vI x2, vI x3] σ4 = some (some (vI r5), σ5)) (h13 : ¬ r4 = 0) (h14 : r5 = 0) (h15 : ¬ (r4 + r5) = 0) : pm_Rn C (72, 0, [some (vR 9 0 0), some (vI x1), some (vI x2), some (vI x3), l4, l5], [], σ) = some (some (vI (r4 + r5)), σ5) := by
  refine (e_n 3 (fr' := (72, 5, [some (vR 9 0 0), some (vI x1), some (vI x2), some (vI x3), l4, l5], [vI x1, vR 5 0 0], σ)) rfl).trans ?_
  refine (e_ci (m := 72) (pc := 8) (ls := [some (vR 9 0 0), some (vI x1), some (vI x2), some (vI x3), l4, l5]) (rest := []) rfl h1).trans ?_
  refine (e_f (B := (72, 11, [some (vR 9 0 0), some (vI x1), some (vI x2), some (vI x3), l4, l5], [], σ1)) rfl h2).trans ?_
  refine (e_n 3 (fr' := (72, 16, [some (vR 9 0 0), some (vI x1), some (vI x2), some (vI x3), l4, l5], [vI x2, vR 5 0 0], σ1)) rfl).trans ?_
  refine (e_ci (m := 72) (pc := 19) (ls := [some (vR 9 0 0), some (vI x1), some (vI x2), some (vI x3), l4, l5]) (rest := []) rfl h3).trans ?_
  refine (e_f (B := (72, 24, [some (vR 9 0 0), some (vI x1), some (vI x2), some (vI x3), l4, l5], [], σ2)) rfl h4).trans ?_
  refine (e_n 1 (fr' := (72, 25, [some (vR 9 0 0), some (vI x1), some (vI x2), some (vI x3), l4, l5], [vI x3], σ2)) rfl).trans ?_
  refine (e_ci (m := 72) (pc := 28) (ls := [some (vR 9 0 0), some (vI x1), some (vI x2), some (vI x3), l4, l5]) (rest := []) rfl h5).trans ?_
  refine (e_f (B := (72, 31, [some (vR 9 0 0), some (vI x1), some (vI x2), some (vI x3), l4, l5], [], σ3)) rfl h6).trans ?_
  refine (e_n 4 (fr' := (72, 39, [some (vR 9 0 0), some (vI x1), some (vI x2), some (vI x3), l4, l5], [vI x1, vR 5 0 1], σ3)) rfl).trans ?_
  refine (e_a (A := (72, 40, [some (vR 9 0 0), some (vI x1), some (vI x2), some (vI x3), l4, l5], [vI (σ3.1 5 0 0 (x1).toNatClampNeg)], σ3)) rfl h7).trans ?_
  refine (e_t (A := (72, 43, [some (vR 9 0 0), some (vI x1), some (vI x2), some (vI x3), l4, l5], [], σ3)) rfl h8).trans ?_
  refine (e_n 4 (fr' := (72, 51, [some (vR 9 0 0), some (vI x1), some (vI x2), some (vI x3), l4, l5], [vI x2, vR 5 0 1], σ3)) rfl).trans ?_
  refine (e_a (A := (72, 52, [some (vR 9 0 0), some (vI x1), some (vI x2), some (vI x3), l4, l5], [vI (σ3.1 5 0 0 (x2).toNatClampNeg)], σ3)) rfl h9).trans ?_
  refine (e_n 1 (fr' := (72, 53, [some (vR 9 0 0), some (vI x1), some (vI x2), some (vI x3), l4, l5], [vI (1 : Int32), vI (σ3.1 5 0 0 (x2).toNatClampNeg)], σ3)) rfl).trans ?_
  refine (e_t (A := (72, 59, [some (vR 9 0 0), some (vI x1), some (vI x2), some (vI x3), l4, l5], [], σ3)) rfl h10).trans ?_
  refine (e_n 3 (fr' := (72, 62, [some (vR 9 0 0), some (vI x1), some (vI x2), some (vI x3), l4, l5], [vI x3, vI x1, vR 9 0 0], σ3)) rfl).trans ?_
  refine (e_ci (m := 72) (pc := 65) (ls := [some (vR 9 0 0), some (vI x1), some (vI x2), some (vI x3), l4, l5]) (rest := []) rfl h11).trans ?_
  refine (e_n 4 (fr' := (72, 70, [some (vR 9 0 0), some (vI x1), some (vI x2), some (vI x3), some (vI r4), l5], [vI x3, vI x2, vR 9 0 0], σ4)) rfl).trans ?_
  refine (e_ci (m := 72) (pc := 73) (ls := [some (vR 9 0 0), some (vI x1), some (vI x2), some (vI x3), some (vI r4), l5]) (rest := []) rfl h12).trans ?_
  refine (e_n 2 (fr' := (72, 77, [some (vR 9 0 0), some (vI x1), some (vI x2), some (vI x3), some (vI r4), some (vI r5)], [vI r4], σ5)) rfl).trans ?_
  refine (e_f (B := (72, 80, [some (vR 9 0 0), some (vI x1), some (vI x2), some (vI x3), some (vI r4), some (vI r5)], [], σ5)) rfl h13).trans ?_
  refine (e_n 1 (fr' := (72, 82, [some (vR 9 0 0), some (vI x1), some (vI x2), some (vI x3), some (vI r4), some (vI r5)], [vI r5], σ5)) rfl).trans ?_
  refine (e_t (A := (72, 93, [some (vR 9 0 0), some (vI x1), some (vI x2), some (vI x3), some (vI r4), some (vI r5)], [], σ5)) rfl h14).trans ?_
  refine (e_n 3 (fr' := (72, 98, [some (vR 9 0 0), some (vI x1), some (vI x2), some (vI x3), some (vI r4), some (vI r5)], [vI (r4 + r5)], σ5)) rfl).trans ?_
  refine (e_f (B := (72, 101, [some (vR 9 0 0), some (vI x1), some (vI x2), some (vI x3), some (vI r4), some (vI r5)], [], σ5)) rfl h15).trans ?_
  refine (e_n 4 (fr' := (72, 116, [some (vR 9 0 0), some (vI x1), some (vI x2), some (vI x3), some (vI r4), some (vI r5)], [vI (r4 + r5)], σ5)) rfl).trans ?_
  exact e_r rfl
set_option maxRecDepth 20000 in
theorem g72_0_7 (C : pmC) {σ : pmS} {x1 : Int32} {x2 : Int32} {x3 : Int32} {l4 : Option pmV} {l5 : Option pmV} {σ1 : pmS} {r1 : Int32} {σ2 : pmS} {r2 : Int32} {σ3 : pmS} {r3 : Int32} {σ4 : pmS} {r4 : Int32} {σ5 : pmS} {r5 : Int32} (h1 : C 32 [vR 5 0 0, vI x1] σ = some (some (vI r1), σ1)) (h2 : ¬ r1 = 0) (h3 : C 32 [vR 5 0 0, vI x2] σ1 = some (some (vI r2), σ2)) (h4 : ¬ r2 = 0) (h5 : C 90 [vI x3] σ2 = some (some (vI r3), σ3)) (h6 : ¬ r3 = 0) (h7 : vp_in x1 48) (h8 : (σ3.1 5 0 0 (x1).toNatClampNeg) = 0) (h9 : vp_in x2 48) (h10 : (σ3.1 5 0 0 (x2).toNatClampNeg) = (1 : Int32)) (h11 : C 97 [vR 9 0 0, vI x1, vI x3] σ3 = some (some (vI r4), σ4)) (h12 : C 97 [vR 9 0 0, vI x2, vI x3] σ4 = some (some (vI r5), σ5)) (h13 : ¬ r4 = 0) (h14 : ¬ r5 = 0) : pm_Rn C (72, 0, [some (vR 9 0 0), some (vI x1), some (vI x2), some (vI x3), l4, l5], [], σ) = some (some (vI (if r5 < r4 then r5 else r4)), σ5) := by
  refine (e_n 3 (fr' := (72, 5, [some (vR 9 0 0), some (vI x1), some (vI x2), some (vI x3), l4, l5], [vI x1, vR 5 0 0], σ)) rfl).trans ?_
  refine (e_ci (m := 72) (pc := 8) (ls := [some (vR 9 0 0), some (vI x1), some (vI x2), some (vI x3), l4, l5]) (rest := []) rfl h1).trans ?_
  refine (e_f (B := (72, 11, [some (vR 9 0 0), some (vI x1), some (vI x2), some (vI x3), l4, l5], [], σ1)) rfl h2).trans ?_
  refine (e_n 3 (fr' := (72, 16, [some (vR 9 0 0), some (vI x1), some (vI x2), some (vI x3), l4, l5], [vI x2, vR 5 0 0], σ1)) rfl).trans ?_
  refine (e_ci (m := 72) (pc := 19) (ls := [some (vR 9 0 0), some (vI x1), some (vI x2), some (vI x3), l4, l5]) (rest := []) rfl h3).trans ?_
  refine (e_f (B := (72, 24, [some (vR 9 0 0), some (vI x1), some (vI x2), some (vI x3), l4, l5], [], σ2)) rfl h4).trans ?_
  refine (e_n 1 (fr' := (72, 25, [some (vR 9 0 0), some (vI x1), some (vI x2), some (vI x3), l4, l5], [vI x3], σ2)) rfl).trans ?_
  refine (e_ci (m := 72) (pc := 28) (ls := [some (vR 9 0 0), some (vI x1), some (vI x2), some (vI x3), l4, l5]) (rest := []) rfl h5).trans ?_
  refine (e_f (B := (72, 31, [some (vR 9 0 0), some (vI x1), some (vI x2), some (vI x3), l4, l5], [], σ3)) rfl h6).trans ?_
  refine (e_n 4 (fr' := (72, 39, [some (vR 9 0 0), some (vI x1), some (vI x2), some (vI x3), l4, l5], [vI x1, vR 5 0 1], σ3)) rfl).trans ?_
  refine (e_a (A := (72, 40, [some (vR 9 0 0), some (vI x1), some (vI x2), some (vI x3), l4, l5], [vI (σ3.1 5 0 0 (x1).toNatClampNeg)], σ3)) rfl h7).trans ?_
  refine (e_t (A := (72, 43, [some (vR 9 0 0), some (vI x1), some (vI x2), some (vI x3), l4, l5], [], σ3)) rfl h8).trans ?_
  refine (e_n 4 (fr' := (72, 51, [some (vR 9 0 0), some (vI x1), some (vI x2), some (vI x3), l4, l5], [vI x2, vR 5 0 1], σ3)) rfl).trans ?_
  refine (e_a (A := (72, 52, [some (vR 9 0 0), some (vI x1), some (vI x2), some (vI x3), l4, l5], [vI (σ3.1 5 0 0 (x2).toNatClampNeg)], σ3)) rfl h9).trans ?_
  refine (e_n 1 (fr' := (72, 53, [some (vR 9 0 0), some (vI x1), some (vI x2), some (vI x3), l4, l5], [vI (1 : Int32), vI (σ3.1 5 0 0 (x2).toNatClampNeg)], σ3)) rfl).trans ?_
  refine (e_t (A := (72, 59, [some (vR 9 0 0), some (vI x1), some (vI x2), some (vI x3), l4, l5], [], σ3)) rfl h10).trans ?_
  refine (e_n 3 (fr' := (72, 62, [some (vR 9 0 0), some (vI x1), some (vI x2), some (vI x3), l4, l5], [vI x3, vI x1, vR 9 0 0], σ3)) rfl).trans ?_
  refine (e_ci (m := 72) (pc := 65) (ls := [some (vR 9 0 0), some (vI x1), some (vI x2), some (vI x3), l4, l5]) (rest := []) rfl h11).trans ?_
  refine (e_n 4 (fr' := (72, 70, [some (vR 9 0 0), some (vI x1), some (vI x2), some (vI x3), some (vI r4), l5], [vI x3, vI x2, vR 9 0 0], σ4)) rfl).trans ?_
  refine (e_ci (m := 72) (pc := 73) (ls := [some (vR 9 0 0), some (vI x1), some (vI x2), some (vI x3), some (vI r4), l5]) (rest := []) rfl h12).trans ?_
  refine (e_n 2 (fr' := (72, 77, [some (vR 9 0 0), some (vI x1), some (vI x2), some (vI x3), some (vI r4), some (vI r5)], [vI r4], σ5)) rfl).trans ?_
  refine (e_f (B := (72, 80, [some (vR 9 0 0), some (vI x1), some (vI x2), some (vI x3), some (vI r4), some (vI r5)], [], σ5)) rfl h13).trans ?_
  refine (e_n 1 (fr' := (72, 82, [some (vR 9 0 0), some (vI x1), some (vI x2), some (vI x3), some (vI r4), some (vI r5)], [vI r5], σ5)) rfl).trans ?_
  refine (e_f (B := (72, 85, [some (vR 9 0 0), some (vI x1), some (vI x2), some (vI x3), some (vI r4), some (vI r5)], [], σ5)) rfl h14).trans ?_
  refine (e_n 3 (fr' := (72, 92, [some (vR 9 0 0), some (vI x1), some (vI x2), some (vI x3), some (vI r4), some (vI r5)], [vI (if r5 < r4 then r5 else r4)], σ5)) rfl).trans ?_
  exact e_r rfl
set_option maxRecDepth 20000 in
theorem g72_0_8 (C : pmC) {σ : pmS} {x1 : Int32} {x2 : Int32} {x3 : Int32} {l4 : Option pmV} {l5 : Option pmV} {σ1 : pmS} {r1 : Int32} {σ2 : pmS} {r2 : Int32} {σ3 : pmS} {r3 : Int32} (h1 : C 32 [vR 5 0 0, vI x1] σ = some (some (vI r1), σ1)) (h2 : ¬ r1 = 0) (h3 : C 32 [vR 5 0 0, vI x2] σ1 = some (some (vI r2), σ2)) (h4 : ¬ r2 = 0) (h5 : C 90 [vI x3] σ2 = some (some (vI r3), σ3)) (h6 : ¬ r3 = 0) (h7 : vp_in x1 48) (h8 : (σ3.1 5 0 0 (x1).toNatClampNeg) = 0) (h9 : vp_in x2 48) (h10 : ¬ (σ3.1 5 0 0 (x2).toNatClampNeg) = (1 : Int32)) : pm_Rn C (72, 0, [some (vR 9 0 0), some (vI x1), some (vI x2), some (vI x3), l4, l5], [], σ) = some (some (vI (-2 : Int32)), σ3) := by
  refine (e_n 3 (fr' := (72, 5, [some (vR 9 0 0), some (vI x1), some (vI x2), some (vI x3), l4, l5], [vI x1, vR 5 0 0], σ)) rfl).trans ?_
  refine (e_ci (m := 72) (pc := 8) (ls := [some (vR 9 0 0), some (vI x1), some (vI x2), some (vI x3), l4, l5]) (rest := []) rfl h1).trans ?_
  refine (e_f (B := (72, 11, [some (vR 9 0 0), some (vI x1), some (vI x2), some (vI x3), l4, l5], [], σ1)) rfl h2).trans ?_
  refine (e_n 3 (fr' := (72, 16, [some (vR 9 0 0), some (vI x1), some (vI x2), some (vI x3), l4, l5], [vI x2, vR 5 0 0], σ1)) rfl).trans ?_
  refine (e_ci (m := 72) (pc := 19) (ls := [some (vR 9 0 0), some (vI x1), some (vI x2), some (vI x3), l4, l5]) (rest := []) rfl h3).trans ?_
  refine (e_f (B := (72, 24, [some (vR 9 0 0), some (vI x1), some (vI x2), some (vI x3), l4, l5], [], σ2)) rfl h4).trans ?_
  refine (e_n 1 (fr' := (72, 25, [some (vR 9 0 0), some (vI x1), some (vI x2), some (vI x3), l4, l5], [vI x3], σ2)) rfl).trans ?_
  refine (e_ci (m := 72) (pc := 28) (ls := [some (vR 9 0 0), some (vI x1), some (vI x2), some (vI x3), l4, l5]) (rest := []) rfl h5).trans ?_
  refine (e_f (B := (72, 31, [some (vR 9 0 0), some (vI x1), some (vI x2), some (vI x3), l4, l5], [], σ3)) rfl h6).trans ?_
  refine (e_n 4 (fr' := (72, 39, [some (vR 9 0 0), some (vI x1), some (vI x2), some (vI x3), l4, l5], [vI x1, vR 5 0 1], σ3)) rfl).trans ?_
  refine (e_a (A := (72, 40, [some (vR 9 0 0), some (vI x1), some (vI x2), some (vI x3), l4, l5], [vI (σ3.1 5 0 0 (x1).toNatClampNeg)], σ3)) rfl h7).trans ?_
  refine (e_t (A := (72, 43, [some (vR 9 0 0), some (vI x1), some (vI x2), some (vI x3), l4, l5], [], σ3)) rfl h8).trans ?_
  refine (e_n 4 (fr' := (72, 51, [some (vR 9 0 0), some (vI x1), some (vI x2), some (vI x3), l4, l5], [vI x2, vR 5 0 1], σ3)) rfl).trans ?_
  refine (e_a (A := (72, 52, [some (vR 9 0 0), some (vI x1), some (vI x2), some (vI x3), l4, l5], [vI (σ3.1 5 0 0 (x2).toNatClampNeg)], σ3)) rfl h9).trans ?_
  refine (e_n 1 (fr' := (72, 53, [some (vR 9 0 0), some (vI x1), some (vI x2), some (vI x3), l4, l5], [vI (1 : Int32), vI (σ3.1 5 0 0 (x2).toNatClampNeg)], σ3)) rfl).trans ?_
  refine (e_f (B := (72, 56, [some (vR 9 0 0), some (vI x1), some (vI x2), some (vI x3), l4, l5], [], σ3)) rfl h10).trans ?_
  refine (e_n 1 (fr' := (72, 58, [some (vR 9 0 0), some (vI x1), some (vI x2), some (vI x3), l4, l5], [vI (-2 : Int32)], σ3)) rfl).trans ?_
  exact e_r rfl
set_option maxRecDepth 20000 in
theorem g72_0_9 (C : pmC) {σ : pmS} {x1 : Int32} {x2 : Int32} {x3 : Int32} {l4 : Option pmV} {l5 : Option pmV} {σ1 : pmS} {r1 : Int32} {σ2 : pmS} {r2 : Int32} {σ3 : pmS} {r3 : Int32} (h1 : C 32 [vR 5 0 0, vI x1] σ = some (some (vI r1), σ1)) (h2 : ¬ r1 = 0) (h3 : C 32 [vR 5 0 0, vI x2] σ1 = some (some (vI r2), σ2)) (h4 : ¬ r2 = 0) (h5 : C 90 [vI x3] σ2 = some (some (vI r3), σ3)) (h6 : ¬ r3 = 0) (h7 : vp_in x1 48) (h8 : ¬ (σ3.1 5 0 0 (x1).toNatClampNeg) = 0) : pm_Rn C (72, 0, [some (vR 9 0 0), some (vI x1), some (vI x2), some (vI x3), l4, l5], [], σ) = some (some (vI (-2 : Int32)), σ3) := by
  refine (e_n 3 (fr' := (72, 5, [some (vR 9 0 0), some (vI x1), some (vI x2), some (vI x3), l4, l5], [vI x1, vR 5 0 0], σ)) rfl).trans ?_
  refine (e_ci (m := 72) (pc := 8) (ls := [some (vR 9 0 0), some (vI x1), some (vI x2), some (vI x3), l4, l5]) (rest := []) rfl h1).trans ?_
  refine (e_f (B := (72, 11, [some (vR 9 0 0), some (vI x1), some (vI x2), some (vI x3), l4, l5], [], σ1)) rfl h2).trans ?_
  refine (e_n 3 (fr' := (72, 16, [some (vR 9 0 0), some (vI x1), some (vI x2), some (vI x3), l4, l5], [vI x2, vR 5 0 0], σ1)) rfl).trans ?_
  refine (e_ci (m := 72) (pc := 19) (ls := [some (vR 9 0 0), some (vI x1), some (vI x2), some (vI x3), l4, l5]) (rest := []) rfl h3).trans ?_
  refine (e_f (B := (72, 24, [some (vR 9 0 0), some (vI x1), some (vI x2), some (vI x3), l4, l5], [], σ2)) rfl h4).trans ?_
  refine (e_n 1 (fr' := (72, 25, [some (vR 9 0 0), some (vI x1), some (vI x2), some (vI x3), l4, l5], [vI x3], σ2)) rfl).trans ?_
  refine (e_ci (m := 72) (pc := 28) (ls := [some (vR 9 0 0), some (vI x1), some (vI x2), some (vI x3), l4, l5]) (rest := []) rfl h5).trans ?_
  refine (e_f (B := (72, 31, [some (vR 9 0 0), some (vI x1), some (vI x2), some (vI x3), l4, l5], [], σ3)) rfl h6).trans ?_
  refine (e_n 4 (fr' := (72, 39, [some (vR 9 0 0), some (vI x1), some (vI x2), some (vI x3), l4, l5], [vI x1, vR 5 0 1], σ3)) rfl).trans ?_
  refine (e_a (A := (72, 40, [some (vR 9 0 0), some (vI x1), some (vI x2), some (vI x3), l4, l5], [vI (σ3.1 5 0 0 (x1).toNatClampNeg)], σ3)) rfl h7).trans ?_
  refine (e_f (B := (72, 56, [some (vR 9 0 0), some (vI x1), some (vI x2), some (vI x3), l4, l5], [], σ3)) rfl h8).trans ?_
  refine (e_n 1 (fr' := (72, 58, [some (vR 9 0 0), some (vI x1), some (vI x2), some (vI x3), l4, l5], [vI (-2 : Int32)], σ3)) rfl).trans ?_
  exact e_r rfl
set_option maxRecDepth 20000 in
theorem g73_0_0 (C : pmC) {σ : pmS} {x1 : Int32} {x2 : Int32} {σ1 : pmS} {r1 : Int32} (h1 : C 32 [vR 5 0 0, vI x1] σ = some (some (vI r1), σ1)) (h2 : r1 = 0) : pm_Rn C (73, 0, [some (vR 9 0 0), some (vI x1), some (vI x2)], [], σ) = some (some (vI (-5 : Int32)), σ1) := by
  refine (e_n 3 (fr' := (73, 5, [some (vR 9 0 0), some (vI x1), some (vI x2)], [vI x1, vR 5 0 0], σ)) rfl).trans ?_
  refine (e_ci (m := 73) (pc := 8) (ls := [some (vR 9 0 0), some (vI x1), some (vI x2)]) (rest := []) rfl h1).trans ?_
  refine (e_t (A := (73, 11, [some (vR 9 0 0), some (vI x1), some (vI x2)], [], σ1)) rfl h2).trans ?_
  refine (e_n 1 (fr' := (73, 13, [some (vR 9 0 0), some (vI x1), some (vI x2)], [vI (-5 : Int32)], σ1)) rfl).trans ?_
  exact e_r rfl
set_option maxRecDepth 20000 in
theorem g73_0_1 (C : pmC) {σ : pmS} {x1 : Int32} {x2 : Int32} {σ1 : pmS} {r1 : Int32} (h1 : C 32 [vR 5 0 0, vI x1] σ = some (some (vI r1), σ1)) (h2 : ¬ r1 = 0) (h3 : x2 = (0 : Int32)) (h4 : vp_in x1 48) : pm_Rn C (73, 0, [some (vR 9 0 0), some (vI x1), some (vI x2)], [], σ) = some (some (vI (σ1.1 5 0 0 (x1).toNatClampNeg)), σ1) := by
  refine (e_n 3 (fr' := (73, 5, [some (vR 9 0 0), some (vI x1), some (vI x2)], [vI x1, vR 5 0 0], σ)) rfl).trans ?_
  refine (e_ci (m := 73) (pc := 8) (ls := [some (vR 9 0 0), some (vI x1), some (vI x2)]) (rest := []) rfl h1).trans ?_
  refine (e_f (B := (73, 14, [some (vR 9 0 0), some (vI x1), some (vI x2)], [], σ1)) rfl h2).trans ?_
  refine (e_n 1 (fr' := (73, 15, [some (vR 9 0 0), some (vI x1), some (vI x2)], [vI x2], σ1)) rfl).trans ?_
  refine (e_g (A := (73, 64, [some (vR 9 0 0), some (vI x1), some (vI x2)], [], σ1)) (off' := 49) rfl (by rw [h3]; decide) rfl).trans ?_
  refine (e_n 4 (fr' := (73, 72, [some (vR 9 0 0), some (vI x1), some (vI x2)], [vI x1, vR 5 0 1], σ1)) rfl).trans ?_
  refine (e_a (A := (73, 73, [some (vR 9 0 0), some (vI x1), some (vI x2)], [vI (σ1.1 5 0 0 (x1).toNatClampNeg)], σ1)) rfl h4).trans ?_
  exact e_r rfl
set_option maxRecDepth 20000 in
theorem g73_0_2 (C : pmC) {σ : pmS} {x1 : Int32} {x2 : Int32} {σ1 : pmS} {r1 : Int32} (h1 : C 32 [vR 5 0 0, vI x1] σ = some (some (vI r1), σ1)) (h2 : ¬ r1 = 0) (h3 : x2 = (1 : Int32)) (h4 : vp_in x1 48) : pm_Rn C (73, 0, [some (vR 9 0 0), some (vI x1), some (vI x2)], [], σ) = some (some (vI (σ1.1 5 0 1 (x1).toNatClampNeg)), σ1) := by
  refine (e_n 3 (fr' := (73, 5, [some (vR 9 0 0), some (vI x1), some (vI x2)], [vI x1, vR 5 0 0], σ)) rfl).trans ?_
  refine (e_ci (m := 73) (pc := 8) (ls := [some (vR 9 0 0), some (vI x1), some (vI x2)]) (rest := []) rfl h1).trans ?_
  refine (e_f (B := (73, 14, [some (vR 9 0 0), some (vI x1), some (vI x2)], [], σ1)) rfl h2).trans ?_
  refine (e_n 1 (fr' := (73, 15, [some (vR 9 0 0), some (vI x1), some (vI x2)], [vI x2], σ1)) rfl).trans ?_
  refine (e_g (A := (73, 74, [some (vR 9 0 0), some (vI x1), some (vI x2)], [], σ1)) (off' := 59) rfl (by rw [h3]; decide) rfl).trans ?_
  refine (e_n 4 (fr' := (73, 82, [some (vR 9 0 0), some (vI x1), some (vI x2)], [vI x1, vR 5 0 2], σ1)) rfl).trans ?_
  refine (e_a (A := (73, 83, [some (vR 9 0 0), some (vI x1), some (vI x2)], [vI (σ1.1 5 0 1 (x1).toNatClampNeg)], σ1)) rfl h4).trans ?_
  exact e_r rfl
set_option maxRecDepth 20000 in
theorem g73_0_3 (C : pmC) {σ : pmS} {x1 : Int32} {x2 : Int32} {σ1 : pmS} {r1 : Int32} (h1 : C 32 [vR 5 0 0, vI x1] σ = some (some (vI r1), σ1)) (h2 : ¬ r1 = 0) (h3 : x2 = (2 : Int32)) (h4 : vp_in x1 48) : pm_Rn C (73, 0, [some (vR 9 0 0), some (vI x1), some (vI x2)], [], σ) = some (some (vI (σ1.1 5 0 2 (x1).toNatClampNeg)), σ1) := by
  refine (e_n 3 (fr' := (73, 5, [some (vR 9 0 0), some (vI x1), some (vI x2)], [vI x1, vR 5 0 0], σ)) rfl).trans ?_
  refine (e_ci (m := 73) (pc := 8) (ls := [some (vR 9 0 0), some (vI x1), some (vI x2)]) (rest := []) rfl h1).trans ?_
  refine (e_f (B := (73, 14, [some (vR 9 0 0), some (vI x1), some (vI x2)], [], σ1)) rfl h2).trans ?_
  refine (e_n 1 (fr' := (73, 15, [some (vR 9 0 0), some (vI x1), some (vI x2)], [vI x2], σ1)) rfl).trans ?_
  refine (e_g (A := (73, 84, [some (vR 9 0 0), some (vI x1), some (vI x2)], [], σ1)) (off' := 69) rfl (by rw [h3]; decide) rfl).trans ?_
  refine (e_n 4 (fr' := (73, 92, [some (vR 9 0 0), some (vI x1), some (vI x2)], [vI x1, vR 5 0 3], σ1)) rfl).trans ?_
  refine (e_a (A := (73, 93, [some (vR 9 0 0), some (vI x1), some (vI x2)], [vI (σ1.1 5 0 2 (x1).toNatClampNeg)], σ1)) rfl h4).trans ?_
  exact e_r rfl
set_option maxRecDepth 20000 in
theorem g73_0_4 (C : pmC) {σ : pmS} {x1 : Int32} {x2 : Int32} {σ1 : pmS} {r1 : Int32} (h1 : C 32 [vR 5 0 0, vI x1] σ = some (some (vI r1), σ1)) (h2 : ¬ r1 = 0) (h3 : x2 = (3 : Int32)) (h4 : vp_in x1 48) : pm_Rn C (73, 0, [some (vR 9 0 0), some (vI x1), some (vI x2)], [], σ) = some (some (vI (σ1.1 5 0 3 (x1).toNatClampNeg)), σ1) := by
  refine (e_n 3 (fr' := (73, 5, [some (vR 9 0 0), some (vI x1), some (vI x2)], [vI x1, vR 5 0 0], σ)) rfl).trans ?_
  refine (e_ci (m := 73) (pc := 8) (ls := [some (vR 9 0 0), some (vI x1), some (vI x2)]) (rest := []) rfl h1).trans ?_
  refine (e_f (B := (73, 14, [some (vR 9 0 0), some (vI x1), some (vI x2)], [], σ1)) rfl h2).trans ?_
  refine (e_n 1 (fr' := (73, 15, [some (vR 9 0 0), some (vI x1), some (vI x2)], [vI x2], σ1)) rfl).trans ?_
  refine (e_g (A := (73, 94, [some (vR 9 0 0), some (vI x1), some (vI x2)], [], σ1)) (off' := 79) rfl (by rw [h3]; decide) rfl).trans ?_
  refine (e_n 4 (fr' := (73, 102, [some (vR 9 0 0), some (vI x1), some (vI x2)], [vI x1, vR 5 0 4], σ1)) rfl).trans ?_
  refine (e_a (A := (73, 103, [some (vR 9 0 0), some (vI x1), some (vI x2)], [vI (σ1.1 5 0 3 (x1).toNatClampNeg)], σ1)) rfl h4).trans ?_
  exact e_r rfl
set_option maxRecDepth 20000 in
theorem g73_0_5 (C : pmC) {σ : pmS} {x1 : Int32} {x2 : Int32} {σ1 : pmS} {r1 : Int32} (h1 : C 32 [vR 5 0 0, vI x1] σ = some (some (vI r1), σ1)) (h2 : ¬ r1 = 0) (h3 : x2 = (4 : Int32)) (h4 : vp_in x1 48) : pm_Rn C (73, 0, [some (vR 9 0 0), some (vI x1), some (vI x2)], [], σ) = some (some (vI (σ1.1 5 0 4 (x1).toNatClampNeg)), σ1) := by
  refine (e_n 3 (fr' := (73, 5, [some (vR 9 0 0), some (vI x1), some (vI x2)], [vI x1, vR 5 0 0], σ)) rfl).trans ?_
  refine (e_ci (m := 73) (pc := 8) (ls := [some (vR 9 0 0), some (vI x1), some (vI x2)]) (rest := []) rfl h1).trans ?_
  refine (e_f (B := (73, 14, [some (vR 9 0 0), some (vI x1), some (vI x2)], [], σ1)) rfl h2).trans ?_
  refine (e_n 1 (fr' := (73, 15, [some (vR 9 0 0), some (vI x1), some (vI x2)], [vI x2], σ1)) rfl).trans ?_
  refine (e_g (A := (73, 104, [some (vR 9 0 0), some (vI x1), some (vI x2)], [], σ1)) (off' := 89) rfl (by rw [h3]; decide) rfl).trans ?_
  refine (e_n 4 (fr' := (73, 112, [some (vR 9 0 0), some (vI x1), some (vI x2)], [vI x1, vR 5 0 5], σ1)) rfl).trans ?_
  refine (e_a (A := (73, 113, [some (vR 9 0 0), some (vI x1), some (vI x2)], [vI (σ1.1 5 0 4 (x1).toNatClampNeg)], σ1)) rfl h4).trans ?_
  exact e_r rfl
set_option maxRecDepth 20000 in
theorem g73_0_6 (C : pmC) {σ : pmS} {x1 : Int32} {x2 : Int32} {σ1 : pmS} {r1 : Int32} (h1 : C 32 [vR 5 0 0, vI x1] σ = some (some (vI r1), σ1)) (h2 : ¬ r1 = 0) (h3 : x2 = (5 : Int32)) (h4 : vp_in x1 48) : pm_Rn C (73, 0, [some (vR 9 0 0), some (vI x1), some (vI x2)], [], σ) = some (some (vI (σ1.1 5 0 5 (x1).toNatClampNeg)), σ1) := by
  refine (e_n 3 (fr' := (73, 5, [some (vR 9 0 0), some (vI x1), some (vI x2)], [vI x1, vR 5 0 0], σ)) rfl).trans ?_
  refine (e_ci (m := 73) (pc := 8) (ls := [some (vR 9 0 0), some (vI x1), some (vI x2)]) (rest := []) rfl h1).trans ?_
  refine (e_f (B := (73, 14, [some (vR 9 0 0), some (vI x1), some (vI x2)], [], σ1)) rfl h2).trans ?_
  refine (e_n 1 (fr' := (73, 15, [some (vR 9 0 0), some (vI x1), some (vI x2)], [vI x2], σ1)) rfl).trans ?_
  refine (e_g (A := (73, 114, [some (vR 9 0 0), some (vI x1), some (vI x2)], [], σ1)) (off' := 99) rfl (by rw [h3]; decide) rfl).trans ?_
  refine (e_n 4 (fr' := (73, 122, [some (vR 9 0 0), some (vI x1), some (vI x2)], [vI x1, vR 5 0 6], σ1)) rfl).trans ?_
  refine (e_a (A := (73, 123, [some (vR 9 0 0), some (vI x1), some (vI x2)], [vI (σ1.1 5 0 5 (x1).toNatClampNeg)], σ1)) rfl h4).trans ?_
  exact e_r rfl
set_option maxRecDepth 20000 in
theorem g73_0_7 (C : pmC) {σ : pmS} {x1 : Int32} {x2 : Int32} {σ1 : pmS} {r1 : Int32} (h1 : C 32 [vR 5 0 0, vI x1] σ = some (some (vI r1), σ1)) (h2 : ¬ r1 = 0) (h3 : x2 = (6 : Int32)) (h4 : vp_in x1 48) : pm_Rn C (73, 0, [some (vR 9 0 0), some (vI x1), some (vI x2)], [], σ) = some (some (vI (σ1.1 5 0 7 (x1).toNatClampNeg)), σ1) := by
  refine (e_n 3 (fr' := (73, 5, [some (vR 9 0 0), some (vI x1), some (vI x2)], [vI x1, vR 5 0 0], σ)) rfl).trans ?_
  refine (e_ci (m := 73) (pc := 8) (ls := [some (vR 9 0 0), some (vI x1), some (vI x2)]) (rest := []) rfl h1).trans ?_
  refine (e_f (B := (73, 14, [some (vR 9 0 0), some (vI x1), some (vI x2)], [], σ1)) rfl h2).trans ?_
  refine (e_n 1 (fr' := (73, 15, [some (vR 9 0 0), some (vI x1), some (vI x2)], [vI x2], σ1)) rfl).trans ?_
  refine (e_g (A := (73, 124, [some (vR 9 0 0), some (vI x1), some (vI x2)], [], σ1)) (off' := 109) rfl (by rw [h3]; decide) rfl).trans ?_
  refine (e_n 4 (fr' := (73, 132, [some (vR 9 0 0), some (vI x1), some (vI x2)], [vI x1, vR 5 0 8], σ1)) rfl).trans ?_
  refine (e_a (A := (73, 133, [some (vR 9 0 0), some (vI x1), some (vI x2)], [vI (σ1.1 5 0 7 (x1).toNatClampNeg)], σ1)) rfl h4).trans ?_
  exact e_r rfl
set_option maxRecDepth 20000 in
theorem g73_0_8 (C : pmC) {σ : pmS} {x1 : Int32} {x2 : Int32} {σ1 : pmS} {r1 : Int32} (h1 : C 32 [vR 5 0 0, vI x1] σ = some (some (vI r1), σ1)) (h2 : ¬ r1 = 0) (h3 : x2 = (7 : Int32)) (h4 : vp_in x1 48) : pm_Rn C (73, 0, [some (vR 9 0 0), some (vI x1), some (vI x2)], [], σ) = some (some (vI (σ1.1 5 0 8 (x1).toNatClampNeg)), σ1) := by
  refine (e_n 3 (fr' := (73, 5, [some (vR 9 0 0), some (vI x1), some (vI x2)], [vI x1, vR 5 0 0], σ)) rfl).trans ?_
  refine (e_ci (m := 73) (pc := 8) (ls := [some (vR 9 0 0), some (vI x1), some (vI x2)]) (rest := []) rfl h1).trans ?_
  refine (e_f (B := (73, 14, [some (vR 9 0 0), some (vI x1), some (vI x2)], [], σ1)) rfl h2).trans ?_
  refine (e_n 1 (fr' := (73, 15, [some (vR 9 0 0), some (vI x1), some (vI x2)], [vI x2], σ1)) rfl).trans ?_
  refine (e_g (A := (73, 134, [some (vR 9 0 0), some (vI x1), some (vI x2)], [], σ1)) (off' := 119) rfl (by rw [h3]; decide) rfl).trans ?_
  refine (e_n 4 (fr' := (73, 142, [some (vR 9 0 0), some (vI x1), some (vI x2)], [vI x1, vR 5 0 9], σ1)) rfl).trans ?_
  refine (e_a (A := (73, 143, [some (vR 9 0 0), some (vI x1), some (vI x2)], [vI (σ1.1 5 0 8 (x1).toNatClampNeg)], σ1)) rfl h4).trans ?_
  exact e_r rfl
set_option maxRecDepth 20000 in
theorem g73_0_9 (C : pmC) {σ : pmS} {x1 : Int32} {x2 : Int32} {σ1 : pmS} {r1 : Int32} {σ2 : pmS} {r2 : Int32} (h1 : C 32 [vR 5 0 0, vI x1] σ = some (some (vI r1), σ1)) (h2 : ¬ r1 = 0) (h3 : x2 = (8 : Int32)) (h4 : C 37 [vR 5 0 0, vI x1] σ1 = some (some (vI r2), σ2)) (h5 : r2 = 0) : pm_Rn C (73, 0, [some (vR 9 0 0), some (vI x1), some (vI x2)], [], σ) = some (some (vI (0 : Int32)), σ2) := by
  refine (e_n 3 (fr' := (73, 5, [some (vR 9 0 0), some (vI x1), some (vI x2)], [vI x1, vR 5 0 0], σ)) rfl).trans ?_
  refine (e_ci (m := 73) (pc := 8) (ls := [some (vR 9 0 0), some (vI x1), some (vI x2)]) (rest := []) rfl h1).trans ?_
  refine (e_f (B := (73, 14, [some (vR 9 0 0), some (vI x1), some (vI x2)], [], σ1)) rfl h2).trans ?_
  refine (e_n 1 (fr' := (73, 15, [some (vR 9 0 0), some (vI x1), some (vI x2)], [vI x2], σ1)) rfl).trans ?_
  refine (e_g (A := (73, 144, [some (vR 9 0 0), some (vI x1), some (vI x2)], [], σ1)) (off' := 129) rfl (by rw [h3]; decide) rfl).trans ?_
  refine (e_n 3 (fr' := (73, 149, [some (vR 9 0 0), some (vI x1), some (vI x2)], [vI x1, vR 5 0 0], σ1)) rfl).trans ?_
  refine (e_ci (m := 73) (pc := 152) (ls := [some (vR 9 0 0), some (vI x1), some (vI x2)]) (rest := []) rfl h4).trans ?_
  refine (e_t (A := (73, 159, [some (vR 9 0 0), some (vI x1), some (vI x2)], [], σ2)) rfl h5).trans ?_
  refine (e_n 1 (fr' := (73, 160, [some (vR 9 0 0), some (vI x1), some (vI x2)], [vI (0 : Int32)], σ2)) rfl).trans ?_
  exact e_r rfl
set_option maxRecDepth 20000 in
theorem g73_0_10 (C : pmC) {σ : pmS} {x1 : Int32} {x2 : Int32} {σ1 : pmS} {r1 : Int32} {σ2 : pmS} {r2 : Int32} (h1 : C 32 [vR 5 0 0, vI x1] σ = some (some (vI r1), σ1)) (h2 : ¬ r1 = 0) (h3 : x2 = (8 : Int32)) (h4 : C 37 [vR 5 0 0, vI x1] σ1 = some (some (vI r2), σ2)) (h5 : ¬ r2 = 0) : pm_Rn C (73, 0, [some (vR 9 0 0), some (vI x1), some (vI x2)], [], σ) = some (some (vI (1 : Int32)), σ2) := by
  refine (e_n 3 (fr' := (73, 5, [some (vR 9 0 0), some (vI x1), some (vI x2)], [vI x1, vR 5 0 0], σ)) rfl).trans ?_
  refine (e_ci (m := 73) (pc := 8) (ls := [some (vR 9 0 0), some (vI x1), some (vI x2)]) (rest := []) rfl h1).trans ?_
  refine (e_f (B := (73, 14, [some (vR 9 0 0), some (vI x1), some (vI x2)], [], σ1)) rfl h2).trans ?_
  refine (e_n 1 (fr' := (73, 15, [some (vR 9 0 0), some (vI x1), some (vI x2)], [vI x2], σ1)) rfl).trans ?_
  refine (e_g (A := (73, 144, [some (vR 9 0 0), some (vI x1), some (vI x2)], [], σ1)) (off' := 129) rfl (by rw [h3]; decide) rfl).trans ?_
  refine (e_n 3 (fr' := (73, 149, [some (vR 9 0 0), some (vI x1), some (vI x2)], [vI x1, vR 5 0 0], σ1)) rfl).trans ?_
  refine (e_ci (m := 73) (pc := 152) (ls := [some (vR 9 0 0), some (vI x1), some (vI x2)]) (rest := []) rfl h4).trans ?_
  refine (e_f (B := (73, 155, [some (vR 9 0 0), some (vI x1), some (vI x2)], [], σ2)) rfl h5).trans ?_
  refine (e_n 2 (fr' := (73, 160, [some (vR 9 0 0), some (vI x1), some (vI x2)], [vI (1 : Int32)], σ2)) rfl).trans ?_
  exact e_r rfl
set_option maxRecDepth 20000 in
theorem g73_0_11 (C : pmC) {σ : pmS} {x1 : Int32} {x2 : Int32} {σ1 : pmS} {r1 : Int32} (h1 : C 32 [vR 5 0 0, vI x1] σ = some (some (vI r1), σ1)) (h2 : ¬ r1 = 0) (h3 : ¬ x2 = (0 : Int32)) (h4 : ¬ x2 = (1 : Int32)) (h5 : ¬ x2 = (2 : Int32)) (h6 : ¬ x2 = (3 : Int32)) (h7 : ¬ x2 = (4 : Int32)) (h8 : ¬ x2 = (5 : Int32)) (h9 : ¬ x2 = (6 : Int32)) (h10 : ¬ x2 = (7 : Int32)) (h11 : ¬ x2 = (8 : Int32)) : pm_Rn C (73, 0, [some (vR 9 0 0), some (vI x1), some (vI x2)], [], σ) = some (some (vI (-5 : Int32)), σ1) := by
  refine (e_n 3 (fr' := (73, 5, [some (vR 9 0 0), some (vI x1), some (vI x2)], [vI x1, vR 5 0 0], σ)) rfl).trans ?_
  refine (e_ci (m := 73) (pc := 8) (ls := [some (vR 9 0 0), some (vI x1), some (vI x2)]) (rest := []) rfl h1).trans ?_
  refine (e_f (B := (73, 14, [some (vR 9 0 0), some (vI x1), some (vI x2)], [], σ1)) rfl h2).trans ?_
  refine (e_n 1 (fr' := (73, 15, [some (vR 9 0 0), some (vI x1), some (vI x2)], [vI x2], σ1)) rfl).trans ?_
  refine (e_g (A := (73, 161, [some (vR 9 0 0), some (vI x1), some (vI x2)], [], σ1)) (off' := 146) rfl ((pm_sw_ne h3).trans ((pm_sw_ne h4).trans ((pm_sw_ne h5).trans ((pm_sw_ne h6).trans ((pm_sw_ne h7).trans ((pm_sw_ne h8).trans ((pm_sw_ne h9).trans ((pm_sw_ne h10).trans ((pm_sw_ne h11).trans (rfl)))))))))) rfl).trans ?_
  refine (e_n 1 (fr' := (73, 163, [some (vR 9 0 0), some (vI x1), some (vI x2)], [vI (-5 : Int32)], σ1)) rfl).trans ?_
  exact e_r rfl
set_option maxRecDepth 20000 in
theorem g74_0_0 (C : pmC) {σ : pmS} {x1 : Int32} {x2 : Int32} {σ1 : pmS} {r1 : Int32} (h1 : C 32 [vR 5 0 0, vI x1] σ = some (some (vI r1), σ1)) (h2 : r1 = 0) : pm_Rn C (74, 0, [some (vR 9 0 0), some (vI x1), some (vI x2)], [], σ) = some (some (vI (-1 : Int32)), σ1) := by
  refine (e_n 3 (fr' := (74, 5, [some (vR 9 0 0), some (vI x1), some (vI x2)], [vI x1, vR 5 0 0], σ)) rfl).trans ?_
  refine (e_ci (m := 74) (pc := 8) (ls := [some (vR 9 0 0), some (vI x1), some (vI x2)]) (rest := []) rfl h1).trans ?_
  refine (e_t (A := (74, 27, [some (vR 9 0 0), some (vI x1), some (vI x2)], [], σ1)) rfl h2).trans ?_
  refine (e_n 1 (fr' := (74, 28, [some (vR 9 0 0), some (vI x1), some (vI x2)], [vI (-1 : Int32)], σ1)) rfl).trans ?_
  exact e_r rfl
set_option maxRecDepth 20000 in
theorem g74_0_1 (C : pmC) {σ : pmS} {x1 : Int32} {x2 : Int32} {σ1 : pmS} {r1 : Int32} {σ2 : pmS} {r2 : Int32} (h1 : C 32 [vR 5 0 0, vI x1] σ = some (some (vI r1), σ1)) (h2 : ¬ r1 = 0) (h3 : C 53 [vR 8 0 0, vR 5 0 0, vI x1, vI x2] σ1 = some (some (vI r2), σ2)) : pm_Rn C (74, 0, [some (vR 9 0 0), some (vI x1), some (vI x2)], [], σ) = some (some (vI r2), σ2) := by
  refine (e_n 3 (fr' := (74, 5, [some (vR 9 0 0), some (vI x1), some (vI x2)], [vI x1, vR 5 0 0], σ)) rfl).trans ?_
  refine (e_ci (m := 74) (pc := 8) (ls := [some (vR 9 0 0), some (vI x1), some (vI x2)]) (rest := []) rfl h1).trans ?_
  refine (e_f (B := (74, 11, [some (vR 9 0 0), some (vI x1), some (vI x2)], [], σ1)) rfl h2).trans ?_
  refine (e_n 6 (fr' := (74, 21, [some (vR 9 0 0), some (vI x1), some (vI x2)], [vI x2, vI x1, vR 5 0 0, vR 8 0 0], σ1)) rfl).trans ?_
  refine (e_ci (m := 74) (pc := 24) (ls := [some (vR 9 0 0), some (vI x1), some (vI x2)]) (rest := []) rfl h3).trans ?_
  refine (e_n 1 (fr' := (74, 28, [some (vR 9 0 0), some (vI x1), some (vI x2)], [vI r2], σ2)) rfl).trans ?_
  exact e_r rfl
set_option maxRecDepth 20000 in
theorem g75_0_0 (C : pmC) {σ : pmS} {x1 : Int32} {x2 : Int32} {l3 : Option pmV} {l4 : Option pmV} {σ1 : pmS} {r1 : Int32} (h1 : C 32 [vR 5 0 0, vI x1] σ = some (some (vI r1), σ1)) (h2 : r1 = 0) : pm_Rn C (75, 0, [some (vR 9 0 0), some (vI x1), some (vI x2), l3, l4], [], σ) = some (some (vI (-1 : Int32)), σ1) := by
  refine (e_n 3 (fr' := (75, 5, [some (vR 9 0 0), some (vI x1), some (vI x2), l3, l4], [vI x1, vR 5 0 0], σ)) rfl).trans ?_
  refine (e_ci (m := 75) (pc := 8) (ls := [some (vR 9 0 0), some (vI x1), some (vI x2), l3, l4]) (rest := []) rfl h1).trans ?_
  refine (e_t (A := (75, 11, [some (vR 9 0 0), some (vI x1), some (vI x2), l3, l4], [], σ1)) rfl h2).trans ?_
  refine (e_n 1 (fr' := (75, 12, [some (vR 9 0 0), some (vI x1), some (vI x2), l3, l4], [vI (-1 : Int32)], σ1)) rfl).trans ?_
  exact e_r rfl
set_option maxRecDepth 20000 in
theorem g75_0_1 (C : pmC) {σ : pmS} {x1 : Int32} {x2 : Int32} {l3 : Option pmV} {l4 : Option pmV} {σ1 : pmS} {r1 : Int32} (h1 : C 32 [vR 5 0 0, vI x1] σ = some (some (vI r1), σ1)) (h2 : ¬ r1 = 0) : pm_Rn C (75, 0, [some (vR 9 0 0), some (vI x1), some (vI x2), l3, l4], [], σ) = pm_Rn C (75, 18, [some (vR 9 0 0), some (vI x1), some (vI x2), some (vI (0 : Int32)), some (vI (0 : Int32))], [], σ1) := by
  refine (e_n 3 (fr' := (75, 5, [some (vR 9 0 0), some (vI x1), some (vI x2), l3, l4], [vI x1, vR 5 0 0], σ)) rfl).trans ?_
  refine (e_ci (m := 75) (pc := 8) (ls := [some (vR 9 0 0), some (vI x1), some (vI x2), l3, l4]) (rest := []) rfl h1).trans ?_
  refine (e_f (B := (75, 13, [some (vR 9 0 0), some (vI x1), some (vI x2), l3, l4], [], σ1)) rfl h2).trans ?_
  exact e_n 4 rfl
set_option maxRecDepth 20000 in
theorem g75_18_0 (C : pmC) {σ : pmS} {x1 : Int32} {x2 : Int32} {x3 : Int32} {x4 : Int32} (h1 : (σ.1 5 0 9 0) ≤ x4) : pm_Rn C (75, 18, [some (vR 9 0 0), some (vI x1), some (vI x2), some (vI x3), some (vI x4)], [], σ) = some (some (vI x3), σ) := by
  refine (e_n 4 (fr' := (75, 27, [some (vR 9 0 0), some (vI x1), some (vI x2), some (vI x3), some (vI x4)], [vI (σ.1 5 0 9 0), vI x4], σ)) rfl).trans ?_
  refine (e_t (A := (75, 66, [some (vR 9 0 0), some (vI x1), some (vI x2), some (vI x3), some (vI x4)], [], σ)) rfl h1).trans ?_
  refine (e_n 1 (fr' := (75, 67, [some (vR 9 0 0), some (vI x1), some (vI x2), some (vI x3), some (vI x4)], [vI x3], σ)) rfl).trans ?_
  exact e_r rfl
set_option maxRecDepth 20000 in
theorem g75_18_1 (C : pmC) {σ : pmS} {x1 : Int32} {x2 : Int32} {x3 : Int32} {x4 : Int32} {σ1 : pmS} {r1 : Int32} (h1 : ¬ (σ.1 5 0 9 0) ≤ x4) (h2 : C 35 [vR 5 0 0, vI x1, vI x4] σ = some (some (vI r1), σ1)) (h3 : r1 = 0) : pm_Rn C (75, 18, [some (vR 9 0 0), some (vI x1), some (vI x2), some (vI x3), some (vI x4)], [], σ) = pm_Rn C (75, 18, [some (vR 9 0 0), some (vI x1), some (vI x2), some (vI x3), some (vI (x4 + (1 : Int32)))], [], σ1) := by
  refine (e_n 4 (fr' := (75, 27, [some (vR 9 0 0), some (vI x1), some (vI x2), some (vI x3), some (vI x4)], [vI (σ.1 5 0 9 0), vI x4], σ)) rfl).trans ?_
  refine (e_f (B := (75, 30, [some (vR 9 0 0), some (vI x1), some (vI x2), some (vI x3), some (vI x4)], [], σ)) rfl h1).trans ?_
  refine (e_n 4 (fr' := (75, 37, [some (vR 9 0 0), some (vI x1), some (vI x2), some (vI x3), some (vI x4)], [vI x4, vI x1, vR 5 0 0], σ)) rfl).trans ?_
  refine (e_ci (m := 75) (pc := 40) (ls := [some (vR 9 0 0), some (vI x1), some (vI x2), some (vI x3), some (vI x4)]) (rest := []) rfl h2).trans ?_
  refine (e_t (A := (75, 60, [some (vR 9 0 0), some (vI x1), some (vI x2), some (vI x3), some (vI x4)], [], σ1)) rfl h3).trans ?_
  exact e_n 2 rfl
set_option maxRecDepth 20000 in
theorem g75_18_2 (C : pmC) {σ : pmS} {x1 : Int32} {x2 : Int32} {x3 : Int32} {x4 : Int32} {σ1 : pmS} {r1 : Int32} (h1 : ¬ (σ.1 5 0 9 0) ≤ x4) (h2 : C 35 [vR 5 0 0, vI x1, vI x4] σ = some (some (vI r1), σ1)) (h3 : ¬ r1 = 0) (h4 : vp_in x4 48) (h5 : x2 < (σ1.1 5 0 1 (x4).toNatClampNeg)) : pm_Rn C (75, 18, [some (vR 9 0 0), some (vI x1), some (vI x2), some (vI x3), some (vI x4)], [], σ) = pm_Rn C (75, 18, [some (vR 9 0 0), some (vI x1), some (vI x2), some (vI x3), some (vI (x4 + (1 : Int32)))], [], σ1) := by
  refine (e_n 4 (fr' := (75, 27, [some (vR 9 0 0), some (vI x1), some (vI x2), some (vI x3), some (vI x4)], [vI (σ.1 5 0 9 0), vI x4], σ)) rfl).trans ?_
  refine (e_f (B := (75, 30, [some (vR 9 0 0), some (vI x1), some (vI x2), some (vI x3), some (vI x4)], [], σ)) rfl h1).trans ?_
  refine (e_n 4 (fr' := (75, 37, [some (vR 9 0 0), some (vI x1), some (vI x2), some (vI x3), some (vI x4)], [vI x4, vI x1, vR 5 0 0], σ)) rfl).trans ?_
  refine (e_ci (m := 75) (pc := 40) (ls := [some (vR 9 0 0), some (vI x1), some (vI x2), some (vI x3), some (vI x4)]) (rest := []) rfl h2).trans ?_
  refine (e_f (B := (75, 43, [some (vR 9 0 0), some (vI x1), some (vI x2), some (vI x3), some (vI x4)], [], σ1)) rfl h3).trans ?_
  refine (e_n 4 (fr' := (75, 52, [some (vR 9 0 0), some (vI x1), some (vI x2), some (vI x3), some (vI x4)], [vI x4, vR 5 0 2], σ1)) rfl).trans ?_
  refine (e_a (A := (75, 53, [some (vR 9 0 0), some (vI x1), some (vI x2), some (vI x3), some (vI x4)], [vI (σ1.1 5 0 1 (x4).toNatClampNeg)], σ1)) rfl h4).trans ?_
  refine (e_n 1 (fr' := (75, 54, [some (vR 9 0 0), some (vI x1), some (vI x2), some (vI x3), some (vI x4)], [vI x2, vI (σ1.1 5 0 1 (x4).toNatClampNeg)], σ1)) rfl).trans ?_
  refine (e_t (A := (75, 60, [some (vR 9 0 0), some (vI x1), some (vI x2), some (vI x3), some (vI x4)], [], σ1)) rfl h5).trans ?_
  exact e_n 2 rfl
set_option maxRecDepth 20000 in
theorem g75_18_3 (C : pmC) {σ : pmS} {x1 : Int32} {x2 : Int32} {x3 : Int32} {x4 : Int32} {σ1 : pmS} {r1 : Int32} (h1 : ¬ (σ.1 5 0 9 0) ≤ x4) (h2 : C 35 [vR 5 0 0, vI x1, vI x4] σ = some (some (vI r1), σ1)) (h3 : ¬ r1 = 0) (h4 : vp_in x4 48) (h5 : ¬ x2 < (σ1.1 5 0 1 (x4).toNatClampNeg)) : pm_Rn C (75, 18, [some (vR 9 0 0), some (vI x1), some (vI x2), some (vI x3), some (vI x4)], [], σ) = pm_Rn C (75, 18, [some (vR 9 0 0), some (vI x1), some (vI x2), some (vI (x3 + (1 : Int32))), some (vI (x4 + (1 : Int32)))], [], σ1) := by
  refine (e_n 4 (fr' := (75, 27, [some (vR 9 0 0), some (vI x1), some (vI x2), some (vI x3), some (vI x4)], [vI (σ.1 5 0 9 0), vI x4], σ)) rfl).trans ?_
  refine (e_f (B := (75, 30, [some (vR 9 0 0), some (vI x1), some (vI x2), some (vI x3), some (vI x4)], [], σ)) rfl h1).trans ?_
  refine (e_n 4 (fr' := (75, 37, [some (vR 9 0 0), some (vI x1), some (vI x2), some (vI x3), some (vI x4)], [vI x4, vI x1, vR 5 0 0], σ)) rfl).trans ?_
  refine (e_ci (m := 75) (pc := 40) (ls := [some (vR 9 0 0), some (vI x1), some (vI x2), some (vI x3), some (vI x4)]) (rest := []) rfl h2).trans ?_
  refine (e_f (B := (75, 43, [some (vR 9 0 0), some (vI x1), some (vI x2), some (vI x3), some (vI x4)], [], σ1)) rfl h3).trans ?_
  refine (e_n 4 (fr' := (75, 52, [some (vR 9 0 0), some (vI x1), some (vI x2), some (vI x3), some (vI x4)], [vI x4, vR 5 0 2], σ1)) rfl).trans ?_
  refine (e_a (A := (75, 53, [some (vR 9 0 0), some (vI x1), some (vI x2), some (vI x3), some (vI x4)], [vI (σ1.1 5 0 1 (x4).toNatClampNeg)], σ1)) rfl h4).trans ?_
  refine (e_n 1 (fr' := (75, 54, [some (vR 9 0 0), some (vI x1), some (vI x2), some (vI x3), some (vI x4)], [vI x2, vI (σ1.1 5 0 1 (x4).toNatClampNeg)], σ1)) rfl).trans ?_
  refine (e_f (B := (75, 57, [some (vR 9 0 0), some (vI x1), some (vI x2), some (vI x3), some (vI x4)], [], σ1)) rfl h5).trans ?_
  exact e_n 3 rfl
set_option maxRecDepth 20000 in
theorem g76_0_0 (C : pmC) {σ : pmS} {x1 : Int32} {x2 : Int32} {x3 : Int32} {l4 : Option pmV} {l5 : Option pmV} {l6 : Option pmV} {σ1 : pmS} {r1 : Int32} (h1 : C 88 [vR 9 0 0, vI x1] σ = some (some (vI r1), σ1)) (h2 : r1 = 0) : pm_Rn C (76, 0, [some (vR 9 0 0), some (vI x1), some (vI x2), some (vI x3), l4, l5, l6], [], σ) = some (some (vI (-1 : Int32)), σ1) := by
  refine (e_n 2 (fr' := (76, 2, [some (vR 9 0 0), some (vI x1), some (vI x2), some (vI x3), l4, l5, l6], [vI x1, vR 9 0 0], σ)) rfl).trans ?_
  refine (e_ci (m := 76) (pc := 5) (ls := [some (vR 9 0 0), some (vI x1), some (vI x2), some (vI x3), l4, l5, l6]) (rest := []) rfl h1).trans ?_
  refine (e_t (A := (76, 19, [some (vR 9 0 0), some (vI x1), some (vI x2), some (vI x3), l4, l5, l6], [], σ1)) rfl h2).trans ?_
  refine (e_n 1 (fr' := (76, 20, [some (vR 9 0 0), some (vI x1), some (vI x2), some (vI x3), l4, l5, l6], [vI (-1 : Int32)], σ1)) rfl).trans ?_
  exact e_r rfl
set_option maxRecDepth 20000 in
theorem g76_0_1 (C : pmC) {σ : pmS} {x1 : Int32} {x2 : Int32} {x3 : Int32} {l4 : Option pmV} {l5 : Option pmV} {l6 : Option pmV} {σ1 : pmS} {r1 : Int32} (h1 : C 88 [vR 9 0 0, vI x1] σ = some (some (vI r1), σ1)) (h2 : ¬ r1 = 0) (h3 : x3 < (-1 : Int32)) : pm_Rn C (76, 0, [some (vR 9 0 0), some (vI x1), some (vI x2), some (vI x3), l4, l5, l6], [], σ) = some (some (vI (-1 : Int32)), σ1) := by
  refine (e_n 2 (fr' := (76, 2, [some (vR 9 0 0), some (vI x1), some (vI x2), some (vI x3), l4, l5, l6], [vI x1, vR 9 0 0], σ)) rfl).trans ?_
  refine (e_ci (m := 76) (pc := 5) (ls := [some (vR 9 0 0), some (vI x1), some (vI x2), some (vI x3), l4, l5, l6]) (rest := []) rfl h1).trans ?_
  refine (e_f (B := (76, 8, [some (vR 9 0 0), some (vI x1), some (vI x2), some (vI x3), l4, l5, l6], [], σ1)) rfl h2).trans ?_
  refine (e_n 2 (fr' := (76, 10, [some (vR 9 0 0), some (vI x1), some (vI x2), some (vI x3), l4, l5, l6], [vI (-1 : Int32), vI x3], σ1)) rfl).trans ?_
  refine (e_t (A := (76, 19, [some (vR 9 0 0), some (vI x1), some (vI x2), some (vI x3), l4, l5, l6], [], σ1)) rfl h3).trans ?_
  refine (e_n 1 (fr' := (76, 20, [some (vR 9 0 0), some (vI x1), some (vI x2), some (vI x3), l4, l5, l6], [vI (-1 : Int32)], σ1)) rfl).trans ?_
  exact e_r rfl
set_option maxRecDepth 20000 in
theorem g76_0_2 (C : pmC) {σ : pmS} {x1 : Int32} {x2 : Int32} {x3 : Int32} {l4 : Option pmV} {l5 : Option pmV} {l6 : Option pmV} {σ1 : pmS} {r1 : Int32} (h1 : C 88 [vR 9 0 0, vI x1] σ = some (some (vI r1), σ1)) (h2 : ¬ r1 = 0) (h3 : ¬ x3 < (-1 : Int32)) (h4 : x3 < (8 : Int32)) : pm_Rn C (76, 0, [some (vR 9 0 0), some (vI x1), some (vI x2), some (vI x3), l4, l5, l6], [], σ) = pm_Rn C (76, 27, [some (vR 9 0 0), some (vI x1), some (vI x2), some (vI x3), some (vI (0 : Int32)), some (vI (0 : Int32)), l6], [], σ1) := by
  refine (e_n 2 (fr' := (76, 2, [some (vR 9 0 0), some (vI x1), some (vI x2), some (vI x3), l4, l5, l6], [vI x1, vR 9 0 0], σ)) rfl).trans ?_
  refine (e_ci (m := 76) (pc := 5) (ls := [some (vR 9 0 0), some (vI x1), some (vI x2), some (vI x3), l4, l5, l6]) (rest := []) rfl h1).trans ?_
  refine (e_f (B := (76, 8, [some (vR 9 0 0), some (vI x1), some (vI x2), some (vI x3), l4, l5, l6], [], σ1)) rfl h2).trans ?_
  refine (e_n 2 (fr' := (76, 10, [some (vR 9 0 0), some (vI x1), some (vI x2), some (vI x3), l4, l5, l6], [vI (-1 : Int32), vI x3], σ1)) rfl).trans ?_
  refine (e_f (B := (76, 13, [some (vR 9 0 0), some (vI x1), some (vI x2), some (vI x3), l4, l5, l6], [], σ1)) rfl h3).trans ?_
  refine (e_n 2 (fr' := (76, 16, [some (vR 9 0 0), some (vI x1), some (vI x2), some (vI x3), l4, l5, l6], [vI (8 : Int32), vI x3], σ1)) rfl).trans ?_
  refine (e_t (A := (76, 21, [some (vR 9 0 0), some (vI x1), some (vI x2), some (vI x3), l4, l5, l6], [], σ1)) rfl h4).trans ?_
  exact e_n 4 rfl
set_option maxRecDepth 20000 in
theorem g76_0_3 (C : pmC) {σ : pmS} {x1 : Int32} {x2 : Int32} {x3 : Int32} {l4 : Option pmV} {l5 : Option pmV} {l6 : Option pmV} {σ1 : pmS} {r1 : Int32} (h1 : C 88 [vR 9 0 0, vI x1] σ = some (some (vI r1), σ1)) (h2 : ¬ r1 = 0) (h3 : ¬ x3 < (-1 : Int32)) (h4 : ¬ x3 < (8 : Int32)) : pm_Rn C (76, 0, [some (vR 9 0 0), some (vI x1), some (vI x2), some (vI x3), l4, l5, l6], [], σ) = some (some (vI (-1 : Int32)), σ1) := by
  refine (e_n 2 (fr' := (76, 2, [some (vR 9 0 0), some (vI x1), some (vI x2), some (vI x3), l4, l5, l6], [vI x1, vR 9 0 0], σ)) rfl).trans ?_
  refine (e_ci (m := 76) (pc := 5) (ls := [some (vR 9 0 0), some (vI x1), some (vI x2), some (vI x3), l4, l5, l6]) (rest := []) rfl h1).trans ?_
  refine (e_f (B := (76, 8, [some (vR 9 0 0), some (vI x1), some (vI x2), some (vI x3), l4, l5, l6], [], σ1)) rfl h2).trans ?_
  refine (e_n 2 (fr' := (76, 10, [some (vR 9 0 0), some (vI x1), some (vI x2), some (vI x3), l4, l5, l6], [vI (-1 : Int32), vI x3], σ1)) rfl).trans ?_
  refine (e_f (B := (76, 13, [some (vR 9 0 0), some (vI x1), some (vI x2), some (vI x3), l4, l5, l6], [], σ1)) rfl h3).trans ?_
  refine (e_n 2 (fr' := (76, 16, [some (vR 9 0 0), some (vI x1), some (vI x2), some (vI x3), l4, l5, l6], [vI (8 : Int32), vI x3], σ1)) rfl).trans ?_
  refine (e_f (B := (76, 19, [some (vR 9 0 0), some (vI x1), some (vI x2), some (vI x3), l4, l5, l6], [], σ1)) rfl h4).trans ?_
  refine (e_n 1 (fr' := (76, 20, [some (vR 9 0 0), some (vI x1), some (vI x2), some (vI x3), l4, l5, l6], [vI (-1 : Int32)], σ1)) rfl).trans ?_
  exact e_r rfl
set_option maxRecDepth 20000 in
theorem g76_27_0 (C : pmC) {σ : pmS} {x1 : Int32} {x2 : Int32} {x3 : Int32} {x4 : Int32} {x5 : Int32} {l6 : Option pmV} (h1 : (σ.1 5 0 9 0) ≤ x5) : pm_Rn C (76, 27, [some (vR 9 0 0), some (vI x1), some (vI x2), some (vI x3), some (vI x4), some (vI x5), l6], [], σ) = some (some (vI x4), σ) := by
  refine (e_n 4 (fr' := (76, 36, [some (vR 9 0 0), some (vI x1), some (vI x2), some (vI x3), some (vI x4), some (vI x5), l6], [vI (σ.1 5 0 9 0), vI x5], σ)) rfl).trans ?_
  refine (e_t (A := (76, 106, [some (vR 9 0 0), some (vI x1), some (vI x2), some (vI x3), some (vI x4), some (vI x5), l6], [], σ)) rfl h1).trans ?_
  refine (e_n 1 (fr' := (76, 108, [some (vR 9 0 0), some (vI x1), some (vI x2), some (vI x3), some (vI x4), some (vI x5), l6], [vI x4], σ)) rfl).trans ?_
  exact e_r rfl
set_option maxRecDepth 20000 in
theorem g76_27_1 (C : pmC) {σ : pmS} {x1 : Int32} {x2 : Int32} {x3 : Int32} {x4 : Int32} {x5 : Int32} {l6 : Option pmV} {σ1 : pmS} {r1 : Int32} (h1 : ¬ (σ.1 5 0 9 0) ≤ x5) (h2 : x3 = (-1 : Int32)) (h3 : vp_in x5 48) (h4 : (σ.1 5 0 3 (x5).toNatClampNeg) = x1) (h5 : C 34 [vR 5 0 0, vI x5, vI x2] σ = some (some (vI r1), σ1)) (h6 : r1 = 0) : pm_Rn C (76, 27, [some (vR 9 0 0), some (vI x1), some (vI x2), some (vI x3), some (vI x4), some (vI x5), l6], [], σ) = pm_Rn C (76, 27, [some (vR 9 0 0), some (vI x1), some (vI x2), some (vI x3), some (vI x4), some (vI (x5 + (1 : Int32))), some (vI (1 : Int32))], [], σ1) := by
  refine (e_n 4 (fr' := (76, 36, [some (vR 9 0 0), some (vI x1), some (vI x2), some (vI x3), some (vI x4), some (vI x5), l6], [vI (σ.1 5 0 9 0), vI x5], σ)) rfl).trans ?_
  refine (e_f (B := (76, 39, [some (vR 9 0 0), some (vI x1), some (vI x2), some (vI x3), some (vI x4), some (vI x5), l6], [], σ)) rfl h1).trans ?_
  refine (e_n 2 (fr' := (76, 41, [some (vR 9 0 0), some (vI x1), some (vI x2), some (vI x3), some (vI x4), some (vI x5), l6], [vI (-1 : Int32), vI x3], σ)) rfl).trans ?_
  refine (e_t (A := (76, 58, [some (vR 9 0 0), some (vI x1), some (vI x2), some (vI x3), some (vI x4), some (vI x5), l6], [], σ)) rfl h2).trans ?_
  refine (e_n 9 (fr' := (76, 79, [some (vR 9 0 0), some (vI x1), some (vI x2), some (vI x3), some (vI x4), some (vI x5), some (vI (1 : Int32))], [vI x5, vR 5 0 4], σ)) rfl).trans ?_
  refine (e_a (A := (76, 80, [some (vR 9 0 0), some (vI x1), some (vI x2), some (vI x3), some (vI x4), some (vI x5), some (vI (1 : Int32))], [vI (σ.1 5 0 3 (x5).toNatClampNeg)], σ)) rfl h3).trans ?_
  refine (e_n 1 (fr' := (76, 81, [some (vR 9 0 0), some (vI x1), some (vI x2), some (vI x3), some (vI x4), some (vI x5), some (vI (1 : Int32))], [vI x1, vI (σ.1 5 0 3 (x5).toNatClampNeg)], σ)) rfl).trans ?_
  refine (e_t (A := (76, 84, [some (vR 9 0 0), some (vI x1), some (vI x2), some (vI x3), some (vI x4), some (vI x5), some (vI (1 : Int32))], [], σ)) rfl h4).trans ?_
  refine (e_n 4 (fr' := (76, 91, [some (vR 9 0 0), some (vI x1), some (vI x2), some (vI x3), some (vI x4), some (vI x5), some (vI (1 : Int32))], [vI x2, vI x5, vR 5 0 0], σ)) rfl).trans ?_
  refine (e_ci (m := 76) (pc := 94) (ls := [some (vR 9 0 0), some (vI x1), some (vI x2), some (vI x3), some (vI x4), some (vI x5), some (vI (1 : Int32))]) (rest := []) rfl h5).trans ?_
  refine (e_t (A := (76, 100, [some (vR 9 0 0), some (vI x1), some (vI x2), some (vI x3), some (vI x4), some (vI x5), some (vI (1 : Int32))], [], σ1)) rfl h6).trans ?_
  exact e_n 2 rfl
set_option maxRecDepth 20000 in
theorem g76_27_2 (C : pmC) {σ : pmS} {x1 : Int32} {x2 : Int32} {x3 : Int32} {x4 : Int32} {x5 : Int32} {l6 : Option pmV} {σ1 : pmS} {r1 : Int32} (h1 : ¬ (σ.1 5 0 9 0) ≤ x5) (h2 : x3 = (-1 : Int32)) (h3 : vp_in x5 48) (h4 : (σ.1 5 0 3 (x5).toNatClampNeg) = x1) (h5 : C 34 [vR 5 0 0, vI x5, vI x2] σ = some (some (vI r1), σ1)) (h6 : ¬ r1 = 0) : pm_Rn C (76, 27, [some (vR 9 0 0), some (vI x1), some (vI x2), some (vI x3), some (vI x4), some (vI x5), l6], [], σ) = pm_Rn C (76, 27, [some (vR 9 0 0), some (vI x1), some (vI x2), some (vI x3), some (vI (x4 + (1 : Int32))), some (vI (x5 + (1 : Int32))), some (vI (1 : Int32))], [], σ1) := by
  refine (e_n 4 (fr' := (76, 36, [some (vR 9 0 0), some (vI x1), some (vI x2), some (vI x3), some (vI x4), some (vI x5), l6], [vI (σ.1 5 0 9 0), vI x5], σ)) rfl).trans ?_
  refine (e_f (B := (76, 39, [some (vR 9 0 0), some (vI x1), some (vI x2), some (vI x3), some (vI x4), some (vI x5), l6], [], σ)) rfl h1).trans ?_
  refine (e_n 2 (fr' := (76, 41, [some (vR 9 0 0), some (vI x1), some (vI x2), some (vI x3), some (vI x4), some (vI x5), l6], [vI (-1 : Int32), vI x3], σ)) rfl).trans ?_
  refine (e_t (A := (76, 58, [some (vR 9 0 0), some (vI x1), some (vI x2), some (vI x3), some (vI x4), some (vI x5), l6], [], σ)) rfl h2).trans ?_
  refine (e_n 9 (fr' := (76, 79, [some (vR 9 0 0), some (vI x1), some (vI x2), some (vI x3), some (vI x4), some (vI x5), some (vI (1 : Int32))], [vI x5, vR 5 0 4], σ)) rfl).trans ?_
  refine (e_a (A := (76, 80, [some (vR 9 0 0), some (vI x1), some (vI x2), some (vI x3), some (vI x4), some (vI x5), some (vI (1 : Int32))], [vI (σ.1 5 0 3 (x5).toNatClampNeg)], σ)) rfl h3).trans ?_
  refine (e_n 1 (fr' := (76, 81, [some (vR 9 0 0), some (vI x1), some (vI x2), some (vI x3), some (vI x4), some (vI x5), some (vI (1 : Int32))], [vI x1, vI (σ.1 5 0 3 (x5).toNatClampNeg)], σ)) rfl).trans ?_
  refine (e_t (A := (76, 84, [some (vR 9 0 0), some (vI x1), some (vI x2), some (vI x3), some (vI x4), some (vI x5), some (vI (1 : Int32))], [], σ)) rfl h4).trans ?_
  refine (e_n 4 (fr' := (76, 91, [some (vR 9 0 0), some (vI x1), some (vI x2), some (vI x3), some (vI x4), some (vI x5), some (vI (1 : Int32))], [vI x2, vI x5, vR 5 0 0], σ)) rfl).trans ?_
  refine (e_ci (m := 76) (pc := 94) (ls := [some (vR 9 0 0), some (vI x1), some (vI x2), some (vI x3), some (vI x4), some (vI x5), some (vI (1 : Int32))]) (rest := []) rfl h5).trans ?_
  refine (e_f (B := (76, 97, [some (vR 9 0 0), some (vI x1), some (vI x2), some (vI x3), some (vI x4), some (vI x5), some (vI (1 : Int32))], [], σ1)) rfl h6).trans ?_
  exact e_n 3 rfl
set_option maxRecDepth 20000 in
theorem g76_27_3 (C : pmC) {σ : pmS} {x1 : Int32} {x2 : Int32} {x3 : Int32} {x4 : Int32} {x5 : Int32} {l6 : Option pmV} (h1 : ¬ (σ.1 5 0 9 0) ≤ x5) (h2 : x3 = (-1 : Int32)) (h3 : vp_in x5 48) (h4 : ¬ (σ.1 5 0 3 (x5).toNatClampNeg) = x1) : pm_Rn C (76, 27, [some (vR 9 0 0), some (vI x1), some (vI x2), some (vI x3), some (vI x4), some (vI x5), l6], [], σ) = pm_Rn C (76, 27, [some (vR 9 0 0), some (vI x1), some (vI x2), some (vI x3), some (vI x4), some (vI (x5 + (1 : Int32))), some (vI (1 : Int32))], [], σ) := by
  refine (e_n 4 (fr' := (76, 36, [some (vR 9 0 0), some (vI x1), some (vI x2), some (vI x3), some (vI x4), some (vI x5), l6], [vI (σ.1 5 0 9 0), vI x5], σ)) rfl).trans ?_
  refine (e_f (B := (76, 39, [some (vR 9 0 0), some (vI x1), some (vI x2), some (vI x3), some (vI x4), some (vI x5), l6], [], σ)) rfl h1).trans ?_
  refine (e_n 2 (fr' := (76, 41, [some (vR 9 0 0), some (vI x1), some (vI x2), some (vI x3), some (vI x4), some (vI x5), l6], [vI (-1 : Int32), vI x3], σ)) rfl).trans ?_
  refine (e_t (A := (76, 58, [some (vR 9 0 0), some (vI x1), some (vI x2), some (vI x3), some (vI x4), some (vI x5), l6], [], σ)) rfl h2).trans ?_
  refine (e_n 9 (fr' := (76, 79, [some (vR 9 0 0), some (vI x1), some (vI x2), some (vI x3), some (vI x4), some (vI x5), some (vI (1 : Int32))], [vI x5, vR 5 0 4], σ)) rfl).trans ?_
  refine (e_a (A := (76, 80, [some (vR 9 0 0), some (vI x1), some (vI x2), some (vI x3), some (vI x4), some (vI x5), some (vI (1 : Int32))], [vI (σ.1 5 0 3 (x5).toNatClampNeg)], σ)) rfl h3).trans ?_
  refine (e_n 1 (fr' := (76, 81, [some (vR 9 0 0), some (vI x1), some (vI x2), some (vI x3), some (vI x4), some (vI x5), some (vI (1 : Int32))], [vI x1, vI (σ.1 5 0 3 (x5).toNatClampNeg)], σ)) rfl).trans ?_
  refine (e_f (B := (76, 100, [some (vR 9 0 0), some (vI x1), some (vI x2), some (vI x3), some (vI x4), some (vI x5), some (vI (1 : Int32))], [], σ)) rfl h4).trans ?_
  exact e_n 2 rfl
set_option maxRecDepth 20000 in
theorem g76_27_4 (C : pmC) {σ : pmS} {x1 : Int32} {x2 : Int32} {x3 : Int32} {x4 : Int32} {x5 : Int32} {l6 : Option pmV} {σ1 : pmS} {r1 : Int32} (h1 : ¬ (σ.1 5 0 9 0) ≤ x5) (h2 : ¬ x3 = (-1 : Int32)) (h3 : vp_in x5 48) (h4 : (σ.1 5 0 7 (x5).toNatClampNeg) = x3) (h5 : (σ.1 5 0 3 (x5).toNatClampNeg) = x1) (h6 : C 34 [vR 5 0 0, vI x5, vI x2] σ = some (some (vI r1), σ1)) (h7 : r1 = 0) : pm_Rn C (76, 27, [some (vR 9 0 0), some (vI x1), some (vI x2), some (vI x3), some (vI x4), some (vI x5), l6], [], σ) = pm_Rn C (76, 27, [some (vR 9 0 0), some (vI x1), some (vI x2), some (vI x3), some (vI x4), some (vI (x5 + (1 : Int32))), some (vI (1 : Int32))], [], σ1) := by
  refine (e_n 4 (fr' := (76, 36, [some (vR 9 0 0), some (vI x1), some (vI x2), some (vI x3), some (vI x4), some (vI x5), l6], [vI (σ.1 5 0 9 0), vI x5], σ)) rfl).trans ?_
  refine (e_f (B := (76, 39, [some (vR 9 0 0), some (vI x1), some (vI x2), some (vI x3), some (vI x4), some (vI x5), l6], [], σ)) rfl h1).trans ?_
  refine (e_n 2 (fr' := (76, 41, [some (vR 9 0 0), some (vI x1), some (vI x2), some (vI x3), some (vI x4), some (vI x5), l6], [vI (-1 : Int32), vI x3], σ)) rfl).trans ?_
  refine (e_f (B := (76, 44, [some (vR 9 0 0), some (vI x1), some (vI x2), some (vI x3), some (vI x4), some (vI x5), l6], [], σ)) rfl h2).trans ?_
  refine (e_n 4 (fr' := (76, 53, [some (vR 9 0 0), some (vI x1), some (vI x2), some (vI x3), some (vI x4), some (vI x5), l6], [vI x5, vR 5 0 8], σ)) rfl).trans ?_
  refine (e_a (A := (76, 54, [some (vR 9 0 0), some (vI x1), some (vI x2), some (vI x3), some (vI x4), some (vI x5), l6], [vI (σ.1 5 0 7 (x5).toNatClampNeg)], σ)) rfl h3).trans ?_
  refine (e_n 1 (fr' := (76, 55, [some (vR 9 0 0), some (vI x1), some (vI x2), some (vI x3), some (vI x4), some (vI x5), l6], [vI x3, vI (σ.1 5 0 7 (x5).toNatClampNeg)], σ)) rfl).trans ?_
  refine (e_t (A := (76, 58, [some (vR 9 0 0), some (vI x1), some (vI x2), some (vI x3), some (vI x4), some (vI x5), l6], [], σ)) rfl h4).trans ?_
  refine (e_n 9 (fr' := (76, 79, [some (vR 9 0 0), some (vI x1), some (vI x2), some (vI x3), some (vI x4), some (vI x5), some (vI (1 : Int32))], [vI x5, vR 5 0 4], σ)) rfl).trans ?_
  refine (e_a (A := (76, 80, [some (vR 9 0 0), some (vI x1), some (vI x2), some (vI x3), some (vI x4), some (vI x5), some (vI (1 : Int32))], [vI (σ.1 5 0 3 (x5).toNatClampNeg)], σ)) rfl h3).trans ?_
  refine (e_n 1 (fr' := (76, 81, [some (vR 9 0 0), some (vI x1), some (vI x2), some (vI x3), some (vI x4), some (vI x5), some (vI (1 : Int32))], [vI x1, vI (σ.1 5 0 3 (x5).toNatClampNeg)], σ)) rfl).trans ?_
  refine (e_t (A := (76, 84, [some (vR 9 0 0), some (vI x1), some (vI x2), some (vI x3), some (vI x4), some (vI x5), some (vI (1 : Int32))], [], σ)) rfl h5).trans ?_
  refine (e_n 4 (fr' := (76, 91, [some (vR 9 0 0), some (vI x1), some (vI x2), some (vI x3), some (vI x4), some (vI x5), some (vI (1 : Int32))], [vI x2, vI x5, vR 5 0 0], σ)) rfl).trans ?_
  refine (e_ci (m := 76) (pc := 94) (ls := [some (vR 9 0 0), some (vI x1), some (vI x2), some (vI x3), some (vI x4), some (vI x5), some (vI (1 : Int32))]) (rest := []) rfl h6).trans ?_
  refine (e_t (A := (76, 100, [some (vR 9 0 0), some (vI x1), some (vI x2), some (vI x3), some (vI x4), some (vI x5), some (vI (1 : Int32))], [], σ1)) rfl h7).trans ?_
  exact e_n 2 rfl
set_option maxRecDepth 20000 in
theorem g76_27_5 (C : pmC) {σ : pmS} {x1 : Int32} {x2 : Int32} {x3 : Int32} {x4 : Int32} {x5 : Int32} {l6 : Option pmV} {σ1 : pmS} {r1 : Int32} (h1 : ¬ (σ.1 5 0 9 0) ≤ x5) (h2 : ¬ x3 = (-1 : Int32)) (h3 : vp_in x5 48) (h4 : (σ.1 5 0 7 (x5).toNatClampNeg) = x3) (h5 : (σ.1 5 0 3 (x5).toNatClampNeg) = x1) (h6 : C 34 [vR 5 0 0, vI x5, vI x2] σ = some (some (vI r1), σ1)) (h7 : ¬ r1 = 0) : pm_Rn C (76, 27, [some (vR 9 0 0), some (vI x1), some (vI x2), some (vI x3), some (vI x4), some (vI x5), l6], [], σ) = pm_Rn C (76, 27, [some (vR 9 0 0), some (vI x1), some (vI x2), some (vI x3), some (vI (x4 + (1 : Int32))), some (vI (x5 + (1 : Int32))), some (vI (1 : Int32))], [], σ1) := by
  refine (e_n 4 (fr' := (76, 36, [some (vR 9 0 0), some (vI x1), some (vI x2), some (vI x3), some (vI x4), some (vI x5), l6], [vI (σ.1 5 0 9 0), vI x5], σ)) rfl).trans ?_
  refine (e_f (B := (76, 39, [some (vR 9 0 0), some (vI x1), some (vI x2), some (vI x3), some (vI x4), some (vI x5), l6], [], σ)) rfl h1).trans ?_
  refine (e_n 2 (fr' := (76, 41, [some (vR 9 0 0), some (vI x1), some (vI x2), some (vI x3), some (vI x4), some (vI x5), l6], [vI (-1 : Int32), vI x3], σ)) rfl).trans ?_
  refine (e_f (B := (76, 44, [some (vR 9 0 0), some (vI x1), some (vI x2), some (vI x3), some (vI x4), some (vI x5), l6], [], σ)) rfl h2).trans ?_
  refine (e_n 4 (fr' := (76, 53, [some (vR 9 0 0), some (vI x1), some (vI x2), some (vI x3), some (vI x4), some (vI x5), l6], [vI x5, vR 5 0 8], σ)) rfl).trans ?_
  refine (e_a (A := (76, 54, [some (vR 9 0 0), some (vI x1), some (vI x2), some (vI x3), some (vI x4), some (vI x5), l6], [vI (σ.1 5 0 7 (x5).toNatClampNeg)], σ)) rfl h3).trans ?_
  refine (e_n 1 (fr' := (76, 55, [some (vR 9 0 0), some (vI x1), some (vI x2), some (vI x3), some (vI x4), some (vI x5), l6], [vI x3, vI (σ.1 5 0 7 (x5).toNatClampNeg)], σ)) rfl).trans ?_
  refine (e_t (A := (76, 58, [some (vR 9 0 0), some (vI x1), some (vI x2), some (vI x3), some (vI x4), some (vI x5), l6], [], σ)) rfl h4).trans ?_
  refine (e_n 9 (fr' := (76, 79, [some (vR 9 0 0), some (vI x1), some (vI x2), some (vI x3), some (vI x4), some (vI x5), some (vI (1 : Int32))], [vI x5, vR 5 0 4], σ)) rfl).trans ?_
  refine (e_a (A := (76, 80, [some (vR 9 0 0), some (vI x1), some (vI x2), some (vI x3), some (vI x4), some (vI x5), some (vI (1 : Int32))], [vI (σ.1 5 0 3 (x5).toNatClampNeg)], σ)) rfl h3).trans ?_
  refine (e_n 1 (fr' := (76, 81, [some (vR 9 0 0), some (vI x1), some (vI x2), some (vI x3), some (vI x4), some (vI x5), some (vI (1 : Int32))], [vI x1, vI (σ.1 5 0 3 (x5).toNatClampNeg)], σ)) rfl).trans ?_
  refine (e_t (A := (76, 84, [some (vR 9 0 0), some (vI x1), some (vI x2), some (vI x3), some (vI x4), some (vI x5), some (vI (1 : Int32))], [], σ)) rfl h5).trans ?_
  refine (e_n 4 (fr' := (76, 91, [some (vR 9 0 0), some (vI x1), some (vI x2), some (vI x3), some (vI x4), some (vI x5), some (vI (1 : Int32))], [vI x2, vI x5, vR 5 0 0], σ)) rfl).trans ?_
  refine (e_ci (m := 76) (pc := 94) (ls := [some (vR 9 0 0), some (vI x1), some (vI x2), some (vI x3), some (vI x4), some (vI x5), some (vI (1 : Int32))]) (rest := []) rfl h6).trans ?_
  refine (e_f (B := (76, 97, [some (vR 9 0 0), some (vI x1), some (vI x2), some (vI x3), some (vI x4), some (vI x5), some (vI (1 : Int32))], [], σ1)) rfl h7).trans ?_
  exact e_n 3 rfl
set_option maxRecDepth 20000 in
theorem g76_27_6 (C : pmC) {σ : pmS} {x1 : Int32} {x2 : Int32} {x3 : Int32} {x4 : Int32} {x5 : Int32} {l6 : Option pmV} (h1 : ¬ (σ.1 5 0 9 0) ≤ x5) (h2 : ¬ x3 = (-1 : Int32)) (h3 : vp_in x5 48) (h4 : (σ.1 5 0 7 (x5).toNatClampNeg) = x3) (h5 : ¬ (σ.1 5 0 3 (x5).toNatClampNeg) = x1) : pm_Rn C (76, 27, [some (vR 9 0 0), some (vI x1), some (vI x2), some (vI x3), some (vI x4), some (vI x5), l6], [], σ) = pm_Rn C (76, 27, [some (vR 9 0 0), some (vI x1), some (vI x2), some (vI x3), some (vI x4), some (vI (x5 + (1 : Int32))), some (vI (1 : Int32))], [], σ) := by
  refine (e_n 4 (fr' := (76, 36, [some (vR 9 0 0), some (vI x1), some (vI x2), some (vI x3), some (vI x4), some (vI x5), l6], [vI (σ.1 5 0 9 0), vI x5], σ)) rfl).trans ?_
  refine (e_f (B := (76, 39, [some (vR 9 0 0), some (vI x1), some (vI x2), some (vI x3), some (vI x4), some (vI x5), l6], [], σ)) rfl h1).trans ?_
  refine (e_n 2 (fr' := (76, 41, [some (vR 9 0 0), some (vI x1), some (vI x2), some (vI x3), some (vI x4), some (vI x5), l6], [vI (-1 : Int32), vI x3], σ)) rfl).trans ?_
  refine (e_f (B := (76, 44, [some (vR 9 0 0), some (vI x1), some (vI x2), some (vI x3), some (vI x4), some (vI x5), l6], [], σ)) rfl h2).trans ?_
  refine (e_n 4 (fr' := (76, 53, [some (vR 9 0 0), some (vI x1), some (vI x2), some (vI x3), some (vI x4), some (vI x5), l6], [vI x5, vR 5 0 8], σ)) rfl).trans ?_
  refine (e_a (A := (76, 54, [some (vR 9 0 0), some (vI x1), some (vI x2), some (vI x3), some (vI x4), some (vI x5), l6], [vI (σ.1 5 0 7 (x5).toNatClampNeg)], σ)) rfl h3).trans ?_
  refine (e_n 1 (fr' := (76, 55, [some (vR 9 0 0), some (vI x1), some (vI x2), some (vI x3), some (vI x4), some (vI x5), l6], [vI x3, vI (σ.1 5 0 7 (x5).toNatClampNeg)], σ)) rfl).trans ?_
  refine (e_t (A := (76, 58, [some (vR 9 0 0), some (vI x1), some (vI x2), some (vI x3), some (vI x4), some (vI x5), l6], [], σ)) rfl h4).trans ?_
  refine (e_n 9 (fr' := (76, 79, [some (vR 9 0 0), some (vI x1), some (vI x2), some (vI x3), some (vI x4), some (vI x5), some (vI (1 : Int32))], [vI x5, vR 5 0 4], σ)) rfl).trans ?_
  refine (e_a (A := (76, 80, [some (vR 9 0 0), some (vI x1), some (vI x2), some (vI x3), some (vI x4), some (vI x5), some (vI (1 : Int32))], [vI (σ.1 5 0 3 (x5).toNatClampNeg)], σ)) rfl h3).trans ?_
  refine (e_n 1 (fr' := (76, 81, [some (vR 9 0 0), some (vI x1), some (vI x2), some (vI x3), some (vI x4), some (vI x5), some (vI (1 : Int32))], [vI x1, vI (σ.1 5 0 3 (x5).toNatClampNeg)], σ)) rfl).trans ?_
  refine (e_f (B := (76, 100, [some (vR 9 0 0), some (vI x1), some (vI x2), some (vI x3), some (vI x4), some (vI x5), some (vI (1 : Int32))], [], σ)) rfl h5).trans ?_
  exact e_n 2 rfl
set_option maxRecDepth 20000 in
theorem g76_27_7 (C : pmC) {σ : pmS} {x1 : Int32} {x2 : Int32} {x3 : Int32} {x4 : Int32} {x5 : Int32} {l6 : Option pmV} (h1 : ¬ (σ.1 5 0 9 0) ≤ x5) (h2 : ¬ x3 = (-1 : Int32)) (h3 : vp_in x5 48) (h4 : ¬ (σ.1 5 0 7 (x5).toNatClampNeg) = x3) : pm_Rn C (76, 27, [some (vR 9 0 0), some (vI x1), some (vI x2), some (vI x3), some (vI x4), some (vI x5), l6], [], σ) = pm_Rn C (76, 27, [some (vR 9 0 0), some (vI x1), some (vI x2), some (vI x3), some (vI x4), some (vI (x5 + (1 : Int32))), some (vI (0 : Int32))], [], σ) := by
  refine (e_n 4 (fr' := (76, 36, [some (vR 9 0 0), some (vI x1), some (vI x2), some (vI x3), some (vI x4), some (vI x5), l6], [vI (σ.1 5 0 9 0), vI x5], σ)) rfl).trans ?_
  refine (e_f (B := (76, 39, [some (vR 9 0 0), some (vI x1), some (vI x2), some (vI x3), some (vI x4), some (vI x5), l6], [], σ)) rfl h1).trans ?_
  refine (e_n 2 (fr' := (76, 41, [some (vR 9 0 0), some (vI x1), some (vI x2), some (vI x3), some (vI x4), some (vI x5), l6], [vI (-1 : Int32), vI x3], σ)) rfl).trans ?_
  refine (e_f (B := (76, 44, [some (vR 9 0 0), some (vI x1), some (vI x2), some (vI x3), some (vI x4), some (vI x5), l6], [], σ)) rfl h2).trans ?_
  refine (e_n 4 (fr' := (76, 53, [some (vR 9 0 0), some (vI x1), some (vI x2), some (vI x3), some (vI x4), some (vI x5), l6], [vI x5, vR 5 0 8], σ)) rfl).trans ?_
  refine (e_a (A := (76, 54, [some (vR 9 0 0), some (vI x1), some (vI x2), some (vI x3), some (vI x4), some (vI x5), l6], [vI (σ.1 5 0 7 (x5).toNatClampNeg)], σ)) rfl h3).trans ?_
  refine (e_n 1 (fr' := (76, 55, [some (vR 9 0 0), some (vI x1), some (vI x2), some (vI x3), some (vI x4), some (vI x5), l6], [vI x3, vI (σ.1 5 0 7 (x5).toNatClampNeg)], σ)) rfl).trans ?_
  refine (e_f (B := (76, 62, [some (vR 9 0 0), some (vI x1), some (vI x2), some (vI x3), some (vI x4), some (vI x5), l6], [], σ)) rfl h4).trans ?_
  exact e_n 6 rfl
set_option maxRecDepth 20000 in
theorem g77_0_0 (C : pmC) {σ : pmS} {x1 : Int32} {x2 : Int32} {l3 : Option pmV} {l4 : Option pmV} {σ1 : pmS} {r1 : Int32} (h1 : C 90 [vI x1] σ = some (some (vI r1), σ1)) (h2 : r1 = 0) : pm_Rn C (77, 0, [some (vR 9 0 0), some (vI x1), some (vI x2), l3, l4], [], σ) = some (some (vI (-2 : Int32)), σ1) := by
  refine (e_n 1 (fr' := (77, 1, [some (vR 9 0 0), some (vI x1), some (vI x2), l3, l4], [vI x1], σ)) rfl).trans ?_
  refine (e_ci (m := 77) (pc := 4) (ls := [some (vR 9 0 0), some (vI x1), some (vI x2), l3, l4]) (rest := []) rfl h1).trans ?_
  refine (e_t (A := (77, 16, [some (vR 9 0 0), some (vI x1), some (vI x2), l3, l4], [], σ1)) rfl h2).trans ?_
  refine (e_n 1 (fr' := (77, 18, [some (vR 9 0 0), some (vI x1), some (vI x2), l3, l4], [vI (-2 : Int32)], σ1)) rfl).trans ?_
  exact e_r rfl
set_option maxRecDepth 20000 in
theorem g77_0_1 (C : pmC) {σ : pmS} {x1 : Int32} {x2 : Int32} {l3 : Option pmV} {l4 : Option pmV} {σ1 : pmS} {r1 : Int32} (h1 : C 90 [vI x1] σ = some (some (vI r1), σ1)) (h2 : ¬ r1 = 0) (h3 : x2 = 0) : pm_Rn C (77, 0, [some (vR 9 0 0), some (vI x1), some (vI x2), l3, l4], [], σ) = pm_Rn C (77, 24, [some (vR 9 0 0), some (vI x1), some (vI x2), some (vI (0 : Int32)), some (vI (0 : Int32))], [], σ1) := by
  refine (e_n 1 (fr' := (77, 1, [some (vR 9 0 0), some (vI x1), some (vI x2), l3, l4], [vI x1], σ)) rfl).trans ?_
  refine (e_ci (m := 77) (pc := 4) (ls := [some (vR 9 0 0), some (vI x1), some (vI x2), l3, l4]) (rest := []) rfl h1).trans ?_
  refine (e_f (B := (77, 7, [some (vR 9 0 0), some (vI x1), some (vI x2), l3, l4], [], σ1)) rfl h2).trans ?_
  refine (e_n 1 (fr' := (77, 8, [some (vR 9 0 0), some (vI x1), some (vI x2), l3, l4], [vI x2], σ1)) rfl).trans ?_
  refine (e_t (A := (77, 19, [some (vR 9 0 0), some (vI x1), some (vI x2), l3, l4], [], σ1)) rfl h3).trans ?_
  exact e_n 4 rfl
set_option maxRecDepth 20000 in
theorem g77_0_2 (C : pmC) {σ : pmS} {x1 : Int32} {x2 : Int32} {l3 : Option pmV} {l4 : Option pmV} {σ1 : pmS} {r1 : Int32} (h1 : C 90 [vI x1] σ = some (some (vI r1), σ1)) (h2 : ¬ r1 = 0) (h3 : ¬ x2 = 0) (h4 : x2 = (1 : Int32)) : pm_Rn C (77, 0, [some (vR 9 0 0), some (vI x1), some (vI x2), l3, l4], [], σ) = pm_Rn C (77, 24, [some (vR 9 0 0), some (vI x1), some (vI x2), some (vI (0 : Int32)), some (vI (0 : Int32))], [], σ1) := by
  refine (e_n 1 (fr' := (77, 1, [some (vR 9 0 0), some (vI x1), some (vI x2), l3, l4], [vI x1], σ)) rfl).trans ?_
  refine (e_ci (m := 77) (pc := 4) (ls := [some (vR 9 0 0), some (vI x1), some (vI x2), l3, l4]) (rest := []) rfl h1).trans ?_
  refine (e_f (B := (77, 7, [some (vR 9 0 0), some (vI x1), some (vI x2), l3, l4], [], σ1)) rfl h2).trans ?_
  refine (e_n 1 (fr' := (77, 8, [some (vR 9 0 0), some (vI x1), some (vI x2), l3, l4], [vI x2], σ1)) rfl).trans ?_
  refine (e_f (B := (77, 11, [some (vR 9 0 0), some (vI x1), some (vI x2), l3, l4], [], σ1)) rfl h3).trans ?_
  refine (e_n 2 (fr' := (77, 13, [some (vR 9 0 0), some (vI x1), some (vI x2), l3, l4], [vI (1 : Int32), vI x2], σ1)) rfl).trans ?_
  refine (e_t (A := (77, 19, [some (vR 9 0 0), some (vI x1), some (vI x2), l3, l4], [], σ1)) rfl h4).trans ?_
  exact e_n 4 rfl
set_option maxRecDepth 20000 in
theorem g77_0_3 (C : pmC) {σ : pmS} {x1 : Int32} {x2 : Int32} {l3 : Option pmV} {l4 : Option pmV} {σ1 : pmS} {r1 : Int32} (h1 : C 90 [vI x1] σ = some (some (vI r1), σ1)) (h2 : ¬ r1 = 0) (h3 : ¬ x2 = 0) (h4 : ¬ x2 = (1 : Int32)) : pm_Rn C (77, 0, [some (vR 9 0 0), some (vI x1), some (vI x2), l3, l4], [], σ) = some (some (vI (-2 : Int32)), σ1) := by
  refine (e_n 1 (fr' := (77, 1, [some (vR 9 0 0), some (vI x1), some (vI x2), l3, l4], [vI x1], σ)) rfl).trans ?_
  refine (e_ci (m := 77) (pc := 4) (ls := [some (vR 9 0 0), some (vI x1), some (vI x2), l3, l4]) (rest := []) rfl h1).trans ?_
  refine (e_f (B := (77, 7, [some (vR 9 0 0), some (vI x1), some (vI x2), l3, l4], [], σ1)) rfl h2).trans ?_
  refine (e_n 1 (fr' := (77, 8, [some (vR 9 0 0), some (vI x1), some (vI x2), l3, l4], [vI x2], σ1)) rfl).trans ?_
  refine (e_f (B := (77, 11, [some (vR 9 0 0), some (vI x1), some (vI x2), l3, l4], [], σ1)) rfl h3).trans ?_
  refine (e_n 2 (fr' := (77, 13, [some (vR 9 0 0), some (vI x1), some (vI x2), l3, l4], [vI (1 : Int32), vI x2], σ1)) rfl).trans ?_
  refine (e_f (B := (77, 16, [some (vR 9 0 0), some (vI x1), some (vI x2), l3, l4], [], σ1)) rfl h4).trans ?_
  refine (e_n 1 (fr' := (77, 18, [some (vR 9 0 0), some (vI x1), some (vI x2), l3, l4], [vI (-2 : Int32)], σ1)) rfl).trans ?_
  exact e_r rfl
set_option maxRecDepth 20000 in
theorem g77_24_0 (C : pmC) {σ : pmS} {x1 : Int32} {x2 : Int32} {x3 : Int32} {x4 : Int32} (h1 : (σ.1 8 0 3 0) ≤ x4) : pm_Rn C (77, 24, [some (vR 9 0 0), some (vI x1), some (vI x2), some (vI x3), some (vI x4)], [], σ) = some (some (vI x3), σ) := by
  refine (e_n 4 (fr' := (77, 33, [some (vR 9 0 0), some (vI x1), some (vI x2), some (vI x3), some (vI x4)], [vI (σ.1 8 0 3 0), vI x4], σ)) rfl).trans ?_
  refine (e_t (A := (77, 109, [some (vR 9 0 0), some (vI x1), some (vI x2), some (vI x3), some (vI x4)], [], σ)) rfl h1).trans ?_
  refine (e_n 1 (fr' := (77, 110, [some (vR 9 0 0), some (vI x1), some (vI x2), some (vI x3), some (vI x4)], [vI x3], σ)) rfl).trans ?_
  exact e_r rfl
set_option maxRecDepth 20000 in
theorem g77_24_1 (C : pmC) {σ : pmS} {x1 : Int32} {x2 : Int32} {x3 : Int32} {x4 : Int32} {σ1 : pmS} {r1 : Int32} (h1 : ¬ (σ.1 8 0 3 0) ≤ x4) (h2 : C 52 [vR 8 0 0, vR 5 0 0, vI x4, vI x1] σ = some (some (vI r1), σ1)) (h3 : r1 = 0) : pm_Rn C (77, 24, [some (vR 9 0 0), some (vI x1), some (vI x2), some (vI x3), some (vI x4)], [], σ) = pm_Rn C (77, 24, [some (vR 9 0 0), some (vI x1), some (vI x2), some (vI x3), some (vI (x4 + (1 : Int32)))], [], σ1) := by
  refine (e_n 4 (fr' := (77, 33, [some (vR 9 0 0), some (vI x1), some (vI x2), some (vI x3), some (vI x4)], [vI (σ.1 8 0 3 0), vI x4], σ)) rfl).trans ?_
  refine (e_f (B := (77, 36, [some (vR 9 0 0), some (vI x1), some (vI x2), some (vI x3), some (vI x4)], [], σ)) rfl h1).trans ?_
  refine (e_n 6 (fr' := (77, 47, [some (vR 9 0 0), some (vI x1), some (vI x2), some (vI x3), some (vI x4)], [vI x1, vI x4, vR 5 0 0, vR 8 0 0], σ)) rfl).trans ?_
  refine (e_ci (m := 77) (pc := 50) (ls := [some (vR 9 0 0), some (vI x1), some (vI x2), some (vI x3), some (vI x4)]) (rest := []) rfl h2).trans ?_
  refine (e_t (A := (77, 103, [some (vR 9 0 0), some (vI x1), some (vI x2), some (vI x3), some (vI x4)], [], σ1)) rfl h3).trans ?_
  exact e_n 2 rfl
set_option maxRecDepth 20000 in
theorem g77_24_2 (C : pmC) {σ : pmS} {x1 : Int32} {x2 : Int32} {x3 : Int32} {x4 : Int32} {σ1 : pmS} {r1 : Int32} {σ2 : pmS} {r2 : Int32} (h1 : ¬ (σ.1 8 0 3 0) ≤ x4) (h2 : C 52 [vR 8 0 0, vR 5 0 0, vI x4, vI x1] σ = some (some (vI r1), σ1)) (h3 : ¬ r1 = 0) (h4 : vp_in x4 40) (h5 : C 99 [vR 9 0 0, vI (σ1.1 8 0 0 (x4).toNatClampNeg), vI (σ1.1 8 0 1 (x4).toNatClampNeg), vI (σ1.1 8 0 2 (x4).toNatClampNeg)] σ1 = some (some (vI r2), σ2)) (h6 : x2 = (1 : Int32)) (h7 : r2 = (1 : Int32)) : pm_Rn C (77, 24, [some (vR 9 0 0), some (vI x1), some (vI x2), some (vI x3), some (vI x4)], [], σ) = pm_Rn C (77, 24, [some (vR 9 0 0), some (vI x1), some (vI x2), some (vI (x3 + (1 : Int32))), some (vI (x4 + (1 : Int32)))], [], σ2) := by
  refine (e_n 4 (fr' := (77, 33, [some (vR 9 0 0), some (vI x1), some (vI x2), some (vI x3), some (vI x4)], [vI (σ.1 8 0 3 0), vI x4], σ)) rfl).trans ?_
  refine (e_f (B := (77, 36, [some (vR 9 0 0), some (vI x1), some (vI x2), some (vI x3), some (vI x4)], [], σ)) rfl h1).trans ?_
  refine (e_n 6 (fr' := (77, 47, [some (vR 9 0 0), some (vI x1), some (vI x2), some (vI x3), some (vI x4)], [vI x1, vI x4, vR 5 0 0, vR 8 0 0], σ)) rfl).trans ?_
  refine (e_ci (m := 77) (pc := 50) (ls := [some (vR 9 0 0), some (vI x1), some (vI x2), some (vI x3), some (vI x4)]) (rest := []) rfl h2).trans ?_
  refine (e_f (B := (77, 53, [some (vR 9 0 0), some (vI x1), some (vI x2), some (vI x3), some (vI x4)], [], σ1)) rfl h3).trans ?_
  refine (e_n 5 (fr' := (77, 63, [some (vR 9 0 0), some (vI x1), some (vI x2), some (vI x3), some (vI x4)], [vI x4, vR 8 0 1, vR 9 0 0], σ1)) rfl).trans ?_
  refine (e_a (A := (77, 64, [some (vR 9 0 0), some (vI x1), some (vI x2), some (vI x3), some (vI x4)], [vI (σ1.1 8 0 0 (x4).toNatClampNeg), vR 9 0 0], σ1)) rfl h4).trans ?_
  refine (e_n 4 (fr' := (77, 73, [some (vR 9 0 0), some (vI x1), some (vI x2), some (vI x3), some (vI x4)], [vI x4, vR 8 0 2, vI (σ1.1 8 0 0 (x4).toNatClampNeg), vR 9 0 0], σ1)) rfl).trans ?_
  refine (e_a (A := (77, 74, [some (vR 9 0 0), some (vI x1), some (vI x2), some (vI x3), some (vI x4)], [vI (σ1.1 8 0 1 (x4).toNatClampNeg), vI (σ1.1 8 0 0 (x4).toNatClampNeg), vR 9 0 0], σ1)) rfl h4).trans ?_
  refine (e_n 4 (fr' := (77, 83, [some (vR 9 0 0), some (vI x1), some (vI x2), some (vI x3), some (vI x4)], [vI x4, vR 8 0 3, vI (σ1.1 8 0 1 (x4).toNatClampNeg), vI (σ1.1 8 0 0 (x4).toNatClampNeg), vR 9 0 0], σ1)) rfl).trans ?_
  refine (e_a (A := (77, 84, [some (vR 9 0 0), some (vI x1), some (vI x2), some (vI x3), some (vI x4)], [vI (σ1.1 8 0 2 (x4).toNatClampNeg), vI (σ1.1 8 0 1 (x4).toNatClampNeg), vI (σ1.1 8 0 0 (x4).toNatClampNeg), vR 9 0 0], σ1)) rfl h4).trans ?_
  refine (e_ci (m := 77) (pc := 87) (ls := [some (vR 9 0 0), some (vI x1), some (vI x2), some (vI x3), some (vI x4)]) (rest := []) rfl h5).trans ?_
  refine (e_n 2 (fr' := (77, 89, [some (vR 9 0 0), some (vI x1), some (vI x2), some (vI x3), some (vI x4)], [vI (1 : Int32), vI x2, vI r2], σ2)) rfl).trans ?_
  refine (e_t (A := (77, 92, [some (vR 9 0 0), some (vI x1), some (vI x2), some (vI x3), some (vI x4)], [vI r2], σ2)) rfl h6).trans ?_
  refine (e_n 2 (fr' := (77, 97, [some (vR 9 0 0), some (vI x1), some (vI x2), some (vI x3), some (vI x4)], [vI (1 : Int32), vI r2], σ2)) rfl).trans ?_
  refine (e_t (A := (77, 100, [some (vR 9 0 0), some (vI x1), some (vI x2), some (vI x3), some (vI x4)], [], σ2)) rfl h7).trans ?_
  exact e_n 3 rfl
set_option maxRecDepth 20000 in
theorem g77_24_3 (C : pmC) {σ : pmS} {x1 : Int32} {x2 : Int32} {x3 : Int32} {x4 : Int32} {σ1 : pmS} {r1 : Int32} {σ2 : pmS} {r2 : Int32} (h1 : ¬ (σ.1 8 0 3 0) ≤ x4) (h2 : C 52 [vR 8 0 0, vR 5 0 0, vI x4, vI x1] σ = some (some (vI r1), σ1)) (h3 : ¬ r1 = 0) (h4 : vp_in x4 40) (h5 : C 99 [vR 9 0 0, vI (σ1.1 8 0 0 (x4).toNatClampNeg), vI (σ1.1 8 0 1 (x4).toNatClampNeg), vI (σ1.1 8 0 2 (x4).toNatClampNeg)] σ1 = some (some (vI r2), σ2)) (h6 : x2 = (1 : Int32)) (h7 : ¬ r2 = (1 : Int32)) : pm_Rn C (77, 24, [some (vR 9 0 0), some (vI x1), some (vI x2), some (vI x3), some (vI x4)], [], σ) = pm_Rn C (77, 24, [some (vR 9 0 0), some (vI x1), some (vI x2), some (vI x3), some (vI (x4 + (1 : Int32)))], [], σ2) := by
  refine (e_n 4 (fr' := (77, 33, [some (vR 9 0 0), some (vI x1), some (vI x2), some (vI x3), some (vI x4)], [vI (σ.1 8 0 3 0), vI x4], σ)) rfl).trans ?_
  refine (e_f (B := (77, 36, [some (vR 9 0 0), some (vI x1), some (vI x2), some (vI x3), some (vI x4)], [], σ)) rfl h1).trans ?_
  refine (e_n 6 (fr' := (77, 47, [some (vR 9 0 0), some (vI x1), some (vI x2), some (vI x3), some (vI x4)], [vI x1, vI x4, vR 5 0 0, vR 8 0 0], σ)) rfl).trans ?_
  refine (e_ci (m := 77) (pc := 50) (ls := [some (vR 9 0 0), some (vI x1), some (vI x2), some (vI x3), some (vI x4)]) (rest := []) rfl h2).trans ?_
  refine (e_f (B := (77, 53, [some (vR 9 0 0), some (vI x1), some (vI x2), some (vI x3), some (vI x4)], [], σ1)) rfl h3).trans ?_
  refine (e_n 5 (fr' := (77, 63, [some (vR 9 0 0), some (vI x1), some (vI x2), some (vI x3), some (vI x4)], [vI x4, vR 8 0 1, vR 9 0 0], σ1)) rfl).trans ?_
  refine (e_a (A := (77, 64, [some (vR 9 0 0), some (vI x1), some (vI x2), some (vI x3), some (vI x4)], [vI (σ1.1 8 0 0 (x4).toNatClampNeg), vR 9 0 0], σ1)) rfl h4).trans ?_
  refine (e_n 4 (fr' := (77, 73, [some (vR 9 0 0), some (vI x1), some (vI x2), some (vI x3), some (vI x4)], [vI x4, vR 8 0 2, vI (σ1.1 8 0 0 (x4).toNatClampNeg), vR 9 0 0], σ1)) rfl).trans ?_
  refine (e_a (A := (77, 74, [some (vR 9 0 0), some (vI x1), some (vI x2), some (vI x3), some (vI x4)], [vI (σ1.1 8 0 1 (x4).toNatClampNeg), vI (σ1.1 8 0 0 (x4).toNatClampNeg), vR 9 0 0], σ1)) rfl h4).trans ?_
  refine (e_n 4 (fr' := (77, 83, [some (vR 9 0 0), some (vI x1), some (vI x2), some (vI x3), some (vI x4)], [vI x4, vR 8 0 3, vI (σ1.1 8 0 1 (x4).toNatClampNeg), vI (σ1.1 8 0 0 (x4).toNatClampNeg), vR 9 0 0], σ1)) rfl).trans ?_
  refine (e_a (A := (77, 84, [some (vR 9 0 0), some (vI x1), some (vI x2), some (vI x3), some (vI x4)], [vI (σ1.1 8 0 2 (x4).toNatClampNeg), vI (σ1.1 8 0 1 (x4).toNatClampNeg), vI (σ1.1 8 0 0 (x4).toNatClampNeg), vR 9 0 0], σ1)) rfl h4).trans ?_
  refine (e_ci (m := 77) (pc := 87) (ls := [some (vR 9 0 0), some (vI x1), some (vI x2), some (vI x3), some (vI x4)]) (rest := []) rfl h5).trans ?_
  refine (e_n 2 (fr' := (77, 89, [some (vR 9 0 0), some (vI x1), some (vI x2), some (vI x3), some (vI x4)], [vI (1 : Int32), vI x2, vI r2], σ2)) rfl).trans ?_
  refine (e_t (A := (77, 92, [some (vR 9 0 0), some (vI x1), some (vI x2), some (vI x3), some (vI x4)], [vI r2], σ2)) rfl h6).trans ?_
  refine (e_n 2 (fr' := (77, 97, [some (vR 9 0 0), some (vI x1), some (vI x2), some (vI x3), some (vI x4)], [vI (1 : Int32), vI r2], σ2)) rfl).trans ?_
  refine (e_f (B := (77, 103, [some (vR 9 0 0), some (vI x1), some (vI x2), some (vI x3), some (vI x4)], [], σ2)) rfl h7).trans ?_
  exact e_n 2 rfl
set_option maxRecDepth 20000 in
theorem g77_24_4 (C : pmC) {σ : pmS} {x1 : Int32} {x2 : Int32} {x3 : Int32} {x4 : Int32} {σ1 : pmS} {r1 : Int32} {σ2 : pmS} {r2 : Int32} (h1 : ¬ (σ.1 8 0 3 0) ≤ x4) (h2 : C 52 [vR 8 0 0, vR 5 0 0, vI x4, vI x1] σ = some (some (vI r1), σ1)) (h3 : ¬ r1 = 0) (h4 : vp_in x4 40) (h5 : C 99 [vR 9 0 0, vI (σ1.1 8 0 0 (x4).toNatClampNeg), vI (σ1.1 8 0 1 (x4).toNatClampNeg), vI (σ1.1 8 0 2 (x4).toNatClampNeg)] σ1 = some (some (vI r2), σ2)) (h6 : ¬ x2 = (1 : Int32)) (h7 : r2 = (0 : Int32)) : pm_Rn C (77, 24, [some (vR 9 0 0), some (vI x1), some (vI x2), some (vI x3), some (vI x4)], [], σ) = pm_Rn C (77, 24, [some (vR 9 0 0), some (vI x1), some (vI x2), some (vI (x3 + (1 : Int32))), some (vI (x4 + (1 : Int32)))], [], σ2) := by
  refine (e_n 4 (fr' := (77, 33, [some (vR 9 0 0), some (vI x1), some (vI x2), some (vI x3), some (vI x4)], [vI (σ.1 8 0 3 0), vI x4], σ)) rfl).trans ?_
  refine (e_f (B := (77, 36, [some (vR 9 0 0), some (vI x1), some (vI x2), some (vI x3), some (vI x4)], [], σ)) rfl h1).trans ?_
  refine (e_n 6 (fr' := (77, 47, [some (vR 9 0 0), some (vI x1), some (vI x2), some (vI x3), some (vI x4)], [vI x1, vI x4, vR 5 0 0, vR 8 0 0], σ)) rfl).trans ?_
  refine (e_ci (m := 77) (pc := 50) (ls := [some (vR 9 0 0), some (vI x1), some (vI x2), some (vI x3), some (vI x4)]) (rest := []) rfl h2).trans ?_
  refine (e_f (B := (77, 53, [some (vR 9 0 0), some (vI x1), some (vI x2), some (vI x3), some (vI x4)], [], σ1)) rfl h3).trans ?_
  refine (e_n 5 (fr' := (77, 63, [some (vR 9 0 0), some (vI x1), some (vI x2), some (vI x3), some (vI x4)], [vI x4, vR 8 0 1, vR 9 0 0], σ1)) rfl).trans ?_
  refine (e_a (A := (77, 64, [some (vR 9 0 0), some (vI x1), some (vI x2), some (vI x3), some (vI x4)], [vI (σ1.1 8 0 0 (x4).toNatClampNeg), vR 9 0 0], σ1)) rfl h4).trans ?_
  refine (e_n 4 (fr' := (77, 73, [some (vR 9 0 0), some (vI x1), some (vI x2), some (vI x3), some (vI x4)], [vI x4, vR 8 0 2, vI (σ1.1 8 0 0 (x4).toNatClampNeg), vR 9 0 0], σ1)) rfl).trans ?_
  refine (e_a (A := (77, 74, [some (vR 9 0 0), some (vI x1), some (vI x2), some (vI x3), some (vI x4)], [vI (σ1.1 8 0 1 (x4).toNatClampNeg), vI (σ1.1 8 0 0 (x4).toNatClampNeg), vR 9 0 0], σ1)) rfl h4).trans ?_
  refine (e_n 4 (fr' := (77, 83, [some (vR 9 0 0), some (vI x1), some (vI x2), some (vI x3), some (vI x4)], [vI x4, vR 8 0 3, vI (σ1.1 8 0 1 (x4).toNatClampNeg), vI (σ1.1 8 0 0 (x4).toNatClampNeg), vR 9 0 0], σ1)) rfl).trans ?_
  refine (e_a (A := (77, 84, [some (vR 9 0 0), some (vI x1), some (vI x2), some (vI x3), some (vI x4)], [vI (σ1.1 8 0 2 (x4).toNatClampNeg), vI (σ1.1 8 0 1 (x4).toNatClampNeg), vI (σ1.1 8 0 0 (x4).toNatClampNeg), vR 9 0 0], σ1)) rfl h4).trans ?_
  refine (e_ci (m := 77) (pc := 87) (ls := [some (vR 9 0 0), some (vI x1), some (vI x2), some (vI x3), some (vI x4)]) (rest := []) rfl h5).trans ?_
  refine (e_n 2 (fr' := (77, 89, [some (vR 9 0 0), some (vI x1), some (vI x2), some (vI x3), some (vI x4)], [vI (1 : Int32), vI x2, vI r2], σ2)) rfl).trans ?_
  refine (e_f (B := (77, 96, [some (vR 9 0 0), some (vI x1), some (vI x2), some (vI x3), some (vI x4)], [vI r2], σ2)) rfl h6).trans ?_
  refine (e_n 1 (fr' := (77, 97, [some (vR 9 0 0), some (vI x1), some (vI x2), some (vI x3), some (vI x4)], [vI (0 : Int32), vI r2], σ2)) rfl).trans ?_
  refine (e_t (A := (77, 100, [some (vR 9 0 0), some (vI x1), some (vI x2), some (vI x3), some (vI x4)], [], σ2)) rfl h7).trans ?_
  exact e_n 3 rfl
set_option maxRecDepth 20000 in
theorem g77_24_5 (C : pmC) {σ : pmS} {x1 : Int32} {x2 : Int32} {x3 : Int32} {x4 : Int32} {σ1 : pmS} {r1 : Int32} {σ2 : pmS} {r2 : Int32} (h1 : ¬ (σ.1 8 0 3 0) ≤ x4) (h2 : C 52 [vR 8 0 0, vR 5 0 0, vI x4, vI x1] σ = some (some (vI r1), σ1)) (h3 : ¬ r1 = 0) (h4 : vp_in x4 40) (h5 : C 99 [vR 9 0 0, vI (σ1.1 8 0 0 (x4).toNatClampNeg), vI (σ1.1 8 0 1 (x4).toNatClampNeg), vI (σ1.1 8 0 2 (x4).toNatClampNeg)] σ1 = some (some (vI r2), σ2)) (h6 : ¬ x2 = (1 : Int32)) (h7 : ¬ r2 = (0 : Int32)) : pm_Rn C (77, 24, [some (vR 9 0 0), some (vI x1), some (vI x2), some (vI x3), some (vI x4)], [], σ) = pm_Rn C (77, 24, [some (vR 9 0 0), some (vI x1), some (vI x2), some (vI x3), some (vI (x4 + (1 : Int32)))], [], σ2) := by
  refine (e_n 4 (fr' := (77, 33, [some (vR 9 0 0), some (vI x1), some (vI x2), some (vI x3), some (vI x4)], [vI (σ.1 8 0 3 0), vI x4], σ)) rfl).trans ?_
  refine (e_f (B := (77, 36, [some (vR 9 0 0), some (vI x1), some (vI x2), some (vI x3), some (vI x4)], [], σ)) rfl h1).trans ?_
  refine (e_n 6 (fr' := (77, 47, [some (vR 9 0 0), some (vI x1), some (vI x2), some (vI x3), some (vI x4)], [vI x1, vI x4, vR 5 0 0, vR 8 0 0], σ)) rfl).trans ?_
  refine (e_ci (m := 77) (pc := 50) (ls := [some (vR 9 0 0), some (vI x1), some (vI x2), some (vI x3), some (vI x4)]) (rest := []) rfl h2).trans ?_
  refine (e_f (B := (77, 53, [some (vR 9 0 0), some (vI x1), some (vI x2), some (vI x3), some (vI x4)], [], σ1)) rfl h3).trans ?_
  refine (e_n 5 (fr' := (77, 63, [some (vR 9 0 0), some (vI x1), some (vI x2), some (vI x3), some (vI x4)], [vI x4, vR 8 0 1, vR 9 0 0], σ1)) rfl).trans ?_
  refine (e_a (A := (77, 64, [some (vR 9 0 0), some (vI x1), some (vI x2), some (vI x3), some (vI x4)], [vI (σ1.1 8 0 0 (x4).toNatClampNeg), vR 9 0 0], σ1)) rfl h4).trans ?_
  refine (e_n 4 (fr' := (77, 73, [some (vR 9 0 0), some (vI x1), some (vI x2), some (vI x3), some (vI x4)], [vI x4, vR 8 0 2, vI (σ1.1 8 0 0 (x4).toNatClampNeg), vR 9 0 0], σ1)) rfl).trans ?_
  refine (e_a (A := (77, 74, [some (vR 9 0 0), some (vI x1), some (vI x2), some (vI x3), some (vI x4)], [vI (σ1.1 8 0 1 (x4).toNatClampNeg), vI (σ1.1 8 0 0 (x4).toNatClampNeg), vR 9 0 0], σ1)) rfl h4).trans ?_
  refine (e_n 4 (fr' := (77, 83, [some (vR 9 0 0), some (vI x1), some (vI x2), some (vI x3), some (vI x4)], [vI x4, vR 8 0 3, vI (σ1.1 8 0 1 (x4).toNatClampNeg), vI (σ1.1 8 0 0 (x4).toNatClampNeg), vR 9 0 0], σ1)) rfl).trans ?_
  refine (e_a (A := (77, 84, [some (vR 9 0 0), some (vI x1), some (vI x2), some (vI x3), some (vI x4)], [vI (σ1.1 8 0 2 (x4).toNatClampNeg), vI (σ1.1 8 0 1 (x4).toNatClampNeg), vI (σ1.1 8 0 0 (x4).toNatClampNeg), vR 9 0 0], σ1)) rfl h4).trans ?_
  refine (e_ci (m := 77) (pc := 87) (ls := [some (vR 9 0 0), some (vI x1), some (vI x2), some (vI x3), some (vI x4)]) (rest := []) rfl h5).trans ?_
  refine (e_n 2 (fr' := (77, 89, [some (vR 9 0 0), some (vI x1), some (vI x2), some (vI x3), some (vI x4)], [vI (1 : Int32), vI x2, vI r2], σ2)) rfl).trans ?_
  refine (e_f (B := (77, 96, [some (vR 9 0 0), some (vI x1), some (vI x2), some (vI x3), some (vI x4)], [vI r2], σ2)) rfl h6).trans ?_
  refine (e_n 1 (fr' := (77, 97, [some (vR 9 0 0), some (vI x1), some (vI x2), some (vI x3), some (vI x4)], [vI (0 : Int32), vI r2], σ2)) rfl).trans ?_
  refine (e_f (B := (77, 103, [some (vR 9 0 0), some (vI x1), some (vI x2), some (vI x3), some (vI x4)], [], σ2)) rfl h7).trans ?_
  exact e_n 2 rfl
set_option maxRecDepth 20000 in
theorem g78_0_0 (C : pmC) {σ : pmS} {x1 : Int32} {x2 : Int32} {l3 : Option pmV} {σ1 : pmS} {r1 : Int32} (h1 : C 88 [vR 9 0 0, vI x1] σ = some (some (vI r1), σ1)) (h2 : r1 = 0) : pm_Rn C (78, 0, [some (vR 9 0 0), some (vI x1), some (vI x2), l3], [], σ) = some (some (vI (-1 : Int32)), σ1) := by
  refine (e_n 2 (fr' := (78, 2, [some (vR 9 0 0), some (vI x1), some (vI x2), l3], [vI x1, vR 9 0 0], σ)) rfl).trans ?_
  refine (e_ci (m := 78) (pc := 5) (ls := [some (vR 9 0 0), some (vI x1), some (vI x2), l3]) (rest := []) rfl h1).trans ?_
  refine (e_t (A := (78, 8, [some (vR 9 0 0), some (vI x1), some (vI x2), l3], [], σ1)) rfl h2).trans ?_
  refine (e_n 1 (fr' := (78, 9, [some (vR 9 0 0), some (vI x1), some (vI x2), l3], [vI (-1 : Int32)], σ1)) rfl).trans ?_
  exact e_r rfl
set_option maxRecDepth 20000 in
theorem g78_0_1 (C : pmC) {σ : pmS} {x1 : Int32} {x2 : Int32} {l3 : Option pmV} {σ1 : pmS} {r1 : Int32} {σ2 : pmS} {r2 : Int32} (h1 : C 88 [vR 9 0 0, vI x1] σ = some (some (vI r1), σ1)) (h2 : ¬ r1 = 0) (h3 : C 90 [vI x2] σ1 = some (some (vI r2), σ2)) (h4 : r2 = 0) : pm_Rn C (78, 0, [some (vR 9 0 0), some (vI x1), some (vI x2), l3], [], σ) = some (some (vI (-2 : Int32)), σ2) := by
  refine (e_n 2 (fr' := (78, 2, [some (vR 9 0 0), some (vI x1), some (vI x2), l3], [vI x1, vR 9 0 0], σ)) rfl).trans ?_
  refine (e_ci (m := 78) (pc := 5) (ls := [some (vR 9 0 0), some (vI x1), some (vI x2), l3]) (rest := []) rfl h1).trans ?_
  refine (e_f (B := (78, 10, [some (vR 9 0 0), some (vI x1), some (vI x2), l3], [], σ1)) rfl h2).trans ?_
  refine (e_n 1 (fr' := (78, 11, [some (vR 9 0 0), some (vI x1), some (vI x2), l3], [vI x2], σ1)) rfl).trans ?_
  refine (e_ci (m := 78) (pc := 14) (ls := [some (vR 9 0 0), some (vI x1), some (vI x2), l3]) (rest := []) rfl h3).trans ?_
  refine (e_t (A := (78, 17, [some (vR 9 0 0), some (vI x1), some (vI x2), l3], [], σ2)) rfl h4).trans ?_
  refine (e_n 1 (fr' := (78, 19, [some (vR 9 0 0), some (vI x1), some (vI x2), l3], [vI (-2 : Int32)], σ2)) rfl).trans ?_
  exact e_r rfl
set_option maxRecDepth 20000 in
theorem g78_0_2 (C : pmC) {σ : pmS} {x1 : Int32} {x2 : Int32} {l3 : Option pmV} {σ1 : pmS} {r1 : Int32} {σ2 : pmS} {r2 : Int32} {σ3 : pmS} (h1 : C 88 [vR 9 0 0, vI x1] σ = some (some (vI r1), σ1)) (h2 : ¬ r1 = 0) (h3 : C 90 [vI x2] σ1 = some (some (vI r2), σ2)) (h4 : ¬ r2 = 0) (h5 : C 16 [vR 3 0 0] σ2 = some (none, σ3)) : pm_Rn C (78, 0, [some (vR 9 0 0), some (vI x1), some (vI x2), l3], [], σ) = pm_Rn C (78, 29, [some (vR 9 0 0), some (vI x1), some (vI x2), some (vI (0 : Int32))], [], σ3) := by
  refine (e_n 2 (fr' := (78, 2, [some (vR 9 0 0), some (vI x1), some (vI x2), l3], [vI x1, vR 9 0 0], σ)) rfl).trans ?_
  refine (e_ci (m := 78) (pc := 5) (ls := [some (vR 9 0 0), some (vI x1), some (vI x2), l3]) (rest := []) rfl h1).trans ?_
  refine (e_f (B := (78, 10, [some (vR 9 0 0), some (vI x1), some (vI x2), l3], [], σ1)) rfl h2).trans ?_
  refine (e_n 1 (fr' := (78, 11, [some (vR 9 0 0), some (vI x1), some (vI x2), l3], [vI x2], σ1)) rfl).trans ?_
  refine (e_ci (m := 78) (pc := 14) (ls := [some (vR 9 0 0), some (vI x1), some (vI x2), l3]) (rest := []) rfl h3).trans ?_
  refine (e_f (B := (78, 20, [some (vR 9 0 0), some (vI x1), some (vI x2), l3], [], σ2)) rfl h4).trans ?_
  refine (e_n 2 (fr' := (78, 24, [some (vR 9 0 0), some (vI x1), some (vI x2), l3], [vR 3 0 0], σ2)) rfl).trans ?_
  refine (e_cv (m := 78) (pc := 27) (ls := [some (vR 9 0 0), some (vI x1), some (vI x2), l3]) (rest := []) rfl h5).trans ?_
  exact e_n 2 rfl
set_option maxRecDepth 20000 in
theorem g78_29_0 (C : pmC) {σ : pmS} {x1 : Int32} {x2 : Int32} {x3 : Int32} {σ1 : pmS} {r1 : Int32} (h1 : (σ.1 5 0 9 0) ≤ x3) (h2 : C 18 [vR 3 0 0] σ = some (some (vI r1), σ1)) : pm_Rn C (78, 29, [some (vR 9 0 0), some (vI x1), some (vI x2), some (vI x3)], [], σ) = some (some (vI r1), σ1) := by
  refine (e_n 4 (fr' := (78, 37, [some (vR 9 0 0), some (vI x1), some (vI x2), some (vI x3)], [vI (σ.1 5 0 9 0), vI x3], σ)) rfl).trans ?_
  refine (e_t (A := (78, 64, [some (vR 9 0 0), some (vI x1), some (vI x2), some (vI x3)], [], σ)) rfl h1).trans ?_
  refine (e_n 2 (fr' := (78, 68, [some (vR 9 0 0), some (vI x1), some (vI x2), some (vI x3)], [vR 3 0 0], σ)) rfl).trans ?_
  refine (e_ci (m := 78) (pc := 71) (ls := [some (vR 9 0 0), some (vI x1), some (vI x2), some (vI x3)]) (rest := []) rfl h2).trans ?_
  exact e_r rfl
set_option maxRecDepth 20000 in
theorem g78_29_1 (C : pmC) {σ : pmS} {x1 : Int32} {x2 : Int32} {x3 : Int32} {σ1 : pmS} {r1 : Int32} (h1 : ¬ (σ.1 5 0 9 0) ≤ x3) (h2 : C 100 [vR 9 0 0, vI x3, vI (0 : Int32), vI x1, vI x2] σ = some (some (vI r1), σ1)) (h3 : r1 = 0) : pm_Rn C (78, 29, [some (vR 9 0 0), some (vI x1), some (vI x2), some (vI x3)], [], σ) = pm_Rn C (78, 29, [some (vR 9 0 0), some (vI x1), some (vI x2), some (vI (x3 + (1 : Int32)))], [], σ1) := by
  refine (e_n 4 (fr' := (78, 37, [some (vR 9 0 0), some (vI x1), some (vI x2), some (vI x3)], [vI (σ.1 5 0 9 0), vI x3], σ)) rfl).trans ?_
  refine (e_f (B := (78, 40, [some (vR 9 0 0), some (vI x1), some (vI x2), some (vI x3)], [], σ)) rfl h1).trans ?_
  refine (e_n 5 (fr' := (78, 45, [some (vR 9 0 0), some (vI x1), some (vI x2), some (vI x3)], [vI x2, vI x1, vI (0 : Int32), vI x3, vR 9 0 0], σ)) rfl).trans ?_
  refine (e_ci (m := 78) (pc := 48) (ls := [some (vR 9 0 0), some (vI x1), some (vI x2), some (vI x3)]) (rest := []) rfl h2).trans ?_
  refine (e_t (A := (78, 58, [some (vR 9 0 0), some (vI x1), some (vI x2), some (vI x3)], [], σ1)) rfl h3).trans ?_
  exact e_n 2 rfl
set_option maxRecDepth 20000 in
theorem g78_29_2 (C : pmC) {σ : pmS} {x1 : Int32} {x2 : Int32} {x3 : Int32} {σ1 : pmS} {r1 : Int32} {σ2 : pmS} (h1 : ¬ (σ.1 5 0 9 0) ≤ x3) (h2 : C 100 [vR 9 0 0, vI x3, vI (0 : Int32), vI x1, vI x2] σ = some (some (vI r1), σ1)) (h3 : ¬ r1 = 0) (h4 : C 101 [vR 9 0 0, vI x3, vI x1, vI x2] σ1 = some (none, σ2)) : pm_Rn C (78, 29, [some (vR 9 0 0), some (vI x1), some (vI x2), some (vI x3)], [], σ) = pm_Rn C (78, 29, [some (vR 9 0 0), some (vI x1), some (vI x2), some (vI (x3 + (1 : Int32)))], [], σ2) := by
  refine (e_n 4 (fr' := (78, 37, [some (vR 9 0 0), some (vI x1), some (vI x2), some (vI x3)], [vI (σ.1 5 0 9 0), vI x3], σ)) rfl).trans ?_
  refine (e_f (B := (78, 40, [some (vR 9 0 0), some (vI x1), some (vI x2), some (vI x3)], [], σ)) rfl h1).trans ?_
  refine (e_n 5 (fr' := (78, 45, [some (vR 9 0 0), some (vI x1), some (vI x2), some (vI x3)], [vI x2, vI x1, vI (0 : Int32), vI x3, vR 9 0 0], σ)) rfl).trans ?_
  refine (e_ci (m := 78) (pc := 48) (ls := [some (vR 9 0 0), some (vI x1), some (vI x2), some (vI x3)]) (rest := []) rfl h2).trans ?_
  refine (e_f (B := (78, 51, [some (vR 9 0 0), some (vI x1), some (vI x2), some (vI x3)], [], σ1)) rfl h3).trans ?_
  refine (e_n 4 (fr' := (78, 55, [some (vR 9 0 0), some (vI x1), some (vI x2), some (vI x3)], [vI x2, vI x1, vI x3, vR 9 0 0], σ1)) rfl).trans ?_
  refine (e_cv (m := 78) (pc := 58) (ls := [some (vR 9 0 0), some (vI x1), some (vI x2), some (vI x3)]) (rest := []) rfl h4).trans ?_
  exact e_n 2 rfl
set_option maxRecDepth 20000 in
theorem g79_0_0 (C : pmC) {σ : pmS} {x1 : Int32} {σ1 : pmS} {r1 : Int32} (h1 : C 32 [vR 5 0 0, vI x1] σ = some (some (vI r1), σ1)) (h2 : r1 = 0) : pm_Rn C (79, 0, [some (vR 9 0 0), some (vI x1)], [], σ) = some (some (vI (-1 : Int32)), σ1) := by
  refine (e_n 3 (fr' := (79, 5, [some (vR 9 0 0), some (vI x1)], [vI x1, vR 5 0 0], σ)) rfl).trans ?_
  refine (e_ci (m := 79) (pc := 8) (ls := [some (vR 9 0 0), some (vI x1)]) (rest := []) rfl h1).trans ?_
  refine (e_t (A := (79, 23, [some (vR 9 0 0), some (vI x1)], [], σ1)) rfl h2).trans ?_
  refine (e_n 1 (fr' := (79, 24, [some (vR 9 0 0), some (vI x1)], [vI (-1 : Int32)], σ1)) rfl).trans ?_
  exact e_r rfl
set_option maxRecDepth 20000 in
theorem g79_0_1 (C : pmC) {σ : pmS} {x1 : Int32} {σ1 : pmS} {r1 : Int32} (h1 : C 32 [vR 5 0 0, vI x1] σ = some (some (vI r1), σ1)) (h2 : ¬ r1 = 0) (h3 : vp_in x1 48) : pm_Rn C (79, 0, [some (vR 9 0 0), some (vI x1)], [], σ) = some (some (vI (σ1.1 3 0 1 (x1).toNatClampNeg)), σ1) := by
  refine (e_n 3 (fr' := (79, 5, [some (vR 9 0 0), some (vI x1)], [vI x1, vR 5 0 0], σ)) rfl).trans ?_
  refine (e_ci (m := 79) (pc := 8) (ls := [some (vR 9 0 0), some (vI x1)]) (rest := []) rfl h1).trans ?_
  refine (e_f (B := (79, 11, [some (vR 9 0 0), some (vI x1)], [], σ1)) rfl h2).trans ?_
  refine (e_n 4 (fr' := (79, 19, [some (vR 9 0 0), some (vI x1)], [vI x1, vR 3 0 2], σ1)) rfl).trans ?_
  refine (e_a (A := (79, 20, [some (vR 9 0 0), some (vI x1)], [vI (σ1.1 3 0 1 (x1).toNatClampNeg)], σ1)) rfl h3).trans ?_
  refine (e_n 1 (fr' := (79, 24, [some (vR 9 0 0), some (vI x1)], [vI (σ1.1 3 0 1 (x1).toNatClampNeg)], σ1)) rfl).trans ?_
  exact e_r rfl
set_option maxRecDepth 20000 in
theorem g80_0_0 (C : pmC) {σ : pmS} {x1 : Int32} (h1 : x1 = (0 : Int32)) : pm_Rn C (80, 0, [some (vR 9 0 0), some (vI x1)], [], σ) = some (some (vI (σ.1 3 0 7 0)), σ) := by
  refine (e_n 1 (fr' := (80, 1, [some (vR 9 0 0), some (vI x1)], [vI x1], σ)) rfl).trans ?_
  refine (e_g (A := (80, 28, [some (vR 9 0 0), some (vI x1)], [], σ)) (off' := 27) rfl (by rw [h1]; decide) rfl).trans ?_
  refine (e_n 3 (fr' := (80, 35, [some (vR 9 0 0), some (vI x1)], [vI (σ.1 3 0 7 0)], σ)) rfl).trans ?_
  exact e_r rfl
set_option maxRecDepth 20000 in
theorem g80_0_1 (C : pmC) {σ : pmS} {x1 : Int32} (h1 : x1 = (1 : Int32)) : pm_Rn C (80, 0, [some (vR 9 0 0), some (vI x1)], [], σ) = some (some (vI (σ.1 3 0 8 0)), σ) := by
  refine (e_n 1 (fr' := (80, 1, [some (vR 9 0 0), some (vI x1)], [vI x1], σ)) rfl).trans ?_
  refine (e_g (A := (80, 36, [some (vR 9 0 0), some (vI x1)], [], σ)) (off' := 35) rfl (by rw [h1]; decide) rfl).trans ?_
  refine (e_n 3 (fr' := (80, 43, [some (vR 9 0 0), some (vI x1)], [vI (σ.1 3 0 8 0)], σ)) rfl).trans ?_
  exact e_r rfl
set_option maxRecDepth 20000 in
theorem g80_0_2 (C : pmC) {σ : pmS} {x1 : Int32} (h1 : ¬ x1 = (0 : Int32)) (h2 : ¬ x1 = (1 : Int32)) : pm_Rn C (80, 0, [some (vR 9 0 0), some (vI x1)], [], σ) = some (some (vI (-1 : Int32)), σ) := by
  refine (e_n 1 (fr' := (80, 1, [some (vR 9 0 0), some (vI x1)], [vI x1], σ)) rfl).trans ?_
  refine (e_g (A := (80, 44, [some (vR 9 0 0), some (vI x1)], [], σ)) (off' := 43) rfl ((pm_lk_ne h1).trans ((pm_lk_ne h2).trans (rfl))) rfl).trans ?_
  refine (e_n 1 (fr' := (80, 45, [some (vR 9 0 0), some (vI x1)], [vI (-1 : Int32)], σ)) rfl).trans ?_
  exact e_r rfl
set_option maxRecDepth 20000 in
theorem g81_0_0 (C : pmC) {σ : pmS} {x1 : Int32} {x2 : Int32} {σ1 : pmS} {r1 : Int32} (h1 : C 86 [vR 9 0 0, vI x1] σ = some (some (vI r1), σ1)) (h2 : r1 = 0) : pm_Rn C (81, 0, [some (vR 9 0 0), some (vI x1), some (vI x2)], [], σ) = some (some (vI (-1 : Int32)), σ1) := by
  refine (e_n 2 (fr' := (81, 2, [some (vR 9 0 0), some (vI x1), some (vI x2)], [vI x1, vR 9 0 0], σ)) rfl).trans ?_
  refine (e_ci (m := 81) (pc := 5) (ls := [some (vR 9 0 0), some (vI x1), some (vI x2)]) (rest := []) rfl h1).trans ?_
  refine (e_t (A := (81, 16, [some (vR 9 0 0), some (vI x1), some (vI x2)], [], σ1)) rfl h2).trans ?_
  refine (e_n 1 (fr' := (81, 17, [some (vR 9 0 0), some (vI x1), some (vI x2)], [vI (-1 : Int32)], σ1)) rfl).trans ?_
  exact e_r rfl
set_option maxRecDepth 20000 in
theorem g81_0_1 (C : pmC) {σ : pmS} {x1 : Int32} {x2 : Int32} {σ1 : pmS} {r1 : Int32} {σ2 : pmS} {r2 : Int32} (h1 : C 86 [vR 9 0 0, vI x1] σ = some (some (vI r1), σ1)) (h2 : ¬ r1 = 0) (h3 : C 86 [vR 9 0 0, vI x2] σ1 = some (some (vI r2), σ2)) (h4 : r2 = 0) : pm_Rn C (81, 0, [some (vR 9 0 0), some (vI x1), some (vI x2)], [], σ) = some (some (vI (-1 : Int32)), σ2) := by
  refine (e_n 2 (fr' := (81, 2, [some (vR 9 0 0), some (vI x1), some (vI x2)], [vI x1, vR 9 0 0], σ)) rfl).trans ?_
  refine (e_ci (m := 81) (pc := 5) (ls := [some (vR 9 0 0), some (vI x1), some (vI x2)]) (rest := []) rfl h1).trans ?_
  refine (e_f (B := (81, 8, [some (vR 9 0 0), some (vI x1), some (vI x2)], [], σ1)) rfl h2).trans ?_
  refine (e_n 2 (fr' := (81, 10, [some (vR 9 0 0), some (vI x1), some (vI x2)], [vI x2, vR 9 0 0], σ1)) rfl).trans ?_
  refine (e_ci (m := 81) (pc := 13) (ls := [some (vR 9 0 0), some (vI x1), some (vI x2)]) (rest := []) rfl h3).trans ?_
  refine (e_t (A := (81, 16, [some (vR 9 0 0), some (vI x1), some (vI x2)], [], σ2)) rfl h4).trans ?_
  refine (e_n 1 (fr' := (81, 17, [some (vR 9 0 0), some (vI x1), some (vI x2)], [vI (-1 : Int32)], σ2)) rfl).trans ?_
  exact e_r rfl
set_option maxRecDepth 20000 in
theorem g81_0_2 (C : pmC) {σ : pmS} {x1 : Int32} {x2 : Int32} {σ1 : pmS} {r1 : Int32} {σ2 : pmS} {r2 : Int32} {σ3 : pmS} {r3 : Int32} (h1 : C 86 [vR 9 0 0, vI x1] σ = some (some (vI r1), σ1)) (h2 : ¬ r1 = 0) (h3 : C 86 [vR 9 0 0, vI x2] σ1 = some (some (vI r2), σ2)) (h4 : ¬ r2 = 0) (h5 : vp_in x1 4) (h6 : vp_in x2 4) (h7 : (σ2.1 2 (x1).toNatClampNeg 8 0) = (σ2.1 2 (x2).toNatClampNeg 8 0)) (h8 : C 28 [vR 4 0 0, vR 2 (x1).toNatClampNeg 0, vR 2 (x2).toNatClampNeg 0] σ2 = some (some (vI r3), σ3)) : pm_Rn C (81, 0, [some (vR 9 0 0), some (vI x1), some (vI x2)], [], σ) = some (some (vI r3), σ3) := by
  refine (e_n 2 (fr' := (81, 2, [some (vR 9 0 0), some (vI x1), some (vI x2)], [vI x1, vR 9 0 0], σ)) rfl).trans ?_
  refine (e_ci (m := 81) (pc := 5) (ls := [some (vR 9 0 0), some (vI x1), some (vI x2)]) (rest := []) rfl h1).trans ?_
  refine (e_f (B := (81, 8, [some (vR 9 0 0), some (vI x1), some (vI x2)], [], σ1)) rfl h2).trans ?_
  refine (e_n 2 (fr' := (81, 10, [some (vR 9 0 0), some (vI x1), some (vI x2)], [vI x2, vR 9 0 0], σ1)) rfl).trans ?_
  refine (e_ci (m := 81) (pc := 13) (ls := [some (vR 9 0 0), some (vI x1), some (vI x2)]) (rest := []) rfl h3).trans ?_
  refine (e_f (B := (81, 18, [some (vR 9 0 0), some (vI x1), some (vI x2)], [], σ2)) rfl h4).trans ?_
  refine (e_n 3 (fr' := (81, 23, [some (vR 9 0 0), some (vI x1), some (vI x2)], [vI x1, vR 9 0 2], σ2)) rfl).trans ?_
  refine (e_a (A := (81, 24, [some (vR 9 0 0), some (vI x1), some (vI x2)], [vR 2 (x1).toNatClampNeg 0], σ2)) rfl h5).trans ?_
  refine (e_n 4 (fr' := (81, 32, [some (vR 9 0 0), some (vI x1), some (vI x2)], [vI x2, vR 9 0 2, vI (σ2.1 2 (x1).toNatClampNeg 8 0)], σ2)) rfl).trans ?_
  refine (e_a (A := (81, 33, [some (vR 9 0 0), some (vI x1), some (vI x2)], [vR 2 (x2).toNatClampNeg 0, vI (σ2.1 2 (x1).toNatClampNeg 8 0)], σ2)) rfl h6).trans ?_
  refine (e_n 1 (fr' := (81, 36, [some (vR 9 0 0), some (vI x1), some (vI x2)], [vI (σ2.1 2 (x2).toNatClampNeg 8 0), vI (σ2.1 2 (x1).toNatClampNeg 8 0)], σ2)) rfl).trans ?_
  refine (e_t (A := (81, 42, [some (vR 9 0 0), some (vI x1), some (vI x2)], [], σ2)) rfl h7).trans ?_
  refine (e_n 5 (fr' := (81, 51, [some (vR 9 0 0), some (vI x1), some (vI x2)], [vI x1, vR 9 0 2, vR 4 0 0], σ2)) rfl).trans ?_
  refine (e_a (A := (81, 52, [some (vR 9 0 0), some (vI x1), some (vI x2)], [vR 2 (x1).toNatClampNeg 0, vR 4 0 0], σ2)) rfl h5).trans ?_
  refine (e_n 3 (fr' := (81, 57, [some (vR 9 0 0), some (vI x1), some (vI x2)], [vI x2, vR 9 0 2, vR 2 (x1).toNatClampNeg 0, vR 4 0 0], σ2)) rfl).trans ?_
  refine (e_a (A := (81, 58, [some (vR 9 0 0), some (vI x1), some (vI x2)], [vR 2 (x2).toNatClampNeg 0, vR 2 (x1).toNatClampNeg 0, vR 4 0 0], σ2)) rfl h6).trans ?_
  refine (e_ci (m := 81) (pc := 61) (ls := [some (vR 9 0 0), some (vI x1), some (vI x2)]) (rest := []) rfl h8).trans ?_
  exact e_r rfl
set_option maxRecDepth 20000 in
theorem g81_0_3 (C : pmC) {σ : pmS} {x1 : Int32} {x2 : Int32} {σ1 : pmS} {r1 : Int32} {σ2 : pmS} {r2 : Int32} (h1 : C 86 [vR 9 0 0, vI x1] σ = some (some (vI r1), σ1)) (h2 : ¬ r1 = 0) (h3 : C 86 [vR 9 0 0, vI x2] σ1 = some (some (vI r2), σ2)) (h4 : ¬ r2 = 0) (h5 : vp_in x1 4) (h6 : vp_in x2 4) (h7 : ¬ (σ2.1 2 (x1).toNatClampNeg 8 0) = (σ2.1 2 (x2).toNatClampNeg 8 0)) : pm_Rn C (81, 0, [some (vR 9 0 0), some (vI x1), some (vI x2)], [], σ) = some (some (vI (-3 : Int32)), σ2) := by
  refine (e_n 2 (fr' := (81, 2, [some (vR 9 0 0), some (vI x1), some (vI x2)], [vI x1, vR 9 0 0], σ)) rfl).trans ?_
  refine (e_ci (m := 81) (pc := 5) (ls := [some (vR 9 0 0), some (vI x1), some (vI x2)]) (rest := []) rfl h1).trans ?_
  refine (e_f (B := (81, 8, [some (vR 9 0 0), some (vI x1), some (vI x2)], [], σ1)) rfl h2).trans ?_
  refine (e_n 2 (fr' := (81, 10, [some (vR 9 0 0), some (vI x1), some (vI x2)], [vI x2, vR 9 0 0], σ1)) rfl).trans ?_
  refine (e_ci (m := 81) (pc := 13) (ls := [some (vR 9 0 0), some (vI x1), some (vI x2)]) (rest := []) rfl h3).trans ?_
  refine (e_f (B := (81, 18, [some (vR 9 0 0), some (vI x1), some (vI x2)], [], σ2)) rfl h4).trans ?_
  refine (e_n 3 (fr' := (81, 23, [some (vR 9 0 0), some (vI x1), some (vI x2)], [vI x1, vR 9 0 2], σ2)) rfl).trans ?_
  refine (e_a (A := (81, 24, [some (vR 9 0 0), some (vI x1), some (vI x2)], [vR 2 (x1).toNatClampNeg 0], σ2)) rfl h5).trans ?_
  refine (e_n 4 (fr' := (81, 32, [some (vR 9 0 0), some (vI x1), some (vI x2)], [vI x2, vR 9 0 2, vI (σ2.1 2 (x1).toNatClampNeg 8 0)], σ2)) rfl).trans ?_
  refine (e_a (A := (81, 33, [some (vR 9 0 0), some (vI x1), some (vI x2)], [vR 2 (x2).toNatClampNeg 0, vI (σ2.1 2 (x1).toNatClampNeg 8 0)], σ2)) rfl h6).trans ?_
  refine (e_n 1 (fr' := (81, 36, [some (vR 9 0 0), some (vI x1), some (vI x2)], [vI (σ2.1 2 (x2).toNatClampNeg 8 0), vI (σ2.1 2 (x1).toNatClampNeg 8 0)], σ2)) rfl).trans ?_
  refine (e_f (B := (81, 39, [some (vR 9 0 0), some (vI x1), some (vI x2)], [], σ2)) rfl h7).trans ?_
  refine (e_n 1 (fr' := (81, 41, [some (vR 9 0 0), some (vI x1), some (vI x2)], [vI (-3 : Int32)], σ2)) rfl).trans ?_
  exact e_r rfl
set_option maxRecDepth 20000 in
theorem g82_0_0 (C : pmC) {σ : pmS} {x1 : Int32} (h1 : x1 < 0) : pm_Rn C (82, 0, [some (vR 9 0 0), some (vI x1)], [], σ) = some (some (vI (-1 : Int32)), σ) := by
  refine (e_n 1 (fr' := (82, 1, [some (vR 9 0 0), some (vI x1)], [vI x1], σ)) rfl).trans ?_
  refine (e_t (A := (82, 27, [some (vR 9 0 0), some (vI x1)], [], σ)) rfl h1).trans ?_
  refine (e_n 1 (fr' := (82, 28, [some (vR 9 0 0), some (vI x1)], [vI (-1 : Int32)], σ)) rfl).trans ?_
  exact e_r rfl
set_option maxRecDepth 20000 in
theorem g82_0_1 (C : pmC) {σ : pmS} {x1 : Int32} (h1 : ¬ x1 < 0) (h2 : (σ.1 4 0 4 0) ≤ x1) : pm_Rn C (82, 0, [some (vR 9 0 0), some (vI x1)], [], σ) = some (some (vI (-1 : Int32)), σ) := by
  refine (e_n 1 (fr' := (82, 1, [some (vR 9 0 0), some (vI x1)], [vI x1], σ)) rfl).trans ?_
  refine (e_f (B := (82, 4, [some (vR 9 0 0), some (vI x1)], [], σ)) rfl h1).trans ?_
  refine (e_n 4 (fr' := (82, 12, [some (vR 9 0 0), some (vI x1)], [vI (σ.1 4 0 4 0), vI x1], σ)) rfl).trans ?_
  refine (e_t (A := (82, 27, [some (vR 9 0 0), some (vI x1)], [], σ)) rfl h2).trans ?_
  refine (e_n 1 (fr' := (82, 28, [some (vR 9 0 0), some (vI x1)], [vI (-1 : Int32)], σ)) rfl).trans ?_
  exact e_r rfl
set_option maxRecDepth 20000 in
theorem g82_0_2 (C : pmC) {σ : pmS} {x1 : Int32} (h1 : ¬ x1 < 0) (h2 : ¬ (σ.1 4 0 4 0) ≤ x1) (h3 : vp_in x1 8) : pm_Rn C (82, 0, [some (vR 9 0 0), some (vI x1)], [], σ) = some (some (vI (σ.1 4 0 0 (x1).toNatClampNeg)), σ) := by
  refine (e_n 1 (fr' := (82, 1, [some (vR 9 0 0), some (vI x1)], [vI x1], σ)) rfl).trans ?_
  refine (e_f (B := (82, 4, [some (vR 9 0 0), some (vI x1)], [], σ)) rfl h1).trans ?_
  refine (e_n 4 (fr' := (82, 12, [some (vR 9 0 0), some (vI x1)], [vI (σ.1 4 0 4 0), vI x1], σ)) rfl).trans ?_
  refine (e_f (B := (82, 15, [some (vR 9 0 0), some (vI x1)], [], σ)) rfl h2).trans ?_
  refine (e_n 4 (fr' := (82, 23, [some (vR 9 0 0), some (vI x1)], [vI x1, vR 4 0 1], σ)) rfl).trans ?_
  refine (e_a (A := (82, 24, [some (vR 9 0 0), some (vI x1)], [vI (σ.1 4 0 0 (x1).toNatClampNeg)], σ)) rfl h3).trans ?_
  refine (e_n 1 (fr' := (82, 28, [some (vR 9 0 0), some (vI x1)], [vI (σ.1 4 0 0 (x1).toNatClampNeg)], σ)) rfl).trans ?_
  exact e_r rfl
set_option maxRecDepth 20000 in
theorem g83_0_0 (C : pmC) {σ : pmS} {x1 : Int32} {σ1 : pmS} {r1 : Int32} (h1 : C 32 [vR 5 0 0, vI x1] σ = some (some (vI r1), σ1)) (h2 : r1 = 0) : pm_Rn C (83, 0, [some (vR 9 0 0), some (vI x1)], [], σ) = some (some (vI (-1 : Int32)), σ1) := by
  refine (e_n 3 (fr' := (83, 5, [some (vR 9 0 0), some (vI x1)], [vI x1, vR 5 0 0], σ)) rfl).trans ?_
  refine (e_ci (m := 83) (pc := 8) (ls := [some (vR 9 0 0), some (vI x1)]) (rest := []) rfl h1).trans ?_
  refine (e_t (A := (83, 11, [some (vR 9 0 0), some (vI x1)], [], σ1)) rfl h2).trans ?_
  refine (e_n 1 (fr' := (83, 12, [some (vR 9 0 0), some (vI x1)], [vI (-1 : Int32)], σ1)) rfl).trans ?_
  exact e_r rfl
set_option maxRecDepth 20000 in
theorem g83_0_1 (C : pmC) {σ : pmS} {x1 : Int32} {σ1 : pmS} {r1 : Int32} {σ2 : pmS} {r2 : Int32} (h1 : C 32 [vR 5 0 0, vI x1] σ = some (some (vI r1), σ1)) (h2 : ¬ r1 = 0) (h3 : C 102 [vR 9 0 0] σ1 = some (some (vI r2), σ2)) (h4 : r2 = 0) : pm_Rn C (83, 0, [some (vR 9 0 0), some (vI x1)], [], σ) = some (some (vI (0 : Int32)), σ2) := by
  refine (e_n 3 (fr' := (83, 5, [some (vR 9 0 0), some (vI x1)], [vI x1, vR 5 0 0], σ)) rfl).trans ?_
  refine (e_ci (m := 83) (pc := 8) (ls := [some (vR 9 0 0), some (vI x1)]) (rest := []) rfl h1).trans ?_
  refine (e_f (B := (83, 13, [some (vR 9 0 0), some (vI x1)], [], σ1)) rfl h2).trans ?_
  refine (e_n 1 (fr' := (83, 14, [some (vR 9 0 0), some (vI x1)], [vR 9 0 0], σ1)) rfl).trans ?_
  refine (e_ci (m := 83) (pc := 17) (ls := [some (vR 9 0 0), some (vI x1)]) (rest := []) rfl h3).trans ?_
  refine (e_t (A := (83, 32, [some (vR 9 0 0), some (vI x1)], [], σ2)) rfl h4).trans ?_
  refine (e_n 1 (fr' := (83, 33, [some (vR 9 0 0), some (vI x1)], [vI (0 : Int32)], σ2)) rfl).trans ?_
  exact e_r rfl
set_option maxRecDepth 20000 in
theorem g83_0_2 (C : pmC) {σ : pmS} {x1 : Int32} {σ1 : pmS} {r1 : Int32} {σ2 : pmS} {r2 : Int32} (h1 : C 32 [vR 5 0 0, vI x1] σ = some (some (vI r1), σ1)) (h2 : ¬ r1 = 0) (h3 : C 102 [vR 9 0 0] σ1 = some (some (vI r2), σ2)) (h4 : ¬ r2 = 0) (h5 : vp_in x1 48) : pm_Rn C (83, 0, [some (vR 9 0 0), some (vI x1)], [], σ) = some (some (vI (σ2.1 1 0 1 (x1).toNatClampNeg)), σ2) := by
  refine (e_n 3 (fr' := (83, 5, [some (vR 9 0 0), some (vI x1)], [vI x1, vR 5 0 0], σ)) rfl).trans ?_
  refine (e_ci (m := 83) (pc := 8) (ls := [some (vR 9 0 0), some (vI x1)]) (rest := []) rfl h1).trans ?_
  refine (e_f (B := (83, 13, [some (vR 9 0 0), some (vI x1)], [], σ1)) rfl h2).trans ?_
  refine (e_n 1 (fr' := (83, 14, [some (vR 9 0 0), some (vI x1)], [vR 9 0 0], σ1)) rfl).trans ?_
  refine (e_ci (m := 83) (pc := 17) (ls := [some (vR 9 0 0), some (vI x1)]) (rest := []) rfl h3).trans ?_
  refine (e_f (B := (83, 20, [some (vR 9 0 0), some (vI x1)], [], σ2)) rfl h4).trans ?_
  refine (e_n 4 (fr' := (83, 28, [some (vR 9 0 0), some (vI x1)], [vI x1, vR 1 0 2], σ2)) rfl).trans ?_
  refine (e_a (A := (83, 29, [some (vR 9 0 0), some (vI x1)], [vI (σ2.1 1 0 1 (x1).toNatClampNeg)], σ2)) rfl h5).trans ?_
  refine (e_n 1 (fr' := (83, 33, [some (vR 9 0 0), some (vI x1)], [vI (σ2.1 1 0 1 (x1).toNatClampNeg)], σ2)) rfl).trans ?_
  exact e_r rfl
set_option maxRecDepth 20000 in
theorem g84_0_0 (C : pmC) {σ : pmS} {l1 : Option pmV} {l2 : Option pmV} {σ1 : pmS} {r1 : Int32} (h1 : C 102 [vR 9 0 0] σ = some (some (vI r1), σ1)) (h2 : r1 = 0) : pm_Rn C (84, 0, [some (vR 9 0 0), l1, l2], [], σ) = some (some (vI (-5 : Int32)), σ1) := by
  refine (e_n 1 (fr' := (84, 1, [some (vR 9 0 0), l1, l2], [vR 9 0 0], σ)) rfl).trans ?_
  refine (e_ci (m := 84) (pc := 4) (ls := [some (vR 9 0 0), l1, l2]) (rest := []) rfl h1).trans ?_
  refine (e_t (A := (84, 7, [some (vR 9 0 0), l1, l2], [], σ1)) rfl h2).trans ?_
  refine (e_n 1 (fr' := (84, 9, [some (vR 9 0 0), l1, l2], [vI (-5 : Int32)], σ1)) rfl).trans ?_
  exact e_r rfl
set_option maxRecDepth 20000 in
theorem g84_0_1 (C : pmC) {σ : pmS} {l1 : Option pmV} {l2 : Option pmV} {σ1 : pmS} {r1 : Int32} (h1 : C 102 [vR 9 0 0] σ = some (some (vI r1), σ1)) (h2 : ¬ r1 = 0) : pm_Rn C (84, 0, [some (vR 9 0 0), l1, l2], [], σ) = pm_Rn C (84, 14, [some (vR 9 0 0), some (vI (0 : Int32)), some (vI (0 : Int32))], [], σ1) := by
  refine (e_n 1 (fr' := (84, 1, [some (vR 9 0 0), l1, l2], [vR 9 0 0], σ)) rfl).trans ?_
  refine (e_ci (m := 84) (pc := 4) (ls := [some (vR 9 0 0), l1, l2]) (rest := []) rfl h1).trans ?_
  refine (e_f (B := (84, 10, [some (vR 9 0 0), l1, l2], [], σ1)) rfl h2).trans ?_
  exact e_n 4 rfl
set_option maxRecDepth 20000 in
theorem g84_14_0 (C : pmC) {σ : pmS} {x1 : Int32} {x2 : Int32} (h1 : (σ.1 5 0 9 0) ≤ x2) : pm_Rn C (84, 14, [some (vR 9 0 0), some (vI x1), some (vI x2)], [], σ) = some (some (vI x1), σ) := by
  refine (e_n 4 (fr' := (84, 22, [some (vR 9 0 0), some (vI x1), some (vI x2)], [vI (σ.1 5 0 9 0), vI x2], σ)) rfl).trans ?_
  refine (e_t (A := (84, 50, [some (vR 9 0 0), some (vI x1), some (vI x2)], [], σ)) rfl h1).trans ?_
  refine (e_n 1 (fr' := (84, 51, [some (vR 9 0 0), some (vI x1), some (vI x2)], [vI x1], σ)) rfl).trans ?_
  exact e_r rfl
set_option maxRecDepth 20000 in
theorem g84_14_1 (C : pmC) {σ : pmS} {x1 : Int32} {x2 : Int32} {σ1 : pmS} {r1 : Int32} (h1 : ¬ (σ.1 5 0 9 0) ≤ x2) (h2 : vp_in x2 48) (h3 : C 179 [vI (σ.1 1 0 1 (x2).toNatClampNeg)] σ = some (some (vI r1), σ1)) (h4 : r1 = (1 : Int32)) : pm_Rn C (84, 14, [some (vR 9 0 0), some (vI x1), some (vI x2)], [], σ) = pm_Rn C (84, 14, [some (vR 9 0 0), some (vI (x1 + (1 : Int32))), some (vI (x2 + (1 : Int32)))], [], σ1) := by
  refine (e_n 4 (fr' := (84, 22, [some (vR 9 0 0), some (vI x1), some (vI x2)], [vI (σ.1 5 0 9 0), vI x2], σ)) rfl).trans ?_
  refine (e_f (B := (84, 25, [some (vR 9 0 0), some (vI x1), some (vI x2)], [], σ)) rfl h1).trans ?_
  refine (e_n 4 (fr' := (84, 33, [some (vR 9 0 0), some (vI x1), some (vI x2)], [vI x2, vR 1 0 2], σ)) rfl).trans ?_
  refine (e_a (A := (84, 34, [some (vR 9 0 0), some (vI x1), some (vI x2)], [vI (σ.1 1 0 1 (x2).toNatClampNeg)], σ)) rfl h2).trans ?_
  refine (e_ci (m := 84) (pc := 37) (ls := [some (vR 9 0 0), some (vI x1), some (vI x2)]) (rest := []) rfl h3).trans ?_
  refine (e_n 1 (fr' := (84, 38, [some (vR 9 0 0), some (vI x1), some (vI x2)], [vI (1 : Int32), vI r1], σ1)) rfl).trans ?_
  refine (e_t (A := (84, 41, [some (vR 9 0 0), some (vI x1), some (vI x2)], [], σ1)) rfl h4).trans ?_
  exact e_n 3 rfl
set_option maxRecDepth 20000 in
theorem g84_14_2 (C : pmC) {σ : pmS} {x1 : Int32} {x2 : Int32} {σ1 : pmS} {r1 : Int32} (h1 : ¬ (σ.1 5 0 9 0) ≤ x2) (h2 : vp_in x2 48) (h3 : C 179 [vI (σ.1 1 0 1 (x2).toNatClampNeg)] σ = some (some (vI r1), σ1)) (h4 : ¬ r1 = (1 : Int32)) : pm_Rn C (84, 14, [some (vR 9 0 0), some (vI x1), some (vI x2)], [], σ) = pm_Rn C (84, 14, [some (vR 9 0 0), some (vI x1), some (vI (x2 + (1 : Int32)))], [], σ1) := by
  refine (e_n 4 (fr' := (84, 22, [some (vR 9 0 0), some (vI x1), some (vI x2)], [vI (σ.1 5 0 9 0), vI x2], σ)) rfl).trans ?_
  refine (e_f (B := (84, 25, [some (vR 9 0 0), some (vI x1), some (vI x2)], [], σ)) rfl h1).trans ?_
  refine (e_n 4 (fr' := (84, 33, [some (vR 9 0 0), some (vI x1), some (vI x2)], [vI x2, vR 1 0 2], σ)) rfl).trans ?_
  refine (e_a (A := (84, 34, [some (vR 9 0 0), some (vI x1), some (vI x2)], [vI (σ.1 1 0 1 (x2).toNatClampNeg)], σ)) rfl h2).trans ?_
  refine (e_ci (m := 84) (pc := 37) (ls := [some (vR 9 0 0), some (vI x1), some (vI x2)]) (rest := []) rfl h3).trans ?_
  refine (e_n 1 (fr' := (84, 38, [some (vR 9 0 0), some (vI x1), some (vI x2)], [vI (1 : Int32), vI r1], σ1)) rfl).trans ?_
  refine (e_f (B := (84, 44, [some (vR 9 0 0), some (vI x1), some (vI x2)], [], σ1)) rfl h4).trans ?_
  exact e_n 2 rfl
set_option maxRecDepth 20000 in
theorem g85_0_0 (C : pmC) {σ : pmS} {x1 : Int32} (h1 : x1 = (0 : Int32)) : pm_Rn C (85, 0, [some (vR 9 0 0), some (vI x1)], [], σ) = some (some (vI (σ.1 9 0 9 0)), σ) := by
  refine (e_n 1 (fr' := (85, 1, [some (vR 9 0 0), some (vI x1)], [vI x1], σ)) rfl).trans ?_
  refine (e_g (A := (85, 48, [some (vR 9 0 0), some (vI x1)], [], σ)) (off' := 47) rfl (by rw [h1]; decide) rfl).trans ?_
  refine (e_n 2 (fr' := (85, 52, [some (vR 9 0 0), some (vI x1)], [vI (σ.1 9 0 9 0)], σ)) rfl).trans ?_
  exact e_r rfl
set_option maxRecDepth 20000 in
theorem g85_0_1 (C : pmC) {σ : pmS} {x1 : Int32} (h1 : x1 = (1 : Int32)) : pm_Rn C (85, 0, [some (vR 9 0 0), some (vI x1)], [], σ) = some (some (vI (σ.1 9 0 10 0)), σ) := by
  refine (e_n 1 (fr' := (85, 1, [some (vR 9 0 0), some (vI x1)], [vI x1], σ)) rfl).trans ?_
  refine (e_g (A := (85, 53, [some (vR 9 0 0), some (vI x1)], [], σ)) (off' := 52) rfl (by rw [h1]; decide) rfl).trans ?_
  refine (e_n 2 (fr' := (85, 57, [some (vR 9 0 0), some (vI x1)], [vI (σ.1 9 0 10 0)], σ)) rfl).trans ?_
  exact e_r rfl
set_option maxRecDepth 20000 in
theorem g85_0_2 (C : pmC) {σ : pmS} {x1 : Int32} (h1 : x1 = (2 : Int32)) : pm_Rn C (85, 0, [some (vR 9 0 0), some (vI x1)], [], σ) = some (some (vI (σ.1 5 0 9 0)), σ) := by
  refine (e_n 1 (fr' := (85, 1, [some (vR 9 0 0), some (vI x1)], [vI x1], σ)) rfl).trans ?_
  refine (e_g (A := (85, 58, [some (vR 9 0 0), some (vI x1)], [], σ)) (off' := 57) rfl (by rw [h1]; decide) rfl).trans ?_
  refine (e_n 3 (fr' := (85, 65, [some (vR 9 0 0), some (vI x1)], [vI (σ.1 5 0 9 0)], σ)) rfl).trans ?_
  exact e_r rfl
set_option maxRecDepth 20000 in
theorem g85_0_3 (C : pmC) {σ : pmS} {x1 : Int32} (h1 : x1 = (3 : Int32)) : pm_Rn C (85, 0, [some (vR 9 0 0), some (vI x1)], [], σ) = some (some (vI (σ.1 8 0 3 0)), σ) := by
  refine (e_n 1 (fr' := (85, 1, [some (vR 9 0 0), some (vI x1)], [vI x1], σ)) rfl).trans ?_
  refine (e_g (A := (85, 66, [some (vR 9 0 0), some (vI x1)], [], σ)) (off' := 65) rfl (by rw [h1]; decide) rfl).trans ?_
  refine (e_n 3 (fr' := (85, 73, [some (vR 9 0 0), some (vI x1)], [vI (σ.1 8 0 3 0)], σ)) rfl).trans ?_
  exact e_r rfl
set_option maxRecDepth 20000 in
theorem g85_0_4 (C : pmC) {σ : pmS} {x1 : Int32} (h1 : x1 = (4 : Int32)) : pm_Rn C (85, 0, [some (vR 9 0 0), some (vI x1)], [], σ) = some (some (vI (σ.1 9 0 11 0)), σ) := by
  refine (e_n 1 (fr' := (85, 1, [some (vR 9 0 0), some (vI x1)], [vI x1], σ)) rfl).trans ?_
  refine (e_g (A := (85, 74, [some (vR 9 0 0), some (vI x1)], [], σ)) (off' := 73) rfl (by rw [h1]; decide) rfl).trans ?_
  refine (e_n 2 (fr' := (85, 78, [some (vR 9 0 0), some (vI x1)], [vI (σ.1 9 0 11 0)], σ)) rfl).trans ?_
  exact e_r rfl
set_option maxRecDepth 20000 in
theorem g85_0_5 (C : pmC) {σ : pmS} {x1 : Int32} (h1 : x1 = (5 : Int32)) : pm_Rn C (85, 0, [some (vR 9 0 0), some (vI x1)], [], σ) = some (some (vI (σ.1 6 0 1 0)), σ) := by
  refine (e_n 1 (fr' := (85, 1, [some (vR 9 0 0), some (vI x1)], [vI x1], σ)) rfl).trans ?_
  refine (e_g (A := (85, 79, [some (vR 9 0 0), some (vI x1)], [], σ)) (off' := 78) rfl (by rw [h1]; decide) rfl).trans ?_
  refine (e_n 3 (fr' := (85, 86, [some (vR 9 0 0), some (vI x1)], [vI (σ.1 6 0 1 0)], σ)) rfl).trans ?_
  exact e_r rfl
set_option maxRecDepth 20000 in
theorem g85_0_6 (C : pmC) {σ : pmS} {x1 : Int32} {σ1 : pmS} {r1 : Int32} (h1 : x1 = (6 : Int32)) (h2 : C 38 [vR 5 0 0] σ = some (some (vI r1), σ1)) : pm_Rn C (85, 0, [some (vR 9 0 0), some (vI x1)], [], σ) = some (some (vI r1), σ1) := by
  refine (e_n 1 (fr' := (85, 1, [some (vR 9 0 0), some (vI x1)], [vI x1], σ)) rfl).trans ?_
  refine (e_g (A := (85, 87, [some (vR 9 0 0), some (vI x1)], [], σ)) (off' := 86) rfl (by rw [h1]; decide) rfl).trans ?_
  refine (e_n 2 (fr' := (85, 91, [some (vR 9 0 0), some (vI x1)], [vR 5 0 0], σ)) rfl).trans ?_
  refine (e_ci (m := 85) (pc := 94) (ls := [some (vR 9 0 0), some (vI x1)]) (rest := []) rfl h2).trans ?_
  exact e_r rfl
set_option maxRecDepth 20000 in
theorem g85_0_7 (C : pmC) {σ : pmS} {x1 : Int32} {σ1 : pmS} {r1 : Int32} (h1 : x1 = (7 : Int32)) (h2 : C 39 [vR 5 0 0] σ = some (some (vI r1), σ1)) : pm_Rn C (85, 0, [some (vR 9 0 0), some (vI x1)], [], σ) = some (some (vI r1), σ1) := by
  refine (e_n 1 (fr' := (85, 1, [some (vR 9 0 0), some (vI x1)], [vI x1], σ)) rfl).trans ?_
  refine (e_g (A := (85, 95, [some (vR 9 0 0), some (vI x1)], [], σ)) (off' := 94) rfl (by rw [h1]; decide) rfl).trans ?_
  refine (e_n 2 (fr' := (85, 99, [some (vR 9 0 0), some (vI x1)], [vR 5 0 0], σ)) rfl).trans ?_
  refine (e_ci (m := 85) (pc := 102) (ls := [some (vR 9 0 0), some (vI x1)]) (rest := []) rfl h2).trans ?_
  exact e_r rfl
set_option maxRecDepth 20000 in
theorem g85_0_8 (C : pmC) {σ : pmS} {x1 : Int32} (h1 : ¬ x1 = (0 : Int32)) (h2 : ¬ x1 = (1 : Int32)) (h3 : ¬ x1 = (2 : Int32)) (h4 : ¬ x1 = (3 : Int32)) (h5 : ¬ x1 = (4 : Int32)) (h6 : ¬ x1 = (5 : Int32)) (h7 : ¬ x1 = (6 : Int32)) (h8 : ¬ x1 = (7 : Int32)) : pm_Rn C (85, 0, [some (vR 9 0 0), some (vI x1)], [], σ) = some (some (vI (-1 : Int32)), σ) := by
  refine (e_n 1 (fr' := (85, 1, [some (vR 9 0 0), some (vI x1)], [vI x1], σ)) rfl).trans ?_
  refine (e_g (A := (85, 103, [some (vR 9 0 0), some (vI x1)], [], σ)) (off' := 102) rfl ((pm_sw_ne h1).trans ((pm_sw_ne h2).trans ((pm_sw_ne h3).trans ((pm_sw_ne h4).trans ((pm_sw_ne h5).trans ((pm_sw_ne h6).trans ((pm_sw_ne h7).trans ((pm_sw_ne h8).trans (rfl))))))))) rfl).trans ?_
  refine (e_n 1 (fr' := (85, 104, [some (vR 9 0 0), some (vI x1)], [vI (-1 : Int32)], σ)) rfl).trans ?_
  exact e_r rfl
set_option maxRecDepth 20000 in
theorem g86_0_0 (C : pmC) {σ : pmS} {x1 : Int32} (h1 : x1 < 0) : pm_Rn C (86, 0, [some (vR 9 0 0), some (vI x1)], [], σ) = some (some (vI (0 : Int32)), σ) := by
  refine (e_n 1 (fr' := (86, 1, [some (vR 9 0 0), some (vI x1)], [vI x1], σ)) rfl).trans ?_
  refine (e_t (A := (86, 16, [some (vR 9 0 0), some (vI x1)], [], σ)) rfl h1).trans ?_
  refine (e_n 1 (fr' := (86, 17, [some (vR 9 0 0), some (vI x1)], [vI (0 : Int32)], σ)) rfl).trans ?_
  exact e_r rfl
set_option maxRecDepth 20000 in
theorem g86_0_1 (C : pmC) {σ : pmS} {x1 : Int32} (h1 : ¬ x1 < 0) (h2 : (σ.1 9 0 9 0) ≤ x1) : pm_Rn C (86, 0, [some (vR 9 0 0), some (vI x1)], [], σ) = some (some (vI (0 : Int32)), σ) := by
  refine (e_n 1 (fr' := (86, 1, [some (vR 9 0 0), some (vI x1)], [vI x1], σ)) rfl).trans ?_
  refine (e_f (B := (86, 4, [some (vR 9 0 0), some (vI x1)], [], σ)) rfl h1).trans ?_
  refine (e_n 3 (fr' := (86, 9, [some (vR 9 0 0), some (vI x1)], [vI (σ.1 9 0 9 0), vI x1], σ)) rfl).trans ?_
  refine (e_t (A := (86, 16, [some (vR 9 0 0), some (vI x1)], [], σ)) rfl h2).trans ?_
  refine (e_n 1 (fr' := (86, 17, [some (vR 9 0 0), some (vI x1)], [vI (0 : Int32)], σ)) rfl).trans ?_
  exact e_r rfl
set_option maxRecDepth 20000 in
theorem g86_0_2 (C : pmC) {σ : pmS} {x1 : Int32} (h1 : ¬ x1 < 0) (h2 : ¬ (σ.1 9 0 9 0) ≤ x1) : pm_Rn C (86, 0, [some (vR 9 0 0), some (vI x1)], [], σ) = some (some (vI (1 : Int32)), σ) := by
  refine (e_n 1 (fr' := (86, 1, [some (vR 9 0 0), some (vI x1)], [vI x1], σ)) rfl).trans ?_
  refine (e_f (B := (86, 4, [some (vR 9 0 0), some (vI x1)], [], σ)) rfl h1).trans ?_
  refine (e_n 3 (fr' := (86, 9, [some (vR 9 0 0), some (vI x1)], [vI (σ.1 9 0 9 0), vI x1], σ)) rfl).trans ?_
  refine (e_f (B := (86, 12, [some (vR 9 0 0), some (vI x1)], [], σ)) rfl h2).trans ?_
  refine (e_n 2 (fr' := (86, 17, [some (vR 9 0 0), some (vI x1)], [vI (1 : Int32)], σ)) rfl).trans ?_
  exact e_r rfl
set_option maxRecDepth 20000 in
theorem g87_0_0 (C : pmC) {σ : pmS} {x1 : Int32} {x2 : Int32} {σ1 : pmS} {r1 : Int32} (h1 : C 86 [vR 9 0 0, vI x1] σ = some (some (vI r1), σ1)) (h2 : r1 = 0) : pm_Rn C (87, 0, [some (vR 9 0 0), some (vI x1), some (vI x2)], [], σ) = some (some (vI (0 : Int32)), σ1) := by
  refine (e_n 2 (fr' := (87, 2, [some (vR 9 0 0), some (vI x1), some (vI x2)], [vI x1, vR 9 0 0], σ)) rfl).trans ?_
  refine (e_ci (m := 87) (pc := 5) (ls := [some (vR 9 0 0), some (vI x1), some (vI x2)]) (rest := []) rfl h1).trans ?_
  refine (e_t (A := (87, 25, [some (vR 9 0 0), some (vI x1), some (vI x2)], [], σ1)) rfl h2).trans ?_
  refine (e_n 1 (fr' := (87, 26, [some (vR 9 0 0), some (vI x1), some (vI x2)], [vI (0 : Int32)], σ1)) rfl).trans ?_
  exact e_r rfl
set_option maxRecDepth 20000 in
theorem g87_0_1 (C : pmC) {σ : pmS} {x1 : Int32} {x2 : Int32} {σ1 : pmS} {r1 : Int32} {σ2 : pmS} {r2 : Int32} (h1 : C 86 [vR 9 0 0, vI x1] σ = some (some (vI r1), σ1)) (h2 : ¬ r1 = 0) (h3 : vp_in x1 4) (h4 : C 9 [vR 2 (x1).toNatClampNeg 0, vI x2] σ1 = some (some (vI r2), σ2)) (h5 : r2 = 0) : pm_Rn C (87, 0, [some (vR 9 0 0), some (vI x1), some (vI x2)], [], σ) = some (some (vI (0 : Int32)), σ2) := by
  refine (e_n 2 (fr' := (87, 2, [some (vR 9 0 0), some (vI x1), some (vI x2)], [vI x1, vR 9 0 0], σ)) rfl).trans ?_
  refine (e_ci (m := 87) (pc := 5) (ls := [some (vR 9 0 0), some (vI x1), some (vI x2)]) (rest := []) rfl h1).trans ?_
  refine (e_f (B := (87, 8, [some (vR 9 0 0), some (vI x1), some (vI x2)], [], σ1)) rfl h2).trans ?_
  refine (e_n 3 (fr' := (87, 13, [some (vR 9 0 0), some (vI x1), some (vI x2)], [vI x1, vR 9 0 2], σ1)) rfl).trans ?_
  refine (e_a (A := (87, 14, [some (vR 9 0 0), some (vI x1), some (vI x2)], [vR 2 (x1).toNatClampNeg 0], σ1)) rfl h3).trans ?_
  refine (e_n 1 (fr' := (87, 15, [some (vR 9 0 0), some (vI x1), some (vI x2)], [vI x2, vR 2 (x1).toNatClampNeg 0], σ1)) rfl).trans ?_
  refine (e_ci (m := 87) (pc := 18) (ls := [some (vR 9 0 0), some (vI x1), some (vI x2)]) (rest := []) rfl h4).trans ?_
  refine (e_t (A := (87, 25, [some (vR 9 0 0), some (vI x1), some (vI x2)], [], σ2)) rfl h5).trans ?_
  refine (e_n 1 (fr' := (87, 26, [some (vR 9 0 0), some (vI x1), some (vI x2)], [vI (0 : Int32)], σ2)) rfl).trans ?_
  exact e_r rfl
set_option maxRecDepth 20000 in
theorem g87_0_2 (C : pmC) {σ : pmS} {x1 : Int32} {x2 : Int32} {σ1 : pmS} {r1 : Int32} {σ2 : pmS} {r2 : Int32} (h1 : C 86 [vR 9 0 0, vI x1] σ = some (some (vI r1), σ1)) (h2 : ¬ r1 = 0) (h3 : vp_in x1 4) (h4 : C 9 [vR 2 (x1).toNatClampNeg 0, vI x2] σ1 = some (some (vI r2), σ2)) (h5 : ¬ r2 = 0) : pm_Rn C (87, 0, [some (vR 9 0 0), some (vI x1), some (vI x2)], [], σ) = some (some (vI (1 : Int32)), σ2) := by
  refine (e_n 2 (fr' := (87, 2, [some (vR 9 0 0), some (vI x1), some (vI x2)], [vI x1, vR 9 0 0], σ)) rfl).trans ?_
  refine (e_ci (m := 87) (pc := 5) (ls := [some (vR 9 0 0), some (vI x1), some (vI x2)]) (rest := []) rfl h1).trans ?_
  refine (e_f (B := (87, 8, [some (vR 9 0 0), some (vI x1), some (vI x2)], [], σ1)) rfl h2).trans ?_
  refine (e_n 3 (fr' := (87, 13, [some (vR 9 0 0), some (vI x1), some (vI x2)], [vI x1, vR 9 0 2], σ1)) rfl).trans ?_
  refine (e_a (A := (87, 14, [some (vR 9 0 0), some (vI x1), some (vI x2)], [vR 2 (x1).toNatClampNeg 0], σ1)) rfl h3).trans ?_
  refine (e_n 1 (fr' := (87, 15, [some (vR 9 0 0), some (vI x1), some (vI x2)], [vI x2, vR 2 (x1).toNatClampNeg 0], σ1)) rfl).trans ?_
  refine (e_ci (m := 87) (pc := 18) (ls := [some (vR 9 0 0), some (vI x1), some (vI x2)]) (rest := []) rfl h4).trans ?_
  refine (e_f (B := (87, 21, [some (vR 9 0 0), some (vI x1), some (vI x2)], [], σ2)) rfl h5).trans ?_
  refine (e_n 2 (fr' := (87, 26, [some (vR 9 0 0), some (vI x1), some (vI x2)], [vI (1 : Int32)], σ2)) rfl).trans ?_
  exact e_r rfl
set_option maxRecDepth 20000 in
theorem g88_0_0 (C : pmC) {σ : pmS} {x1 : Int32} (h1 : x1 < 0) : pm_Rn C (88, 0, [some (vR 9 0 0), some (vI x1)], [], σ) = some (some (vI (0 : Int32)), σ) := by
  refine (e_n 1 (fr' := (88, 1, [some (vR 9 0 0), some (vI x1)], [vI x1], σ)) rfl).trans ?_
  refine (e_t (A := (88, 16, [some (vR 9 0 0), some (vI x1)], [], σ)) rfl h1).trans ?_
  refine (e_n 1 (fr' := (88, 17, [some (vR 9 0 0), some (vI x1)], [vI (0 : Int32)], σ)) rfl).trans ?_
  exact e_r rfl
set_option maxRecDepth 20000 in
theorem g88_0_1 (C : pmC) {σ : pmS} {x1 : Int32} (h1 : ¬ x1 < 0) (h2 : (σ.1 9 0 10 0) ≤ x1) : pm_Rn C (88, 0, [some (vR 9 0 0), some (vI x1)], [], σ) = some (some (vI (0 : Int32)), σ) := by
  refine (e_n 1 (fr' := (88, 1, [some (vR 9 0 0), some (vI x1)], [vI x1], σ)) rfl).trans ?_
  refine (e_f (B := (88, 4, [some (vR 9 0 0), some (vI x1)], [], σ)) rfl h1).trans ?_
  refine (e_n 3 (fr' := (88, 9, [some (vR 9 0 0), some (vI x1)], [vI (σ.1 9 0 10 0), vI x1], σ)) rfl).trans ?_
  refine (e_t (A := (88, 16, [some (vR 9 0 0), some (vI x1)], [], σ)) rfl h2).trans ?_
  refine (e_n 1 (fr' := (88, 17, [some (vR 9 0 0), some (vI x1)], [vI (0 : Int32)], σ)) rfl).trans ?_
  exact e_r rfl
set_option maxRecDepth 20000 in
theorem g88_0_2 (C : pmC) {σ : pmS} {x1 : Int32} (h1 : ¬ x1 < 0) (h2 : ¬ (σ.1 9 0 10 0) ≤ x1) : pm_Rn C (88, 0, [some (vR 9 0 0), some (vI x1)], [], σ) = some (some (vI (1 : Int32)), σ) := by
  refine (e_n 1 (fr' := (88, 1, [some (vR 9 0 0), some (vI x1)], [vI x1], σ)) rfl).trans ?_
  refine (e_f (B := (88, 4, [some (vR 9 0 0), some (vI x1)], [], σ)) rfl h1).trans ?_
  refine (e_n 3 (fr' := (88, 9, [some (vR 9 0 0), some (vI x1)], [vI (σ.1 9 0 10 0), vI x1], σ)) rfl).trans ?_
  refine (e_f (B := (88, 12, [some (vR 9 0 0), some (vI x1)], [], σ)) rfl h2).trans ?_
  refine (e_n 2 (fr' := (88, 17, [some (vR 9 0 0), some (vI x1)], [vI (1 : Int32)], σ)) rfl).trans ?_
  exact e_r rfl
set_option maxRecDepth 20000 in
theorem g89_0_0 (C : pmC) {σ : pmS} {x0 : Int32} (h1 : x0 = 0) : pm_Rn C (89, 0, [some (vI x0)], [], σ) = some (some (vI (1 : Int32)), σ) := by
  refine (e_n 1 (fr' := (89, 1, [some (vI x0)], [vI x0], σ)) rfl).trans ?_
  refine (e_t (A := (89, 9, [some (vI x0)], [], σ)) rfl h1).trans ?_
  refine (e_n 2 (fr' := (89, 14, [some (vI x0)], [vI (1 : Int32)], σ)) rfl).trans ?_
  exact e_r rfl
set_option maxRecDepth 20000 in
theorem g89_0_1 (C : pmC) {σ : pmS} {x0 : Int32} (h1 : ¬ x0 = 0) (h2 : x0 = (1 : Int32)) : pm_Rn C (89, 0, [some (vI x0)], [], σ) = some (some (vI (1 : Int32)), σ) := by
  refine (e_n 1 (fr' := (89, 1, [some (vI x0)], [vI x0], σ)) rfl).trans ?_
  refine (e_f (B := (89, 4, [some (vI x0)], [], σ)) rfl h1).trans ?_
  refine (e_n 2 (fr' := (89, 6, [some (vI x0)], [vI (1 : Int32), vI x0], σ)) rfl).trans ?_
  refine (e_t (A := (89, 9, [some (vI x0)], [], σ)) rfl h2).trans ?_
  refine (e_n 2 (fr' := (89, 14, [some (vI x0)], [vI (1 : Int32)], σ)) rfl).trans ?_
  exact e_r rfl
set_option maxRecDepth 20000 in
theorem g89_0_2 (C : pmC) {σ : pmS} {x0 : Int32} (h1 : ¬ x0 = 0) (h2 : ¬ x0 = (1 : Int32)) : pm_Rn C (89, 0, [some (vI x0)], [], σ) = some (some (vI (0 : Int32)), σ) := by
  refine (e_n 1 (fr' := (89, 1, [some (vI x0)], [vI x0], σ)) rfl).trans ?_
  refine (e_f (B := (89, 4, [some (vI x0)], [], σ)) rfl h1).trans ?_
  refine (e_n 2 (fr' := (89, 6, [some (vI x0)], [vI (1 : Int32), vI x0], σ)) rfl).trans ?_
  refine (e_f (B := (89, 13, [some (vI x0)], [], σ)) rfl h2).trans ?_
  refine (e_n 1 (fr' := (89, 14, [some (vI x0)], [vI (0 : Int32)], σ)) rfl).trans ?_
  exact e_r rfl
set_option maxRecDepth 20000 in
theorem g90_0_0 (C : pmC) {σ : pmS} {x0 : Int32} (h1 : x0 < 0) : pm_Rn C (90, 0, [some (vI x0)], [], σ) = some (some (vI (0 : Int32)), σ) := by
  refine (e_n 1 (fr' := (90, 1, [some (vI x0)], [vI x0], σ)) rfl).trans ?_
  refine (e_t (A := (90, 15, [some (vI x0)], [], σ)) rfl h1).trans ?_
  refine (e_n 1 (fr' := (90, 16, [some (vI x0)], [vI (0 : Int32)], σ)) rfl).trans ?_
  exact e_r rfl
set_option maxRecDepth 20000 in
theorem g90_0_1 (C : pmC) {σ : pmS} {x0 : Int32} (h1 : ¬ x0 < 0) (h2 : (999 : Int32) < x0) : pm_Rn C (90, 0, [some (vI x0)], [], σ) = some (some (vI (0 : Int32)), σ) := by
  refine (e_n 1 (fr' := (90, 1, [some (vI x0)], [vI x0], σ)) rfl).trans ?_
  refine (e_f (B := (90, 4, [some (vI x0)], [], σ)) rfl h1).trans ?_
  refine (e_n 2 (fr' := (90, 8, [some (vI x0)], [vI (999 : Int32), vI x0], σ)) rfl).trans ?_
  refine (e_t (A := (90, 15, [some (vI x0)], [], σ)) rfl h2).trans ?_
  refine (e_n 1 (fr' := (90, 16, [some (vI x0)], [vI (0 : Int32)], σ)) rfl).trans ?_
  exact e_r rfl
set_option maxRecDepth 20000 in
theorem g90_0_2 (C : pmC) {σ : pmS} {x0 : Int32} (h1 : ¬ x0 < 0) (h2 : ¬ (999 : Int32) < x0) : pm_Rn C (90, 0, [some (vI x0)], [], σ) = some (some (vI (1 : Int32)), σ) := by
  refine (e_n 1 (fr' := (90, 1, [some (vI x0)], [vI x0], σ)) rfl).trans ?_
  refine (e_f (B := (90, 4, [some (vI x0)], [], σ)) rfl h1).trans ?_
  refine (e_n 2 (fr' := (90, 8, [some (vI x0)], [vI (999 : Int32), vI x0], σ)) rfl).trans ?_
  refine (e_f (B := (90, 11, [some (vI x0)], [], σ)) rfl h2).trans ?_
  refine (e_n 2 (fr' := (90, 16, [some (vI x0)], [vI (1 : Int32)], σ)) rfl).trans ?_
  exact e_r rfl
set_option maxRecDepth 20000 in
theorem g91_0_0 (C : pmC) {σ : pmS} {x0 : Int32} {l1 : Option pmV} {l2 : Option pmV} (h1 : x0 ≤ 0) : pm_Rn C (91, 0, [some (vI x0), l1, l2], [], σ) = some (some (vI (0 : Int32)), σ) := by
  refine (e_n 1 (fr' := (91, 1, [some (vI x0), l1, l2], [vI x0], σ)) rfl).trans ?_
  refine (e_t (A := (91, 11, [some (vI x0), l1, l2], [], σ)) rfl h1).trans ?_
  refine (e_n 1 (fr' := (91, 12, [some (vI x0), l1, l2], [vI (0 : Int32)], σ)) rfl).trans ?_
  exact e_r rfl
set_option maxRecDepth 20000 in
theorem g91_0_1 (C : pmC) {σ : pmS} {x0 : Int32} {l1 : Option pmV} {l2 : Option pmV} (h1 : ¬ x0 ≤ 0) (h2 : x0 < (262144 : Int32)) : pm_Rn C (91, 0, [some (vI x0), l1, l2], [], σ) = pm_Rn C (91, 15, [some (vI x0), some (vI (0 : Int32)), l2], [], σ) := by
  refine (e_n 1 (fr' := (91, 1, [some (vI x0), l1, l2], [vI x0], σ)) rfl).trans ?_
  refine (e_f (B := (91, 4, [some (vI x0), l1, l2], [], σ)) rfl h1).trans ?_
  refine (e_n 2 (fr' := (91, 8, [some (vI x0), l1, l2], [vI (262144 : Int32), vI x0], σ)) rfl).trans ?_
  refine (e_t (A := (91, 13, [some (vI x0), l1, l2], [], σ)) rfl h2).trans ?_
  exact e_n 2 rfl
set_option maxRecDepth 20000 in
theorem g91_0_2 (C : pmC) {σ : pmS} {x0 : Int32} {l1 : Option pmV} {l2 : Option pmV} (h1 : ¬ x0 ≤ 0) (h2 : ¬ x0 < (262144 : Int32)) : pm_Rn C (91, 0, [some (vI x0), l1, l2], [], σ) = some (some (vI (0 : Int32)), σ) := by
  refine (e_n 1 (fr' := (91, 1, [some (vI x0), l1, l2], [vI x0], σ)) rfl).trans ?_
  refine (e_f (B := (91, 4, [some (vI x0), l1, l2], [], σ)) rfl h1).trans ?_
  refine (e_n 2 (fr' := (91, 8, [some (vI x0), l1, l2], [vI (262144 : Int32), vI x0], σ)) rfl).trans ?_
  refine (e_f (B := (91, 11, [some (vI x0), l1, l2], [], σ)) rfl h2).trans ?_
  refine (e_n 1 (fr' := (91, 12, [some (vI x0), l1, l2], [vI (0 : Int32)], σ)) rfl).trans ?_
  exact e_r rfl
set_option maxRecDepth 20000 in
theorem g91_15_0 (C : pmC) {σ : pmS} {x0 : Int32} {x1 : Int32} {l2 : Option pmV} (h1 : (18 : Int32) ≤ x1) : pm_Rn C (91, 15, [some (vI x0), some (vI x1), l2], [], σ) = some (some (vI (1 : Int32)), σ) := by
  refine (e_n 2 (fr' := (91, 18, [some (vI x0), some (vI x1), l2], [vI (18 : Int32), vI x1], σ)) rfl).trans ?_
  refine (e_t (A := (91, 52, [some (vI x0), some (vI x1), l2], [], σ)) rfl h1).trans ?_
  refine (e_n 1 (fr' := (91, 53, [some (vI x0), some (vI x1), l2], [vI (1 : Int32)], σ)) rfl).trans ?_
  exact e_r rfl
set_option maxRecDepth 20000 in
theorem g91_15_1 (C : pmC) {σ : pmS} {x0 : Int32} {x1 : Int32} {l2 : Option pmV} (h1 : ¬ (18 : Int32) ≤ x1) (h2 : (x0 >>> (x1 &&& 31)) = 0) : pm_Rn C (91, 15, [some (vI x0), some (vI x1), l2], [], σ) = some (some (vI (1 : Int32)), σ) := by
  refine (e_n 2 (fr' := (91, 18, [some (vI x0), some (vI x1), l2], [vI (18 : Int32), vI x1], σ)) rfl).trans ?_
  refine (e_f (B := (91, 21, [some (vI x0), some (vI x1), l2], [], σ)) rfl h1).trans ?_
  refine (e_n 3 (fr' := (91, 24, [some (vI x0), some (vI x1), l2], [vI (x0 >>> (x1 &&& 31))], σ)) rfl).trans ?_
  refine (e_t (A := (91, 52, [some (vI x0), some (vI x1), l2], [], σ)) rfl h2).trans ?_
  refine (e_n 1 (fr' := (91, 53, [some (vI x0), some (vI x1), l2], [vI (1 : Int32)], σ)) rfl).trans ?_
  exact e_r rfl
set_option maxRecDepth 20000 in
theorem g91_15_2 (C : pmC) {σ : pmS} {x0 : Int32} {x1 : Int32} {l2 : Option pmV} (h1 : ¬ (18 : Int32) ≤ x1) (h2 : ¬ (x0 >>> (x1 &&& 31)) = 0) (h3 : ((x0 >>> (x1 &&& 31)) &&& (7 : Int32)) < (1 : Int32)) : pm_Rn C (91, 15, [some (vI x0), some (vI x1), l2], [], σ) = some (some (vI (0 : Int32)), σ) := by
  refine (e_n 2 (fr' := (91, 18, [some (vI x0), some (vI x1), l2], [vI (18 : Int32), vI x1], σ)) rfl).trans ?_
  refine (e_f (B := (91, 21, [some (vI x0), some (vI x1), l2], [], σ)) rfl h1).trans ?_
  refine (e_n 3 (fr' := (91, 24, [some (vI x0), some (vI x1), l2], [vI (x0 >>> (x1 &&& 31))], σ)) rfl).trans ?_
  refine (e_f (B := (91, 27, [some (vI x0), some (vI x1), l2], [], σ)) rfl h2).trans ?_
  refine (e_n 8 (fr' := (91, 36, [some (vI x0), some (vI x1), some (vI ((x0 >>> (x1 &&& 31)) &&& (7 : Int32)))], [vI (1 : Int32), vI ((x0 >>> (x1 &&& 31)) &&& (7 : Int32))], σ)) rfl).trans ?_
  refine (e_t (A := (91, 44, [some (vI x0), some (vI x1), some (vI ((x0 >>> (x1 &&& 31)) &&& (7 : Int32)))], [], σ)) rfl h3).trans ?_
  refine (e_n 1 (fr' := (91, 45, [some (vI x0), some (vI x1), some (vI ((x0 >>> (x1 &&& 31)) &&& (7 : Int32)))], [vI (0 : Int32)], σ)) rfl).trans ?_
  exact e_r rfl
set_option maxRecDepth 20000 in
theorem g91_15_3 (C : pmC) {σ : pmS} {x0 : Int32} {x1 : Int32} {l2 : Option pmV} (h1 : ¬ (18 : Int32) ≤ x1) (h2 : ¬ (x0 >>> (x1 &&& 31)) = 0) (h3 : ¬ ((x0 >>> (x1 &&& 31)) &&& (7 : Int32)) < (1 : Int32)) (h4 : ((x0 >>> (x1 &&& 31)) &&& (7 : Int32)) ≤ (5 : Int32)) : pm_Rn C (91, 15, [some (vI x0), some (vI x1), l2], [], σ) = pm_Rn C (91, 15, [some (vI x0), some (vI (x1 + (3 : Int32))), some (vI ((x0 >>> (x1 &&& 31)) &&& (7 : Int32)))], [], σ) := by
  refine (e_n 2 (fr' := (91, 18, [some (vI x0), some (vI x1), l2], [vI (18 : Int32), vI x1], σ)) rfl).trans ?_
  refine (e_f (B := (91, 21, [some (vI x0), some (vI x1), l2], [], σ)) rfl h1).trans ?_
  refine (e_n 3 (fr' := (91, 24, [some (vI x0), some (vI x1), l2], [vI (x0 >>> (x1 &&& 31))], σ)) rfl).trans ?_
  refine (e_f (B := (91, 27, [some (vI x0), some (vI x1), l2], [], σ)) rfl h2).trans ?_
  refine (e_n 8 (fr' := (91, 36, [some (vI x0), some (vI x1), some (vI ((x0 >>> (x1 &&& 31)) &&& (7 : Int32)))], [vI (1 : Int32), vI ((x0 >>> (x1 &&& 31)) &&& (7 : Int32))], σ)) rfl).trans ?_
  refine (e_f (B := (91, 39, [some (vI x0), some (vI x1), some (vI ((x0 >>> (x1 &&& 31)) &&& (7 : Int32)))], [], σ)) rfl h3).trans ?_
  refine (e_n 2 (fr' := (91, 41, [some (vI x0), some (vI x1), some (vI ((x0 >>> (x1 &&& 31)) &&& (7 : Int32)))], [vI (5 : Int32), vI ((x0 >>> (x1 &&& 31)) &&& (7 : Int32))], σ)) rfl).trans ?_
  refine (e_t (A := (91, 46, [some (vI x0), some (vI x1), some (vI ((x0 >>> (x1 &&& 31)) &&& (7 : Int32)))], [], σ)) rfl h4).trans ?_
  exact e_n 2 rfl
set_option maxRecDepth 20000 in
theorem g91_15_4 (C : pmC) {σ : pmS} {x0 : Int32} {x1 : Int32} {l2 : Option pmV} (h1 : ¬ (18 : Int32) ≤ x1) (h2 : ¬ (x0 >>> (x1 &&& 31)) = 0) (h3 : ¬ ((x0 >>> (x1 &&& 31)) &&& (7 : Int32)) < (1 : Int32)) (h4 : ¬ ((x0 >>> (x1 &&& 31)) &&& (7 : Int32)) ≤ (5 : Int32)) : pm_Rn C (91, 15, [some (vI x0), some (vI x1), l2], [], σ) = some (some (vI (0 : Int32)), σ) := by
  refine (e_n 2 (fr' := (91, 18, [some (vI x0), some (vI x1), l2], [vI (18 : Int32), vI x1], σ)) rfl).trans ?_
  refine (e_f (B := (91, 21, [some (vI x0), some (vI x1), l2], [], σ)) rfl h1).trans ?_
  refine (e_n 3 (fr' := (91, 24, [some (vI x0), some (vI x1), l2], [vI (x0 >>> (x1 &&& 31))], σ)) rfl).trans ?_
  refine (e_f (B := (91, 27, [some (vI x0), some (vI x1), l2], [], σ)) rfl h2).trans ?_
  refine (e_n 8 (fr' := (91, 36, [some (vI x0), some (vI x1), some (vI ((x0 >>> (x1 &&& 31)) &&& (7 : Int32)))], [vI (1 : Int32), vI ((x0 >>> (x1 &&& 31)) &&& (7 : Int32))], σ)) rfl).trans ?_
  refine (e_f (B := (91, 39, [some (vI x0), some (vI x1), some (vI ((x0 >>> (x1 &&& 31)) &&& (7 : Int32)))], [], σ)) rfl h3).trans ?_
  refine (e_n 2 (fr' := (91, 41, [some (vI x0), some (vI x1), some (vI ((x0 >>> (x1 &&& 31)) &&& (7 : Int32)))], [vI (5 : Int32), vI ((x0 >>> (x1 &&& 31)) &&& (7 : Int32))], σ)) rfl).trans ?_
  refine (e_f (B := (91, 44, [some (vI x0), some (vI x1), some (vI ((x0 >>> (x1 &&& 31)) &&& (7 : Int32)))], [], σ)) rfl h4).trans ?_
  refine (e_n 1 (fr' := (91, 45, [some (vI x0), some (vI x1), some (vI ((x0 >>> (x1 &&& 31)) &&& (7 : Int32)))], [vI (0 : Int32)], σ)) rfl).trans ?_
  exact e_r rfl
set_option maxRecDepth 20000 in
theorem g92_0_0 (C : pmC) {σ : pmS} {x1 : Int32} {x2 : Int32} {σ1 : pmS} {r1 : Int32} (h1 : vp_in x1 3) (h2 : C 2 [vR 0 (x1).toNatClampNeg 0, vI x2] σ = some (some (vI r1), σ1)) (h3 : vp_in r1 5) : pm_Rn C (92, 0, [some (vR 9 0 0), some (vI x1), some (vI x2)], [], σ) = some (some (vI (σ1.1 0 (x1).toNatClampNeg 1 (r1).toNatClampNeg)), σ1) := by
  refine (e_n 3 (fr' := (92, 5, [some (vR 9 0 0), some (vI x1), some (vI x2)], [vI x1, vR 9 0 3], σ)) rfl).trans ?_
  refine (e_a (A := (92, 6, [some (vR 9 0 0), some (vI x1), some (vI x2)], [vR 0 (x1).toNatClampNeg 0], σ)) rfl h1).trans ?_
  refine (e_n 4 (fr' := (92, 14, [some (vR 9 0 0), some (vI x1), some (vI x2)], [vI x1, vR 9 0 3, vR 0 (x1).toNatClampNeg 2], σ)) rfl).trans ?_
  refine (e_a (A := (92, 15, [some (vR 9 0 0), some (vI x1), some (vI x2)], [vR 0 (x1).toNatClampNeg 0, vR 0 (x1).toNatClampNeg 2], σ)) rfl h1).trans ?_
  refine (e_n 1 (fr' := (92, 16, [some (vR 9 0 0), some (vI x1), some (vI x2)], [vI x2, vR 0 (x1).toNatClampNeg 0, vR 0 (x1).toNatClampNeg 2], σ)) rfl).trans ?_
  refine (e_ci (m := 92) (pc := 19) (ls := [some (vR 9 0 0), some (vI x1), some (vI x2)]) (rest := [vR 0 (x1).toNatClampNeg 2]) rfl h2).trans ?_
  refine (e_a (A := (92, 20, [some (vR 9 0 0), some (vI x1), some (vI x2)], [vI (σ1.1 0 (x1).toNatClampNeg 1 (r1).toNatClampNeg)], σ1)) rfl h3).trans ?_
  exact e_r rfl
set_option maxRecDepth 20000 in
theorem g93_0_0 (C : pmC) {σ : pmS} {x1 : Int32} {σ1 : pmS} {r1 : Int32} (h1 : vp_in x1 48) (h2 : C 92 [vR 9 0 0, vI (σ.1 5 0 3 (x1).toNatClampNeg), vI (σ.1 5 0 1 (x1).toNatClampNeg)] σ = some (some (vI r1), σ1)) (h3 : vp_in r1 4) : pm_Rn C (93, 0, [some (vR 9 0 0), some (vI x1)], [], σ) = some (some (vR 2 (r1).toNatClampNeg 0), σ1) := by
  refine (e_n 7 (fr' := (93, 13, [some (vR 9 0 0), some (vI x1)], [vI x1, vR 5 0 4, vR 9 0 0, vR 9 0 2], σ)) rfl).trans ?_
  refine (e_a (A := (93, 14, [some (vR 9 0 0), some (vI x1)], [vI (σ.1 5 0 3 (x1).toNatClampNeg), vR 9 0 0, vR 9 0 2], σ)) rfl h1).trans ?_
  refine (e_n 4 (fr' := (93, 22, [some (vR 9 0 0), some (vI x1)], [vI x1, vR 5 0 2, vI (σ.1 5 0 3 (x1).toNatClampNeg), vR 9 0 0, vR 9 0 2], σ)) rfl).trans ?_
  refine (e_a (A := (93, 23, [some (vR 9 0 0), some (vI x1)], [vI (σ.1 5 0 1 (x1).toNatClampNeg), vI (σ.1 5 0 3 (x1).toNatClampNeg), vR 9 0 0, vR 9 0 2], σ)) rfl h1).trans ?_
  refine (e_ci (m := 93) (pc := 26) (ls := [some (vR 9 0 0), some (vI x1)]) (rest := [vR 9 0 2]) rfl h2).trans ?_
  refine (e_a (A := (93, 27, [some (vR 9 0 0), some (vI x1)], [vR 2 (r1).toNatClampNeg 0], σ1)) rfl h3).trans ?_
  exact e_r rfl
set_option maxRecDepth 20000 in
theorem g94_0_0 (C : pmC) {σ : pmS} {x1 : Int32} {l2 : Option pmV} {σ1 : pmS} {r1 : Int32} (h1 : vp_in x1 48) (h2 : vp_in (σ.1 5 0 3 (x1).toNatClampNeg) 3) (h3 : C 2 [vR 0 ((σ.1 5 0 3 (x1).toNatClampNeg)).toNatClampNeg 0, vI (σ.1 5 0 1 (x1).toNatClampNeg)] σ = some (some (vI r1), σ1)) (h4 : vp_in r1 5) (h5 : (σ1.1 0 ((σ.1 5 0 3 (x1).toNatClampNeg)).toNatClampNeg 2 (r1).toNatClampNeg) = 0) : pm_Rn C (94, 0, [some (vR 9 0 0), some (vI x1), l2], [], σ) = some (some (vI (1 : Int32)), σ1) := by
  refine (e_n 6 (fr' := (94, 12, [some (vR 9 0 0), some (vI x1), l2], [vI x1, vR 5 0 4, vR 9 0 3], σ)) rfl).trans ?_
  refine (e_a (A := (94, 13, [some (vR 9 0 0), some (vI x1), l2], [vI (σ.1 5 0 3 (x1).toNatClampNeg), vR 9 0 3], σ)) rfl h1).trans ?_
  refine (e_a (A := (94, 14, [some (vR 9 0 0), some (vI x1), l2], [vR 0 ((σ.1 5 0 3 (x1).toNatClampNeg)).toNatClampNeg 0], σ)) rfl h2).trans ?_
  refine (e_n 8 (fr' := (94, 28, [some (vR 9 0 0), some (vI x1), some (vR 0 ((σ.1 5 0 3 (x1).toNatClampNeg)).toNatClampNeg 0)], [vI x1, vR 5 0 2, vR 0 ((σ.1 5 0 3 (x1).toNatClampNeg)).toNatClampNeg 0, vR 0 ((σ.1 5 0 3 (x1).toNatClampNeg)).toNatClampNeg 3], σ)) rfl).trans ?_
  refine (e_a (A := (94, 29, [some (vR 9 0 0), some (vI x1), some (vR 0 ((σ.1 5 0 3 (x1).toNatClampNeg)).toNatClampNeg 0)], [vI (σ.1 5 0 1 (x1).toNatClampNeg), vR 0 ((σ.1 5 0 3 (x1).toNatClampNeg)).toNatClampNeg 0, vR 0 ((σ.1 5 0 3 (x1).toNatClampNeg)).toNatClampNeg 3], σ)) rfl h1).trans ?_
  refine (e_ci (m := 94) (pc := 32) (ls := [some (vR 9 0 0), some (vI x1), some (vR 0 ((σ.1 5 0 3 (x1).toNatClampNeg)).toNatClampNeg 0)]) (rest := [vR 0 ((σ.1 5 0 3 (x1).toNatClampNeg)).toNatClampNeg 3]) rfl h3).trans ?_
  refine (e_a (A := (94, 33, [some (vR 9 0 0), some (vI x1), some (vR 0 ((σ.1 5 0 3 (x1).toNatClampNeg)).toNatClampNeg 0)], [vI (σ1.1 0 ((σ.1 5 0 3 (x1).toNatClampNeg)).toNatClampNeg 2 (r1).toNatClampNeg)], σ1)) rfl h4).trans ?_
  refine (e_t (A := (94, 36, [some (vR 9 0 0), some (vI x1), some (vR 0 ((σ.1 5 0 3 (x1).toNatClampNeg)).toNatClampNeg 0)], [], σ1)) rfl h5).trans ?_
  refine (e_n 2 (fr' := (94, 41, [some (vR 9 0 0), some (vI x1), some (vR 0 ((σ.1 5 0 3 (x1).toNatClampNeg)).toNatClampNeg 0)], [vI (1 : Int32)], σ1)) rfl).trans ?_
  exact e_r rfl
set_option maxRecDepth 20000 in
theorem g94_0_1 (C : pmC) {σ : pmS} {x1 : Int32} {l2 : Option pmV} {σ1 : pmS} {r1 : Int32} (h1 : vp_in x1 48) (h2 : vp_in (σ.1 5 0 3 (x1).toNatClampNeg) 3) (h3 : C 2 [vR 0 ((σ.1 5 0 3 (x1).toNatClampNeg)).toNatClampNeg 0, vI (σ.1 5 0 1 (x1).toNatClampNeg)] σ = some (some (vI r1), σ1)) (h4 : vp_in r1 5) (h5 : ¬ (σ1.1 0 ((σ.1 5 0 3 (x1).toNatClampNeg)).toNatClampNeg 2 (r1).toNatClampNeg) = 0) : pm_Rn C (94, 0, [some (vR 9 0 0), some (vI x1), l2], [], σ) = some (some (vI (0 : Int32)), σ1) := by
  refine (e_n 6 (fr' := (94, 12, [some (vR 9 0 0), some (vI x1), l2], [vI x1, vR 5 0 4, vR 9 0 3], σ)) rfl).trans ?_
  refine (e_a (A := (94, 13, [some (vR 9 0 0), some (vI x1), l2], [vI (σ.1 5 0 3 (x1).toNatClampNeg), vR 9 0 3], σ)) rfl h1).trans ?_
  refine (e_a (A := (94, 14, [some (vR 9 0 0), some (vI x1), l2], [vR 0 ((σ.1 5 0 3 (x1).toNatClampNeg)).toNatClampNeg 0], σ)) rfl h2).trans ?_
  refine (e_n 8 (fr' := (94, 28, [some (vR 9 0 0), some (vI x1), some (vR 0 ((σ.1 5 0 3 (x1).toNatClampNeg)).toNatClampNeg 0)], [vI x1, vR 5 0 2, vR 0 ((σ.1 5 0 3 (x1).toNatClampNeg)).toNatClampNeg 0, vR 0 ((σ.1 5 0 3 (x1).toNatClampNeg)).toNatClampNeg 3], σ)) rfl).trans ?_
  refine (e_a (A := (94, 29, [some (vR 9 0 0), some (vI x1), some (vR 0 ((σ.1 5 0 3 (x1).toNatClampNeg)).toNatClampNeg 0)], [vI (σ.1 5 0 1 (x1).toNatClampNeg), vR 0 ((σ.1 5 0 3 (x1).toNatClampNeg)).toNatClampNeg 0, vR 0 ((σ.1 5 0 3 (x1).toNatClampNeg)).toNatClampNeg 3], σ)) rfl h1).trans ?_
  refine (e_ci (m := 94) (pc := 32) (ls := [some (vR 9 0 0), some (vI x1), some (vR 0 ((σ.1 5 0 3 (x1).toNatClampNeg)).toNatClampNeg 0)]) (rest := [vR 0 ((σ.1 5 0 3 (x1).toNatClampNeg)).toNatClampNeg 3]) rfl h3).trans ?_
  refine (e_a (A := (94, 33, [some (vR 9 0 0), some (vI x1), some (vR 0 ((σ.1 5 0 3 (x1).toNatClampNeg)).toNatClampNeg 0)], [vI (σ1.1 0 ((σ.1 5 0 3 (x1).toNatClampNeg)).toNatClampNeg 2 (r1).toNatClampNeg)], σ1)) rfl h4).trans ?_
  refine (e_f (B := (94, 40, [some (vR 9 0 0), some (vI x1), some (vR 0 ((σ.1 5 0 3 (x1).toNatClampNeg)).toNatClampNeg 0)], [], σ1)) rfl h5).trans ?_
  refine (e_n 1 (fr' := (94, 41, [some (vR 9 0 0), some (vI x1), some (vR 0 ((σ.1 5 0 3 (x1).toNatClampNeg)).toNatClampNeg 0)], [vI (0 : Int32)], σ1)) rfl).trans ?_
  exact e_r rfl
set_option maxRecDepth 20000 in
theorem g95_0_0 (C : pmC) {σ : pmS} {x1 : Int32} {l2 : Option pmV} {l3 : Option pmV} {l4 : Option pmV} {l5 : Option pmV} {σ1 : pmS} {r1 : Int32} {σ2 : pmS} {q2 : Nat} {σ3 : pmS} {r3 : Int32} {σ4 : pmS} {r4 : Int32} {σ5 : pmS} {r5 : Int32} (h1 : C 33 [vR 5 0 0, vI x1] σ = some (some (vI r1), σ1)) (h2 : r1 = 0) (h3 : C 93 [vR 9 0 0, vI x1] σ1 = some (some (vR 2 q2 0), σ2)) (h4 : vp_in x1 48) (h5 : vp_in (σ2.1 5 0 4 (x1).toNatClampNeg) 48) (h6 : C 10 [vR 2 q2 0, vI (σ2.1 5 0 7 ((σ2.1 5 0 4 (x1).toNatClampNeg)).toNatClampNeg), vI (1 : Int32)] σ2 = some (some (vI r3), σ3)) (h7 : vp_in (σ3.1 5 0 5 (x1).toNatClampNeg) 48) (h8 : C 10 [vR 2 q2 0, vI (σ3.1 5 0 7 ((σ3.1 5 0 5 (x1).toNatClampNeg)).toNatClampNeg), vI (0 : Int32)] σ3 = some (some (vI r4), σ4)) (h9 : C 94 [vR 9 0 0, vI x1] σ4 = some (some (vI r5), σ5)) (h10 : r5 = 0) (h11 : r5 = 0) : pm_Rn C (95, 0, [some (vR 9 0 0), some (vI x1), l2, l3, l4, l5], [], σ) = some (none, (pm_wi (pm_wi σ5 5 0 7 (x1).toNatClampNeg r4) 5 0 8 (x1).toNatClampNeg r3)) := by
  refine (e_n 3 (fr' := (95, 5, [some (vR 9 0 0), some (vI x1), l2, l3, l4, l5], [vI x1, vR 5 0 0], σ)) rfl).trans ?_
  refine (e_ci (m := 95) (pc := 8) (ls := [some (vR 9 0 0), some (vI x1), l2, l3, l4, l5]) (rest := []) rfl h1).trans ?_
  refine (e_t (A := (95, 40, [some (vR 9 0 0), some (vI x1), l2, l3, l4, l5], [], σ1)) rfl h2).trans ?_
  refine (e_n 2 (fr' := (95, 42, [some (vR 9 0 0), some (vI x1), l2, l3, l4, l5], [vI x1, vR 9 0 0], σ1)) rfl).trans ?_
  refine (e_cr (m := 95) (pc := 45) (ls := [some (vR 9 0 0), some (vI x1), l2, l3, l4, l5]) (rest := []) rfl h3).trans ?_
  refine (e_n 9 (fr' := (95, 62, [some (vR 9 0 0), some (vI x1), some (vR 2 q2 0), l3, l4, l5], [vI x1, vR 5 0 5, vR 5 0 8, vR 2 q2 0], σ2)) rfl).trans ?_
  refine (e_a (A := (95, 63, [some (vR 9 0 0), some (vI x1), some (vR 2 q2 0), l3, l4, l5], [vI (σ2.1 5 0 4 (x1).toNatClampNeg), vR 5 0 8, vR 2 q2 0], σ2)) rfl h4).trans ?_
  refine (e_a (A := (95, 64, [some (vR 9 0 0), some (vI x1), some (vR 2 q2 0), l3, l4, l5], [vI (σ2.1 5 0 7 ((σ2.1 5 0 4 (x1).toNatClampNeg)).toNatClampNeg), vR 2 q2 0], σ2)) rfl h5).trans ?_
  refine (e_n 1 (fr' := (95, 65, [some (vR 9 0 0), some (vI x1), some (vR 2 q2 0), l3, l4, l5], [vI (1 : Int32), vI (σ2.1 5 0 7 ((σ2.1 5 0 4 (x1).toNatClampNeg)).toNatClampNeg), vR 2 q2 0], σ2)) rfl).trans ?_
  refine (e_ci (m := 95) (pc := 68) (ls := [some (vR 9 0 0), some (vI x1), some (vR 2 q2 0), l3, l4, l5]) (rest := []) rfl h6).trans ?_
  refine (e_n 9 (fr' := (95, 85, [some (vR 9 0 0), some (vI x1), some (vR 2 q2 0), some (vI r3), l4, l5], [vI x1, vR 5 0 6, vR 5 0 8, vR 2 q2 0], σ3)) rfl).trans ?_
  refine (e_a (A := (95, 86, [some (vR 9 0 0), some (vI x1), some (vR 2 q2 0), some (vI r3), l4, l5], [vI (σ3.1 5 0 5 (x1).toNatClampNeg), vR 5 0 8, vR 2 q2 0], σ3)) rfl h4).trans ?_
  refine (e_a (A := (95, 87, [some (vR 9 0 0), some (vI x1), some (vR 2 q2 0), some (vI r3), l4, l5], [vI (σ3.1 5 0 7 ((σ3.1 5 0 5 (x1).toNatClampNeg)).toNatClampNeg), vR 2 q2 0], σ3)) rfl h7).trans ?_
  refine (e_n 1 (fr' := (95, 88, [some (vR 9 0 0), some (vI x1), some (vR 2 q2 0), some (vI r3), l4, l5], [vI (0 : Int32), vI (σ3.1 5 0 7 ((σ3.1 5 0 5 (x1).toNatClampNeg)).toNatClampNeg), vR 2 q2 0], σ3)) rfl).trans ?_
  refine (e_ci (m := 95) (pc := 91) (ls := [some (vR 9 0 0), some (vI x1), some (vR 2 q2 0), some (vI r3), l4, l5]) (rest := []) rfl h8).trans ?_
  refine (e_n 3 (fr' := (95, 95, [some (vR 9 0 0), some (vI x1), some (vR 2 q2 0), some (vI r3), some (vI r4), l5], [vI x1, vR 9 0 0], σ4)) rfl).trans ?_
  refine (e_ci (m := 95) (pc := 98) (ls := [some (vR 9 0 0), some (vI x1), some (vR 2 q2 0), some (vI r3), some (vI r4), l5]) (rest := []) rfl h9).trans ?_
  refine (e_n 6 (fr' := (95, 110, [some (vR 9 0 0), some (vI x1), some (vR 2 q2 0), some (vI r3), some (vI r4), some (vI r5)], [vI r5, vI x1, vR 5 0 8], σ5)) rfl).trans ?_
  refine (e_t (A := (95, 117, [some (vR 9 0 0), some (vI x1), some (vR 2 q2 0), some (vI r3), some (vI r4), some (vI r5)], [vI x1, vR 5 0 8], σ5)) rfl h10).trans ?_
  refine (e_n 1 (fr' := (95, 119, [some (vR 9 0 0), some (vI x1), some (vR 2 q2 0), some (vI r3), some (vI r4), some (vI r5)], [vI r4, vI x1, vR 5 0 8], σ5)) rfl).trans ?_
  refine (e_a (A := (95, 120, [some (vR 9 0 0), some (vI x1), some (vR 2 q2 0), some (vI r3), some (vI r4), some (vI r5)], [], (pm_wi σ5 5 0 7 (x1).toNatClampNeg r4))) rfl h4).trans ?_
  refine (e_n 5 (fr' := (95, 130, [some (vR 9 0 0), some (vI x1), some (vR 2 q2 0), some (vI r3), some (vI r4), some (vI r5)], [vI r5, vI x1, vR 5 0 9], (pm_wi σ5 5 0 7 (x1).toNatClampNeg r4))) rfl).trans ?_
  refine (e_t (A := (95, 138, [some (vR 9 0 0), some (vI x1), some (vR 2 q2 0), some (vI r3), some (vI r4), some (vI r5)], [vI x1, vR 5 0 9], (pm_wi σ5 5 0 7 (x1).toNatClampNeg r4))) rfl h11).trans ?_
  refine (e_n 1 (fr' := (95, 139, [some (vR 9 0 0), some (vI x1), some (vR 2 q2 0), some (vI r3), some (vI r4), some (vI r5)], [vI r3, vI x1, vR 5 0 9], (pm_wi σ5 5 0 7 (x1).toNatClampNeg r4))) rfl).trans ?_
  refine (e_a (A := (95, 140, [some (vR 9 0 0), some (vI x1), some (vR 2 q2 0), some (vI r3), some (vI r4), some (vI r5)], [], (pm_wi (pm_wi σ5 5 0 7 (x1).toNatClampNeg r4) 5 0 8 (x1).toNatClampNeg r3))) rfl h4).trans ?_
  exact e_r rfl
