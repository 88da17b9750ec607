/-! segment rules, by program -/
set_option maxRecDepth 20000 in
theorem g68_0_8 (C : pmC) {σ : pmS} {x1 : Int32} {x2 : Int32} {x3 : Int32} {x4 : Int32} {l5 : Option pmV} {σ1 : pmS} {r1 : Int32} {σ2 : pmS} {r2 : Int32} {σ3 : pmS} {r3 : Int32} {σ4 : pmS} {r4 : Int32} (h1 : C 89 [vI x1] σ = some (some (vI r1), σ1)) (h2 : ¬ r1 = 0) (h3 : C 32 [vR 5 0 0, vI x3] σ1 = some (some (vI r2), σ2)) (h4 : ¬ r2 = 0) (h5 : C 32 [vR 5 0 0, vI x4] σ2 = some (some (vI r3), σ3)) (h6 : ¬ r3 = 0) (h7 : C 90 [vI x2] σ3 = some (some (vI r4), σ4)) (h8 : ¬ r4 = 0) (h9 : vp_in x3 48) (h10 : ¬ (σ4.1 5 0 0 (x3).toNatClampNeg) = (1 : Int32)) : pq_Rn C (68, 0, [some (vR 9 0 0), some (vI x1), some (vI x2), some (vI x3), some (vI x4), l5], [], σ) = some (some (vI (-2 : Int32)), σ4) := by
  refine (e_n 1 (fr' := (68, 1, [some (vR 9 0 0), some (vI x1), some (vI x2), some (vI x3), some (vI x4), l5], [vI x1], σ)) rfl).trans ?_
  refine (e_ci (m := 68) (pc := 4) (ls := [some (vR 9 0 0), some (vI x1), some (vI x2), some (vI x3), some (vI x4), l5]) (rest := []) rfl h1).trans ?_
  refine (e_f (B := (68, 7, [some (vR 9 0 0), some (vI x1), some (vI x2), some (vI x3), some (vI x4), l5], [], σ1)) rfl h2).trans ?_
  refine (e_n 3 (fr' := (68, 12, [some (vR 9 0 0), some (vI x1), some (vI x2), some (vI x3), some (vI x4), l5], [vI x3, vR 5 0 0], σ1)) rfl).trans ?_
  refine (e_ci (m := 68) (pc := 15) (ls := [some (vR 9 0 0), some (vI x1), some (vI x2), some (vI x3), some (vI x4), l5]) (rest := []) rfl h3).trans ?_
  refine (e_f (B := (68, 18, [some (vR 9 0 0), some (vI x1), some (vI x2), some (vI x3), some (vI x4), l5], [], σ2)) rfl h4).trans ?_
  refine (e_n 3 (fr' := (68, 24, [some (vR 9 0 0), some (vI x1), some (vI x2), some (vI x3), some (vI x4), l5], [vI x4, vR 5 0 0], σ2)) rfl).trans ?_
  refine (e_ci (m := 68) (pc := 27) (ls := [some (vR 9 0 0), some (vI x1), some (vI x2), some (vI x3), some (vI x4), l5]) (rest := []) rfl h5).trans ?_
  refine (e_f (B := (68, 32, [some (vR 9 0 0), some (vI x1), some (vI x2), some (vI x3), some (vI x4), l5], [], σ3)) rfl h6).trans ?_
  refine (e_n 1 (fr' := (68, 33, [some (vR 9 0 0), some (vI x1), some (vI x2), some (vI x3), some (vI x4), l5], [vI x2], σ3)) rfl).trans ?_
  refine (e_ci (m := 68) (pc := 36) (ls := [some (vR 9 0 0), some (vI x1), some (vI x2), some (vI x3), some (vI x4), l5]) (rest := []) rfl h7).trans ?_
  refine (e_f (B := (68, 39, [some (vR 9 0 0), some (vI x1), some (vI x2), some (vI x3), some (vI x4), l5], [], σ4)) rfl h8).trans ?_
  refine (e_n 4 (fr' := (68, 47, [some (vR 9 0 0), some (vI x1), some (vI x2), some (vI x3), some (vI x4), l5], [vI x3, vR 5 0 1], σ4)) rfl).trans ?_
  refine (e_a (A := (68, 48, [some (vR 9 0 0), some (vI x1), some (vI x2), some (vI x3), some (vI x4), l5], [vI (σ4.1 5 0 0 (x3).toNatClampNeg)], σ4)) rfl h9).trans ?_
  refine (e_n 1 (fr' := (68, 49, [some (vR 9 0 0), some (vI x1), some (vI x2), some (vI x3), some (vI x4), l5], [vI (1 : Int32), vI (σ4.1 5 0 0 (x3).toNatClampNeg)], σ4)) rfl).trans ?_
  refine (e_f (B := (68, 65, [some (vR 9 0 0), some (vI x1), some (vI x2), some (vI x3), some (vI x4), l5], [], σ4)) rfl h10).trans ?_
  refine (e_n 1 (fr' := (68, 67, [some (vR 9 0 0), some (vI x1), some (vI x2), some (vI x3), some (vI x4), l5], [vI (-2 : Int32)], σ4)) rfl).trans ?_
  exact e_r rfl
set_option maxRecDepth 20000 in
theorem g69_0_0 (C : pmC) {σ : pmS} {x1 : Int32} {x2 : Int32} {σ1 : pmS} {r1 : Int32} (h1 : C 32 [vR 5 0 0, vI x1] σ = some (some (vI r1), σ1)) (h2 : r1 = 0) : pq_Rn C (69, 0, [some (vR 9 0 0), some (vI x1), some (vI x2)], [], σ) = some (some (vI (-1 : Int32)), σ1) := by
  refine (e_n 3 (fr' := (69, 5, [some (vR 9 0 0), some (vI x1), some (vI x2)], [vI x1, vR 5 0 0], σ)) rfl).trans ?_
  refine (e_ci (m := 69) (pc := 8) (ls := [some (vR 9 0 0), some (vI x1), some (vI x2)]) (rest := []) rfl h1).trans ?_
  refine (e_t (A := (69, 11, [some (vR 9 0 0), some (vI x1), some (vI x2)], [], σ1)) rfl h2).trans ?_
  refine (e_n 1 (fr' := (69, 12, [some (vR 9 0 0), some (vI x1), some (vI x2)], [vI (-1 : Int32)], σ1)) rfl).trans ?_
  exact e_r rfl
set_option maxRecDepth 20000 in
theorem g69_0_1 (C : pmC) {σ : pmS} {x1 : Int32} {x2 : Int32} {σ1 : pmS} {r1 : Int32} (h1 : C 32 [vR 5 0 0, vI x1] σ = some (some (vI r1), σ1)) (h2 : ¬ r1 = 0) (h3 : vp_in x1 48) (h4 : x2 ≤ (σ1.1 5 0 1 (x1).toNatClampNeg)) : pq_Rn C (69, 0, [some (vR 9 0 0), some (vI x1), some (vI x2)], [], σ) = some (some (vI (-2 : Int32)), σ1) := by
  refine (e_n 3 (fr' := (69, 5, [some (vR 9 0 0), some (vI x1), some (vI x2)], [vI x1, vR 5 0 0], σ)) rfl).trans ?_
  refine (e_ci (m := 69) (pc := 8) (ls := [some (vR 9 0 0), some (vI x1), some (vI x2)]) (rest := []) rfl h1).trans ?_
  refine (e_f (B := (69, 13, [some (vR 9 0 0), some (vI x1), some (vI x2)], [], σ1)) rfl h2).trans ?_
  refine (e_n 5 (fr' := (69, 22, [some (vR 9 0 0), some (vI x1), some (vI x2)], [vI x1, vR 5 0 2, vI x2], σ1)) rfl).trans ?_
  refine (e_a (A := (69, 23, [some (vR 9 0 0), some (vI x1), some (vI x2)], [vI (σ1.1 5 0 1 (x1).toNatClampNeg), vI x2], σ1)) rfl h3).trans ?_
  refine (e_t (A := (69, 33, [some (vR 9 0 0), some (vI x1), some (vI x2)], [], σ1)) rfl h4).trans ?_
  refine (e_n 1 (fr' := (69, 35, [some (vR 9 0 0), some (vI x1), some (vI x2)], [vI (-2 : Int32)], σ1)) rfl).trans ?_
  exact e_r rfl
set_option maxRecDepth 20000 in
theorem g69_0_2 (C : pmC) {σ : pmS} {x1 : Int32} {x2 : Int32} {σ1 : pmS} {r1 : Int32} (h1 : C 32 [vR 5 0 0, vI x1] σ = some (some (vI r1), σ1)) (h2 : ¬ r1 = 0) (h3 : vp_in x1 48) (h4 : ¬ x2 ≤ (σ1.1 5 0 1 (x1).toNatClampNeg)) (h5 : x2 ≤ (1000 : Int32)) (h6 : (σ1.1 5 0 2 (x1).toNatClampNeg) = (-1 : Int32)) : pq_Rn C (69, 0, [some (vR 9 0 0), some (vI x1), some (vI x2)], [], σ) = some (some (vI (0 : Int32)), (pm_wi σ1 5 0 2 (x1).toNatClampNeg x2)) := by
  refine (e_n 3 (fr' := (69, 5, [some (vR 9 0 0), some (vI x1), some (vI x2)], [vI x1, vR 5 0 0], σ)) rfl).trans ?_
  refine (e_ci (m := 69) (pc := 8) (ls := [some (vR 9 0 0), some (vI x1), some (vI x2)]) (rest := []) rfl h1).trans ?_
  refine (e_f (B := (69, 13, [some (vR 9 0 0), some (vI x1), some (vI x2)], [], σ1)) rfl h2).trans ?_
  refine (e_n 5 (fr' := (69, 22, [some (vR 9 0 0), some (vI x1), some (vI x2)], [vI x1, vR 5 0 2, vI x2], σ1)) rfl).trans ?_
  refine (e_a (A := (69, 23, [some (vR 9 0 0), some (vI x1), some (vI x2)], [vI (σ1.1 5 0 1 (x1).toNatClampNeg), vI x2], σ1)) rfl h3).trans ?_
  refine (e_f (B := (69, 26, [some (vR 9 0 0), some (vI x1), some (vI x2)], [], σ1)) rfl h4).trans ?_
  refine (e_n 2 (fr' := (69, 30, [some (vR 9 0 0), some (vI x1), some (vI x2)], [vI (1000 : Int32), vI x2], σ1)) rfl).trans ?_
  refine (e_t (A := (69, 36, [some (vR 9 0 0), some (vI x1), some (vI x2)], [], σ1)) rfl h5).trans ?_
  refine (e_n 4 (fr' := (69, 44, [some (vR 9 0 0), some (vI x1), some (vI x2)], [vI x1, vR 5 0 3], σ1)) rfl).trans ?_
  refine (e_a (A := (69, 45, [some (vR 9 0 0), some (vI x1), some (vI x2)], [vI (σ1.1 5 0 2 (x1).toNatClampNeg)], σ1)) rfl h3).trans ?_
  refine (e_n 1 (fr' := (69, 46, [some (vR 9 0 0), some (vI x1), some (vI x2)], [vI (-1 : Int32), vI (σ1.1 5 0 2 (x1).toNatClampNeg)], σ1)) rfl).trans ?_
  refine (e_t (A := (69, 52, [some (vR 9 0 0), some (vI x1), some (vI x2)], [], σ1)) rfl h6).trans ?_
  refine (e_n 5 (fr' := (69, 61, [some (vR 9 0 0), some (vI x1), some (vI x2)], [vI x2, vI x1, vR 5 0 3], σ1)) rfl).trans ?_
  refine (e_a (A := (69, 62, [some (vR 9 0 0), some (vI x1), some (vI x2)], [], (pm_wi σ1 5 0 2 (x1).toNatClampNeg x2))) rfl h3).trans ?_
  refine (e_n 1 (fr' := (69, 63, [some (vR 9 0 0), some (vI x1), some (vI x2)], [vI (0 : Int32)], (pm_wi σ1 5 0 2 (x1).toNatClampNeg x2))) rfl).trans ?_
  exact e_r rfl
set_option maxRecDepth 20000 in
theorem g69_0_3 (C : pmC) {σ : pmS} {x1 : Int32} {x2 : Int32} {σ1 : pmS} {r1 : Int32} (h1 : C 32 [vR 5 0 0, vI x1] σ = some (some (vI r1), σ1)) (h2 : ¬ r1 = 0) (h3 : vp_in x1 48) (h4 : ¬ x2 ≤ (σ1.1 5 0 1 (x1).toNatClampNeg)) (h5 : x2 ≤ (1000 : Int32)) (h6 : ¬ (σ1.1 5 0 2 (x1).toNatClampNeg) = (-1 : Int32)) : pq_Rn C (69, 0, [some (vR 9 0 0), some (vI x1), some (vI x2)], [], σ) = some (some (vI (-3 : Int32)), σ1) := by
  refine (e_n 3 (fr' := (69, 5, [some (vR 9 0 0), some (vI x1), some (vI x2)], [vI x1, vR 5 0 0], σ)) rfl).trans ?_
  refine (e_ci (m := 69) (pc := 8) (ls := [some (vR 9 0 0), some (vI x1), some (vI x2)]) (rest := []) rfl h1).trans ?_
  refine (e_f (B := (69, 13, [some (vR 9 0 0), some (vI x1), some (vI x2)], [], σ1)) rfl h2).trans ?_
  refine (e_n 5 (fr' := (69, 22, [some (vR 9 0 0), some (vI x1), some (vI x2)], [vI x1, vR 5 0 2, vI x2], σ1)) rfl).trans ?_
  refine (e_a (A := (69, 23, [some (vR 9 0 0), some (vI x1), some (vI x2)], [vI (σ1.1 5 0 1 (x1).toNatClampNeg), vI x2], σ1)) rfl h3).trans ?_
  refine (e_f (B := (69, 26, [some (vR 9 0 0), some (vI x1), some (vI x2)], [], σ1)) rfl h4).trans ?_
  refine (e_n 2 (fr' := (69, 30, [some (vR 9 0 0), some (vI x1), some (vI x2)], [vI (1000 : Int32), vI x2], σ1)) rfl).trans ?_
  refine (e_t (A := (69, 36, [some (vR 9 0 0), some (vI x1), some (vI x2)], [], σ1)) rfl h5).trans ?_
  refine (e_n 4 (fr' := (69, 44, [some (vR 9 0 0), some (vI x1), some (vI x2)], [vI x1, vR 5 0 3], σ1)) rfl).trans ?_
  refine (e_a (A := (69, 45, [some (vR 9 0 0), some (vI x1), some (vI x2)], [vI (σ1.1 5 0 2 (x1).toNatClampNeg)], σ1)) rfl h3).trans ?_
  refine (e_n 1 (fr' := (69, 46, [some (vR 9 0 0), some (vI x1), some (vI x2)], [vI (-1 : Int32), vI (σ1.1 5 0 2 (x1).toNatClampNeg)], σ1)) rfl).trans ?_
  refine (e_f (B := (69, 49, [some (vR 9 0 0), some (vI x1), some (vI x2)], [], σ1)) rfl h6).trans ?_
  refine (e_n 1 (fr' := (69, 51, [some (vR 9 0 0), some (vI x1), some (vI x2)], [vI (-3 : Int32)], σ1)) rfl).trans ?_
  exact e_r rfl
set_option maxRecDepth 20000 in
theorem g69_0_4 (C : pmC) {σ : pmS} {x1 : Int32} {x2 : Int32} {σ1 : pmS} {r1 : Int32} (h1 : C 32 [vR 5 0 0, vI x1] σ = some (some (vI r1), σ1)) (h2 : ¬ r1 = 0) (h3 : vp_in x1 48) (h4 : ¬ x2 ≤ (σ1.1 5 0 1 (x1).toNatClampNeg)) (h5 : ¬ x2 ≤ (1000 : Int32)) : pq_Rn C (69, 0, [some (vR 9 0 0), some (vI x1), some (vI x2)], [], σ) = some (some (vI (-2 : Int32)), σ1) := by
  refine (e_n 3 (fr' := (69, 5, [some (vR 9 0 0), some (vI x1), some (vI x2)], [vI x1, vR 5 0 0], σ)) rfl).trans ?_
  refine (e_ci (m := 69) (pc := 8) (ls := [some (vR 9 0 0), some (vI x1), some (vI x2)]) (rest := []) rfl h1).trans ?_
  refine (e_f (B := (69, 13, [some (vR 9 0 0), some (vI x1), some (vI x2)], [], σ1)) rfl h2).trans ?_
  refine (e_n 5 (fr' := (69, 22, [some (vR 9 0 0), some (vI x1), some (vI x2)], [vI x1, vR 5 0 2, vI x2], σ1)) rfl).trans ?_
  refine (e_a (A := (69, 23, [some (vR 9 0 0), some (vI x1), some (vI x2)], [vI (σ1.1 5 0 1 (x1).toNatClampNeg), vI x2], σ1)) rfl h3).trans ?_
  refine (e_f (B := (69, 26, [some (vR 9 0 0), some (vI x1), some (vI x2)], [], σ1)) rfl h4).trans ?_
  refine (e_n 2 (fr' := (69, 30, [some (vR 9 0 0), some (vI x1), some (vI x2)], [vI (1000 : Int32), vI x2], σ1)) rfl).trans ?_
  refine (e_f (B := (69, 33, [some (vR 9 0 0), some (vI x1), some (vI x2)], [], σ1)) rfl h5).trans ?_
  refine (e_n 1 (fr' := (69, 35, [some (vR 9 0 0), some (vI x1), some (vI x2)], [vI (-2 : Int32)], σ1)) rfl).trans ?_
  exact e_r rfl
set_option maxRecDepth 20000 in
theorem g70_0_0 (C : pmC) {σ : pmS} {x1 : Int32} {l2 : Option pmV} (h1 : x1 < 0) : pq_Rn C (70, 0, [some (vR 9 0 0), some (vI x1), l2], [], σ) = some (some (vI (-2 : Int32)), σ) := by
  refine (e_n 1 (fr' := (70, 1, [some (vR 9 0 0), some (vI x1), l2], [vI x1], σ)) rfl).trans ?_
  refine (e_t (A := (70, 10, [some (vR 9 0 0), some (vI x1), l2], [], σ)) rfl h1).trans ?_
  refine (e_n 1 (fr' := (70, 12, [some (vR 9 0 0), some (vI x1), l2], [vI (-2 : Int32)], σ)) rfl).trans ?_
  exact e_r rfl
set_option maxRecDepth 20000 in
theorem g70_0_1 (C : pmC) {σ : pmS} {x1 : Int32} {l2 : Option pmV} (h1 : ¬ x1 < 0) (h2 : x1 ≤ (40 : Int32)) : pq_Rn C (70, 0, [some (vR 9 0 0), some (vI x1), l2], [], σ) = some (some (vI (σ.1 9 0 11 0)), (pm_wi σ 9 0 11 0 x1)) := by
  refine (e_n 1 (fr' := (70, 1, [some (vR 9 0 0), some (vI x1), l2], [vI x1], σ)) rfl).trans ?_
  refine (e_f (B := (70, 4, [some (vR 9 0 0), some (vI x1), l2], [], σ)) rfl h1).trans ?_
  refine (e_n 2 (fr' := (70, 7, [some (vR 9 0 0), some (vI x1), l2], [vI (40 : Int32), vI x1], σ)) rfl).trans ?_
  refine (e_t (A := (70, 13, [some (vR 9 0 0), some (vI x1), l2], [], σ)) rfl h2).trans ?_
  refine (e_n 7 (fr' := (70, 24, [some (vR 9 0 0), some (vI x1), some (vI (σ.1 9 0 11 0))], [vI (σ.1 9 0 11 0)], (pm_wi σ 9 0 11 0 x1))) rfl).trans ?_
  exact e_r rfl
set_option maxRecDepth 20000 in
theorem g70_0_2 (C : pmC) {σ : pmS} {x1 : Int32} {l2 : Option pmV} (h1 : ¬ x1 < 0) (h2 : ¬ x1 ≤ (40 : Int32)) : pq_Rn C (70, 0, [some (vR 9 0 0), some (vI x1), l2], [], σ) = some (some (vI (-2 : Int32)), σ) := by
  refine (e_n 1 (fr' := (70, 1, [some (vR 9 0 0), some (vI x1), l2], [vI x1], σ)) rfl).trans ?_
  refine (e_f (B := (70, 4, [some (vR 9 0 0), some (vI x1), l2], [], σ)) rfl h1).trans ?_
  refine (e_n 2 (fr' := (70, 7, [some (vR 9 0 0), some (vI x1), l2], [vI (40 : Int32), vI x1], σ)) rfl).trans ?_
  refine (e_f (B := (70, 10, [some (vR 9 0 0), some (vI x1), l2], [], σ)) rfl h2).trans ?_
  refine (e_n 1 (fr' := (70, 12, [some (vR 9 0 0), some (vI x1), l2], [vI (-2 : Int32)], σ)) rfl).trans ?_
  exact e_r rfl
set_option maxRecDepth 20000 in
theorem g71_0_0 (C : pmC) {σ : pmS} {x1 : Int32} {x2 : Int32} {x3 : Int32} {l4 : Option pmV} {σ1 : pmS} {r1 : Int32} {σ2 : pmS} {r2 : Int32} (h1 : C 72 [vR 9 0 0, vI x1, vI x2, vI x3] σ = some (some (vI r1), σ1)) (h2 : 0 ≤ r1) (h3 : r1 < (1 : Int32)) (h4 : C 51 [vR 8 0 0, vI x1, vI x2, vI x3] σ1 = some (some (vI r2), σ2)) (h5 : r2 = 0) : pq_Rn C (71, 0, [some (vR 9 0 0), some (vI x1), some (vI x2), some (vI x3), l4], [], σ) = some (some (vI (-4 : Int32)), σ2) := by
  refine (e_n 4 (fr' := (71, 4, [some (vR 9 0 0), some (vI x1), some (vI x2), some (vI x3), l4], [vI x3, vI x2, vI x1, vR 9 0 0], σ)) rfl).trans ?_
  refine (e_ci (m := 71) (pc := 7) (ls := [some (vR 9 0 0), some (vI x1), some (vI x2), some (vI x3), l4]) (rest := []) rfl h1).trans ?_
  refine (e_n 2 (fr' := (71, 11, [some (vR 9 0 0), some (vI x1), some (vI x2), some (vI x3), some (vI r1)], [vI r1], σ1)) rfl).trans ?_
  refine (e_t (A := (71, 17, [some (vR 9 0 0), some (vI x1), some (vI x2), some (vI x3), some (vI r1)], [], σ1)) rfl h2).trans ?_
  refine (e_n 2 (fr' := (71, 20, [some (vR 9 0 0), some (vI x1), some (vI x2), some (vI x3), some (vI r1)], [vI (1 : Int32), vI r1], σ1)) rfl).trans ?_
  refine (e_t (A := (71, 32, [some (vR 9 0 0), some (vI x1), some (vI x2), some (vI x3), some (vI r1)], [], σ1)) rfl h3).trans ?_
  refine (e_n 5 (fr' := (71, 39, [some (vR 9 0 0), some (vI x1), some (vI x2), some (vI x3), some (vI r1)], [vI x3, vI x2, vI x1, vR 8 0 0], σ1)) rfl).trans ?_
  refine (e_ci (m := 71) (pc := 42) (ls := [some (vR 9 0 0), some (vI x1), some (vI x2), some (vI x3), some (vI r1)]) (rest := []) rfl h4).trans ?_
  refine (e_t (A := (71, 45, [some (vR 9 0 0), some (vI x1), some (vI x2), some (vI x3), some (vI r1)], [], σ2)) rfl h5).trans ?_
  refine (e_n 1 (fr' := (71, 47, [some (vR 9 0 0), some (vI x1), some (vI x2), some (vI x3), some (vI r1)], [vI (-4 : Int32)], σ2)) rfl).trans ?_
  exact e_r rfl
set_option maxRecDepth 20000 in
theorem g71_0_1 (C : pmC) {σ : pmS} {x1 : Int32} {x2 : Int32} {x3 : Int32} {l4 : Option pmV} {σ1 : pmS} {r1 : Int32} {σ2 : pmS} {r2 : Int32} (h1 : C 72 [vR 9 0 0, vI x1, vI x2, vI x3] σ = some (some (vI r1), σ1)) (h2 : 0 ≤ r1) (h3 : r1 < (1 : Int32)) (h4 : C 51 [vR 8 0 0, vI x1, vI x2, vI x3] σ1 = some (some (vI r2), σ2)) (h5 : ¬ r2 = 0) (h6 : r1 = 0) : pq_Rn C (71, 0, [some (vR 9 0 0), some (vI x1), some (vI x2), some (vI x3), l4], [], σ) = some (some (vI (1 : Int32)), σ2) := by
  refine (e_n 4 (fr' := (71, 4, [some (vR 9 0 0), some (vI x1), some (vI x2), some (vI x3), l4], [vI x3, vI x2, vI x1, vR 9 0 0], σ)) rfl).trans ?_
  refine (e_ci (m := 71) (pc := 7) (ls := [some (vR 9 0 0), some (vI x1), some (vI x2), some (vI x3), l4]) (rest := []) rfl h1).trans ?_
  refine (e_n 2 (fr' := (71, 11, [some (vR 9 0 0), some (vI x1), some (vI x2), some (vI x3), some (vI r1)], [vI r1], σ1)) rfl).trans ?_
  refine (e_t (A := (71, 17, [some (vR 9 0 0), some (vI x1), some (vI x2), some (vI x3), some (vI r1)], [], σ1)) rfl h2).trans ?_
  refine (e_n 2 (fr' := (71, 20, [some (vR 9 0 0), some (vI x1), some (vI x2), some (vI x3), some (vI r1)], [vI (1 : Int32), vI r1], σ1)) rfl).trans ?_
  refine (e_t (A := (71, 32, [some (vR 9 0 0), some (vI x1), some (vI x2), some (vI x3), some (vI r1)], [], σ1)) rfl h3).trans ?_
  refine (e_n 5 (fr' := (71, 39, [some (vR 9 0 0), some (vI x1), some (vI x2), some (vI x3), some (vI r1)], [vI x3, vI x2, vI x1, vR 8 0 0], σ1)) rfl).trans ?_
  refine (e_ci (m := 71) (pc := 42) (ls := [some (vR 9 0 0), some (vI x1), some (vI x2), some (vI x3), some (vI r1)]) (rest := []) rfl h4).trans ?_
  refine (e_f (B := (71, 48, [some (vR 9 0 0), some (vI x1), some (vI x2), some (vI x3), some (vI r1)], [], σ2)) rfl h5).trans ?_
  refine (e_n 1 (fr' := (71, 50, [some (vR 9 0 0), some (vI x1), some (vI x2), some (vI x3), some (vI r1)], [vI r1], σ2)) rfl).trans ?_
  refine (e_t (A := (71, 53, [some (vR 9 0 0), some (vI x1), some (vI x2), some (vI x3), some (vI r1)], [], σ2)) rfl h6).trans ?_
  refine (e_n 2 (fr' := (71, 58, [some (vR 9 0 0), some (vI x1), some (vI x2), some (vI x3), some (vI r1)], [vI (1 : Int32)], σ2)) rfl).trans ?_
  exact e_r rfl
set_option maxRecDepth 20000 in
theorem g71_0_2 (C : pmC) {σ : pmS} {x1 : Int32} {x2 : Int32} {x3 : Int32} {l4 : Option pmV} {σ1 : pmS} {r1 : Int32} {σ2 : pmS} {r2 : Int32} (h1 : C 72 [vR 9 0 0, vI x1, vI x2, vI x3] σ = some (some (vI r1), σ1)) (h2 : 0 ≤ r1) (h3 : r1 < (1 : Int32)) (h4 : C 51 [vR 8 0 0, vI x1, vI x2, vI x3] σ1 = some (some (vI r2), σ2)) (h5 : ¬ r2 = 0) (h6 : ¬ r1 = 0) : pq_Rn C (71, 0, [some (vR 9 0 0), some (vI x1), some (vI x2), some (vI x3), l4], [], σ) = some (some (vI (0 : Int32)), σ2) := by
  refine (e_n 4 (fr' := (71, 4, [some (vR 9 0 0), some (vI x1), some (vI x2), some (vI x3), l4], [vI x3, vI x2, vI x1, vR 9 0 0], σ)) rfl).trans ?_
  refine (e_ci (m := 71) (pc := 7) (ls := [some (vR 9 0 0), some (vI x1), some (vI x2), some (vI x3), l4]) (rest := []) rfl h1).trans ?_
  refine (e_n 2 (fr' := (71, 11, [some (vR 9 0 0), some (vI x1), some (vI x2), some (vI x3), some (vI r1)], [vI r1], σ1)) rfl).trans ?_
  refine (e_t (A := (71, 17, [some (vR 9 0 0), some (vI x1), some (vI x2), some (vI x3), some (vI r1)], [], σ1)) rfl h2).trans ?_
  refine (e_n 2 (fr' := (71, 20, [some (vR 9 0 0), some (vI x1), some (vI x2), some (vI x3), some (vI r1)], [vI (1 : Int32), vI r1], σ1)) rfl).trans ?_
  refine (e_t (A := (71, 32, [some (vR 9 0 0), some (vI x1), some (vI x2), some (vI x3), some (vI r1)], [], σ1)) rfl h3).trans ?_
  refine (e_n 5 (fr' := (71, 39, [some (vR 9 0 0), some (vI x1), some (vI x2), some (vI x3), some (vI r1)], [vI x3, vI x2, vI x1, vR 8 0 0], σ1)) rfl).trans ?_
  refine (e_ci (m := 71) (pc := 42) (ls := [some (vR 9 0 0), some (vI x1), some (vI x2), some (vI x3), some (vI r1)]) (rest := []) rfl h4).trans ?_
  refine (e_f (B := (71, 48, [some (vR 9 0 0), some (vI x1), some (vI x2), some (vI x3), some (vI r1)], [], σ2)) rfl h5).trans ?_
  refine (e_n 1 (fr' := (71, 50, [some (vR 9 0 0), some (vI x1), some (vI x2), some (vI x3), some (vI r1)], [vI r1], σ2)) rfl).trans ?_
  refine (e_f (B := (71, 57, [some (vR 9 0 0), some (vI x1), some (vI x2), some (vI x3), some (vI r1)], [], σ2)) rfl h6).trans ?_
  refine (e_n 1 (fr' := (71, 58, [some (vR 9 0 0), some (vI x1), some (vI x2), some (vI x3), some (vI r1)], [vI (0 : Int32)], σ2)) rfl).trans ?_
  exact e_r rfl
set_option maxRecDepth 20000 in
theorem g71_0_3 (C : pmC) {σ : pmS} {x1 : Int32} {x2 : Int32} {x3 : Int32} {l4 : Option pmV} {σ1 : pmS} {r1 : Int32} {σ2 : pmS} {r2 : Int32} (h1 : C 72 [vR 9 0 0, vI x1, vI x2, vI x3] σ = some (some (vI r1), σ1)) (h2 : 0 ≤ r1) (h3 : ¬ r1 < (1 : Int32)) (h4 : (4 : Int32) < r1) (h5 : C 51 [vR 8 0 0, vI x1, vI x2, vI x3] σ1 = some (some (vI r2), σ2)) (h6 : r2 = 0) : pq_Rn C (71, 0, [some (vR 9 0 0), some (vI x1), some (vI x2), some (vI x3), l4], [], σ) = some (some (vI (-4 : Int32)), σ2) := by
  refine (e_n 4 (fr' := (71, 4, [some (vR 9 0 0), some (vI x1), some (vI x2), some (vI x3), l4], [vI x3, vI x2, vI x1, vR 9 0 0], σ)) rfl).trans ?_
  refine (e_ci (m := 71) (pc := 7) (ls := [some (vR 9 0 0), some (vI x1), some (vI x2), some (vI x3), l4]) (rest := []) rfl h1).trans ?_
  refine (e_n 2 (fr' := (71, 11, [some (vR 9 0 0), some (vI x1), some (vI x2), some (vI x3), some (vI r1)], [vI r1], σ1)) rfl).trans ?_
  refine (e_t (A := (71, 17, [some (vR 9 0 0), some (vI x1), some (vI x2), some (vI x3), some (vI r1)], [], σ1)) rfl h2).trans ?_
  refine (e_n 2 (fr' := (71, 20, [some (vR 9 0 0), some (vI x1), some (vI x2), some (vI x3), some (vI r1)], [vI (1 : Int32), vI r1], σ1)) rfl).trans ?_
  refine (e_f (B := (71, 23, [some (vR 9 0 0), some (vI x1), some (vI x2), some (vI x3), some (vI r1)], [], σ1)) rfl h3).trans ?_
  refine (e_n 2 (fr' := (71, 26, [some (vR 9 0 0), some (vI x1), some (vI x2), some (vI x3), some (vI r1)], [vI (4 : Int32), vI r1], σ1)) rfl).trans ?_
  refine (e_t (A := (71, 32, [some (vR 9 0 0), some (vI x1), some (vI x2), some (vI x3), some (vI r1)], [], σ1)) rfl h4).trans ?_
  refine (e_n 5 (fr' := (71, 39, [some (vR 9 0 0), some (vI x1), some (vI x2), some (vI x3), some (vI r1)], [vI x3, vI x2, vI x1, vR 8 0 0], σ1)) rfl).trans ?_
  refine (e_ci (m := 71) (pc := 42) (ls := [some (vR 9 0 0), some (vI x1), some (vI x2), some (vI x3), some (vI r1)]) (rest := []) rfl h5).trans ?_
  refine (e_t (A := (71, 45, [some (vR 9 0 0), some (vI x1), some (vI x2), some (vI x3), some (vI r1)], [], σ2)) rfl h6).trans ?_
  refine (e_n 1 (fr' := (71, 47, [some (vR 9 0 0), some (vI x1), some (vI x2), some (vI x3), some (vI r1)], [vI (-4 : Int32)], σ2)) rfl).trans ?_
  exact e_r rfl
set_option maxRecDepth 20000 in
theorem g71_0_4 (C : pmC) {σ : pmS} {x1 : Int32} {x2 : Int32} {x3 : Int32} {l4 : Option pmV} {σ1 : pmS} {r1 : Int32} {σ2 : pmS} {r2 : Int32} (h1 : C 72 [vR 9 0 0, vI x1, vI x2, vI x3] σ = some (some (vI r1), σ1)) (h2 : 0 ≤ r1) (h3 : ¬ r1 < (1 : Int32)) (h4 : (4 : Int32) < r1) (h5 : C 51 [vR 8 0 0, vI x1, vI x2, vI x3] σ1 = some (some (vI r2), σ2)) (h6 : ¬ r2 = 0) (h7 : r1 = 0) : pq_Rn C (71, 0, [some (vR 9 0 0), some (vI x1), some (vI x2), some (vI x3), l4], [], σ) = some (some (vI (1 : Int32)), σ2) := by
  refine (e_n 4 (fr' := (71, 4, [some (vR 9 0 0), some (vI x1), some (vI x2), some (vI x3), l4], [vI x3, vI x2, vI x1, vR 9 0 0], σ)) rfl).trans ?_
  refine (e_ci (m := 71) (pc := 7) (ls := [some (vR 9 0 0), some (vI x1), some (vI x2), some (vI x3), l4]) (rest := []) rfl h1).trans ?_
  refine (e_n 2 (fr' := (71, 11, [some (vR 9 0 0), some (vI x1), some (vI x2), some (vI x3), some (vI r1)], [vI r1], σ1)) rfl).trans ?_
  refine (e_t (A := (71, 17, [some (vR 9 0 0), some (vI x1), some (vI x2), some (vI x3), some (vI r1)], [], σ1)) rfl h2).trans ?_
  refine (e_n 2 (fr' := (71, 20, [some (vR 9 0 0), some (vI x1), some (vI x2), some (vI x3), some (vI r1)], [vI (1 : Int32), vI r1], σ1)) rfl).trans ?_
  refine (e_f (B := (71, 23, [some (vR 9 0 0), some (vI x1), some (vI x2), some (vI x3), some (vI r1)], [], σ1)) rfl h3).trans ?_
  refine (e_n 2 (fr' := (71, 26, [some (vR 9 0 0), some (vI x1), some (vI x2), some (vI x3), some (vI r1)], [vI (4 : Int32), vI r1], σ1)) rfl).trans ?_
  refine (e_t (A := (71, 32, [some (vR 9 0 0), some (vI x1), some (vI x2), some (vI x3), some (vI r1)], [], σ1)) rfl h4).trans ?_
  refine (e_n 5 (fr' := (71, 39, [some (vR 9 0 0), some (vI x1), some (vI x2), some (vI x3), some (vI r1)], [vI x3, vI x2, vI x1, vR 8 0 0], σ1)) rfl).trans ?_
  refine (e_ci (m := 71) (pc := 42) (ls := [some (vR 9 0 0), some (vI x1), some (vI x2), some (vI x3), some (vI r1)]) (rest := []) rfl h5).trans ?_
  refine (e_f (B := (71, 48, [some (vR 9 0 0), some (vI x1), some (vI x2), some (vI x3), some (vI r1)], [], σ2)) rfl h6).trans ?_
  refine (e_n 1 (fr' := (71, 50, [some (vR 9 0 0), some (vI x1), some (vI x2), some (vI x3), some (vI r1)], [vI r1], σ2)) rfl).trans ?_
  refine (e_t (A := (71, 53, [some (vR 9 0 0), some (vI x1), some (vI x2), some (vI x3), some (vI r1)], [], σ2)) rfl h7).trans ?_
  refine (e_n 2 (fr' := (71, 58, [some (vR 9 0 0), some (vI x1), some (vI x2), some (vI x3), some (vI r1)], [vI (1 : Int32)], σ2)) rfl).trans ?_
  exact e_r rfl
set_option maxRecDepth 20000 in
theorem g71_0_5 (C : pmC) {σ : pmS} {x1 : Int32} {x2 : Int32} {x3 : Int32} {l4 : Option pmV} {σ1 : pmS} {r1 : Int32} {σ2 : pmS} {r2 : Int32} (h1 : C 72 [vR 9 0 0, vI x1, vI x2, vI x3] σ = some (some (vI r1), σ1)) (h2 : 0 ≤ r1) (h3 : ¬ r1 < (1 : Int32)) (h4 : (4 : Int32) < r1) (h5 : C 51 [vR 8 0 0, vI x1, vI x2, vI x3] σ1 = some (some (vI r2), σ2)) (h6 : ¬ r2 = 0) (h7 : ¬ r1 = 0) : pq_Rn C (71, 0, [some (vR 9 0 0), some (vI x1), some (vI x2), some (vI x3), l4], [], σ) = some (some (vI (0 : Int32)), σ2) := by
  refine (e_n 4 (fr' := (71, 4, [some (vR 9 0 0), some (vI x1), some (vI x2), some (vI x3), l4], [vI x3, vI x2, vI x1, vR 9 0 0], σ)) rfl).trans ?_
  refine (e_ci (m := 71) (pc := 7) (ls := [some (vR 9 0 0), some (vI x1), some (vI x2), some (vI x3), l4]) (rest := []) rfl h1).trans ?_
  refine (e_n 2 (fr' := (71, 11, [some (vR 9 0 0), some (vI x1), some (vI x2), some (vI x3), some (vI r1)], [vI r1], σ1)) rfl).trans ?_
  refine (e_t (A := (71, 17, [some (vR 9 0 0), some (vI x1), some (vI x2), some (vI x3), some (vI r1)], [], σ1)) rfl h2).trans ?_
  refine (e_n 2 (fr' := (71, 20, [some (vR 9 0 0), some (vI x1), some (vI x2), some (vI x3), some (vI r1)], [vI (1 : Int32), vI r1], σ1)) rfl).trans ?_
  refine (e_f (B := (71, 23, [some (vR 9 0 0), some (vI x1), some (vI x2), some (vI x3), some (vI r1)], [], σ1)) rfl h3).trans ?_
  refine (e_n 2 (fr' := (71, 26, [some (vR 9 0 0), some (vI x1), some (vI x2), some (vI x3), some (vI r1)], [vI (4 : Int32), vI r1], σ1)) rfl).trans ?_
  refine (e_t (A := (71, 32, [some (vR 9 0 0), some (vI x1), some (vI x2), some (vI x3), some (vI r1)], [], σ1)) rfl h4).trans ?_
  refine (e_n 5 (fr' := (71, 39, [some (vR 9 0 0), some (vI x1), some (vI x2), some (vI x3), some (vI r1)], [vI x3, vI x2, vI x1, vR 8 0 0], σ1)) rfl).trans ?_
  refine (e_ci (m := 71) (pc := 42) (ls := [some (vR 9 0 0), some (vI x1), some (vI x2), some (vI x3), some (vI r1)]) (rest := []) rfl h5).trans ?_
  refine (e_f (B := (71, 48, [some (vR 9 0 0), some (vI x1), some (vI x2), some (vI x3), some (vI r1)], [], σ2)) rfl h6).trans ?_
  refine (e_n 1 (fr' := (71, 50, [some (vR 9 0 0), some (vI x1), some (vI x2), some (vI x3), some (vI r1)], [vI r1], σ2)) rfl).trans ?_
  refine (e_f (B := (71, 57, [some (vR 9 0 0), some (vI x1), some (vI x2), some (vI x3), some (vI r1)], [], σ2)) rfl h7).trans ?_
  refine (e_n 1 (fr' := (71, 58, [some (vR 9 0 0), some (vI x1), some (vI x2), some (vI x3), some (vI r1)], [vI (0 : Int32)], σ2)) rfl).trans ?_
  exact e_r rfl
set_option maxRecDepth 20000 in
theorem g71_0_6 (C : pmC) {σ : pmS} {x1 : Int32} {x2 : Int32} {x3 : Int32} {l4 : Option pmV} {σ1 : pmS} {r1 : Int32} (h1 : C 72 [vR 9 0 0, vI x1, vI x2, vI x3] σ = some (some (vI r1), σ1)) (h2 : 0 ≤ r1) (h3 : ¬ r1 < (1 : Int32)) (h4 : ¬ (4 : Int32) < r1) : pq_Rn C (71, 0, [some (vR 9 0 0), some (vI x1), some (vI x2), some (vI x3), l4], [], σ) = some (some (vI (-3 : Int32)), σ1) := by
  refine (e_n 4 (fr' := (71, 4, [some (vR 9 0 0), some (vI x1), some (vI x2), some (vI x3), l4], [vI x3, vI x2, vI x1, vR 9 0 0], σ)) rfl).trans ?_
  refine (e_ci (m := 71) (pc := 7) (ls := [some (vR 9 0 0), some (vI x1), some (vI x2), some (vI x3), l4]) (rest := []) rfl h1).trans ?_
  refine (e_n 2 (fr' := (71, 11, [some (vR 9 0 0), some (vI x1), some (vI x2), some (vI x3), some (vI r1)], [vI r1], σ1)) rfl).trans ?_
  refine (e_t (A := (71, 17, [some (vR 9 0 0), some (vI x1), some (vI x2), some (vI x3), some (vI r1)], [], σ1)) rfl h2).trans ?_
  refine (e_n 2 (fr' := (71, 20, [some (vR 9 0 0), some (vI x1), some (vI x2), some (vI x3), some (vI r1)], [vI (1 : Int32), vI r1], σ1)) rfl).trans ?_
  refine (e_f (B := (71, 23, [some (vR 9 0 0), some (vI x1), some (vI x2), some (vI x3), some (vI r1)], [], σ1)) rfl h3).trans ?_
  refine (e_n 2 (fr' := (71, 26, [some (vR 9 0 0), some (vI x1), some (vI x2), some (vI x3), some (vI r1)], [vI (4 : Int32), vI r1], σ1)) rfl).trans ?_
  refine (e_f (B := (71, 29, [some (vR 9 0 0), some (vI x1), some (vI x2), some (vI x3), some (vI r1)], [], σ1)) rfl h4).trans ?_
  refine (e_n 1 (fr' := (71, 31, [some (vR 9 0 0), some (vI x1), some (vI x2), some (vI x3), some (vI r1)], [vI (-3 : Int32)], σ1)) rfl).trans ?_
  exact e_r rfl
set_option maxRecDepth 20000 in
theorem g71_0_7 (C : pmC) {σ : pmS} {x1 : Int32} {x2 : Int32} {x3 : Int32} {l4 : Option pmV} {σ1 : pmS} {r1 : Int32} (h1 : C 72 [vR 9 0 0, vI x1, vI x2, vI x3] σ = some (some (vI r1), σ1)) (h2 : ¬ 0 ≤ r1) : pq_Rn C (71, 0, [some (vR 9 0 0), some (vI x1), some (vI x2), some (vI x3), l4], [], σ) = some (some (vI r1), σ1) := by
  refine (e_n 4 (fr' := (71, 4, [some (vR 9 0 0), some (vI x1), some (vI x2), some (vI x3), l4], [vI x3, vI x2, vI x1, vR 9 0 0], σ)) rfl).trans ?_
  refine (e_ci (m := 71) (pc := 7) (ls := [some (vR 9 0 0), some (vI x1), some (vI x2), some (vI x3), l4]) (rest := []) rfl h1).trans ?_
  refine (e_n 2 (fr' := (71, 11, [some (vR 9 0 0), some (vI x1), some (vI x2), some (vI x3), some (vI r1)], [vI r1], σ1)) rfl).trans ?_
  refine (e_f (B := (71, 14, [some (vR 9 0 0), some (vI x1), some (vI x2), some (vI x3), some (vI r1)], [], σ1)) rfl h2).trans ?_
  refine (e_n 1 (fr' := (71, 16, [some (vR 9 0 0), some (vI x1), some (vI x2), some (vI x3), some (vI r1)], [vI r1], σ1)) rfl).trans ?_
  exact e_r rfl
set_option maxRecDepth 20000 in
theorem g72_0_0 (C : pmC) {σ : pmS} {x1 : Int32} {x2 : Int32} {x3 : Int32} {l4 : Option pmV} {l5 : Option pmV} {σ1 : pmS} {r1 : Int32} (h1 : C 32 [vR 5 0 0, vI x1] σ = some (some (vI r1), σ1)) (h2 : r1 = 0) : pq_Rn C (72, 0, [some (vR 9 0 0), some (vI x1), some (vI x2), some (vI x3), l4, l5], [], σ) = some (some (vI (-1 : Int32)), σ1) := by
  refine (e_n 3 (fr' := (72, 5, [some (vR 9 0 0), some (vI x1), some (vI x2), some (vI x3), l4, l5], [vI x1, vR 5 0 0], σ)) rfl).trans ?_
  refine (e_ci (m := 72) (pc := 8) (ls := [some (vR 9 0 0), some (vI x1), some (vI x2), some (vI x3), l4, l5]) (rest := []) rfl h1).trans ?_
  refine (e_t (A := (72, 22, [some (vR 9 0 0), some (vI x1), some (vI x2), some (vI x3), l4, l5], [], σ1)) rfl h2).trans ?_
  refine (e_n 1 (fr' := (72, 23, [some (vR 9 0 0), some (vI x1), some (vI x2), some (vI x3), l4, l5], [vI (-1 : Int32)], σ1)) rfl).trans ?_
  exact e_r rfl
set_option maxRecDepth 20000 in
theorem g72_0_1 (C : pmC) {σ : pmS} {x1 : Int32} {x2 : Int32} {x3 : Int32} {l4 : Option pmV} {l5 : Option pmV} {σ1 : pmS} {r1 : Int32} {σ2 : pmS} {r2 : Int32} (h1 : C 32 [vR 5 0 0, vI x1] σ = some (some (vI r1), σ1)) (h2 : ¬ r1 = 0) (h3 : C 32 [vR 5 0 0, vI x2] σ1 = some (some (vI r2), σ2)) (h4 : r2 = 0) : pq_Rn C (72, 0, [some (vR 9 0 0), some (vI x1), some (vI x2), some (vI x3), l4, l5], [], σ) = some (some (vI (-1 : Int32)), σ2) := by
  refine (e_n 3 (fr' := (72, 5, [some (vR 9 0 0), some (vI x1), some (vI x2), some (vI x3), l4, l5], [vI x1, vR 5 0 0], σ)) rfl).trans ?_
  refine (e_ci (m := 72) (pc := 8) (ls := [some (vR 9 0 0), some (vI x1), some (vI x2), some (vI x3), l4, l5]) (rest := []) rfl h1).trans ?_
  refine (e_f (B := (72, 11, [some (vR 9 0 0), some (vI x1), some (vI x2), some (vI x3), l4, l5], [], σ1)) rfl h2).trans ?_
  refine (e_n 3 (fr' := (72, 16, [some (vR 9 0 0), some (vI x1), some (vI x2), some (vI x3), l4, l5], [vI x2, vR 5 0 0], σ1)) rfl).trans ?_
  refine (e_ci (m := 72) (pc := 19) (ls := [some (vR 9 0 0), some (vI x1), some (vI x2), some (vI x3), l4, l5]) (rest := []) rfl h3).trans ?_
  refine (e_t (A := (72, 22, [some (vR 9 0 0), some (vI x1), some (vI x2), some (vI x3), l4, l5], [], σ2)) rfl h4).trans ?_
  refine (e_n 1 (fr' := (72, 23, [some (vR 9 0 0), some (vI x1), some (vI x2), some (vI x3), l4, l5], [vI (-1 : Int32)], σ2)) rfl).trans ?_
  exact e_r rfl
set_option maxRecDepth 20000 in
theorem g72_0_2 (C : pmC) {σ : pmS} {x1 : Int32} {x2 : Int32} {x3 : Int32} {l4 : Option pmV} {l5 : Option pmV} {σ1 : pmS} {r1 : Int32} {σ2 : pmS} {r2 : Int32} {σ3 : pmS} {r3 : Int32} (h1 : C 32 [vR 5 0 0, vI x1] σ = some (some (vI r1), σ1)) (h2 : ¬ r1 = 0) (h3 : C 32 [vR 5 0 0, vI x2] σ1 = some (some (vI r2), σ2)) (h4 : ¬ r2 = 0) (h5 : C 90 [vI x3] σ2 = some (some (vI r3), σ3)) (h6 : r3 = 0) : pq_Rn C (72, 0, [some (vR 9 0 0), some (vI x1), some (vI x2), some (vI x3), l4, l5], [], σ) = some (some (vI (-2 : Int32)), σ3) := by
  refine (e_n 3 (fr' := (72, 5, [some (vR 9 0 0), some (vI x1), some (vI x2), some (vI x3), l4, l5], [vI x1, vR 5 0 0], σ)) rfl).trans ?_
  refine (e_ci (m := 72) (pc := 8) (ls := [some (vR 9 0 0), some (vI x1), some (vI x2), some (vI x3), l4, l5]) (rest := []) rfl h1).trans ?_
  refine (e_f (B := (72, 11, [some (vR 9 0 0), some (vI x1), some (vI x2), some (vI x3), l4, l5], [], σ1)) rfl h2).trans ?_
  refine (e_n 3 (fr' := (72, 16, [some (vR 9 0 0), some (vI x1), some (vI x2), some (vI x3), l4, l5], [vI x2, vR 5 0 0], σ1)) rfl).trans ?_
  refine (e_ci (m := 72) (pc := 19) (ls := [some (vR 9 0 0), some (vI x1), some (vI x2), some (vI x3), l4, l5]) (rest := []) rfl h3).trans ?_
  refine (e_f (B := (72, 24, [some (vR 9 0 0), some (vI x1), some (vI x2), some (vI x3), l4, l5], [], σ2)) rfl h4).trans ?_
  refine (e_n 1 (fr' := (72, 25, [some (vR 9 0 0), some (vI x1), some (vI x2), some (vI x3), l4, l5], [vI x3], σ2)) rfl).trans ?_
  refine (e_ci (m := 72) (pc := 28) (ls := [some (vR 9 0 0), some (vI x1), some (vI x2), some (vI x3), l4, l5]) (rest := []) rfl h5).trans ?_
  refine (e_t (A := (72, 56, [some (vR 9 0 0), some (vI x1), some (vI x2), some (vI x3), l4, l5], [], σ3)) rfl h6).trans ?_
  refine (e_n 1 (fr' := (72, 58, [some (vR 9 0 0), some (vI x1), some (vI x2), some (vI x3), l4, l5], [vI (-2 : Int32)], σ3)) rfl).trans ?_
  exact e_r rfl
set_option maxRecDepth 20000 in
theorem g72_0_3 (C : pmC) {σ : pmS} {x1 : Int32} {x2 : Int32} {x3 : Int32} {l4 : Option pmV} {l5 : Option pmV} {σ1 : pmS} {r1 : Int32} {σ2 : pmS} {r2 : Int32} {σ3 : pmS} {r3 : Int32} {σ4 : pmS} {r4 : Int32} {σ5 : pmS} {r5 : Int32} {σ6 : pmS} {r6 : Int32} (h1 : C 32 [vR 5 0 0, vI x1] σ = some (some (vI r1), σ1)) (h2 : ¬ r1 = 0) (h3 : C 32 [vR 5 0 0, vI x2] σ1 = some (some (vI r2), σ2)) (h4 : ¬ r2 = 0) (h5 : C 90 [vI x3] σ2 = some (some (vI r3), σ3)) (h6 : ¬ r3 = 0) (h7 : vp_in x1 48) (h8 : (σ3.1 5 0 0 (x1).toNatClampNeg) = 0) (h9 : vp_in x2 48) (h10 : (σ3.1 5 0 0 (x2).toNatClampNeg) = (1 : Int32)) (h11 : C 97 [vR 9 0 0, vI x1, vI x3] σ3 = some (some (vI r4), σ4)) (h12 : C 97 [vR 9 0 0, vI x2, vI x3] σ4 = some (some (vI r5), σ5)) (h13 : r4 = 0) (h14 : (r4 + r5) = 0) (h15 : C 98 [vR 9 0 0, vI x1, vI x2, vI x3] σ5 = some (some (vI r6), σ6)) : pq_Rn C (72, 0, [some (vR 9 0 0), some (vI x1), some (vI x2), some (vI x3), l4, l5], [], σ) = some (some (vI r6), σ6) := by
  refine (e_n 3 (fr' := (72, 5, [some (vR 9 0 0), some (vI x1), some (vI x2), some (vI x3), l4, l5], [vI x1, vR 5 0 0], σ)) rfl).trans ?_
  refine (e_ci (m := 72) (pc := 8) (ls := [some (vR 9 0 0), some (vI x1), some (vI x2), some (vI x3), l4, l5]) (rest := []) rfl h1).trans ?_
  refine (e_f (B := (72, 11, [some (vR 9 0 0), some (vI x1), some (vI x2), some (vI x3), l4, l5], [], σ1)) rfl h2).trans ?_
  refine (e_n 3 (fr' := (72, 16, [some (vR 9 0 0), some (vI x1), some (vI x2), some (vI x3), l4, l5], [vI x2, vR 5 0 0], σ1)) rfl).trans ?_
  refine (e_ci (m := 72) (pc := 19) (ls := [some (vR 9 0 0), some (vI x1), some (vI x2), some (vI x3), l4, l5]) (rest := []) rfl h3).trans ?_
  refine (e_f (B := (72, 24, [some (vR 9 0 0), some (vI x1), some (vI x2), some (vI x3), l4, l5], [], σ2)) rfl h4).trans ?_
  refine (e_n 1 (fr' := (72, 25, [some (vR 9 0 0), some (vI x1), some (vI x2), some (vI x3), l4, l5], [vI x3], σ2)) rfl).trans ?_
  refine (e_ci (m := 72) (pc := 28) (ls := [some (vR 9 0 0), some (vI x1), some (vI x2), some (vI x3), l4, l5]) (rest := []) rfl h5).trans ?_
  refine (e_f (B := (72, 31, [some (vR 9 0 0), some (vI x1), some (vI x2), some (vI x3), l4, l5], [], σ3)) rfl h6).trans ?_
  refine (e_n 4 (fr' := (72, 39, [some (vR 9 0 0), some (vI x1), some (vI x2), some (vI x3), l4, l5], [vI x1, vR 5 0 1], σ3)) rfl).trans ?_
  refine (e_a (A := (72, 40, [some (vR 9 0 0), some (vI x1), some (vI x2), some (vI x3), l4, l5], [vI (σ3.1 5 0 0 (x1).toNatClampNeg)], σ3)) rfl h7).trans ?_
  refine (e_t (A := (72, 43, [some (vR 9 0 0), some (vI x1), some (vI x2), some (vI x3), l4, l5], [], σ3)) rfl h8).trans ?_
  refine (e_n 4 (fr' := (72, 51, [some (vR 9 0 0), some (vI x1), some (vI x2), some (vI x3), l4, l5], [vI x2, vR 5 0 1], σ3)) rfl).trans ?_
  refine (e_a (A := (72, 52, [some (vR 9 0 0), some (vI x1), some (vI x2), some (vI x3), l4, l5], [vI (σ3.1 5 0 0 (x2).toNatClampNeg)], σ3)) rfl h9).trans ?_
  refine (e_n 1 (fr' := (72, 53, [some (vR 9 0 0), some (vI x1), some (vI x2), some (vI x3), l4, l5], [vI (1 : Int32), vI (σ3.1 5 0 0 (x2).toNatClampNeg)], σ3)) rfl).trans ?_
  refine (e_t (A := (72, 59, [some (vR 9 0 0), some (vI x1), some (vI x2), some (vI x3), l4, l5], [], σ3)) rfl h10).trans ?_
  refine (e_n 3 (fr' := (72, 62, [some (vR 9 0 0), some (vI x1), some (vI x2), some (vI x3), l4, l5], [vI x3, vI x1, vR 9 0 0], σ3)) rfl).trans ?_
  refine (e_ci (m := 72) (pc := 65) (ls := [some (vR 9 0 0), some (vI x1), some (vI x2), some (vI x3), l4, l5]) (rest := []) rfl h11).trans ?_
  refine (e_n 4 (fr' := (72, 70, [some (vR 9 0 0), some (vI x1), some (vI x2), some (vI x3), some (vI r4), l5], [vI x3, vI x2, vR 9 0 0], σ4)) rfl).trans ?_
  refine (e_ci (m := 72) (pc := 73) (ls := [some (vR 9 0 0), some (vI x1), some (vI x2), some (vI x3), some (vI r4), l5]) (rest := []) rfl h12).trans ?_
  refine (e_n 2 (fr' := (72, 77, [some (vR 9 0 0), some (vI x1), some (vI x2), some (vI x3), some (vI r4), some (vI r5)], [vI r4], σ5)) rfl).trans ?_
  refine (e_t (A := (72, 93, [some (vR 9 0 0), some (vI x1), some (vI x2), some (vI x3), some (vI r4), some (vI r5)], [], σ5)) rfl h13).trans ?_
  refine (e_n 3 (fr' := (72, 98, [some (vR 9 0 0), some (vI x1), some (vI x2), some (vI x3), some (vI r4), some (vI r5)], [vI (r4 + r5)], σ5)) rfl).trans ?_
  refine (e_t (A := (72, 109, [some (vR 9 0 0), some (vI x1), some (vI x2), some (vI x3), some (vI r4), some (vI r5)], [], σ5)) rfl h14).trans ?_
  refine (e_n 4 (fr' := (72, 113, [some (vR 9 0 0), some (vI x1), some (vI x2), some (vI x3), some (vI r4), some (vI r5)], [vI x3, vI x2, vI x1, vR 9 0 0], σ5)) rfl).trans ?_
  refine (e_ci (m := 72) (pc := 116) (ls := [some (vR 9 0 0), some (vI x1), some (vI x2), some (vI x3), some (vI r4), some (vI r5)]) (rest := []) rfl h15).trans ?_
  exact e_r rfl
set_option maxRecDepth 20000 in
theorem g72_0_4 (C : pmC) {σ : pmS} {x1 : Int32} {x2 : Int32} {x3 : Int32} {l4 : Option pmV} {l5 : Option pmV} {σ1 : pmS} {r1 : Int32} {σ2 : pmS} {r2 : Int32} {σ3 : pmS} {r3 : Int32} {σ4 : pmS} {r4 : Int32} {σ5 : pmS} {r5 : Int32} (h1 : C 32 [vR 5 0 0, vI x1] σ = some (some (vI r1), σ1)) (h2 : ¬ r1 = 0) (h3 : C 32 [vR 5 0 0, vI x2] σ1 = some (some (vI r2), σ2)) (h4 : ¬ r2 = 0) (h5 : C 90 [vI x3] σ2 = some (some (vI r3), σ3)) (h6 : ¬ r3 = 0) (h7 : vp_in x1 48) (h8 : (σ3.1 5 0 0 (x1).toNatClampNeg) = 0) (h9 : vp_in x2 48) (h10 : (σ3.1 5 0 0 (x2).toNatClampNeg) = (1 : Int32)) (h11 : C 97 [vR 9 0 0, vI x1, vI x3] σ3 = some (some (vI r4), σ4)) (h12 : C 97 [vR 9 0 0, vI x2, vI x3] σ4 = some (some (vI r5), σ5)) (h13 : r4 = 0) (h14 : ¬ (r4 + r5) = 0) : pq_Rn C (72, 0, [some (vR 9 0 0), some (vI x1), some (vI x2), some (vI x3), l4, l5], [], σ) = some (some (vI (r4 + r5)), σ5) := by
  refine (e_n 3 (fr' := (72, 5, [some (vR 9 0 0), some (vI x1), some (vI x2), some (vI x3), l4, l5], [vI x1, vR 5 0 0], σ)) rfl).trans ?_
  refine (e_ci (m := 72) (pc := 8) (ls := [some (vR 9 0 0), some (vI x1), some (vI x2), some (vI x3), l4, l5]) (rest := []) rfl h1).trans ?_
  refine (e_f (B := (72, 11, [some (vR 9 0 0), some (vI x1), some (vI x2), some (vI x3), l4, l5], [], σ1)) rfl h2).trans ?_
  refine (e_n 3 (fr' := (72, 16, [some (vR 9 0 0), some (vI x1), some (vI x2), some (vI x3), l4, l5], [vI x2, vR 5 0 0], σ1)) rfl).trans ?_
  refine (e_ci (m := 72) (pc := 19) (ls := [some (vR 9 0 0), some (vI x1), some (vI x2), some (vI x3), l4, l5]) (rest := []) rfl h3).trans ?_
  refine (e_f (B := (72, 24, [some (vR 9 0 0), some (vI x1), some (vI x2), some (vI x3), l4, l5], [], σ2)) rfl h4).trans ?_
  refine (e_n 1 (fr' := (72, 25, [some (vR 9 0 0), some (vI x1), some (vI x2), some (vI x3), l4, l5], [vI x3], σ2)) rfl).trans ?_
  refine (e_ci (m := 72) (pc := 28) (ls := [some (vR 9 0 0), some (vI x1), some (vI x2), some (vI x3), l4, l5]) (rest := []) rfl h5).trans ?_
  refine (e_f (B := (72, 31, [some (vR 9 0 0), some (vI x1), some (vI x2), some (vI x3), l4, l5], [], σ3)) rfl h6).trans ?_
  refine (e_n 4 (fr' := (72, 39, [some (vR 9 0 0), some (vI x1), some (vI x2), some (vI x3), l4, l5], [vI x1, vR 5 0 1], σ3)) rfl).trans ?_
  refine (e_a (A := (72, 40, [some (vR 9 0 0), some (vI x1), some (vI x2), some (vI x3), l4, l5], [vI (σ3.1 5 0 0 (x1).toNatClampNeg)], σ3)) rfl h7).trans ?_
  refine (e_t (A := (72, 43, [some (vR 9 0 0), some (vI x1), some (vI x2), some (vI x3), l4, l5], [], σ3)) rfl h8).trans ?_
  refine (e_n 4 (fr' := (72, 51, [some (vR 9 0 0), some (vI x1), some (vI x2), some (vI x3), l4, l5], [vI x2, vR 5 0 1], σ3)) rfl).trans ?_
  refine (e_a (A := (72, 52, [some (vR 9 0 0), some (vI x1), some (vI x2), some (vI x3), l4, l5], [vI (σ3.1 5 0 0 (x2).toNatClampNeg)], σ3)) rfl h9).trans ?_
  refine (e_n 1 (fr' := (72, 53, [some (vR 9 0 0), some (vI x1), some (vI x2), some (vI x3), l4, l5], [vI (1 : Int32), vI (σ3.1 5 0 0 (x2).toNatClampNeg)], σ3)) rfl).trans ?_
  refine (e_t (A := (72, 59, [some (vR 9 0 0), some (vI x1), some (vI x2), some (vI x3), l4, l5], [], σ3)) rfl h10).trans ?_
  refine (e_n 3 (fr' := (72, 62, [some (vR 9 0 0), some (vI x1), some (vI x2), some (vI x3), l4, l5], [vI x3, vI x1, vR 9 0 0], σ3)) rfl).trans ?_
  refine (e_ci (m := 72) (pc := 65) (ls := [some (vR 9 0 0), some (vI x1), some (vI x2), some (vI x3), l4, l5]) (rest := []) rfl h11).trans ?_
  refine (e_n 4 (fr' := (72, 70, [some (vR 9 0 0), some (vI x1), some (vI x2), some (vI x3), some (vI r4), l5], [vI x3, vI x2, vR 9 0 0], σ4)) rfl).trans ?_
  refine (e_ci (m := 72) (pc := 73) (ls := [some (vR 9 0 0), some (vI x1), some (vI x2), some (vI x3), some (vI r4), l5]) (rest := []) rfl h12).trans ?_
  refine (e_n 2 (fr' := (72, 77, [some (vR 9 0 0), some (vI x1), some (vI x2), some (vI x3), some (vI r4), some (vI r5)], [vI r4], σ5)) rfl).trans ?_
  refine (e_t (A := (72, 93, [some (vR 9 0 0), some (vI x1), some (vI x2), some (vI x3), some (vI r4), some (vI r5)], [], σ5)) rfl h13).trans ?_
  refine (e_n 3 (fr' := (72, 98, [some (vR 9 0 0), some (vI x1), some (vI x2), some (vI x3), some (vI r4), some (vI r5)], [vI (r4 + r5)], σ5)) rfl).trans ?_
  refine (e_f (B := (72, 101, [some (vR 9 0 0), some (vI x1), some (vI x2), some (vI x3), some (vI r4), some (vI r5)], [], σ5)) rfl h14).trans ?_
  refine (e_n 4 (fr' := (72, 116, [some (vR 9 0 0), some (vI x1), some (vI x2), some (vI x3), some (vI r4), some (vI r5)], [vI (r4 + r5)], σ5)) rfl).trans ?_
  exact e_r rfl
set_option maxRecDepth 20000 in
theorem g72_0_5 (C : pmC) {σ : pmS} {x1 : Int32} {x2 : Int32} {x3 : Int32} {l4 : Option pmV} {l5 : Option pmV} {σ1 : pmS} {r1 : Int32} {σ2 : pmS} {r2 : Int32} {σ3 : pmS} {r3 : Int32} {σ4 : pmS} {r4 : Int32} {σ5 : pmS} {r5 : Int32} {σ6 : pmS} {r6 : Int32} (h1 : C 32 [vR 5 0 0, vI x1] σ = some (some (vI r1), σ1)) (h2 : ¬ r1 = 0) (h3 : C 32 [vR 5 0 0, vI x2] σ1 = some (some (vI r2), σ2)) (h4 : ¬ r2 = 0) (h5 : C 90 [vI x3] σ2 = some (some (vI r3), σ3)) (h6 : ¬ r3 = 0) (h7 : vp_in x1 48) (h8 : (σ3.1 5 0 0 (x1).toNatClampNeg) = 0) (h9 : vp_in x2 48) (h10 : (σ3.1 5 0 0 (x2).toNatClampNeg) = (1 : Int32)) (h11 : C 97 [vR 9 0 0, vI x1, vI x3] σ3 = some (some (vI r4), σ4)) (h12 : C 97 [vR 9 0 0, vI x2, vI x3] σ4 = some (some (vI r5), σ5)) (h13 : ¬ r4 = 0) (h14 : r5 = 0) (h15 : (r4 + r5) = 0) (h16 : C 98 [vR 9 0 0, vI x1, vI x2, vI x3] σ5 = some (some (vI r6), σ6)) : pq_Rn C (72, 0, [some (vR 9 0 0), some (vI x1), some (vI x2), some (vI x3), l4, l5], [], σ) = some (some (vI r6), σ6) := by
  refine (e_n 3 (fr' := (72, 5, [some (vR 9 0 0), some (vI x1), some (vI x2), some (vI x3), l4, l5], [vI x1, vR 5 0 0], σ)) rfl).trans ?_
  refine (e_ci (m := 72) (pc := 8) (ls := [some (vR 9 0 0), some (vI x1), some (vI x2), some (vI x3), l4, l5]) (rest := []) rfl h1).trans ?_
  refine (e_f (B := (72, 11, [some (vR 9 0 0), some (vI x1), some (vI x2), some (vI x3), l4, l5], [], σ1)) rfl h2).trans ?_
  refine (e_n 3 (fr' := (72, 16, [some (vR 9 0 0), some (vI x1), some (vI x2), some (vI x3), l4, l5], [vI x2, vR 5 0 0], σ1)) rfl).trans ?_
  refine (e_ci (m := 72) (pc := 19) (ls := [some (vR 9 0 0), some (vI x1), some (vI x2), some (vI x3), l4, l5]) (rest := []) rfl h3).trans ?_
  refine (e_f (B := (72, 24, [some (vR 9 0 0), some (vI x1), some (vI x2), some (vI x3), l4, l5], [], σ2)) rfl h4).trans ?_
  refine (e_n 1 (fr' := (72, 25, [some (vR 9 0 0), some (vI x1), some (vI x2), some (vI x3), l4, l5], [vI x3], σ2)) rfl).trans ?_
  refine (e_ci (m := 72) (pc := 28) (ls := [some (vR 9 0 0), some (vI x1), some (vI x2), some (vI x3), l4, l5]) (rest := []) rfl h5).trans ?_
  refine (e_f (B := (72, 31, [some (vR 9 0 0), some (vI x1), some (vI x2), some (vI x3), l4, l5], [], σ3)) rfl h6).trans ?_
  refine (e_n 4 (fr' := (72, 39, [some (vR 9 0 0), some (vI x1), some (vI x2), some (vI x3), l4, l5], [vI x1, vR 5 0 1], σ3)) rfl).trans ?_
  refine (e_a (A := (72, 40, [some (vR 9 0 0), some (vI x1), some (vI x2), some (vI x3), l4, l5], [vI (σ3.1 5 0 0 (x1).toNatClampNeg)], σ3)) rfl h7).trans ?_
  refine (e_t (A := (72, 43, [some (vR 9 0 0), some (vI x1), some (vI x2), some (vI x3), l4, l5], [], σ3)) rfl h8).trans ?_
  refine (e_n 4 (fr' := (72, 51, [some (vR 9 0 0), some (vI x1), some (vI x2), some (vI x3), l4, l5], [vI x2, vR 5 0 1], σ3)) rfl).trans ?_
  refine (e_a (A := (72, 52, [some (vR 9 0 0), some (vI x1), some (vI x2), some (vI x3), l4, l5], [vI (σ3.1 5 0 0 (x2).toNatClampNeg)], σ3)) rfl h9).trans ?_
  refine (e_n 1 (fr' := (72, 53, [some (vR 9 0 0), some (vI x1), some (vI x2), some (vI x3), l4, l5], [vI (1 : Int32), vI (σ3.1 5 0 0 (x2).toNatClampNeg)], σ3)) rfl).trans ?_
  refine (e_t (A := (72, 59, [some (vR 9 0 0), some (vI x1), some (vI x2), some (vI x3), l4, l5], [], σ3)) rfl h10).trans ?_
  refine (e_n 3 (fr' := (72, 62, [some (vR 9 0 0), some (vI x1), some (vI x2), some (vI x3), l4, l5], [vI x3, vI x1, vR 9 0 0], σ3)) rfl).trans ?_
  refine (e_ci (m := 72) (pc := 65) (ls := [some (vR 9 0 0), some (vI x1), some (vI x2), some (vI x3), l4, l5]) (rest := []) rfl h11).trans ?_
  refine (e_n 4 (fr' := (72, 70, [some (vR 9 0 0), some (vI x1), some (vI x2), some (vI x3), some (vI r4), l5], [vI x3, vI x2, vR 9 0 0], σ4)) rfl).trans ?_
  refine (e_ci (m := 72) (pc := 73) (ls := [some (vR 9 0 0), some (vI x1), some (vI x2), some (vI x3), some (vI r4), l5]) (rest := []) rfl h12).trans ?_
  refine (e_n 2 (fr' := (72, 77, [some (vR 9 0 0), some (vI x1), some (vI x2), some (vI x3), some (vI r4), some (vI r5)], [vI r4], σ5)) rfl).trans ?_
  refine (e_f (B := (72, 80, [some (vR 9 0 0), some (vI x1), some (vI x2), some (vI x3), some (vI r4), some (vI r5)], [], σ5)) rfl h13).trans ?_
  refine (e_n 1 (fr' := (72, 82, [some (vR 9 0 0), some (vI x1), some (vI x2), some (vI x3), some (vI r4), some (vI r5)], [vI r5], σ5)) rfl).trans ?_
  refine (e_t (A := (72, 93, [some (vR 9 0 0), some (vI x1), some (vI x2), some (vI x3), some (vI r4), some (vI r5)], [], σ5)) rfl h14).trans ?_
  refine (e_n 3 (fr' := (72, 98, [some (vR 9 0 0), some (vI x1), some (vI x2), some (vI x3), some (vI r4), some (vI r5)], [vI (r4 + r5)], σ5)) rfl).trans ?_
  refine (e_t (A := (72, 109, [some (vR 9 0 0), some (vI x1), some (vI x2), some (vI x3), some (vI r4), some (vI r5)], [], σ5)) rfl h15).trans ?_
  refine (e_n 4 (fr' := (72, 113, [some (vR 9 0 0), some (vI x1), some (vI x2), some (vI x3), some (vI r4), some (vI r5)], [vI x3, vI x2, vI x1, vR 9 0 0], σ5)) rfl).trans ?_
  refine (e_ci (m := 72) (pc := 116) (ls := [some (vR 9 0 0), some (vI x1), some (vI x2), some (vI x3), some (vI r4), some (vI r5)]) (rest := []) rfl h16).trans ?_
  exact e_r rfl
set_option maxRecDepth 20000 in
theorem g72_0_6 (C : pmC) {σ : pmS} {x1 : Int32} {x2 : Int32} {x3 : Int32} {l4 : Option pmV} {l5 : Option pmV} {σ1 : pmS} {r1 : Int32} {σ2 : pmS} {r2 : Int32} {σ3 : pmS} {r3 : Int32} {σ4 : pmS} {r4 : Int32} {σ5 : pmS} {r5 : Int32} (h1 : C 32 [vR 5 0 0, vI x1] σ = some (some (vI r1), σ1)) (h2 : ¬ r1 = 0) (h3 : C 32 [vR 5 0 0, vI x2] σ1 = some (some (vI r2), σ2)) (h4 : ¬ r2 = 0) (h5 : C 90 [vI x3] σ2 = some (some (vI r3), σ3)) (h6 : ¬ r3 = 0) (h7 : vp_in x1 48) (h8 : (σ3.1 5 0 0 (x1).toNatClampNeg) = 0) (h9 : vp_in x2 48) (h10 : (σ3.1 5 0 0 (x2).toNatClampNeg) = (1 : Int32)) (h11 : C 97 [vR 9 0 0, vI x1, vI x3] σ3 = some (some (vI r4), σ4)) (h12 : C 97 [vR 9 0 0, vI x2, vI x3] σ4 = some (some (vI r5), σ5)) (h13 : ¬ r4 = 0) (h14 : r5 = 0) (h15 : ¬ (r4 + r5) = 0) : pq_Rn C (72, 0, [some (vR 9 0 0), some (vI x1), some (vI x2), some (vI x3), l4, l5], [], σ) = some (some (vI (r4 + r5)), σ5) := by
  refine (e_n 3 (fr' := (72, 5, [some (vR 9 0 0), some (vI x1), some (vI x2), some (vI x3), l4, l5], [vI x1, vR 5 0 0], σ)) rfl).trans ?_
  refine (e_ci (m := 72) (pc := 8) (ls := [some (vR 9 0 0), some (vI x1), some (vI x2), some (vI x3), l4, l5]) (rest := []) rfl h1).trans ?_
  refine (e_f (B := (72, 11, [some (vR 9 0 0), some (vI x1), some (vI x2), some (vI x3), l4, l5], [], σ1)) rfl h2).trans ?_
  refine (e_n 3 (fr' := (72, 16, [some (vR 9 0 0), some (vI x1), some (vI x2), some (vI x3), l4, l5], [vI x2, vR 5 0 0], σ1)) rfl).trans ?_
  refine (e_ci (m := 72) (pc := 19) (ls := [some (vR 9 0 0), some (vI x1), some (vI x2), some (vI x3), l4, l5]) (rest := []) rfl h3).trans ?_
  refine (e_f (B := (72, 24, [some (vR 9 0 0), some (vI x1), some (vI x2), some (vI x3), l4, l5], [], σ2)) rfl h4).trans ?_
  refine (e_n 1 (fr' := (72, 25, [some (vR 9 0 0), some (vI x1), some (vI x2), some (vI x3), l4, l5], [vI x3], σ2)) rfl).trans ?_
  refine (e_ci (m := 72) (pc := 28) (ls := [some (vR 9 0 0), some (vI x1), some (vI x2), some (vI x3), l4, l5]) (rest := []) rfl h5).trans ?_
  refine (e_f (B := (72, 31, [some (vR 9 0 0), some (vI x1), some (vI x2), some (vI x3), l4, l5], [], σ3)) rfl h6).trans ?_
  refine (e_n 4 (fr' := (72, 39, [some (vR 9 0 0), some (vI x1), some (vI x2), some (vI x3), l4, l5], [vI x1, vR 5 0 1], σ3)) rfl).trans ?_
  refine (e_a (A := (72, 40, [some (vR 9 0 0), some (vI x1), some (vI x2), some (vI x3), l4, l5], [vI (σ3.1 5 0 0 (x1).toNatClampNeg)], σ3)) rfl h7).trans ?_
  refine (e_t (A := (72, 43, [some (vR 9 0 0), some (vI x1), some (vI x2), some (vI x3), l4, l5], [], σ3)) rfl h8).trans ?_
  refine (e_n 4 (fr' := (72, 51, [some (vR 9 0 0), some (vI x1), some (vI x2), some (vI x3), l4, l5], [vI x2, vR 5 0 1], σ3)) rfl).trans ?_
  refine (e_a (A := (72, 52, [some (vR 9 0 0), some (vI x1), some (vI x2), some (vI x3), l4, l5], [vI (σ3.1 5 0 0 (x2).toNatClampNeg)], σ3)) rfl h9).trans ?_
  refine (e_n 1 (fr' := (72, 53, [some (vR 9 0 0), some (vI x1), some (vI x2), some (vI x3), l4, l5], [vI (1 : Int32), vI (σ3.1 5 0 0 (x2).toNatClampNeg)], σ3)) rfl).trans ?_
  refine (e_t (A := (72, 59, [some (vR 9 0 0), some (vI x1), some (vI x2), some (vI x3), l4, l5], [], σ3)) rfl h10).trans ?_
  refine (e_n 3 (fr' := (72, 62, [some (vR 9 0 0), some (vI x1), some (vI x2), some (vI x3), l4, l5], [vI x3, vI x1, vR 9 0 0], σ3)) rfl).trans ?_
  refine (e_ci (m := 72) (pc := 65) (ls := [some (vR 9 0 0), some (vI x1), some (vI x2), some (vI x3), l4, l5]) (rest := []) rfl h11).trans ?_
  refine (e_n 4 (fr' := (72, 70, [some (vR 9 0 0), some (vI x1), some (vI x2), some (vI x3), some (vI r4), l5], [vI x3, vI x2, vR 9 0 0], σ4)) rfl).trans ?_
  refine (e_ci (m := 72) (pc := 73) (ls := [some (vR 9 0 0), some (vI x1), some (vI x2), some (vI x3), some (vI r4), l5]) (rest := []) rfl h12).trans ?_
  refine (e_n 2 (fr' := (72, 77, [some (vR 9 0 0), some (vI x1), some (vI x2), some (vI x3), some (vI r4), some (vI r5)], [vI r4], σ5)) rfl).trans ?_
  refine (e_f (B := (72, 80, [some (vR 9 0 0), some (vI x1), some (vI x2), some (vI x3), some (vI r4), some (vI r5)], [], σ5)) rfl h13).trans ?_
  refine (e_n 1 (fr' := (72, 82, [some (vR 9 0 0), some (vI x1), some (vI x2), some (vI x3), some (vI r4), some (vI r5)], [vI r5], σ5)) rfl).trans ?_
  refine (e_t (A := (72, 93, [some (vR 9 0 0), some (vI x1), some (vI x2), some (vI x3), some (vI r4), some (vI r5)], [], σ5)) rfl h14).trans ?_
  refine (e_n 3 (fr' := (72, 98, [some (vR 9 0 0), some (vI x1), some (vI x2), some (vI x3), some (vI r4), some (vI r5)], [vI (r4 + r5)], σ5)) rfl).trans ?_
  refine (e_f (B := (72, 101, [some (vR 9 0 0), some (vI x1), some (vI x2), some (vI x3), some (vI r4), some (vI r5)], [], σ5)) rfl h15).trans ?_
  refine (e_n 4 (fr' := (72, 116, [some (vR 9 0 0), some (vI x1), some (vI x2), some (vI x3), some (vI r4), some (vI r5)], [vI (r4 + r5)], σ5)) rfl).trans ?_
  exact e_r rfl
set_option maxRecDepth 20000 in
theorem g72_0_7 (C : pmC) {σ : pmS} {x1 : Int32} {x2 : Int32} {x3 : Int32} {l4 : Option pmV} {l5 : Option pmV} {σ1 : pmS} {r1 : Int32} {σ2 : pmS} {r2 : Int32} {σ3 : pmS} {r3 : Int32} {σ4 : pmS} {r4 : Int32} {σ5 : pmS} {r5 : Int32} (h1 : C 32 [vR 5 0 0, vI x1] σ = some (some (vI r1), σ1)) (h2 : ¬ r1 = 0) (h3 : C 32 [vR 5 0 0, vI x2] σ1 = some (some (vI r2), σ2)) (h4 : ¬ r2 = 0) (h5 : C 90 [vI x3] σ2 = some (some (vI r3), σ3)) (h6 : ¬ r3 = 0) (h7 : vp_in x1 48) (h8 : (σ3.1 5 0 0 (x1).toNatClampNeg) = 0) (h9 : vp_in x2 48) (h10 : (σ3.1 5 0 0 (x2).toNatClampNeg) = (1 : Int32)) (h11 : C 97 [vR 9 0 0, vI x1, vI x3] σ3 = some (some (vI r4), σ4)) (h12 : C 97 [vR 9 0 0, vI x2, vI x3] σ4 = some (some (vI r5), σ5)) (h13 : ¬ r4 = 0) (h14 : ¬ r5 = 0) : pq_Rn C (72, 0, [some (vR 9 0 0), some (vI x1), some (vI x2), some (vI x3), l4, l5], [], σ) = some (some (vI (if r5 < r4 then r5 else r4)), σ5) := by
  refine (e_n 3 (fr' := (72, 5, [some (vR 9 0 0), some (vI x1), some (vI x2), some (vI x3), l4, l5], [vI x1, vR 5 0 0], σ)) rfl).trans ?_
  refine (e_ci (m := 72) (pc := 8) (ls := [some (vR 9 0 0), some (vI x1), some (vI x2), some (vI x3), l4, l5]) (rest := []) rfl h1).trans ?_
  refine (e_f (B := (72, 11, [some (vR 9 0 0), some (vI x1), some (vI x2), some (vI x3), l4, l5], [], σ1)) rfl h2).trans ?_
  refine (e_n 3 (fr' := (72, 16, [some (vR 9 0 0), some (vI x1), some (vI x2), some (vI x3), l4, l5], [vI x2, vR 5 0 0], σ1)) rfl).trans ?_
  refine (e_ci (m := 72) (pc := 19) (ls := [some (vR 9 0 0), some (vI x1), some (vI x2), some (vI x3), l4, l5]) (rest := []) rfl h3).trans ?_
  refine (e_f (B := (72, 24, [some (vR 9 0 0), some (vI x1), some (vI x2), some (vI x3), l4, l5], [], σ2)) rfl h4).trans ?_
  refine (e_n 1 (fr' := (72, 25, [some (vR 9 0 0), some (vI x1), some (vI x2), some (vI x3), l4, l5], [vI x3], σ2)) rfl).trans ?_
  refine (e_ci (m := 72) (pc := 28) (ls := [some (vR 9 0 0), some (vI x1), some (vI x2), some (vI x3), l4, l5]) (rest := []) rfl h5).trans ?_
  refine (e_f (B := (72, 31, [some (vR 9 0 0), some (vI x1), some (vI x2), some (vI x3), l4, l5], [], σ3)) rfl h6).trans ?_
  refine (e_n 4 (fr' := (72, 39, [some (vR 9 0 0), some (vI x1), some (vI x2), some (vI x3), l4, l5], [vI x1, vR 5 0 1], σ3)) rfl).trans ?_
  refine (e_a (A := (72, 40, [some (vR 9 0 0), some (vI x1), some (vI x2), some (vI x3), l4, l5], [vI (σ3.1 5 0 0 (x1).toNatClampNeg)], σ3)) rfl h7).trans ?_
  refine (e_t (A := (72, 43, [some (vR 9 0 0), some (vI x1), some (vI x2), some (vI x3), l4, l5], [], σ3)) rfl h8).trans ?_
  refine (e_n 4 (fr' := (72, 51, [some (vR 9 0 0), some (vI x1), some (vI x2), some (vI x3), l4, l5], [vI x2, vR 5 0 1], σ3)) rfl).trans ?_
  refine (e_a (A := (72, 52, [some (vR 9 0 0), some (vI x1), some (vI x2), some (vI x3), l4, l5], [vI (σ3.1 5 0 0 (x2).toNatClampNeg)], σ3)) rfl h9).trans ?_
  refine (e_n 1 (fr' := (72, 53, [some (vR 9 0 0), some (vI x1), some (vI x2), some (vI x3), l4, l5], [vI (1 : Int32), vI (σ3.1 5 0 0 (x2).toNatClampNeg)], σ3)) rfl).trans ?_
  refine (e_t (A := (72, 59, [some (vR 9 0 0), some (vI x1), some (vI x2), some (vI x3), l4, l5], [], σ3)) rfl h10).trans ?_
  refine (e_n 3 (fr' := (72, 62, [some (vR 9 0 0), some (vI x1), some (vI x2), some (vI x3), l4, l5], [vI x3, vI x1, vR 9 0 0], σ3)) rfl).trans ?_
  refine (e_ci (m := 72) (pc := 65) (ls := [some (vR 9 0 0), some (vI x1), some (vI x2), some (vI x3), l4, l5]) (rest := []) rfl h11).trans ?_
  refine (e_n 4 (fr' := (72, 70, [some (vR 9 0 0), some (vI x1), some (vI x2), some (vI x3), some (vI r4), l5], [vI x3, vI x2, vR 9 0 0], σ4)) rfl).trans ?_
  refine (e_ci (m := 72) (pc := 73) (ls := [some (vR 9 0 0), some (vI x1), some (vI x2), some (vI x3), some (vI r4), l5]) (rest := []) rfl h12).trans ?_
  refine (e_n 2 (fr' := (72, 77, [some (vR 9 0 0), some (vI x1), some (vI x2), some (vI x3), some (vI r4), some (vI r5)], [vI r4], σ5)) rfl).trans ?_
  refine (e_f (B := (72, 80, [some (vR 9 0 0), some (vI x1), some (vI x2), some (vI x3), some (vI r4), some (vI r5)], [], σ5)) rfl h13).trans ?_
  refine (e_n 1 (fr' := (72, 82, [some (vR 9 0 0), some (vI x1), some (vI x2), some (vI x3), some (vI r4), some (vI r5)], [vI r5], σ5)) rfl).trans ?_
  refine (e_f (B := (72, 85, [some (vR 9 0 0), some (vI x1), some (vI x2), some (vI x3), some (vI r4), some (vI r5)], [], σ5)) rfl h14).trans ?_
  refine (e_n 3 (fr' := (72, 92, [some (vR 9 0 0), some (vI x1), some (vI x2), some (vI x3), some (vI r4), some (vI r5)], [vI (if r5 < r4 then r5 else r4)], σ5)) rfl).trans ?_
  exact e_r rfl
set_option maxRecDepth 20000 in
theorem g72_0_8 (C : pmC) {σ : pmS} {x1 : Int32} {x2 : Int32} {x3 : Int32} {l4 : Option pmV} {l5 : Option pmV} {σ1 : pmS} {r1 : Int32} {σ2 : pmS} {r2 : Int32} {σ3 : pmS} {r3 : Int32} (h1 : C 32 [vR 5 0 0, vI x1] σ = some (some (vI r1), σ1)) (h2 : ¬ r1 = 0) (h3 : C 32 [vR 5 0 0, vI x2] σ1 = some (some (vI r2), σ2)) (h4 : ¬ r2 = 0) (h5 : C 90 [vI x3] σ2 = some (some (vI r3), σ3)) (h6 : ¬ r3 = 0) (h7 : vp_in x1 48) (h8 : (σ3.1 5 0 0 (x1).toNatClampNeg) = 0) (h9 : vp_in x2 48) (h10 : ¬ (σ3.1 5 0 0 (x2).toNatClampNeg) = (1 : Int32)) : pq_Rn C (72, 0, [some (vR 9 0 0), some (vI x1), some (vI x2), some (vI x3), l4, l5], [], σ) = some (some (vI (-2 : Int32)), σ3) := by
  refine (e_n 3 (fr' := (72, 5, [some (vR 9 0 0), some (vI x1), some (vI x2), some (vI x3), l4, l5], [vI x1, vR 5 0 0], σ)) rfl).trans ?_
  refine (e_ci (m := 72) (pc := 8) (ls := [some (vR 9 0 0), some (vI x1), some (vI x2), some (vI x3), l4, l5]) (rest := []) rfl h1).trans ?_
  refine (e_f (B := (72, 11, [some (vR 9 0 0), some (vI x1), some (vI x2), some (vI x3), l4, l5], [], σ1)) rfl h2).trans ?_
  refine (e_n 3 (fr' := (72, 16, [some (vR 9 0 0), some (vI x1), some (vI x2), some (vI x3), l4, l5], [vI x2, vR 5 0 0], σ1)) rfl).trans ?_
  refine (e_ci (m := 72) (pc := 19) (ls := [some (vR 9 0 0), some (vI x1), some (vI x2), some (vI x3), l4, l5]) (rest := []) rfl h3).trans ?_
  refine (e_f (B := (72, 24, [some (vR 9 0 0), some (vI x1), some (vI x2), some (vI x3), l4, l5], [], σ2)) rfl h4).trans ?_
  refine (e_n 1 (fr' := (72, 25, [some (vR 9 0 0), some (vI x1), some (vI x2), some (vI x3), l4, l5], [vI x3], σ2)) rfl).trans ?_
  refine (e_ci (m := 72) (pc := 28) (ls := [some (vR 9 0 0), some (vI x1), some (vI x2), some (vI x3), l4, l5]) (rest := []) rfl h5).trans ?_
  refine (e_f (B := (72, 31, [some (vR 9 0 0), some (vI x1), some (vI x2), some (vI x3), l4, l5], [], σ3)) rfl h6).trans ?_
  refine (e_n 4 (fr' := (72, 39, [some (vR 9 0 0), some (vI x1), some (vI x2), some (vI x3), l4, l5], [vI x1, vR 5 0 1], σ3)) rfl).trans ?_
  refine (e_a (A := (72, 40, [some (vR 9 0 0), some (vI x1), some (vI x2), some (vI x3), l4, l5], [vI (σ3.1 5 0 0 (x1).toNatClampNeg)], σ3)) rfl h7).trans ?_
  refine (e_t (A := (72, 43, [some (vR 9 0 0), some (vI x1), some (vI x2), some (vI x3), l4, l5], [], σ3)) rfl h8).trans ?_
  refine (e_n 4 (fr' := (72, 51, [some (vR 9 0 0), some (vI x1), some (vI x2), some (vI x3), l4, l5], [vI x2, vR 5 0 1], σ3)) rfl).trans ?_
  refine (e_a (A := (72, 52, [some (vR 9 0 0), some (vI x1), some (vI x2), some (vI x3), l4, l5], [vI (σ3.1 5 0 0 (x2).toNatClampNeg)], σ3)) rfl h9).trans ?_
  refine (e_n 1 (fr' := (72, 53, [some (vR 9 0 0), some (vI x1), some (vI x2), some (vI x3), l4, l5], [vI (1 : Int32), vI (σ3.1 5 0 0 (x2).toNatClampNeg)], σ3)) rfl).trans ?_
  refine (e_f (B := (72, 56, [some (vR 9 0 0), some (vI x1), some (vI x2), some (vI x3), l4, l5], [], σ3)) rfl h10).trans ?_
  refine (e_n 1 (fr' := (72, 58, [some (vR 9 0 0), some (vI x1), some (vI x2), some (vI x3), l4, l5], [vI (-2 : Int32)], σ3)) rfl).trans ?_
  exact e_r rfl
set_option maxRecDepth 20000 in
theorem g72_0_9 (C : pmC) {σ : pmS} {x1 : Int32} {x2 : Int32} {x3 : Int32} {l4 : Option pmV} {l5 : Option pmV} {σ1 : pmS} {r1 : Int32} {σ2 : pmS} {r2 : Int32} {σ3 : pmS} {r3 : Int32} (h1 : C 32 [vR 5 0 0, vI x1] σ = some (some (vI r1), σ1)) (h2 : ¬ r1 = 0) (h3 : C 32 [vR 5 0 0, vI x2] σ1 = some (some (vI r2), σ2)) (h4 : ¬ r2 = 0) (h5 : C 90 [vI x3] σ2 = some (some (vI r3), σ3)) (h6 : ¬ r3 = 0) (h7 : vp_in x1 48) (h8 : ¬ (σ3.1 5 0 0 (x1).toNatClampNeg) = 0) : pq_Rn C (72, 0, [some (vR 9 0 0), some (vI x1), some (vI x2), some (vI x3), l4, l5], [], σ) = some (some (vI (-2 : Int32)), σ3) := by
  refine (e_n 3 (fr' := (72, 5, [some (vR 9 0 0), some (vI x1), some (vI x2), some (vI x3), l4, l5], [vI x1, vR 5 0 0], σ)) rfl).trans ?_
  refine (e_ci (m := 72) (pc := 8) (ls := [some (vR 9 0 0), some (vI x1), some (vI x2), some (vI x3), l4, l5]) (rest := []) rfl h1).trans ?_
  refine (e_f (B := (72, 11, [some (vR 9 0 0), some (vI x1), some (vI x2), some (vI x3), l4, l5], [], σ1)) rfl h2).trans ?_
  refine (e_n 3 (fr' := (72, 16, [some (vR 9 0 0), some (vI x1), some (vI x2), some (vI x3), l4, l5], [vI x2, vR 5 0 0], σ1)) rfl).trans ?_
  refine (e_ci (m := 72) (pc := 19) (ls := [some (vR 9 0 0), some (vI x1), some (vI x2), some (vI x3), l4, l5]) (rest := []) rfl h3).trans ?_
  refine (e_f (B := (72, 24, [some (vR 9 0 0), some (vI x1), some (vI x2), some (vI x3), l4, l5], [], σ2)) rfl h4).trans ?_
  refine (e_n 1 (fr' := (72, 25, [some (vR 9 0 0), some (vI x1), some (vI x2), some (vI x3), l4, l5], [vI x3], σ2)) rfl).trans ?_
  refine (e_ci (m := 72) (pc := 28) (ls := [some (vR 9 0 0), some (vI x1), some (vI x2), some (vI x3), l4, l5]) (rest := []) rfl h5).trans ?_
  refine (e_f (B := (72, 31, [some (vR 9 0 0), some (vI x1), some (vI x2), some (vI x3), l4, l5], [], σ3)) rfl h6).trans ?_
  refine (e_n 4 (fr' := (72, 39, [some (vR 9 0 0), some (vI x1), some (vI x2), some (vI x3), l4, l5], [vI x1, vR 5 0 1], σ3)) rfl).trans ?_
  refine (e_a (A := (72, 40, [some (vR 9 0 0), some (vI x1), some (vI x2), some (vI x3), l4, l5], [vI (σ3.1 5 0 0 (x1).toNatClampNeg)], σ3)) rfl h7).trans ?_
  refine (e_f (B := (72, 56, [some (vR 9 0 0), some (vI x1), some (vI x2), some (vI x3), l4, l5], [], σ3)) rfl h8).trans ?_
  refine (e_n 1 (fr' := (72, 58, [some (vR 9 0 0), some (vI x1), some (vI x2), some (vI x3), l4, l5], [vI (-2 : Int32)], σ3)) rfl).trans ?_
  exact e_r rfl
set_option maxRecDepth 20000 in
theorem g73_0_0 (C : pmC) {σ : pmS} {x1 : Int32} {x2 : Int32} {σ1 : pmS} {r1 : Int32} (h1 : C 32 [vR 5 0 0, vI x1] σ = some (some (vI r1), σ1)) (h2 : r1 = 0) : pq_Rn C (73, 0, [some (vR 9 0 0), some (vI x1), some (vI x2)], [], σ) = some (some (vI (-5 : Int32)), σ1) := by
  refine (e_n 3 (fr' := (73, 5, [some (vR 9 0 0), some (vI x1), some (vI x2)], [vI x1, vR 5 0 0], σ)) rfl).trans ?_
  refine (e_ci (m := 73) (pc := 8) (ls := [some (vR 9 0 0), some (vI x1), some (vI x2)]) (rest := []) rfl h1).trans ?_
  refine (e_t (A := (73, 11, [some (vR 9 0 0), some (vI x1), some (vI x2)], [], σ1)) rfl h2).trans ?_
  refine (e_n 1 (fr' := (73, 13, [some (vR 9 0 0), some (vI x1), some (vI x2)], [vI (-5 : Int32)], σ1)) rfl).trans ?_
  exact e_r rfl
set_option maxRecDepth 20000 in
theorem g73_0_1 (C : pmC) {σ : pmS} {x1 : Int32} {x2 : Int32} {σ1 : pmS} {r1 : Int32} (h1 : C 32 [vR 5 0 0, vI x1] σ = some (some (vI r1), σ1)) (h2 : ¬ r1 = 0) (h3 : x2 = (0 : Int32)) (h4 : vp_in x1 48) : pq_Rn C (73, 0, [some (vR 9 0 0), some (vI x1), some (vI x2)], [], σ) = some (some (vI (σ1.1 5 0 0 (x1).toNatClampNeg)), σ1) := by
  refine (e_n 3 (fr' := (73, 5, [some (vR 9 0 0), some (vI x1), some (vI x2)], [vI x1, vR 5 0 0], σ)) rfl).trans ?_
  refine (e_ci (m := 73) (pc := 8) (ls := [some (vR 9 0 0), some (vI x1), some (vI x2)]) (rest := []) rfl h1).trans ?_
  refine (e_f (B := (73, 14, [some (vR 9 0 0), some (vI x1), some (vI x2)], [], σ1)) rfl h2).trans ?_
  refine (e_n 1 (fr' := (73, 15, [some (vR 9 0 0), some (vI x1), some (vI x2)], [vI x2], σ1)) rfl).trans ?_
  refine (e_g (A := (73, 64, [some (vR 9 0 0), some (vI x1), some (vI x2)], [], σ1)) (off' := 49) rfl (by rw [h3]; decide) rfl).trans ?_
  refine (e_n 4 (fr' := (73, 72, [some (vR 9 0 0), some (vI x1), some (vI x2)], [vI x1, vR 5 0 1], σ1)) rfl).trans ?_
  refine (e_a (A := (73, 73, [some (vR 9 0 0), some (vI x1), some (vI x2)], [vI (σ1.1 5 0 0 (x1).toNatClampNeg)], σ1)) rfl h4).trans ?_
  exact e_r rfl
set_option maxRecDepth 20000 in
theorem g73_0_2 (C : pmC) {σ : pmS} {x1 : Int32} {x2 : Int32} {σ1 : pmS} {r1 : Int32} (h1 : C 32 [vR 5 0 0, vI x1] σ = some (some (vI r1), σ1)) (h2 : ¬ r1 = 0) (h3 : x2 = (1 : Int32)) (h4 : vp_in x1 48) : pq_Rn C (73, 0, [some (vR 9 0 0), some (vI x1), some (vI x2)], [], σ) = some (some (vI (σ1.1 5 0 1 (x1).toNatClampNeg)), σ1) := by
  refine (e_n 3 (fr' := (73, 5, [some (vR 9 0 0), some (vI x1), some (vI x2)], [vI x1, vR 5 0 0], σ)) rfl).trans ?_
  refine (e_ci (m := 73) (pc := 8) (ls := [some (vR 9 0 0), some (vI x1), some (vI x2)]) (rest := []) rfl h1).trans ?_
  refine (e_f (B := (73, 14, [some (vR 9 0 0), some (vI x1), some (vI x2)], [], σ1)) rfl h2).trans ?_
  refine (e_n 1 (fr' := (73, 15, [some (vR 9 0 0), some (vI x1), some (vI x2)], [vI x2], σ1)) rfl).trans ?_
  refine (e_g (A := (73, 74, [some (vR 9 0 0), some (vI x1), some (vI x2)], [], σ1)) (off' := 59) rfl (by rw [h3]; decide) rfl).trans ?_
  refine (e_n 4 (fr' := (73, 82, [some (vR 9 0 0), some (vI x1), some (vI x2)], [vI x1, vR 5 0 2], σ1)) rfl).trans ?_
  refine (e_a (A := (73, 83, [some (vR 9 0 0), some (vI x1), some (vI x2)], [vI (σ1.1 5 0 1 (x1).toNatClampNeg)], σ1)) rfl h4).trans ?_
  exact e_r rfl
set_option maxRecDepth 20000 in
theorem g73_0_3 (C : pmC) {σ : pmS} {x1 : Int32} {x2 : Int32} {σ1 : pmS} {r1 : Int32} (h1 : C 32 [vR 5 0 0, vI x1] σ = some (some (vI r1), σ1)) (h2 : ¬ r1 = 0) (h3 : x2 = (2 : Int32)) (h4 : vp_in x1 48) : pq_Rn C (73, 0, [some (vR 9 0 0), some (vI x1), some (vI x2)], [], σ) = some (some (vI (σ1.1 5 0 2 (x1).toNatClampNeg)), σ1) := by
  refine (e_n 3 (fr' := (73, 5, [some (vR 9 0 0), some (vI x1), some (vI x2)], [vI x1, vR 5 0 0], σ)) rfl).trans ?_
  refine (e_ci (m := 73) (pc := 8) (ls := [some (vR 9 0 0), some (vI x1), some (vI x2)]) (rest := []) rfl h1).trans ?_
  refine (e_f (B := (73, 14, [some (vR 9 0 0), some (vI x1), some (vI x2)], [], σ1)) rfl h2).trans ?_
  refine (e_n 1 (fr' := (73, 15, [some (vR 9 0 0), some (vI x1), some (vI x2)], [vI x2], σ1)) rfl).trans ?_
  refine (e_g (A := (73, 84, [some (vR 9 0 0), some (vI x1), some (vI x2)], [], σ1)) (off' := 69) rfl (by rw [h3]; decide) rfl).trans ?_
  refine (e_n 4 (fr' := (73, 92, [some (vR 9 0 0), some (vI x1), some (vI x2)], [vI x1, vR 5 0 3], σ1)) rfl).trans ?_
  refine (e_a (A := (73, 93, [some (vR 9 0 0), some (vI x1), some (vI x2)], [vI (σ1.1 5 0 2 (x1).toNatClampNeg)], σ1)) rfl h4).trans ?_
  exact e_r rfl
set_option maxRecDepth 20000 in
theorem g73_0_4 (C : pmC) {σ : pmS} {x1 : Int32} {x2 : Int32} {σ1 : pmS} {r1 : Int32} (h1 : C 32 [vR 5 0 0, vI x1] σ = some (some (vI r1), σ1)) (h2 : ¬ r1 = 0) (h3 : x2 = (3 : Int32)) (h4 : vp_in x1 48) : pq_Rn C (73, 0, [some (vR 9 0 0), some (vI x1), some (vI x2)], [], σ) = some (some (vI (σ1.1 5 0 3 (x1).toNatClampNeg)), σ1) := by
  refine (e_n 3 (fr' := (73, 5, [some (vR 9 0 0), some (vI x1), some (vI x2)], [vI x1, vR 5 0 0], σ)) rfl).trans ?_
  refine (e_ci (m := 73) (pc := 8) (ls := [some (vR 9 0 0), some (vI x1), some (vI x2)]) (rest := []) rfl h1).trans ?_
  refine (e_f (B := (73, 14, [some (vR 9 0 0), some (vI x1), some (vI x2)], [], σ1)) rfl h2).trans ?_
  refine (e_n 1 (fr' := (73, 15, [some (vR 9 0 0), some (vI x1), some (vI x2)], [vI x2], σ1)) rfl).trans ?_
  refine (e_g (A := (73, 94, [some (vR 9 0 0), some (vI x1), some (vI x2)], [], σ1)) (off' := 79) rfl (by rw [h3]; decide) rfl).trans ?_
  refine (e_n 4 (fr' := (73, 102, [some (vR 9 0 0), some (vI x1), some (vI x2)], [vI x1, vR 5 0 4], σ1)) rfl).trans ?_
  refine (e_a (A := (73, 103, [some (vR 9 0 0), some (vI x1), some (vI x2)], [vI (σ1.1 5 0 3 (x1).toNatClampNeg)], σ1)) rfl h4).trans ?_
  exact e_r rfl
set_option maxRecDepth 20000 in
theorem g73_0_5 (C : pmC) {σ : pmS} {x1 : Int32} {x2 : Int32} {σ1 : pmS} {r1 : Int32} (h1 : C 32 [vR 5 0 0, vI x1] σ = some (some (vI r1), σ1)) (h2 : ¬ r1 = 0) (h3 : x2 = (4 : Int32)) (h4 : vp_in x1 48) : pq_Rn C (73, 0, [some (vR 9 0 0), some (vI x1), some (vI x2)], [], σ) = some (some (vI (σ1.1 5 0 4 (x1).toNatClampNeg)), σ1) := by
  refine (e_n 3 (fr' := (73, 5, [some (vR 9 0 0), some (vI x1), some (vI x2)], [vI x1, vR 5 0 0], σ)) rfl).trans ?_
  refine (e_ci (m := 73) (pc := 8) (ls := [some (vR 9 0 0), some (vI x1), some (vI x2)]) (rest := []) rfl h1).trans ?_
  refine (e_f (B := (73, 14, [some (vR 9 0 0), some (vI x1), some (vI x2)], [], σ1)) rfl h2).trans ?_
  refine (e_n 1 (fr' := (73, 15, [some (vR 9 0 0), some (vI x1), some (vI x2)], [vI x2], σ1)) rfl).trans ?_
  refine (e_g (A := (73, 104, [some (vR 9 0 0), some (vI x1), some (vI x2)], [], σ1)) (off' := 89) rfl (by rw [h3]; decide) rfl).trans ?_
  refine (e_n 4 (fr' := (73, 112, [some (vR 9 0 0), some (vI x1), some (vI x2)], [vI x1, vR 5 0 5], σ1)) rfl).trans ?_
  refine (e_a (A := (73, 113, [some (vR 9 0 0), some (vI x1), some (vI x2)], [vI (σ1.1 5 0 4 (x1).toNatClampNeg)], σ1)) rfl h4).trans ?_
  exact e_r rfl
set_option maxRecDepth 20000 in
theorem g73_0_6 (C : pmC) {σ : pmS} {x1 : Int32} {x2 : Int32} {σ1 : pmS} {r1 : Int32} (h1 : C 32 [vR 5 0 0, vI x1] σ = some (some (vI r1), σ1)) (h2 : ¬ r1 = 0) (h3 : x2 = (5 : Int32)) (h4 : vp_in x1 48) : pq_Rn C (73, 0, [some (vR 9 0 0), some (vI x1), some (vI x2)], [], σ) = some (some (vI (σ1.1 5 0 5 (x1).toNatClampNeg)), σ1) := by
  refine (e_n 3 (fr' := (73, 5, [some (vR 9 0 0), some (vI x1), some (vI x2)], [vI x1, vR 5 0 0], σ)) rfl).trans ?_
  refine (e_ci (m := 73) (pc := 8) (ls := [some (vR 9 0 0), some (vI x1), some (vI x2)]) (rest := []) rfl h1).trans ?_
  refine (e_f (B := (73, 14, [some (vR 9 0 0), some (vI x1), some (vI x2)], [], σ1)) rfl h2).trans ?_
  refine (e_n 1 (fr' := (73, 15, [some (vR 9 0 0), some (vI x1), some (vI x2)], [vI x2], σ1)) rfl).trans ?_
  refine (e_g (A := (73, 114, [some (vR 9 0 0), some (vI x1), some (vI x2)], [], σ1)) (off' := 99) rfl (by rw [h3]; decide) rfl).trans ?_
  refine (e_n 4 (fr' := (73, 122, [some (vR 9 0 0), some (vI x1), some (vI x2)], [vI x1, vR 5 0 6], σ1)) rfl).trans ?_
  refine (e_a (A := (73, 123, [some (vR 9 0 0), some (vI x1), some (vI x2)], [vI (σ1.1 5 0 5 (x1).toNatClampNeg)], σ1)) rfl h4).trans ?_
  exact e_r rfl
set_option maxRecDepth 20000 in
theorem g73_0_7 (C : pmC) {σ : pmS} {x1 : Int32} {x2 : Int32} {σ1 : pmS} {r1 : Int32} (h1 : C 32 [vR 5 0 0, vI x1] σ = some (some (vI r1), σ1)) (h2 : ¬ r1 = 0) (h3 : x2 = (6 : Int32)) (h4 : vp_in x1 48) : pq_Rn C (73, 0, [some (vR 9 0 0), some (vI x1), some (vI x2)], [], σ) = some (some (vI (σ1.1 5 0 7 (x1).toNatClampNeg)), σ1) := by
  refine (e_n 3 (fr' := (73, 5, [some (vR 9 0 0), some (vI x1), some (vI x2)], [vI x1, vR 5 0 0], σ)) rfl).trans ?_
  refine (e_ci (m := 73) (pc := 8) (ls := [some (vR 9 0 0), some (vI x1), some (vI x2)]) (rest := []) rfl h1).trans ?_
  refine (e_f (B := (73, 14, [some (vR 9 0 0), some (vI x1), some (vI x2)], [], σ1)) rfl h2).trans ?_
  refine (e_n 1 (fr' := (73, 15, [some (vR 9 0 0), some (vI x1), some (vI x2)], [vI x2], σ1)) rfl).trans ?_
  refine (e_g (A := (73, 124, [some (vR 9 0 0), some (vI x1), some (vI x2)], [], σ1)) (off' := 109) rfl (by rw [h3]; decide) rfl).trans ?_
  refine (e_n 4 (fr' := (73, 132, [some (vR 9 0 0), some (vI x1), some (vI x2)], [vI x1, vR 5 0 8], σ1)) rfl).trans ?_
  refine (e_a (A := (73, 133, [some (vR 9 0 0), some (vI x1), some (vI x2)], [vI (σ1.1 5 0 7 (x1).toNatClampNeg)], σ1)) rfl h4).trans ?_
  exact e_r rfl
set_option maxRecDepth 20000 in
theorem g73_0_8 (C : pmC) {σ : pmS} {x1 : Int32} {x2 : Int32} {σ1 : pmS} {r1 : Int32} (h1 : C 32 [vR 5 0 0, vI x1] σ = some (some (vI r1), σ1)) (h2 : ¬ r1 = 0) (h3 : x2 = (7 : Int32)) (h4 : vp_in x1 48) : pq_Rn C (73, 0, [some (vR 9 0 0), some (vI x1), some (vI x2)], [], σ) = some (some (vI (σ1.1 5 0 8 (x1).toNatClampNeg)), σ1) := by
  refine (e_n 3 (fr' := (73, 5, [some (vR 9 0 0), some (vI x1), some (vI x2)], [vI x1, vR 5 0 0], σ)) rfl).trans ?_
  refine (e_ci (m := 73) (pc := 8) (ls := [some (vR 9 0 0), some (vI x1), some (vI x2)]) (rest := []) rfl h1).trans ?_
  refine (e_f (B := (73, 14, [some (vR 9 0 0), some (vI x1), some (vI x2)], [], σ1)) rfl h2).trans ?_
  refine (e_n 1 (fr' := (73, 15, [some (vR 9 0 0), some (vI x1), some (vI x2)], [vI x2], σ1)) rfl).trans ?_
  refine (e_g (A := (73, 134, [some (vR 9 0 0), some (vI x1), some (vI x2)], [], σ1)) (off' := 119) rfl (by rw [h3]; decide) rfl).trans ?_
  refine (e_n 4 (fr' := (73, 142, [some (vR 9 0 0), some (vI x1), some (vI x2)], [vI x1, vR 5 0 9], σ1)) rfl).trans ?_
  refine (e_a (A := (73, 143, [some (vR 9 0 0), some (vI x1), some (vI x2)], [vI (σ1.1 5 0 8 (x1).toNatClampNeg)], σ1)) rfl h4).trans ?_
  exact e_r rfl
set_option maxRecDepth 20000 in
theorem g73_0_9 (C : pmC) {σ : pmS} {x1 : Int32} {x2 : Int32} {σ1 : pmS} {r1 : Int32} {σ2 : pmS} {r2 : Int32} (h1 : C 32 [vR 5 0 0, vI x1] σ = some (some (vI r1), σ1)) (h2 : ¬ r1 = 0) (h3 : x2 = (8 : Int32)) (h4 : C 37 [vR 5 0 0, vI x1] σ1 = some (some (vI r2), σ2)) (h5 : r2 = 0) : pq_Rn C (73, 0, [some (vR 9 0 0), some (vI x1), some (vI x2)], [], σ) = some (some (vI (0 : Int32)), σ2) := by
  refine (e_n 3 (fr' := (73, 5, [some (vR 9 0 0), some (vI x1), some (vI x2)], [vI x1, vR 5 0 0], σ)) rfl).trans ?_
  refine (e_ci (m := 73) (pc := 8) (ls := [some (vR 9 0 0), some (vI x1), some (vI x2)]) (rest := []) rfl h1).trans ?_
  refine (e_f (B := (73, 14, [some (vR 9 0 0), some (vI x1), some (vI x2)], [], σ1)) rfl h2).trans ?_
  refine (e_n 1 (fr' := (73, 15, [some (vR 9 0 0), some (vI x1), some (vI x2)], [vI x2], σ1)) rfl).trans ?_
  refine (e_g (A := (73, 144, [some (vR 9 0 0), some (vI x1), some (vI x2)], [], σ1)) (off' := 129) rfl (by rw [h3]; decide) rfl).trans ?_
  refine (e_n 3 (fr' := (73, 149, [some (vR 9 0 0), some (vI x1), some (vI x2)], [vI x1, vR 5 0 0], σ1)) rfl).trans ?_
  refine (e_ci (m := 73) (pc := 152) (ls := [some (vR 9 0 0), some (vI x1), some (vI x2)]) (rest := []) rfl h4).trans ?_
  refine (e_t (A := (73, 159, [some (vR 9 0 0), some (vI x1), some (vI x2)], [], σ2)) rfl h5).trans ?_
  refine (e_n 1 (fr' := (73, 160, [some (vR 9 0 0), some (vI x1), some (vI x2)], [vI (0 : Int32)], σ2)) rfl).trans ?_
  exact e_r rfl
set_option maxRecDepth 20000 in
theorem g73_0_10 (C : pmC) {σ : pmS} {x1 : Int32} {x2 : Int32} {σ1 : pmS} {r1 : Int32} {σ2 : pmS} {r2 : Int32} (h1 : C 32 [vR 5 0 0, vI x1] σ = some (some (vI r1), σ1)) (h2 : ¬ r1 = 0) (h3 : x2 = (8 : Int32)) (h4 : C 37 [vR 5 0 0, vI x1] σ1 = some (some (vI r2), σ2)) (h5 : ¬ r2 = 0) : pq_Rn C (73, 0, [some (vR 9 0 0), some (vI x1), some (vI x2)], [], σ) = some (some (vI (1 : Int32)), σ2) := by
  refine (e_n 3 (fr' := (73, 5, [some (vR 9 0 0), some (vI x1), some (vI x2)], [vI x1, vR 5 0 0], σ)) rfl).trans ?_
  refine (e_ci (m := 73) (pc := 8) (ls := [some (vR 9 0 0), some (vI x1), some (vI x2)]) (rest := []) rfl h1).trans ?_
  refine (e_f (B := (73, 14, [some (vR 9 0 0), some (vI x1), some (vI x2)], [], σ1)) rfl h2).trans ?_
  refine (e_n 1 (fr' := (73, 15, [some (vR 9 0 0), some (vI x1), some (vI x2)], [vI x2], σ1)) rfl).trans ?_
  refine (e_g (A := (73, 144, [some (vR 9 0 0), some (vI x1), some (vI x2)], [], σ1)) (off' := 129) rfl (by rw [h3]; decide) rfl).trans ?_
  refine (e_n 3 (fr' := (73, 149, [some (vR 9 0 0), some (vI x1), some (vI x2)], [vI x1, vR 5 0 0], σ1)) rfl).trans ?_
  refine (e_ci (m := 73) (pc := 152) (ls := [some (vR 9 0 0), some (vI x1), some (vI x2)]) (rest := []) rfl h4).trans ?_
  refine (e_f (B := (73, 155, [some (vR 9 0 0), some (vI x1), some (vI x2)], [], σ2)) rfl h5).trans ?_
  refine (e_n 2 (fr' := (73, 160, [some (vR 9 0 0), some (vI x1), some (vI x2)], [vI (1 : Int32)], σ2)) rfl).trans ?_
  exact e_r rfl
set_option maxRecDepth 20000 in
theorem g73_0_11 (C : pmC) {σ : pmS} {x1 : Int32} {x2 : Int32} {σ1 : pmS} {r1 : Int32} (h1 : C 32 [vR 5 0 0, vI x1] σ = some (some (vI r1), σ1)) (h2 : ¬ r1 = 0) (h3 : ¬ x2 = (0 : Int32)) (h4 : ¬ x2 = (1 : Int32)) (h5 : ¬ x2 = (2 : Int32)) (h6 : ¬ x2 = (3 : Int32)) (h7 : ¬ x2 = (4 : Int32)) (h8 : ¬ x2 = (5 : Int32)) (h9 : ¬ x2 = (6 : Int32)) (h10 : ¬ x2 = (7 : Int32)) (h11 : ¬ x2 = (8 : Int32)) : pq_Rn C (73, 0, [some (vR 9 0 0), some (vI x1), some (vI x2)], [], σ) = some (some (vI (-5 : Int32)), σ1) := by
  refine (e_n 3 (fr' := (73, 5, [some (vR 9 0 0), some (vI x1), some (vI x2)], [vI x1, vR 5 0 0], σ)) rfl).trans ?_
  refine (e_ci (m := 73) (pc := 8) (ls := [some (vR 9 0 0), some (vI x1), some (vI x2)]) (rest := []) rfl h1).trans ?_
  refine (e_f (B := (73, 14, [some (vR 9 0 0), some (vI x1), some (vI x2)], [], σ1)) rfl h2).trans ?_
  refine (e_n 1 (fr' := (73, 15, [some (vR 9 0 0), some (vI x1), some (vI x2)], [vI x2], σ1)) rfl).trans ?_
  refine (e_g (A := (73, 161, [some (vR 9 0 0), some (vI x1), some (vI x2)], [], σ1)) (off' := 146) rfl ((pm_sw_ne h3).trans ((pm_sw_ne h4).trans ((pm_sw_ne h5).trans ((pm_sw_ne h6).trans ((pm_sw_ne h7).trans ((pm_sw_ne h8).trans ((pm_sw_ne h9).trans ((pm_sw_ne h10).trans ((pm_sw_ne h11).trans (rfl)))))))))) rfl).trans ?_
  refine (e_n 1 (fr' := (73, 163, [some (vR 9 0 0), some (vI x1), some (vI x2)], [vI (-5 : Int32)], σ1)) rfl).trans ?_
  exact e_r rfl
set_option maxRecDepth 20000 in
theorem g74_0_0 (C : pmC) {σ : pmS} {x1 : Int32} {x2 : Int32} {σ1 : pmS} {r1 : Int32} (h1 : C 32 [vR 5 0 0, vI x1] σ = some (some (vI r1), σ1)) (h2 : r1 = 0) : pq_Rn C (74, 0, [some (vR 9 0 0), some (vI x1), some (vI x2)], [], σ) = some (some (vI (-1 : Int32)), σ1) := by
  refine (e_n 3 (fr' := (74, 5, [some (vR 9 0 0), some (vI x1), some (vI x2)], [vI x1, vR 5 0 0], σ)) rfl).trans ?_
  refine (e_ci (m := 74) (pc := 8) (ls := [some (vR 9 0 0), some (vI x1), some (vI x2)]) (rest := []) rfl h1).trans ?_
  refine (e_t (A := (74, 27, [some (vR 9 0 0), some (vI x1), some (vI x2)], [], σ1)) rfl h2).trans ?_
  refine (e_n 1 (fr' := (74, 28, [some (vR 9 0 0), some (vI x1), some (vI x2)], [vI (-1 : Int32)], σ1)) rfl).trans ?_
  exact e_r rfl
set_option maxRecDepth 20000 in
theorem g74_0_1 (C : pmC) {σ : pmS} {x1 : Int32} {x2 : Int32} {σ1 : pmS} {r1 : Int32} {σ2 : pmS} {r2 : Int32} (h1 : C 32 [vR 5 0 0, vI x1] σ = some (some (vI r1), σ1)) (h2 : ¬ r1 = 0) (h3 : C 53 [vR 8 0 0, vR 5 0 0, vI x1, vI x2] σ1 = some (some (vI r2), σ2)) : pq_Rn C (74, 0, [some (vR 9 0 0), some (vI x1), some (vI x2)], [], σ) = some (some (vI r2), σ2) := by
  refine (e_n 3 (fr' := (74, 5, [some (vR 9 0 0), some (vI x1), some (vI x2)], [vI x1, vR 5 0 0], σ)) rfl).trans ?_
  refine (e_ci (m := 74) (pc := 8) (ls := [some (vR 9 0 0), some (vI x1), some (vI x2)]) (rest := []) rfl h1).trans ?_
  refine (e_f (B := (74, 11, [some (vR 9 0 0), some (vI x1), some (vI x2)], [], σ1)) rfl h2).trans ?_
  refine (e_n 6 (fr' := (74, 21, [some (vR 9 0 0), some (vI x1), some (vI x2)], [vI x2, vI x1, vR 5 0 0, vR 8 0 0], σ1)) rfl).trans ?_
  refine (e_ci (m := 74) (pc := 24) (ls := [some (vR 9 0 0), some (vI x1), some (vI x2)]) (rest := []) rfl h3).trans ?_
  refine (e_n 1 (fr' := (74, 28, [some (vR 9 0 0), some (vI x1), some (vI x2)], [vI r2], σ2)) rfl).trans ?_
  exact e_r rfl
set_option maxRecDepth 20000 in
theorem g75_0_0 (C : pmC) {σ : pmS} {x1 : Int32} {x2 : Int32} {l3 : Option pmV} {l4 : Option pmV} {σ1 : pmS} {r1 : Int32} (h1 : C 32 [vR 5 0 0, vI x1] σ = some (some (vI r1), σ1)) (h2 : r1 = 0) : pq_Rn C (75, 0, [some (vR 9 0 0), some (vI x1), some (vI x2), l3, l4], [], σ) = some (some (vI (-1 : Int32)), σ1) := by
  refine (e_n 3 (fr' := (75, 5, [some (vR 9 0 0), some (vI x1), some (vI x2), l3, l4], [vI x1, vR 5 0 0], σ)) rfl).trans ?_
  refine (e_ci (m := 75) (pc := 8) (ls := [some (vR 9 0 0), some (vI x1), some (vI x2), l3, l4]) (rest := []) rfl h1).trans ?_
  refine (e_t (A := (75, 11, [some (vR 9 0 0), some (vI x1), some (vI x2), l3, l4], [], σ1)) rfl h2).trans ?_
  refine (e_n 1 (fr' := (75, 12, [some (vR 9 0 0), some (vI x1), some (vI x2), l3, l4], [vI (-1 : Int32)], σ1)) rfl).trans ?_
  exact e_r rfl
set_option maxRecDepth 20000 in
theorem g75_0_1 (C : pmC) {σ : pmS} {x1 : Int32} {x2 : Int32} {l3 : Option pmV} {l4 : Option pmV} {σ1 : pmS} {r1 : Int32} (h1 : C 32 [vR 5 0 0, vI x1] σ = some (some (vI r1), σ1)) (h2 : ¬ r1 = 0) : pq_Rn C (75, 0, [some (vR 9 0 0), some (vI x1), some (vI x2), l3, l4], [], σ) = pq_Rn C (75, 18, [some (vR 9 0 0), some (vI x1), some (vI x2), some (vI (0 : Int32)), some (vI (0 : Int32))], [], σ1) := by
  refine (e_n 3 (fr' := (75, 5, [some (vR 9 0 0), some (vI x1), some (vI x2), l3, l4], [vI x1, vR 5 0 0], σ)) rfl).trans ?_
  refine (e_ci (m := 75) (pc := 8) (ls := [some (vR 9 0 0), some (vI x1), some (vI x2), l3, l4]) (rest := []) rfl h1).trans ?_
  refine (e_f (B := (75, 13, [some (vR 9 0 0), some (vI x1), some (vI x2), l3, l4], [], σ1)) rfl h2).trans ?_
  exact e_n 4 rfl
set_option maxRecDepth 20000 in
theorem g75_18_0 (C : pmC) {σ : pmS} {x1 : Int32} {x2 : Int32} {x3 : Int32} {x4 : Int32} (h1 : (σ.1 5 0 9 0) ≤ x4) : pq_Rn C (75, 18, [some (vR 9 0 0), some (vI x1), some (vI x2), some (vI x3), some (vI x4)], [], σ) = some (some (vI x3), σ) := by
  refine (e_n 4 (fr' := (75, 27, [some (vR 9 0 0), some (vI x1), some (vI x2), some (vI x3), some (vI x4)], [vI (σ.1 5 0 9 0), vI x4], σ)) rfl).trans ?_
  refine (e_t (A := (75, 66, [some (vR 9 0 0), some (vI x1), some (vI x2), some (vI x3), some (vI x4)], [], σ)) rfl h1).trans ?_
  refine (e_n 1 (fr' := (75, 67, [some (vR 9 0 0), some (vI x1), some (vI x2), some (vI x3), some (vI x4)], [vI x3], σ)) rfl).trans ?_
  exact e_r rfl
set_option maxRecDepth 20000 in
theorem g75_18_1 (C : pmC) {σ : pmS} {x1 : Int32} {x2 : Int32} {x3 : Int32} {x4 : Int32} {σ1 : pmS} {r1 : Int32} (h1 : ¬ (σ.1 5 0 9 0) ≤ x4) (h2 : C 35 [vR 5 0 0, vI x1, vI x4] σ = some (some (vI r1), σ1)) (h3 : r1 = 0) : pq_Rn C (75, 18, [some (vR 9 0 0), some (vI x1), some (vI x2), some (vI x3), some (vI x4)], [], σ) = pq_Rn C (75, 18, [some (vR 9 0 0), some (vI x1), some (vI x2), some (vI x3), some (vI (x4 + (1 : Int32)))], [], σ1) := by
  refine (e_n 4 (fr' := (75, 27, [some (vR 9 0 0), some (vI x1), some (vI x2), some (vI x3), some (vI x4)], [vI (σ.1 5 0 9 0), vI x4], σ)) rfl).trans ?_
  refine (e_f (B := (75, 30, [some (vR 9 0 0), some (vI x1), some (vI x2), some (vI x3), some (vI x4)], [], σ)) rfl h1).trans ?_
  refine (e_n 4 (fr' := (75, 37, [some (vR 9 0 0), some (vI x1), some (vI x2), some (vI x3), some (vI x4)], [vI x4, vI x1, vR 5 0 0], σ)) rfl).trans ?_
  refine (e_ci (m := 75) (pc := 40) (ls := [some (vR 9 0 0), some (vI x1), some (vI x2), some (vI x3), some (vI x4)]) (rest := []) rfl h2).trans ?_
  refine (e_t (A := (75, 60, [some (vR 9 0 0), some (vI x1), some (vI x2), some (vI x3), some (vI x4)], [], σ1)) rfl h3).trans ?_
  exact e_n 2 rfl
set_option maxRecDepth 20000 in
theorem g75_18_2 (C : pmC) {σ : pmS} {x1 : Int32} {x2 : Int32} {x3 : Int32} {x4 : Int32} {σ1 : pmS} {r1 : Int32} (h1 : ¬ (σ.1 5 0 9 0) ≤ x4) (h2 : C 35 [vR 5 0 0, vI x1, vI x4] σ = some (some (vI r1), σ1)) (h3 : ¬ r1 = 0) (h4 : vp_in x4 48) (h5 : x2 < (σ1.1 5 0 1 (x4).toNatClampNeg)) : pq_Rn C (75, 18, [some (vR 9 0 0), some (vI x1), some (vI x2), some (vI x3), some (vI x4)], [], σ) = pq_Rn C (75, 18, [some (vR 9 0 0), some (vI x1), some (vI x2), some (vI x3), some (vI (x4 + (1 : Int32)))], [], σ1) := by
  refine (e_n 4 (fr' := (75, 27, [some (vR 9 0 0), some (vI x1), some (vI x2), some (vI x3), some (vI x4)], [vI (σ.1 5 0 9 0), vI x4], σ)) rfl).trans ?_
  refine (e_f (B := (75, 30, [some (vR 9 0 0), some (vI x1), some (vI x2), some (vI x3), some (vI x4)], [], σ)) rfl h1).trans ?_
  refine (e_n 4 (fr' := (75, 37, [some (vR 9 0 0), some (vI x1), some (vI x2), some (vI x3), some (vI x4)], [vI x4, vI x1, vR 5 0 0], σ)) rfl).trans ?_
  refine (e_ci (m := 75) (pc := 40) (ls := [some (vR 9 0 0), some (vI x1), some (vI x2), some (vI x3), some (vI x4)]) (rest := []) rfl h2).trans ?_
  refine (e_f (B := (75, 43, [some (vR 9 0 0), some (vI x1), some (vI x2), some (vI x3), some (vI x4)], [], σ1)) rfl h3).trans ?_
  refine (e_n 4 (fr' := (75, 52, [some (vR 9 0 0), some (vI x1), some (vI x2), some (vI x3), some (vI x4)], [vI x4, vR 5 0 2], σ1)) rfl).trans ?_
  refine (e_a (A := (75, 53, [some (vR 9 0 0), some (vI x1), some (vI x2), some (vI x3), some (vI x4)], [vI (σ1.1 5 0 1 (x4).toNatClampNeg)], σ1)) rfl h4).trans ?_
  refine (e_n 1 (fr' := (75, 54, [some (vR 9 0 0), some (vI x1), some (vI x2), some (vI x3), some (vI x4)], [vI x2, vI (σ1.1 5 0 1 (x4).toNatClampNeg)], σ1)) rfl).trans ?_
  refine (e_t (A := (75, 60, [some (vR 9 0 0), some (vI x1), some (vI x2), some (vI x3), some (vI x4)], [], σ1)) rfl h5).trans ?_
  exact e_n 2 rfl
set_option maxRecDepth 20000 in
theorem g75_18_3 (C : pmC) {σ : pmS} {x1 : Int32} {x2 : Int32} {x3 : Int32} {x4 : Int32} {σ1 : pmS} {r1 : Int32} (h1 : ¬ (σ.1 5 0 9 0) ≤ x4) (h2 : C 35 [vR 5 0 0, vI x1, vI x4] σ = some (some (vI r1), σ1)) (h3 : ¬ r1 = 0) (h4 : vp_in x4 48) (h5 : ¬ x2 < (σ1.1 5 0 1 (x4).toNatClampNeg)) : pq_Rn C (75, 18, [some (vR 9 0 0), some (vI x1), some (vI x2), some (vI x3), some (vI x4)], [], σ) = pq_Rn C (75, 18, [some (vR 9 0 0), some (vI x1), some (vI x2), some (vI (x3 + (1 : Int32))), some (vI (x4 + (1 : Int32)))], [], σ1) := by
  refine (e_n 4 (fr' := (75, 27, [some (vR 9 0 0), some (vI x1), some (vI x2), some (vI x3), some (vI x4)], [vI (σ.1 5 0 9 0), vI x4], σ)) rfl).trans ?_
  refine (e_f (B := (75, 30, [some (vR 9 0 0), some (vI x1), some (vI x2), some (vI x3), some (vI x4)], [], σ)) rfl h1).trans ?_
  refine (e_n 4 (fr' := (75, 37, [some (vR 9 0 0), some (vI x1), some (vI x2), some (vI x3), some (vI x4)], [vI x4, vI x1, vR 5 0 0], σ)) rfl).trans ?_
  refine (e_ci (m := 75) (pc := 40) (ls := [some (vR 9 0 0), some (vI x1), some (vI x2), some (vI x3), some (vI x4)]) (rest := []) rfl h2).trans ?_
  refine (e_f (B := (75, 43, [some (vR 9 0 0), some (vI x1), some (vI x2), some (vI x3), some (vI x4)], [], σ1)) rfl h3).trans ?_
  refine (e_n 4 (fr' := (75, 52, [some (vR 9 0 0), some (vI x1), some (vI x2), some (vI x3), some (vI x4)], [vI x4, vR 5 0 2], σ1)) rfl).trans ?_
  refine (e_a (A := (75, 53, [some (vR 9 0 0), some (vI x1), some (vI x2), some (vI x3), some (vI x4)], [vI (σ1.1 5 0 1 (x4).toNatClampNeg)], σ1)) rfl h4).trans ?_
  refine (e_n 1 (fr' := (75, 54, [some (vR 9 0 0), some (vI x1), some (vI x2), some (vI x3), some (vI x4)], [vI x2, vI (σ1.1 5 0 1 (x4).toNatClampNeg)], σ1)) rfl).trans ?_
  refine (e_f (B := (75, 57, [some (vR 9 0 0), some (vI x1), some (vI x2), some (vI x3), some (vI x4)], [], σ1)) rfl h5).trans ?_
  exact e_n 3 rfl
set_option maxRecDepth 20000 in
theorem g76_0_0 (C : pmC) {σ : pmS} {x1 : Int32} {x2 : Int32} {x3 : Int32} {l4 : Option pmV} {l5 : Option pmV} {l6 : Option pmV} {σ1 : pmS} {r1 : Int32} (h1 : C 88 [vR 9 0 0, vI x1] σ = some (some (vI r1), σ1)) (h2 : r1 = 0) : pq_Rn C (76, 0, [some (vR 9 0 0), some (vI x1), some (vI x2), some (vI x3), l4, l5, l6], [], σ) = some (some (vI (-1 : Int32)), σ1) := by
  refine (e_n 2 (fr' := (76, 2, [some (vR 9 0 0), some (vI x1), some (vI x2), some (vI x3), l4, l5, l6], [vI x1, vR 9 0 0], σ)) rfl).trans ?_
  refine (e_ci (m := 76) (pc := 5) (ls := [some (vR 9 0 0), some (vI x1), some (vI x2), some (vI x3), l4, l5, l6]) (rest := []) rfl h1).trans ?_
  refine (e_t (A := (76, 19, [some (vR 9 0 0), some (vI x1), some (vI x2), some (vI x3), l4, l5, l6], [], σ1)) rfl h2).trans ?_
  refine (e_n 1 (fr' := (76, 20, [some (vR 9 0 0), some (vI x1), some (vI x2), some (vI x3), l4, l5, l6], [vI (-1 : Int32)], σ1)) rfl).trans ?_
  exact e_r rfl
set_option maxRecDepth 20000 in
theorem g76_0_1 (C : pmC) {σ : pmS} {x1 : Int32} {x2 : Int32} {x3 : Int32} {l4 : Option pmV} {l5 : Option pmV} {l6 : Option pmV} {σ1 : pmS} {r1 : Int32} (h1 : C 88 [vR 9 0 0, vI x1] σ = some (some (vI r1), σ1)) (h2 : ¬ r1 = 0) (h3 : x3 < (-1 : Int32)) : pq_Rn C (76, 0, [some (vR 9 0 0), some (vI x1), some (vI x2), some (vI x3), l4, l5, l6], [], σ) = some (some (vI (-1 : Int32)), σ1) := by
  refine (e_n 2 (fr' := (76, 2, [some (vR 9 0 0), some (vI x1), some (vI x2), some (vI x3), l4, l5, l6], [vI x1, vR 9 0 0], σ)) rfl).trans ?_
  refine (e_ci (m := 76) (pc := 5) (ls := [some (vR 9 0 0), some (vI x1), some (vI x2), some (vI x3), l4, l5, l6]) (rest := []) rfl h1).trans ?_
  refine (e_f (B := (76, 8, [some (vR 9 0 0), some (vI x1), some (vI x2), some (vI x3), l4, l5, l6], [], σ1)) rfl h2).trans ?_
  refine (e_n 2 (fr' := (76, 10, [some (vR 9 0 0), some (vI x1), some (vI x2), some (vI x3), l4, l5, l6], [vI (-1 : Int32), vI x3], σ1)) rfl).trans ?_
  refine (e_t (A := (76, 19, [some (vR 9 0 0), some (vI x1), some (vI x2), some (vI x3), l4, l5, l6], [], σ1)) rfl h3).trans ?_
  refine (e_n 1 (fr' := (76, 20, [some (vR 9 0 0), some (vI x1), some (vI x2), some (vI x3), l4, l5, l6], [vI (-1 : Int32)], σ1)) rfl).trans ?_
  exact e_r rfl
set_option maxRecDepth 20000 in
theorem g76_0_2 (C : pmC) {σ : pmS} {x1 : Int32} {x2 : Int32} {x3 : Int32} {l4 : Option pmV} {l5 : Option pmV} {l6 : Option pmV} {σ1 : pmS} {r1 : Int32} (h1 : C 88 [vR 9 0 0, vI x1] σ = some (some (vI r1), σ1)) (h2 : ¬ r1 = 0) (h3 : ¬ x3 < (-1 : Int32)) (h4 : x3 < (8 : Int32)) : pq_Rn C (76, 0, [some (vR 9 0 0), some (vI x1), some (vI x2), some (vI x3), l4, l5, l6], [], σ) = pq_Rn C (76, 27, [some (vR 9 0 0), some (vI x1), some (vI x2), some (vI x3), some (vI (0 : Int32)), some (vI (0 : Int32)), l6], [], σ1) := by
  refine (e_n 2 (fr' := (76, 2, [some (vR 9 0 0), some (vI x1), some (vI x2), some (vI x3), l4, l5, l6], [vI x1, vR 9 0 0], σ)) rfl).trans ?_
  refine (e_ci (m := 76) (pc := 5) (ls := [some (vR 9 0 0), some (vI x1), some (vI x2), some (vI x3), l4, l5, l6]) (rest := []) rfl h1).trans ?_
  refine (e_f (B := (76, 8, [some (vR 9 0 0), some (vI x1), some (vI x2), some (vI x3), l4, l5, l6], [], σ1)) rfl h2).trans ?_
  refine (e_n 2 (fr' := (76, 10, [some (vR 9 0 0), some (vI x1), some (vI x2), some (vI x3), l4, l5, l6], [vI (-1 : Int32), vI x3], σ1)) rfl).trans ?_
  refine (e_f (B := (76, 13, [some (vR 9 0 0), some (vI x1), some (vI x2), some (vI x3), l4, l5, l6], [], σ1)) rfl h3).trans ?_
  refine (e_n 2 (fr' := (76, 16, [some (vR 9 0 0), some (vI x1), some (vI x2), some (vI x3), l4, l5, l6], [vI (8 : Int32), vI x3], σ1)) rfl).trans ?_
  refine (e_t (A := (76, 21, [some (vR 9 0 0), some (vI x1), some (vI x2), some (vI x3), l4, l5, l6], [], σ1)) rfl h4).trans ?_
  exact e_n 4 rfl
set_option maxRecDepth 20000 in
theorem g76_0_3 (C : pmC) {σ : pmS} {x1 : Int32} {x2 : Int32} {x3 : Int32} {l4 : Option pmV} {l5 : Option pmV} {l6 : Option pmV} {σ1 : pmS} {r1 : Int32} (h1 : C 88 [vR 9 0 0, vI x1] σ = some (some (vI r1), σ1)) (h2 : ¬ r1 = 0) (h3 : ¬ x3 < (-1 : Int32)) (h4 : ¬ x3 < (8 : Int32)) : pq_Rn C (76, 0, [some (vR 9 0 0), some (vI x1), some (vI x2), some (vI x3), l4, l5, l6], [], σ) = some (some (vI (-1 : Int32)), σ1) := by
  refine (e_n 2 (fr' := (76, 2, [some (vR 9 0 0), some (vI x1), some (vI x2), some (vI x3), l4, l5, l6], [vI x1, vR 9 0 0], σ)) rfl).trans ?_
  refine (e_ci (m := 76) (pc := 5) (ls := [some (vR 9 0 0), some (vI x1), some (vI x2), some (vI x3), l4, l5, l6]) (rest := []) rfl h1).trans ?_
  refine (e_f (B := (76, 8, [some (vR 9 0 0), some (vI x1), some (vI x2), some (vI x3), l4, l5, l6], [], σ1)) rfl h2).trans ?_
  refine (e_n 2 (fr' := (76, 10, [some (vR 9 0 0), some (vI x1), some (vI x2), some (vI x3), l4, l5, l6], [vI (-1 : Int32), vI x3], σ1)) rfl).trans ?_
  refine (e_f (B := (76, 13, [some (vR 9 0 0), some (vI x1), some (vI x2), some (vI x3), l4, l5, l6], [], σ1)) rfl h3).trans ?_
  refine (e_n 2 (fr' := (76, 16, [some (vR 9 0 0), some (vI x1), some (vI x2), some (vI x3), l4, l5, l6], [vI (8 : Int32), vI x3], σ1)) rfl).trans ?_
  refine (e_f (B := (76, 19, [some (vR 9 0 0), some (vI x1), some (vI x2), some (vI x3), l4, l5, l6], [], σ1)) rfl h4).trans ?_
  refine (e_n 1 (fr' := (76, 20, [some (vR 9 0 0), some (vI x1), some (vI x2), some (vI x3), l4, l5, l6], [vI (-1 : Int32)], σ1)) rfl).trans ?_
  exact e_r rfl
set_option maxRecDepth 20000 in
theorem g76_27_0 (C : pmC) {σ : pmS} {x1 : Int32} {x2 : Int32} {x3 : Int32} {x4 : Int32} {x5 : Int32} {l6 : Option pmV} (h1 : (σ.1 5 0 9 0) ≤ x5) : pq_Rn C (76, 27, [some (vR 9 0 0), some (vI x1), some (vI x2), some (vI x3), some (vI x4), some (vI x5), l6], [], σ) = some (some (vI x4), σ) := by
  refine (e_n 4 (fr' := (76, 36, [some (vR 9 0 0), some (vI x1), some (vI x2), some (vI x3), some (vI x4), some (vI x5), l6], [vI (σ.1 5 0 9 0), vI x5], σ)) rfl).trans ?_
  refine (e_t (A := (76, 106, [some (vR 9 0 0), some (vI x1), some (vI x2), some (vI x3), some (vI x4), some (vI x5), l6], [], σ)) rfl h1).trans ?_
  refine (e_n 1 (fr' := (76, 108, [some (vR 9 0 0), some (vI x1), some (vI x2), some (vI x3), some (vI x4), some (vI x5), l6], [vI x4], σ)) rfl).trans ?_
  exact e_r rfl
set_option maxRecDepth 20000 in
theorem g76_27_1 (C : pmC) {σ : pmS} {x1 : Int32} {x2 : Int32} {x3 : Int32} {x4 : Int32} {x5 : Int32} {l6 : Option pmV} {σ1 : pmS} {r1 : Int32} (h1 : ¬ (σ.1 5 0 9 0) ≤ x5) (h2 : x3 = (-1 : Int32)) (h3 : vp_in x5 48) (h4 : (σ.1 5 0 3 (x5).toNatClampNeg) = x1) (h5 : C 34 [vR 5 0 0, vI x5, vI x2] σ = some (some (vI r1), σ1)) (h6 : r1 = 0) : pq_Rn C (76, 27, [some (vR 9 0 0), some (vI x1), some (vI x2), some (vI x3), some (vI x4), some (vI x5), l6], [], σ) = pq_Rn C (76, 27, [some (vR 9 0 0), some (vI x1), some (vI x2), some (vI x3), some (vI x4), some (vI (x5 + (1 : Int32))), some (vI (1 : Int32))], [], σ1) := by
  refine (e_n 4 (fr' := (76, 36, [some (vR 9 0 0), some (vI x1), some (vI x2), some (vI x3), some (vI x4), some (vI x5), l6], [vI (σ.1 5 0 9 0), vI x5], σ)) rfl).trans ?_
  refine (e_f (B := (76, 39, [some (vR 9 0 0), some (vI x1), some (vI x2), some (vI x3), some (vI x4), some (vI x5), l6], [], σ)) rfl h1).trans ?_
  refine (e_n 2 (fr' := (76, 41, [some (vR 9 0 0), some (vI x1), some (vI x2), some (vI x3), some (vI x4), some (vI x5), l6], [vI (-1 : Int32), vI x3], σ)) rfl).trans ?_
  refine (e_t (A := (76, 58, [some (vR 9 0 0), some (vI x1), some (vI x2), some (vI x3), some (vI x4), some (vI x5), l6], [], σ)) rfl h2).trans ?_
  refine (e_n 9 (fr' := (76, 79, [some (vR 9 0 0), some (vI x1), some (vI x2), some (vI x3), some (vI x4), some (vI x5), some (vI (1 : Int32))], [vI x5, vR 5 0 4], σ)) rfl).trans ?_
  refine (e_a (A := (76, 80, [some (vR 9 0 0), some (vI x1), some (vI x2), some (vI x3), some (vI x4), some (vI x5), some (vI (1 : Int32))], [vI (σ.1 5 0 3 (x5).toNatClampNeg)], σ)) rfl h3).trans ?_
  refine (e_n 1 (fr' := (76, 81, [some (vR 9 0 0), some (vI x1), some (vI x2), some (vI x3), some (vI x4), some (vI x5), some (vI (1 : Int32))], [vI x1, vI (σ.1 5 0 3 (x5).toNatClampNeg)], σ)) rfl).trans ?_
  refine (e_t (A := (76, 84, [some (vR 9 0 0), some (vI x1), some (vI x2), some (vI x3), some (vI x4), some (vI x5), some (vI (1 : Int32))], [], σ)) rfl h4).trans ?_
  refine (e_n 4 (fr' := (76, 91, [some (vR 9 0 0), some (vI x1), some (vI x2), some (vI x3), some (vI x4), some (vI x5), some (vI (1 : Int32))], [vI x2, vI x5, vR 5 0 0], σ)) rfl).trans ?_
  refine (e_ci (m := 76) (pc := 94) (ls := [some (vR 9 0 0), some (vI x1), some (vI x2), some (vI x3), some (vI x4), some (vI x5), some (vI (1 : Int32))]) (rest := []) rfl h5).trans ?_
  refine (e_t (A := (76, 100, [some (vR 9 0 0), some (vI x1), some (vI x2), some (vI x3), some (vI x4), some (vI x5), some (vI (1 : Int32))], [], σ1)) rfl h6).trans ?_
  exact e_n 2 rfl
set_option maxRecDepth 20000 in
theorem g76_27_2 (C : pmC) {σ : pmS} {x1 : Int32} {x2 : Int32} {x3 : Int32} {x4 : Int32} {x5 : Int32} {l6 : Option pmV} {σ1 : pmS} {r1 : Int32} (h1 : ¬ (σ.1 5 0 9 0) ≤ x5) (h2 : x3 = (-1 : Int32)) (h3 : vp_in x5 48) (h4 : (σ.1 5 0 3 (x5).toNatClampNeg) = x1) (h5 : C 34 [vR 5 0 0, vI x5, vI x2] σ = some (some (vI r1), σ1)) (h6 : ¬ r1 = 0) : pq_Rn C (76, 27, [some (vR 9 0 0), some (vI x1), some (vI x2), some (vI x3), some (vI x4), some (vI x5), l6], [], σ) = pq_Rn C (76, 27, [some (vR 9 0 0), some (vI x1), some (vI x2), some (vI x3), some (vI (x4 + (1 : Int32))), some (vI (x5 + (1 : Int32))), some (vI (1 : Int32))], [], σ1) := by
  refine (e_n 4 (fr' := (76, 36, [some (vR 9 0 0), some (vI x1), some (vI x2), some (vI x3), some (vI x4), some (vI x5), l6], [vI (σ.1 5 0 9 0), vI x5], σ)) rfl).trans ?_
  refine (e_f (B := (76, 39, [some (vR 9 0 0), some (vI x1), some (vI x2), some (vI x3), some (vI x4), some (vI x5), l6], [], σ)) rfl h1).trans ?_
  refine (e_n 2 (fr' := (76, 41, [some (vR 9 0 0), some (vI x1), some (vI x2), some (vI x3), some (vI x4), some (vI x5), l6], [vI (-1 : Int32), vI x3], σ)) rfl).trans ?_
  refine (e_t (A := (76, 58, [some (vR 9 0 0), some (vI x1), some (vI x2), some (vI x3), some (vI x4), some (vI x5), l6], [], σ)) rfl h2).trans ?_
  refine (e_n 9 (fr' := (76, 79, [some (vR 9 0 0), some (vI x1), some (vI x2), some (vI x3), some (vI x4), some (vI x5), some (vI (1 : Int32))], [vI x5, vR 5 0 4], σ)) rfl).trans ?_
  refine (e_a (A := (76, 80, [some (vR 9 0 0), some (vI x1), some (vI x2), some (vI x3), some (vI x4), some (vI x5), some (vI (1 : Int32))], [vI (σ.1 5 0 3 (x5).toNatClampNeg)], σ)) rfl h3).trans ?_
  refine (e_n 1 (fr' := (76, 81, [some (vR 9 0 0), some (vI x1), some (vI x2), some (vI x3), some (vI x4), some (vI x5), some (vI (1 : Int32))], [vI x1, vI (σ.1 5 0 3 (x5).toNatClampNeg)], σ)) rfl).trans ?_
  refine (e_t (A := (76, 84, [some (vR 9 0 0), some (vI x1), some (vI x2), some (vI x3), some (vI x4), some (vI x5), some (vI (1 : Int32))], [], σ)) rfl h4).trans ?_
  refine (e_n 4 (fr' := (76, 91, [some (vR 9 0 0), some (vI x1), some (vI x2), some (vI x3), some (vI x4), some (vI x5), some (vI (1 : Int32))], [vI x2, vI x5, vR 5 0 0], σ)) rfl).trans ?_
  refine (e_ci (m := 76) (pc := 94) (ls := [some (vR 9 0 0), some (vI x1), some (vI x2), some (vI x3), some (vI x4), some (vI x5), some (vI (1 : Int32))]) (rest := []) rfl h5).trans ?_
  refine (e_f (B := (76, 97, [some (vR 9 0 0), some (vI x1), some (vI x2), some (vI x3), some (vI x4), some (vI x5), some (vI (1 : Int32))], [], σ1)) rfl h6).trans ?_
  exact e_n 3 rfl
set_option maxRecDepth 20000 in
theorem g76_27_3 (C : pmC) {σ : pmS} {x1 : Int32} {x2 : Int32} {x3 : Int32} {x4 : Int32} {x5 : Int32} {l6 : Option pmV} (h1 : ¬ (σ.1 5 0 9 0) ≤ x5) (h2 : x3 = (-1 : Int32)) (h3 : vp_in x5 48) (h4 : ¬ (σ.1 5 0 3 (x5).toNatClampNeg) = x1) : pq_Rn C (76, 27, [some (vR 9 0 0), some (vI x1), some (vI x2), some (vI x3), some (vI x4), some (vI x5), l6], [], σ) = pq_Rn C (76, 27, [some (vR 9 0 0), some (vI x1), some (vI x2), some (vI x3), some (vI x4), some (vI (x5 + (1 : Int32))), some (vI (1 : Int32))], [], σ) := by
  refine (e_n 4 (fr' := (76, 36, [some (vR 9 0 0), some (vI x1), some (vI x2), some (vI x3), some (vI x4), some (vI x5), l6], [vI (σ.1 5 0 9 0), vI x5], σ)) rfl).trans ?_
  refine (e_f (B := (76, 39, [some (vR 9 0 0), some (vI x1), some (vI x2), some (vI x3), some (vI x4), some (vI x5), l6], [], σ)) rfl h1).trans ?_
  refine (e_n 2 (fr' := (76, 41, [some (vR 9 0 0), some (vI x1), some (vI x2), some (vI x3), some (vI x4), some (vI x5), l6], [vI (-1 : Int32), vI x3], σ)) rfl).trans ?_
  refine (e_t (A := (76, 58, [some (vR 9 0 0), some (vI x1), some (vI x2), some (vI x3), some (vI x4), some (vI x5), l6], [], σ)) rfl h2).trans ?_
  refine (e_n 9 (fr' := (76, 79, [some (vR 9 0 0), some (vI x1), some (vI x2), some (vI x3), some (vI x4), some (vI x5), some (vI (1 : Int32))], [vI x5, vR 5 0 4], σ)) rfl).trans ?_
  refine (e_a (A := (76, 80, [some (vR 9 0 0), some (vI x1), some (vI x2), some (vI x3), some (vI x4), some (vI x5), some (vI (1 : Int32))], [vI (σ.1 5 0 3 (x5).toNatClampNeg)], σ)) rfl h3).trans ?_
  refine (e_n 1 (fr' := (76, 81, [some (vR 9 0 0), some (vI x1), some (vI x2), some (vI x3), some (vI x4), some (vI x5), some (vI (1 : Int32))], [vI x1, vI (σ.1 5 0 3 (x5).toNatClampNeg)], σ)) rfl).trans ?_
  refine (e_f (B := (76, 100, [some (vR 9 0 0), some (vI x1), some (vI x2), some (vI x3), some (vI x4), some (vI x5), some (vI (1 : Int32))], [], σ)) rfl h4).trans ?_
  exact e_n 2 rfl
set_option maxRecDepth 20000 in
theorem g76_27_4 (C : pmC) {σ : pmS} {x1 : Int32} {x2 : Int32} {x3 : Int32} {x4 : Int32} {x5 : Int32} {l6 : Option pmV} {σ1 : pmS} {r1 : Int32} (h1 : ¬ (σ.1 5 0 9 0) ≤ x5) (h2 : ¬ x3 = (-1 : Int32)) (h3 : vp_in x5 48) (h4 : (σ.1 5 0 7 (x5).toNatClampNeg) = x3) (h5 : (σ.1 5 0 3 (x5).toNatClampNeg) = x1) (h6 : C 34 [vR 5 0 0, vI x5, vI x2] σ = some (some (vI r1), σ1)) (h7 : r1 = 0) : pq_Rn C (76, 27, [some (vR 9 0 0), some (vI x1), some (vI x2), some (vI x3), some (vI x4), some (vI x5), l6], [], σ) = pq_Rn C (76, 27, [some (vR 9 0 0), some (vI x1), some (vI x2), some (vI x3), some (vI x4), some (vI (x5 + (1 : Int32))), some (vI (1 : Int32))], [], σ1) := by
  refine (e_n 4 (fr' := (76, 36, [some (vR 9 0 0), some (vI x1), some (vI x2), some (vI x3), some (vI x4), some (vI x5), l6], [vI (σ.1 5 0 9 0), vI x5], σ)) rfl).trans ?_
  refine (e_f (B := (76, 39, [some (vR 9 0 0), some (vI x1), some (vI x2), some (vI x3), some (vI x4), some (vI x5), l6], [], σ)) rfl h1).trans ?_
  refine (e_n 2 (fr' := (76, 41, [some (vR 9 0 0), some (vI x1), some (vI x2), some (vI x3), some (vI x4), some (vI x5), l6], [vI (-1 : Int32), vI x3], σ)) rfl).trans ?_
  refine (e_f (B := (76, 44, [some (vR 9 0 0), some (vI x1), some (vI x2), some (vI x3), some (vI x4), some (vI x5), l6], [], σ)) rfl h2).trans ?_
  refine (e_n 4 (fr' := (76, 53, [some (vR 9 0 0), some (vI x1), some (vI x2), some (vI x3), some (vI x4), some (vI x5), l6], [vI x5, vR 5 0 8], σ)) rfl).trans ?_
  refine (e_a (A := (76, 54, [some (vR 9 0 0), some (vI x1), some (vI x2), some (vI x3), some (vI x4), some (vI x5), l6], [vI (σ.1 5 0 7 (x5).toNatClampNeg)], σ)) rfl h3).trans ?_
  refine (e_n 1 (fr' := (76, 55, [some (vR 9 0 0), some (vI x1), some (vI x2), some (vI x3), some (vI x4), some (vI x5), l6], [vI x3, vI (σ.1 5 0 7 (x5).toNatClampNeg)], σ)) rfl).trans ?_
  refine (e_t (A := (76, 58, [some (vR 9 0 0), some (vI x1), some (vI x2), some (vI x3), some (vI x4), some (vI x5), l6], [], σ)) rfl h4).trans ?_
  refine (e_n 9 (fr' := (76, 79, [some (vR 9 0 0), some (vI x1), some (vI x2), some (vI x3), some (vI x4), some (vI x5), some (vI (1 : Int32))], [vI x5, vR 5 0 4], σ)) rfl).trans ?_
  refine (e_a (A := (76, 80, [some (vR 9 0 0), some (vI x1), some (vI x2), some (vI x3), some (vI x4), some (vI x5), some (vI (1 : Int32))], [vI (σ.1 5 0 3 (x5).toNatClampNeg)], σ)) rfl h3).trans ?_
  refine (e_n 1 (fr' := (76, 81, [some (vR 9 0 0), some (vI x1), some (vI x2), some (vI x3), some (vI x4), some (vI x5), some (vI (1 : Int32))], [vI x1, vI (σ.1 5 0 3 (x5).toNatClampNeg)], σ)) rfl).trans ?_
  refine (e_t (A := (76, 84, [some (vR 9 0 0), some (vI x1), some (vI x2), some (vI x3), some (vI x4), some (vI x5), some (vI (1 : Int32))], [], σ)) rfl h5).trans ?_
  refine (e_n 4 (fr' := (76, 91, [some (vR 9 0 0), some (vI x1), some (vI x2), some (vI x3), some (vI x4), some (vI x5), some (vI (1 : Int32))], [vI x2, vI x5, vR 5 0 0], σ)) rfl).trans ?_
  refine (e_ci (m := 76) (pc := 94) (ls := [some (vR 9 0 0), some (vI x1), some (vI x2), some (vI x3), some (vI x4), some (vI x5), some (vI (1 : Int32))]) (rest := []) rfl h6).trans ?_
  refine (e_t (A := (76, 100, [some (vR 9 0 0), some (vI x1), some (vI x2), some (vI x3), some (vI x4), some (vI x5), some (vI (1 : Int32))], [], σ1)) rfl h7).trans ?_
  exact e_n 2 rfl
set_option maxRecDepth 20000 in
theorem g76_27_5 (C : pmC) {σ : pmS} {x1 : Int32} {x2 : Int32} {x3 : Int32} {x4 : Int32} {x5 : Int32} {l6 : Option pmV} {σ1 : pmS} {r1 : Int32} (h1 : ¬ (σ.1 5 0 9 0) ≤ x5) (h2 : ¬ x3 = (-1 : Int32)) (h3 : vp_in x5 48) (h4 : (σ.1 5 0 7 (x5).toNatClampNeg) = x3) (h5 : (σ.1 5 0 3 (x5).toNatClampNeg) = x1) (h6 : C 34 [vR 5 0 0, vI x5, vI x2] σ = some (some (vI r1), σ1)) (h7 : ¬ r1 = 0) : pq_Rn C (76, 27, [some (vR 9 0 0), some (vI x1), some (vI x2), some (vI x3), some (vI x4), some (vI x5), l6], [], σ) = pq_Rn C (76, 27, [some (vR 9 0 0), some (vI x1), some (vI x2), some (vI x3), some (vI (x4 + (1 : Int32))), some (vI (x5 + (1 : Int32))), some (vI (1 : Int32))], [], σ1) := by
  refine (e_n 4 (fr' := (76, 36, [some (vR 9 0 0), some (vI x1), some (vI x2), some (vI x3), some (vI x4), some (vI x5), l6], [vI (σ.1 5 0 9 0), vI x5], σ)) rfl).trans ?_
  refine (e_f (B := (76, 39, [some (vR 9 0 0), some (vI x1), some (vI x2), some (vI x3), some (vI x4), some (vI x5), l6], [], σ)) rfl h1).trans ?_
  refine (e_n 2 (fr' := (76, 41, [some (vR 9 0 0), some (vI x1), some (vI x2), some (vI x3), some (vI x4), some (vI x5), l6], [vI (-1 : Int32), vI x3], σ)) rfl).trans ?_
  refine (e_f (B := (76, 44, [some (vR 9 0 0), some (vI x1), some (vI x2), some (vI x3), some (vI x4), some (vI x5), l6], [], σ)) rfl h2).trans ?_
  refine (e_n 4 (fr' := (76, 53, [some (vR 9 0 0), some (vI x1), some (vI x2), some (vI x3), some (vI x4), some (vI x5), l6], [vI x5, vR 5 0 8], σ)) rfl).trans ?_
  refine (e_a (A := (76, 54, [some (vR 9 0 0), some (vI x1), some (vI x2), some (vI x3), some (vI x4), some (vI x5), l6], [vI (σ.1 5 0 7 (x5).toNatClampNeg)], σ)) rfl h3).trans ?_
  refine (e_n 1 (fr' := (76, 55, [some (vR 9 0 0), some (vI x1), some (vI x2), some (vI x3), some (vI x4), some (vI x5), l6], [vI x3, vI (σ.1 5 0 7 (x5).toNatClampNeg)], σ)) rfl).trans ?_
  refine (e_t (A := (76, 58, [some (vR 9 0 0), some (vI x1), some (vI x2), some (vI x3), some (vI x4), some (vI x5), l6], [], σ)) rfl h4).trans ?_
  refine (e_n 9 (fr' := (76, 79, [some (vR 9 0 0), some (vI x1), some (vI x2), some (vI x3), some (vI x4), some (vI x5), some (vI (1 : Int32))], [vI x5, vR 5 0 4], σ)) rfl).trans ?_
  refine (e_a (A := (76, 80, [some (vR 9 0 0), some (vI x1), some (vI x2), some (vI x3), some (vI x4), some (vI x5), some (vI (1 : Int32))], [vI (σ.1 5 0 3 (x5).toNatClampNeg)], σ)) rfl h3).trans ?_
  refine (e_n 1 (fr' := (76, 81, [some (vR 9 0 0), some (vI x1), some (vI x2), some (vI x3), some (vI x4), some (vI x5), some (vI (1 : Int32))], [vI x1, vI (σ.1 5 0 3 (x5).toNatClampNeg)], σ)) rfl).trans ?_
  refine (e_t (A := (76, 84, [some (vR 9 0 0), some (vI x1), some (vI x2), some (vI x3), some (vI x4), some (vI x5), some (vI (1 : Int32))], [], σ)) rfl h5).trans ?_
  refine (e_n 4 (fr' := (76, 91, [some (vR 9 0 0), some (vI x1), some (vI x2), some (vI x3), some (vI x4), some (vI x5), some (vI (1 : Int32))], [vI x2, vI x5, vR 5 0 0], σ)) rfl).trans ?_
  refine (e_ci (m := 76) (pc := 94) (ls := [some (vR 9 0 0), some (vI x1), some (vI x2), some (vI x3), some (vI x4), some (vI x5), some (vI (1 : Int32))]) (rest := []) rfl h6).trans ?_
  refine (e_f (B := (76, 97, [some (vR 9 0 0), some (vI x1), some (vI x2), some (vI x3), some (vI x4), some (vI x5), some (vI (1 : Int32))], [], σ1)) rfl h7).trans ?_
  exact e_n 3 rfl
set_option maxRecDepth 20000 in
theorem g76_27_6 (C : pmC) {σ : pmS} {x1 : Int32} {x2 : Int32} {x3 : Int32} {x4 : Int32} {x5 : Int32} {l6 : Option pmV} (h1 : ¬ (σ.1 5 0 9 0) ≤ x5) (h2 : ¬ x3 = (-1 : Int32)) (h3 : vp_in x5 48) (h4 : (σ.1 5 0 7 (x5).toNatClampNeg) = x3) (h5 : ¬ (σ.1 5 0 3 (x5).toNatClampNeg) = x1) : pq_Rn C (76, 27, [some (vR 9 0 0), some (vI x1), some (vI x2), some (vI x3), some (vI x4), some (vI x5), l6], [], σ) = pq_Rn C (76, 27, [some (vR 9 0 0), some (vI x1), some (vI x2), some (vI x3), some (vI x4), some (vI (x5 + (1 : Int32))), some (vI (1 : Int32))], [], σ) := by
  refine (e_n 4 (fr' := (76, 36, [some (vR 9 0 0), some (vI x1), some (vI x2), some (vI x3), some (vI x4), some (vI x5), l6], [vI (σ.1 5 0 9 0), vI x5], σ)) rfl).trans ?_
  refine (e_f (B := (76, 39, [some (vR 9 0 0), some (vI x1), some (vI x2), some (vI x3), some (vI x4), some (vI x5), l6], [], σ)) rfl h1).trans ?_
  refine (e_n 2 (fr' := (76, 41, [some (vR 9 0 0), some (vI x1), some (vI x2), some (vI x3), some (vI x4), some (vI x5), l6], [vI (-1 : Int32), vI x3], σ)) rfl).trans ?_
  refine (e_f (B := (76, 44, [some (vR 9 0 0), some (vI x1), some (vI x2), some (vI x3), some (vI x4), some (vI x5), l6], [], σ)) rfl h2).trans ?_
  refine (e_n 4 (fr' := (76, 53, [some (vR 9 0 0), some (vI x1), some (vI x2), some (vI x3), some (vI x4), some (vI x5), l6], [vI x5, vR 5 0 8], σ)) rfl).trans ?_
  refine (e_a (A := (76, 54, [some (vR 9 0 0), some (vI x1), some (vI x2), some (vI x3), some (vI x4), some (vI x5), l6], [vI (σ.1 5 0 7 (x5).toNatClampNeg)], σ)) rfl h3).trans ?_
  refine (e_n 1 (fr' := (76, 55, [some (vR 9 0 0), some (vI x1), some (vI x2), some (vI x3), some (vI x4), some (vI x5), l6], [vI x3, vI (σ.1 5 0 7 (x5).toNatClampNeg)], σ)) rfl).trans ?_
  refine (e_t (A := (76, 58, [some (vR 9 0 0), some (vI x1), some (vI x2), some (vI x3), some (vI x4), some (vI x5), l6], [], σ)) rfl h4).trans ?_
  refine (e_n 9 (fr' := (76, 79, [some (vR 9 0 0), some (vI x1), some (vI x2), some (vI x3), some (vI x4), some (vI x5), some (vI (1 : Int32))], [vI x5, vR 5 0 4], σ)) rfl).trans ?_
  refine (e_a (A := (76, 80, [some (vR 9 0 0), some (vI x1), some (vI x2), some (vI x3), some (vI x4), some (vI x5), some (vI (1 : Int32))], [vI (σ.1 5 0 3 (x5).toNatClampNeg)], σ)) rfl h3).trans ?_
  refine (e_n 1 (fr' := (76, 81, [some (vR 9 0 0), some (vI x1), some (vI x2), some (vI x3), some (vI x4), some (vI x5), some (vI (1 : Int32))], [vI x1, vI (σ.1 5 0 3 (x5).toNatClampNeg)], σ)) rfl).trans ?_
  refine (e_f (B := (76, 100, [some (vR 9 0 0), some (vI x1), some (vI x2), some (vI x3), some (vI x4), some (vI x5), some (vI (1 : Int32))], [], σ)) rfl h5).trans ?_
  exact e_n 2 rfl
set_option maxRecDepth 20000 in
theorem g76_27_7 (C : pmC) {σ : pmS} {x1 : Int32} {x2 : Int32} {x3 : Int32} {x4 : Int32} {x5 : Int32} {l6 : Option pmV} (h1 : ¬ (σ.1 5 0 9 0) ≤ x5) (h2 : ¬ x3 = (-1 : Int32)) (h3 : vp_in x5 48) (h4 : ¬ (σ.1 5 0 7 (x5).toNatClampNeg) = x3) : pq_Rn C (76, 27, [some (vR 9 0 0), some (vI x1), some (vI x2), some (vI x3), some (vI x4), some (vI x5), l6], [], σ) = pq_Rn C (76, 27, [some (vR 9 0 0), some (vI x1), some (vI x2), some (vI x3), some (vI x4), some (vI (x5 + (1 : Int32))), some (vI (0 : Int32))], [], σ) := by
  refine (e_n 4 (fr' := (76, 36, [some (vR 9 0 0), some (vI x1), some (vI x2), some (vI x3), some (vI x4), some (vI x5), l6], [vI (σ.1 5 0 9 0), vI x5], σ)) rfl).trans ?_
  refine (e_f (B := (76, 39, [some (vR 9 0 0), some (vI x1), some (vI x2), some (vI x3), some (vI x4), some (vI x5), l6], [], σ)) rfl h1).trans ?_
  refine (e_n 2 (fr' := (76, 41, [some (vR 9 0 0), some (vI x1), some (vI x2), some (vI x3), some (vI x4), some (vI x5), l6], [vI (-1 : Int32), vI x3], σ)) rfl).trans ?_
  refine (e_f (B := (76, 44, [some (vR 9 0 0), some (vI x1), some (vI x2), some (vI x3), some (vI x4), some (vI x5), l6], [], σ)) rfl h2).trans ?_
  refine (e_n 4 (fr' := (76, 53, [some (vR 9 0 0), some (vI x1), some (vI x2), some (vI x3), some (vI x4), some (vI x5), l6], [vI x5, vR 5 0 8], σ)) rfl).trans ?_
  refine (e_a (A := (76, 54, [some (vR 9 0 0), some (vI x1), some (vI x2), some (vI x3), some (vI x4), some (vI x5), l6], [vI (σ.1 5 0 7 (x5).toNatClampNeg)], σ)) rfl h3).trans ?_
  refine (e_n 1 (fr' := (76, 55, [some (vR 9 0 0), some (vI x1), some (vI x2), some (vI x3), some (vI x4), some (vI x5), l6], [vI x3, vI (σ.1 5 0 7 (x5).toNatClampNeg)], σ)) rfl).trans ?_
  refine (e_f (B := (76, 62, [some (vR 9 0 0), some (vI x1), some (vI x2), some (vI x3), some (vI x4), some (vI x5), l6], [], σ)) rfl h4).trans ?_
  exact e_n 6 rfl
set_option maxRecDepth 20000 in
theorem g77_0_0 (C : pmC) {σ : pmS} {x1 : Int32} {x2 : Int32} {l3 : Option pmV} {l4 : Option pmV} {σ1 : pmS} {r1 : Int32} (h1 : C 90 [vI x1] σ = some (some (vI r1), σ1)) (h2 : r1 = 0) : pq_Rn C (77, 0, [some (vR 9 0 0), some (vI x1), some (vI x2), l3, l4], [], σ) = some (some (vI (-2 : Int32)), σ1) := by
  refine (e_n 1 (fr' := (77, 1, [some (vR 9 0 0), some (vI x1), some (vI x2), l3, l4], [vI x1], σ)) rfl).trans ?_
  refine (e_ci (m := 77) (pc := 4) (ls := [some (vR 9 0 0), some (vI x1), some (vI x2), l3, l4]) (rest := []) rfl h1).trans ?_
  refine (e_t (A := (77, 16, [some (vR 9 0 0), some (vI x1), some (vI x2), l3, l4], [], σ1)) rfl h2).trans ?_
  refine (e_n 1 (fr' := (77, 18, [some (vR 9 0 0), some (vI x1), some (vI x2), l3, l4], [vI (-2 : Int32)], σ1)) rfl).trans ?_
  exact e_r rfl
set_option maxRecDepth 20000 in
theorem g77_0_1 (C : pmC) {σ : pmS} {x1 : Int32} {x2 : Int32} {l3 : Option pmV} {l4 : Option pmV} {σ1 : pmS} {r1 : Int32} (h1 : C 90 [vI x1] σ = some (some (vI r1), σ1)) (h2 : ¬ r1 = 0) (h3 : x2 = 0) : pq_Rn C (77, 0, [some (vR 9 0 0), some (vI x1), some (vI x2), l3, l4], [], σ) = pq_Rn C (77, 24, [some (vR 9 0 0), some (vI x1), some (vI x2), some (vI (0 : Int32)), some (vI (0 : Int32))], [], σ1) := by
  refine (e_n 1 (fr' := (77, 1, [some (vR 9 0 0), some (vI x1), some (vI x2), l3, l4], [vI x1], σ)) rfl).trans ?_
  refine (e_ci (m := 77) (pc := 4) (ls := [some (vR 9 0 0), some (vI x1), some (vI x2), l3, l4]) (rest := []) rfl h1).trans ?_
  refine (e_f (B := (77, 7, [some (vR 9 0 0), some (vI x1), some (vI x2), l3, l4], [], σ1)) rfl h2).trans ?_
  refine (e_n 1 (fr' := (77, 8, [some (vR 9 0 0), some (vI x1), some (vI x2), l3, l4], [vI x2], σ1)) rfl).trans ?_
  refine (e_t (A := (77, 19, [some (vR 9 0 0), some (vI x1), some (vI x2), l3, l4], [], σ1)) rfl h3).trans ?_
  exact e_n 4 rfl
set_option maxRecDepth 20000 in
theorem g77_0_2 (C : pmC) {σ : pmS} {x1 : Int32} {x2 : Int32} {l3 : Option pmV} {l4 : Option pmV} {σ1 : pmS} {r1 : Int32} (h1 : C 90 [vI x1] σ = some (some (vI r1), σ1)) (h2 : ¬ r1 = 0) (h3 : ¬ x2 = 0) (h4 : x2 = (1 : Int32)) : pq_Rn C (77, 0, [some (vR 9 0 0), some (vI x1), some (vI x2), l3, l4], [], σ) = pq_Rn C (77, 24, [some (vR 9 0 0), some (vI x1), some (vI x2), some (vI (0 : Int32)), some (vI (0 : Int32))], [], σ1) := by
  refine (e_n 1 (fr' := (77, 1, [some (vR 9 0 0), some (vI x1), some (vI x2), l3, l4], [vI x1], σ)) rfl).trans ?_
  refine (e_ci (m := 77) (pc := 4) (ls := [some (vR 9 0 0), some (vI x1), some (vI x2), l3, l4]) (rest := []) rfl h1).trans ?_
  refine (e_f (B := (77, 7, [some (vR 9 0 0), some (vI x1), some (vI x2), l3, l4], [], σ1)) rfl h2).trans ?_
  refine (e_n 1 (fr' := (77, 8, [some (vR 9 0 0), some (vI x1), some (vI x2), l3, l4], [vI x2], σ1)) rfl).trans ?_
  refine (e_f (B := (77, 11, [some (vR 9 0 0), some (vI x1), some (vI x2), l3, l4], [], σ1)) rfl h3).trans ?_
  refine (e_n 2 (fr' := (77, 13, [some (vR 9 0 0), some (vI x1), some (vI x2), l3, l4], [vI (1 : Int32), vI x2], σ1)) rfl).trans ?_
  refine (e_t (A := (77, 19, [some (vR 9 0 0), some (vI x1), some (vI x2), l3, l4], [], σ1)) rfl h4).trans ?_
  exact e_n 4 rfl
set_option maxRecDepth 20000 in
theorem g77_0_3 (C : pmC) {σ : pmS} {x1 : Int32} {x2 : Int32} {l3 : Option pmV} {l4 : Option pmV} {σ1 : pmS} {r1 : Int32} (h1 : C 90 [vI x1] σ = some (some (vI r1), σ1)) (h2 : ¬ r1 = 0) (h3 : ¬ x2 = 0) (h4 : ¬ x2 = (1 : Int32)) : pq_Rn C (77, 0, [some (vR 9 0 0), some (vI x1), some (vI x2), l3, l4], [], σ) = some (some (vI (-2 : Int32)), σ1) := by
  refine (e_n 1 (fr' := (77, 1, [some (vR 9 0 0), some (vI x1), some (vI x2), l3, l4], [vI x1], σ)) rfl).trans ?_
  refine (e_ci (m := 77) (pc := 4) (ls := [some (vR 9 0 0), some (vI x1), some (vI x2), l3, l4]) (rest := []) rfl h1).trans ?_
  refine (e_f (B := (77, 7, [some (vR 9 0 0), some (vI x1), some (vI x2), l3, l4], [], σ1)) rfl h2).trans ?_
  refine (e_n 1 (fr' := (77, 8, [some (vR 9 0 0), some (vI x1), some (vI x2), l3, l4], [vI x2], σ1)) rfl).trans ?_
  refine (e_f (B := (77, 11, [some (vR 9 0 0), some (vI x1), some (vI x2), l3, l4], [], σ1)) rfl h3).trans ?_
  refine (e_n 2 (fr' := (77, 13, [some (vR 9 0 0), some (vI x1), some (vI x2), l3, l4], [vI (1 : Int32), vI x2], σ1)) rfl).trans ?_
  refine (e_f (B := (77, 16, [some (vR 9 0 0), some (vI x1), some (vI x2), l3, l4], [], σ1)) rfl h4).trans ?_
  refine (e_n 1 (fr' := (77, 18, [some (vR 9 0 0), some (vI x1), some (vI x2), l3, l4], [vI (-2 : Int32)], σ1)) rfl).trans ?_
  exact e_r rfl
set_option maxRecDepth 20000 in
theorem g77_24_0 (C : pmC) {σ : pmS} {x1 : Int32} {x2 : Int32} {x3 : Int32} {x4 : Int32} (h1 : (σ.1 8 0 3 0) ≤ x4) : pq_Rn C (77, 24, [some (vR 9 0 0), some (vI x1), some (vI x2), some (vI x3), some (vI x4)], [], σ) = some (some (vI x3), σ) := by
  refine (e_n 4 (fr' := (77, 33, [some (vR 9 0 0), some (vI x1), some (vI x2), some (vI x3), some (vI x4)], [vI (σ.1 8 0 3 0), vI x4], σ)) rfl).trans ?_
  refine (e_t (A := (77, 109, [some (vR 9 0 0), some (vI x1), some (vI x2), some (vI x3), some (vI x4)], [], σ)) rfl h1).trans ?_
  refine (e_n 1 (fr' := (77, 110, [some (vR 9 0 0), some (vI x1), some (vI x2), some (vI x3), some (vI x4)], [vI x3], σ)) rfl).trans ?_
  exact e_r rfl
set_option maxRecDepth 20000 in
theorem g77_24_1 (C : pmC) {σ : pmS} {x1 : Int32} {x2 : Int32} {x3 : Int32} {x4 : Int32} {σ1 : pmS} {r1 : Int32} (h1 : ¬ (σ.1 8 0 3 0) ≤ x4) (h2 : C 52 [vR 8 0 0, vR 5 0 0, vI x4, vI x1] σ = some (some (vI r1), σ1)) (h3 : r1 = 0) : pq_Rn C (77, 24, [some (vR 9 0 0), some (vI x1), some (vI x2), some (vI x3), some (vI x4)], [], σ) = pq_Rn C (77, 24, [some (vR 9 0 0), some (vI x1), some (vI x2), some (vI x3), some (vI (x4 + (1 : Int32)))], [], σ1) := by
  refine (e_n 4 (fr' := (77, 33, [some (vR 9 0 0), some (vI x1), some (vI x2), some (vI x3), some (vI x4)], [vI (σ.1 8 0 3 0), vI x4], σ)) rfl).trans ?_
  refine (e_f (B := (77, 36, [some (vR 9 0 0), some (vI x1), some (vI x2), some (vI x3), some (vI x4)], [], σ)) rfl h1).trans ?_
  refine (e_n 6 (fr' := (77, 47, [some (vR 9 0 0), some (vI x1), some (vI x2), some (vI x3), some (vI x4)], [vI x1, vI x4, vR 5 0 0, vR 8 0 0], σ)) rfl).trans ?_
  refine (e_ci (m := 77) (pc := 50) (ls := [some (vR 9 0 0), some (vI x1), some (vI x2), some (vI x3), some (vI x4)]) (rest := []) rfl h2).trans ?_
  refine (e_t (A := (77, 103, [some (vR 9 0 0), some (vI x1), some (vI x2), some (vI x3), some (vI x4)], [], σ1)) rfl h3).trans ?_
  exact e_n 2 rfl
set_option maxRecDepth 20000 in
theorem g77_24_2 (C : pmC) {σ : pmS} {x1 : Int32} {x2 : Int32} {x3 : Int32} {x4 : Int32} {σ1 : pmS} {r1 : Int32} {σ2 : pmS} {r2 : Int32} (h1 : ¬ (σ.1 8 0 3 0) ≤ x4) (h2 : C 52 [vR 8 0 0, vR 5 0 0, vI x4, vI x1] σ = some (some (vI r1), σ1)) (h3 : ¬ r1 = 0) (h4 : vp_in x4 40) (h5 : C 99 [vR 9 0 0, vI (σ1.1 8 0 0 (x4).toNatClampNeg), vI (σ1.1 8 0 1 (x4).toNatClampNeg), vI (σ1.1 8 0 2 (x4).toNatClampNeg)] σ1 = some (some (vI r2), σ2)) (h6 : x2 = (1 : Int32)) (h7 : r2 = (1 : Int32)) : pq_Rn C (77, 24, [some (vR 9 0 0), some (vI x1), some (vI x2), some (vI x3), some (vI x4)], [], σ) = pq_Rn C (77, 24, [some (vR 9 0 0), some (vI x1), some (vI x2), some (vI (x3 + (1 : Int32))), some (vI (x4 + (1 : Int32)))], [], σ2) := by
  refine (e_n 4 (fr' := (77, 33, [some (vR 9 0 0), some (vI x1), some (vI x2), some (vI x3), some (vI x4)], [vI (σ.1 8 0 3 0), vI x4], σ)) rfl).trans ?_
  refine (e_f (B := (77, 36, [some (vR 9 0 0), some (vI x1), some (vI x2), some (vI x3), some (vI x4)], [], σ)) rfl h1).trans ?_
  refine (e_n 6 (fr' := (77, 47, [some (vR 9 0 0), some (vI x1), some (vI x2), some (vI x3), some (vI x4)], [vI x1, vI x4, vR 5 0 0, vR 8 0 0], σ)) rfl).trans ?_
  refine (e_ci (m := 77) (pc := 50) (ls := [some (vR 9 0 0), some (vI x1), some (vI x2), some (vI x3), some (vI x4)]) (rest := []) rfl h2).trans ?_
  refine (e_f (B := (77, 53, [some (vR 9 0 0), some (vI x1), some (vI x2), some (vI x3), some (vI x4)], [], σ1)) rfl h3).trans ?_
  refine (e_n 5 (fr' := (77, 63, [some (vR 9 0 0), some (vI x1), some (vI x2), some (vI x3), some (vI x4)], [vI x4, vR 8 0 1, vR 9 0 0], σ1)) rfl).trans ?_
  refine (e_a (A := (77, 64, [some (vR 9 0 0), some (vI x1), some (vI x2), some (vI x3), some (vI x4)], [vI (σ1.1 8 0 0 (x4).toNatClampNeg), vR 9 0 0], σ1)) rfl h4).trans ?_
  refine (e_n 4 (fr' := (77, 73, [some (vR 9 0 0), some (vI x1), some (vI x2), some (vI x3), some (vI x4)], [vI x4, vR 8 0 2, vI (σ1.1 8 0 0 (x4).toNatClampNeg), vR 9 0 0], σ1)) rfl).trans ?_
  refine (e_a (A := (77, 74, [some (vR 9 0 0), some (vI x1), some (vI x2), some (vI x3), some (vI x4)], [vI (σ1.1 8 0 1 (x4).toNatClampNeg), vI (σ1.1 8 0 0 (x4).toNatClampNeg), vR 9 0 0], σ1)) rfl h4).trans ?_
  refine (e_n 4 (fr' := (77, 83, [some (vR 9 0 0), some (vI x1), some (vI x2), some (vI x3), some (vI x4)], [vI x4, vR 8 0 3, vI (σ1.1 8 0 1 (x4).toNatClampNeg), vI (σ1.1 8 0 0 (x4).toNatClampNeg), vR 9 0 0], σ1)) rfl).trans ?_
  refine (e_a (A := (77, 84, [some (vR 9 0 0), some (vI x1), some (vI x2), some (vI x3), some (vI x4)], [vI (σ1.1 8 0 2 (x4).toNatClampNeg), vI (σ1.1 8 0 1 (x4).toNatClampNeg), vI (σ1.1 8 0 0 (x4).toNatClampNeg), vR 9 0 0], σ1)) rfl h4).trans ?_
  refine (e_ci (m := 77) (pc := 87) (ls := [some (vR 9 0 0), some (vI x1), some (vI x2), some (vI x3), some (vI x4)]) (rest := []) rfl h5).trans ?_
  refine (e_n 2 (fr' := (77, 89, [some (vR 9 0 0), some (vI x1), some (vI x2), some (vI x3), some (vI x4)], [vI (1 : Int32), vI x2, vI r2], σ2)) rfl).trans ?_
  refine (e_t (A := (77, 92, [some (vR 9 0 0), some (vI x1), some (vI x2), some (vI x3), some (vI x4)], [vI r2], σ2)) rfl h6).trans ?_
  refine (e_n 2 (fr' := (77, 97, [some (vR 9 0 0), some (vI x1), some (vI x2), some (vI x3), some (vI x4)], [vI (1 : Int32), vI r2], σ2)) rfl).trans ?_
  refine (e_t (A := (77, 100, [some (vR 9 0 0), some (vI x1), some (vI x2), some (vI x3), some (vI x4)], [], σ2)) rfl h7).trans ?_
  exact e_n 3 rfl
set_option maxRecDepth 20000 in
theorem g77_24_3 (C : pmC) {σ : pmS} {x1 : Int32} {x2 : Int32} {x3 : Int32} {x4 : Int32} {σ1 : pmS} {r1 : Int32} {σ2 : pmS} {r2 : Int32} (h1 : ¬ (σ.1 8 0 3 0) ≤ x4) (h2 : C 52 [vR 8 0 0, vR 5 0 0, vI x4, vI x1] σ = some (some (vI r1), σ1)) (h3 : ¬ r1 = 0) (h4 : vp_in x4 40) (h5 : C 99 [vR 9 0 0, vI (σ1.1 8 0 0 (x4).toNatClampNeg), vI (σ1.1 8 0 1 (x4).toNatClampNeg), vI (σ1.1 8 0 2 (x4).toNatClampNeg)] σ1 = some (some (vI r2), σ2)) (h6 : x2 = (1 : Int32)) (h7 : ¬ r2 = (1 : Int32)) : pq_Rn C (77, 24, [some (vR 9 0 0), some (vI x1), some (vI x2), some (vI x3), some (vI x4)], [], σ) = pq_Rn C (77, 24, [some (vR 9 0 0), some (vI x1), some (vI x2), some (vI x3), some (vI (x4 + (1 : Int32)))], [], σ2) := by
  refine (e_n 4 (fr' := (77, 33, [some (vR 9 0 0), some (vI x1), some (vI x2), some (vI x3), some (vI x4)], [vI (σ.1 8 0 3 0), vI x4], σ)) rfl).trans ?_
  refine (e_f (B := (77, 36, [some (vR 9 0 0), some (vI x1), some (vI x2), some (vI x3), some (vI x4)], [], σ)) rfl h1).trans ?_
  refine (e_n 6 (fr' := (77, 47, [some (vR 9 0 0), some (vI x1), some (vI x2), some (vI x3), some (vI x4)], [vI x1, vI x4, vR 5 0 0, vR 8 0 0], σ)) rfl).trans ?_
  refine (e_ci (m := 77) (pc := 50) (ls := [some (vR 9 0 0), some (vI x1), some (vI x2), some (vI x3), some (vI x4)]) (rest := []) rfl h2).trans ?_
  refine (e_f (B := (77, 53, [some (vR 9 0 0), some (vI x1), some (vI x2), some (vI x3), some (vI x4)], [], σ1)) rfl h3).trans ?_
  refine (e_n 5 (fr' := (77, 63, [some (vR 9 0 0), some (vI x1), some (vI x2), some (vI x3), some (vI x4)], [vI x4, vR 8 0 1, vR 9 0 0], σ1)) rfl).trans ?_
  refine (e_a (A := (77, 64, [some (vR 9 0 0), some (vI x1), some (vI x2), some (vI x3), some (vI x4)], [vI (σ1.1 8 0 0 (x4).toNatClampNeg), vR 9 0 0], σ1)) rfl h4).trans ?_
  refine (e_n 4 (fr' := (77, 73, [some (vR 9 0 0), some (vI x1), some (vI x2), some (vI x3), some (vI x4)], [vI x4, vR 8 0 2, vI (σ1.1 8 0 0 (x4).toNatClampNeg), vR 9 0 0], σ1)) rfl).trans ?_
  refine (e_a (A := (77, 74, [some (vR 9 0 0), some (vI x1), some (vI x2), some (vI x3), some (vI x4)], [vI (σ1.1 8 0 1 (x4).toNatClampNeg), vI (σ1.1 8 0 0 (x4).toNatClampNeg), vR 9 0 0], σ1)) rfl h4).trans ?_
  refine (e_n 4 (fr' := (77, 83, [some (vR 9 0 0), some (vI x1), some (vI x2), some (vI x3), some (vI x4)], [vI x4, vR 8 0 3, vI (σ1.1 8 0 1 (x4).toNatClampNeg), vI (σ1.1 8 0 0 (x4).toNatClampNeg), vR 9 0 0], σ1)) rfl).trans ?_
  refine (e_a (A := (77, 84, [some (vR 9 0 0), some (vI x1), some (vI x2), some (vI x3), some (vI x4)], [vI (σ1.1 8 0 2 (x4).toNatClampNeg), vI (σ1.1 8 0 1 (x4).toNatClampNeg), vI (σ1.1 8 0 0 (x4).toNatClampNeg), vR 9 0 0], σ1)) rfl h4).trans ?_
  refine (e_ci (m := 77) (pc := 87) (ls := [some (vR 9 0 0), some (vI x1), some (vI x2), some (vI x3), some (vI x4)]) (rest := []) rfl h5).trans ?_
  refine (e_n 2 (fr' := (77, 89, [some (vR 9 0 0), some (vI x1), some (vI x2), some (vI x3), some (vI x4)], [vI (1 : Int32), vI x2, vI r2], σ2)) rfl).trans ?_
  refine (e_t (A := (77, 92, [some (vR 9 0 0), some (vI x1), some (vI x2), some (vI x3), some (vI x4)], [vI r2], σ2)) rfl h6).trans ?_
  refine (e_n 2 (fr' := (77, 97, [some (vR 9 0 0), some (vI x1), some (vI x2), some (vI x3), some (vI x4)], [vI (1 : Int32), vI r2], σ2)) rfl).trans ?_
  refine (e_f (B := (77, 103, [some (vR 9 0 0), some (vI x1), some (vI x2), some (vI x3), some (vI x4)], [], σ2)) rfl h7).trans ?_
  exact e_n 2 rfl
set_option maxRecDepth 20000 in
theorem g77_24_4 (C : pmC) {σ : pmS} {x1 : Int32} {x2 : Int32} {x3 : Int32} {x4 : Int32} {σ1 : pmS} {r1 : Int32} {σ2 : pmS} {r2 : Int32} (h1 : ¬ (σ.1 8 0 3 0) ≤ x4) (h2 : C 52 [vR 8 0 0, vR 5 0 0, vI x4, vI x1] σ = some (some (vI r1), σ1)) (h3 : ¬ r1 = 0) (h4 : vp_in x4 40) (h5 : C 99 [vR 9 0 0, vI (σ1.1 8 0 0 (x4).toNatClampNeg), vI (σ1.1 8 0 1 (x4).toNatClampNeg), vI (σ1.1 8 0 2 (x4).toNatClampNeg)] σ1 = some (some (vI r2), σ2)) (h6 : ¬ x2 = (1 : Int32)) (h7 : r2 = (0 : Int32)) : pq_Rn C (77, 24, [some (vR 9 0 0), some (vI x1), some (vI x2), some (vI x3), some (vI x4)], [], σ) = pq_Rn C (77, 24, [some (vR 9 0 0), some (vI x1), some (vI x2), some (vI (x3 + (1 : Int32))), some (vI (x4 + (1 : Int32)))], [], σ2) := by
  refine (e_n 4 (fr' := (77, 33, [some (vR 9 0 0), some (vI x1), some (vI x2), some (vI x3), some (vI x4)], [vI (σ.1 8 0 3 0), vI x4], σ)) rfl).trans ?_
  refine (e_f (B := (77, 36, [some (vR 9 0 0), some (vI x1), some (vI x2), some (vI x3), some (vI x4)], [], σ)) rfl h1).trans ?_
  refine (e_n 6 (fr' := (77, 47, [some (vR 9 0 0), some (vI x1), some (vI x2), some (vI x3), some (vI x4)], [vI x1, vI x4, vR 5 0 0, vR 8 0 0], σ)) rfl).trans ?_
  refine (e_ci (m := 77) (pc := 50) (ls := [some (vR 9 0 0), some (vI x1), some (vI x2), some (vI x3), some (vI x4)]) (rest := []) rfl h2).trans ?_
  refine (e_f (B := (77, 53, [some (vR 9 0 0), some (vI x1), some (vI x2), some (vI x3), some (vI x4)], [], σ1)) rfl h3).trans ?_
  refine (e_n 5 (fr' := (77, 63, [some (vR 9 0 0), some (vI x1), some (vI x2), some (vI x3), some (vI x4)], [vI x4, vR 8 0 1, vR 9 0 0], σ1)) rfl).trans ?_
  refine (e_a (A := (77, 64, [some (vR 9 0 0), some (vI x1), some (vI x2), some (vI x3), some (vI x4)], [vI (σ1.1 8 0 0 (x4).toNatClampNeg), vR 9 0 0], σ1)) rfl h4).trans ?_
  refine (e_n 4 (fr' := (77, 73, [some (vR 9 0 0), some (vI x1), some (vI x2), some (vI x3), some (vI x4)], [vI x4, vR 8 0 2, vI (σ1.1 8 0 0 (x4).toNatClampNeg), vR 9 0 0], σ1)) rfl).trans ?_
  refine (e_a (A := (77, 74, [some (vR 9 0 0), some (vI x1), some (vI x2), some (vI x3), some (vI x4)], [vI (σ1.1 8 0 1 (x4).toNatClampNeg), vI (σ1.1 8 0 0 (x4).toNatClampNeg), vR 9 0 0], σ1)) rfl h4).trans ?_
  refine (e_n 4 (fr' := (77, 83, [some (vR 9 0 0), some (vI x1), some (vI x2), some (vI x3), some (vI x4)], [vI x4, vR 8 0 3, vI (σ1.1 8 0 1 (x4).toNatClampNeg), vI (σ1.1 8 0 0 (x4).toNatClampNeg), vR 9 0 0], σ1)) rfl).trans ?_
  refine (e_a (A := (77, 84, [some (vR 9 0 0), some (vI x1), some (vI x2), some (vI x3), some (vI x4)], [vI (σ1.1 8 0 2 (x4).toNatClampNeg), vI (σ1.1 8 0 1 (x4).toNatClampNeg), vI (σ1.1 8 0 0 (x4).toNatClampNeg), vR 9 0 0], σ1)) rfl h4).trans ?_
  refine (e_ci (m := 77) (pc := 87) (ls := [some (vR 9 0 0), some (vI x1), some (vI x2), some (vI x3), some (vI x4)]) (rest := []) rfl h5).trans ?_
  refine (e_n 2 (fr' := (77, 89, [some (vR 9 0 0), some (vI x1), some (vI x2), some (vI x3), some (vI x4)], [vI (1 : Int32), vI x2, vI r2], σ2)) rfl).trans ?_
  refine (e_f (B := (77, 96, [some (vR 9 0 0), some (vI x1), some (vI x2), some (vI x3), some (vI x4)], [vI r2], σ2)) rfl h6).trans ?_
  refine (e_n 1 (fr' := (77, 97, [some (vR 9 0 0), some (vI x1), some (vI x2), some (vI x3), some (vI x4)], [vI (0 : Int32), vI r2], σ2)) rfl).trans ?_
  refine (e_t (A := (77, 100, [some (vR 9 0 0), some (vI x1), some (vI x2), some (vI x3), some (vI x4)], [], σ2)) rfl h7).trans ?_
  exact e_n 3 rfl
set_option maxRecDepth 20000 in
theorem g77_24_5 (C : pmC) {σ : pmS} {x1 : Int32} {x2 : Int32} {x3 : Int32} {x4 : Int32} {σ1 : pmS} {r1 : Int32} {σ2 : pmS} {r2 : Int32} (h1 : ¬ (σ.1 8 0 3 0) ≤ x4) (h2 : C 52 [vR 8 0 0, vR 5 0 0, vI x4, vI x1] σ = some (some (vI r1), σ1)) (h3 : ¬ r1 = 0) (h4 : vp_in x4 40) (h5 : C 99 [vR 9 0 0, vI (σ1.1 8 0 0 (x4).toNatClampNeg), vI (σ1.1 8 0 1 (x4).toNatClampNeg), vI (σ1.1 8 0 2 (x4).toNatClampNeg)] σ1 = some (some (vI r2), σ2)) (h6 : ¬ x2 = (1 : Int32)) (h7 : ¬ r2 = (0 : Int32)) : pq_Rn C (77, 24, [some (vR 9 0 0), some (vI x1), some (vI x2), some (vI x3), some (vI x4)], [], σ) = pq_Rn C (77, 24, [some (vR 9 0 0), some (vI x1), some (vI x2), some (vI x3), some (vI (x4 + (1 : Int32)))], [], σ2) := by
  refine (e_n 4 (fr' := (77, 33, [some (vR 9 0 0), some (vI x1), some (vI x2), some (vI x3), some (vI x4)], [vI (σ.1 8 0 3 0), vI x4], σ)) rfl).trans ?_
  refine (e_f (B := (77, 36, [some (vR 9 0 0), some (vI x1), some (vI x2), some (vI x3), some (vI x4)], [], σ)) rfl h1).trans ?_
  refine (e_n 6 (fr' := (77, 47, [some (vR 9 0 0), some (vI x1), some (vI x2), some (vI x3), some (vI x4)], [vI x1, vI x4, vR 5 0 0, vR 8 0 0], σ)) rfl).trans ?_
  refine (e_ci (m := 77) (pc := 50) (ls := [some (vR 9 0 0), some (vI x1), some (vI x2), some (vI x3), some (vI x4)]) (rest := []) rfl h2).trans ?_
  refine (e_f (B := (77, 53, [some (vR 9 0 0), some (vI x1), some (vI x2), some (vI x3), some (vI x4)], [], σ1)) rfl h3).trans ?_
  refine (e_n 5 (fr' := (77, 63, [some (vR 9 0 0), some (vI x1), some (vI x2), some (vI x3), some (vI x4)], [vI x4, vR 8 0 1, vR 9 0 0], σ1)) rfl).trans ?_
  refine (e_a (A := (77, 64, [some (vR 9 0 0), some (vI x1), some (vI x2), some (vI x3), some (vI x4)], [vI (σ1.1 8 0 0 (x4).toNatClampNeg), vR 9 0 0], σ1)) rfl h4).trans ?_
  refine (e_n 4 (fr' := (77, 73, [some (vR 9 0 0), some (vI x1), some (vI x2), some (vI x3), some (vI x4)], [vI x4, vR 8 0 2, vI (σ1.1 8 0 0 (x4).toNatClampNeg), vR 9 0 0], σ1)) rfl).trans ?_
  refine (e_a (A := (77, 74, [some (vR 9 0 0), some (vI x1), some (vI x2), some (vI x3), some (vI x4)], [vI (σ1.1 8 0 1 (x4).toNatClampNeg), vI (σ1.1 8 0 0 (x4).toNatClampNeg), vR 9 0 0], σ1)) rfl h4).trans ?_
  refine (e_n 4 (fr' := (77, 83, [some (vR 9 0 0), some (vI x1), some (vI x2), some (vI x3), some (vI x4)], [vI x4, vR 8 0 3, vI (σ1.1 8 0 1 (x4).toNatClampNeg), vI (σ1.1 8 0 0 (x4).toNatClampNeg), vR 9 0 0], σ1)) rfl).trans ?_
  refine (e_a (A := (77, 84, [some (vR 9 0 0), some (vI x1), some (vI x2), some (vI x3), some (vI x4)], [vI (σ1.1 8 0 2 (x4).toNatClampNeg), vI (σ1.1 8 0 1 (x4).toNatClampNeg), vI (σ1.1 8 0 0 (x4).toNatClampNeg), vR 9 0 0], σ1)) rfl h4).trans ?_
  refine (e_ci (m := 77) (pc := 87) (ls := [some (vR 9 0 0), some (vI x1), some (vI x2), some (vI x3), some (vI x4)]) (rest := []) rfl h5).trans ?_
  refine (e_n 2 (fr' := (77, 89, [some (vR 9 0 0), some (vI x1), some (vI x2), some (vI x3), some (vI x4)], [vI (1 : Int32), vI x2, vI r2], σ2)) rfl).trans ?_
  refine (e_f (B := (77, 96, [some (vR 9 0 0), some (vI x1), some (vI x2), some (vI x3), some (vI x4)], [vI r2], σ2)) rfl h6).trans ?_
  refine (e_n 1 (fr' := (77, 97, [some (vR 9 0 0), some (vI x1), some (vI x2), some (vI x3), some (vI x4)], [vI (0 : Int32), vI r2], σ2)) rfl).trans ?_
  refine (e_f (B := (77, 103, [some (vR 9 0 0), some (vI x1), some (vI x2), some (vI x3), some (vI x4)], [], σ2)) rfl h7).trans ?_
  exact e_n 2 rfl
set_option maxRecDepth 20000 in
theorem g78_0_0 (C : pmC) {σ : pmS} {x1 : Int32} {x2 : Int32} {l3 : Option pmV} {σ1 : pmS} {r1 : Int32} (h1 : C 88 [vR 9 0 0, vI x1] σ = some (some (vI r1), σ1)) (h2 : r1 = 0) : pq_Rn C (78, 0, [some (vR 9 0 0), some (vI x1), some (vI x2), l3], [], σ) = some (some (vI (-1 : Int32)), σ1) := by
  refine (e_n 2 (fr' := (78, 2, [some (vR 9 0 0), some (vI x1), some (vI x2), l3], [vI x1, vR 9 0 0], σ)) rfl).trans ?_
  refine (e_ci (m := 78) (pc := 5) (ls := [some (vR 9 0 0), some (vI x1), some (vI x2), l3]) (rest := []) rfl h1).trans ?_
  refine (e_t (A := (78, 8, [some (vR 9 0 0), some (vI x1), some (vI x2), l3], [], σ1)) rfl h2).trans ?_
  refine (e_n 1 (fr' := (78, 9, [some (vR 9 0 0), some (vI x1), some (vI x2), l3], [vI (-1 : Int32)], σ1)) rfl).trans ?_
  exact e_r rfl
set_option maxRecDepth 20000 in
theorem g78_0_1 (C : pmC) {σ : pmS} {x1 : Int32} {x2 : Int32} {l3 : Option pmV} {σ1 : pmS} {r1 : Int32} {σ2 : pmS} {r2 : Int32} (h1 : C 88 [vR 9 0 0, vI x1] σ = some (some (vI r1), σ1)) (h2 : ¬ r1 = 0) (h3 : C 90 [vI x2] σ1 = some (some (vI r2), σ2)) (h4 : r2 = 0) : pq_Rn C (78, 0, [some (vR 9 0 0), some (vI x1), some (vI x2), l3], [], σ) = some (some (vI (-2 : Int32)), σ2) := by
  refine (e_n 2 (fr' := (78, 2, [some (vR 9 0 0), some (vI x1), some (vI x2), l3], [vI x1, vR 9 0 0], σ)) rfl).trans ?_
  refine (e_ci (m := 78) (pc := 5) (ls := [some (vR 9 0 0), some (vI x1), some (vI x2), l3]) (rest := []) rfl h1).trans ?_
  refine (e_f (B := (78, 10, [some (vR 9 0 0), some (vI x1), some (vI x2), l3], [], σ1)) rfl h2).trans ?_
  refine (e_n 1 (fr' := (78, 11, [some (vR 9 0 0), some (vI x1), some (vI x2), l3], [vI x2], σ1)) rfl).trans ?_
  refine (e_ci (m := 78) (pc := 14) (ls := [some (vR 9 0 0), some (vI x1), some (vI x2), l3]) (rest := []) rfl h3).trans ?_
  refine (e_t (A := (78, 17, [some (vR 9 0 0), some (vI x1), some (vI x2), l3], [], σ2)) rfl h4).trans ?_
  refine (e_n 1 (fr' := (78, 19, [some (vR 9 0 0), some (vI x1), some (vI x2), l3], [vI (-2 : Int32)], σ2)) rfl).trans ?_
  exact e_r rfl
set_option maxRecDepth 20000 in
theorem g78_0_2 (C : pmC) {σ : pmS} {x1 : Int32} {x2 : Int32} {l3 : Option pmV} {σ1 : pmS} {r1 : Int32} {σ2 : pmS} {r2 : Int32} {σ3 : pmS} (h1 : C 88 [vR 9 0 0, vI x1] σ = some (some (vI r1), σ1)) (h2 : ¬ r1 = 0) (h3 : C 90 [vI x2] σ1 = some (some (vI r2), σ2)) (h4 : ¬ r2 = 0) (h5 : C 16 [vR 3 0 0] σ2 = some (none, σ3)) : pq_Rn C (78, 0, [some (vR 9 0 0), some (vI x1), some (vI x2), l3], [], σ) = pq_Rn C (78, 29, [some (vR 9 0 0), some (vI x1), some (vI x2), some (vI (0 : Int32))], [], σ3) := by
  refine (e_n 2 (fr' := (78, 2, [some (vR 9 0 0), some (vI x1), some (vI x2), l3], [vI x1, vR 9 0 0], σ)) rfl).trans ?_
  refine (e_ci (m := 78) (pc := 5) (ls := [some (vR 9 0 0), some (vI x1), some (vI x2), l3]) (rest := []) rfl h1).trans ?_
  refine (e_f (B := (78, 10, [some (vR 9 0 0), some (vI x1), some (vI x2), l3], [], σ1)) rfl h2).trans ?_
  refine (e_n 1 (fr' := (78, 11, [some (vR 9 0 0), some (vI x1), some (vI x2), l3], [vI x2], σ1)) rfl).trans ?_
  refine (e_ci (m := 78) (pc := 14) (ls := [some (vR 9 0 0), some (vI x1), some (vI x2), l3]) (rest := []) rfl h3).trans ?_
  refine (e_f (B := (78, 20, [some (vR 9 0 0), some (vI x1), some (vI x2), l3], [], σ2)) rfl h4).trans ?_
  refine (e_n 2 (fr' := (78, 24, [some (vR 9 0 0), some (vI x1), some (vI x2), l3], [vR 3 0 0], σ2)) rfl).trans ?_
  refine (e_cv (m := 78) (pc := 27) (ls := [some (vR 9 0 0), some (vI x1), some (vI x2), l3]) (rest := []) rfl h5).trans ?_
  exact e_n 2 rfl
set_option maxRecDepth 20000 in
theorem g78_29_0 (C : pmC) {σ : pmS} {x1 : Int32} {x2 : Int32} {x3 : Int32} {σ1 : pmS} {r1 : Int32} (h1 : (σ.1 5 0 9 0) ≤ x3) (h2 : C 18 [vR 3 0 0] σ = some (some (vI r1), σ1)) : pq_Rn C (78, 29, [some (vR 9 0 0), some (vI x1), some (vI x2), some (vI x3)], [], σ) = some (some (vI r1), σ1) := by
  refine (e_n 4 (fr' := (78, 37, [some (vR 9 0 0), some (vI x1), some (vI x2), some (vI x3)], [vI (σ.1 5 0 9 0), vI x3], σ)) rfl).trans ?_
  refine (e_t (A := (78, 64, [some (vR 9 0 0), some (vI x1), some (vI x2), some (vI x3)], [], σ)) rfl h1).trans ?_
  refine (e_n 2 (fr' := (78, 68, [some (vR 9 0 0), some (vI x1), some (vI x2), some (vI x3)], [vR 3 0 0], σ)) rfl).trans ?_
  refine (e_ci (m := 78) (pc := 71) (ls := [some (vR 9 0 0), some (vI x1), some (vI x2), some (vI x3)]) (rest := []) rfl h2).trans ?_
  exact e_r rfl
set_option maxRecDepth 20000 in
theorem g78_29_1 (C : pmC) {σ : pmS} {x1 : Int32} {x2 : Int32} {x3 : Int32} {σ1 : pmS} {r1 : Int32} (h1 : ¬ (σ.1 5 0 9 0) ≤ x3) (h2 : C 100 [vR 9 0 0, vI x3, vI (0 : Int32), vI x1, vI x2] σ = some (some (vI r1), σ1)) (h3 : r1 = 0) : pq_Rn C (78, 29, [some (vR 9 0 0), some (vI x1), some (vI x2), some (vI x3)], [], σ) = pq_Rn C (78, 29, [some (vR 9 0 0), some (vI x1), some (vI x2), some (vI (x3 + (1 : Int32)))], [], σ1) := by
  refine (e_n 4 (fr' := (78, 37, [some (vR 9 0 0), some (vI x1), some (vI x2), some (vI x3)], [vI (σ.1 5 0 9 0), vI x3], σ)) rfl).trans ?_
  refine (e_f (B := (78, 40, [some (vR 9 0 0), some (vI x1), some (vI x2), some (vI x3)], [], σ)) rfl h1).trans ?_
  refine (e_n 5 (fr' := (78, 45, [some (vR 9 0 0), some (vI x1), some (vI x2), some (vI x3)], [vI x2, vI x1, vI (0 : Int32), vI x3, vR 9 0 0], σ)) rfl).trans ?_
  refine (e_ci (m := 78) (pc := 48) (ls := [some (vR 9 0 0), some (vI x1), some (vI x2), some (vI x3)]) (rest := []) rfl h2).trans ?_
  refine (e_t (A := (78, 58, [some (vR 9 0 0), some (vI x1), some (vI x2), some (vI x3)], [], σ1)) rfl h3).trans ?_
  exact e_n 2 rfl
set_option maxRecDepth 20000 in
theorem g78_29_2 (C : pmC) {σ : pmS} {x1 : Int32} {x2 : Int32} {x3 : Int32} {σ1 : pmS} {r1 : Int32} {σ2 : pmS} (h1 : ¬ (σ.1 5 0 9 0) ≤ x3) (h2 : C 100 [vR 9 0 0, vI x3, vI (0 : Int32), vI x1, vI x2] σ = some (some (vI r1), σ1)) (h3 : ¬ r1 = 0) (h4 : C 101 [vR 9 0 0, vI x3, vI x1, vI x2] σ1 = some (none, σ2)) : pq_Rn C (78, 29, [some (vR 9 0 0), some (vI x1), some (vI x2), some (vI x3)], [], σ) = pq_Rn C (78, 29, [some (vR 9 0 0), some (vI x1), some (vI x2), some (vI (x3 + (1 : Int32)))], [], σ2) := by
  refine (e_n 4 (fr' := (78, 37, [some (vR 9 0 0), some (vI x1), some (vI x2), some (vI x3)], [vI (σ.1 5 0 9 0), vI x3], σ)) rfl).trans ?_
  refine (e_f (B := (78, 40, [some (vR 9 0 0), some (vI x1), some (vI x2), some (vI x3)], [], σ)) rfl h1).trans ?_
  refine (e_n 5 (fr' := (78, 45, [some (vR 9 0 0), some (vI x1), some (vI x2), some (vI x3)], [vI x2, vI x1, vI (0 : Int32), vI x3, vR 9 0 0], σ)) rfl).trans ?_
  refine (e_ci (m := 78) (pc := 48) (ls := [some (vR 9 0 0), some (vI x1), some (vI x2), some (vI x3)]) (rest := []) rfl h2).trans ?_
  refine (e_f (B := (78, 51, [some (vR 9 0 0), some (vI x1), some (vI x2), some (vI x3)], [], σ1)) rfl h3).trans ?_
  refine (e_n 4 (fr' := (78, 55, [some (vR 9 0 0), some (vI x1), some (vI x2), some (vI x3)], [vI x2, vI x1, vI x3, vR 9 0 0], σ1)) rfl).trans ?_
  refine (e_cv (m := 78) (pc := 58) (ls := [some (vR 9 0 0), some (vI x1), some (vI x2), some (vI x3)]) (rest := []) rfl h4).trans ?_
  exact e_n 2 rfl
set_option maxRecDepth 20000 in
theorem g79_0_0 (C : pmC) {σ : pmS} {x1 : Int32} {σ1 : pmS} {r1 : Int32} (h1 : C 32 [vR 5 0 0, vI x1] σ = some (some (vI r1), σ1)) (h2 : r1 = 0) : pq_Rn C (79, 0, [some (vR 9 0 0), some (vI x1)], [], σ) = some (some (vI (-1 : Int32)), σ1) := by
  refine (e_n 3 (fr' := (79, 5, [some (vR 9 0 0), some (vI x1)], [vI x1, vR 5 0 0], σ)) rfl).trans ?_
  refine (e_ci (m := 79) (pc := 8) (ls := [some (vR 9 0 0), some (vI x1)]) (rest := []) rfl h1).trans ?_
  refine (e_t (A := (79, 23, [some (vR 9 0 0), some (vI x1)], [], σ1)) rfl h2).trans ?_
  refine (e_n 1 (fr' := (79, 24, [some (vR 9 0 0), some (vI x1)], [vI (-1 : Int32)], σ1)) rfl).trans ?_
  exact e_r rfl
set_option maxRecDepth 20000 in
theorem g79_0_1 (C : pmC) {σ : pmS} {x1 : Int32} {σ1 : pmS} {r1 : Int32} (h1 : C 32 [vR 5 0 0, vI x1] σ = some (some (vI r1), σ1)) (h2 : ¬ r1 = 0) (h3 : vp_in x1 48) : pq_Rn C (79, 0, [some (vR 9 0 0), some (vI x1)], [], σ) = some (some (vI (σ1.1 3 0 1 (x1).toNatClampNeg)), σ1) := by
  refine (e_n 3 (fr' := (79, 5, [some (vR 9 0 0), some (vI x1)], [vI x1, vR 5 0 0], σ)) rfl).trans ?_
  refine (e_ci (m := 79) (pc := 8) (ls := [some (vR 9 0 0), some (vI x1)]) (rest := []) rfl h1).trans ?_
  refine (e_f (B := (79, 11, [some (vR 9 0 0), some (vI x1)], [], σ1)) rfl h2).trans ?_
  refine (e_n 4 (fr' := (79, 19, [some (vR 9 0 0), some (vI x1)], [vI x1, vR 3 0 2], σ1)) rfl).trans ?_
  refine (e_a (A := (79, 20, [some (vR 9 0 0), some (vI x1)], [vI (σ1.1 3 0 1 (x1).toNatClampNeg)], σ1)) rfl h3).trans ?_
  refine (e_n 1 (fr' := (79, 24, [some (vR 9 0 0), some (vI x1)], [vI (σ1.1 3 0 1 (x1).toNatClampNeg)], σ1)) rfl).trans ?_
  exact e_r rfl
set_option maxRecDepth 20000 in
theorem g80_0_0 (C : pmC) {σ : pmS} {x1 : Int32} (h1 : x1 = (0 : Int32)) : pq_Rn C (80, 0, [some (vR 9 0 0), some (vI x1)], [], σ) = some (some (vI (σ.1 3 0 7 0)), σ) := by
  refine (e_n 1 (fr' := (80, 1, [some (vR 9 0 0), some (vI x1)], [vI x1], σ)) rfl).trans ?_
  refine (e_g (A := (80, 28, [some (vR 9 0 0), some (vI x1)], [], σ)) (off' := 27) rfl (by rw [h1]; decide) rfl).trans ?_
  refine (e_n 3 (fr' := (80, 35, [some (vR 9 0 0), some (vI x1)], [vI (σ.1 3 0 7 0)], σ)) rfl).trans ?_
  exact e_r rfl
set_option maxRecDepth 20000 in
theorem g80_0_1 (C : pmC) {σ : pmS} {x1 : Int32} (h1 : x1 = (1 : Int32)) : pq_Rn C (80, 0, [some (vR 9 0 0), some (vI x1)], [], σ) = some (some (vI (σ.1 3 0 8 0)), σ) := by
  refine (e_n 1 (fr' := (80, 1, [some (vR 9 0 0), some (vI x1)], [vI x1], σ)) rfl).trans ?_
  refine (e_g (A := (80, 36, [some (vR 9 0 0), some (vI x1)], [], σ)) (off' := 35) rfl (by rw [h1]; decide) rfl).trans ?_
  refine (e_n 3 (fr' := (80, 43, [some (vR 9 0 0), some (vI x1)], [vI (σ.1 3 0 8 0)], σ)) rfl).trans ?_
  exact e_r rfl
set_option maxRecDepth 20000 in
theorem g80_0_2 (C : pmC) {σ : pmS} {x1 : Int32} (h1 : ¬ x1 = (0 : Int32)) (h2 : ¬ x1 = (1 : Int32)) : pq_Rn C (80, 0, [some (vR 9 0 0), some (vI x1)], [], σ) = some (some (vI (-1 : Int32)), σ) := by
  refine (e_n 1 (fr' := (80, 1, [some (vR 9 0 0), some (vI x1)], [vI x1], σ)) rfl).trans ?_
  refine (e_g (A := (80, 44, [some (vR 9 0 0), some (vI x1)], [], σ)) (off' := 43) rfl ((pm_lk_ne h1).trans ((pm_lk_ne h2).trans (rfl))) rfl).trans ?_
  refine (e_n 1 (fr' := (80, 45, [some (vR 9 0 0), some (vI x1)], [vI (-1 : Int32)], σ)) rfl).trans ?_
  exact e_r rfl
set_option maxRecDepth 20000 in
theorem g81_0_0 (C : pmC) {σ : pmS} {x1 : Int32} {x2 : Int32} {σ1 : pmS} {r1 : Int32} (h1 : C 86 [vR 9 0 0, vI x1] σ = some (some (vI r1), σ1)) (h2 : r1 = 0) : pq_Rn C (81, 0, [some (vR 9 0 0), some (vI x1), some (vI x2)], [], σ) = some (some (vI (-1 : Int32)), σ1) := by
  refine (e_n 2 (fr' := (81, 2, [some (vR 9 0 0), some (vI x1), some (vI x2)], [vI x1, vR 9 0 0], σ)) rfl).trans ?_
  refine (e_ci (m := 81) (pc := 5) (ls := [some (vR 9 0 0), some (vI x1), some (vI x2)]) (rest := []) rfl h1).trans ?_
  refine (e_t (A := (81, 16, [some (vR 9 0 0), some (vI x1), some (vI x2)], [], σ1)) rfl h2).trans ?_
  refine (e_n 1 (fr' := (81, 17, [some (vR 9 0 0), some (vI x1), some (vI x2)], [vI (-1 : Int32)], σ1)) rfl).trans ?_
  exact e_r rfl
set_option maxRecDepth 20000 in
theorem g81_0_1 (C : pmC) {σ : pmS} {x1 : Int32} {x2 : Int32} {σ1 : pmS} {r1 : Int32} {σ2 : pmS} {r2 : Int32} (h1 : C 86 [vR 9 0 0, vI x1] σ = some (some (vI r1), σ1)) (h2 : ¬ r1 = 0) (h3 : C 86 [vR 9 0 0, vI x2] σ1 = some (some (vI r2), σ2)) (h4 : r2 = 0) : pq_Rn C (81, 0, [some (vR 9 0 0), some (vI x1), some (vI x2)], [], σ) = some (some (vI (-1 : Int32)), σ2) := by
  refine (e_n 2 (fr' := (81, 2, [some (vR 9 0 0), some (vI x1), some (vI x2)], [vI x1, vR 9 0 0], σ)) rfl).trans ?_
  refine (e_ci (m := 81) (pc := 5) (ls := [some (vR 9 0 0), some (vI x1), some (vI x2)]) (rest := []) rfl h1).trans ?_
  refine (e_f (B := (81, 8, [some (vR 9 0 0), some (vI x1), some (vI x2)], [], σ1)) rfl h2).trans ?_
  refine (e_n 2 (fr' := (81, 10, [some (vR 9 0 0), some (vI x1), some (vI x2)], [vI x2, vR 9 0 0], σ1)) rfl).trans ?_
  refine (e_ci (m := 81) (pc := 13) (ls := [some (vR 9 0 0), some (vI x1), some (vI x2)]) (rest := []) rfl h3).trans ?_
  refine (e_t (A := (81, 16, [some (vR 9 0 0), some (vI x1), some (vI x2)], [], σ2)) rfl h4).trans ?_
  refine (e_n 1 (fr' := (81, 17, [some (vR 9 0 0), some (vI x1), some (vI x2)], [vI (-1 : Int32)], σ2)) rfl).trans ?_
  exact e_r rfl
set_option maxRecDepth 20000 in
theorem g81_0_2 (C : pmC) {σ : pmS} {x1 : Int32} {x2 : Int32} {σ1 : pmS} {r1 : Int32} {σ2 : pmS} {r2 : Int32} {σ3 : pmS} {r3 : Int32} (h1 : C 86 [vR 9 0 0, vI x1] σ = some (some (vI r1), σ1)) (h2 : ¬ r1 = 0) (h3 : C 86 [vR 9 0 0, vI x2] σ1 = some (some (vI r2), σ2)) (h4 : ¬ r2 = 0) (h5 : vp_in x1 4) (h6 : vp_in x2 4) (h7 : (σ2.1 2 (x1).toNatClampNeg 8 0) = (σ2.1 2 (x2).toNatClampNeg 8 0)) (h8 : C 28 [vR 4 0 0, vR 2 (x1).toNatClampNeg 0, vR 2 (x2).toNatClampNeg 0] σ2 = some (some (vI r3), σ3)) : pq_Rn C (81, 0, [some (vR 9 0 0), some (vI x1), some (vI x2)], [], σ) = some (some (vI r3), σ3) := by
  refine (e_n 2 (fr' := (81, 2, [some (vR 9 0 0), some (vI x1), some (vI x2)], [vI x1, vR 9 0 0], σ)) rfl).trans ?_
  refine (e_ci (m := 81) (pc := 5) (ls := [some (vR 9 0 0), some (vI x1), some (vI x2)]) (rest := []) rfl h1).trans ?_
  refine (e_f (B := (81, 8, [some (vR 9 0 0), some (vI x1), some (vI x2)], [], σ1)) rfl h2).trans ?_
  refine (e_n 2 (fr' := (81, 10, [some (vR 9 0 0), some (vI x1), some (vI x2)], [vI x2, vR 9 0 0], σ1)) rfl).trans ?_
  refine (e_ci (m := 81) (pc := 13) (ls := [some (vR 9 0 0), some (vI x1), some (vI x2)]) (rest := []) rfl h3).trans ?_
  refine (e_f (B := (81, 18, [some (vR 9 0 0), some (vI x1), some (vI x2)], [], σ2)) rfl h4).trans ?_
  refine (e_n 3 (fr' := (81, 23, [some (vR 9 0 0), some (vI x1), some (vI x2)], [vI x1, vR 9 0 2], σ2)) rfl).trans ?_
  refine (e_a (A := (81, 24, [some (vR 9 0 0), some (vI x1), some (vI x2)], [vR 2 (x1).toNatClampNeg 0], σ2)) rfl h5).trans ?_
  refine (e_n 4 (fr' := (81, 32, [some (vR 9 0 0), some (vI x1), some (vI x2)], [vI x2, vR 9 0 2, vI (σ2.1 2 (x1).toNatClampNeg 8 0)], σ2)) rfl).trans ?_
  refine (e_a (A := (81, 33, [some (vR 9 0 0), some (vI x1), some (vI x2)], [vR 2 (x2).toNatClampNeg 0, vI (σ2.1 2 (x1).toNatClampNeg 8 0)], σ2)) rfl h6).trans ?_
  refine (e_n 1 (fr' := (81, 36, [some (vR 9 0 0), some (vI x1), some (vI x2)], [vI (σ2.1 2 (x2).toNatClampNeg 8 0), vI (σ2.1 2 (x1).toNatClampNeg 8 0)], σ2)) rfl).trans ?_
  refine (e_t (A := (81, 42, [some (vR 9 0 0), some (vI x1), some (vI x2)], [], σ2)) rfl h7).trans ?_
  refine (e_n 5 (fr' := (81, 51, [some (vR 9 0 0), some (vI x1), some (vI x2)], [vI x1, vR 9 0 2, vR 4 0 0], σ2)) rfl).trans ?_
  refine (e_a (A := (81, 52, [some (vR 9 0 0), some (vI x1), some (vI x2)], [vR 2 (x1).toNatClampNeg 0, vR 4 0 0], σ2)) rfl h5).trans ?_
  refine (e_n 3 (fr' := (81, 57, [some (vR 9 0 0), some (vI x1), some (vI x2)], [vI x2, vR 9 0 2, vR 2 (x1).toNatClampNeg 0, vR 4 0 0], σ2)) rfl).trans ?_
  refine (e_a (A := (81, 58, [some (vR 9 0 0), some (vI x1), some (vI x2)], [vR 2 (x2).toNatClampNeg 0, vR 2 (x1).toNatClampNeg 0, vR 4 0 0], σ2)) rfl h6).trans ?_
  refine (e_ci (m := 81) (pc := 61) (ls := [some (vR 9 0 0), some (vI x1), some (vI x2)]) (rest := []) rfl h8).trans ?_
  exact e_r rfl
set_option maxRecDepth 20000 in
theorem g81_0_3 (C : pmC) {σ : pmS} {x1 : Int32} {x2 : Int32} {σ1 : pmS} {r1 : Int32} {σ2 : pmS} {r2 : Int32} (h1 : C 86 [vR 9 0 0, vI x1] σ = some (some (vI r1), σ1)) (h2 : ¬ r1 = 0) (h3 : C 86 [vR 9 0 0, vI x2] σ1 = some (some (vI r2), σ2)) (h4 : ¬ r2 = 0) (h5 : vp_in x1 4) (h6 : vp_in x2 4) (h7 : ¬ (σ2.1 2 (x1).toNatClampNeg 8 0) = (σ2.1 2 (x2).toNatClampNeg 8 0)) : pq_Rn C (81, 0, [some (vR 9 0 0), some (vI x1), some (vI x2)], [], σ) = some (some (vI (-3 : Int32)), σ2) := by
  refine (e_n 2 (fr' := (81, 2, [some (vR 9 0 0), some (vI x1), some (vI x2)], [vI x1, vR 9 0 0], σ)) rfl).trans ?_
  refine (e_ci (m := 81) (pc := 5) (ls := [some (vR 9 0 0), some (vI x1), some (vI x2)]) (rest := []) rfl h1).trans ?_
  refine (e_f (B := (81, 8, [some (vR 9 0 0), some (vI x1), some (vI x2)], [], σ1)) rfl h2).trans ?_
  refine (e_n 2 (fr' := (81, 10, [some (vR 9 0 0), some (vI x1), some (vI x2)], [vI x2, vR 9 0 0], σ1)) rfl).trans ?_
  refine (e_ci (m := 81) (pc := 13) (ls := [some (vR 9 0 0), some (vI x1), some (vI x2)]) (rest := []) rfl h3).trans ?_
  refine (e_f (B := (81, 18, [some (vR 9 0 0), some (vI x1), some (vI x2)], [], σ2)) rfl h4).trans ?_
  refine (e_n 3 (fr' := (81, 23, [some (vR 9 0 0), some (vI x1), some (vI x2)], [vI x1, vR 9 0 2], σ2)) rfl).trans ?_
  refine (e_a (A := (81, 24, [some (vR 9 0 0), some (vI x1), some (vI x2)], [vR 2 (x1).toNatClampNeg 0], σ2)) rfl h5).trans ?_
  refine (e_n 4 (fr' := (81, 32, [some (vR 9 0 0), some (vI x1), some (vI x2)], [vI x2, vR 9 0 2, vI (σ2.1 2 (x1).toNatClampNeg 8 0)], σ2)) rfl).trans ?_
  refine (e_a (A := (81, 33, [some (vR 9 0 0), some (vI x1), some (vI x2)], [vR 2 (x2).toNatClampNeg 0, vI (σ2.1 2 (x1).toNatClampNeg 8 0)], σ2)) rfl h6).trans ?_
  refine (e_n 1 (fr' := (81, 36, [some (vR 9 0 0), some (vI x1), some (vI x2)], [vI (σ2.1 2 (x2).toNatClampNeg 8 0), vI (σ2.1 2 (x1).toNatClampNeg 8 0)], σ2)) rfl).trans ?_
  refine (e_f (B := (81, 39, [some (vR 9 0 0), some (vI x1), some (vI x2)], [], σ2)) rfl h7).trans ?_
  refine (e_n 1 (fr' := (81, 41, [some (vR 9 0 0), some (vI x1), some (vI x2)], [vI (-3 : Int32)], σ2)) rfl).trans ?_
  exact e_r rfl
set_option maxRecDepth 20000 in
theorem g82_0_0 (C : pmC) {σ : pmS} {x1 : Int32} (h1 : x1 < 0) : pq_Rn C (82, 0, [some (vR 9 0 0), some (vI x1)], [], σ) = some (some (vI (-1 : Int32)), σ) := by
  refine (e_n 1 (fr' := (82, 1, [some (vR 9 0 0), some (vI x1)], [vI x1], σ)) rfl).trans ?_
  refine (e_t (A := (82, 27, [some (vR 9 0 0), some (vI x1)], [], σ)) rfl h1).trans ?_
  refine (e_n 1 (fr' := (82, 28, [some (vR 9 0 0), some (vI x1)], [vI (-1 : Int32)], σ)) rfl).trans ?_
  exact e_r rfl
set_option maxRecDepth 20000 in
theorem g82_0_1 (C : pmC) {σ : pmS} {x1 : Int32} (h1 : ¬ x1 < 0) (h2 : (σ.1 4 0 4 0) ≤ x1) : pq_Rn C (82, 0, [some (vR 9 0 0), some (vI x1)], [], σ) = some (some (vI (-1 : Int32)), σ) := by
  refine (e_n 1 (fr' := (82, 1, [some (vR 9 0 0), some (vI x1)], [vI x1], σ)) rfl).trans ?_
  refine (e_f (B := (82, 4, [some (vR 9 0 0), some (vI x1)], [], σ)) rfl h1).trans ?_
  refine (e_n 4 (fr' := (82, 12, [some (vR 9 0 0), some (vI x1)], [vI (σ.1 4 0 4 0), vI x1], σ)) rfl).trans ?_
  refine (e_t (A := (82, 27, [some (vR 9 0 0), some (vI x1)], [], σ)) rfl h2).trans ?_
  refine (e_n 1 (fr' := (82, 28, [some (vR 9 0 0), some (vI x1)], [vI (-1 : Int32)], σ)) rfl).trans ?_
  exact e_r rfl
set_option maxRecDepth 20000 in
theorem g82_0_2 (C : pmC) {σ : pmS} {x1 : Int32} (h1 : ¬ x1 < 0) (h2 : ¬ (σ.1 4 0 4 0) ≤ x1) (h3 : vp_in x1 8) : pq_Rn C (82, 0, [some (vR 9 0 0), some (vI x1)], [], σ) = some (some (vI (σ.1 4 0 0 (x1).toNatClampNeg)), σ) := by
  refine (e_n 1 (fr' := (82, 1, [some (vR 9 0 0), some (vI x1)], [vI x1], σ)) rfl).trans ?_
  refine (e_f (B := (82, 4, [some (vR 9 0 0), some (vI x1)], [], σ)) rfl h1).trans ?_
  refine (e_n 4 (fr' := (82, 12, [some (vR 9 0 0), some (vI x1)], [vI (σ.1 4 0 4 0), vI x1], σ)) rfl).trans ?_
  refine (e_f (B := (82, 15, [some (vR 9 0 0), some (vI x1)], [], σ)) rfl h2).trans ?_
  refine (e_n 4 (fr' := (82, 23, [some (vR 9 0 0), some (vI x1)], [vI x1, vR 4 0 1], σ)) rfl).trans ?_
  refine (e_a (A := (82, 24, [some (vR 9 0 0), some (vI x1)], [vI (σ.1 4 0 0 (x1).toNatClampNeg)], σ)) rfl h3).trans ?_
  refine (e_n 1 (fr' := (82, 28, [some (vR 9 0 0), some (vI x1)], [vI (σ.1 4 0 0 (x1).toNatClampNeg)], σ)) rfl).trans ?_
  exact e_r rfl
set_option maxRecDepth 20000 in
theorem g83_0_0 (C : pmC) {σ : pmS} {x1 : Int32} {σ1 : pmS} {r1 : Int32} (h1 : C 32 [vR 5 0 0, vI x1] σ = some (some (vI r1), σ1)) (h2 : r1 = 0) : pq_Rn C (83, 0, [some (vR 9 0 0), some (vI x1)], [], σ) = some (some (vI (-1 : Int32)), σ1) := by
  refine (e_n 3 (fr' := (83, 5, [some (vR 9 0 0), some (vI x1)], [vI x1, vR 5 0 0], σ)) rfl).trans ?_
  refine (e_ci (m := 83) (pc := 8) (ls := [some (vR 9 0 0), some (vI x1)]) (rest := []) rfl h1).trans ?_
  refine (e_t (A := (83, 11, [some (vR 9 0 0), some (vI x1)], [], σ1)) rfl h2).trans ?_
  refine (e_n 1 (fr' := (83, 12, [some (vR 9 0 0), some (vI x1)], [vI (-1 : Int32)], σ1)) rfl).trans ?_
  exact e_r rfl
set_option maxRecDepth 20000 in
theorem g83_0_1 (C : pmC) {σ : pmS} {x1 : Int32} {σ1 : pmS} {r1 : Int32} {σ2 : pmS} {r2 : Int32} (h1 : C 32 [vR 5 0 0, vI x1] σ = some (some (vI r1), σ1)) (h2 : ¬ r1 = 0) (h3 : C 102 [vR 9 0 0] σ1 = some (some (vI r2), σ2)) (h4 : r2 = 0) : pq_Rn C (83, 0, [some (vR 9 0 0), some (vI x1)], [], σ) = some (some (vI (0 : Int32)), σ2) := by
  refine (e_n 3 (fr' := (83, 5, [some (vR 9 0 0), some (vI x1)], [vI x1, vR 5 0 0], σ)) rfl).trans ?_
  refine (e_ci (m := 83) (pc := 8) (ls := [some (vR 9 0 0), some (vI x1)]) (rest := []) rfl h1).trans ?_
  refine (e_f (B := (83, 13, [some (vR 9 0 0), some (vI x1)], [], σ1)) rfl h2).trans ?_
  refine (e_n 1 (fr' := (83, 14, [some (vR 9 0 0), some (vI x1)], [vR 9 0 0], σ1)) rfl).trans ?_
  refine (e_ci (m := 83) (pc := 17) (ls := [some (vR 9 0 0), some (vI x1)]) (rest := []) rfl h3).trans ?_
  refine (e_t (A := (83, 32, [some (vR 9 0 0), some (vI x1)], [], σ2)) rfl h4).trans ?_
  refine (e_n 1 (fr' := (83, 33, [some (vR 9 0 0), some (vI x1)], [vI (0 : Int32)], σ2)) rfl).trans ?_
  exact e_r rfl
set_option maxRecDepth 20000 in
theorem g83_0_2 (C : pmC) {σ : pmS} {x1 : Int32} {σ1 : pmS} {r1 : Int32} {σ2 : pmS} {r2 : Int32} (h1 : C 32 [vR 5 0 0, vI x1] σ = some (some (vI r1), σ1)) (h2 : ¬ r1 = 0) (h3 : C 102 [vR 9 0 0] σ1 = some (some (vI r2), σ2)) (h4 : ¬ r2 = 0) (h5 : vp_in x1 48) : pq_Rn C (83, 0, [some (vR 9 0 0), some (vI x1)], [], σ) = some (some (vI (σ2.1 1 0 1 (x1).toNatClampNeg)), σ2) := by
  refine (e_n 3 (fr' := (83, 5, [some (vR 9 0 0), some (vI x1)], [vI x1, vR 5 0 0], σ)) rfl).trans ?_
  refine (e_ci (m := 83) (pc := 8) (ls := [some (vR 9 0 0), some (vI x1)]) (rest := []) rfl h1).trans ?_
  refine (e_f (B := (83, 13, [some (vR 9 0 0), some (vI x1)], [], σ1)) rfl h2).trans ?_
  refine (e_n 1 (fr' := (83, 14, [some (vR 9 0 0), some (vI x1)], [vR 9 0 0], σ1)) rfl).trans ?_
  refine (e_ci (m := 83) (pc := 17) (ls := [some (vR 9 0 0), some (vI x1)]) (rest := []) rfl h3).trans ?_
  refine (e_f (B := (83, 20, [some (vR 9 0 0), some (vI x1)], [], σ2)) rfl h4).trans ?_
  refine (e_n 4 (fr' := (83, 28, [some (vR 9 0 0), some (vI x1)], [vI x1, vR 1 0 2], σ2)) rfl).trans ?_
  refine (e_a (A := (83, 29, [some (vR 9 0 0), some (vI x1)], [vI (σ2.1 1 0 1 (x1).toNatClampNeg)], σ2)) rfl h5).trans ?_
  refine (e_n 1 (fr' := (83, 33, [some (vR 9 0 0), some (vI x1)], [vI (σ2.1 1 0 1 (x1).toNatClampNeg)], σ2)) rfl).trans ?_
  exact e_r rfl
set_option maxRecDepth 20000 in
theorem g84_0_0 (C : pmC) {σ : pmS} {l1 : Option pmV} {l2 : Option pmV} {σ1 : pmS} {r1 : Int32} (h1 : C 102 [vR 9 0 0] σ = some (some (vI r1), σ1)) (h2 : r1 = 0) : pq_Rn C (84, 0, [some (vR 9 0 0), l1, l2], [], σ) = some (some (vI (-5 : Int32)), σ1) := by
  refine (e_n 1 (fr' := (84, 1, [some (vR 9 0 0), l1, l2], [vR 9 0 0], σ)) rfl).trans ?_
  refine (e_ci (m := 84) (pc := 4) (ls := [some (vR 9 0 0), l1, l2]) (rest := []) rfl h1).trans ?_
  refine (e_t (A := (84, 7, [some (vR 9 0 0), l1, l2], [], σ1)) rfl h2).trans ?_
  refine (e_n 1 (fr' := (84, 9, [some (vR 9 0 0), l1, l2], [vI (-5 : Int32)], σ1)) rfl).trans ?_
  exact e_r rfl
set_option maxRecDepth 20000 in
theorem g84_0_1 (C : pmC) {σ : pmS} {l1 : Option pmV} {l2 : Option pmV} {σ1 : pmS} {r1 : Int32} (h1 : C 102 [vR 9 0 0] σ = some (some (vI r1), σ1)) (h2 : ¬ r1 = 0) : pq_Rn C (84, 0, [some (vR 9 0 0), l1, l2], [], σ) = pq_Rn C (84, 14, [some (vR 9 0 0), some (vI (0 : Int32)), some (vI (0 : Int32))], [], σ1) := by
  refine (e_n 1 (fr' := (84, 1, [some (vR 9 0 0), l1, l2], [vR 9 0 0], σ)) rfl).trans ?_
  refine (e_ci (m := 84) (pc := 4) (ls := [some (vR 9 0 0), l1, l2]) (rest := []) rfl h1).trans ?_
  refine (e_f (B := (84, 10, [some (vR 9 0 0), l1, l2], [], σ1)) rfl h2).trans ?_
  exact e_n 4 rfl
set_option maxRecDepth 20000 in
theorem g84_14_0 (C : pmC) {σ : pmS} {x1 : Int32} {x2 : Int32} (h1 : (σ.1 5 0 9 0) ≤ x2) : pq_Rn C (84, 14, [some (vR 9 0 0), some (vI x1), some (vI x2)], [], σ) = some (some (vI x1), σ) := by
  refine (e_n 4 (fr' := (84, 22, [some (vR 9 0 0), some (vI x1), some (vI x2)], [vI (σ.1 5 0 9 0), vI x2], σ)) rfl).trans ?_
  refine (e_t (A := (84, 50, [some (vR 9 0 0), some (vI x1), some (vI x2)], [], σ)) rfl h1).trans ?_
  refine (e_n 1 (fr' := (84, 51, [some (vR 9 0 0), some (vI x1), some (vI x2)], [vI x1], σ)) rfl).trans ?_
  exact e_r rfl
set_option maxRecDepth 20000 in
theorem g84_14_1 (C : pmC) {σ : pmS} {x1 : Int32} {x2 : Int32} {σ1 : pmS} {r1 : Int32} (h1 : ¬ (σ.1 5 0 9 0) ≤ x2) (h2 : vp_in x2 48) (h3 : C 179 [vI (σ.1 1 0 1 (x2).toNatClampNeg)] σ = some (some (vI r1), σ1)) (h4 : r1 = (1 : Int32)) : pq_Rn C (84, 14, [some (vR 9 0 0), some (vI x1), some (vI x2)], [], σ) = pq_Rn C (84, 14, [some (vR 9 0 0), some (vI (x1 + (1 : Int32))), some (vI (x2 + (1 : Int32)))], [], σ1) := by
  refine (e_n 4 (fr' := (84, 22, [some (vR 9 0 0), some (vI x1), some (vI x2)], [vI (σ.1 5 0 9 0), vI x2], σ)) rfl).trans ?_
  refine (e_f (B := (84, 25, [some (vR 9 0 0), some (vI x1), some (vI x2)], [], σ)) rfl h1).trans ?_
  refine (e_n 4 (fr' := (84, 33, [some (vR 9 0 0), some (vI x1), some (vI x2)], [vI x2, vR 1 0 2], σ)) rfl).trans ?_
  refine (e_a (A := (84, 34, [some (vR 9 0 0), some (vI x1), some (vI x2)], [vI (σ.1 1 0 1 (x2).toNatClampNeg)], σ)) rfl h2).trans ?_
  refine (e_ci (m := 84) (pc := 37) (ls := [some (vR 9 0 0), some (vI x1), some (vI x2)]) (rest := []) rfl h3).trans ?_
  refine (e_n 1 (fr' := (84, 38, [some (vR 9 0 0), some (vI x1), some (vI x2)], [vI (1 : Int32), vI r1], σ1)) rfl).trans ?_
  refine (e_t (A := (84, 41, [some (vR 9 0 0), some (vI x1), some (vI x2)], [], σ1)) rfl h4).trans ?_
  exact e_n 3 rfl
set_option maxRecDepth 20000 in
theorem g84_14_2 (C : pmC) {σ : pmS} {x1 : Int32} {x2 : Int32} {σ1 : pmS} {r1 : Int32} (h1 : ¬ (σ.1 5 0 9 0) ≤ x2) (h2 : vp_in x2 48) (h3 : C 179 [vI (σ.1 1 0 1 (x2).toNatClampNeg)] σ = some (some (vI r1), σ1)) (h4 : ¬ r1 = (1 : Int32)) : pq_Rn C (84, 14, [some (vR 9 0 0), some (vI x1), some (vI x2)], [], σ) = pq_Rn C (84, 14, [some (vR 9 0 0), some (vI x1), some (vI (x2 + (1 : Int32)))], [], σ1) := by
  refine (e_n 4 (fr' := (84, 22, [some (vR 9 0 0), some (vI x1), some (vI x2)], [vI (σ.1 5 0 9 0), vI x2], σ)) rfl).trans ?_
  refine (e_f (B := (84, 25, [some (vR 9 0 0), some (vI x1), some (vI x2)], [], σ)) rfl h1).trans ?_
  refine (e_n 4 (fr' := (84, 33, [some (vR 9 0 0), some (vI x1), some (vI x2)], [vI x2, vR 1 0 2], σ)) rfl).trans ?_
  refine (e_a (A := (84, 34, [some (vR 9 0 0), some (vI x1), some (vI x2)], [vI (σ.1 1 0 1 (x2).toNatClampNeg)], σ)) rfl h2).trans ?_
  refine (e_ci (m := 84) (pc := 37) (ls := [some (vR 9 0 0), some (vI x1), some (vI x2)]) (rest := []) rfl h3).trans ?_
  refine (e_n 1 (fr' := (84, 38, [some (vR 9 0 0), some (vI x1), some (vI x2)], [vI (1 : Int32), vI r1], σ1)) rfl).trans ?_
  refine (e_f (B := (84, 44, [some (vR 9 0 0), some (vI x1), some (vI x2)], [], σ1)) rfl h4).trans ?_
  exact e_n 2 rfl
set_option maxRecDepth 20000 in
theorem g85_0_0 (C : pmC) {σ : pmS} {x1 : Int32} (h1 : x1 = (0 : Int32)) : pq_Rn C (85, 0, [some (vR 9 0 0), some (vI x1)], [], σ) = some (some (vI (σ.1 9 0 9 0)), σ) := by
  refine (e_n 1 (fr' := (85, 1, [some (vR 9 0 0), some (vI x1)], [vI x1], σ)) rfl).trans ?_
  refine (e_g (A := (85, 48, [some (vR 9 0 0), some (vI x1)], [], σ)) (off' := 47) rfl (by rw [h1]; decide) rfl).trans ?_
  refine (e_n 2 (fr' := (85, 52, [some (vR 9 0 0), some (vI x1)], [vI (σ.1 9 0 9 0)], σ)) rfl).trans ?_
  exact e_r rfl
set_option maxRecDepth 20000 in
theorem g85_0_1 (C : pmC) {σ : pmS} {x1 : Int32} (h1 : x1 = (1 : Int32)) : pq_Rn C (85, 0, [some (vR 9 0 0), some (vI x1)], [], σ) = some (some (vI (σ.1 9 0 10 0)), σ) := by
  refine (e_n 1 (fr' := (85, 1, [some (vR 9 0 0), some (vI x1)], [vI x1], σ)) rfl).trans ?_
  refine (e_g (A := (85, 53, [some (vR 9 0 0), some (vI x1)], [], σ)) (off' := 52) rfl (by rw [h1]; decide) rfl).trans ?_
  refine (e_n 2 (fr' := (85, 57, [some (vR 9 0 0), some (vI x1)], [vI (σ.1 9 0 10 0)], σ)) rfl).trans ?_
  exact e_r rfl
set_option maxRecDepth 20000 in
theorem g85_0_2 (C : pmC) {σ : pmS} {x1 : Int32} (h1 : x1 = (2 : Int32)) : pq_Rn C (85, 0, [some (vR 9 0 0), some (vI x1)], [], σ) = some (some (vI (σ.1 5 0 9 0)), σ) := by
  refine (e_n 1 (fr' := (85, 1, [some (vR 9 0 0), some (vI x1)], [vI x1], σ)) rfl).trans ?_
  refine (e_g (A := (85, 58, [some (vR 9 0 0), some (vI x1)], [], σ)) (off' := 57) rfl (by rw [h1]; decide) rfl).trans ?_
  refine (e_n 3 (fr' := (85, 65, [some (vR 9 0 0), some (vI x1)], [vI (σ.1 5 0 9 0)], σ)) rfl).trans ?_
  exact e_r rfl
set_option maxRecDepth 20000 in
theorem g85_0_3 (C : pmC) {σ : pmS} {x1 : Int32} (h1 : x1 = (3 : Int32)) : pq_Rn C (85, 0, [some (vR 9 0 0), some (vI x1)], [], σ) = some (some (vI (σ.1 8 0 3 0)), σ) := by
  refine (e_n 1 (fr' := (85, 1, [some (vR 9 0 0), some (vI x1)], [vI x1], σ)) rfl).trans ?_
  refine (e_g (A := (85, 66, [some (vR 9 0 0), some (vI x1)], [], σ)) (off' := 65) rfl (by rw [h1]; decide) rfl).trans ?_
  refine (e_n 3 (fr' := (85, 73, [some (vR 9 0 0), some (vI x1)], [vI (σ.1 8 0 3 0)], σ)) rfl).trans ?_
  exact e_r rfl
set_option maxRecDepth 20000 in
theorem g85_0_4 (C : pmC) {σ : pmS} {x1 : Int32} (h1 : x1 = (4 : Int32)) : pq_Rn C (85, 0, [some (vR 9 0 0), some (vI x1)], [], σ) = some (some (vI (σ.1 9 0 11 0)), σ) := by
  refine (e_n 1 (fr' := (85, 1, [some (vR 9 0 0), some (vI x1)], [vI x1], σ)) rfl).trans ?_
  refine (e_g (A := (85, 74, [some (vR 9 0 0), some (vI x1)], [], σ)) (off' := 73) rfl (by rw [h1]; decide) rfl).trans ?_
  refine (e_n 2 (fr' := (85, 78, [some (vR 9 0 0), some (vI x1)], [vI (σ.1 9 0 11 0)], σ)) rfl).trans ?_
  exact e_r rfl
set_option maxRecDepth 20000 in
theorem g85_0_5 (C : pmC) {σ : pmS} {x1 : Int32} (h1 : x1 = (5 : Int32)) : pq_Rn C (85, 0, [some (vR 9 0 0), some (vI x1)], [], σ) = some (some (vI (σ.1 6 0 1 0)), σ) := by
  refine (e_n 1 (fr' := (85, 1, [some (vR 9 0 0), some (vI x1)], [vI x1], σ)) rfl).trans ?_
  refine (e_g (A := (85, 79, [some (vR 9 0 0), some (vI x1)], [], σ)) (off' := 78) rfl (by rw [h1]; decide) rfl).trans ?_
  refine (e_n 3 (fr' := (85, 86, [some (vR 9 0 0), some (vI x1)], [vI (σ.1 6 0 1 0)], σ)) rfl).trans ?_
  exact e_r rfl
set_option maxRecDepth 20000 in
theorem g85_0_6 (C : pmC) {σ : pmS} {x1 : Int32} {σ1 : pmS} {r1 : Int32} (h1 : x1 = (6 : Int32)) (h2 : C 38 [vR 5 0 0] σ = some (some (vI r1), σ1)) : pq_Rn C (85, 0, [some (vR 9 0 0), some (vI x1)], [], σ) = some (some (vI r1), σ1) := by
  refine (e_n 1 (fr' := (85, 1, [some (vR 9 0 0), some (vI x1)], [vI x1], σ)) rfl).trans ?_
  refine (e_g (A := (85, 87, [some (vR 9 0 0), some (vI x1)], [], σ)) (off' := 86) rfl (by rw [h1]; decide) rfl).trans ?_
  refine (e_n 2 (fr' := (85, 91, [some (vR 9 0 0), some (vI x1)], [vR 5 0 0], σ)) rfl).trans ?_
  refine (e_ci (m := 85) (pc := 94) (ls := [some (vR 9 0 0), some (vI x1)]) (rest := []) rfl h2).trans ?_
  exact e_r rfl
set_option maxRecDepth 20000 in
theorem g85_0_7 (C : pmC) {σ : pmS} {x1 : Int32} {σ1 : pmS} {r1 : Int32} (h1 : x1 = (7 : Int32)) (h2 : C 39 [vR 5 0 0] σ = some (some (vI r1), σ1)) : pq_Rn C (85, 0, [some (vR 9 0 0), some (vI x1)], [], σ) = some (some (vI r1), σ1) := by
  refine (e_n 1 (fr' := (85, 1, [some (vR 9 0 0), some (vI x1)], [vI x1], σ)) rfl).trans ?_
  refine (e_g (A := (85, 95, [some (vR 9 0 0), some (vI x1)], [], σ)) (off' := 94) rfl (by rw [h1]; decide) rfl).trans ?_
  refine (e_n 2 (fr' := (85, 99, [some (vR 9 0 0), some (vI x1)], [vR 5 0 0], σ)) rfl).trans ?_
  refine (e_ci (m := 85) (pc := 102) (ls := [some (vR 9 0 0), some (vI x1)]) (rest := []) rfl h2).trans ?_
  exact e_r rfl
set_option maxRecDepth 20000 in
theorem g85_0_8 (C : pmC) {σ : pmS} {x1 : Int32} (h1 : ¬ x1 = (0 : Int32)) (h2 : ¬ x1 = (1 : Int32)) (h3 : ¬ x1 = (2 : Int32)) (h4 : ¬ x1 = (3 : Int32)) (h5 : ¬ x1 = (4 : Int32)) (h6 : ¬ x1 = (5 : Int32)) (h7 : ¬ x1 = (6 : Int32)) (h8 : ¬ x1 = (7 : Int32)) : pq_Rn C (85, 0, [some (vR 9 0 0), some (vI x1)], [], σ) = some (some (vI (-1 : Int32)), σ) := by
  refine (e_n 1 (fr' := (85, 1, [some (vR 9 0 0), some (vI x1)], [vI x1], σ)) rfl).trans ?_
  refine (e_g (A := (85, 103, [some (vR 9 0 0), some (vI x1)], [], σ)) (off' := 102) rfl ((pm_sw_ne h1).trans ((pm_sw_ne h2).trans ((pm_sw_ne h3).trans ((pm_sw_ne h4).trans ((pm_sw_ne h5).trans ((pm_sw_ne h6).trans ((pm_sw_ne h7).trans ((pm_sw_ne h8).trans (rfl))))))))) rfl).trans ?_
  refine (e_n 1 (fr' := (85, 104, [some (vR 9 0 0), some (vI x1)], [vI (-1 : Int32)], σ)) rfl).trans ?_
  exact e_r rfl
set_option maxRecDepth 20000 in
theorem g86_0_0 (C : pmC) {σ : pmS} {x1 : Int32} (h1 : x1 < 0) : pq_Rn C (86, 0, [some (vR 9 0 0), some (vI x1)], [], σ) = some (some (vI (0 : Int32)), σ) := by
  refine (e_n 1 (fr' := (86, 1, [some (vR 9 0 0), some (vI x1)], [vI x1], σ)) rfl).trans ?_
  refine (e_t (A := (86, 16, [some (vR 9 0 0), some (vI x1)], [], σ)) rfl h1).trans ?_
  refine (e_n 1 (fr' := (86, 17, [some (vR 9 0 0), some (vI x1)], [vI (0 : Int32)], σ)) rfl).trans ?_
  exact e_r rfl
set_option maxRecDepth 20000 in
theorem g86_0_1 (C : pmC) {σ : pmS} {x1 : Int32} (h1 : ¬ x1 < 0) (h2 : (σ.1 9 0 9 0) ≤ x1) : pq_Rn C (86, 0, [some (vR 9 0 0), some (vI x1)], [], σ) = some (some (vI (0 : Int32)), σ) := by
  refine (e_n 1 (fr' := (86, 1, [some (vR 9 0 0), some (vI x1)], [vI x1], σ)) rfl).trans ?_
  refine (e_f (B := (86, 4, [some (vR 9 0 0), some (vI x1)], [], σ)) rfl h1).trans ?_
  refine (e_n 3 (fr' := (86, 9, [some (vR 9 0 0), some (vI x1)], [vI (σ.1 9 0 9 0), vI x1], σ)) rfl).trans ?_
  refine (e_t (A := (86, 16, [some (vR 9 0 0), some (vI x1)], [], σ)) rfl h2).trans ?_
  refine (e_n 1 (fr' := (86, 17, [some (vR 9 0 0), some (vI x1)], [vI (0 : Int32)], σ)) rfl).trans ?_
  exact e_r rfl
set_option maxRecDepth 20000 in
theorem g86_0_2 (C : pmC) {σ : pmS} {x1 : Int32} (h1 : ¬ x1 < 0) (h2 : ¬ (σ.1 9 0 9 0) ≤ x1) : pq_Rn C (86, 0, [some (vR 9 0 0), some (vI x1)], [], σ) = some (some (vI (1 : Int32)), σ) := by
  refine (e_n 1 (fr' := (86, 1, [some (vR 9 0 0), some (vI x1)], [vI x1], σ)) rfl).trans ?_
  refine (e_f (B := (86, 4, [some (vR 9 0 0), some (vI x1)], [], σ)) rfl h1).trans ?_
  refine (e_n 3 (fr' := (86, 9, [some (vR 9 0 0), some (vI x1)], [vI (σ.1 9 0 9 0), vI x1], σ)) rfl).trans ?_
  refine (e_f (B := (86, 12, [some (vR 9 0 0), some (vI x1)], [], σ)) rfl h2).trans ?_
  refine (e_n 2 (fr' := (86, 17, [some (vR 9 0 0), some (vI x1)], [vI (1 : Int32)], σ)) rfl).trans ?_
  exact e_r rfl
set_option maxRecDepth 20000 in
theorem g87_0_0 (C : pmC) {σ : pmS} {x1 : Int32} {x2 : Int32} {σ1 : pmS} {r1 : Int32} (h1 : C 86 [vR 9 0 0, vI x1] σ = some (some (vI r1), σ1)) (h2 : r1 = 0) : pq_Rn C (87, 0, [some (vR 9 0 0), some (vI x1), some (vI x2)], [], σ) = some (some (vI (0 : Int32)), σ1) := by
  refine (e_n 2 (fr' := (87, 2, [some (vR 9 0 0), some (vI x1), some (vI x2)], [vI x1, vR 9 0 0], σ)) rfl).trans ?_
  refine (e_ci (m := 87) (pc := 5) (ls := [some (vR 9 0 0), some (vI x1), some (vI x2)]) (rest := []) rfl h1).trans ?_
  refine (e_t (A := (87, 25, [some (vR 9 0 0), some (vI x1), some (vI x2)], [], σ1)) rfl h2).trans ?_
  refine (e_n 1 (fr' := (87, 26, [some (vR 9 0 0), some (vI x1), some (vI x2)], [vI (0 : Int32)], σ1)) rfl).trans ?_
  exact e_r rfl
set_option maxRecDepth 20000 in
theorem g87_0_1 (C : pmC) {σ : pmS} {x1 : Int32} {x2 : Int32} {σ1 : pmS} {r1 : Int32} {σ2 : pmS} {r2 : Int32} (h1 : C 86 [vR 9 0 0, vI x1] σ = some (some (vI r1), σ1)) (h2 : ¬ r1 = 0) (h3 : vp_in x1 4) (h4 : C 9 [vR 2 (x1).toNatClampNeg 0, vI x2] σ1 = some (some (vI r2), σ2)) (h5 : r2 = 0) : pq_Rn C (87, 0, [some (vR 9 0 0), some (vI x1), some (vI x2)], [], σ) = some (some (vI (0 : Int32)), σ2) := by
  refine (e_n 2 (fr' := (87, 2, [some (vR 9 0 0), some (vI x1), some (vI x2)], [vI x1, vR 9 0 0], σ)) rfl).trans ?_
  refine (e_ci (m := 87) (pc := 5) (ls := [some (vR 9 0 0), some (vI x1), some (vI x2)]) (rest := []) rfl h1).trans ?_
  refine (e_f (B := (87, 8, [some (vR 9 0 0), some (vI x1), some (vI x2)], [], σ1)) rfl h2).trans ?_
  refine (e_n 3 (fr' := (87, 13, [some (vR 9 0 0), some (vI x1), some (vI x2)], [vI x1, vR 9 0 2], σ1)) rfl).trans ?_
  refine (e_a (A := (87, 14, [some (vR 9 0 0), some (vI x1), some (vI x2)], [vR 2 (x1).toNatClampNeg 0], σ1)) rfl h3).trans ?_
  refine (e_n 1 (fr' := (87, 15, [some (vR 9 0 0), some (vI x1), some (vI x2)], [vI x2, vR 2 (x1).toNatClampNeg 0], σ1)) rfl).trans ?_
  refine (e_ci (m := 87) (pc := 18) (ls := [some (vR 9 0 0), some (vI x1), some (vI x2)]) (rest := []) rfl h4).trans ?_
  refine (e_t (A := (87, 25, [some (vR 9 0 0), some (vI x1), some (vI x2)], [], σ2)) rfl h5).trans ?_
  refine (e_n 1 (fr' := (87, 26, [some (vR 9 0 0), some (vI x1), some (vI x2)], [vI (0 : Int32)], σ2)) rfl).trans ?_
  exact e_r rfl
set_option maxRecDepth 20000 in
theorem g87_0_2 (C : pmC) {σ : pmS} {x1 : Int32} {x2 : Int32} {σ1 : pmS} {r1 : Int32} {σ2 : pmS} {r2 : Int32} (h1 : C 86 [vR 9 0 0, vI x1] σ = some (some (vI r1), σ1)) (h2 : ¬ r1 = 0) (h3 : vp_in x1 4) (h4 : C 9 [vR 2 (x1).toNatClampNeg 0, vI x2] σ1 = some (some (vI r2), σ2)) (h5 : ¬ r2 = 0) : pq_Rn C (87, 0, [some (vR 9 0 0), some (vI x1), some (vI x2)], [], σ) = some (some (vI (1 : Int32)), σ2) := by
  refine (e_n 2 (fr' := (87, 2, [some (vR 9 0 0), some (vI x1), some (vI x2)], [vI x1, vR 9 0 0], σ)) rfl).trans ?_
  refine (e_ci (m := 87) (pc := 5) (ls := [some (vR 9 0 0), some (vI x1), some (vI x2)]) (rest := []) rfl h1).trans ?_
  refine (e_f (B := (87, 8, [some (vR 9 0 0), some (vI x1), some (vI x2)], [], σ1)) rfl h2).trans ?_
  refine (e_n 3 (fr' := (87, 13, [some (vR 9 0 0), some (vI x1), some (vI x2)], [vI x1, vR 9 0 2], σ1)) rfl).trans ?_
  refine (e_a (A := (87, 14, [some (vR 9 0 0), some (vI x1), some (vI x2)], [vR 2 (x1).toNatClampNeg 0], σ1)) rfl h3).trans ?_
  refine (e_n 1 (fr' := (87, 15, [some (vR 9 0 0), some (vI x1), some (vI x2)], [vI x2, vR 2 (x1).toNatClampNeg 0], σ1)) rfl).trans ?_
  refine (e_ci (m := 87) (pc := 18) (ls := [some (vR 9 0 0), some (vI x1), some (vI x2)]) (rest := []) rfl h4).trans ?_
  refine (e_f (B := (87, 21, [some (vR 9 0 0), some (vI x1), some (vI x2)], [], σ2)) rfl h5).trans ?_
  refine (e_n 2 (fr' := (87, 26, [some (vR 9 0 0), some (vI x1), some (vI x2)], [vI (1 : Int32)], σ2)) rfl).trans ?_
  exact e_r rfl
set_option maxRecDepth 20000 in
theorem g88_0_0 (C : pmC) {σ : pmS} {x1 : Int32} (h1 : x1 < 0) : pq_Rn C (88, 0, [some (vR 9 0 0), some (vI x1)], [], σ) = some (some (vI (0 : Int32)), σ) := by
  refine (e_n 1 (fr' := (88, 1, [some (vR 9 0 0), some (vI x1)], [vI x1], σ)) rfl).trans ?_
  refine (e_t (A := (88, 16, [some (vR 9 0 0), some (vI x1)], [], σ)) rfl h1).trans ?_
  refine (e_n 1 (fr' := (88, 17, [some (vR 9 0 0), some (vI x1)], [vI (0 : Int32)], σ)) rfl).trans ?_
  exact e_r rfl
set_option maxRecDepth 20000 in
theorem g88_0_1 (C : pmC) {σ : pmS} {x1 : Int32} (h1 : ¬ x1 < 0) (h2 : (σ.1 9 0 10 0) ≤ x1) : pq_Rn C (88, 0, [some (vR 9 0 0), some (vI x1)], [], σ) = some (some (vI (0 : Int32)), σ) := by
  refine (e_n 1 (fr' := (88, 1, [some (vR 9 0 0), some (vI x1)], [vI x1], σ)) rfl).trans ?_
  refine (e_f (B := (88, 4, [some (vR 9 0 0), some (vI x1)], [], σ)) rfl h1).trans ?_
  refine (e_n 3 (fr' := (88, 9, [some (vR 9 0 0), some (vI x1)], [vI (σ.1 9 0 10 0), vI x1], σ)) rfl).trans ?_
  refine (e_t (A := (88, 16, [some (vR 9 0 0), some (vI x1)], [], σ)) rfl h2).trans ?_
  refine (e_n 1 (fr' := (88, 17, [some (vR 9 0 0), some (vI x1)], [vI (0 : Int32)], σ)) rfl).trans ?_
  exact e_r rfl
set_option maxRecDepth 20000 in
theorem g88_0_2 (C : pmC) {σ : pmS} {x1 : Int32} (h1 : ¬ x1 < 0) (h2 : ¬ (σ.1 9 0 10 0) ≤ x1) : pq_Rn C (88, 0, [some (vR 9 0 0), some (vI x1)], [], σ) = some (some (vI (1 : Int32)), σ) := by
  refine (e_n 1 (fr' := (88, 1, [some (vR 9 0 0), some (vI x1)], [vI x1], σ)) rfl).trans ?_
  refine (e_f (B := (88, 4, [some (vR 9 0 0), some (vI x1)], [], σ)) rfl h1).trans ?_
  refine (e_n 3 (fr' := (88, 9, [some (vR 9 0 0), some (vI x1)], [vI (σ.1 9 0 10 0), vI x1], σ)) rfl).trans ?_
  refine (e_f (B := (88, 12, [some (vR 9 0 0), some (vI x1)], [], σ)) rfl h2).trans ?_
  refine (e_n 2 (fr' := (88, 17, [some (vR 9 0 0), some (vI x1)], [vI (1 : Int32)], σ)) rfl).trans ?_
  exact e_r rfl
set_option maxRecDepth 20000 in
theorem g89_0_0 (C : pmC) {σ : pmS} {x0 : Int32} (h1 : x0 = 0) : pq_Rn C (89, 0, [some (vI x0)], [], σ) = some (some (vI (1 : Int32)), σ) := by
  refine (e_n 1 (fr' := (89, 1, [some (vI x0)], [vI x0], σ)) rfl).trans ?_
  refine (e_t (A := (89, 9, [some (vI x0)], [], σ)) rfl h1).trans ?_
  refine (e_n 2 (fr' := (89, 14, [some (vI x0)], [vI (1 : Int32)], σ)) rfl).trans ?_
  exact e_r rfl
set_option maxRecDepth 20000 in
theorem g89_0_1 (C : pmC) {σ : pmS} {x0 : Int32} (h1 : ¬ x0 = 0) (h2 : x0 = (1 : Int32)) : pq_Rn C (89, 0, [some (vI x0)], [], σ) = some (some (vI (1 : Int32)), σ) := by
  refine (e_n 1 (fr' := (89, 1, [some (vI x0)], [vI x0], σ)) rfl).trans ?_
  refine (e_f (B := (89, 4, [some (vI x0)], [], σ)) rfl h1).trans ?_
  refine (e_n 2 (fr' := (89, 6, [some (vI x0)], [vI (1 : Int32), vI x0], σ)) rfl).trans ?_
  refine (e_t (A := (89, 9, [some (vI x0)], [], σ)) rfl h2).trans ?_
  refine (e_n 2 (fr' := (89, 14, [some (vI x0)], [vI (1 : Int32)], σ)) rfl).trans ?_
  exact e_r rfl
set_option maxRecDepth 20000 in
theorem g89_0_2 (C : pmC) {σ : pmS} {x0 : Int32} (h1 : ¬ x0 = 0) (h2 : ¬ x0 = (1 : Int32)) : pq_Rn C (89, 0, [some (vI x0)], [], σ) = some (some (vI (0 : Int32)), σ) := by
  refine (e_n 1 (fr' := (89, 1, [some (vI x0)], [vI x0], σ)) rfl).trans ?_
  refine (e_f (B := (89, 4, [some (vI x0)], [], σ)) rfl h1).trans ?_
  refine (e_n 2 (fr' := (89, 6, [some (vI x0)], [vI (1 : Int32), vI x0], σ)) rfl).trans ?_
  refine (e_f (B := (89, 13, [some (vI x0)], [], σ)) rfl h2).trans ?_
  refine (e_n 1 (fr' := (89, 14, [some (vI x0)], [vI (0 : Int32)], σ)) rfl).trans ?_
  exact e_r rfl
set_option maxRecDepth 20000 in
theorem g90_0_0 (C : pmC) {σ : pmS} {x0 : Int32} (h1 : x0 < 0) : pq_Rn C (90, 0, [some (vI x0)], [], σ) = some (some (vI (0 : Int32)), σ) := by
  refine (e_n 1 (fr' := (90, 1, [some (vI x0)], [vI x0], σ)) rfl).trans ?_
  refine (e_t (A := (90, 15, [some (vI x0)], [], σ)) rfl h1).trans ?_
  refine (e_n 1 (fr' := (90, 16, [some (vI x0)], [vI (0 : Int32)], σ)) rfl).trans ?_
  exact e_r rfl
set_option maxRecDepth 20000 in
theorem g90_0_1 (C : pmC) {σ : pmS} {x0 : Int32} (h1 : ¬ x0 < 0) (h2 : (999 : Int32) < x0) : pq_Rn C (90, 0, [some (vI x0)], [], σ) = some (some (vI (0 : Int32)), σ) := by
  refine (e_n 1 (fr' := (90, 1, [some (vI x0)], [vI x0], σ)) rfl).trans ?_
  refine (e_f (B := (90, 4, [some (vI x0)], [], σ)) rfl h1).trans ?_
  refine (e_n 2 (fr' := (90, 8, [some (vI x0)], [vI (999 : Int32), vI x0], σ)) rfl).trans ?_
  refine (e_t (A := (90, 15, [some (vI x0)], [], σ)) rfl h2).trans ?_
  refine (e_n 1 (fr' := (90, 16, [some (vI x0)], [vI (0 : Int32)], σ)) rfl).trans ?_
  exact e_r rfl
set_option maxRecDepth 20000 in
theorem g90_0_2 (C : pmC) {σ : pmS} {x0 : Int32} (h1 : ¬ x0 < 0) (h2 : ¬ (999 : Int32) < x0) : pq_Rn C (90, 0, [some (vI x0)], [], σ) = some (some (vI (1 : Int32)), σ) := by
  refine (e_n 1 (fr' := (90, 1, [some (vI x0)], [vI x0], σ)) rfl).trans ?_
  refine (e_f (B := (90, 4, [some (vI x0)], [], σ)) rfl h1).trans ?_
  refine (e_n 2 (fr' := (90, 8, [some (vI x0)], [vI (999 : Int32), vI x0], σ)) rfl).trans ?_
  refine (e_f (B := (90, 11, [some (vI x0)], [], σ)) rfl h2).trans ?_
  refine (e_n 2 (fr' := (90, 16, [some (vI x0)], [vI (1 : Int32)], σ)) rfl).trans ?_
  exact e_r rfl
set_option maxRecDepth 20000 in
theorem g91_0_0 (C : pmC) {σ : pmS} {x0 : Int32} {l1 : Option pmV} {l2 : Option pmV} (h1 : x0 ≤ 0) : pq_Rn C (91, 0, [some (vI x0), l1, l2], [], σ) = some (some (vI (0 : Int32)), σ) := by
  refine (e_n 1 (fr' := (91, 1, [some (vI x0), l1, l2], [vI x0], σ)) rfl).trans ?_
  refine (e_t (A := (91, 11, [some (vI x0), l1, l2], [], σ)) rfl h1).trans ?_
  refine (e_n 1 (fr' := (91, 12, [some (vI x0), l1, l2], [vI (0 : Int32)], σ)) rfl).trans ?_
  exact e_r rfl
set_option maxRecDepth 20000 in
theorem g91_0_1 (C : pmC) {σ : pmS} {x0 : Int32} {l1 : Option pmV} {l2 : Option pmV} (h1 : ¬ x0 ≤ 0) (h2 : x0 < (262144 : Int32)) : pq_Rn C (91, 0, [some (vI x0), l1, l2], [], σ) = pq_Rn C (91, 15, [some (vI x0), some (vI (0 : Int32)), l2], [], σ) := by
  refine (e_n 1 (fr' := (91, 1, [some (vI x0), l1, l2], [vI x0], σ)) rfl).trans ?_
  refine (e_f (B := (91, 4, [some (vI x0), l1, l2], [], σ)) rfl h1).trans ?_
  refine (e_n 2 (fr' := (91, 8, [some (vI x0), l1, l2], [vI (262144 : Int32), vI x0], σ)) rfl).trans ?_
  refine (e_t (A := (91, 13, [some (vI x0), l1, l2], [], σ)) rfl h2).trans ?_
  exact e_n 2 rfl
set_option maxRecDepth 20000 in
theorem g91_0_2 (C : pmC) {σ : pmS} {x0 : Int32} {l1 : Option pmV} {l2 : Option pmV} (h1 : ¬ x0 ≤ 0) (h2 : ¬ x0 < (262144 : Int32)) : pq_Rn C (91, 0, [some (vI x0), l1, l2], [], σ) = some (some (vI (0 : Int32)), σ) := by
  refine (e_n 1 (fr' := (91, 1, [some (vI x0), l1, l2], [vI x0], σ)) rfl).trans ?_
  refine (e_f (B := (91, 4, [some (vI x0), l1, l2], [], σ)) rfl h1).trans ?_
  refine (e_n 2 (fr' := (91, 8, [some (vI x0), l1, l2], [vI (262144 : Int32), vI x0], σ)) rfl).trans ?_
  refine (e_f (B := (91, 11, [some (vI x0), l1, l2], [], σ)) rfl h2).trans ?_
  refine (e_n 1 (fr' := (91, 12, [some (vI x0), l1, l2], [vI (0 : Int32)], σ)) rfl).trans ?_
  exact e_r rfl
set_option maxRecDepth 20000 in
theorem g91_15_0 (C : pmC) {σ : pmS} {x0 : Int32} {x1 : Int32} {l2 : Option pmV} (h1 : (18 : Int32) ≤ x1) : pq_Rn C (91, 15, [some (vI x0), some (vI x1), l2], [], σ) = some (some (vI (1 : Int32)), σ) := by
  refine (e_n 2 (fr' := (91, 18, [some (vI x0), some (vI x1), l2], [vI (18 : Int32), vI x1], σ)) rfl).trans ?_
  refine (e_t (A := (91, 52, [some (vI x0), some (vI x1), l2], [], σ)) rfl h1).trans ?_
  refine (e_n 1 (fr' := (91, 53, [some (vI x0), some (vI x1), l2], [vI (1 : Int32)], σ)) rfl).trans ?_
  exact e_r rfl
set_option maxRecDepth 20000 in
theorem g91_15_1 (C : pmC) {σ : pmS} {x0 : Int32} {x1 : Int32} {l2 : Option pmV} (h1 : ¬ (18 : Int32) ≤ x1) (h2 : (x0 >>> (x1 &&& 31)) = 0) : pq_Rn C (91, 15, [some (vI x0), some (vI x1), l2], [], σ) = some (some (vI (1 : Int32)), σ) := by
  refine (e_n 2 (fr' := (91, 18, [some (vI x0), some (vI x1), l2], [vI (18 : Int32), vI x1], σ)) rfl).trans ?_
  refine (e_f (B := (91, 21, [some (vI x0), some (vI x1), l2], [], σ)) rfl h1).trans ?_
  refine (e_n 3 (fr' := (91, 24, [some (vI x0), some (vI x1), l2], [vI (x0 >>> (x1 &&& 31))], σ)) rfl).trans ?_
  refine (e_t (A := (91, 52, [some (vI x0), some (vI x1), l2], [], σ)) rfl h2).trans ?_
  refine (e_n 1 (fr' := (91, 53, [some (vI x0), some (vI x1), l2], [vI (1 : Int32)], σ)) rfl).trans ?_
  exact e_r rfl
set_option maxRecDepth 20000 in
theorem g91_15_2 (C : pmC) {σ : pmS} {x0 : Int32} {x1 : Int32} {l2 : Option pmV} (h1 : ¬ (18 : Int32) ≤ x1) (h2 : ¬ (x0 >>> (x1 &&& 31)) = 0) (h3 : ((x0 >>> (x1 &&& 31)) &&& (7 : Int32)) < (1 : Int32)) : pq_Rn C (91, 15, [some (vI x0), some (vI x1), l2], [], σ) = some (some (vI (0 : Int32)), σ) := by
  refine (e_n 2 (fr' := (91, 18, [some (vI x0), some (vI x1), l2], [vI (18 : Int32), vI x1], σ)) rfl).trans ?_
  refine (e_f (B := (91, 21, [some (vI x0), some (vI x1), l2], [], σ)) rfl h1).trans ?_
  refine (e_n 3 (fr' := (91, 24, [some (vI x0), some (vI x1), l2], [vI (x0 >>> (x1 &&& 31))], σ)) rfl).trans ?_
  refine (e_f (B := (91, 27, [some (vI x0), some (vI x1), l2], [], σ)) rfl h2).trans ?_
  refine (e_n 8 (fr' := (91, 36, [some (vI x0), some (vI x1), some (vI ((x0 >>> (x1 &&& 31)) &&& (7 : Int32)))], [vI (1 : Int32), vI ((x0 >>> (x1 &&& 31)) &&& (7 : Int32))], σ)) rfl).trans ?_
  refine (e_t (A := (91, 44, [some (vI x0), some (vI x1), some (vI ((x0 >>> (x1 &&& 31)) &&& (7 : Int32)))], [], σ)) rfl h3).trans ?_
  refine (e_n 1 (fr' := (91, 45, [some (vI x0), some (vI x1), some (vI ((x0 >>> (x1 &&& 31)) &&& (7 : Int32)))], [vI (0 : Int32)], σ)) rfl).trans ?_
  exact e_r rfl
set_option maxRecDepth 20000 in
theorem g91_15_3 (C : pmC) {σ : pmS} {x0 : Int32} {x1 : Int32} {l2 : Option pmV} (h1 : ¬ (18 : Int32) ≤ x1) (h2 : ¬ (x0 >>> (x1 &&& 31)) = 0) (h3 : ¬ ((x0 >>> (x1 &&& 31)) &&& (7 : Int32)) < (1 : Int32)) (h4 : ((x0 >>> (x1 &&& 31)) &&& (7 : Int32)) ≤ (5 : Int32)) : pq_Rn C (91, 15, [some (vI x0), some (vI x1), l2], [], σ) = pq_Rn C (91, 15, [some (vI x0), some (vI (x1 + (3 : Int32))), some (vI ((x0 >>> (x1 &&& 31)) &&& (7 : Int32)))], [], σ) := by
  refine (e_n 2 (fr' := (91, 18, [some (vI x0), some (vI x1), l2], [vI (18 : Int32), vI x1], σ)) rfl).trans ?_
  refine (e_f (B := (91, 21, [some (vI x0), some (vI x1), l2], [], σ)) rfl h1).trans ?_
  refine (e_n 3 (fr' := (91, 24, [some (vI x0), some (vI x1), l2], [vI (x0 >>> (x1 &&& 31))], σ)) rfl).trans ?_
  refine (e_f (B := (91, 27, [some (vI x0), some (vI x1), l2], [], σ)) rfl h2).trans ?_
  refine (e_n 8 (fr' := (91, 36, [some (vI x0), some (vI x1), some (vI ((x0 >>> (x1 &&& 31)) &&& (7 : Int32)))], [vI (1 : Int32), vI ((x0 >>> (x1 &&& 31)) &&& (7 : Int32))], σ)) rfl).trans ?_
  refine (e_f (B := (91, 39, [some (vI x0), some (vI x1), some (vI ((x0 >>> (x1 &&& 31)) &&& (7 : Int32)))], [], σ)) rfl h3).trans ?_
  refine (e_n 2 (fr' := (91, 41, [some (vI x0), some (vI x1), some (vI ((x0 >>> (x1 &&& 31)) &&& (7 : Int32)))], [vI (5 : Int32), vI ((x0 >>> (x1 &&& 31)) &&& (7 : Int32))], σ)) rfl).trans ?_
  refine (e_t (A := (91, 46, [some (vI x0), some (vI x1), some (vI ((x0 >>> (x1 &&& 31)) &&& (7 : Int32)))], [], σ)) rfl h4).trans ?_
  exact e_n 2 rfl
set_option maxRecDepth 20000 in
theorem g91_15_4 (C : pmC) {σ : pmS} {x0 : Int32} {x1 : Int32} {l2 : Option pmV} (h1 : ¬ (18 : Int32) ≤ x1) (h2 : ¬ (x0 >>> (x1 &&& 31)) = 0) (h3 : ¬ ((x0 >>> (x1 &&& 31)) &&& (7 : Int32)) < (1 : Int32)) (h4 : ¬ ((x0 >>> (x1 &&& 31)) &&& (7 : Int32)) ≤ (5 : Int32)) : pq_Rn C (91, 15, [some (vI x0), some (vI x1), l2], [], σ) = some (some (vI (0 : Int32)), σ) := by
  refine (e_n 2 (fr' := (91, 18, [some (vI x0), some (vI x1), l2], [vI (18 : Int32), vI x1], σ)) rfl).trans ?_
  refine (e_f (B := (91, 21, [some (vI x0), some (vI x1), l2], [], σ)) rfl h1).trans ?_
  refine (e_n 3 (fr' := (91, 24, [some (vI x0), some (vI x1), l2], [vI (x0 >>> (x1 &&& 31))], σ)) rfl).trans ?_
  refine (e_f (B := (91, 27, [some (vI x0), some (vI x1), l2], [], σ)) rfl h2).trans ?_
  refine (e_n 8 (fr' := (91, 36, [some (vI x0), some (vI x1), some (vI ((x0 >>> (x1 &&& 31)) &&& (7 : Int32)))], [vI (1 : Int32), vI ((x0 >>> (x1 &&& 31)) &&& (7 : Int32))], σ)) rfl).trans ?_
  refine (e_f (B := (91, 39, [some (vI x0), some (vI x1), some (vI ((x0 >>> (x1 &&& 31)) &&& (7 : Int32)))], [], σ)) rfl h3).trans ?_
  refine (e_n 2 (fr' := (91, 41, [some (vI x0), some (vI x1), some (vI ((x0 >>> (x1 &&& 31)) &&& (7 : Int32)))], [vI (5 : Int32), vI ((x0 >>> (x1 &&& 31)) &&& (7 : Int32))], σ)) rfl).trans ?_
  refine (e_f (B := (91, 44, [some (vI x0), some (vI x1), some (vI ((x0 >>> (x1 &&& 31)) &&& (7 : Int32)))], [], σ)) rfl h4).trans ?_
  refine (e_n 1 (fr' := (91, 45, [some (vI x0), some (vI x1), some (vI ((x0 >>> (x1 &&& 31)) &&& (7 : Int32)))], [vI (0 : Int32)], σ)) rfl).trans ?_
  exact e_r rfl
set_option maxRecDepth 20000 in
theorem g92_0_0 (C : pmC) {σ : pmS} {x1 : Int32} {x2 : Int32} {σ1 : pmS} {r1 : Int32} (h1 : vp_in x1 3) (h2 : C 2 [vR 0 (x1).toNatClampNeg 0, vI x2] σ = some (some (vI r1), σ1)) (h3 : vp_in r1 5) : pq_Rn C (92, 0, [some (vR 9 0 0), some (vI x1), some (vI x2)], [], σ) = some (some (vI (σ1.1 0 (x1).toNatClampNeg 1 (r1).toNatClampNeg)), σ1) := by
  refine (e_n 3 (fr' := (92, 5, [some (vR 9 0 0), some (vI x1), some (vI x2)], [vI x1, vR 9 0 3], σ)) rfl).trans ?_
  refine (e_a (A := (92, 6, [some (vR 9 0 0), some (vI x1), some (vI x2)], [vR 0 (x1).toNatClampNeg 0], σ)) rfl h1).trans ?_
  refine (e_n 4 (fr' := (92, 14, [some (vR 9 0 0), some (vI x1), some (vI x2)], [vI x1, vR 9 0 3, vR 0 (x1).toNatClampNeg 2], σ)) rfl).trans ?_
  refine (e_a (A := (92, 15, [some (vR 9 0 0), some (vI x1), some (vI x2)], [vR 0 (x1).toNatClampNeg 0, vR 0 (x1).toNatClampNeg 2], σ)) rfl h1).trans ?_
  refine (e_n 1 (fr' := (92, 16, [some (vR 9 0 0), some (vI x1), some (vI x2)], [vI x2, vR 0 (x1).toNatClampNeg 0, vR 0 (x1).toNatClampNeg 2], σ)) rfl).trans ?_
  refine (e_ci (m := 92) (pc := 19) (ls := [some (vR 9 0 0), some (vI x1), some (vI x2)]) (rest := [vR 0 (x1).toNatClampNeg 2]) rfl h2).trans ?_
  refine (e_a (A := (92, 20, [some (vR 9 0 0), some (vI x1), some (vI x2)], [vI (σ1.1 0 (x1).toNatClampNeg 1 (r1).toNatClampNeg)], σ1)) rfl h3).trans ?_
  exact e_r rfl
set_option maxRecDepth 20000 in
theorem g93_0_0 (C : pmC) {σ : pmS} {x1 : Int32} {σ1 : pmS} {r1 : Int32} (h1 : vp_in x1 48) (h2 : C 92 [vR 9 0 0, vI (σ.1 5 0 3 (x1).toNatClampNeg), vI (σ.1 5 0 1 (x1).toNatClampNeg)] σ = some (some (vI r1), σ1)) (h3 : vp_in r1 4) : pq_Rn C (93, 0, [some (vR 9 0 0), some (vI x1)], [], σ) = some (some (vR 2 (r1).toNatClampNeg 0), σ1) := by
  refine (e_n 7 (fr' := (93, 13, [some (vR 9 0 0), some (vI x1)], [vI x1, vR 5 0 4, vR 9 0 0, vR 9 0 2], σ)) rfl).trans ?_
  refine (e_a (A := (93, 14, [some (vR 9 0 0), some (vI x1)], [vI (σ.1 5 0 3 (x1).toNatClampNeg), vR 9 0 0, vR 9 0 2], σ)) rfl h1).trans ?_
  refine (e_n 4 (fr' := (93, 22, [some (vR 9 0 0), some (vI x1)], [vI x1, vR 5 0 2, vI (σ.1 5 0 3 (x1).toNatClampNeg), vR 9 0 0, vR 9 0 2], σ)) rfl).trans ?_
  refine (e_a (A := (93, 23, [some (vR 9 0 0), some (vI x1)], [vI (σ.1 5 0 1 (x1).toNatClampNeg), vI (σ.1 5 0 3 (x1).toNatClampNeg), vR 9 0 0, vR 9 0 2], σ)) rfl h1).trans ?_
  refine (e_ci (m := 93) (pc := 26) (ls := [some (vR 9 0 0), some (vI x1)]) (rest := [vR 9 0 2]) rfl h2).trans ?_
  refine (e_a (A := (93, 27, [some (vR 9 0 0), some (vI x1)], [vR 2 (r1).toNatClampNeg 0], σ1)) rfl h3).trans ?_
  exact e_r rfl
set_option maxRecDepth 20000 in
theorem g94_0_0 (C : pmC) {σ : pmS} {x1 : Int32} {l2 : Option pmV} {σ1 : pmS} {r1 : Int32} (h1 : vp_in x1 48) (h2 : vp_in (σ.1 5 0 3 (x1).toNatClampNeg) 3) (h3 : C 2 [vR 0 ((σ.1 5 0 3 (x1).toNatClampNeg)).toNatClampNeg 0, vI (σ.1 5 0 1 (x1).toNatClampNeg)] σ = some (some (vI r1), σ1)) (h4 : vp_in r1 5) (h5 : (σ1.1 0 ((σ.1 5 0 3 (x1).toNatClampNeg)).toNatClampNeg 2 (r1).toNatClampNeg) = 0) : pq_Rn C (94, 0, [some (vR 9 0 0), some (vI x1), l2], [], σ) = some (some (vI (1 : Int32)), σ1) := by
  refine (e_n 6 (fr' := (94, 12, [some (vR 9 0 0), some (vI x1), l2], [vI x1, vR 5 0 4, vR 9 0 3], σ)) rfl).trans ?_
  refine (e_a (A := (94, 13, [some (vR 9 0 0), some (vI x1), l2], [vI (σ.1 5 0 3 (x1).toNatClampNeg), vR 9 0 3], σ)) rfl h1).trans ?_
  refine (e_a (A := (94, 14, [some (vR 9 0 0), some (vI x1), l2], [vR 0 ((σ.1 5 0 3 (x1).toNatClampNeg)).toNatClampNeg 0], σ)) rfl h2).trans ?_
  refine (e_n 8 (fr' := (94, 28, [some (vR 9 0 0), some (vI x1), some (vR 0 ((σ.1 5 0 3 (x1).toNatClampNeg)).toNatClampNeg 0)], [vI x1, vR 5 0 2, vR 0 ((σ.1 5 0 3 (x1).toNatClampNeg)).toNatClampNeg 0, vR 0 ((σ.1 5 0 3 (x1).toNatClampNeg)).toNatClampNeg 3], σ)) rfl).trans ?_
  refine (e_a (A := (94, 29, [some (vR 9 0 0), some (vI x1), some (vR 0 ((σ.1 5 0 3 (x1).toNatClampNeg)).toNatClampNeg 0)], [vI (σ.1 5 0 1 (x1).toNatClampNeg), vR 0 ((σ.1 5 0 3 (x1).toNatClampNeg)).toNatClampNeg 0, vR 0 ((σ.1 5 0 3 (x1).toNatClampNeg)).toNatClampNeg 3], σ)) rfl h1).trans ?_
  refine (e_ci (m := 94) (pc := 32) (ls := [some (vR 9 0 0), some (vI x1), some (vR 0 ((σ.1 5 0 3 (x1).toNatClampNeg)).toNatClampNeg 0)]) (rest := [vR 0 ((σ.1 5 0 3 (x1).toNatClampNeg)).toNatClampNeg 3]) rfl h3).trans ?_
  refine (e_a (A := (94, 33, [some (vR 9 0 0), some (vI x1), some (vR 0 ((σ.1 5 0 3 (x1).toNatClampNeg)).toNatClampNeg 0)], [vI (σ1.1 0 ((σ.1 5 0 3 (x1).toNatClampNeg)).toNatClampNeg 2 (r1).toNatClampNeg)], σ1)) rfl h4).trans ?_
  refine (e_t (A := (94, 36, [some (vR 9 0 0), some (vI x1), some (vR 0 ((σ.1 5 0 3 (x1).toNatClampNeg)).toNatClampNeg 0)], [], σ1)) rfl h5).trans ?_
  refine (e_n 2 (fr' := (94, 41, [some (vR 9 0 0), some (vI x1), some (vR 0 ((σ.1 5 0 3 (x1).toNatClampNeg)).toNatClampNeg 0)], [vI (1 : Int32)], σ1)) rfl).trans ?_
  exact e_r rfl
set_option maxRecDepth 20000 in
theorem g94_0_1 (C : pmC) {σ : pmS} {x1 : Int32} {l2 : Option pmV} {σ1 : pmS} {r1 : Int32} (h1 : vp_in x1 48) (h2 : vp_in (σ.1 5 0 3 (x1).toNatClampNeg) 3) (h3 : C 2 [vR 0 ((σ.1 5 0 3 (x1).toNatClampNeg)).toNatClampNeg 0, vI (σ.1 5 0 1 (x1).toNatClampNeg)] σ = some (some (vI r1), σ1)) (h4 : vp_in r1 5) (h5 : ¬ (σ1.1 0 ((σ.1 5 0 3 (x1).toNatClampNeg)).toNatClampNeg 2 (r1).toNatClampNeg) = 0) : pq_Rn C (94, 0, [some (vR 9 0 0), some (vI x1), l2], [], σ) = some (some (vI (0 : Int32)), σ1) := by
  refine (e_n 6 (fr' := (94, 12, [some (vR 9 0 0), some (vI x1), l2], [vI x1, vR 5 0 4, vR 9 0 3], σ)) rfl).trans ?_
  refine (e_a (A := (94, 13, [some (vR 9 0 0), some (vI x1), l2], [vI (σ.1 5 0 3 (x1).toNatClampNeg), vR 9 0 3], σ)) rfl h1).trans ?_
  refine (e_a (A := (94, 14, [some (vR 9 0 0), some (vI x1), l2], [vR 0 ((σ.1 5 0 3 (x1).toNatClampNeg)).toNatClampNeg 0], σ)) rfl h2).trans ?_
  refine (e_n 8 (fr' := (94, 28, [some (vR 9 0 0), some (vI x1), some (vR 0 ((σ.1 5 0 3 (x1).toNatClampNeg)).toNatClampNeg 0)], [vI x1, vR 5 0 2, vR 0 ((σ.1 5 0 3 (x1).toNatClampNeg)).toNatClampNeg 0, vR 0 ((σ.1 5 0 3 (x1).toNatClampNeg)).toNatClampNeg 3], σ)) rfl).trans ?_
  refine (e_a (A := (94, 29, [some (vR 9 0 0), some (vI x1), some (vR 0 ((σ.1 5 0 3 (x1).toNatClampNeg)).toNatClampNeg 0)], [vI (σ.1 5 0 1 (x1).toNatClampNeg), vR 0 ((σ.1 5 0 3 (x1).toNatClampNeg)).toNatClampNeg 0, vR 0 ((σ.1 5 0 3 (x1).toNatClampNeg)).toNatClampNeg 3], σ)) rfl h1).trans ?_
  refine (e_ci (m := 94) (pc := 32) (ls := [some (vR 9 0 0), some (vI x1), some (vR 0 ((σ.1 5 0 3 (x1).toNatClampNeg)).toNatClampNeg 0)]) (rest := [vR 0 ((σ.1 5 0 3 (x1).toNatClampNeg)).toNatClampNeg 3]) rfl h3).trans ?_
  refine (e_a (A := (94, 33, [some (vR 9 0 0), some (vI x1), some (vR 0 ((σ.1 5 0 3 (x1).toNatClampNeg)).toNatClampNeg 0)], [vI (σ1.1 0 ((σ.1 5 0 3 (x1).toNatClampNeg)).toNatClampNeg 2 (r1).toNatClampNeg)], σ1)) rfl h4).trans ?_
  refine (e_f (B := (94, 40, [some (vR 9 0 0), some (vI x1), some (vR 0 ((σ.1 5 0 3 (x1).toNatClampNeg)).toNatClampNeg 0)], [], σ1)) rfl h5).trans ?_
  refine (e_n 1 (fr' := (94, 41, [some (vR 9 0 0), some (vI x1), some (vR 0 ((σ.1 5 0 3 (x1).toNatClampNeg)).toNatClampNeg 0)], [vI (0 : Int32)], σ1)) rfl).trans ?_
  exact e_r rfl
set_option maxRecDepth 20000 in
theorem g95_0_0 (C : pmC) {σ : pmS} {x1 : Int32} {l2 : Option pmV} {l3 : Option pmV} {l4 : Option pmV} {l5 : Option pmV} {σ1 : pmS} {r1 : Int32} {σ2 : pmS} {q2 : Nat} {σ3 : pmS} {r3 : Int32} {σ4 : pmS} {r4 : Int32} {σ5 : pmS} {r5 : Int32} (h1 : C 33 [vR 5 0 0, vI x1] σ = some (some (vI r1), σ1)) (h2 : r1 = 0) (h3 : C 93 [vR 9 0 0, vI x1] σ1 = some (some (vR 2 q2 0), σ2)) (h4 : vp_in x1 48) (h5 : vp_in (σ2.1 5 0 4 (x1).toNatClampNeg) 48) (h6 : C 10 [vR 2 q2 0, vI (σ2.1 5 0 7 ((σ2.1 5 0 4 (x1).toNatClampNeg)).toNatClampNeg), vI (1 : Int32)] σ2 = some (some (vI r3), σ3)) (h7 : vp_in (σ3.1 5 0 5 (x1).toNatClampNeg) 48) (h8 : C 10 [vR 2 q2 0, vI (σ3.1 5 0 7 ((σ3.1 5 0 5 (x1).toNatClampNeg)).toNatClampNeg), vI (0 : Int32)] σ3 = some (some (vI r4), σ4)) (h9 : C 94 [vR 9 0 0, vI x1] σ4 = some (some (vI r5), σ5)) (h10 : r5 = 0) (h11 : r5 = 0) : pq_Rn C (95, 0, [some (vR 9 0 0), some (vI x1), l2, l3, l4, l5], [], σ) = some (none, (pm_wi (pm_wi σ5 5 0 7 (x1).toNatClampNeg r4) 5 0 8 (x1).toNatClampNeg r3)) := by
  refine (e_n 3 (fr' := (95, 5, [some (vR 9 0 0), some (vI x1), l2, l3, l4, l5], [vI x1, vR 5 0 0], σ)) rfl).trans ?_
  refine (e_ci (m := 95) (pc := 8) (ls := [some (vR 9 0 0), some (vI x1), l2, l3, l4, l5]) (rest := []) rfl h1).trans ?_
  refine (e_t (A := (95, 40, [some (vR 9 0 0), some (vI x1), l2, l3, l4, l5], [], σ1)) rfl h2).trans ?_
  refine (e_n 2 (fr' := (95, 42, [some (vR 9 0 0), some (vI x1), l2, l3, l4, l5], [vI x1, vR 9 0 0], σ1)) rfl).trans ?_
  refine (e_cr (m := 95) (pc := 45) (ls := [some (vR 9 0 0), some (vI x1), l2, l3, l4, l5]) (rest := []) rfl h3).trans ?_
  refine (e_n 9 (fr' := (95, 62, [some (vR 9 0 0), some (vI x1), some (vR 2 q2 0), l3, l4, l5], [vI x1, vR 5 0 5, vR 5 0 8, vR 2 q2 0], σ2)) rfl).trans ?_
  refine (e_a (A := (95, 63, [some (vR 9 0 0), some (vI x1), some (vR 2 q2 0), l3, l4, l5], [vI (σ2.1 5 0 4 (x1).toNatClampNeg), vR 5 0 8, vR 2 q2 0], σ2)) rfl h4).trans ?_
  refine (e_a (A := (95, 64, [some (vR 9 0 0), some (vI x1), some (vR 2 q2 0), l3, l4, l5], [vI (σ2.1 5 0 7 ((σ2.1 5 0 4 (x1).toNatClampNeg)).toNatClampNeg), vR 2 q2 0], σ2)) rfl h5).trans ?_
  refine (e_n 1 (fr' := (95, 65, [some (vR 9 0 0), some (vI x1), some (vR 2 q2 0), l3, l4, l5], [vI (1 : Int32), vI (σ2.1 5 0 7 ((σ2.1 5 0 4 (x1).toNatClampNeg)).toNatClampNeg), vR 2 q2 0], σ2)) rfl).trans ?_
  refine (e_ci (m := 95) (pc := 68) (ls := [some (vR 9 0 0), some (vI x1), some (vR 2 q2 0), l3, l4, l5]) (rest := []) rfl h6).trans ?_
  refine (e_n 9 (fr' := (95, 85, [some (vR 9 0 0), some (vI x1), some (vR 2 q2 0), some (vI r3), l4, l5], [vI x1, vR 5 0 6, vR 5 0 8, vR 2 q2 0], σ3)) rfl).trans ?_
  refine (e_a (A := (95, 86, [some (vR 9 0 0), some (vI x1), some (vR 2 q2 0), some (vI r3), l4, l5], [vI (σ3.1 5 0 5 (x1).toNatClampNeg), vR 5 0 8, vR 2 q2 0], σ3)) rfl h4).trans ?_
  refine (e_a (A := (95, 87, [some (vR 9 0 0), some (vI x1), some (vR 2 q2 0), some (vI r3), l4, l5], [vI (σ3.1 5 0 7 ((σ3.1 5 0 5 (x1).toNatClampNeg)).toNatClampNeg), vR 2 q2 0], σ3)) rfl h7).trans ?_
  refine (e_n 1 (fr' := (95, 88, [some (vR 9 0 0), some (vI x1), some (vR 2 q2 0), some (vI r3), l4, l5], [vI (0 : Int32), vI (σ3.1 5 0 7 ((σ3.1 5 0 5 (x1).toNatClampNeg)).toNatClampNeg), vR 2 q2 0], σ3)) rfl).trans ?_
  refine (e_ci (m := 95) (pc := 91) (ls := [some (vR 9 0 0), some (vI x1), some (vR 2 q2 0), some (vI r3), l4, l5]) (rest := []) rfl h8).trans ?_
  refine (e_n 3 (fr' := (95, 95, [some (vR 9 0 0), some (vI x1), some (vR 2 q2 0), some (vI r3), some (vI r4), l5], [vI x1, vR 9 0 0], σ4)) rfl).trans ?_
  refine (e_ci (m := 95) (pc := 98) (ls := [some (vR 9 0 0), some (vI x1), some (vR 2 q2 0), some (vI r3), some (vI r4), l5]) (rest := []) rfl h9).trans ?_
  refine (e_n 6 (fr' := (95, 110, [some (vR 9 0 0), some (vI x1), some (vR 2 q2 0), some (vI r3), some (vI r4), some (vI r5)], [vI r5, vI x1, vR 5 0 8], σ5)) rfl).trans ?_
  refine (e_t (A := (95, 117, [some (vR 9 0 0), some (vI x1), some (vR 2 q2 0), some (vI r3), some (vI r4), some (vI r5)], [vI x1, vR 5 0 8], σ5)) rfl h10).trans ?_
  refine (e_n 1 (fr' := (95, 119, [some (vR 9 0 0), some (vI x1), some (vR 2 q2 0), some (vI r3), some (vI r4), some (vI r5)], [vI r4, vI x1, vR 5 0 8], σ5)) rfl).trans ?_
  refine (e_a (A := (95, 120, [some (vR 9 0 0), some (vI x1), some (vR 2 q2 0), some (vI r3), some (vI r4), some (vI r5)], [], (pm_wi σ5 5 0 7 (x1).toNatClampNeg r4))) rfl h4).trans ?_
  refine (e_n 5 (fr' := (95, 130, [some (vR 9 0 0), some (vI x1), some (vR 2 q2 0), some (vI r3), some (vI r4), some (vI r5)], [vI r5, vI x1, vR 5 0 9], (pm_wi σ5 5 0 7 (x1).toNatClampNeg r4))) rfl).trans ?_
  refine (e_t (A := (95, 138, [some (vR 9 0 0), some (vI x1), some (vR 2 q2 0), some (vI r3), some (vI r4), some (vI r5)], [vI x1, vR 5 0 9], (pm_wi σ5 5 0 7 (x1).toNatClampNeg r4))) rfl h11).trans ?_
  refine (e_n 1 (fr' := (95, 139, [some (vR 9 0 0), some (vI x1), some (vR 2 q2 0), some (vI r3), some (vI r4), some (vI r5)], [vI r3, vI x1, vR 5 0 9], (pm_wi σ5 5 0 7 (x1).toNatClampNeg r4))) rfl).trans ?_
  refine (e_a (A := (95, 140, [some (vR 9 0 0), some (vI x1), some (vR 2 q2 0), some (vI r3), some (vI r4), some (vI r5)], [], (pm_wi (pm_wi σ5 5 0 7 (x1).toNatClampNeg r4) 5 0 8 (x1).toNatClampNeg r3))) rfl h4).trans ?_
  exact e_r rfl
set_option maxRecDepth 20000 in
theorem g95_0_1 (C : pmC) {σ : pmS} {x1 : Int32} {l2 : Option pmV} {l3 : Option pmV} {l4 : Option pmV} {l5 : Option pmV} {σ1 : pmS} {r1 : Int32} {σ2 : pmS} {q2 : Nat} {σ3 : pmS} {r3 : Int32} {σ4 : pmS} {r4 : Int32} {σ5 : pmS} {r5 : Int32} (h1 : C 33 [vR 5 0 0, vI x1] σ = some (some (vI r1), σ1)) (h2 : r1 = 0) (h3 : C 93 [vR 9 0 0, vI x1] σ1 = some (some (vR 2 q2 0), σ2)) (h4 : vp_in x1 48) (h5 : vp_in (σ2.1 5 0 4 (x1).toNatClampNeg) 48) (h6 : C 10 [vR 2 q2 0, vI (σ2.1 5 0 7 ((σ2.1 5 0 4 (x1).toNatClampNeg)).toNatClampNeg), vI (1 : Int32)] σ2 = some (some (vI r3), σ3)) (h7 : vp_in (σ3.1 5 0 5 (x1).toNatClampNeg) 48) (h8 : C 10 [vR 2 q2 0, vI (σ3.1 5 0 7 ((σ3.1 5 0 5 (x1).toNatClampNeg)).toNatClampNeg), vI (0 : Int32)] σ3 = some (some (vI r4), σ4)) (h9 : C 94 [vR 9 0 0, vI x1] σ4 = some (some (vI r5), σ5)) (h10 : r5 = 0) (h11 : ¬ r5 = 0) : pq_Rn C (95, 0, [some (vR 9 0 0), some (vI x1), l2, l3, l4, l5], [], σ) = some (none, (pm_wi (pm_wi σ5 5 0 7 (x1).toNatClampNeg r4) 5 0 8 (x1).toNatClampNeg r4)) := by
  refine (e_n 3 (fr' := (95, 5, [some (vR 9 0 0), some (vI x1), l2, l3, l4, l5], [vI x1, vR 5 0 0], σ)) rfl).trans ?_
  refine (e_ci (m := 95) (pc := 8) (ls := [some (vR 9 0 0), some (vI x1), l2, l3, l4, l5]) (rest := []) rfl h1).trans ?_
  refine (e_t (A := (95, 40, [some (vR 9 0 0), some (vI x1), l2, l3, l4, l5], [], σ1)) rfl h2).trans ?_
  refine (e_n 2 (fr' := (95, 42, [some (vR 9 0 0), some (vI x1), l2, l3, l4, l5], [vI x1, vR 9 0 0], σ1)) rfl).trans ?_
  refine (e_cr (m := 95) (pc := 45) (ls := [some (vR 9 0 0), some (vI x1), l2, l3, l4, l5]) (rest := []) rfl h3).trans ?_
  refine (e_n 9 (fr' := (95, 62, [some (vR 9 0 0), some (vI x1), some (vR 2 q2 0), l3, l4, l5], [vI x1, vR 5 0 5, vR 5 0 8, vR 2 q2 0], σ2)) rfl).trans ?_
  refine (e_a (A := (95, 63, [some (vR 9 0 0), some (vI x1), some (vR 2 q2 0), l3, l4, l5], [vI (σ2.1 5 0 4 (x1).toNatClampNeg), vR 5 0 8, vR 2 q2 0], σ2)) rfl h4).trans ?_
  refine (e_a (A := (95, 64, [some (vR 9 0 0), some (vI x1), some (vR 2 q2 0), l3, l4, l5], [vI (σ2.1 5 0 7 ((σ2.1 5 0 4 (x1).toNatClampNeg)).toNatClampNeg), vR 2 q2 0], σ2)) rfl h5).trans ?_
  refine (e_n 1 (fr' := (95, 65, [some (vR 9 0 0), some (vI x1), some (vR 2 q2 0), l3, l4, l5], [vI (1 : Int32), vI (σ2.1 5 0 7 ((σ2.1 5 0 4 (x1).toNatClampNeg)).toNatClampNeg), vR 2 q2 0], σ2)) rfl).trans ?_
  refine (e_ci (m := 95) (pc := 68) (ls := [some (vR 9 0 0), some (vI x1), some (vR 2 q2 0), l3, l4, l5]) (rest := []) rfl h6).trans ?_
  refine (e_n 9 (fr' := (95, 85, [some (vR 9 0 0), some (vI x1), some (vR 2 q2 0), some (vI r3), l4, l5], [vI x1, vR 5 0 6, vR 5 0 8, vR 2 q2 0], σ3)) rfl).trans ?_
  refine (e_a (A := (95, 86, [some (vR 9 0 0), some (vI x1), some (vR 2 q2 0), some (vI r3), l4, l5], [vI (σ3.1 5 0 5 (x1).toNatClampNeg), vR 5 0 8, vR 2 q2 0], σ3)) rfl h4).trans ?_
  refine (e_a (A := (95, 87, [some (vR 9 0 0), some (vI x1), some (vR 2 q2 0), some (vI r3), l4, l5], [vI (σ3.1 5 0 7 ((σ3.1 5 0 5 (x1).toNatClampNeg)).toNatClampNeg), vR 2 q2 0], σ3)) rfl h7).trans ?_
  refine (e_n 1 (fr' := (95, 88, [some (vR 9 0 0), some (vI x1), some (vR 2 q2 0), some (vI r3), l4, l5], [vI (0 : Int32), vI (σ3.1 5 0 7 ((σ3.1 5 0 5 (x1).toNatClampNeg)).toNatClampNeg), vR 2 q2 0], σ3)) rfl).trans ?_
  refine (e_ci (m := 95) (pc := 91) (ls := [some (vR 9 0 0), some (vI x1), some (vR 2 q2 0), some (vI r3), l4, l5]) (rest := []) rfl h8).trans ?_
  refine (e_n 3 (fr' := (95, 95, [some (vR 9 0 0), some (vI x1), some (vR 2 q2 0), some (vI r3), some (vI r4), l5], [vI x1, vR 9 0 0], σ4)) rfl).trans ?_
  refine (e_ci (m := 95) (pc := 98) (ls := [some (vR 9 0 0), some (vI x1), some (vR 2 q2 0), some (vI r3), some (vI r4), l5]) (rest := []) rfl h9).trans ?_
  refine (e_n 6 (fr' := (95, 110, [some (vR 9 0 0), some (vI x1), some (vR 2 q2 0), some (vI r3), some (vI r4), some (vI r5)], [vI r5, vI x1, vR 5 0 8], σ5)) rfl).trans ?_
  refine (e_t (A := (95, 117, [some (vR 9 0 0), some (vI x1), some (vR 2 q2 0), some (vI r3), some (vI r4), some (vI r5)], [vI x1, vR 5 0 8], σ5)) rfl h10).trans ?_
  refine (e_n 1 (fr' := (95, 119, [some (vR 9 0 0), some (vI x1), some (vR 2 q2 0), some (vI r3), some (vI r4), some (vI r5)], [vI r4, vI x1, vR 5 0 8], σ5)) rfl).trans ?_
  refine (e_a (A := (95, 120, [some (vR 9 0 0), some (vI x1), some (vR 2 q2 0), some (vI r3), some (vI r4), some (vI r5)], [], (pm_wi σ5 5 0 7 (x1).toNatClampNeg r4))) rfl h4).trans ?_
  refine (e_n 5 (fr' := (95, 130, [some (vR 9 0 0), some (vI x1), some (vR 2 q2 0), some (vI r3), some (vI r4), some (vI r5)], [vI r5, vI x1, vR 5 0 9], (pm_wi σ5 5 0 7 (x1).toNatClampNeg r4))) rfl).trans ?_
  refine (e_f (B := (95, 133, [some (vR 9 0 0), some (vI x1), some (vR 2 q2 0), some (vI r3), some (vI r4), some (vI r5)], [vI x1, vR 5 0 9], (pm_wi σ5 5 0 7 (x1).toNatClampNeg r4))) rfl h11).trans ?_
  refine (e_n 2 (fr' := (95, 139, [some (vR 9 0 0), some (vI x1), some (vR 2 q2 0), some (vI r3), some (vI r4), some (vI r5)], [vI r4, vI x1, vR 5 0 9], (pm_wi σ5 5 0 7 (x1).toNatClampNeg r4))) rfl).trans ?_
  refine (e_a (A := (95, 140, [some (vR 9 0 0), some (vI x1), some (vR 2 q2 0), some (vI r3), some (vI r4), some (vI r5)], [], (pm_wi (pm_wi σ5 5 0 7 (x1).toNatClampNeg r4) 5 0 8 (x1).toNatClampNeg r4))) rfl h4).trans ?_
  exact e_r rfl
