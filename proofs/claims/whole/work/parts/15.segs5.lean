/-! segment rules, by program -/
set_option maxRecDepth 20000 in
theorem g119_0_2 (C : pmC) {σ : pmS} {x0 : Int32} {x1 : Int32} (h1 : ¬ x1 = (3 : Int32)) (h2 : ¬ x1 = (2 : Int32)) (h3 : x1 = (5 : Int32)) : pq_Rn C (119, 0, [some (vI x0), some (vI x1)], [], σ) = some (some (vI (1 : Int32)), σ) := by
  refine (e_n 2 (fr' := (119, 2, [some (vI x0), some (vI x1)], [vI (3 : Int32), vI x1], σ)) rfl).trans ?_
  refine (e_f (B := (119, 11, [some (vI x0), some (vI x1)], [], σ)) rfl h1).trans ?_
  refine (e_n 2 (fr' := (119, 13, [some (vI x0), some (vI x1)], [vI (2 : Int32), vI x1], σ)) rfl).trans ?_
  refine (e_f (B := (119, 16, [some (vI x0), some (vI x1)], [], σ)) rfl h2).trans ?_
  refine (e_n 2 (fr' := (119, 18, [some (vI x0), some (vI x1)], [vI (5 : Int32), vI x1], σ)) rfl).trans ?_
  refine (e_t (A := (119, 21, [some (vI x0), some (vI x1)], [], σ)) rfl h3).trans ?_
  refine (e_n 2 (fr' := (119, 26, [some (vI x0), some (vI x1)], [vI (1 : Int32)], σ)) rfl).trans ?_
  exact e_r rfl
set_option maxRecDepth 20000 in
theorem g119_0_3 (C : pmC) {σ : pmS} {x0 : Int32} {x1 : Int32} (h1 : ¬ x1 = (3 : Int32)) (h2 : ¬ x1 = (2 : Int32)) (h3 : ¬ x1 = (5 : Int32)) : pq_Rn C (119, 0, [some (vI x0), some (vI x1)], [], σ) = some (some (vI (0 : Int32)), σ) := by
  refine (e_n 2 (fr' := (119, 2, [some (vI x0), some (vI x1)], [vI (3 : Int32), vI x1], σ)) rfl).trans ?_
  refine (e_f (B := (119, 11, [some (vI x0), some (vI x1)], [], σ)) rfl h1).trans ?_
  refine (e_n 2 (fr' := (119, 13, [some (vI x0), some (vI x1)], [vI (2 : Int32), vI x1], σ)) rfl).trans ?_
  refine (e_f (B := (119, 16, [some (vI x0), some (vI x1)], [], σ)) rfl h2).trans ?_
  refine (e_n 2 (fr' := (119, 18, [some (vI x0), some (vI x1)], [vI (5 : Int32), vI x1], σ)) rfl).trans ?_
  refine (e_f (B := (119, 25, [some (vI x0), some (vI x1)], [], σ)) rfl h3).trans ?_
  refine (e_n 1 (fr' := (119, 26, [some (vI x0), some (vI x1)], [vI (0 : Int32)], σ)) rfl).trans ?_
  exact e_r rfl
set_option maxRecDepth 20000 in
theorem g120_0_0 (C : pmC) {σ : pmS} {x1 : Int32} {x2 : Int32} {x3 : Int32} {x4 : Int32} {σ1 : pmS} {r1 : Int32} (h1 : x4 = (1 : Int32)) (h2 : C 115 [vR 10 0 0, vR 10 0 4, vI x1, vI x2] σ = some (some (vI r1), σ1)) : pq_Rn C (120, 0, [some (vR 10 0 0), some (vI x1), some (vI x2), some (vI x3), some (vI x4)], [], σ) = some (some (vI r1), σ1) := by
  refine (e_n 1 (fr' := (120, 2, [some (vR 10 0 0), some (vI x1), some (vI x2), some (vI x3), some (vI x4)], [vI x4], σ)) rfl).trans ?_
  refine (e_g (A := (120, 28, [some (vR 10 0 0), some (vI x1), some (vI x2), some (vI x3), some (vI x4)], [], σ)) (off' := 26) rfl (by rw [h1]; decide) rfl).trans ?_
  refine (e_n 5 (fr' := (120, 35, [some (vR 10 0 0), some (vI x1), some (vI x2), some (vI x3), some (vI x4)], [vI x2, vI x1, vR 10 0 4, vR 10 0 0], σ)) rfl).trans ?_
  refine (e_ci (m := 120) (pc := 38) (ls := [some (vR 10 0 0), some (vI x1), some (vI x2), some (vI x3), some (vI x4)]) (rest := []) rfl h2).trans ?_
  exact e_r rfl
set_option maxRecDepth 20000 in
theorem g120_0_1 (C : pmC) {σ : pmS} {x1 : Int32} {x2 : Int32} {x3 : Int32} {x4 : Int32} {σ1 : pmS} {r1 : Int32} (h1 : x4 = (2 : Int32)) (h2 : C 115 [vR 10 0 0, vR 10 0 3, vI x1, vI x2] σ = some (some (vI r1), σ1)) : pq_Rn C (120, 0, [some (vR 10 0 0), some (vI x1), some (vI x2), some (vI x3), some (vI x4)], [], σ) = some (some (vI r1), σ1) := by
  refine (e_n 1 (fr' := (120, 2, [some (vR 10 0 0), some (vI x1), some (vI x2), some (vI x3), some (vI x4)], [vI x4], σ)) rfl).trans ?_
  refine (e_g (A := (120, 39, [some (vR 10 0 0), some (vI x1), some (vI x2), some (vI x3), some (vI x4)], [], σ)) (off' := 37) rfl (by rw [h1]; decide) rfl).trans ?_
  refine (e_n 5 (fr' := (120, 46, [some (vR 10 0 0), some (vI x1), some (vI x2), some (vI x3), some (vI x4)], [vI x2, vI x1, vR 10 0 3, vR 10 0 0], σ)) rfl).trans ?_
  refine (e_ci (m := 120) (pc := 49) (ls := [some (vR 10 0 0), some (vI x1), some (vI x2), some (vI x3), some (vI x4)]) (rest := []) rfl h2).trans ?_
  exact e_r rfl
set_option maxRecDepth 20000 in
theorem g120_0_2 (C : pmC) {σ : pmS} {x1 : Int32} {x2 : Int32} {x3 : Int32} {x4 : Int32} (h1 : x4 = (3 : Int32)) (h2 : x3 = 0) (h3 : vp_in (((8 : Int32) * x1) + x2) 32) : pq_Rn C (120, 0, [some (vR 10 0 0), some (vI x1), some (vI x2), some (vI x3), some (vI x4)], [], σ) = some (some (vI (σ.1 10 0 1 ((((8 : Int32) * x1) + x2)).toNatClampNeg)), σ) := by
  refine (e_n 1 (fr' := (120, 2, [some (vR 10 0 0), some (vI x1), some (vI x2), some (vI x3), some (vI x4)], [vI x4], σ)) rfl).trans ?_
  refine (e_g (A := (120, 50, [some (vR 10 0 0), some (vI x1), some (vI x2), some (vI x3), some (vI x4)], [], σ)) (off' := 48) rfl (by rw [h1]; decide) rfl).trans ?_
  refine (e_n 1 (fr' := (120, 51, [some (vR 10 0 0), some (vI x1), some (vI x2), some (vI x3), some (vI x4)], [vI x3], σ)) rfl).trans ?_
  refine (e_t (A := (120, 54, [some (vR 10 0 0), some (vI x1), some (vI x2), some (vI x3), some (vI x4)], [], σ)) rfl h2).trans ?_
  refine (e_n 7 (fr' := (120, 64, [some (vR 10 0 0), some (vI x1), some (vI x2), some (vI x3), some (vI x4)], [vI (((8 : Int32) * x1) + x2), vR 10 0 2], σ)) rfl).trans ?_
  refine (e_a (A := (120, 65, [some (vR 10 0 0), some (vI x1), some (vI x2), some (vI x3), some (vI x4)], [vI (σ.1 10 0 1 ((((8 : Int32) * x1) + x2)).toNatClampNeg)], σ)) rfl h3).trans ?_
  refine (e_n 1 (fr' := (120, 78, [some (vR 10 0 0), some (vI x1), some (vI x2), some (vI x3), some (vI x4)], [vI (σ.1 10 0 1 ((((8 : Int32) * x1) + x2)).toNatClampNeg)], σ)) rfl).trans ?_
  exact e_r rfl
set_option maxRecDepth 20000 in
theorem g120_0_3 (C : pmC) {σ : pmS} {x1 : Int32} {x2 : Int32} {x3 : Int32} {x4 : Int32} {σ1 : pmS} {r1 : Int32} (h1 : x4 = (3 : Int32)) (h2 : ¬ x3 = 0) (h3 : C 115 [vR 10 0 0, vR 10 0 2, vI x1, vI x2] σ = some (some (vI r1), σ1)) : pq_Rn C (120, 0, [some (vR 10 0 0), some (vI x1), some (vI x2), some (vI x3), some (vI x4)], [], σ) = some (some (vI r1), σ1) := by
  refine (e_n 1 (fr' := (120, 2, [some (vR 10 0 0), some (vI x1), some (vI x2), some (vI x3), some (vI x4)], [vI x4], σ)) rfl).trans ?_
  refine (e_g (A := (120, 50, [some (vR 10 0 0), some (vI x1), some (vI x2), some (vI x3), some (vI x4)], [], σ)) (off' := 48) rfl (by rw [h1]; decide) rfl).trans ?_
  refine (e_n 1 (fr' := (120, 51, [some (vR 10 0 0), some (vI x1), some (vI x2), some (vI x3), some (vI x4)], [vI x3], σ)) rfl).trans ?_
  refine (e_f (B := (120, 68, [some (vR 10 0 0), some (vI x1), some (vI x2), some (vI x3), some (vI x4)], [], σ)) rfl h2).trans ?_
  refine (e_n 5 (fr' := (120, 75, [some (vR 10 0 0), some (vI x1), some (vI x2), some (vI x3), some (vI x4)], [vI x2, vI x1, vR 10 0 2, vR 10 0 0], σ)) rfl).trans ?_
  refine (e_ci (m := 120) (pc := 78) (ls := [some (vR 10 0 0), some (vI x1), some (vI x2), some (vI x3), some (vI x4)]) (rest := []) rfl h3).trans ?_
  exact e_r rfl
set_option maxRecDepth 20000 in
theorem g120_0_4 (C : pmC) {σ : pmS} {x1 : Int32} {x2 : Int32} {x3 : Int32} {x4 : Int32} (h1 : ¬ x4 = (1 : Int32)) (h2 : ¬ x4 = (2 : Int32)) (h3 : ¬ x4 = (3 : Int32)) (h4 : x3 = 0) (h5 : vp_in (((8 : Int32) * x1) + x2) 32) : pq_Rn C (120, 0, [some (vR 10 0 0), some (vI x1), some (vI x2), some (vI x3), some (vI x4)], [], σ) = some (some (vI (σ.1 10 0 3 ((((8 : Int32) * x1) + x2)).toNatClampNeg)), σ) := by
  refine (e_n 1 (fr' := (120, 2, [some (vR 10 0 0), some (vI x1), some (vI x2), some (vI x3), some (vI x4)], [vI x4], σ)) rfl).trans ?_
  refine (e_g (A := (120, 79, [some (vR 10 0 0), some (vI x1), some (vI x2), some (vI x3), some (vI x4)], [], σ)) (off' := 77) rfl ((pm_sw_ne h1).trans ((pm_sw_ne h2).trans ((pm_sw_ne h3).trans (rfl)))) rfl).trans ?_
  refine (e_n 1 (fr' := (120, 80, [some (vR 10 0 0), some (vI x1), some (vI x2), some (vI x3), some (vI x4)], [vI x3], σ)) rfl).trans ?_
  refine (e_t (A := (120, 83, [some (vR 10 0 0), some (vI x1), some (vI x2), some (vI x3), some (vI x4)], [], σ)) rfl h4).trans ?_
  refine (e_n 7 (fr' := (120, 93, [some (vR 10 0 0), some (vI x1), some (vI x2), some (vI x3), some (vI x4)], [vI (((8 : Int32) * x1) + x2), vR 10 0 4], σ)) rfl).trans ?_
  refine (e_a (A := (120, 94, [some (vR 10 0 0), some (vI x1), some (vI x2), some (vI x3), some (vI x4)], [vI (σ.1 10 0 3 ((((8 : Int32) * x1) + x2)).toNatClampNeg)], σ)) rfl h5).trans ?_
  refine (e_n 1 (fr' := (120, 108, [some (vR 10 0 0), some (vI x1), some (vI x2), some (vI x3), some (vI x4)], [vI (σ.1 10 0 3 ((((8 : Int32) * x1) + x2)).toNatClampNeg)], σ)) rfl).trans ?_
  exact e_r rfl
set_option maxRecDepth 20000 in
theorem g120_0_5 (C : pmC) {σ : pmS} {x1 : Int32} {x2 : Int32} {x3 : Int32} {x4 : Int32} (h1 : ¬ x4 = (1 : Int32)) (h2 : ¬ x4 = (2 : Int32)) (h3 : ¬ x4 = (3 : Int32)) (h4 : ¬ x3 = 0) (h5 : vp_in (((8 : Int32) * x1) + x2) 32) : pq_Rn C (120, 0, [some (vR 10 0 0), some (vI x1), some (vI x2), some (vI x3), some (vI x4)], [], σ) = some (some (vI (σ.1 10 0 2 ((((8 : Int32) * x1) + x2)).toNatClampNeg)), σ) := by
  refine (e_n 1 (fr' := (120, 2, [some (vR 10 0 0), some (vI x1), some (vI x2), some (vI x3), some (vI x4)], [vI x4], σ)) rfl).trans ?_
  refine (e_g (A := (120, 79, [some (vR 10 0 0), some (vI x1), some (vI x2), some (vI x3), some (vI x4)], [], σ)) (off' := 77) rfl ((pm_sw_ne h1).trans ((pm_sw_ne h2).trans ((pm_sw_ne h3).trans (rfl)))) rfl).trans ?_
  refine (e_n 1 (fr' := (120, 80, [some (vR 10 0 0), some (vI x1), some (vI x2), some (vI x3), some (vI x4)], [vI x3], σ)) rfl).trans ?_
  refine (e_f (B := (120, 97, [some (vR 10 0 0), some (vI x1), some (vI x2), some (vI x3), some (vI x4)], [], σ)) rfl h4).trans ?_
  refine (e_n 7 (fr' := (120, 107, [some (vR 10 0 0), some (vI x1), some (vI x2), some (vI x3), some (vI x4)], [vI (((8 : Int32) * x1) + x2), vR 10 0 3], σ)) rfl).trans ?_
  refine (e_a (A := (120, 108, [some (vR 10 0 0), some (vI x1), some (vI x2), some (vI x3), some (vI x4)], [vI (σ.1 10 0 2 ((((8 : Int32) * x1) + x2)).toNatClampNeg)], σ)) rfl h5).trans ?_
  exact e_r rfl
set_option maxRecDepth 20000 in
theorem g121_0_0 (C : pmC) {σ : pmS} {x1 : Int32} {x2 : Int32} {x3 : Int32} {x4 : Int32} {l5 : Option pmV} {l6 : Option pmV} {l7 : Option pmV}  : pq_Rn C (121, 0, [some (vR 10 0 0), some (vI x1), some (vI x2), some (vI x3), some (vI x4), l5, l6, l7], [], σ) = pq_Rn C (121, 10, [some (vR 10 0 0), some (vI x1), some (vI x2), some (vI x3), some (vI x4), some (vI x2), some (vI x3), some (vI x4)], [], σ) := by
  exact e_n 6 rfl
set_option maxRecDepth 20000 in
theorem g121_10_0 (C : pmC) {σ : pmS} {x1 : Int32} {l2 : Option pmV} {l3 : Option pmV} {l4 : Option pmV} {x5 : Int32} {x6 : Int32} {x7 : Int32} (h1 : x7 ≤ 0) : pq_Rn C (121, 10, [some (vR 10 0 0), some (vI x1), l2, l3, l4, some (vI x5), some (vI x6), some (vI x7)], [], σ) = some (some (vI x5), σ) := by
  refine (e_n 1 (fr' := (121, 12, [some (vR 10 0 0), some (vI x1), l2, l3, l4, some (vI x5), some (vI x6), some (vI x7)], [vI x7], σ)) rfl).trans ?_
  refine (e_t (A := (121, 53, [some (vR 10 0 0), some (vI x1), l2, l3, l4, some (vI x5), some (vI x6), some (vI x7)], [], σ)) rfl h1).trans ?_
  refine (e_n 1 (fr' := (121, 55, [some (vR 10 0 0), some (vI x1), l2, l3, l4, some (vI x5), some (vI x6), some (vI x7)], [vI x5], σ)) rfl).trans ?_
  exact e_r rfl
set_option maxRecDepth 20000 in
theorem g121_10_1 (C : pmC) {σ : pmS} {x1 : Int32} {l2 : Option pmV} {l3 : Option pmV} {l4 : Option pmV} {x5 : Int32} {x6 : Int32} {x7 : Int32} {σ1 : pmS} {r1 : Int32} {σ2 : pmS} {r2 : Int32} (h1 : ¬ x7 ≤ 0) (h2 : C 120 [vR 10 0 0, vI x1, vI x5, vI x6, vI (x7 - x7 / (8 : Int32) * (8 : Int32))] σ = some (some (vI r1), σ1)) (h3 : C 119 [vI x6, vI (x7 - x7 / (8 : Int32) * (8 : Int32))] σ1 = some (some (vI r2), σ2)) : pq_Rn C (121, 10, [some (vR 10 0 0), some (vI x1), l2, l3, l4, some (vI x5), some (vI x6), some (vI x7)], [], σ) = pq_Rn C (121, 10, [some (vR 10 0 0), some (vI x1), l2, l3, l4, some (vI r1), some (vI r2), some (vI (x7 / (8 : Int32)))], [], σ2) := by
  refine (e_n 1 (fr' := (121, 12, [some (vR 10 0 0), some (vI x1), l2, l3, l4, some (vI x5), some (vI x6), some (vI x7)], [vI x7], σ)) rfl).trans ?_
  refine (e_f (B := (121, 15, [some (vR 10 0 0), some (vI x1), l2, l3, l4, some (vI x5), some (vI x6), some (vI x7)], [], σ)) rfl h1).trans ?_
  refine (e_n 7 (fr' := (121, 26, [some (vR 10 0 0), some (vI x1), l2, l3, l4, some (vI x5), some (vI x6), some (vI x7)], [vI (x7 - x7 / (8 : Int32) * (8 : Int32)), vI x6, vI x5, vI x1, vR 10 0 0], σ)) rfl).trans ?_
  refine (e_ci (m := 121) (pc := 29) (ls := [some (vR 10 0 0), some (vI x1), l2, l3, l4, some (vI x5), some (vI x6), some (vI x7)]) (rest := []) rfl h2).trans ?_
  refine (e_n 5 (fr' := (121, 38, [some (vR 10 0 0), some (vI x1), l2, l3, l4, some (vI r1), some (vI x6), some (vI x7)], [vI (x7 - x7 / (8 : Int32) * (8 : Int32)), vI x6], σ1)) rfl).trans ?_
  refine (e_ci (m := 121) (pc := 41) (ls := [some (vR 10 0 0), some (vI x1), l2, l3, l4, some (vI r1), some (vI x6), some (vI x7)]) (rest := []) rfl h3).trans ?_
  exact e_n 6 rfl
set_option maxRecDepth 20000 in
theorem g122_0_0 (C : pmC) {σ : pmS} {l0 : Option pmV} {x1 : Int32} {x2 : Int32} {l3 : Option pmV} {l4 : Option pmV}  : pq_Rn C (122, 0, [l0, some (vI x1), some (vI x2), l3, l4], [], σ) = pq_Rn C (122, 5, [l0, some (vI x1), some (vI x2), some (vI x1), some (vI x2)], [], σ) := by
  exact e_n 4 rfl
set_option maxRecDepth 20000 in
theorem g122_5_0 (C : pmC) {σ : pmS} {l0 : Option pmV} {l1 : Option pmV} {l2 : Option pmV} {x3 : Int32} {x4 : Int32} (h1 : x4 ≤ 0) : pq_Rn C (122, 5, [l0, l1, l2, some (vI x3), some (vI x4)], [], σ) = some (some (vI x3), σ) := by
  refine (e_n 1 (fr' := (122, 7, [l0, l1, l2, some (vI x3), some (vI x4)], [vI x4], σ)) rfl).trans ?_
  refine (e_t (A := (122, 30, [l0, l1, l2, some (vI x3), some (vI x4)], [], σ)) rfl h1).trans ?_
  refine (e_n 1 (fr' := (122, 31, [l0, l1, l2, some (vI x3), some (vI x4)], [vI x3], σ)) rfl).trans ?_
  exact e_r rfl
set_option maxRecDepth 20000 in
theorem g122_5_1 (C : pmC) {σ : pmS} {l0 : Option pmV} {l1 : Option pmV} {l2 : Option pmV} {x3 : Int32} {x4 : Int32} {σ1 : pmS} {r1 : Int32} (h1 : ¬ x4 ≤ 0) (h2 : C 119 [vI x3, vI (x4 - x4 / (8 : Int32) * (8 : Int32))] σ = some (some (vI r1), σ1)) : pq_Rn C (122, 5, [l0, l1, l2, some (vI x3), some (vI x4)], [], σ) = pq_Rn C (122, 5, [l0, l1, l2, some (vI r1), some (vI (x4 / (8 : Int32)))], [], σ1) := by
  refine (e_n 1 (fr' := (122, 7, [l0, l1, l2, some (vI x3), some (vI x4)], [vI x4], σ)) rfl).trans ?_
  refine (e_f (B := (122, 10, [l0, l1, l2, some (vI x3), some (vI x4)], [], σ)) rfl h1).trans ?_
  refine (e_n 4 (fr' := (122, 16, [l0, l1, l2, some (vI x3), some (vI x4)], [vI (x4 - x4 / (8 : Int32) * (8 : Int32)), vI x3], σ)) rfl).trans ?_
  refine (e_ci (m := 122) (pc := 19) (ls := [l0, l1, l2, some (vI x3), some (vI x4)]) (rest := []) rfl h2).trans ?_
  exact e_n 6 rfl
set_option maxRecDepth 20000 in
theorem g123_0_0 (C : pmC) {σ : pmS} {x1 : Int32} {x2 : Int32} {x3 : Int32} {x4 : Int32} {σ1 : pmS} {r1 : Int32} (h1 : C 107 [vR 10 0 0, vI x1, vI x2] σ = some (some (vI r1), σ1)) (h2 : r1 = 0) : pq_Rn C (123, 0, [some (vR 10 0 0), some (vI x1), some (vI x2), some (vI x3), some (vI x4)], [], σ) = some (some (vI (-1 : Int32)), σ1) := by
  refine (e_n 3 (fr' := (123, 3, [some (vR 10 0 0), some (vI x1), some (vI x2), some (vI x3), some (vI x4)], [vI x2, vI x1, vR 10 0 0], σ)) rfl).trans ?_
  refine (e_ci (m := 123) (pc := 6) (ls := [some (vR 10 0 0), some (vI x1), some (vI x2), some (vI x3), some (vI x4)]) (rest := []) rfl h1).trans ?_
  refine (e_t (A := (123, 36, [some (vR 10 0 0), some (vI x1), some (vI x2), some (vI x3), some (vI x4)], [], σ1)) rfl h2).trans ?_
  refine (e_n 1 (fr' := (123, 37, [some (vR 10 0 0), some (vI x1), some (vI x2), some (vI x3), some (vI x4)], [vI (-1 : Int32)], σ1)) rfl).trans ?_
  exact e_r rfl
set_option maxRecDepth 20000 in
theorem g123_0_1 (C : pmC) {σ : pmS} {x1 : Int32} {x2 : Int32} {x3 : Int32} {x4 : Int32} {σ1 : pmS} {r1 : Int32} {σ2 : pmS} {r2 : Int32} (h1 : C 107 [vR 10 0 0, vI x1, vI x2] σ = some (some (vI r1), σ1)) (h2 : ¬ r1 = 0) (h3 : C 118 [vI x3] σ1 = some (some (vI r2), σ2)) (h4 : r2 = 0) : pq_Rn C (123, 0, [some (vR 10 0 0), some (vI x1), some (vI x2), some (vI x3), some (vI x4)], [], σ) = some (some (vI (-1 : Int32)), σ2) := by
  refine (e_n 3 (fr' := (123, 3, [some (vR 10 0 0), some (vI x1), some (vI x2), some (vI x3), some (vI x4)], [vI x2, vI x1, vR 10 0 0], σ)) rfl).trans ?_
  refine (e_ci (m := 123) (pc := 6) (ls := [some (vR 10 0 0), some (vI x1), some (vI x2), some (vI x3), some (vI x4)]) (rest := []) rfl h1).trans ?_
  refine (e_f (B := (123, 9, [some (vR 10 0 0), some (vI x1), some (vI x2), some (vI x3), some (vI x4)], [], σ1)) rfl h2).trans ?_
  refine (e_n 1 (fr' := (123, 10, [some (vR 10 0 0), some (vI x1), some (vI x2), some (vI x3), some (vI x4)], [vI x3], σ1)) rfl).trans ?_
  refine (e_ci (m := 123) (pc := 13) (ls := [some (vR 10 0 0), some (vI x1), some (vI x2), some (vI x3), some (vI x4)]) (rest := []) rfl h3).trans ?_
  refine (e_t (A := (123, 36, [some (vR 10 0 0), some (vI x1), some (vI x2), some (vI x3), some (vI x4)], [], σ2)) rfl h4).trans ?_
  refine (e_n 1 (fr' := (123, 37, [some (vR 10 0 0), some (vI x1), some (vI x2), some (vI x3), some (vI x4)], [vI (-1 : Int32)], σ2)) rfl).trans ?_
  exact e_r rfl
set_option maxRecDepth 20000 in
theorem g123_0_2 (C : pmC) {σ : pmS} {x1 : Int32} {x2 : Int32} {x3 : Int32} {x4 : Int32} {σ1 : pmS} {r1 : Int32} {σ2 : pmS} {r2 : Int32} {σ3 : pmS} {r3 : Int32} (h1 : C 107 [vR 10 0 0, vI x1, vI x2] σ = some (some (vI r1), σ1)) (h2 : ¬ r1 = 0) (h3 : C 118 [vI x3] σ1 = some (some (vI r2), σ2)) (h4 : ¬ r2 = 0) (h5 : C 117 [vI x4] σ2 = some (some (vI r3), σ3)) (h6 : r3 = 0) : pq_Rn C (123, 0, [some (vR 10 0 0), some (vI x1), some (vI x2), some (vI x3), some (vI x4)], [], σ) = some (some (vI (-1 : Int32)), σ3) := by
  refine (e_n 3 (fr' := (123, 3, [some (vR 10 0 0), some (vI x1), some (vI x2), some (vI x3), some (vI x4)], [vI x2, vI x1, vR 10 0 0], σ)) rfl).trans ?_
  refine (e_ci (m := 123) (pc := 6) (ls := [some (vR 10 0 0), some (vI x1), some (vI x2), some (vI x3), some (vI x4)]) (rest := []) rfl h1).trans ?_
  refine (e_f (B := (123, 9, [some (vR 10 0 0), some (vI x1), some (vI x2), some (vI x3), some (vI x4)], [], σ1)) rfl h2).trans ?_
  refine (e_n 1 (fr' := (123, 10, [some (vR 10 0 0), some (vI x1), some (vI x2), some (vI x3), some (vI x4)], [vI x3], σ1)) rfl).trans ?_
  refine (e_ci (m := 123) (pc := 13) (ls := [some (vR 10 0 0), some (vI x1), some (vI x2), some (vI x3), some (vI x4)]) (rest := []) rfl h3).trans ?_
  refine (e_f (B := (123, 16, [some (vR 10 0 0), some (vI x1), some (vI x2), some (vI x3), some (vI x4)], [], σ2)) rfl h4).trans ?_
  refine (e_n 1 (fr' := (123, 18, [some (vR 10 0 0), some (vI x1), some (vI x2), some (vI x3), some (vI x4)], [vI x4], σ2)) rfl).trans ?_
  refine (e_ci (m := 123) (pc := 21) (ls := [some (vR 10 0 0), some (vI x1), some (vI x2), some (vI x3), some (vI x4)]) (rest := []) rfl h5).trans ?_
  refine (e_t (A := (123, 36, [some (vR 10 0 0), some (vI x1), some (vI x2), some (vI x3), some (vI x4)], [], σ3)) rfl h6).trans ?_
  refine (e_n 1 (fr' := (123, 37, [some (vR 10 0 0), some (vI x1), some (vI x2), some (vI x3), some (vI x4)], [vI (-1 : Int32)], σ3)) rfl).trans ?_
  exact e_r rfl
set_option maxRecDepth 20000 in
theorem g123_0_3 (C : pmC) {σ : pmS} {x1 : Int32} {x2 : Int32} {x3 : Int32} {x4 : Int32} {σ1 : pmS} {r1 : Int32} {σ2 : pmS} {r2 : Int32} {σ3 : pmS} {r3 : Int32} {σ4 : pmS} {r4 : Int32} (h1 : C 107 [vR 10 0 0, vI x1, vI x2] σ = some (some (vI r1), σ1)) (h2 : ¬ r1 = 0) (h3 : C 118 [vI x3] σ1 = some (some (vI r2), σ2)) (h4 : ¬ r2 = 0) (h5 : C 117 [vI x4] σ2 = some (some (vI r3), σ3)) (h6 : ¬ r3 = 0) (h7 : C 121 [vR 10 0 0, vI x1, vI x2, vI x3, vI x4] σ3 = some (some (vI r4), σ4)) : pq_Rn C (123, 0, [some (vR 10 0 0), some (vI x1), some (vI x2), some (vI x3), some (vI x4)], [], σ) = some (some (vI r4), σ4) := by
  refine (e_n 3 (fr' := (123, 3, [some (vR 10 0 0), some (vI x1), some (vI x2), some (vI x3), some (vI x4)], [vI x2, vI x1, vR 10 0 0], σ)) rfl).trans ?_
  refine (e_ci (m := 123) (pc := 6) (ls := [some (vR 10 0 0), some (vI x1), some (vI x2), some (vI x3), some (vI x4)]) (rest := []) rfl h1).trans ?_
  refine (e_f (B := (123, 9, [some (vR 10 0 0), some (vI x1), some (vI x2), some (vI x3), some (vI x4)], [], σ1)) rfl h2).trans ?_
  refine (e_n 1 (fr' := (123, 10, [some (vR 10 0 0), some (vI x1), some (vI x2), some (vI x3), some (vI x4)], [vI x3], σ1)) rfl).trans ?_
  refine (e_ci (m := 123) (pc := 13) (ls := [some (vR 10 0 0), some (vI x1), some (vI x2), some (vI x3), some (vI x4)]) (rest := []) rfl h3).trans ?_
  refine (e_f (B := (123, 16, [some (vR 10 0 0), some (vI x1), some (vI x2), some (vI x3), some (vI x4)], [], σ2)) rfl h4).trans ?_
  refine (e_n 1 (fr' := (123, 18, [some (vR 10 0 0), some (vI x1), some (vI x2), some (vI x3), some (vI x4)], [vI x4], σ2)) rfl).trans ?_
  refine (e_ci (m := 123) (pc := 21) (ls := [some (vR 10 0 0), some (vI x1), some (vI x2), some (vI x3), some (vI x4)]) (rest := []) rfl h5).trans ?_
  refine (e_f (B := (123, 24, [some (vR 10 0 0), some (vI x1), some (vI x2), some (vI x3), some (vI x4)], [], σ3)) rfl h6).trans ?_
  refine (e_n 5 (fr' := (123, 30, [some (vR 10 0 0), some (vI x1), some (vI x2), some (vI x3), some (vI x4)], [vI x4, vI x3, vI x2, vI x1, vR 10 0 0], σ3)) rfl).trans ?_
  refine (e_ci (m := 123) (pc := 33) (ls := [some (vR 10 0 0), some (vI x1), some (vI x2), some (vI x3), some (vI x4)]) (rest := []) rfl h7).trans ?_
  refine (e_n 1 (fr' := (123, 37, [some (vR 10 0 0), some (vI x1), some (vI x2), some (vI x3), some (vI x4)], [vI r4], σ4)) rfl).trans ?_
  exact e_r rfl
set_option maxRecDepth 20000 in
theorem g124_0_0 (C : pmC) {σ : pmS} {x1 : Int32} {x2 : Int32} {x3 : Int32} {x4 : Int32} {l5 : Option pmV} {l6 : Option pmV} {σ1 : pmS} {r1 : Int32} (h1 : C 106 [vR 10 0 0, vI x1] σ = some (some (vI r1), σ1)) (h2 : r1 = 0) : pq_Rn C (124, 0, [some (vR 10 0 0), some (vI x1), some (vI x2), some (vI x3), some (vI x4), l5, l6], [], σ) = some (some (vI (-1 : Int32)), σ1) := by
  refine (e_n 2 (fr' := (124, 2, [some (vR 10 0 0), some (vI x1), some (vI x2), some (vI x3), some (vI x4), l5, l6], [vI x1, vR 10 0 0], σ)) rfl).trans ?_
  refine (e_ci (m := 124) (pc := 5) (ls := [some (vR 10 0 0), some (vI x1), some (vI x2), some (vI x3), some (vI x4), l5, l6]) (rest := []) rfl h1).trans ?_
  refine (e_t (A := (124, 30, [some (vR 10 0 0), some (vI x1), some (vI x2), some (vI x3), some (vI x4), l5, l6], [], σ1)) rfl h2).trans ?_
  refine (e_n 1 (fr' := (124, 31, [some (vR 10 0 0), some (vI x1), some (vI x2), some (vI x3), some (vI x4), l5, l6], [vI (-1 : Int32)], σ1)) rfl).trans ?_
  exact e_r rfl
set_option maxRecDepth 20000 in
theorem g124_0_1 (C : pmC) {σ : pmS} {x1 : Int32} {x2 : Int32} {x3 : Int32} {x4 : Int32} {l5 : Option pmV} {l6 : Option pmV} {σ1 : pmS} {r1 : Int32} {σ2 : pmS} {r2 : Int32} (h1 : C 106 [vR 10 0 0, vI x1] σ = some (some (vI r1), σ1)) (h2 : ¬ r1 = 0) (h3 : C 118 [vI x2] σ1 = some (some (vI r2), σ2)) (h4 : r2 = 0) : pq_Rn C (124, 0, [some (vR 10 0 0), some (vI x1), some (vI x2), some (vI x3), some (vI x4), l5, l6], [], σ) = some (some (vI (-1 : Int32)), σ2) := by
  refine (e_n 2 (fr' := (124, 2, [some (vR 10 0 0), some (vI x1), some (vI x2), some (vI x3), some (vI x4), l5, l6], [vI x1, vR 10 0 0], σ)) rfl).trans ?_
  refine (e_ci (m := 124) (pc := 5) (ls := [some (vR 10 0 0), some (vI x1), some (vI x2), some (vI x3), some (vI x4), l5, l6]) (rest := []) rfl h1).trans ?_
  refine (e_f (B := (124, 8, [some (vR 10 0 0), some (vI x1), some (vI x2), some (vI x3), some (vI x4), l5, l6], [], σ1)) rfl h2).trans ?_
  refine (e_n 1 (fr' := (124, 9, [some (vR 10 0 0), some (vI x1), some (vI x2), some (vI x3), some (vI x4), l5, l6], [vI x2], σ1)) rfl).trans ?_
  refine (e_ci (m := 124) (pc := 12) (ls := [some (vR 10 0 0), some (vI x1), some (vI x2), some (vI x3), some (vI x4), l5, l6]) (rest := []) rfl h3).trans ?_
  refine (e_t (A := (124, 30, [some (vR 10 0 0), some (vI x1), some (vI x2), some (vI x3), some (vI x4), l5, l6], [], σ2)) rfl h4).trans ?_
  refine (e_n 1 (fr' := (124, 31, [some (vR 10 0 0), some (vI x1), some (vI x2), some (vI x3), some (vI x4), l5, l6], [vI (-1 : Int32)], σ2)) rfl).trans ?_
  exact e_r rfl
set_option maxRecDepth 20000 in
theorem g124_0_2 (C : pmC) {σ : pmS} {x1 : Int32} {x2 : Int32} {x3 : Int32} {x4 : Int32} {l5 : Option pmV} {l6 : Option pmV} {σ1 : pmS} {r1 : Int32} {σ2 : pmS} {r2 : Int32} {σ3 : pmS} {r3 : Int32} (h1 : C 106 [vR 10 0 0, vI x1] σ = some (some (vI r1), σ1)) (h2 : ¬ r1 = 0) (h3 : C 118 [vI x2] σ1 = some (some (vI r2), σ2)) (h4 : ¬ r2 = 0) (h5 : C 117 [vI x3] σ2 = some (some (vI r3), σ3)) (h6 : r3 = 0) : pq_Rn C (124, 0, [some (vR 10 0 0), some (vI x1), some (vI x2), some (vI x3), some (vI x4), l5, l6], [], σ) = some (some (vI (-1 : Int32)), σ3) := by
  refine (e_n 2 (fr' := (124, 2, [some (vR 10 0 0), some (vI x1), some (vI x2), some (vI x3), some (vI x4), l5, l6], [vI x1, vR 10 0 0], σ)) rfl).trans ?_
  refine (e_ci (m := 124) (pc := 5) (ls := [some (vR 10 0 0), some (vI x1), some (vI x2), some (vI x3), some (vI x4), l5, l6]) (rest := []) rfl h1).trans ?_
  refine (e_f (B := (124, 8, [some (vR 10 0 0), some (vI x1), some (vI x2), some (vI x3), some (vI x4), l5, l6], [], σ1)) rfl h2).trans ?_
  refine (e_n 1 (fr' := (124, 9, [some (vR 10 0 0), some (vI x1), some (vI x2), some (vI x3), some (vI x4), l5, l6], [vI x2], σ1)) rfl).trans ?_
  refine (e_ci (m := 124) (pc := 12) (ls := [some (vR 10 0 0), some (vI x1), some (vI x2), some (vI x3), some (vI x4), l5, l6]) (rest := []) rfl h3).trans ?_
  refine (e_f (B := (124, 15, [some (vR 10 0 0), some (vI x1), some (vI x2), some (vI x3), some (vI x4), l5, l6], [], σ2)) rfl h4).trans ?_
  refine (e_n 1 (fr' := (124, 16, [some (vR 10 0 0), some (vI x1), some (vI x2), some (vI x3), some (vI x4), l5, l6], [vI x3], σ2)) rfl).trans ?_
  refine (e_ci (m := 124) (pc := 19) (ls := [some (vR 10 0 0), some (vI x1), some (vI x2), some (vI x3), some (vI x4), l5, l6]) (rest := []) rfl h5).trans ?_
  refine (e_t (A := (124, 30, [some (vR 10 0 0), some (vI x1), some (vI x2), some (vI x3), some (vI x4), l5, l6], [], σ3)) rfl h6).trans ?_
  refine (e_n 1 (fr' := (124, 31, [some (vR 10 0 0), some (vI x1), some (vI x2), some (vI x3), some (vI x4), l5, l6], [vI (-1 : Int32)], σ3)) rfl).trans ?_
  exact e_r rfl
set_option maxRecDepth 20000 in
theorem g124_0_3 (C : pmC) {σ : pmS} {x1 : Int32} {x2 : Int32} {x3 : Int32} {x4 : Int32} {l5 : Option pmV} {l6 : Option pmV} {σ1 : pmS} {r1 : Int32} {σ2 : pmS} {r2 : Int32} {σ3 : pmS} {r3 : Int32} {σ4 : pmS} {r4 : Int32} (h1 : C 106 [vR 10 0 0, vI x1] σ = some (some (vI r1), σ1)) (h2 : ¬ r1 = 0) (h3 : C 118 [vI x2] σ1 = some (some (vI r2), σ2)) (h4 : ¬ r2 = 0) (h5 : C 117 [vI x3] σ2 = some (some (vI r3), σ3)) (h6 : ¬ r3 = 0) (h7 : C 117 [vI x4] σ3 = some (some (vI r4), σ4)) (h8 : r4 = 0) : pq_Rn C (124, 0, [some (vR 10 0 0), some (vI x1), some (vI x2), some (vI x3), some (vI x4), l5, l6], [], σ) = some (some (vI (-1 : Int32)), σ4) := by
  refine (e_n 2 (fr' := (124, 2, [some (vR 10 0 0), some (vI x1), some (vI x2), some (vI x3), some (vI x4), l5, l6], [vI x1, vR 10 0 0], σ)) rfl).trans ?_
  refine (e_ci (m := 124) (pc := 5) (ls := [some (vR 10 0 0), some (vI x1), some (vI x2), some (vI x3), some (vI x4), l5, l6]) (rest := []) rfl h1).trans ?_
  refine (e_f (B := (124, 8, [some (vR 10 0 0), some (vI x1), some (vI x2), some (vI x3), some (vI x4), l5, l6], [], σ1)) rfl h2).trans ?_
  refine (e_n 1 (fr' := (124, 9, [some (vR 10 0 0), some (vI x1), some (vI x2), some (vI x3), some (vI x4), l5, l6], [vI x2], σ1)) rfl).trans ?_
  refine (e_ci (m := 124) (pc := 12) (ls := [some (vR 10 0 0), some (vI x1), some (vI x2), some (vI x3), some (vI x4), l5, l6]) (rest := []) rfl h3).trans ?_
  refine (e_f (B := (124, 15, [some (vR 10 0 0), some (vI x1), some (vI x2), some (vI x3), some (vI x4), l5, l6], [], σ2)) rfl h4).trans ?_
  refine (e_n 1 (fr' := (124, 16, [some (vR 10 0 0), some (vI x1), some (vI x2), some (vI x3), some (vI x4), l5, l6], [vI x3], σ2)) rfl).trans ?_
  refine (e_ci (m := 124) (pc := 19) (ls := [some (vR 10 0 0), some (vI x1), some (vI x2), some (vI x3), some (vI x4), l5, l6]) (rest := []) rfl h5).trans ?_
  refine (e_f (B := (124, 22, [some (vR 10 0 0), some (vI x1), some (vI x2), some (vI x3), some (vI x4), l5, l6], [], σ3)) rfl h6).trans ?_
  refine (e_n 1 (fr' := (124, 24, [some (vR 10 0 0), some (vI x1), some (vI x2), some (vI x3), some (vI x4), l5, l6], [vI x4], σ3)) rfl).trans ?_
  refine (e_ci (m := 124) (pc := 27) (ls := [some (vR 10 0 0), some (vI x1), some (vI x2), some (vI x3), some (vI x4), l5, l6]) (rest := []) rfl h7).trans ?_
  refine (e_t (A := (124, 30, [some (vR 10 0 0), some (vI x1), some (vI x2), some (vI x3), some (vI x4), l5, l6], [], σ4)) rfl h8).trans ?_
  refine (e_n 1 (fr' := (124, 31, [some (vR 10 0 0), some (vI x1), some (vI x2), some (vI x3), some (vI x4), l5, l6], [vI (-1 : Int32)], σ4)) rfl).trans ?_
  exact e_r rfl
set_option maxRecDepth 20000 in
theorem g124_0_4 (C : pmC) {σ : pmS} {x1 : Int32} {x2 : Int32} {x3 : Int32} {x4 : Int32} {l5 : Option pmV} {l6 : Option pmV} {σ1 : pmS} {r1 : Int32} {σ2 : pmS} {r2 : Int32} {σ3 : pmS} {r3 : Int32} {σ4 : pmS} {r4 : Int32} (h1 : C 106 [vR 10 0 0, vI x1] σ = some (some (vI r1), σ1)) (h2 : ¬ r1 = 0) (h3 : C 118 [vI x2] σ1 = some (some (vI r2), σ2)) (h4 : ¬ r2 = 0) (h5 : C 117 [vI x3] σ2 = some (some (vI r3), σ3)) (h6 : ¬ r3 = 0) (h7 : C 117 [vI x4] σ3 = some (some (vI r4), σ4)) (h8 : ¬ r4 = 0) : pq_Rn C (124, 0, [some (vR 10 0 0), some (vI x1), some (vI x2), some (vI x3), some (vI x4), l5, l6], [], σ) = pq_Rn C (124, 38, [some (vR 10 0 0), some (vI x1), some (vI x2), some (vI x3), some (vI x4), some (vI (1 : Int32)), some (vI (0 : Int32))], [], σ4) := by
  refine (e_n 2 (fr' := (124, 2, [some (vR 10 0 0), some (vI x1), some (vI x2), some (vI x3), some (vI x4), l5, l6], [vI x1, vR 10 0 0], σ)) rfl).trans ?_
  refine (e_ci (m := 124) (pc := 5) (ls := [some (vR 10 0 0), some (vI x1), some (vI x2), some (vI x3), some (vI x4), l5, l6]) (rest := []) rfl h1).trans ?_
  refine (e_f (B := (124, 8, [some (vR 10 0 0), some (vI x1), some (vI x2), some (vI x3), some (vI x4), l5, l6], [], σ1)) rfl h2).trans ?_
  refine (e_n 1 (fr' := (124, 9, [some (vR 10 0 0), some (vI x1), some (vI x2), some (vI x3), some (vI x4), l5, l6], [vI x2], σ1)) rfl).trans ?_
  refine (e_ci (m := 124) (pc := 12) (ls := [some (vR 10 0 0), some (vI x1), some (vI x2), some (vI x3), some (vI x4), l5, l6]) (rest := []) rfl h3).trans ?_
  refine (e_f (B := (124, 15, [some (vR 10 0 0), some (vI x1), some (vI x2), some (vI x3), some (vI x4), l5, l6], [], σ2)) rfl h4).trans ?_
  refine (e_n 1 (fr' := (124, 16, [some (vR 10 0 0), some (vI x1), some (vI x2), some (vI x3), some (vI x4), l5, l6], [vI x3], σ2)) rfl).trans ?_
  refine (e_ci (m := 124) (pc := 19) (ls := [some (vR 10 0 0), some (vI x1), some (vI x2), some (vI x3), some (vI x4), l5, l6]) (rest := []) rfl h5).trans ?_
  refine (e_f (B := (124, 22, [some (vR 10 0 0), some (vI x1), some (vI x2), some (vI x3), some (vI x4), l5, l6], [], σ3)) rfl h6).trans ?_
  refine (e_n 1 (fr' := (124, 24, [some (vR 10 0 0), some (vI x1), some (vI x2), some (vI x3), some (vI x4), l5, l6], [vI x4], σ3)) rfl).trans ?_
  refine (e_ci (m := 124) (pc := 27) (ls := [some (vR 10 0 0), some (vI x1), some (vI x2), some (vI x3), some (vI x4), l5, l6]) (rest := []) rfl h7).trans ?_
  refine (e_f (B := (124, 32, [some (vR 10 0 0), some (vI x1), some (vI x2), some (vI x3), some (vI x4), l5, l6], [], σ4)) rfl h8).trans ?_
  exact e_n 4 rfl
set_option maxRecDepth 20000 in
theorem g124_38_0 (C : pmC) {σ : pmS} {x1 : Int32} {x2 : Int32} {x3 : Int32} {x4 : Int32} {x5 : Int32} {x6 : Int32} (h1 : vp_in x1 4) (h2 : (σ.1 10 0 0 (x1).toNatClampNeg) ≤ x6) (h3 : x5 = 0) : pq_Rn C (124, 38, [some (vR 10 0 0), some (vI x1), some (vI x2), some (vI x3), some (vI x4), some (vI x5), some (vI x6)], [], σ) = some (some (vI (0 : Int32)), σ) := by
  refine (e_n 4 (fr' := (124, 45, [some (vR 10 0 0), some (vI x1), some (vI x2), some (vI x3), some (vI x4), some (vI x5), some (vI x6)], [vI x1, vR 10 0 1, vI x6], σ)) rfl).trans ?_
  refine (e_a (A := (124, 46, [some (vR 10 0 0), some (vI x1), some (vI x2), some (vI x3), some (vI x4), some (vI x5), some (vI x6)], [vI (σ.1 10 0 0 (x1).toNatClampNeg), vI x6], σ)) rfl h1).trans ?_
  refine (e_t (A := (124, 89, [some (vR 10 0 0), some (vI x1), some (vI x2), some (vI x3), some (vI x4), some (vI x5), some (vI x6)], [], σ)) rfl h2).trans ?_
  refine (e_n 1 (fr' := (124, 91, [some (vR 10 0 0), some (vI x1), some (vI x2), some (vI x3), some (vI x4), some (vI x5), some (vI x6)], [vI x5], σ)) rfl).trans ?_
  refine (e_t (A := (124, 98, [some (vR 10 0 0), some (vI x1), some (vI x2), some (vI x3), some (vI x4), some (vI x5), some (vI x6)], [], σ)) rfl h3).trans ?_
  refine (e_n 1 (fr' := (124, 99, [some (vR 10 0 0), some (vI x1), some (vI x2), some (vI x3), some (vI x4), some (vI x5), some (vI x6)], [vI (0 : Int32)], σ)) rfl).trans ?_
  exact e_r rfl
set_option maxRecDepth 20000 in
theorem g124_38_1 (C : pmC) {σ : pmS} {x1 : Int32} {x2 : Int32} {x3 : Int32} {x4 : Int32} {x5 : Int32} {x6 : Int32} (h1 : vp_in x1 4) (h2 : (σ.1 10 0 0 (x1).toNatClampNeg) ≤ x6) (h3 : ¬ x5 = 0) : pq_Rn C (124, 38, [some (vR 10 0 0), some (vI x1), some (vI x2), some (vI x3), some (vI x4), some (vI x5), some (vI x6)], [], σ) = some (some (vI (1 : Int32)), σ) := by
  refine (e_n 4 (fr' := (124, 45, [some (vR 10 0 0), some (vI x1), some (vI x2), some (vI x3), some (vI x4), some (vI x5), some (vI x6)], [vI x1, vR 10 0 1, vI x6], σ)) rfl).trans ?_
  refine (e_a (A := (124, 46, [some (vR 10 0 0), some (vI x1), some (vI x2), some (vI x3), some (vI x4), some (vI x5), some (vI x6)], [vI (σ.1 10 0 0 (x1).toNatClampNeg), vI x6], σ)) rfl h1).trans ?_
  refine (e_t (A := (124, 89, [some (vR 10 0 0), some (vI x1), some (vI x2), some (vI x3), some (vI x4), some (vI x5), some (vI x6)], [], σ)) rfl h2).trans ?_
  refine (e_n 1 (fr' := (124, 91, [some (vR 10 0 0), some (vI x1), some (vI x2), some (vI x3), some (vI x4), some (vI x5), some (vI x6)], [vI x5], σ)) rfl).trans ?_
  refine (e_f (B := (124, 94, [some (vR 10 0 0), some (vI x1), some (vI x2), some (vI x3), some (vI x4), some (vI x5), some (vI x6)], [], σ)) rfl h3).trans ?_
  refine (e_n 2 (fr' := (124, 99, [some (vR 10 0 0), some (vI x1), some (vI x2), some (vI x3), some (vI x4), some (vI x5), some (vI x6)], [vI (1 : Int32)], σ)) rfl).trans ?_
  exact e_r rfl
set_option maxRecDepth 20000 in
theorem g124_38_2 (C : pmC) {σ : pmS} {x1 : Int32} {x2 : Int32} {x3 : Int32} {x4 : Int32} {x5 : Int32} {x6 : Int32} (h1 : vp_in x1 4) (h2 : ¬ (σ.1 10 0 0 (x1).toNatClampNeg) ≤ x6) (h3 : x5 = 0) : pq_Rn C (124, 38, [some (vR 10 0 0), some (vI x1), some (vI x2), some (vI x3), some (vI x4), some (vI x5), some (vI x6)], [], σ) = pq_Rn C (124, 38, [some (vR 10 0 0), some (vI x1), some (vI x2), some (vI x3), some (vI x4), some (vI (0 : Int32)), some (vI (x6 + (1 : Int32)))], [], σ) := by
  refine (e_n 4 (fr' := (124, 45, [some (vR 10 0 0), some (vI x1), some (vI x2), some (vI x3), some (vI x4), some (vI x5), some (vI x6)], [vI x1, vR 10 0 1, vI x6], σ)) rfl).trans ?_
  refine (e_a (A := (124, 46, [some (vR 10 0 0), some (vI x1), some (vI x2), some (vI x3), some (vI x4), some (vI x5), some (vI x6)], [vI (σ.1 10 0 0 (x1).toNatClampNeg), vI x6], σ)) rfl h1).trans ?_
  refine (e_f (B := (124, 49, [some (vR 10 0 0), some (vI x1), some (vI x2), some (vI x3), some (vI x4), some (vI x5), some (vI x6)], [], σ)) rfl h2).trans ?_
  refine (e_n 1 (fr' := (124, 51, [some (vR 10 0 0), some (vI x1), some (vI x2), some (vI x3), some (vI x4), some (vI x5), some (vI x6)], [vI x5], σ)) rfl).trans ?_
  refine (e_t (A := (124, 80, [some (vR 10 0 0), some (vI x1), some (vI x2), some (vI x3), some (vI x4), some (vI x5), some (vI x6)], [], σ)) rfl h3).trans ?_
  exact e_n 4 rfl
set_option maxRecDepth 20000 in
theorem g124_38_3 (C : pmC) {σ : pmS} {x1 : Int32} {x2 : Int32} {x3 : Int32} {x4 : Int32} {x5 : Int32} {x6 : Int32} {σ1 : pmS} {r1 : Int32} {σ2 : pmS} {r2 : Int32} (h1 : vp_in x1 4) (h2 : ¬ (σ.1 10 0 0 (x1).toNatClampNeg) ≤ x6) (h3 : ¬ x5 = 0) (h4 : C 121 [vR 10 0 0, vI x1, vI x6, vI x2, vI x3] σ = some (some (vI r1), σ1)) (h5 : C 121 [vR 10 0 0, vI x1, vI x6, vI x2, vI x4] σ1 = some (some (vI r2), σ2)) (h6 : r1 = r2) : pq_Rn C (124, 38, [some (vR 10 0 0), some (vI x1), some (vI x2), some (vI x3), some (vI x4), some (vI x5), some (vI x6)], [], σ) = pq_Rn C (124, 38, [some (vR 10 0 0), some (vI x1), some (vI x2), some (vI x3), some (vI x4), some (vI (1 : Int32)), some (vI (x6 + (1 : Int32)))], [], σ2) := by
  refine (e_n 4 (fr' := (124, 45, [some (vR 10 0 0), some (vI x1), some (vI x2), some (vI x3), some (vI x4), some (vI x5), some (vI x6)], [vI x1, vR 10 0 1, vI x6], σ)) rfl).trans ?_
  refine (e_a (A := (124, 46, [some (vR 10 0 0), some (vI x1), some (vI x2), some (vI x3), some (vI x4), some (vI x5), some (vI x6)], [vI (σ.1 10 0 0 (x1).toNatClampNeg), vI x6], σ)) rfl h1).trans ?_
  refine (e_f (B := (124, 49, [some (vR 10 0 0), some (vI x1), some (vI x2), some (vI x3), some (vI x4), some (vI x5), some (vI x6)], [], σ)) rfl h2).trans ?_
  refine (e_n 1 (fr' := (124, 51, [some (vR 10 0 0), some (vI x1), some (vI x2), some (vI x3), some (vI x4), some (vI x5), some (vI x6)], [vI x5], σ)) rfl).trans ?_
  refine (e_f (B := (124, 54, [some (vR 10 0 0), some (vI x1), some (vI x2), some (vI x3), some (vI x4), some (vI x5), some (vI x6)], [], σ)) rfl h3).trans ?_
  refine (e_n 5 (fr' := (124, 60, [some (vR 10 0 0), some (vI x1), some (vI x2), some (vI x3), some (vI x4), some (vI x5), some (vI x6)], [vI x3, vI x2, vI x6, vI x1, vR 10 0 0], σ)) rfl).trans ?_
  refine (e_ci (m := 124) (pc := 63) (ls := [some (vR 10 0 0), some (vI x1), some (vI x2), some (vI x3), some (vI x4), some (vI x5), some (vI x6)]) (rest := []) rfl h4).trans ?_
  refine (e_n 5 (fr' := (124, 70, [some (vR 10 0 0), some (vI x1), some (vI x2), some (vI x3), some (vI x4), some (vI x5), some (vI x6)], [vI x4, vI x2, vI x6, vI x1, vR 10 0 0, vI r1], σ1)) rfl).trans ?_
  refine (e_ci (m := 124) (pc := 73) (ls := [some (vR 10 0 0), some (vI x1), some (vI x2), some (vI x3), some (vI x4), some (vI x5), some (vI x6)]) (rest := [vI r1]) rfl h5).trans ?_
  refine (e_t (A := (124, 76, [some (vR 10 0 0), some (vI x1), some (vI x2), some (vI x3), some (vI x4), some (vI x5), some (vI x6)], [], σ2)) rfl h6).trans ?_
  exact e_n 5 rfl
set_option maxRecDepth 20000 in
theorem g124_38_4 (C : pmC) {σ : pmS} {x1 : Int32} {x2 : Int32} {x3 : Int32} {x4 : Int32} {x5 : Int32} {x6 : Int32} {σ1 : pmS} {r1 : Int32} {σ2 : pmS} {r2 : Int32} (h1 : vp_in x1 4) (h2 : ¬ (σ.1 10 0 0 (x1).toNatClampNeg) ≤ x6) (h3 : ¬ x5 = 0) (h4 : C 121 [vR 10 0 0, vI x1, vI x6, vI x2, vI x3] σ = some (some (vI r1), σ1)) (h5 : C 121 [vR 10 0 0, vI x1, vI x6, vI x2, vI x4] σ1 = some (some (vI r2), σ2)) (h6 : ¬ r1 = r2) : pq_Rn C (124, 38, [some (vR 10 0 0), some (vI x1), some (vI x2), some (vI x3), some (vI x4), some (vI x5), some (vI x6)], [], σ) = pq_Rn C (124, 38, [some (vR 10 0 0), some (vI x1), some (vI x2), some (vI x3), some (vI x4), some (vI (0 : Int32)), some (vI (x6 + (1 : Int32)))], [], σ2) := by
  refine (e_n 4 (fr' := (124, 45, [some (vR 10 0 0), some (vI x1), some (vI x2), some (vI x3), some (vI x4), some (vI x5), some (vI x6)], [vI x1, vR 10 0 1, vI x6], σ)) rfl).trans ?_
  refine (e_a (A := (124, 46, [some (vR 10 0 0), some (vI x1), some (vI x2), some (vI x3), some (vI x4), some (vI x5), some (vI x6)], [vI (σ.1 10 0 0 (x1).toNatClampNeg), vI x6], σ)) rfl h1).trans ?_
  refine (e_f (B := (124, 49, [some (vR 10 0 0), some (vI x1), some (vI x2), some (vI x3), some (vI x4), some (vI x5), some (vI x6)], [], σ)) rfl h2).trans ?_
  refine (e_n 1 (fr' := (124, 51, [some (vR 10 0 0), some (vI x1), some (vI x2), some (vI x3), some (vI x4), some (vI x5), some (vI x6)], [vI x5], σ)) rfl).trans ?_
  refine (e_f (B := (124, 54, [some (vR 10 0 0), some (vI x1), some (vI x2), some (vI x3), some (vI x4), some (vI x5), some (vI x6)], [], σ)) rfl h3).trans ?_
  refine (e_n 5 (fr' := (124, 60, [some (vR 10 0 0), some (vI x1), some (vI x2), some (vI x3), some (vI x4), some (vI x5), some (vI x6)], [vI x3, vI x2, vI x6, vI x1, vR 10 0 0], σ)) rfl).trans ?_
  refine (e_ci (m := 124) (pc := 63) (ls := [some (vR 10 0 0), some (vI x1), some (vI x2), some (vI x3), some (vI x4), some (vI x5), some (vI x6)]) (rest := []) rfl h4).trans ?_
  refine (e_n 5 (fr' := (124, 70, [some (vR 10 0 0), some (vI x1), some (vI x2), some (vI x3), some (vI x4), some (vI x5), some (vI x6)], [vI x4, vI x2, vI x6, vI x1, vR 10 0 0, vI r1], σ1)) rfl).trans ?_
  refine (e_ci (m := 124) (pc := 73) (ls := [some (vR 10 0 0), some (vI x1), some (vI x2), some (vI x3), some (vI x4), some (vI x5), some (vI x6)]) (rest := [vI r1]) rfl h5).trans ?_
  refine (e_f (B := (124, 80, [some (vR 10 0 0), some (vI x1), some (vI x2), some (vI x3), some (vI x4), some (vI x5), some (vI x6)], [], σ2)) rfl h6).trans ?_
  exact e_n 4 rfl
set_option maxRecDepth 20000 in
theorem g125_0_0 (C : pmC) {σ : pmS} {x1 : Int32} {x2 : Int32} {x3 : Int32} {l4 : Option pmV} {l5 : Option pmV} {l6 : Option pmV} {σ1 : pmS} {r1 : Int32} (h1 : C 106 [vR 10 0 0, vI x1] σ = some (some (vI r1), σ1)) (h2 : r1 = 0) : pq_Rn C (125, 0, [some (vR 10 0 0), some (vI x1), some (vI x2), some (vI x3), l4, l5, l6], [], σ) = some (some (vI (-1 : Int32)), σ1) := by
  refine (e_n 2 (fr' := (125, 2, [some (vR 10 0 0), some (vI x1), some (vI x2), some (vI x3), l4, l5, l6], [vI x1, vR 10 0 0], σ)) rfl).trans ?_
  refine (e_ci (m := 125) (pc := 5) (ls := [some (vR 10 0 0), some (vI x1), some (vI x2), some (vI x3), l4, l5, l6]) (rest := []) rfl h1).trans ?_
  refine (e_t (A := (125, 22, [some (vR 10 0 0), some (vI x1), some (vI x2), some (vI x3), l4, l5, l6], [], σ1)) rfl h2).trans ?_
  refine (e_n 1 (fr' := (125, 23, [some (vR 10 0 0), some (vI x1), some (vI x2), some (vI x3), l4, l5, l6], [vI (-1 : Int32)], σ1)) rfl).trans ?_
  exact e_r rfl
set_option maxRecDepth 20000 in
theorem g125_0_1 (C : pmC) {σ : pmS} {x1 : Int32} {x2 : Int32} {x3 : Int32} {l4 : Option pmV} {l5 : Option pmV} {l6 : Option pmV} {σ1 : pmS} {r1 : Int32} {σ2 : pmS} {r2 : Int32} (h1 : C 106 [vR 10 0 0, vI x1] σ = some (some (vI r1), σ1)) (h2 : ¬ r1 = 0) (h3 : C 118 [vI x2] σ1 = some (some (vI r2), σ2)) (h4 : r2 = 0) : pq_Rn C (125, 0, [some (vR 10 0 0), some (vI x1), some (vI x2), some (vI x3), l4, l5, l6], [], σ) = some (some (vI (-1 : Int32)), σ2) := by
  refine (e_n 2 (fr' := (125, 2, [some (vR 10 0 0), some (vI x1), some (vI x2), some (vI x3), l4, l5, l6], [vI x1, vR 10 0 0], σ)) rfl).trans ?_
  refine (e_ci (m := 125) (pc := 5) (ls := [some (vR 10 0 0), some (vI x1), some (vI x2), some (vI x3), l4, l5, l6]) (rest := []) rfl h1).trans ?_
  refine (e_f (B := (125, 8, [some (vR 10 0 0), some (vI x1), some (vI x2), some (vI x3), l4, l5, l6], [], σ1)) rfl h2).trans ?_
  refine (e_n 1 (fr' := (125, 9, [some (vR 10 0 0), some (vI x1), some (vI x2), some (vI x3), l4, l5, l6], [vI x2], σ1)) rfl).trans ?_
  refine (e_ci (m := 125) (pc := 12) (ls := [some (vR 10 0 0), some (vI x1), some (vI x2), some (vI x3), l4, l5, l6]) (rest := []) rfl h3).trans ?_
  refine (e_t (A := (125, 22, [some (vR 10 0 0), some (vI x1), some (vI x2), some (vI x3), l4, l5, l6], [], σ2)) rfl h4).trans ?_
  refine (e_n 1 (fr' := (125, 23, [some (vR 10 0 0), some (vI x1), some (vI x2), some (vI x3), l4, l5, l6], [vI (-1 : Int32)], σ2)) rfl).trans ?_
  exact e_r rfl
set_option maxRecDepth 20000 in
theorem g125_0_2 (C : pmC) {σ : pmS} {x1 : Int32} {x2 : Int32} {x3 : Int32} {l4 : Option pmV} {l5 : Option pmV} {l6 : Option pmV} {σ1 : pmS} {r1 : Int32} {σ2 : pmS} {r2 : Int32} {σ3 : pmS} {r3 : Int32} (h1 : C 106 [vR 10 0 0, vI x1] σ = some (some (vI r1), σ1)) (h2 : ¬ r1 = 0) (h3 : C 118 [vI x2] σ1 = some (some (vI r2), σ2)) (h4 : ¬ r2 = 0) (h5 : C 117 [vI x3] σ2 = some (some (vI r3), σ3)) (h6 : r3 = 0) : pq_Rn C (125, 0, [some (vR 10 0 0), some (vI x1), some (vI x2), some (vI x3), l4, l5, l6], [], σ) = some (some (vI (-1 : Int32)), σ3) := by
  refine (e_n 2 (fr' := (125, 2, [some (vR 10 0 0), some (vI x1), some (vI x2), some (vI x3), l4, l5, l6], [vI x1, vR 10 0 0], σ)) rfl).trans ?_
  refine (e_ci (m := 125) (pc := 5) (ls := [some (vR 10 0 0), some (vI x1), some (vI x2), some (vI x3), l4, l5, l6]) (rest := []) rfl h1).trans ?_
  refine (e_f (B := (125, 8, [some (vR 10 0 0), some (vI x1), some (vI x2), some (vI x3), l4, l5, l6], [], σ1)) rfl h2).trans ?_
  refine (e_n 1 (fr' := (125, 9, [some (vR 10 0 0), some (vI x1), some (vI x2), some (vI x3), l4, l5, l6], [vI x2], σ1)) rfl).trans ?_
  refine (e_ci (m := 125) (pc := 12) (ls := [some (vR 10 0 0), some (vI x1), some (vI x2), some (vI x3), l4, l5, l6]) (rest := []) rfl h3).trans ?_
  refine (e_f (B := (125, 15, [some (vR 10 0 0), some (vI x1), some (vI x2), some (vI x3), l4, l5, l6], [], σ2)) rfl h4).trans ?_
  refine (e_n 1 (fr' := (125, 16, [some (vR 10 0 0), some (vI x1), some (vI x2), some (vI x3), l4, l5, l6], [vI x3], σ2)) rfl).trans ?_
  refine (e_ci (m := 125) (pc := 19) (ls := [some (vR 10 0 0), some (vI x1), some (vI x2), some (vI x3), l4, l5, l6]) (rest := []) rfl h5).trans ?_
  refine (e_t (A := (125, 22, [some (vR 10 0 0), some (vI x1), some (vI x2), some (vI x3), l4, l5, l6], [], σ3)) rfl h6).trans ?_
  refine (e_n 1 (fr' := (125, 23, [some (vR 10 0 0), some (vI x1), some (vI x2), some (vI x3), l4, l5, l6], [vI (-1 : Int32)], σ3)) rfl).trans ?_
  exact e_r rfl
set_option maxRecDepth 20000 in
theorem g125_0_3 (C : pmC) {σ : pmS} {x1 : Int32} {x2 : Int32} {x3 : Int32} {l4 : Option pmV} {l5 : Option pmV} {l6 : Option pmV} {σ1 : pmS} {r1 : Int32} {σ2 : pmS} {r2 : Int32} {σ3 : pmS} {r3 : Int32} {σ4 : pmS} {r4 : Int32} (h1 : C 106 [vR 10 0 0, vI x1] σ = some (some (vI r1), σ1)) (h2 : ¬ r1 = 0) (h3 : C 118 [vI x2] σ1 = some (some (vI r2), σ2)) (h4 : ¬ r2 = 0) (h5 : C 117 [vI x3] σ2 = some (some (vI r3), σ3)) (h6 : ¬ r3 = 0) (h7 : C 122 [vR 10 0 0, vI x2, vI x3] σ3 = some (some (vI r4), σ4)) (h8 : r4 = x2) : pq_Rn C (125, 0, [some (vR 10 0 0), some (vI x1), some (vI x2), some (vI x3), l4, l5, l6], [], σ) = pq_Rn C (125, 40, [some (vR 10 0 0), some (vI x1), some (vI x2), some (vI x3), some (vI (0 : Int32)), l5, l6], [], σ4) := by
  refine (e_n 2 (fr' := (125, 2, [some (vR 10 0 0), some (vI x1), some (vI x2), some (vI x3), l4, l5, l6], [vI x1, vR 10 0 0], σ)) rfl).trans ?_
  refine (e_ci (m := 125) (pc := 5) (ls := [some (vR 10 0 0), some (vI x1), some (vI x2), some (vI x3), l4, l5, l6]) (rest := []) rfl h1).trans ?_
  refine (e_f (B := (125, 8, [some (vR 10 0 0), some (vI x1), some (vI x2), some (vI x3), l4, l5, l6], [], σ1)) rfl h2).trans ?_
  refine (e_n 1 (fr' := (125, 9, [some (vR 10 0 0), some (vI x1), some (vI x2), some (vI x3), l4, l5, l6], [vI x2], σ1)) rfl).trans ?_
  refine (e_ci (m := 125) (pc := 12) (ls := [some (vR 10 0 0), some (vI x1), some (vI x2), some (vI x3), l4, l5, l6]) (rest := []) rfl h3).trans ?_
  refine (e_f (B := (125, 15, [some (vR 10 0 0), some (vI x1), some (vI x2), some (vI x3), l4, l5, l6], [], σ2)) rfl h4).trans ?_
  refine (e_n 1 (fr' := (125, 16, [some (vR 10 0 0), some (vI x1), some (vI x2), some (vI x3), l4, l5, l6], [vI x3], σ2)) rfl).trans ?_
  refine (e_ci (m := 125) (pc := 19) (ls := [some (vR 10 0 0), some (vI x1), some (vI x2), some (vI x3), l4, l5, l6]) (rest := []) rfl h5).trans ?_
  refine (e_f (B := (125, 24, [some (vR 10 0 0), some (vI x1), some (vI x2), some (vI x3), l4, l5, l6], [], σ3)) rfl h6).trans ?_
  refine (e_n 3 (fr' := (125, 27, [some (vR 10 0 0), some (vI x1), some (vI x2), some (vI x3), l4, l5, l6], [vI x3, vI x2, vR 10 0 0], σ3)) rfl).trans ?_
  refine (e_ci (m := 125) (pc := 30) (ls := [some (vR 10 0 0), some (vI x1), some (vI x2), some (vI x3), l4, l5, l6]) (rest := []) rfl h7).trans ?_
  refine (e_n 1 (fr' := (125, 31, [some (vR 10 0 0), some (vI x1), some (vI x2), some (vI x3), l4, l5, l6], [vI x2, vI r4], σ4)) rfl).trans ?_
  refine (e_t (A := (125, 37, [some (vR 10 0 0), some (vI x1), some (vI x2), some (vI x3), l4, l5, l6], [], σ4)) rfl h8).trans ?_
  exact e_n 2 rfl
set_option maxRecDepth 20000 in
theorem g125_0_4 (C : pmC) {σ : pmS} {x1 : Int32} {x2 : Int32} {x3 : Int32} {l4 : Option pmV} {l5 : Option pmV} {l6 : Option pmV} {σ1 : pmS} {r1 : Int32} {σ2 : pmS} {r2 : Int32} {σ3 : pmS} {r3 : Int32} {σ4 : pmS} {r4 : Int32} (h1 : C 106 [vR 10 0 0, vI x1] σ = some (some (vI r1), σ1)) (h2 : ¬ r1 = 0) (h3 : C 118 [vI x2] σ1 = some (some (vI r2), σ2)) (h4 : ¬ r2 = 0) (h5 : C 117 [vI x3] σ2 = some (some (vI r3), σ3)) (h6 : ¬ r3 = 0) (h7 : C 122 [vR 10 0 0, vI x2, vI x3] σ3 = some (some (vI r4), σ4)) (h8 : ¬ r4 = x2) : pq_Rn C (125, 0, [some (vR 10 0 0), some (vI x1), some (vI x2), some (vI x3), l4, l5, l6], [], σ) = some (some (vI (-3 : Int32)), σ4) := by
  refine (e_n 2 (fr' := (125, 2, [some (vR 10 0 0), some (vI x1), some (vI x2), some (vI x3), l4, l5, l6], [vI x1, vR 10 0 0], σ)) rfl).trans ?_
  refine (e_ci (m := 125) (pc := 5) (ls := [some (vR 10 0 0), some (vI x1), some (vI x2), some (vI x3), l4, l5, l6]) (rest := []) rfl h1).trans ?_
  refine (e_f (B := (125, 8, [some (vR 10 0 0), some (vI x1), some (vI x2), some (vI x3), l4, l5, l6], [], σ1)) rfl h2).trans ?_
  refine (e_n 1 (fr' := (125, 9, [some (vR 10 0 0), some (vI x1), some (vI x2), some (vI x3), l4, l5, l6], [vI x2], σ1)) rfl).trans ?_
  refine (e_ci (m := 125) (pc := 12) (ls := [some (vR 10 0 0), some (vI x1), some (vI x2), some (vI x3), l4, l5, l6]) (rest := []) rfl h3).trans ?_
  refine (e_f (B := (125, 15, [some (vR 10 0 0), some (vI x1), some (vI x2), some (vI x3), l4, l5, l6], [], σ2)) rfl h4).trans ?_
  refine (e_n 1 (fr' := (125, 16, [some (vR 10 0 0), some (vI x1), some (vI x2), some (vI x3), l4, l5, l6], [vI x3], σ2)) rfl).trans ?_
  refine (e_ci (m := 125) (pc := 19) (ls := [some (vR 10 0 0), some (vI x1), some (vI x2), some (vI x3), l4, l5, l6]) (rest := []) rfl h5).trans ?_
  refine (e_f (B := (125, 24, [some (vR 10 0 0), some (vI x1), some (vI x2), some (vI x3), l4, l5, l6], [], σ3)) rfl h6).trans ?_
  refine (e_n 3 (fr' := (125, 27, [some (vR 10 0 0), some (vI x1), some (vI x2), some (vI x3), l4, l5, l6], [vI x3, vI x2, vR 10 0 0], σ3)) rfl).trans ?_
  refine (e_ci (m := 125) (pc := 30) (ls := [some (vR 10 0 0), some (vI x1), some (vI x2), some (vI x3), l4, l5, l6]) (rest := []) rfl h7).trans ?_
  refine (e_n 1 (fr' := (125, 31, [some (vR 10 0 0), some (vI x1), some (vI x2), some (vI x3), l4, l5, l6], [vI x2, vI r4], σ4)) rfl).trans ?_
  refine (e_f (B := (125, 34, [some (vR 10 0 0), some (vI x1), some (vI x2), some (vI x3), l4, l5, l6], [], σ4)) rfl h8).trans ?_
  refine (e_n 1 (fr' := (125, 36, [some (vR 10 0 0), some (vI x1), some (vI x2), some (vI x3), l4, l5, l6], [vI (-3 : Int32)], σ4)) rfl).trans ?_
  exact e_r rfl
set_option maxRecDepth 20000 in
theorem g125_40_0 (C : pmC) {σ : pmS} {x1 : Int32} {x2 : Int32} {x3 : Int32} {x4 : Int32} {l5 : Option pmV} {l6 : Option pmV} (h1 : vp_in x1 4) (h2 : (σ.1 10 0 0 (x1).toNatClampNeg) ≤ x4) : pq_Rn C (125, 40, [some (vR 10 0 0), some (vI x1), some (vI x2), some (vI x3), some (vI x4), l5, l6], [], σ) = pq_Rn C (125, 72, [some (vR 10 0 0), some (vI x1), some (vI x2), some (vI x3), some (vI (0 : Int32)), some (vI (0 : Int32)), l6], [], σ) := by
  refine (e_n 4 (fr' := (125, 47, [some (vR 10 0 0), some (vI x1), some (vI x2), some (vI x3), some (vI x4), l5, l6], [vI x1, vR 10 0 1, vI x4], σ)) rfl).trans ?_
  refine (e_a (A := (125, 48, [some (vR 10 0 0), some (vI x1), some (vI x2), some (vI x3), some (vI x4), l5, l6], [vI (σ.1 10 0 0 (x1).toNatClampNeg), vI x4], σ)) rfl h1).trans ?_
  refine (e_t (A := (125, 66, [some (vR 10 0 0), some (vI x1), some (vI x2), some (vI x3), some (vI x4), l5, l6], [], σ)) rfl h2).trans ?_
  exact e_n 4 rfl
set_option maxRecDepth 20000 in
theorem g125_40_1 (C : pmC) {σ : pmS} {x1 : Int32} {x2 : Int32} {x3 : Int32} {x4 : Int32} {l5 : Option pmV} {l6 : Option pmV} (h1 : vp_in x1 4) (h2 : ¬ (σ.1 10 0 0 (x1).toNatClampNeg) ≤ x4) (h3 : vp_in x4 8) : pq_Rn C (125, 40, [some (vR 10 0 0), some (vI x1), some (vI x2), some (vI x3), some (vI x4), l5, l6], [], σ) = pq_Rn C (125, 40, [some (vR 10 0 0), some (vI x1), some (vI x2), some (vI x3), some (vI (x4 + (1 : Int32))), l5, l6], [], (pm_wi σ 10 0 9 (x4).toNatClampNeg x4)) := by
  refine (e_n 4 (fr' := (125, 47, [some (vR 10 0 0), some (vI x1), some (vI x2), some (vI x3), some (vI x4), l5, l6], [vI x1, vR 10 0 1, vI x4], σ)) rfl).trans ?_
  refine (e_a (A := (125, 48, [some (vR 10 0 0), some (vI x1), some (vI x2), some (vI x3), some (vI x4), l5, l6], [vI (σ.1 10 0 0 (x1).toNatClampNeg), vI x4], σ)) rfl h1).trans ?_
  refine (e_f (B := (125, 51, [some (vR 10 0 0), some (vI x1), some (vI x2), some (vI x3), some (vI x4), l5, l6], [], σ)) rfl h2).trans ?_
  refine (e_n 4 (fr' := (125, 59, [some (vR 10 0 0), some (vI x1), some (vI x2), some (vI x3), some (vI x4), l5, l6], [vI x4, vI x4, vR 10 0 10], σ)) rfl).trans ?_
  refine (e_a (A := (125, 60, [some (vR 10 0 0), some (vI x1), some (vI x2), some (vI x3), some (vI x4), l5, l6], [], (pm_wi σ 10 0 9 (x4).toNatClampNeg x4))) rfl h3).trans ?_
  exact e_n 2 rfl
set_option maxRecDepth 20000 in
theorem g125_72_0 (C : pmC) {σ : pmS} {x1 : Int32} {x2 : Int32} {x3 : Int32} {x4 : Int32} {x5 : Int32} {l6 : Option pmV} (h1 : x5 = 0) : pq_Rn C (125, 72, [some (vR 10 0 0), some (vI x1), some (vI x2), some (vI x3), some (vI x4), some (vI x5), l6], [], σ) = pq_Rn C (125, 86, [some (vR 10 0 0), some (vI x1), some (vI x2), some (vI x3), some (vI (x4 + (1 : Int32))), some (vI (1 : Int32)), some (vI (0 : Int32))], [], σ) := by
  refine (e_n 1 (fr' := (125, 74, [some (vR 10 0 0), some (vI x1), some (vI x2), some (vI x3), some (vI x4), some (vI x5), l6], [vI x5], σ)) rfl).trans ?_
  refine (e_t (A := (125, 77, [some (vR 10 0 0), some (vI x1), some (vI x2), some (vI x3), some (vI x4), some (vI x5), l6], [], σ)) rfl h1).trans ?_
  exact e_n 5 rfl
set_option maxRecDepth 20000 in
theorem g125_72_1 (C : pmC) {σ : pmS} {x1 : Int32} {x2 : Int32} {x3 : Int32} {x4 : Int32} {x5 : Int32} {l6 : Option pmV} (h1 : ¬ x5 = 0) : pq_Rn C (125, 72, [some (vR 10 0 0), some (vI x1), some (vI x2), some (vI x3), some (vI x4), some (vI x5), l6], [], σ) = some (some (vI x4), σ) := by
  refine (e_n 1 (fr' := (125, 74, [some (vR 10 0 0), some (vI x1), some (vI x2), some (vI x3), some (vI x4), some (vI x5), l6], [vI x5], σ)) rfl).trans ?_
  refine (e_f (B := (125, 151, [some (vR 10 0 0), some (vI x1), some (vI x2), some (vI x3), some (vI x4), some (vI x5), l6], [], σ)) rfl h1).trans ?_
  refine (e_n 1 (fr' := (125, 153, [some (vR 10 0 0), some (vI x1), some (vI x2), some (vI x3), some (vI x4), some (vI x5), l6], [vI x4], σ)) rfl).trans ?_
  exact e_r rfl
set_option maxRecDepth 20000 in
theorem g125_86_0 (C : pmC) {σ : pmS} {x1 : Int32} {x2 : Int32} {x3 : Int32} {x4 : Int32} {x5 : Int32} {x6 : Int32} (h1 : vp_in x1 4) (h2 : (σ.1 10 0 0 (x1).toNatClampNeg) ≤ x6) : pq_Rn C (125, 86, [some (vR 10 0 0), some (vI x1), some (vI x2), some (vI x3), some (vI x4), some (vI x5), some (vI x6)], [], σ) = pq_Rn C (125, 72, [some (vR 10 0 0), some (vI x1), some (vI x2), some (vI x3), some (vI x4), some (vI x5), some (vI x6)], [], σ) := by
  refine (e_n 4 (fr' := (125, 93, [some (vR 10 0 0), some (vI x1), some (vI x2), some (vI x3), some (vI x4), some (vI x5), some (vI x6)], [vI x1, vR 10 0 1, vI x6], σ)) rfl).trans ?_
  refine (e_a (A := (125, 94, [some (vR 10 0 0), some (vI x1), some (vI x2), some (vI x3), some (vI x4), some (vI x5), some (vI x6)], [vI (σ.1 10 0 0 (x1).toNatClampNeg), vI x6], σ)) rfl h1).trans ?_
  refine (e_t (A := (125, 148, [some (vR 10 0 0), some (vI x1), some (vI x2), some (vI x3), some (vI x4), some (vI x5), some (vI x6)], [], σ)) rfl h2).trans ?_
  exact e_n 1 rfl
set_option maxRecDepth 20000 in
theorem g125_86_1 (C : pmC) {σ : pmS} {x1 : Int32} {x2 : Int32} {x3 : Int32} {x4 : Int32} {x5 : Int32} {x6 : Int32} {σ1 : pmS} {r1 : Int32} (h1 : vp_in x1 4) (h2 : ¬ (σ.1 10 0 0 (x1).toNatClampNeg) ≤ x6) (h3 : vp_in x6 8) (h4 : C 121 [vR 10 0 0, vI x1, vI (σ.1 10 0 9 (x6).toNatClampNeg), vI x2, vI x3] σ = some (some (vI r1), σ1)) (h5 : x5 = 0) : pq_Rn C (125, 86, [some (vR 10 0 0), some (vI x1), some (vI x2), some (vI x3), some (vI x4), some (vI x5), some (vI x6)], [], σ) = pq_Rn C (125, 86, [some (vR 10 0 0), some (vI x1), some (vI x2), some (vI x3), some (vI x4), some (vI (0 : Int32)), some (vI (x6 + (1 : Int32)))], [], (pm_wi σ1 10 0 9 (x6).toNatClampNeg r1)) := by
  refine (e_n 4 (fr' := (125, 93, [some (vR 10 0 0), some (vI x1), some (vI x2), some (vI x3), some (vI x4), some (vI x5), some (vI x6)], [vI x1, vR 10 0 1, vI x6], σ)) rfl).trans ?_
  refine (e_a (A := (125, 94, [some (vR 10 0 0), some (vI x1), some (vI x2), some (vI x3), some (vI x4), some (vI x5), some (vI x6)], [vI (σ.1 10 0 0 (x1).toNatClampNeg), vI x6], σ)) rfl h1).trans ?_
  refine (e_f (B := (125, 97, [some (vR 10 0 0), some (vI x1), some (vI x2), some (vI x3), some (vI x4), some (vI x5), some (vI x6)], [], σ)) rfl h2).trans ?_
  refine (e_n 8 (fr' := (125, 111, [some (vR 10 0 0), some (vI x1), some (vI x2), some (vI x3), some (vI x4), some (vI x5), some (vI x6)], [vI x6, vR 10 0 10, vI x1, vR 10 0 0, vI x6, vR 10 0 10], σ)) rfl).trans ?_
  refine (e_a (A := (125, 112, [some (vR 10 0 0), some (vI x1), some (vI x2), some (vI x3), some (vI x4), some (vI x5), some (vI x6)], [vI (σ.1 10 0 9 (x6).toNatClampNeg), vI x1, vR 10 0 0, vI x6, vR 10 0 10], σ)) rfl h3).trans ?_
  refine (e_n 2 (fr' := (125, 114, [some (vR 10 0 0), some (vI x1), some (vI x2), some (vI x3), some (vI x4), some (vI x5), some (vI x6)], [vI x3, vI x2, vI (σ.1 10 0 9 (x6).toNatClampNeg), vI x1, vR 10 0 0, vI x6, vR 10 0 10], σ)) rfl).trans ?_
  refine (e_ci (m := 125) (pc := 117) (ls := [some (vR 10 0 0), some (vI x1), some (vI x2), some (vI x3), some (vI x4), some (vI x5), some (vI x6)]) (rest := [vI x6, vR 10 0 10]) rfl h4).trans ?_
  refine (e_a (A := (125, 118, [some (vR 10 0 0), some (vI x1), some (vI x2), some (vI x3), some (vI x4), some (vI x5), some (vI x6)], [], (pm_wi σ1 10 0 9 (x6).toNatClampNeg r1))) rfl h3).trans ?_
  refine (e_n 1 (fr' := (125, 120, [some (vR 10 0 0), some (vI x1), some (vI x2), some (vI x3), some (vI x4), some (vI x5), some (vI x6)], [vI x5], (pm_wi σ1 10 0 9 (x6).toNatClampNeg r1))) rfl).trans ?_
  refine (e_t (A := (125, 139, [some (vR 10 0 0), some (vI x1), some (vI x2), some (vI x3), some (vI x4), some (vI x5), some (vI x6)], [], (pm_wi σ1 10 0 9 (x6).toNatClampNeg r1))) rfl h5).trans ?_
  exact e_n 4 rfl
set_option maxRecDepth 20000 in
theorem g125_86_2 (C : pmC) {σ : pmS} {x1 : Int32} {x2 : Int32} {x3 : Int32} {x4 : Int32} {x5 : Int32} {x6 : Int32} {σ1 : pmS} {r1 : Int32} (h1 : vp_in x1 4) (h2 : ¬ (σ.1 10 0 0 (x1).toNatClampNeg) ≤ x6) (h3 : vp_in x6 8) (h4 : C 121 [vR 10 0 0, vI x1, vI (σ.1 10 0 9 (x6).toNatClampNeg), vI x2, vI x3] σ = some (some (vI r1), σ1)) (h5 : ¬ x5 = 0) (h6 : ((pm_wi σ1 10 0 9 (x6).toNatClampNeg r1).1 10 0 9 (x6).toNatClampNeg) = x6) : pq_Rn C (125, 86, [some (vR 10 0 0), some (vI x1), some (vI x2), some (vI x3), some (vI x4), some (vI x5), some (vI x6)], [], σ) = pq_Rn C (125, 86, [some (vR 10 0 0), some (vI x1), some (vI x2), some (vI x3), some (vI x4), some (vI (1 : Int32)), some (vI (x6 + (1 : Int32)))], [], (pm_wi σ1 10 0 9 (x6).toNatClampNeg r1)) := by
  refine (e_n 4 (fr' := (125, 93, [some (vR 10 0 0), some (vI x1), some (vI x2), some (vI x3), some (vI x4), some (vI x5), some (vI x6)], [vI x1, vR 10 0 1, vI x6], σ)) rfl).trans ?_
  refine (e_a (A := (125, 94, [some (vR 10 0 0), some (vI x1), some (vI x2), some (vI x3), some (vI x4), some (vI x5), some (vI x6)], [vI (σ.1 10 0 0 (x1).toNatClampNeg), vI x6], σ)) rfl h1).trans ?_
  refine (e_f (B := (125, 97, [some (vR 10 0 0), some (vI x1), some (vI x2), some (vI x3), some (vI x4), some (vI x5), some (vI x6)], [], σ)) rfl h2).trans ?_
  refine (e_n 8 (fr' := (125, 111, [some (vR 10 0 0), some (vI x1), some (vI x2), some (vI x3), some (vI x4), some (vI x5), some (vI x6)], [vI x6, vR 10 0 10, vI x1, vR 10 0 0, vI x6, vR 10 0 10], σ)) rfl).trans ?_
  refine (e_a (A := (125, 112, [some (vR 10 0 0), some (vI x1), some (vI x2), some (vI x3), some (vI x4), some (vI x5), some (vI x6)], [vI (σ.1 10 0 9 (x6).toNatClampNeg), vI x1, vR 10 0 0, vI x6, vR 10 0 10], σ)) rfl h3).trans ?_
  refine (e_n 2 (fr' := (125, 114, [some (vR 10 0 0), some (vI x1), some (vI x2), some (vI x3), some (vI x4), some (vI x5), some (vI x6)], [vI x3, vI x2, vI (σ.1 10 0 9 (x6).toNatClampNeg), vI x1, vR 10 0 0, vI x6, vR 10 0 10], σ)) rfl).trans ?_
  refine (e_ci (m := 125) (pc := 117) (ls := [some (vR 10 0 0), some (vI x1), some (vI x2), some (vI x3), some (vI x4), some (vI x5), some (vI x6)]) (rest := [vI x6, vR 10 0 10]) rfl h4).trans ?_
  refine (e_a (A := (125, 118, [some (vR 10 0 0), some (vI x1), some (vI x2), some (vI x3), some (vI x4), some (vI x5), some (vI x6)], [], (pm_wi σ1 10 0 9 (x6).toNatClampNeg r1))) rfl h3).trans ?_
  refine (e_n 1 (fr' := (125, 120, [some (vR 10 0 0), some (vI x1), some (vI x2), some (vI x3), some (vI x4), some (vI x5), some (vI x6)], [vI x5], (pm_wi σ1 10 0 9 (x6).toNatClampNeg r1))) rfl).trans ?_
  refine (e_f (B := (125, 123, [some (vR 10 0 0), some (vI x1), some (vI x2), some (vI x3), some (vI x4), some (vI x5), some (vI x6)], [], (pm_wi σ1 10 0 9 (x6).toNatClampNeg r1))) rfl h5).trans ?_
  refine (e_n 3 (fr' := (125, 129, [some (vR 10 0 0), some (vI x1), some (vI x2), some (vI x3), some (vI x4), some (vI x5), some (vI x6)], [vI x6, vR 10 0 10], (pm_wi σ1 10 0 9 (x6).toNatClampNeg r1))) rfl).trans ?_
  refine (e_a (A := (125, 130, [some (vR 10 0 0), some (vI x1), some (vI x2), some (vI x3), some (vI x4), some (vI x5), some (vI x6)], [vI ((pm_wi σ1 10 0 9 (x6).toNatClampNeg r1).1 10 0 9 (x6).toNatClampNeg)], (pm_wi σ1 10 0 9 (x6).toNatClampNeg r1))) rfl h3).trans ?_
  refine (e_n 1 (fr' := (125, 132, [some (vR 10 0 0), some (vI x1), some (vI x2), some (vI x3), some (vI x4), some (vI x5), some (vI x6)], [vI x6, vI ((pm_wi σ1 10 0 9 (x6).toNatClampNeg r1).1 10 0 9 (x6).toNatClampNeg)], (pm_wi σ1 10 0 9 (x6).toNatClampNeg r1))) rfl).trans ?_
  refine (e_t (A := (125, 135, [some (vR 10 0 0), some (vI x1), some (vI x2), some (vI x3), some (vI x4), some (vI x5), some (vI x6)], [], (pm_wi σ1 10 0 9 (x6).toNatClampNeg r1))) rfl h6).trans ?_
  exact e_n 5 rfl
set_option maxRecDepth 20000 in
theorem g125_86_3 (C : pmC) {σ : pmS} {x1 : Int32} {x2 : Int32} {x3 : Int32} {x4 : Int32} {x5 : Int32} {x6 : Int32} {σ1 : pmS} {r1 : Int32} (h1 : vp_in x1 4) (h2 : ¬ (σ.1 10 0 0 (x1).toNatClampNeg) ≤ x6) (h3 : vp_in x6 8) (h4 : C 121 [vR 10 0 0, vI x1, vI (σ.1 10 0 9 (x6).toNatClampNeg), vI x2, vI x3] σ = some (some (vI r1), σ1)) (h5 : ¬ x5 = 0) (h6 : ¬ ((pm_wi σ1 10 0 9 (x6).toNatClampNeg r1).1 10 0 9 (x6).toNatClampNeg) = x6) : pq_Rn C (125, 86, [some (vR 10 0 0), some (vI x1), some (vI x2), some (vI x3), some (vI x4), some (vI x5), some (vI x6)], [], σ) = pq_Rn C (125, 86, [some (vR 10 0 0), some (vI x1), some (vI x2), some (vI x3), some (vI x4), some (vI (0 : Int32)), some (vI (x6 + (1 : Int32)))], [], (pm_wi σ1 10 0 9 (x6).toNatClampNeg r1)) := by
  refine (e_n 4 (fr' := (125, 93, [some (vR 10 0 0), some (vI x1), some (vI x2), some (vI x3), some (vI x4), some (vI x5), some (vI x6)], [vI x1, vR 10 0 1, vI x6], σ)) rfl).trans ?_
  refine (e_a (A := (125, 94, [some (vR 10 0 0), some (vI x1), some (vI x2), some (vI x3), some (vI x4), some (vI x5), some (vI x6)], [vI (σ.1 10 0 0 (x1).toNatClampNeg), vI x6], σ)) rfl h1).trans ?_
  refine (e_f (B := (125, 97, [some (vR 10 0 0), some (vI x1), some (vI x2), some (vI x3), some (vI x4), some (vI x5), some (vI x6)], [], σ)) rfl h2).trans ?_
  refine (e_n 8 (fr' := (125, 111, [some (vR 10 0 0), some (vI x1), some (vI x2), some (vI x3), some (vI x4), some (vI x5), some (vI x6)], [vI x6, vR 10 0 10, vI x1, vR 10 0 0, vI x6, vR 10 0 10], σ)) rfl).trans ?_
  refine (e_a (A := (125, 112, [some (vR 10 0 0), some (vI x1), some (vI x2), some (vI x3), some (vI x4), some (vI x5), some (vI x6)], [vI (σ.1 10 0 9 (x6).toNatClampNeg), vI x1, vR 10 0 0, vI x6, vR 10 0 10], σ)) rfl h3).trans ?_
  refine (e_n 2 (fr' := (125, 114, [some (vR 10 0 0), some (vI x1), some (vI x2), some (vI x3), some (vI x4), some (vI x5), some (vI x6)], [vI x3, vI x2, vI (σ.1 10 0 9 (x6).toNatClampNeg), vI x1, vR 10 0 0, vI x6, vR 10 0 10], σ)) rfl).trans ?_
  refine (e_ci (m := 125) (pc := 117) (ls := [some (vR 10 0 0), some (vI x1), some (vI x2), some (vI x3), some (vI x4), some (vI x5), some (vI x6)]) (rest := [vI x6, vR 10 0 10]) rfl h4).trans ?_
  refine (e_a (A := (125, 118, [some (vR 10 0 0), some (vI x1), some (vI x2), some (vI x3), some (vI x4), some (vI x5), some (vI x6)], [], (pm_wi σ1 10 0 9 (x6).toNatClampNeg r1))) rfl h3).trans ?_
  refine (e_n 1 (fr' := (125, 120, [some (vR 10 0 0), some (vI x1), some (vI x2), some (vI x3), some (vI x4), some (vI x5), some (vI x6)], [vI x5], (pm_wi σ1 10 0 9 (x6).toNatClampNeg r1))) rfl).trans ?_
  refine (e_f (B := (125, 123, [some (vR 10 0 0), some (vI x1), some (vI x2), some (vI x3), some (vI x4), some (vI x5), some (vI x6)], [], (pm_wi σ1 10 0 9 (x6).toNatClampNeg r1))) rfl h5).trans ?_
  refine (e_n 3 (fr' := (125, 129, [some (vR 10 0 0), some (vI x1), some (vI x2), some (vI x3), some (vI x4), some (vI x5), some (vI x6)], [vI x6, vR 10 0 10], (pm_wi σ1 10 0 9 (x6).toNatClampNeg r1))) rfl).trans ?_
  refine (e_a (A := (125, 130, [some (vR 10 0 0), some (vI x1), some (vI x2), some (vI x3), some (vI x4), some (vI x5), some (vI x6)], [vI ((pm_wi σ1 10 0 9 (x6).toNatClampNeg r1).1 10 0 9 (x6).toNatClampNeg)], (pm_wi σ1 10 0 9 (x6).toNatClampNeg r1))) rfl h3).trans ?_
  refine (e_n 1 (fr' := (125, 132, [some (vR 10 0 0), some (vI x1), some (vI x2), some (vI x3), some (vI x4), some (vI x5), some (vI x6)], [vI x6, vI ((pm_wi σ1 10 0 9 (x6).toNatClampNeg r1).1 10 0 9 (x6).toNatClampNeg)], (pm_wi σ1 10 0 9 (x6).toNatClampNeg r1))) rfl).trans ?_
  refine (e_f (B := (125, 139, [some (vR 10 0 0), some (vI x1), some (vI x2), some (vI x3), some (vI x4), some (vI x5), some (vI x6)], [], (pm_wi σ1 10 0 9 (x6).toNatClampNeg r1))) rfl h6).trans ?_
  exact e_n 4 rfl
set_option maxRecDepth 20000 in
theorem g126_0_0 (C : pmC) {σ : pmS} {x1 : Int32} {x2 : Int32} {x3 : Int32} {l4 : Option pmV} {l5 : Option pmV} {l6 : Option pmV} {l7 : Option pmV} {l8 : Option pmV} {l9 : Option pmV} {σ1 : pmS} {r1 : Int32} (h1 : C 107 [vR 10 0 0, vI x1, vI x2] σ = some (some (vI r1), σ1)) (h2 : r1 = 0) : pq_Rn C (126, 0, [some (vR 10 0 0), some (vI x1), some (vI x2), some (vI x3), l4, l5, l6, l7, l8, l9], [], σ) = some (some (vI (-1 : Int32)), σ1) := by
  refine (e_n 3 (fr' := (126, 3, [some (vR 10 0 0), some (vI x1), some (vI x2), some (vI x3), l4, l5, l6, l7, l8, l9], [vI x2, vI x1, vR 10 0 0], σ)) rfl).trans ?_
  refine (e_ci (m := 126) (pc := 6) (ls := [some (vR 10 0 0), some (vI x1), some (vI x2), some (vI x3), l4, l5, l6, l7, l8, l9]) (rest := []) rfl h1).trans ?_
  refine (e_t (A := (126, 9, [some (vR 10 0 0), some (vI x1), some (vI x2), some (vI x3), l4, l5, l6, l7, l8, l9], [], σ1)) rfl h2).trans ?_
  refine (e_n 1 (fr' := (126, 10, [some (vR 10 0 0), some (vI x1), some (vI x2), some (vI x3), l4, l5, l6, l7, l8, l9], [vI (-1 : Int32)], σ1)) rfl).trans ?_
  exact e_r rfl
set_option maxRecDepth 20000 in
theorem g126_0_1 (C : pmC) {σ : pmS} {x1 : Int32} {x2 : Int32} {x3 : Int32} {l4 : Option pmV} {l5 : Option pmV} {l6 : Option pmV} {l7 : Option pmV} {l8 : Option pmV} {l9 : Option pmV} {σ1 : pmS} {r1 : Int32} {σ2 : pmS} {r2 : Int32} (h1 : C 107 [vR 10 0 0, vI x1, vI x2] σ = some (some (vI r1), σ1)) (h2 : ¬ r1 = 0) (h3 : C 105 [vL (x3).toInt64, vL (1 : Int64), vL (4 : Int64)] σ1 = some (some (vI r2), σ2)) (h4 : r2 = 0) : pq_Rn C (126, 0, [some (vR 10 0 0), some (vI x1), some (vI x2), some (vI x3), l4, l5, l6, l7, l8, l9], [], σ) = some (some (vI (-2 : Int32)), σ2) := by
  refine (e_n 3 (fr' := (126, 3, [some (vR 10 0 0), some (vI x1), some (vI x2), some (vI x3), l4, l5, l6, l7, l8, l9], [vI x2, vI x1, vR 10 0 0], σ)) rfl).trans ?_
  refine (e_ci (m := 126) (pc := 6) (ls := [some (vR 10 0 0), some (vI x1), some (vI x2), some (vI x3), l4, l5, l6, l7, l8, l9]) (rest := []) rfl h1).trans ?_
  refine (e_f (B := (126, 11, [some (vR 10 0 0), some (vI x1), some (vI x2), some (vI x3), l4, l5, l6, l7, l8, l9], [], σ1)) rfl h2).trans ?_
  refine (e_n 4 (fr' := (126, 17, [some (vR 10 0 0), some (vI x1), some (vI x2), some (vI x3), l4, l5, l6, l7, l8, l9], [vL (4 : Int64), vL (1 : Int64), vL (x3).toInt64], σ1)) rfl).trans ?_
  refine (e_ci (m := 126) (pc := 20) (ls := [some (vR 10 0 0), some (vI x1), some (vI x2), some (vI x3), l4, l5, l6, l7, l8, l9]) (rest := []) rfl h3).trans ?_
  refine (e_t (A := (126, 23, [some (vR 10 0 0), some (vI x1), some (vI x2), some (vI x3), l4, l5, l6, l7, l8, l9], [], σ2)) rfl h4).trans ?_
  refine (e_n 1 (fr' := (126, 25, [some (vR 10 0 0), some (vI x1), some (vI x2), some (vI x3), l4, l5, l6, l7, l8, l9], [vI (-2 : Int32)], σ2)) rfl).trans ?_
  exact e_r rfl
set_option maxRecDepth 20000 in
theorem g126_0_2 (C : pmC) {σ : pmS} {x1 : Int32} {x2 : Int32} {x3 : Int32} {l4 : Option pmV} {l5 : Option pmV} {l6 : Option pmV} {l7 : Option pmV} {l8 : Option pmV} {l9 : Option pmV} {σ1 : pmS} {r1 : Int32} {σ2 : pmS} {r2 : Int32} (h1 : C 107 [vR 10 0 0, vI x1, vI x2] σ = some (some (vI r1), σ1)) (h2 : ¬ r1 = 0) (h3 : C 105 [vL (x3).toInt64, vL (1 : Int64), vL (4 : Int64)] σ1 = some (some (vI r2), σ2)) (h4 : ¬ r2 = 0) : pq_Rn C (126, 0, [some (vR 10 0 0), some (vI x1), some (vI x2), some (vI x3), l4, l5, l6, l7, l8, l9], [], σ) = pq_Rn C (126, 32, [some (vR 10 0 0), some (vI x1), some (vI x2), some (vI x3), some (vI (1 : Int32)), some (vI (0 : Int32)), l6, l7, l8, l9], [], σ2) := by
  refine (e_n 3 (fr' := (126, 3, [some (vR 10 0 0), some (vI x1), some (vI x2), some (vI x3), l4, l5, l6, l7, l8, l9], [vI x2, vI x1, vR 10 0 0], σ)) rfl).trans ?_
  refine (e_ci (m := 126) (pc := 6) (ls := [some (vR 10 0 0), some (vI x1), some (vI x2), some (vI x3), l4, l5, l6, l7, l8, l9]) (rest := []) rfl h1).trans ?_
  refine (e_f (B := (126, 11, [some (vR 10 0 0), some (vI x1), some (vI x2), some (vI x3), l4, l5, l6, l7, l8, l9], [], σ1)) rfl h2).trans ?_
  refine (e_n 4 (fr' := (126, 17, [some (vR 10 0 0), some (vI x1), some (vI x2), some (vI x3), l4, l5, l6, l7, l8, l9], [vL (4 : Int64), vL (1 : Int64), vL (x3).toInt64], σ1)) rfl).trans ?_
  refine (e_ci (m := 126) (pc := 20) (ls := [some (vR 10 0 0), some (vI x1), some (vI x2), some (vI x3), l4, l5, l6, l7, l8, l9]) (rest := []) rfl h3).trans ?_
  refine (e_f (B := (126, 26, [some (vR 10 0 0), some (vI x1), some (vI x2), some (vI x3), l4, l5, l6, l7, l8, l9], [], σ2)) rfl h4).trans ?_
  exact e_n 4 rfl
set_option maxRecDepth 20000 in
theorem g126_32_0 (C : pmC) {σ : pmS} {x1 : Int32} {x2 : Int32} {x3 : Int32} {x4 : Int32} {x5 : Int32} {l6 : Option pmV} {l7 : Option pmV} {l8 : Option pmV} {l9 : Option pmV} (h1 : x3 ≤ x5) : pq_Rn C (126, 32, [some (vR 10 0 0), some (vI x1), some (vI x2), some (vI x3), some (vI x4), some (vI x5), l6, l7, l8, l9], [], σ) = pq_Rn C (126, 56, [some (vR 10 0 0), some (vI x1), some (vI x2), some (vI x3), some (vI x4), some (vI (0 : Int32)), some (vI (0 : Int32)), l7, l8, l9], [], σ) := by
  refine (e_n 2 (fr' := (126, 35, [some (vR 10 0 0), some (vI x1), some (vI x2), some (vI x3), some (vI x4), some (vI x5), l6, l7, l8, l9], [vI x3, vI x5], σ)) rfl).trans ?_
  refine (e_t (A := (126, 50, [some (vR 10 0 0), some (vI x1), some (vI x2), some (vI x3), some (vI x4), some (vI x5), l6, l7, l8, l9], [], σ)) rfl h1).trans ?_
  exact e_n 4 rfl
set_option maxRecDepth 20000 in
theorem g126_32_1 (C : pmC) {σ : pmS} {x1 : Int32} {x2 : Int32} {x3 : Int32} {x4 : Int32} {x5 : Int32} {l6 : Option pmV} {l7 : Option pmV} {l8 : Option pmV} {l9 : Option pmV} (h1 : ¬ x3 ≤ x5) : pq_Rn C (126, 32, [some (vR 10 0 0), some (vI x1), some (vI x2), some (vI x3), some (vI x4), some (vI x5), l6, l7, l8, l9], [], σ) = pq_Rn C (126, 32, [some (vR 10 0 0), some (vI x1), some (vI x2), some (vI x3), some (vI (x4 * (5 : Int32))), some (vI (x5 + (1 : Int32))), l6, l7, l8, l9], [], σ) := by
  refine (e_n 2 (fr' := (126, 35, [some (vR 10 0 0), some (vI x1), some (vI x2), some (vI x3), some (vI x4), some (vI x5), l6, l7, l8, l9], [vI x3, vI x5], σ)) rfl).trans ?_
  refine (e_f (B := (126, 38, [some (vR 10 0 0), some (vI x1), some (vI x2), some (vI x3), some (vI x4), some (vI x5), l6, l7, l8, l9], [], σ)) rfl h1).trans ?_
  exact e_n 6 rfl
set_option maxRecDepth 20000 in
theorem g126_56_0 (C : pmC) {σ : pmS} {x1 : Int32} {x2 : Int32} {x3 : Int32} {x4 : Int32} {x5 : Int32} {x6 : Int32} {l7 : Option pmV} {l8 : Option pmV} {l9 : Option pmV} (h1 : x4 ≤ x6) : pq_Rn C (126, 56, [some (vR 10 0 0), some (vI x1), some (vI x2), some (vI x3), some (vI x4), some (vI x5), some (vI x6), l7, l8, l9], [], σ) = some (some (vI x5), σ) := by
  refine (e_n 2 (fr' := (126, 60, [some (vR 10 0 0), some (vI x1), some (vI x2), some (vI x3), some (vI x4), some (vI x5), some (vI x6), l7, l8, l9], [vI x4, vI x6], σ)) rfl).trans ?_
  refine (e_t (A := (126, 155, [some (vR 10 0 0), some (vI x1), some (vI x2), some (vI x3), some (vI x4), some (vI x5), some (vI x6), l7, l8, l9], [], σ)) rfl h1).trans ?_
  refine (e_n 1 (fr' := (126, 157, [some (vR 10 0 0), some (vI x1), some (vI x2), some (vI x3), some (vI x4), some (vI x5), some (vI x6), l7, l8, l9], [vI x5], σ)) rfl).trans ?_
  exact e_r rfl
set_option maxRecDepth 20000 in
theorem g126_56_1 (C : pmC) {σ : pmS} {x1 : Int32} {x2 : Int32} {x3 : Int32} {x4 : Int32} {x5 : Int32} {x6 : Int32} {l7 : Option pmV} {l8 : Option pmV} {l9 : Option pmV} (h1 : ¬ x4 ≤ x6) : pq_Rn C (126, 56, [some (vR 10 0 0), some (vI x1), some (vI x2), some (vI x3), some (vI x4), some (vI x5), some (vI x6), l7, l8, l9], [], σ) = pq_Rn C (126, 73, [some (vR 10 0 0), some (vI x1), some (vI x2), some (vI x3), some (vI x4), some (vI x5), some (vI x6), some (vI (0 : Int32)), some (vI x6), some (vI (0 : Int32))], [], σ) := by
  refine (e_n 2 (fr' := (126, 60, [some (vR 10 0 0), some (vI x1), some (vI x2), some (vI x3), some (vI x4), some (vI x5), some (vI x6), l7, l8, l9], [vI x4, vI x6], σ)) rfl).trans ?_
  refine (e_f (B := (126, 63, [some (vR 10 0 0), some (vI x1), some (vI x2), some (vI x3), some (vI x4), some (vI x5), some (vI x6), l7, l8, l9], [], σ)) rfl h1).trans ?_
  exact e_n 6 rfl
set_option maxRecDepth 20000 in
theorem g126_73_0 (C : pmC) {σ : pmS} {x1 : Int32} {x2 : Int32} {x3 : Int32} {x4 : Int32} {x5 : Int32} {x6 : Int32} {x7 : Int32} {x8 : Int32} {x9 : Int32} {σ1 : pmS} {r1 : Int32} {σ2 : pmS} {r2 : Int32} (h1 : x3 ≤ x9) (h2 : C 122 [vR 10 0 0, vI (0 : Int32), vI x7] σ = some (some (vI r1), σ1)) (h3 : r1 = (1 : Int32)) (h4 : C 121 [vR 10 0 0, vI x1, vI x2, vI (0 : Int32), vI x7] σ1 = some (some (vI r2), σ2)) (h5 : vp_in (((8 : Int32) * x1) + x2) 32) (h6 : r2 = (σ2.1 10 0 1 ((((8 : Int32) * x1) + x2)).toNatClampNeg)) : pq_Rn C (126, 73, [some (vR 10 0 0), some (vI x1), some (vI x2), some (vI x3), some (vI x4), some (vI x5), some (vI x6), some (vI x7), some (vI x8), some (vI x9)], [], σ) = pq_Rn C (126, 56, [some (vR 10 0 0), some (vI x1), some (vI x2), some (vI x3), some (vI x4), some (vI (x5 + (1 : Int32))), some (vI (x6 + (1 : Int32))), some (vI x7), some (vI x8), some (vI x9)], [], σ2) := by
  refine (e_n 2 (fr' := (126, 76, [some (vR 10 0 0), some (vI x1), some (vI x2), some (vI x3), some (vI x4), some (vI x5), some (vI x6), some (vI x7), some (vI x8), some (vI x9)], [vI x3, vI x9], σ)) rfl).trans ?_
  refine (e_t (A := (126, 105, [some (vR 10 0 0), some (vI x1), some (vI x2), some (vI x3), some (vI x4), some (vI x5), some (vI x6), some (vI x7), some (vI x8), some (vI x9)], [], σ)) rfl h1).trans ?_
  refine (e_n 4 (fr' := (126, 111, [some (vR 10 0 0), some (vI x1), some (vI x2), some (vI x3), some (vI x4), some (vI x5), some (vI x6), some (vI x7), some (vI x8), some (vI x9)], [vI x7, vI (0 : Int32), vR 10 0 0, vI x5], σ)) rfl).trans ?_
  refine (e_ci (m := 126) (pc := 114) (ls := [some (vR 10 0 0), some (vI x1), some (vI x2), some (vI x3), some (vI x4), some (vI x5), some (vI x6), some (vI x7), some (vI x8), some (vI x9)]) (rest := [vI x5]) rfl h2).trans ?_
  refine (e_n 1 (fr' := (126, 115, [some (vR 10 0 0), some (vI x1), some (vI x2), some (vI x3), some (vI x4), some (vI x5), some (vI x6), some (vI x7), some (vI x8), some (vI x9)], [vI (1 : Int32), vI r1, vI x5], σ1)) rfl).trans ?_
  refine (e_t (A := (126, 118, [some (vR 10 0 0), some (vI x1), some (vI x2), some (vI x3), some (vI x4), some (vI x5), some (vI x6), some (vI x7), some (vI x8), some (vI x9)], [vI x5], σ1)) rfl h3).trans ?_
  refine (e_n 5 (fr' := (126, 124, [some (vR 10 0 0), some (vI x1), some (vI x2), some (vI x3), some (vI x4), some (vI x5), some (vI x6), some (vI x7), some (vI x8), some (vI x9)], [vI x7, vI (0 : Int32), vI x2, vI x1, vR 10 0 0, vI x5], σ1)) rfl).trans ?_
  refine (e_ci (m := 126) (pc := 127) (ls := [some (vR 10 0 0), some (vI x1), some (vI x2), some (vI x3), some (vI x4), some (vI x5), some (vI x6), some (vI x7), some (vI x8), some (vI x9)]) (rest := [vI x5]) rfl h4).trans ?_
  refine (e_n 7 (fr' := (126, 137, [some (vR 10 0 0), some (vI x1), some (vI x2), some (vI x3), some (vI x4), some (vI x5), some (vI x6), some (vI x7), some (vI x8), some (vI x9)], [vI (((8 : Int32) * x1) + x2), vR 10 0 2, vI r2, vI x5], σ2)) rfl).trans ?_
  refine (e_a (A := (126, 138, [some (vR 10 0 0), some (vI x1), some (vI x2), some (vI x3), some (vI x4), some (vI x5), some (vI x6), some (vI x7), some (vI x8), some (vI x9)], [vI (σ2.1 10 0 1 ((((8 : Int32) * x1) + x2)).toNatClampNeg), vI r2, vI x5], σ2)) rfl h5).trans ?_
  refine (e_t (A := (126, 141, [some (vR 10 0 0), some (vI x1), some (vI x2), some (vI x3), some (vI x4), some (vI x5), some (vI x6), some (vI x7), some (vI x8), some (vI x9)], [vI x5], σ2)) rfl h6).trans ?_
  exact e_n 6 rfl
set_option maxRecDepth 20000 in
theorem g126_73_1 (C : pmC) {σ : pmS} {x1 : Int32} {x2 : Int32} {x3 : Int32} {x4 : Int32} {x5 : Int32} {x6 : Int32} {x7 : Int32} {x8 : Int32} {x9 : Int32} {σ1 : pmS} {r1 : Int32} {σ2 : pmS} {r2 : Int32} (h1 : x3 ≤ x9) (h2 : C 122 [vR 10 0 0, vI (0 : Int32), vI x7] σ = some (some (vI r1), σ1)) (h3 : r1 = (1 : Int32)) (h4 : C 121 [vR 10 0 0, vI x1, vI x2, vI (0 : Int32), vI x7] σ1 = some (some (vI r2), σ2)) (h5 : vp_in (((8 : Int32) * x1) + x2) 32) (h6 : ¬ r2 = (σ2.1 10 0 1 ((((8 : Int32) * x1) + x2)).toNatClampNeg)) : pq_Rn C (126, 73, [some (vR 10 0 0), some (vI x1), some (vI x2), some (vI x3), some (vI x4), some (vI x5), some (vI x6), some (vI x7), some (vI x8), some (vI x9)], [], σ) = pq_Rn C (126, 56, [some (vR 10 0 0), some (vI x1), some (vI x2), some (vI x3), some (vI x4), some (vI (x5 + (0 : Int32))), some (vI (x6 + (1 : Int32))), some (vI x7), some (vI x8), some (vI x9)], [], σ2) := by
  refine (e_n 2 (fr' := (126, 76, [some (vR 10 0 0), some (vI x1), some (vI x2), some (vI x3), some (vI x4), some (vI x5), some (vI x6), some (vI x7), some (vI x8), some (vI x9)], [vI x3, vI x9], σ)) rfl).trans ?_
  refine (e_t (A := (126, 105, [some (vR 10 0 0), some (vI x1), some (vI x2), some (vI x3), some (vI x4), some (vI x5), some (vI x6), some (vI x7), some (vI x8), some (vI x9)], [], σ)) rfl h1).trans ?_
  refine (e_n 4 (fr' := (126, 111, [some (vR 10 0 0), some (vI x1), some (vI x2), some (vI x3), some (vI x4), some (vI x5), some (vI x6), some (vI x7), some (vI x8), some (vI x9)], [vI x7, vI (0 : Int32), vR 10 0 0, vI x5], σ)) rfl).trans ?_
  refine (e_ci (m := 126) (pc := 114) (ls := [some (vR 10 0 0), some (vI x1), some (vI x2), some (vI x3), some (vI x4), some (vI x5), some (vI x6), some (vI x7), some (vI x8), some (vI x9)]) (rest := [vI x5]) rfl h2).trans ?_
  refine (e_n 1 (fr' := (126, 115, [some (vR 10 0 0), some (vI x1), some (vI x2), some (vI x3), some (vI x4), some (vI x5), some (vI x6), some (vI x7), some (vI x8), some (vI x9)], [vI (1 : Int32), vI r1, vI x5], σ1)) rfl).trans ?_
  refine (e_t (A := (126, 118, [some (vR 10 0 0), some (vI x1), some (vI x2), some (vI x3), some (vI x4), some (vI x5), some (vI x6), some (vI x7), some (vI x8), some (vI x9)], [vI x5], σ1)) rfl h3).trans ?_
  refine (e_n 5 (fr' := (126, 124, [some (vR 10 0 0), some (vI x1), some (vI x2), some (vI x3), some (vI x4), some (vI x5), some (vI x6), some (vI x7), some (vI x8), some (vI x9)], [vI x7, vI (0 : Int32), vI x2, vI x1, vR 10 0 0, vI x5], σ1)) rfl).trans ?_
  refine (e_ci (m := 126) (pc := 127) (ls := [some (vR 10 0 0), some (vI x1), some (vI x2), some (vI x3), some (vI x4), some (vI x5), some (vI x6), some (vI x7), some (vI x8), some (vI x9)]) (rest := [vI x5]) rfl h4).trans ?_
  refine (e_n 7 (fr' := (126, 137, [some (vR 10 0 0), some (vI x1), some (vI x2), some (vI x3), some (vI x4), some (vI x5), some (vI x6), some (vI x7), some (vI x8), some (vI x9)], [vI (((8 : Int32) * x1) + x2), vR 10 0 2, vI r2, vI x5], σ2)) rfl).trans ?_
  refine (e_a (A := (126, 138, [some (vR 10 0 0), some (vI x1), some (vI x2), some (vI x3), some (vI x4), some (vI x5), some (vI x6), some (vI x7), some (vI x8), some (vI x9)], [vI (σ2.1 10 0 1 ((((8 : Int32) * x1) + x2)).toNatClampNeg), vI r2, vI x5], σ2)) rfl h5).trans ?_
  refine (e_f (B := (126, 145, [some (vR 10 0 0), some (vI x1), some (vI x2), some (vI x3), some (vI x4), some (vI x5), some (vI x6), some (vI x7), some (vI x8), some (vI x9)], [vI x5], σ2)) rfl h6).trans ?_
  exact e_n 5 rfl
set_option maxRecDepth 20000 in
theorem g126_73_2 (C : pmC) {σ : pmS} {x1 : Int32} {x2 : Int32} {x3 : Int32} {x4 : Int32} {x5 : Int32} {x6 : Int32} {x7 : Int32} {x8 : Int32} {x9 : Int32} {σ1 : pmS} {r1 : Int32} (h1 : x3 ≤ x9) (h2 : C 122 [vR 10 0 0, vI (0 : Int32), vI x7] σ = some (some (vI r1), σ1)) (h3 : ¬ r1 = (1 : Int32)) : pq_Rn C (126, 73, [some (vR 10 0 0), some (vI x1), some (vI x2), some (vI x3), some (vI x4), some (vI x5), some (vI x6), some (vI x7), some (vI x8), some (vI x9)], [], σ) = pq_Rn C (126, 56, [some (vR 10 0 0), some (vI x1), some (vI x2), some (vI x3), some (vI x4), some (vI (x5 + (0 : Int32))), some (vI (x6 + (1 : Int32))), some (vI x7), some (vI x8), some (vI x9)], [], σ1) := by
  refine (e_n 2 (fr' := (126, 76, [some (vR 10 0 0), some (vI x1), some (vI x2), some (vI x3), some (vI x4), some (vI x5), some (vI x6), some (vI x7), some (vI x8), some (vI x9)], [vI x3, vI x9], σ)) rfl).trans ?_
  refine (e_t (A := (126, 105, [some (vR 10 0 0), some (vI x1), some (vI x2), some (vI x3), some (vI x4), some (vI x5), some (vI x6), some (vI x7), some (vI x8), some (vI x9)], [], σ)) rfl h1).trans ?_
  refine (e_n 4 (fr' := (126, 111, [some (vR 10 0 0), some (vI x1), some (vI x2), some (vI x3), some (vI x4), some (vI x5), some (vI x6), some (vI x7), some (vI x8), some (vI x9)], [vI x7, vI (0 : Int32), vR 10 0 0, vI x5], σ)) rfl).trans ?_
  refine (e_ci (m := 126) (pc := 114) (ls := [some (vR 10 0 0), some (vI x1), some (vI x2), some (vI x3), some (vI x4), some (vI x5), some (vI x6), some (vI x7), some (vI x8), some (vI x9)]) (rest := [vI x5]) rfl h2).trans ?_
  refine (e_n 1 (fr' := (126, 115, [some (vR 10 0 0), some (vI x1), some (vI x2), some (vI x3), some (vI x4), some (vI x5), some (vI x6), some (vI x7), some (vI x8), some (vI x9)], [vI (1 : Int32), vI r1, vI x5], σ1)) rfl).trans ?_
  refine (e_f (B := (126, 145, [some (vR 10 0 0), some (vI x1), some (vI x2), some (vI x3), some (vI x4), some (vI x5), some (vI x6), some (vI x7), some (vI x8), some (vI x9)], [vI x5], σ1)) rfl h3).trans ?_
  exact e_n 5 rfl
set_option maxRecDepth 20000 in
theorem g126_73_3 (C : pmC) {σ : pmS} {x1 : Int32} {x2 : Int32} {x3 : Int32} {x4 : Int32} {x5 : Int32} {x6 : Int32} {x7 : Int32} {x8 : Int32} {x9 : Int32} (h1 : ¬ x3 ≤ x9) : pq_Rn C (126, 73, [some (vR 10 0 0), some (vI x1), some (vI x2), some (vI x3), some (vI x4), some (vI x5), some (vI x6), some (vI x7), some (vI x8), some (vI x9)], [], σ) = pq_Rn C (126, 73, [some (vR 10 0 0), some (vI x1), some (vI x2), some (vI x3), some (vI x4), some (vI x5), some (vI x6), some (vI ((((8 : Int32) * x7) + (1 : Int32)) + (x8 - x8 / (5 : Int32) * (5 : Int32)))), some (vI (x8 / (5 : Int32))), some (vI (x9 + (1 : Int32)))], [], σ) := by
  refine (e_n 2 (fr' := (126, 76, [some (vR 10 0 0), some (vI x1), some (vI x2), some (vI x3), some (vI x4), some (vI x5), some (vI x6), some (vI x7), some (vI x8), some (vI x9)], [vI x3, vI x9], σ)) rfl).trans ?_
  refine (e_f (B := (126, 79, [some (vR 10 0 0), some (vI x1), some (vI x2), some (vI x3), some (vI x4), some (vI x5), some (vI x6), some (vI x7), some (vI x8), some (vI x9)], [], σ)) rfl h1).trans ?_
  exact e_n 16 rfl
set_option maxRecDepth 20000 in
theorem g127a_0_0 (C : pmC) {σ : pmS} {x1 : Int32} {x2 : Int32} {l4 : Option pmV} {l5 : Option pmV}  : pq_Rn C (127, 0, [some (vR 10 0 0), some (vI x1), some (vI x2), some (vR 10 0 2), l4, l5], [], σ) = pq_Rn C (127, 6, [some (vR 10 0 0), some (vI x1), some (vI x2), some (vR 10 0 2), some (vI (0 : Int32)), some (vI (0 : Int32))], [], σ) := by
  exact e_n 4 rfl
set_option maxRecDepth 20000 in
theorem g127a_6_0 (C : pmC) {σ : pmS} {x1 : Int32} {x2 : Int32} {x4 : Int32} {x5 : Int32} (h1 : vp_in x1 4) (h2 : (σ.1 10 0 0 (x1).toNatClampNeg) ≤ x5) : pq_Rn C (127, 6, [some (vR 10 0 0), some (vI x1), some (vI x2), some (vR 10 0 2), some (vI x4), some (vI x5)], [], σ) = some (some (vI x4), σ) := by
  refine (e_n 4 (fr' := (127, 13, [some (vR 10 0 0), some (vI x1), some (vI x2), some (vR 10 0 2), some (vI x4), some (vI x5)], [vI x1, vR 10 0 1, vI x5], σ)) rfl).trans ?_
  refine (e_a (A := (127, 14, [some (vR 10 0 0), some (vI x1), some (vI x2), some (vR 10 0 2), some (vI x4), some (vI x5)], [vI (σ.1 10 0 0 (x1).toNatClampNeg), vI x5], σ)) rfl h1).trans ?_
  refine (e_t (A := (127, 49, [some (vR 10 0 0), some (vI x1), some (vI x2), some (vR 10 0 2), some (vI x4), some (vI x5)], [], σ)) rfl h2).trans ?_
  refine (e_n 1 (fr' := (127, 51, [some (vR 10 0 0), some (vI x1), some (vI x2), some (vR 10 0 2), some (vI x4), some (vI x5)], [vI x4], σ)) rfl).trans ?_
  exact e_r rfl
set_option maxRecDepth 20000 in
theorem g127a_6_1 (C : pmC) {σ : pmS} {x1 : Int32} {x2 : Int32} {x4 : Int32} {x5 : Int32} (h1 : vp_in x1 4) (h2 : ¬ (σ.1 10 0 0 (x1).toNatClampNeg) ≤ x5) (h3 : vp_in (((8 : Int32) * x1) + ((x2 >>> (((3 : Int32) * x5) &&& 31)) &&& (7 : Int32))) 32) : pq_Rn C (127, 6, [some (vR 10 0 0), some (vI x1), some (vI x2), some (vR 10 0 2), some (vI x4), some (vI x5)], [], σ) = pq_Rn C (127, 6, [some (vR 10 0 0), some (vI x1), some (vI x2), some (vR 10 0 2), some (vI (x4 ||| ((σ.1 10 0 1 ((((8 : Int32) * x1) + ((x2 >>> (((3 : Int32) * x5) &&& 31)) &&& (7 : Int32)))).toNatClampNeg) <<< (((3 : Int32) * x5) &&& 31)))), some (vI (x5 + (1 : Int32)))], [], σ) := by
  refine (e_n 4 (fr' := (127, 13, [some (vR 10 0 0), some (vI x1), some (vI x2), some (vR 10 0 2), some (vI x4), some (vI x5)], [vI x1, vR 10 0 1, vI x5], σ)) rfl).trans ?_
  refine (e_a (A := (127, 14, [some (vR 10 0 0), some (vI x1), some (vI x2), some (vR 10 0 2), some (vI x4), some (vI x5)], [vI (σ.1 10 0 0 (x1).toNatClampNeg), vI x5], σ)) rfl h1).trans ?_
  refine (e_f (B := (127, 17, [some (vR 10 0 0), some (vI x1), some (vI x2), some (vR 10 0 2), some (vI x4), some (vI x5)], [], σ)) rfl h2).trans ?_
  refine (e_n 13 (fr' := (127, 34, [some (vR 10 0 0), some (vI x1), some (vI x2), some (vR 10 0 2), some (vI x4), some (vI x5)], [vI (((8 : Int32) * x1) + ((x2 >>> (((3 : Int32) * x5) &&& 31)) &&& (7 : Int32))), vR 10 0 2, vI x4], σ)) rfl).trans ?_
  refine (e_a (A := (127, 35, [some (vR 10 0 0), some (vI x1), some (vI x2), some (vR 10 0 2), some (vI x4), some (vI x5)], [vI (σ.1 10 0 1 ((((8 : Int32) * x1) + ((x2 >>> (((3 : Int32) * x5) &&& 31)) &&& (7 : Int32)))).toNatClampNeg), vI x4], σ)) rfl h3).trans ?_
  exact e_n 8 rfl
set_option maxRecDepth 20000 in
theorem g127b_0_0 (C : pmC) {σ : pmS} {x1 : Int32} {x2 : Int32} {l4 : Option pmV} {l5 : Option pmV}  : pq_Rn C (127, 0, [some (vR 10 0 0), some (vI x1), some (vI x2), some (vR 10 0 3), l4, l5], [], σ) = pq_Rn C (127, 6, [some (vR 10 0 0), some (vI x1), some (vI x2), some (vR 10 0 3), some (vI (0 : Int32)), some (vI (0 : Int32))], [], σ) := by
  exact e_n 4 rfl
set_option maxRecDepth 20000 in
theorem g127b_6_0 (C : pmC) {σ : pmS} {x1 : Int32} {x2 : Int32} {x4 : Int32} {x5 : Int32} (h1 : vp_in x1 4) (h2 : (σ.1 10 0 0 (x1).toNatClampNeg) ≤ x5) : pq_Rn C (127, 6, [some (vR 10 0 0), some (vI x1), some (vI x2), some (vR 10 0 3), some (vI x4), some (vI x5)], [], σ) = some (some (vI x4), σ) := by
  refine (e_n 4 (fr' := (127, 13, [some (vR 10 0 0), some (vI x1), some (vI x2), some (vR 10 0 3), some (vI x4), some (vI x5)], [vI x1, vR 10 0 1, vI x5], σ)) rfl).trans ?_
  refine (e_a (A := (127, 14, [some (vR 10 0 0), some (vI x1), some (vI x2), some (vR 10 0 3), some (vI x4), some (vI x5)], [vI (σ.1 10 0 0 (x1).toNatClampNeg), vI x5], σ)) rfl h1).trans ?_
  refine (e_t (A := (127, 49, [some (vR 10 0 0), some (vI x1), some (vI x2), some (vR 10 0 3), some (vI x4), some (vI x5)], [], σ)) rfl h2).trans ?_
  refine (e_n 1 (fr' := (127, 51, [some (vR 10 0 0), some (vI x1), some (vI x2), some (vR 10 0 3), some (vI x4), some (vI x5)], [vI x4], σ)) rfl).trans ?_
  exact e_r rfl
set_option maxRecDepth 20000 in
theorem g127b_6_1 (C : pmC) {σ : pmS} {x1 : Int32} {x2 : Int32} {x4 : Int32} {x5 : Int32} (h1 : vp_in x1 4) (h2 : ¬ (σ.1 10 0 0 (x1).toNatClampNeg) ≤ x5) (h3 : vp_in (((8 : Int32) * x1) + ((x2 >>> (((3 : Int32) * x5) &&& 31)) &&& (7 : Int32))) 32) : pq_Rn C (127, 6, [some (vR 10 0 0), some (vI x1), some (vI x2), some (vR 10 0 3), some (vI x4), some (vI x5)], [], σ) = pq_Rn C (127, 6, [some (vR 10 0 0), some (vI x1), some (vI x2), some (vR 10 0 3), some (vI (x4 ||| ((σ.1 10 0 2 ((((8 : Int32) * x1) + ((x2 >>> (((3 : Int32) * x5) &&& 31)) &&& (7 : Int32)))).toNatClampNeg) <<< (((3 : Int32) * x5) &&& 31)))), some (vI (x5 + (1 : Int32)))], [], σ) := by
  refine (e_n 4 (fr' := (127, 13, [some (vR 10 0 0), some (vI x1), some (vI x2), some (vR 10 0 3), some (vI x4), some (vI x5)], [vI x1, vR 10 0 1, vI x5], σ)) rfl).trans ?_
  refine (e_a (A := (127, 14, [some (vR 10 0 0), some (vI x1), some (vI x2), some (vR 10 0 3), some (vI x4), some (vI x5)], [vI (σ.1 10 0 0 (x1).toNatClampNeg), vI x5], σ)) rfl h1).trans ?_
  refine (e_f (B := (127, 17, [some (vR 10 0 0), some (vI x1), some (vI x2), some (vR 10 0 3), some (vI x4), some (vI x5)], [], σ)) rfl h2).trans ?_
  refine (e_n 13 (fr' := (127, 34, [some (vR 10 0 0), some (vI x1), some (vI x2), some (vR 10 0 3), some (vI x4), some (vI x5)], [vI (((8 : Int32) * x1) + ((x2 >>> (((3 : Int32) * x5) &&& 31)) &&& (7 : Int32))), vR 10 0 3, vI x4], σ)) rfl).trans ?_
  refine (e_a (A := (127, 35, [some (vR 10 0 0), some (vI x1), some (vI x2), some (vR 10 0 3), some (vI x4), some (vI x5)], [vI (σ.1 10 0 2 ((((8 : Int32) * x1) + ((x2 >>> (((3 : Int32) * x5) &&& 31)) &&& (7 : Int32)))).toNatClampNeg), vI x4], σ)) rfl h3).trans ?_
  exact e_n 8 rfl
set_option maxRecDepth 20000 in
theorem g127c_0_0 (C : pmC) {σ : pmS} {x1 : Int32} {x2 : Int32} {l4 : Option pmV} {l5 : Option pmV}  : pq_Rn C (127, 0, [some (vR 10 0 0), some (vI x1), some (vI x2), some (vR 10 0 4), l4, l5], [], σ) = pq_Rn C (127, 6, [some (vR 10 0 0), some (vI x1), some (vI x2), some (vR 10 0 4), some (vI (0 : Int32)), some (vI (0 : Int32))], [], σ) := by
  exact e_n 4 rfl
set_option maxRecDepth 20000 in
theorem g127c_6_0 (C : pmC) {σ : pmS} {x1 : Int32} {x2 : Int32} {x4 : Int32} {x5 : Int32} (h1 : vp_in x1 4) (h2 : (σ.1 10 0 0 (x1).toNatClampNeg) ≤ x5) : pq_Rn C (127, 6, [some (vR 10 0 0), some (vI x1), some (vI x2), some (vR 10 0 4), some (vI x4), some (vI x5)], [], σ) = some (some (vI x4), σ) := by
  refine (e_n 4 (fr' := (127, 13, [some (vR 10 0 0), some (vI x1), some (vI x2), some (vR 10 0 4), some (vI x4), some (vI x5)], [vI x1, vR 10 0 1, vI x5], σ)) rfl).trans ?_
  refine (e_a (A := (127, 14, [some (vR 10 0 0), some (vI x1), some (vI x2), some (vR 10 0 4), some (vI x4), some (vI x5)], [vI (σ.1 10 0 0 (x1).toNatClampNeg), vI x5], σ)) rfl h1).trans ?_
  refine (e_t (A := (127, 49, [some (vR 10 0 0), some (vI x1), some (vI x2), some (vR 10 0 4), some (vI x4), some (vI x5)], [], σ)) rfl h2).trans ?_
  refine (e_n 1 (fr' := (127, 51, [some (vR 10 0 0), some (vI x1), some (vI x2), some (vR 10 0 4), some (vI x4), some (vI x5)], [vI x4], σ)) rfl).trans ?_
  exact e_r rfl
set_option maxRecDepth 20000 in
theorem g127c_6_1 (C : pmC) {σ : pmS} {x1 : Int32} {x2 : Int32} {x4 : Int32} {x5 : Int32} (h1 : vp_in x1 4) (h2 : ¬ (σ.1 10 0 0 (x1).toNatClampNeg) ≤ x5) (h3 : vp_in (((8 : Int32) * x1) + ((x2 >>> (((3 : Int32) * x5) &&& 31)) &&& (7 : Int32))) 32) : pq_Rn C (127, 6, [some (vR 10 0 0), some (vI x1), some (vI x2), some (vR 10 0 4), some (vI x4), some (vI x5)], [], σ) = pq_Rn C (127, 6, [some (vR 10 0 0), some (vI x1), some (vI x2), some (vR 10 0 4), some (vI (x4 ||| ((σ.1 10 0 3 ((((8 : Int32) * x1) + ((x2 >>> (((3 : Int32) * x5) &&& 31)) &&& (7 : Int32)))).toNatClampNeg) <<< (((3 : Int32) * x5) &&& 31)))), some (vI (x5 + (1 : Int32)))], [], σ) := by
  refine (e_n 4 (fr' := (127, 13, [some (vR 10 0 0), some (vI x1), some (vI x2), some (vR 10 0 4), some (vI x4), some (vI x5)], [vI x1, vR 10 0 1, vI x5], σ)) rfl).trans ?_
  refine (e_a (A := (127, 14, [some (vR 10 0 0), some (vI x1), some (vI x2), some (vR 10 0 4), some (vI x4), some (vI x5)], [vI (σ.1 10 0 0 (x1).toNatClampNeg), vI x5], σ)) rfl h1).trans ?_
  refine (e_f (B := (127, 17, [some (vR 10 0 0), some (vI x1), some (vI x2), some (vR 10 0 4), some (vI x4), some (vI x5)], [], σ)) rfl h2).trans ?_
  refine (e_n 13 (fr' := (127, 34, [some (vR 10 0 0), some (vI x1), some (vI x2), some (vR 10 0 4), some (vI x4), some (vI x5)], [vI (((8 : Int32) * x1) + ((x2 >>> (((3 : Int32) * x5) &&& 31)) &&& (7 : Int32))), vR 10 0 4, vI x4], σ)) rfl).trans ?_
  refine (e_a (A := (127, 35, [some (vR 10 0 0), some (vI x1), some (vI x2), some (vR 10 0 4), some (vI x4), some (vI x5)], [vI (σ.1 10 0 3 ((((8 : Int32) * x1) + ((x2 >>> (((3 : Int32) * x5) &&& 31)) &&& (7 : Int32)))).toNatClampNeg), vI x4], σ)) rfl h3).trans ?_
  exact e_n 8 rfl
set_option maxRecDepth 20000 in
theorem g128_0_0 (C : pmC) {σ : pmS} {x1 : Int32} {x2 : Int32} {l3 : Option pmV}  : pq_Rn C (128, 0, [some (vR 10 0 0), some (vI x1), some (vI x2), l3], [], σ) = pq_Rn C (128, 2, [some (vR 10 0 0), some (vI x1), some (vI x2), some (vI (0 : Int32))], [], σ) := by
  exact e_n 2 rfl
set_option maxRecDepth 20000 in
theorem g128_2_0 (C : pmC) {σ : pmS} {x1 : Int32} {x2 : Int32} {x3 : Int32} (h1 : x2 ≤ x3) : pq_Rn C (128, 2, [some (vR 10 0 0), some (vI x1), some (vI x2), some (vI x3)], [], σ) = some (some (vI (1 : Int32)), σ) := by
  refine (e_n 2 (fr' := (128, 4, [some (vR 10 0 0), some (vI x1), some (vI x2), some (vI x3)], [vI x2, vI x3], σ)) rfl).trans ?_
  refine (e_t (A := (128, 25, [some (vR 10 0 0), some (vI x1), some (vI x2), some (vI x3)], [], σ)) rfl h1).trans ?_
  refine (e_n 1 (fr' := (128, 26, [some (vR 10 0 0), some (vI x1), some (vI x2), some (vI x3)], [vI (1 : Int32)], σ)) rfl).trans ?_
  exact e_r rfl
set_option maxRecDepth 20000 in
theorem g128_2_1 (C : pmC) {σ : pmS} {x1 : Int32} {x2 : Int32} {x3 : Int32} (h1 : ¬ x2 ≤ x3) (h2 : vp_in x3 1000) (h3 : (σ.1 10 0 10 (x3).toNatClampNeg) = x1) : pq_Rn C (128, 2, [some (vR 10 0 0), some (vI x1), some (vI x2), some (vI x3)], [], σ) = some (some (vI (0 : Int32)), σ) := by
  refine (e_n 2 (fr' := (128, 4, [some (vR 10 0 0), some (vI x1), some (vI x2), some (vI x3)], [vI x2, vI x3], σ)) rfl).trans ?_
  refine (e_f (B := (128, 7, [some (vR 10 0 0), some (vI x1), some (vI x2), some (vI x3)], [], σ)) rfl h1).trans ?_
  refine (e_n 3 (fr' := (128, 12, [some (vR 10 0 0), some (vI x1), some (vI x2), some (vI x3)], [vI x3, vR 10 0 11], σ)) rfl).trans ?_
  refine (e_a (A := (128, 13, [some (vR 10 0 0), some (vI x1), some (vI x2), some (vI x3)], [vI (σ.1 10 0 10 (x3).toNatClampNeg)], σ)) rfl h2).trans ?_
  refine (e_n 1 (fr' := (128, 14, [some (vR 10 0 0), some (vI x1), some (vI x2), some (vI x3)], [vI x1, vI (σ.1 10 0 10 (x3).toNatClampNeg)], σ)) rfl).trans ?_
  refine (e_t (A := (128, 17, [some (vR 10 0 0), some (vI x1), some (vI x2), some (vI x3)], [], σ)) rfl h3).trans ?_
  refine (e_n 1 (fr' := (128, 18, [some (vR 10 0 0), some (vI x1), some (vI x2), some (vI x3)], [vI (0 : Int32)], σ)) rfl).trans ?_
  exact e_r rfl
set_option maxRecDepth 20000 in
theorem g128_2_2 (C : pmC) {σ : pmS} {x1 : Int32} {x2 : Int32} {x3 : Int32} (h1 : ¬ x2 ≤ x3) (h2 : vp_in x3 1000) (h3 : ¬ (σ.1 10 0 10 (x3).toNatClampNeg) = x1) : pq_Rn C (128, 2, [some (vR 10 0 0), some (vI x1), some (vI x2), some (vI x3)], [], σ) = pq_Rn C (128, 2, [some (vR 10 0 0), some (vI x1), some (vI x2), some (vI (x3 + (1 : Int32)))], [], σ) := by
  refine (e_n 2 (fr' := (128, 4, [some (vR 10 0 0), some (vI x1), some (vI x2), some (vI x3)], [vI x2, vI x3], σ)) rfl).trans ?_
  refine (e_f (B := (128, 7, [some (vR 10 0 0), some (vI x1), some (vI x2), some (vI x3)], [], σ)) rfl h1).trans ?_
  refine (e_n 3 (fr' := (128, 12, [some (vR 10 0 0), some (vI x1), some (vI x2), some (vI x3)], [vI x3, vR 10 0 11], σ)) rfl).trans ?_
  refine (e_a (A := (128, 13, [some (vR 10 0 0), some (vI x1), some (vI x2), some (vI x3)], [vI (σ.1 10 0 10 (x3).toNatClampNeg)], σ)) rfl h2).trans ?_
  refine (e_n 1 (fr' := (128, 14, [some (vR 10 0 0), some (vI x1), some (vI x2), some (vI x3)], [vI x1, vI (σ.1 10 0 10 (x3).toNatClampNeg)], σ)) rfl).trans ?_
  refine (e_f (B := (128, 19, [some (vR 10 0 0), some (vI x1), some (vI x2), some (vI x3)], [], σ)) rfl h3).trans ?_
  exact e_n 2 rfl
set_option maxRecDepth 20000 in
theorem g129_0_0 (C : pmC) {σ : pmS} {x1 : Int32} {l2 : Option pmV} {l3 : Option pmV} {l4 : Option pmV} {l5 : Option pmV} {σ1 : pmS} {r1 : Int32} (h1 : C 106 [vR 10 0 0, vI x1] σ = some (some (vI r1), σ1)) (h2 : r1 = 0) : pq_Rn C (129, 0, [some (vR 10 0 0), some (vI x1), l2, l3, l4, l5], [], σ) = some (some (vI (-1 : Int32)), σ1) := by
  refine (e_n 2 (fr' := (129, 2, [some (vR 10 0 0), some (vI x1), l2, l3, l4, l5], [vI x1, vR 10 0 0], σ)) rfl).trans ?_
  refine (e_ci (m := 129) (pc := 5) (ls := [some (vR 10 0 0), some (vI x1), l2, l3, l4, l5]) (rest := []) rfl h1).trans ?_
  refine (e_t (A := (129, 8, [some (vR 10 0 0), some (vI x1), l2, l3, l4, l5], [], σ1)) rfl h2).trans ?_
  refine (e_n 1 (fr' := (129, 9, [some (vR 10 0 0), some (vI x1), l2, l3, l4, l5], [vI (-1 : Int32)], σ1)) rfl).trans ?_
  exact e_r rfl
set_option maxRecDepth 20000 in
theorem g129_0_1 (C : pmC) {σ : pmS} {x1 : Int32} {l2 : Option pmV} {l3 : Option pmV} {l4 : Option pmV} {l5 : Option pmV} {σ1 : pmS} {r1 : Int32} (h1 : C 106 [vR 10 0 0, vI x1] σ = some (some (vI r1), σ1)) (h2 : ¬ r1 = 0) : pq_Rn C (129, 0, [some (vR 10 0 0), some (vI x1), l2, l3, l4, l5], [], σ) = pq_Rn C (129, 21, [some (vR 10 0 0), some (vI x1), some (vI (1 : Int32)), some (vI (0 : Int32)), l4, l5], [], (pm_wi σ1 10 0 10 ((0 : Int32)).toNatClampNeg (0 : Int32))) := by
  refine (e_n 2 (fr' := (129, 2, [some (vR 10 0 0), some (vI x1), l2, l3, l4, l5], [vI x1, vR 10 0 0], σ)) rfl).trans ?_
  refine (e_ci (m := 129) (pc := 5) (ls := [some (vR 10 0 0), some (vI x1), l2, l3, l4, l5]) (rest := []) rfl h1).trans ?_
  refine (e_f (B := (129, 10, [some (vR 10 0 0), some (vI x1), l2, l3, l4, l5], [], σ1)) rfl h2).trans ?_
  exact e_n 9 rfl
set_option maxRecDepth 20000 in
theorem g129_21_0 (C : pmC) {σ : pmS} {x1 : Int32} {x2 : Int32} {x3 : Int32} {l4 : Option pmV} {l5 : Option pmV} (h1 : vp_in x1 4) (h2 : (σ.1 10 0 0 (x1).toNatClampNeg) ≤ x3) : pq_Rn C (129, 21, [some (vR 10 0 0), some (vI x1), some (vI x2), some (vI x3), l4, l5], [], σ) = pq_Rn C (129, 53, [some (vR 10 0 0), some (vI x1), some (vI x2), some (vI (0 : Int32)), l4, l5], [], σ) := by
  refine (e_n 4 (fr' := (129, 27, [some (vR 10 0 0), some (vI x1), some (vI x2), some (vI x3), l4, l5], [vI x1, vR 10 0 1, vI x3], σ)) rfl).trans ?_
  refine (e_a (A := (129, 28, [some (vR 10 0 0), some (vI x1), some (vI x2), some (vI x3), l4, l5], [vI (σ.1 10 0 0 (x1).toNatClampNeg), vI x3], σ)) rfl h1).trans ?_
  refine (e_t (A := (129, 51, [some (vR 10 0 0), some (vI x1), some (vI x2), some (vI x3), l4, l5], [], σ)) rfl h2).trans ?_
  exact e_n 2 rfl
set_option maxRecDepth 20000 in
theorem g129_21_1 (C : pmC) {σ : pmS} {x1 : Int32} {x2 : Int32} {x3 : Int32} {l4 : Option pmV} {l5 : Option pmV} (h1 : vp_in x1 4) (h2 : ¬ (σ.1 10 0 0 (x1).toNatClampNeg) ≤ x3) : pq_Rn C (129, 21, [some (vR 10 0 0), some (vI x1), some (vI x2), some (vI x3), l4, l5], [], σ) = pq_Rn C (129, 21, [some (vR 10 0 0), some (vI x1), some (vI x2), some (vI (x3 + (1 : Int32))), l4, l5], [], (pm_wi σ 10 0 10 ((0 : Int32)).toNatClampNeg ((σ.1 10 0 10 ((0 : Int32)).toNatClampNeg) ||| (x3 <<< (((3 : Int32) * x3) &&& 31))))) := by
  refine (e_n 4 (fr' := (129, 27, [some (vR 10 0 0), some (vI x1), some (vI x2), some (vI x3), l4, l5], [vI x1, vR 10 0 1, vI x3], σ)) rfl).trans ?_
  refine (e_a (A := (129, 28, [some (vR 10 0 0), some (vI x1), some (vI x2), some (vI x3), l4, l5], [vI (σ.1 10 0 0 (x1).toNatClampNeg), vI x3], σ)) rfl h1).trans ?_
  refine (e_f (B := (129, 31, [some (vR 10 0 0), some (vI x1), some (vI x2), some (vI x3), l4, l5], [], σ)) rfl h2).trans ?_
  exact e_n 14 rfl
set_option maxRecDepth 20000 in
theorem g129_53_0 (C : pmC) {σ : pmS} {x1 : Int32} {x2 : Int32} {x3 : Int32} {l4 : Option pmV} {l5 : Option pmV} (h1 : x2 ≤ x3) : pq_Rn C (129, 53, [some (vR 10 0 0), some (vI x1), some (vI x2), some (vI x3), l4, l5], [], σ) = some (some (vI x2), σ) := by
  refine (e_n 2 (fr' := (129, 55, [some (vR 10 0 0), some (vI x1), some (vI x2), some (vI x3), l4, l5], [vI x2, vI x3], σ)) rfl).trans ?_
  refine (e_t (A := (129, 152, [some (vR 10 0 0), some (vI x1), some (vI x2), some (vI x3), l4, l5], [], σ)) rfl h1).trans ?_
  refine (e_n 1 (fr' := (129, 153, [some (vR 10 0 0), some (vI x1), some (vI x2), some (vI x3), l4, l5], [vI x2], σ)) rfl).trans ?_
  exact e_r rfl
set_option maxRecDepth 20000 in
theorem g129_53_1 (C : pmC) {σ : pmS} {x1 : Int32} {x2 : Int32} {x3 : Int32} {l4 : Option pmV} {l5 : Option pmV} (h1 : ¬ x2 ≤ x3) : pq_Rn C (129, 53, [some (vR 10 0 0), some (vI x1), some (vI x2), some (vI x3), l4, l5], [], σ) = pq_Rn C (129, 61, [some (vR 10 0 0), some (vI x1), some (vI x2), some (vI x3), some (vI (0 : Int32)), l5], [], σ) := by
  refine (e_n 2 (fr' := (129, 55, [some (vR 10 0 0), some (vI x1), some (vI x2), some (vI x3), l4, l5], [vI x2, vI x3], σ)) rfl).trans ?_
  refine (e_f (B := (129, 58, [some (vR 10 0 0), some (vI x1), some (vI x2), some (vI x3), l4, l5], [], σ)) rfl h1).trans ?_
  exact e_n 2 rfl
set_option maxRecDepth 20000 in
theorem g129_61_0 (C : pmC) {σ : pmS} {x1 : Int32} {x2 : Int32} {x3 : Int32} {x4 : Int32} {l5 : Option pmV} (h1 : (3 : Int32) ≤ x4) : pq_Rn C (129, 61, [some (vR 10 0 0), some (vI x1), some (vI x2), some (vI x3), some (vI x4), l5], [], σ) = pq_Rn C (129, 53, [some (vR 10 0 0), some (vI x1), some (vI x2), some (vI (x3 + (1 : Int32))), some (vI x4), l5], [], σ) := by
  refine (e_n 2 (fr' := (129, 64, [some (vR 10 0 0), some (vI x1), some (vI x2), some (vI x3), some (vI x4), l5], [vI (3 : Int32), vI x4], σ)) rfl).trans ?_
  refine (e_t (A := (129, 146, [some (vR 10 0 0), some (vI x1), some (vI x2), some (vI x3), some (vI x4), l5], [], σ)) rfl h1).trans ?_
  exact e_n 2 rfl
set_option maxRecDepth 20000 in
theorem g129_61_1 (C : pmC) {σ : pmS} {x1 : Int32} {x2 : Int32} {x3 : Int32} {x4 : Int32} {l5 : Option pmV} (h1 : ¬ (3 : Int32) ≤ x4) (h2 : (1000 : Int32) ≤ x2) : pq_Rn C (129, 61, [some (vR 10 0 0), some (vI x1), some (vI x2), some (vI x3), some (vI x4), l5], [], σ) = pq_Rn C (129, 53, [some (vR 10 0 0), some (vI x1), some (vI x2), some (vI (x3 + (1 : Int32))), some (vI x4), l5], [], σ) := by
  refine (e_n 2 (fr' := (129, 64, [some (vR 10 0 0), some (vI x1), some (vI x2), some (vI x3), some (vI x4), l5], [vI (3 : Int32), vI x4], σ)) rfl).trans ?_
  refine (e_f (B := (129, 67, [some (vR 10 0 0), some (vI x1), some (vI x2), some (vI x3), some (vI x4), l5], [], σ)) rfl h1).trans ?_
  refine (e_n 2 (fr' := (129, 71, [some (vR 10 0 0), some (vI x1), some (vI x2), some (vI x3), some (vI x4), l5], [vI (1000 : Int32), vI x2], σ)) rfl).trans ?_
  refine (e_t (A := (129, 146, [some (vR 10 0 0), some (vI x1), some (vI x2), some (vI x3), some (vI x4), l5], [], σ)) rfl h2).trans ?_
  exact e_n 2 rfl
set_option maxRecDepth 20000 in
theorem g129_61_2 (C : pmC) {σ : pmS} {x1 : Int32} {x2 : Int32} {x3 : Int32} {x4 : Int32} {l5 : Option pmV} {σ1 : pmS} {r1 : Int32} {σ2 : pmS} {r2 : Int32} (h1 : ¬ (3 : Int32) ≤ x4) (h2 : ¬ (1000 : Int32) ≤ x2) (h3 : vp_in x3 1000) (h4 : x4 = 0) (h5 : C 127 [vR 10 0 0, vI x1, vI (σ.1 10 0 10 (x3).toNatClampNeg), vR 10 0 2] σ = some (some (vI r1), σ1)) (h6 : C 128 [vR 10 0 0, vI r1, vI x2] σ1 = some (some (vI r2), σ2)) (h7 : r2 = 0) : pq_Rn C (129, 61, [some (vR 10 0 0), some (vI x1), some (vI x2), some (vI x3), some (vI x4), l5], [], σ) = pq_Rn C (129, 61, [some (vR 10 0 0), some (vI x1), some (vI x2), some (vI x3), some (vI (x4 + (1 : Int32))), some (vI r1)], [], σ2) := by
  refine (e_n 2 (fr' := (129, 64, [some (vR 10 0 0), some (vI x1), some (vI x2), some (vI x3), some (vI x4), l5], [vI (3 : Int32), vI x4], σ)) rfl).trans ?_
  refine (e_f (B := (129, 67, [some (vR 10 0 0), some (vI x1), some (vI x2), some (vI x3), some (vI x4), l5], [], σ)) rfl h1).trans ?_
  refine (e_n 2 (fr' := (129, 71, [some (vR 10 0 0), some (vI x1), some (vI x2), some (vI x3), some (vI x4), l5], [vI (1000 : Int32), vI x2], σ)) rfl).trans ?_
  refine (e_f (B := (129, 74, [some (vR 10 0 0), some (vI x1), some (vI x2), some (vI x3), some (vI x4), l5], [], σ)) rfl h2).trans ?_
  refine (e_n 5 (fr' := (129, 81, [some (vR 10 0 0), some (vI x1), some (vI x2), some (vI x3), some (vI x4), l5], [vI x3, vR 10 0 11, vI x1, vR 10 0 0], σ)) rfl).trans ?_
  refine (e_a (A := (129, 82, [some (vR 10 0 0), some (vI x1), some (vI x2), some (vI x3), some (vI x4), l5], [vI (σ.1 10 0 10 (x3).toNatClampNeg), vI x1, vR 10 0 0], σ)) rfl h3).trans ?_
  refine (e_n 1 (fr' := (129, 84, [some (vR 10 0 0), some (vI x1), some (vI x2), some (vI x3), some (vI x4), l5], [vI x4, vI (σ.1 10 0 10 (x3).toNatClampNeg), vI x1, vR 10 0 0], σ)) rfl).trans ?_
  refine (e_t (A := (129, 87, [some (vR 10 0 0), some (vI x1), some (vI x2), some (vI x3), some (vI x4), l5], [vI (σ.1 10 0 10 (x3).toNatClampNeg), vI x1, vR 10 0 0], σ)) rfl h4).trans ?_
  refine (e_n 3 (fr' := (129, 111, [some (vR 10 0 0), some (vI x1), some (vI x2), some (vI x3), some (vI x4), l5], [vR 10 0 2, vI (σ.1 10 0 10 (x3).toNatClampNeg), vI x1, vR 10 0 0], σ)) rfl).trans ?_
  refine (e_ci (m := 129) (pc := 114) (ls := [some (vR 10 0 0), some (vI x1), some (vI x2), some (vI x3), some (vI x4), l5]) (rest := []) rfl h5).trans ?_
  refine (e_n 4 (fr' := (129, 120, [some (vR 10 0 0), some (vI x1), some (vI x2), some (vI x3), some (vI x4), some (vI r1)], [vI x2, vI r1, vR 10 0 0], σ1)) rfl).trans ?_
  refine (e_ci (m := 129) (pc := 123) (ls := [some (vR 10 0 0), some (vI x1), some (vI x2), some (vI x3), some (vI x4), some (vI r1)]) (rest := []) rfl h6).trans ?_
  refine (e_t (A := (129, 126, [some (vR 10 0 0), some (vI x1), some (vI x2), some (vI x3), some (vI x4), some (vI r1)], [], σ2)) rfl h7).trans ?_
  exact e_n 3 rfl
set_option maxRecDepth 20000 in
theorem g129_61_3 (C : pmC) {σ : pmS} {x1 : Int32} {x2 : Int32} {x3 : Int32} {x4 : Int32} {l5 : Option pmV} {σ1 : pmS} {r1 : Int32} {σ2 : pmS} {r2 : Int32} (h1 : ¬ (3 : Int32) ≤ x4) (h2 : ¬ (1000 : Int32) ≤ x2) (h3 : vp_in x3 1000) (h4 : x4 = 0) (h5 : C 127 [vR 10 0 0, vI x1, vI (σ.1 10 0 10 (x3).toNatClampNeg), vR 10 0 2] σ = some (some (vI r1), σ1)) (h6 : C 128 [vR 10 0 0, vI r1, vI x2] σ1 = some (some (vI r2), σ2)) (h7 : ¬ r2 = 0) (h8 : vp_in x2 1000) : pq_Rn C (129, 61, [some (vR 10 0 0), some (vI x1), some (vI x2), some (vI x3), some (vI x4), l5], [], σ) = pq_Rn C (129, 61, [some (vR 10 0 0), some (vI x1), some (vI (x2 + (1 : Int32))), some (vI x3), some (vI (x4 + (1 : Int32))), some (vI r1)], [], (pm_wi σ2 10 0 10 (x2).toNatClampNeg r1)) := by
  refine (e_n 2 (fr' := (129, 64, [some (vR 10 0 0), some (vI x1), some (vI x2), some (vI x3), some (vI x4), l5], [vI (3 : Int32), vI x4], σ)) rfl).trans ?_
  refine (e_f (B := (129, 67, [some (vR 10 0 0), some (vI x1), some (vI x2), some (vI x3), some (vI x4), l5], [], σ)) rfl h1).trans ?_
  refine (e_n 2 (fr' := (129, 71, [some (vR 10 0 0), some (vI x1), some (vI x2), some (vI x3), some (vI x4), l5], [vI (1000 : Int32), vI x2], σ)) rfl).trans ?_
  refine (e_f (B := (129, 74, [some (vR 10 0 0), some (vI x1), some (vI x2), some (vI x3), some (vI x4), l5], [], σ)) rfl h2).trans ?_
  refine (e_n 5 (fr' := (129, 81, [some (vR 10 0 0), some (vI x1), some (vI x2), some (vI x3), some (vI x4), l5], [vI x3, vR 10 0 11, vI x1, vR 10 0 0], σ)) rfl).trans ?_
  refine (e_a (A := (129, 82, [some (vR 10 0 0), some (vI x1), some (vI x2), some (vI x3), some (vI x4), l5], [vI (σ.1 10 0 10 (x3).toNatClampNeg), vI x1, vR 10 0 0], σ)) rfl h3).trans ?_
  refine (e_n 1 (fr' := (129, 84, [some (vR 10 0 0), some (vI x1), some (vI x2), some (vI x3), some (vI x4), l5], [vI x4, vI (σ.1 10 0 10 (x3).toNatClampNeg), vI x1, vR 10 0 0], σ)) rfl).trans ?_
  refine (e_t (A := (129, 87, [some (vR 10 0 0), some (vI x1), some (vI x2), some (vI x3), some (vI x4), l5], [vI (σ.1 10 0 10 (x3).toNatClampNeg), vI x1, vR 10 0 0], σ)) rfl h4).trans ?_
  refine (e_n 3 (fr' := (129, 111, [some (vR 10 0 0), some (vI x1), some (vI x2), some (vI x3), some (vI x4), l5], [vR 10 0 2, vI (σ.1 10 0 10 (x3).toNatClampNeg), vI x1, vR 10 0 0], σ)) rfl).trans ?_
  refine (e_ci (m := 129) (pc := 114) (ls := [some (vR 10 0 0), some (vI x1), some (vI x2), some (vI x3), some (vI x4), l5]) (rest := []) rfl h5).trans ?_
  refine (e_n 4 (fr' := (129, 120, [some (vR 10 0 0), some (vI x1), some (vI x2), some (vI x3), some (vI x4), some (vI r1)], [vI x2, vI r1, vR 10 0 0], σ1)) rfl).trans ?_
  refine (e_ci (m := 129) (pc := 123) (ls := [some (vR 10 0 0), some (vI x1), some (vI x2), some (vI x3), some (vI x4), some (vI r1)]) (rest := []) rfl h6).trans ?_
  refine (e_f (B := (129, 129, [some (vR 10 0 0), some (vI x1), some (vI x2), some (vI x3), some (vI x4), some (vI r1)], [], σ2)) rfl h7).trans ?_
  refine (e_n 4 (fr' := (129, 136, [some (vR 10 0 0), some (vI x1), some (vI x2), some (vI x3), some (vI x4), some (vI r1)], [vI r1, vI x2, vR 10 0 11], σ2)) rfl).trans ?_
  refine (e_a (A := (129, 137, [some (vR 10 0 0), some (vI x1), some (vI x2), some (vI x3), some (vI x4), some (vI r1)], [], (pm_wi σ2 10 0 10 (x2).toNatClampNeg r1))) rfl h8).trans ?_
  exact e_n 3 rfl
set_option maxRecDepth 20000 in
theorem g129_61_4 (C : pmC) {σ : pmS} {x1 : Int32} {x2 : Int32} {x3 : Int32} {x4 : Int32} {l5 : Option pmV} {σ1 : pmS} {r1 : Int32} {σ2 : pmS} {r2 : Int32} (h1 : ¬ (3 : Int32) ≤ x4) (h2 : ¬ (1000 : Int32) ≤ x2) (h3 : vp_in x3 1000) (h4 : ¬ x4 = 0) (h5 : x4 = (1 : Int32)) (h6 : C 127 [vR 10 0 0, vI x1, vI (σ.1 10 0 10 (x3).toNatClampNeg), vR 10 0 3] σ = some (some (vI r1), σ1)) (h7 : C 128 [vR 10 0 0, vI r1, vI x2] σ1 = some (some (vI r2), σ2)) (h8 : r2 = 0) : pq_Rn C (129, 61, [some (vR 10 0 0), some (vI x1), some (vI x2), some (vI x3), some (vI x4), l5], [], σ) = pq_Rn C (129, 61, [some (vR 10 0 0), some (vI x1), some (vI x2), some (vI x3), some (vI (x4 + (1 : Int32))), some (vI r1)], [], σ2) := by
  refine (e_n 2 (fr' := (129, 64, [some (vR 10 0 0), some (vI x1), some (vI x2), some (vI x3), some (vI x4), l5], [vI (3 : Int32), vI x4], σ)) rfl).trans ?_
  refine (e_f (B := (129, 67, [some (vR 10 0 0), some (vI x1), some (vI x2), some (vI x3), some (vI x4), l5], [], σ)) rfl h1).trans ?_
  refine (e_n 2 (fr' := (129, 71, [some (vR 10 0 0), some (vI x1), some (vI x2), some (vI x3), some (vI x4), l5], [vI (1000 : Int32), vI x2], σ)) rfl).trans ?_
  refine (e_f (B := (129, 74, [some (vR 10 0 0), some (vI x1), some (vI x2), some (vI x3), some (vI x4), l5], [], σ)) rfl h2).trans ?_
  refine (e_n 5 (fr' := (129, 81, [some (vR 10 0 0), some (vI x1), some (vI x2), some (vI x3), some (vI x4), l5], [vI x3, vR 10 0 11, vI x1, vR 10 0 0], σ)) rfl).trans ?_
  refine (e_a (A := (129, 82, [some (vR 10 0 0), some (vI x1), some (vI x2), some (vI x3), some (vI x4), l5], [vI (σ.1 10 0 10 (x3).toNatClampNeg), vI x1, vR 10 0 0], σ)) rfl h3).trans ?_
  refine (e_n 1 (fr' := (129, 84, [some (vR 10 0 0), some (vI x1), some (vI x2), some (vI x3), some (vI x4), l5], [vI x4, vI (σ.1 10 0 10 (x3).toNatClampNeg), vI x1, vR 10 0 0], σ)) rfl).trans ?_
  refine (e_f (B := (129, 94, [some (vR 10 0 0), some (vI x1), some (vI x2), some (vI x3), some (vI x4), l5], [vI (σ.1 10 0 10 (x3).toNatClampNeg), vI x1, vR 10 0 0], σ)) rfl h4).trans ?_
  refine (e_n 2 (fr' := (129, 97, [some (vR 10 0 0), some (vI x1), some (vI x2), some (vI x3), some (vI x4), l5], [vI (1 : Int32), vI x4, vI (σ.1 10 0 10 (x3).toNatClampNeg), vI x1, vR 10 0 0], σ)) rfl).trans ?_
  refine (e_t (A := (129, 100, [some (vR 10 0 0), some (vI x1), some (vI x2), some (vI x3), some (vI x4), l5], [vI (σ.1 10 0 10 (x3).toNatClampNeg), vI x1, vR 10 0 0], σ)) rfl h5).trans ?_
  refine (e_n 3 (fr' := (129, 111, [some (vR 10 0 0), some (vI x1), some (vI x2), some (vI x3), some (vI x4), l5], [vR 10 0 3, vI (σ.1 10 0 10 (x3).toNatClampNeg), vI x1, vR 10 0 0], σ)) rfl).trans ?_
  refine (e_ci (m := 129) (pc := 114) (ls := [some (vR 10 0 0), some (vI x1), some (vI x2), some (vI x3), some (vI x4), l5]) (rest := []) rfl h6).trans ?_
  refine (e_n 4 (fr' := (129, 120, [some (vR 10 0 0), some (vI x1), some (vI x2), some (vI x3), some (vI x4), some (vI r1)], [vI x2, vI r1, vR 10 0 0], σ1)) rfl).trans ?_
  refine (e_ci (m := 129) (pc := 123) (ls := [some (vR 10 0 0), some (vI x1), some (vI x2), some (vI x3), some (vI x4), some (vI r1)]) (rest := []) rfl h7).trans ?_
  refine (e_t (A := (129, 126, [some (vR 10 0 0), some (vI x1), some (vI x2), some (vI x3), some (vI x4), some (vI r1)], [], σ2)) rfl h8).trans ?_
  exact e_n 3 rfl
set_option maxRecDepth 20000 in
theorem g129_61_5 (C : pmC) {σ : pmS} {x1 : Int32} {x2 : Int32} {x3 : Int32} {x4 : Int32} {l5 : Option pmV} {σ1 : pmS} {r1 : Int32} {σ2 : pmS} {r2 : Int32} (h1 : ¬ (3 : Int32) ≤ x4) (h2 : ¬ (1000 : Int32) ≤ x2) (h3 : vp_in x3 1000) (h4 : ¬ x4 = 0) (h5 : x4 = (1 : Int32)) (h6 : C 127 [vR 10 0 0, vI x1, vI (σ.1 10 0 10 (x3).toNatClampNeg), vR 10 0 3] σ = some (some (vI r1), σ1)) (h7 : C 128 [vR 10 0 0, vI r1, vI x2] σ1 = some (some (vI r2), σ2)) (h8 : ¬ r2 = 0) (h9 : vp_in x2 1000) : pq_Rn C (129, 61, [some (vR 10 0 0), some (vI x1), some (vI x2), some (vI x3), some (vI x4), l5], [], σ) = pq_Rn C (129, 61, [some (vR 10 0 0), some (vI x1), some (vI (x2 + (1 : Int32))), some (vI x3), some (vI (x4 + (1 : Int32))), some (vI r1)], [], (pm_wi σ2 10 0 10 (x2).toNatClampNeg r1)) := by
  refine (e_n 2 (fr' := (129, 64, [some (vR 10 0 0), some (vI x1), some (vI x2), some (vI x3), some (vI x4), l5], [vI (3 : Int32), vI x4], σ)) rfl).trans ?_
  refine (e_f (B := (129, 67, [some (vR 10 0 0), some (vI x1), some (vI x2), some (vI x3), some (vI x4), l5], [], σ)) rfl h1).trans ?_
  refine (e_n 2 (fr' := (129, 71, [some (vR 10 0 0), some (vI x1), some (vI x2), some (vI x3), some (vI x4), l5], [vI (1000 : Int32), vI x2], σ)) rfl).trans ?_
  refine (e_f (B := (129, 74, [some (vR 10 0 0), some (vI x1), some (vI x2), some (vI x3), some (vI x4), l5], [], σ)) rfl h2).trans ?_
  refine (e_n 5 (fr' := (129, 81, [some (vR 10 0 0), some (vI x1), some (vI x2), some (vI x3), some (vI x4), l5], [vI x3, vR 10 0 11, vI x1, vR 10 0 0], σ)) rfl).trans ?_
  refine (e_a (A := (129, 82, [some (vR 10 0 0), some (vI x1), some (vI x2), some (vI x3), some (vI x4), l5], [vI (σ.1 10 0 10 (x3).toNatClampNeg), vI x1, vR 10 0 0], σ)) rfl h3).trans ?_
  refine (e_n 1 (fr' := (129, 84, [some (vR 10 0 0), some (vI x1), some (vI x2), some (vI x3), some (vI x4), l5], [vI x4, vI (σ.1 10 0 10 (x3).toNatClampNeg), vI x1, vR 10 0 0], σ)) rfl).trans ?_
  refine (e_f (B := (129, 94, [some (vR 10 0 0), some (vI x1), some (vI x2), some (vI x3), some (vI x4), l5], [vI (σ.1 10 0 10 (x3).toNatClampNeg), vI x1, vR 10 0 0], σ)) rfl h4).trans ?_
  refine (e_n 2 (fr' := (129, 97, [some (vR 10 0 0), some (vI x1), some (vI x2), some (vI x3), some (vI x4), l5], [vI (1 : Int32), vI x4, vI (σ.1 10 0 10 (x3).toNatClampNeg), vI x1, vR 10 0 0], σ)) rfl).trans ?_
  refine (e_t (A := (129, 100, [some (vR 10 0 0), some (vI x1), some (vI x2), some (vI x3), some (vI x4), l5], [vI (σ.1 10 0 10 (x3).toNatClampNeg), vI x1, vR 10 0 0], σ)) rfl h5).trans ?_
  refine (e_n 3 (fr' := (129, 111, [some (vR 10 0 0), some (vI x1), some (vI x2), some (vI x3), some (vI x4), l5], [vR 10 0 3, vI (σ.1 10 0 10 (x3).toNatClampNeg), vI x1, vR 10 0 0], σ)) rfl).trans ?_
  refine (e_ci (m := 129) (pc := 114) (ls := [some (vR 10 0 0), some (vI x1), some (vI x2), some (vI x3), some (vI x4), l5]) (rest := []) rfl h6).trans ?_
  refine (e_n 4 (fr' := (129, 120, [some (vR 10 0 0), some (vI x1), some (vI x2), some (vI x3), some (vI x4), some (vI r1)], [vI x2, vI r1, vR 10 0 0], σ1)) rfl).trans ?_
  refine (e_ci (m := 129) (pc := 123) (ls := [some (vR 10 0 0), some (vI x1), some (vI x2), some (vI x3), some (vI x4), some (vI r1)]) (rest := []) rfl h7).trans ?_
  refine (e_f (B := (129, 129, [some (vR 10 0 0), some (vI x1), some (vI x2), some (vI x3), some (vI x4), some (vI r1)], [], σ2)) rfl h8).trans ?_
  refine (e_n 4 (fr' := (129, 136, [some (vR 10 0 0), some (vI x1), some (vI x2), some (vI x3), some (vI x4), some (vI r1)], [vI r1, vI x2, vR 10 0 11], σ2)) rfl).trans ?_
  refine (e_a (A := (129, 137, [some (vR 10 0 0), some (vI x1), some (vI x2), some (vI x3), some (vI x4), some (vI r1)], [], (pm_wi σ2 10 0 10 (x2).toNatClampNeg r1))) rfl h9).trans ?_
  exact e_n 3 rfl
set_option maxRecDepth 20000 in
theorem g129_61_6 (C : pmC) {σ : pmS} {x1 : Int32} {x2 : Int32} {x3 : Int32} {x4 : Int32} {l5 : Option pmV} {σ1 : pmS} {r1 : Int32} {σ2 : pmS} {r2 : Int32} (h1 : ¬ (3 : Int32) ≤ x4) (h2 : ¬ (1000 : Int32) ≤ x2) (h3 : vp_in x3 1000) (h4 : ¬ x4 = 0) (h5 : ¬ x4 = (1 : Int32)) (h6 : C 127 [vR 10 0 0, vI x1, vI (σ.1 10 0 10 (x3).toNatClampNeg), vR 10 0 4] σ = some (some (vI r1), σ1)) (h7 : C 128 [vR 10 0 0, vI r1, vI x2] σ1 = some (some (vI r2), σ2)) (h8 : r2 = 0) : pq_Rn C (129, 61, [some (vR 10 0 0), some (vI x1), some (vI x2), some (vI x3), some (vI x4), l5], [], σ) = pq_Rn C (129, 61, [some (vR 10 0 0), some (vI x1), some (vI x2), some (vI x3), some (vI (x4 + (1 : Int32))), some (vI r1)], [], σ2) := by
  refine (e_n 2 (fr' := (129, 64, [some (vR 10 0 0), some (vI x1), some (vI x2), some (vI x3), some (vI x4), l5], [vI (3 : Int32), vI x4], σ)) rfl).trans ?_
  refine (e_f (B := (129, 67, [some (vR 10 0 0), some (vI x1), some (vI x2), some (vI x3), some (vI x4), l5], [], σ)) rfl h1).trans ?_
  refine (e_n 2 (fr' := (129, 71, [some (vR 10 0 0), some (vI x1), some (vI x2), some (vI x3), some (vI x4), l5], [vI (1000 : Int32), vI x2], σ)) rfl).trans ?_
  refine (e_f (B := (129, 74, [some (vR 10 0 0), some (vI x1), some (vI x2), some (vI x3), some (vI x4), l5], [], σ)) rfl h2).trans ?_
  refine (e_n 5 (fr' := (129, 81, [some (vR 10 0 0), some (vI x1), some (vI x2), some (vI x3), some (vI x4), l5], [vI x3, vR 10 0 11, vI x1, vR 10 0 0], σ)) rfl).trans ?_
  refine (e_a (A := (129, 82, [some (vR 10 0 0), some (vI x1), some (vI x2), some (vI x3), some (vI x4), l5], [vI (σ.1 10 0 10 (x3).toNatClampNeg), vI x1, vR 10 0 0], σ)) rfl h3).trans ?_
  refine (e_n 1 (fr' := (129, 84, [some (vR 10 0 0), some (vI x1), some (vI x2), some (vI x3), some (vI x4), l5], [vI x4, vI (σ.1 10 0 10 (x3).toNatClampNeg), vI x1, vR 10 0 0], σ)) rfl).trans ?_
  refine (e_f (B := (129, 94, [some (vR 10 0 0), some (vI x1), some (vI x2), some (vI x3), some (vI x4), l5], [vI (σ.1 10 0 10 (x3).toNatClampNeg), vI x1, vR 10 0 0], σ)) rfl h4).trans ?_
  refine (e_n 2 (fr' := (129, 97, [some (vR 10 0 0), some (vI x1), some (vI x2), some (vI x3), some (vI x4), l5], [vI (1 : Int32), vI x4, vI (σ.1 10 0 10 (x3).toNatClampNeg), vI x1, vR 10 0 0], σ)) rfl).trans ?_
  refine (e_f (B := (129, 107, [some (vR 10 0 0), some (vI x1), some (vI x2), some (vI x3), some (vI x4), l5], [vI (σ.1 10 0 10 (x3).toNatClampNeg), vI x1, vR 10 0 0], σ)) rfl h5).trans ?_
  refine (e_n 2 (fr' := (129, 111, [some (vR 10 0 0), some (vI x1), some (vI x2), some (vI x3), some (vI x4), l5], [vR 10 0 4, vI (σ.1 10 0 10 (x3).toNatClampNeg), vI x1, vR 10 0 0], σ)) rfl).trans ?_
  refine (e_ci (m := 129) (pc := 114) (ls := [some (vR 10 0 0), some (vI x1), some (vI x2), some (vI x3), some (vI x4), l5]) (rest := []) rfl h6).trans ?_
  refine (e_n 4 (fr' := (129, 120, [some (vR 10 0 0), some (vI x1), some (vI x2), some (vI x3), some (vI x4), some (vI r1)], [vI x2, vI r1, vR 10 0 0], σ1)) rfl).trans ?_
  refine (e_ci (m := 129) (pc := 123) (ls := [some (vR 10 0 0), some (vI x1), some (vI x2), some (vI x3), some (vI x4), some (vI r1)]) (rest := []) rfl h7).trans ?_
  refine (e_t (A := (129, 126, [some (vR 10 0 0), some (vI x1), some (vI x2), some (vI x3), some (vI x4), some (vI r1)], [], σ2)) rfl h8).trans ?_
  exact e_n 3 rfl
set_option maxRecDepth 20000 in
theorem g129_61_7 (C : pmC) {σ : pmS} {x1 : Int32} {x2 : Int32} {x3 : Int32} {x4 : Int32} {l5 : Option pmV} {σ1 : pmS} {r1 : Int32} {σ2 : pmS} {r2 : Int32} (h1 : ¬ (3 : Int32) ≤ x4) (h2 : ¬ (1000 : Int32) ≤ x2) (h3 : vp_in x3 1000) (h4 : ¬ x4 = 0) (h5 : ¬ x4 = (1 : Int32)) (h6 : C 127 [vR 10 0 0, vI x1, vI (σ.1 10 0 10 (x3).toNatClampNeg), vR 10 0 4] σ = some (some (vI r1), σ1)) (h7 : C 128 [vR 10 0 0, vI r1, vI x2] σ1 = some (some (vI r2), σ2)) (h8 : ¬ r2 = 0) (h9 : vp_in x2 1000) : pq_Rn C (129, 61, [some (vR 10 0 0), some (vI x1), some (vI x2), some (vI x3), some (vI x4), l5], [], σ) = pq_Rn C (129, 61, [some (vR 10 0 0), some (vI x1), some (vI (x2 + (1 : Int32))), some (vI x3), some (vI (x4 + (1 : Int32))), some (vI r1)], [], (pm_wi σ2 10 0 10 (x2).toNatClampNeg r1)) := by
  refine (e_n 2 (fr' := (129, 64, [some (vR 10 0 0), some (vI x1), some (vI x2), some (vI x3), some (vI x4), l5], [vI (3 : Int32), vI x4], σ)) rfl).trans ?_
  refine (e_f (B := (129, 67, [some (vR 10 0 0), some (vI x1), some (vI x2), some (vI x3), some (vI x4), l5], [], σ)) rfl h1).trans ?_
  refine (e_n 2 (fr' := (129, 71, [some (vR 10 0 0), some (vI x1), some (vI x2), some (vI x3), some (vI x4), l5], [vI (1000 : Int32), vI x2], σ)) rfl).trans ?_
  refine (e_f (B := (129, 74, [some (vR 10 0 0), some (vI x1), some (vI x2), some (vI x3), some (vI x4), l5], [], σ)) rfl h2).trans ?_
  refine (e_n 5 (fr' := (129, 81, [some (vR 10 0 0), some (vI x1), some (vI x2), some (vI x3), some (vI x4), l5], [vI x3, vR 10 0 11, vI x1, vR 10 0 0], σ)) rfl).trans ?_
  refine (e_a (A := (129, 82, [some (vR 10 0 0), some (vI x1), some (vI x2), some (vI x3), some (vI x4), l5], [vI (σ.1 10 0 10 (x3).toNatClampNeg), vI x1, vR 10 0 0], σ)) rfl h3).trans ?_
  refine (e_n 1 (fr' := (129, 84, [some (vR 10 0 0), some (vI x1), some (vI x2), some (vI x3), some (vI x4), l5], [vI x4, vI (σ.1 10 0 10 (x3).toNatClampNeg), vI x1, vR 10 0 0], σ)) rfl).trans ?_
  refine (e_f (B := (129, 94, [some (vR 10 0 0), some (vI x1), some (vI x2), some (vI x3), some (vI x4), l5], [vI (σ.1 10 0 10 (x3).toNatClampNeg), vI x1, vR 10 0 0], σ)) rfl h4).trans ?_
  refine (e_n 2 (fr' := (129, 97, [some (vR 10 0 0), some (vI x1), some (vI x2), some (vI x3), some (vI x4), l5], [vI (1 : Int32), vI x4, vI (σ.1 10 0 10 (x3).toNatClampNeg), vI x1, vR 10 0 0], σ)) rfl).trans ?_
  refine (e_f (B := (129, 107, [some (vR 10 0 0), some (vI x1), some (vI x2), some (vI x3), some (vI x4), l5], [vI (σ.1 10 0 10 (x3).toNatClampNeg), vI x1, vR 10 0 0], σ)) rfl h5).trans ?_
  refine (e_n 2 (fr' := (129, 111, [some (vR 10 0 0), some (vI x1), some (vI x2), some (vI x3), some (vI x4), l5], [vR 10 0 4, vI (σ.1 10 0 10 (x3).toNatClampNeg), vI x1, vR 10 0 0], σ)) rfl).trans ?_
  refine (e_ci (m := 129) (pc := 114) (ls := [some (vR 10 0 0), some (vI x1), some (vI x2), some (vI x3), some (vI x4), l5]) (rest := []) rfl h6).trans ?_
  refine (e_n 4 (fr' := (129, 120, [some (vR 10 0 0), some (vI x1), some (vI x2), some (vI x3), some (vI x4), some (vI r1)], [vI x2, vI r1, vR 10 0 0], σ1)) rfl).trans ?_
  refine (e_ci (m := 129) (pc := 123) (ls := [some (vR 10 0 0), some (vI x1), some (vI x2), some (vI x3), some (vI x4), some (vI r1)]) (rest := []) rfl h7).trans ?_
  refine (e_f (B := (129, 129, [some (vR 10 0 0), some (vI x1), some (vI x2), some (vI x3), some (vI x4), some (vI r1)], [], σ2)) rfl h8).trans ?_
  refine (e_n 4 (fr' := (129, 136, [some (vR 10 0 0), some (vI x1), some (vI x2), some (vI x3), some (vI x4), some (vI r1)], [vI r1, vI x2, vR 10 0 11], σ2)) rfl).trans ?_
  refine (e_a (A := (129, 137, [some (vR 10 0 0), some (vI x1), some (vI x2), some (vI x3), some (vI x4), some (vI r1)], [], (pm_wi σ2 10 0 10 (x2).toNatClampNeg r1))) rfl h9).trans ?_
  exact e_n 3 rfl
set_option maxRecDepth 20000 in
theorem g130_0_0 (C : pmC) {σ : pmS} {x1 : Int32} {x2 : Int32} {l3 : Option pmV} {l4 : Option pmV} {l5 : Option pmV}  : pq_Rn C (130, 0, [some (vR 10 0 0), some (vI x1), some (vI x2), l3, l4, l5], [], σ) = pq_Rn C (130, 6, [some (vR 10 0 0), some (vI x1), some (vI x2), some (vI (7 : Int32)), some (vI (0 : Int32)), l5], [], σ) := by
  exact e_n 4 rfl
set_option maxRecDepth 20000 in
theorem g130_6_0 (C : pmC) {σ : pmS} {x1 : Int32} {x2 : Int32} {x3 : Int32} {x4 : Int32} {l5 : Option pmV} (h1 : vp_in x1 4) (h2 : (σ.1 10 0 0 (x1).toNatClampNeg) ≤ x4) : pq_Rn C (130, 6, [some (vR 10 0 0), some (vI x1), some (vI x2), some (vI x3), some (vI x4), l5], [], σ) = some (some (vI x3), σ) := by
  refine (e_n 4 (fr' := (130, 13, [some (vR 10 0 0), some (vI x1), some (vI x2), some (vI x3), some (vI x4), l5], [vI x1, vR 10 0 1, vI x4], σ)) rfl).trans ?_
  refine (e_a (A := (130, 14, [some (vR 10 0 0), some (vI x1), some (vI x2), some (vI x3), some (vI x4), l5], [vI (σ.1 10 0 0 (x1).toNatClampNeg), vI x4], σ)) rfl h1).trans ?_
  refine (e_t (A := (130, 107, [some (vR 10 0 0), some (vI x1), some (vI x2), some (vI x3), some (vI x4), l5], [], σ)) rfl h2).trans ?_
  refine (e_n 1 (fr' := (130, 108, [some (vR 10 0 0), some (vI x1), some (vI x2), some (vI x3), some (vI x4), l5], [vI x3], σ)) rfl).trans ?_
  exact e_r rfl
set_option maxRecDepth 20000 in
theorem g130_6_1 (C : pmC) {σ : pmS} {x1 : Int32} {x2 : Int32} {x3 : Int32} {x4 : Int32} {l5 : Option pmV} (h1 : vp_in x1 4) (h2 : ¬ (σ.1 10 0 0 (x1).toNatClampNeg) ≤ x4) (h3 : vp_in (((8 : Int32) * x1) + x4) 32) (h4 : ((x2 >>> ((σ.1 10 0 1 ((((8 : Int32) * x1) + x4)).toNatClampNeg) &&& 31)) &&& (1 : Int32)) = ((x2 >>> (x4 &&& 31)) &&& (1 : Int32))) (h5 : ((x2 >>> ((σ.1 10 0 2 ((((8 : Int32) * x1) + x4)).toNatClampNeg) &&& 31)) &&& (1 : Int32)) = ((x2 >>> (x4 &&& 31)) &&& (1 : Int32))) (h6 : ((x2 >>> ((σ.1 10 0 3 ((((8 : Int32) * x1) + x4)).toNatClampNeg) &&& 31)) &&& (1 : Int32)) = ((x2 >>> (x4 &&& 31)) &&& (1 : Int32))) : pq_Rn C (130, 6, [some (vR 10 0 0), some (vI x1), some (vI x2), some (vI x3), some (vI x4), l5], [], σ) = pq_Rn C (130, 6, [some (vR 10 0 0), some (vI x1), some (vI x2), some (vI (x3 &&& (6 : Int32))), some (vI (x4 + (1 : Int32))), some (vI ((x2 >>> (x4 &&& 31)) &&& (1 : Int32)))], [], σ) := by
  refine (e_n 4 (fr' := (130, 13, [some (vR 10 0 0), some (vI x1), some (vI x2), some (vI x3), some (vI x4), l5], [vI x1, vR 10 0 1, vI x4], σ)) rfl).trans ?_
  refine (e_a (A := (130, 14, [some (vR 10 0 0), some (vI x1), some (vI x2), some (vI x3), some (vI x4), l5], [vI (σ.1 10 0 0 (x1).toNatClampNeg), vI x4], σ)) rfl h1).trans ?_
  refine (e_f (B := (130, 17, [some (vR 10 0 0), some (vI x1), some (vI x2), some (vI x3), some (vI x4), l5], [], σ)) rfl h2).trans ?_
  refine (e_n 14 (fr' := (130, 37, [some (vR 10 0 0), some (vI x1), some (vI x2), some (vI x3), some (vI x4), some (vI ((x2 >>> (x4 &&& 31)) &&& (1 : Int32)))], [vI (((8 : Int32) * x1) + x4), vR 10 0 2, vI x2], σ)) rfl).trans ?_
  refine (e_a (A := (130, 38, [some (vR 10 0 0), some (vI x1), some (vI x2), some (vI x3), some (vI x4), some (vI ((x2 >>> (x4 &&& 31)) &&& (1 : Int32)))], [vI (σ.1 10 0 1 ((((8 : Int32) * x1) + x4)).toNatClampNeg), vI x2], σ)) rfl h3).trans ?_
  refine (e_n 4 (fr' := (130, 43, [some (vR 10 0 0), some (vI x1), some (vI x2), some (vI x3), some (vI x4), some (vI ((x2 >>> (x4 &&& 31)) &&& (1 : Int32)))], [vI ((x2 >>> (x4 &&& 31)) &&& (1 : Int32)), vI ((x2 >>> ((σ.1 10 0 1 ((((8 : Int32) * x1) + x4)).toNatClampNeg) &&& 31)) &&& (1 : Int32))], σ)) rfl).trans ?_
  refine (e_t (A := (130, 46, [some (vR 10 0 0), some (vI x1), some (vI x2), some (vI x3), some (vI x4), some (vI ((x2 >>> (x4 &&& 31)) &&& (1 : Int32)))], [], σ)) rfl h4).trans ?_
  refine (e_n 12 (fr' := (130, 63, [some (vR 10 0 0), some (vI x1), some (vI x2), some (vI (x3 &&& (6 : Int32))), some (vI x4), some (vI ((x2 >>> (x4 &&& 31)) &&& (1 : Int32)))], [vI (((8 : Int32) * x1) + x4), vR 10 0 3, vI x2], σ)) rfl).trans ?_
  refine (e_a (A := (130, 64, [some (vR 10 0 0), some (vI x1), some (vI x2), some (vI (x3 &&& (6 : Int32))), some (vI x4), some (vI ((x2 >>> (x4 &&& 31)) &&& (1 : Int32)))], [vI (σ.1 10 0 2 ((((8 : Int32) * x1) + x4)).toNatClampNeg), vI x2], σ)) rfl h3).trans ?_
  refine (e_n 4 (fr' := (130, 69, [some (vR 10 0 0), some (vI x1), some (vI x2), some (vI (x3 &&& (6 : Int32))), some (vI x4), some (vI ((x2 >>> (x4 &&& 31)) &&& (1 : Int32)))], [vI ((x2 >>> (x4 &&& 31)) &&& (1 : Int32)), vI ((x2 >>> ((σ.1 10 0 2 ((((8 : Int32) * x1) + x4)).toNatClampNeg) &&& 31)) &&& (1 : Int32))], σ)) rfl).trans ?_
  refine (e_t (A := (130, 76, [some (vR 10 0 0), some (vI x1), some (vI x2), some (vI (x3 &&& (6 : Int32))), some (vI x4), some (vI ((x2 >>> (x4 &&& 31)) &&& (1 : Int32)))], [], σ)) rfl h5).trans ?_
  refine (e_n 8 (fr' := (130, 88, [some (vR 10 0 0), some (vI x1), some (vI x2), some (vI (x3 &&& (6 : Int32))), some (vI x4), some (vI ((x2 >>> (x4 &&& 31)) &&& (1 : Int32)))], [vI (((8 : Int32) * x1) + x4), vR 10 0 4, vI x2], σ)) rfl).trans ?_
  refine (e_a (A := (130, 89, [some (vR 10 0 0), some (vI x1), some (vI x2), some (vI (x3 &&& (6 : Int32))), some (vI x4), some (vI ((x2 >>> (x4 &&& 31)) &&& (1 : Int32)))], [vI (σ.1 10 0 3 ((((8 : Int32) * x1) + x4)).toNatClampNeg), vI x2], σ)) rfl h3).trans ?_
  refine (e_n 4 (fr' := (130, 94, [some (vR 10 0 0), some (vI x1), some (vI x2), some (vI (x3 &&& (6 : Int32))), some (vI x4), some (vI ((x2 >>> (x4 &&& 31)) &&& (1 : Int32)))], [vI ((x2 >>> (x4 &&& 31)) &&& (1 : Int32)), vI ((x2 >>> ((σ.1 10 0 3 ((((8 : Int32) * x1) + x4)).toNatClampNeg) &&& 31)) &&& (1 : Int32))], σ)) rfl).trans ?_
  refine (e_t (A := (130, 101, [some (vR 10 0 0), some (vI x1), some (vI x2), some (vI (x3 &&& (6 : Int32))), some (vI x4), some (vI ((x2 >>> (x4 &&& 31)) &&& (1 : Int32)))], [], σ)) rfl h6).trans ?_
  exact e_n 2 rfl
set_option maxRecDepth 20000 in
theorem g130_6_2 (C : pmC) {σ : pmS} {x1 : Int32} {x2 : Int32} {x3 : Int32} {x4 : Int32} {l5 : Option pmV} (h1 : vp_in x1 4) (h2 : ¬ (σ.1 10 0 0 (x1).toNatClampNeg) ≤ x4) (h3 : vp_in (((8 : Int32) * x1) + x4) 32) (h4 : ((x2 >>> ((σ.1 10 0 1 ((((8 : Int32) * x1) + x4)).toNatClampNeg) &&& 31)) &&& (1 : Int32)) = ((x2 >>> (x4 &&& 31)) &&& (1 : Int32))) (h5 : ((x2 >>> ((σ.1 10 0 2 ((((8 : Int32) * x1) + x4)).toNatClampNeg) &&& 31)) &&& (1 : Int32)) = ((x2 >>> (x4 &&& 31)) &&& (1 : Int32))) (h6 : ¬ ((x2 >>> ((σ.1 10 0 3 ((((8 : Int32) * x1) + x4)).toNatClampNeg) &&& 31)) &&& (1 : Int32)) = ((x2 >>> (x4 &&& 31)) &&& (1 : Int32))) : pq_Rn C (130, 6, [some (vR 10 0 0), some (vI x1), some (vI x2), some (vI x3), some (vI x4), l5], [], σ) = pq_Rn C (130, 6, [some (vR 10 0 0), some (vI x1), some (vI x2), some (vI ((x3 &&& (6 : Int32)) &&& (3 : Int32))), some (vI (x4 + (1 : Int32))), some (vI ((x2 >>> (x4 &&& 31)) &&& (1 : Int32)))], [], σ) := by
  refine (e_n 4 (fr' := (130, 13, [some (vR 10 0 0), some (vI x1), some (vI x2), some (vI x3), some (vI x4), l5], [vI x1, vR 10 0 1, vI x4], σ)) rfl).trans ?_
  refine (e_a (A := (130, 14, [some (vR 10 0 0), some (vI x1), some (vI x2), some (vI x3), some (vI x4), l5], [vI (σ.1 10 0 0 (x1).toNatClampNeg), vI x4], σ)) rfl h1).trans ?_
  refine (e_f (B := (130, 17, [some (vR 10 0 0), some (vI x1), some (vI x2), some (vI x3), some (vI x4), l5], [], σ)) rfl h2).trans ?_
  refine (e_n 14 (fr' := (130, 37, [some (vR 10 0 0), some (vI x1), some (vI x2), some (vI x3), some (vI x4), some (vI ((x2 >>> (x4 &&& 31)) &&& (1 : Int32)))], [vI (((8 : Int32) * x1) + x4), vR 10 0 2, vI x2], σ)) rfl).trans ?_
  refine (e_a (A := (130, 38, [some (vR 10 0 0), some (vI x1), some (vI x2), some (vI x3), some (vI x4), some (vI ((x2 >>> (x4 &&& 31)) &&& (1 : Int32)))], [vI (σ.1 10 0 1 ((((8 : Int32) * x1) + x4)).toNatClampNeg), vI x2], σ)) rfl h3).trans ?_
  refine (e_n 4 (fr' := (130, 43, [some (vR 10 0 0), some (vI x1), some (vI x2), some (vI x3), some (vI x4), some (vI ((x2 >>> (x4 &&& 31)) &&& (1 : Int32)))], [vI ((x2 >>> (x4 &&& 31)) &&& (1 : Int32)), vI ((x2 >>> ((σ.1 10 0 1 ((((8 : Int32) * x1) + x4)).toNatClampNeg) &&& 31)) &&& (1 : Int32))], σ)) rfl).trans ?_
  refine (e_t (A := (130, 46, [some (vR 10 0 0), some (vI x1), some (vI x2), some (vI x3), some (vI x4), some (vI ((x2 >>> (x4 &&& 31)) &&& (1 : Int32)))], [], σ)) rfl h4).trans ?_
  refine (e_n 12 (fr' := (130, 63, [some (vR 10 0 0), some (vI x1), some (vI x2), some (vI (x3 &&& (6 : Int32))), some (vI x4), some (vI ((x2 >>> (x4 &&& 31)) &&& (1 : Int32)))], [vI (((8 : Int32) * x1) + x4), vR 10 0 3, vI x2], σ)) rfl).trans ?_
  refine (e_a (A := (130, 64, [some (vR 10 0 0), some (vI x1), some (vI x2), some (vI (x3 &&& (6 : Int32))), some (vI x4), some (vI ((x2 >>> (x4 &&& 31)) &&& (1 : Int32)))], [vI (σ.1 10 0 2 ((((8 : Int32) * x1) + x4)).toNatClampNeg), vI x2], σ)) rfl h3).trans ?_
  refine (e_n 4 (fr' := (130, 69, [some (vR 10 0 0), some (vI x1), some (vI x2), some (vI (x3 &&& (6 : Int32))), some (vI x4), some (vI ((x2 >>> (x4 &&& 31)) &&& (1 : Int32)))], [vI ((x2 >>> (x4 &&& 31)) &&& (1 : Int32)), vI ((x2 >>> ((σ.1 10 0 2 ((((8 : Int32) * x1) + x4)).toNatClampNeg) &&& 31)) &&& (1 : Int32))], σ)) rfl).trans ?_
  refine (e_t (A := (130, 76, [some (vR 10 0 0), some (vI x1), some (vI x2), some (vI (x3 &&& (6 : Int32))), some (vI x4), some (vI ((x2 >>> (x4 &&& 31)) &&& (1 : Int32)))], [], σ)) rfl h5).trans ?_
  refine (e_n 8 (fr' := (130, 88, [some (vR 10 0 0), some (vI x1), some (vI x2), some (vI (x3 &&& (6 : Int32))), some (vI x4), some (vI ((x2 >>> (x4 &&& 31)) &&& (1 : Int32)))], [vI (((8 : Int32) * x1) + x4), vR 10 0 4, vI x2], σ)) rfl).trans ?_
  refine (e_a (A := (130, 89, [some (vR 10 0 0), some (vI x1), some (vI x2), some (vI (x3 &&& (6 : Int32))), some (vI x4), some (vI ((x2 >>> (x4 &&& 31)) &&& (1 : Int32)))], [vI (σ.1 10 0 3 ((((8 : Int32) * x1) + x4)).toNatClampNeg), vI x2], σ)) rfl h3).trans ?_
  refine (e_n 4 (fr' := (130, 94, [some (vR 10 0 0), some (vI x1), some (vI x2), some (vI (x3 &&& (6 : Int32))), some (vI x4), some (vI ((x2 >>> (x4 &&& 31)) &&& (1 : Int32)))], [vI ((x2 >>> (x4 &&& 31)) &&& (1 : Int32)), vI ((x2 >>> ((σ.1 10 0 3 ((((8 : Int32) * x1) + x4)).toNatClampNeg) &&& 31)) &&& (1 : Int32))], σ)) rfl).trans ?_
  refine (e_f (B := (130, 97, [some (vR 10 0 0), some (vI x1), some (vI x2), some (vI (x3 &&& (6 : Int32))), some (vI x4), some (vI ((x2 >>> (x4 &&& 31)) &&& (1 : Int32)))], [], σ)) rfl h6).trans ?_
  exact e_n 6 rfl
set_option maxRecDepth 20000 in
theorem g130_6_3 (C : pmC) {σ : pmS} {x1 : Int32} {x2 : Int32} {x3 : Int32} {x4 : Int32} {l5 : Option pmV} (h1 : vp_in x1 4) (h2 : ¬ (σ.1 10 0 0 (x1).toNatClampNeg) ≤ x4) (h3 : vp_in (((8 : Int32) * x1) + x4) 32) (h4 : ((x2 >>> ((σ.1 10 0 1 ((((8 : Int32) * x1) + x4)).toNatClampNeg) &&& 31)) &&& (1 : Int32)) = ((x2 >>> (x4 &&& 31)) &&& (1 : Int32))) (h5 : ¬ ((x2 >>> ((σ.1 10 0 2 ((((8 : Int32) * x1) + x4)).toNatClampNeg) &&& 31)) &&& (1 : Int32)) = ((x2 >>> (x4 &&& 31)) &&& (1 : Int32))) (h6 : ((x2 >>> ((σ.1 10 0 3 ((((8 : Int32) * x1) + x4)).toNatClampNeg) &&& 31)) &&& (1 : Int32)) = ((x2 >>> (x4 &&& 31)) &&& (1 : Int32))) : pq_Rn C (130, 6, [some (vR 10 0 0), some (vI x1), some (vI x2), some (vI x3), some (vI x4), l5], [], σ) = pq_Rn C (130, 6, [some (vR 10 0 0), some (vI x1), some (vI x2), some (vI ((x3 &&& (6 : Int32)) &&& (5 : Int32))), some (vI (x4 + (1 : Int32))), some (vI ((x2 >>> (x4 &&& 31)) &&& (1 : Int32)))], [], σ) := by
  refine (e_n 4 (fr' := (130, 13, [some (vR 10 0 0), some (vI x1), some (vI x2), some (vI x3), some (vI x4), l5], [vI x1, vR 10 0 1, vI x4], σ)) rfl).trans ?_
  refine (e_a (A := (130, 14, [some (vR 10 0 0), some (vI x1), some (vI x2), some (vI x3), some (vI x4), l5], [vI (σ.1 10 0 0 (x1).toNatClampNeg), vI x4], σ)) rfl h1).trans ?_
  refine (e_f (B := (130, 17, [some (vR 10 0 0), some (vI x1), some (vI x2), some (vI x3), some (vI x4), l5], [], σ)) rfl h2).trans ?_
  refine (e_n 14 (fr' := (130, 37, [some (vR 10 0 0), some (vI x1), some (vI x2), some (vI x3), some (vI x4), some (vI ((x2 >>> (x4 &&& 31)) &&& (1 : Int32)))], [vI (((8 : Int32) * x1) + x4), vR 10 0 2, vI x2], σ)) rfl).trans ?_
  refine (e_a (A := (130, 38, [some (vR 10 0 0), some (vI x1), some (vI x2), some (vI x3), some (vI x4), some (vI ((x2 >>> (x4 &&& 31)) &&& (1 : Int32)))], [vI (σ.1 10 0 1 ((((8 : Int32) * x1) + x4)).toNatClampNeg), vI x2], σ)) rfl h3).trans ?_
  refine (e_n 4 (fr' := (130, 43, [some (vR 10 0 0), some (vI x1), some (vI x2), some (vI x3), some (vI x4), some (vI ((x2 >>> (x4 &&& 31)) &&& (1 : Int32)))], [vI ((x2 >>> (x4 &&& 31)) &&& (1 : Int32)), vI ((x2 >>> ((σ.1 10 0 1 ((((8 : Int32) * x1) + x4)).toNatClampNeg) &&& 31)) &&& (1 : Int32))], σ)) rfl).trans ?_
  refine (e_t (A := (130, 46, [some (vR 10 0 0), some (vI x1), some (vI x2), some (vI x3), some (vI x4), some (vI ((x2 >>> (x4 &&& 31)) &&& (1 : Int32)))], [], σ)) rfl h4).trans ?_
  refine (e_n 12 (fr' := (130, 63, [some (vR 10 0 0), some (vI x1), some (vI x2), some (vI (x3 &&& (6 : Int32))), some (vI x4), some (vI ((x2 >>> (x4 &&& 31)) &&& (1 : Int32)))], [vI (((8 : Int32) * x1) + x4), vR 10 0 3, vI x2], σ)) rfl).trans ?_
  refine (e_a (A := (130, 64, [some (vR 10 0 0), some (vI x1), some (vI x2), some (vI (x3 &&& (6 : Int32))), some (vI x4), some (vI ((x2 >>> (x4 &&& 31)) &&& (1 : Int32)))], [vI (σ.1 10 0 2 ((((8 : Int32) * x1) + x4)).toNatClampNeg), vI x2], σ)) rfl h3).trans ?_
  refine (e_n 4 (fr' := (130, 69, [some (vR 10 0 0), some (vI x1), some (vI x2), some (vI (x3 &&& (6 : Int32))), some (vI x4), some (vI ((x2 >>> (x4 &&& 31)) &&& (1 : Int32)))], [vI ((x2 >>> (x4 &&& 31)) &&& (1 : Int32)), vI ((x2 >>> ((σ.1 10 0 2 ((((8 : Int32) * x1) + x4)).toNatClampNeg) &&& 31)) &&& (1 : Int32))], σ)) rfl).trans ?_
  refine (e_f (B := (130, 72, [some (vR 10 0 0), some (vI x1), some (vI x2), some (vI (x3 &&& (6 : Int32))), some (vI x4), some (vI ((x2 >>> (x4 &&& 31)) &&& (1 : Int32)))], [], σ)) rfl h5).trans ?_
  refine (e_n 12 (fr' := (130, 88, [some (vR 10 0 0), some (vI x1), some (vI x2), some (vI ((x3 &&& (6 : Int32)) &&& (5 : Int32))), some (vI x4), some (vI ((x2 >>> (x4 &&& 31)) &&& (1 : Int32)))], [vI (((8 : Int32) * x1) + x4), vR 10 0 4, vI x2], σ)) rfl).trans ?_
  refine (e_a (A := (130, 89, [some (vR 10 0 0), some (vI x1), some (vI x2), some (vI ((x3 &&& (6 : Int32)) &&& (5 : Int32))), some (vI x4), some (vI ((x2 >>> (x4 &&& 31)) &&& (1 : Int32)))], [vI (σ.1 10 0 3 ((((8 : Int32) * x1) + x4)).toNatClampNeg), vI x2], σ)) rfl h3).trans ?_
  refine (e_n 4 (fr' := (130, 94, [some (vR 10 0 0), some (vI x1), some (vI x2), some (vI ((x3 &&& (6 : Int32)) &&& (5 : Int32))), some (vI x4), some (vI ((x2 >>> (x4 &&& 31)) &&& (1 : Int32)))], [vI ((x2 >>> (x4 &&& 31)) &&& (1 : Int32)), vI ((x2 >>> ((σ.1 10 0 3 ((((8 : Int32) * x1) + x4)).toNatClampNeg) &&& 31)) &&& (1 : Int32))], σ)) rfl).trans ?_
  refine (e_t (A := (130, 101, [some (vR 10 0 0), some (vI x1), some (vI x2), some (vI ((x3 &&& (6 : Int32)) &&& (5 : Int32))), some (vI x4), some (vI ((x2 >>> (x4 &&& 31)) &&& (1 : Int32)))], [], σ)) rfl h6).trans ?_
  exact e_n 2 rfl
set_option maxRecDepth 20000 in
theorem g130_6_4 (C : pmC) {σ : pmS} {x1 : Int32} {x2 : Int32} {x3 : Int32} {x4 : Int32} {l5 : Option pmV} (h1 : vp_in x1 4) (h2 : ¬ (σ.1 10 0 0 (x1).toNatClampNeg) ≤ x4) (h3 : vp_in (((8 : Int32) * x1) + x4) 32) (h4 : ((x2 >>> ((σ.1 10 0 1 ((((8 : Int32) * x1) + x4)).toNatClampNeg) &&& 31)) &&& (1 : Int32)) = ((x2 >>> (x4 &&& 31)) &&& (1 : Int32))) (h5 : ¬ ((x2 >>> ((σ.1 10 0 2 ((((8 : Int32) * x1) + x4)).toNatClampNeg) &&& 31)) &&& (1 : Int32)) = ((x2 >>> (x4 &&& 31)) &&& (1 : Int32))) (h6 : ¬ ((x2 >>> ((σ.1 10 0 3 ((((8 : Int32) * x1) + x4)).toNatClampNeg) &&& 31)) &&& (1 : Int32)) = ((x2 >>> (x4 &&& 31)) &&& (1 : Int32))) : pq_Rn C (130, 6, [some (vR 10 0 0), some (vI x1), some (vI x2), some (vI x3), some (vI x4), l5], [], σ) = pq_Rn C (130, 6, [some (vR 10 0 0), some (vI x1), some (vI x2), some (vI (((x3 &&& (6 : Int32)) &&& (5 : Int32)) &&& (3 : Int32))), some (vI (x4 + (1 : Int32))), some (vI ((x2 >>> (x4 &&& 31)) &&& (1 : Int32)))], [], σ) := by
  refine (e_n 4 (fr' := (130, 13, [some (vR 10 0 0), some (vI x1), some (vI x2), some (vI x3), some (vI x4), l5], [vI x1, vR 10 0 1, vI x4], σ)) rfl).trans ?_
  refine (e_a (A := (130, 14, [some (vR 10 0 0), some (vI x1), some (vI x2), some (vI x3), some (vI x4), l5], [vI (σ.1 10 0 0 (x1).toNatClampNeg), vI x4], σ)) rfl h1).trans ?_
  refine (e_f (B := (130, 17, [some (vR 10 0 0), some (vI x1), some (vI x2), some (vI x3), some (vI x4), l5], [], σ)) rfl h2).trans ?_
  refine (e_n 14 (fr' := (130, 37, [some (vR 10 0 0), some (vI x1), some (vI x2), some (vI x3), some (vI x4), some (vI ((x2 >>> (x4 &&& 31)) &&& (1 : Int32)))], [vI (((8 : Int32) * x1) + x4), vR 10 0 2, vI x2], σ)) rfl).trans ?_
  refine (e_a (A := (130, 38, [some (vR 10 0 0), some (vI x1), some (vI x2), some (vI x3), some (vI x4), some (vI ((x2 >>> (x4 &&& 31)) &&& (1 : Int32)))], [vI (σ.1 10 0 1 ((((8 : Int32) * x1) + x4)).toNatClampNeg), vI x2], σ)) rfl h3).trans ?_
  refine (e_n 4 (fr' := (130, 43, [some (vR 10 0 0), some (vI x1), some (vI x2), some (vI x3), some (vI x4), some (vI ((x2 >>> (x4 &&& 31)) &&& (1 : Int32)))], [vI ((x2 >>> (x4 &&& 31)) &&& (1 : Int32)), vI ((x2 >>> ((σ.1 10 0 1 ((((8 : Int32) * x1) + x4)).toNatClampNeg) &&& 31)) &&& (1 : Int32))], σ)) rfl).trans ?_
  refine (e_t (A := (130, 46, [some (vR 10 0 0), some (vI x1), some (vI x2), some (vI x3), some (vI x4), some (vI ((x2 >>> (x4 &&& 31)) &&& (1 : Int32)))], [], σ)) rfl h4).trans ?_
  refine (e_n 12 (fr' := (130, 63, [some (vR 10 0 0), some (vI x1), some (vI x2), some (vI (x3 &&& (6 : Int32))), some (vI x4), some (vI ((x2 >>> (x4 &&& 31)) &&& (1 : Int32)))], [vI (((8 : Int32) * x1) + x4), vR 10 0 3, vI x2], σ)) rfl).trans ?_
  refine (e_a (A := (130, 64, [some (vR 10 0 0), some (vI x1), some (vI x2), some (vI (x3 &&& (6 : Int32))), some (vI x4), some (vI ((x2 >>> (x4 &&& 31)) &&& (1 : Int32)))], [vI (σ.1 10 0 2 ((((8 : Int32) * x1) + x4)).toNatClampNeg), vI x2], σ)) rfl h3).trans ?_
  refine (e_n 4 (fr' := (130, 69, [some (vR 10 0 0), some (vI x1), some (vI x2), some (vI (x3 &&& (6 : Int32))), some (vI x4), some (vI ((x2 >>> (x4 &&& 31)) &&& (1 : Int32)))], [vI ((x2 >>> (x4 &&& 31)) &&& (1 : Int32)), vI ((x2 >>> ((σ.1 10 0 2 ((((8 : Int32) * x1) + x4)).toNatClampNeg) &&& 31)) &&& (1 : Int32))], σ)) rfl).trans ?_
  refine (e_f (B := (130, 72, [some (vR 10 0 0), some (vI x1), some (vI x2), some (vI (x3 &&& (6 : Int32))), some (vI x4), some (vI ((x2 >>> (x4 &&& 31)) &&& (1 : Int32)))], [], σ)) rfl h5).trans ?_
  refine (e_n 12 (fr' := (130, 88, [some (vR 10 0 0), some (vI x1), some (vI x2), some (vI ((x3 &&& (6 : Int32)) &&& (5 : Int32))), some (vI x4), some (vI ((x2 >>> (x4 &&& 31)) &&& (1 : Int32)))], [vI (((8 : Int32) * x1) + x4), vR 10 0 4, vI x2], σ)) rfl).trans ?_
  refine (e_a (A := (130, 89, [some (vR 10 0 0), some (vI x1), some (vI x2), some (vI ((x3 &&& (6 : Int32)) &&& (5 : Int32))), some (vI x4), some (vI ((x2 >>> (x4 &&& 31)) &&& (1 : Int32)))], [vI (σ.1 10 0 3 ((((8 : Int32) * x1) + x4)).toNatClampNeg), vI x2], σ)) rfl h3).trans ?_
  refine (e_n 4 (fr' := (130, 94, [some (vR 10 0 0), some (vI x1), some (vI x2), some (vI ((x3 &&& (6 : Int32)) &&& (5 : Int32))), some (vI x4), some (vI ((x2 >>> (x4 &&& 31)) &&& (1 : Int32)))], [vI ((x2 >>> (x4 &&& 31)) &&& (1 : Int32)), vI ((x2 >>> ((σ.1 10 0 3 ((((8 : Int32) * x1) + x4)).toNatClampNeg) &&& 31)) &&& (1 : Int32))], σ)) rfl).trans ?_
  refine (e_f (B := (130, 97, [some (vR 10 0 0), some (vI x1), some (vI x2), some (vI ((x3 &&& (6 : Int32)) &&& (5 : Int32))), some (vI x4), some (vI ((x2 >>> (x4 &&& 31)) &&& (1 : Int32)))], [], σ)) rfl h6).trans ?_
  exact e_n 6 rfl
set_option maxRecDepth 20000 in
theorem g130_6_5 (C : pmC) {σ : pmS} {x1 : Int32} {x2 : Int32} {x3 : Int32} {x4 : Int32} {l5 : Option pmV} (h1 : vp_in x1 4) (h2 : ¬ (σ.1 10 0 0 (x1).toNatClampNeg) ≤ x4) (h3 : vp_in (((8 : Int32) * x1) + x4) 32) (h4 : ¬ ((x2 >>> ((σ.1 10 0 1 ((((8 : Int32) * x1) + x4)).toNatClampNeg) &&& 31)) &&& (1 : Int32)) = ((x2 >>> (x4 &&& 31)) &&& (1 : Int32))) (h5 : ((x2 >>> ((σ.1 10 0 2 ((((8 : Int32) * x1) + x4)).toNatClampNeg) &&& 31)) &&& (1 : Int32)) = ((x2 >>> (x4 &&& 31)) &&& (1 : Int32))) (h6 : ((x2 >>> ((σ.1 10 0 3 ((((8 : Int32) * x1) + x4)).toNatClampNeg) &&& 31)) &&& (1 : Int32)) = ((x2 >>> (x4 &&& 31)) &&& (1 : Int32))) : pq_Rn C (130, 6, [some (vR 10 0 0), some (vI x1), some (vI x2), some (vI x3), some (vI x4), l5], [], σ) = pq_Rn C (130, 6, [some (vR 10 0 0), some (vI x1), some (vI x2), some (vI x3), some (vI (x4 + (1 : Int32))), some (vI ((x2 >>> (x4 &&& 31)) &&& (1 : Int32)))], [], σ) := by
  refine (e_n 4 (fr' := (130, 13, [some (vR 10 0 0), some (vI x1), some (vI x2), some (vI x3), some (vI x4), l5], [vI x1, vR 10 0 1, vI x4], σ)) rfl).trans ?_
  refine (e_a (A := (130, 14, [some (vR 10 0 0), some (vI x1), some (vI x2), some (vI x3), some (vI x4), l5], [vI (σ.1 10 0 0 (x1).toNatClampNeg), vI x4], σ)) rfl h1).trans ?_
  refine (e_f (B := (130, 17, [some (vR 10 0 0), some (vI x1), some (vI x2), some (vI x3), some (vI x4), l5], [], σ)) rfl h2).trans ?_
  refine (e_n 14 (fr' := (130, 37, [some (vR 10 0 0), some (vI x1), some (vI x2), some (vI x3), some (vI x4), some (vI ((x2 >>> (x4 &&& 31)) &&& (1 : Int32)))], [vI (((8 : Int32) * x1) + x4), vR 10 0 2, vI x2], σ)) rfl).trans ?_
  refine (e_a (A := (130, 38, [some (vR 10 0 0), some (vI x1), some (vI x2), some (vI x3), some (vI x4), some (vI ((x2 >>> (x4 &&& 31)) &&& (1 : Int32)))], [vI (σ.1 10 0 1 ((((8 : Int32) * x1) + x4)).toNatClampNeg), vI x2], σ)) rfl h3).trans ?_
  refine (e_n 4 (fr' := (130, 43, [some (vR 10 0 0), some (vI x1), some (vI x2), some (vI x3), some (vI x4), some (vI ((x2 >>> (x4 &&& 31)) &&& (1 : Int32)))], [vI ((x2 >>> (x4 &&& 31)) &&& (1 : Int32)), vI ((x2 >>> ((σ.1 10 0 1 ((((8 : Int32) * x1) + x4)).toNatClampNeg) &&& 31)) &&& (1 : Int32))], σ)) rfl).trans ?_
  refine (e_f (B := (130, 51, [some (vR 10 0 0), some (vI x1), some (vI x2), some (vI x3), some (vI x4), some (vI ((x2 >>> (x4 &&& 31)) &&& (1 : Int32)))], [], σ)) rfl h4).trans ?_
  refine (e_n 8 (fr' := (130, 63, [some (vR 10 0 0), some (vI x1), some (vI x2), some (vI x3), some (vI x4), some (vI ((x2 >>> (x4 &&& 31)) &&& (1 : Int32)))], [vI (((8 : Int32) * x1) + x4), vR 10 0 3, vI x2], σ)) rfl).trans ?_
  refine (e_a (A := (130, 64, [some (vR 10 0 0), some (vI x1), some (vI x2), some (vI x3), some (vI x4), some (vI ((x2 >>> (x4 &&& 31)) &&& (1 : Int32)))], [vI (σ.1 10 0 2 ((((8 : Int32) * x1) + x4)).toNatClampNeg), vI x2], σ)) rfl h3).trans ?_
  refine (e_n 4 (fr' := (130, 69, [some (vR 10 0 0), some (vI x1), some (vI x2), some (vI x3), some (vI x4), some (vI ((x2 >>> (x4 &&& 31)) &&& (1 : Int32)))], [vI ((x2 >>> (x4 &&& 31)) &&& (1 : Int32)), vI ((x2 >>> ((σ.1 10 0 2 ((((8 : Int32) * x1) + x4)).toNatClampNeg) &&& 31)) &&& (1 : Int32))], σ)) rfl).trans ?_
  refine (e_t (A := (130, 76, [some (vR 10 0 0), some (vI x1), some (vI x2), some (vI x3), some (vI x4), some (vI ((x2 >>> (x4 &&& 31)) &&& (1 : Int32)))], [], σ)) rfl h5).trans ?_
  refine (e_n 8 (fr' := (130, 88, [some (vR 10 0 0), some (vI x1), some (vI x2), some (vI x3), some (vI x4), some (vI ((x2 >>> (x4 &&& 31)) &&& (1 : Int32)))], [vI (((8 : Int32) * x1) + x4), vR 10 0 4, vI x2], σ)) rfl).trans ?_
  refine (e_a (A := (130, 89, [some (vR 10 0 0), some (vI x1), some (vI x2), some (vI x3), some (vI x4), some (vI ((x2 >>> (x4 &&& 31)) &&& (1 : Int32)))], [vI (σ.1 10 0 3 ((((8 : Int32) * x1) + x4)).toNatClampNeg), vI x2], σ)) rfl h3).trans ?_
  refine (e_n 4 (fr' := (130, 94, [some (vR 10 0 0), some (vI x1), some (vI x2), some (vI x3), some (vI x4), some (vI ((x2 >>> (x4 &&& 31)) &&& (1 : Int32)))], [vI ((x2 >>> (x4 &&& 31)) &&& (1 : Int32)), vI ((x2 >>> ((σ.1 10 0 3 ((((8 : Int32) * x1) + x4)).toNatClampNeg) &&& 31)) &&& (1 : Int32))], σ)) rfl).trans ?_
  refine (e_t (A := (130, 101, [some (vR 10 0 0), some (vI x1), some (vI x2), some (vI x3), some (vI x4), some (vI ((x2 >>> (x4 &&& 31)) &&& (1 : Int32)))], [], σ)) rfl h6).trans ?_
  exact e_n 2 rfl
set_option maxRecDepth 20000 in
theorem g130_6_6 (C : pmC) {σ : pmS} {x1 : Int32} {x2 : Int32} {x3 : Int32} {x4 : Int32} {l5 : Option pmV} (h1 : vp_in x1 4) (h2 : ¬ (σ.1 10 0 0 (x1).toNatClampNeg) ≤ x4) (h3 : vp_in (((8 : Int32) * x1) + x4) 32) (h4 : ¬ ((x2 >>> ((σ.1 10 0 1 ((((8 : Int32) * x1) + x4)).toNatClampNeg) &&& 31)) &&& (1 : Int32)) = ((x2 >>> (x4 &&& 31)) &&& (1 : Int32))) (h5 : ((x2 >>> ((σ.1 10 0 2 ((((8 : Int32) * x1) + x4)).toNatClampNeg) &&& 31)) &&& (1 : Int32)) = ((x2 >>> (x4 &&& 31)) &&& (1 : Int32))) (h6 : ¬ ((x2 >>> ((σ.1 10 0 3 ((((8 : Int32) * x1) + x4)).toNatClampNeg) &&& 31)) &&& (1 : Int32)) = ((x2 >>> (x4 &&& 31)) &&& (1 : Int32))) : pq_Rn C (130, 6, [some (vR 10 0 0), some (vI x1), some (vI x2), some (vI x3), some (vI x4), l5], [], σ) = pq_Rn C (130, 6, [some (vR 10 0 0), some (vI x1), some (vI x2), some (vI (x3 &&& (3 : Int32))), some (vI (x4 + (1 : Int32))), some (vI ((x2 >>> (x4 &&& 31)) &&& (1 : Int32)))], [], σ) := by
  refine (e_n 4 (fr' := (130, 13, [some (vR 10 0 0), some (vI x1), some (vI x2), some (vI x3), some (vI x4), l5], [vI x1, vR 10 0 1, vI x4], σ)) rfl).trans ?_
  refine (e_a (A := (130, 14, [some (vR 10 0 0), some (vI x1), some (vI x2), some (vI x3), some (vI x4), l5], [vI (σ.1 10 0 0 (x1).toNatClampNeg), vI x4], σ)) rfl h1).trans ?_
  refine (e_f (B := (130, 17, [some (vR 10 0 0), some (vI x1), some (vI x2), some (vI x3), some (vI x4), l5], [], σ)) rfl h2).trans ?_
  refine (e_n 14 (fr' := (130, 37, [some (vR 10 0 0), some (vI x1), some (vI x2), some (vI x3), some (vI x4), some (vI ((x2 >>> (x4 &&& 31)) &&& (1 : Int32)))], [vI (((8 : Int32) * x1) + x4), vR 10 0 2, vI x2], σ)) rfl).trans ?_
  refine (e_a (A := (130, 38, [some (vR 10 0 0), some (vI x1), some (vI x2), some (vI x3), some (vI x4), some (vI ((x2 >>> (x4 &&& 31)) &&& (1 : Int32)))], [vI (σ.1 10 0 1 ((((8 : Int32) * x1) + x4)).toNatClampNeg), vI x2], σ)) rfl h3).trans ?_
  refine (e_n 4 (fr' := (130, 43, [some (vR 10 0 0), some (vI x1), some (vI x2), some (vI x3), some (vI x4), some (vI ((x2 >>> (x4 &&& 31)) &&& (1 : Int32)))], [vI ((x2 >>> (x4 &&& 31)) &&& (1 : Int32)), vI ((x2 >>> ((σ.1 10 0 1 ((((8 : Int32) * x1) + x4)).toNatClampNeg) &&& 31)) &&& (1 : Int32))], σ)) rfl).trans ?_
  refine (e_f (B := (130, 51, [some (vR 10 0 0), some (vI x1), some (vI x2), some (vI x3), some (vI x4), some (vI ((x2 >>> (x4 &&& 31)) &&& (1 : Int32)))], [], σ)) rfl h4).trans ?_
  refine (e_n 8 (fr' := (130, 63, [some (vR 10 0 0), some (vI x1), some (vI x2), some (vI x3), some (vI x4), some (vI ((x2 >>> (x4 &&& 31)) &&& (1 : Int32)))], [vI (((8 : Int32) * x1) + x4), vR 10 0 3, vI x2], σ)) rfl).trans ?_
  refine (e_a (A := (130, 64, [some (vR 10 0 0), some (vI x1), some (vI x2), some (vI x3), some (vI x4), some (vI ((x2 >>> (x4 &&& 31)) &&& (1 : Int32)))], [vI (σ.1 10 0 2 ((((8 : Int32) * x1) + x4)).toNatClampNeg), vI x2], σ)) rfl h3).trans ?_
  refine (e_n 4 (fr' := (130, 69, [some (vR 10 0 0), some (vI x1), some (vI x2), some (vI x3), some (vI x4), some (vI ((x2 >>> (x4 &&& 31)) &&& (1 : Int32)))], [vI ((x2 >>> (x4 &&& 31)) &&& (1 : Int32)), vI ((x2 >>> ((σ.1 10 0 2 ((((8 : Int32) * x1) + x4)).toNatClampNeg) &&& 31)) &&& (1 : Int32))], σ)) rfl).trans ?_
  refine (e_t (A := (130, 76, [some (vR 10 0 0), some (vI x1), some (vI x2), some (vI x3), some (vI x4), some (vI ((x2 >>> (x4 &&& 31)) &&& (1 : Int32)))], [], σ)) rfl h5).trans ?_
  refine (e_n 8 (fr' := (130, 88, [some (vR 10 0 0), some (vI x1), some (vI x2), some (vI x3), some (vI x4), some (vI ((x2 >>> (x4 &&& 31)) &&& (1 : Int32)))], [vI (((8 : Int32) * x1) + x4), vR 10 0 4, vI x2], σ)) rfl).trans ?_
  refine (e_a (A := (130, 89, [some (vR 10 0 0), some (vI x1), some (vI x2), some (vI x3), some (vI x4), some (vI ((x2 >>> (x4 &&& 31)) &&& (1 : Int32)))], [vI (σ.1 10 0 3 ((((8 : Int32) * x1) + x4)).toNatClampNeg), vI x2], σ)) rfl h3).trans ?_
  refine (e_n 4 (fr' := (130, 94, [some (vR 10 0 0), some (vI x1), some (vI x2), some (vI x3), some (vI x4), some (vI ((x2 >>> (x4 &&& 31)) &&& (1 : Int32)))], [vI ((x2 >>> (x4 &&& 31)) &&& (1 : Int32)), vI ((x2 >>> ((σ.1 10 0 3 ((((8 : Int32) * x1) + x4)).toNatClampNeg) &&& 31)) &&& (1 : Int32))], σ)) rfl).trans ?_
  refine (e_f (B := (130, 97, [some (vR 10 0 0), some (vI x1), some (vI x2), some (vI x3), some (vI x4), some (vI ((x2 >>> (x4 &&& 31)) &&& (1 : Int32)))], [], σ)) rfl h6).trans ?_
  exact e_n 6 rfl
set_option maxRecDepth 20000 in
theorem g130_6_7 (C : pmC) {σ : pmS} {x1 : Int32} {x2 : Int32} {x3 : Int32} {x4 : Int32} {l5 : Option pmV} (h1 : vp_in x1 4) (h2 : ¬ (σ.1 10 0 0 (x1).toNatClampNeg) ≤ x4) (h3 : vp_in (((8 : Int32) * x1) + x4) 32) (h4 : ¬ ((x2 >>> ((σ.1 10 0 1 ((((8 : Int32) * x1) + x4)).toNatClampNeg) &&& 31)) &&& (1 : Int32)) = ((x2 >>> (x4 &&& 31)) &&& (1 : Int32))) (h5 : ¬ ((x2 >>> ((σ.1 10 0 2 ((((8 : Int32) * x1) + x4)).toNatClampNeg) &&& 31)) &&& (1 : Int32)) = ((x2 >>> (x4 &&& 31)) &&& (1 : Int32))) (h6 : ((x2 >>> ((σ.1 10 0 3 ((((8 : Int32) * x1) + x4)).toNatClampNeg) &&& 31)) &&& (1 : Int32)) = ((x2 >>> (x4 &&& 31)) &&& (1 : Int32))) : pq_Rn C (130, 6, [some (vR 10 0 0), some (vI x1), some (vI x2), some (vI x3), some (vI x4), l5], [], σ) = pq_Rn C (130, 6, [some (vR 10 0 0), some (vI x1), some (vI x2), some (vI (x3 &&& (5 : Int32))), some (vI (x4 + (1 : Int32))), some (vI ((x2 >>> (x4 &&& 31)) &&& (1 : Int32)))], [], σ) := by
  refine (e_n 4 (fr' := (130, 13, [some (vR 10 0 0), some (vI x1), some (vI x2), some (vI x3), some (vI x4), l5], [vI x1, vR 10 0 1, vI x4], σ)) rfl).trans ?_
  refine (e_a (A := (130, 14, [some (vR 10 0 0), some (vI x1), some (vI x2), some (vI x3), some (vI x4), l5], [vI (σ.1 10 0 0 (x1).toNatClampNeg), vI x4], σ)) rfl h1).trans ?_
  refine (e_f (B := (130, 17, [some (vR 10 0 0), some (vI x1), some (vI x2), some (vI x3), some (vI x4), l5], [], σ)) rfl h2).trans ?_
  refine (e_n 14 (fr' := (130, 37, [some (vR 10 0 0), some (vI x1), some (vI x2), some (vI x3), some (vI x4), some (vI ((x2 >>> (x4 &&& 31)) &&& (1 : Int32)))], [vI (((8 : Int32) * x1) + x4), vR 10 0 2, vI x2], σ)) rfl).trans ?_
  refine (e_a (A := (130, 38, [some (vR 10 0 0), some (vI x1), some (vI x2), some (vI x3), some (vI x4), some (vI ((x2 >>> (x4 &&& 31)) &&& (1 : Int32)))], [vI (σ.1 10 0 1 ((((8 : Int32) * x1) + x4)).toNatClampNeg), vI x2], σ)) rfl h3).trans ?_
  refine (e_n 4 (fr' := (130, 43, [some (vR 10 0 0), some (vI x1), some (vI x2), some (vI x3), some (vI x4), some (vI ((x2 >>> (x4 &&& 31)) &&& (1 : Int32)))], [vI ((x2 >>> (x4 &&& 31)) &&& (1 : Int32)), vI ((x2 >>> ((σ.1 10 0 1 ((((8 : Int32) * x1) + x4)).toNatClampNeg) &&& 31)) &&& (1 : Int32))], σ)) rfl).trans ?_
  refine (e_f (B := (130, 51, [some (vR 10 0 0), some (vI x1), some (vI x2), some (vI x3), some (vI x4), some (vI ((x2 >>> (x4 &&& 31)) &&& (1 : Int32)))], [], σ)) rfl h4).trans ?_
  refine (e_n 8 (fr' := (130, 63, [some (vR 10 0 0), some (vI x1), some (vI x2), some (vI x3), some (vI x4), some (vI ((x2 >>> (x4 &&& 31)) &&& (1 : Int32)))], [vI (((8 : Int32) * x1) + x4), vR 10 0 3, vI x2], σ)) rfl).trans ?_
  refine (e_a (A := (130, 64, [some (vR 10 0 0), some (vI x1), some (vI x2), some (vI x3), some (vI x4), some (vI ((x2 >>> (x4 &&& 31)) &&& (1 : Int32)))], [vI (σ.1 10 0 2 ((((8 : Int32) * x1) + x4)).toNatClampNeg), vI x2], σ)) rfl h3).trans ?_
  refine (e_n 4 (fr' := (130, 69, [some (vR 10 0 0), some (vI x1), some (vI x2), some (vI x3), some (vI x4), some (vI ((x2 >>> (x4 &&& 31)) &&& (1 : Int32)))], [vI ((x2 >>> (x4 &&& 31)) &&& (1 : Int32)), vI ((x2 >>> ((σ.1 10 0 2 ((((8 : Int32) * x1) + x4)).toNatClampNeg) &&& 31)) &&& (1 : Int32))], σ)) rfl).trans ?_
  refine (e_f (B := (130, 72, [some (vR 10 0 0), some (vI x1), some (vI x2), some (vI x3), some (vI x4), some (vI ((x2 >>> (x4 &&& 31)) &&& (1 : Int32)))], [], σ)) rfl h5).trans ?_
  refine (e_n 12 (fr' := (130, 88, [some (vR 10 0 0), some (vI x1), some (vI x2), some (vI (x3 &&& (5 : Int32))), some (vI x4), some (vI ((x2 >>> (x4 &&& 31)) &&& (1 : Int32)))], [vI (((8 : Int32) * x1) + x4), vR 10 0 4, vI x2], σ)) rfl).trans ?_
  refine (e_a (A := (130, 89, [some (vR 10 0 0), some (vI x1), some (vI x2), some (vI (x3 &&& (5 : Int32))), some (vI x4), some (vI ((x2 >>> (x4 &&& 31)) &&& (1 : Int32)))], [vI (σ.1 10 0 3 ((((8 : Int32) * x1) + x4)).toNatClampNeg), vI x2], σ)) rfl h3).trans ?_
  refine (e_n 4 (fr' := (130, 94, [some (vR 10 0 0), some (vI x1), some (vI x2), some (vI (x3 &&& (5 : Int32))), some (vI x4), some (vI ((x2 >>> (x4 &&& 31)) &&& (1 : Int32)))], [vI ((x2 >>> (x4 &&& 31)) &&& (1 : Int32)), vI ((x2 >>> ((σ.1 10 0 3 ((((8 : Int32) * x1) + x4)).toNatClampNeg) &&& 31)) &&& (1 : Int32))], σ)) rfl).trans ?_
  refine (e_t (A := (130, 101, [some (vR 10 0 0), some (vI x1), some (vI x2), some (vI (x3 &&& (5 : Int32))), some (vI x4), some (vI ((x2 >>> (x4 &&& 31)) &&& (1 : Int32)))], [], σ)) rfl h6).trans ?_
  exact e_n 2 rfl
set_option maxRecDepth 20000 in
theorem g130_6_8 (C : pmC) {σ : pmS} {x1 : Int32} {x2 : Int32} {x3 : Int32} {x4 : Int32} {l5 : Option pmV} (h1 : vp_in x1 4) (h2 : ¬ (σ.1 10 0 0 (x1).toNatClampNeg) ≤ x4) (h3 : vp_in (((8 : Int32) * x1) + x4) 32) (h4 : ¬ ((x2 >>> ((σ.1 10 0 1 ((((8 : Int32) * x1) + x4)).toNatClampNeg) &&& 31)) &&& (1 : Int32)) = ((x2 >>> (x4 &&& 31)) &&& (1 : Int32))) (h5 : ¬ ((x2 >>> ((σ.1 10 0 2 ((((8 : Int32) * x1) + x4)).toNatClampNeg) &&& 31)) &&& (1 : Int32)) = ((x2 >>> (x4 &&& 31)) &&& (1 : Int32))) (h6 : ¬ ((x2 >>> ((σ.1 10 0 3 ((((8 : Int32) * x1) + x4)).toNatClampNeg) &&& 31)) &&& (1 : Int32)) = ((x2 >>> (x4 &&& 31)) &&& (1 : Int32))) : pq_Rn C (130, 6, [some (vR 10 0 0), some (vI x1), some (vI x2), some (vI x3), some (vI x4), l5], [], σ) = pq_Rn C (130, 6, [some (vR 10 0 0), some (vI x1), some (vI x2), some (vI ((x3 &&& (5 : Int32)) &&& (3 : Int32))), some (vI (x4 + (1 : Int32))), some (vI ((x2 >>> (x4 &&& 31)) &&& (1 : Int32)))], [], σ) := by
  refine (e_n 4 (fr' := (130, 13, [some (vR 10 0 0), some (vI x1), some (vI x2), some (vI x3), some (vI x4), l5], [vI x1, vR 10 0 1, vI x4], σ)) rfl).trans ?_
  refine (e_a (A := (130, 14, [some (vR 10 0 0), some (vI x1), some (vI x2), some (vI x3), some (vI x4), l5], [vI (σ.1 10 0 0 (x1).toNatClampNeg), vI x4], σ)) rfl h1).trans ?_
  refine (e_f (B := (130, 17, [some (vR 10 0 0), some (vI x1), some (vI x2), some (vI x3), some (vI x4), l5], [], σ)) rfl h2).trans ?_
  refine (e_n 14 (fr' := (130, 37, [some (vR 10 0 0), some (vI x1), some (vI x2), some (vI x3), some (vI x4), some (vI ((x2 >>> (x4 &&& 31)) &&& (1 : Int32)))], [vI (((8 : Int32) * x1) + x4), vR 10 0 2, vI x2], σ)) rfl).trans ?_
  refine (e_a (A := (130, 38, [some (vR 10 0 0), some (vI x1), some (vI x2), some (vI x3), some (vI x4), some (vI ((x2 >>> (x4 &&& 31)) &&& (1 : Int32)))], [vI (σ.1 10 0 1 ((((8 : Int32) * x1) + x4)).toNatClampNeg), vI x2], σ)) rfl h3).trans ?_
  refine (e_n 4 (fr' := (130, 43, [some (vR 10 0 0), some (vI x1), some (vI x2), some (vI x3), some (vI x4), some (vI ((x2 >>> (x4 &&& 31)) &&& (1 : Int32)))], [vI ((x2 >>> (x4 &&& 31)) &&& (1 : Int32)), vI ((x2 >>> ((σ.1 10 0 1 ((((8 : Int32) * x1) + x4)).toNatClampNeg) &&& 31)) &&& (1 : Int32))], σ)) rfl).trans ?_
  refine (e_f (B := (130, 51, [some (vR 10 0 0), some (vI x1), some (vI x2), some (vI x3), some (vI x4), some (vI ((x2 >>> (x4 &&& 31)) &&& (1 : Int32)))], [], σ)) rfl h4).trans ?_
  refine (e_n 8 (fr' := (130, 63, [some (vR 10 0 0), some (vI x1), some (vI x2), some (vI x3), some (vI x4), some (vI ((x2 >>> (x4 &&& 31)) &&& (1 : Int32)))], [vI (((8 : Int32) * x1) + x4), vR 10 0 3, vI x2], σ)) rfl).trans ?_
  refine (e_a (A := (130, 64, [some (vR 10 0 0), some (vI x1), some (vI x2), some (vI x3), some (vI x4), some (vI ((x2 >>> (x4 &&& 31)) &&& (1 : Int32)))], [vI (σ.1 10 0 2 ((((8 : Int32) * x1) + x4)).toNatClampNeg), vI x2], σ)) rfl h3).trans ?_
  refine (e_n 4 (fr' := (130, 69, [some (vR 10 0 0), some (vI x1), some (vI x2), some (vI x3), some (vI x4), some (vI ((x2 >>> (x4 &&& 31)) &&& (1 : Int32)))], [vI ((x2 >>> (x4 &&& 31)) &&& (1 : Int32)), vI ((x2 >>> ((σ.1 10 0 2 ((((8 : Int32) * x1) + x4)).toNatClampNeg) &&& 31)) &&& (1 : Int32))], σ)) rfl).trans ?_
  refine (e_f (B := (130, 72, [some (vR 10 0 0), some (vI x1), some (vI x2), some (vI x3), some (vI x4), some (vI ((x2 >>> (x4 &&& 31)) &&& (1 : Int32)))], [], σ)) rfl h5).trans ?_
  refine (e_n 12 (fr' := (130, 88, [some (vR 10 0 0), some (vI x1), some (vI x2), some (vI (x3 &&& (5 : Int32))), some (vI x4), some (vI ((x2 >>> (x4 &&& 31)) &&& (1 : Int32)))], [vI (((8 : Int32) * x1) + x4), vR 10 0 4, vI x2], σ)) rfl).trans ?_
  refine (e_a (A := (130, 89, [some (vR 10 0 0), some (vI x1), some (vI x2), some (vI (x3 &&& (5 : Int32))), some (vI x4), some (vI ((x2 >>> (x4 &&& 31)) &&& (1 : Int32)))], [vI (σ.1 10 0 3 ((((8 : Int32) * x1) + x4)).toNatClampNeg), vI x2], σ)) rfl h3).trans ?_
  refine (e_n 4 (fr' := (130, 94, [some (vR 10 0 0), some (vI x1), some (vI x2), some (vI (x3 &&& (5 : Int32))), some (vI x4), some (vI ((x2 >>> (x4 &&& 31)) &&& (1 : Int32)))], [vI ((x2 >>> (x4 &&& 31)) &&& (1 : Int32)), vI ((x2 >>> ((σ.1 10 0 3 ((((8 : Int32) * x1) + x4)).toNatClampNeg) &&& 31)) &&& (1 : Int32))], σ)) rfl).trans ?_
  refine (e_f (B := (130, 97, [some (vR 10 0 0), some (vI x1), some (vI x2), some (vI (x3 &&& (5 : Int32))), some (vI x4), some (vI ((x2 >>> (x4 &&& 31)) &&& (1 : Int32)))], [], σ)) rfl h6).trans ?_
  exact e_n 6 rfl
set_option maxRecDepth 20000 in
theorem g131_0_0 (C : pmC) {σ : pmS} {x1 : Int32} {x2 : Int32} {σ1 : pmS} {r1 : Int32} (h1 : C 106 [vR 10 0 0, vI x1] σ = some (some (vI r1), σ1)) (h2 : r1 = 0) : pq_Rn C (131, 0, [some (vR 10 0 0), some (vI x1), some (vI x2)], [], σ) = some (some (vI (-1 : Int32)), σ1) := by
  refine (e_n 2 (fr' := (131, 2, [some (vR 10 0 0), some (vI x1), some (vI x2)], [vI x1, vR 10 0 0], σ)) rfl).trans ?_
  refine (e_ci (m := 131) (pc := 5) (ls := [some (vR 10 0 0), some (vI x1), some (vI x2)]) (rest := []) rfl h1).trans ?_
  refine (e_t (A := (131, 8, [some (vR 10 0 0), some (vI x1), some (vI x2)], [], σ1)) rfl h2).trans ?_
  refine (e_n 1 (fr' := (131, 9, [some (vR 10 0 0), some (vI x1), some (vI x2)], [vI (-1 : Int32)], σ1)) rfl).trans ?_
  exact e_r rfl
set_option maxRecDepth 20000 in
theorem g131_0_1 (C : pmC) {σ : pmS} {x1 : Int32} {x2 : Int32} {σ1 : pmS} {r1 : Int32} {σ2 : pmS} {r2 : Int32} (h1 : C 106 [vR 10 0 0, vI x1] σ = some (some (vI r1), σ1)) (h2 : ¬ r1 = 0) (h3 : vp_in x1 4) (h4 : C 105 [vL (x2).toInt64, vL (1 : Int64), vL ((((1 : Int32) <<< ((σ1.1 10 0 0 (x1).toNatClampNeg) &&& 31)) - (2 : Int32))).toInt64] σ1 = some (some (vI r2), σ2)) (h5 : r2 = 0) : pq_Rn C (131, 0, [some (vR 10 0 0), some (vI x1), some (vI x2)], [], σ) = some (some (vI (-2 : Int32)), σ2) := by
  refine (e_n 2 (fr' := (131, 2, [some (vR 10 0 0), some (vI x1), some (vI x2)], [vI x1, vR 10 0 0], σ)) rfl).trans ?_
  refine (e_ci (m := 131) (pc := 5) (ls := [some (vR 10 0 0), some (vI x1), some (vI x2)]) (rest := []) rfl h1).trans ?_
  refine (e_f (B := (131, 10, [some (vR 10 0 0), some (vI x1), some (vI x2)], [], σ1)) rfl h2).trans ?_
  refine (e_n 7 (fr' := (131, 19, [some (vR 10 0 0), some (vI x1), some (vI x2)], [vI x1, vR 10 0 1, vI (1 : Int32), vL (1 : Int64), vL (x2).toInt64], σ1)) rfl).trans ?_
  refine (e_a (A := (131, 20, [some (vR 10 0 0), some (vI x1), some (vI x2)], [vI (σ1.1 10 0 0 (x1).toNatClampNeg), vI (1 : Int32), vL (1 : Int64), vL (x2).toInt64], σ1)) rfl h3).trans ?_
  refine (e_n 4 (fr' := (131, 24, [some (vR 10 0 0), some (vI x1), some (vI x2)], [vL ((((1 : Int32) <<< ((σ1.1 10 0 0 (x1).toNatClampNeg) &&& 31)) - (2 : Int32))).toInt64, vL (1 : Int64), vL (x2).toInt64], σ1)) rfl).trans ?_
  refine (e_ci (m := 131) (pc := 27) (ls := [some (vR 10 0 0), some (vI x1), some (vI x2)]) (rest := []) rfl h4).trans ?_
  refine (e_t (A := (131, 39, [some (vR 10 0 0), some (vI x1), some (vI x2)], [], σ2)) rfl h5).trans ?_
  refine (e_n 1 (fr' := (131, 41, [some (vR 10 0 0), some (vI x1), some (vI x2)], [vI (-2 : Int32)], σ2)) rfl).trans ?_
  exact e_r rfl
set_option maxRecDepth 20000 in
theorem g131_0_2 (C : pmC) {σ : pmS} {x1 : Int32} {x2 : Int32} {σ1 : pmS} {r1 : Int32} {σ2 : pmS} {r2 : Int32} {σ3 : pmS} {r3 : Int32} (h1 : C 106 [vR 10 0 0, vI x1] σ = some (some (vI r1), σ1)) (h2 : ¬ r1 = 0) (h3 : vp_in x1 4) (h4 : C 105 [vL (x2).toInt64, vL (1 : Int64), vL ((((1 : Int32) <<< ((σ1.1 10 0 0 (x1).toNatClampNeg) &&& 31)) - (2 : Int32))).toInt64] σ1 = some (some (vI r2), σ2)) (h5 : ¬ r2 = 0) (h6 : C 130 [vR 10 0 0, vI x1, vI x2] σ2 = some (some (vI r3), σ3)) : pq_Rn C (131, 0, [some (vR 10 0 0), some (vI x1), some (vI x2)], [], σ) = some (some (vI r3), σ3) := by
  refine (e_n 2 (fr' := (131, 2, [some (vR 10 0 0), some (vI x1), some (vI x2)], [vI x1, vR 10 0 0], σ)) rfl).trans ?_
  refine (e_ci (m := 131) (pc := 5) (ls := [some (vR 10 0 0), some (vI x1), some (vI x2)]) (rest := []) rfl h1).trans ?_
  refine (e_f (B := (131, 10, [some (vR 10 0 0), some (vI x1), some (vI x2)], [], σ1)) rfl h2).trans ?_
  refine (e_n 7 (fr' := (131, 19, [some (vR 10 0 0), some (vI x1), some (vI x2)], [vI x1, vR 10 0 1, vI (1 : Int32), vL (1 : Int64), vL (x2).toInt64], σ1)) rfl).trans ?_
  refine (e_a (A := (131, 20, [some (vR 10 0 0), some (vI x1), some (vI x2)], [vI (σ1.1 10 0 0 (x1).toNatClampNeg), vI (1 : Int32), vL (1 : Int64), vL (x2).toInt64], σ1)) rfl h3).trans ?_
  refine (e_n 4 (fr' := (131, 24, [some (vR 10 0 0), some (vI x1), some (vI x2)], [vL ((((1 : Int32) <<< ((σ1.1 10 0 0 (x1).toNatClampNeg) &&& 31)) - (2 : Int32))).toInt64, vL (1 : Int64), vL (x2).toInt64], σ1)) rfl).trans ?_
  refine (e_ci (m := 131) (pc := 27) (ls := [some (vR 10 0 0), some (vI x1), some (vI x2)]) (rest := []) rfl h4).trans ?_
  refine (e_f (B := (131, 30, [some (vR 10 0 0), some (vI x1), some (vI x2)], [], σ2)) rfl h5).trans ?_
  refine (e_n 3 (fr' := (131, 33, [some (vR 10 0 0), some (vI x1), some (vI x2)], [vI x2, vI x1, vR 10 0 0], σ2)) rfl).trans ?_
  refine (e_ci (m := 131) (pc := 36) (ls := [some (vR 10 0 0), some (vI x1), some (vI x2)]) (rest := []) rfl h6).trans ?_
  refine (e_n 1 (fr' := (131, 41, [some (vR 10 0 0), some (vI x1), some (vI x2)], [vI r3], σ3)) rfl).trans ?_
  exact e_r rfl
set_option maxRecDepth 20000 in
theorem g132_0_0 (C : pmC) {σ : pmS} {x1 : Int32} {x2 : Int32} {l3 : Option pmV} {l4 : Option pmV} {σ1 : pmS} {r1 : Int32} (h1 : C 106 [vR 10 0 0, vI x1] σ = some (some (vI r1), σ1)) (h2 : r1 = 0) : pq_Rn C (132, 0, [some (vR 10 0 0), some (vI x1), some (vI x2), l3, l4], [], σ) = some (some (vI (-1 : Int32)), σ1) := by
  refine (e_n 2 (fr' := (132, 2, [some (vR 10 0 0), some (vI x1), some (vI x2), l3, l4], [vI x1, vR 10 0 0], σ)) rfl).trans ?_
  refine (e_ci (m := 132) (pc := 5) (ls := [some (vR 10 0 0), some (vI x1), some (vI x2), l3, l4]) (rest := []) rfl h1).trans ?_
  refine (e_t (A := (132, 8, [some (vR 10 0 0), some (vI x1), some (vI x2), l3, l4], [], σ1)) rfl h2).trans ?_
  refine (e_n 1 (fr' := (132, 9, [some (vR 10 0 0), some (vI x1), some (vI x2), l3, l4], [vI (-1 : Int32)], σ1)) rfl).trans ?_
  exact e_r rfl
set_option maxRecDepth 20000 in
theorem g132_0_1 (C : pmC) {σ : pmS} {x1 : Int32} {x2 : Int32} {l3 : Option pmV} {l4 : Option pmV} {σ1 : pmS} {r1 : Int32} {σ2 : pmS} {r2 : Int32} (h1 : C 106 [vR 10 0 0, vI x1] σ = some (some (vI r1), σ1)) (h2 : ¬ r1 = 0) (h3 : C 105 [vL (x2).toInt64, vL (0 : Int64), vL (7 : Int64)] σ1 = some (some (vI r2), σ2)) (h4 : r2 = 0) : pq_Rn C (132, 0, [some (vR 10 0 0), some (vI x1), some (vI x2), l3, l4], [], σ) = some (some (vI (-2 : Int32)), σ2) := by
  refine (e_n 2 (fr' := (132, 2, [some (vR 10 0 0), some (vI x1), some (vI x2), l3, l4], [vI x1, vR 10 0 0], σ)) rfl).trans ?_
  refine (e_ci (m := 132) (pc := 5) (ls := [some (vR 10 0 0), some (vI x1), some (vI x2), l3, l4]) (rest := []) rfl h1).trans ?_
  refine (e_f (B := (132, 10, [some (vR 10 0 0), some (vI x1), some (vI x2), l3, l4], [], σ1)) rfl h2).trans ?_
  refine (e_n 4 (fr' := (132, 16, [some (vR 10 0 0), some (vI x1), some (vI x2), l3, l4], [vL (7 : Int64), vL (0 : Int64), vL (x2).toInt64], σ1)) rfl).trans ?_
  refine (e_ci (m := 132) (pc := 19) (ls := [some (vR 10 0 0), some (vI x1), some (vI x2), l3, l4]) (rest := []) rfl h3).trans ?_
  refine (e_t (A := (132, 22, [some (vR 10 0 0), some (vI x1), some (vI x2), l3, l4], [], σ2)) rfl h4).trans ?_
  refine (e_n 1 (fr' := (132, 24, [some (vR 10 0 0), some (vI x1), some (vI x2), l3, l4], [vI (-2 : Int32)], σ2)) rfl).trans ?_
  exact e_r rfl
set_option maxRecDepth 20000 in
theorem g132_0_2 (C : pmC) {σ : pmS} {x1 : Int32} {x2 : Int32} {l3 : Option pmV} {l4 : Option pmV} {σ1 : pmS} {r1 : Int32} {σ2 : pmS} {r2 : Int32} (h1 : C 106 [vR 10 0 0, vI x1] σ = some (some (vI r1), σ1)) (h2 : ¬ r1 = 0) (h3 : C 105 [vL (x2).toInt64, vL (0 : Int64), vL (7 : Int64)] σ1 = some (some (vI r2), σ2)) (h4 : ¬ r2 = 0) : pq_Rn C (132, 0, [some (vR 10 0 0), some (vI x1), some (vI x2), l3, l4], [], σ) = pq_Rn C (132, 30, [some (vR 10 0 0), some (vI x1), some (vI x2), some (vI (0 : Int32)), some (vI (1 : Int32))], [], σ2) := by
  refine (e_n 2 (fr' := (132, 2, [some (vR 10 0 0), some (vI x1), some (vI x2), l3, l4], [vI x1, vR 10 0 0], σ)) rfl).trans ?_
  refine (e_ci (m := 132) (pc := 5) (ls := [some (vR 10 0 0), some (vI x1), some (vI x2), l3, l4]) (rest := []) rfl h1).trans ?_
  refine (e_f (B := (132, 10, [some (vR 10 0 0), some (vI x1), some (vI x2), l3, l4], [], σ1)) rfl h2).trans ?_
  refine (e_n 4 (fr' := (132, 16, [some (vR 10 0 0), some (vI x1), some (vI x2), l3, l4], [vL (7 : Int64), vL (0 : Int64), vL (x2).toInt64], σ1)) rfl).trans ?_
  refine (e_ci (m := 132) (pc := 19) (ls := [some (vR 10 0 0), some (vI x1), some (vI x2), l3, l4]) (rest := []) rfl h3).trans ?_
  refine (e_f (B := (132, 25, [some (vR 10 0 0), some (vI x1), some (vI x2), l3, l4], [], σ2)) rfl h4).trans ?_
  exact e_n 4 rfl
set_option maxRecDepth 20000 in
theorem g132_30_0 (C : pmC) {σ : pmS} {x1 : Int32} {x2 : Int32} {x3 : Int32} {x4 : Int32} (h1 : vp_in x1 4) (h2 : (((1 : Int32) <<< ((σ.1 10 0 0 (x1).toNatClampNeg) &&& 31)) - (1 : Int32)) ≤ x4) : pq_Rn C (132, 30, [some (vR 10 0 0), some (vI x1), some (vI x2), some (vI x3), some (vI x4)], [], σ) = some (some (vI x3), σ) := by
  refine (e_n 5 (fr' := (132, 38, [some (vR 10 0 0), some (vI x1), some (vI x2), some (vI x3), some (vI x4)], [vI x1, vR 10 0 1, vI (1 : Int32), vI x4], σ)) rfl).trans ?_
  refine (e_a (A := (132, 39, [some (vR 10 0 0), some (vI x1), some (vI x2), some (vI x3), some (vI x4)], [vI (σ.1 10 0 0 (x1).toNatClampNeg), vI (1 : Int32), vI x4], σ)) rfl h1).trans ?_
  refine (e_n 3 (fr' := (132, 42, [some (vR 10 0 0), some (vI x1), some (vI x2), some (vI x3), some (vI x4)], [vI (((1 : Int32) <<< ((σ.1 10 0 0 (x1).toNatClampNeg) &&& 31)) - (1 : Int32)), vI x4], σ)) rfl).trans ?_
  refine (e_t (A := (132, 72, [some (vR 10 0 0), some (vI x1), some (vI x2), some (vI x3), some (vI x4)], [], σ)) rfl h2).trans ?_
  refine (e_n 1 (fr' := (132, 73, [some (vR 10 0 0), some (vI x1), some (vI x2), some (vI x3), some (vI x4)], [vI x3], σ)) rfl).trans ?_
  exact e_r rfl
set_option maxRecDepth 20000 in
theorem g132_30_1 (C : pmC) {σ : pmS} {x1 : Int32} {x2 : Int32} {x3 : Int32} {x4 : Int32} {σ1 : pmS} {r1 : Int32} (h1 : vp_in x1 4) (h2 : ¬ (((1 : Int32) <<< ((σ.1 10 0 0 (x1).toNatClampNeg) &&& 31)) - (1 : Int32)) ≤ x4) (h3 : C 130 [vR 10 0 0, vI x1, vI x4] σ = some (some (vI r1), σ1)) (h4 : (r1 &&& x2) = x2) : pq_Rn C (132, 30, [some (vR 10 0 0), some (vI x1), some (vI x2), some (vI x3), some (vI x4)], [], σ) = pq_Rn C (132, 30, [some (vR 10 0 0), some (vI x1), some (vI x2), some (vI (x3 + (1 : Int32))), some (vI (x4 + (2 : Int32)))], [], σ1) := by
  refine (e_n 5 (fr' := (132, 38, [some (vR 10 0 0), some (vI x1), some (vI x2), some (vI x3), some (vI x4)], [vI x1, vR 10 0 1, vI (1 : Int32), vI x4], σ)) rfl).trans ?_
  refine (e_a (A := (132, 39, [some (vR 10 0 0), some (vI x1), some (vI x2), some (vI x3), some (vI x4)], [vI (σ.1 10 0 0 (x1).toNatClampNeg), vI (1 : Int32), vI x4], σ)) rfl h1).trans ?_
  refine (e_n 3 (fr' := (132, 42, [some (vR 10 0 0), some (vI x1), some (vI x2), some (vI x3), some (vI x4)], [vI (((1 : Int32) <<< ((σ.1 10 0 0 (x1).toNatClampNeg) &&& 31)) - (1 : Int32)), vI x4], σ)) rfl).trans ?_
  refine (e_f (B := (132, 45, [some (vR 10 0 0), some (vI x1), some (vI x2), some (vI x3), some (vI x4)], [], σ)) rfl h2).trans ?_
  refine (e_n 4 (fr' := (132, 50, [some (vR 10 0 0), some (vI x1), some (vI x2), some (vI x3), some (vI x4)], [vI x4, vI x1, vR 10 0 0, vI x3], σ)) rfl).trans ?_
  refine (e_ci (m := 132) (pc := 53) (ls := [some (vR 10 0 0), some (vI x1), some (vI x2), some (vI x3), some (vI x4)]) (rest := [vI x3]) rfl h3).trans ?_
  refine (e_n 3 (fr' := (132, 56, [some (vR 10 0 0), some (vI x1), some (vI x2), some (vI x3), some (vI x4)], [vI x2, vI (r1 &&& x2), vI x3], σ1)) rfl).trans ?_
  refine (e_t (A := (132, 59, [some (vR 10 0 0), some (vI x1), some (vI x2), some (vI x3), some (vI x4)], [vI x3], σ1)) rfl h4).trans ?_
  exact e_n 6 rfl
set_option maxRecDepth 20000 in
theorem g132_30_2 (C : pmC) {σ : pmS} {x1 : Int32} {x2 : Int32} {x3 : Int32} {x4 : Int32} {σ1 : pmS} {r1 : Int32} (h1 : vp_in x1 4) (h2 : ¬ (((1 : Int32) <<< ((σ.1 10 0 0 (x1).toNatClampNeg) &&& 31)) - (1 : Int32)) ≤ x4) (h3 : C 130 [vR 10 0 0, vI x1, vI x4] σ = some (some (vI r1), σ1)) (h4 : ¬ (r1 &&& x2) = x2) : pq_Rn C (132, 30, [some (vR 10 0 0), some (vI x1), some (vI x2), some (vI x3), some (vI x4)], [], σ) = pq_Rn C (132, 30, [some (vR 10 0 0), some (vI x1), some (vI x2), some (vI (x3 + (0 : Int32))), some (vI (x4 + (2 : Int32)))], [], σ1) := by
  refine (e_n 5 (fr' := (132, 38, [some (vR 10 0 0), some (vI x1), some (vI x2), some (vI x3), some (vI x4)], [vI x1, vR 10 0 1, vI (1 : Int32), vI x4], σ)) rfl).trans ?_
  refine (e_a (A := (132, 39, [some (vR 10 0 0), some (vI x1), some (vI x2), some (vI x3), some (vI x4)], [vI (σ.1 10 0 0 (x1).toNatClampNeg), vI (1 : Int32), vI x4], σ)) rfl h1).trans ?_
  refine (e_n 3 (fr' := (132, 42, [some (vR 10 0 0), some (vI x1), some (vI x2), some (vI x3), some (vI x4)], [vI (((1 : Int32) <<< ((σ.1 10 0 0 (x1).toNatClampNeg) &&& 31)) - (1 : Int32)), vI x4], σ)) rfl).trans ?_
  refine (e_f (B := (132, 45, [some (vR 10 0 0), some (vI x1), some (vI x2), some (vI x3), some (vI x4)], [], σ)) rfl h2).trans ?_
  refine (e_n 4 (fr' := (132, 50, [some (vR 10 0 0), some (vI x1), some (vI x2), some (vI x3), some (vI x4)], [vI x4, vI x1, vR 10 0 0, vI x3], σ)) rfl).trans ?_
  refine (e_ci (m := 132) (pc := 53) (ls := [some (vR 10 0 0), some (vI x1), some (vI x2), some (vI x3), some (vI x4)]) (rest := [vI x3]) rfl h3).trans ?_
  refine (e_n 3 (fr' := (132, 56, [some (vR 10 0 0), some (vI x1), some (vI x2), some (vI x3), some (vI x4)], [vI x2, vI (r1 &&& x2), vI x3], σ1)) rfl).trans ?_
  refine (e_f (B := (132, 63, [some (vR 10 0 0), some (vI x1), some (vI x2), some (vI x3), some (vI x4)], [vI x3], σ1)) rfl h4).trans ?_
  exact e_n 5 rfl
set_option maxRecDepth 20000 in
theorem g133_0_0 (C : pmC) {σ : pmS} {x1 : Int32} (h1 : x1 < 0) : pq_Rn C (133, 0, [some (vR 10 0 0), some (vI x1)], [], σ) = some (some (vI (0 : Int32)), σ) := by
  refine (e_n 1 (fr' := (133, 1, [some (vR 10 0 0), some (vI x1)], [vI x1], σ)) rfl).trans ?_
  refine (e_t (A := (133, 16, [some (vR 10 0 0), some (vI x1)], [], σ)) rfl h1).trans ?_
  refine (e_n 1 (fr' := (133, 17, [some (vR 10 0 0), some (vI x1)], [vI (0 : Int32)], σ)) rfl).trans ?_
  exact e_r rfl
set_option maxRecDepth 20000 in
theorem g133_0_1 (C : pmC) {σ : pmS} {x1 : Int32} (h1 : ¬ x1 < 0) (h2 : (σ.1 10 0 15 0) ≤ x1) : pq_Rn C (133, 0, [some (vR 10 0 0), some (vI x1)], [], σ) = some (some (vI (0 : Int32)), σ) := by
  refine (e_n 1 (fr' := (133, 1, [some (vR 10 0 0), some (vI x1)], [vI x1], σ)) rfl).trans ?_
  refine (e_f (B := (133, 4, [some (vR 10 0 0), some (vI x1)], [], σ)) rfl h1).trans ?_
  refine (e_n 3 (fr' := (133, 9, [some (vR 10 0 0), some (vI x1)], [vI (σ.1 10 0 15 0), vI x1], σ)) rfl).trans ?_
  refine (e_t (A := (133, 16, [some (vR 10 0 0), some (vI x1)], [], σ)) rfl h2).trans ?_
  refine (e_n 1 (fr' := (133, 17, [some (vR 10 0 0), some (vI x1)], [vI (0 : Int32)], σ)) rfl).trans ?_
  exact e_r rfl
set_option maxRecDepth 20000 in
theorem g133_0_2 (C : pmC) {σ : pmS} {x1 : Int32} (h1 : ¬ x1 < 0) (h2 : ¬ (σ.1 10 0 15 0) ≤ x1) : pq_Rn C (133, 0, [some (vR 10 0 0), some (vI x1)], [], σ) = some (some (vI (1 : Int32)), σ) := by
  refine (e_n 1 (fr' := (133, 1, [some (vR 10 0 0), some (vI x1)], [vI x1], σ)) rfl).trans ?_
  refine (e_f (B := (133, 4, [some (vR 10 0 0), some (vI x1)], [], σ)) rfl h1).trans ?_
  refine (e_n 3 (fr' := (133, 9, [some (vR 10 0 0), some (vI x1)], [vI (σ.1 10 0 15 0), vI x1], σ)) rfl).trans ?_
  refine (e_f (B := (133, 12, [some (vR 10 0 0), some (vI x1)], [], σ)) rfl h2).trans ?_
  refine (e_n 2 (fr' := (133, 17, [some (vR 10 0 0), some (vI x1)], [vI (1 : Int32)], σ)) rfl).trans ?_
  exact e_r rfl
set_option maxRecDepth 20000 in
theorem g134_0_0 (C : pmC) {σ : pmS} {x1 : Int32} (h1 : x1 < 0) : pq_Rn C (134, 0, [some (vR 10 0 0), some (vI x1)], [], σ) = some (some (vI (0 : Int32)), σ) := by
  refine (e_n 1 (fr' := (134, 1, [some (vR 10 0 0), some (vI x1)], [vI x1], σ)) rfl).trans ?_
  refine (e_t (A := (134, 16, [some (vR 10 0 0), some (vI x1)], [], σ)) rfl h1).trans ?_
  refine (e_n 1 (fr' := (134, 17, [some (vR 10 0 0), some (vI x1)], [vI (0 : Int32)], σ)) rfl).trans ?_
  exact e_r rfl
set_option maxRecDepth 20000 in
theorem g134_0_1 (C : pmC) {σ : pmS} {x1 : Int32} (h1 : ¬ x1 < 0) (h2 : (σ.1 10 0 16 0) ≤ x1) : pq_Rn C (134, 0, [some (vR 10 0 0), some (vI x1)], [], σ) = some (some (vI (0 : Int32)), σ) := by
  refine (e_n 1 (fr' := (134, 1, [some (vR 10 0 0), some (vI x1)], [vI x1], σ)) rfl).trans ?_
  refine (e_f (B := (134, 4, [some (vR 10 0 0), some (vI x1)], [], σ)) rfl h1).trans ?_
  refine (e_n 3 (fr' := (134, 9, [some (vR 10 0 0), some (vI x1)], [vI (σ.1 10 0 16 0), vI x1], σ)) rfl).trans ?_
  refine (e_t (A := (134, 16, [some (vR 10 0 0), some (vI x1)], [], σ)) rfl h2).trans ?_
  refine (e_n 1 (fr' := (134, 17, [some (vR 10 0 0), some (vI x1)], [vI (0 : Int32)], σ)) rfl).trans ?_
  exact e_r rfl
set_option maxRecDepth 20000 in
theorem g134_0_2 (C : pmC) {σ : pmS} {x1 : Int32} (h1 : ¬ x1 < 0) (h2 : ¬ (σ.1 10 0 16 0) ≤ x1) : pq_Rn C (134, 0, [some (vR 10 0 0), some (vI x1)], [], σ) = some (some (vI (1 : Int32)), σ) := by
  refine (e_n 1 (fr' := (134, 1, [some (vR 10 0 0), some (vI x1)], [vI x1], σ)) rfl).trans ?_
  refine (e_f (B := (134, 4, [some (vR 10 0 0), some (vI x1)], [], σ)) rfl h1).trans ?_
  refine (e_n 3 (fr' := (134, 9, [some (vR 10 0 0), some (vI x1)], [vI (σ.1 10 0 16 0), vI x1], σ)) rfl).trans ?_
  refine (e_f (B := (134, 12, [some (vR 10 0 0), some (vI x1)], [], σ)) rfl h2).trans ?_
  refine (e_n 2 (fr' := (134, 17, [some (vR 10 0 0), some (vI x1)], [vI (1 : Int32)], σ)) rfl).trans ?_
  exact e_r rfl
set_option maxRecDepth 20000 in
theorem g135_0_0 (C : pmC) {σ : pmS} {x1 : Int32} {x2 : Int32} {σ1 : pmS} {r1 : Int32} (h1 : C 106 [vR 10 0 0, vI x1] σ = some (some (vI r1), σ1)) (h2 : r1 = 0) : pq_Rn C (135, 0, [some (vR 10 0 0), some (vI x1), some (vI x2)], [], σ) = some (some (vI (-1 : Int32)), σ1) := by
  refine (e_n 2 (fr' := (135, 2, [some (vR 10 0 0), some (vI x1), some (vI x2)], [vI x1, vR 10 0 0], σ)) rfl).trans ?_
  refine (e_ci (m := 135) (pc := 5) (ls := [some (vR 10 0 0), some (vI x1), some (vI x2)]) (rest := []) rfl h1).trans ?_
  refine (e_t (A := (135, 8, [some (vR 10 0 0), some (vI x1), some (vI x2)], [], σ1)) rfl h2).trans ?_
  refine (e_n 1 (fr' := (135, 9, [some (vR 10 0 0), some (vI x1), some (vI x2)], [vI (-1 : Int32)], σ1)) rfl).trans ?_
  exact e_r rfl
set_option maxRecDepth 20000 in
theorem g135_0_1 (C : pmC) {σ : pmS} {x1 : Int32} {x2 : Int32} {σ1 : pmS} {r1 : Int32} {σ2 : pmS} {r2 : Int32} (h1 : C 106 [vR 10 0 0, vI x1] σ = some (some (vI r1), σ1)) (h2 : ¬ r1 = 0) (h3 : C 105 [vL (x2).toInt64, vL (0 : Int64), vL (1 : Int64)] σ1 = some (some (vI r2), σ2)) (h4 : r2 = 0) : pq_Rn C (135, 0, [some (vR 10 0 0), some (vI x1), some (vI x2)], [], σ) = some (some (vI (-2 : Int32)), σ2) := by
  refine (e_n 2 (fr' := (135, 2, [some (vR 10 0 0), some (vI x1), some (vI x2)], [vI x1, vR 10 0 0], σ)) rfl).trans ?_
  refine (e_ci (m := 135) (pc := 5) (ls := [some (vR 10 0 0), some (vI x1), some (vI x2)]) (rest := []) rfl h1).trans ?_
  refine (e_f (B := (135, 10, [some (vR 10 0 0), some (vI x1), some (vI x2)], [], σ1)) rfl h2).trans ?_
  refine (e_n 4 (fr' := (135, 14, [some (vR 10 0 0), some (vI x1), some (vI x2)], [vL (1 : Int64), vL (0 : Int64), vL (x2).toInt64], σ1)) rfl).trans ?_
  refine (e_ci (m := 135) (pc := 17) (ls := [some (vR 10 0 0), some (vI x1), some (vI x2)]) (rest := []) rfl h3).trans ?_
  refine (e_t (A := (135, 20, [some (vR 10 0 0), some (vI x1), some (vI x2)], [], σ2)) rfl h4).trans ?_
  refine (e_n 1 (fr' := (135, 22, [some (vR 10 0 0), some (vI x1), some (vI x2)], [vI (-2 : Int32)], σ2)) rfl).trans ?_
  exact e_r rfl
set_option maxRecDepth 20000 in
theorem g135_0_2 (C : pmC) {σ : pmS} {x1 : Int32} {x2 : Int32} {σ1 : pmS} {r1 : Int32} {σ2 : pmS} {r2 : Int32} (h1 : C 106 [vR 10 0 0, vI x1] σ = some (some (vI r1), σ1)) (h2 : ¬ r1 = 0) (h3 : C 105 [vL (x2).toInt64, vL (0 : Int64), vL (1 : Int64)] σ1 = some (some (vI r2), σ2)) (h4 : ¬ r2 = 0) (h5 : (σ2.1 10 0 15 0) = (3 : Int32)) : pq_Rn C (135, 0, [some (vR 10 0 0), some (vI x1), some (vI x2)], [], σ) = some (some (vI (-4 : Int32)), σ2) := by
  refine (e_n 2 (fr' := (135, 2, [some (vR 10 0 0), some (vI x1), some (vI x2)], [vI x1, vR 10 0 0], σ)) rfl).trans ?_
  refine (e_ci (m := 135) (pc := 5) (ls := [some (vR 10 0 0), some (vI x1), some (vI x2)]) (rest := []) rfl h1).trans ?_
  refine (e_f (B := (135, 10, [some (vR 10 0 0), some (vI x1), some (vI x2)], [], σ1)) rfl h2).trans ?_
  refine (e_n 4 (fr' := (135, 14, [some (vR 10 0 0), some (vI x1), some (vI x2)], [vL (1 : Int64), vL (0 : Int64), vL (x2).toInt64], σ1)) rfl).trans ?_
  refine (e_ci (m := 135) (pc := 17) (ls := [some (vR 10 0 0), some (vI x1), some (vI x2)]) (rest := []) rfl h3).trans ?_
  refine (e_f (B := (135, 23, [some (vR 10 0 0), some (vI x1), some (vI x2)], [], σ2)) rfl h4).trans ?_
  refine (e_n 3 (fr' := (135, 28, [some (vR 10 0 0), some (vI x1), some (vI x2)], [vI (3 : Int32), vI (σ2.1 10 0 15 0)], σ2)) rfl).trans ?_
  refine (e_t (A := (135, 31, [some (vR 10 0 0), some (vI x1), some (vI x2)], [], σ2)) rfl h5).trans ?_
  refine (e_n 1 (fr' := (135, 33, [some (vR 10 0 0), some (vI x1), some (vI x2)], [vI (-4 : Int32)], σ2)) rfl).trans ?_
  exact e_r rfl
set_option maxRecDepth 20000 in
theorem g135_0_3 (C : pmC) {σ : pmS} {x1 : Int32} {x2 : Int32} {σ1 : pmS} {r1 : Int32} {σ2 : pmS} {r2 : Int32} (h1 : C 106 [vR 10 0 0, vI x1] σ = some (some (vI r1), σ1)) (h2 : ¬ r1 = 0) (h3 : C 105 [vL (x2).toInt64, vL (0 : Int64), vL (1 : Int64)] σ1 = some (some (vI r2), σ2)) (h4 : ¬ r2 = 0) (h5 : ¬ (σ2.1 10 0 15 0) = (3 : Int32)) (h6 : vp_in (σ2.1 10 0 15 0) 3) (h7 : vp_in ((5 : Int32) * (σ2.1 10 0 15 0)) 15) : pq_Rn C (135, 0, [some (vR 10 0 0), some (vI x1), some (vI x2)], [], σ) = some (some (vI (((σ2.1 10 0 15 0) + (1 : Int32)) - (1 : Int32))), (pm_wi (pm_wi (pm_wi (pm_wi (pm_wi σ2 10 0 11 ((σ2.1 10 0 15 0)).toNatClampNeg (1 : Int32)) 10 0 12 (((5 : Int32) * (σ2.1 10 0 15 0))).toNatClampNeg (0 : Int32)) 10 0 13 (((5 : Int32) * (σ2.1 10 0 15 0))).toNatClampNeg x1) 10 0 14 (((5 : Int32) * (σ2.1 10 0 15 0))).toNatClampNeg x2) 10 0 15 0 ((σ2.1 10 0 15 0) + (1 : Int32)))) := by
  refine (e_n 2 (fr' := (135, 2, [some (vR 10 0 0), some (vI x1), some (vI x2)], [vI x1, vR 10 0 0], σ)) rfl).trans ?_
  refine (e_ci (m := 135) (pc := 5) (ls := [some (vR 10 0 0), some (vI x1), some (vI x2)]) (rest := []) rfl h1).trans ?_
  refine (e_f (B := (135, 10, [some (vR 10 0 0), some (vI x1), some (vI x2)], [], σ1)) rfl h2).trans ?_
  refine (e_n 4 (fr' := (135, 14, [some (vR 10 0 0), some (vI x1), some (vI x2)], [vL (1 : Int64), vL (0 : Int64), vL (x2).toInt64], σ1)) rfl).trans ?_
  refine (e_ci (m := 135) (pc := 17) (ls := [some (vR 10 0 0), some (vI x1), some (vI x2)]) (rest := []) rfl h3).trans ?_
  refine (e_f (B := (135, 23, [some (vR 10 0 0), some (vI x1), some (vI x2)], [], σ2)) rfl h4).trans ?_
  refine (e_n 3 (fr' := (135, 28, [some (vR 10 0 0), some (vI x1), some (vI x2)], [vI (3 : Int32), vI (σ2.1 10 0 15 0)], σ2)) rfl).trans ?_
  refine (e_f (B := (135, 34, [some (vR 10 0 0), some (vI x1), some (vI x2)], [], σ2)) rfl h5).trans ?_
  refine (e_n 5 (fr' := (135, 43, [some (vR 10 0 0), some (vI x1), some (vI x2)], [vI (1 : Int32), vI (σ2.1 10 0 15 0), vR 10 0 12], σ2)) rfl).trans ?_
  refine (e_a (A := (135, 44, [some (vR 10 0 0), some (vI x1), some (vI x2)], [], (pm_wi σ2 10 0 11 ((σ2.1 10 0 15 0)).toNatClampNeg (1 : Int32)))) rfl h6).trans ?_
  refine (e_n 7 (fr' := (135, 55, [some (vR 10 0 0), some (vI x1), some (vI x2)], [vI (0 : Int32), vI ((5 : Int32) * (σ2.1 10 0 15 0)), vR 10 0 13], (pm_wi σ2 10 0 11 ((σ2.1 10 0 15 0)).toNatClampNeg (1 : Int32)))) rfl).trans ?_
  refine (e_a (A := (135, 56, [some (vR 10 0 0), some (vI x1), some (vI x2)], [], (pm_wi (pm_wi σ2 10 0 11 ((σ2.1 10 0 15 0)).toNatClampNeg (1 : Int32)) 10 0 12 (((5 : Int32) * (σ2.1 10 0 15 0))).toNatClampNeg (0 : Int32)))) rfl h7).trans ?_
  refine (e_n 7 (fr' := (135, 67, [some (vR 10 0 0), some (vI x1), some (vI x2)], [vI x1, vI ((5 : Int32) * (σ2.1 10 0 15 0)), vR 10 0 14], (pm_wi (pm_wi σ2 10 0 11 ((σ2.1 10 0 15 0)).toNatClampNeg (1 : Int32)) 10 0 12 (((5 : Int32) * (σ2.1 10 0 15 0))).toNatClampNeg (0 : Int32)))) rfl).trans ?_
  refine (e_a (A := (135, 68, [some (vR 10 0 0), some (vI x1), some (vI x2)], [], (pm_wi (pm_wi (pm_wi σ2 10 0 11 ((σ2.1 10 0 15 0)).toNatClampNeg (1 : Int32)) 10 0 12 (((5 : Int32) * (σ2.1 10 0 15 0))).toNatClampNeg (0 : Int32)) 10 0 13 (((5 : Int32) * (σ2.1 10 0 15 0))).toNatClampNeg x1))) rfl h7).trans ?_
  refine (e_n 7 (fr' := (135, 79, [some (vR 10 0 0), some (vI x1), some (vI x2)], [vI x2, vI ((5 : Int32) * (σ2.1 10 0 15 0)), vR 10 0 15], (pm_wi (pm_wi (pm_wi σ2 10 0 11 ((σ2.1 10 0 15 0)).toNatClampNeg (1 : Int32)) 10 0 12 (((5 : Int32) * (σ2.1 10 0 15 0))).toNatClampNeg (0 : Int32)) 10 0 13 (((5 : Int32) * (σ2.1 10 0 15 0))).toNatClampNeg x1))) rfl).trans ?_
  refine (e_a (A := (135, 80, [some (vR 10 0 0), some (vI x1), some (vI x2)], [], (pm_wi (pm_wi (pm_wi (pm_wi σ2 10 0 11 ((σ2.1 10 0 15 0)).toNatClampNeg (1 : Int32)) 10 0 12 (((5 : Int32) * (σ2.1 10 0 15 0))).toNatClampNeg (0 : Int32)) 10 0 13 (((5 : Int32) * (σ2.1 10 0 15 0))).toNatClampNeg x1) 10 0 14 (((5 : Int32) * (σ2.1 10 0 15 0))).toNatClampNeg x2))) rfl h7).trans ?_
  refine (e_n 10 (fr' := (135, 96, [some (vR 10 0 0), some (vI x1), some (vI x2)], [vI (((σ2.1 10 0 15 0) + (1 : Int32)) - (1 : Int32))], (pm_wi (pm_wi (pm_wi (pm_wi (pm_wi σ2 10 0 11 ((σ2.1 10 0 15 0)).toNatClampNeg (1 : Int32)) 10 0 12 (((5 : Int32) * (σ2.1 10 0 15 0))).toNatClampNeg (0 : Int32)) 10 0 13 (((5 : Int32) * (σ2.1 10 0 15 0))).toNatClampNeg x1) 10 0 14 (((5 : Int32) * (σ2.1 10 0 15 0))).toNatClampNeg x2) 10 0 15 0 ((σ2.1 10 0 15 0) + (1 : Int32))))) rfl).trans ?_
  exact e_r rfl
set_option maxRecDepth 20000 in
theorem g136_0_0 (C : pmC) {σ : pmS} {x1 : Int32} {x2 : Int32} {x3 : Int32} {x4 : Int32} {l5 : Option pmV} {σ1 : pmS} {r1 : Int32} (h1 : C 133 [vR 10 0 0, vI x1] σ = some (some (vI r1), σ1)) (h2 : r1 = 0) : pq_Rn C (136, 0, [some (vR 10 0 0), some (vI x1), some (vI x2), some (vI x3), some (vI x4), l5], [], σ) = some (some (vI (-1 : Int32)), σ1) := by
  refine (e_n 2 (fr' := (136, 2, [some (vR 10 0 0), some (vI x1), some (vI x2), some (vI x3), some (vI x4), l5], [vI x1, vR 10 0 0], σ)) rfl).trans ?_
  refine (e_ci (m := 136) (pc := 5) (ls := [some (vR 10 0 0), some (vI x1), some (vI x2), some (vI x3), some (vI x4), l5]) (rest := []) rfl h1).trans ?_
  refine (e_t (A := (136, 16, [some (vR 10 0 0), some (vI x1), some (vI x2), some (vI x3), some (vI x4), l5], [], σ1)) rfl h2).trans ?_
  refine (e_n 1 (fr' := (136, 17, [some (vR 10 0 0), some (vI x1), some (vI x2), some (vI x3), some (vI x4), l5], [vI (-1 : Int32)], σ1)) rfl).trans ?_
  exact e_r rfl
set_option maxRecDepth 20000 in
theorem g136_0_1 (C : pmC) {σ : pmS} {x1 : Int32} {x2 : Int32} {x3 : Int32} {x4 : Int32} {l5 : Option pmV} {σ1 : pmS} {r1 : Int32} {σ2 : pmS} {r2 : Int32} (h1 : C 133 [vR 10 0 0, vI x1] σ = some (some (vI r1), σ1)) (h2 : ¬ r1 = 0) (h3 : C 106 [vR 10 0 0, vI x3] σ1 = some (some (vI r2), σ2)) (h4 : r2 = 0) : pq_Rn C (136, 0, [some (vR 10 0 0), some (vI x1), some (vI x2), some (vI x3), some (vI x4), l5], [], σ) = some (some (vI (-1 : Int32)), σ2) := by
  refine (e_n 2 (fr' := (136, 2, [some (vR 10 0 0), some (vI x1), some (vI x2), some (vI x3), some (vI x4), l5], [vI x1, vR 10 0 0], σ)) rfl).trans ?_
  refine (e_ci (m := 136) (pc := 5) (ls := [some (vR 10 0 0), some (vI x1), some (vI x2), some (vI x3), some (vI x4), l5]) (rest := []) rfl h1).trans ?_
  refine (e_f (B := (136, 8, [some (vR 10 0 0), some (vI x1), some (vI x2), some (vI x3), some (vI x4), l5], [], σ1)) rfl h2).trans ?_
  refine (e_n 2 (fr' := (136, 10, [some (vR 10 0 0), some (vI x1), some (vI x2), some (vI x3), some (vI x4), l5], [vI x3, vR 10 0 0], σ1)) rfl).trans ?_
  refine (e_ci (m := 136) (pc := 13) (ls := [some (vR 10 0 0), some (vI x1), some (vI x2), some (vI x3), some (vI x4), l5]) (rest := []) rfl h3).trans ?_
  refine (e_t (A := (136, 16, [some (vR 10 0 0), some (vI x1), some (vI x2), some (vI x3), some (vI x4), l5], [], σ2)) rfl h4).trans ?_
  refine (e_n 1 (fr' := (136, 17, [some (vR 10 0 0), some (vI x1), some (vI x2), some (vI x3), some (vI x4), l5], [vI (-1 : Int32)], σ2)) rfl).trans ?_
  exact e_r rfl
set_option maxRecDepth 20000 in
theorem g136_0_2 (C : pmC) {σ : pmS} {x1 : Int32} {x2 : Int32} {x3 : Int32} {x4 : Int32} {l5 : Option pmV} {σ1 : pmS} {r1 : Int32} {σ2 : pmS} {r2 : Int32} {σ3 : pmS} {r3 : Int32} (h1 : C 133 [vR 10 0 0, vI x1] σ = some (some (vI r1), σ1)) (h2 : ¬ r1 = 0) (h3 : C 106 [vR 10 0 0, vI x3] σ1 = some (some (vI r2), σ2)) (h4 : ¬ r2 = 0) (h5 : C 105 [vL (x2).toInt64, vL (1 : Int64), vL (999 : Int64)] σ2 = some (some (vI r3), σ3)) (h6 : r3 = 0) : pq_Rn C (136, 0, [some (vR 10 0 0), some (vI x1), some (vI x2), some (vI x3), some (vI x4), l5], [], σ) = some (some (vI (-2 : Int32)), σ3) := by
  refine (e_n 2 (fr' := (136, 2, [some (vR 10 0 0), some (vI x1), some (vI x2), some (vI x3), some (vI x4), l5], [vI x1, vR 10 0 0], σ)) rfl).trans ?_
  refine (e_ci (m := 136) (pc := 5) (ls := [some (vR 10 0 0), some (vI x1), some (vI x2), some (vI x3), some (vI x4), l5]) (rest := []) rfl h1).trans ?_
  refine (e_f (B := (136, 8, [some (vR 10 0 0), some (vI x1), some (vI x2), some (vI x3), some (vI x4), l5], [], σ1)) rfl h2).trans ?_
  refine (e_n 2 (fr' := (136, 10, [some (vR 10 0 0), some (vI x1), some (vI x2), some (vI x3), some (vI x4), l5], [vI x3, vR 10 0 0], σ1)) rfl).trans ?_
  refine (e_ci (m := 136) (pc := 13) (ls := [some (vR 10 0 0), some (vI x1), some (vI x2), some (vI x3), some (vI x4), l5]) (rest := []) rfl h3).trans ?_
  refine (e_f (B := (136, 18, [some (vR 10 0 0), some (vI x1), some (vI x2), some (vI x3), some (vI x4), l5], [], σ2)) rfl h4).trans ?_
  refine (e_n 4 (fr' := (136, 24, [some (vR 10 0 0), some (vI x1), some (vI x2), some (vI x3), some (vI x4), l5], [vL (999 : Int64), vL (1 : Int64), vL (x2).toInt64], σ2)) rfl).trans ?_
  refine (e_ci (m := 136) (pc := 27) (ls := [some (vR 10 0 0), some (vI x1), some (vI x2), some (vI x3), some (vI x4), l5]) (rest := []) rfl h5).trans ?_
  refine (e_t (A := (136, 41, [some (vR 10 0 0), some (vI x1), some (vI x2), some (vI x3), some (vI x4), l5], [], σ3)) rfl h6).trans ?_
  refine (e_n 1 (fr' := (136, 43, [some (vR 10 0 0), some (vI x1), some (vI x2), some (vI x3), some (vI x4), l5], [vI (-2 : Int32)], σ3)) rfl).trans ?_
  exact e_r rfl
set_option maxRecDepth 20000 in
theorem g136_0_3 (C : pmC) {σ : pmS} {x1 : Int32} {x2 : Int32} {x3 : Int32} {x4 : Int32} {l5 : Option pmV} {σ1 : pmS} {r1 : Int32} {σ2 : pmS} {r2 : Int32} {σ3 : pmS} {r3 : Int32} {σ4 : pmS} {r4 : Int32} (h1 : C 133 [vR 10 0 0, vI x1] σ = some (some (vI r1), σ1)) (h2 : ¬ r1 = 0) (h3 : C 106 [vR 10 0 0, vI x3] σ1 = some (some (vI r2), σ2)) (h4 : ¬ r2 = 0) (h5 : C 105 [vL (x2).toInt64, vL (1 : Int64), vL (999 : Int64)] σ2 = some (some (vI r3), σ3)) (h6 : ¬ r3 = 0) (h7 : C 105 [vL (x4).toInt64, vL (0 : Int64), vL (1 : Int64)] σ3 = some (some (vI r4), σ4)) (h8 : r4 = 0) : pq_Rn C (136, 0, [some (vR 10 0 0), some (vI x1), some (vI x2), some (vI x3), some (vI x4), l5], [], σ) = some (some (vI (-2 : Int32)), σ4) := by
  refine (e_n 2 (fr' := (136, 2, [some (vR 10 0 0), some (vI x1), some (vI x2), some (vI x3), some (vI x4), l5], [vI x1, vR 10 0 0], σ)) rfl).trans ?_
  refine (e_ci (m := 136) (pc := 5) (ls := [some (vR 10 0 0), some (vI x1), some (vI x2), some (vI x3), some (vI x4), l5]) (rest := []) rfl h1).trans ?_
  refine (e_f (B := (136, 8, [some (vR 10 0 0), some (vI x1), some (vI x2), some (vI x3), some (vI x4), l5], [], σ1)) rfl h2).trans ?_
  refine (e_n 2 (fr' := (136, 10, [some (vR 10 0 0), some (vI x1), some (vI x2), some (vI x3), some (vI x4), l5], [vI x3, vR 10 0 0], σ1)) rfl).trans ?_
  refine (e_ci (m := 136) (pc := 13) (ls := [some (vR 10 0 0), some (vI x1), some (vI x2), some (vI x3), some (vI x4), l5]) (rest := []) rfl h3).trans ?_
  refine (e_f (B := (136, 18, [some (vR 10 0 0), some (vI x1), some (vI x2), some (vI x3), some (vI x4), l5], [], σ2)) rfl h4).trans ?_
  refine (e_n 4 (fr' := (136, 24, [some (vR 10 0 0), some (vI x1), some (vI x2), some (vI x3), some (vI x4), l5], [vL (999 : Int64), vL (1 : Int64), vL (x2).toInt64], σ2)) rfl).trans ?_
  refine (e_ci (m := 136) (pc := 27) (ls := [some (vR 10 0 0), some (vI x1), some (vI x2), some (vI x3), some (vI x4), l5]) (rest := []) rfl h5).trans ?_
  refine (e_f (B := (136, 30, [some (vR 10 0 0), some (vI x1), some (vI x2), some (vI x3), some (vI x4), l5], [], σ3)) rfl h6).trans ?_
  refine (e_n 4 (fr' := (136, 35, [some (vR 10 0 0), some (vI x1), some (vI x2), some (vI x3), some (vI x4), l5], [vL (1 : Int64), vL (0 : Int64), vL (x4).toInt64], σ3)) rfl).trans ?_
  refine (e_ci (m := 136) (pc := 38) (ls := [some (vR 10 0 0), some (vI x1), some (vI x2), some (vI x3), some (vI x4), l5]) (rest := []) rfl h7).trans ?_
  refine (e_t (A := (136, 41, [some (vR 10 0 0), some (vI x1), some (vI x2), some (vI x3), some (vI x4), l5], [], σ4)) rfl h8).trans ?_
  refine (e_n 1 (fr' := (136, 43, [some (vR 10 0 0), some (vI x1), some (vI x2), some (vI x3), some (vI x4), l5], [vI (-2 : Int32)], σ4)) rfl).trans ?_
  exact e_r rfl
set_option maxRecDepth 20000 in
theorem g136_0_4 (C : pmC) {σ : pmS} {x1 : Int32} {x2 : Int32} {x3 : Int32} {x4 : Int32} {l5 : Option pmV} {σ1 : pmS} {r1 : Int32} {σ2 : pmS} {r2 : Int32} {σ3 : pmS} {r3 : Int32} {σ4 : pmS} {r4 : Int32} (h1 : C 133 [vR 10 0 0, vI x1] σ = some (some (vI r1), σ1)) (h2 : ¬ r1 = 0) (h3 : C 106 [vR 10 0 0, vI x3] σ1 = some (some (vI r2), σ2)) (h4 : ¬ r2 = 0) (h5 : C 105 [vL (x2).toInt64, vL (1 : Int64), vL (999 : Int64)] σ2 = some (some (vI r3), σ3)) (h6 : ¬ r3 = 0) (h7 : C 105 [vL (x4).toInt64, vL (0 : Int64), vL (1 : Int64)] σ3 = some (some (vI r4), σ4)) (h8 : ¬ r4 = 0) : pq_Rn C (136, 0, [some (vR 10 0 0), some (vI x1), some (vI x2), some (vI x3), some (vI x4), l5], [], σ) = pq_Rn C (136, 49, [some (vR 10 0 0), some (vI x1), some (vI x2), some (vI x3), some (vI x4), some (vI ((5 : Int32) * x1))], [], σ4) := by
  refine (e_n 2 (fr' := (136, 2, [some (vR 10 0 0), some (vI x1), some (vI x2), some (vI x3), some (vI x4), l5], [vI x1, vR 10 0 0], σ)) rfl).trans ?_
  refine (e_ci (m := 136) (pc := 5) (ls := [some (vR 10 0 0), some (vI x1), some (vI x2), some (vI x3), some (vI x4), l5]) (rest := []) rfl h1).trans ?_
  refine (e_f (B := (136, 8, [some (vR 10 0 0), some (vI x1), some (vI x2), some (vI x3), some (vI x4), l5], [], σ1)) rfl h2).trans ?_
  refine (e_n 2 (fr' := (136, 10, [some (vR 10 0 0), some (vI x1), some (vI x2), some (vI x3), some (vI x4), l5], [vI x3, vR 10 0 0], σ1)) rfl).trans ?_
  refine (e_ci (m := 136) (pc := 13) (ls := [some (vR 10 0 0), some (vI x1), some (vI x2), some (vI x3), some (vI x4), l5]) (rest := []) rfl h3).trans ?_
  refine (e_f (B := (136, 18, [some (vR 10 0 0), some (vI x1), some (vI x2), some (vI x3), some (vI x4), l5], [], σ2)) rfl h4).trans ?_
  refine (e_n 4 (fr' := (136, 24, [some (vR 10 0 0), some (vI x1), some (vI x2), some (vI x3), some (vI x4), l5], [vL (999 : Int64), vL (1 : Int64), vL (x2).toInt64], σ2)) rfl).trans ?_
  refine (e_ci (m := 136) (pc := 27) (ls := [some (vR 10 0 0), some (vI x1), some (vI x2), some (vI x3), some (vI x4), l5]) (rest := []) rfl h5).trans ?_
  refine (e_f (B := (136, 30, [some (vR 10 0 0), some (vI x1), some (vI x2), some (vI x3), some (vI x4), l5], [], σ3)) rfl h6).trans ?_
  refine (e_n 4 (fr' := (136, 35, [some (vR 10 0 0), some (vI x1), some (vI x2), some (vI x3), some (vI x4), l5], [vL (1 : Int64), vL (0 : Int64), vL (x4).toInt64], σ3)) rfl).trans ?_
  refine (e_ci (m := 136) (pc := 38) (ls := [some (vR 10 0 0), some (vI x1), some (vI x2), some (vI x3), some (vI x4), l5]) (rest := []) rfl h7).trans ?_
  refine (e_f (B := (136, 44, [some (vR 10 0 0), some (vI x1), some (vI x2), some (vI x3), some (vI x4), l5], [], σ4)) rfl h8).trans ?_
  exact e_n 4 rfl
set_option maxRecDepth 20000 in
theorem g136_49_0 (C : pmC) {σ : pmS} {x1 : Int32} {x2 : Int32} {x3 : Int32} {x4 : Int32} {x5 : Int32} (h1 : vp_in x1 3) (h2 : (((5 : Int32) * x1) + (σ.1 10 0 11 (x1).toNatClampNeg)) ≤ x5) (h3 : x5 = (((5 : Int32) * x1) + (5 : Int32))) : pq_Rn C (136, 49, [some (vR 10 0 0), some (vI x1), some (vI x2), some (vI x3), some (vI x4), some (vI x5)], [], σ) = some (some (vI (-4 : Int32)), σ) := by
  refine (e_n 7 (fr' := (136, 59, [some (vR 10 0 0), some (vI x1), some (vI x2), some (vI x3), some (vI x4), some (vI x5)], [vI x1, vR 10 0 12, vI ((5 : Int32) * x1), vI x5], σ)) rfl).trans ?_
  refine (e_a (A := (136, 60, [some (vR 10 0 0), some (vI x1), some (vI x2), some (vI x3), some (vI x4), some (vI x5)], [vI (σ.1 10 0 11 (x1).toNatClampNeg), vI ((5 : Int32) * x1), vI x5], σ)) rfl h1).trans ?_
  refine (e_n 1 (fr' := (136, 61, [some (vR 10 0 0), some (vI x1), some (vI x2), some (vI x3), some (vI x4), some (vI x5)], [vI (((5 : Int32) * x1) + (σ.1 10 0 11 (x1).toNatClampNeg)), vI x5], σ)) rfl).trans ?_
  refine (e_t (A := (136, 81, [some (vR 10 0 0), some (vI x1), some (vI x2), some (vI x3), some (vI x4), some (vI x5)], [], σ)) rfl h2).trans ?_
  refine (e_n 6 (fr' := (136, 88, [some (vR 10 0 0), some (vI x1), some (vI x2), some (vI x3), some (vI x4), some (vI x5)], [vI (((5 : Int32) * x1) + (5 : Int32)), vI x5], σ)) rfl).trans ?_
  refine (e_t (A := (136, 91, [some (vR 10 0 0), some (vI x1), some (vI x2), some (vI x3), some (vI x4), some (vI x5)], [], σ)) rfl h3).trans ?_
  refine (e_n 1 (fr' := (136, 93, [some (vR 10 0 0), some (vI x1), some (vI x2), some (vI x3), some (vI x4), some (vI x5)], [vI (-4 : Int32)], σ)) rfl).trans ?_
  exact e_r rfl
set_option maxRecDepth 20000 in
theorem g136_49_1 (C : pmC) {σ : pmS} {x1 : Int32} {x2 : Int32} {x3 : Int32} {x4 : Int32} {x5 : Int32} (h1 : vp_in x1 3) (h2 : (((5 : Int32) * x1) + (σ.1 10 0 11 (x1).toNatClampNeg)) ≤ x5) (h3 : ¬ x5 = (((5 : Int32) * x1) + (5 : Int32))) (h4 : x5 = (((5 : Int32) * x1) + (σ.1 10 0 11 (x1).toNatClampNeg))) (h5 : vp_in x5 15) : pq_Rn C (136, 49, [some (vR 10 0 0), some (vI x1), some (vI x2), some (vI x3), some (vI x4), some (vI x5)], [], σ) = some (some (vI ((pm_wi σ 10 0 11 (x1).toNatClampNeg ((σ.1 10 0 11 (x1).toNatClampNeg) + (1 : Int32))).1 10 0 11 (x1).toNatClampNeg)), (pm_wi (pm_wi (pm_wi (pm_wi σ 10 0 11 (x1).toNatClampNeg ((σ.1 10 0 11 (x1).toNatClampNeg) + (1 : Int32))) 10 0 12 (x5).toNatClampNeg x2) 10 0 13 (x5).toNatClampNeg x3) 10 0 14 (x5).toNatClampNeg x4)) := by
  refine (e_n 7 (fr' := (136, 59, [some (vR 10 0 0), some (vI x1), some (vI x2), some (vI x3), some (vI x4), some (vI x5)], [vI x1, vR 10 0 12, vI ((5 : Int32) * x1), vI x5], σ)) rfl).trans ?_
  refine (e_a (A := (136, 60, [some (vR 10 0 0), some (vI x1), some (vI x2), some (vI x3), some (vI x4), some (vI x5)], [vI (σ.1 10 0 11 (x1).toNatClampNeg), vI ((5 : Int32) * x1), vI x5], σ)) rfl h1).trans ?_
  refine (e_n 1 (fr' := (136, 61, [some (vR 10 0 0), some (vI x1), some (vI x2), some (vI x3), some (vI x4), some (vI x5)], [vI (((5 : Int32) * x1) + (σ.1 10 0 11 (x1).toNatClampNeg)), vI x5], σ)) rfl).trans ?_
  refine (e_t (A := (136, 81, [some (vR 10 0 0), some (vI x1), some (vI x2), some (vI x3), some (vI x4), some (vI x5)], [], σ)) rfl h2).trans ?_
  refine (e_n 6 (fr' := (136, 88, [some (vR 10 0 0), some (vI x1), some (vI x2), some (vI x3), some (vI x4), some (vI x5)], [vI (((5 : Int32) * x1) + (5 : Int32)), vI x5], σ)) rfl).trans ?_
  refine (e_f (B := (136, 94, [some (vR 10 0 0), some (vI x1), some (vI x2), some (vI x3), some (vI x4), some (vI x5)], [], σ)) rfl h3).trans ?_
  refine (e_n 7 (fr' := (136, 104, [some (vR 10 0 0), some (vI x1), some (vI x2), some (vI x3), some (vI x4), some (vI x5)], [vI x1, vR 10 0 12, vI ((5 : Int32) * x1), vI x5], σ)) rfl).trans ?_
  refine (e_a (A := (136, 105, [some (vR 10 0 0), some (vI x1), some (vI x2), some (vI x3), some (vI x4), some (vI x5)], [vI (σ.1 10 0 11 (x1).toNatClampNeg), vI ((5 : Int32) * x1), vI x5], σ)) rfl h1).trans ?_
  refine (e_n 1 (fr' := (136, 106, [some (vR 10 0 0), some (vI x1), some (vI x2), some (vI x3), some (vI x4), some (vI x5)], [vI (((5 : Int32) * x1) + (σ.1 10 0 11 (x1).toNatClampNeg)), vI x5], σ)) rfl).trans ?_
  refine (e_t (A := (136, 109, [some (vR 10 0 0), some (vI x1), some (vI x2), some (vI x3), some (vI x4), some (vI x5)], [], σ)) rfl h4).trans ?_
  refine (e_n 4 (fr' := (136, 115, [some (vR 10 0 0), some (vI x1), some (vI x2), some (vI x3), some (vI x4), some (vI x5)], [vI x1, vR 10 0 12, vI x1, vR 10 0 12], σ)) rfl).trans ?_
  refine (e_a (A := (136, 116, [some (vR 10 0 0), some (vI x1), some (vI x2), some (vI x3), some (vI x4), some (vI x5)], [vI (σ.1 10 0 11 (x1).toNatClampNeg), vI x1, vR 10 0 12], σ)) rfl h1).trans ?_
  refine (e_n 2 (fr' := (136, 118, [some (vR 10 0 0), some (vI x1), some (vI x2), some (vI x3), some (vI x4), some (vI x5)], [vI ((σ.1 10 0 11 (x1).toNatClampNeg) + (1 : Int32)), vI x1, vR 10 0 12], σ)) rfl).trans ?_
  refine (e_a (A := (136, 119, [some (vR 10 0 0), some (vI x1), some (vI x2), some (vI x3), some (vI x4), some (vI x5)], [], (pm_wi σ 10 0 11 (x1).toNatClampNeg ((σ.1 10 0 11 (x1).toNatClampNeg) + (1 : Int32))))) rfl h1).trans ?_
  refine (e_n 4 (fr' := (136, 126, [some (vR 10 0 0), some (vI x1), some (vI x2), some (vI x3), some (vI x4), some (vI x5)], [vI x2, vI x5, vR 10 0 13], (pm_wi σ 10 0 11 (x1).toNatClampNeg ((σ.1 10 0 11 (x1).toNatClampNeg) + (1 : Int32))))) rfl).trans ?_
  refine (e_a (A := (136, 127, [some (vR 10 0 0), some (vI x1), some (vI x2), some (vI x3), some (vI x4), some (vI x5)], [], (pm_wi (pm_wi σ 10 0 11 (x1).toNatClampNeg ((σ.1 10 0 11 (x1).toNatClampNeg) + (1 : Int32))) 10 0 12 (x5).toNatClampNeg x2))) rfl h5).trans ?_
  refine (e_n 4 (fr' := (136, 134, [some (vR 10 0 0), some (vI x1), some (vI x2), some (vI x3), some (vI x4), some (vI x5)], [vI x3, vI x5, vR 10 0 14], (pm_wi (pm_wi σ 10 0 11 (x1).toNatClampNeg ((σ.1 10 0 11 (x1).toNatClampNeg) + (1 : Int32))) 10 0 12 (x5).toNatClampNeg x2))) rfl).trans ?_
  refine (e_a (A := (136, 135, [some (vR 10 0 0), some (vI x1), some (vI x2), some (vI x3), some (vI x4), some (vI x5)], [], (pm_wi (pm_wi (pm_wi σ 10 0 11 (x1).toNatClampNeg ((σ.1 10 0 11 (x1).toNatClampNeg) + (1 : Int32))) 10 0 12 (x5).toNatClampNeg x2) 10 0 13 (x5).toNatClampNeg x3))) rfl h5).trans ?_
  refine (e_n 4 (fr' := (136, 143, [some (vR 10 0 0), some (vI x1), some (vI x2), some (vI x3), some (vI x4), some (vI x5)], [vI x4, vI x5, vR 10 0 15], (pm_wi (pm_wi (pm_wi σ 10 0 11 (x1).toNatClampNeg ((σ.1 10 0 11 (x1).toNatClampNeg) + (1 : Int32))) 10 0 12 (x5).toNatClampNeg x2) 10 0 13 (x5).toNatClampNeg x3))) rfl).trans ?_
  refine (e_a (A := (136, 144, [some (vR 10 0 0), some (vI x1), some (vI x2), some (vI x3), some (vI x4), some (vI x5)], [], (pm_wi (pm_wi (pm_wi (pm_wi σ 10 0 11 (x1).toNatClampNeg ((σ.1 10 0 11 (x1).toNatClampNeg) + (1 : Int32))) 10 0 12 (x5).toNatClampNeg x2) 10 0 13 (x5).toNatClampNeg x3) 10 0 14 (x5).toNatClampNeg x4))) rfl h5).trans ?_
  refine (e_n 3 (fr' := (136, 149, [some (vR 10 0 0), some (vI x1), some (vI x2), some (vI x3), some (vI x4), some (vI x5)], [vI x1, vR 10 0 12], (pm_wi (pm_wi (pm_wi (pm_wi σ 10 0 11 (x1).toNatClampNeg ((σ.1 10 0 11 (x1).toNatClampNeg) + (1 : Int32))) 10 0 12 (x5).toNatClampNeg x2) 10 0 13 (x5).toNatClampNeg x3) 10 0 14 (x5).toNatClampNeg x4))) rfl).trans ?_
  refine (e_a (A := (136, 150, [some (vR 10 0 0), some (vI x1), some (vI x2), some (vI x3), some (vI x4), some (vI x5)], [vI ((pm_wi σ 10 0 11 (x1).toNatClampNeg ((σ.1 10 0 11 (x1).toNatClampNeg) + (1 : Int32))).1 10 0 11 (x1).toNatClampNeg)], (pm_wi (pm_wi (pm_wi (pm_wi σ 10 0 11 (x1).toNatClampNeg ((σ.1 10 0 11 (x1).toNatClampNeg) + (1 : Int32))) 10 0 12 (x5).toNatClampNeg x2) 10 0 13 (x5).toNatClampNeg x3) 10 0 14 (x5).toNatClampNeg x4))) rfl h1).trans ?_
  exact e_r rfl
