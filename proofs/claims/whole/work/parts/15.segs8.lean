/-! segment rules, by program -/
set_option maxRecDepth 20000 in
theorem g162_0_0 (C : pmC) {σ : pmS} {x1 : Int32} {l2 : Option pmV} {l3 : Option pmV}  : pq_Rn C (162, 0, [some (vR 10 0 0), some (vI x1), l2, l3], [], σ) = pq_Rn C (162, 4, [some (vR 10 0 0), some (vI x1), some (vI (0 : Int32)), some (vI (0 : Int32))], [], σ) := by
  exact e_n 4 rfl
set_option maxRecDepth 20000 in
theorem g162_4_0 (C : pmC) {σ : pmS} {x1 : Int32} {x2 : Int32} {x3 : Int32} (h1 : (σ.1 10 0 16 0) ≤ x3) : pq_Rn C (162, 4, [some (vR 10 0 0), some (vI x1), some (vI x2), some (vI x3)], [], σ) = pq_Rn C (162, 58, [some (vR 10 0 0), some (vI x1), some (vI x2), some (vI x1)], [], σ) := by
  refine (e_n 3 (fr' := (162, 9, [some (vR 10 0 0), some (vI x1), some (vI x2), some (vI x3)], [vI (σ.1 10 0 16 0), vI x3], σ)) rfl).trans ?_
  refine (e_t (A := (162, 56, [some (vR 10 0 0), some (vI x1), some (vI x2), some (vI x3)], [], σ)) rfl h1).trans ?_
  exact e_n 2 rfl
set_option maxRecDepth 20000 in
theorem g162_4_1 (C : pmC) {σ : pmS} {x1 : Int32} {x2 : Int32} {x3 : Int32} (h1 : ¬ (σ.1 10 0 16 0) ≤ x3) (h2 : vp_in x3 48) (h3 : (σ.1 10 0 19 (x3).toNatClampNeg) = 0) (h4 : (σ.1 10 0 35 (x3).toNatClampNeg) < 0) : pq_Rn C (162, 4, [some (vR 10 0 0), some (vI x1), some (vI x2), some (vI x3)], [], σ) = pq_Rn C (162, 4, [some (vR 10 0 0), some (vI x1), some (vI (x2 + (0 : Int32))), some (vI (x3 + (1 : Int32)))], [], (pm_wi σ 10 0 32 (x3).toNatClampNeg (σ.1 10 0 35 (x3).toNatClampNeg))) := by
  refine (e_n 3 (fr' := (162, 9, [some (vR 10 0 0), some (vI x1), some (vI x2), some (vI x3)], [vI (σ.1 10 0 16 0), vI x3], σ)) rfl).trans ?_
  refine (e_f (B := (162, 12, [some (vR 10 0 0), some (vI x1), some (vI x2), some (vI x3)], [], σ)) rfl h1).trans ?_
  refine (e_n 6 (fr' := (162, 22, [some (vR 10 0 0), some (vI x1), some (vI x2), some (vI x3)], [vI x3, vR 10 0 36, vI x3, vR 10 0 33], σ)) rfl).trans ?_
  refine (e_a (A := (162, 23, [some (vR 10 0 0), some (vI x1), some (vI x2), some (vI x3)], [vI (σ.1 10 0 35 (x3).toNatClampNeg), vI x3, vR 10 0 33], σ)) rfl h2).trans ?_
  refine (e_a (A := (162, 24, [some (vR 10 0 0), some (vI x1), some (vI x2), some (vI x3)], [], (pm_wi σ 10 0 32 (x3).toNatClampNeg (σ.1 10 0 35 (x3).toNatClampNeg)))) rfl h2).trans ?_
  refine (e_n 4 (fr' := (162, 30, [some (vR 10 0 0), some (vI x1), some (vI x2), some (vI x3)], [vI x3, vR 10 0 20, vI x2], (pm_wi σ 10 0 32 (x3).toNatClampNeg (σ.1 10 0 35 (x3).toNatClampNeg)))) rfl).trans ?_
  refine (e_a (A := (162, 31, [some (vR 10 0 0), some (vI x1), some (vI x2), some (vI x3)], [vI (σ.1 10 0 19 (x3).toNatClampNeg), vI x2], (pm_wi σ 10 0 32 (x3).toNatClampNeg (σ.1 10 0 35 (x3).toNatClampNeg)))) rfl h2).trans ?_
  refine (e_t (A := (162, 34, [some (vR 10 0 0), some (vI x1), some (vI x2), some (vI x3)], [vI x2], (pm_wi σ 10 0 32 (x3).toNatClampNeg (σ.1 10 0 35 (x3).toNatClampNeg)))) rfl h3).trans ?_
  refine (e_n 3 (fr' := (162, 39, [some (vR 10 0 0), some (vI x1), some (vI x2), some (vI x3)], [vI x3, vR 10 0 36, vI x2], (pm_wi σ 10 0 32 (x3).toNatClampNeg (σ.1 10 0 35 (x3).toNatClampNeg)))) rfl).trans ?_
  refine (e_a (A := (162, 40, [some (vR 10 0 0), some (vI x1), some (vI x2), some (vI x3)], [vI (σ.1 10 0 35 (x3).toNatClampNeg), vI x2], (pm_wi σ 10 0 32 (x3).toNatClampNeg (σ.1 10 0 35 (x3).toNatClampNeg)))) rfl h2).trans ?_
  refine (e_t (A := (162, 47, [some (vR 10 0 0), some (vI x1), some (vI x2), some (vI x3)], [vI x2], (pm_wi σ 10 0 32 (x3).toNatClampNeg (σ.1 10 0 35 (x3).toNatClampNeg)))) rfl h4).trans ?_
  exact e_n 5 rfl
set_option maxRecDepth 20000 in
theorem g162_4_2 (C : pmC) {σ : pmS} {x1 : Int32} {x2 : Int32} {x3 : Int32} (h1 : ¬ (σ.1 10 0 16 0) ≤ x3) (h2 : vp_in x3 48) (h3 : (σ.1 10 0 19 (x3).toNatClampNeg) = 0) (h4 : ¬ (σ.1 10 0 35 (x3).toNatClampNeg) < 0) : pq_Rn C (162, 4, [some (vR 10 0 0), some (vI x1), some (vI x2), some (vI x3)], [], σ) = pq_Rn C (162, 4, [some (vR 10 0 0), some (vI x1), some (vI (x2 + (1 : Int32))), some (vI (x3 + (1 : Int32)))], [], (pm_wi σ 10 0 32 (x3).toNatClampNeg (σ.1 10 0 35 (x3).toNatClampNeg))) := by
  refine (e_n 3 (fr' := (162, 9, [some (vR 10 0 0), some (vI x1), some (vI x2), some (vI x3)], [vI (σ.1 10 0 16 0), vI x3], σ)) rfl).trans ?_
  refine (e_f (B := (162, 12, [some (vR 10 0 0), some (vI x1), some (vI x2), some (vI x3)], [], σ)) rfl h1).trans ?_
  refine (e_n 6 (fr' := (162, 22, [some (vR 10 0 0), some (vI x1), some (vI x2), some (vI x3)], [vI x3, vR 10 0 36, vI x3, vR 10 0 33], σ)) rfl).trans ?_
  refine (e_a (A := (162, 23, [some (vR 10 0 0), some (vI x1), some (vI x2), some (vI x3)], [vI (σ.1 10 0 35 (x3).toNatClampNeg), vI x3, vR 10 0 33], σ)) rfl h2).trans ?_
  refine (e_a (A := (162, 24, [some (vR 10 0 0), some (vI x1), some (vI x2), some (vI x3)], [], (pm_wi σ 10 0 32 (x3).toNatClampNeg (σ.1 10 0 35 (x3).toNatClampNeg)))) rfl h2).trans ?_
  refine (e_n 4 (fr' := (162, 30, [some (vR 10 0 0), some (vI x1), some (vI x2), some (vI x3)], [vI x3, vR 10 0 20, vI x2], (pm_wi σ 10 0 32 (x3).toNatClampNeg (σ.1 10 0 35 (x3).toNatClampNeg)))) rfl).trans ?_
  refine (e_a (A := (162, 31, [some (vR 10 0 0), some (vI x1), some (vI x2), some (vI x3)], [vI (σ.1 10 0 19 (x3).toNatClampNeg), vI x2], (pm_wi σ 10 0 32 (x3).toNatClampNeg (σ.1 10 0 35 (x3).toNatClampNeg)))) rfl h2).trans ?_
  refine (e_t (A := (162, 34, [some (vR 10 0 0), some (vI x1), some (vI x2), some (vI x3)], [vI x2], (pm_wi σ 10 0 32 (x3).toNatClampNeg (σ.1 10 0 35 (x3).toNatClampNeg)))) rfl h3).trans ?_
  refine (e_n 3 (fr' := (162, 39, [some (vR 10 0 0), some (vI x1), some (vI x2), some (vI x3)], [vI x3, vR 10 0 36, vI x2], (pm_wi σ 10 0 32 (x3).toNatClampNeg (σ.1 10 0 35 (x3).toNatClampNeg)))) rfl).trans ?_
  refine (e_a (A := (162, 40, [some (vR 10 0 0), some (vI x1), some (vI x2), some (vI x3)], [vI (σ.1 10 0 35 (x3).toNatClampNeg), vI x2], (pm_wi σ 10 0 32 (x3).toNatClampNeg (σ.1 10 0 35 (x3).toNatClampNeg)))) rfl h2).trans ?_
  refine (e_f (B := (162, 43, [some (vR 10 0 0), some (vI x1), some (vI x2), some (vI x3)], [vI x2], (pm_wi σ 10 0 32 (x3).toNatClampNeg (σ.1 10 0 35 (x3).toNatClampNeg)))) rfl h4).trans ?_
  exact e_n 6 rfl
set_option maxRecDepth 20000 in
theorem g162_4_3 (C : pmC) {σ : pmS} {x1 : Int32} {x2 : Int32} {x3 : Int32} (h1 : ¬ (σ.1 10 0 16 0) ≤ x3) (h2 : vp_in x3 48) (h3 : ¬ (σ.1 10 0 19 (x3).toNatClampNeg) = 0) : pq_Rn C (162, 4, [some (vR 10 0 0), some (vI x1), some (vI x2), some (vI x3)], [], σ) = pq_Rn C (162, 4, [some (vR 10 0 0), some (vI x1), some (vI (x2 + (0 : Int32))), some (vI (x3 + (1 : Int32)))], [], (pm_wi σ 10 0 32 (x3).toNatClampNeg (σ.1 10 0 35 (x3).toNatClampNeg))) := by
  refine (e_n 3 (fr' := (162, 9, [some (vR 10 0 0), some (vI x1), some (vI x2), some (vI x3)], [vI (σ.1 10 0 16 0), vI x3], σ)) rfl).trans ?_
  refine (e_f (B := (162, 12, [some (vR 10 0 0), some (vI x1), some (vI x2), some (vI x3)], [], σ)) rfl h1).trans ?_
  refine (e_n 6 (fr' := (162, 22, [some (vR 10 0 0), some (vI x1), some (vI x2), some (vI x3)], [vI x3, vR 10 0 36, vI x3, vR 10 0 33], σ)) rfl).trans ?_
  refine (e_a (A := (162, 23, [some (vR 10 0 0), some (vI x1), some (vI x2), some (vI x3)], [vI (σ.1 10 0 35 (x3).toNatClampNeg), vI x3, vR 10 0 33], σ)) rfl h2).trans ?_
  refine (e_a (A := (162, 24, [some (vR 10 0 0), some (vI x1), some (vI x2), some (vI x3)], [], (pm_wi σ 10 0 32 (x3).toNatClampNeg (σ.1 10 0 35 (x3).toNatClampNeg)))) rfl h2).trans ?_
  refine (e_n 4 (fr' := (162, 30, [some (vR 10 0 0), some (vI x1), some (vI x2), some (vI x3)], [vI x3, vR 10 0 20, vI x2], (pm_wi σ 10 0 32 (x3).toNatClampNeg (σ.1 10 0 35 (x3).toNatClampNeg)))) rfl).trans ?_
  refine (e_a (A := (162, 31, [some (vR 10 0 0), some (vI x1), some (vI x2), some (vI x3)], [vI (σ.1 10 0 19 (x3).toNatClampNeg), vI x2], (pm_wi σ 10 0 32 (x3).toNatClampNeg (σ.1 10 0 35 (x3).toNatClampNeg)))) rfl h2).trans ?_
  refine (e_f (B := (162, 47, [some (vR 10 0 0), some (vI x1), some (vI x2), some (vI x3)], [vI x2], (pm_wi σ 10 0 32 (x3).toNatClampNeg (σ.1 10 0 35 (x3).toNatClampNeg)))) rfl h3).trans ?_
  exact e_n 5 rfl
set_option maxRecDepth 20000 in
theorem g162_58_0 (C : pmC) {σ : pmS} {l1 : Option pmV} {x2 : Int32} {x3 : Int32} (h1 : (σ.1 10 0 16 0) ≤ x3) : pq_Rn C (162, 58, [some (vR 10 0 0), l1, some (vI x2), some (vI x3)], [], σ) = some (some (vI x2), σ) := by
  refine (e_n 3 (fr' := (162, 63, [some (vR 10 0 0), l1, some (vI x2), some (vI x3)], [vI (σ.1 10 0 16 0), vI x3], σ)) rfl).trans ?_
  refine (e_t (A := (162, 101, [some (vR 10 0 0), l1, some (vI x2), some (vI x3)], [], σ)) rfl h1).trans ?_
  refine (e_n 1 (fr' := (162, 102, [some (vR 10 0 0), l1, some (vI x2), some (vI x3)], [vI x2], σ)) rfl).trans ?_
  exact e_r rfl
set_option maxRecDepth 20000 in
theorem g162_58_1 (C : pmC) {σ : pmS} {l1 : Option pmV} {x2 : Int32} {x3 : Int32} (h1 : ¬ (σ.1 10 0 16 0) ≤ x3) (h2 : vp_in x3 48) (h3 : (σ.1 10 0 19 (x3).toNatClampNeg) = 0) (h4 : 0 ≤ (σ.1 10 0 35 (x3).toNatClampNeg)) : pq_Rn C (162, 58, [some (vR 10 0 0), l1, some (vI x2), some (vI x3)], [], σ) = pq_Rn C (162, 58, [some (vR 10 0 0), l1, some (vI x2), some (vI (x3 + (1 : Int32)))], [], σ) := by
  refine (e_n 3 (fr' := (162, 63, [some (vR 10 0 0), l1, some (vI x2), some (vI x3)], [vI (σ.1 10 0 16 0), vI x3], σ)) rfl).trans ?_
  refine (e_f (B := (162, 66, [some (vR 10 0 0), l1, some (vI x2), some (vI x3)], [], σ)) rfl h1).trans ?_
  refine (e_n 3 (fr' := (162, 71, [some (vR 10 0 0), l1, some (vI x2), some (vI x3)], [vI x3, vR 10 0 20], σ)) rfl).trans ?_
  refine (e_a (A := (162, 72, [some (vR 10 0 0), l1, some (vI x2), some (vI x3)], [vI (σ.1 10 0 19 (x3).toNatClampNeg)], σ)) rfl h2).trans ?_
  refine (e_t (A := (162, 75, [some (vR 10 0 0), l1, some (vI x2), some (vI x3)], [], σ)) rfl h3).trans ?_
  refine (e_n 3 (fr' := (162, 80, [some (vR 10 0 0), l1, some (vI x2), some (vI x3)], [vI x3, vR 10 0 36], σ)) rfl).trans ?_
  refine (e_a (A := (162, 81, [some (vR 10 0 0), l1, some (vI x2), some (vI x3)], [vI (σ.1 10 0 35 (x3).toNatClampNeg)], σ)) rfl h2).trans ?_
  refine (e_t (A := (162, 95, [some (vR 10 0 0), l1, some (vI x2), some (vI x3)], [], σ)) rfl h4).trans ?_
  exact e_n 2 rfl
set_option maxRecDepth 20000 in
theorem g162_58_2 (C : pmC) {σ : pmS} {l1 : Option pmV} {x2 : Int32} {x3 : Int32} {σ1 : pmS} {r1 : Int32} (h1 : ¬ (σ.1 10 0 16 0) ≤ x3) (h2 : vp_in x3 48) (h3 : (σ.1 10 0 19 (x3).toNatClampNeg) = 0) (h4 : ¬ 0 ≤ (σ.1 10 0 35 (x3).toNatClampNeg)) (h5 : C 160 [vR 10 0 0, vI x3] σ = some (some (vI r1), σ1)) (h6 : r1 = 0) : pq_Rn C (162, 58, [some (vR 10 0 0), l1, some (vI x2), some (vI x3)], [], σ) = pq_Rn C (162, 58, [some (vR 10 0 0), l1, some (vI x2), some (vI (x3 + (1 : Int32)))], [], σ1) := by
  refine (e_n 3 (fr' := (162, 63, [some (vR 10 0 0), l1, some (vI x2), some (vI x3)], [vI (σ.1 10 0 16 0), vI x3], σ)) rfl).trans ?_
  refine (e_f (B := (162, 66, [some (vR 10 0 0), l1, some (vI x2), some (vI x3)], [], σ)) rfl h1).trans ?_
  refine (e_n 3 (fr' := (162, 71, [some (vR 10 0 0), l1, some (vI x2), some (vI x3)], [vI x3, vR 10 0 20], σ)) rfl).trans ?_
  refine (e_a (A := (162, 72, [some (vR 10 0 0), l1, some (vI x2), some (vI x3)], [vI (σ.1 10 0 19 (x3).toNatClampNeg)], σ)) rfl h2).trans ?_
  refine (e_t (A := (162, 75, [some (vR 10 0 0), l1, some (vI x2), some (vI x3)], [], σ)) rfl h3).trans ?_
  refine (e_n 3 (fr' := (162, 80, [some (vR 10 0 0), l1, some (vI x2), some (vI x3)], [vI x3, vR 10 0 36], σ)) rfl).trans ?_
  refine (e_a (A := (162, 81, [some (vR 10 0 0), l1, some (vI x2), some (vI x3)], [vI (σ.1 10 0 35 (x3).toNatClampNeg)], σ)) rfl h2).trans ?_
  refine (e_f (B := (162, 84, [some (vR 10 0 0), l1, some (vI x2), some (vI x3)], [], σ)) rfl h4).trans ?_
  refine (e_n 2 (fr' := (162, 86, [some (vR 10 0 0), l1, some (vI x2), some (vI x3)], [vI x3, vR 10 0 0], σ)) rfl).trans ?_
  refine (e_ci (m := 162) (pc := 89) (ls := [some (vR 10 0 0), l1, some (vI x2), some (vI x3)]) (rest := []) rfl h5).trans ?_
  refine (e_t (A := (162, 95, [some (vR 10 0 0), l1, some (vI x2), some (vI x3)], [], σ1)) rfl h6).trans ?_
  exact e_n 2 rfl
set_option maxRecDepth 20000 in
theorem g162_58_3 (C : pmC) {σ : pmS} {l1 : Option pmV} {x2 : Int32} {x3 : Int32} {σ1 : pmS} {r1 : Int32} (h1 : ¬ (σ.1 10 0 16 0) ≤ x3) (h2 : vp_in x3 48) (h3 : (σ.1 10 0 19 (x3).toNatClampNeg) = 0) (h4 : ¬ 0 ≤ (σ.1 10 0 35 (x3).toNatClampNeg)) (h5 : C 160 [vR 10 0 0, vI x3] σ = some (some (vI r1), σ1)) (h6 : ¬ r1 = 0) : pq_Rn C (162, 58, [some (vR 10 0 0), l1, some (vI x2), some (vI x3)], [], σ) = pq_Rn C (162, 58, [some (vR 10 0 0), l1, some (vI (x2 + (1 : Int32))), some (vI (x3 + (1 : Int32)))], [], σ1) := by
  refine (e_n 3 (fr' := (162, 63, [some (vR 10 0 0), l1, some (vI x2), some (vI x3)], [vI (σ.1 10 0 16 0), vI x3], σ)) rfl).trans ?_
  refine (e_f (B := (162, 66, [some (vR 10 0 0), l1, some (vI x2), some (vI x3)], [], σ)) rfl h1).trans ?_
  refine (e_n 3 (fr' := (162, 71, [some (vR 10 0 0), l1, some (vI x2), some (vI x3)], [vI x3, vR 10 0 20], σ)) rfl).trans ?_
  refine (e_a (A := (162, 72, [some (vR 10 0 0), l1, some (vI x2), some (vI x3)], [vI (σ.1 10 0 19 (x3).toNatClampNeg)], σ)) rfl h2).trans ?_
  refine (e_t (A := (162, 75, [some (vR 10 0 0), l1, some (vI x2), some (vI x3)], [], σ)) rfl h3).trans ?_
  refine (e_n 3 (fr' := (162, 80, [some (vR 10 0 0), l1, some (vI x2), some (vI x3)], [vI x3, vR 10 0 36], σ)) rfl).trans ?_
  refine (e_a (A := (162, 81, [some (vR 10 0 0), l1, some (vI x2), some (vI x3)], [vI (σ.1 10 0 35 (x3).toNatClampNeg)], σ)) rfl h2).trans ?_
  refine (e_f (B := (162, 84, [some (vR 10 0 0), l1, some (vI x2), some (vI x3)], [], σ)) rfl h4).trans ?_
  refine (e_n 2 (fr' := (162, 86, [some (vR 10 0 0), l1, some (vI x2), some (vI x3)], [vI x3, vR 10 0 0], σ)) rfl).trans ?_
  refine (e_ci (m := 162) (pc := 89) (ls := [some (vR 10 0 0), l1, some (vI x2), some (vI x3)]) (rest := []) rfl h5).trans ?_
  refine (e_f (B := (162, 92, [some (vR 10 0 0), l1, some (vI x2), some (vI x3)], [], σ1)) rfl h6).trans ?_
  exact e_n 3 rfl
set_option maxRecDepth 20000 in
theorem g162_58_4 (C : pmC) {σ : pmS} {l1 : Option pmV} {x2 : Int32} {x3 : Int32} (h1 : ¬ (σ.1 10 0 16 0) ≤ x3) (h2 : vp_in x3 48) (h3 : ¬ (σ.1 10 0 19 (x3).toNatClampNeg) = 0) : pq_Rn C (162, 58, [some (vR 10 0 0), l1, some (vI x2), some (vI x3)], [], σ) = pq_Rn C (162, 58, [some (vR 10 0 0), l1, some (vI x2), some (vI (x3 + (1 : Int32)))], [], σ) := by
  refine (e_n 3 (fr' := (162, 63, [some (vR 10 0 0), l1, some (vI x2), some (vI x3)], [vI (σ.1 10 0 16 0), vI x3], σ)) rfl).trans ?_
  refine (e_f (B := (162, 66, [some (vR 10 0 0), l1, some (vI x2), some (vI x3)], [], σ)) rfl h1).trans ?_
  refine (e_n 3 (fr' := (162, 71, [some (vR 10 0 0), l1, some (vI x2), some (vI x3)], [vI x3, vR 10 0 20], σ)) rfl).trans ?_
  refine (e_a (A := (162, 72, [some (vR 10 0 0), l1, some (vI x2), some (vI x3)], [vI (σ.1 10 0 19 (x3).toNatClampNeg)], σ)) rfl h2).trans ?_
  refine (e_f (B := (162, 95, [some (vR 10 0 0), l1, some (vI x2), some (vI x3)], [], σ)) rfl h3).trans ?_
  exact e_n 2 rfl
set_option maxRecDepth 20000 in
theorem g163_0_0 (C : pmC) {σ : pmS} {x1 : Int32} {x2 : Int32} {l3 : Option pmV} {l4 : Option pmV} {l5 : Option pmV}  : pq_Rn C (163, 0, [some (vR 10 0 0), some (vI x1), some (vI x2), l3, l4, l5], [], σ) = pq_Rn C (163, 2, [some (vR 10 0 0), some (vI x1), some (vI x2), some (vI (0 : Int32)), l4, l5], [], σ) := by
  exact e_n 2 rfl
set_option maxRecDepth 20000 in
theorem g163_2_0 (C : pmC) {σ : pmS} {x1 : Int32} {x2 : Int32} {x3 : Int32} {l4 : Option pmV} {l5 : Option pmV} (h1 : (σ.1 10 0 16 0) ≤ x3) : pq_Rn C (163, 2, [some (vR 10 0 0), some (vI x1), some (vI x2), some (vI x3), l4, l5], [], σ) = some (none, σ) := by
  refine (e_n 3 (fr' := (163, 7, [some (vR 10 0 0), some (vI x1), some (vI x2), some (vI x3), l4, l5], [vI (σ.1 10 0 16 0), vI x3], σ)) rfl).trans ?_
  refine (e_t (A := (163, 122, [some (vR 10 0 0), some (vI x1), some (vI x2), some (vI x3), l4, l5], [], σ)) rfl h1).trans ?_
  exact e_r rfl
set_option maxRecDepth 20000 in
theorem g163_2_1 (C : pmC) {σ : pmS} {x1 : Int32} {x2 : Int32} {x3 : Int32} {l4 : Option pmV} {l5 : Option pmV} (h1 : ¬ (σ.1 10 0 16 0) ≤ x3) : pq_Rn C (163, 2, [some (vR 10 0 0), some (vI x1), some (vI x2), some (vI x3), l4, l5], [], σ) = pq_Rn C (163, 13, [some (vR 10 0 0), some (vI x1), some (vI x2), some (vI x3), some (vI (0 : Int32)), l5], [], σ) := by
  refine (e_n 3 (fr' := (163, 7, [some (vR 10 0 0), some (vI x1), some (vI x2), some (vI x3), l4, l5], [vI (σ.1 10 0 16 0), vI x3], σ)) rfl).trans ?_
  refine (e_f (B := (163, 10, [some (vR 10 0 0), some (vI x1), some (vI x2), some (vI x3), l4, l5], [], σ)) rfl h1).trans ?_
  exact e_n 2 rfl
set_option maxRecDepth 20000 in
theorem g163_13_0 (C : pmC) {σ : pmS} {x1 : Int32} {x2 : Int32} {x3 : Int32} {x4 : Int32} {l5 : Option pmV} (h1 : (σ.1 10 0 16 0) ≤ x4) (h2 : vp_in x3 48) : pq_Rn C (163, 13, [some (vR 10 0 0), some (vI x1), some (vI x2), some (vI x3), some (vI x4), l5], [], σ) = pq_Rn C (163, 2, [some (vR 10 0 0), some (vI x1), some (vI x2), some (vI (x3 + (1 : Int32))), some (vI x4), l5], [], (pm_wi σ 10 0 35 (x3).toNatClampNeg (-1 : Int32))) := by
  refine (e_n 3 (fr' := (163, 19, [some (vR 10 0 0), some (vI x1), some (vI x2), some (vI x3), some (vI x4), l5], [vI (σ.1 10 0 16 0), vI x4], σ)) rfl).trans ?_
  refine (e_t (A := (163, 109, [some (vR 10 0 0), some (vI x1), some (vI x2), some (vI x3), some (vI x4), l5], [], σ)) rfl h1).trans ?_
  refine (e_n 4 (fr' := (163, 115, [some (vR 10 0 0), some (vI x1), some (vI x2), some (vI x3), some (vI x4), l5], [vI (-1 : Int32), vI x3, vR 10 0 36], σ)) rfl).trans ?_
  refine (e_a (A := (163, 116, [some (vR 10 0 0), some (vI x1), some (vI x2), some (vI x3), some (vI x4), l5], [], (pm_wi σ 10 0 35 (x3).toNatClampNeg (-1 : Int32)))) rfl h2).trans ?_
  exact e_n 2 rfl
set_option maxRecDepth 20000 in
theorem g163_13_1 (C : pmC) {σ : pmS} {x1 : Int32} {x2 : Int32} {x3 : Int32} {x4 : Int32} {l5 : Option pmV} {σ1 : pmS} {r1 : Int32} (h1 : ¬ (σ.1 10 0 16 0) ≤ x4) (h2 : vp_in x3 48) (h3 : (σ.1 10 0 19 (x3).toNatClampNeg) = 0) (h4 : vp_in x4 48) (h5 : (σ.1 10 0 19 (x4).toNatClampNeg) = (1 : Int32)) (h6 : (σ.1 10 0 22 (x3).toNatClampNeg) = x1) (h7 : (σ.1 10 0 22 (x4).toNatClampNeg) = x1) (h8 : C 152 [vR 10 0 0, vI x3, vI x4, vI x2] σ = some (some (vI r1), σ1)) (h9 : r1 = 0) (h10 : vp_in (((48 : Int32) * x3) + x4) 2304) : pq_Rn C (163, 13, [some (vR 10 0 0), some (vI x1), some (vI x2), some (vI x3), some (vI x4), l5], [], σ) = pq_Rn C (163, 13, [some (vR 10 0 0), some (vI x1), some (vI x2), some (vI x3), some (vI (x4 + (1 : Int32))), some (vI (1 : Int32))], [], (pm_wi σ1 10 0 31 ((((48 : Int32) * x3) + x4)).toNatClampNeg (1 : Int32))) := by
  refine (e_n 3 (fr' := (163, 19, [some (vR 10 0 0), some (vI x1), some (vI x2), some (vI x3), some (vI x4), l5], [vI (σ.1 10 0 16 0), vI x4], σ)) rfl).trans ?_
  refine (e_f (B := (163, 22, [some (vR 10 0 0), some (vI x1), some (vI x2), some (vI x3), some (vI x4), l5], [], σ)) rfl h1).trans ?_
  refine (e_n 3 (fr' := (163, 27, [some (vR 10 0 0), some (vI x1), some (vI x2), some (vI x3), some (vI x4), l5], [vI x3, vR 10 0 20], σ)) rfl).trans ?_
  refine (e_a (A := (163, 28, [some (vR 10 0 0), some (vI x1), some (vI x2), some (vI x3), some (vI x4), l5], [vI (σ.1 10 0 19 (x3).toNatClampNeg)], σ)) rfl h2).trans ?_
  refine (e_t (A := (163, 31, [some (vR 10 0 0), some (vI x1), some (vI x2), some (vI x3), some (vI x4), l5], [], σ)) rfl h3).trans ?_
  refine (e_n 3 (fr' := (163, 37, [some (vR 10 0 0), some (vI x1), some (vI x2), some (vI x3), some (vI x4), l5], [vI x4, vR 10 0 20], σ)) rfl).trans ?_
  refine (e_a (A := (163, 38, [some (vR 10 0 0), some (vI x1), some (vI x2), some (vI x3), some (vI x4), l5], [vI (σ.1 10 0 19 (x4).toNatClampNeg)], σ)) rfl h4).trans ?_
  refine (e_n 1 (fr' := (163, 39, [some (vR 10 0 0), some (vI x1), some (vI x2), some (vI x3), some (vI x4), l5], [vI (1 : Int32), vI (σ.1 10 0 19 (x4).toNatClampNeg)], σ)) rfl).trans ?_
  refine (e_t (A := (163, 42, [some (vR 10 0 0), some (vI x1), some (vI x2), some (vI x3), some (vI x4), l5], [], σ)) rfl h5).trans ?_
  refine (e_n 3 (fr' := (163, 47, [some (vR 10 0 0), some (vI x1), some (vI x2), some (vI x3), some (vI x4), l5], [vI x3, vR 10 0 23], σ)) rfl).trans ?_
  refine (e_a (A := (163, 48, [some (vR 10 0 0), some (vI x1), some (vI x2), some (vI x3), some (vI x4), l5], [vI (σ.1 10 0 22 (x3).toNatClampNeg)], σ)) rfl h2).trans ?_
  refine (e_n 1 (fr' := (163, 49, [some (vR 10 0 0), some (vI x1), some (vI x2), some (vI x3), some (vI x4), l5], [vI x1, vI (σ.1 10 0 22 (x3).toNatClampNeg)], σ)) rfl).trans ?_
  refine (e_t (A := (163, 52, [some (vR 10 0 0), some (vI x1), some (vI x2), some (vI x3), some (vI x4), l5], [], σ)) rfl h6).trans ?_
  refine (e_n 3 (fr' := (163, 58, [some (vR 10 0 0), some (vI x1), some (vI x2), some (vI x3), some (vI x4), l5], [vI x4, vR 10 0 23], σ)) rfl).trans ?_
  refine (e_a (A := (163, 59, [some (vR 10 0 0), some (vI x1), some (vI x2), some (vI x3), some (vI x4), l5], [vI (σ.1 10 0 22 (x4).toNatClampNeg)], σ)) rfl h4).trans ?_
  refine (e_n 1 (fr' := (163, 60, [some (vR 10 0 0), some (vI x1), some (vI x2), some (vI x3), some (vI x4), l5], [vI x1, vI (σ.1 10 0 22 (x4).toNatClampNeg)], σ)) rfl).trans ?_
  refine (e_t (A := (163, 63, [some (vR 10 0 0), some (vI x1), some (vI x2), some (vI x3), some (vI x4), l5], [], σ)) rfl h7).trans ?_
  refine (e_n 16 (fr' := (163, 91, [some (vR 10 0 0), some (vI x1), some (vI x2), some (vI x3), some (vI x4), some (vI (1 : Int32))], [vI x2, vI x4, vI x3, vR 10 0 0, vI (((48 : Int32) * x3) + x4), vR 10 0 32], σ)) rfl).trans ?_
  refine (e_ci (m := 163) (pc := 94) (ls := [some (vR 10 0 0), some (vI x1), some (vI x2), some (vI x3), some (vI x4), some (vI (1 : Int32))]) (rest := [vI (((48 : Int32) * x3) + x4), vR 10 0 32]) rfl h8).trans ?_
  refine (e_t (A := (163, 97, [some (vR 10 0 0), some (vI x1), some (vI x2), some (vI x3), some (vI x4), some (vI (1 : Int32))], [vI (((48 : Int32) * x3) + x4), vR 10 0 32], σ1)) rfl h9).trans ?_
  refine (e_n 2 (fr' := (163, 102, [some (vR 10 0 0), some (vI x1), some (vI x2), some (vI x3), some (vI x4), some (vI (1 : Int32))], [vI (1 : Int32), vI (((48 : Int32) * x3) + x4), vR 10 0 32], σ1)) rfl).trans ?_
  refine (e_a (A := (163, 103, [some (vR 10 0 0), some (vI x1), some (vI x2), some (vI x3), some (vI x4), some (vI (1 : Int32))], [], (pm_wi σ1 10 0 31 ((((48 : Int32) * x3) + x4)).toNatClampNeg (1 : Int32)))) rfl h10).trans ?_
  exact e_n 2 rfl
set_option maxRecDepth 20000 in
theorem g163_13_2 (C : pmC) {σ : pmS} {x1 : Int32} {x2 : Int32} {x3 : Int32} {x4 : Int32} {l5 : Option pmV} {σ1 : pmS} {r1 : Int32} (h1 : ¬ (σ.1 10 0 16 0) ≤ x4) (h2 : vp_in x3 48) (h3 : (σ.1 10 0 19 (x3).toNatClampNeg) = 0) (h4 : vp_in x4 48) (h5 : (σ.1 10 0 19 (x4).toNatClampNeg) = (1 : Int32)) (h6 : (σ.1 10 0 22 (x3).toNatClampNeg) = x1) (h7 : (σ.1 10 0 22 (x4).toNatClampNeg) = x1) (h8 : C 152 [vR 10 0 0, vI x3, vI x4, vI x2] σ = some (some (vI r1), σ1)) (h9 : ¬ r1 = 0) (h10 : vp_in (((48 : Int32) * x3) + x4) 2304) : pq_Rn C (163, 13, [some (vR 10 0 0), some (vI x1), some (vI x2), some (vI x3), some (vI x4), l5], [], σ) = pq_Rn C (163, 13, [some (vR 10 0 0), some (vI x1), some (vI x2), some (vI x3), some (vI (x4 + (1 : Int32))), some (vI (1 : Int32))], [], (pm_wi σ1 10 0 31 ((((48 : Int32) * x3) + x4)).toNatClampNeg (0 : Int32))) := by
  refine (e_n 3 (fr' := (163, 19, [some (vR 10 0 0), some (vI x1), some (vI x2), some (vI x3), some (vI x4), l5], [vI (σ.1 10 0 16 0), vI x4], σ)) rfl).trans ?_
  refine (e_f (B := (163, 22, [some (vR 10 0 0), some (vI x1), some (vI x2), some (vI x3), some (vI x4), l5], [], σ)) rfl h1).trans ?_
  refine (e_n 3 (fr' := (163, 27, [some (vR 10 0 0), some (vI x1), some (vI x2), some (vI x3), some (vI x4), l5], [vI x3, vR 10 0 20], σ)) rfl).trans ?_
  refine (e_a (A := (163, 28, [some (vR 10 0 0), some (vI x1), some (vI x2), some (vI x3), some (vI x4), l5], [vI (σ.1 10 0 19 (x3).toNatClampNeg)], σ)) rfl h2).trans ?_
  refine (e_t (A := (163, 31, [some (vR 10 0 0), some (vI x1), some (vI x2), some (vI x3), some (vI x4), l5], [], σ)) rfl h3).trans ?_
  refine (e_n 3 (fr' := (163, 37, [some (vR 10 0 0), some (vI x1), some (vI x2), some (vI x3), some (vI x4), l5], [vI x4, vR 10 0 20], σ)) rfl).trans ?_
  refine (e_a (A := (163, 38, [some (vR 10 0 0), some (vI x1), some (vI x2), some (vI x3), some (vI x4), l5], [vI (σ.1 10 0 19 (x4).toNatClampNeg)], σ)) rfl h4).trans ?_
  refine (e_n 1 (fr' := (163, 39, [some (vR 10 0 0), some (vI x1), some (vI x2), some (vI x3), some (vI x4), l5], [vI (1 : Int32), vI (σ.1 10 0 19 (x4).toNatClampNeg)], σ)) rfl).trans ?_
  refine (e_t (A := (163, 42, [some (vR 10 0 0), some (vI x1), some (vI x2), some (vI x3), some (vI x4), l5], [], σ)) rfl h5).trans ?_
  refine (e_n 3 (fr' := (163, 47, [some (vR 10 0 0), some (vI x1), some (vI x2), some (vI x3), some (vI x4), l5], [vI x3, vR 10 0 23], σ)) rfl).trans ?_
  refine (e_a (A := (163, 48, [some (vR 10 0 0), some (vI x1), some (vI x2), some (vI x3), some (vI x4), l5], [vI (σ.1 10 0 22 (x3).toNatClampNeg)], σ)) rfl h2).trans ?_
  refine (e_n 1 (fr' := (163, 49, [some (vR 10 0 0), some (vI x1), some (vI x2), some (vI x3), some (vI x4), l5], [vI x1, vI (σ.1 10 0 22 (x3).toNatClampNeg)], σ)) rfl).trans ?_
  refine (e_t (A := (163, 52, [some (vR 10 0 0), some (vI x1), some (vI x2), some (vI x3), some (vI x4), l5], [], σ)) rfl h6).trans ?_
  refine (e_n 3 (fr' := (163, 58, [some (vR 10 0 0), some (vI x1), some (vI x2), some (vI x3), some (vI x4), l5], [vI x4, vR 10 0 23], σ)) rfl).trans ?_
  refine (e_a (A := (163, 59, [some (vR 10 0 0), some (vI x1), some (vI x2), some (vI x3), some (vI x4), l5], [vI (σ.1 10 0 22 (x4).toNatClampNeg)], σ)) rfl h4).trans ?_
  refine (e_n 1 (fr' := (163, 60, [some (vR 10 0 0), some (vI x1), some (vI x2), some (vI x3), some (vI x4), l5], [vI x1, vI (σ.1 10 0 22 (x4).toNatClampNeg)], σ)) rfl).trans ?_
  refine (e_t (A := (163, 63, [some (vR 10 0 0), some (vI x1), some (vI x2), some (vI x3), some (vI x4), l5], [], σ)) rfl h7).trans ?_
  refine (e_n 16 (fr' := (163, 91, [some (vR 10 0 0), some (vI x1), some (vI x2), some (vI x3), some (vI x4), some (vI (1 : Int32))], [vI x2, vI x4, vI x3, vR 10 0 0, vI (((48 : Int32) * x3) + x4), vR 10 0 32], σ)) rfl).trans ?_
  refine (e_ci (m := 163) (pc := 94) (ls := [some (vR 10 0 0), some (vI x1), some (vI x2), some (vI x3), some (vI x4), some (vI (1 : Int32))]) (rest := [vI (((48 : Int32) * x3) + x4), vR 10 0 32]) rfl h8).trans ?_
  refine (e_f (B := (163, 101, [some (vR 10 0 0), some (vI x1), some (vI x2), some (vI x3), some (vI x4), some (vI (1 : Int32))], [vI (((48 : Int32) * x3) + x4), vR 10 0 32], σ1)) rfl h9).trans ?_
  refine (e_n 1 (fr' := (163, 102, [some (vR 10 0 0), some (vI x1), some (vI x2), some (vI x3), some (vI x4), some (vI (1 : Int32))], [vI (0 : Int32), vI (((48 : Int32) * x3) + x4), vR 10 0 32], σ1)) rfl).trans ?_
  refine (e_a (A := (163, 103, [some (vR 10 0 0), some (vI x1), some (vI x2), some (vI x3), some (vI x4), some (vI (1 : Int32))], [], (pm_wi σ1 10 0 31 ((((48 : Int32) * x3) + x4)).toNatClampNeg (0 : Int32)))) rfl h10).trans ?_
  exact e_n 2 rfl
set_option maxRecDepth 20000 in
theorem g163_13_3 (C : pmC) {σ : pmS} {x1 : Int32} {x2 : Int32} {x3 : Int32} {x4 : Int32} {l5 : Option pmV} (h1 : ¬ (σ.1 10 0 16 0) ≤ x4) (h2 : vp_in x3 48) (h3 : (σ.1 10 0 19 (x3).toNatClampNeg) = 0) (h4 : vp_in x4 48) (h5 : (σ.1 10 0 19 (x4).toNatClampNeg) = (1 : Int32)) (h6 : (σ.1 10 0 22 (x3).toNatClampNeg) = x1) (h7 : ¬ (σ.1 10 0 22 (x4).toNatClampNeg) = x1) (h8 : vp_in (((48 : Int32) * x3) + x4) 2304) : pq_Rn C (163, 13, [some (vR 10 0 0), some (vI x1), some (vI x2), some (vI x3), some (vI x4), l5], [], σ) = pq_Rn C (163, 13, [some (vR 10 0 0), some (vI x1), some (vI x2), some (vI x3), some (vI (x4 + (1 : Int32))), some (vI (0 : Int32))], [], (pm_wi σ 10 0 31 ((((48 : Int32) * x3) + x4)).toNatClampNeg (0 : Int32))) := by
  refine (e_n 3 (fr' := (163, 19, [some (vR 10 0 0), some (vI x1), some (vI x2), some (vI x3), some (vI x4), l5], [vI (σ.1 10 0 16 0), vI x4], σ)) rfl).trans ?_
  refine (e_f (B := (163, 22, [some (vR 10 0 0), some (vI x1), some (vI x2), some (vI x3), some (vI x4), l5], [], σ)) rfl h1).trans ?_
  refine (e_n 3 (fr' := (163, 27, [some (vR 10 0 0), some (vI x1), some (vI x2), some (vI x3), some (vI x4), l5], [vI x3, vR 10 0 20], σ)) rfl).trans ?_
  refine (e_a (A := (163, 28, [some (vR 10 0 0), some (vI x1), some (vI x2), some (vI x3), some (vI x4), l5], [vI (σ.1 10 0 19 (x3).toNatClampNeg)], σ)) rfl h2).trans ?_
  refine (e_t (A := (163, 31, [some (vR 10 0 0), some (vI x1), some (vI x2), some (vI x3), some (vI x4), l5], [], σ)) rfl h3).trans ?_
  refine (e_n 3 (fr' := (163, 37, [some (vR 10 0 0), some (vI x1), some (vI x2), some (vI x3), some (vI x4), l5], [vI x4, vR 10 0 20], σ)) rfl).trans ?_
  refine (e_a (A := (163, 38, [some (vR 10 0 0), some (vI x1), some (vI x2), some (vI x3), some (vI x4), l5], [vI (σ.1 10 0 19 (x4).toNatClampNeg)], σ)) rfl h4).trans ?_
  refine (e_n 1 (fr' := (163, 39, [some (vR 10 0 0), some (vI x1), some (vI x2), some (vI x3), some (vI x4), l5], [vI (1 : Int32), vI (σ.1 10 0 19 (x4).toNatClampNeg)], σ)) rfl).trans ?_
  refine (e_t (A := (163, 42, [some (vR 10 0 0), some (vI x1), some (vI x2), some (vI x3), some (vI x4), l5], [], σ)) rfl h5).trans ?_
  refine (e_n 3 (fr' := (163, 47, [some (vR 10 0 0), some (vI x1), some (vI x2), some (vI x3), some (vI x4), l5], [vI x3, vR 10 0 23], σ)) rfl).trans ?_
  refine (e_a (A := (163, 48, [some (vR 10 0 0), some (vI x1), some (vI x2), some (vI x3), some (vI x4), l5], [vI (σ.1 10 0 22 (x3).toNatClampNeg)], σ)) rfl h2).trans ?_
  refine (e_n 1 (fr' := (163, 49, [some (vR 10 0 0), some (vI x1), some (vI x2), some (vI x3), some (vI x4), l5], [vI x1, vI (σ.1 10 0 22 (x3).toNatClampNeg)], σ)) rfl).trans ?_
  refine (e_t (A := (163, 52, [some (vR 10 0 0), some (vI x1), some (vI x2), some (vI x3), some (vI x4), l5], [], σ)) rfl h6).trans ?_
  refine (e_n 3 (fr' := (163, 58, [some (vR 10 0 0), some (vI x1), some (vI x2), some (vI x3), some (vI x4), l5], [vI x4, vR 10 0 23], σ)) rfl).trans ?_
  refine (e_a (A := (163, 59, [some (vR 10 0 0), some (vI x1), some (vI x2), some (vI x3), some (vI x4), l5], [vI (σ.1 10 0 22 (x4).toNatClampNeg)], σ)) rfl h4).trans ?_
  refine (e_n 1 (fr' := (163, 60, [some (vR 10 0 0), some (vI x1), some (vI x2), some (vI x3), some (vI x4), l5], [vI x1, vI (σ.1 10 0 22 (x4).toNatClampNeg)], σ)) rfl).trans ?_
  refine (e_f (B := (163, 67, [some (vR 10 0 0), some (vI x1), some (vI x2), some (vI x3), some (vI x4), l5], [], σ)) rfl h7).trans ?_
  refine (e_n 12 (fr' := (163, 102, [some (vR 10 0 0), some (vI x1), some (vI x2), some (vI x3), some (vI x4), some (vI (0 : Int32))], [vI (0 : Int32), vI (((48 : Int32) * x3) + x4), vR 10 0 32], σ)) rfl).trans ?_
  refine (e_a (A := (163, 103, [some (vR 10 0 0), some (vI x1), some (vI x2), some (vI x3), some (vI x4), some (vI (0 : Int32))], [], (pm_wi σ 10 0 31 ((((48 : Int32) * x3) + x4)).toNatClampNeg (0 : Int32)))) rfl h8).trans ?_
  exact e_n 2 rfl
set_option maxRecDepth 20000 in
theorem g163_13_4 (C : pmC) {σ : pmS} {x1 : Int32} {x2 : Int32} {x3 : Int32} {x4 : Int32} {l5 : Option pmV} (h1 : ¬ (σ.1 10 0 16 0) ≤ x4) (h2 : vp_in x3 48) (h3 : (σ.1 10 0 19 (x3).toNatClampNeg) = 0) (h4 : vp_in x4 48) (h5 : (σ.1 10 0 19 (x4).toNatClampNeg) = (1 : Int32)) (h6 : ¬ (σ.1 10 0 22 (x3).toNatClampNeg) = x1) (h7 : vp_in (((48 : Int32) * x3) + x4) 2304) : pq_Rn C (163, 13, [some (vR 10 0 0), some (vI x1), some (vI x2), some (vI x3), some (vI x4), l5], [], σ) = pq_Rn C (163, 13, [some (vR 10 0 0), some (vI x1), some (vI x2), some (vI x3), some (vI (x4 + (1 : Int32))), some (vI (0 : Int32))], [], (pm_wi σ 10 0 31 ((((48 : Int32) * x3) + x4)).toNatClampNeg (0 : Int32))) := by
  refine (e_n 3 (fr' := (163, 19, [some (vR 10 0 0), some (vI x1), some (vI x2), some (vI x3), some (vI x4), l5], [vI (σ.1 10 0 16 0), vI x4], σ)) rfl).trans ?_
  refine (e_f (B := (163, 22, [some (vR 10 0 0), some (vI x1), some (vI x2), some (vI x3), some (vI x4), l5], [], σ)) rfl h1).trans ?_
  refine (e_n 3 (fr' := (163, 27, [some (vR 10 0 0), some (vI x1), some (vI x2), some (vI x3), some (vI x4), l5], [vI x3, vR 10 0 20], σ)) rfl).trans ?_
  refine (e_a (A := (163, 28, [some (vR 10 0 0), some (vI x1), some (vI x2), some (vI x3), some (vI x4), l5], [vI (σ.1 10 0 19 (x3).toNatClampNeg)], σ)) rfl h2).trans ?_
  refine (e_t (A := (163, 31, [some (vR 10 0 0), some (vI x1), some (vI x2), some (vI x3), some (vI x4), l5], [], σ)) rfl h3).trans ?_
  refine (e_n 3 (fr' := (163, 37, [some (vR 10 0 0), some (vI x1), some (vI x2), some (vI x3), some (vI x4), l5], [vI x4, vR 10 0 20], σ)) rfl).trans ?_
  refine (e_a (A := (163, 38, [some (vR 10 0 0), some (vI x1), some (vI x2), some (vI x3), some (vI x4), l5], [vI (σ.1 10 0 19 (x4).toNatClampNeg)], σ)) rfl h4).trans ?_
  refine (e_n 1 (fr' := (163, 39, [some (vR 10 0 0), some (vI x1), some (vI x2), some (vI x3), some (vI x4), l5], [vI (1 : Int32), vI (σ.1 10 0 19 (x4).toNatClampNeg)], σ)) rfl).trans ?_
  refine (e_t (A := (163, 42, [some (vR 10 0 0), some (vI x1), some (vI x2), some (vI x3), some (vI x4), l5], [], σ)) rfl h5).trans ?_
  refine (e_n 3 (fr' := (163, 47, [some (vR 10 0 0), some (vI x1), some (vI x2), some (vI x3), some (vI x4), l5], [vI x3, vR 10 0 23], σ)) rfl).trans ?_
  refine (e_a (A := (163, 48, [some (vR 10 0 0), some (vI x1), some (vI x2), some (vI x3), some (vI x4), l5], [vI (σ.1 10 0 22 (x3).toNatClampNeg)], σ)) rfl h2).trans ?_
  refine (e_n 1 (fr' := (163, 49, [some (vR 10 0 0), some (vI x1), some (vI x2), some (vI x3), some (vI x4), l5], [vI x1, vI (σ.1 10 0 22 (x3).toNatClampNeg)], σ)) rfl).trans ?_
  refine (e_f (B := (163, 67, [some (vR 10 0 0), some (vI x1), some (vI x2), some (vI x3), some (vI x4), l5], [], σ)) rfl h6).trans ?_
  refine (e_n 12 (fr' := (163, 102, [some (vR 10 0 0), some (vI x1), some (vI x2), some (vI x3), some (vI x4), some (vI (0 : Int32))], [vI (0 : Int32), vI (((48 : Int32) * x3) + x4), vR 10 0 32], σ)) rfl).trans ?_
  refine (e_a (A := (163, 103, [some (vR 10 0 0), some (vI x1), some (vI x2), some (vI x3), some (vI x4), some (vI (0 : Int32))], [], (pm_wi σ 10 0 31 ((((48 : Int32) * x3) + x4)).toNatClampNeg (0 : Int32)))) rfl h7).trans ?_
  exact e_n 2 rfl
set_option maxRecDepth 20000 in
theorem g163_13_5 (C : pmC) {σ : pmS} {x1 : Int32} {x2 : Int32} {x3 : Int32} {x4 : Int32} {l5 : Option pmV} (h1 : ¬ (σ.1 10 0 16 0) ≤ x4) (h2 : vp_in x3 48) (h3 : (σ.1 10 0 19 (x3).toNatClampNeg) = 0) (h4 : vp_in x4 48) (h5 : ¬ (σ.1 10 0 19 (x4).toNatClampNeg) = (1 : Int32)) (h6 : vp_in (((48 : Int32) * x3) + x4) 2304) : pq_Rn C (163, 13, [some (vR 10 0 0), some (vI x1), some (vI x2), some (vI x3), some (vI x4), l5], [], σ) = pq_Rn C (163, 13, [some (vR 10 0 0), some (vI x1), some (vI x2), some (vI x3), some (vI (x4 + (1 : Int32))), some (vI (0 : Int32))], [], (pm_wi σ 10 0 31 ((((48 : Int32) * x3) + x4)).toNatClampNeg (0 : Int32))) := by
  refine (e_n 3 (fr' := (163, 19, [some (vR 10 0 0), some (vI x1), some (vI x2), some (vI x3), some (vI x4), l5], [vI (σ.1 10 0 16 0), vI x4], σ)) rfl).trans ?_
  refine (e_f (B := (163, 22, [some (vR 10 0 0), some (vI x1), some (vI x2), some (vI x3), some (vI x4), l5], [], σ)) rfl h1).trans ?_
  refine (e_n 3 (fr' := (163, 27, [some (vR 10 0 0), some (vI x1), some (vI x2), some (vI x3), some (vI x4), l5], [vI x3, vR 10 0 20], σ)) rfl).trans ?_
  refine (e_a (A := (163, 28, [some (vR 10 0 0), some (vI x1), some (vI x2), some (vI x3), some (vI x4), l5], [vI (σ.1 10 0 19 (x3).toNatClampNeg)], σ)) rfl h2).trans ?_
  refine (e_t (A := (163, 31, [some (vR 10 0 0), some (vI x1), some (vI x2), some (vI x3), some (vI x4), l5], [], σ)) rfl h3).trans ?_
  refine (e_n 3 (fr' := (163, 37, [some (vR 10 0 0), some (vI x1), some (vI x2), some (vI x3), some (vI x4), l5], [vI x4, vR 10 0 20], σ)) rfl).trans ?_
  refine (e_a (A := (163, 38, [some (vR 10 0 0), some (vI x1), some (vI x2), some (vI x3), some (vI x4), l5], [vI (σ.1 10 0 19 (x4).toNatClampNeg)], σ)) rfl h4).trans ?_
  refine (e_n 1 (fr' := (163, 39, [some (vR 10 0 0), some (vI x1), some (vI x2), some (vI x3), some (vI x4), l5], [vI (1 : Int32), vI (σ.1 10 0 19 (x4).toNatClampNeg)], σ)) rfl).trans ?_
  refine (e_f (B := (163, 67, [some (vR 10 0 0), some (vI x1), some (vI x2), some (vI x3), some (vI x4), l5], [], σ)) rfl h5).trans ?_
  refine (e_n 12 (fr' := (163, 102, [some (vR 10 0 0), some (vI x1), some (vI x2), some (vI x3), some (vI x4), some (vI (0 : Int32))], [vI (0 : Int32), vI (((48 : Int32) * x3) + x4), vR 10 0 32], σ)) rfl).trans ?_
  refine (e_a (A := (163, 103, [some (vR 10 0 0), some (vI x1), some (vI x2), some (vI x3), some (vI x4), some (vI (0 : Int32))], [], (pm_wi σ 10 0 31 ((((48 : Int32) * x3) + x4)).toNatClampNeg (0 : Int32)))) rfl h6).trans ?_
  exact e_n 2 rfl
set_option maxRecDepth 20000 in
theorem g163_13_6 (C : pmC) {σ : pmS} {x1 : Int32} {x2 : Int32} {x3 : Int32} {x4 : Int32} {l5 : Option pmV} (h1 : ¬ (σ.1 10 0 16 0) ≤ x4) (h2 : vp_in x3 48) (h3 : ¬ (σ.1 10 0 19 (x3).toNatClampNeg) = 0) (h4 : vp_in (((48 : Int32) * x3) + x4) 2304) : pq_Rn C (163, 13, [some (vR 10 0 0), some (vI x1), some (vI x2), some (vI x3), some (vI x4), l5], [], σ) = pq_Rn C (163, 13, [some (vR 10 0 0), some (vI x1), some (vI x2), some (vI x3), some (vI (x4 + (1 : Int32))), some (vI (0 : Int32))], [], (pm_wi σ 10 0 31 ((((48 : Int32) * x3) + x4)).toNatClampNeg (0 : Int32))) := by
  refine (e_n 3 (fr' := (163, 19, [some (vR 10 0 0), some (vI x1), some (vI x2), some (vI x3), some (vI x4), l5], [vI (σ.1 10 0 16 0), vI x4], σ)) rfl).trans ?_
  refine (e_f (B := (163, 22, [some (vR 10 0 0), some (vI x1), some (vI x2), some (vI x3), some (vI x4), l5], [], σ)) rfl h1).trans ?_
  refine (e_n 3 (fr' := (163, 27, [some (vR 10 0 0), some (vI x1), some (vI x2), some (vI x3), some (vI x4), l5], [vI x3, vR 10 0 20], σ)) rfl).trans ?_
  refine (e_a (A := (163, 28, [some (vR 10 0 0), some (vI x1), some (vI x2), some (vI x3), some (vI x4), l5], [vI (σ.1 10 0 19 (x3).toNatClampNeg)], σ)) rfl h2).trans ?_
  refine (e_f (B := (163, 67, [some (vR 10 0 0), some (vI x1), some (vI x2), some (vI x3), some (vI x4), l5], [], σ)) rfl h3).trans ?_
  refine (e_n 12 (fr' := (163, 102, [some (vR 10 0 0), some (vI x1), some (vI x2), some (vI x3), some (vI x4), some (vI (0 : Int32))], [vI (0 : Int32), vI (((48 : Int32) * x3) + x4), vR 10 0 32], σ)) rfl).trans ?_
  refine (e_a (A := (163, 103, [some (vR 10 0 0), some (vI x1), some (vI x2), some (vI x3), some (vI x4), some (vI (0 : Int32))], [], (pm_wi σ 10 0 31 ((((48 : Int32) * x3) + x4)).toNatClampNeg (0 : Int32)))) rfl h4).trans ?_
  exact e_n 2 rfl
set_option maxRecDepth 20000 in
theorem g164_0_0 (C : pmC) {σ : pmS} {x1 : Int32} {x2 : Int32} {l3 : Option pmV} {l4 : Option pmV} {l5 : Option pmV} {σ1 : pmS} {r1 : Int32} (h1 : C 133 [vR 10 0 0, vI x1] σ = some (some (vI r1), σ1)) (h2 : r1 = 0) : pq_Rn C (164, 0, [some (vR 10 0 0), some (vI x1), some (vI x2), l3, l4, l5], [], σ) = some (some (vI (-1 : Int32)), σ1) := by
  refine (e_n 2 (fr' := (164, 2, [some (vR 10 0 0), some (vI x1), some (vI x2), l3, l4, l5], [vI x1, vR 10 0 0], σ)) rfl).trans ?_
  refine (e_ci (m := 164) (pc := 5) (ls := [some (vR 10 0 0), some (vI x1), some (vI x2), l3, l4, l5]) (rest := []) rfl h1).trans ?_
  refine (e_t (A := (164, 8, [some (vR 10 0 0), some (vI x1), some (vI x2), l3, l4, l5], [], σ1)) rfl h2).trans ?_
  refine (e_n 1 (fr' := (164, 9, [some (vR 10 0 0), some (vI x1), some (vI x2), l3, l4, l5], [vI (-1 : Int32)], σ1)) rfl).trans ?_
  exact e_r rfl
set_option maxRecDepth 20000 in
theorem g164_0_1 (C : pmC) {σ : pmS} {x1 : Int32} {x2 : Int32} {l3 : Option pmV} {l4 : Option pmV} {l5 : Option pmV} {σ1 : pmS} {r1 : Int32} {σ2 : pmS} {r2 : Int32} (h1 : C 133 [vR 10 0 0, vI x1] σ = some (some (vI r1), σ1)) (h2 : ¬ r1 = 0) (h3 : C 138 [vI x2] σ1 = some (some (vI r2), σ2)) (h4 : r2 = 0) : pq_Rn C (164, 0, [some (vR 10 0 0), some (vI x1), some (vI x2), l3, l4, l5], [], σ) = some (some (vI (-2 : Int32)), σ2) := by
  refine (e_n 2 (fr' := (164, 2, [some (vR 10 0 0), some (vI x1), some (vI x2), l3, l4, l5], [vI x1, vR 10 0 0], σ)) rfl).trans ?_
  refine (e_ci (m := 164) (pc := 5) (ls := [some (vR 10 0 0), some (vI x1), some (vI x2), l3, l4, l5]) (rest := []) rfl h1).trans ?_
  refine (e_f (B := (164, 10, [some (vR 10 0 0), some (vI x1), some (vI x2), l3, l4, l5], [], σ1)) rfl h2).trans ?_
  refine (e_n 1 (fr' := (164, 11, [some (vR 10 0 0), some (vI x1), some (vI x2), l3, l4, l5], [vI x2], σ1)) rfl).trans ?_
  refine (e_ci (m := 164) (pc := 14) (ls := [some (vR 10 0 0), some (vI x1), some (vI x2), l3, l4, l5]) (rest := []) rfl h3).trans ?_
  refine (e_t (A := (164, 17, [some (vR 10 0 0), some (vI x1), some (vI x2), l3, l4, l5], [], σ2)) rfl h4).trans ?_
  refine (e_n 1 (fr' := (164, 19, [some (vR 10 0 0), some (vI x1), some (vI x2), l3, l4, l5], [vI (-2 : Int32)], σ2)) rfl).trans ?_
  exact e_r rfl
set_option maxRecDepth 20000 in
theorem g164_0_2 (C : pmC) {σ : pmS} {x1 : Int32} {x2 : Int32} {l3 : Option pmV} {l4 : Option pmV} {l5 : Option pmV} {σ1 : pmS} {r1 : Int32} {σ2 : pmS} {r2 : Int32} {σ3 : pmS} {σ4 : pmS} {σ5 : pmS} {r5 : Int32} (h1 : C 133 [vR 10 0 0, vI x1] σ = some (some (vI r1), σ1)) (h2 : ¬ r1 = 0) (h3 : C 138 [vI x2] σ1 = some (some (vI r2), σ2)) (h4 : ¬ r2 = 0) (h5 : C 146 [vR 10 0 0] σ2 = some (none, σ3)) (h6 : C 163 [vR 10 0 0, vI x1, vI x2] σ3 = some (none, σ4)) (h7 : C 162 [vR 10 0 0, vI (0 : Int32)] σ4 = some (some (vI r5), σ5)) : pq_Rn C (164, 0, [some (vR 10 0 0), some (vI x1), some (vI x2), l3, l4, l5], [], σ) = pq_Rn C (164, 39, [some (vR 10 0 0), some (vI x1), some (vI x2), some (vI r5), some (vI (0 : Int32)), l5], [], σ5) := by
  refine (e_n 2 (fr' := (164, 2, [some (vR 10 0 0), some (vI x1), some (vI x2), l3, l4, l5], [vI x1, vR 10 0 0], σ)) rfl).trans ?_
  refine (e_ci (m := 164) (pc := 5) (ls := [some (vR 10 0 0), some (vI x1), some (vI x2), l3, l4, l5]) (rest := []) rfl h1).trans ?_
  refine (e_f (B := (164, 10, [some (vR 10 0 0), some (vI x1), some (vI x2), l3, l4, l5], [], σ1)) rfl h2).trans ?_
  refine (e_n 1 (fr' := (164, 11, [some (vR 10 0 0), some (vI x1), some (vI x2), l3, l4, l5], [vI x2], σ1)) rfl).trans ?_
  refine (e_ci (m := 164) (pc := 14) (ls := [some (vR 10 0 0), some (vI x1), some (vI x2), l3, l4, l5]) (rest := []) rfl h3).trans ?_
  refine (e_f (B := (164, 20, [some (vR 10 0 0), some (vI x1), some (vI x2), l3, l4, l5], [], σ2)) rfl h4).trans ?_
  refine (e_n 1 (fr' := (164, 21, [some (vR 10 0 0), some (vI x1), some (vI x2), l3, l4, l5], [vR 10 0 0], σ2)) rfl).trans ?_
  refine (e_cv (m := 164) (pc := 24) (ls := [some (vR 10 0 0), some (vI x1), some (vI x2), l3, l4, l5]) (rest := []) rfl h5).trans ?_
  refine (e_n 3 (fr' := (164, 27, [some (vR 10 0 0), some (vI x1), some (vI x2), l3, l4, l5], [vI x2, vI x1, vR 10 0 0], σ3)) rfl).trans ?_
  refine (e_cv (m := 164) (pc := 30) (ls := [some (vR 10 0 0), some (vI x1), some (vI x2), l3, l4, l5]) (rest := []) rfl h6).trans ?_
  refine (e_n 2 (fr' := (164, 32, [some (vR 10 0 0), some (vI x1), some (vI x2), l3, l4, l5], [vI (0 : Int32), vR 10 0 0], σ4)) rfl).trans ?_
  refine (e_ci (m := 164) (pc := 35) (ls := [some (vR 10 0 0), some (vI x1), some (vI x2), l3, l4, l5]) (rest := []) rfl h7).trans ?_
  exact e_n 3 rfl
set_option maxRecDepth 20000 in
theorem g164_39_0 (C : pmC) {σ : pmS} {l1 : Option pmV} {l2 : Option pmV} {x3 : Int32} {x4 : Int32} {l5 : Option pmV} (h1 : (σ.1 10 0 16 0) ≤ x4) : pq_Rn C (164, 39, [some (vR 10 0 0), l1, l2, some (vI x3), some (vI x4), l5], [], σ) = pq_Rn C (164, 163, [some (vR 10 0 0), l1, l2, some (vI x3), some (vI (0 : Int32)), l5], [], σ) := by
  refine (e_n 3 (fr' := (164, 45, [some (vR 10 0 0), l1, l2, some (vI x3), some (vI x4), l5], [vI (σ.1 10 0 16 0), vI x4], σ)) rfl).trans ?_
  refine (e_t (A := (164, 160, [some (vR 10 0 0), l1, l2, some (vI x3), some (vI x4), l5], [], σ)) rfl h1).trans ?_
  exact e_n 2 rfl
set_option maxRecDepth 20000 in
theorem g164_39_1 (C : pmC) {σ : pmS} {l1 : Option pmV} {l2 : Option pmV} {x3 : Int32} {x4 : Int32} {l5 : Option pmV} (h1 : ¬ (σ.1 10 0 16 0) ≤ x4) : pq_Rn C (164, 39, [some (vR 10 0 0), l1, l2, some (vI x3), some (vI x4), l5], [], σ) = pq_Rn C (164, 51, [some (vR 10 0 0), l1, l2, some (vI x3), some (vI x4), some (vI (0 : Int32))], [], σ) := by
  refine (e_n 3 (fr' := (164, 45, [some (vR 10 0 0), l1, l2, some (vI x3), some (vI x4), l5], [vI (σ.1 10 0 16 0), vI x4], σ)) rfl).trans ?_
  refine (e_f (B := (164, 48, [some (vR 10 0 0), l1, l2, some (vI x3), some (vI x4), l5], [], σ)) rfl h1).trans ?_
  exact e_n 2 rfl
set_option maxRecDepth 20000 in
theorem g164_51_0 (C : pmC) {σ : pmS} {l1 : Option pmV} {l2 : Option pmV} {x3 : Int32} {x4 : Int32} {x5 : Int32} (h1 : (σ.1 10 0 16 0) ≤ x5) : pq_Rn C (164, 51, [some (vR 10 0 0), l1, l2, some (vI x3), some (vI x4), some (vI x5)], [], σ) = pq_Rn C (164, 39, [some (vR 10 0 0), l1, l2, some (vI x3), some (vI (x4 + (1 : Int32))), some (vI x5)], [], σ) := by
  refine (e_n 3 (fr' := (164, 57, [some (vR 10 0 0), l1, l2, some (vI x3), some (vI x4), some (vI x5)], [vI (σ.1 10 0 16 0), vI x5], σ)) rfl).trans ?_
  refine (e_t (A := (164, 154, [some (vR 10 0 0), l1, l2, some (vI x3), some (vI x4), some (vI x5)], [], σ)) rfl h1).trans ?_
  exact e_n 2 rfl
set_option maxRecDepth 20000 in
theorem g164_51_1 (C : pmC) {σ : pmS} {l1 : Option pmV} {l2 : Option pmV} {x3 : Int32} {x4 : Int32} {x5 : Int32} (h1 : ¬ (σ.1 10 0 16 0) ≤ x5) (h2 : vp_in x4 48) (h3 : 0 ≤ (σ.1 10 0 35 (x4).toNatClampNeg)) : pq_Rn C (164, 51, [some (vR 10 0 0), l1, l2, some (vI x3), some (vI x4), some (vI x5)], [], σ) = pq_Rn C (164, 39, [some (vR 10 0 0), l1, l2, some (vI x3), some (vI (x4 + (1 : Int32))), some (vI x5)], [], σ) := by
  refine (e_n 3 (fr' := (164, 57, [some (vR 10 0 0), l1, l2, some (vI x3), some (vI x4), some (vI x5)], [vI (σ.1 10 0 16 0), vI x5], σ)) rfl).trans ?_
  refine (e_f (B := (164, 60, [some (vR 10 0 0), l1, l2, some (vI x3), some (vI x4), some (vI x5)], [], σ)) rfl h1).trans ?_
  refine (e_n 3 (fr' := (164, 66, [some (vR 10 0 0), l1, l2, some (vI x3), some (vI x4), some (vI x5)], [vI x4, vR 10 0 36], σ)) rfl).trans ?_
  refine (e_a (A := (164, 67, [some (vR 10 0 0), l1, l2, some (vI x3), some (vI x4), some (vI x5)], [vI (σ.1 10 0 35 (x4).toNatClampNeg)], σ)) rfl h2).trans ?_
  refine (e_t (A := (164, 154, [some (vR 10 0 0), l1, l2, some (vI x3), some (vI x4), some (vI x5)], [], σ)) rfl h3).trans ?_
  exact e_n 2 rfl
set_option maxRecDepth 20000 in
theorem g164_51_2 (C : pmC) {σ : pmS} {l1 : Option pmV} {l2 : Option pmV} {x3 : Int32} {x4 : Int32} {x5 : Int32} (h1 : ¬ (σ.1 10 0 16 0) ≤ x5) (h2 : vp_in x4 48) (h3 : ¬ 0 ≤ (σ.1 10 0 35 (x4).toNatClampNeg)) (h4 : vp_in (((48 : Int32) * x4) + x5) 2304) (h5 : (σ.1 10 0 31 ((((48 : Int32) * x4) + x5)).toNatClampNeg) = 0) : pq_Rn C (164, 51, [some (vR 10 0 0), l1, l2, some (vI x3), some (vI x4), some (vI x5)], [], σ) = pq_Rn C (164, 51, [some (vR 10 0 0), l1, l2, some (vI x3), some (vI x4), some (vI (x5 + (1 : Int32)))], [], σ) := by
  refine (e_n 3 (fr' := (164, 57, [some (vR 10 0 0), l1, l2, some (vI x3), some (vI x4), some (vI x5)], [vI (σ.1 10 0 16 0), vI x5], σ)) rfl).trans ?_
  refine (e_f (B := (164, 60, [some (vR 10 0 0), l1, l2, some (vI x3), some (vI x4), some (vI x5)], [], σ)) rfl h1).trans ?_
  refine (e_n 3 (fr' := (164, 66, [some (vR 10 0 0), l1, l2, some (vI x3), some (vI x4), some (vI x5)], [vI x4, vR 10 0 36], σ)) rfl).trans ?_
  refine (e_a (A := (164, 67, [some (vR 10 0 0), l1, l2, some (vI x3), some (vI x4), some (vI x5)], [vI (σ.1 10 0 35 (x4).toNatClampNeg)], σ)) rfl h2).trans ?_
  refine (e_f (B := (164, 70, [some (vR 10 0 0), l1, l2, some (vI x3), some (vI x4), some (vI x5)], [], σ)) rfl h3).trans ?_
  refine (e_n 7 (fr' := (164, 82, [some (vR 10 0 0), l1, l2, some (vI x3), some (vI x4), some (vI x5)], [vI (((48 : Int32) * x4) + x5), vR 10 0 32], σ)) rfl).trans ?_
  refine (e_a (A := (164, 83, [some (vR 10 0 0), l1, l2, some (vI x3), some (vI x4), some (vI x5)], [vI (σ.1 10 0 31 ((((48 : Int32) * x4) + x5)).toNatClampNeg)], σ)) rfl h4).trans ?_
  refine (e_t (A := (164, 148, [some (vR 10 0 0), l1, l2, some (vI x3), some (vI x4), some (vI x5)], [], σ)) rfl h5).trans ?_
  exact e_n 2 rfl
set_option maxRecDepth 20000 in
theorem g164_51_3 (C : pmC) {σ : pmS} {l1 : Option pmV} {l2 : Option pmV} {x3 : Int32} {x4 : Int32} {x5 : Int32} {σ1 : pmS} {r1 : Int32} (h1 : ¬ (σ.1 10 0 16 0) ≤ x5) (h2 : vp_in x4 48) (h3 : ¬ 0 ≤ (σ.1 10 0 35 (x4).toNatClampNeg)) (h4 : vp_in (((48 : Int32) * x4) + x5) 2304) (h5 : ¬ (σ.1 10 0 31 ((((48 : Int32) * x4) + x5)).toNatClampNeg) = 0) (h6 : vp_in x5 48) (h7 : (σ.1 10 0 35 (x5).toNatClampNeg) < 0) (h8 : C 162 [vR 10 0 0, vI (x4 + (1 : Int32))] (pm_wi (pm_wi σ 10 0 35 (x4).toNatClampNeg x5) 10 0 35 (x5).toNatClampNeg x4) = some (some (vI r1), σ1)) (h9 : r1 = x3) : pq_Rn C (164, 51, [some (vR 10 0 0), l1, l2, some (vI x3), some (vI x4), some (vI x5)], [], σ) = pq_Rn C (164, 51, [some (vR 10 0 0), l1, l2, some (vI x3), some (vI x4), some (vI (x5 + (1 : Int32)))], [], σ1) := by
  refine (e_n 3 (fr' := (164, 57, [some (vR 10 0 0), l1, l2, some (vI x3), some (vI x4), some (vI x5)], [vI (σ.1 10 0 16 0), vI x5], σ)) rfl).trans ?_
  refine (e_f (B := (164, 60, [some (vR 10 0 0), l1, l2, some (vI x3), some (vI x4), some (vI x5)], [], σ)) rfl h1).trans ?_
  refine (e_n 3 (fr' := (164, 66, [some (vR 10 0 0), l1, l2, some (vI x3), some (vI x4), some (vI x5)], [vI x4, vR 10 0 36], σ)) rfl).trans ?_
  refine (e_a (A := (164, 67, [some (vR 10 0 0), l1, l2, some (vI x3), some (vI x4), some (vI x5)], [vI (σ.1 10 0 35 (x4).toNatClampNeg)], σ)) rfl h2).trans ?_
  refine (e_f (B := (164, 70, [some (vR 10 0 0), l1, l2, some (vI x3), some (vI x4), some (vI x5)], [], σ)) rfl h3).trans ?_
  refine (e_n 7 (fr' := (164, 82, [some (vR 10 0 0), l1, l2, some (vI x3), some (vI x4), some (vI x5)], [vI (((48 : Int32) * x4) + x5), vR 10 0 32], σ)) rfl).trans ?_
  refine (e_a (A := (164, 83, [some (vR 10 0 0), l1, l2, some (vI x3), some (vI x4), some (vI x5)], [vI (σ.1 10 0 31 ((((48 : Int32) * x4) + x5)).toNatClampNeg)], σ)) rfl h4).trans ?_
  refine (e_f (B := (164, 86, [some (vR 10 0 0), l1, l2, some (vI x3), some (vI x4), some (vI x5)], [], σ)) rfl h5).trans ?_
  refine (e_n 3 (fr' := (164, 92, [some (vR 10 0 0), l1, l2, some (vI x3), some (vI x4), some (vI x5)], [vI x5, vR 10 0 36], σ)) rfl).trans ?_
  refine (e_a (A := (164, 93, [some (vR 10 0 0), l1, l2, some (vI x3), some (vI x4), some (vI x5)], [vI (σ.1 10 0 35 (x5).toNatClampNeg)], σ)) rfl h6).trans ?_
  refine (e_t (A := (164, 99, [some (vR 10 0 0), l1, l2, some (vI x3), some (vI x4), some (vI x5)], [], σ)) rfl h7).trans ?_
  refine (e_n 4 (fr' := (164, 107, [some (vR 10 0 0), l1, l2, some (vI x3), some (vI x4), some (vI x5)], [vI x5, vI x4, vR 10 0 36], σ)) rfl).trans ?_
  refine (e_a (A := (164, 108, [some (vR 10 0 0), l1, l2, some (vI x3), some (vI x4), some (vI x5)], [], (pm_wi σ 10 0 35 (x4).toNatClampNeg x5))) rfl h2).trans ?_
  refine (e_n 4 (fr' := (164, 116, [some (vR 10 0 0), l1, l2, some (vI x3), some (vI x4), some (vI x5)], [vI x4, vI x5, vR 10 0 36], (pm_wi σ 10 0 35 (x4).toNatClampNeg x5))) rfl).trans ?_
  refine (e_a (A := (164, 117, [some (vR 10 0 0), l1, l2, some (vI x3), some (vI x4), some (vI x5)], [], (pm_wi (pm_wi σ 10 0 35 (x4).toNatClampNeg x5) 10 0 35 (x5).toNatClampNeg x4))) rfl h6).trans ?_
  refine (e_n 4 (fr' := (164, 122, [some (vR 10 0 0), l1, l2, some (vI x3), some (vI x4), some (vI x5)], [vI (x4 + (1 : Int32)), vR 10 0 0], (pm_wi (pm_wi σ 10 0 35 (x4).toNatClampNeg x5) 10 0 35 (x5).toNatClampNeg x4))) rfl).trans ?_
  refine (e_ci (m := 164) (pc := 125) (ls := [some (vR 10 0 0), l1, l2, some (vI x3), some (vI x4), some (vI x5)]) (rest := []) rfl h8).trans ?_
  refine (e_n 1 (fr' := (164, 126, [some (vR 10 0 0), l1, l2, some (vI x3), some (vI x4), some (vI x5)], [vI x3, vI r1], σ1)) rfl).trans ?_
  refine (e_t (A := (164, 129, [some (vR 10 0 0), l1, l2, some (vI x3), some (vI x4), some (vI x5)], [], σ1)) rfl h9).trans ?_
  exact e_n 3 rfl
set_option maxRecDepth 20000 in
theorem g164_51_4 (C : pmC) {σ : pmS} {l1 : Option pmV} {l2 : Option pmV} {x3 : Int32} {x4 : Int32} {x5 : Int32} {σ1 : pmS} {r1 : Int32} (h1 : ¬ (σ.1 10 0 16 0) ≤ x5) (h2 : vp_in x4 48) (h3 : ¬ 0 ≤ (σ.1 10 0 35 (x4).toNatClampNeg)) (h4 : vp_in (((48 : Int32) * x4) + x5) 2304) (h5 : ¬ (σ.1 10 0 31 ((((48 : Int32) * x4) + x5)).toNatClampNeg) = 0) (h6 : vp_in x5 48) (h7 : (σ.1 10 0 35 (x5).toNatClampNeg) < 0) (h8 : C 162 [vR 10 0 0, vI (x4 + (1 : Int32))] (pm_wi (pm_wi σ 10 0 35 (x4).toNatClampNeg x5) 10 0 35 (x5).toNatClampNeg x4) = some (some (vI r1), σ1)) (h9 : ¬ r1 = x3) : pq_Rn C (164, 51, [some (vR 10 0 0), l1, l2, some (vI x3), some (vI x4), some (vI x5)], [], σ) = pq_Rn C (164, 51, [some (vR 10 0 0), l1, l2, some (vI x3), some (vI x4), some (vI (x5 + (1 : Int32)))], [], (pm_wi (pm_wi σ1 10 0 35 (x4).toNatClampNeg (-1 : Int32)) 10 0 35 (x5).toNatClampNeg (-1 : Int32))) := by
  refine (e_n 3 (fr' := (164, 57, [some (vR 10 0 0), l1, l2, some (vI x3), some (vI x4), some (vI x5)], [vI (σ.1 10 0 16 0), vI x5], σ)) rfl).trans ?_
  refine (e_f (B := (164, 60, [some (vR 10 0 0), l1, l2, some (vI x3), some (vI x4), some (vI x5)], [], σ)) rfl h1).trans ?_
  refine (e_n 3 (fr' := (164, 66, [some (vR 10 0 0), l1, l2, some (vI x3), some (vI x4), some (vI x5)], [vI x4, vR 10 0 36], σ)) rfl).trans ?_
  refine (e_a (A := (164, 67, [some (vR 10 0 0), l1, l2, some (vI x3), some (vI x4), some (vI x5)], [vI (σ.1 10 0 35 (x4).toNatClampNeg)], σ)) rfl h2).trans ?_
  refine (e_f (B := (164, 70, [some (vR 10 0 0), l1, l2, some (vI x3), some (vI x4), some (vI x5)], [], σ)) rfl h3).trans ?_
  refine (e_n 7 (fr' := (164, 82, [some (vR 10 0 0), l1, l2, some (vI x3), some (vI x4), some (vI x5)], [vI (((48 : Int32) * x4) + x5), vR 10 0 32], σ)) rfl).trans ?_
  refine (e_a (A := (164, 83, [some (vR 10 0 0), l1, l2, some (vI x3), some (vI x4), some (vI x5)], [vI (σ.1 10 0 31 ((((48 : Int32) * x4) + x5)).toNatClampNeg)], σ)) rfl h4).trans ?_
  refine (e_f (B := (164, 86, [some (vR 10 0 0), l1, l2, some (vI x3), some (vI x4), some (vI x5)], [], σ)) rfl h5).trans ?_
  refine (e_n 3 (fr' := (164, 92, [some (vR 10 0 0), l1, l2, some (vI x3), some (vI x4), some (vI x5)], [vI x5, vR 10 0 36], σ)) rfl).trans ?_
  refine (e_a (A := (164, 93, [some (vR 10 0 0), l1, l2, some (vI x3), some (vI x4), some (vI x5)], [vI (σ.1 10 0 35 (x5).toNatClampNeg)], σ)) rfl h6).trans ?_
  refine (e_t (A := (164, 99, [some (vR 10 0 0), l1, l2, some (vI x3), some (vI x4), some (vI x5)], [], σ)) rfl h7).trans ?_
  refine (e_n 4 (fr' := (164, 107, [some (vR 10 0 0), l1, l2, some (vI x3), some (vI x4), some (vI x5)], [vI x5, vI x4, vR 10 0 36], σ)) rfl).trans ?_
  refine (e_a (A := (164, 108, [some (vR 10 0 0), l1, l2, some (vI x3), some (vI x4), some (vI x5)], [], (pm_wi σ 10 0 35 (x4).toNatClampNeg x5))) rfl h2).trans ?_
  refine (e_n 4 (fr' := (164, 116, [some (vR 10 0 0), l1, l2, some (vI x3), some (vI x4), some (vI x5)], [vI x4, vI x5, vR 10 0 36], (pm_wi σ 10 0 35 (x4).toNatClampNeg x5))) rfl).trans ?_
  refine (e_a (A := (164, 117, [some (vR 10 0 0), l1, l2, some (vI x3), some (vI x4), some (vI x5)], [], (pm_wi (pm_wi σ 10 0 35 (x4).toNatClampNeg x5) 10 0 35 (x5).toNatClampNeg x4))) rfl h6).trans ?_
  refine (e_n 4 (fr' := (164, 122, [some (vR 10 0 0), l1, l2, some (vI x3), some (vI x4), some (vI x5)], [vI (x4 + (1 : Int32)), vR 10 0 0], (pm_wi (pm_wi σ 10 0 35 (x4).toNatClampNeg x5) 10 0 35 (x5).toNatClampNeg x4))) rfl).trans ?_
  refine (e_ci (m := 164) (pc := 125) (ls := [some (vR 10 0 0), l1, l2, some (vI x3), some (vI x4), some (vI x5)]) (rest := []) rfl h8).trans ?_
  refine (e_n 1 (fr' := (164, 126, [some (vR 10 0 0), l1, l2, some (vI x3), some (vI x4), some (vI x5)], [vI x3, vI r1], σ1)) rfl).trans ?_
  refine (e_f (B := (164, 132, [some (vR 10 0 0), l1, l2, some (vI x3), some (vI x4), some (vI x5)], [], σ1)) rfl h9).trans ?_
  refine (e_n 4 (fr' := (164, 139, [some (vR 10 0 0), l1, l2, some (vI x3), some (vI x4), some (vI x5)], [vI (-1 : Int32), vI x4, vR 10 0 36], σ1)) rfl).trans ?_
  refine (e_a (A := (164, 140, [some (vR 10 0 0), l1, l2, some (vI x3), some (vI x4), some (vI x5)], [], (pm_wi σ1 10 0 35 (x4).toNatClampNeg (-1 : Int32)))) rfl h2).trans ?_
  refine (e_n 4 (fr' := (164, 147, [some (vR 10 0 0), l1, l2, some (vI x3), some (vI x4), some (vI x5)], [vI (-1 : Int32), vI x5, vR 10 0 36], (pm_wi σ1 10 0 35 (x4).toNatClampNeg (-1 : Int32)))) rfl).trans ?_
  refine (e_a (A := (164, 148, [some (vR 10 0 0), l1, l2, some (vI x3), some (vI x4), some (vI x5)], [], (pm_wi (pm_wi σ1 10 0 35 (x4).toNatClampNeg (-1 : Int32)) 10 0 35 (x5).toNatClampNeg (-1 : Int32)))) rfl h6).trans ?_
  exact e_n 2 rfl
set_option maxRecDepth 20000 in
theorem g164_51_5 (C : pmC) {σ : pmS} {l1 : Option pmV} {l2 : Option pmV} {x3 : Int32} {x4 : Int32} {x5 : Int32} (h1 : ¬ (σ.1 10 0 16 0) ≤ x5) (h2 : vp_in x4 48) (h3 : ¬ 0 ≤ (σ.1 10 0 35 (x4).toNatClampNeg)) (h4 : vp_in (((48 : Int32) * x4) + x5) 2304) (h5 : ¬ (σ.1 10 0 31 ((((48 : Int32) * x4) + x5)).toNatClampNeg) = 0) (h6 : vp_in x5 48) (h7 : ¬ (σ.1 10 0 35 (x5).toNatClampNeg) < 0) : pq_Rn C (164, 51, [some (vR 10 0 0), l1, l2, some (vI x3), some (vI x4), some (vI x5)], [], σ) = pq_Rn C (164, 51, [some (vR 10 0 0), l1, l2, some (vI x3), some (vI x4), some (vI (x5 + (1 : Int32)))], [], σ) := by
  refine (e_n 3 (fr' := (164, 57, [some (vR 10 0 0), l1, l2, some (vI x3), some (vI x4), some (vI x5)], [vI (σ.1 10 0 16 0), vI x5], σ)) rfl).trans ?_
  refine (e_f (B := (164, 60, [some (vR 10 0 0), l1, l2, some (vI x3), some (vI x4), some (vI x5)], [], σ)) rfl h1).trans ?_
  refine (e_n 3 (fr' := (164, 66, [some (vR 10 0 0), l1, l2, some (vI x3), some (vI x4), some (vI x5)], [vI x4, vR 10 0 36], σ)) rfl).trans ?_
  refine (e_a (A := (164, 67, [some (vR 10 0 0), l1, l2, some (vI x3), some (vI x4), some (vI x5)], [vI (σ.1 10 0 35 (x4).toNatClampNeg)], σ)) rfl h2).trans ?_
  refine (e_f (B := (164, 70, [some (vR 10 0 0), l1, l2, some (vI x3), some (vI x4), some (vI x5)], [], σ)) rfl h3).trans ?_
  refine (e_n 7 (fr' := (164, 82, [some (vR 10 0 0), l1, l2, some (vI x3), some (vI x4), some (vI x5)], [vI (((48 : Int32) * x4) + x5), vR 10 0 32], σ)) rfl).trans ?_
  refine (e_a (A := (164, 83, [some (vR 10 0 0), l1, l2, some (vI x3), some (vI x4), some (vI x5)], [vI (σ.1 10 0 31 ((((48 : Int32) * x4) + x5)).toNatClampNeg)], σ)) rfl h4).trans ?_
  refine (e_f (B := (164, 86, [some (vR 10 0 0), l1, l2, some (vI x3), some (vI x4), some (vI x5)], [], σ)) rfl h5).trans ?_
  refine (e_n 3 (fr' := (164, 92, [some (vR 10 0 0), l1, l2, some (vI x3), some (vI x4), some (vI x5)], [vI x5, vR 10 0 36], σ)) rfl).trans ?_
  refine (e_a (A := (164, 93, [some (vR 10 0 0), l1, l2, some (vI x3), some (vI x4), some (vI x5)], [vI (σ.1 10 0 35 (x5).toNatClampNeg)], σ)) rfl h6).trans ?_
  refine (e_f (B := (164, 96, [some (vR 10 0 0), l1, l2, some (vI x3), some (vI x4), some (vI x5)], [], σ)) rfl h7).trans ?_
  exact e_n 3 rfl
set_option maxRecDepth 20000 in
theorem g164_163_0 (C : pmC) {σ : pmS} {l1 : Option pmV} {l2 : Option pmV} {x3 : Int32} {x4 : Int32} {l5 : Option pmV} {σ1 : pmS} (h1 : (48 : Int32) ≤ x4) (h2 : C 166 [vR 10 0 0] σ = some (none, σ1)) : pq_Rn C (164, 163, [some (vR 10 0 0), l1, l2, some (vI x3), some (vI x4), l5], [], σ) = some (some (vI x3), σ1) := by
  refine (e_n 2 (fr' := (164, 167, [some (vR 10 0 0), l1, l2, some (vI x3), some (vI x4), l5], [vI (48 : Int32), vI x4], σ)) rfl).trans ?_
  refine (e_t (A := (164, 203, [some (vR 10 0 0), l1, l2, some (vI x3), some (vI x4), l5], [], σ)) rfl h1).trans ?_
  refine (e_n 1 (fr' := (164, 204, [some (vR 10 0 0), l1, l2, some (vI x3), some (vI x4), l5], [vR 10 0 0], σ)) rfl).trans ?_
  refine (e_cv (m := 164) (pc := 207) (ls := [some (vR 10 0 0), l1, l2, some (vI x3), some (vI x4), l5]) (rest := []) rfl h2).trans ?_
  refine (e_n 1 (fr' := (164, 208, [some (vR 10 0 0), l1, l2, some (vI x3), some (vI x4), l5], [vI x3], σ1)) rfl).trans ?_
  exact e_r rfl
set_option maxRecDepth 20000 in
theorem g164_163_1 (C : pmC) {σ : pmS} {l1 : Option pmV} {l2 : Option pmV} {x3 : Int32} {x4 : Int32} {l5 : Option pmV} (h1 : ¬ (48 : Int32) ≤ x4) (h2 : (σ.1 10 0 16 0) ≤ x4) (h3 : vp_in x4 48) : pq_Rn C (164, 163, [some (vR 10 0 0), l1, l2, some (vI x3), some (vI x4), l5], [], σ) = pq_Rn C (164, 163, [some (vR 10 0 0), l1, l2, some (vI x3), some (vI (x4 + (1 : Int32))), l5], [], (pm_wi σ 10 0 38 (x4).toNatClampNeg (-1 : Int32))) := by
  refine (e_n 2 (fr' := (164, 167, [some (vR 10 0 0), l1, l2, some (vI x3), some (vI x4), l5], [vI (48 : Int32), vI x4], σ)) rfl).trans ?_
  refine (e_f (B := (164, 170, [some (vR 10 0 0), l1, l2, some (vI x3), some (vI x4), l5], [], σ)) rfl h1).trans ?_
  refine (e_n 6 (fr' := (164, 182, [some (vR 10 0 0), l1, l2, some (vI x3), some (vI x4), l5], [vI (σ.1 10 0 16 0), vI x4, vI x4, vR 10 0 39], σ)) rfl).trans ?_
  refine (e_t (A := (164, 195, [some (vR 10 0 0), l1, l2, some (vI x3), some (vI x4), l5], [vI x4, vR 10 0 39], σ)) rfl h2).trans ?_
  refine (e_n 1 (fr' := (164, 196, [some (vR 10 0 0), l1, l2, some (vI x3), some (vI x4), l5], [vI (-1 : Int32), vI x4, vR 10 0 39], σ)) rfl).trans ?_
  refine (e_a (A := (164, 197, [some (vR 10 0 0), l1, l2, some (vI x3), some (vI x4), l5], [], (pm_wi σ 10 0 38 (x4).toNatClampNeg (-1 : Int32)))) rfl h3).trans ?_
  exact e_n 2 rfl
set_option maxRecDepth 20000 in
theorem g164_163_2 (C : pmC) {σ : pmS} {l1 : Option pmV} {l2 : Option pmV} {x3 : Int32} {x4 : Int32} {l5 : Option pmV} (h1 : ¬ (48 : Int32) ≤ x4) (h2 : ¬ (σ.1 10 0 16 0) ≤ x4) (h3 : vp_in x4 48) : pq_Rn C (164, 163, [some (vR 10 0 0), l1, l2, some (vI x3), some (vI x4), l5], [], σ) = pq_Rn C (164, 163, [some (vR 10 0 0), l1, l2, some (vI x3), some (vI (x4 + (1 : Int32))), l5], [], (pm_wi σ 10 0 38 (x4).toNatClampNeg (σ.1 10 0 35 (x4).toNatClampNeg))) := by
  refine (e_n 2 (fr' := (164, 167, [some (vR 10 0 0), l1, l2, some (vI x3), some (vI x4), l5], [vI (48 : Int32), vI x4], σ)) rfl).trans ?_
  refine (e_f (B := (164, 170, [some (vR 10 0 0), l1, l2, some (vI x3), some (vI x4), l5], [], σ)) rfl h1).trans ?_
  refine (e_n 6 (fr' := (164, 182, [some (vR 10 0 0), l1, l2, some (vI x3), some (vI x4), l5], [vI (σ.1 10 0 16 0), vI x4, vI x4, vR 10 0 39], σ)) rfl).trans ?_
  refine (e_f (B := (164, 185, [some (vR 10 0 0), l1, l2, some (vI x3), some (vI x4), l5], [vI x4, vR 10 0 39], σ)) rfl h2).trans ?_
  refine (e_n 3 (fr' := (164, 191, [some (vR 10 0 0), l1, l2, some (vI x3), some (vI x4), l5], [vI x4, vR 10 0 36, vI x4, vR 10 0 39], σ)) rfl).trans ?_
  refine (e_a (A := (164, 192, [some (vR 10 0 0), l1, l2, some (vI x3), some (vI x4), l5], [vI (σ.1 10 0 35 (x4).toNatClampNeg), vI x4, vR 10 0 39], σ)) rfl h3).trans ?_
  refine (e_n 1 (fr' := (164, 196, [some (vR 10 0 0), l1, l2, some (vI x3), some (vI x4), l5], [vI (σ.1 10 0 35 (x4).toNatClampNeg), vI x4, vR 10 0 39], σ)) rfl).trans ?_
  refine (e_a (A := (164, 197, [some (vR 10 0 0), l1, l2, some (vI x3), some (vI x4), l5], [], (pm_wi σ 10 0 38 (x4).toNatClampNeg (σ.1 10 0 35 (x4).toNatClampNeg)))) rfl h3).trans ?_
  exact e_n 2 rfl
set_option maxRecDepth 20000 in
theorem g165_0_0 (C : pmC) {σ : pmS} {x1 : Int32} {l2 : Option pmV} {l3 : Option pmV}  : pq_Rn C (165, 0, [some (vR 10 0 0), some (vI x1), l2, l3], [], σ) = pq_Rn C (165, 4, [some (vR 10 0 0), some (vI x1), some (vI (0 : Int32)), some (vI (0 : Int32))], [], σ) := by
  exact e_n 4 rfl
set_option maxRecDepth 20000 in
theorem g165_4_0 (C : pmC) {σ : pmS} {x1 : Int32} {x2 : Int32} {x3 : Int32} (h1 : (σ.1 10 0 16 0) ≤ x3) (h2 : x2 = 0 ∨ x2 = 1) : pq_Rn C (165, 4, [some (vR 10 0 0), some (vI x1), some (vI x2), some (vI x3)], [], σ) = some (some (vI x2), σ) := by
  refine (e_n 3 (fr' := (165, 9, [some (vR 10 0 0), some (vI x1), some (vI x2), some (vI x3)], [vI (σ.1 10 0 16 0), vI x3], σ)) rfl).trans ?_
  refine (e_t (A := (165, 42, [some (vR 10 0 0), some (vI x1), some (vI x2), some (vI x3)], [], σ)) rfl h1).trans ?_
  refine (e_n 1 (fr' := (165, 43, [some (vR 10 0 0), some (vI x1), some (vI x2), some (vI x3)], [vI x2], σ)) rfl).trans ?_
  exact e_rz rfl rfl h2
set_option maxRecDepth 20000 in
theorem g165_4_1 (C : pmC) {σ : pmS} {x1 : Int32} {x2 : Int32} {x3 : Int32} (h1 : ¬ (σ.1 10 0 16 0) ≤ x3) (h2 : x2 = 0) (h3 : vp_in (((48 : Int32) * x1) + x3) 2304) (h4 : (σ.1 10 0 31 ((((48 : Int32) * x1) + x3)).toNatClampNeg) = 0) : pq_Rn C (165, 4, [some (vR 10 0 0), some (vI x1), some (vI x2), some (vI x3)], [], σ) = pq_Rn C (165, 4, [some (vR 10 0 0), some (vI x1), some (vI (0 : Int32)), some (vI (x3 + (1 : Int32)))], [], σ) := by
  refine (e_n 3 (fr' := (165, 9, [some (vR 10 0 0), some (vI x1), some (vI x2), some (vI x3)], [vI (σ.1 10 0 16 0), vI x3], σ)) rfl).trans ?_
  refine (e_f (B := (165, 12, [some (vR 10 0 0), some (vI x1), some (vI x2), some (vI x3)], [], σ)) rfl h1).trans ?_
  refine (e_n 1 (fr' := (165, 13, [some (vR 10 0 0), some (vI x1), some (vI x2), some (vI x3)], [vI x2], σ)) rfl).trans ?_
  refine (e_t (A := (165, 16, [some (vR 10 0 0), some (vI x1), some (vI x2), some (vI x3)], [], σ)) rfl h2).trans ?_
  refine (e_n 7 (fr' := (165, 26, [some (vR 10 0 0), some (vI x1), some (vI x2), some (vI x3)], [vI (((48 : Int32) * x1) + x3), vR 10 0 32], σ)) rfl).trans ?_
  refine (e_a (A := (165, 27, [some (vR 10 0 0), some (vI x1), some (vI x2), some (vI x3)], [vI (σ.1 10 0 31 ((((48 : Int32) * x1) + x3)).toNatClampNeg)], σ)) rfl h3).trans ?_
  refine (e_t (A := (165, 34, [some (vR 10 0 0), some (vI x1), some (vI x2), some (vI x3)], [], σ)) rfl h4).trans ?_
  exact e_n 4 rfl
set_option maxRecDepth 20000 in
theorem g165_4_2 (C : pmC) {σ : pmS} {x1 : Int32} {x2 : Int32} {x3 : Int32} (h1 : ¬ (σ.1 10 0 16 0) ≤ x3) (h2 : x2 = 0) (h3 : vp_in (((48 : Int32) * x1) + x3) 2304) (h4 : ¬ (σ.1 10 0 31 ((((48 : Int32) * x1) + x3)).toNatClampNeg) = 0) : pq_Rn C (165, 4, [some (vR 10 0 0), some (vI x1), some (vI x2), some (vI x3)], [], σ) = pq_Rn C (165, 4, [some (vR 10 0 0), some (vI x1), some (vI (1 : Int32)), some (vI (x3 + (1 : Int32)))], [], σ) := by
  refine (e_n 3 (fr' := (165, 9, [some (vR 10 0 0), some (vI x1), some (vI x2), some (vI x3)], [vI (σ.1 10 0 16 0), vI x3], σ)) rfl).trans ?_
  refine (e_f (B := (165, 12, [some (vR 10 0 0), some (vI x1), some (vI x2), some (vI x3)], [], σ)) rfl h1).trans ?_
  refine (e_n 1 (fr' := (165, 13, [some (vR 10 0 0), some (vI x1), some (vI x2), some (vI x3)], [vI x2], σ)) rfl).trans ?_
  refine (e_t (A := (165, 16, [some (vR 10 0 0), some (vI x1), some (vI x2), some (vI x3)], [], σ)) rfl h2).trans ?_
  refine (e_n 7 (fr' := (165, 26, [some (vR 10 0 0), some (vI x1), some (vI x2), some (vI x3)], [vI (((48 : Int32) * x1) + x3), vR 10 0 32], σ)) rfl).trans ?_
  refine (e_a (A := (165, 27, [some (vR 10 0 0), some (vI x1), some (vI x2), some (vI x3)], [vI (σ.1 10 0 31 ((((48 : Int32) * x1) + x3)).toNatClampNeg)], σ)) rfl h3).trans ?_
  refine (e_f (B := (165, 30, [some (vR 10 0 0), some (vI x1), some (vI x2), some (vI x3)], [], σ)) rfl h4).trans ?_
  exact e_n 5 rfl
set_option maxRecDepth 20000 in
theorem g165_4_3 (C : pmC) {σ : pmS} {x1 : Int32} {x2 : Int32} {x3 : Int32} (h1 : ¬ (σ.1 10 0 16 0) ≤ x3) (h2 : ¬ x2 = 0) : pq_Rn C (165, 4, [some (vR 10 0 0), some (vI x1), some (vI x2), some (vI x3)], [], σ) = pq_Rn C (165, 4, [some (vR 10 0 0), some (vI x1), some (vI (1 : Int32)), some (vI (x3 + (1 : Int32)))], [], σ) := by
  refine (e_n 3 (fr' := (165, 9, [some (vR 10 0 0), some (vI x1), some (vI x2), some (vI x3)], [vI (σ.1 10 0 16 0), vI x3], σ)) rfl).trans ?_
  refine (e_f (B := (165, 12, [some (vR 10 0 0), some (vI x1), some (vI x2), some (vI x3)], [], σ)) rfl h1).trans ?_
  refine (e_n 1 (fr' := (165, 13, [some (vR 10 0 0), some (vI x1), some (vI x2), some (vI x3)], [vI x2], σ)) rfl).trans ?_
  refine (e_f (B := (165, 30, [some (vR 10 0 0), some (vI x1), some (vI x2), some (vI x3)], [], σ)) rfl h2).trans ?_
  exact e_n 5 rfl
set_option maxRecDepth 20000 in
theorem g166_0_0 (C : pmC) {σ : pmS} {l1 : Option pmV} {l2 : Option pmV} {l3 : Option pmV} {l4 : Option pmV}  : pq_Rn C (166, 0, [some (vR 10 0 0), l1, l2, l3, l4], [], σ) = pq_Rn C (166, 2, [some (vR 10 0 0), some (vI (0 : Int32)), l2, l3, l4], [], σ) := by
  exact e_n 2 rfl
set_option maxRecDepth 20000 in
theorem g166_2_0 (C : pmC) {σ : pmS} {x1 : Int32} {l2 : Option pmV} {l3 : Option pmV} {l4 : Option pmV} (h1 : (σ.1 10 0 16 0) ≤ x1) : pq_Rn C (166, 2, [some (vR 10 0 0), some (vI x1), l2, l3, l4], [], σ) = pq_Rn C (166, 55, [some (vR 10 0 0), some (vI (1 : Int32)), l2, l3, l4], [], σ) := by
  refine (e_n 3 (fr' := (166, 7, [some (vR 10 0 0), some (vI x1), l2, l3, l4], [vI (σ.1 10 0 16 0), vI x1], σ)) rfl).trans ?_
  refine (e_t (A := (166, 53, [some (vR 10 0 0), some (vI x1), l2, l3, l4], [], σ)) rfl h1).trans ?_
  exact e_n 2 rfl
set_option maxRecDepth 20000 in
theorem g166_2_1 (C : pmC) {σ : pmS} {x1 : Int32} {l2 : Option pmV} {l3 : Option pmV} {l4 : Option pmV} (h1 : ¬ (σ.1 10 0 16 0) ≤ x1) (h2 : vp_in x1 48) (h3 : (σ.1 10 0 19 (x1).toNatClampNeg) = 0) (h4 : 0 ≤ (σ.1 10 0 38 (x1).toNatClampNeg)) : pq_Rn C (166, 2, [some (vR 10 0 0), some (vI x1), l2, l3, l4], [], σ) = pq_Rn C (166, 2, [some (vR 10 0 0), some (vI (x1 + (1 : Int32))), l2, l3, l4], [], (pm_wi σ 10 0 39 (x1).toNatClampNeg (0 : Int32))) := by
  refine (e_n 3 (fr' := (166, 7, [some (vR 10 0 0), some (vI x1), l2, l3, l4], [vI (σ.1 10 0 16 0), vI x1], σ)) rfl).trans ?_
  refine (e_f (B := (166, 10, [some (vR 10 0 0), some (vI x1), l2, l3, l4], [], σ)) rfl h1).trans ?_
  refine (e_n 6 (fr' := (166, 20, [some (vR 10 0 0), some (vI x1), l2, l3, l4], [vI x1, vR 10 0 20, vI x1, vR 10 0 40], σ)) rfl).trans ?_
  refine (e_a (A := (166, 21, [some (vR 10 0 0), some (vI x1), l2, l3, l4], [vI (σ.1 10 0 19 (x1).toNatClampNeg), vI x1, vR 10 0 40], σ)) rfl h2).trans ?_
  refine (e_t (A := (166, 24, [some (vR 10 0 0), some (vI x1), l2, l3, l4], [vI x1, vR 10 0 40], σ)) rfl h3).trans ?_
  refine (e_n 3 (fr' := (166, 29, [some (vR 10 0 0), some (vI x1), l2, l3, l4], [vI x1, vR 10 0 39, vI x1, vR 10 0 40], σ)) rfl).trans ?_
  refine (e_a (A := (166, 30, [some (vR 10 0 0), some (vI x1), l2, l3, l4], [vI (σ.1 10 0 38 (x1).toNatClampNeg), vI x1, vR 10 0 40], σ)) rfl h2).trans ?_
  refine (e_t (A := (166, 45, [some (vR 10 0 0), some (vI x1), l2, l3, l4], [vI x1, vR 10 0 40], σ)) rfl h4).trans ?_
  refine (e_n 1 (fr' := (166, 46, [some (vR 10 0 0), some (vI x1), l2, l3, l4], [vI (0 : Int32), vI x1, vR 10 0 40], σ)) rfl).trans ?_
  refine (e_a (A := (166, 47, [some (vR 10 0 0), some (vI x1), l2, l3, l4], [], (pm_wi σ 10 0 39 (x1).toNatClampNeg (0 : Int32)))) rfl h2).trans ?_
  exact e_n 2 rfl
set_option maxRecDepth 20000 in
theorem g166_2_2 (C : pmC) {σ : pmS} {x1 : Int32} {l2 : Option pmV} {l3 : Option pmV} {l4 : Option pmV} {σ1 : pmS} {r1 : Int32} (h1 : ¬ (σ.1 10 0 16 0) ≤ x1) (h2 : vp_in x1 48) (h3 : (σ.1 10 0 19 (x1).toNatClampNeg) = 0) (h4 : ¬ 0 ≤ (σ.1 10 0 38 (x1).toNatClampNeg)) (h5 : C 165 [vR 10 0 0, vI x1] σ = some (some (vI r1), σ1)) (h6 : r1 = 0) : pq_Rn C (166, 2, [some (vR 10 0 0), some (vI x1), l2, l3, l4], [], σ) = pq_Rn C (166, 2, [some (vR 10 0 0), some (vI (x1 + (1 : Int32))), l2, l3, l4], [], (pm_wi σ1 10 0 39 (x1).toNatClampNeg (0 : Int32))) := by
  refine (e_n 3 (fr' := (166, 7, [some (vR 10 0 0), some (vI x1), l2, l3, l4], [vI (σ.1 10 0 16 0), vI x1], σ)) rfl).trans ?_
  refine (e_f (B := (166, 10, [some (vR 10 0 0), some (vI x1), l2, l3, l4], [], σ)) rfl h1).trans ?_
  refine (e_n 6 (fr' := (166, 20, [some (vR 10 0 0), some (vI x1), l2, l3, l4], [vI x1, vR 10 0 20, vI x1, vR 10 0 40], σ)) rfl).trans ?_
  refine (e_a (A := (166, 21, [some (vR 10 0 0), some (vI x1), l2, l3, l4], [vI (σ.1 10 0 19 (x1).toNatClampNeg), vI x1, vR 10 0 40], σ)) rfl h2).trans ?_
  refine (e_t (A := (166, 24, [some (vR 10 0 0), some (vI x1), l2, l3, l4], [vI x1, vR 10 0 40], σ)) rfl h3).trans ?_
  refine (e_n 3 (fr' := (166, 29, [some (vR 10 0 0), some (vI x1), l2, l3, l4], [vI x1, vR 10 0 39, vI x1, vR 10 0 40], σ)) rfl).trans ?_
  refine (e_a (A := (166, 30, [some (vR 10 0 0), some (vI x1), l2, l3, l4], [vI (σ.1 10 0 38 (x1).toNatClampNeg), vI x1, vR 10 0 40], σ)) rfl h2).trans ?_
  refine (e_f (B := (166, 33, [some (vR 10 0 0), some (vI x1), l2, l3, l4], [vI x1, vR 10 0 40], σ)) rfl h4).trans ?_
  refine (e_n 2 (fr' := (166, 35, [some (vR 10 0 0), some (vI x1), l2, l3, l4], [vI x1, vR 10 0 0, vI x1, vR 10 0 40], σ)) rfl).trans ?_
  refine (e_ci (m := 166) (pc := 38) (ls := [some (vR 10 0 0), some (vI x1), l2, l3, l4]) (rest := [vI x1, vR 10 0 40]) rfl h5).trans ?_
  refine (e_t (A := (166, 45, [some (vR 10 0 0), some (vI x1), l2, l3, l4], [vI x1, vR 10 0 40], σ1)) rfl h6).trans ?_
  refine (e_n 1 (fr' := (166, 46, [some (vR 10 0 0), some (vI x1), l2, l3, l4], [vI (0 : Int32), vI x1, vR 10 0 40], σ1)) rfl).trans ?_
  refine (e_a (A := (166, 47, [some (vR 10 0 0), some (vI x1), l2, l3, l4], [], (pm_wi σ1 10 0 39 (x1).toNatClampNeg (0 : Int32)))) rfl h2).trans ?_
  exact e_n 2 rfl
set_option maxRecDepth 20000 in
theorem g166_2_3 (C : pmC) {σ : pmS} {x1 : Int32} {l2 : Option pmV} {l3 : Option pmV} {l4 : Option pmV} {σ1 : pmS} {r1 : Int32} (h1 : ¬ (σ.1 10 0 16 0) ≤ x1) (h2 : vp_in x1 48) (h3 : (σ.1 10 0 19 (x1).toNatClampNeg) = 0) (h4 : ¬ 0 ≤ (σ.1 10 0 38 (x1).toNatClampNeg)) (h5 : C 165 [vR 10 0 0, vI x1] σ = some (some (vI r1), σ1)) (h6 : ¬ r1 = 0) : pq_Rn C (166, 2, [some (vR 10 0 0), some (vI x1), l2, l3, l4], [], σ) = pq_Rn C (166, 2, [some (vR 10 0 0), some (vI (x1 + (1 : Int32))), l2, l3, l4], [], (pm_wi σ1 10 0 39 (x1).toNatClampNeg (1 : Int32))) := by
  refine (e_n 3 (fr' := (166, 7, [some (vR 10 0 0), some (vI x1), l2, l3, l4], [vI (σ.1 10 0 16 0), vI x1], σ)) rfl).trans ?_
  refine (e_f (B := (166, 10, [some (vR 10 0 0), some (vI x1), l2, l3, l4], [], σ)) rfl h1).trans ?_
  refine (e_n 6 (fr' := (166, 20, [some (vR 10 0 0), some (vI x1), l2, l3, l4], [vI x1, vR 10 0 20, vI x1, vR 10 0 40], σ)) rfl).trans ?_
  refine (e_a (A := (166, 21, [some (vR 10 0 0), some (vI x1), l2, l3, l4], [vI (σ.1 10 0 19 (x1).toNatClampNeg), vI x1, vR 10 0 40], σ)) rfl h2).trans ?_
  refine (e_t (A := (166, 24, [some (vR 10 0 0), some (vI x1), l2, l3, l4], [vI x1, vR 10 0 40], σ)) rfl h3).trans ?_
  refine (e_n 3 (fr' := (166, 29, [some (vR 10 0 0), some (vI x1), l2, l3, l4], [vI x1, vR 10 0 39, vI x1, vR 10 0 40], σ)) rfl).trans ?_
  refine (e_a (A := (166, 30, [some (vR 10 0 0), some (vI x1), l2, l3, l4], [vI (σ.1 10 0 38 (x1).toNatClampNeg), vI x1, vR 10 0 40], σ)) rfl h2).trans ?_
  refine (e_f (B := (166, 33, [some (vR 10 0 0), some (vI x1), l2, l3, l4], [vI x1, vR 10 0 40], σ)) rfl h4).trans ?_
  refine (e_n 2 (fr' := (166, 35, [some (vR 10 0 0), some (vI x1), l2, l3, l4], [vI x1, vR 10 0 0, vI x1, vR 10 0 40], σ)) rfl).trans ?_
  refine (e_ci (m := 166) (pc := 38) (ls := [some (vR 10 0 0), some (vI x1), l2, l3, l4]) (rest := [vI x1, vR 10 0 40]) rfl h5).trans ?_
  refine (e_f (B := (166, 41, [some (vR 10 0 0), some (vI x1), l2, l3, l4], [vI x1, vR 10 0 40], σ1)) rfl h6).trans ?_
  refine (e_n 2 (fr' := (166, 46, [some (vR 10 0 0), some (vI x1), l2, l3, l4], [vI (1 : Int32), vI x1, vR 10 0 40], σ1)) rfl).trans ?_
  refine (e_a (A := (166, 47, [some (vR 10 0 0), some (vI x1), l2, l3, l4], [], (pm_wi σ1 10 0 39 (x1).toNatClampNeg (1 : Int32)))) rfl h2).trans ?_
  exact e_n 2 rfl
set_option maxRecDepth 20000 in
theorem g166_2_4 (C : pmC) {σ : pmS} {x1 : Int32} {l2 : Option pmV} {l3 : Option pmV} {l4 : Option pmV} (h1 : ¬ (σ.1 10 0 16 0) ≤ x1) (h2 : vp_in x1 48) (h3 : ¬ (σ.1 10 0 19 (x1).toNatClampNeg) = 0) : pq_Rn C (166, 2, [some (vR 10 0 0), some (vI x1), l2, l3, l4], [], σ) = pq_Rn C (166, 2, [some (vR 10 0 0), some (vI (x1 + (1 : Int32))), l2, l3, l4], [], (pm_wi σ 10 0 39 (x1).toNatClampNeg (0 : Int32))) := by
  refine (e_n 3 (fr' := (166, 7, [some (vR 10 0 0), some (vI x1), l2, l3, l4], [vI (σ.1 10 0 16 0), vI x1], σ)) rfl).trans ?_
  refine (e_f (B := (166, 10, [some (vR 10 0 0), some (vI x1), l2, l3, l4], [], σ)) rfl h1).trans ?_
  refine (e_n 6 (fr' := (166, 20, [some (vR 10 0 0), some (vI x1), l2, l3, l4], [vI x1, vR 10 0 20, vI x1, vR 10 0 40], σ)) rfl).trans ?_
  refine (e_a (A := (166, 21, [some (vR 10 0 0), some (vI x1), l2, l3, l4], [vI (σ.1 10 0 19 (x1).toNatClampNeg), vI x1, vR 10 0 40], σ)) rfl h2).trans ?_
  refine (e_f (B := (166, 45, [some (vR 10 0 0), some (vI x1), l2, l3, l4], [vI x1, vR 10 0 40], σ)) rfl h3).trans ?_
  refine (e_n 1 (fr' := (166, 46, [some (vR 10 0 0), some (vI x1), l2, l3, l4], [vI (0 : Int32), vI x1, vR 10 0 40], σ)) rfl).trans ?_
  refine (e_a (A := (166, 47, [some (vR 10 0 0), some (vI x1), l2, l3, l4], [], (pm_wi σ 10 0 39 (x1).toNatClampNeg (0 : Int32)))) rfl h2).trans ?_
  exact e_n 2 rfl
set_option maxRecDepth 20000 in
theorem g166_55_0 (C : pmC) {σ : pmS} {x1 : Int32} {l2 : Option pmV} {l3 : Option pmV} {l4 : Option pmV} (h1 : x1 = 0) : pq_Rn C (166, 55, [some (vR 10 0 0), some (vI x1), l2, l3, l4], [], σ) = pq_Rn C (166, 180, [some (vR 10 0 0), some (vI x1), some (vI (0 : Int32)), l3, l4], [], (pm_wi (pm_wi σ 10 0 36 0 (0 : Int32)) 10 0 37 0 (0 : Int32))) := by
  refine (e_n 1 (fr' := (166, 56, [some (vR 10 0 0), some (vI x1), l2, l3, l4], [vI x1], σ)) rfl).trans ?_
  refine (e_t (A := (166, 168, [some (vR 10 0 0), some (vI x1), l2, l3, l4], [], σ)) rfl h1).trans ?_
  exact e_n 8 rfl
set_option maxRecDepth 20000 in
theorem g166_55_1 (C : pmC) {σ : pmS} {x1 : Int32} {l2 : Option pmV} {l3 : Option pmV} {l4 : Option pmV} (h1 : ¬ x1 = 0) : pq_Rn C (166, 55, [some (vR 10 0 0), some (vI x1), l2, l3, l4], [], σ) = pq_Rn C (166, 63, [some (vR 10 0 0), some (vI (0 : Int32)), some (vI (0 : Int32)), l3, l4], [], σ) := by
  refine (e_n 1 (fr' := (166, 56, [some (vR 10 0 0), some (vI x1), l2, l3, l4], [vI x1], σ)) rfl).trans ?_
  refine (e_f (B := (166, 59, [some (vR 10 0 0), some (vI x1), l2, l3, l4], [], σ)) rfl h1).trans ?_
  exact e_n 4 rfl
set_option maxRecDepth 20000 in
theorem g166_63_0 (C : pmC) {σ : pmS} {x1 : Int32} {x2 : Int32} {l3 : Option pmV} {l4 : Option pmV} (h1 : (σ.1 10 0 16 0) ≤ x2) : pq_Rn C (166, 63, [some (vR 10 0 0), some (vI x1), some (vI x2), l3, l4], [], σ) = pq_Rn C (166, 55, [some (vR 10 0 0), some (vI x1), some (vI x2), l3, l4], [], σ) := by
  refine (e_n 3 (fr' := (166, 68, [some (vR 10 0 0), some (vI x1), some (vI x2), l3, l4], [vI (σ.1 10 0 16 0), vI x2], σ)) rfl).trans ?_
  refine (e_t (A := (166, 165, [some (vR 10 0 0), some (vI x1), some (vI x2), l3, l4], [], σ)) rfl h1).trans ?_
  exact e_n 1 rfl
set_option maxRecDepth 20000 in
theorem g166_63_1 (C : pmC) {σ : pmS} {x1 : Int32} {x2 : Int32} {l3 : Option pmV} {l4 : Option pmV} (h1 : ¬ (σ.1 10 0 16 0) ≤ x2) : pq_Rn C (166, 63, [some (vR 10 0 0), some (vI x1), some (vI x2), l3, l4], [], σ) = pq_Rn C (166, 73, [some (vR 10 0 0), some (vI x1), some (vI x2), some (vI (0 : Int32)), l4], [], σ) := by
  refine (e_n 3 (fr' := (166, 68, [some (vR 10 0 0), some (vI x1), some (vI x2), l3, l4], [vI (σ.1 10 0 16 0), vI x2], σ)) rfl).trans ?_
  refine (e_f (B := (166, 71, [some (vR 10 0 0), some (vI x1), some (vI x2), l3, l4], [], σ)) rfl h1).trans ?_
  exact e_n 2 rfl
set_option maxRecDepth 20000 in
theorem g166_73_0 (C : pmC) {σ : pmS} {x1 : Int32} {x2 : Int32} {x3 : Int32} {l4 : Option pmV} (h1 : (σ.1 10 0 16 0) ≤ x3) : pq_Rn C (166, 73, [some (vR 10 0 0), some (vI x1), some (vI x2), some (vI x3), l4], [], σ) = pq_Rn C (166, 63, [some (vR 10 0 0), some (vI x1), some (vI (x2 + (1 : Int32))), some (vI x3), l4], [], σ) := by
  refine (e_n 3 (fr' := (166, 78, [some (vR 10 0 0), some (vI x1), some (vI x2), some (vI x3), l4], [vI (σ.1 10 0 16 0), vI x3], σ)) rfl).trans ?_
  refine (e_t (A := (166, 159, [some (vR 10 0 0), some (vI x1), some (vI x2), some (vI x3), l4], [], σ)) rfl h1).trans ?_
  exact e_n 2 rfl
set_option maxRecDepth 20000 in
theorem g166_73_1 (C : pmC) {σ : pmS} {x1 : Int32} {x2 : Int32} {x3 : Int32} {l4 : Option pmV} (h1 : ¬ (σ.1 10 0 16 0) ≤ x3) (h2 : vp_in x2 48) (h3 : (σ.1 10 0 39 (x2).toNatClampNeg) = 0) : pq_Rn C (166, 73, [some (vR 10 0 0), some (vI x1), some (vI x2), some (vI x3), l4], [], σ) = pq_Rn C (166, 73, [some (vR 10 0 0), some (vI x1), some (vI x2), some (vI (x3 + (1 : Int32))), l4], [], σ) := by
  refine (e_n 3 (fr' := (166, 78, [some (vR 10 0 0), some (vI x1), some (vI x2), some (vI x3), l4], [vI (σ.1 10 0 16 0), vI x3], σ)) rfl).trans ?_
  refine (e_f (B := (166, 81, [some (vR 10 0 0), some (vI x1), some (vI x2), some (vI x3), l4], [], σ)) rfl h1).trans ?_
  refine (e_n 3 (fr' := (166, 86, [some (vR 10 0 0), some (vI x1), some (vI x2), some (vI x3), l4], [vI x2, vR 10 0 40], σ)) rfl).trans ?_
  refine (e_a (A := (166, 87, [some (vR 10 0 0), some (vI x1), some (vI x2), some (vI x3), l4], [vI (σ.1 10 0 39 (x2).toNatClampNeg)], σ)) rfl h2).trans ?_
  refine (e_t (A := (166, 153, [some (vR 10 0 0), some (vI x1), some (vI x2), some (vI x3), l4], [], σ)) rfl h3).trans ?_
  exact e_n 2 rfl
set_option maxRecDepth 20000 in
theorem g166_73_2 (C : pmC) {σ : pmS} {x1 : Int32} {x2 : Int32} {x3 : Int32} {l4 : Option pmV} (h1 : ¬ (σ.1 10 0 16 0) ≤ x3) (h2 : vp_in x2 48) (h3 : ¬ (σ.1 10 0 39 (x2).toNatClampNeg) = 0) (h4 : (σ.1 10 0 19 (x2).toNatClampNeg) = 0) (h5 : vp_in (((48 : Int32) * x2) + x3) 2304) (h6 : (σ.1 10 0 31 ((((48 : Int32) * x2) + x3)).toNatClampNeg) = 0) : pq_Rn C (166, 73, [some (vR 10 0 0), some (vI x1), some (vI x2), some (vI x3), l4], [], σ) = pq_Rn C (166, 73, [some (vR 10 0 0), some (vI x1), some (vI x2), some (vI (x3 + (1 : Int32))), l4], [], σ) := by
  refine (e_n 3 (fr' := (166, 78, [some (vR 10 0 0), some (vI x1), some (vI x2), some (vI x3), l4], [vI (σ.1 10 0 16 0), vI x3], σ)) rfl).trans ?_
  refine (e_f (B := (166, 81, [some (vR 10 0 0), some (vI x1), some (vI x2), some (vI x3), l4], [], σ)) rfl h1).trans ?_
  refine (e_n 3 (fr' := (166, 86, [some (vR 10 0 0), some (vI x1), some (vI x2), some (vI x3), l4], [vI x2, vR 10 0 40], σ)) rfl).trans ?_
  refine (e_a (A := (166, 87, [some (vR 10 0 0), some (vI x1), some (vI x2), some (vI x3), l4], [vI (σ.1 10 0 39 (x2).toNatClampNeg)], σ)) rfl h2).trans ?_
  refine (e_f (B := (166, 90, [some (vR 10 0 0), some (vI x1), some (vI x2), some (vI x3), l4], [], σ)) rfl h3).trans ?_
  refine (e_n 3 (fr' := (166, 95, [some (vR 10 0 0), some (vI x1), some (vI x2), some (vI x3), l4], [vI x2, vR 10 0 20], σ)) rfl).trans ?_
  refine (e_a (A := (166, 96, [some (vR 10 0 0), some (vI x1), some (vI x2), some (vI x3), l4], [vI (σ.1 10 0 19 (x2).toNatClampNeg)], σ)) rfl h2).trans ?_
  refine (e_t (A := (166, 99, [some (vR 10 0 0), some (vI x1), some (vI x2), some (vI x3), l4], [], σ)) rfl h4).trans ?_
  refine (e_n 7 (fr' := (166, 109, [some (vR 10 0 0), some (vI x1), some (vI x2), some (vI x3), l4], [vI (((48 : Int32) * x2) + x3), vR 10 0 32], σ)) rfl).trans ?_
  refine (e_a (A := (166, 110, [some (vR 10 0 0), some (vI x1), some (vI x2), some (vI x3), l4], [vI (σ.1 10 0 31 ((((48 : Int32) * x2) + x3)).toNatClampNeg)], σ)) rfl h5).trans ?_
  refine (e_t (A := (166, 153, [some (vR 10 0 0), some (vI x1), some (vI x2), some (vI x3), l4], [], σ)) rfl h6).trans ?_
  exact e_n 2 rfl
set_option maxRecDepth 20000 in
theorem g166_73_3 (C : pmC) {σ : pmS} {x1 : Int32} {x2 : Int32} {x3 : Int32} {l4 : Option pmV} (h1 : ¬ (σ.1 10 0 16 0) ≤ x3) (h2 : vp_in x2 48) (h3 : ¬ (σ.1 10 0 39 (x2).toNatClampNeg) = 0) (h4 : (σ.1 10 0 19 (x2).toNatClampNeg) = 0) (h5 : vp_in (((48 : Int32) * x2) + x3) 2304) (h6 : ¬ (σ.1 10 0 31 ((((48 : Int32) * x2) + x3)).toNatClampNeg) = 0) (h7 : vp_in x3 48) (h8 : (σ.1 10 0 38 (x3).toNatClampNeg) < 0) : pq_Rn C (166, 73, [some (vR 10 0 0), some (vI x1), some (vI x2), some (vI x3), l4], [], σ) = pq_Rn C (166, 73, [some (vR 10 0 0), some (vI x1), some (vI x2), some (vI (x3 + (1 : Int32))), l4], [], σ) := by
  refine (e_n 3 (fr' := (166, 78, [some (vR 10 0 0), some (vI x1), some (vI x2), some (vI x3), l4], [vI (σ.1 10 0 16 0), vI x3], σ)) rfl).trans ?_
  refine (e_f (B := (166, 81, [some (vR 10 0 0), some (vI x1), some (vI x2), some (vI x3), l4], [], σ)) rfl h1).trans ?_
  refine (e_n 3 (fr' := (166, 86, [some (vR 10 0 0), some (vI x1), some (vI x2), some (vI x3), l4], [vI x2, vR 10 0 40], σ)) rfl).trans ?_
  refine (e_a (A := (166, 87, [some (vR 10 0 0), some (vI x1), some (vI x2), some (vI x3), l4], [vI (σ.1 10 0 39 (x2).toNatClampNeg)], σ)) rfl h2).trans ?_
  refine (e_f (B := (166, 90, [some (vR 10 0 0), some (vI x1), some (vI x2), some (vI x3), l4], [], σ)) rfl h3).trans ?_
  refine (e_n 3 (fr' := (166, 95, [some (vR 10 0 0), some (vI x1), some (vI x2), some (vI x3), l4], [vI x2, vR 10 0 20], σ)) rfl).trans ?_
  refine (e_a (A := (166, 96, [some (vR 10 0 0), some (vI x1), some (vI x2), some (vI x3), l4], [vI (σ.1 10 0 19 (x2).toNatClampNeg)], σ)) rfl h2).trans ?_
  refine (e_t (A := (166, 99, [some (vR 10 0 0), some (vI x1), some (vI x2), some (vI x3), l4], [], σ)) rfl h4).trans ?_
  refine (e_n 7 (fr' := (166, 109, [some (vR 10 0 0), some (vI x1), some (vI x2), some (vI x3), l4], [vI (((48 : Int32) * x2) + x3), vR 10 0 32], σ)) rfl).trans ?_
  refine (e_a (A := (166, 110, [some (vR 10 0 0), some (vI x1), some (vI x2), some (vI x3), l4], [vI (σ.1 10 0 31 ((((48 : Int32) * x2) + x3)).toNatClampNeg)], σ)) rfl h5).trans ?_
  refine (e_f (B := (166, 113, [some (vR 10 0 0), some (vI x1), some (vI x2), some (vI x3), l4], [], σ)) rfl h6).trans ?_
  refine (e_n 3 (fr' := (166, 118, [some (vR 10 0 0), some (vI x1), some (vI x2), some (vI x3), l4], [vI x3, vR 10 0 39], σ)) rfl).trans ?_
  refine (e_a (A := (166, 119, [some (vR 10 0 0), some (vI x1), some (vI x2), some (vI x3), l4], [vI (σ.1 10 0 38 (x3).toNatClampNeg)], σ)) rfl h7).trans ?_
  refine (e_t (A := (166, 153, [some (vR 10 0 0), some (vI x1), some (vI x2), some (vI x3), l4], [], σ)) rfl h8).trans ?_
  exact e_n 2 rfl
set_option maxRecDepth 20000 in
theorem g166_73_4 (C : pmC) {σ : pmS} {x1 : Int32} {x2 : Int32} {x3 : Int32} {l4 : Option pmV} (h1 : ¬ (σ.1 10 0 16 0) ≤ x3) (h2 : vp_in x2 48) (h3 : ¬ (σ.1 10 0 39 (x2).toNatClampNeg) = 0) (h4 : (σ.1 10 0 19 (x2).toNatClampNeg) = 0) (h5 : vp_in (((48 : Int32) * x2) + x3) 2304) (h6 : ¬ (σ.1 10 0 31 ((((48 : Int32) * x2) + x3)).toNatClampNeg) = 0) (h7 : vp_in x3 48) (h8 : ¬ (σ.1 10 0 38 (x3).toNatClampNeg) < 0) (h9 : vp_in (σ.1 10 0 38 (x3).toNatClampNeg) 48) (h10 : (σ.1 10 0 39 ((σ.1 10 0 38 (x3).toNatClampNeg)).toNatClampNeg) = 0) : pq_Rn C (166, 73, [some (vR 10 0 0), some (vI x1), some (vI x2), some (vI x3), l4], [], σ) = pq_Rn C (166, 73, [some (vR 10 0 0), some (vI (1 : Int32)), some (vI x2), some (vI (x3 + (1 : Int32))), l4], [], (pm_wi σ 10 0 39 ((σ.1 10 0 38 (x3).toNatClampNeg)).toNatClampNeg (1 : Int32))) := by
  refine (e_n 3 (fr' := (166, 78, [some (vR 10 0 0), some (vI x1), some (vI x2), some (vI x3), l4], [vI (σ.1 10 0 16 0), vI x3], σ)) rfl).trans ?_
  refine (e_f (B := (166, 81, [some (vR 10 0 0), some (vI x1), some (vI x2), some (vI x3), l4], [], σ)) rfl h1).trans ?_
  refine (e_n 3 (fr' := (166, 86, [some (vR 10 0 0), some (vI x1), some (vI x2), some (vI x3), l4], [vI x2, vR 10 0 40], σ)) rfl).trans ?_
  refine (e_a (A := (166, 87, [some (vR 10 0 0), some (vI x1), some (vI x2), some (vI x3), l4], [vI (σ.1 10 0 39 (x2).toNatClampNeg)], σ)) rfl h2).trans ?_
  refine (e_f (B := (166, 90, [some (vR 10 0 0), some (vI x1), some (vI x2), some (vI x3), l4], [], σ)) rfl h3).trans ?_
  refine (e_n 3 (fr' := (166, 95, [some (vR 10 0 0), some (vI x1), some (vI x2), some (vI x3), l4], [vI x2, vR 10 0 20], σ)) rfl).trans ?_
  refine (e_a (A := (166, 96, [some (vR 10 0 0), some (vI x1), some (vI x2), some (vI x3), l4], [vI (σ.1 10 0 19 (x2).toNatClampNeg)], σ)) rfl h2).trans ?_
  refine (e_t (A := (166, 99, [some (vR 10 0 0), some (vI x1), some (vI x2), some (vI x3), l4], [], σ)) rfl h4).trans ?_
  refine (e_n 7 (fr' := (166, 109, [some (vR 10 0 0), some (vI x1), some (vI x2), some (vI x3), l4], [vI (((48 : Int32) * x2) + x3), vR 10 0 32], σ)) rfl).trans ?_
  refine (e_a (A := (166, 110, [some (vR 10 0 0), some (vI x1), some (vI x2), some (vI x3), l4], [vI (σ.1 10 0 31 ((((48 : Int32) * x2) + x3)).toNatClampNeg)], σ)) rfl h5).trans ?_
  refine (e_f (B := (166, 113, [some (vR 10 0 0), some (vI x1), some (vI x2), some (vI x3), l4], [], σ)) rfl h6).trans ?_
  refine (e_n 3 (fr' := (166, 118, [some (vR 10 0 0), some (vI x1), some (vI x2), some (vI x3), l4], [vI x3, vR 10 0 39], σ)) rfl).trans ?_
  refine (e_a (A := (166, 119, [some (vR 10 0 0), some (vI x1), some (vI x2), some (vI x3), l4], [vI (σ.1 10 0 38 (x3).toNatClampNeg)], σ)) rfl h7).trans ?_
  refine (e_f (B := (166, 122, [some (vR 10 0 0), some (vI x1), some (vI x2), some (vI x3), l4], [], σ)) rfl h8).trans ?_
  refine (e_n 5 (fr' := (166, 131, [some (vR 10 0 0), some (vI x1), some (vI x2), some (vI x3), l4], [vI x3, vR 10 0 39, vR 10 0 40], σ)) rfl).trans ?_
  refine (e_a (A := (166, 132, [some (vR 10 0 0), some (vI x1), some (vI x2), some (vI x3), l4], [vI (σ.1 10 0 38 (x3).toNatClampNeg), vR 10 0 40], σ)) rfl h7).trans ?_
  refine (e_a (A := (166, 133, [some (vR 10 0 0), some (vI x1), some (vI x2), some (vI x3), l4], [vI (σ.1 10 0 39 ((σ.1 10 0 38 (x3).toNatClampNeg)).toNatClampNeg)], σ)) rfl h9).trans ?_
  refine (e_t (A := (166, 139, [some (vR 10 0 0), some (vI x1), some (vI x2), some (vI x3), l4], [], σ)) rfl h10).trans ?_
  refine (e_n 5 (fr' := (166, 148, [some (vR 10 0 0), some (vI x1), some (vI x2), some (vI x3), l4], [vI x3, vR 10 0 39, vR 10 0 40], σ)) rfl).trans ?_
  refine (e_a (A := (166, 149, [some (vR 10 0 0), some (vI x1), some (vI x2), some (vI x3), l4], [vI (σ.1 10 0 38 (x3).toNatClampNeg), vR 10 0 40], σ)) rfl h7).trans ?_
  refine (e_n 1 (fr' := (166, 150, [some (vR 10 0 0), some (vI x1), some (vI x2), some (vI x3), l4], [vI (1 : Int32), vI (σ.1 10 0 38 (x3).toNatClampNeg), vR 10 0 40], σ)) rfl).trans ?_
  refine (e_a (A := (166, 151, [some (vR 10 0 0), some (vI x1), some (vI x2), some (vI x3), l4], [], (pm_wi σ 10 0 39 ((σ.1 10 0 38 (x3).toNatClampNeg)).toNatClampNeg (1 : Int32)))) rfl h9).trans ?_
  exact e_n 4 rfl
set_option maxRecDepth 20000 in
theorem g166_73_5 (C : pmC) {σ : pmS} {x1 : Int32} {x2 : Int32} {x3 : Int32} {l4 : Option pmV} (h1 : ¬ (σ.1 10 0 16 0) ≤ x3) (h2 : vp_in x2 48) (h3 : ¬ (σ.1 10 0 39 (x2).toNatClampNeg) = 0) (h4 : (σ.1 10 0 19 (x2).toNatClampNeg) = 0) (h5 : vp_in (((48 : Int32) * x2) + x3) 2304) (h6 : ¬ (σ.1 10 0 31 ((((48 : Int32) * x2) + x3)).toNatClampNeg) = 0) (h7 : vp_in x3 48) (h8 : ¬ (σ.1 10 0 38 (x3).toNatClampNeg) < 0) (h9 : vp_in (σ.1 10 0 38 (x3).toNatClampNeg) 48) (h10 : ¬ (σ.1 10 0 39 ((σ.1 10 0 38 (x3).toNatClampNeg)).toNatClampNeg) = 0) : pq_Rn C (166, 73, [some (vR 10 0 0), some (vI x1), some (vI x2), some (vI x3), l4], [], σ) = pq_Rn C (166, 73, [some (vR 10 0 0), some (vI x1), some (vI x2), some (vI (x3 + (1 : Int32))), l4], [], σ) := by
  refine (e_n 3 (fr' := (166, 78, [some (vR 10 0 0), some (vI x1), some (vI x2), some (vI x3), l4], [vI (σ.1 10 0 16 0), vI x3], σ)) rfl).trans ?_
  refine (e_f (B := (166, 81, [some (vR 10 0 0), some (vI x1), some (vI x2), some (vI x3), l4], [], σ)) rfl h1).trans ?_
  refine (e_n 3 (fr' := (166, 86, [some (vR 10 0 0), some (vI x1), some (vI x2), some (vI x3), l4], [vI x2, vR 10 0 40], σ)) rfl).trans ?_
  refine (e_a (A := (166, 87, [some (vR 10 0 0), some (vI x1), some (vI x2), some (vI x3), l4], [vI (σ.1 10 0 39 (x2).toNatClampNeg)], σ)) rfl h2).trans ?_
  refine (e_f (B := (166, 90, [some (vR 10 0 0), some (vI x1), some (vI x2), some (vI x3), l4], [], σ)) rfl h3).trans ?_
  refine (e_n 3 (fr' := (166, 95, [some (vR 10 0 0), some (vI x1), some (vI x2), some (vI x3), l4], [vI x2, vR 10 0 20], σ)) rfl).trans ?_
  refine (e_a (A := (166, 96, [some (vR 10 0 0), some (vI x1), some (vI x2), some (vI x3), l4], [vI (σ.1 10 0 19 (x2).toNatClampNeg)], σ)) rfl h2).trans ?_
  refine (e_t (A := (166, 99, [some (vR 10 0 0), some (vI x1), some (vI x2), some (vI x3), l4], [], σ)) rfl h4).trans ?_
  refine (e_n 7 (fr' := (166, 109, [some (vR 10 0 0), some (vI x1), some (vI x2), some (vI x3), l4], [vI (((48 : Int32) * x2) + x3), vR 10 0 32], σ)) rfl).trans ?_
  refine (e_a (A := (166, 110, [some (vR 10 0 0), some (vI x1), some (vI x2), some (vI x3), l4], [vI (σ.1 10 0 31 ((((48 : Int32) * x2) + x3)).toNatClampNeg)], σ)) rfl h5).trans ?_
  refine (e_f (B := (166, 113, [some (vR 10 0 0), some (vI x1), some (vI x2), some (vI x3), l4], [], σ)) rfl h6).trans ?_
  refine (e_n 3 (fr' := (166, 118, [some (vR 10 0 0), some (vI x1), some (vI x2), some (vI x3), l4], [vI x3, vR 10 0 39], σ)) rfl).trans ?_
  refine (e_a (A := (166, 119, [some (vR 10 0 0), some (vI x1), some (vI x2), some (vI x3), l4], [vI (σ.1 10 0 38 (x3).toNatClampNeg)], σ)) rfl h7).trans ?_
  refine (e_f (B := (166, 122, [some (vR 10 0 0), some (vI x1), some (vI x2), some (vI x3), l4], [], σ)) rfl h8).trans ?_
  refine (e_n 5 (fr' := (166, 131, [some (vR 10 0 0), some (vI x1), some (vI x2), some (vI x3), l4], [vI x3, vR 10 0 39, vR 10 0 40], σ)) rfl).trans ?_
  refine (e_a (A := (166, 132, [some (vR 10 0 0), some (vI x1), some (vI x2), some (vI x3), l4], [vI (σ.1 10 0 38 (x3).toNatClampNeg), vR 10 0 40], σ)) rfl h7).trans ?_
  refine (e_a (A := (166, 133, [some (vR 10 0 0), some (vI x1), some (vI x2), some (vI x3), l4], [vI (σ.1 10 0 39 ((σ.1 10 0 38 (x3).toNatClampNeg)).toNatClampNeg)], σ)) rfl h9).trans ?_
  refine (e_f (B := (166, 136, [some (vR 10 0 0), some (vI x1), some (vI x2), some (vI x3), l4], [], σ)) rfl h10).trans ?_
  exact e_n 3 rfl
set_option maxRecDepth 20000 in
theorem g166_73_6 (C : pmC) {σ : pmS} {x1 : Int32} {x2 : Int32} {x3 : Int32} {l4 : Option pmV} (h1 : ¬ (σ.1 10 0 16 0) ≤ x3) (h2 : vp_in x2 48) (h3 : ¬ (σ.1 10 0 39 (x2).toNatClampNeg) = 0) (h4 : ¬ (σ.1 10 0 19 (x2).toNatClampNeg) = 0) : pq_Rn C (166, 73, [some (vR 10 0 0), some (vI x1), some (vI x2), some (vI x3), l4], [], σ) = pq_Rn C (166, 73, [some (vR 10 0 0), some (vI x1), some (vI x2), some (vI (x3 + (1 : Int32))), l4], [], σ) := by
  refine (e_n 3 (fr' := (166, 78, [some (vR 10 0 0), some (vI x1), some (vI x2), some (vI x3), l4], [vI (σ.1 10 0 16 0), vI x3], σ)) rfl).trans ?_
  refine (e_f (B := (166, 81, [some (vR 10 0 0), some (vI x1), some (vI x2), some (vI x3), l4], [], σ)) rfl h1).trans ?_
  refine (e_n 3 (fr' := (166, 86, [some (vR 10 0 0), some (vI x1), some (vI x2), some (vI x3), l4], [vI x2, vR 10 0 40], σ)) rfl).trans ?_
  refine (e_a (A := (166, 87, [some (vR 10 0 0), some (vI x1), some (vI x2), some (vI x3), l4], [vI (σ.1 10 0 39 (x2).toNatClampNeg)], σ)) rfl h2).trans ?_
  refine (e_f (B := (166, 90, [some (vR 10 0 0), some (vI x1), some (vI x2), some (vI x3), l4], [], σ)) rfl h3).trans ?_
  refine (e_n 3 (fr' := (166, 95, [some (vR 10 0 0), some (vI x1), some (vI x2), some (vI x3), l4], [vI x2, vR 10 0 20], σ)) rfl).trans ?_
  refine (e_a (A := (166, 96, [some (vR 10 0 0), some (vI x1), some (vI x2), some (vI x3), l4], [vI (σ.1 10 0 19 (x2).toNatClampNeg)], σ)) rfl h2).trans ?_
  refine (e_f (B := (166, 153, [some (vR 10 0 0), some (vI x1), some (vI x2), some (vI x3), l4], [], σ)) rfl h4).trans ?_
  exact e_n 2 rfl
set_option maxRecDepth 20000 in
theorem g166_180_0 (C : pmC) {σ : pmS} {l1 : Option pmV} {x2 : Int32} {l3 : Option pmV} {l4 : Option pmV} (h1 : (σ.1 10 0 16 0) ≤ x2) : pq_Rn C (166, 180, [some (vR 10 0 0), l1, some (vI x2), l3, l4], [], σ) = some (none, σ) := by
  refine (e_n 3 (fr' := (166, 185, [some (vR 10 0 0), l1, some (vI x2), l3, l4], [vI (σ.1 10 0 16 0), vI x2], σ)) rfl).trans ?_
  refine (e_t (A := (166, 299, [some (vR 10 0 0), l1, some (vI x2), l3, l4], [], σ)) rfl h1).trans ?_
  exact e_r rfl
set_option maxRecDepth 20000 in
theorem g166_180_1 (C : pmC) {σ : pmS} {l1 : Option pmV} {x2 : Int32} {l3 : Option pmV} {l4 : Option pmV} (h1 : ¬ (σ.1 10 0 16 0) ≤ x2) (h2 : vp_in x2 48) (h3 : (σ.1 10 0 19 (x2).toNatClampNeg) = 0) (h4 : (σ.1 10 0 39 (x2).toNatClampNeg) = 0) : pq_Rn C (166, 180, [some (vR 10 0 0), l1, some (vI x2), l3, l4], [], σ) = pq_Rn C (166, 225, [some (vR 10 0 0), l1, some (vI x2), some (vI (0 : Int32)), some (vI (0 : Int32))], [], (pm_wi σ 10 0 36 0 ((σ.1 10 0 36 0) + (0 : Int32)))) := by
  refine (e_n 3 (fr' := (166, 185, [some (vR 10 0 0), l1, some (vI x2), l3, l4], [vI (σ.1 10 0 16 0), vI x2], σ)) rfl).trans ?_
  refine (e_f (B := (166, 188, [some (vR 10 0 0), l1, some (vI x2), l3, l4], [], σ)) rfl h1).trans ?_
  refine (e_n 6 (fr' := (166, 198, [some (vR 10 0 0), l1, some (vI x2), l3, l4], [vI x2, vR 10 0 20, vI (σ.1 10 0 36 0), vR 10 0 0], σ)) rfl).trans ?_
  refine (e_a (A := (166, 199, [some (vR 10 0 0), l1, some (vI x2), l3, l4], [vI (σ.1 10 0 19 (x2).toNatClampNeg), vI (σ.1 10 0 36 0), vR 10 0 0], σ)) rfl h2).trans ?_
  refine (e_t (A := (166, 202, [some (vR 10 0 0), l1, some (vI x2), l3, l4], [vI (σ.1 10 0 36 0), vR 10 0 0], σ)) rfl h3).trans ?_
  refine (e_n 3 (fr' := (166, 207, [some (vR 10 0 0), l1, some (vI x2), l3, l4], [vI x2, vR 10 0 40, vI (σ.1 10 0 36 0), vR 10 0 0], σ)) rfl).trans ?_
  refine (e_a (A := (166, 208, [some (vR 10 0 0), l1, some (vI x2), l3, l4], [vI (σ.1 10 0 39 (x2).toNatClampNeg), vI (σ.1 10 0 36 0), vR 10 0 0], σ)) rfl h2).trans ?_
  refine (e_t (A := (166, 215, [some (vR 10 0 0), l1, some (vI x2), l3, l4], [vI (σ.1 10 0 36 0), vR 10 0 0], σ)) rfl h4).trans ?_
  exact e_n 7 rfl
set_option maxRecDepth 20000 in
theorem g166_180_2 (C : pmC) {σ : pmS} {l1 : Option pmV} {x2 : Int32} {l3 : Option pmV} {l4 : Option pmV} (h1 : ¬ (σ.1 10 0 16 0) ≤ x2) (h2 : vp_in x2 48) (h3 : (σ.1 10 0 19 (x2).toNatClampNeg) = 0) (h4 : ¬ (σ.1 10 0 39 (x2).toNatClampNeg) = 0) : pq_Rn C (166, 180, [some (vR 10 0 0), l1, some (vI x2), l3, l4], [], σ) = pq_Rn C (166, 225, [some (vR 10 0 0), l1, some (vI x2), some (vI (0 : Int32)), some (vI (0 : Int32))], [], (pm_wi σ 10 0 36 0 ((σ.1 10 0 36 0) + (1 : Int32)))) := by
  refine (e_n 3 (fr' := (166, 185, [some (vR 10 0 0), l1, some (vI x2), l3, l4], [vI (σ.1 10 0 16 0), vI x2], σ)) rfl).trans ?_
  refine (e_f (B := (166, 188, [some (vR 10 0 0), l1, some (vI x2), l3, l4], [], σ)) rfl h1).trans ?_
  refine (e_n 6 (fr' := (166, 198, [some (vR 10 0 0), l1, some (vI x2), l3, l4], [vI x2, vR 10 0 20, vI (σ.1 10 0 36 0), vR 10 0 0], σ)) rfl).trans ?_
  refine (e_a (A := (166, 199, [some (vR 10 0 0), l1, some (vI x2), l3, l4], [vI (σ.1 10 0 19 (x2).toNatClampNeg), vI (σ.1 10 0 36 0), vR 10 0 0], σ)) rfl h2).trans ?_
  refine (e_t (A := (166, 202, [some (vR 10 0 0), l1, some (vI x2), l3, l4], [vI (σ.1 10 0 36 0), vR 10 0 0], σ)) rfl h3).trans ?_
  refine (e_n 3 (fr' := (166, 207, [some (vR 10 0 0), l1, some (vI x2), l3, l4], [vI x2, vR 10 0 40, vI (σ.1 10 0 36 0), vR 10 0 0], σ)) rfl).trans ?_
  refine (e_a (A := (166, 208, [some (vR 10 0 0), l1, some (vI x2), l3, l4], [vI (σ.1 10 0 39 (x2).toNatClampNeg), vI (σ.1 10 0 36 0), vR 10 0 0], σ)) rfl h2).trans ?_
  refine (e_f (B := (166, 211, [some (vR 10 0 0), l1, some (vI x2), l3, l4], [vI (σ.1 10 0 36 0), vR 10 0 0], σ)) rfl h4).trans ?_
  exact e_n 8 rfl
set_option maxRecDepth 20000 in
theorem g166_180_3 (C : pmC) {σ : pmS} {l1 : Option pmV} {x2 : Int32} {l3 : Option pmV} {l4 : Option pmV} (h1 : ¬ (σ.1 10 0 16 0) ≤ x2) (h2 : vp_in x2 48) (h3 : ¬ (σ.1 10 0 19 (x2).toNatClampNeg) = 0) : pq_Rn C (166, 180, [some (vR 10 0 0), l1, some (vI x2), l3, l4], [], σ) = pq_Rn C (166, 225, [some (vR 10 0 0), l1, some (vI x2), some (vI (0 : Int32)), some (vI (0 : Int32))], [], (pm_wi σ 10 0 36 0 ((σ.1 10 0 36 0) + (0 : Int32)))) := by
  refine (e_n 3 (fr' := (166, 185, [some (vR 10 0 0), l1, some (vI x2), l3, l4], [vI (σ.1 10 0 16 0), vI x2], σ)) rfl).trans ?_
  refine (e_f (B := (166, 188, [some (vR 10 0 0), l1, some (vI x2), l3, l4], [], σ)) rfl h1).trans ?_
  refine (e_n 6 (fr' := (166, 198, [some (vR 10 0 0), l1, some (vI x2), l3, l4], [vI x2, vR 10 0 20, vI (σ.1 10 0 36 0), vR 10 0 0], σ)) rfl).trans ?_
  refine (e_a (A := (166, 199, [some (vR 10 0 0), l1, some (vI x2), l3, l4], [vI (σ.1 10 0 19 (x2).toNatClampNeg), vI (σ.1 10 0 36 0), vR 10 0 0], σ)) rfl h2).trans ?_
  refine (e_f (B := (166, 215, [some (vR 10 0 0), l1, some (vI x2), l3, l4], [vI (σ.1 10 0 36 0), vR 10 0 0], σ)) rfl h3).trans ?_
  exact e_n 7 rfl
set_option maxRecDepth 20000 in
theorem g166_225_0 (C : pmC) {σ : pmS} {l1 : Option pmV} {x2 : Int32} {x3 : Int32} {x4 : Int32} (h1 : (σ.1 10 0 16 0) ≤ x4) (h2 : x3 = 0) : pq_Rn C (166, 225, [some (vR 10 0 0), l1, some (vI x2), some (vI x3), some (vI x4)], [], σ) = pq_Rn C (166, 180, [some (vR 10 0 0), l1, some (vI (x2 + (1 : Int32))), some (vI x3), some (vI x4)], [], (pm_wi σ 10 0 37 0 ((σ.1 10 0 37 0) + (0 : Int32)))) := by
  refine (e_n 3 (fr' := (166, 231, [some (vR 10 0 0), l1, some (vI x2), some (vI x3), some (vI x4)], [vI (σ.1 10 0 16 0), vI x4], σ)) rfl).trans ?_
  refine (e_t (A := (166, 275, [some (vR 10 0 0), l1, some (vI x2), some (vI x3), some (vI x4)], [], σ)) rfl h1).trans ?_
  refine (e_n 4 (fr' := (166, 281, [some (vR 10 0 0), l1, some (vI x2), some (vI x3), some (vI x4)], [vI x3, vI (σ.1 10 0 37 0), vR 10 0 0], σ)) rfl).trans ?_
  refine (e_t (A := (166, 288, [some (vR 10 0 0), l1, some (vI x2), some (vI x3), some (vI x4)], [vI (σ.1 10 0 37 0), vR 10 0 0], σ)) rfl h2).trans ?_
  exact e_n 5 rfl
set_option maxRecDepth 20000 in
theorem g166_225_1 (C : pmC) {σ : pmS} {l1 : Option pmV} {x2 : Int32} {x3 : Int32} {x4 : Int32} (h1 : (σ.1 10 0 16 0) ≤ x4) (h2 : ¬ x3 = 0) : pq_Rn C (166, 225, [some (vR 10 0 0), l1, some (vI x2), some (vI x3), some (vI x4)], [], σ) = pq_Rn C (166, 180, [some (vR 10 0 0), l1, some (vI (x2 + (1 : Int32))), some (vI x3), some (vI x4)], [], (pm_wi σ 10 0 37 0 ((σ.1 10 0 37 0) + (1 : Int32)))) := by
  refine (e_n 3 (fr' := (166, 231, [some (vR 10 0 0), l1, some (vI x2), some (vI x3), some (vI x4)], [vI (σ.1 10 0 16 0), vI x4], σ)) rfl).trans ?_
  refine (e_t (A := (166, 275, [some (vR 10 0 0), l1, some (vI x2), some (vI x3), some (vI x4)], [], σ)) rfl h1).trans ?_
  refine (e_n 4 (fr' := (166, 281, [some (vR 10 0 0), l1, some (vI x2), some (vI x3), some (vI x4)], [vI x3, vI (σ.1 10 0 37 0), vR 10 0 0], σ)) rfl).trans ?_
  refine (e_f (B := (166, 284, [some (vR 10 0 0), l1, some (vI x2), some (vI x3), some (vI x4)], [vI (σ.1 10 0 37 0), vR 10 0 0], σ)) rfl h2).trans ?_
  exact e_n 6 rfl
set_option maxRecDepth 20000 in
theorem g166_225_2 (C : pmC) {σ : pmS} {l1 : Option pmV} {x2 : Int32} {x3 : Int32} {x4 : Int32} (h1 : ¬ (σ.1 10 0 16 0) ≤ x4) (h2 : x3 = 0) (h3 : vp_in x4 48) (h4 : (σ.1 10 0 39 (x4).toNatClampNeg) = 0) : pq_Rn C (166, 225, [some (vR 10 0 0), l1, some (vI x2), some (vI x3), some (vI x4)], [], σ) = pq_Rn C (166, 225, [some (vR 10 0 0), l1, some (vI x2), some (vI (0 : Int32)), some (vI (x4 + (1 : Int32)))], [], σ) := by
  refine (e_n 3 (fr' := (166, 231, [some (vR 10 0 0), l1, some (vI x2), some (vI x3), some (vI x4)], [vI (σ.1 10 0 16 0), vI x4], σ)) rfl).trans ?_
  refine (e_f (B := (166, 234, [some (vR 10 0 0), l1, some (vI x2), some (vI x3), some (vI x4)], [], σ)) rfl h1).trans ?_
  refine (e_n 1 (fr' := (166, 235, [some (vR 10 0 0), l1, some (vI x2), some (vI x3), some (vI x4)], [vI x3], σ)) rfl).trans ?_
  refine (e_t (A := (166, 238, [some (vR 10 0 0), l1, some (vI x2), some (vI x3), some (vI x4)], [], σ)) rfl h2).trans ?_
  refine (e_n 3 (fr' := (166, 244, [some (vR 10 0 0), l1, some (vI x2), some (vI x3), some (vI x4)], [vI x4, vR 10 0 40], σ)) rfl).trans ?_
  refine (e_a (A := (166, 245, [some (vR 10 0 0), l1, some (vI x2), some (vI x3), some (vI x4)], [vI (σ.1 10 0 39 (x4).toNatClampNeg)], σ)) rfl h3).trans ?_
  refine (e_t (A := (166, 267, [some (vR 10 0 0), l1, some (vI x2), some (vI x3), some (vI x4)], [], σ)) rfl h4).trans ?_
  exact e_n 4 rfl
set_option maxRecDepth 20000 in
theorem g166_225_3 (C : pmC) {σ : pmS} {l1 : Option pmV} {x2 : Int32} {x3 : Int32} {x4 : Int32} (h1 : ¬ (σ.1 10 0 16 0) ≤ x4) (h2 : x3 = 0) (h3 : vp_in x4 48) (h4 : ¬ (σ.1 10 0 39 (x4).toNatClampNeg) = 0) (h5 : vp_in (((48 : Int32) * x4) + x2) 2304) (h6 : (σ.1 10 0 31 ((((48 : Int32) * x4) + x2)).toNatClampNeg) = 0) : pq_Rn C (166, 225, [some (vR 10 0 0), l1, some (vI x2), some (vI x3), some (vI x4)], [], σ) = pq_Rn C (166, 225, [some (vR 10 0 0), l1, some (vI x2), some (vI (0 : Int32)), some (vI (x4 + (1 : Int32)))], [], σ) := by
  refine (e_n 3 (fr' := (166, 231, [some (vR 10 0 0), l1, some (vI x2), some (vI x3), some (vI x4)], [vI (σ.1 10 0 16 0), vI x4], σ)) rfl).trans ?_
  refine (e_f (B := (166, 234, [some (vR 10 0 0), l1, some (vI x2), some (vI x3), some (vI x4)], [], σ)) rfl h1).trans ?_
  refine (e_n 1 (fr' := (166, 235, [some (vR 10 0 0), l1, some (vI x2), some (vI x3), some (vI x4)], [vI x3], σ)) rfl).trans ?_
  refine (e_t (A := (166, 238, [some (vR 10 0 0), l1, some (vI x2), some (vI x3), some (vI x4)], [], σ)) rfl h2).trans ?_
  refine (e_n 3 (fr' := (166, 244, [some (vR 10 0 0), l1, some (vI x2), some (vI x3), some (vI x4)], [vI x4, vR 10 0 40], σ)) rfl).trans ?_
  refine (e_a (A := (166, 245, [some (vR 10 0 0), l1, some (vI x2), some (vI x3), some (vI x4)], [vI (σ.1 10 0 39 (x4).toNatClampNeg)], σ)) rfl h3).trans ?_
  refine (e_f (B := (166, 248, [some (vR 10 0 0), l1, some (vI x2), some (vI x3), some (vI x4)], [], σ)) rfl h4).trans ?_
  refine (e_n 7 (fr' := (166, 259, [some (vR 10 0 0), l1, some (vI x2), some (vI x3), some (vI x4)], [vI (((48 : Int32) * x4) + x2), vR 10 0 32], σ)) rfl).trans ?_
  refine (e_a (A := (166, 260, [some (vR 10 0 0), l1, some (vI x2), some (vI x3), some (vI x4)], [vI (σ.1 10 0 31 ((((48 : Int32) * x4) + x2)).toNatClampNeg)], σ)) rfl h5).trans ?_
  refine (e_t (A := (166, 267, [some (vR 10 0 0), l1, some (vI x2), some (vI x3), some (vI x4)], [], σ)) rfl h6).trans ?_
  exact e_n 4 rfl
set_option maxRecDepth 20000 in
theorem g166_225_4 (C : pmC) {σ : pmS} {l1 : Option pmV} {x2 : Int32} {x3 : Int32} {x4 : Int32} (h1 : ¬ (σ.1 10 0 16 0) ≤ x4) (h2 : x3 = 0) (h3 : vp_in x4 48) (h4 : ¬ (σ.1 10 0 39 (x4).toNatClampNeg) = 0) (h5 : vp_in (((48 : Int32) * x4) + x2) 2304) (h6 : ¬ (σ.1 10 0 31 ((((48 : Int32) * x4) + x2)).toNatClampNeg) = 0) : pq_Rn C (166, 225, [some (vR 10 0 0), l1, some (vI x2), some (vI x3), some (vI x4)], [], σ) = pq_Rn C (166, 225, [some (vR 10 0 0), l1, some (vI x2), some (vI (1 : Int32)), some (vI (x4 + (1 : Int32)))], [], σ) := by
  refine (e_n 3 (fr' := (166, 231, [some (vR 10 0 0), l1, some (vI x2), some (vI x3), some (vI x4)], [vI (σ.1 10 0 16 0), vI x4], σ)) rfl).trans ?_
  refine (e_f (B := (166, 234, [some (vR 10 0 0), l1, some (vI x2), some (vI x3), some (vI x4)], [], σ)) rfl h1).trans ?_
  refine (e_n 1 (fr' := (166, 235, [some (vR 10 0 0), l1, some (vI x2), some (vI x3), some (vI x4)], [vI x3], σ)) rfl).trans ?_
  refine (e_t (A := (166, 238, [some (vR 10 0 0), l1, some (vI x2), some (vI x3), some (vI x4)], [], σ)) rfl h2).trans ?_
  refine (e_n 3 (fr' := (166, 244, [some (vR 10 0 0), l1, some (vI x2), some (vI x3), some (vI x4)], [vI x4, vR 10 0 40], σ)) rfl).trans ?_
  refine (e_a (A := (166, 245, [some (vR 10 0 0), l1, some (vI x2), some (vI x3), some (vI x4)], [vI (σ.1 10 0 39 (x4).toNatClampNeg)], σ)) rfl h3).trans ?_
  refine (e_f (B := (166, 248, [some (vR 10 0 0), l1, some (vI x2), some (vI x3), some (vI x4)], [], σ)) rfl h4).trans ?_
  refine (e_n 7 (fr' := (166, 259, [some (vR 10 0 0), l1, some (vI x2), some (vI x3), some (vI x4)], [vI (((48 : Int32) * x4) + x2), vR 10 0 32], σ)) rfl).trans ?_
  refine (e_a (A := (166, 260, [some (vR 10 0 0), l1, some (vI x2), some (vI x3), some (vI x4)], [vI (σ.1 10 0 31 ((((48 : Int32) * x4) + x2)).toNatClampNeg)], σ)) rfl h5).trans ?_
  refine (e_f (B := (166, 263, [some (vR 10 0 0), l1, some (vI x2), some (vI x3), some (vI x4)], [], σ)) rfl h6).trans ?_
  exact e_n 5 rfl
set_option maxRecDepth 20000 in
theorem g166_225_5 (C : pmC) {σ : pmS} {l1 : Option pmV} {x2 : Int32} {x3 : Int32} {x4 : Int32} (h1 : ¬ (σ.1 10 0 16 0) ≤ x4) (h2 : ¬ x3 = 0) : pq_Rn C (166, 225, [some (vR 10 0 0), l1, some (vI x2), some (vI x3), some (vI x4)], [], σ) = pq_Rn C (166, 225, [some (vR 10 0 0), l1, some (vI x2), some (vI (1 : Int32)), some (vI (x4 + (1 : Int32)))], [], σ) := by
  refine (e_n 3 (fr' := (166, 231, [some (vR 10 0 0), l1, some (vI x2), some (vI x3), some (vI x4)], [vI (σ.1 10 0 16 0), vI x4], σ)) rfl).trans ?_
  refine (e_f (B := (166, 234, [some (vR 10 0 0), l1, some (vI x2), some (vI x3), some (vI x4)], [], σ)) rfl h1).trans ?_
  refine (e_n 1 (fr' := (166, 235, [some (vR 10 0 0), l1, some (vI x2), some (vI x3), some (vI x4)], [vI x3], σ)) rfl).trans ?_
  refine (e_f (B := (166, 263, [some (vR 10 0 0), l1, some (vI x2), some (vI x3), some (vI x4)], [], σ)) rfl h2).trans ?_
  exact e_n 5 rfl
set_option maxRecDepth 20000 in
theorem g167_0_0 (C : pmC) {σ : pmS} {x1 : Int32} {σ1 : pmS} {r1 : Int32} (h1 : C 134 [vR 10 0 0, vI x1] σ = some (some (vI r1), σ1)) (h2 : r1 = 0) : pq_Rn C (167, 0, [some (vR 10 0 0), some (vI x1)], [], σ) = some (some (vI (-1 : Int32)), σ1) := by
  refine (e_n 2 (fr' := (167, 2, [some (vR 10 0 0), some (vI x1)], [vI x1, vR 10 0 0], σ)) rfl).trans ?_
  refine (e_ci (m := 167) (pc := 5) (ls := [some (vR 10 0 0), some (vI x1)]) (rest := []) rfl h1).trans ?_
  refine (e_t (A := (167, 17, [some (vR 10 0 0), some (vI x1)], [], σ1)) rfl h2).trans ?_
  refine (e_n 1 (fr' := (167, 18, [some (vR 10 0 0), some (vI x1)], [vI (-1 : Int32)], σ1)) rfl).trans ?_
  exact e_r rfl
set_option maxRecDepth 20000 in
theorem g167_0_1 (C : pmC) {σ : pmS} {x1 : Int32} {σ1 : pmS} {r1 : Int32} (h1 : C 134 [vR 10 0 0, vI x1] σ = some (some (vI r1), σ1)) (h2 : ¬ r1 = 0) (h3 : vp_in x1 48) : pq_Rn C (167, 0, [some (vR 10 0 0), some (vI x1)], [], σ) = some (some (vI (σ1.1 10 0 38 (x1).toNatClampNeg)), σ1) := by
  refine (e_n 2 (fr' := (167, 2, [some (vR 10 0 0), some (vI x1)], [vI x1, vR 10 0 0], σ)) rfl).trans ?_
  refine (e_ci (m := 167) (pc := 5) (ls := [some (vR 10 0 0), some (vI x1)]) (rest := []) rfl h1).trans ?_
  refine (e_f (B := (167, 8, [some (vR 10 0 0), some (vI x1)], [], σ1)) rfl h2).trans ?_
  refine (e_n 3 (fr' := (167, 13, [some (vR 10 0 0), some (vI x1)], [vI x1, vR 10 0 39], σ1)) rfl).trans ?_
  refine (e_a (A := (167, 14, [some (vR 10 0 0), some (vI x1)], [vI (σ1.1 10 0 38 (x1).toNatClampNeg)], σ1)) rfl h3).trans ?_
  refine (e_n 1 (fr' := (167, 18, [some (vR 10 0 0), some (vI x1)], [vI (σ1.1 10 0 38 (x1).toNatClampNeg)], σ1)) rfl).trans ?_
  exact e_r rfl
set_option maxRecDepth 20000 in
theorem g168_0_0 (C : pmC) {σ : pmS} {x1 : Int32} (h1 : x1 = 0) : pq_Rn C (168, 0, [some (vR 10 0 0), some (vI x1)], [], σ) = some (some (vI (σ.1 10 0 36 0)), σ) := by
  refine (e_n 1 (fr' := (168, 1, [some (vR 10 0 0), some (vI x1)], [vI x1], σ)) rfl).trans ?_
  refine (e_t (A := (168, 4, [some (vR 10 0 0), some (vI x1)], [], σ)) rfl h1).trans ?_
  refine (e_n 3 (fr' := (168, 24, [some (vR 10 0 0), some (vI x1)], [vI (σ.1 10 0 36 0)], σ)) rfl).trans ?_
  exact e_r rfl
set_option maxRecDepth 20000 in
theorem g168_0_1 (C : pmC) {σ : pmS} {x1 : Int32} (h1 : ¬ x1 = 0) (h2 : x1 = (1 : Int32)) : pq_Rn C (168, 0, [some (vR 10 0 0), some (vI x1)], [], σ) = some (some (vI (σ.1 10 0 37 0)), σ) := by
  refine (e_n 1 (fr' := (168, 1, [some (vR 10 0 0), some (vI x1)], [vI x1], σ)) rfl).trans ?_
  refine (e_f (B := (168, 11, [some (vR 10 0 0), some (vI x1)], [], σ)) rfl h1).trans ?_
  refine (e_n 2 (fr' := (168, 13, [some (vR 10 0 0), some (vI x1)], [vI (1 : Int32), vI x1], σ)) rfl).trans ?_
  refine (e_t (A := (168, 16, [some (vR 10 0 0), some (vI x1)], [], σ)) rfl h2).trans ?_
  refine (e_n 3 (fr' := (168, 24, [some (vR 10 0 0), some (vI x1)], [vI (σ.1 10 0 37 0)], σ)) rfl).trans ?_
  exact e_r rfl
set_option maxRecDepth 20000 in
theorem g168_0_2 (C : pmC) {σ : pmS} {x1 : Int32} (h1 : ¬ x1 = 0) (h2 : ¬ x1 = (1 : Int32)) : pq_Rn C (168, 0, [some (vR 10 0 0), some (vI x1)], [], σ) = some (some (vI (-1 : Int32)), σ) := by
  refine (e_n 1 (fr' := (168, 1, [some (vR 10 0 0), some (vI x1)], [vI x1], σ)) rfl).trans ?_
  refine (e_f (B := (168, 11, [some (vR 10 0 0), some (vI x1)], [], σ)) rfl h1).trans ?_
  refine (e_n 2 (fr' := (168, 13, [some (vR 10 0 0), some (vI x1)], [vI (1 : Int32), vI x1], σ)) rfl).trans ?_
  refine (e_f (B := (168, 23, [some (vR 10 0 0), some (vI x1)], [], σ)) rfl h2).trans ?_
  refine (e_n 1 (fr' := (168, 24, [some (vR 10 0 0), some (vI x1)], [vI (-1 : Int32)], σ)) rfl).trans ?_
  exact e_r rfl
set_option maxRecDepth 20000 in
theorem g169_0_0 (C : pmC) {σ : pmS} {x1 : Int32} {x2 : Int32} {l3 : Option pmV} {l4 : Option pmV}  : pq_Rn C (169, 0, [some (vR 10 0 0), some (vI x1), some (vI x2), l3, l4], [], σ) = pq_Rn C (169, 5, [some (vR 10 0 0), some (vI x1), some (vI x2), some (vI (0 : Int32)), some (vI (0 : Int32))], [], σ) := by
  exact e_n 4 rfl
set_option maxRecDepth 20000 in
theorem g169_5_0 (C : pmC) {σ : pmS} {x1 : Int32} {x2 : Int32} {x3 : Int32} {x4 : Int32} (h1 : vp_in x1 4) (h2 : (σ.1 10 0 0 (x1).toNatClampNeg) ≤ x4) : pq_Rn C (169, 5, [some (vR 10 0 0), some (vI x1), some (vI x2), some (vI x3), some (vI x4)], [], σ) = some (some (vI x3), σ) := by
  refine (e_n 4 (fr' := (169, 12, [some (vR 10 0 0), some (vI x1), some (vI x2), some (vI x3), some (vI x4)], [vI x1, vR 10 0 1, vI x4], σ)) rfl).trans ?_
  refine (e_a (A := (169, 13, [some (vR 10 0 0), some (vI x1), some (vI x2), some (vI x3), some (vI x4)], [vI (σ.1 10 0 0 (x1).toNatClampNeg), vI x4], σ)) rfl h1).trans ?_
  refine (e_t (A := (169, 112, [some (vR 10 0 0), some (vI x1), some (vI x2), some (vI x3), some (vI x4)], [], σ)) rfl h2).trans ?_
  refine (e_n 1 (fr' := (169, 113, [some (vR 10 0 0), some (vI x1), some (vI x2), some (vI x3), some (vI x4)], [vI x3], σ)) rfl).trans ?_
  exact e_r rfl
set_option maxRecDepth 20000 in
theorem g169_5_1 (C : pmC) {σ : pmS} {x1 : Int32} {x2 : Int32} {x3 : Int32} {x4 : Int32} (h1 : vp_in x1 4) (h2 : ¬ (σ.1 10 0 0 (x1).toNatClampNeg) ≤ x4) (h3 : vp_in (((8 : Int32) * x1) + x4) 32) (h4 : vp_in (σ.1 10 0 1 ((((8 : Int32) * x1) + x4)).toNatClampNeg) 8) (h5 : vp_in x4 8) (h6 : vp_in (((8 : Int32) * x2) + (σ.1 10 0 40 (x4).toNatClampNeg)) 32) (h7 : (σ.1 10 0 40 ((σ.1 10 0 1 ((((8 : Int32) * x1) + x4)).toNatClampNeg)).toNatClampNeg) = (σ.1 10 0 1 ((((8 : Int32) * x2) + (σ.1 10 0 40 (x4).toNatClampNeg))).toNatClampNeg)) (h8 : vp_in (σ.1 10 0 2 ((((8 : Int32) * x1) + x4)).toNatClampNeg) 8) (h9 : (σ.1 10 0 40 ((σ.1 10 0 2 ((((8 : Int32) * x1) + x4)).toNatClampNeg)).toNatClampNeg) = (σ.1 10 0 2 ((((8 : Int32) * x2) + (σ.1 10 0 40 (x4).toNatClampNeg))).toNatClampNeg)) : pq_Rn C (169, 5, [some (vR 10 0 0), some (vI x1), some (vI x2), some (vI x3), some (vI x4)], [], σ) = pq_Rn C (169, 5, [some (vR 10 0 0), some (vI x1), some (vI x2), some (vI ((x3 + (1 : Int32)) + (1 : Int32))), some (vI (x4 + (1 : Int32)))], [], σ) := by
  refine (e_n 4 (fr' := (169, 12, [some (vR 10 0 0), some (vI x1), some (vI x2), some (vI x3), some (vI x4)], [vI x1, vR 10 0 1, vI x4], σ)) rfl).trans ?_
  refine (e_a (A := (169, 13, [some (vR 10 0 0), some (vI x1), some (vI x2), some (vI x3), some (vI x4)], [vI (σ.1 10 0 0 (x1).toNatClampNeg), vI x4], σ)) rfl h1).trans ?_
  refine (e_f (B := (169, 16, [some (vR 10 0 0), some (vI x1), some (vI x2), some (vI x3), some (vI x4)], [], σ)) rfl h2).trans ?_
  refine (e_n 10 (fr' := (169, 32, [some (vR 10 0 0), some (vI x1), some (vI x2), some (vI x3), some (vI x4)], [vI (((8 : Int32) * x1) + x4), vR 10 0 2, vR 10 0 41, vI x3], σ)) rfl).trans ?_
  refine (e_a (A := (169, 33, [some (vR 10 0 0), some (vI x1), some (vI x2), some (vI x3), some (vI x4)], [vI (σ.1 10 0 1 ((((8 : Int32) * x1) + x4)).toNatClampNeg), vR 10 0 41, vI x3], σ)) rfl h3).trans ?_
  refine (e_a (A := (169, 34, [some (vR 10 0 0), some (vI x1), some (vI x2), some (vI x3), some (vI x4)], [vI (σ.1 10 0 40 ((σ.1 10 0 1 ((((8 : Int32) * x1) + x4)).toNatClampNeg)).toNatClampNeg), vI x3], σ)) rfl h4).trans ?_
  refine (e_n 8 (fr' := (169, 48, [some (vR 10 0 0), some (vI x1), some (vI x2), some (vI x3), some (vI x4)], [vI x4, vR 10 0 41, vI ((8 : Int32) * x2), vR 10 0 2, vI (σ.1 10 0 40 ((σ.1 10 0 1 ((((8 : Int32) * x1) + x4)).toNatClampNeg)).toNatClampNeg), vI x3], σ)) rfl).trans ?_
  refine (e_a (A := (169, 49, [some (vR 10 0 0), some (vI x1), some (vI x2), some (vI x3), some (vI x4)], [vI (σ.1 10 0 40 (x4).toNatClampNeg), vI ((8 : Int32) * x2), vR 10 0 2, vI (σ.1 10 0 40 ((σ.1 10 0 1 ((((8 : Int32) * x1) + x4)).toNatClampNeg)).toNatClampNeg), vI x3], σ)) rfl h5).trans ?_
  refine (e_n 1 (fr' := (169, 50, [some (vR 10 0 0), some (vI x1), some (vI x2), some (vI x3), some (vI x4)], [vI (((8 : Int32) * x2) + (σ.1 10 0 40 (x4).toNatClampNeg)), vR 10 0 2, vI (σ.1 10 0 40 ((σ.1 10 0 1 ((((8 : Int32) * x1) + x4)).toNatClampNeg)).toNatClampNeg), vI x3], σ)) rfl).trans ?_
  refine (e_a (A := (169, 51, [some (vR 10 0 0), some (vI x1), some (vI x2), some (vI x3), some (vI x4)], [vI (σ.1 10 0 1 ((((8 : Int32) * x2) + (σ.1 10 0 40 (x4).toNatClampNeg))).toNatClampNeg), vI (σ.1 10 0 40 ((σ.1 10 0 1 ((((8 : Int32) * x1) + x4)).toNatClampNeg)).toNatClampNeg), vI x3], σ)) rfl h6).trans ?_
  refine (e_t (A := (169, 54, [some (vR 10 0 0), some (vI x1), some (vI x2), some (vI x3), some (vI x4)], [vI x3], σ)) rfl h7).trans ?_
  refine (e_n 14 (fr' := (169, 77, [some (vR 10 0 0), some (vI x1), some (vI x2), some (vI (x3 + (1 : Int32))), some (vI x4)], [vI (((8 : Int32) * x1) + x4), vR 10 0 3, vR 10 0 41, vI (x3 + (1 : Int32))], σ)) rfl).trans ?_
  refine (e_a (A := (169, 78, [some (vR 10 0 0), some (vI x1), some (vI x2), some (vI (x3 + (1 : Int32))), some (vI x4)], [vI (σ.1 10 0 2 ((((8 : Int32) * x1) + x4)).toNatClampNeg), vR 10 0 41, vI (x3 + (1 : Int32))], σ)) rfl h3).trans ?_
  refine (e_a (A := (169, 79, [some (vR 10 0 0), some (vI x1), some (vI x2), some (vI (x3 + (1 : Int32))), some (vI x4)], [vI (σ.1 10 0 40 ((σ.1 10 0 2 ((((8 : Int32) * x1) + x4)).toNatClampNeg)).toNatClampNeg), vI (x3 + (1 : Int32))], σ)) rfl h8).trans ?_
  refine (e_n 8 (fr' := (169, 93, [some (vR 10 0 0), some (vI x1), some (vI x2), some (vI (x3 + (1 : Int32))), some (vI x4)], [vI x4, vR 10 0 41, vI ((8 : Int32) * x2), vR 10 0 3, vI (σ.1 10 0 40 ((σ.1 10 0 2 ((((8 : Int32) * x1) + x4)).toNatClampNeg)).toNatClampNeg), vI (x3 + (1 : Int32))], σ)) rfl).trans ?_
  refine (e_a (A := (169, 94, [some (vR 10 0 0), some (vI x1), some (vI x2), some (vI (x3 + (1 : Int32))), some (vI x4)], [vI (σ.1 10 0 40 (x4).toNatClampNeg), vI ((8 : Int32) * x2), vR 10 0 3, vI (σ.1 10 0 40 ((σ.1 10 0 2 ((((8 : Int32) * x1) + x4)).toNatClampNeg)).toNatClampNeg), vI (x3 + (1 : Int32))], σ)) rfl h5).trans ?_
  refine (e_n 1 (fr' := (169, 95, [some (vR 10 0 0), some (vI x1), some (vI x2), some (vI (x3 + (1 : Int32))), some (vI x4)], [vI (((8 : Int32) * x2) + (σ.1 10 0 40 (x4).toNatClampNeg)), vR 10 0 3, vI (σ.1 10 0 40 ((σ.1 10 0 2 ((((8 : Int32) * x1) + x4)).toNatClampNeg)).toNatClampNeg), vI (x3 + (1 : Int32))], σ)) rfl).trans ?_
  refine (e_a (A := (169, 96, [some (vR 10 0 0), some (vI x1), some (vI x2), some (vI (x3 + (1 : Int32))), some (vI x4)], [vI (σ.1 10 0 2 ((((8 : Int32) * x2) + (σ.1 10 0 40 (x4).toNatClampNeg))).toNatClampNeg), vI (σ.1 10 0 40 ((σ.1 10 0 2 ((((8 : Int32) * x1) + x4)).toNatClampNeg)).toNatClampNeg), vI (x3 + (1 : Int32))], σ)) rfl h6).trans ?_
  refine (e_t (A := (169, 99, [some (vR 10 0 0), some (vI x1), some (vI x2), some (vI (x3 + (1 : Int32))), some (vI x4)], [vI (x3 + (1 : Int32))], σ)) rfl h9).trans ?_
  exact e_n 6 rfl
set_option maxRecDepth 20000 in
theorem g169_5_2 (C : pmC) {σ : pmS} {x1 : Int32} {x2 : Int32} {x3 : Int32} {x4 : Int32} (h1 : vp_in x1 4) (h2 : ¬ (σ.1 10 0 0 (x1).toNatClampNeg) ≤ x4) (h3 : vp_in (((8 : Int32) * x1) + x4) 32) (h4 : vp_in (σ.1 10 0 1 ((((8 : Int32) * x1) + x4)).toNatClampNeg) 8) (h5 : vp_in x4 8) (h6 : vp_in (((8 : Int32) * x2) + (σ.1 10 0 40 (x4).toNatClampNeg)) 32) (h7 : (σ.1 10 0 40 ((σ.1 10 0 1 ((((8 : Int32) * x1) + x4)).toNatClampNeg)).toNatClampNeg) = (σ.1 10 0 1 ((((8 : Int32) * x2) + (σ.1 10 0 40 (x4).toNatClampNeg))).toNatClampNeg)) (h8 : vp_in (σ.1 10 0 2 ((((8 : Int32) * x1) + x4)).toNatClampNeg) 8) (h9 : ¬ (σ.1 10 0 40 ((σ.1 10 0 2 ((((8 : Int32) * x1) + x4)).toNatClampNeg)).toNatClampNeg) = (σ.1 10 0 2 ((((8 : Int32) * x2) + (σ.1 10 0 40 (x4).toNatClampNeg))).toNatClampNeg)) : pq_Rn C (169, 5, [some (vR 10 0 0), some (vI x1), some (vI x2), some (vI x3), some (vI x4)], [], σ) = pq_Rn C (169, 5, [some (vR 10 0 0), some (vI x1), some (vI x2), some (vI ((x3 + (1 : Int32)) + (0 : Int32))), some (vI (x4 + (1 : Int32)))], [], σ) := by
  refine (e_n 4 (fr' := (169, 12, [some (vR 10 0 0), some (vI x1), some (vI x2), some (vI x3), some (vI x4)], [vI x1, vR 10 0 1, vI x4], σ)) rfl).trans ?_
  refine (e_a (A := (169, 13, [some (vR 10 0 0), some (vI x1), some (vI x2), some (vI x3), some (vI x4)], [vI (σ.1 10 0 0 (x1).toNatClampNeg), vI x4], σ)) rfl h1).trans ?_
  refine (e_f (B := (169, 16, [some (vR 10 0 0), some (vI x1), some (vI x2), some (vI x3), some (vI x4)], [], σ)) rfl h2).trans ?_
  refine (e_n 10 (fr' := (169, 32, [some (vR 10 0 0), some (vI x1), some (vI x2), some (vI x3), some (vI x4)], [vI (((8 : Int32) * x1) + x4), vR 10 0 2, vR 10 0 41, vI x3], σ)) rfl).trans ?_
  refine (e_a (A := (169, 33, [some (vR 10 0 0), some (vI x1), some (vI x2), some (vI x3), some (vI x4)], [vI (σ.1 10 0 1 ((((8 : Int32) * x1) + x4)).toNatClampNeg), vR 10 0 41, vI x3], σ)) rfl h3).trans ?_
  refine (e_a (A := (169, 34, [some (vR 10 0 0), some (vI x1), some (vI x2), some (vI x3), some (vI x4)], [vI (σ.1 10 0 40 ((σ.1 10 0 1 ((((8 : Int32) * x1) + x4)).toNatClampNeg)).toNatClampNeg), vI x3], σ)) rfl h4).trans ?_
  refine (e_n 8 (fr' := (169, 48, [some (vR 10 0 0), some (vI x1), some (vI x2), some (vI x3), some (vI x4)], [vI x4, vR 10 0 41, vI ((8 : Int32) * x2), vR 10 0 2, vI (σ.1 10 0 40 ((σ.1 10 0 1 ((((8 : Int32) * x1) + x4)).toNatClampNeg)).toNatClampNeg), vI x3], σ)) rfl).trans ?_
  refine (e_a (A := (169, 49, [some (vR 10 0 0), some (vI x1), some (vI x2), some (vI x3), some (vI x4)], [vI (σ.1 10 0 40 (x4).toNatClampNeg), vI ((8 : Int32) * x2), vR 10 0 2, vI (σ.1 10 0 40 ((σ.1 10 0 1 ((((8 : Int32) * x1) + x4)).toNatClampNeg)).toNatClampNeg), vI x3], σ)) rfl h5).trans ?_
  refine (e_n 1 (fr' := (169, 50, [some (vR 10 0 0), some (vI x1), some (vI x2), some (vI x3), some (vI x4)], [vI (((8 : Int32) * x2) + (σ.1 10 0 40 (x4).toNatClampNeg)), vR 10 0 2, vI (σ.1 10 0 40 ((σ.1 10 0 1 ((((8 : Int32) * x1) + x4)).toNatClampNeg)).toNatClampNeg), vI x3], σ)) rfl).trans ?_
  refine (e_a (A := (169, 51, [some (vR 10 0 0), some (vI x1), some (vI x2), some (vI x3), some (vI x4)], [vI (σ.1 10 0 1 ((((8 : Int32) * x2) + (σ.1 10 0 40 (x4).toNatClampNeg))).toNatClampNeg), vI (σ.1 10 0 40 ((σ.1 10 0 1 ((((8 : Int32) * x1) + x4)).toNatClampNeg)).toNatClampNeg), vI x3], σ)) rfl h6).trans ?_
  refine (e_t (A := (169, 54, [some (vR 10 0 0), some (vI x1), some (vI x2), some (vI x3), some (vI x4)], [vI x3], σ)) rfl h7).trans ?_
  refine (e_n 14 (fr' := (169, 77, [some (vR 10 0 0), some (vI x1), some (vI x2), some (vI (x3 + (1 : Int32))), some (vI x4)], [vI (((8 : Int32) * x1) + x4), vR 10 0 3, vR 10 0 41, vI (x3 + (1 : Int32))], σ)) rfl).trans ?_
  refine (e_a (A := (169, 78, [some (vR 10 0 0), some (vI x1), some (vI x2), some (vI (x3 + (1 : Int32))), some (vI x4)], [vI (σ.1 10 0 2 ((((8 : Int32) * x1) + x4)).toNatClampNeg), vR 10 0 41, vI (x3 + (1 : Int32))], σ)) rfl h3).trans ?_
  refine (e_a (A := (169, 79, [some (vR 10 0 0), some (vI x1), some (vI x2), some (vI (x3 + (1 : Int32))), some (vI x4)], [vI (σ.1 10 0 40 ((σ.1 10 0 2 ((((8 : Int32) * x1) + x4)).toNatClampNeg)).toNatClampNeg), vI (x3 + (1 : Int32))], σ)) rfl h8).trans ?_
  refine (e_n 8 (fr' := (169, 93, [some (vR 10 0 0), some (vI x1), some (vI x2), some (vI (x3 + (1 : Int32))), some (vI x4)], [vI x4, vR 10 0 41, vI ((8 : Int32) * x2), vR 10 0 3, vI (σ.1 10 0 40 ((σ.1 10 0 2 ((((8 : Int32) * x1) + x4)).toNatClampNeg)).toNatClampNeg), vI (x3 + (1 : Int32))], σ)) rfl).trans ?_
  refine (e_a (A := (169, 94, [some (vR 10 0 0), some (vI x1), some (vI x2), some (vI (x3 + (1 : Int32))), some (vI x4)], [vI (σ.1 10 0 40 (x4).toNatClampNeg), vI ((8 : Int32) * x2), vR 10 0 3, vI (σ.1 10 0 40 ((σ.1 10 0 2 ((((8 : Int32) * x1) + x4)).toNatClampNeg)).toNatClampNeg), vI (x3 + (1 : Int32))], σ)) rfl h5).trans ?_
  refine (e_n 1 (fr' := (169, 95, [some (vR 10 0 0), some (vI x1), some (vI x2), some (vI (x3 + (1 : Int32))), some (vI x4)], [vI (((8 : Int32) * x2) + (σ.1 10 0 40 (x4).toNatClampNeg)), vR 10 0 3, vI (σ.1 10 0 40 ((σ.1 10 0 2 ((((8 : Int32) * x1) + x4)).toNatClampNeg)).toNatClampNeg), vI (x3 + (1 : Int32))], σ)) rfl).trans ?_
  refine (e_a (A := (169, 96, [some (vR 10 0 0), some (vI x1), some (vI x2), some (vI (x3 + (1 : Int32))), some (vI x4)], [vI (σ.1 10 0 2 ((((8 : Int32) * x2) + (σ.1 10 0 40 (x4).toNatClampNeg))).toNatClampNeg), vI (σ.1 10 0 40 ((σ.1 10 0 2 ((((8 : Int32) * x1) + x4)).toNatClampNeg)).toNatClampNeg), vI (x3 + (1 : Int32))], σ)) rfl h6).trans ?_
  refine (e_f (B := (169, 103, [some (vR 10 0 0), some (vI x1), some (vI x2), some (vI (x3 + (1 : Int32))), some (vI x4)], [vI (x3 + (1 : Int32))], σ)) rfl h9).trans ?_
  exact e_n 5 rfl
set_option maxRecDepth 20000 in
theorem g169_5_3 (C : pmC) {σ : pmS} {x1 : Int32} {x2 : Int32} {x3 : Int32} {x4 : Int32} (h1 : vp_in x1 4) (h2 : ¬ (σ.1 10 0 0 (x1).toNatClampNeg) ≤ x4) (h3 : vp_in (((8 : Int32) * x1) + x4) 32) (h4 : vp_in (σ.1 10 0 1 ((((8 : Int32) * x1) + x4)).toNatClampNeg) 8) (h5 : vp_in x4 8) (h6 : vp_in (((8 : Int32) * x2) + (σ.1 10 0 40 (x4).toNatClampNeg)) 32) (h7 : ¬ (σ.1 10 0 40 ((σ.1 10 0 1 ((((8 : Int32) * x1) + x4)).toNatClampNeg)).toNatClampNeg) = (σ.1 10 0 1 ((((8 : Int32) * x2) + (σ.1 10 0 40 (x4).toNatClampNeg))).toNatClampNeg)) (h8 : vp_in (σ.1 10 0 2 ((((8 : Int32) * x1) + x4)).toNatClampNeg) 8) (h9 : (σ.1 10 0 40 ((σ.1 10 0 2 ((((8 : Int32) * x1) + x4)).toNatClampNeg)).toNatClampNeg) = (σ.1 10 0 2 ((((8 : Int32) * x2) + (σ.1 10 0 40 (x4).toNatClampNeg))).toNatClampNeg)) : pq_Rn C (169, 5, [some (vR 10 0 0), some (vI x1), some (vI x2), some (vI x3), some (vI x4)], [], σ) = pq_Rn C (169, 5, [some (vR 10 0 0), some (vI x1), some (vI x2), some (vI ((x3 + (0 : Int32)) + (1 : Int32))), some (vI (x4 + (1 : Int32)))], [], σ) := by
  refine (e_n 4 (fr' := (169, 12, [some (vR 10 0 0), some (vI x1), some (vI x2), some (vI x3), some (vI x4)], [vI x1, vR 10 0 1, vI x4], σ)) rfl).trans ?_
  refine (e_a (A := (169, 13, [some (vR 10 0 0), some (vI x1), some (vI x2), some (vI x3), some (vI x4)], [vI (σ.1 10 0 0 (x1).toNatClampNeg), vI x4], σ)) rfl h1).trans ?_
  refine (e_f (B := (169, 16, [some (vR 10 0 0), some (vI x1), some (vI x2), some (vI x3), some (vI x4)], [], σ)) rfl h2).trans ?_
  refine (e_n 10 (fr' := (169, 32, [some (vR 10 0 0), some (vI x1), some (vI x2), some (vI x3), some (vI x4)], [vI (((8 : Int32) * x1) + x4), vR 10 0 2, vR 10 0 41, vI x3], σ)) rfl).trans ?_
  refine (e_a (A := (169, 33, [some (vR 10 0 0), some (vI x1), some (vI x2), some (vI x3), some (vI x4)], [vI (σ.1 10 0 1 ((((8 : Int32) * x1) + x4)).toNatClampNeg), vR 10 0 41, vI x3], σ)) rfl h3).trans ?_
  refine (e_a (A := (169, 34, [some (vR 10 0 0), some (vI x1), some (vI x2), some (vI x3), some (vI x4)], [vI (σ.1 10 0 40 ((σ.1 10 0 1 ((((8 : Int32) * x1) + x4)).toNatClampNeg)).toNatClampNeg), vI x3], σ)) rfl h4).trans ?_
  refine (e_n 8 (fr' := (169, 48, [some (vR 10 0 0), some (vI x1), some (vI x2), some (vI x3), some (vI x4)], [vI x4, vR 10 0 41, vI ((8 : Int32) * x2), vR 10 0 2, vI (σ.1 10 0 40 ((σ.1 10 0 1 ((((8 : Int32) * x1) + x4)).toNatClampNeg)).toNatClampNeg), vI x3], σ)) rfl).trans ?_
  refine (e_a (A := (169, 49, [some (vR 10 0 0), some (vI x1), some (vI x2), some (vI x3), some (vI x4)], [vI (σ.1 10 0 40 (x4).toNatClampNeg), vI ((8 : Int32) * x2), vR 10 0 2, vI (σ.1 10 0 40 ((σ.1 10 0 1 ((((8 : Int32) * x1) + x4)).toNatClampNeg)).toNatClampNeg), vI x3], σ)) rfl h5).trans ?_
  refine (e_n 1 (fr' := (169, 50, [some (vR 10 0 0), some (vI x1), some (vI x2), some (vI x3), some (vI x4)], [vI (((8 : Int32) * x2) + (σ.1 10 0 40 (x4).toNatClampNeg)), vR 10 0 2, vI (σ.1 10 0 40 ((σ.1 10 0 1 ((((8 : Int32) * x1) + x4)).toNatClampNeg)).toNatClampNeg), vI x3], σ)) rfl).trans ?_
  refine (e_a (A := (169, 51, [some (vR 10 0 0), some (vI x1), some (vI x2), some (vI x3), some (vI x4)], [vI (σ.1 10 0 1 ((((8 : Int32) * x2) + (σ.1 10 0 40 (x4).toNatClampNeg))).toNatClampNeg), vI (σ.1 10 0 40 ((σ.1 10 0 1 ((((8 : Int32) * x1) + x4)).toNatClampNeg)).toNatClampNeg), vI x3], σ)) rfl h6).trans ?_
  refine (e_f (B := (169, 58, [some (vR 10 0 0), some (vI x1), some (vI x2), some (vI x3), some (vI x4)], [vI x3], σ)) rfl h7).trans ?_
  refine (e_n 13 (fr' := (169, 77, [some (vR 10 0 0), some (vI x1), some (vI x2), some (vI (x3 + (0 : Int32))), some (vI x4)], [vI (((8 : Int32) * x1) + x4), vR 10 0 3, vR 10 0 41, vI (x3 + (0 : Int32))], σ)) rfl).trans ?_
  refine (e_a (A := (169, 78, [some (vR 10 0 0), some (vI x1), some (vI x2), some (vI (x3 + (0 : Int32))), some (vI x4)], [vI (σ.1 10 0 2 ((((8 : Int32) * x1) + x4)).toNatClampNeg), vR 10 0 41, vI (x3 + (0 : Int32))], σ)) rfl h3).trans ?_
  refine (e_a (A := (169, 79, [some (vR 10 0 0), some (vI x1), some (vI x2), some (vI (x3 + (0 : Int32))), some (vI x4)], [vI (σ.1 10 0 40 ((σ.1 10 0 2 ((((8 : Int32) * x1) + x4)).toNatClampNeg)).toNatClampNeg), vI (x3 + (0 : Int32))], σ)) rfl h8).trans ?_
  refine (e_n 8 (fr' := (169, 93, [some (vR 10 0 0), some (vI x1), some (vI x2), some (vI (x3 + (0 : Int32))), some (vI x4)], [vI x4, vR 10 0 41, vI ((8 : Int32) * x2), vR 10 0 3, vI (σ.1 10 0 40 ((σ.1 10 0 2 ((((8 : Int32) * x1) + x4)).toNatClampNeg)).toNatClampNeg), vI (x3 + (0 : Int32))], σ)) rfl).trans ?_
  refine (e_a (A := (169, 94, [some (vR 10 0 0), some (vI x1), some (vI x2), some (vI (x3 + (0 : Int32))), some (vI x4)], [vI (σ.1 10 0 40 (x4).toNatClampNeg), vI ((8 : Int32) * x2), vR 10 0 3, vI (σ.1 10 0 40 ((σ.1 10 0 2 ((((8 : Int32) * x1) + x4)).toNatClampNeg)).toNatClampNeg), vI (x3 + (0 : Int32))], σ)) rfl h5).trans ?_
  refine (e_n 1 (fr' := (169, 95, [some (vR 10 0 0), some (vI x1), some (vI x2), some (vI (x3 + (0 : Int32))), some (vI x4)], [vI (((8 : Int32) * x2) + (σ.1 10 0 40 (x4).toNatClampNeg)), vR 10 0 3, vI (σ.1 10 0 40 ((σ.1 10 0 2 ((((8 : Int32) * x1) + x4)).toNatClampNeg)).toNatClampNeg), vI (x3 + (0 : Int32))], σ)) rfl).trans ?_
  refine (e_a (A := (169, 96, [some (vR 10 0 0), some (vI x1), some (vI x2), some (vI (x3 + (0 : Int32))), some (vI x4)], [vI (σ.1 10 0 2 ((((8 : Int32) * x2) + (σ.1 10 0 40 (x4).toNatClampNeg))).toNatClampNeg), vI (σ.1 10 0 40 ((σ.1 10 0 2 ((((8 : Int32) * x1) + x4)).toNatClampNeg)).toNatClampNeg), vI (x3 + (0 : Int32))], σ)) rfl h6).trans ?_
  refine (e_t (A := (169, 99, [some (vR 10 0 0), some (vI x1), some (vI x2), some (vI (x3 + (0 : Int32))), some (vI x4)], [vI (x3 + (0 : Int32))], σ)) rfl h9).trans ?_
  exact e_n 6 rfl
set_option maxRecDepth 20000 in
theorem g169_5_4 (C : pmC) {σ : pmS} {x1 : Int32} {x2 : Int32} {x3 : Int32} {x4 : Int32} (h1 : vp_in x1 4) (h2 : ¬ (σ.1 10 0 0 (x1).toNatClampNeg) ≤ x4) (h3 : vp_in (((8 : Int32) * x1) + x4) 32) (h4 : vp_in (σ.1 10 0 1 ((((8 : Int32) * x1) + x4)).toNatClampNeg) 8) (h5 : vp_in x4 8) (h6 : vp_in (((8 : Int32) * x2) + (σ.1 10 0 40 (x4).toNatClampNeg)) 32) (h7 : ¬ (σ.1 10 0 40 ((σ.1 10 0 1 ((((8 : Int32) * x1) + x4)).toNatClampNeg)).toNatClampNeg) = (σ.1 10 0 1 ((((8 : Int32) * x2) + (σ.1 10 0 40 (x4).toNatClampNeg))).toNatClampNeg)) (h8 : vp_in (σ.1 10 0 2 ((((8 : Int32) * x1) + x4)).toNatClampNeg) 8) (h9 : ¬ (σ.1 10 0 40 ((σ.1 10 0 2 ((((8 : Int32) * x1) + x4)).toNatClampNeg)).toNatClampNeg) = (σ.1 10 0 2 ((((8 : Int32) * x2) + (σ.1 10 0 40 (x4).toNatClampNeg))).toNatClampNeg)) : pq_Rn C (169, 5, [some (vR 10 0 0), some (vI x1), some (vI x2), some (vI x3), some (vI x4)], [], σ) = pq_Rn C (169, 5, [some (vR 10 0 0), some (vI x1), some (vI x2), some (vI ((x3 + (0 : Int32)) + (0 : Int32))), some (vI (x4 + (1 : Int32)))], [], σ) := by
  refine (e_n 4 (fr' := (169, 12, [some (vR 10 0 0), some (vI x1), some (vI x2), some (vI x3), some (vI x4)], [vI x1, vR 10 0 1, vI x4], σ)) rfl).trans ?_
  refine (e_a (A := (169, 13, [some (vR 10 0 0), some (vI x1), some (vI x2), some (vI x3), some (vI x4)], [vI (σ.1 10 0 0 (x1).toNatClampNeg), vI x4], σ)) rfl h1).trans ?_
  refine (e_f (B := (169, 16, [some (vR 10 0 0), some (vI x1), some (vI x2), some (vI x3), some (vI x4)], [], σ)) rfl h2).trans ?_
  refine (e_n 10 (fr' := (169, 32, [some (vR 10 0 0), some (vI x1), some (vI x2), some (vI x3), some (vI x4)], [vI (((8 : Int32) * x1) + x4), vR 10 0 2, vR 10 0 41, vI x3], σ)) rfl).trans ?_
  refine (e_a (A := (169, 33, [some (vR 10 0 0), some (vI x1), some (vI x2), some (vI x3), some (vI x4)], [vI (σ.1 10 0 1 ((((8 : Int32) * x1) + x4)).toNatClampNeg), vR 10 0 41, vI x3], σ)) rfl h3).trans ?_
  refine (e_a (A := (169, 34, [some (vR 10 0 0), some (vI x1), some (vI x2), some (vI x3), some (vI x4)], [vI (σ.1 10 0 40 ((σ.1 10 0 1 ((((8 : Int32) * x1) + x4)).toNatClampNeg)).toNatClampNeg), vI x3], σ)) rfl h4).trans ?_
  refine (e_n 8 (fr' := (169, 48, [some (vR 10 0 0), some (vI x1), some (vI x2), some (vI x3), some (vI x4)], [vI x4, vR 10 0 41, vI ((8 : Int32) * x2), vR 10 0 2, vI (σ.1 10 0 40 ((σ.1 10 0 1 ((((8 : Int32) * x1) + x4)).toNatClampNeg)).toNatClampNeg), vI x3], σ)) rfl).trans ?_
  refine (e_a (A := (169, 49, [some (vR 10 0 0), some (vI x1), some (vI x2), some (vI x3), some (vI x4)], [vI (σ.1 10 0 40 (x4).toNatClampNeg), vI ((8 : Int32) * x2), vR 10 0 2, vI (σ.1 10 0 40 ((σ.1 10 0 1 ((((8 : Int32) * x1) + x4)).toNatClampNeg)).toNatClampNeg), vI x3], σ)) rfl h5).trans ?_
  refine (e_n 1 (fr' := (169, 50, [some (vR 10 0 0), some (vI x1), some (vI x2), some (vI x3), some (vI x4)], [vI (((8 : Int32) * x2) + (σ.1 10 0 40 (x4).toNatClampNeg)), vR 10 0 2, vI (σ.1 10 0 40 ((σ.1 10 0 1 ((((8 : Int32) * x1) + x4)).toNatClampNeg)).toNatClampNeg), vI x3], σ)) rfl).trans ?_
  refine (e_a (A := (169, 51, [some (vR 10 0 0), some (vI x1), some (vI x2), some (vI x3), some (vI x4)], [vI (σ.1 10 0 1 ((((8 : Int32) * x2) + (σ.1 10 0 40 (x4).toNatClampNeg))).toNatClampNeg), vI (σ.1 10 0 40 ((σ.1 10 0 1 ((((8 : Int32) * x1) + x4)).toNatClampNeg)).toNatClampNeg), vI x3], σ)) rfl h6).trans ?_
  refine (e_f (B := (169, 58, [some (vR 10 0 0), some (vI x1), some (vI x2), some (vI x3), some (vI x4)], [vI x3], σ)) rfl h7).trans ?_
  refine (e_n 13 (fr' := (169, 77, [some (vR 10 0 0), some (vI x1), some (vI x2), some (vI (x3 + (0 : Int32))), some (vI x4)], [vI (((8 : Int32) * x1) + x4), vR 10 0 3, vR 10 0 41, vI (x3 + (0 : Int32))], σ)) rfl).trans ?_
  refine (e_a (A := (169, 78, [some (vR 10 0 0), some (vI x1), some (vI x2), some (vI (x3 + (0 : Int32))), some (vI x4)], [vI (σ.1 10 0 2 ((((8 : Int32) * x1) + x4)).toNatClampNeg), vR 10 0 41, vI (x3 + (0 : Int32))], σ)) rfl h3).trans ?_
  refine (e_a (A := (169, 79, [some (vR 10 0 0), some (vI x1), some (vI x2), some (vI (x3 + (0 : Int32))), some (vI x4)], [vI (σ.1 10 0 40 ((σ.1 10 0 2 ((((8 : Int32) * x1) + x4)).toNatClampNeg)).toNatClampNeg), vI (x3 + (0 : Int32))], σ)) rfl h8).trans ?_
  refine (e_n 8 (fr' := (169, 93, [some (vR 10 0 0), some (vI x1), some (vI x2), some (vI (x3 + (0 : Int32))), some (vI x4)], [vI x4, vR 10 0 41, vI ((8 : Int32) * x2), vR 10 0 3, vI (σ.1 10 0 40 ((σ.1 10 0 2 ((((8 : Int32) * x1) + x4)).toNatClampNeg)).toNatClampNeg), vI (x3 + (0 : Int32))], σ)) rfl).trans ?_
  refine (e_a (A := (169, 94, [some (vR 10 0 0), some (vI x1), some (vI x2), some (vI (x3 + (0 : Int32))), some (vI x4)], [vI (σ.1 10 0 40 (x4).toNatClampNeg), vI ((8 : Int32) * x2), vR 10 0 3, vI (σ.1 10 0 40 ((σ.1 10 0 2 ((((8 : Int32) * x1) + x4)).toNatClampNeg)).toNatClampNeg), vI (x3 + (0 : Int32))], σ)) rfl h5).trans ?_
  refine (e_n 1 (fr' := (169, 95, [some (vR 10 0 0), some (vI x1), some (vI x2), some (vI (x3 + (0 : Int32))), some (vI x4)], [vI (((8 : Int32) * x2) + (σ.1 10 0 40 (x4).toNatClampNeg)), vR 10 0 3, vI (σ.1 10 0 40 ((σ.1 10 0 2 ((((8 : Int32) * x1) + x4)).toNatClampNeg)).toNatClampNeg), vI (x3 + (0 : Int32))], σ)) rfl).trans ?_
  refine (e_a (A := (169, 96, [some (vR 10 0 0), some (vI x1), some (vI x2), some (vI (x3 + (0 : Int32))), some (vI x4)], [vI (σ.1 10 0 2 ((((8 : Int32) * x2) + (σ.1 10 0 40 (x4).toNatClampNeg))).toNatClampNeg), vI (σ.1 10 0 40 ((σ.1 10 0 2 ((((8 : Int32) * x1) + x4)).toNatClampNeg)).toNatClampNeg), vI (x3 + (0 : Int32))], σ)) rfl h6).trans ?_
  refine (e_f (B := (169, 103, [some (vR 10 0 0), some (vI x1), some (vI x2), some (vI (x3 + (0 : Int32))), some (vI x4)], [vI (x3 + (0 : Int32))], σ)) rfl h9).trans ?_
  exact e_n 5 rfl
set_option maxRecDepth 20000 in
theorem g170_0_0 (C : pmC) {σ : pmS} {x1 : Int32} {l2 : Option pmV} {l3 : Option pmV} {l4 : Option pmV} {l5 : Option pmV}  : pq_Rn C (170, 0, [some (vR 10 0 0), some (vI x1), l2, l3, l4, l5], [], σ) = pq_Rn C (170, 4, [some (vR 10 0 0), some (vI x1), some (vI (x1 - (2 : Int32))), l3, l4, l5], [], σ) := by
  exact e_n 4 rfl
set_option maxRecDepth 20000 in
theorem g170_4_0 (C : pmC) {σ : pmS} {x1 : Int32} {x2 : Int32} {l3 : Option pmV} {l4 : Option pmV} {l5 : Option pmV} (h1 : x2 < 0) (h2 : 0 ≤ x2) : pq_Rn C (170, 4, [some (vR 10 0 0), some (vI x1), some (vI x2), l3, l4, l5], [], σ) = pq_Rn C (170, 41, [some (vR 10 0 0), some (vI x1), some (vI x2), some (vI (x1 - (1 : Int32))), l4, l5], [], σ) := by
  refine (e_n 1 (fr' := (170, 5, [some (vR 10 0 0), some (vI x1), some (vI x2), l3, l4, l5], [vI x2], σ)) rfl).trans ?_
  refine (e_t (A := (170, 31, [some (vR 10 0 0), some (vI x1), some (vI x2), l3, l4, l5], [], σ)) rfl h1).trans ?_
  refine (e_n 1 (fr' := (170, 32, [some (vR 10 0 0), some (vI x1), some (vI x2), l3, l4, l5], [vI x2], σ)) rfl).trans ?_
  refine (e_t (A := (170, 37, [some (vR 10 0 0), some (vI x1), some (vI x2), l3, l4, l5], [], σ)) rfl h2).trans ?_
  exact e_n 4 rfl
set_option maxRecDepth 20000 in
theorem g170_4_1 (C : pmC) {σ : pmS} {x1 : Int32} {x2 : Int32} {l3 : Option pmV} {l4 : Option pmV} {l5 : Option pmV} (h1 : x2 < 0) (h2 : ¬ 0 ≤ x2) : pq_Rn C (170, 4, [some (vR 10 0 0), some (vI x1), some (vI x2), l3, l4, l5], [], σ) = some (some (vI (0 : Int32)), σ) := by
  refine (e_n 1 (fr' := (170, 5, [some (vR 10 0 0), some (vI x1), some (vI x2), l3, l4, l5], [vI x2], σ)) rfl).trans ?_
  refine (e_t (A := (170, 31, [some (vR 10 0 0), some (vI x1), some (vI x2), l3, l4, l5], [], σ)) rfl h1).trans ?_
  refine (e_n 1 (fr' := (170, 32, [some (vR 10 0 0), some (vI x1), some (vI x2), l3, l4, l5], [vI x2], σ)) rfl).trans ?_
  refine (e_f (B := (170, 35, [some (vR 10 0 0), some (vI x1), some (vI x2), l3, l4, l5], [], σ)) rfl h2).trans ?_
  refine (e_n 1 (fr' := (170, 36, [some (vR 10 0 0), some (vI x1), some (vI x2), l3, l4, l5], [vI (0 : Int32)], σ)) rfl).trans ?_
  exact e_r rfl
set_option maxRecDepth 20000 in
theorem g170_4_2 (C : pmC) {σ : pmS} {x1 : Int32} {x2 : Int32} {l3 : Option pmV} {l4 : Option pmV} {l5 : Option pmV} (h1 : ¬ x2 < 0) (h2 : vp_in x2 8) (h3 : vp_in (x2 + (1 : Int32)) 8) (h4 : (σ.1 10 0 40 (x2).toNatClampNeg) ≤ (σ.1 10 0 40 ((x2 + (1 : Int32))).toNatClampNeg)) (h5 : 0 ≤ x2) : pq_Rn C (170, 4, [some (vR 10 0 0), some (vI x1), some (vI x2), l3, l4, l5], [], σ) = pq_Rn C (170, 41, [some (vR 10 0 0), some (vI x1), some (vI x2), some (vI (x1 - (1 : Int32))), l4, l5], [], σ) := by
  refine (e_n 1 (fr' := (170, 5, [some (vR 10 0 0), some (vI x1), some (vI x2), l3, l4, l5], [vI x2], σ)) rfl).trans ?_
  refine (e_f (B := (170, 8, [some (vR 10 0 0), some (vI x1), some (vI x2), l3, l4, l5], [], σ)) rfl h1).trans ?_
  refine (e_n 3 (fr' := (170, 13, [some (vR 10 0 0), some (vI x1), some (vI x2), l3, l4, l5], [vI x2, vR 10 0 41], σ)) rfl).trans ?_
  refine (e_a (A := (170, 14, [some (vR 10 0 0), some (vI x1), some (vI x2), l3, l4, l5], [vI (σ.1 10 0 40 (x2).toNatClampNeg)], σ)) rfl h2).trans ?_
  refine (e_n 5 (fr' := (170, 21, [some (vR 10 0 0), some (vI x1), some (vI x2), l3, l4, l5], [vI (x2 + (1 : Int32)), vR 10 0 41, vI (σ.1 10 0 40 (x2).toNatClampNeg)], σ)) rfl).trans ?_
  refine (e_a (A := (170, 22, [some (vR 10 0 0), some (vI x1), some (vI x2), l3, l4, l5], [vI (σ.1 10 0 40 ((x2 + (1 : Int32))).toNatClampNeg), vI (σ.1 10 0 40 (x2).toNatClampNeg)], σ)) rfl h3).trans ?_
  refine (e_t (A := (170, 31, [some (vR 10 0 0), some (vI x1), some (vI x2), l3, l4, l5], [], σ)) rfl h4).trans ?_
  refine (e_n 1 (fr' := (170, 32, [some (vR 10 0 0), some (vI x1), some (vI x2), l3, l4, l5], [vI x2], σ)) rfl).trans ?_
  refine (e_t (A := (170, 37, [some (vR 10 0 0), some (vI x1), some (vI x2), l3, l4, l5], [], σ)) rfl h5).trans ?_
  exact e_n 4 rfl
set_option maxRecDepth 20000 in
theorem g170_4_3 (C : pmC) {σ : pmS} {x1 : Int32} {x2 : Int32} {l3 : Option pmV} {l4 : Option pmV} {l5 : Option pmV} (h1 : ¬ x2 < 0) (h2 : vp_in x2 8) (h3 : vp_in (x2 + (1 : Int32)) 8) (h4 : (σ.1 10 0 40 (x2).toNatClampNeg) ≤ (σ.1 10 0 40 ((x2 + (1 : Int32))).toNatClampNeg)) (h5 : ¬ 0 ≤ x2) : pq_Rn C (170, 4, [some (vR 10 0 0), some (vI x1), some (vI x2), l3, l4, l5], [], σ) = some (some (vI (0 : Int32)), σ) := by
  refine (e_n 1 (fr' := (170, 5, [some (vR 10 0 0), some (vI x1), some (vI x2), l3, l4, l5], [vI x2], σ)) rfl).trans ?_
  refine (e_f (B := (170, 8, [some (vR 10 0 0), some (vI x1), some (vI x2), l3, l4, l5], [], σ)) rfl h1).trans ?_
  refine (e_n 3 (fr' := (170, 13, [some (vR 10 0 0), some (vI x1), some (vI x2), l3, l4, l5], [vI x2, vR 10 0 41], σ)) rfl).trans ?_
  refine (e_a (A := (170, 14, [some (vR 10 0 0), some (vI x1), some (vI x2), l3, l4, l5], [vI (σ.1 10 0 40 (x2).toNatClampNeg)], σ)) rfl h2).trans ?_
  refine (e_n 5 (fr' := (170, 21, [some (vR 10 0 0), some (vI x1), some (vI x2), l3, l4, l5], [vI (x2 + (1 : Int32)), vR 10 0 41, vI (σ.1 10 0 40 (x2).toNatClampNeg)], σ)) rfl).trans ?_
  refine (e_a (A := (170, 22, [some (vR 10 0 0), some (vI x1), some (vI x2), l3, l4, l5], [vI (σ.1 10 0 40 ((x2 + (1 : Int32))).toNatClampNeg), vI (σ.1 10 0 40 (x2).toNatClampNeg)], σ)) rfl h3).trans ?_
  refine (e_t (A := (170, 31, [some (vR 10 0 0), some (vI x1), some (vI x2), l3, l4, l5], [], σ)) rfl h4).trans ?_
  refine (e_n 1 (fr' := (170, 32, [some (vR 10 0 0), some (vI x1), some (vI x2), l3, l4, l5], [vI x2], σ)) rfl).trans ?_
  refine (e_f (B := (170, 35, [some (vR 10 0 0), some (vI x1), some (vI x2), l3, l4, l5], [], σ)) rfl h5).trans ?_
  refine (e_n 1 (fr' := (170, 36, [some (vR 10 0 0), some (vI x1), some (vI x2), l3, l4, l5], [vI (0 : Int32)], σ)) rfl).trans ?_
  exact e_r rfl
set_option maxRecDepth 20000 in
theorem g170_4_4 (C : pmC) {σ : pmS} {x1 : Int32} {x2 : Int32} {l3 : Option pmV} {l4 : Option pmV} {l5 : Option pmV} (h1 : ¬ x2 < 0) (h2 : vp_in x2 8) (h3 : vp_in (x2 + (1 : Int32)) 8) (h4 : ¬ (σ.1 10 0 40 (x2).toNatClampNeg) ≤ (σ.1 10 0 40 ((x2 + (1 : Int32))).toNatClampNeg)) : pq_Rn C (170, 4, [some (vR 10 0 0), some (vI x1), some (vI x2), l3, l4, l5], [], σ) = pq_Rn C (170, 4, [some (vR 10 0 0), some (vI x1), some (vI (x2 + (-1 : Int32))), l3, l4, l5], [], σ) := by
  refine (e_n 1 (fr' := (170, 5, [some (vR 10 0 0), some (vI x1), some (vI x2), l3, l4, l5], [vI x2], σ)) rfl).trans ?_
  refine (e_f (B := (170, 8, [some (vR 10 0 0), some (vI x1), some (vI x2), l3, l4, l5], [], σ)) rfl h1).trans ?_
  refine (e_n 3 (fr' := (170, 13, [some (vR 10 0 0), some (vI x1), some (vI x2), l3, l4, l5], [vI x2, vR 10 0 41], σ)) rfl).trans ?_
  refine (e_a (A := (170, 14, [some (vR 10 0 0), some (vI x1), some (vI x2), l3, l4, l5], [vI (σ.1 10 0 40 (x2).toNatClampNeg)], σ)) rfl h2).trans ?_
  refine (e_n 5 (fr' := (170, 21, [some (vR 10 0 0), some (vI x1), some (vI x2), l3, l4, l5], [vI (x2 + (1 : Int32)), vR 10 0 41, vI (σ.1 10 0 40 (x2).toNatClampNeg)], σ)) rfl).trans ?_
  refine (e_a (A := (170, 22, [some (vR 10 0 0), some (vI x1), some (vI x2), l3, l4, l5], [vI (σ.1 10 0 40 ((x2 + (1 : Int32))).toNatClampNeg), vI (σ.1 10 0 40 (x2).toNatClampNeg)], σ)) rfl h3).trans ?_
  refine (e_f (B := (170, 25, [some (vR 10 0 0), some (vI x1), some (vI x2), l3, l4, l5], [], σ)) rfl h4).trans ?_
  exact e_n 2 rfl
set_option maxRecDepth 20000 in
theorem g170_41_0 (C : pmC) {σ : pmS} {x1 : Int32} {x2 : Int32} {x3 : Int32} {l4 : Option pmV} {l5 : Option pmV} {σ1 : pmS} (h1 : vp_in x3 8) (h2 : vp_in x2 8) (h3 : (σ.1 10 0 40 (x2).toNatClampNeg) ≤ (σ.1 10 0 40 (x3).toNatClampNeg)) (h4 : C 171 [vR 10 0 0, vI x2, vI x3] σ = some (none, σ1)) : pq_Rn C (170, 41, [some (vR 10 0 0), some (vI x1), some (vI x2), some (vI x3), l4, l5], [], σ) = pq_Rn C (170, 78, [some (vR 10 0 0), some (vI x1), some (vI x2), some (vI x3), some (vI (x2 + (1 : Int32))), some (vI (x1 - (1 : Int32)))], [], σ1) := by
  refine (e_n 3 (fr' := (170, 46, [some (vR 10 0 0), some (vI x1), some (vI x2), some (vI x3), l4, l5], [vI x3, vR 10 0 41], σ)) rfl).trans ?_
  refine (e_a (A := (170, 47, [some (vR 10 0 0), some (vI x1), some (vI x2), some (vI x3), l4, l5], [vI (σ.1 10 0 40 (x3).toNatClampNeg)], σ)) rfl h1).trans ?_
  refine (e_n 3 (fr' := (170, 52, [some (vR 10 0 0), some (vI x1), some (vI x2), some (vI x3), l4, l5], [vI x2, vR 10 0 41, vI (σ.1 10 0 40 (x3).toNatClampNeg)], σ)) rfl).trans ?_
  refine (e_a (A := (170, 53, [some (vR 10 0 0), some (vI x1), some (vI x2), some (vI x3), l4, l5], [vI (σ.1 10 0 40 (x2).toNatClampNeg), vI (σ.1 10 0 40 (x3).toNatClampNeg)], σ)) rfl h2).trans ?_
  refine (e_t (A := (170, 62, [some (vR 10 0 0), some (vI x1), some (vI x2), some (vI x3), l4, l5], [], σ)) rfl h3).trans ?_
  refine (e_n 3 (fr' := (170, 65, [some (vR 10 0 0), some (vI x1), some (vI x2), some (vI x3), l4, l5], [vI x3, vI x2, vR 10 0 0], σ)) rfl).trans ?_
  refine (e_cv (m := 170) (pc := 68) (ls := [some (vR 10 0 0), some (vI x1), some (vI x2), some (vI x3), l4, l5]) (rest := []) rfl h4).trans ?_
  exact e_n 8 rfl
set_option maxRecDepth 20000 in
theorem g170_41_1 (C : pmC) {σ : pmS} {x1 : Int32} {x2 : Int32} {x3 : Int32} {l4 : Option pmV} {l5 : Option pmV} (h1 : vp_in x3 8) (h2 : vp_in x2 8) (h3 : ¬ (σ.1 10 0 40 (x2).toNatClampNeg) ≤ (σ.1 10 0 40 (x3).toNatClampNeg)) : pq_Rn C (170, 41, [some (vR 10 0 0), some (vI x1), some (vI x2), some (vI x3), l4, l5], [], σ) = pq_Rn C (170, 41, [some (vR 10 0 0), some (vI x1), some (vI x2), some (vI (x3 + (-1 : Int32))), l4, l5], [], σ) := by
  refine (e_n 3 (fr' := (170, 46, [some (vR 10 0 0), some (vI x1), some (vI x2), some (vI x3), l4, l5], [vI x3, vR 10 0 41], σ)) rfl).trans ?_
  refine (e_a (A := (170, 47, [some (vR 10 0 0), some (vI x1), some (vI x2), some (vI x3), l4, l5], [vI (σ.1 10 0 40 (x3).toNatClampNeg)], σ)) rfl h1).trans ?_
  refine (e_n 3 (fr' := (170, 52, [some (vR 10 0 0), some (vI x1), some (vI x2), some (vI x3), l4, l5], [vI x2, vR 10 0 41, vI (σ.1 10 0 40 (x3).toNatClampNeg)], σ)) rfl).trans ?_
  refine (e_a (A := (170, 53, [some (vR 10 0 0), some (vI x1), some (vI x2), some (vI x3), l4, l5], [vI (σ.1 10 0 40 (x2).toNatClampNeg), vI (σ.1 10 0 40 (x3).toNatClampNeg)], σ)) rfl h2).trans ?_
  refine (e_f (B := (170, 56, [some (vR 10 0 0), some (vI x1), some (vI x2), some (vI x3), l4, l5], [], σ)) rfl h3).trans ?_
  exact e_n 2 rfl
set_option maxRecDepth 20000 in
theorem g170_78_0 (C : pmC) {σ : pmS} {l1 : Option pmV} {l2 : Option pmV} {l3 : Option pmV} {x4 : Int32} {x5 : Int32} (h1 : x5 ≤ x4) : pq_Rn C (170, 78, [some (vR 10 0 0), l1, l2, l3, some (vI x4), some (vI x5)], [], σ) = some (some (vI (1 : Int32)), σ) := by
  refine (e_n 2 (fr' := (170, 82, [some (vR 10 0 0), l1, l2, l3, some (vI x4), some (vI x5)], [vI x5, vI x4], σ)) rfl).trans ?_
  refine (e_t (A := (170, 102, [some (vR 10 0 0), l1, l2, l3, some (vI x4), some (vI x5)], [], σ)) rfl h1).trans ?_
  refine (e_n 1 (fr' := (170, 103, [some (vR 10 0 0), l1, l2, l3, some (vI x4), some (vI x5)], [vI (1 : Int32)], σ)) rfl).trans ?_
  exact e_r rfl
set_option maxRecDepth 20000 in
theorem g170_78_1 (C : pmC) {σ : pmS} {l1 : Option pmV} {l2 : Option pmV} {l3 : Option pmV} {x4 : Int32} {x5 : Int32} {σ1 : pmS} (h1 : ¬ x5 ≤ x4) (h2 : C 171 [vR 10 0 0, vI x4, vI x5] σ = some (none, σ1)) : pq_Rn C (170, 78, [some (vR 10 0 0), l1, l2, l3, some (vI x4), some (vI x5)], [], σ) = pq_Rn C (170, 78, [some (vR 10 0 0), l1, l2, l3, some (vI (x4 + (1 : Int32))), some (vI (x5 + (-1 : Int32)))], [], σ1) := by
  refine (e_n 2 (fr' := (170, 82, [some (vR 10 0 0), l1, l2, l3, some (vI x4), some (vI x5)], [vI x5, vI x4], σ)) rfl).trans ?_
  refine (e_f (B := (170, 85, [some (vR 10 0 0), l1, l2, l3, some (vI x4), some (vI x5)], [], σ)) rfl h1).trans ?_
  refine (e_n 3 (fr' := (170, 90, [some (vR 10 0 0), l1, l2, l3, some (vI x4), some (vI x5)], [vI x5, vI x4, vR 10 0 0], σ)) rfl).trans ?_
  refine (e_cv (m := 170) (pc := 93) (ls := [some (vR 10 0 0), l1, l2, l3, some (vI x4), some (vI x5)]) (rest := []) rfl h2).trans ?_
  exact e_n 3 rfl
set_option maxRecDepth 20000 in
theorem g171_0_0 (C : pmC) {σ : pmS} {x1 : Int32} {x2 : Int32} {l3 : Option pmV} (h1 : vp_in x1 8) (h2 : vp_in x2 8) : pq_Rn C (171, 0, [some (vR 10 0 0), some (vI x1), some (vI x2), l3], [], σ) = some (none, (pm_wi (pm_wi σ 10 0 40 (x1).toNatClampNeg (σ.1 10 0 40 (x2).toNatClampNeg)) 10 0 40 (x2).toNatClampNeg (σ.1 10 0 40 (x1).toNatClampNeg))) := by
  refine (e_n 3 (fr' := (171, 5, [some (vR 10 0 0), some (vI x1), some (vI x2), l3], [vI x1, vR 10 0 41], σ)) rfl).trans ?_
  refine (e_a (A := (171, 6, [some (vR 10 0 0), some (vI x1), some (vI x2), l3], [vI (σ.1 10 0 40 (x1).toNatClampNeg)], σ)) rfl h1).trans ?_
  refine (e_n 7 (fr' := (171, 17, [some (vR 10 0 0), some (vI x1), some (vI x2), some (vI (σ.1 10 0 40 (x1).toNatClampNeg))], [vI x2, vR 10 0 41, vI x1, vR 10 0 41], σ)) rfl).trans ?_
  refine (e_a (A := (171, 18, [some (vR 10 0 0), some (vI x1), some (vI x2), some (vI (σ.1 10 0 40 (x1).toNatClampNeg))], [vI (σ.1 10 0 40 (x2).toNatClampNeg), vI x1, vR 10 0 41], σ)) rfl h2).trans ?_
  refine (e_a (A := (171, 19, [some (vR 10 0 0), some (vI x1), some (vI x2), some (vI (σ.1 10 0 40 (x1).toNatClampNeg))], [], (pm_wi σ 10 0 40 (x1).toNatClampNeg (σ.1 10 0 40 (x2).toNatClampNeg)))) rfl h1).trans ?_
  refine (e_n 4 (fr' := (171, 25, [some (vR 10 0 0), some (vI x1), some (vI x2), some (vI (σ.1 10 0 40 (x1).toNatClampNeg))], [vI (σ.1 10 0 40 (x1).toNatClampNeg), vI x2, vR 10 0 41], (pm_wi σ 10 0 40 (x1).toNatClampNeg (σ.1 10 0 40 (x2).toNatClampNeg)))) rfl).trans ?_
  refine (e_a (A := (171, 26, [some (vR 10 0 0), some (vI x1), some (vI x2), some (vI (σ.1 10 0 40 (x1).toNatClampNeg))], [], (pm_wi (pm_wi σ 10 0 40 (x1).toNatClampNeg (σ.1 10 0 40 (x2).toNatClampNeg)) 10 0 40 (x2).toNatClampNeg (σ.1 10 0 40 (x1).toNatClampNeg)))) rfl h2).trans ?_
  exact e_r rfl
set_option maxRecDepth 20000 in
theorem g172_0_0 (C : pmC) {σ : pmS} {x1 : Int32} {x2 : Int32} {l3 : Option pmV} {l4 : Option pmV} {l5 : Option pmV} {l6 : Option pmV} {l7 : Option pmV} {σ1 : pmS} {r1 : Int32} (h1 : C 106 [vR 10 0 0, vI x1] σ = some (some (vI r1), σ1)) (h2 : r1 = 0) : pq_Rn C (172, 0, [some (vR 10 0 0), some (vI x1), some (vI x2), l3, l4, l5, l6, l7], [], σ) = some (some (vI (-1 : Int32)), σ1) := by
  refine (e_n 2 (fr' := (172, 2, [some (vR 10 0 0), some (vI x1), some (vI x2), l3, l4, l5, l6, l7], [vI x1, vR 10 0 0], σ)) rfl).trans ?_
  refine (e_ci (m := 172) (pc := 5) (ls := [some (vR 10 0 0), some (vI x1), some (vI x2), l3, l4, l5, l6, l7]) (rest := []) rfl h1).trans ?_
  refine (e_t (A := (172, 16, [some (vR 10 0 0), some (vI x1), some (vI x2), l3, l4, l5, l6, l7], [], σ1)) rfl h2).trans ?_
  refine (e_n 1 (fr' := (172, 17, [some (vR 10 0 0), some (vI x1), some (vI x2), l3, l4, l5, l6, l7], [vI (-1 : Int32)], σ1)) rfl).trans ?_
  exact e_r rfl
set_option maxRecDepth 20000 in
theorem g172_0_1 (C : pmC) {σ : pmS} {x1 : Int32} {x2 : Int32} {l3 : Option pmV} {l4 : Option pmV} {l5 : Option pmV} {l6 : Option pmV} {l7 : Option pmV} {σ1 : pmS} {r1 : Int32} {σ2 : pmS} {r2 : Int32} (h1 : C 106 [vR 10 0 0, vI x1] σ = some (some (vI r1), σ1)) (h2 : ¬ r1 = 0) (h3 : C 106 [vR 10 0 0, vI x2] σ1 = some (some (vI r2), σ2)) (h4 : r2 = 0) : pq_Rn C (172, 0, [some (vR 10 0 0), some (vI x1), some (vI x2), l3, l4, l5, l6, l7], [], σ) = some (some (vI (-1 : Int32)), σ2) := by
  refine (e_n 2 (fr' := (172, 2, [some (vR 10 0 0), some (vI x1), some (vI x2), l3, l4, l5, l6, l7], [vI x1, vR 10 0 0], σ)) rfl).trans ?_
  refine (e_ci (m := 172) (pc := 5) (ls := [some (vR 10 0 0), some (vI x1), some (vI x2), l3, l4, l5, l6, l7]) (rest := []) rfl h1).trans ?_
  refine (e_f (B := (172, 8, [some (vR 10 0 0), some (vI x1), some (vI x2), l3, l4, l5, l6, l7], [], σ1)) rfl h2).trans ?_
  refine (e_n 2 (fr' := (172, 10, [some (vR 10 0 0), some (vI x1), some (vI x2), l3, l4, l5, l6, l7], [vI x2, vR 10 0 0], σ1)) rfl).trans ?_
  refine (e_ci (m := 172) (pc := 13) (ls := [some (vR 10 0 0), some (vI x1), some (vI x2), l3, l4, l5, l6, l7]) (rest := []) rfl h3).trans ?_
  refine (e_t (A := (172, 16, [some (vR 10 0 0), some (vI x1), some (vI x2), l3, l4, l5, l6, l7], [], σ2)) rfl h4).trans ?_
  refine (e_n 1 (fr' := (172, 17, [some (vR 10 0 0), some (vI x1), some (vI x2), l3, l4, l5, l6, l7], [vI (-1 : Int32)], σ2)) rfl).trans ?_
  exact e_r rfl
set_option maxRecDepth 20000 in
theorem g172_0_2 (C : pmC) {σ : pmS} {x1 : Int32} {x2 : Int32} {l3 : Option pmV} {l4 : Option pmV} {l5 : Option pmV} {l6 : Option pmV} {l7 : Option pmV} {σ1 : pmS} {r1 : Int32} {σ2 : pmS} {r2 : Int32} (h1 : C 106 [vR 10 0 0, vI x1] σ = some (some (vI r1), σ1)) (h2 : ¬ r1 = 0) (h3 : C 106 [vR 10 0 0, vI x2] σ1 = some (some (vI r2), σ2)) (h4 : ¬ r2 = 0) (h5 : vp_in x1 4) (h6 : vp_in x2 4) (h7 : (σ2.1 10 0 0 (x2).toNatClampNeg) = (σ2.1 10 0 0 (x1).toNatClampNeg)) : pq_Rn C (172, 0, [some (vR 10 0 0), some (vI x1), some (vI x2), l3, l4, l5, l6, l7], [], σ) = pq_Rn C (172, 41, [some (vR 10 0 0), some (vI x1), some (vI x2), some (vI (σ2.1 10 0 0 (x1).toNatClampNeg)), some (vI (0 : Int32)), l5, l6, l7], [], σ2) := by
  refine (e_n 2 (fr' := (172, 2, [some (vR 10 0 0), some (vI x1), some (vI x2), l3, l4, l5, l6, l7], [vI x1, vR 10 0 0], σ)) rfl).trans ?_
  refine (e_ci (m := 172) (pc := 5) (ls := [some (vR 10 0 0), some (vI x1), some (vI x2), l3, l4, l5, l6, l7]) (rest := []) rfl h1).trans ?_
  refine (e_f (B := (172, 8, [some (vR 10 0 0), some (vI x1), some (vI x2), l3, l4, l5, l6, l7], [], σ1)) rfl h2).trans ?_
  refine (e_n 2 (fr' := (172, 10, [some (vR 10 0 0), some (vI x1), some (vI x2), l3, l4, l5, l6, l7], [vI x2, vR 10 0 0], σ1)) rfl).trans ?_
  refine (e_ci (m := 172) (pc := 13) (ls := [some (vR 10 0 0), some (vI x1), some (vI x2), l3, l4, l5, l6, l7]) (rest := []) rfl h3).trans ?_
  refine (e_f (B := (172, 18, [some (vR 10 0 0), some (vI x1), some (vI x2), l3, l4, l5, l6, l7], [], σ2)) rfl h4).trans ?_
  refine (e_n 3 (fr' := (172, 23, [some (vR 10 0 0), some (vI x1), some (vI x2), l3, l4, l5, l6, l7], [vI x1, vR 10 0 1], σ2)) rfl).trans ?_
  refine (e_a (A := (172, 24, [some (vR 10 0 0), some (vI x1), some (vI x2), l3, l4, l5, l6, l7], [vI (σ2.1 10 0 0 (x1).toNatClampNeg)], σ2)) rfl h5).trans ?_
  refine (e_n 4 (fr' := (172, 30, [some (vR 10 0 0), some (vI x1), some (vI x2), some (vI (σ2.1 10 0 0 (x1).toNatClampNeg)), l4, l5, l6, l7], [vI x2, vR 10 0 1], σ2)) rfl).trans ?_
  refine (e_a (A := (172, 31, [some (vR 10 0 0), some (vI x1), some (vI x2), some (vI (σ2.1 10 0 0 (x1).toNatClampNeg)), l4, l5, l6, l7], [vI (σ2.1 10 0 0 (x2).toNatClampNeg)], σ2)) rfl h6).trans ?_
  refine (e_n 1 (fr' := (172, 32, [some (vR 10 0 0), some (vI x1), some (vI x2), some (vI (σ2.1 10 0 0 (x1).toNatClampNeg)), l4, l5, l6, l7], [vI (σ2.1 10 0 0 (x1).toNatClampNeg), vI (σ2.1 10 0 0 (x2).toNatClampNeg)], σ2)) rfl).trans ?_
  refine (e_t (A := (172, 38, [some (vR 10 0 0), some (vI x1), some (vI x2), some (vI (σ2.1 10 0 0 (x1).toNatClampNeg)), l4, l5, l6, l7], [], σ2)) rfl h7).trans ?_
  exact e_n 2 rfl
set_option maxRecDepth 20000 in
theorem g172_0_3 (C : pmC) {σ : pmS} {x1 : Int32} {x2 : Int32} {l3 : Option pmV} {l4 : Option pmV} {l5 : Option pmV} {l6 : Option pmV} {l7 : Option pmV} {σ1 : pmS} {r1 : Int32} {σ2 : pmS} {r2 : Int32} (h1 : C 106 [vR 10 0 0, vI x1] σ = some (some (vI r1), σ1)) (h2 : ¬ r1 = 0) (h3 : C 106 [vR 10 0 0, vI x2] σ1 = some (some (vI r2), σ2)) (h4 : ¬ r2 = 0) (h5 : vp_in x1 4) (h6 : vp_in x2 4) (h7 : ¬ (σ2.1 10 0 0 (x2).toNatClampNeg) = (σ2.1 10 0 0 (x1).toNatClampNeg)) : pq_Rn C (172, 0, [some (vR 10 0 0), some (vI x1), some (vI x2), l3, l4, l5, l6, l7], [], σ) = some (some (vI (-3 : Int32)), σ2) := by
  refine (e_n 2 (fr' := (172, 2, [some (vR 10 0 0), some (vI x1), some (vI x2), l3, l4, l5, l6, l7], [vI x1, vR 10 0 0], σ)) rfl).trans ?_
  refine (e_ci (m := 172) (pc := 5) (ls := [some (vR 10 0 0), some (vI x1), some (vI x2), l3, l4, l5, l6, l7]) (rest := []) rfl h1).trans ?_
  refine (e_f (B := (172, 8, [some (vR 10 0 0), some (vI x1), some (vI x2), l3, l4, l5, l6, l7], [], σ1)) rfl h2).trans ?_
  refine (e_n 2 (fr' := (172, 10, [some (vR 10 0 0), some (vI x1), some (vI x2), l3, l4, l5, l6, l7], [vI x2, vR 10 0 0], σ1)) rfl).trans ?_
  refine (e_ci (m := 172) (pc := 13) (ls := [some (vR 10 0 0), some (vI x1), some (vI x2), l3, l4, l5, l6, l7]) (rest := []) rfl h3).trans ?_
  refine (e_f (B := (172, 18, [some (vR 10 0 0), some (vI x1), some (vI x2), l3, l4, l5, l6, l7], [], σ2)) rfl h4).trans ?_
  refine (e_n 3 (fr' := (172, 23, [some (vR 10 0 0), some (vI x1), some (vI x2), l3, l4, l5, l6, l7], [vI x1, vR 10 0 1], σ2)) rfl).trans ?_
  refine (e_a (A := (172, 24, [some (vR 10 0 0), some (vI x1), some (vI x2), l3, l4, l5, l6, l7], [vI (σ2.1 10 0 0 (x1).toNatClampNeg)], σ2)) rfl h5).trans ?_
  refine (e_n 4 (fr' := (172, 30, [some (vR 10 0 0), some (vI x1), some (vI x2), some (vI (σ2.1 10 0 0 (x1).toNatClampNeg)), l4, l5, l6, l7], [vI x2, vR 10 0 1], σ2)) rfl).trans ?_
  refine (e_a (A := (172, 31, [some (vR 10 0 0), some (vI x1), some (vI x2), some (vI (σ2.1 10 0 0 (x1).toNatClampNeg)), l4, l5, l6, l7], [vI (σ2.1 10 0 0 (x2).toNatClampNeg)], σ2)) rfl h6).trans ?_
  refine (e_n 1 (fr' := (172, 32, [some (vR 10 0 0), some (vI x1), some (vI x2), some (vI (σ2.1 10 0 0 (x1).toNatClampNeg)), l4, l5, l6, l7], [vI (σ2.1 10 0 0 (x1).toNatClampNeg), vI (σ2.1 10 0 0 (x2).toNatClampNeg)], σ2)) rfl).trans ?_
  refine (e_f (B := (172, 35, [some (vR 10 0 0), some (vI x1), some (vI x2), some (vI (σ2.1 10 0 0 (x1).toNatClampNeg)), l4, l5, l6, l7], [], σ2)) rfl h7).trans ?_
  refine (e_n 1 (fr' := (172, 37, [some (vR 10 0 0), some (vI x1), some (vI x2), some (vI (σ2.1 10 0 0 (x1).toNatClampNeg)), l4, l5, l6, l7], [vI (-3 : Int32)], σ2)) rfl).trans ?_
  exact e_r rfl
set_option maxRecDepth 20000 in
theorem g172_41_0 (C : pmC) {σ : pmS} {x1 : Int32} {x2 : Int32} {x3 : Int32} {x4 : Int32} {l5 : Option pmV} {l6 : Option pmV} {l7 : Option pmV} (h1 : x3 ≤ x4) : pq_Rn C (172, 41, [some (vR 10 0 0), some (vI x1), some (vI x2), some (vI x3), some (vI x4), l5, l6, l7], [], σ) = pq_Rn C (172, 68, [some (vR 10 0 0), some (vI x1), some (vI x2), some (vI x3), some (vI (-1 : Int32)), some (vI (1 : Int32)), l6, l7], [], σ) := by
  refine (e_n 2 (fr' := (172, 44, [some (vR 10 0 0), some (vI x1), some (vI x2), some (vI x3), some (vI x4), l5, l6, l7], [vI x3, vI x4], σ)) rfl).trans ?_
  refine (e_t (A := (172, 62, [some (vR 10 0 0), some (vI x1), some (vI x2), some (vI x3), some (vI x4), l5, l6, l7], [], σ)) rfl h1).trans ?_
  exact e_n 4 rfl
set_option maxRecDepth 20000 in
theorem g172_41_1 (C : pmC) {σ : pmS} {x1 : Int32} {x2 : Int32} {x3 : Int32} {x4 : Int32} {l5 : Option pmV} {l6 : Option pmV} {l7 : Option pmV} (h1 : ¬ x3 ≤ x4) (h2 : vp_in x4 8) : pq_Rn C (172, 41, [some (vR 10 0 0), some (vI x1), some (vI x2), some (vI x3), some (vI x4), l5, l6, l7], [], σ) = pq_Rn C (172, 41, [some (vR 10 0 0), some (vI x1), some (vI x2), some (vI x3), some (vI (x4 + (1 : Int32))), l5, l6, l7], [], (pm_wi σ 10 0 40 (x4).toNatClampNeg x4)) := by
  refine (e_n 2 (fr' := (172, 44, [some (vR 10 0 0), some (vI x1), some (vI x2), some (vI x3), some (vI x4), l5, l6, l7], [vI x3, vI x4], σ)) rfl).trans ?_
  refine (e_f (B := (172, 47, [some (vR 10 0 0), some (vI x1), some (vI x2), some (vI x3), some (vI x4), l5, l6, l7], [], σ)) rfl h1).trans ?_
  refine (e_n 4 (fr' := (172, 55, [some (vR 10 0 0), some (vI x1), some (vI x2), some (vI x3), some (vI x4), l5, l6, l7], [vI x4, vI x4, vR 10 0 41], σ)) rfl).trans ?_
  refine (e_a (A := (172, 56, [some (vR 10 0 0), some (vI x1), some (vI x2), some (vI x3), some (vI x4), l5, l6, l7], [], (pm_wi σ 10 0 40 (x4).toNatClampNeg x4))) rfl h2).trans ?_
  exact e_n 2 rfl
set_option maxRecDepth 20000 in
theorem g172_68_0 (C : pmC) {σ : pmS} {x1 : Int32} {x2 : Int32} {x3 : Int32} {x4 : Int32} {x5 : Int32} {l6 : Option pmV} {l7 : Option pmV} (h1 : x5 = 0) : pq_Rn C (172, 68, [some (vR 10 0 0), some (vI x1), some (vI x2), some (vI x3), some (vI x4), some (vI x5), l6, l7], [], σ) = some (some (vI x4), (pm_wi σ 10 0 42 0 x3)) := by
  refine (e_n 1 (fr' := (172, 70, [some (vR 10 0 0), some (vI x1), some (vI x2), some (vI x3), some (vI x4), some (vI x5), l6, l7], [vI x5], σ)) rfl).trans ?_
  refine (e_t (A := (172, 131, [some (vR 10 0 0), some (vI x1), some (vI x2), some (vI x3), some (vI x4), some (vI x5), l6, l7], [], σ)) rfl h1).trans ?_
  refine (e_n 4 (fr' := (172, 138, [some (vR 10 0 0), some (vI x1), some (vI x2), some (vI x3), some (vI x4), some (vI x5), l6, l7], [vI x4], (pm_wi σ 10 0 42 0 x3))) rfl).trans ?_
  exact e_r rfl
set_option maxRecDepth 20000 in
theorem g172_68_1 (C : pmC) {σ : pmS} {x1 : Int32} {x2 : Int32} {x3 : Int32} {x4 : Int32} {x5 : Int32} {l6 : Option pmV} {l7 : Option pmV} {σ1 : pmS} {r1 : Int32} {σ2 : pmS} {r2 : Int32} (h1 : ¬ x5 = 0) (h2 : C 169 [vR 10 0 0, vI x1, vI x2] σ = some (some (vI r1), σ1)) (h3 : r1 ≤ x4) (h4 : C 170 [vR 10 0 0, vI x3] σ1 = some (some (vI r2), σ2)) : pq_Rn C (172, 68, [some (vR 10 0 0), some (vI x1), some (vI x2), some (vI x3), some (vI x4), some (vI x5), l6, l7], [], σ) = pq_Rn C (172, 68, [some (vR 10 0 0), some (vI x1), some (vI x2), some (vI x3), some (vI x4), some (vI r2), some (vI r1), l7], [], σ2) := by
  refine (e_n 1 (fr' := (172, 70, [some (vR 10 0 0), some (vI x1), some (vI x2), some (vI x3), some (vI x4), some (vI x5), l6, l7], [vI x5], σ)) rfl).trans ?_
  refine (e_f (B := (172, 73, [some (vR 10 0 0), some (vI x1), some (vI x2), some (vI x3), some (vI x4), some (vI x5), l6, l7], [], σ)) rfl h1).trans ?_
  refine (e_n 3 (fr' := (172, 76, [some (vR 10 0 0), some (vI x1), some (vI x2), some (vI x3), some (vI x4), some (vI x5), l6, l7], [vI x2, vI x1, vR 10 0 0], σ)) rfl).trans ?_
  refine (e_ci (m := 172) (pc := 79) (ls := [some (vR 10 0 0), some (vI x1), some (vI x2), some (vI x3), some (vI x4), some (vI x5), l6, l7]) (rest := []) rfl h2).trans ?_
  refine (e_n 3 (fr' := (172, 85, [some (vR 10 0 0), some (vI x1), some (vI x2), some (vI x3), some (vI x4), some (vI x5), some (vI r1), l7], [vI x4, vI r1], σ1)) rfl).trans ?_
  refine (e_t (A := (172, 121, [some (vR 10 0 0), some (vI x1), some (vI x2), some (vI x3), some (vI x4), some (vI x5), some (vI r1), l7], [], σ1)) rfl h3).trans ?_
  refine (e_n 2 (fr' := (172, 123, [some (vR 10 0 0), some (vI x1), some (vI x2), some (vI x3), some (vI x4), some (vI x5), some (vI r1), l7], [vI x3, vR 10 0 0], σ1)) rfl).trans ?_
  refine (e_ci (m := 172) (pc := 126) (ls := [some (vR 10 0 0), some (vI x1), some (vI x2), some (vI x3), some (vI x4), some (vI x5), some (vI r1), l7]) (rest := []) rfl h4).trans ?_
  exact e_n 2 rfl
set_option maxRecDepth 20000 in
theorem g172_68_2 (C : pmC) {σ : pmS} {x1 : Int32} {x2 : Int32} {x3 : Int32} {x4 : Int32} {x5 : Int32} {l6 : Option pmV} {l7 : Option pmV} {σ1 : pmS} {r1 : Int32} (h1 : ¬ x5 = 0) (h2 : C 169 [vR 10 0 0, vI x1, vI x2] σ = some (some (vI r1), σ1)) (h3 : ¬ r1 ≤ x4) : pq_Rn C (172, 68, [some (vR 10 0 0), some (vI x1), some (vI x2), some (vI x3), some (vI x4), some (vI x5), l6, l7], [], σ) = pq_Rn C (172, 95, [some (vR 10 0 0), some (vI x1), some (vI x2), some (vI x3), some (vI r1), some (vI x5), some (vI r1), some (vI (0 : Int32))], [], σ1) := by
  refine (e_n 1 (fr' := (172, 70, [some (vR 10 0 0), some (vI x1), some (vI x2), some (vI x3), some (vI x4), some (vI x5), l6, l7], [vI x5], σ)) rfl).trans ?_
  refine (e_f (B := (172, 73, [some (vR 10 0 0), some (vI x1), some (vI x2), some (vI x3), some (vI x4), some (vI x5), l6, l7], [], σ)) rfl h1).trans ?_
  refine (e_n 3 (fr' := (172, 76, [some (vR 10 0 0), some (vI x1), some (vI x2), some (vI x3), some (vI x4), some (vI x5), l6, l7], [vI x2, vI x1, vR 10 0 0], σ)) rfl).trans ?_
  refine (e_ci (m := 172) (pc := 79) (ls := [some (vR 10 0 0), some (vI x1), some (vI x2), some (vI x3), some (vI x4), some (vI x5), l6, l7]) (rest := []) rfl h2).trans ?_
  refine (e_n 3 (fr' := (172, 85, [some (vR 10 0 0), some (vI x1), some (vI x2), some (vI x3), some (vI x4), some (vI x5), some (vI r1), l7], [vI x4, vI r1], σ1)) rfl).trans ?_
  refine (e_f (B := (172, 88, [some (vR 10 0 0), some (vI x1), some (vI x2), some (vI x3), some (vI x4), some (vI x5), some (vI r1), l7], [], σ1)) rfl h3).trans ?_
  exact e_n 4 rfl
set_option maxRecDepth 20000 in
theorem g172_95_0 (C : pmC) {σ : pmS} {x1 : Int32} {x2 : Int32} {x3 : Int32} {x4 : Int32} {l5 : Option pmV} {l6 : Option pmV} {x7 : Int32} {σ1 : pmS} {r1 : Int32} (h1 : x3 ≤ x7) (h2 : C 170 [vR 10 0 0, vI x3] σ = some (some (vI r1), σ1)) : pq_Rn C (172, 95, [some (vR 10 0 0), some (vI x1), some (vI x2), some (vI x3), some (vI x4), l5, l6, some (vI x7)], [], σ) = pq_Rn C (172, 68, [some (vR 10 0 0), some (vI x1), some (vI x2), some (vI x3), some (vI x4), some (vI r1), l6, some (vI x7)], [], σ1) := by
  refine (e_n 2 (fr' := (172, 98, [some (vR 10 0 0), some (vI x1), some (vI x2), some (vI x3), some (vI x4), l5, l6, some (vI x7)], [vI x3, vI x7], σ)) rfl).trans ?_
  refine (e_t (A := (172, 121, [some (vR 10 0 0), some (vI x1), some (vI x2), some (vI x3), some (vI x4), l5, l6, some (vI x7)], [], σ)) rfl h1).trans ?_
  refine (e_n 2 (fr' := (172, 123, [some (vR 10 0 0), some (vI x1), some (vI x2), some (vI x3), some (vI x4), l5, l6, some (vI x7)], [vI x3, vR 10 0 0], σ)) rfl).trans ?_
  refine (e_ci (m := 172) (pc := 126) (ls := [some (vR 10 0 0), some (vI x1), some (vI x2), some (vI x3), some (vI x4), l5, l6, some (vI x7)]) (rest := []) rfl h2).trans ?_
  exact e_n 2 rfl
set_option maxRecDepth 20000 in
theorem g172_95_1 (C : pmC) {σ : pmS} {x1 : Int32} {x2 : Int32} {x3 : Int32} {x4 : Int32} {l5 : Option pmV} {l6 : Option pmV} {x7 : Int32} (h1 : ¬ x3 ≤ x7) (h2 : vp_in x7 8) : pq_Rn C (172, 95, [some (vR 10 0 0), some (vI x1), some (vI x2), some (vI x3), some (vI x4), l5, l6, some (vI x7)], [], σ) = pq_Rn C (172, 95, [some (vR 10 0 0), some (vI x1), some (vI x2), some (vI x3), some (vI x4), l5, l6, some (vI (x7 + (1 : Int32)))], [], (pm_wi σ 10 0 41 (x7).toNatClampNeg (σ.1 10 0 40 (x7).toNatClampNeg))) := by
  refine (e_n 2 (fr' := (172, 98, [some (vR 10 0 0), some (vI x1), some (vI x2), some (vI x3), some (vI x4), l5, l6, some (vI x7)], [vI x3, vI x7], σ)) rfl).trans ?_
  refine (e_f (B := (172, 101, [some (vR 10 0 0), some (vI x1), some (vI x2), some (vI x3), some (vI x4), l5, l6, some (vI x7)], [], σ)) rfl h1).trans ?_
  refine (e_n 6 (fr' := (172, 113, [some (vR 10 0 0), some (vI x1), some (vI x2), some (vI x3), some (vI x4), l5, l6, some (vI x7)], [vI x7, vR 10 0 41, vI x7, vR 10 0 42], σ)) rfl).trans ?_
  refine (e_a (A := (172, 114, [some (vR 10 0 0), some (vI x1), some (vI x2), some (vI x3), some (vI x4), l5, l6, some (vI x7)], [vI (σ.1 10 0 40 (x7).toNatClampNeg), vI x7, vR 10 0 42], σ)) rfl h2).trans ?_
  refine (e_a (A := (172, 115, [some (vR 10 0 0), some (vI x1), some (vI x2), some (vI x3), some (vI x4), l5, l6, some (vI x7)], [], (pm_wi σ 10 0 41 (x7).toNatClampNeg (σ.1 10 0 40 (x7).toNatClampNeg)))) rfl h2).trans ?_
  exact e_n 2 rfl
set_option maxRecDepth 20000 in
theorem g173_0_0 (C : pmC) {σ : pmS} {x1 : Int32} {σ1 : pmS} {r1 : Int32} (h1 : C 105 [vL (x1).toInt64, vL (0 : Int64), vL (((σ.1 10 0 42 0) - (1 : Int32))).toInt64] σ = some (some (vI r1), σ1)) (h2 : r1 = 0) : pq_Rn C (173, 0, [some (vR 10 0 0), some (vI x1)], [], σ) = some (some (vI (-1 : Int32)), σ1) := by
  refine (e_n 8 (fr' := (173, 10, [some (vR 10 0 0), some (vI x1)], [vL (((σ.1 10 0 42 0) - (1 : Int32))).toInt64, vL (0 : Int64), vL (x1).toInt64], σ)) rfl).trans ?_
  refine (e_ci (m := 173) (pc := 13) (ls := [some (vR 10 0 0), some (vI x1)]) (rest := []) rfl h1).trans ?_
  refine (e_t (A := (173, 25, [some (vR 10 0 0), some (vI x1)], [], σ1)) rfl h2).trans ?_
  refine (e_n 1 (fr' := (173, 26, [some (vR 10 0 0), some (vI x1)], [vI (-1 : Int32)], σ1)) rfl).trans ?_
  exact e_r rfl
set_option maxRecDepth 20000 in
theorem g173_0_1 (C : pmC) {σ : pmS} {x1 : Int32} {σ1 : pmS} {r1 : Int32} (h1 : C 105 [vL (x1).toInt64, vL (0 : Int64), vL (((σ.1 10 0 42 0) - (1 : Int32))).toInt64] σ = some (some (vI r1), σ1)) (h2 : ¬ r1 = 0) (h3 : vp_in x1 8) : pq_Rn C (173, 0, [some (vR 10 0 0), some (vI x1)], [], σ) = some (some (vI (σ1.1 10 0 41 (x1).toNatClampNeg)), σ1) := by
  refine (e_n 8 (fr' := (173, 10, [some (vR 10 0 0), some (vI x1)], [vL (((σ.1 10 0 42 0) - (1 : Int32))).toInt64, vL (0 : Int64), vL (x1).toInt64], σ)) rfl).trans ?_
  refine (e_ci (m := 173) (pc := 13) (ls := [some (vR 10 0 0), some (vI x1)]) (rest := []) rfl h1).trans ?_
  refine (e_f (B := (173, 16, [some (vR 10 0 0), some (vI x1)], [], σ1)) rfl h2).trans ?_
  refine (e_n 3 (fr' := (173, 21, [some (vR 10 0 0), some (vI x1)], [vI x1, vR 10 0 42], σ1)) rfl).trans ?_
  refine (e_a (A := (173, 22, [some (vR 10 0 0), some (vI x1)], [vI (σ1.1 10 0 41 (x1).toNatClampNeg)], σ1)) rfl h3).trans ?_
  refine (e_n 1 (fr' := (173, 26, [some (vR 10 0 0), some (vI x1)], [vI (σ1.1 10 0 41 (x1).toNatClampNeg)], σ1)) rfl).trans ?_
  exact e_r rfl
set_option maxRecDepth 20000 in
theorem g174_0_0 (C : pmC) {σ : pmS} {l1 : Option pmV} {l2 : Option pmV} {l3 : Option pmV} {l4 : Option pmV} {l5 : Option pmV} {l6 : Option pmV}  : pq_Rn C (174, 0, [some (vR 10 0 0), l1, l2, l3, l4, l5, l6], [], σ) = pq_Rn C (174, 2, [some (vR 10 0 0), some (vI (0 : Int32)), l2, l3, l4, l5, l6], [], σ) := by
  exact e_n 2 rfl
set_option maxRecDepth 20000 in
theorem g174_2_0 (C : pmC) {σ : pmS} {x1 : Int32} {l2 : Option pmV} {l3 : Option pmV} {l4 : Option pmV} {l5 : Option pmV} {l6 : Option pmV} (h1 : (σ.1 10 0 16 0) ≤ x1) : pq_Rn C (174, 2, [some (vR 10 0 0), some (vI x1), l2, l3, l4, l5, l6], [], σ) = pq_Rn C (174, 251, [some (vR 10 0 0), some (vI (1 : Int32)), some (vI (0 : Int32)), l3, l4, l5, l6], [], σ) := by
  refine (e_n 3 (fr' := (174, 7, [some (vR 10 0 0), some (vI x1), l2, l3, l4, l5, l6], [vI (σ.1 10 0 16 0), vI x1], σ)) rfl).trans ?_
  refine (e_t (A := (174, 247, [some (vR 10 0 0), some (vI x1), l2, l3, l4, l5, l6], [], σ)) rfl h1).trans ?_
  exact e_n 4 rfl
set_option maxRecDepth 20000 in
theorem g174_2_1 (C : pmC) {σ : pmS} {x1 : Int32} {l2 : Option pmV} {l3 : Option pmV} {l4 : Option pmV} {l5 : Option pmV} {l6 : Option pmV} {σ1 : pmS} {r1 : Int32} (h1 : ¬ (σ.1 10 0 16 0) ≤ x1) (h2 : vp_in x1 48) (h3 : C 137 [vR 10 0 0, vI (σ.1 10 0 22 (x1).toNatClampNeg), vI (σ.1 10 0 20 (x1).toNatClampNeg)] σ = some (some (vI r1), σ1)) (h4 : vp_in r1 15) (h5 : (σ1.1 10 0 14 (r1).toNatClampNeg) = 0) : pq_Rn C (174, 2, [some (vR 10 0 0), some (vI x1), l2, l3, l4, l5, l6], [], σ) = pq_Rn C (174, 48, [some (vR 10 0 0), some (vI x1), some (vI r1), some (vI (σ1.1 10 0 13 (r1).toNatClampNeg)), l4, l5, l6], [vI (1 : Int32)], σ1) := by
  refine (e_n 3 (fr' := (174, 7, [some (vR 10 0 0), some (vI x1), l2, l3, l4, l5, l6], [vI (σ.1 10 0 16 0), vI x1], σ)) rfl).trans ?_
  refine (e_f (B := (174, 10, [some (vR 10 0 0), some (vI x1), l2, l3, l4, l5, l6], [], σ)) rfl h1).trans ?_
  refine (e_n 4 (fr' := (174, 16, [some (vR 10 0 0), some (vI x1), l2, l3, l4, l5, l6], [vI x1, vR 10 0 23, vR 10 0 0], σ)) rfl).trans ?_
  refine (e_a (A := (174, 17, [some (vR 10 0 0), some (vI x1), l2, l3, l4, l5, l6], [vI (σ.1 10 0 22 (x1).toNatClampNeg), vR 10 0 0], σ)) rfl h2).trans ?_
  refine (e_n 3 (fr' := (174, 22, [some (vR 10 0 0), some (vI x1), l2, l3, l4, l5, l6], [vI x1, vR 10 0 21, vI (σ.1 10 0 22 (x1).toNatClampNeg), vR 10 0 0], σ)) rfl).trans ?_
  refine (e_a (A := (174, 23, [some (vR 10 0 0), some (vI x1), l2, l3, l4, l5, l6], [vI (σ.1 10 0 20 (x1).toNatClampNeg), vI (σ.1 10 0 22 (x1).toNatClampNeg), vR 10 0 0], σ)) rfl h2).trans ?_
  refine (e_ci (m := 174) (pc := 26) (ls := [some (vR 10 0 0), some (vI x1), l2, l3, l4, l5, l6]) (rest := []) rfl h3).trans ?_
  refine (e_n 4 (fr' := (174, 32, [some (vR 10 0 0), some (vI x1), some (vI r1), l3, l4, l5, l6], [vI r1, vR 10 0 14], σ1)) rfl).trans ?_
  refine (e_a (A := (174, 33, [some (vR 10 0 0), some (vI x1), some (vI r1), l3, l4, l5, l6], [vI (σ1.1 10 0 13 (r1).toNatClampNeg)], σ1)) rfl h4).trans ?_
  refine (e_n 4 (fr' := (174, 39, [some (vR 10 0 0), some (vI x1), some (vI r1), some (vI (σ1.1 10 0 13 (r1).toNatClampNeg)), l4, l5, l6], [vI r1, vR 10 0 15], σ1)) rfl).trans ?_
  refine (e_a (A := (174, 40, [some (vR 10 0 0), some (vI x1), some (vI r1), some (vI (σ1.1 10 0 13 (r1).toNatClampNeg)), l4, l5, l6], [vI (σ1.1 10 0 14 (r1).toNatClampNeg)], σ1)) rfl h4).trans ?_
  refine (e_t (A := (174, 43, [some (vR 10 0 0), some (vI x1), some (vI r1), some (vI (σ1.1 10 0 13 (r1).toNatClampNeg)), l4, l5, l6], [], σ1)) rfl h5).trans ?_
  exact e_n 2 rfl
set_option maxRecDepth 20000 in
theorem g174_2_2 (C : pmC) {σ : pmS} {x1 : Int32} {l2 : Option pmV} {l3 : Option pmV} {l4 : Option pmV} {l5 : Option pmV} {l6 : Option pmV} {σ1 : pmS} {r1 : Int32} (h1 : ¬ (σ.1 10 0 16 0) ≤ x1) (h2 : vp_in x1 48) (h3 : C 137 [vR 10 0 0, vI (σ.1 10 0 22 (x1).toNatClampNeg), vI (σ.1 10 0 20 (x1).toNatClampNeg)] σ = some (some (vI r1), σ1)) (h4 : vp_in r1 15) (h5 : ¬ (σ1.1 10 0 14 (r1).toNatClampNeg) = 0) : pq_Rn C (174, 2, [some (vR 10 0 0), some (vI x1), l2, l3, l4, l5, l6], [], σ) = pq_Rn C (174, 48, [some (vR 10 0 0), some (vI x1), some (vI r1), some (vI (σ1.1 10 0 13 (r1).toNatClampNeg)), l4, l5, l6], [vI (0 : Int32)], σ1) := by
  refine (e_n 3 (fr' := (174, 7, [some (vR 10 0 0), some (vI x1), l2, l3, l4, l5, l6], [vI (σ.1 10 0 16 0), vI x1], σ)) rfl).trans ?_
  refine (e_f (B := (174, 10, [some (vR 10 0 0), some (vI x1), l2, l3, l4, l5, l6], [], σ)) rfl h1).trans ?_
  refine (e_n 4 (fr' := (174, 16, [some (vR 10 0 0), some (vI x1), l2, l3, l4, l5, l6], [vI x1, vR 10 0 23, vR 10 0 0], σ)) rfl).trans ?_
  refine (e_a (A := (174, 17, [some (vR 10 0 0), some (vI x1), l2, l3, l4, l5, l6], [vI (σ.1 10 0 22 (x1).toNatClampNeg), vR 10 0 0], σ)) rfl h2).trans ?_
  refine (e_n 3 (fr' := (174, 22, [some (vR 10 0 0), some (vI x1), l2, l3, l4, l5, l6], [vI x1, vR 10 0 21, vI (σ.1 10 0 22 (x1).toNatClampNeg), vR 10 0 0], σ)) rfl).trans ?_
  refine (e_a (A := (174, 23, [some (vR 10 0 0), some (vI x1), l2, l3, l4, l5, l6], [vI (σ.1 10 0 20 (x1).toNatClampNeg), vI (σ.1 10 0 22 (x1).toNatClampNeg), vR 10 0 0], σ)) rfl h2).trans ?_
  refine (e_ci (m := 174) (pc := 26) (ls := [some (vR 10 0 0), some (vI x1), l2, l3, l4, l5, l6]) (rest := []) rfl h3).trans ?_
  refine (e_n 4 (fr' := (174, 32, [some (vR 10 0 0), some (vI x1), some (vI r1), l3, l4, l5, l6], [vI r1, vR 10 0 14], σ1)) rfl).trans ?_
  refine (e_a (A := (174, 33, [some (vR 10 0 0), some (vI x1), some (vI r1), l3, l4, l5, l6], [vI (σ1.1 10 0 13 (r1).toNatClampNeg)], σ1)) rfl h4).trans ?_
  refine (e_n 4 (fr' := (174, 39, [some (vR 10 0 0), some (vI x1), some (vI r1), some (vI (σ1.1 10 0 13 (r1).toNatClampNeg)), l4, l5, l6], [vI r1, vR 10 0 15], σ1)) rfl).trans ?_
  refine (e_a (A := (174, 40, [some (vR 10 0 0), some (vI x1), some (vI r1), some (vI (σ1.1 10 0 13 (r1).toNatClampNeg)), l4, l5, l6], [vI (σ1.1 10 0 14 (r1).toNatClampNeg)], σ1)) rfl h4).trans ?_
  refine (e_f (B := (174, 47, [some (vR 10 0 0), some (vI x1), some (vI r1), some (vI (σ1.1 10 0 13 (r1).toNatClampNeg)), l4, l5, l6], [], σ1)) rfl h5).trans ?_
  exact e_n 1 rfl
set_option maxRecDepth 20000 in
theorem g174_48_0 (C : pmC) {σ : pmS} {x1 : Int32} {l2 : Option pmV} {x3 : Int32} {l4 : Option pmV} {l5 : Option pmV} {l6 : Option pmV} {s0 : Int32} (h1 : vp_in x1 48) (h2 : 0 ≤ (σ.1 10 0 23 (x1).toNatClampNeg)) (h3 : s0 = 0) : pq_Rn C (174, 48, [some (vR 10 0 0), some (vI x1), l2, some (vI x3), l4, l5, l6], [vI s0], σ) = pq_Rn C (174, 83, [some (vR 10 0 0), some (vI x1), l2, some (vI x3), some (vI s0), l5, l6], [vI (σ.1 10 0 24 (x1).toNatClampNeg)], σ) := by
  refine (e_n 4 (fr' := (174, 55, [some (vR 10 0 0), some (vI x1), l2, some (vI x3), some (vI s0), l5, l6], [vI x1, vR 10 0 24], σ)) rfl).trans ?_
  refine (e_a (A := (174, 56, [some (vR 10 0 0), some (vI x1), l2, some (vI x3), some (vI s0), l5, l6], [vI (σ.1 10 0 23 (x1).toNatClampNeg)], σ)) rfl h1).trans ?_
  refine (e_t (A := (174, 63, [some (vR 10 0 0), some (vI x1), l2, some (vI x3), some (vI s0), l5, l6], [], σ)) rfl h2).trans ?_
  refine (e_n 1 (fr' := (174, 65, [some (vR 10 0 0), some (vI x1), l2, some (vI x3), some (vI s0), l5, l6], [vI s0], σ)) rfl).trans ?_
  refine (e_t (A := (174, 77, [some (vR 10 0 0), some (vI x1), l2, some (vI x3), some (vI s0), l5, l6], [], σ)) rfl h3).trans ?_
  refine (e_n 3 (fr' := (174, 82, [some (vR 10 0 0), some (vI x1), l2, some (vI x3), some (vI s0), l5, l6], [vI x1, vR 10 0 25], σ)) rfl).trans ?_
  exact e_a (A := (174, 83, [some (vR 10 0 0), some (vI x1), l2, some (vI x3), some (vI s0), l5, l6], [vI (σ.1 10 0 24 (x1).toNatClampNeg)], σ)) rfl h1
set_option maxRecDepth 20000 in
theorem g174_48_1 (C : pmC) {σ : pmS} {x1 : Int32} {l2 : Option pmV} {x3 : Int32} {l4 : Option pmV} {l5 : Option pmV} {l6 : Option pmV} {s0 : Int32} (h1 : vp_in x1 48) (h2 : 0 ≤ (σ.1 10 0 23 (x1).toNatClampNeg)) (h3 : ¬ s0 = 0) : pq_Rn C (174, 48, [some (vR 10 0 0), some (vI x1), l2, some (vI x3), l4, l5, l6], [vI s0], σ) = pq_Rn C (174, 83, [some (vR 10 0 0), some (vI x1), l2, some (vI x3), some (vI s0), l5, l6], [vI (σ.1 10 0 23 (x1).toNatClampNeg)], σ) := by
  refine (e_n 4 (fr' := (174, 55, [some (vR 10 0 0), some (vI x1), l2, some (vI x3), some (vI s0), l5, l6], [vI x1, vR 10 0 24], σ)) rfl).trans ?_
  refine (e_a (A := (174, 56, [some (vR 10 0 0), some (vI x1), l2, some (vI x3), some (vI s0), l5, l6], [vI (σ.1 10 0 23 (x1).toNatClampNeg)], σ)) rfl h1).trans ?_
  refine (e_t (A := (174, 63, [some (vR 10 0 0), some (vI x1), l2, some (vI x3), some (vI s0), l5, l6], [], σ)) rfl h2).trans ?_
  refine (e_n 1 (fr' := (174, 65, [some (vR 10 0 0), some (vI x1), l2, some (vI x3), some (vI s0), l5, l6], [vI s0], σ)) rfl).trans ?_
  refine (e_f (B := (174, 68, [some (vR 10 0 0), some (vI x1), l2, some (vI x3), some (vI s0), l5, l6], [], σ)) rfl h3).trans ?_
  refine (e_n 3 (fr' := (174, 73, [some (vR 10 0 0), some (vI x1), l2, some (vI x3), some (vI s0), l5, l6], [vI x1, vR 10 0 24], σ)) rfl).trans ?_
  refine (e_a (A := (174, 74, [some (vR 10 0 0), some (vI x1), l2, some (vI x3), some (vI s0), l5, l6], [vI (σ.1 10 0 23 (x1).toNatClampNeg)], σ)) rfl h1).trans ?_
  exact e_n 1 rfl
set_option maxRecDepth 20000 in
theorem g174_48_2 (C : pmC) {σ : pmS} {x1 : Int32} {l2 : Option pmV} {x3 : Int32} {l4 : Option pmV} {l5 : Option pmV} {l6 : Option pmV} {s0 : Int32} (h1 : vp_in x1 48) (h2 : ¬ 0 ≤ (σ.1 10 0 23 (x1).toNatClampNeg)) : pq_Rn C (174, 48, [some (vR 10 0 0), some (vI x1), l2, some (vI x3), l4, l5, l6], [vI s0], σ) = pq_Rn C (174, 83, [some (vR 10 0 0), some (vI x1), l2, some (vI x3), some (vI s0), l5, l6], [vI (-1 : Int32)], σ) := by
  refine (e_n 4 (fr' := (174, 55, [some (vR 10 0 0), some (vI x1), l2, some (vI x3), some (vI s0), l5, l6], [vI x1, vR 10 0 24], σ)) rfl).trans ?_
  refine (e_a (A := (174, 56, [some (vR 10 0 0), some (vI x1), l2, some (vI x3), some (vI s0), l5, l6], [vI (σ.1 10 0 23 (x1).toNatClampNeg)], σ)) rfl h1).trans ?_
  refine (e_f (B := (174, 59, [some (vR 10 0 0), some (vI x1), l2, some (vI x3), some (vI s0), l5, l6], [], σ)) rfl h2).trans ?_
  exact e_n 2 rfl
set_option maxRecDepth 20000 in
theorem g174_83_0 (C : pmC) {σ : pmS} {x1 : Int32} {l2 : Option pmV} {x3 : Int32} {x4 : Int32} {l5 : Option pmV} {l6 : Option pmV} {s0 : Int32} (h1 : 0 ≤ s0) (h2 : vp_in s0 48) : pq_Rn C (174, 83, [some (vR 10 0 0), some (vI x1), l2, some (vI x3), some (vI x4), l5, l6], [vI s0], σ) = pq_Rn C (174, 106, [some (vR 10 0 0), some (vI x1), l2, some (vI x3), some (vI x4), some (vI s0), l6], [vI (σ.1 10 0 43 (s0).toNatClampNeg), vI x1, vR 10 0 44], σ) := by
  refine (e_n 5 (fr' := (174, 92, [some (vR 10 0 0), some (vI x1), l2, some (vI x3), some (vI x4), some (vI s0), l6], [vI s0, vI x1, vR 10 0 44], σ)) rfl).trans ?_
  refine (e_t (A := (174, 99, [some (vR 10 0 0), some (vI x1), l2, some (vI x3), some (vI x4), some (vI s0), l6], [vI x1, vR 10 0 44], σ)) rfl h1).trans ?_
  refine (e_n 3 (fr' := (174, 105, [some (vR 10 0 0), some (vI x1), l2, some (vI x3), some (vI x4), some (vI s0), l6], [vI s0, vR 10 0 44, vI x1, vR 10 0 44], σ)) rfl).trans ?_
  exact e_a (A := (174, 106, [some (vR 10 0 0), some (vI x1), l2, some (vI x3), some (vI x4), some (vI s0), l6], [vI (σ.1 10 0 43 (s0).toNatClampNeg), vI x1, vR 10 0 44], σ)) rfl h2
set_option maxRecDepth 20000 in
theorem g174_83_1 (C : pmC) {σ : pmS} {x1 : Int32} {l2 : Option pmV} {x3 : Int32} {x4 : Int32} {l5 : Option pmV} {l6 : Option pmV} {s0 : Int32} (h1 : ¬ 0 ≤ s0) : pq_Rn C (174, 83, [some (vR 10 0 0), some (vI x1), l2, some (vI x3), some (vI x4), l5, l6], [vI s0], σ) = pq_Rn C (174, 106, [some (vR 10 0 0), some (vI x1), l2, some (vI x3), some (vI x4), some (vI s0), l6], [vI x1, vI x1, vR 10 0 44], σ) := by
  refine (e_n 5 (fr' := (174, 92, [some (vR 10 0 0), some (vI x1), l2, some (vI x3), some (vI x4), some (vI s0), l6], [vI s0, vI x1, vR 10 0 44], σ)) rfl).trans ?_
  refine (e_f (B := (174, 95, [some (vR 10 0 0), some (vI x1), l2, some (vI x3), some (vI x4), some (vI s0), l6], [vI x1, vR 10 0 44], σ)) rfl h1).trans ?_
  exact e_n 2 rfl
set_option maxRecDepth 20000 in
theorem g174_106_0 (C : pmC) {σ : pmS} {x1 : Int32} {l2 : Option pmV} {x3 : Int32} {x4 : Int32} {x5 : Int32} {l6 : Option pmV} {s2 : Int32} {s1 : Int32} (h1 : vp_in s1 48) (h2 : 0 ≤ x5) : pq_Rn C (174, 106, [some (vR 10 0 0), some (vI x1), l2, some (vI x3), some (vI x4), some (vI x5), l6], [vI s2, vI s1, vR 10 0 44], σ) = pq_Rn C (174, 148, [some (vR 10 0 0), some (vI x1), l2, some (vI x3), some (vI x4), some (vI x5), l6], [], (pm_wi σ 10 0 43 (s1).toNatClampNeg s2)) := by
  refine (e_a (A := (174, 107, [some (vR 10 0 0), some (vI x1), l2, some (vI x3), some (vI x4), some (vI x5), l6], [], (pm_wi σ 10 0 43 (s1).toNatClampNeg s2))) rfl h1).trans ?_
  refine (e_n 1 (fr' := (174, 109, [some (vR 10 0 0), some (vI x1), l2, some (vI x3), some (vI x4), some (vI x5), l6], [vI x5], (pm_wi σ 10 0 43 (s1).toNatClampNeg s2))) rfl).trans ?_
  exact e_t (A := (174, 148, [some (vR 10 0 0), some (vI x1), l2, some (vI x3), some (vI x4), some (vI x5), l6], [], (pm_wi σ 10 0 43 (s1).toNatClampNeg s2))) rfl h2
set_option maxRecDepth 20000 in
theorem g174_106_1 (C : pmC) {σ : pmS} {x1 : Int32} {l2 : Option pmV} {x3 : Int32} {x4 : Int32} {x5 : Int32} {l6 : Option pmV} {s2 : Int32} {s1 : Int32} (h1 : vp_in s1 48) (h2 : ¬ 0 ≤ x5) (h3 : vp_in x1 48) (h4 : (σ.1 10 0 25 (x1).toNatClampNeg) < 0) (h5 : vp_in x3 4) : pq_Rn C (174, 106, [some (vR 10 0 0), some (vI x1), l2, some (vI x3), some (vI x4), some (vI x5), l6], [vI s2, vI s1, vR 10 0 44], σ) = pq_Rn C (174, 147, [some (vR 10 0 0), some (vI x1), l2, some (vI x3), some (vI x4), some (vI x5), l6], [vI (((1 : Int32) <<< ((σ.1 10 0 0 (x3).toNatClampNeg) &&& 31)) - (1 : Int32)), vI x1, vR 10 0 46], (pm_wi σ 10 0 43 (s1).toNatClampNeg s2)) := by
  refine (e_a (A := (174, 107, [some (vR 10 0 0), some (vI x1), l2, some (vI x3), some (vI x4), some (vI x5), l6], [], (pm_wi σ 10 0 43 (s1).toNatClampNeg s2))) rfl h1).trans ?_
  refine (e_n 1 (fr' := (174, 109, [some (vR 10 0 0), some (vI x1), l2, some (vI x3), some (vI x4), some (vI x5), l6], [vI x5], (pm_wi σ 10 0 43 (s1).toNatClampNeg s2))) rfl).trans ?_
  refine (e_f (B := (174, 112, [some (vR 10 0 0), some (vI x1), l2, some (vI x3), some (vI x4), some (vI x5), l6], [], (pm_wi σ 10 0 43 (s1).toNatClampNeg s2))) rfl h2).trans ?_
  refine (e_n 6 (fr' := (174, 122, [some (vR 10 0 0), some (vI x1), l2, some (vI x3), some (vI x4), some (vI x5), l6], [vI x1, vR 10 0 26, vI x1, vR 10 0 46], (pm_wi σ 10 0 43 (s1).toNatClampNeg s2))) rfl).trans ?_
  refine (e_a (A := (174, 123, [some (vR 10 0 0), some (vI x1), l2, some (vI x3), some (vI x4), some (vI x5), l6], [vI (σ.1 10 0 25 (x1).toNatClampNeg), vI x1, vR 10 0 46], (pm_wi σ 10 0 43 (s1).toNatClampNeg s2))) rfl h3).trans ?_
  refine (e_t (A := (174, 137, [some (vR 10 0 0), some (vI x1), l2, some (vI x3), some (vI x4), some (vI x5), l6], [vI x1, vR 10 0 46], (pm_wi σ 10 0 43 (s1).toNatClampNeg s2))) rfl h4).trans ?_
  refine (e_n 4 (fr' := (174, 143, [some (vR 10 0 0), some (vI x1), l2, some (vI x3), some (vI x4), some (vI x5), l6], [vI x3, vR 10 0 1, vI (1 : Int32), vI x1, vR 10 0 46], (pm_wi σ 10 0 43 (s1).toNatClampNeg s2))) rfl).trans ?_
  refine (e_a (A := (174, 144, [some (vR 10 0 0), some (vI x1), l2, some (vI x3), some (vI x4), some (vI x5), l6], [vI (σ.1 10 0 0 (x3).toNatClampNeg), vI (1 : Int32), vI x1, vR 10 0 46], (pm_wi σ 10 0 43 (s1).toNatClampNeg s2))) rfl h5).trans ?_
  exact e_n 3 rfl
set_option maxRecDepth 20000 in
theorem g174_106_2 (C : pmC) {σ : pmS} {x1 : Int32} {l2 : Option pmV} {x3 : Int32} {x4 : Int32} {x5 : Int32} {l6 : Option pmV} {s2 : Int32} {s1 : Int32} (h1 : vp_in s1 48) (h2 : ¬ 0 ≤ x5) (h3 : vp_in x1 48) (h4 : ¬ (σ.1 10 0 25 (x1).toNatClampNeg) < 0) : pq_Rn C (174, 106, [some (vR 10 0 0), some (vI x1), l2, some (vI x3), some (vI x4), some (vI x5), l6], [vI s2, vI s1, vR 10 0 44], σ) = pq_Rn C (174, 147, [some (vR 10 0 0), some (vI x1), l2, some (vI x3), some (vI x4), some (vI x5), l6], [vI ((1 : Int32) <<< ((σ.1 10 0 25 (x1).toNatClampNeg) &&& 31)), vI x1, vR 10 0 46], (pm_wi σ 10 0 43 (s1).toNatClampNeg s2)) := by
  refine (e_a (A := (174, 107, [some (vR 10 0 0), some (vI x1), l2, some (vI x3), some (vI x4), some (vI x5), l6], [], (pm_wi σ 10 0 43 (s1).toNatClampNeg s2))) rfl h1).trans ?_
  refine (e_n 1 (fr' := (174, 109, [some (vR 10 0 0), some (vI x1), l2, some (vI x3), some (vI x4), some (vI x5), l6], [vI x5], (pm_wi σ 10 0 43 (s1).toNatClampNeg s2))) rfl).trans ?_
  refine (e_f (B := (174, 112, [some (vR 10 0 0), some (vI x1), l2, some (vI x3), some (vI x4), some (vI x5), l6], [], (pm_wi σ 10 0 43 (s1).toNatClampNeg s2))) rfl h2).trans ?_
  refine (e_n 6 (fr' := (174, 122, [some (vR 10 0 0), some (vI x1), l2, some (vI x3), some (vI x4), some (vI x5), l6], [vI x1, vR 10 0 26, vI x1, vR 10 0 46], (pm_wi σ 10 0 43 (s1).toNatClampNeg s2))) rfl).trans ?_
  refine (e_a (A := (174, 123, [some (vR 10 0 0), some (vI x1), l2, some (vI x3), some (vI x4), some (vI x5), l6], [vI (σ.1 10 0 25 (x1).toNatClampNeg), vI x1, vR 10 0 46], (pm_wi σ 10 0 43 (s1).toNatClampNeg s2))) rfl h3).trans ?_
  refine (e_f (B := (174, 126, [some (vR 10 0 0), some (vI x1), l2, some (vI x3), some (vI x4), some (vI x5), l6], [vI x1, vR 10 0 46], (pm_wi σ 10 0 43 (s1).toNatClampNeg s2))) rfl h4).trans ?_
  refine (e_n 4 (fr' := (174, 132, [some (vR 10 0 0), some (vI x1), l2, some (vI x3), some (vI x4), some (vI x5), l6], [vI x1, vR 10 0 26, vI (1 : Int32), vI x1, vR 10 0 46], (pm_wi σ 10 0 43 (s1).toNatClampNeg s2))) rfl).trans ?_
  refine (e_a (A := (174, 133, [some (vR 10 0 0), some (vI x1), l2, some (vI x3), some (vI x4), some (vI x5), l6], [vI (σ.1 10 0 25 (x1).toNatClampNeg), vI (1 : Int32), vI x1, vR 10 0 46], (pm_wi σ 10 0 43 (s1).toNatClampNeg s2))) rfl h3).trans ?_
  exact e_n 2 rfl
set_option maxRecDepth 20000 in
theorem g174_147_0 (C : pmC) {σ : pmS} {x1 : Int32} {l2 : Option pmV} {x3 : Int32} {x4 : Int32} {x5 : Int32} {l6 : Option pmV} {s2 : Int32} {s1 : Int32} (h1 : vp_in s1 48) : pq_Rn C (174, 147, [some (vR 10 0 0), some (vI x1), l2, some (vI x3), some (vI x4), some (vI x5), l6], [vI s2, vI s1, vR 10 0 46], σ) = pq_Rn C (174, 148, [some (vR 10 0 0), some (vI x1), l2, some (vI x3), some (vI x4), some (vI x5), l6], [], (pm_wi σ 10 0 45 (s1).toNatClampNeg s2)) := by
  exact e_a (A := (174, 148, [some (vR 10 0 0), some (vI x1), l2, some (vI x3), some (vI x4), some (vI x5), l6], [], (pm_wi σ 10 0 45 (s1).toNatClampNeg s2))) rfl h1
set_option maxRecDepth 20000 in
theorem g174_148_0 (C : pmC) {σ : pmS} {x1 : Int32} {l2 : Option pmV} {x3 : Int32} {x4 : Int32} {x5 : Int32} {l6 : Option pmV}  : pq_Rn C (174, 148, [some (vR 10 0 0), some (vI x1), l2, some (vI x3), some (vI x4), some (vI x5), l6], [], σ) = pq_Rn C (174, 151, [some (vR 10 0 0), some (vI x1), l2, some (vI x3), some (vI x4), some (vI x5), some (vI (0 : Int32))], [], σ) := by
  exact e_n 2 rfl
set_option maxRecDepth 20000 in
theorem g174_151_0 (C : pmC) {σ : pmS} {x1 : Int32} {l2 : Option pmV} {x3 : Int32} {x4 : Int32} {x5 : Int32} {x6 : Int32} (h1 : (8 : Int32) ≤ x6) : pq_Rn C (174, 151, [some (vR 10 0 0), some (vI x1), l2, some (vI x3), some (vI x4), some (vI x5), some (vI x6)], [], σ) = pq_Rn C (174, 2, [some (vR 10 0 0), some (vI (x1 + (1 : Int32))), l2, some (vI x3), some (vI x4), some (vI x5), some (vI x6)], [], σ) := by
  refine (e_n 2 (fr' := (174, 155, [some (vR 10 0 0), some (vI x1), l2, some (vI x3), some (vI x4), some (vI x5), some (vI x6)], [vI (8 : Int32), vI x6], σ)) rfl).trans ?_
  refine (e_t (A := (174, 241, [some (vR 10 0 0), some (vI x1), l2, some (vI x3), some (vI x4), some (vI x5), some (vI x6)], [], σ)) rfl h1).trans ?_
  exact e_n 2 rfl
set_option maxRecDepth 20000 in
theorem g174_151_1 (C : pmC) {σ : pmS} {x1 : Int32} {l2 : Option pmV} {x3 : Int32} {x4 : Int32} {x5 : Int32} {x6 : Int32} {σ1 : pmS} {r1 : Int32} (h1 : ¬ (8 : Int32) ≤ x6) (h2 : 0 ≤ x5) (h3 : vp_in (((8 : Int32) * x5) + x6) 384) (h4 : C 145 [vR 10 0 0, vI x3, vI (σ.1 10 0 44 ((((8 : Int32) * x5) + x6)).toNatClampNeg), vI x4] σ = some (some (vI r1), σ1)) : pq_Rn C (174, 151, [some (vR 10 0 0), some (vI x1), l2, some (vI x3), some (vI x4), some (vI x5), some (vI x6)], [], σ) = pq_Rn C (174, 199, [some (vR 10 0 0), some (vI x1), l2, some (vI x3), some (vI x4), some (vI x5), some (vI x6)], [vI r1, vI (((8 : Int32) * x1) + x6), vR 10 0 45], σ1) := by
  refine (e_n 2 (fr' := (174, 155, [some (vR 10 0 0), some (vI x1), l2, some (vI x3), some (vI x4), some (vI x5), some (vI x6)], [vI (8 : Int32), vI x6], σ)) rfl).trans ?_
  refine (e_f (B := (174, 158, [some (vR 10 0 0), some (vI x1), l2, some (vI x3), some (vI x4), some (vI x5), some (vI x6)], [], σ)) rfl h1).trans ?_
  refine (e_n 8 (fr' := (174, 171, [some (vR 10 0 0), some (vI x1), l2, some (vI x3), some (vI x4), some (vI x5), some (vI x6)], [vI x5, vI (((8 : Int32) * x1) + x6), vR 10 0 45], σ)) rfl).trans ?_
  refine (e_t (A := (174, 179, [some (vR 10 0 0), some (vI x1), l2, some (vI x3), some (vI x4), some (vI x5), some (vI x6)], [vI (((8 : Int32) * x1) + x6), vR 10 0 45], σ)) rfl h2).trans ?_
  refine (e_n 9 (fr' := (174, 193, [some (vR 10 0 0), some (vI x1), l2, some (vI x3), some (vI x4), some (vI x5), some (vI x6)], [vI (((8 : Int32) * x5) + x6), vR 10 0 45, vI x3, vR 10 0 0, vI (((8 : Int32) * x1) + x6), vR 10 0 45], σ)) rfl).trans ?_
  refine (e_a (A := (174, 194, [some (vR 10 0 0), some (vI x1), l2, some (vI x3), some (vI x4), some (vI x5), some (vI x6)], [vI (σ.1 10 0 44 ((((8 : Int32) * x5) + x6)).toNatClampNeg), vI x3, vR 10 0 0, vI (((8 : Int32) * x1) + x6), vR 10 0 45], σ)) rfl h3).trans ?_
  refine (e_n 1 (fr' := (174, 196, [some (vR 10 0 0), some (vI x1), l2, some (vI x3), some (vI x4), some (vI x5), some (vI x6)], [vI x4, vI (σ.1 10 0 44 ((((8 : Int32) * x5) + x6)).toNatClampNeg), vI x3, vR 10 0 0, vI (((8 : Int32) * x1) + x6), vR 10 0 45], σ)) rfl).trans ?_
  exact e_ci (m := 174) (pc := 199) (ls := [some (vR 10 0 0), some (vI x1), l2, some (vI x3), some (vI x4), some (vI x5), some (vI x6)]) (rest := [vI (((8 : Int32) * x1) + x6), vR 10 0 45]) rfl h4
set_option maxRecDepth 20000 in
theorem g174_151_2 (C : pmC) {σ : pmS} {x1 : Int32} {l2 : Option pmV} {x3 : Int32} {x4 : Int32} {x5 : Int32} {x6 : Int32} (h1 : ¬ (8 : Int32) ≤ x6) (h2 : ¬ 0 ≤ x5) : pq_Rn C (174, 151, [some (vR 10 0 0), some (vI x1), l2, some (vI x3), some (vI x4), some (vI x5), some (vI x6)], [], σ) = pq_Rn C (174, 199, [some (vR 10 0 0), some (vI x1), l2, some (vI x3), some (vI x4), some (vI x5), some (vI x6)], [vI x6, vI (((8 : Int32) * x1) + x6), vR 10 0 45], σ) := by
  refine (e_n 2 (fr' := (174, 155, [some (vR 10 0 0), some (vI x1), l2, some (vI x3), some (vI x4), some (vI x5), some (vI x6)], [vI (8 : Int32), vI x6], σ)) rfl).trans ?_
  refine (e_f (B := (174, 158, [some (vR 10 0 0), some (vI x1), l2, some (vI x3), some (vI x4), some (vI x5), some (vI x6)], [], σ)) rfl h1).trans ?_
  refine (e_n 8 (fr' := (174, 171, [some (vR 10 0 0), some (vI x1), l2, some (vI x3), some (vI x4), some (vI x5), some (vI x6)], [vI x5, vI (((8 : Int32) * x1) + x6), vR 10 0 45], σ)) rfl).trans ?_
  refine (e_f (B := (174, 174, [some (vR 10 0 0), some (vI x1), l2, some (vI x3), some (vI x4), some (vI x5), some (vI x6)], [vI (((8 : Int32) * x1) + x6), vR 10 0 45], σ)) rfl h2).trans ?_
  exact e_n 2 rfl
set_option maxRecDepth 20000 in
theorem g174_199_0 (C : pmC) {σ : pmS} {x1 : Int32} {l2 : Option pmV} {x3 : Int32} {x4 : Int32} {x5 : Int32} {x6 : Int32} {s2 : Int32} {s1 : Int32} (h1 : vp_in s1 384) (h2 : vp_in (((8 : Int32) * x1) + x6) 384) (h3 : 0 ≤ ((pm_wi σ 10 0 44 (s1).toNatClampNeg s2).1 10 0 44 ((((8 : Int32) * x1) + x6)).toNatClampNeg)) : pq_Rn C (174, 199, [some (vR 10 0 0), some (vI x1), l2, some (vI x3), some (vI x4), some (vI x5), some (vI x6)], [vI s2, vI s1, vR 10 0 45], σ) = pq_Rn C (174, 235, [some (vR 10 0 0), some (vI x1), l2, some (vI x3), some (vI x4), some (vI x5), some (vI x6)], [], (pm_wi σ 10 0 44 (s1).toNatClampNeg s2)) := by
  refine (e_a (A := (174, 200, [some (vR 10 0 0), some (vI x1), l2, some (vI x3), some (vI x4), some (vI x5), some (vI x6)], [], (pm_wi σ 10 0 44 (s1).toNatClampNeg s2))) rfl h1).trans ?_
  refine (e_n 7 (fr' := (174, 211, [some (vR 10 0 0), some (vI x1), l2, some (vI x3), some (vI x4), some (vI x5), some (vI x6)], [vI (((8 : Int32) * x1) + x6), vR 10 0 45], (pm_wi σ 10 0 44 (s1).toNatClampNeg s2))) rfl).trans ?_
  refine (e_a (A := (174, 212, [some (vR 10 0 0), some (vI x1), l2, some (vI x3), some (vI x4), some (vI x5), some (vI x6)], [vI ((pm_wi σ 10 0 44 (s1).toNatClampNeg s2).1 10 0 44 ((((8 : Int32) * x1) + x6)).toNatClampNeg)], (pm_wi σ 10 0 44 (s1).toNatClampNeg s2))) rfl h2).trans ?_
  exact e_t (A := (174, 235, [some (vR 10 0 0), some (vI x1), l2, some (vI x3), some (vI x4), some (vI x5), some (vI x6)], [], (pm_wi σ 10 0 44 (s1).toNatClampNeg s2))) rfl h3
set_option maxRecDepth 20000 in
theorem g174_199_1 (C : pmC) {σ : pmS} {x1 : Int32} {l2 : Option pmV} {x3 : Int32} {x4 : Int32} {x5 : Int32} {x6 : Int32} {s2 : Int32} {s1 : Int32} (h1 : vp_in s1 384) (h2 : vp_in (((8 : Int32) * x1) + x6) 384) (h3 : ¬ 0 ≤ ((pm_wi σ 10 0 44 (s1).toNatClampNeg s2).1 10 0 44 ((((8 : Int32) * x1) + x6)).toNatClampNeg)) (h4 : vp_in x1 48) (h5 : vp_in (σ.1 10 0 43 (x1).toNatClampNeg) 48) : pq_Rn C (174, 199, [some (vR 10 0 0), some (vI x1), l2, some (vI x3), some (vI x4), some (vI x5), some (vI x6)], [vI s2, vI s1, vR 10 0 45], σ) = pq_Rn C (174, 235, [some (vR 10 0 0), some (vI x1), l2, some (vI x3), some (vI x4), some (vI x5), some (vI x6)], [], (pm_wi (pm_wi σ 10 0 44 (s1).toNatClampNeg s2) 10 0 45 ((σ.1 10 0 43 (x1).toNatClampNeg)).toNatClampNeg ((σ.1 10 0 45 ((σ.1 10 0 43 (x1).toNatClampNeg)).toNatClampNeg) &&& (((1 : Int32) <<< (x6 &&& 31)) ^^^ (-1 : Int32))))) := by
  refine (e_a (A := (174, 200, [some (vR 10 0 0), some (vI x1), l2, some (vI x3), some (vI x4), some (vI x5), some (vI x6)], [], (pm_wi σ 10 0 44 (s1).toNatClampNeg s2))) rfl h1).trans ?_
  refine (e_n 7 (fr' := (174, 211, [some (vR 10 0 0), some (vI x1), l2, some (vI x3), some (vI x4), some (vI x5), some (vI x6)], [vI (((8 : Int32) * x1) + x6), vR 10 0 45], (pm_wi σ 10 0 44 (s1).toNatClampNeg s2))) rfl).trans ?_
  refine (e_a (A := (174, 212, [some (vR 10 0 0), some (vI x1), l2, some (vI x3), some (vI x4), some (vI x5), some (vI x6)], [vI ((pm_wi σ 10 0 44 (s1).toNatClampNeg s2).1 10 0 44 ((((8 : Int32) * x1) + x6)).toNatClampNeg)], (pm_wi σ 10 0 44 (s1).toNatClampNeg s2))) rfl h2).trans ?_
  refine (e_f (B := (174, 215, [some (vR 10 0 0), some (vI x1), l2, some (vI x3), some (vI x4), some (vI x5), some (vI x6)], [], (pm_wi σ 10 0 44 (s1).toNatClampNeg s2))) rfl h3).trans ?_
  refine (e_n 5 (fr' := (174, 224, [some (vR 10 0 0), some (vI x1), l2, some (vI x3), some (vI x4), some (vI x5), some (vI x6)], [vI x1, vR 10 0 44, vR 10 0 46], (pm_wi σ 10 0 44 (s1).toNatClampNeg s2))) rfl).trans ?_
  refine (e_a (A := (174, 225, [some (vR 10 0 0), some (vI x1), l2, some (vI x3), some (vI x4), some (vI x5), some (vI x6)], [vI (σ.1 10 0 43 (x1).toNatClampNeg), vR 10 0 46], (pm_wi σ 10 0 44 (s1).toNatClampNeg s2))) rfl h4).trans ?_
  refine (e_n 1 (fr' := (174, 226, [some (vR 10 0 0), some (vI x1), l2, some (vI x3), some (vI x4), some (vI x5), some (vI x6)], [vI (σ.1 10 0 43 (x1).toNatClampNeg), vR 10 0 46, vI (σ.1 10 0 43 (x1).toNatClampNeg), vR 10 0 46], (pm_wi σ 10 0 44 (s1).toNatClampNeg s2))) rfl).trans ?_
  refine (e_a (A := (174, 227, [some (vR 10 0 0), some (vI x1), l2, some (vI x3), some (vI x4), some (vI x5), some (vI x6)], [vI (σ.1 10 0 45 ((σ.1 10 0 43 (x1).toNatClampNeg)).toNatClampNeg), vI (σ.1 10 0 43 (x1).toNatClampNeg), vR 10 0 46], (pm_wi σ 10 0 44 (s1).toNatClampNeg s2))) rfl h5).trans ?_
  refine (e_n 6 (fr' := (174, 234, [some (vR 10 0 0), some (vI x1), l2, some (vI x3), some (vI x4), some (vI x5), some (vI x6)], [vI ((σ.1 10 0 45 ((σ.1 10 0 43 (x1).toNatClampNeg)).toNatClampNeg) &&& (((1 : Int32) <<< (x6 &&& 31)) ^^^ (-1 : Int32))), vI (σ.1 10 0 43 (x1).toNatClampNeg), vR 10 0 46], (pm_wi σ 10 0 44 (s1).toNatClampNeg s2))) rfl).trans ?_
  exact e_a (A := (174, 235, [some (vR 10 0 0), some (vI x1), l2, some (vI x3), some (vI x4), some (vI x5), some (vI x6)], [], (pm_wi (pm_wi σ 10 0 44 (s1).toNatClampNeg s2) 10 0 45 ((σ.1 10 0 43 (x1).toNatClampNeg)).toNatClampNeg ((σ.1 10 0 45 ((σ.1 10 0 43 (x1).toNatClampNeg)).toNatClampNeg) &&& (((1 : Int32) <<< (x6 &&& 31)) ^^^ (-1 : Int32)))))) rfl h5
set_option maxRecDepth 20000 in
theorem g174_235_0 (C : pmC) {σ : pmS} {x1 : Int32} {l2 : Option pmV} {x3 : Int32} {x4 : Int32} {x5 : Int32} {x6 : Int32}  : pq_Rn C (174, 235, [some (vR 10 0 0), some (vI x1), l2, some (vI x3), some (vI x4), some (vI x5), some (vI x6)], [], σ) = pq_Rn C (174, 151, [some (vR 10 0 0), some (vI x1), l2, some (vI x3), some (vI x4), some (vI x5), some (vI (x6 + (1 : Int32)))], [], σ) := by
  exact e_n 2 rfl
set_option maxRecDepth 20000 in
theorem g174_251_0 (C : pmC) {σ : pmS} {x1 : Int32} {x2 : Int32} {l3 : Option pmV} {l4 : Option pmV} {l5 : Option pmV} {l6 : Option pmV} (h1 : (σ.1 10 0 16 0) ≤ x2) (h2 : x1 = 0 ∨ x1 = 1) : pq_Rn C (174, 251, [some (vR 10 0 0), some (vI x1), some (vI x2), l3, l4, l5, l6], [], σ) = some (some (vI x1), σ) := by
  refine (e_n 3 (fr' := (174, 256, [some (vR 10 0 0), some (vI x1), some (vI x2), l3, l4, l5, l6], [vI (σ.1 10 0 16 0), vI x2], σ)) rfl).trans ?_
  refine (e_t (A := (174, 289, [some (vR 10 0 0), some (vI x1), some (vI x2), l3, l4, l5, l6], [], σ)) rfl h1).trans ?_
  refine (e_n 1 (fr' := (174, 290, [some (vR 10 0 0), some (vI x1), some (vI x2), l3, l4, l5, l6], [vI x1], σ)) rfl).trans ?_
  exact e_rz rfl rfl h2
set_option maxRecDepth 20000 in
theorem g174_251_1 (C : pmC) {σ : pmS} {x1 : Int32} {x2 : Int32} {l3 : Option pmV} {l4 : Option pmV} {l5 : Option pmV} {l6 : Option pmV} (h1 : ¬ (σ.1 10 0 16 0) ≤ x2) (h2 : x1 = 0) : pq_Rn C (174, 251, [some (vR 10 0 0), some (vI x1), some (vI x2), l3, l4, l5, l6], [], σ) = pq_Rn C (174, 281, [some (vR 10 0 0), some (vI x1), some (vI x2), l3, l4, l5, l6], [], σ) := by
  refine (e_n 3 (fr' := (174, 256, [some (vR 10 0 0), some (vI x1), some (vI x2), l3, l4, l5, l6], [vI (σ.1 10 0 16 0), vI x2], σ)) rfl).trans ?_
  refine (e_f (B := (174, 259, [some (vR 10 0 0), some (vI x1), some (vI x2), l3, l4, l5, l6], [], σ)) rfl h1).trans ?_
  refine (e_n 1 (fr' := (174, 260, [some (vR 10 0 0), some (vI x1), some (vI x2), l3, l4, l5, l6], [vI x1], σ)) rfl).trans ?_
  exact e_t (A := (174, 281, [some (vR 10 0 0), some (vI x1), some (vI x2), l3, l4, l5, l6], [], σ)) rfl h2
set_option maxRecDepth 20000 in
theorem g174_251_2 (C : pmC) {σ : pmS} {x1 : Int32} {x2 : Int32} {l3 : Option pmV} {l4 : Option pmV} {l5 : Option pmV} {l6 : Option pmV} (h1 : ¬ (σ.1 10 0 16 0) ≤ x2) (h2 : ¬ x1 = 0) (h3 : vp_in x2 48) (h4 : vp_in (σ.1 10 0 43 (x2).toNatClampNeg) 48) (h5 : (σ.1 10 0 45 ((σ.1 10 0 43 (x2).toNatClampNeg)).toNatClampNeg) = 0) : pq_Rn C (174, 251, [some (vR 10 0 0), some (vI x1), some (vI x2), l3, l4, l5, l6], [], σ) = pq_Rn C (174, 281, [some (vR 10 0 0), some (vI x1), some (vI x2), l3, l4, l5, l6], [], σ) := by
  refine (e_n 3 (fr' := (174, 256, [some (vR 10 0 0), some (vI x1), some (vI x2), l3, l4, l5, l6], [vI (σ.1 10 0 16 0), vI x2], σ)) rfl).trans ?_
  refine (e_f (B := (174, 259, [some (vR 10 0 0), some (vI x1), some (vI x2), l3, l4, l5, l6], [], σ)) rfl h1).trans ?_
  refine (e_n 1 (fr' := (174, 260, [some (vR 10 0 0), some (vI x1), some (vI x2), l3, l4, l5, l6], [vI x1], σ)) rfl).trans ?_
  refine (e_f (B := (174, 263, [some (vR 10 0 0), some (vI x1), some (vI x2), l3, l4, l5, l6], [], σ)) rfl h2).trans ?_
  refine (e_n 5 (fr' := (174, 272, [some (vR 10 0 0), some (vI x1), some (vI x2), l3, l4, l5, l6], [vI x2, vR 10 0 44, vR 10 0 46], σ)) rfl).trans ?_
  refine (e_a (A := (174, 273, [some (vR 10 0 0), some (vI x1), some (vI x2), l3, l4, l5, l6], [vI (σ.1 10 0 43 (x2).toNatClampNeg), vR 10 0 46], σ)) rfl h3).trans ?_
  refine (e_a (A := (174, 274, [some (vR 10 0 0), some (vI x1), some (vI x2), l3, l4, l5, l6], [vI (σ.1 10 0 45 ((σ.1 10 0 43 (x2).toNatClampNeg)).toNatClampNeg)], σ)) rfl h4).trans ?_
  exact e_t (A := (174, 281, [some (vR 10 0 0), some (vI x1), some (vI x2), l3, l4, l5, l6], [], σ)) rfl h5
