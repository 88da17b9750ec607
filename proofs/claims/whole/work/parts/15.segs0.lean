/-! segment rules, by program -/
set_option maxRecDepth 20000 in
theorem g0_0_0 (C : pmC) {σ : pmS} {o0 : Nat} {x1 : Int32} {x2 : Int32} {x3 : Int32} {l4 : Option pmV} {σ1 : pmS} {r1 : Int32} (h1 : C 1 [vR 0 o0 0, vI x1] σ = some (some (vI r1), σ1)) (h2 : r1 = (-1 : Int32)) (h3 : (σ1.1 0 o0 3 0) < (5 : Int32)) (h4 : vp_in (σ1.1 0 o0 3 0) 5) : pq_Rn C (0, 0, [some (vR 0 o0 0), some (vI x1), some (vI x2), some (vI x3), l4], [], σ) = some (some (vI (1 : Int32)), (pm_wi (pm_wi (pm_wi (pm_wi σ1 0 o0 3 0 ((σ1.1 0 o0 3 0) + (1 : Int32))) 0 o0 0 ((σ1.1 0 o0 3 0)).toNatClampNeg x1) 0 o0 1 ((σ1.1 0 o0 3 0)).toNatClampNeg x2) 0 o0 2 ((σ1.1 0 o0 3 0)).toNatClampNeg x3)) := by
  refine (e_n 2 (fr' := (0, 2, [some (vR 0 o0 0), some (vI x1), some (vI x2), some (vI x3), l4], [vI x1, vR 0 o0 0], σ)) rfl).trans ?_
  refine (e_ci (m := 0) (pc := 5) (ls := [some (vR 0 o0 0), some (vI x1), some (vI x2), some (vI x3), l4]) (rest := []) rfl h1).trans ?_
  refine (e_n 3 (fr' := (0, 10, [some (vR 0 o0 0), some (vI x1), some (vI x2), some (vI x3), some (vI r1)], [vI (-1 : Int32), vI r1], σ1)) rfl).trans ?_
  refine (e_t (A := (0, 13, [some (vR 0 o0 0), some (vI x1), some (vI x2), some (vI x3), some (vI r1)], [], σ1)) rfl h2).trans ?_
  refine (e_n 3 (fr' := (0, 18, [some (vR 0 o0 0), some (vI x1), some (vI x2), some (vI x3), some (vI r1)], [vI (5 : Int32), vI (σ1.1 0 o0 3 0)], σ1)) rfl).trans ?_
  refine (e_t (A := (0, 23, [some (vR 0 o0 0), some (vI x1), some (vI x2), some (vI x3), some (vI r1)], [], σ1)) rfl h3).trans ?_
  refine (e_n 13 (fr' := (0, 46, [some (vR 0 o0 0), some (vI x1), some (vI x2), some (vI x3), some (vI (σ1.1 0 o0 3 0))], [vI x1, vI (σ1.1 0 o0 3 0), vR 0 o0 1], (pm_wi σ1 0 o0 3 0 ((σ1.1 0 o0 3 0) + (1 : Int32))))) rfl).trans ?_
  refine (e_a (A := (0, 47, [some (vR 0 o0 0), some (vI x1), some (vI x2), some (vI x3), some (vI (σ1.1 0 o0 3 0))], [], (pm_wi (pm_wi σ1 0 o0 3 0 ((σ1.1 0 o0 3 0) + (1 : Int32))) 0 o0 0 ((σ1.1 0 o0 3 0)).toNatClampNeg x1))) rfl h4).trans ?_
  refine (e_n 4 (fr' := (0, 54, [some (vR 0 o0 0), some (vI x1), some (vI x2), some (vI x3), some (vI (σ1.1 0 o0 3 0))], [vI x2, vI (σ1.1 0 o0 3 0), vR 0 o0 2], (pm_wi (pm_wi σ1 0 o0 3 0 ((σ1.1 0 o0 3 0) + (1 : Int32))) 0 o0 0 ((σ1.1 0 o0 3 0)).toNatClampNeg x1))) rfl).trans ?_
  refine (e_a (A := (0, 55, [some (vR 0 o0 0), some (vI x1), some (vI x2), some (vI x3), some (vI (σ1.1 0 o0 3 0))], [], (pm_wi (pm_wi (pm_wi σ1 0 o0 3 0 ((σ1.1 0 o0 3 0) + (1 : Int32))) 0 o0 0 ((σ1.1 0 o0 3 0)).toNatClampNeg x1) 0 o0 1 ((σ1.1 0 o0 3 0)).toNatClampNeg x2))) rfl h4).trans ?_
  refine (e_n 4 (fr' := (0, 62, [some (vR 0 o0 0), some (vI x1), some (vI x2), some (vI x3), some (vI (σ1.1 0 o0 3 0))], [vI x3, vI (σ1.1 0 o0 3 0), vR 0 o0 3], (pm_wi (pm_wi (pm_wi σ1 0 o0 3 0 ((σ1.1 0 o0 3 0) + (1 : Int32))) 0 o0 0 ((σ1.1 0 o0 3 0)).toNatClampNeg x1) 0 o0 1 ((σ1.1 0 o0 3 0)).toNatClampNeg x2))) rfl).trans ?_
  refine (e_a (A := (0, 63, [some (vR 0 o0 0), some (vI x1), some (vI x2), some (vI x3), some (vI (σ1.1 0 o0 3 0))], [], (pm_wi (pm_wi (pm_wi (pm_wi σ1 0 o0 3 0 ((σ1.1 0 o0 3 0) + (1 : Int32))) 0 o0 0 ((σ1.1 0 o0 3 0)).toNatClampNeg x1) 0 o0 1 ((σ1.1 0 o0 3 0)).toNatClampNeg x2) 0 o0 2 ((σ1.1 0 o0 3 0)).toNatClampNeg x3))) rfl h4).trans ?_
  refine (e_n 1 (fr' := (0, 64, [some (vR 0 o0 0), some (vI x1), some (vI x2), some (vI x3), some (vI (σ1.1 0 o0 3 0))], [vI (1 : Int32)], (pm_wi (pm_wi (pm_wi (pm_wi σ1 0 o0 3 0 ((σ1.1 0 o0 3 0) + (1 : Int32))) 0 o0 0 ((σ1.1 0 o0 3 0)).toNatClampNeg x1) 0 o0 1 ((σ1.1 0 o0 3 0)).toNatClampNeg x2) 0 o0 2 ((σ1.1 0 o0 3 0)).toNatClampNeg x3))) rfl).trans ?_
  exact e_r rfl
set_option maxRecDepth 20000 in
theorem g0_0_1 (C : pmC) {σ : pmS} {o0 : Nat} {x1 : Int32} {x2 : Int32} {x3 : Int32} {l4 : Option pmV} {σ1 : pmS} {r1 : Int32} (h1 : C 1 [vR 0 o0 0, vI x1] σ = some (some (vI r1), σ1)) (h2 : r1 = (-1 : Int32)) (h3 : ¬ (σ1.1 0 o0 3 0) < (5 : Int32)) : pq_Rn C (0, 0, [some (vR 0 o0 0), some (vI x1), some (vI x2), some (vI x3), l4], [], σ) = some (some (vI (0 : Int32)), σ1) := by
  refine (e_n 2 (fr' := (0, 2, [some (vR 0 o0 0), some (vI x1), some (vI x2), some (vI x3), l4], [vI x1, vR 0 o0 0], σ)) rfl).trans ?_
  refine (e_ci (m := 0) (pc := 5) (ls := [some (vR 0 o0 0), some (vI x1), some (vI x2), some (vI x3), l4]) (rest := []) rfl h1).trans ?_
  refine (e_n 3 (fr' := (0, 10, [some (vR 0 o0 0), some (vI x1), some (vI x2), some (vI x3), some (vI r1)], [vI (-1 : Int32), vI r1], σ1)) rfl).trans ?_
  refine (e_t (A := (0, 13, [some (vR 0 o0 0), some (vI x1), some (vI x2), some (vI x3), some (vI r1)], [], σ1)) rfl h2).trans ?_
  refine (e_n 3 (fr' := (0, 18, [some (vR 0 o0 0), some (vI x1), some (vI x2), some (vI x3), some (vI r1)], [vI (5 : Int32), vI (σ1.1 0 o0 3 0)], σ1)) rfl).trans ?_
  refine (e_f (B := (0, 21, [some (vR 0 o0 0), some (vI x1), some (vI x2), some (vI x3), some (vI r1)], [], σ1)) rfl h3).trans ?_
  refine (e_n 1 (fr' := (0, 22, [some (vR 0 o0 0), some (vI x1), some (vI x2), some (vI x3), some (vI r1)], [vI (0 : Int32)], σ1)) rfl).trans ?_
  exact e_r rfl
set_option maxRecDepth 20000 in
theorem g0_0_2 (C : pmC) {σ : pmS} {o0 : Nat} {x1 : Int32} {x2 : Int32} {x3 : Int32} {l4 : Option pmV} {σ1 : pmS} {r1 : Int32} (h1 : C 1 [vR 0 o0 0, vI x1] σ = some (some (vI r1), σ1)) (h2 : ¬ r1 = (-1 : Int32)) (h3 : vp_in r1 5) : pq_Rn C (0, 0, [some (vR 0 o0 0), some (vI x1), some (vI x2), some (vI x3), l4], [], σ) = some (some (vI (1 : Int32)), (pm_wi (pm_wi (pm_wi σ1 0 o0 0 (r1).toNatClampNeg x1) 0 o0 1 (r1).toNatClampNeg x2) 0 o0 2 (r1).toNatClampNeg x3)) := by
  refine (e_n 2 (fr' := (0, 2, [some (vR 0 o0 0), some (vI x1), some (vI x2), some (vI x3), l4], [vI x1, vR 0 o0 0], σ)) rfl).trans ?_
  refine (e_ci (m := 0) (pc := 5) (ls := [some (vR 0 o0 0), some (vI x1), some (vI x2), some (vI x3), l4]) (rest := []) rfl h1).trans ?_
  refine (e_n 3 (fr' := (0, 10, [some (vR 0 o0 0), some (vI x1), some (vI x2), some (vI x3), some (vI r1)], [vI (-1 : Int32), vI r1], σ1)) rfl).trans ?_
  refine (e_f (B := (0, 39, [some (vR 0 o0 0), some (vI x1), some (vI x2), some (vI x3), some (vI r1)], [], σ1)) rfl h2).trans ?_
  refine (e_n 4 (fr' := (0, 46, [some (vR 0 o0 0), some (vI x1), some (vI x2), some (vI x3), some (vI r1)], [vI x1, vI r1, vR 0 o0 1], σ1)) rfl).trans ?_
  refine (e_a (A := (0, 47, [some (vR 0 o0 0), some (vI x1), some (vI x2), some (vI x3), some (vI r1)], [], (pm_wi σ1 0 o0 0 (r1).toNatClampNeg x1))) rfl h3).trans ?_
  refine (e_n 4 (fr' := (0, 54, [some (vR 0 o0 0), some (vI x1), some (vI x2), some (vI x3), some (vI r1)], [vI x2, vI r1, vR 0 o0 2], (pm_wi σ1 0 o0 0 (r1).toNatClampNeg x1))) rfl).trans ?_
  refine (e_a (A := (0, 55, [some (vR 0 o0 0), some (vI x1), some (vI x2), some (vI x3), some (vI r1)], [], (pm_wi (pm_wi σ1 0 o0 0 (r1).toNatClampNeg x1) 0 o0 1 (r1).toNatClampNeg x2))) rfl h3).trans ?_
  refine (e_n 4 (fr' := (0, 62, [some (vR 0 o0 0), some (vI x1), some (vI x2), some (vI x3), some (vI r1)], [vI x3, vI r1, vR 0 o0 3], (pm_wi (pm_wi σ1 0 o0 0 (r1).toNatClampNeg x1) 0 o0 1 (r1).toNatClampNeg x2))) rfl).trans ?_
  refine (e_a (A := (0, 63, [some (vR 0 o0 0), some (vI x1), some (vI x2), some (vI x3), some (vI r1)], [], (pm_wi (pm_wi (pm_wi σ1 0 o0 0 (r1).toNatClampNeg x1) 0 o0 1 (r1).toNatClampNeg x2) 0 o0 2 (r1).toNatClampNeg x3))) rfl h3).trans ?_
  refine (e_n 1 (fr' := (0, 64, [some (vR 0 o0 0), some (vI x1), some (vI x2), some (vI x3), some (vI r1)], [vI (1 : Int32)], (pm_wi (pm_wi (pm_wi σ1 0 o0 0 (r1).toNatClampNeg x1) 0 o0 1 (r1).toNatClampNeg x2) 0 o0 2 (r1).toNatClampNeg x3))) rfl).trans ?_
  exact e_r rfl
set_option maxRecDepth 20000 in
theorem g1_0_0 (C : pmC) {σ : pmS} {o0 : Nat} {x1 : Int32} {l2 : Option pmV}  : pq_Rn C (1, 0, [some (vR 0 o0 0), some (vI x1), l2], [], σ) = pq_Rn C (1, 2, [some (vR 0 o0 0), some (vI x1), some (vI (0 : Int32))], [], σ) := by
  exact e_n 2 rfl
set_option maxRecDepth 20000 in
theorem g1_2_0 (C : pmC) {σ : pmS} {o0 : Nat} {x1 : Int32} {x2 : Int32} (h1 : (σ.1 0 o0 3 0) ≤ x2) : pq_Rn C (1, 2, [some (vR 0 o0 0), some (vI x1), some (vI x2)], [], σ) = some (some (vI (-1 : Int32)), σ) := by
  refine (e_n 3 (fr' := (1, 7, [some (vR 0 o0 0), some (vI x1), some (vI x2)], [vI (σ.1 0 o0 3 0), vI x2], σ)) rfl).trans ?_
  refine (e_t (A := (1, 28, [some (vR 0 o0 0), some (vI x1), some (vI x2)], [], σ)) rfl h1).trans ?_
  refine (e_n 1 (fr' := (1, 29, [some (vR 0 o0 0), some (vI x1), some (vI x2)], [vI (-1 : Int32)], σ)) rfl).trans ?_
  exact e_r rfl
set_option maxRecDepth 20000 in
theorem g1_2_1 (C : pmC) {σ : pmS} {o0 : Nat} {x1 : Int32} {x2 : Int32} (h1 : ¬ (σ.1 0 o0 3 0) ≤ x2) (h2 : vp_in x2 5) (h3 : (σ.1 0 o0 0 (x2).toNatClampNeg) = x1) : pq_Rn C (1, 2, [some (vR 0 o0 0), some (vI x1), some (vI x2)], [], σ) = some (some (vI x2), σ) := by
  refine (e_n 3 (fr' := (1, 7, [some (vR 0 o0 0), some (vI x1), some (vI x2)], [vI (σ.1 0 o0 3 0), vI x2], σ)) rfl).trans ?_
  refine (e_f (B := (1, 10, [some (vR 0 o0 0), some (vI x1), some (vI x2)], [], σ)) rfl h1).trans ?_
  refine (e_n 3 (fr' := (1, 15, [some (vR 0 o0 0), some (vI x1), some (vI x2)], [vI x2, vR 0 o0 1], σ)) rfl).trans ?_
  refine (e_a (A := (1, 16, [some (vR 0 o0 0), some (vI x1), some (vI x2)], [vI (σ.1 0 o0 0 (x2).toNatClampNeg)], σ)) rfl h2).trans ?_
  refine (e_n 1 (fr' := (1, 17, [some (vR 0 o0 0), some (vI x1), some (vI x2)], [vI x1, vI (σ.1 0 o0 0 (x2).toNatClampNeg)], σ)) rfl).trans ?_
  refine (e_t (A := (1, 20, [some (vR 0 o0 0), some (vI x1), some (vI x2)], [], σ)) rfl h3).trans ?_
  refine (e_n 1 (fr' := (1, 21, [some (vR 0 o0 0), some (vI x1), some (vI x2)], [vI x2], σ)) rfl).trans ?_
  exact e_r rfl
set_option maxRecDepth 20000 in
theorem g1_2_2 (C : pmC) {σ : pmS} {o0 : Nat} {x1 : Int32} {x2 : Int32} (h1 : ¬ (σ.1 0 o0 3 0) ≤ x2) (h2 : vp_in x2 5) (h3 : ¬ (σ.1 0 o0 0 (x2).toNatClampNeg) = x1) : pq_Rn C (1, 2, [some (vR 0 o0 0), some (vI x1), some (vI x2)], [], σ) = pq_Rn C (1, 2, [some (vR 0 o0 0), some (vI x1), some (vI (x2 + (1 : Int32)))], [], σ) := by
  refine (e_n 3 (fr' := (1, 7, [some (vR 0 o0 0), some (vI x1), some (vI x2)], [vI (σ.1 0 o0 3 0), vI x2], σ)) rfl).trans ?_
  refine (e_f (B := (1, 10, [some (vR 0 o0 0), some (vI x1), some (vI x2)], [], σ)) rfl h1).trans ?_
  refine (e_n 3 (fr' := (1, 15, [some (vR 0 o0 0), some (vI x1), some (vI x2)], [vI x2, vR 0 o0 1], σ)) rfl).trans ?_
  refine (e_a (A := (1, 16, [some (vR 0 o0 0), some (vI x1), some (vI x2)], [vI (σ.1 0 o0 0 (x2).toNatClampNeg)], σ)) rfl h2).trans ?_
  refine (e_n 1 (fr' := (1, 17, [some (vR 0 o0 0), some (vI x1), some (vI x2)], [vI x1, vI (σ.1 0 o0 0 (x2).toNatClampNeg)], σ)) rfl).trans ?_
  refine (e_f (B := (1, 22, [some (vR 0 o0 0), some (vI x1), some (vI x2)], [], σ)) rfl h3).trans ?_
  exact e_n 2 rfl
set_option maxRecDepth 20000 in
theorem g2_0_0 (C : pmC) {σ : pmS} {o0 : Nat} {x1 : Int32} {l2 : Option pmV} {l3 : Option pmV}  : pq_Rn C (2, 0, [some (vR 0 o0 0), some (vI x1), l2, l3], [], σ) = pq_Rn C (2, 4, [some (vR 0 o0 0), some (vI x1), some (vI (0 : Int32)), some (vI (1 : Int32))], [], σ) := by
  exact e_n 4 rfl
set_option maxRecDepth 20000 in
theorem g2_4_0 (C : pmC) {σ : pmS} {o0 : Nat} {x1 : Int32} {x2 : Int32} {x3 : Int32} (h1 : (σ.1 0 o0 3 0) ≤ x3) : pq_Rn C (2, 4, [some (vR 0 o0 0), some (vI x1), some (vI x2), some (vI x3)], [], σ) = some (some (vI x2), σ) := by
  refine (e_n 3 (fr' := (2, 9, [some (vR 0 o0 0), some (vI x1), some (vI x2), some (vI x3)], [vI (σ.1 0 o0 3 0), vI x3], σ)) rfl).trans ?_
  refine (e_t (A := (2, 45, [some (vR 0 o0 0), some (vI x1), some (vI x2), some (vI x3)], [], σ)) rfl h1).trans ?_
  refine (e_n 1 (fr' := (2, 46, [some (vR 0 o0 0), some (vI x1), some (vI x2), some (vI x3)], [vI x2], σ)) rfl).trans ?_
  exact e_r rfl
set_option maxRecDepth 20000 in
theorem g2_4_1 (C : pmC) {σ : pmS} {o0 : Nat} {x1 : Int32} {x2 : Int32} {x3 : Int32} (h1 : ¬ (σ.1 0 o0 3 0) ≤ x3) (h2 : vp_in x3 5) (h3 : x1 < (σ.1 0 o0 0 (x3).toNatClampNeg)) : pq_Rn C (2, 4, [some (vR 0 o0 0), some (vI x1), some (vI x2), some (vI x3)], [], σ) = pq_Rn C (2, 4, [some (vR 0 o0 0), some (vI x1), some (vI x2), some (vI (x3 + (1 : Int32)))], [], σ) := by
  refine (e_n 3 (fr' := (2, 9, [some (vR 0 o0 0), some (vI x1), some (vI x2), some (vI x3)], [vI (σ.1 0 o0 3 0), vI x3], σ)) rfl).trans ?_
  refine (e_f (B := (2, 12, [some (vR 0 o0 0), some (vI x1), some (vI x2), some (vI x3)], [], σ)) rfl h1).trans ?_
  refine (e_n 3 (fr' := (2, 17, [some (vR 0 o0 0), some (vI x1), some (vI x2), some (vI x3)], [vI x3, vR 0 o0 1], σ)) rfl).trans ?_
  refine (e_a (A := (2, 18, [some (vR 0 o0 0), some (vI x1), some (vI x2), some (vI x3)], [vI (σ.1 0 o0 0 (x3).toNatClampNeg)], σ)) rfl h2).trans ?_
  refine (e_n 1 (fr' := (2, 19, [some (vR 0 o0 0), some (vI x1), some (vI x2), some (vI x3)], [vI x1, vI (σ.1 0 o0 0 (x3).toNatClampNeg)], σ)) rfl).trans ?_
  refine (e_t (A := (2, 39, [some (vR 0 o0 0), some (vI x1), some (vI x2), some (vI x3)], [], σ)) rfl h3).trans ?_
  exact e_n 2 rfl
set_option maxRecDepth 20000 in
theorem g2_4_2 (C : pmC) {σ : pmS} {o0 : Nat} {x1 : Int32} {x2 : Int32} {x3 : Int32} (h1 : ¬ (σ.1 0 o0 3 0) ≤ x3) (h2 : vp_in x3 5) (h3 : ¬ x1 < (σ.1 0 o0 0 (x3).toNatClampNeg)) (h4 : vp_in x2 5) (h5 : (σ.1 0 o0 0 (x3).toNatClampNeg) ≤ (σ.1 0 o0 0 (x2).toNatClampNeg)) : pq_Rn C (2, 4, [some (vR 0 o0 0), some (vI x1), some (vI x2), some (vI x3)], [], σ) = pq_Rn C (2, 4, [some (vR 0 o0 0), some (vI x1), some (vI x2), some (vI (x3 + (1 : Int32)))], [], σ) := by
  refine (e_n 3 (fr' := (2, 9, [some (vR 0 o0 0), some (vI x1), some (vI x2), some (vI x3)], [vI (σ.1 0 o0 3 0), vI x3], σ)) rfl).trans ?_
  refine (e_f (B := (2, 12, [some (vR 0 o0 0), some (vI x1), some (vI x2), some (vI x3)], [], σ)) rfl h1).trans ?_
  refine (e_n 3 (fr' := (2, 17, [some (vR 0 o0 0), some (vI x1), some (vI x2), some (vI x3)], [vI x3, vR 0 o0 1], σ)) rfl).trans ?_
  refine (e_a (A := (2, 18, [some (vR 0 o0 0), some (vI x1), some (vI x2), some (vI x3)], [vI (σ.1 0 o0 0 (x3).toNatClampNeg)], σ)) rfl h2).trans ?_
  refine (e_n 1 (fr' := (2, 19, [some (vR 0 o0 0), some (vI x1), some (vI x2), some (vI x3)], [vI x1, vI (σ.1 0 o0 0 (x3).toNatClampNeg)], σ)) rfl).trans ?_
  refine (e_f (B := (2, 22, [some (vR 0 o0 0), some (vI x1), some (vI x2), some (vI x3)], [], σ)) rfl h3).trans ?_
  refine (e_n 3 (fr' := (2, 27, [some (vR 0 o0 0), some (vI x1), some (vI x2), some (vI x3)], [vI x3, vR 0 o0 1], σ)) rfl).trans ?_
  refine (e_a (A := (2, 28, [some (vR 0 o0 0), some (vI x1), some (vI x2), some (vI x3)], [vI (σ.1 0 o0 0 (x3).toNatClampNeg)], σ)) rfl h2).trans ?_
  refine (e_n 3 (fr' := (2, 33, [some (vR 0 o0 0), some (vI x1), some (vI x2), some (vI x3)], [vI x2, vR 0 o0 1, vI (σ.1 0 o0 0 (x3).toNatClampNeg)], σ)) rfl).trans ?_
  refine (e_a (A := (2, 34, [some (vR 0 o0 0), some (vI x1), some (vI x2), some (vI x3)], [vI (σ.1 0 o0 0 (x2).toNatClampNeg), vI (σ.1 0 o0 0 (x3).toNatClampNeg)], σ)) rfl h4).trans ?_
  refine (e_t (A := (2, 39, [some (vR 0 o0 0), some (vI x1), some (vI x2), some (vI x3)], [], σ)) rfl h5).trans ?_
  exact e_n 2 rfl
set_option maxRecDepth 20000 in
theorem g2_4_3 (C : pmC) {σ : pmS} {o0 : Nat} {x1 : Int32} {x2 : Int32} {x3 : Int32} (h1 : ¬ (σ.1 0 o0 3 0) ≤ x3) (h2 : vp_in x3 5) (h3 : ¬ x1 < (σ.1 0 o0 0 (x3).toNatClampNeg)) (h4 : vp_in x2 5) (h5 : ¬ (σ.1 0 o0 0 (x3).toNatClampNeg) ≤ (σ.1 0 o0 0 (x2).toNatClampNeg)) : pq_Rn C (2, 4, [some (vR 0 o0 0), some (vI x1), some (vI x2), some (vI x3)], [], σ) = pq_Rn C (2, 4, [some (vR 0 o0 0), some (vI x1), some (vI x3), some (vI (x3 + (1 : Int32)))], [], σ) := by
  refine (e_n 3 (fr' := (2, 9, [some (vR 0 o0 0), some (vI x1), some (vI x2), some (vI x3)], [vI (σ.1 0 o0 3 0), vI x3], σ)) rfl).trans ?_
  refine (e_f (B := (2, 12, [some (vR 0 o0 0), some (vI x1), some (vI x2), some (vI x3)], [], σ)) rfl h1).trans ?_
  refine (e_n 3 (fr' := (2, 17, [some (vR 0 o0 0), some (vI x1), some (vI x2), some (vI x3)], [vI x3, vR 0 o0 1], σ)) rfl).trans ?_
  refine (e_a (A := (2, 18, [some (vR 0 o0 0), some (vI x1), some (vI x2), some (vI x3)], [vI (σ.1 0 o0 0 (x3).toNatClampNeg)], σ)) rfl h2).trans ?_
  refine (e_n 1 (fr' := (2, 19, [some (vR 0 o0 0), some (vI x1), some (vI x2), some (vI x3)], [vI x1, vI (σ.1 0 o0 0 (x3).toNatClampNeg)], σ)) rfl).trans ?_
  refine (e_f (B := (2, 22, [some (vR 0 o0 0), some (vI x1), some (vI x2), some (vI x3)], [], σ)) rfl h3).trans ?_
  refine (e_n 3 (fr' := (2, 27, [some (vR 0 o0 0), some (vI x1), some (vI x2), some (vI x3)], [vI x3, vR 0 o0 1], σ)) rfl).trans ?_
  refine (e_a (A := (2, 28, [some (vR 0 o0 0), some (vI x1), some (vI x2), some (vI x3)], [vI (σ.1 0 o0 0 (x3).toNatClampNeg)], σ)) rfl h2).trans ?_
  refine (e_n 3 (fr' := (2, 33, [some (vR 0 o0 0), some (vI x1), some (vI x2), some (vI x3)], [vI x2, vR 0 o0 1, vI (σ.1 0 o0 0 (x3).toNatClampNeg)], σ)) rfl).trans ?_
  refine (e_a (A := (2, 34, [some (vR 0 o0 0), some (vI x1), some (vI x2), some (vI x3)], [vI (σ.1 0 o0 0 (x2).toNatClampNeg), vI (σ.1 0 o0 0 (x3).toNatClampNeg)], σ)) rfl h4).trans ?_
  refine (e_f (B := (2, 37, [some (vR 0 o0 0), some (vI x1), some (vI x2), some (vI x3)], [], σ)) rfl h5).trans ?_
  exact e_n 4 rfl
set_option maxRecDepth 20000 in
theorem g3_0_0 (C : pmC) {σ : pmS} {x1 : Int32} {l2 : Option pmV}  : pq_Rn C (3, 0, [some (vR 1 0 0), some (vI x1), l2], [], σ) = pq_Rn C (3, 2, [some (vR 1 0 0), some (vI x1), some (vI (0 : Int32))], [], σ) := by
  exact e_n 2 rfl
set_option maxRecDepth 20000 in
theorem g3_2_0 (C : pmC) {σ : pmS} {x1 : Int32} {x2 : Int32} (h1 : x1 ≤ x2) : pq_Rn C (3, 2, [some (vR 1 0 0), some (vI x1), some (vI x2)], [], σ) = some (none, σ) := by
  refine (e_n 2 (fr' := (3, 4, [some (vR 1 0 0), some (vI x1), some (vI x2)], [vI x1, vI x2], σ)) rfl).trans ?_
  refine (e_t (A := (3, 20, [some (vR 1 0 0), some (vI x1), some (vI x2)], [], σ)) rfl h1).trans ?_
  exact e_r rfl
set_option maxRecDepth 20000 in
theorem g3_2_1 (C : pmC) {σ : pmS} {x1 : Int32} {x2 : Int32} (h1 : ¬ x1 ≤ x2) (h2 : vp_in x2 48) : pq_Rn C (3, 2, [some (vR 1 0 0), some (vI x1), some (vI x2)], [], σ) = pq_Rn C (3, 2, [some (vR 1 0 0), some (vI x1), some (vI (x2 + (1 : Int32)))], [], (pm_wi σ 1 0 1 (x2).toNatClampNeg (0 : Int32))) := by
  refine (e_n 2 (fr' := (3, 4, [some (vR 1 0 0), some (vI x1), some (vI x2)], [vI x1, vI x2], σ)) rfl).trans ?_
  refine (e_f (B := (3, 7, [some (vR 1 0 0), some (vI x1), some (vI x2)], [], σ)) rfl h1).trans ?_
  refine (e_n 4 (fr' := (3, 13, [some (vR 1 0 0), some (vI x1), some (vI x2)], [vI (0 : Int32), vI x2, vR 1 0 2], σ)) rfl).trans ?_
  refine (e_a (A := (3, 14, [some (vR 1 0 0), some (vI x1), some (vI x2)], [], (pm_wi σ 1 0 1 (x2).toNatClampNeg (0 : Int32)))) rfl h2).trans ?_
  exact e_n 2 rfl
set_option maxRecDepth 20000 in
theorem g4_0_0 (C : pmC) {σ : pmS} {x1 : Int32} {x2 : Int32} {x3 : Int32} (h1 : vp_in x1 48) (h2 : x3 = 0) (h3 : x3 = 0) : pq_Rn C (4, 0, [some (vR 1 0 0), some (vI x1), some (vI x2), some (vI x3)], [], σ) = some (none, (pm_wi (pm_wi (pm_wi σ 1 0 2 (x1).toNatClampNeg x1) 1 0 0 (x1).toNatClampNeg (-1 : Int32)) 1 0 3 (x1).toNatClampNeg (1 : Int32))) := by
  refine (e_n 4 (fr' := (4, 6, [some (vR 1 0 0), some (vI x1), some (vI x2), some (vI x3)], [vI x1, vI x1, vR 1 0 3], σ)) rfl).trans ?_
  refine (e_a (A := (4, 7, [some (vR 1 0 0), some (vI x1), some (vI x2), some (vI x3)], [], (pm_wi σ 1 0 2 (x1).toNatClampNeg x1))) rfl h1).trans ?_
  refine (e_n 4 (fr' := (4, 13, [some (vR 1 0 0), some (vI x1), some (vI x2), some (vI x3)], [vI x3, vI x1, vR 1 0 1], (pm_wi σ 1 0 2 (x1).toNatClampNeg x1))) rfl).trans ?_
  refine (e_t (A := (4, 20, [some (vR 1 0 0), some (vI x1), some (vI x2), some (vI x3)], [vI x1, vR 1 0 1], (pm_wi σ 1 0 2 (x1).toNatClampNeg x1))) rfl h2).trans ?_
  refine (e_n 1 (fr' := (4, 21, [some (vR 1 0 0), some (vI x1), some (vI x2), some (vI x3)], [vI (-1 : Int32), vI x1, vR 1 0 1], (pm_wi σ 1 0 2 (x1).toNatClampNeg x1))) rfl).trans ?_
  refine (e_a (A := (4, 22, [some (vR 1 0 0), some (vI x1), some (vI x2), some (vI x3)], [], (pm_wi (pm_wi σ 1 0 2 (x1).toNatClampNeg x1) 1 0 0 (x1).toNatClampNeg (-1 : Int32)))) rfl h1).trans ?_
  refine (e_n 4 (fr' := (4, 28, [some (vR 1 0 0), some (vI x1), some (vI x2), some (vI x3)], [vI x3, vI x1, vR 1 0 4], (pm_wi (pm_wi σ 1 0 2 (x1).toNatClampNeg x1) 1 0 0 (x1).toNatClampNeg (-1 : Int32)))) rfl).trans ?_
  refine (e_t (A := (4, 31, [some (vR 1 0 0), some (vI x1), some (vI x2), some (vI x3)], [vI x1, vR 1 0 4], (pm_wi (pm_wi σ 1 0 2 (x1).toNatClampNeg x1) 1 0 0 (x1).toNatClampNeg (-1 : Int32)))) rfl h3).trans ?_
  refine (e_n 2 (fr' := (4, 36, [some (vR 1 0 0), some (vI x1), some (vI x2), some (vI x3)], [vI (1 : Int32), vI x1, vR 1 0 4], (pm_wi (pm_wi σ 1 0 2 (x1).toNatClampNeg x1) 1 0 0 (x1).toNatClampNeg (-1 : Int32)))) rfl).trans ?_
  refine (e_a (A := (4, 37, [some (vR 1 0 0), some (vI x1), some (vI x2), some (vI x3)], [], (pm_wi (pm_wi (pm_wi σ 1 0 2 (x1).toNatClampNeg x1) 1 0 0 (x1).toNatClampNeg (-1 : Int32)) 1 0 3 (x1).toNatClampNeg (1 : Int32)))) rfl h1).trans ?_
  exact e_r rfl
set_option maxRecDepth 20000 in
theorem g4_0_1 (C : pmC) {σ : pmS} {x1 : Int32} {x2 : Int32} {x3 : Int32} (h1 : vp_in x1 48) (h2 : x3 = 0) (h3 : ¬ x3 = 0) : pq_Rn C (4, 0, [some (vR 1 0 0), some (vI x1), some (vI x2), some (vI x3)], [], σ) = some (none, (pm_wi (pm_wi (pm_wi σ 1 0 2 (x1).toNatClampNeg x1) 1 0 0 (x1).toNatClampNeg (-1 : Int32)) 1 0 3 (x1).toNatClampNeg (0 : Int32))) := by
  refine (e_n 4 (fr' := (4, 6, [some (vR 1 0 0), some (vI x1), some (vI x2), some (vI x3)], [vI x1, vI x1, vR 1 0 3], σ)) rfl).trans ?_
  refine (e_a (A := (4, 7, [some (vR 1 0 0), some (vI x1), some (vI x2), some (vI x3)], [], (pm_wi σ 1 0 2 (x1).toNatClampNeg x1))) rfl h1).trans ?_
  refine (e_n 4 (fr' := (4, 13, [some (vR 1 0 0), some (vI x1), some (vI x2), some (vI x3)], [vI x3, vI x1, vR 1 0 1], (pm_wi σ 1 0 2 (x1).toNatClampNeg x1))) rfl).trans ?_
  refine (e_t (A := (4, 20, [some (vR 1 0 0), some (vI x1), some (vI x2), some (vI x3)], [vI x1, vR 1 0 1], (pm_wi σ 1 0 2 (x1).toNatClampNeg x1))) rfl h2).trans ?_
  refine (e_n 1 (fr' := (4, 21, [some (vR 1 0 0), some (vI x1), some (vI x2), some (vI x3)], [vI (-1 : Int32), vI x1, vR 1 0 1], (pm_wi σ 1 0 2 (x1).toNatClampNeg x1))) rfl).trans ?_
  refine (e_a (A := (4, 22, [some (vR 1 0 0), some (vI x1), some (vI x2), some (vI x3)], [], (pm_wi (pm_wi σ 1 0 2 (x1).toNatClampNeg x1) 1 0 0 (x1).toNatClampNeg (-1 : Int32)))) rfl h1).trans ?_
  refine (e_n 4 (fr' := (4, 28, [some (vR 1 0 0), some (vI x1), some (vI x2), some (vI x3)], [vI x3, vI x1, vR 1 0 4], (pm_wi (pm_wi σ 1 0 2 (x1).toNatClampNeg x1) 1 0 0 (x1).toNatClampNeg (-1 : Int32)))) rfl).trans ?_
  refine (e_f (B := (4, 35, [some (vR 1 0 0), some (vI x1), some (vI x2), some (vI x3)], [vI x1, vR 1 0 4], (pm_wi (pm_wi σ 1 0 2 (x1).toNatClampNeg x1) 1 0 0 (x1).toNatClampNeg (-1 : Int32)))) rfl h3).trans ?_
  refine (e_n 1 (fr' := (4, 36, [some (vR 1 0 0), some (vI x1), some (vI x2), some (vI x3)], [vI (0 : Int32), vI x1, vR 1 0 4], (pm_wi (pm_wi σ 1 0 2 (x1).toNatClampNeg x1) 1 0 0 (x1).toNatClampNeg (-1 : Int32)))) rfl).trans ?_
  refine (e_a (A := (4, 37, [some (vR 1 0 0), some (vI x1), some (vI x2), some (vI x3)], [], (pm_wi (pm_wi (pm_wi σ 1 0 2 (x1).toNatClampNeg x1) 1 0 0 (x1).toNatClampNeg (-1 : Int32)) 1 0 3 (x1).toNatClampNeg (0 : Int32)))) rfl h1).trans ?_
  exact e_r rfl
set_option maxRecDepth 20000 in
theorem g4_0_2 (C : pmC) {σ : pmS} {x1 : Int32} {x2 : Int32} {x3 : Int32} (h1 : vp_in x1 48) (h2 : ¬ x3 = 0) (h3 : x3 = 0) : pq_Rn C (4, 0, [some (vR 1 0 0), some (vI x1), some (vI x2), some (vI x3)], [], σ) = some (none, (pm_wi (pm_wi (pm_wi σ 1 0 2 (x1).toNatClampNeg x1) 1 0 0 (x1).toNatClampNeg x2) 1 0 3 (x1).toNatClampNeg (1 : Int32))) := by
  refine (e_n 4 (fr' := (4, 6, [some (vR 1 0 0), some (vI x1), some (vI x2), some (vI x3)], [vI x1, vI x1, vR 1 0 3], σ)) rfl).trans ?_
  refine (e_a (A := (4, 7, [some (vR 1 0 0), some (vI x1), some (vI x2), some (vI x3)], [], (pm_wi σ 1 0 2 (x1).toNatClampNeg x1))) rfl h1).trans ?_
  refine (e_n 4 (fr' := (4, 13, [some (vR 1 0 0), some (vI x1), some (vI x2), some (vI x3)], [vI x3, vI x1, vR 1 0 1], (pm_wi σ 1 0 2 (x1).toNatClampNeg x1))) rfl).trans ?_
  refine (e_f (B := (4, 16, [some (vR 1 0 0), some (vI x1), some (vI x2), some (vI x3)], [vI x1, vR 1 0 1], (pm_wi σ 1 0 2 (x1).toNatClampNeg x1))) rfl h2).trans ?_
  refine (e_n 2 (fr' := (4, 21, [some (vR 1 0 0), some (vI x1), some (vI x2), some (vI x3)], [vI x2, vI x1, vR 1 0 1], (pm_wi σ 1 0 2 (x1).toNatClampNeg x1))) rfl).trans ?_
  refine (e_a (A := (4, 22, [some (vR 1 0 0), some (vI x1), some (vI x2), some (vI x3)], [], (pm_wi (pm_wi σ 1 0 2 (x1).toNatClampNeg x1) 1 0 0 (x1).toNatClampNeg x2))) rfl h1).trans ?_
  refine (e_n 4 (fr' := (4, 28, [some (vR 1 0 0), some (vI x1), some (vI x2), some (vI x3)], [vI x3, vI x1, vR 1 0 4], (pm_wi (pm_wi σ 1 0 2 (x1).toNatClampNeg x1) 1 0 0 (x1).toNatClampNeg x2))) rfl).trans ?_
  refine (e_t (A := (4, 31, [some (vR 1 0 0), some (vI x1), some (vI x2), some (vI x3)], [vI x1, vR 1 0 4], (pm_wi (pm_wi σ 1 0 2 (x1).toNatClampNeg x1) 1 0 0 (x1).toNatClampNeg x2))) rfl h3).trans ?_
  refine (e_n 2 (fr' := (4, 36, [some (vR 1 0 0), some (vI x1), some (vI x2), some (vI x3)], [vI (1 : Int32), vI x1, vR 1 0 4], (pm_wi (pm_wi σ 1 0 2 (x1).toNatClampNeg x1) 1 0 0 (x1).toNatClampNeg x2))) rfl).trans ?_
  refine (e_a (A := (4, 37, [some (vR 1 0 0), some (vI x1), some (vI x2), some (vI x3)], [], (pm_wi (pm_wi (pm_wi σ 1 0 2 (x1).toNatClampNeg x1) 1 0 0 (x1).toNatClampNeg x2) 1 0 3 (x1).toNatClampNeg (1 : Int32)))) rfl h1).trans ?_
  exact e_r rfl
set_option maxRecDepth 20000 in
theorem g4_0_3 (C : pmC) {σ : pmS} {x1 : Int32} {x2 : Int32} {x3 : Int32} (h1 : vp_in x1 48) (h2 : ¬ x3 = 0) (h3 : ¬ x3 = 0) : pq_Rn C (4, 0, [some (vR 1 0 0), some (vI x1), some (vI x2), some (vI x3)], [], σ) = some (none, (pm_wi (pm_wi (pm_wi σ 1 0 2 (x1).toNatClampNeg x1) 1 0 0 (x1).toNatClampNeg x2) 1 0 3 (x1).toNatClampNeg (0 : Int32))) := by
  refine (e_n 4 (fr' := (4, 6, [some (vR 1 0 0), some (vI x1), some (vI x2), some (vI x3)], [vI x1, vI x1, vR 1 0 3], σ)) rfl).trans ?_
  refine (e_a (A := (4, 7, [some (vR 1 0 0), some (vI x1), some (vI x2), some (vI x3)], [], (pm_wi σ 1 0 2 (x1).toNatClampNeg x1))) rfl h1).trans ?_
  refine (e_n 4 (fr' := (4, 13, [some (vR 1 0 0), some (vI x1), some (vI x2), some (vI x3)], [vI x3, vI x1, vR 1 0 1], (pm_wi σ 1 0 2 (x1).toNatClampNeg x1))) rfl).trans ?_
  refine (e_f (B := (4, 16, [some (vR 1 0 0), some (vI x1), some (vI x2), some (vI x3)], [vI x1, vR 1 0 1], (pm_wi σ 1 0 2 (x1).toNatClampNeg x1))) rfl h2).trans ?_
  refine (e_n 2 (fr' := (4, 21, [some (vR 1 0 0), some (vI x1), some (vI x2), some (vI x3)], [vI x2, vI x1, vR 1 0 1], (pm_wi σ 1 0 2 (x1).toNatClampNeg x1))) rfl).trans ?_
  refine (e_a (A := (4, 22, [some (vR 1 0 0), some (vI x1), some (vI x2), some (vI x3)], [], (pm_wi (pm_wi σ 1 0 2 (x1).toNatClampNeg x1) 1 0 0 (x1).toNatClampNeg x2))) rfl h1).trans ?_
  refine (e_n 4 (fr' := (4, 28, [some (vR 1 0 0), some (vI x1), some (vI x2), some (vI x3)], [vI x3, vI x1, vR 1 0 4], (pm_wi (pm_wi σ 1 0 2 (x1).toNatClampNeg x1) 1 0 0 (x1).toNatClampNeg x2))) rfl).trans ?_
  refine (e_f (B := (4, 35, [some (vR 1 0 0), some (vI x1), some (vI x2), some (vI x3)], [vI x1, vR 1 0 4], (pm_wi (pm_wi σ 1 0 2 (x1).toNatClampNeg x1) 1 0 0 (x1).toNatClampNeg x2))) rfl h3).trans ?_
  refine (e_n 1 (fr' := (4, 36, [some (vR 1 0 0), some (vI x1), some (vI x2), some (vI x3)], [vI (0 : Int32), vI x1, vR 1 0 4], (pm_wi (pm_wi σ 1 0 2 (x1).toNatClampNeg x1) 1 0 0 (x1).toNatClampNeg x2))) rfl).trans ?_
  refine (e_a (A := (4, 37, [some (vR 1 0 0), some (vI x1), some (vI x2), some (vI x3)], [], (pm_wi (pm_wi (pm_wi σ 1 0 2 (x1).toNatClampNeg x1) 1 0 0 (x1).toNatClampNeg x2) 1 0 3 (x1).toNatClampNeg (0 : Int32)))) rfl h1).trans ?_
  exact e_r rfl
set_option maxRecDepth 20000 in
theorem g5_0_0 (C : pmC) {σ : pmS} {x1 : Int32} {x2 : Int32} {x3 : Int32} (h1 : vp_in x2 48) (h2 : vp_in x1 48) (h3 : x3 = (-1 : Int32)) (h4 : vp_in ((pm_wi σ 1 0 2 (x1).toNatClampNeg (σ.1 1 0 2 (x2).toNatClampNeg)).1 1 0 2 (x1).toNatClampNeg) 48) : pq_Rn C (5, 0, [some (vR 1 0 0), some (vI x1), some (vI x2), some (vI x3)], [], σ) = some (none, (pm_wi (pm_wi (pm_wi σ 1 0 2 (x1).toNatClampNeg (σ.1 1 0 2 (x2).toNatClampNeg)) 1 0 0 (x1).toNatClampNeg x3) 1 0 3 (((pm_wi σ 1 0 2 (x1).toNatClampNeg (σ.1 1 0 2 (x2).toNatClampNeg)).1 1 0 2 (x1).toNatClampNeg)).toNatClampNeg (1 : Int32))) := by
  refine (e_n 6 (fr' := (5, 10, [some (vR 1 0 0), some (vI x1), some (vI x2), some (vI x3)], [vI x2, vR 1 0 3, vI x1, vR 1 0 3], σ)) rfl).trans ?_
  refine (e_a (A := (5, 11, [some (vR 1 0 0), some (vI x1), some (vI x2), some (vI x3)], [vI (σ.1 1 0 2 (x2).toNatClampNeg), vI x1, vR 1 0 3], σ)) rfl h1).trans ?_
  refine (e_a (A := (5, 12, [some (vR 1 0 0), some (vI x1), some (vI x2), some (vI x3)], [], (pm_wi σ 1 0 2 (x1).toNatClampNeg (σ.1 1 0 2 (x2).toNatClampNeg)))) rfl h2).trans ?_
  refine (e_n 4 (fr' := (5, 18, [some (vR 1 0 0), some (vI x1), some (vI x2), some (vI x3)], [vI x3, vI x1, vR 1 0 1], (pm_wi σ 1 0 2 (x1).toNatClampNeg (σ.1 1 0 2 (x2).toNatClampNeg)))) rfl).trans ?_
  refine (e_a (A := (5, 19, [some (vR 1 0 0), some (vI x1), some (vI x2), some (vI x3)], [], (pm_wi (pm_wi σ 1 0 2 (x1).toNatClampNeg (σ.1 1 0 2 (x2).toNatClampNeg)) 1 0 0 (x1).toNatClampNeg x3))) rfl h2).trans ?_
  refine (e_n 2 (fr' := (5, 21, [some (vR 1 0 0), some (vI x1), some (vI x2), some (vI x3)], [vI (-1 : Int32), vI x3], (pm_wi (pm_wi σ 1 0 2 (x1).toNatClampNeg (σ.1 1 0 2 (x2).toNatClampNeg)) 1 0 0 (x1).toNatClampNeg x3))) rfl).trans ?_
  refine (e_t (A := (5, 24, [some (vR 1 0 0), some (vI x1), some (vI x2), some (vI x3)], [], (pm_wi (pm_wi σ 1 0 2 (x1).toNatClampNeg (σ.1 1 0 2 (x2).toNatClampNeg)) 1 0 0 (x1).toNatClampNeg x3))) rfl h3).trans ?_
  refine (e_n 5 (fr' := (5, 33, [some (vR 1 0 0), some (vI x1), some (vI x2), some (vI x3)], [vI x1, vR 1 0 3, vR 1 0 4], (pm_wi (pm_wi σ 1 0 2 (x1).toNatClampNeg (σ.1 1 0 2 (x2).toNatClampNeg)) 1 0 0 (x1).toNatClampNeg x3))) rfl).trans ?_
  refine (e_a (A := (5, 34, [some (vR 1 0 0), some (vI x1), some (vI x2), some (vI x3)], [vI ((pm_wi σ 1 0 2 (x1).toNatClampNeg (σ.1 1 0 2 (x2).toNatClampNeg)).1 1 0 2 (x1).toNatClampNeg), vR 1 0 4], (pm_wi (pm_wi σ 1 0 2 (x1).toNatClampNeg (σ.1 1 0 2 (x2).toNatClampNeg)) 1 0 0 (x1).toNatClampNeg x3))) rfl h2).trans ?_
  refine (e_n 1 (fr' := (5, 35, [some (vR 1 0 0), some (vI x1), some (vI x2), some (vI x3)], [vI (1 : Int32), vI ((pm_wi σ 1 0 2 (x1).toNatClampNeg (σ.1 1 0 2 (x2).toNatClampNeg)).1 1 0 2 (x1).toNatClampNeg), vR 1 0 4], (pm_wi (pm_wi σ 1 0 2 (x1).toNatClampNeg (σ.1 1 0 2 (x2).toNatClampNeg)) 1 0 0 (x1).toNatClampNeg x3))) rfl).trans ?_
  refine (e_a (A := (5, 36, [some (vR 1 0 0), some (vI x1), some (vI x2), some (vI x3)], [], (pm_wi (pm_wi (pm_wi σ 1 0 2 (x1).toNatClampNeg (σ.1 1 0 2 (x2).toNatClampNeg)) 1 0 0 (x1).toNatClampNeg x3) 1 0 3 (((pm_wi σ 1 0 2 (x1).toNatClampNeg (σ.1 1 0 2 (x2).toNatClampNeg)).1 1 0 2 (x1).toNatClampNeg)).toNatClampNeg (1 : Int32)))) rfl h4).trans ?_
  exact e_r rfl
set_option maxRecDepth 20000 in
theorem g5_0_1 (C : pmC) {σ : pmS} {x1 : Int32} {x2 : Int32} {x3 : Int32} (h1 : vp_in x2 48) (h2 : vp_in x1 48) (h3 : ¬ x3 = (-1 : Int32)) : pq_Rn C (5, 0, [some (vR 1 0 0), some (vI x1), some (vI x2), some (vI x3)], [], σ) = some (none, (pm_wi (pm_wi σ 1 0 2 (x1).toNatClampNeg (σ.1 1 0 2 (x2).toNatClampNeg)) 1 0 0 (x1).toNatClampNeg x3)) := by
  refine (e_n 6 (fr' := (5, 10, [some (vR 1 0 0), some (vI x1), some (vI x2), some (vI x3)], [vI x2, vR 1 0 3, vI x1, vR 1 0 3], σ)) rfl).trans ?_
  refine (e_a (A := (5, 11, [some (vR 1 0 0), some (vI x1), some (vI x2), some (vI x3)], [vI (σ.1 1 0 2 (x2).toNatClampNeg), vI x1, vR 1 0 3], σ)) rfl h1).trans ?_
  refine (e_a (A := (5, 12, [some (vR 1 0 0), some (vI x1), some (vI x2), some (vI x3)], [], (pm_wi σ 1 0 2 (x1).toNatClampNeg (σ.1 1 0 2 (x2).toNatClampNeg)))) rfl h2).trans ?_
  refine (e_n 4 (fr' := (5, 18, [some (vR 1 0 0), some (vI x1), some (vI x2), some (vI x3)], [vI x3, vI x1, vR 1 0 1], (pm_wi σ 1 0 2 (x1).toNatClampNeg (σ.1 1 0 2 (x2).toNatClampNeg)))) rfl).trans ?_
  refine (e_a (A := (5, 19, [some (vR 1 0 0), some (vI x1), some (vI x2), some (vI x3)], [], (pm_wi (pm_wi σ 1 0 2 (x1).toNatClampNeg (σ.1 1 0 2 (x2).toNatClampNeg)) 1 0 0 (x1).toNatClampNeg x3))) rfl h2).trans ?_
  refine (e_n 2 (fr' := (5, 21, [some (vR 1 0 0), some (vI x1), some (vI x2), some (vI x3)], [vI (-1 : Int32), vI x3], (pm_wi (pm_wi σ 1 0 2 (x1).toNatClampNeg (σ.1 1 0 2 (x2).toNatClampNeg)) 1 0 0 (x1).toNatClampNeg x3))) rfl).trans ?_
  refine (e_f (B := (5, 36, [some (vR 1 0 0), some (vI x1), some (vI x2), some (vI x3)], [], (pm_wi (pm_wi σ 1 0 2 (x1).toNatClampNeg (σ.1 1 0 2 (x2).toNatClampNeg)) 1 0 0 (x1).toNatClampNeg x3))) rfl h3).trans ?_
  exact e_r rfl
set_option maxRecDepth 20000 in
theorem g6_0_0 (C : pmC) {σ : pmS} {x1 : Int32} {l2 : Option pmV}  : pq_Rn C (6, 0, [some (vR 1 0 0), some (vI x1), l2], [], σ) = pq_Rn C (6, 2, [some (vR 1 0 0), some (vI x1), some (vI (0 : Int32))], [], σ) := by
  exact e_n 2 rfl
set_option maxRecDepth 20000 in
theorem g6_2_0 (C : pmC) {σ : pmS} {x1 : Int32} {x2 : Int32} (h1 : x1 ≤ x2) : pq_Rn C (6, 2, [some (vR 1 0 0), some (vI x1), some (vI x2)], [], σ) = some (none, σ) := by
  refine (e_n 2 (fr' := (6, 4, [some (vR 1 0 0), some (vI x1), some (vI x2)], [vI x1, vI x2], σ)) rfl).trans ?_
  refine (e_t (A := (6, 44, [some (vR 1 0 0), some (vI x1), some (vI x2)], [], σ)) rfl h1).trans ?_
  exact e_r rfl
set_option maxRecDepth 20000 in
theorem g6_2_1 (C : pmC) {σ : pmS} {x1 : Int32} {x2 : Int32} (h1 : ¬ x1 ≤ x2) (h2 : vp_in x2 48) (h3 : vp_in (σ.1 1 0 2 (x2).toNatClampNeg) 48) (h4 : (σ.1 1 0 3 ((σ.1 1 0 2 (x2).toNatClampNeg)).toNatClampNeg) = 0) : pq_Rn C (6, 2, [some (vR 1 0 0), some (vI x1), some (vI x2)], [], σ) = pq_Rn C (6, 2, [some (vR 1 0 0), some (vI x1), some (vI (x2 + (1 : Int32)))], [], (pm_wi σ 1 0 1 (x2).toNatClampNeg ((σ.1 1 0 1 (x2).toNatClampNeg) ||| ((1 : Int32) <<< ((σ.1 1 0 0 (x2).toNatClampNeg) &&& 31))))) := by
  refine (e_n 2 (fr' := (6, 4, [some (vR 1 0 0), some (vI x1), some (vI x2)], [vI x1, vI x2], σ)) rfl).trans ?_
  refine (e_f (B := (6, 7, [some (vR 1 0 0), some (vI x1), some (vI x2)], [], σ)) rfl h1).trans ?_
  refine (e_n 5 (fr' := (6, 16, [some (vR 1 0 0), some (vI x1), some (vI x2)], [vI x2, vR 1 0 3, vR 1 0 4], σ)) rfl).trans ?_
  refine (e_a (A := (6, 17, [some (vR 1 0 0), some (vI x1), some (vI x2)], [vI (σ.1 1 0 2 (x2).toNatClampNeg), vR 1 0 4], σ)) rfl h2).trans ?_
  refine (e_a (A := (6, 18, [some (vR 1 0 0), some (vI x1), some (vI x2)], [vI (σ.1 1 0 3 ((σ.1 1 0 2 (x2).toNatClampNeg)).toNatClampNeg)], σ)) rfl h3).trans ?_
  refine (e_t (A := (6, 21, [some (vR 1 0 0), some (vI x1), some (vI x2)], [], σ)) rfl h4).trans ?_
  refine (e_n 4 (fr' := (6, 27, [some (vR 1 0 0), some (vI x1), some (vI x2)], [vI x2, vR 1 0 2, vI x2, vR 1 0 2], σ)) rfl).trans ?_
  refine (e_a (A := (6, 28, [some (vR 1 0 0), some (vI x1), some (vI x2)], [vI (σ.1 1 0 1 (x2).toNatClampNeg), vI x2, vR 1 0 2], σ)) rfl h2).trans ?_
  refine (e_n 4 (fr' := (6, 34, [some (vR 1 0 0), some (vI x1), some (vI x2)], [vI x2, vR 1 0 1, vI (1 : Int32), vI (σ.1 1 0 1 (x2).toNatClampNeg), vI x2, vR 1 0 2], σ)) rfl).trans ?_
  refine (e_a (A := (6, 35, [some (vR 1 0 0), some (vI x1), some (vI x2)], [vI (σ.1 1 0 0 (x2).toNatClampNeg), vI (1 : Int32), vI (σ.1 1 0 1 (x2).toNatClampNeg), vI x2, vR 1 0 2], σ)) rfl h2).trans ?_
  refine (e_n 2 (fr' := (6, 37, [some (vR 1 0 0), some (vI x1), some (vI x2)], [vI ((σ.1 1 0 1 (x2).toNatClampNeg) ||| ((1 : Int32) <<< ((σ.1 1 0 0 (x2).toNatClampNeg) &&& 31))), vI x2, vR 1 0 2], σ)) rfl).trans ?_
  refine (e_a (A := (6, 38, [some (vR 1 0 0), some (vI x1), some (vI x2)], [], (pm_wi σ 1 0 1 (x2).toNatClampNeg ((σ.1 1 0 1 (x2).toNatClampNeg) ||| ((1 : Int32) <<< ((σ.1 1 0 0 (x2).toNatClampNeg) &&& 31)))))) rfl h2).trans ?_
  exact e_n 2 rfl
set_option maxRecDepth 20000 in
theorem g6_2_2 (C : pmC) {σ : pmS} {x1 : Int32} {x2 : Int32} (h1 : ¬ x1 ≤ x2) (h2 : vp_in x2 48) (h3 : vp_in (σ.1 1 0 2 (x2).toNatClampNeg) 48) (h4 : ¬ (σ.1 1 0 3 ((σ.1 1 0 2 (x2).toNatClampNeg)).toNatClampNeg) = 0) : pq_Rn C (6, 2, [some (vR 1 0 0), some (vI x1), some (vI x2)], [], σ) = pq_Rn C (6, 2, [some (vR 1 0 0), some (vI x1), some (vI (x2 + (1 : Int32)))], [], σ) := by
  refine (e_n 2 (fr' := (6, 4, [some (vR 1 0 0), some (vI x1), some (vI x2)], [vI x1, vI x2], σ)) rfl).trans ?_
  refine (e_f (B := (6, 7, [some (vR 1 0 0), some (vI x1), some (vI x2)], [], σ)) rfl h1).trans ?_
  refine (e_n 5 (fr' := (6, 16, [some (vR 1 0 0), some (vI x1), some (vI x2)], [vI x2, vR 1 0 3, vR 1 0 4], σ)) rfl).trans ?_
  refine (e_a (A := (6, 17, [some (vR 1 0 0), some (vI x1), some (vI x2)], [vI (σ.1 1 0 2 (x2).toNatClampNeg), vR 1 0 4], σ)) rfl h2).trans ?_
  refine (e_a (A := (6, 18, [some (vR 1 0 0), some (vI x1), some (vI x2)], [vI (σ.1 1 0 3 ((σ.1 1 0 2 (x2).toNatClampNeg)).toNatClampNeg)], σ)) rfl h3).trans ?_
  refine (e_f (B := (6, 38, [some (vR 1 0 0), some (vI x1), some (vI x2)], [], σ)) rfl h4).trans ?_
  exact e_n 2 rfl
set_option maxRecDepth 20000 in
theorem g7_0_0 (C : pmC) {σ : pmS} {x1 : Int32} {l2 : Option pmV}  : pq_Rn C (7, 0, [some (vR 1 0 0), some (vI x1), l2], [], σ) = pq_Rn C (7, 2, [some (vR 1 0 0), some (vI x1), some (vI (0 : Int32))], [], σ) := by
  exact e_n 2 rfl
set_option maxRecDepth 20000 in
theorem g7_2_0 (C : pmC) {σ : pmS} {x1 : Int32} {x2 : Int32} (h1 : x1 ≤ x2) : pq_Rn C (7, 2, [some (vR 1 0 0), some (vI x1), some (vI x2)], [], σ) = some (some (vI (1 : Int32)), σ) := by
  refine (e_n 2 (fr' := (7, 4, [some (vR 1 0 0), some (vI x1), some (vI x2)], [vI x1, vI x2], σ)) rfl).trans ?_
  refine (e_t (A := (7, 24, [some (vR 1 0 0), some (vI x1), some (vI x2)], [], σ)) rfl h1).trans ?_
  refine (e_n 1 (fr' := (7, 25, [some (vR 1 0 0), some (vI x1), some (vI x2)], [vI (1 : Int32)], σ)) rfl).trans ?_
  exact e_r rfl
set_option maxRecDepth 20000 in
theorem g7_2_1 (C : pmC) {σ : pmS} {x1 : Int32} {x2 : Int32} (h1 : ¬ x1 ≤ x2) (h2 : vp_in x2 48) (h3 : (σ.1 1 0 1 (x2).toNatClampNeg) = 0) : pq_Rn C (7, 2, [some (vR 1 0 0), some (vI x1), some (vI x2)], [], σ) = some (some (vI (0 : Int32)), σ) := by
  refine (e_n 2 (fr' := (7, 4, [some (vR 1 0 0), some (vI x1), some (vI x2)], [vI x1, vI x2], σ)) rfl).trans ?_
  refine (e_f (B := (7, 7, [some (vR 1 0 0), some (vI x1), some (vI x2)], [], σ)) rfl h1).trans ?_
  refine (e_n 3 (fr' := (7, 12, [some (vR 1 0 0), some (vI x1), some (vI x2)], [vI x2, vR 1 0 2], σ)) rfl).trans ?_
  refine (e_a (A := (7, 13, [some (vR 1 0 0), some (vI x1), some (vI x2)], [vI (σ.1 1 0 1 (x2).toNatClampNeg)], σ)) rfl h2).trans ?_
  refine (e_t (A := (7, 16, [some (vR 1 0 0), some (vI x1), some (vI x2)], [], σ)) rfl h3).trans ?_
  refine (e_n 1 (fr' := (7, 17, [some (vR 1 0 0), some (vI x1), some (vI x2)], [vI (0 : Int32)], σ)) rfl).trans ?_
  exact e_r rfl
set_option maxRecDepth 20000 in
theorem g7_2_2 (C : pmC) {σ : pmS} {x1 : Int32} {x2 : Int32} (h1 : ¬ x1 ≤ x2) (h2 : vp_in x2 48) (h3 : ¬ (σ.1 1 0 1 (x2).toNatClampNeg) = 0) : pq_Rn C (7, 2, [some (vR 1 0 0), some (vI x1), some (vI x2)], [], σ) = pq_Rn C (7, 2, [some (vR 1 0 0), some (vI x1), some (vI (x2 + (1 : Int32)))], [], σ) := by
  refine (e_n 2 (fr' := (7, 4, [some (vR 1 0 0), some (vI x1), some (vI x2)], [vI x1, vI x2], σ)) rfl).trans ?_
  refine (e_f (B := (7, 7, [some (vR 1 0 0), some (vI x1), some (vI x2)], [], σ)) rfl h1).trans ?_
  refine (e_n 3 (fr' := (7, 12, [some (vR 1 0 0), some (vI x1), some (vI x2)], [vI x2, vR 1 0 2], σ)) rfl).trans ?_
  refine (e_a (A := (7, 13, [some (vR 1 0 0), some (vI x1), some (vI x2)], [vI (σ.1 1 0 1 (x2).toNatClampNeg)], σ)) rfl h2).trans ?_
  refine (e_f (B := (7, 18, [some (vR 1 0 0), some (vI x1), some (vI x2)], [], σ)) rfl h3).trans ?_
  exact e_n 2 rfl
set_option maxRecDepth 20000 in
theorem g8_0_0 (C : pmC) {σ : pmS} {o0 : Nat} {x1 : Int32} {x2 : Int32} {x3 : Int32} (h1 : vp_in x1 8) (h2 : vp_in x2 8) (h3 : vp_in x3 8) : pq_Rn C (8, 0, [some (vR 2 o0 0), some (vI x1), some (vI x2), some (vI x3)], [], σ) = some (none, (pm_wi (pm_wi (pm_wi (pm_wi (pm_wi (pm_wi (pm_wi σ 2 o0 0 (x1).toNatClampNeg x2) 2 o0 1 (x2).toNatClampNeg x1) 2 o0 2 (x2).toNatClampNeg x3) 2 o0 3 (x1).toNatClampNeg x3) 2 o0 4 (x3).toNatClampNeg x2) 2 o0 5 (x3).toNatClampNeg x1) 2 o0 8 0 (((pm_wi (pm_wi (pm_wi (pm_wi (pm_wi (pm_wi σ 2 o0 0 (x1).toNatClampNeg x2) 2 o0 1 (x2).toNatClampNeg x1) 2 o0 2 (x2).toNatClampNeg x3) 2 o0 3 (x1).toNatClampNeg x3) 2 o0 4 (x3).toNatClampNeg x2) 2 o0 5 (x3).toNatClampNeg x1).1 2 o0 8 0) + (1 : Int32)))) := by
  refine (e_n 4 (fr' := (8, 6, [some (vR 2 o0 0), some (vI x1), some (vI x2), some (vI x3)], [vI x2, vI x1, vR 2 o0 1], σ)) rfl).trans ?_
  refine (e_a (A := (8, 7, [some (vR 2 o0 0), some (vI x1), some (vI x2), some (vI x3)], [], (pm_wi σ 2 o0 0 (x1).toNatClampNeg x2))) rfl h1).trans ?_
  refine (e_n 4 (fr' := (8, 13, [some (vR 2 o0 0), some (vI x1), some (vI x2), some (vI x3)], [vI x1, vI x2, vR 2 o0 2], (pm_wi σ 2 o0 0 (x1).toNatClampNeg x2))) rfl).trans ?_
  refine (e_a (A := (8, 14, [some (vR 2 o0 0), some (vI x1), some (vI x2), some (vI x3)], [], (pm_wi (pm_wi σ 2 o0 0 (x1).toNatClampNeg x2) 2 o0 1 (x2).toNatClampNeg x1))) rfl h2).trans ?_
  refine (e_n 4 (fr' := (8, 20, [some (vR 2 o0 0), some (vI x1), some (vI x2), some (vI x3)], [vI x3, vI x2, vR 2 o0 3], (pm_wi (pm_wi σ 2 o0 0 (x1).toNatClampNeg x2) 2 o0 1 (x2).toNatClampNeg x1))) rfl).trans ?_
  refine (e_a (A := (8, 21, [some (vR 2 o0 0), some (vI x1), some (vI x2), some (vI x3)], [], (pm_wi (pm_wi (pm_wi σ 2 o0 0 (x1).toNatClampNeg x2) 2 o0 1 (x2).toNatClampNeg x1) 2 o0 2 (x2).toNatClampNeg x3))) rfl h2).trans ?_
  refine (e_n 4 (fr' := (8, 27, [some (vR 2 o0 0), some (vI x1), some (vI x2), some (vI x3)], [vI x3, vI x1, vR 2 o0 4], (pm_wi (pm_wi (pm_wi σ 2 o0 0 (x1).toNatClampNeg x2) 2 o0 1 (x2).toNatClampNeg x1) 2 o0 2 (x2).toNatClampNeg x3))) rfl).trans ?_
  refine (e_a (A := (8, 28, [some (vR 2 o0 0), some (vI x1), some (vI x2), some (vI x3)], [], (pm_wi (pm_wi (pm_wi (pm_wi σ 2 o0 0 (x1).toNatClampNeg x2) 2 o0 1 (x2).toNatClampNeg x1) 2 o0 2 (x2).toNatClampNeg x3) 2 o0 3 (x1).toNatClampNeg x3))) rfl h1).trans ?_
  refine (e_n 4 (fr' := (8, 34, [some (vR 2 o0 0), some (vI x1), some (vI x2), some (vI x3)], [vI x2, vI x3, vR 2 o0 5], (pm_wi (pm_wi (pm_wi (pm_wi σ 2 o0 0 (x1).toNatClampNeg x2) 2 o0 1 (x2).toNatClampNeg x1) 2 o0 2 (x2).toNatClampNeg x3) 2 o0 3 (x1).toNatClampNeg x3))) rfl).trans ?_
  refine (e_a (A := (8, 35, [some (vR 2 o0 0), some (vI x1), some (vI x2), some (vI x3)], [], (pm_wi (pm_wi (pm_wi (pm_wi (pm_wi σ 2 o0 0 (x1).toNatClampNeg x2) 2 o0 1 (x2).toNatClampNeg x1) 2 o0 2 (x2).toNatClampNeg x3) 2 o0 3 (x1).toNatClampNeg x3) 2 o0 4 (x3).toNatClampNeg x2))) rfl h3).trans ?_
  refine (e_n 4 (fr' := (8, 41, [some (vR 2 o0 0), some (vI x1), some (vI x2), some (vI x3)], [vI x1, vI x3, vR 2 o0 6], (pm_wi (pm_wi (pm_wi (pm_wi (pm_wi σ 2 o0 0 (x1).toNatClampNeg x2) 2 o0 1 (x2).toNatClampNeg x1) 2 o0 2 (x2).toNatClampNeg x3) 2 o0 3 (x1).toNatClampNeg x3) 2 o0 4 (x3).toNatClampNeg x2))) rfl).trans ?_
  refine (e_a (A := (8, 42, [some (vR 2 o0 0), some (vI x1), some (vI x2), some (vI x3)], [], (pm_wi (pm_wi (pm_wi (pm_wi (pm_wi (pm_wi σ 2 o0 0 (x1).toNatClampNeg x2) 2 o0 1 (x2).toNatClampNeg x1) 2 o0 2 (x2).toNatClampNeg x3) 2 o0 3 (x1).toNatClampNeg x3) 2 o0 4 (x3).toNatClampNeg x2) 2 o0 5 (x3).toNatClampNeg x1))) rfl h3).trans ?_
  refine (e_n 6 (fr' := (8, 52, [some (vR 2 o0 0), some (vI x1), some (vI x2), some (vI x3)], [], (pm_wi (pm_wi (pm_wi (pm_wi (pm_wi (pm_wi (pm_wi σ 2 o0 0 (x1).toNatClampNeg x2) 2 o0 1 (x2).toNatClampNeg x1) 2 o0 2 (x2).toNatClampNeg x3) 2 o0 3 (x1).toNatClampNeg x3) 2 o0 4 (x3).toNatClampNeg x2) 2 o0 5 (x3).toNatClampNeg x1) 2 o0 8 0 (((pm_wi (pm_wi (pm_wi (pm_wi (pm_wi (pm_wi σ 2 o0 0 (x1).toNatClampNeg x2) 2 o0 1 (x2).toNatClampNeg x1) 2 o0 2 (x2).toNatClampNeg x3) 2 o0 3 (x1).toNatClampNeg x3) 2 o0 4 (x3).toNatClampNeg x2) 2 o0 5 (x3).toNatClampNeg x1).1 2 o0 8 0) + (1 : Int32))))) rfl).trans ?_
  exact e_r rfl
set_option maxRecDepth 20000 in
theorem g9_0_0 (C : pmC) {σ : pmS} {o0 : Nat} {x1 : Int32} (h1 : x1 < 0) : pq_Rn C (9, 0, [some (vR 2 o0 0), some (vI x1)], [], σ) = some (some (vI (0 : Int32)), σ) := by
  refine (e_n 1 (fr' := (9, 1, [some (vR 2 o0 0), some (vI x1)], [vI x1], σ)) rfl).trans ?_
  refine (e_t (A := (9, 16, [some (vR 2 o0 0), some (vI x1)], [], σ)) rfl h1).trans ?_
  refine (e_n 1 (fr' := (9, 17, [some (vR 2 o0 0), some (vI x1)], [vI (0 : Int32)], σ)) rfl).trans ?_
  exact e_r rfl
set_option maxRecDepth 20000 in
theorem g9_0_1 (C : pmC) {σ : pmS} {o0 : Nat} {x1 : Int32} (h1 : ¬ x1 < 0) (h2 : (σ.1 2 o0 8 0) ≤ x1) : pq_Rn C (9, 0, [some (vR 2 o0 0), some (vI x1)], [], σ) = some (some (vI (0 : Int32)), σ) := by
  refine (e_n 1 (fr' := (9, 1, [some (vR 2 o0 0), some (vI x1)], [vI x1], σ)) rfl).trans ?_
  refine (e_f (B := (9, 4, [some (vR 2 o0 0), some (vI x1)], [], σ)) rfl h1).trans ?_
  refine (e_n 3 (fr' := (9, 9, [some (vR 2 o0 0), some (vI x1)], [vI (σ.1 2 o0 8 0), vI x1], σ)) rfl).trans ?_
  refine (e_t (A := (9, 16, [some (vR 2 o0 0), some (vI x1)], [], σ)) rfl h2).trans ?_
  refine (e_n 1 (fr' := (9, 17, [some (vR 2 o0 0), some (vI x1)], [vI (0 : Int32)], σ)) rfl).trans ?_
  exact e_r rfl
set_option maxRecDepth 20000 in
theorem g9_0_2 (C : pmC) {σ : pmS} {o0 : Nat} {x1 : Int32} (h1 : ¬ x1 < 0) (h2 : ¬ (σ.1 2 o0 8 0) ≤ x1) : pq_Rn C (9, 0, [some (vR 2 o0 0), some (vI x1)], [], σ) = some (some (vI (1 : Int32)), σ) := by
  refine (e_n 1 (fr' := (9, 1, [some (vR 2 o0 0), some (vI x1)], [vI x1], σ)) rfl).trans ?_
  refine (e_f (B := (9, 4, [some (vR 2 o0 0), some (vI x1)], [], σ)) rfl h1).trans ?_
  refine (e_n 3 (fr' := (9, 9, [some (vR 2 o0 0), some (vI x1)], [vI (σ.1 2 o0 8 0), vI x1], σ)) rfl).trans ?_
  refine (e_f (B := (9, 12, [some (vR 2 o0 0), some (vI x1)], [], σ)) rfl h2).trans ?_
  refine (e_n 2 (fr' := (9, 17, [some (vR 2 o0 0), some (vI x1)], [vI (1 : Int32)], σ)) rfl).trans ?_
  exact e_r rfl
set_option maxRecDepth 20000 in
theorem g10_0_0 (C : pmC) {σ : pmS} {o0 : Nat} {x1 : Int32} {x2 : Int32} {σ1 : pmS} {r1 : Int32} (h1 : C 9 [vR 2 o0 0, vI x1] σ = some (some (vI r1), σ1)) (h2 : r1 = 0) : pq_Rn C (10, 0, [some (vR 2 o0 0), some (vI x1), some (vI x2)], [], σ) = some (some (vI (-1 : Int32)), σ1) := by
  refine (e_n 2 (fr' := (10, 2, [some (vR 2 o0 0), some (vI x1), some (vI x2)], [vI x1, vR 2 o0 0], σ)) rfl).trans ?_
  refine (e_ci (m := 10) (pc := 5) (ls := [some (vR 2 o0 0), some (vI x1), some (vI x2)]) (rest := []) rfl h1).trans ?_
  refine (e_t (A := (10, 8, [some (vR 2 o0 0), some (vI x1), some (vI x2)], [], σ1)) rfl h2).trans ?_
  refine (e_n 1 (fr' := (10, 9, [some (vR 2 o0 0), some (vI x1), some (vI x2)], [vI (-1 : Int32)], σ1)) rfl).trans ?_
  exact e_r rfl
set_option maxRecDepth 20000 in
theorem g10_0_1 (C : pmC) {σ : pmS} {o0 : Nat} {x1 : Int32} {x2 : Int32} {σ1 : pmS} {r1 : Int32} (h1 : C 9 [vR 2 o0 0, vI x1] σ = some (some (vI r1), σ1)) (h2 : ¬ r1 = 0) (h3 : x2 = (1 : Int32)) (h4 : vp_in x1 8) : pq_Rn C (10, 0, [some (vR 2 o0 0), some (vI x1), some (vI x2)], [], σ) = some (some (vI (σ1.1 2 o0 2 (x1).toNatClampNeg)), σ1) := by
  refine (e_n 2 (fr' := (10, 2, [some (vR 2 o0 0), some (vI x1), some (vI x2)], [vI x1, vR 2 o0 0], σ)) rfl).trans ?_
  refine (e_ci (m := 10) (pc := 5) (ls := [some (vR 2 o0 0), some (vI x1), some (vI x2)]) (rest := []) rfl h1).trans ?_
  refine (e_f (B := (10, 10, [some (vR 2 o0 0), some (vI x1), some (vI x2)], [], σ1)) rfl h2).trans ?_
  refine (e_n 2 (fr' := (10, 12, [some (vR 2 o0 0), some (vI x1), some (vI x2)], [vI (1 : Int32), vI x2], σ1)) rfl).trans ?_
  refine (e_t (A := (10, 15, [some (vR 2 o0 0), some (vI x1), some (vI x2)], [], σ1)) rfl h3).trans ?_
  refine (e_n 3 (fr' := (10, 20, [some (vR 2 o0 0), some (vI x1), some (vI x2)], [vI x1, vR 2 o0 3], σ1)) rfl).trans ?_
  refine (e_a (A := (10, 21, [some (vR 2 o0 0), some (vI x1), some (vI x2)], [vI (σ1.1 2 o0 2 (x1).toNatClampNeg)], σ1)) rfl h4).trans ?_
  refine (e_n 1 (fr' := (10, 30, [some (vR 2 o0 0), some (vI x1), some (vI x2)], [vI (σ1.1 2 o0 2 (x1).toNatClampNeg)], σ1)) rfl).trans ?_
  exact e_r rfl
set_option maxRecDepth 20000 in
theorem g10_0_2 (C : pmC) {σ : pmS} {o0 : Nat} {x1 : Int32} {x2 : Int32} {σ1 : pmS} {r1 : Int32} (h1 : C 9 [vR 2 o0 0, vI x1] σ = some (some (vI r1), σ1)) (h2 : ¬ r1 = 0) (h3 : ¬ x2 = (1 : Int32)) (h4 : vp_in x1 8) : pq_Rn C (10, 0, [some (vR 2 o0 0), some (vI x1), some (vI x2)], [], σ) = some (some (vI (σ1.1 2 o0 3 (x1).toNatClampNeg)), σ1) := by
  refine (e_n 2 (fr' := (10, 2, [some (vR 2 o0 0), some (vI x1), some (vI x2)], [vI x1, vR 2 o0 0], σ)) rfl).trans ?_
  refine (e_ci (m := 10) (pc := 5) (ls := [some (vR 2 o0 0), some (vI x1), some (vI x2)]) (rest := []) rfl h1).trans ?_
  refine (e_f (B := (10, 10, [some (vR 2 o0 0), some (vI x1), some (vI x2)], [], σ1)) rfl h2).trans ?_
  refine (e_n 2 (fr' := (10, 12, [some (vR 2 o0 0), some (vI x1), some (vI x2)], [vI (1 : Int32), vI x2], σ1)) rfl).trans ?_
  refine (e_f (B := (10, 24, [some (vR 2 o0 0), some (vI x1), some (vI x2)], [], σ1)) rfl h3).trans ?_
  refine (e_n 3 (fr' := (10, 29, [some (vR 2 o0 0), some (vI x1), some (vI x2)], [vI x1, vR 2 o0 4], σ1)) rfl).trans ?_
  refine (e_a (A := (10, 30, [some (vR 2 o0 0), some (vI x1), some (vI x2)], [vI (σ1.1 2 o0 3 (x1).toNatClampNeg)], σ1)) rfl h4).trans ?_
  exact e_r rfl
set_option maxRecDepth 20000 in
theorem g11_0_0 (C : pmC) {σ : pmS} {o0 : Nat} {x1 : Int32} {x2 : Int32} {l3 : Option pmV} {l4 : Option pmV} (h1 : x2 = (1 : Int32)) (h2 : vp_in (x1 >>> ((1 : Int32) &&& 31)) 8) : pq_Rn C (11, 0, [some (vR 2 o0 0), some (vI x1), some (vI x2), l3, l4], [], σ) = some (some (vI (((2 : Int32) * (σ.1 2 o0 5 ((x1 >>> ((1 : Int32) &&& 31))).toNatClampNeg)) + (0 : Int32))), σ) := by
  refine (e_n 9 (fr' := (11, 10, [some (vR 2 o0 0), some (vI x1), some (vI x2), some (vI (x1 >>> ((1 : Int32) &&& 31))), some (vI (x1 &&& (1 : Int32)))], [vI x2], σ)) rfl).trans ?_
  refine (e_g (A := (11, 40, [some (vR 2 o0 0), some (vI x1), some (vI x2), some (vI (x1 >>> ((1 : Int32) &&& 31))), some (vI (x1 &&& (1 : Int32)))], [], σ)) (off' := 30) rfl (by rw [h1]; decide) rfl).trans ?_
  refine (e_n 4 (fr' := (11, 46, [some (vR 2 o0 0), some (vI x1), some (vI x2), some (vI (x1 >>> ((1 : Int32) &&& 31))), some (vI (x1 &&& (1 : Int32)))], [vI (x1 >>> ((1 : Int32) &&& 31)), vR 2 o0 6, vI (2 : Int32)], σ)) rfl).trans ?_
  refine (e_a (A := (11, 47, [some (vR 2 o0 0), some (vI x1), some (vI x2), some (vI (x1 >>> ((1 : Int32) &&& 31))), some (vI (x1 &&& (1 : Int32)))], [vI (σ.1 2 o0 5 ((x1 >>> ((1 : Int32) &&& 31))).toNatClampNeg), vI (2 : Int32)], σ)) rfl h2).trans ?_
  refine (e_n 3 (fr' := (11, 50, [some (vR 2 o0 0), some (vI x1), some (vI x2), some (vI (x1 >>> ((1 : Int32) &&& 31))), some (vI (x1 &&& (1 : Int32)))], [vI (((2 : Int32) * (σ.1 2 o0 5 ((x1 >>> ((1 : Int32) &&& 31))).toNatClampNeg)) + (0 : Int32))], σ)) rfl).trans ?_
  exact e_r rfl
set_option maxRecDepth 20000 in
theorem g11_0_1 (C : pmC) {σ : pmS} {o0 : Nat} {x1 : Int32} {x2 : Int32} {l3 : Option pmV} {l4 : Option pmV} (h1 : x2 = (2 : Int32)) (h2 : vp_in (x1 >>> ((1 : Int32) &&& 31)) 8) : pq_Rn C (11, 0, [some (vR 2 o0 0), some (vI x1), some (vI x2), l3, l4], [], σ) = some (some (vI (((2 : Int32) * (σ.1 2 o0 4 ((x1 >>> ((1 : Int32) &&& 31))).toNatClampNeg)) + (1 : Int32))), σ) := by
  refine (e_n 9 (fr' := (11, 10, [some (vR 2 o0 0), some (vI x1), some (vI x2), some (vI (x1 >>> ((1 : Int32) &&& 31))), some (vI (x1 &&& (1 : Int32)))], [vI x2], σ)) rfl).trans ?_
  refine (e_g (A := (11, 51, [some (vR 2 o0 0), some (vI x1), some (vI x2), some (vI (x1 >>> ((1 : Int32) &&& 31))), some (vI (x1 &&& (1 : Int32)))], [], σ)) (off' := 41) rfl (by rw [h1]; decide) rfl).trans ?_
  refine (e_n 4 (fr' := (11, 57, [some (vR 2 o0 0), some (vI x1), some (vI x2), some (vI (x1 >>> ((1 : Int32) &&& 31))), some (vI (x1 &&& (1 : Int32)))], [vI (x1 >>> ((1 : Int32) &&& 31)), vR 2 o0 5, vI (2 : Int32)], σ)) rfl).trans ?_
  refine (e_a (A := (11, 58, [some (vR 2 o0 0), some (vI x1), some (vI x2), some (vI (x1 >>> ((1 : Int32) &&& 31))), some (vI (x1 &&& (1 : Int32)))], [vI (σ.1 2 o0 4 ((x1 >>> ((1 : Int32) &&& 31))).toNatClampNeg), vI (2 : Int32)], σ)) rfl h2).trans ?_
  refine (e_n 3 (fr' := (11, 61, [some (vR 2 o0 0), some (vI x1), some (vI x2), some (vI (x1 >>> ((1 : Int32) &&& 31))), some (vI (x1 &&& (1 : Int32)))], [vI (((2 : Int32) * (σ.1 2 o0 4 ((x1 >>> ((1 : Int32) &&& 31))).toNatClampNeg)) + (1 : Int32))], σ)) rfl).trans ?_
  exact e_r rfl
set_option maxRecDepth 20000 in
theorem g11_0_2 (C : pmC) {σ : pmS} {o0 : Nat} {x1 : Int32} {x2 : Int32} {l3 : Option pmV} {l4 : Option pmV} (h1 : x2 = (3 : Int32)) (h2 : (x1 &&& (1 : Int32)) = 0) (h3 : vp_in (x1 >>> ((1 : Int32) &&& 31)) 8) : pq_Rn C (11, 0, [some (vR 2 o0 0), some (vI x1), some (vI x2), l3, l4], [], σ) = some (some (vI (((2 : Int32) * (σ.1 2 o0 0 ((x1 >>> ((1 : Int32) &&& 31))).toNatClampNeg)) + (1 : Int32))), σ) := by
  refine (e_n 9 (fr' := (11, 10, [some (vR 2 o0 0), some (vI x1), some (vI x2), some (vI (x1 >>> ((1 : Int32) &&& 31))), some (vI (x1 &&& (1 : Int32)))], [vI x2], σ)) rfl).trans ?_
  refine (e_g (A := (11, 62, [some (vR 2 o0 0), some (vI x1), some (vI x2), some (vI (x1 >>> ((1 : Int32) &&& 31))), some (vI (x1 &&& (1 : Int32)))], [], σ)) (off' := 52) rfl (by rw [h1]; decide) rfl).trans ?_
  refine (e_n 1 (fr' := (11, 64, [some (vR 2 o0 0), some (vI x1), some (vI x2), some (vI (x1 >>> ((1 : Int32) &&& 31))), some (vI (x1 &&& (1 : Int32)))], [vI (x1 &&& (1 : Int32))], σ)) rfl).trans ?_
  refine (e_t (A := (11, 67, [some (vR 2 o0 0), some (vI x1), some (vI x2), some (vI (x1 >>> ((1 : Int32) &&& 31))), some (vI (x1 &&& (1 : Int32)))], [], σ)) rfl h2).trans ?_
  refine (e_n 4 (fr' := (11, 73, [some (vR 2 o0 0), some (vI x1), some (vI x2), some (vI (x1 >>> ((1 : Int32) &&& 31))), some (vI (x1 &&& (1 : Int32)))], [vI (x1 >>> ((1 : Int32) &&& 31)), vR 2 o0 1, vI (2 : Int32)], σ)) rfl).trans ?_
  refine (e_a (A := (11, 74, [some (vR 2 o0 0), some (vI x1), some (vI x2), some (vI (x1 >>> ((1 : Int32) &&& 31))), some (vI (x1 &&& (1 : Int32)))], [vI (σ.1 2 o0 0 ((x1 >>> ((1 : Int32) &&& 31))).toNatClampNeg), vI (2 : Int32)], σ)) rfl h3).trans ?_
  refine (e_n 4 (fr' := (11, 90, [some (vR 2 o0 0), some (vI x1), some (vI x2), some (vI (x1 >>> ((1 : Int32) &&& 31))), some (vI (x1 &&& (1 : Int32)))], [vI (((2 : Int32) * (σ.1 2 o0 0 ((x1 >>> ((1 : Int32) &&& 31))).toNatClampNeg)) + (1 : Int32))], σ)) rfl).trans ?_
  exact e_r rfl
set_option maxRecDepth 20000 in
theorem g11_0_3 (C : pmC) {σ : pmS} {o0 : Nat} {x1 : Int32} {x2 : Int32} {l3 : Option pmV} {l4 : Option pmV} (h1 : x2 = (3 : Int32)) (h2 : ¬ (x1 &&& (1 : Int32)) = 0) (h3 : vp_in (x1 >>> ((1 : Int32) &&& 31)) 8) : pq_Rn C (11, 0, [some (vR 2 o0 0), some (vI x1), some (vI x2), l3, l4], [], σ) = some (some (vI (((2 : Int32) * (σ.1 2 o0 1 ((x1 >>> ((1 : Int32) &&& 31))).toNatClampNeg)) + (0 : Int32))), σ) := by
  refine (e_n 9 (fr' := (11, 10, [some (vR 2 o0 0), some (vI x1), some (vI x2), some (vI (x1 >>> ((1 : Int32) &&& 31))), some (vI (x1 &&& (1 : Int32)))], [vI x2], σ)) rfl).trans ?_
  refine (e_g (A := (11, 62, [some (vR 2 o0 0), some (vI x1), some (vI x2), some (vI (x1 >>> ((1 : Int32) &&& 31))), some (vI (x1 &&& (1 : Int32)))], [], σ)) (off' := 52) rfl (by rw [h1]; decide) rfl).trans ?_
  refine (e_n 1 (fr' := (11, 64, [some (vR 2 o0 0), some (vI x1), some (vI x2), some (vI (x1 >>> ((1 : Int32) &&& 31))), some (vI (x1 &&& (1 : Int32)))], [vI (x1 &&& (1 : Int32))], σ)) rfl).trans ?_
  refine (e_f (B := (11, 80, [some (vR 2 o0 0), some (vI x1), some (vI x2), some (vI (x1 >>> ((1 : Int32) &&& 31))), some (vI (x1 &&& (1 : Int32)))], [], σ)) rfl h2).trans ?_
  refine (e_n 4 (fr' := (11, 86, [some (vR 2 o0 0), some (vI x1), some (vI x2), some (vI (x1 >>> ((1 : Int32) &&& 31))), some (vI (x1 &&& (1 : Int32)))], [vI (x1 >>> ((1 : Int32) &&& 31)), vR 2 o0 2, vI (2 : Int32)], σ)) rfl).trans ?_
  refine (e_a (A := (11, 87, [some (vR 2 o0 0), some (vI x1), some (vI x2), some (vI (x1 >>> ((1 : Int32) &&& 31))), some (vI (x1 &&& (1 : Int32)))], [vI (σ.1 2 o0 1 ((x1 >>> ((1 : Int32) &&& 31))).toNatClampNeg), vI (2 : Int32)], σ)) rfl h3).trans ?_
  refine (e_n 3 (fr' := (11, 90, [some (vR 2 o0 0), some (vI x1), some (vI x2), some (vI (x1 >>> ((1 : Int32) &&& 31))), some (vI (x1 &&& (1 : Int32)))], [vI (((2 : Int32) * (σ.1 2 o0 1 ((x1 >>> ((1 : Int32) &&& 31))).toNatClampNeg)) + (0 : Int32))], σ)) rfl).trans ?_
  exact e_r rfl
set_option maxRecDepth 20000 in
theorem g11_0_4 (C : pmC) {σ : pmS} {o0 : Nat} {x1 : Int32} {x2 : Int32} {l3 : Option pmV} {l4 : Option pmV} {σ1 : pmS} {r1 : Int32} (h1 : x2 = (4 : Int32)) (h2 : C 10 [vR 2 o0 0, vI (x1 >>> ((1 : Int32) &&& 31)), vI (x1 &&& (1 : Int32))] σ = some (some (vI r1), σ1)) : pq_Rn C (11, 0, [some (vR 2 o0 0), some (vI x1), some (vI x2), l3, l4], [], σ) = some (some (vI (((2 : Int32) * r1) + (0 : Int32))), σ1) := by
  refine (e_n 9 (fr' := (11, 10, [some (vR 2 o0 0), some (vI x1), some (vI x2), some (vI (x1 >>> ((1 : Int32) &&& 31))), some (vI (x1 &&& (1 : Int32)))], [vI x2], σ)) rfl).trans ?_
  refine (e_g (A := (11, 91, [some (vR 2 o0 0), some (vI x1), some (vI x2), some (vI (x1 >>> ((1 : Int32) &&& 31))), some (vI (x1 &&& (1 : Int32)))], [], σ)) (off' := 81) rfl (by rw [h1]; decide) rfl).trans ?_
  refine (e_n 4 (fr' := (11, 96, [some (vR 2 o0 0), some (vI x1), some (vI x2), some (vI (x1 >>> ((1 : Int32) &&& 31))), some (vI (x1 &&& (1 : Int32)))], [vI (x1 &&& (1 : Int32)), vI (x1 >>> ((1 : Int32) &&& 31)), vR 2 o0 0, vI (2 : Int32)], σ)) rfl).trans ?_
  refine (e_ci (m := 11) (pc := 99) (ls := [some (vR 2 o0 0), some (vI x1), some (vI x2), some (vI (x1 >>> ((1 : Int32) &&& 31))), some (vI (x1 &&& (1 : Int32)))]) (rest := [vI (2 : Int32)]) rfl h2).trans ?_
  refine (e_n 3 (fr' := (11, 102, [some (vR 2 o0 0), some (vI x1), some (vI x2), some (vI (x1 >>> ((1 : Int32) &&& 31))), some (vI (x1 &&& (1 : Int32)))], [vI (((2 : Int32) * r1) + (0 : Int32))], σ1)) rfl).trans ?_
  exact e_r rfl
set_option maxRecDepth 20000 in
theorem g11_0_5 (C : pmC) {σ : pmS} {o0 : Nat} {x1 : Int32} {x2 : Int32} {l3 : Option pmV} {l4 : Option pmV} {σ1 : pmS} {r1 : Int32} (h1 : ¬ x2 = (1 : Int32)) (h2 : ¬ x2 = (2 : Int32)) (h3 : ¬ x2 = (3 : Int32)) (h4 : ¬ x2 = (4 : Int32)) (h5 : C 10 [vR 2 o0 0, vI (x1 >>> ((1 : Int32) &&& 31)), vI (x1 &&& (1 : Int32))] σ = some (some (vI r1), σ1)) : pq_Rn C (11, 0, [some (vR 2 o0 0), some (vI x1), some (vI x2), l3, l4], [], σ) = some (some (vI (((2 : Int32) * r1) + (1 : Int32))), σ1) := by
  refine (e_n 9 (fr' := (11, 10, [some (vR 2 o0 0), some (vI x1), some (vI x2), some (vI (x1 >>> ((1 : Int32) &&& 31))), some (vI (x1 &&& (1 : Int32)))], [vI x2], σ)) rfl).trans ?_
  refine (e_g (A := (11, 103, [some (vR 2 o0 0), some (vI x1), some (vI x2), some (vI (x1 >>> ((1 : Int32) &&& 31))), some (vI (x1 &&& (1 : Int32)))], [], σ)) (off' := 93) rfl ((pm_sw_ne h1).trans ((pm_sw_ne h2).trans ((pm_sw_ne h3).trans ((pm_sw_ne h4).trans (rfl))))) rfl).trans ?_
  refine (e_n 4 (fr' := (11, 108, [some (vR 2 o0 0), some (vI x1), some (vI x2), some (vI (x1 >>> ((1 : Int32) &&& 31))), some (vI (x1 &&& (1 : Int32)))], [vI (x1 &&& (1 : Int32)), vI (x1 >>> ((1 : Int32) &&& 31)), vR 2 o0 0, vI (2 : Int32)], σ)) rfl).trans ?_
  refine (e_ci (m := 11) (pc := 111) (ls := [some (vR 2 o0 0), some (vI x1), some (vI x2), some (vI (x1 >>> ((1 : Int32) &&& 31))), some (vI (x1 &&& (1 : Int32)))]) (rest := [vI (2 : Int32)]) rfl h5).trans ?_
  refine (e_n 3 (fr' := (11, 114, [some (vR 2 o0 0), some (vI x1), some (vI x2), some (vI (x1 >>> ((1 : Int32) &&& 31))), some (vI (x1 &&& (1 : Int32)))], [vI (((2 : Int32) * r1) + (1 : Int32))], σ1)) rfl).trans ?_
  exact e_r rfl
set_option maxRecDepth 20000 in
theorem g12_0_0 (C : pmC) {σ : pmS} {o0 : Nat} {x1 : Int32} {x2 : Int32} {x3 : Int32} {l4 : Option pmV} {l5 : Option pmV}  : pq_Rn C (12, 0, [some (vR 2 o0 0), some (vI x1), some (vI x2), some (vI x3), l4, l5], [], σ) = pq_Rn C (12, 10, [some (vR 2 o0 0), some (vI x1), some (vI x2), some (vI x3), some (vI (((2 : Int32) * x1) + x2)), some (vI (0 : Int32))], [], σ) := by
  exact e_n 8 rfl
set_option maxRecDepth 20000 in
theorem g12_10_0 (C : pmC) {σ : pmS} {o0 : Nat} {l1 : Option pmV} {l2 : Option pmV} {x3 : Int32} {x4 : Int32} {x5 : Int32} (h1 : (18 : Int32) ≤ x5) : pq_Rn C (12, 10, [some (vR 2 o0 0), l1, l2, some (vI x3), some (vI x4), some (vI x5)], [], σ) = some (some (vI x4), σ) := by
  refine (e_n 2 (fr' := (12, 14, [some (vR 2 o0 0), l1, l2, some (vI x3), some (vI x4), some (vI x5)], [vI (18 : Int32), vI x5], σ)) rfl).trans ?_
  refine (e_t (A := (12, 45, [some (vR 2 o0 0), l1, l2, some (vI x3), some (vI x4), some (vI x5)], [], σ)) rfl h1).trans ?_
  refine (e_n 1 (fr' := (12, 47, [some (vR 2 o0 0), l1, l2, some (vI x3), some (vI x4), some (vI x5)], [vI x4], σ)) rfl).trans ?_
  exact e_r rfl
set_option maxRecDepth 20000 in
theorem g12_10_1 (C : pmC) {σ : pmS} {o0 : Nat} {l1 : Option pmV} {l2 : Option pmV} {x3 : Int32} {x4 : Int32} {x5 : Int32} (h1 : ¬ (18 : Int32) ≤ x5) (h2 : (x3 >>> (x5 &&& 31)) = 0) : pq_Rn C (12, 10, [some (vR 2 o0 0), l1, l2, some (vI x3), some (vI x4), some (vI x5)], [], σ) = some (some (vI x4), σ) := by
  refine (e_n 2 (fr' := (12, 14, [some (vR 2 o0 0), l1, l2, some (vI x3), some (vI x4), some (vI x5)], [vI (18 : Int32), vI x5], σ)) rfl).trans ?_
  refine (e_f (B := (12, 17, [some (vR 2 o0 0), l1, l2, some (vI x3), some (vI x4), some (vI x5)], [], σ)) rfl h1).trans ?_
  refine (e_n 3 (fr' := (12, 21, [some (vR 2 o0 0), l1, l2, some (vI x3), some (vI x4), some (vI x5)], [vI (x3 >>> (x5 &&& 31))], σ)) rfl).trans ?_
  refine (e_t (A := (12, 45, [some (vR 2 o0 0), l1, l2, some (vI x3), some (vI x4), some (vI x5)], [], σ)) rfl h2).trans ?_
  refine (e_n 1 (fr' := (12, 47, [some (vR 2 o0 0), l1, l2, some (vI x3), some (vI x4), some (vI x5)], [vI x4], σ)) rfl).trans ?_
  exact e_r rfl
set_option maxRecDepth 20000 in
theorem g12_10_2 (C : pmC) {σ : pmS} {o0 : Nat} {l1 : Option pmV} {l2 : Option pmV} {x3 : Int32} {x4 : Int32} {x5 : Int32} {σ1 : pmS} {r1 : Int32} (h1 : ¬ (18 : Int32) ≤ x5) (h2 : ¬ (x3 >>> (x5 &&& 31)) = 0) (h3 : C 11 [vR 2 o0 0, vI x4, vI ((x3 >>> (x5 &&& 31)) &&& (7 : Int32))] σ = some (some (vI r1), σ1)) : pq_Rn C (12, 10, [some (vR 2 o0 0), l1, l2, some (vI x3), some (vI x4), some (vI x5)], [], σ) = pq_Rn C (12, 10, [some (vR 2 o0 0), l1, l2, some (vI x3), some (vI r1), some (vI (x5 + (3 : Int32)))], [], σ1) := by
  refine (e_n 2 (fr' := (12, 14, [some (vR 2 o0 0), l1, l2, some (vI x3), some (vI x4), some (vI x5)], [vI (18 : Int32), vI x5], σ)) rfl).trans ?_
  refine (e_f (B := (12, 17, [some (vR 2 o0 0), l1, l2, some (vI x3), some (vI x4), some (vI x5)], [], σ)) rfl h1).trans ?_
  refine (e_n 3 (fr' := (12, 21, [some (vR 2 o0 0), l1, l2, some (vI x3), some (vI x4), some (vI x5)], [vI (x3 >>> (x5 &&& 31))], σ)) rfl).trans ?_
  refine (e_f (B := (12, 24, [some (vR 2 o0 0), l1, l2, some (vI x3), some (vI x4), some (vI x5)], [], σ)) rfl h2).trans ?_
  refine (e_n 7 (fr' := (12, 34, [some (vR 2 o0 0), l1, l2, some (vI x3), some (vI x4), some (vI x5)], [vI ((x3 >>> (x5 &&& 31)) &&& (7 : Int32)), vI x4, vR 2 o0 0], σ)) rfl).trans ?_
  refine (e_ci (m := 12) (pc := 37) (ls := [some (vR 2 o0 0), l1, l2, some (vI x3), some (vI x4), some (vI x5)]) (rest := []) rfl h3).trans ?_
  exact e_n 3 rfl
set_option maxRecDepth 20000 in
theorem g13_0_0 (C : pmC) {σ : pmS} {o0 : Nat} {x1 : Int32} {x2 : Int32} {l3 : Option pmV} {l4 : Option pmV} {l5 : Option pmV}  : pq_Rn C (13, 0, [some (vR 2 o0 0), some (vI x1), some (vI x2), l3, l4, l5], [], σ) = pq_Rn C (13, 2, [some (vR 2 o0 0), some (vI x1), some (vI x2), some (vI (0 : Int32)), l4, l5], [], σ) := by
  exact e_n 2 rfl
set_option maxRecDepth 20000 in
theorem g13_2_0 (C : pmC) {σ : pmS} {o0 : Nat} {x1 : Int32} {x2 : Int32} {x3 : Int32} {l4 : Option pmV} {l5 : Option pmV} (h1 : (σ.1 2 o0 8 0) ≤ x3) : pq_Rn C (13, 2, [some (vR 2 o0 0), some (vI x1), some (vI x2), some (vI x3), l4, l5], [], σ) = pq_Rn C (13, 25, [some (vR 2 o0 0), some (vI x1), some (vI x2), some (vI (1 : Int32)), l4, l5], [], σ) := by
  refine (e_n 3 (fr' := (13, 7, [some (vR 2 o0 0), some (vI x1), some (vI x2), some (vI x3), l4, l5], [vI (σ.1 2 o0 8 0), vI x3], σ)) rfl).trans ?_
  refine (e_t (A := (13, 23, [some (vR 2 o0 0), some (vI x1), some (vI x2), some (vI x3), l4, l5], [], σ)) rfl h1).trans ?_
  exact e_n 2 rfl
set_option maxRecDepth 20000 in
theorem g13_2_1 (C : pmC) {σ : pmS} {o0 : Nat} {x1 : Int32} {x2 : Int32} {x3 : Int32} {l4 : Option pmV} {l5 : Option pmV} (h1 : ¬ (σ.1 2 o0 8 0) ≤ x3) (h2 : vp_in x3 16) : pq_Rn C (13, 2, [some (vR 2 o0 0), some (vI x1), some (vI x2), some (vI x3), l4, l5], [], σ) = pq_Rn C (13, 2, [some (vR 2 o0 0), some (vI x1), some (vI x2), some (vI (x3 + (1 : Int32))), l4, l5], [], (pm_wi σ 2 o0 6 (x3).toNatClampNeg x3)) := by
  refine (e_n 3 (fr' := (13, 7, [some (vR 2 o0 0), some (vI x1), some (vI x2), some (vI x3), l4, l5], [vI (σ.1 2 o0 8 0), vI x3], σ)) rfl).trans ?_
  refine (e_f (B := (13, 10, [some (vR 2 o0 0), some (vI x1), some (vI x2), some (vI x3), l4, l5], [], σ)) rfl h1).trans ?_
  refine (e_n 4 (fr' := (13, 16, [some (vR 2 o0 0), some (vI x1), some (vI x2), some (vI x3), l4, l5], [vI x3, vI x3, vR 2 o0 7], σ)) rfl).trans ?_
  refine (e_a (A := (13, 17, [some (vR 2 o0 0), some (vI x1), some (vI x2), some (vI x3), l4, l5], [], (pm_wi σ 2 o0 6 (x3).toNatClampNeg x3))) rfl h2).trans ?_
  exact e_n 2 rfl
set_option maxRecDepth 20000 in
theorem g13_25_0 (C : pmC) {σ : pmS} {o0 : Nat} {x1 : Int32} {x2 : Int32} {x3 : Int32} {l4 : Option pmV} {l5 : Option pmV} (h1 : (840 : Int32) ≤ x3) : pq_Rn C (13, 25, [some (vR 2 o0 0), some (vI x1), some (vI x2), some (vI x3), l4, l5], [], σ) = some (some (vI (840 : Int32)), σ) := by
  refine (e_n 2 (fr' := (13, 29, [some (vR 2 o0 0), some (vI x1), some (vI x2), some (vI x3), l4, l5], [vI (840 : Int32), vI x3], σ)) rfl).trans ?_
  refine (e_t (A := (13, 112, [some (vR 2 o0 0), some (vI x1), some (vI x2), some (vI x3), l4, l5], [], σ)) rfl h1).trans ?_
  refine (e_n 1 (fr' := (13, 115, [some (vR 2 o0 0), some (vI x1), some (vI x2), some (vI x3), l4, l5], [vI (840 : Int32)], σ)) rfl).trans ?_
  exact e_r rfl
set_option maxRecDepth 20000 in
theorem g13_25_1 (C : pmC) {σ : pmS} {o0 : Nat} {x1 : Int32} {x2 : Int32} {x3 : Int32} {l4 : Option pmV} {l5 : Option pmV} (h1 : ¬ (840 : Int32) ≤ x3) : pq_Rn C (13, 25, [some (vR 2 o0 0), some (vI x1), some (vI x2), some (vI x3), l4, l5], [], σ) = pq_Rn C (13, 38, [some (vR 2 o0 0), some (vI x1), some (vI x2), some (vI x3), some (vI (1 : Int32)), some (vI (0 : Int32))], [], σ) := by
  refine (e_n 2 (fr' := (13, 29, [some (vR 2 o0 0), some (vI x1), some (vI x2), some (vI x3), l4, l5], [vI (840 : Int32), vI x3], σ)) rfl).trans ?_
  refine (e_f (B := (13, 32, [some (vR 2 o0 0), some (vI x1), some (vI x2), some (vI x3), l4, l5], [], σ)) rfl h1).trans ?_
  exact e_n 4 rfl
set_option maxRecDepth 20000 in
theorem g13_38_0 (C : pmC) {σ : pmS} {o0 : Nat} {x1 : Int32} {x2 : Int32} {x3 : Int32} {x4 : Int32} {x5 : Int32} (h1 : (σ.1 2 o0 8 0) ≤ x5) (h2 : x4 = 0) : pq_Rn C (13, 38, [some (vR 2 o0 0), some (vI x1), some (vI x2), some (vI x3), some (vI x4), some (vI x5)], [], σ) = pq_Rn C (13, 25, [some (vR 2 o0 0), some (vI x1), some (vI x2), some (vI (x3 + (1 : Int32))), some (vI x4), some (vI x5)], [], σ) := by
  refine (e_n 3 (fr' := (13, 44, [some (vR 2 o0 0), some (vI x1), some (vI x2), some (vI x3), some (vI x4), some (vI x5)], [vI (σ.1 2 o0 8 0), vI x5], σ)) rfl).trans ?_
  refine (e_t (A := (13, 99, [some (vR 2 o0 0), some (vI x1), some (vI x2), some (vI x3), some (vI x4), some (vI x5)], [], σ)) rfl h1).trans ?_
  refine (e_n 1 (fr' := (13, 101, [some (vR 2 o0 0), some (vI x1), some (vI x2), some (vI x3), some (vI x4), some (vI x5)], [vI x4], σ)) rfl).trans ?_
  refine (e_t (A := (13, 106, [some (vR 2 o0 0), some (vI x1), some (vI x2), some (vI x3), some (vI x4), some (vI x5)], [], σ)) rfl h2).trans ?_
  exact e_n 2 rfl
set_option maxRecDepth 20000 in
theorem g13_38_1 (C : pmC) {σ : pmS} {o0 : Nat} {x1 : Int32} {x2 : Int32} {x3 : Int32} {x4 : Int32} {x5 : Int32} (h1 : (σ.1 2 o0 8 0) ≤ x5) (h2 : ¬ x4 = 0) : pq_Rn C (13, 38, [some (vR 2 o0 0), some (vI x1), some (vI x2), some (vI x3), some (vI x4), some (vI x5)], [], σ) = some (some (vI x3), σ) := by
  refine (e_n 3 (fr' := (13, 44, [some (vR 2 o0 0), some (vI x1), some (vI x2), some (vI x3), some (vI x4), some (vI x5)], [vI (σ.1 2 o0 8 0), vI x5], σ)) rfl).trans ?_
  refine (e_t (A := (13, 99, [some (vR 2 o0 0), some (vI x1), some (vI x2), some (vI x3), some (vI x4), some (vI x5)], [], σ)) rfl h1).trans ?_
  refine (e_n 1 (fr' := (13, 101, [some (vR 2 o0 0), some (vI x1), some (vI x2), some (vI x3), some (vI x4), some (vI x5)], [vI x4], σ)) rfl).trans ?_
  refine (e_f (B := (13, 104, [some (vR 2 o0 0), some (vI x1), some (vI x2), some (vI x3), some (vI x4), some (vI x5)], [], σ)) rfl h2).trans ?_
  refine (e_n 1 (fr' := (13, 105, [some (vR 2 o0 0), some (vI x1), some (vI x2), some (vI x3), some (vI x4), some (vI x5)], [vI x3], σ)) rfl).trans ?_
  exact e_r rfl
set_option maxRecDepth 20000 in
theorem g13_38_2 (C : pmC) {σ : pmS} {o0 : Nat} {x1 : Int32} {x2 : Int32} {x3 : Int32} {x4 : Int32} {x5 : Int32} {σ1 : pmS} {r1 : Int32} (h1 : ¬ (σ.1 2 o0 8 0) ≤ x5) (h2 : vp_in x5 16) (h3 : C 12 [vR 2 o0 0, vI (σ.1 2 o0 6 (x5).toNatClampNeg), vI x1, vI x2] σ = some (some (vI r1), σ1)) (h4 : x4 = 0) : pq_Rn C (13, 38, [some (vR 2 o0 0), some (vI x1), some (vI x2), some (vI x3), some (vI x4), some (vI x5)], [], σ) = pq_Rn C (13, 38, [some (vR 2 o0 0), some (vI x1), some (vI x2), some (vI x3), some (vI (0 : Int32)), some (vI (x5 + (1 : Int32)))], [], (pm_wi σ1 2 o0 6 (x5).toNatClampNeg (r1 >>> ((1 : Int32) &&& 31)))) := by
  refine (e_n 3 (fr' := (13, 44, [some (vR 2 o0 0), some (vI x1), some (vI x2), some (vI x3), some (vI x4), some (vI x5)], [vI (σ.1 2 o0 8 0), vI x5], σ)) rfl).trans ?_
  refine (e_f (B := (13, 47, [some (vR 2 o0 0), some (vI x1), some (vI x2), some (vI x3), some (vI x4), some (vI x5)], [], σ)) rfl h1).trans ?_
  refine (e_n 7 (fr' := (13, 60, [some (vR 2 o0 0), some (vI x1), some (vI x2), some (vI x3), some (vI x4), some (vI x5)], [vI x5, vR 2 o0 7, vR 2 o0 0, vI x5, vR 2 o0 7], σ)) rfl).trans ?_
  refine (e_a (A := (13, 61, [some (vR 2 o0 0), some (vI x1), some (vI x2), some (vI x3), some (vI x4), some (vI x5)], [vI (σ.1 2 o0 6 (x5).toNatClampNeg), vR 2 o0 0, vI x5, vR 2 o0 7], σ)) rfl h2).trans ?_
  refine (e_n 2 (fr' := (13, 63, [some (vR 2 o0 0), some (vI x1), some (vI x2), some (vI x3), some (vI x4), some (vI x5)], [vI x2, vI x1, vI (σ.1 2 o0 6 (x5).toNatClampNeg), vR 2 o0 0, vI x5, vR 2 o0 7], σ)) rfl).trans ?_
  refine (e_ci (m := 13) (pc := 66) (ls := [some (vR 2 o0 0), some (vI x1), some (vI x2), some (vI x3), some (vI x4), some (vI x5)]) (rest := [vI x5, vR 2 o0 7]) rfl h3).trans ?_
  refine (e_n 2 (fr' := (13, 68, [some (vR 2 o0 0), some (vI x1), some (vI x2), some (vI x3), some (vI x4), some (vI x5)], [vI (r1 >>> ((1 : Int32) &&& 31)), vI x5, vR 2 o0 7], σ1)) rfl).trans ?_
  refine (e_a (A := (13, 69, [some (vR 2 o0 0), some (vI x1), some (vI x2), some (vI x3), some (vI x4), some (vI x5)], [], (pm_wi σ1 2 o0 6 (x5).toNatClampNeg (r1 >>> ((1 : Int32) &&& 31))))) rfl h2).trans ?_
  refine (e_n 1 (fr' := (13, 71, [some (vR 2 o0 0), some (vI x1), some (vI x2), some (vI x3), some (vI x4), some (vI x5)], [vI x4], (pm_wi σ1 2 o0 6 (x5).toNatClampNeg (r1 >>> ((1 : Int32) &&& 31))))) rfl).trans ?_
  refine (e_t (A := (13, 90, [some (vR 2 o0 0), some (vI x1), some (vI x2), some (vI x3), some (vI x4), some (vI x5)], [], (pm_wi σ1 2 o0 6 (x5).toNatClampNeg (r1 >>> ((1 : Int32) &&& 31))))) rfl h4).trans ?_
  exact e_n 4 rfl
set_option maxRecDepth 20000 in
theorem g13_38_3 (C : pmC) {σ : pmS} {o0 : Nat} {x1 : Int32} {x2 : Int32} {x3 : Int32} {x4 : Int32} {x5 : Int32} {σ1 : pmS} {r1 : Int32} (h1 : ¬ (σ.1 2 o0 8 0) ≤ x5) (h2 : vp_in x5 16) (h3 : C 12 [vR 2 o0 0, vI (σ.1 2 o0 6 (x5).toNatClampNeg), vI x1, vI x2] σ = some (some (vI r1), σ1)) (h4 : ¬ x4 = 0) (h5 : ((pm_wi σ1 2 o0 6 (x5).toNatClampNeg (r1 >>> ((1 : Int32) &&& 31))).1 2 o0 6 (x5).toNatClampNeg) = x5) : pq_Rn C (13, 38, [some (vR 2 o0 0), some (vI x1), some (vI x2), some (vI x3), some (vI x4), some (vI x5)], [], σ) = pq_Rn C (13, 38, [some (vR 2 o0 0), some (vI x1), some (vI x2), some (vI x3), some (vI (1 : Int32)), some (vI (x5 + (1 : Int32)))], [], (pm_wi σ1 2 o0 6 (x5).toNatClampNeg (r1 >>> ((1 : Int32) &&& 31)))) := by
  refine (e_n 3 (fr' := (13, 44, [some (vR 2 o0 0), some (vI x1), some (vI x2), some (vI x3), some (vI x4), some (vI x5)], [vI (σ.1 2 o0 8 0), vI x5], σ)) rfl).trans ?_
  refine (e_f (B := (13, 47, [some (vR 2 o0 0), some (vI x1), some (vI x2), some (vI x3), some (vI x4), some (vI x5)], [], σ)) rfl h1).trans ?_
  refine (e_n 7 (fr' := (13, 60, [some (vR 2 o0 0), some (vI x1), some (vI x2), some (vI x3), some (vI x4), some (vI x5)], [vI x5, vR 2 o0 7, vR 2 o0 0, vI x5, vR 2 o0 7], σ)) rfl).trans ?_
  refine (e_a (A := (13, 61, [some (vR 2 o0 0), some (vI x1), some (vI x2), some (vI x3), some (vI x4), some (vI x5)], [vI (σ.1 2 o0 6 (x5).toNatClampNeg), vR 2 o0 0, vI x5, vR 2 o0 7], σ)) rfl h2).trans ?_
  refine (e_n 2 (fr' := (13, 63, [some (vR 2 o0 0), some (vI x1), some (vI x2), some (vI x3), some (vI x4), some (vI x5)], [vI x2, vI x1, vI (σ.1 2 o0 6 (x5).toNatClampNeg), vR 2 o0 0, vI x5, vR 2 o0 7], σ)) rfl).trans ?_
  refine (e_ci (m := 13) (pc := 66) (ls := [some (vR 2 o0 0), some (vI x1), some (vI x2), some (vI x3), some (vI x4), some (vI x5)]) (rest := [vI x5, vR 2 o0 7]) rfl h3).trans ?_
  refine (e_n 2 (fr' := (13, 68, [some (vR 2 o0 0), some (vI x1), some (vI x2), some (vI x3), some (vI x4), some (vI x5)], [vI (r1 >>> ((1 : Int32) &&& 31)), vI x5, vR 2 o0 7], σ1)) rfl).trans ?_
  refine (e_a (A := (13, 69, [some (vR 2 o0 0), some (vI x1), some (vI x2), some (vI x3), some (vI x4), some (vI x5)], [], (pm_wi σ1 2 o0 6 (x5).toNatClampNeg (r1 >>> ((1 : Int32) &&& 31))))) rfl h2).trans ?_
  refine (e_n 1 (fr' := (13, 71, [some (vR 2 o0 0), some (vI x1), some (vI x2), some (vI x3), some (vI x4), some (vI x5)], [vI x4], (pm_wi σ1 2 o0 6 (x5).toNatClampNeg (r1 >>> ((1 : Int32) &&& 31))))) rfl).trans ?_
  refine (e_f (B := (13, 74, [some (vR 2 o0 0), some (vI x1), some (vI x2), some (vI x3), some (vI x4), some (vI x5)], [], (pm_wi σ1 2 o0 6 (x5).toNatClampNeg (r1 >>> ((1 : Int32) &&& 31))))) rfl h4).trans ?_
  refine (e_n 3 (fr' := (13, 80, [some (vR 2 o0 0), some (vI x1), some (vI x2), some (vI x3), some (vI x4), some (vI x5)], [vI x5, vR 2 o0 7], (pm_wi σ1 2 o0 6 (x5).toNatClampNeg (r1 >>> ((1 : Int32) &&& 31))))) rfl).trans ?_
  refine (e_a (A := (13, 81, [some (vR 2 o0 0), some (vI x1), some (vI x2), some (vI x3), some (vI x4), some (vI x5)], [vI ((pm_wi σ1 2 o0 6 (x5).toNatClampNeg (r1 >>> ((1 : Int32) &&& 31))).1 2 o0 6 (x5).toNatClampNeg)], (pm_wi σ1 2 o0 6 (x5).toNatClampNeg (r1 >>> ((1 : Int32) &&& 31))))) rfl h2).trans ?_
  refine (e_n 1 (fr' := (13, 83, [some (vR 2 o0 0), some (vI x1), some (vI x2), some (vI x3), some (vI x4), some (vI x5)], [vI x5, vI ((pm_wi σ1 2 o0 6 (x5).toNatClampNeg (r1 >>> ((1 : Int32) &&& 31))).1 2 o0 6 (x5).toNatClampNeg)], (pm_wi σ1 2 o0 6 (x5).toNatClampNeg (r1 >>> ((1 : Int32) &&& 31))))) rfl).trans ?_
  refine (e_t (A := (13, 86, [some (vR 2 o0 0), some (vI x1), some (vI x2), some (vI x3), some (vI x4), some (vI x5)], [], (pm_wi σ1 2 o0 6 (x5).toNatClampNeg (r1 >>> ((1 : Int32) &&& 31))))) rfl h5).trans ?_
  exact e_n 5 rfl
set_option maxRecDepth 20000 in
theorem g13_38_4 (C : pmC) {σ : pmS} {o0 : Nat} {x1 : Int32} {x2 : Int32} {x3 : Int32} {x4 : Int32} {x5 : Int32} {σ1 : pmS} {r1 : Int32} (h1 : ¬ (σ.1 2 o0 8 0) ≤ x5) (h2 : vp_in x5 16) (h3 : C 12 [vR 2 o0 0, vI (σ.1 2 o0 6 (x5).toNatClampNeg), vI x1, vI x2] σ = some (some (vI r1), σ1)) (h4 : ¬ x4 = 0) (h5 : ¬ ((pm_wi σ1 2 o0 6 (x5).toNatClampNeg (r1 >>> ((1 : Int32) &&& 31))).1 2 o0 6 (x5).toNatClampNeg) = x5) : pq_Rn C (13, 38, [some (vR 2 o0 0), some (vI x1), some (vI x2), some (vI x3), some (vI x4), some (vI x5)], [], σ) = pq_Rn C (13, 38, [some (vR 2 o0 0), some (vI x1), some (vI x2), some (vI x3), some (vI (0 : Int32)), some (vI (x5 + (1 : Int32)))], [], (pm_wi σ1 2 o0 6 (x5).toNatClampNeg (r1 >>> ((1 : Int32) &&& 31)))) := by
  refine (e_n 3 (fr' := (13, 44, [some (vR 2 o0 0), some (vI x1), some (vI x2), some (vI x3), some (vI x4), some (vI x5)], [vI (σ.1 2 o0 8 0), vI x5], σ)) rfl).trans ?_
  refine (e_f (B := (13, 47, [some (vR 2 o0 0), some (vI x1), some (vI x2), some (vI x3), some (vI x4), some (vI x5)], [], σ)) rfl h1).trans ?_
  refine (e_n 7 (fr' := (13, 60, [some (vR 2 o0 0), some (vI x1), some (vI x2), some (vI x3), some (vI x4), some (vI x5)], [vI x5, vR 2 o0 7, vR 2 o0 0, vI x5, vR 2 o0 7], σ)) rfl).trans ?_
  refine (e_a (A := (13, 61, [some (vR 2 o0 0), some (vI x1), some (vI x2), some (vI x3), some (vI x4), some (vI x5)], [vI (σ.1 2 o0 6 (x5).toNatClampNeg), vR 2 o0 0, vI x5, vR 2 o0 7], σ)) rfl h2).trans ?_
  refine (e_n 2 (fr' := (13, 63, [some (vR 2 o0 0), some (vI x1), some (vI x2), some (vI x3), some (vI x4), some (vI x5)], [vI x2, vI x1, vI (σ.1 2 o0 6 (x5).toNatClampNeg), vR 2 o0 0, vI x5, vR 2 o0 7], σ)) rfl).trans ?_
  refine (e_ci (m := 13) (pc := 66) (ls := [some (vR 2 o0 0), some (vI x1), some (vI x2), some (vI x3), some (vI x4), some (vI x5)]) (rest := [vI x5, vR 2 o0 7]) rfl h3).trans ?_
  refine (e_n 2 (fr' := (13, 68, [some (vR 2 o0 0), some (vI x1), some (vI x2), some (vI x3), some (vI x4), some (vI x5)], [vI (r1 >>> ((1 : Int32) &&& 31)), vI x5, vR 2 o0 7], σ1)) rfl).trans ?_
  refine (e_a (A := (13, 69, [some (vR 2 o0 0), some (vI x1), some (vI x2), some (vI x3), some (vI x4), some (vI x5)], [], (pm_wi σ1 2 o0 6 (x5).toNatClampNeg (r1 >>> ((1 : Int32) &&& 31))))) rfl h2).trans ?_
  refine (e_n 1 (fr' := (13, 71, [some (vR 2 o0 0), some (vI x1), some (vI x2), some (vI x3), some (vI x4), some (vI x5)], [vI x4], (pm_wi σ1 2 o0 6 (x5).toNatClampNeg (r1 >>> ((1 : Int32) &&& 31))))) rfl).trans ?_
  refine (e_f (B := (13, 74, [some (vR 2 o0 0), some (vI x1), some (vI x2), some (vI x3), some (vI x4), some (vI x5)], [], (pm_wi σ1 2 o0 6 (x5).toNatClampNeg (r1 >>> ((1 : Int32) &&& 31))))) rfl h4).trans ?_
  refine (e_n 3 (fr' := (13, 80, [some (vR 2 o0 0), some (vI x1), some (vI x2), some (vI x3), some (vI x4), some (vI x5)], [vI x5, vR 2 o0 7], (pm_wi σ1 2 o0 6 (x5).toNatClampNeg (r1 >>> ((1 : Int32) &&& 31))))) rfl).trans ?_
  refine (e_a (A := (13, 81, [some (vR 2 o0 0), some (vI x1), some (vI x2), some (vI x3), some (vI x4), some (vI x5)], [vI ((pm_wi σ1 2 o0 6 (x5).toNatClampNeg (r1 >>> ((1 : Int32) &&& 31))).1 2 o0 6 (x5).toNatClampNeg)], (pm_wi σ1 2 o0 6 (x5).toNatClampNeg (r1 >>> ((1 : Int32) &&& 31))))) rfl h2).trans ?_
  refine (e_n 1 (fr' := (13, 83, [some (vR 2 o0 0), some (vI x1), some (vI x2), some (vI x3), some (vI x4), some (vI x5)], [vI x5, vI ((pm_wi σ1 2 o0 6 (x5).toNatClampNeg (r1 >>> ((1 : Int32) &&& 31))).1 2 o0 6 (x5).toNatClampNeg)], (pm_wi σ1 2 o0 6 (x5).toNatClampNeg (r1 >>> ((1 : Int32) &&& 31))))) rfl).trans ?_
  refine (e_f (B := (13, 90, [some (vR 2 o0 0), some (vI x1), some (vI x2), some (vI x3), some (vI x4), some (vI x5)], [], (pm_wi σ1 2 o0 6 (x5).toNatClampNeg (r1 >>> ((1 : Int32) &&& 31))))) rfl h5).trans ?_
  exact e_n 4 rfl
set_option maxRecDepth 20000 in
theorem g14_0_0 (C : pmC) {σ : pmS} {o0 : Nat} {x1 : Int32} {x2 : Int32} {l3 : Option pmV} {l4 : Option pmV} {l5 : Option pmV} {σ1 : pmS} (h1 : C 182 [vR 2 o0 7, vI (0 : Int32)] σ = some (none, σ1)) (h2 : vp_in (((2 : Int32) * x1) + (0 : Int32)) 16) : pq_Rn C (14, 0, [some (vR 2 o0 0), some (vI x1), some (vI x2), l3, l4, l5], [], σ) = pq_Rn C (14, 21, [some (vR 2 o0 0), some (vI x1), some (vI x2), some (vI (0 : Int32)), l4, l5], [], (pm_wi σ1 2 o0 6 ((((2 : Int32) * x1) + (0 : Int32))).toNatClampNeg (1 : Int32))) := by
  refine (e_n 3 (fr' := (14, 5, [some (vR 2 o0 0), some (vI x1), some (vI x2), l3, l4, l5], [vI (0 : Int32), vR 2 o0 7], σ)) rfl).trans ?_
  refine (e_cv (m := 14) (pc := 8) (ls := [some (vR 2 o0 0), some (vI x1), some (vI x2), l3, l4, l5]) (rest := []) rfl h1).trans ?_
  refine (e_n 8 (fr' := (14, 18, [some (vR 2 o0 0), some (vI x1), some (vI x2), l3, l4, l5], [vI (1 : Int32), vI (((2 : Int32) * x1) + (0 : Int32)), vR 2 o0 7], σ1)) rfl).trans ?_
  refine (e_a (A := (14, 19, [some (vR 2 o0 0), some (vI x1), some (vI x2), l3, l4, l5], [], (pm_wi σ1 2 o0 6 ((((2 : Int32) * x1) + (0 : Int32))).toNatClampNeg (1 : Int32)))) rfl h2).trans ?_
  exact e_n 2 rfl
set_option maxRecDepth 20000 in
theorem g14_21_0 (C : pmC) {σ : pmS} {o0 : Nat} {x1 : Int32} {x2 : Int32} {x3 : Int32} {l4 : Option pmV} {l5 : Option pmV} (h1 : x2 ≤ x3) (h2 : vp_in x1 8) (h3 : vp_in (((2 : Int32) * (σ.1 2 o0 0 (x1).toNatClampNeg)) + (1 : Int32)) 16) : pq_Rn C (14, 21, [some (vR 2 o0 0), some (vI x1), some (vI x2), some (vI x3), l4, l5], [], σ) = some (some (vI (σ.1 2 o0 6 ((((2 : Int32) * (σ.1 2 o0 0 (x1).toNatClampNeg)) + (1 : Int32))).toNatClampNeg)), σ) := by
  refine (e_n 2 (fr' := (14, 23, [some (vR 2 o0 0), some (vI x1), some (vI x2), some (vI x3), l4, l5], [vI x2, vI x3], σ)) rfl).trans ?_
  refine (e_t (A := (14, 117, [some (vR 2 o0 0), some (vI x1), some (vI x2), some (vI x3), l4, l5], [], σ)) rfl h1).trans ?_
  refine (e_n 6 (fr' := (14, 127, [some (vR 2 o0 0), some (vI x1), some (vI x2), some (vI x3), l4, l5], [vI x1, vR 2 o0 1, vI (2 : Int32), vR 2 o0 7], σ)) rfl).trans ?_
  refine (e_a (A := (14, 128, [some (vR 2 o0 0), some (vI x1), some (vI x2), some (vI x3), l4, l5], [vI (σ.1 2 o0 0 (x1).toNatClampNeg), vI (2 : Int32), vR 2 o0 7], σ)) rfl h2).trans ?_
  refine (e_n 3 (fr' := (14, 131, [some (vR 2 o0 0), some (vI x1), some (vI x2), some (vI x3), l4, l5], [vI (((2 : Int32) * (σ.1 2 o0 0 (x1).toNatClampNeg)) + (1 : Int32)), vR 2 o0 7], σ)) rfl).trans ?_
  refine (e_a (A := (14, 132, [some (vR 2 o0 0), some (vI x1), some (vI x2), some (vI x3), l4, l5], [vI (σ.1 2 o0 6 ((((2 : Int32) * (σ.1 2 o0 0 (x1).toNatClampNeg)) + (1 : Int32))).toNatClampNeg)], σ)) rfl h3).trans ?_
  exact e_r rfl
set_option maxRecDepth 20000 in
theorem g14_21_1 (C : pmC) {σ : pmS} {o0 : Nat} {x1 : Int32} {x2 : Int32} {x3 : Int32} {l4 : Option pmV} {l5 : Option pmV} {σ1 : pmS} (h1 : ¬ x2 ≤ x3) (h2 : C 182 [vR 2 o0 8, vI (0 : Int32)] σ = some (none, σ1)) : pq_Rn C (14, 21, [some (vR 2 o0 0), some (vI x1), some (vI x2), some (vI x3), l4, l5], [], σ) = pq_Rn C (14, 37, [some (vR 2 o0 0), some (vI x1), some (vI x2), some (vI x3), some (vI (0 : Int32)), l5], [], σ1) := by
  refine (e_n 2 (fr' := (14, 23, [some (vR 2 o0 0), some (vI x1), some (vI x2), some (vI x3), l4, l5], [vI x2, vI x3], σ)) rfl).trans ?_
  refine (e_f (B := (14, 26, [some (vR 2 o0 0), some (vI x1), some (vI x2), some (vI x3), l4, l5], [], σ)) rfl h1).trans ?_
  refine (e_n 3 (fr' := (14, 31, [some (vR 2 o0 0), some (vI x1), some (vI x2), some (vI x3), l4, l5], [vI (0 : Int32), vR 2 o0 8], σ)) rfl).trans ?_
  refine (e_cv (m := 14) (pc := 34) (ls := [some (vR 2 o0 0), some (vI x1), some (vI x2), some (vI x3), l4, l5]) (rest := []) rfl h2).trans ?_
  exact e_n 2 rfl
set_option maxRecDepth 20000 in
theorem g14_37_0 (C : pmC) {σ : pmS} {o0 : Nat} {x1 : Int32} {x2 : Int32} {x3 : Int32} {x4 : Int32} {l5 : Option pmV} (h1 : ((2 : Int32) * (σ.1 2 o0 8 0)) ≤ x4) (h2 : ¬ ((2 : Int32) * (σ.1 2 o0 8 0)) < 0) (h3 : (((2 : Int32) * (σ.1 2 o0 8 0))).toNatClampNeg ≤ 16) (h4 : (((2 : Int32) * (σ.1 2 o0 8 0))).toNatClampNeg ≤ 16) : pq_Rn C (14, 37, [some (vR 2 o0 0), some (vI x1), some (vI x2), some (vI x3), some (vI x4), l5], [], σ) = pq_Rn C (14, 21, [some (vR 2 o0 0), some (vI x1), some (vI x2), some (vI (x3 + (1 : Int32))), some (vI x4), l5], [], (pm_wr σ 2 o0 6 (va_cpy (σ.1 2 o0 7) (σ.1 2 o0 6) 0 0 (((2 : Int32) * (σ.1 2 o0 8 0))).toNatClampNeg))) := by
  refine (e_n 5 (fr' := (14, 45, [some (vR 2 o0 0), some (vI x1), some (vI x2), some (vI x3), some (vI x4), l5], [vI ((2 : Int32) * (σ.1 2 o0 8 0)), vI x4], σ)) rfl).trans ?_
  refine (e_t (A := (14, 92, [some (vR 2 o0 0), some (vI x1), some (vI x2), some (vI x3), some (vI x4), l5], [], σ)) rfl h1).trans ?_
  refine (e_n 10 (fr' := (14, 108, [some (vR 2 o0 0), some (vI x1), some (vI x2), some (vI x3), some (vI x4), l5], [vI ((2 : Int32) * (σ.1 2 o0 8 0)), vI (0 : Int32), vR 2 o0 7, vI (0 : Int32), vR 2 o0 8], σ)) rfl).trans ?_
  refine (e_cp (A := (14, 111, [some (vR 2 o0 0), some (vI x1), some (vI x2), some (vI x3), some (vI x4), l5], [], (pm_wr σ 2 o0 6 (va_cpy (σ.1 2 o0 7) (σ.1 2 o0 6) 0 0 (((2 : Int32) * (σ.1 2 o0 8 0))).toNatClampNeg)))) rfl ⟨rfl, rfl, by decide, by decide, h2, by show 0 + (((2 : Int32) * (σ.1 2 o0 8 0))).toNatClampNeg ≤ 16; omega, by show 0 + (((2 : Int32) * (σ.1 2 o0 8 0))).toNatClampNeg ≤ 16; omega, by decide⟩).trans ?_
  exact e_n 2 rfl
set_option maxRecDepth 20000 in
theorem g14_37_1 (C : pmC) {σ : pmS} {o0 : Nat} {x1 : Int32} {x2 : Int32} {x3 : Int32} {x4 : Int32} {l5 : Option pmV} (h1 : ¬ ((2 : Int32) * (σ.1 2 o0 8 0)) ≤ x4) : pq_Rn C (14, 37, [some (vR 2 o0 0), some (vI x1), some (vI x2), some (vI x3), some (vI x4), l5], [], σ) = pq_Rn C (14, 51, [some (vR 2 o0 0), some (vI x1), some (vI x2), some (vI x3), some (vI x4), some (vI (1 : Int32))], [], σ) := by
  refine (e_n 5 (fr' := (14, 45, [some (vR 2 o0 0), some (vI x1), some (vI x2), some (vI x3), some (vI x4), l5], [vI ((2 : Int32) * (σ.1 2 o0 8 0)), vI x4], σ)) rfl).trans ?_
  refine (e_f (B := (14, 48, [some (vR 2 o0 0), some (vI x1), some (vI x2), some (vI x3), some (vI x4), l5], [], σ)) rfl h1).trans ?_
  exact e_n 2 rfl
set_option maxRecDepth 20000 in
theorem g14_51_0 (C : pmC) {σ : pmS} {o0 : Nat} {x1 : Int32} {x2 : Int32} {x3 : Int32} {x4 : Int32} {x5 : Int32} (h1 : (5 : Int32) < x5) : pq_Rn C (14, 51, [some (vR 2 o0 0), some (vI x1), some (vI x2), some (vI x3), some (vI x4), some (vI x5)], [], σ) = pq_Rn C (14, 37, [some (vR 2 o0 0), some (vI x1), some (vI x2), some (vI x3), some (vI (x4 + (1 : Int32))), some (vI x5)], [], σ) := by
  refine (e_n 2 (fr' := (14, 54, [some (vR 2 o0 0), some (vI x1), some (vI x2), some (vI x3), some (vI x4), some (vI x5)], [vI (5 : Int32), vI x5], σ)) rfl).trans ?_
  refine (e_t (A := (14, 86, [some (vR 2 o0 0), some (vI x1), some (vI x2), some (vI x3), some (vI x4), some (vI x5)], [], σ)) rfl h1).trans ?_
  exact e_n 2 rfl
set_option maxRecDepth 20000 in
theorem g14_51_1 (C : pmC) {σ : pmS} {o0 : Nat} {x1 : Int32} {x2 : Int32} {x3 : Int32} {x4 : Int32} {x5 : Int32} {σ1 : pmS} {r1 : Int32} (h1 : ¬ (5 : Int32) < x5) (h2 : C 11 [vR 2 o0 0, vI x4, vI x5] σ = some (some (vI r1), σ1)) (h3 : vp_in r1 16) (h4 : vp_in x4 16) : pq_Rn C (14, 51, [some (vR 2 o0 0), some (vI x1), some (vI x2), some (vI x3), some (vI x4), some (vI x5)], [], σ) = pq_Rn C (14, 51, [some (vR 2 o0 0), some (vI x1), some (vI x2), some (vI x3), some (vI x4), some (vI (x5 + (1 : Int32)))], [], (pm_wi σ1 2 o0 7 (r1).toNatClampNeg ((σ1.1 2 o0 7 (r1).toNatClampNeg) + (σ1.1 2 o0 6 (x4).toNatClampNeg)))) := by
  refine (e_n 2 (fr' := (14, 54, [some (vR 2 o0 0), some (vI x1), some (vI x2), some (vI x3), some (vI x4), some (vI x5)], [vI (5 : Int32), vI x5], σ)) rfl).trans ?_
  refine (e_f (B := (14, 57, [some (vR 2 o0 0), some (vI x1), some (vI x2), some (vI x3), some (vI x4), some (vI x5)], [], σ)) rfl h1).trans ?_
  refine (e_n 5 (fr' := (14, 66, [some (vR 2 o0 0), some (vI x1), some (vI x2), some (vI x3), some (vI x4), some (vI x5)], [vI x5, vI x4, vR 2 o0 0, vR 2 o0 8], σ)) rfl).trans ?_
  refine (e_ci (m := 14) (pc := 69) (ls := [some (vR 2 o0 0), some (vI x1), some (vI x2), some (vI x3), some (vI x4), some (vI x5)]) (rest := [vR 2 o0 8]) rfl h2).trans ?_
  refine (e_n 1 (fr' := (14, 70, [some (vR 2 o0 0), some (vI x1), some (vI x2), some (vI x3), some (vI x4), some (vI x5)], [vI r1, vR 2 o0 8, vI r1, vR 2 o0 8], σ1)) rfl).trans ?_
  refine (e_a (A := (14, 71, [some (vR 2 o0 0), some (vI x1), some (vI x2), some (vI x3), some (vI x4), some (vI x5)], [vI (σ1.1 2 o0 7 (r1).toNatClampNeg), vI r1, vR 2 o0 8], σ1)) rfl h3).trans ?_
  refine (e_n 3 (fr' := (14, 77, [some (vR 2 o0 0), some (vI x1), some (vI x2), some (vI x3), some (vI x4), some (vI x5)], [vI x4, vR 2 o0 7, vI (σ1.1 2 o0 7 (r1).toNatClampNeg), vI r1, vR 2 o0 8], σ1)) rfl).trans ?_
  refine (e_a (A := (14, 78, [some (vR 2 o0 0), some (vI x1), some (vI x2), some (vI x3), some (vI x4), some (vI x5)], [vI (σ1.1 2 o0 6 (x4).toNatClampNeg), vI (σ1.1 2 o0 7 (r1).toNatClampNeg), vI r1, vR 2 o0 8], σ1)) rfl h4).trans ?_
  refine (e_n 1 (fr' := (14, 79, [some (vR 2 o0 0), some (vI x1), some (vI x2), some (vI x3), some (vI x4), some (vI x5)], [vI ((σ1.1 2 o0 7 (r1).toNatClampNeg) + (σ1.1 2 o0 6 (x4).toNatClampNeg)), vI r1, vR 2 o0 8], σ1)) rfl).trans ?_
  refine (e_a (A := (14, 80, [some (vR 2 o0 0), some (vI x1), some (vI x2), some (vI x3), some (vI x4), some (vI x5)], [], (pm_wi σ1 2 o0 7 (r1).toNatClampNeg ((σ1.1 2 o0 7 (r1).toNatClampNeg) + (σ1.1 2 o0 6 (x4).toNatClampNeg))))) rfl h3).trans ?_
  exact e_n 2 rfl
set_option maxRecDepth 20000 in
theorem g15_0_0 (C : pmC) {σ : pmS} {o0 : Nat} {x1 : Int32} {l2 : Option pmV} {l3 : Option pmV} {l4 : Option pmV} {l5 : Option pmV} {l6 : Option pmV}  : pq_Rn C (15, 0, [some (vR 2 o0 0), some (vI x1), l2, l3, l4, l5, l6], [], σ) = pq_Rn C (15, 10, [some (vR 2 o0 0), some (vI x1), some (vI (1 : Int32)), some (vI (1 : Int32)), some (vI (1 : Int32)), some (vI (0 : Int32)), l6], [], σ) := by
  exact e_n 8 rfl
set_option maxRecDepth 20000 in
theorem g15_10_0 (C : pmC) {σ : pmS} {o0 : Nat} {x1 : Int32} {x2 : Int32} {x3 : Int32} {x4 : Int32} {x5 : Int32} {l6 : Option pmV} (h1 : (σ.1 2 o0 8 0) ≤ x5) (h2 : x2 = 0) : pq_Rn C (15, 10, [some (vR 2 o0 0), some (vI x1), some (vI x2), some (vI x3), some (vI x4), some (vI x5), l6], [], σ) = pq_Rn C (15, 122, [some (vR 2 o0 0), some (vI x1), some (vI x2), some (vI x3), some (vI x4), some (vI x5), l6], [vI (0 : Int32)], σ) := by
  refine (e_n 3 (fr' := (15, 16, [some (vR 2 o0 0), some (vI x1), some (vI x2), some (vI x3), some (vI x4), some (vI x5), l6], [vI (σ.1 2 o0 8 0), vI x5], σ)) rfl).trans ?_
  refine (e_t (A := (15, 113, [some (vR 2 o0 0), some (vI x1), some (vI x2), some (vI x3), some (vI x4), some (vI x5), l6], [], σ)) rfl h1).trans ?_
  refine (e_n 1 (fr' := (15, 114, [some (vR 2 o0 0), some (vI x1), some (vI x2), some (vI x3), some (vI x4), some (vI x5), l6], [vI x2], σ)) rfl).trans ?_
  refine (e_t (A := (15, 121, [some (vR 2 o0 0), some (vI x1), some (vI x2), some (vI x3), some (vI x4), some (vI x5), l6], [], σ)) rfl h2).trans ?_
  exact e_n 1 rfl
set_option maxRecDepth 20000 in
theorem g15_10_1 (C : pmC) {σ : pmS} {o0 : Nat} {x1 : Int32} {x2 : Int32} {x3 : Int32} {x4 : Int32} {x5 : Int32} {l6 : Option pmV} (h1 : (σ.1 2 o0 8 0) ≤ x5) (h2 : ¬ x2 = 0) : pq_Rn C (15, 10, [some (vR 2 o0 0), some (vI x1), some (vI x2), some (vI x3), some (vI x4), some (vI x5), l6], [], σ) = pq_Rn C (15, 122, [some (vR 2 o0 0), some (vI x1), some (vI x2), some (vI x3), some (vI x4), some (vI x5), l6], [vI (1 : Int32)], σ) := by
  refine (e_n 3 (fr' := (15, 16, [some (vR 2 o0 0), some (vI x1), some (vI x2), some (vI x3), some (vI x4), some (vI x5), l6], [vI (σ.1 2 o0 8 0), vI x5], σ)) rfl).trans ?_
  refine (e_t (A := (15, 113, [some (vR 2 o0 0), some (vI x1), some (vI x2), some (vI x3), some (vI x4), some (vI x5), l6], [], σ)) rfl h1).trans ?_
  refine (e_n 1 (fr' := (15, 114, [some (vR 2 o0 0), some (vI x1), some (vI x2), some (vI x3), some (vI x4), some (vI x5), l6], [vI x2], σ)) rfl).trans ?_
  refine (e_f (B := (15, 117, [some (vR 2 o0 0), some (vI x1), some (vI x2), some (vI x3), some (vI x4), some (vI x5), l6], [], σ)) rfl h2).trans ?_
  exact e_n 2 rfl
set_option maxRecDepth 20000 in
theorem g15_10_2 (C : pmC) {σ : pmS} {o0 : Nat} {x1 : Int32} {x2 : Int32} {x3 : Int32} {x4 : Int32} {x5 : Int32} {l6 : Option pmV} (h1 : ¬ (σ.1 2 o0 8 0) ≤ x5) (h2 : x2 = 0) : pq_Rn C (15, 10, [some (vR 2 o0 0), some (vI x1), some (vI x2), some (vI x3), some (vI x4), some (vI x5), l6], [], σ) = pq_Rn C (15, 51, [some (vR 2 o0 0), some (vI x1), some (vI x2), some (vI x3), some (vI x4), some (vI x5), some (vI ((x1 >>> (x5 &&& 31)) &&& (1 : Int32)))], [], σ) := by
  refine (e_n 3 (fr' := (15, 16, [some (vR 2 o0 0), some (vI x1), some (vI x2), some (vI x3), some (vI x4), some (vI x5), l6], [vI (σ.1 2 o0 8 0), vI x5], σ)) rfl).trans ?_
  refine (e_f (B := (15, 19, [some (vR 2 o0 0), some (vI x1), some (vI x2), some (vI x3), some (vI x4), some (vI x5), l6], [], σ)) rfl h1).trans ?_
  refine (e_n 7 (fr' := (15, 28, [some (vR 2 o0 0), some (vI x1), some (vI x2), some (vI x3), some (vI x4), some (vI x5), some (vI ((x1 >>> (x5 &&& 31)) &&& (1 : Int32)))], [vI x2], σ)) rfl).trans ?_
  exact e_t (A := (15, 51, [some (vR 2 o0 0), some (vI x1), some (vI x2), some (vI x3), some (vI x4), some (vI x5), some (vI ((x1 >>> (x5 &&& 31)) &&& (1 : Int32)))], [], σ)) rfl h2
set_option maxRecDepth 20000 in
theorem g15_10_3 (C : pmC) {σ : pmS} {o0 : Nat} {x1 : Int32} {x2 : Int32} {x3 : Int32} {x4 : Int32} {x5 : Int32} {l6 : Option pmV} (h1 : ¬ (σ.1 2 o0 8 0) ≤ x5) (h2 : ¬ x2 = 0) (h3 : vp_in x5 8) (h4 : ((x1 >>> ((σ.1 2 o0 0 (x5).toNatClampNeg) &&& 31)) &&& (1 : Int32)) = ((x1 >>> (x5 &&& 31)) &&& (1 : Int32))) : pq_Rn C (15, 10, [some (vR 2 o0 0), some (vI x1), some (vI x2), some (vI x3), some (vI x4), some (vI x5), l6], [], σ) = pq_Rn C (15, 51, [some (vR 2 o0 0), some (vI x1), some (vI x2), some (vI x3), some (vI x4), some (vI x5), some (vI ((x1 >>> (x5 &&& 31)) &&& (1 : Int32)))], [], σ) := by
  refine (e_n 3 (fr' := (15, 16, [some (vR 2 o0 0), some (vI x1), some (vI x2), some (vI x3), some (vI x4), some (vI x5), l6], [vI (σ.1 2 o0 8 0), vI x5], σ)) rfl).trans ?_
  refine (e_f (B := (15, 19, [some (vR 2 o0 0), some (vI x1), some (vI x2), some (vI x3), some (vI x4), some (vI x5), l6], [], σ)) rfl h1).trans ?_
  refine (e_n 7 (fr' := (15, 28, [some (vR 2 o0 0), some (vI x1), some (vI x2), some (vI x3), some (vI x4), some (vI x5), some (vI ((x1 >>> (x5 &&& 31)) &&& (1 : Int32)))], [vI x2], σ)) rfl).trans ?_
  refine (e_f (B := (15, 31, [some (vR 2 o0 0), some (vI x1), some (vI x2), some (vI x3), some (vI x4), some (vI x5), some (vI ((x1 >>> (x5 &&& 31)) &&& (1 : Int32)))], [], σ)) rfl h2).trans ?_
  refine (e_n 4 (fr' := (15, 38, [some (vR 2 o0 0), some (vI x1), some (vI x2), some (vI x3), some (vI x4), some (vI x5), some (vI ((x1 >>> (x5 &&& 31)) &&& (1 : Int32)))], [vI x5, vR 2 o0 1, vI x1], σ)) rfl).trans ?_
  refine (e_a (A := (15, 39, [some (vR 2 o0 0), some (vI x1), some (vI x2), some (vI x3), some (vI x4), some (vI x5), some (vI ((x1 >>> (x5 &&& 31)) &&& (1 : Int32)))], [vI (σ.1 2 o0 0 (x5).toNatClampNeg), vI x1], σ)) rfl h3).trans ?_
  refine (e_n 4 (fr' := (15, 44, [some (vR 2 o0 0), some (vI x1), some (vI x2), some (vI x3), some (vI x4), some (vI x5), some (vI ((x1 >>> (x5 &&& 31)) &&& (1 : Int32)))], [vI ((x1 >>> (x5 &&& 31)) &&& (1 : Int32)), vI ((x1 >>> ((σ.1 2 o0 0 (x5).toNatClampNeg) &&& 31)) &&& (1 : Int32))], σ)) rfl).trans ?_
  exact e_t (A := (15, 51, [some (vR 2 o0 0), some (vI x1), some (vI x2), some (vI x3), some (vI x4), some (vI x5), some (vI ((x1 >>> (x5 &&& 31)) &&& (1 : Int32)))], [], σ)) rfl h4
set_option maxRecDepth 20000 in
theorem g15_10_4 (C : pmC) {σ : pmS} {o0 : Nat} {x1 : Int32} {x2 : Int32} {x3 : Int32} {x4 : Int32} {x5 : Int32} {l6 : Option pmV} (h1 : ¬ (σ.1 2 o0 8 0) ≤ x5) (h2 : ¬ x2 = 0) (h3 : vp_in x5 8) (h4 : ¬ ((x1 >>> ((σ.1 2 o0 0 (x5).toNatClampNeg) &&& 31)) &&& (1 : Int32)) = ((x1 >>> (x5 &&& 31)) &&& (1 : Int32))) : pq_Rn C (15, 10, [some (vR 2 o0 0), some (vI x1), some (vI x2), some (vI x3), some (vI x4), some (vI x5), l6], [], σ) = pq_Rn C (15, 52, [some (vR 2 o0 0), some (vI x1), some (vI x2), some (vI x3), some (vI x4), some (vI x5), some (vI ((x1 >>> (x5 &&& 31)) &&& (1 : Int32)))], [vI (1 : Int32)], σ) := by
  refine (e_n 3 (fr' := (15, 16, [some (vR 2 o0 0), some (vI x1), some (vI x2), some (vI x3), some (vI x4), some (vI x5), l6], [vI (σ.1 2 o0 8 0), vI x5], σ)) rfl).trans ?_
  refine (e_f (B := (15, 19, [some (vR 2 o0 0), some (vI x1), some (vI x2), some (vI x3), some (vI x4), some (vI x5), l6], [], σ)) rfl h1).trans ?_
  refine (e_n 7 (fr' := (15, 28, [some (vR 2 o0 0), some (vI x1), some (vI x2), some (vI x3), some (vI x4), some (vI x5), some (vI ((x1 >>> (x5 &&& 31)) &&& (1 : Int32)))], [vI x2], σ)) rfl).trans ?_
  refine (e_f (B := (15, 31, [some (vR 2 o0 0), some (vI x1), some (vI x2), some (vI x3), some (vI x4), some (vI x5), some (vI ((x1 >>> (x5 &&& 31)) &&& (1 : Int32)))], [], σ)) rfl h2).trans ?_
  refine (e_n 4 (fr' := (15, 38, [some (vR 2 o0 0), some (vI x1), some (vI x2), some (vI x3), some (vI x4), some (vI x5), some (vI ((x1 >>> (x5 &&& 31)) &&& (1 : Int32)))], [vI x5, vR 2 o0 1, vI x1], σ)) rfl).trans ?_
  refine (e_a (A := (15, 39, [some (vR 2 o0 0), some (vI x1), some (vI x2), some (vI x3), some (vI x4), some (vI x5), some (vI ((x1 >>> (x5 &&& 31)) &&& (1 : Int32)))], [vI (σ.1 2 o0 0 (x5).toNatClampNeg), vI x1], σ)) rfl h3).trans ?_
  refine (e_n 4 (fr' := (15, 44, [some (vR 2 o0 0), some (vI x1), some (vI x2), some (vI x3), some (vI x4), some (vI x5), some (vI ((x1 >>> (x5 &&& 31)) &&& (1 : Int32)))], [vI ((x1 >>> (x5 &&& 31)) &&& (1 : Int32)), vI ((x1 >>> ((σ.1 2 o0 0 (x5).toNatClampNeg) &&& 31)) &&& (1 : Int32))], σ)) rfl).trans ?_
  refine (e_f (B := (15, 47, [some (vR 2 o0 0), some (vI x1), some (vI x2), some (vI x3), some (vI x4), some (vI x5), some (vI ((x1 >>> (x5 &&& 31)) &&& (1 : Int32)))], [], σ)) rfl h4).trans ?_
  exact e_n 2 rfl
set_option maxRecDepth 20000 in
theorem g15_51_0 (C : pmC) {σ : pmS} {o0 : Nat} {x1 : Int32} {l2 : Option pmV} {x3 : Int32} {x4 : Int32} {x5 : Int32} {x6 : Int32}  : pq_Rn C (15, 51, [some (vR 2 o0 0), some (vI x1), l2, some (vI x3), some (vI x4), some (vI x5), some (vI x6)], [], σ) = pq_Rn C (15, 52, [some (vR 2 o0 0), some (vI x1), l2, some (vI x3), some (vI x4), some (vI x5), some (vI x6)], [vI (0 : Int32)], σ) := by
  exact e_n 1 rfl
set_option maxRecDepth 20000 in
theorem g15_52_0 (C : pmC) {σ : pmS} {o0 : Nat} {x1 : Int32} {l2 : Option pmV} {x3 : Int32} {x4 : Int32} {x5 : Int32} {x6 : Int32} {s0 : Int32} (h1 : x3 = 0) : pq_Rn C (15, 52, [some (vR 2 o0 0), some (vI x1), l2, some (vI x3), some (vI x4), some (vI x5), some (vI x6)], [vI s0], σ) = pq_Rn C (15, 77, [some (vR 2 o0 0), some (vI x1), some (vI s0), some (vI x3), some (vI x4), some (vI x5), some (vI x6)], [], σ) := by
  refine (e_n 2 (fr' := (15, 54, [some (vR 2 o0 0), some (vI x1), some (vI s0), some (vI x3), some (vI x4), some (vI x5), some (vI x6)], [vI x3], σ)) rfl).trans ?_
  exact e_t (A := (15, 77, [some (vR 2 o0 0), some (vI x1), some (vI s0), some (vI x3), some (vI x4), some (vI x5), some (vI x6)], [], σ)) rfl h1
set_option maxRecDepth 20000 in
theorem g15_52_1 (C : pmC) {σ : pmS} {o0 : Nat} {x1 : Int32} {l2 : Option pmV} {x3 : Int32} {x4 : Int32} {x5 : Int32} {x6 : Int32} {s0 : Int32} (h1 : ¬ x3 = 0) (h2 : vp_in x5 8) (h3 : ((x1 >>> ((σ.1 2 o0 2 (x5).toNatClampNeg) &&& 31)) &&& (1 : Int32)) = x6) : pq_Rn C (15, 52, [some (vR 2 o0 0), some (vI x1), l2, some (vI x3), some (vI x4), some (vI x5), some (vI x6)], [vI s0], σ) = pq_Rn C (15, 78, [some (vR 2 o0 0), some (vI x1), some (vI s0), some (vI x3), some (vI x4), some (vI x5), some (vI x6)], [vI (1 : Int32)], σ) := by
  refine (e_n 2 (fr' := (15, 54, [some (vR 2 o0 0), some (vI x1), some (vI s0), some (vI x3), some (vI x4), some (vI x5), some (vI x6)], [vI x3], σ)) rfl).trans ?_
  refine (e_f (B := (15, 57, [some (vR 2 o0 0), some (vI x1), some (vI s0), some (vI x3), some (vI x4), some (vI x5), some (vI x6)], [], σ)) rfl h1).trans ?_
  refine (e_n 4 (fr' := (15, 64, [some (vR 2 o0 0), some (vI x1), some (vI s0), some (vI x3), some (vI x4), some (vI x5), some (vI x6)], [vI x5, vR 2 o0 3, vI x1], σ)) rfl).trans ?_
  refine (e_a (A := (15, 65, [some (vR 2 o0 0), some (vI x1), some (vI s0), some (vI x3), some (vI x4), some (vI x5), some (vI x6)], [vI (σ.1 2 o0 2 (x5).toNatClampNeg), vI x1], σ)) rfl h2).trans ?_
  refine (e_n 4 (fr' := (15, 70, [some (vR 2 o0 0), some (vI x1), some (vI s0), some (vI x3), some (vI x4), some (vI x5), some (vI x6)], [vI x6, vI ((x1 >>> ((σ.1 2 o0 2 (x5).toNatClampNeg) &&& 31)) &&& (1 : Int32))], σ)) rfl).trans ?_
  refine (e_t (A := (15, 73, [some (vR 2 o0 0), some (vI x1), some (vI s0), some (vI x3), some (vI x4), some (vI x5), some (vI x6)], [], σ)) rfl h3).trans ?_
  exact e_n 2 rfl
set_option maxRecDepth 20000 in
theorem g15_52_2 (C : pmC) {σ : pmS} {o0 : Nat} {x1 : Int32} {l2 : Option pmV} {x3 : Int32} {x4 : Int32} {x5 : Int32} {x6 : Int32} {s0 : Int32} (h1 : ¬ x3 = 0) (h2 : vp_in x5 8) (h3 : ¬ ((x1 >>> ((σ.1 2 o0 2 (x5).toNatClampNeg) &&& 31)) &&& (1 : Int32)) = x6) : pq_Rn C (15, 52, [some (vR 2 o0 0), some (vI x1), l2, some (vI x3), some (vI x4), some (vI x5), some (vI x6)], [vI s0], σ) = pq_Rn C (15, 77, [some (vR 2 o0 0), some (vI x1), some (vI s0), some (vI x3), some (vI x4), some (vI x5), some (vI x6)], [], σ) := by
  refine (e_n 2 (fr' := (15, 54, [some (vR 2 o0 0), some (vI x1), some (vI s0), some (vI x3), some (vI x4), some (vI x5), some (vI x6)], [vI x3], σ)) rfl).trans ?_
  refine (e_f (B := (15, 57, [some (vR 2 o0 0), some (vI x1), some (vI s0), some (vI x3), some (vI x4), some (vI x5), some (vI x6)], [], σ)) rfl h1).trans ?_
  refine (e_n 4 (fr' := (15, 64, [some (vR 2 o0 0), some (vI x1), some (vI s0), some (vI x3), some (vI x4), some (vI x5), some (vI x6)], [vI x5, vR 2 o0 3, vI x1], σ)) rfl).trans ?_
  refine (e_a (A := (15, 65, [some (vR 2 o0 0), some (vI x1), some (vI s0), some (vI x3), some (vI x4), some (vI x5), some (vI x6)], [vI (σ.1 2 o0 2 (x5).toNatClampNeg), vI x1], σ)) rfl h2).trans ?_
  refine (e_n 4 (fr' := (15, 70, [some (vR 2 o0 0), some (vI x1), some (vI s0), some (vI x3), some (vI x4), some (vI x5), some (vI x6)], [vI x6, vI ((x1 >>> ((σ.1 2 o0 2 (x5).toNatClampNeg) &&& 31)) &&& (1 : Int32))], σ)) rfl).trans ?_
  exact e_f (B := (15, 77, [some (vR 2 o0 0), some (vI x1), some (vI s0), some (vI x3), some (vI x4), some (vI x5), some (vI x6)], [], σ)) rfl h3
set_option maxRecDepth 20000 in
theorem g15_77_0 (C : pmC) {σ : pmS} {o0 : Nat} {x1 : Int32} {x2 : Int32} {l3 : Option pmV} {x4 : Int32} {x5 : Int32} {x6 : Int32}  : pq_Rn C (15, 77, [some (vR 2 o0 0), some (vI x1), some (vI x2), l3, some (vI x4), some (vI x5), some (vI x6)], [], σ) = pq_Rn C (15, 78, [some (vR 2 o0 0), some (vI x1), some (vI x2), l3, some (vI x4), some (vI x5), some (vI x6)], [vI (0 : Int32)], σ) := by
  exact e_n 1 rfl
set_option maxRecDepth 20000 in
theorem g15_78_0 (C : pmC) {σ : pmS} {o0 : Nat} {x1 : Int32} {x2 : Int32} {l3 : Option pmV} {x4 : Int32} {x5 : Int32} {x6 : Int32} {s0 : Int32} (h1 : x4 = 0) : pq_Rn C (15, 78, [some (vR 2 o0 0), some (vI x1), some (vI x2), l3, some (vI x4), some (vI x5), some (vI x6)], [vI s0], σ) = pq_Rn C (15, 104, [some (vR 2 o0 0), some (vI x1), some (vI x2), some (vI s0), some (vI x4), some (vI x5), some (vI x6)], [], σ) := by
  refine (e_n 2 (fr' := (15, 81, [some (vR 2 o0 0), some (vI x1), some (vI x2), some (vI s0), some (vI x4), some (vI x5), some (vI x6)], [vI x4], σ)) rfl).trans ?_
  exact e_t (A := (15, 104, [some (vR 2 o0 0), some (vI x1), some (vI x2), some (vI s0), some (vI x4), some (vI x5), some (vI x6)], [], σ)) rfl h1
set_option maxRecDepth 20000 in
theorem g15_78_1 (C : pmC) {σ : pmS} {o0 : Nat} {x1 : Int32} {x2 : Int32} {l3 : Option pmV} {x4 : Int32} {x5 : Int32} {x6 : Int32} {s0 : Int32} (h1 : ¬ x4 = 0) (h2 : vp_in x5 8) (h3 : ((x1 >>> ((σ.1 2 o0 3 (x5).toNatClampNeg) &&& 31)) &&& (1 : Int32)) = x6) : pq_Rn C (15, 78, [some (vR 2 o0 0), some (vI x1), some (vI x2), l3, some (vI x4), some (vI x5), some (vI x6)], [vI s0], σ) = pq_Rn C (15, 105, [some (vR 2 o0 0), some (vI x1), some (vI x2), some (vI s0), some (vI x4), some (vI x5), some (vI x6)], [vI (1 : Int32)], σ) := by
  refine (e_n 2 (fr' := (15, 81, [some (vR 2 o0 0), some (vI x1), some (vI x2), some (vI s0), some (vI x4), some (vI x5), some (vI x6)], [vI x4], σ)) rfl).trans ?_
  refine (e_f (B := (15, 84, [some (vR 2 o0 0), some (vI x1), some (vI x2), some (vI s0), some (vI x4), some (vI x5), some (vI x6)], [], σ)) rfl h1).trans ?_
  refine (e_n 4 (fr' := (15, 91, [some (vR 2 o0 0), some (vI x1), some (vI x2), some (vI s0), some (vI x4), some (vI x5), some (vI x6)], [vI x5, vR 2 o0 4, vI x1], σ)) rfl).trans ?_
  refine (e_a (A := (15, 92, [some (vR 2 o0 0), some (vI x1), some (vI x2), some (vI s0), some (vI x4), some (vI x5), some (vI x6)], [vI (σ.1 2 o0 3 (x5).toNatClampNeg), vI x1], σ)) rfl h2).trans ?_
  refine (e_n 4 (fr' := (15, 97, [some (vR 2 o0 0), some (vI x1), some (vI x2), some (vI s0), some (vI x4), some (vI x5), some (vI x6)], [vI x6, vI ((x1 >>> ((σ.1 2 o0 3 (x5).toNatClampNeg) &&& 31)) &&& (1 : Int32))], σ)) rfl).trans ?_
  refine (e_t (A := (15, 100, [some (vR 2 o0 0), some (vI x1), some (vI x2), some (vI s0), some (vI x4), some (vI x5), some (vI x6)], [], σ)) rfl h3).trans ?_
  exact e_n 2 rfl
set_option maxRecDepth 20000 in
theorem g15_78_2 (C : pmC) {σ : pmS} {o0 : Nat} {x1 : Int32} {x2 : Int32} {l3 : Option pmV} {x4 : Int32} {x5 : Int32} {x6 : Int32} {s0 : Int32} (h1 : ¬ x4 = 0) (h2 : vp_in x5 8) (h3 : ¬ ((x1 >>> ((σ.1 2 o0 3 (x5).toNatClampNeg) &&& 31)) &&& (1 : Int32)) = x6) : pq_Rn C (15, 78, [some (vR 2 o0 0), some (vI x1), some (vI x2), l3, some (vI x4), some (vI x5), some (vI x6)], [vI s0], σ) = pq_Rn C (15, 104, [some (vR 2 o0 0), some (vI x1), some (vI x2), some (vI s0), some (vI x4), some (vI x5), some (vI x6)], [], σ) := by
  refine (e_n 2 (fr' := (15, 81, [some (vR 2 o0 0), some (vI x1), some (vI x2), some (vI s0), some (vI x4), some (vI x5), some (vI x6)], [vI x4], σ)) rfl).trans ?_
  refine (e_f (B := (15, 84, [some (vR 2 o0 0), some (vI x1), some (vI x2), some (vI s0), some (vI x4), some (vI x5), some (vI x6)], [], σ)) rfl h1).trans ?_
  refine (e_n 4 (fr' := (15, 91, [some (vR 2 o0 0), some (vI x1), some (vI x2), some (vI s0), some (vI x4), some (vI x5), some (vI x6)], [vI x5, vR 2 o0 4, vI x1], σ)) rfl).trans ?_
  refine (e_a (A := (15, 92, [some (vR 2 o0 0), some (vI x1), some (vI x2), some (vI s0), some (vI x4), some (vI x5), some (vI x6)], [vI (σ.1 2 o0 3 (x5).toNatClampNeg), vI x1], σ)) rfl h2).trans ?_
  refine (e_n 4 (fr' := (15, 97, [some (vR 2 o0 0), some (vI x1), some (vI x2), some (vI s0), some (vI x4), some (vI x5), some (vI x6)], [vI x6, vI ((x1 >>> ((σ.1 2 o0 3 (x5).toNatClampNeg) &&& 31)) &&& (1 : Int32))], σ)) rfl).trans ?_
  exact e_f (B := (15, 104, [some (vR 2 o0 0), some (vI x1), some (vI x2), some (vI s0), some (vI x4), some (vI x5), some (vI x6)], [], σ)) rfl h3
set_option maxRecDepth 20000 in
theorem g15_104_0 (C : pmC) {σ : pmS} {o0 : Nat} {x1 : Int32} {x2 : Int32} {x3 : Int32} {l4 : Option pmV} {x5 : Int32} {l6 : Option pmV}  : pq_Rn C (15, 104, [some (vR 2 o0 0), some (vI x1), some (vI x2), some (vI x3), l4, some (vI x5), l6], [], σ) = pq_Rn C (15, 105, [some (vR 2 o0 0), some (vI x1), some (vI x2), some (vI x3), l4, some (vI x5), l6], [vI (0 : Int32)], σ) := by
  exact e_n 1 rfl
set_option maxRecDepth 20000 in
theorem g15_105_0 (C : pmC) {σ : pmS} {o0 : Nat} {x1 : Int32} {x2 : Int32} {x3 : Int32} {l4 : Option pmV} {x5 : Int32} {l6 : Option pmV} {s0 : Int32}  : pq_Rn C (15, 105, [some (vR 2 o0 0), some (vI x1), some (vI x2), some (vI x3), l4, some (vI x5), l6], [vI s0], σ) = pq_Rn C (15, 10, [some (vR 2 o0 0), some (vI x1), some (vI x2), some (vI x3), some (vI s0), some (vI (x5 + (1 : Int32))), l6], [], σ) := by
  exact e_n 3 rfl
set_option maxRecDepth 20000 in
theorem g15_122_0 (C : pmC) {σ : pmS} {l0 : Option pmV} {l1 : Option pmV} {l2 : Option pmV} {x3 : Int32} {x4 : Int32} {l5 : Option pmV} {l6 : Option pmV} {s0 : Int32} (h1 : x3 = 0) : pq_Rn C (15, 122, [l0, l1, l2, some (vI x3), some (vI x4), l5, l6], [vI s0], σ) = pq_Rn C (15, 131, [l0, l1, l2, some (vI x3), some (vI x4), l5, l6], [vI (0 : Int32), vI s0], σ) := by
  refine (e_n 1 (fr' := (15, 123, [l0, l1, l2, some (vI x3), some (vI x4), l5, l6], [vI x3, vI s0], σ)) rfl).trans ?_
  refine (e_t (A := (15, 130, [l0, l1, l2, some (vI x3), some (vI x4), l5, l6], [vI s0], σ)) rfl h1).trans ?_
  exact e_n 1 rfl
set_option maxRecDepth 20000 in
theorem g15_122_1 (C : pmC) {σ : pmS} {l0 : Option pmV} {l1 : Option pmV} {l2 : Option pmV} {x3 : Int32} {x4 : Int32} {l5 : Option pmV} {l6 : Option pmV} {s0 : Int32} (h1 : ¬ x3 = 0) : pq_Rn C (15, 122, [l0, l1, l2, some (vI x3), some (vI x4), l5, l6], [vI s0], σ) = pq_Rn C (15, 131, [l0, l1, l2, some (vI x3), some (vI x4), l5, l6], [vI (2 : Int32), vI s0], σ) := by
  refine (e_n 1 (fr' := (15, 123, [l0, l1, l2, some (vI x3), some (vI x4), l5, l6], [vI x3, vI s0], σ)) rfl).trans ?_
  refine (e_f (B := (15, 126, [l0, l1, l2, some (vI x3), some (vI x4), l5, l6], [vI s0], σ)) rfl h1).trans ?_
  exact e_n 2 rfl
set_option maxRecDepth 20000 in
theorem g15_131_0 (C : pmC) {σ : pmS} {l0 : Option pmV} {l1 : Option pmV} {l2 : Option pmV} {l3 : Option pmV} {x4 : Int32} {l5 : Option pmV} {l6 : Option pmV} {s1 : Int32} {s0 : Int32} (h1 : x4 = 0) : pq_Rn C (15, 131, [l0, l1, l2, l3, some (vI x4), l5, l6], [vI s1, vI s0], σ) = pq_Rn C (15, 142, [l0, l1, l2, l3, some (vI x4), l5, l6], [vI (0 : Int32), vI (s0 + s1)], σ) := by
  refine (e_n 2 (fr' := (15, 134, [l0, l1, l2, l3, some (vI x4), l5, l6], [vI x4, vI (s0 + s1)], σ)) rfl).trans ?_
  refine (e_t (A := (15, 141, [l0, l1, l2, l3, some (vI x4), l5, l6], [vI (s0 + s1)], σ)) rfl h1).trans ?_
  exact e_n 1 rfl
set_option maxRecDepth 20000 in
theorem g15_131_1 (C : pmC) {σ : pmS} {l0 : Option pmV} {l1 : Option pmV} {l2 : Option pmV} {l3 : Option pmV} {x4 : Int32} {l5 : Option pmV} {l6 : Option pmV} {s1 : Int32} {s0 : Int32} (h1 : ¬ x4 = 0) : pq_Rn C (15, 131, [l0, l1, l2, l3, some (vI x4), l5, l6], [vI s1, vI s0], σ) = pq_Rn C (15, 142, [l0, l1, l2, l3, some (vI x4), l5, l6], [vI (4 : Int32), vI (s0 + s1)], σ) := by
  refine (e_n 2 (fr' := (15, 134, [l0, l1, l2, l3, some (vI x4), l5, l6], [vI x4, vI (s0 + s1)], σ)) rfl).trans ?_
  refine (e_f (B := (15, 137, [l0, l1, l2, l3, some (vI x4), l5, l6], [vI (s0 + s1)], σ)) rfl h1).trans ?_
  exact e_n 2 rfl
set_option maxRecDepth 20000 in
theorem g15_142_0 (C : pmC) {σ : pmS} {l0 : Option pmV} {l1 : Option pmV} {l2 : Option pmV} {l3 : Option pmV} {l4 : Option pmV} {l5 : Option pmV} {l6 : Option pmV} {s1 : Int32} {s0 : Int32}  : pq_Rn C (15, 142, [l0, l1, l2, l3, l4, l5, l6], [vI s1, vI s0], σ) = some (some (vI (s0 + s1)), σ) := by
  refine (e_n 1 (fr' := (15, 143, [l0, l1, l2, l3, l4, l5, l6], [vI (s0 + s1)], σ)) rfl).trans ?_
  exact e_r rfl
set_option maxRecDepth 20000 in
theorem g16_0_0 (C : pmC) {σ : pmS} {σ1 : pmS} {σ2 : pmS} (h1 : C 181 [vR 3 0 1, vL (0 : Int64)] σ = some (none, σ1)) (h2 : C 182 [vR 3 0 2, vI (-1 : Int32)] σ1 = some (none, σ2)) : pq_Rn C (16, 0, [some (vR 3 0 0)], [], σ) = some (none, (pm_wl (pm_wl σ2 3 0 5 0 (0 : Int64)) 3 0 6 0 (0 : Int64))) := by
  refine (e_n 3 (fr' := (16, 5, [some (vR 3 0 0)], [vL (0 : Int64), vR 3 0 1], σ)) rfl).trans ?_
  refine (e_cv (m := 16) (pc := 8) (ls := [some (vR 3 0 0)]) (rest := []) rfl h1).trans ?_
  refine (e_n 3 (fr' := (16, 13, [some (vR 3 0 0)], [vI (-1 : Int32), vR 3 0 2], σ1)) rfl).trans ?_
  refine (e_cv (m := 16) (pc := 16) (ls := [some (vR 3 0 0)]) (rest := []) rfl h2).trans ?_
  refine (e_n 6 (fr' := (16, 26, [some (vR 3 0 0)], [], (pm_wl (pm_wl σ2 3 0 5 0 (0 : Int64)) 3 0 6 0 (0 : Int64)))) rfl).trans ?_
  exact e_r rfl
set_option maxRecDepth 20000 in
theorem g17_0_0 (C : pmC) {σ : pmS} {x1 : Int32} {x2 : Int32} (h1 : vp_in x1 48) : pq_Rn C (17, 0, [some (vR 3 0 0), some (vI x1), some (vI x2)], [], σ) = some (none, (pm_wl σ 3 0 0 (x1).toNatClampNeg ((σ.2 3 0 0 (x1).toNatClampNeg) ||| ((1 : Int64) <<< ((x2).toInt64 &&& 63))))) := by
  refine (e_n 4 (fr' := (17, 6, [some (vR 3 0 0), some (vI x1), some (vI x2)], [vI x1, vR 3 0 1, vI x1, vR 3 0 1], σ)) rfl).trans ?_
  refine (e_a (A := (17, 7, [some (vR 3 0 0), some (vI x1), some (vI x2)], [vL (σ.2 3 0 0 (x1).toNatClampNeg), vI x1, vR 3 0 1], σ)) rfl h1).trans ?_
  refine (e_n 4 (fr' := (17, 11, [some (vR 3 0 0), some (vI x1), some (vI x2)], [vL ((σ.2 3 0 0 (x1).toNatClampNeg) ||| ((1 : Int64) <<< ((x2).toInt64 &&& 63))), vI x1, vR 3 0 1], σ)) rfl).trans ?_
  refine (e_a (A := (17, 12, [some (vR 3 0 0), some (vI x1), some (vI x2)], [], (pm_wl σ 3 0 0 (x1).toNatClampNeg ((σ.2 3 0 0 (x1).toNatClampNeg) ||| ((1 : Int64) <<< ((x2).toInt64 &&& 63)))))) rfl h1).trans ?_
  exact e_r rfl
set_option maxRecDepth 20000 in
theorem g18_0_0 (C : pmC) {σ : pmS} {l1 : Option pmV} {l2 : Option pmV}  : pq_Rn C (18, 0, [some (vR 3 0 0), l1, l2], [], σ) = pq_Rn C (18, 2, [some (vR 3 0 0), some (vI (0 : Int32)), l2], [], σ) := by
  exact e_n 2 rfl
set_option maxRecDepth 20000 in
theorem g18_2_0 (C : pmC) {σ : pmS} {x1 : Int32} {l2 : Option pmV} (h1 : (48 : Int32) ≤ x1) : pq_Rn C (18, 2, [some (vR 3 0 0), some (vI x1), l2], [], σ) = pq_Rn C (18, 23, [some (vR 3 0 0), some (vI x1), some (vI (0 : Int32))], [], σ) := by
  refine (e_n 2 (fr' := (18, 5, [some (vR 3 0 0), some (vI x1), l2], [vI (48 : Int32), vI x1], σ)) rfl).trans ?_
  refine (e_t (A := (18, 21, [some (vR 3 0 0), some (vI x1), l2], [], σ)) rfl h1).trans ?_
  exact e_n 2 rfl
set_option maxRecDepth 20000 in
theorem g18_2_1 (C : pmC) {σ : pmS} {x1 : Int32} {l2 : Option pmV} {σ1 : pmS} {r1 : Int32} (h1 : ¬ (48 : Int32) ≤ x1) (h2 : C 21 [vR 3 0 0] σ = some (some (vI r1), σ1)) (h3 : r1 = 0) : pq_Rn C (18, 2, [some (vR 3 0 0), some (vI x1), l2], [], σ) = pq_Rn C (18, 23, [some (vR 3 0 0), some (vI x1), some (vI (0 : Int32))], [], σ1) := by
  refine (e_n 2 (fr' := (18, 5, [some (vR 3 0 0), some (vI x1), l2], [vI (48 : Int32), vI x1], σ)) rfl).trans ?_
  refine (e_f (B := (18, 8, [some (vR 3 0 0), some (vI x1), l2], [], σ)) rfl h1).trans ?_
  refine (e_n 1 (fr' := (18, 9, [some (vR 3 0 0), some (vI x1), l2], [vR 3 0 0], σ)) rfl).trans ?_
  refine (e_ci (m := 18) (pc := 12) (ls := [some (vR 3 0 0), some (vI x1), l2]) (rest := []) rfl h2).trans ?_
  refine (e_t (A := (18, 21, [some (vR 3 0 0), some (vI x1), l2], [], σ1)) rfl h3).trans ?_
  exact e_n 2 rfl
set_option maxRecDepth 20000 in
theorem g18_2_2 (C : pmC) {σ : pmS} {x1 : Int32} {l2 : Option pmV} {σ1 : pmS} {r1 : Int32} (h1 : ¬ (48 : Int32) ≤ x1) (h2 : C 21 [vR 3 0 0] σ = some (some (vI r1), σ1)) (h3 : ¬ r1 = 0) : pq_Rn C (18, 2, [some (vR 3 0 0), some (vI x1), l2], [], σ) = pq_Rn C (18, 2, [some (vR 3 0 0), some (vI (x1 + (1 : Int32))), l2], [], σ1) := by
  refine (e_n 2 (fr' := (18, 5, [some (vR 3 0 0), some (vI x1), l2], [vI (48 : Int32), vI x1], σ)) rfl).trans ?_
  refine (e_f (B := (18, 8, [some (vR 3 0 0), some (vI x1), l2], [], σ)) rfl h1).trans ?_
  refine (e_n 1 (fr' := (18, 9, [some (vR 3 0 0), some (vI x1), l2], [vR 3 0 0], σ)) rfl).trans ?_
  refine (e_ci (m := 18) (pc := 12) (ls := [some (vR 3 0 0), some (vI x1), l2]) (rest := []) rfl h2).trans ?_
  refine (e_f (B := (18, 15, [some (vR 3 0 0), some (vI x1), l2], [], σ1)) rfl h3).trans ?_
  exact e_n 2 rfl
set_option maxRecDepth 20000 in
theorem g18_23_0 (C : pmC) {σ : pmS} {x1 : Int32} {x2 : Int32} {σ1 : pmS} (h1 : (48 : Int32) ≤ x2) (h2 : C 27 [vR 3 0 0] σ = some (none, σ1)) : pq_Rn C (18, 23, [some (vR 3 0 0), some (vI x1), some (vI x2)], [], σ) = some (some (vI x1), σ1) := by
  refine (e_n 2 (fr' := (18, 26, [some (vR 3 0 0), some (vI x1), some (vI x2)], [vI (48 : Int32), vI x2], σ)) rfl).trans ?_
  refine (e_t (A := (18, 40, [some (vR 3 0 0), some (vI x1), some (vI x2)], [], σ)) rfl h1).trans ?_
  refine (e_n 1 (fr' := (18, 41, [some (vR 3 0 0), some (vI x1), some (vI x2)], [vR 3 0 0], σ)) rfl).trans ?_
  refine (e_cv (m := 18) (pc := 44) (ls := [some (vR 3 0 0), some (vI x1), some (vI x2)]) (rest := []) rfl h2).trans ?_
  refine (e_n 1 (fr' := (18, 45, [some (vR 3 0 0), some (vI x1), some (vI x2)], [vI x1], σ1)) rfl).trans ?_
  exact e_r rfl
set_option maxRecDepth 20000 in
theorem g18_23_1 (C : pmC) {σ : pmS} {x1 : Int32} {x2 : Int32} {σ1 : pmS} (h1 : ¬ (48 : Int32) ≤ x2) (h2 : C 25 [vR 3 0 0, vI x2] σ = some (none, σ1)) : pq_Rn C (18, 23, [some (vR 3 0 0), some (vI x1), some (vI x2)], [], σ) = pq_Rn C (18, 23, [some (vR 3 0 0), some (vI x1), some (vI (x2 + (1 : Int32)))], [], σ1) := by
  refine (e_n 2 (fr' := (18, 26, [some (vR 3 0 0), some (vI x1), some (vI x2)], [vI (48 : Int32), vI x2], σ)) rfl).trans ?_
  refine (e_f (B := (18, 29, [some (vR 3 0 0), some (vI x1), some (vI x2)], [], σ)) rfl h1).trans ?_
  refine (e_n 2 (fr' := (18, 31, [some (vR 3 0 0), some (vI x1), some (vI x2)], [vI x2, vR 3 0 0], σ)) rfl).trans ?_
  refine (e_cv (m := 18) (pc := 34) (ls := [some (vR 3 0 0), some (vI x1), some (vI x2)]) (rest := []) rfl h2).trans ?_
  exact e_n 2 rfl
set_option maxRecDepth 20000 in
theorem g19_0_0 (C : pmC) {σ : pmS} {w0 : Int64} {x2 : Int32} (h1 : (lg_cmp (((w0).toUInt64 >>> ((x2).toInt64.toUInt64 &&& Int64.toUInt64 63)).toInt64 &&& (1 : Int64)) (0 : Int64)) = 0) : pq_Rn C (19, 0, [some (vL w0), none, some (vI x2)], [], σ) = some (some (vI (0 : Int32)), σ) := by
  refine (e_n 7 (fr' := (19, 7, [some (vL w0), none, some (vI x2)], [vI (lg_cmp (((w0).toUInt64 >>> ((x2).toInt64.toUInt64 &&& Int64.toUInt64 63)).toInt64 &&& (1 : Int64)) (0 : Int64))], σ)) rfl).trans ?_
  refine (e_t (A := (19, 14, [some (vL w0), none, some (vI x2)], [], σ)) rfl h1).trans ?_
  refine (e_n 1 (fr' := (19, 15, [some (vL w0), none, some (vI x2)], [vI (0 : Int32)], σ)) rfl).trans ?_
  exact e_r rfl
set_option maxRecDepth 20000 in
theorem g19_0_1 (C : pmC) {σ : pmS} {w0 : Int64} {x2 : Int32} (h1 : ¬ (lg_cmp (((w0).toUInt64 >>> ((x2).toInt64.toUInt64 &&& Int64.toUInt64 63)).toInt64 &&& (1 : Int64)) (0 : Int64)) = 0) : pq_Rn C (19, 0, [some (vL w0), none, some (vI x2)], [], σ) = some (some (vI (1 : Int32)), σ) := by
  refine (e_n 7 (fr' := (19, 7, [some (vL w0), none, some (vI x2)], [vI (lg_cmp (((w0).toUInt64 >>> ((x2).toInt64.toUInt64 &&& Int64.toUInt64 63)).toInt64 &&& (1 : Int64)) (0 : Int64))], σ)) rfl).trans ?_
  refine (e_f (B := (19, 10, [some (vL w0), none, some (vI x2)], [], σ)) rfl h1).trans ?_
  refine (e_n 2 (fr' := (19, 15, [some (vL w0), none, some (vI x2)], [vI (1 : Int32)], σ)) rfl).trans ?_
  exact e_r rfl
set_option maxRecDepth 20000 in
theorem g20_0_0 (C : pmC) {σ : pmS} {l1 : Option pmV}  : pq_Rn C (20, 0, [some (vR 3 0 0), l1], [], σ) = pq_Rn C (20, 7, [some (vR 3 0 0), some (vI (0 : Int32))], [], (pm_wi σ 3 0 4 0 (0 : Int32))) := by
  exact e_n 5 rfl
set_option maxRecDepth 20000 in
theorem g20_7_0 (C : pmC) {σ : pmS} {x1 : Int32} (h1 : (48 : Int32) ≤ x1) : pq_Rn C (20, 7, [some (vR 3 0 0), some (vI x1)], [], σ) = some (none, σ) := by
  refine (e_n 2 (fr' := (20, 10, [some (vR 3 0 0), some (vI x1)], [vI (48 : Int32), vI x1], σ)) rfl).trans ?_
  refine (e_t (A := (20, 71, [some (vR 3 0 0), some (vI x1)], [], σ)) rfl h1).trans ?_
  exact e_r rfl
set_option maxRecDepth 20000 in
theorem g20_7_1 (C : pmC) {σ : pmS} {x1 : Int32} (h1 : ¬ (48 : Int32) ≤ x1) (h2 : vp_in x1 48) (h3 : (lg_cmp (σ.2 3 0 0 (x1).toNatClampNeg) (0 : Int64)) = 0) : pq_Rn C (20, 7, [some (vR 3 0 0), some (vI x1)], [], σ) = pq_Rn C (20, 7, [some (vR 3 0 0), some (vI (x1 + (1 : Int32)))], [], σ) := by
  refine (e_n 2 (fr' := (20, 10, [some (vR 3 0 0), some (vI x1)], [vI (48 : Int32), vI x1], σ)) rfl).trans ?_
  refine (e_f (B := (20, 13, [some (vR 3 0 0), some (vI x1)], [], σ)) rfl h1).trans ?_
  refine (e_n 3 (fr' := (20, 18, [some (vR 3 0 0), some (vI x1)], [vI x1, vR 3 0 1], σ)) rfl).trans ?_
  refine (e_a (A := (20, 19, [some (vR 3 0 0), some (vI x1)], [vL (σ.2 3 0 0 (x1).toNatClampNeg)], σ)) rfl h2).trans ?_
  refine (e_n 2 (fr' := (20, 21, [some (vR 3 0 0), some (vI x1)], [vI (lg_cmp (σ.2 3 0 0 (x1).toNatClampNeg) (0 : Int64))], σ)) rfl).trans ?_
  refine (e_t (A := (20, 65, [some (vR 3 0 0), some (vI x1)], [], σ)) rfl h3).trans ?_
  exact e_n 2 rfl
set_option maxRecDepth 20000 in
theorem g20_7_2 (C : pmC) {σ : pmS} {x1 : Int32} {σ1 : pmS} {r1 : Int32} (h1 : ¬ (48 : Int32) ≤ x1) (h2 : vp_in x1 48) (h3 : ¬ (lg_cmp (σ.2 3 0 0 (x1).toNatClampNeg) (0 : Int64)) = 0) (h4 : (σ.1 3 0 1 (x1).toNatClampNeg) = (-1 : Int32)) (h5 : C 19 [vL (σ.2 3 0 5 0), vI x1] σ = some (some (vI r1), σ1)) (h6 : r1 = 0) (h7 : vp_in (σ1.1 3 0 4 0) 48) : pq_Rn C (20, 7, [some (vR 3 0 0), some (vI x1)], [], σ) = pq_Rn C (20, 7, [some (vR 3 0 0), some (vI (x1 + (1 : Int32)))], [], (pm_wi (pm_wi σ1 3 0 2 ((σ1.1 3 0 4 0)).toNatClampNeg x1) 3 0 4 0 ((σ1.1 3 0 4 0) + (1 : Int32)))) := by
  refine (e_n 2 (fr' := (20, 10, [some (vR 3 0 0), some (vI x1)], [vI (48 : Int32), vI x1], σ)) rfl).trans ?_
  refine (e_f (B := (20, 13, [some (vR 3 0 0), some (vI x1)], [], σ)) rfl h1).trans ?_
  refine (e_n 3 (fr' := (20, 18, [some (vR 3 0 0), some (vI x1)], [vI x1, vR 3 0 1], σ)) rfl).trans ?_
  refine (e_a (A := (20, 19, [some (vR 3 0 0), some (vI x1)], [vL (σ.2 3 0 0 (x1).toNatClampNeg)], σ)) rfl h2).trans ?_
  refine (e_n 2 (fr' := (20, 21, [some (vR 3 0 0), some (vI x1)], [vI (lg_cmp (σ.2 3 0 0 (x1).toNatClampNeg) (0 : Int64))], σ)) rfl).trans ?_
  refine (e_f (B := (20, 24, [some (vR 3 0 0), some (vI x1)], [], σ)) rfl h3).trans ?_
  refine (e_n 3 (fr' := (20, 29, [some (vR 3 0 0), some (vI x1)], [vI x1, vR 3 0 2], σ)) rfl).trans ?_
  refine (e_a (A := (20, 30, [some (vR 3 0 0), some (vI x1)], [vI (σ.1 3 0 1 (x1).toNatClampNeg)], σ)) rfl h2).trans ?_
  refine (e_n 1 (fr' := (20, 31, [some (vR 3 0 0), some (vI x1)], [vI (-1 : Int32), vI (σ.1 3 0 1 (x1).toNatClampNeg)], σ)) rfl).trans ?_
  refine (e_t (A := (20, 34, [some (vR 3 0 0), some (vI x1)], [], σ)) rfl h4).trans ?_
  refine (e_n 3 (fr' := (20, 39, [some (vR 3 0 0), some (vI x1)], [vI x1, vL (σ.2 3 0 5 0)], σ)) rfl).trans ?_
  refine (e_ci (m := 20) (pc := 42) (ls := [some (vR 3 0 0), some (vI x1)]) (rest := []) rfl h5).trans ?_
  refine (e_t (A := (20, 45, [some (vR 3 0 0), some (vI x1)], [], σ1)) rfl h6).trans ?_
  refine (e_n 5 (fr' := (20, 54, [some (vR 3 0 0), some (vI x1)], [vI x1, vI (σ1.1 3 0 4 0), vR 3 0 3], σ1)) rfl).trans ?_
  refine (e_a (A := (20, 55, [some (vR 3 0 0), some (vI x1)], [], (pm_wi σ1 3 0 2 ((σ1.1 3 0 4 0)).toNatClampNeg x1))) rfl h7).trans ?_
  exact e_n 8 rfl
set_option maxRecDepth 20000 in
theorem g20_7_3 (C : pmC) {σ : pmS} {x1 : Int32} {σ1 : pmS} {r1 : Int32} (h1 : ¬ (48 : Int32) ≤ x1) (h2 : vp_in x1 48) (h3 : ¬ (lg_cmp (σ.2 3 0 0 (x1).toNatClampNeg) (0 : Int64)) = 0) (h4 : (σ.1 3 0 1 (x1).toNatClampNeg) = (-1 : Int32)) (h5 : C 19 [vL (σ.2 3 0 5 0), vI x1] σ = some (some (vI r1), σ1)) (h6 : ¬ r1 = 0) : pq_Rn C (20, 7, [some (vR 3 0 0), some (vI x1)], [], σ) = pq_Rn C (20, 7, [some (vR 3 0 0), some (vI (x1 + (1 : Int32)))], [], σ1) := by
  refine (e_n 2 (fr' := (20, 10, [some (vR 3 0 0), some (vI x1)], [vI (48 : Int32), vI x1], σ)) rfl).trans ?_
  refine (e_f (B := (20, 13, [some (vR 3 0 0), some (vI x1)], [], σ)) rfl h1).trans ?_
  refine (e_n 3 (fr' := (20, 18, [some (vR 3 0 0), some (vI x1)], [vI x1, vR 3 0 1], σ)) rfl).trans ?_
  refine (e_a (A := (20, 19, [some (vR 3 0 0), some (vI x1)], [vL (σ.2 3 0 0 (x1).toNatClampNeg)], σ)) rfl h2).trans ?_
  refine (e_n 2 (fr' := (20, 21, [some (vR 3 0 0), some (vI x1)], [vI (lg_cmp (σ.2 3 0 0 (x1).toNatClampNeg) (0 : Int64))], σ)) rfl).trans ?_
  refine (e_f (B := (20, 24, [some (vR 3 0 0), some (vI x1)], [], σ)) rfl h3).trans ?_
  refine (e_n 3 (fr' := (20, 29, [some (vR 3 0 0), some (vI x1)], [vI x1, vR 3 0 2], σ)) rfl).trans ?_
  refine (e_a (A := (20, 30, [some (vR 3 0 0), some (vI x1)], [vI (σ.1 3 0 1 (x1).toNatClampNeg)], σ)) rfl h2).trans ?_
  refine (e_n 1 (fr' := (20, 31, [some (vR 3 0 0), some (vI x1)], [vI (-1 : Int32), vI (σ.1 3 0 1 (x1).toNatClampNeg)], σ)) rfl).trans ?_
  refine (e_t (A := (20, 34, [some (vR 3 0 0), some (vI x1)], [], σ)) rfl h4).trans ?_
  refine (e_n 3 (fr' := (20, 39, [some (vR 3 0 0), some (vI x1)], [vI x1, vL (σ.2 3 0 5 0)], σ)) rfl).trans ?_
  refine (e_ci (m := 20) (pc := 42) (ls := [some (vR 3 0 0), some (vI x1)]) (rest := []) rfl h5).trans ?_
  refine (e_f (B := (20, 65, [some (vR 3 0 0), some (vI x1)], [], σ1)) rfl h6).trans ?_
  exact e_n 2 rfl
set_option maxRecDepth 20000 in
theorem g20_7_4 (C : pmC) {σ : pmS} {x1 : Int32} (h1 : ¬ (48 : Int32) ≤ x1) (h2 : vp_in x1 48) (h3 : ¬ (lg_cmp (σ.2 3 0 0 (x1).toNatClampNeg) (0 : Int64)) = 0) (h4 : ¬ (σ.1 3 0 1 (x1).toNatClampNeg) = (-1 : Int32)) : pq_Rn C (20, 7, [some (vR 3 0 0), some (vI x1)], [], σ) = pq_Rn C (20, 7, [some (vR 3 0 0), some (vI (x1 + (1 : Int32)))], [], σ) := by
  refine (e_n 2 (fr' := (20, 10, [some (vR 3 0 0), some (vI x1)], [vI (48 : Int32), vI x1], σ)) rfl).trans ?_
  refine (e_f (B := (20, 13, [some (vR 3 0 0), some (vI x1)], [], σ)) rfl h1).trans ?_
  refine (e_n 3 (fr' := (20, 18, [some (vR 3 0 0), some (vI x1)], [vI x1, vR 3 0 1], σ)) rfl).trans ?_
  refine (e_a (A := (20, 19, [some (vR 3 0 0), some (vI x1)], [vL (σ.2 3 0 0 (x1).toNatClampNeg)], σ)) rfl h2).trans ?_
  refine (e_n 2 (fr' := (20, 21, [some (vR 3 0 0), some (vI x1)], [vI (lg_cmp (σ.2 3 0 0 (x1).toNatClampNeg) (0 : Int64))], σ)) rfl).trans ?_
  refine (e_f (B := (20, 24, [some (vR 3 0 0), some (vI x1)], [], σ)) rfl h3).trans ?_
  refine (e_n 3 (fr' := (20, 29, [some (vR 3 0 0), some (vI x1)], [vI x1, vR 3 0 2], σ)) rfl).trans ?_
  refine (e_a (A := (20, 30, [some (vR 3 0 0), some (vI x1)], [vI (σ.1 3 0 1 (x1).toNatClampNeg)], σ)) rfl h2).trans ?_
  refine (e_n 1 (fr' := (20, 31, [some (vR 3 0 0), some (vI x1)], [vI (-1 : Int32), vI (σ.1 3 0 1 (x1).toNatClampNeg)], σ)) rfl).trans ?_
  refine (e_f (B := (20, 65, [some (vR 3 0 0), some (vI x1)], [], σ)) rfl h4).trans ?_
  exact e_n 2 rfl
set_option maxRecDepth 20000 in
theorem g21_0_0 (C : pmC) {σ : pmS} {l1 : Option pmV} {l2 : Option pmV} {l3 : Option pmV} {l4 : Option pmV} {l5 : Option pmV} {l6 : Option pmV} {σ1 : pmS} (h1 : C 20 [vR 3 0 0] σ = some (none, σ1)) : pq_Rn C (21, 0, [some (vR 3 0 0), l1, l2, l3, l4, l5, l6], [], σ) = pq_Rn C (21, 11, [some (vR 3 0 0), some (vL (σ1.2 3 0 6 0)), none, some (vI (0 : Int32)), l4, l5, l6], [], σ1) := by
  refine (e_n 1 (fr' := (21, 1, [some (vR 3 0 0), l1, l2, l3, l4, l5, l6], [vR 3 0 0], σ)) rfl).trans ?_
  refine (e_cv (m := 21) (pc := 4) (ls := [some (vR 3 0 0), l1, l2, l3, l4, l5, l6]) (rest := []) rfl h1).trans ?_
  exact e_n 5 rfl
set_option maxRecDepth 20000 in
theorem g21_11_0 (C : pmC) {σ : pmS} {w1 : Int64} {x3 : Int32} {l4 : Option pmV} {l5 : Option pmV} {l6 : Option pmV} (h1 : (σ.1 3 0 4 0) ≤ x3) : pq_Rn C (21, 11, [some (vR 3 0 0), some (vL w1), none, some (vI x3), l4, l5, l6], [], σ) = some (some (vI (0 : Int32)), σ) := by
  refine (e_n 3 (fr' := (21, 16, [some (vR 3 0 0), some (vL w1), none, some (vI x3), l4, l5, l6], [vI (σ.1 3 0 4 0), vI x3], σ)) rfl).trans ?_
  refine (e_t (A := (21, 137, [some (vR 3 0 0), some (vL w1), none, some (vI x3), l4, l5, l6], [], σ)) rfl h1).trans ?_
  refine (e_n 1 (fr' := (21, 138, [some (vR 3 0 0), some (vL w1), none, some (vI x3), l4, l5, l6], [vI (0 : Int32)], σ)) rfl).trans ?_
  exact e_r rfl
set_option maxRecDepth 20000 in
theorem g21_11_1 (C : pmC) {σ : pmS} {w1 : Int64} {x3 : Int32} {l4 : Option pmV} {l5 : Option pmV} {l6 : Option pmV} (h1 : ¬ (σ.1 3 0 4 0) ≤ x3) (h2 : (48 : Int32) ≤ x3) : pq_Rn C (21, 11, [some (vR 3 0 0), some (vL w1), none, some (vI x3), l4, l5, l6], [], σ) = some (some (vI (0 : Int32)), σ) := by
  refine (e_n 3 (fr' := (21, 16, [some (vR 3 0 0), some (vL w1), none, some (vI x3), l4, l5, l6], [vI (σ.1 3 0 4 0), vI x3], σ)) rfl).trans ?_
  refine (e_f (B := (21, 19, [some (vR 3 0 0), some (vL w1), none, some (vI x3), l4, l5, l6], [], σ)) rfl h1).trans ?_
  refine (e_n 2 (fr' := (21, 22, [some (vR 3 0 0), some (vL w1), none, some (vI x3), l4, l5, l6], [vI (48 : Int32), vI x3], σ)) rfl).trans ?_
  refine (e_t (A := (21, 137, [some (vR 3 0 0), some (vL w1), none, some (vI x3), l4, l5, l6], [], σ)) rfl h2).trans ?_
  refine (e_n 1 (fr' := (21, 138, [some (vR 3 0 0), some (vL w1), none, some (vI x3), l4, l5, l6], [vI (0 : Int32)], σ)) rfl).trans ?_
  exact e_r rfl
set_option maxRecDepth 20000 in
theorem g21_11_2 (C : pmC) {σ : pmS} {w1 : Int64} {x3 : Int32} {l4 : Option pmV} {l5 : Option pmV} {l6 : Option pmV} (h1 : ¬ (σ.1 3 0 4 0) ≤ x3) (h2 : ¬ (48 : Int32) ≤ x3) (h3 : vp_in x3 48) (h4 : vp_in (σ.1 3 0 2 (x3).toNatClampNeg) 48) : pq_Rn C (21, 11, [some (vR 3 0 0), some (vL w1), none, some (vI x3), l4, l5, l6], [], σ) = pq_Rn C (21, 52, [some (vR 3 0 0), some (vL (w1 ||| ((σ.2 3 0 0 ((σ.1 3 0 2 (x3).toNatClampNeg)).toNatClampNeg) &&& (w1 ^^^ (-1 : Int64))))), none, some (vI x3), some (vL ((σ.2 3 0 0 ((σ.1 3 0 2 (x3).toNatClampNeg)).toNatClampNeg) &&& (w1 ^^^ (-1 : Int64)))), none, some (vI (0 : Int32))], [], σ) := by
  refine (e_n 3 (fr' := (21, 16, [some (vR 3 0 0), some (vL w1), none, some (vI x3), l4, l5, l6], [vI (σ.1 3 0 4 0), vI x3], σ)) rfl).trans ?_
  refine (e_f (B := (21, 19, [some (vR 3 0 0), some (vL w1), none, some (vI x3), l4, l5, l6], [], σ)) rfl h1).trans ?_
  refine (e_n 2 (fr' := (21, 22, [some (vR 3 0 0), some (vL w1), none, some (vI x3), l4, l5, l6], [vI (48 : Int32), vI x3], σ)) rfl).trans ?_
  refine (e_f (B := (21, 25, [some (vR 3 0 0), some (vL w1), none, some (vI x3), l4, l5, l6], [], σ)) rfl h2).trans ?_
  refine (e_n 5 (fr' := (21, 34, [some (vR 3 0 0), some (vL w1), none, some (vI x3), l4, l5, l6], [vI x3, vR 3 0 3, vR 3 0 1], σ)) rfl).trans ?_
  refine (e_a (A := (21, 35, [some (vR 3 0 0), some (vL w1), none, some (vI x3), l4, l5, l6], [vI (σ.1 3 0 2 (x3).toNatClampNeg), vR 3 0 1], σ)) rfl h3).trans ?_
  refine (e_a (A := (21, 36, [some (vR 3 0 0), some (vL w1), none, some (vI x3), l4, l5, l6], [vL (σ.2 3 0 0 ((σ.1 3 0 2 (x3).toNatClampNeg)).toNatClampNeg)], σ)) rfl h4).trans ?_
  exact e_n 11 rfl
set_option maxRecDepth 20000 in
theorem g21_52_0 (C : pmC) {σ : pmS} {w1 : Int64} {x3 : Int32} {w4 : Int64} {x6 : Int32} (h1 : (lg_cmp ((w4).toUInt64 >>> ((x6).toInt64.toUInt64 &&& Int64.toUInt64 63)).toInt64 (0 : Int64)) = 0) : pq_Rn C (21, 52, [some (vR 3 0 0), some (vL w1), none, some (vI x3), some (vL w4), none, some (vI x6)], [], σ) = pq_Rn C (21, 11, [some (vR 3 0 0), some (vL w1), none, some (vI (x3 + (1 : Int32))), some (vL w4), none, some (vI x6)], [], σ) := by
  refine (e_n 5 (fr' := (21, 59, [some (vR 3 0 0), some (vL w1), none, some (vI x3), some (vL w4), none, some (vI x6)], [vI (lg_cmp ((w4).toUInt64 >>> ((x6).toInt64.toUInt64 &&& Int64.toUInt64 63)).toInt64 (0 : Int64))], σ)) rfl).trans ?_
  refine (e_t (A := (21, 131, [some (vR 3 0 0), some (vL w1), none, some (vI x3), some (vL w4), none, some (vI x6)], [], σ)) rfl h1).trans ?_
  exact e_n 2 rfl
set_option maxRecDepth 20000 in
theorem g21_52_1 (C : pmC) {σ : pmS} {w1 : Int64} {x3 : Int32} {w4 : Int64} {x6 : Int32} (h1 : ¬ (lg_cmp ((w4).toUInt64 >>> ((x6).toInt64.toUInt64 &&& Int64.toUInt64 63)).toInt64 (0 : Int64)) = 0) (h2 : (48 : Int32) ≤ x6) : pq_Rn C (21, 52, [some (vR 3 0 0), some (vL w1), none, some (vI x3), some (vL w4), none, some (vI x6)], [], σ) = pq_Rn C (21, 11, [some (vR 3 0 0), some (vL w1), none, some (vI (x3 + (1 : Int32))), some (vL w4), none, some (vI x6)], [], σ) := by
  refine (e_n 5 (fr' := (21, 59, [some (vR 3 0 0), some (vL w1), none, some (vI x3), some (vL w4), none, some (vI x6)], [vI (lg_cmp ((w4).toUInt64 >>> ((x6).toInt64.toUInt64 &&& Int64.toUInt64 63)).toInt64 (0 : Int64))], σ)) rfl).trans ?_
  refine (e_f (B := (21, 62, [some (vR 3 0 0), some (vL w1), none, some (vI x3), some (vL w4), none, some (vI x6)], [], σ)) rfl h1).trans ?_
  refine (e_n 2 (fr' := (21, 66, [some (vR 3 0 0), some (vL w1), none, some (vI x3), some (vL w4), none, some (vI x6)], [vI (48 : Int32), vI x6], σ)) rfl).trans ?_
  refine (e_t (A := (21, 131, [some (vR 3 0 0), some (vL w1), none, some (vI x3), some (vL w4), none, some (vI x6)], [], σ)) rfl h2).trans ?_
  exact e_n 2 rfl
set_option maxRecDepth 20000 in
theorem g21_52_2 (C : pmC) {σ : pmS} {w1 : Int64} {x3 : Int32} {w4 : Int64} {x6 : Int32} {σ1 : pmS} {r1 : Int32} (h1 : ¬ (lg_cmp ((w4).toUInt64 >>> ((x6).toInt64.toUInt64 &&& Int64.toUInt64 63)).toInt64 (0 : Int64)) = 0) (h2 : ¬ (48 : Int32) ≤ x6) (h3 : C 19 [vL w4, vI x6] σ = some (some (vI r1), σ1)) (h4 : r1 = 0) : pq_Rn C (21, 52, [some (vR 3 0 0), some (vL w1), none, some (vI x3), some (vL w4), none, some (vI x6)], [], σ) = pq_Rn C (21, 52, [some (vR 3 0 0), some (vL w1), none, some (vI x3), some (vL w4), none, some (vI (x6 + (1 : Int32)))], [], σ1) := by
  refine (e_n 5 (fr' := (21, 59, [some (vR 3 0 0), some (vL w1), none, some (vI x3), some (vL w4), none, some (vI x6)], [vI (lg_cmp ((w4).toUInt64 >>> ((x6).toInt64.toUInt64 &&& Int64.toUInt64 63)).toInt64 (0 : Int64))], σ)) rfl).trans ?_
  refine (e_f (B := (21, 62, [some (vR 3 0 0), some (vL w1), none, some (vI x3), some (vL w4), none, some (vI x6)], [], σ)) rfl h1).trans ?_
  refine (e_n 2 (fr' := (21, 66, [some (vR 3 0 0), some (vL w1), none, some (vI x3), some (vL w4), none, some (vI x6)], [vI (48 : Int32), vI x6], σ)) rfl).trans ?_
  refine (e_f (B := (21, 69, [some (vR 3 0 0), some (vL w1), none, some (vI x3), some (vL w4), none, some (vI x6)], [], σ)) rfl h2).trans ?_
  refine (e_n 2 (fr' := (21, 73, [some (vR 3 0 0), some (vL w1), none, some (vI x3), some (vL w4), none, some (vI x6)], [vI x6, vL w4], σ)) rfl).trans ?_
  refine (e_ci (m := 21) (pc := 76) (ls := [some (vR 3 0 0), some (vL w1), none, some (vI x3), some (vL w4), none, some (vI x6)]) (rest := []) rfl h3).trans ?_
  refine (e_t (A := (21, 79, [some (vR 3 0 0), some (vL w1), none, some (vI x3), some (vL w4), none, some (vI x6)], [], σ1)) rfl h4).trans ?_
  exact e_n 3 rfl
set_option maxRecDepth 20000 in
theorem g21_52_3 (C : pmC) {σ : pmS} {w1 : Int64} {x3 : Int32} {w4 : Int64} {x6 : Int32} {σ1 : pmS} {r1 : Int32} {σ2 : pmS} (h1 : ¬ (lg_cmp ((w4).toUInt64 >>> ((x6).toInt64.toUInt64 &&& Int64.toUInt64 63)).toInt64 (0 : Int64)) = 0) (h2 : ¬ (48 : Int32) ≤ x6) (h3 : C 19 [vL w4, vI x6] σ = some (some (vI r1), σ1)) (h4 : ¬ r1 = 0) (h5 : vp_in x3 48) (h6 : vp_in x6 48) (h7 : (σ1.1 3 0 1 (x6).toNatClampNeg) = (-1 : Int32)) (h8 : C 23 [vR 3 0 0, vI x6] (pm_wi σ1 3 0 3 (x6).toNatClampNeg (σ1.1 3 0 2 (x3).toNatClampNeg)) = some (none, σ2)) : pq_Rn C (21, 52, [some (vR 3 0 0), some (vL w1), none, some (vI x3), some (vL w4), none, some (vI x6)], [], σ) = some (some (vI (1 : Int32)), σ2) := by
  refine (e_n 5 (fr' := (21, 59, [some (vR 3 0 0), some (vL w1), none, some (vI x3), some (vL w4), none, some (vI x6)], [vI (lg_cmp ((w4).toUInt64 >>> ((x6).toInt64.toUInt64 &&& Int64.toUInt64 63)).toInt64 (0 : Int64))], σ)) rfl).trans ?_
  refine (e_f (B := (21, 62, [some (vR 3 0 0), some (vL w1), none, some (vI x3), some (vL w4), none, some (vI x6)], [], σ)) rfl h1).trans ?_
  refine (e_n 2 (fr' := (21, 66, [some (vR 3 0 0), some (vL w1), none, some (vI x3), some (vL w4), none, some (vI x6)], [vI (48 : Int32), vI x6], σ)) rfl).trans ?_
  refine (e_f (B := (21, 69, [some (vR 3 0 0), some (vL w1), none, some (vI x3), some (vL w4), none, some (vI x6)], [], σ)) rfl h2).trans ?_
  refine (e_n 2 (fr' := (21, 73, [some (vR 3 0 0), some (vL w1), none, some (vI x3), some (vL w4), none, some (vI x6)], [vI x6, vL w4], σ)) rfl).trans ?_
  refine (e_ci (m := 21) (pc := 76) (ls := [some (vR 3 0 0), some (vL w1), none, some (vI x3), some (vL w4), none, some (vI x6)]) (rest := []) rfl h3).trans ?_
  refine (e_f (B := (21, 82, [some (vR 3 0 0), some (vL w1), none, some (vI x3), some (vL w4), none, some (vI x6)], [], σ1)) rfl h4).trans ?_
  refine (e_n 6 (fr' := (21, 93, [some (vR 3 0 0), some (vL w1), none, some (vI x3), some (vL w4), none, some (vI x6)], [vI x3, vR 3 0 3, vI x6, vR 3 0 4], σ1)) rfl).trans ?_
  refine (e_a (A := (21, 94, [some (vR 3 0 0), some (vL w1), none, some (vI x3), some (vL w4), none, some (vI x6)], [vI (σ1.1 3 0 2 (x3).toNatClampNeg), vI x6, vR 3 0 4], σ1)) rfl h5).trans ?_
  refine (e_a (A := (21, 95, [some (vR 3 0 0), some (vL w1), none, some (vI x3), some (vL w4), none, some (vI x6)], [], (pm_wi σ1 3 0 3 (x6).toNatClampNeg (σ1.1 3 0 2 (x3).toNatClampNeg)))) rfl h6).trans ?_
  refine (e_n 3 (fr' := (21, 101, [some (vR 3 0 0), some (vL w1), none, some (vI x3), some (vL w4), none, some (vI x6)], [vI x6, vR 3 0 2], (pm_wi σ1 3 0 3 (x6).toNatClampNeg (σ1.1 3 0 2 (x3).toNatClampNeg)))) rfl).trans ?_
  refine (e_a (A := (21, 102, [some (vR 3 0 0), some (vL w1), none, some (vI x3), some (vL w4), none, some (vI x6)], [vI (σ1.1 3 0 1 (x6).toNatClampNeg)], (pm_wi σ1 3 0 3 (x6).toNatClampNeg (σ1.1 3 0 2 (x3).toNatClampNeg)))) rfl h6).trans ?_
  refine (e_n 1 (fr' := (21, 103, [some (vR 3 0 0), some (vL w1), none, some (vI x3), some (vL w4), none, some (vI x6)], [vI (-1 : Int32), vI (σ1.1 3 0 1 (x6).toNatClampNeg)], (pm_wi σ1 3 0 3 (x6).toNatClampNeg (σ1.1 3 0 2 (x3).toNatClampNeg)))) rfl).trans ?_
  refine (e_t (A := (21, 106, [some (vR 3 0 0), some (vL w1), none, some (vI x3), some (vL w4), none, some (vI x6)], [], (pm_wi σ1 3 0 3 (x6).toNatClampNeg (σ1.1 3 0 2 (x3).toNatClampNeg)))) rfl h7).trans ?_
  refine (e_n 2 (fr' := (21, 109, [some (vR 3 0 0), some (vL w1), none, some (vI x3), some (vL w4), none, some (vI x6)], [vI x6, vR 3 0 0], (pm_wi σ1 3 0 3 (x6).toNatClampNeg (σ1.1 3 0 2 (x3).toNatClampNeg)))) rfl).trans ?_
  refine (e_cv (m := 21) (pc := 112) (ls := [some (vR 3 0 0), some (vL w1), none, some (vI x3), some (vL w4), none, some (vI x6)]) (rest := []) rfl h8).trans ?_
  refine (e_n 1 (fr' := (21, 113, [some (vR 3 0 0), some (vL w1), none, some (vI x3), some (vL w4), none, some (vI x6)], [vI (1 : Int32)], σ2)) rfl).trans ?_
  exact e_r rfl
set_option maxRecDepth 20000 in
theorem g21_52_4 (C : pmC) {σ : pmS} {w1 : Int64} {x3 : Int32} {w4 : Int64} {x6 : Int32} {σ1 : pmS} {r1 : Int32} {σ2 : pmS} (h1 : ¬ (lg_cmp ((w4).toUInt64 >>> ((x6).toInt64.toUInt64 &&& Int64.toUInt64 63)).toInt64 (0 : Int64)) = 0) (h2 : ¬ (48 : Int32) ≤ x6) (h3 : C 19 [vL w4, vI x6] σ = some (some (vI r1), σ1)) (h4 : ¬ r1 = 0) (h5 : vp_in x3 48) (h6 : vp_in x6 48) (h7 : ¬ (σ1.1 3 0 1 (x6).toNatClampNeg) = (-1 : Int32)) (h8 : C 22 [vR 3 0 0, vI (σ1.1 3 0 1 (x6).toNatClampNeg)] (pm_wi σ1 3 0 3 (x6).toNatClampNeg (σ1.1 3 0 2 (x3).toNatClampNeg)) = some (none, σ2)) : pq_Rn C (21, 52, [some (vR 3 0 0), some (vL w1), none, some (vI x3), some (vL w4), none, some (vI x6)], [], σ) = pq_Rn C (21, 52, [some (vR 3 0 0), some (vL w1), none, some (vI x3), some (vL w4), none, some (vI (x6 + (1 : Int32)))], [], σ2) := by
  refine (e_n 5 (fr' := (21, 59, [some (vR 3 0 0), some (vL w1), none, some (vI x3), some (vL w4), none, some (vI x6)], [vI (lg_cmp ((w4).toUInt64 >>> ((x6).toInt64.toUInt64 &&& Int64.toUInt64 63)).toInt64 (0 : Int64))], σ)) rfl).trans ?_
  refine (e_f (B := (21, 62, [some (vR 3 0 0), some (vL w1), none, some (vI x3), some (vL w4), none, some (vI x6)], [], σ)) rfl h1).trans ?_
  refine (e_n 2 (fr' := (21, 66, [some (vR 3 0 0), some (vL w1), none, some (vI x3), some (vL w4), none, some (vI x6)], [vI (48 : Int32), vI x6], σ)) rfl).trans ?_
  refine (e_f (B := (21, 69, [some (vR 3 0 0), some (vL w1), none, some (vI x3), some (vL w4), none, some (vI x6)], [], σ)) rfl h2).trans ?_
  refine (e_n 2 (fr' := (21, 73, [some (vR 3 0 0), some (vL w1), none, some (vI x3), some (vL w4), none, some (vI x6)], [vI x6, vL w4], σ)) rfl).trans ?_
  refine (e_ci (m := 21) (pc := 76) (ls := [some (vR 3 0 0), some (vL w1), none, some (vI x3), some (vL w4), none, some (vI x6)]) (rest := []) rfl h3).trans ?_
  refine (e_f (B := (21, 82, [some (vR 3 0 0), some (vL w1), none, some (vI x3), some (vL w4), none, some (vI x6)], [], σ1)) rfl h4).trans ?_
  refine (e_n 6 (fr' := (21, 93, [some (vR 3 0 0), some (vL w1), none, some (vI x3), some (vL w4), none, some (vI x6)], [vI x3, vR 3 0 3, vI x6, vR 3 0 4], σ1)) rfl).trans ?_
  refine (e_a (A := (21, 94, [some (vR 3 0 0), some (vL w1), none, some (vI x3), some (vL w4), none, some (vI x6)], [vI (σ1.1 3 0 2 (x3).toNatClampNeg), vI x6, vR 3 0 4], σ1)) rfl h5).trans ?_
  refine (e_a (A := (21, 95, [some (vR 3 0 0), some (vL w1), none, some (vI x3), some (vL w4), none, some (vI x6)], [], (pm_wi σ1 3 0 3 (x6).toNatClampNeg (σ1.1 3 0 2 (x3).toNatClampNeg)))) rfl h6).trans ?_
  refine (e_n 3 (fr' := (21, 101, [some (vR 3 0 0), some (vL w1), none, some (vI x3), some (vL w4), none, some (vI x6)], [vI x6, vR 3 0 2], (pm_wi σ1 3 0 3 (x6).toNatClampNeg (σ1.1 3 0 2 (x3).toNatClampNeg)))) rfl).trans ?_
  refine (e_a (A := (21, 102, [some (vR 3 0 0), some (vL w1), none, some (vI x3), some (vL w4), none, some (vI x6)], [vI (σ1.1 3 0 1 (x6).toNatClampNeg)], (pm_wi σ1 3 0 3 (x6).toNatClampNeg (σ1.1 3 0 2 (x3).toNatClampNeg)))) rfl h6).trans ?_
  refine (e_n 1 (fr' := (21, 103, [some (vR 3 0 0), some (vL w1), none, some (vI x3), some (vL w4), none, some (vI x6)], [vI (-1 : Int32), vI (σ1.1 3 0 1 (x6).toNatClampNeg)], (pm_wi σ1 3 0 3 (x6).toNatClampNeg (σ1.1 3 0 2 (x3).toNatClampNeg)))) rfl).trans ?_
  refine (e_f (B := (21, 114, [some (vR 3 0 0), some (vL w1), none, some (vI x3), some (vL w4), none, some (vI x6)], [], (pm_wi σ1 3 0 3 (x6).toNatClampNeg (σ1.1 3 0 2 (x3).toNatClampNeg)))) rfl h7).trans ?_
  refine (e_n 4 (fr' := (21, 121, [some (vR 3 0 0), some (vL w1), none, some (vI x3), some (vL w4), none, some (vI x6)], [vI x6, vR 3 0 2, vR 3 0 0], (pm_wi σ1 3 0 3 (x6).toNatClampNeg (σ1.1 3 0 2 (x3).toNatClampNeg)))) rfl).trans ?_
  refine (e_a (A := (21, 122, [some (vR 3 0 0), some (vL w1), none, some (vI x3), some (vL w4), none, some (vI x6)], [vI (σ1.1 3 0 1 (x6).toNatClampNeg), vR 3 0 0], (pm_wi σ1 3 0 3 (x6).toNatClampNeg (σ1.1 3 0 2 (x3).toNatClampNeg)))) rfl h6).trans ?_
  refine (e_cv (m := 21) (pc := 125) (ls := [some (vR 3 0 0), some (vL w1), none, some (vI x3), some (vL w4), none, some (vI x6)]) (rest := []) rfl h8).trans ?_
  exact e_n 2 rfl
set_option maxRecDepth 20000 in
theorem g22_0_0 (C : pmC) {σ : pmS} {x1 : Int32} (h1 : (48 : Int32) ≤ (σ.1 3 0 4 0)) : pq_Rn C (22, 0, [some (vR 3 0 0), some (vI x1)], [], σ) = some (none, σ) := by
  refine (e_n 3 (fr' := (22, 6, [some (vR 3 0 0), some (vI x1)], [vI (48 : Int32), vI (σ.1 3 0 4 0)], σ)) rfl).trans ?_
  refine (e_t (A := (22, 29, [some (vR 3 0 0), some (vI x1)], [], σ)) rfl h1).trans ?_
  exact e_r rfl
set_option maxRecDepth 20000 in
theorem g22_0_1 (C : pmC) {σ : pmS} {x1 : Int32} (h1 : ¬ (48 : Int32) ≤ (σ.1 3 0 4 0)) (h2 : vp_in (σ.1 3 0 4 0) 48) : pq_Rn C (22, 0, [some (vR 3 0 0), some (vI x1)], [], σ) = some (none, (pm_wi (pm_wi σ 3 0 2 ((σ.1 3 0 4 0)).toNatClampNeg x1) 3 0 4 0 ((σ.1 3 0 4 0) + (1 : Int32)))) := by
  refine (e_n 3 (fr' := (22, 6, [some (vR 3 0 0), some (vI x1)], [vI (48 : Int32), vI (σ.1 3 0 4 0)], σ)) rfl).trans ?_
  refine (e_f (B := (22, 9, [some (vR 3 0 0), some (vI x1)], [], σ)) rfl h1).trans ?_
  refine (e_n 5 (fr' := (22, 18, [some (vR 3 0 0), some (vI x1)], [vI x1, vI (σ.1 3 0 4 0), vR 3 0 3], σ)) rfl).trans ?_
  refine (e_a (A := (22, 19, [some (vR 3 0 0), some (vI x1)], [], (pm_wi σ 3 0 2 ((σ.1 3 0 4 0)).toNatClampNeg x1))) rfl h2).trans ?_
  refine (e_n 6 (fr' := (22, 29, [some (vR 3 0 0), some (vI x1)], [], (pm_wi (pm_wi σ 3 0 2 ((σ.1 3 0 4 0)).toNatClampNeg x1) 3 0 4 0 ((σ.1 3 0 4 0) + (1 : Int32))))) rfl).trans ?_
  exact e_r rfl
set_option maxRecDepth 20000 in
theorem g23_0_0 (C : pmC) {σ : pmS} {x1 : Int32} {l2 : Option pmV} {l3 : Option pmV} {l4 : Option pmV} {l5 : Option pmV}  : pq_Rn C (23, 0, [some (vR 3 0 0), some (vI x1), l2, l3, l4, l5], [], σ) = pq_Rn C (23, 4, [some (vR 3 0 0), some (vI x1), some (vI x1), some (vI (0 : Int32)), l4, l5], [], σ) := by
  exact e_n 4 rfl
set_option maxRecDepth 20000 in
theorem g23_4_0 (C : pmC) {σ : pmS} {l1 : Option pmV} {x2 : Int32} {x3 : Int32} {l4 : Option pmV} {l5 : Option pmV} (h1 : (48 : Int32) ≤ x3) : pq_Rn C (23, 4, [some (vR 3 0 0), l1, some (vI x2), some (vI x3), l4, l5], [], σ) = some (none, σ) := by
  refine (e_n 2 (fr' := (23, 7, [some (vR 3 0 0), l1, some (vI x2), some (vI x3), l4, l5], [vI (48 : Int32), vI x3], σ)) rfl).trans ?_
  refine (e_t (A := (23, 48, [some (vR 3 0 0), l1, some (vI x2), some (vI x3), l4, l5], [], σ)) rfl h1).trans ?_
  exact e_r rfl
set_option maxRecDepth 20000 in
theorem g23_4_1 (C : pmC) {σ : pmS} {l1 : Option pmV} {x2 : Int32} {x3 : Int32} {l4 : Option pmV} {l5 : Option pmV} (h1 : ¬ (48 : Int32) ≤ x3) (h2 : x2 = (-1 : Int32)) : pq_Rn C (23, 4, [some (vR 3 0 0), l1, some (vI x2), some (vI x3), l4, l5], [], σ) = some (none, σ) := by
  refine (e_n 2 (fr' := (23, 7, [some (vR 3 0 0), l1, some (vI x2), some (vI x3), l4, l5], [vI (48 : Int32), vI x3], σ)) rfl).trans ?_
  refine (e_f (B := (23, 10, [some (vR 3 0 0), l1, some (vI x2), some (vI x3), l4, l5], [], σ)) rfl h1).trans ?_
  refine (e_n 2 (fr' := (23, 12, [some (vR 3 0 0), l1, some (vI x2), some (vI x3), l4, l5], [vI (-1 : Int32), vI x2], σ)) rfl).trans ?_
  refine (e_t (A := (23, 48, [some (vR 3 0 0), l1, some (vI x2), some (vI x3), l4, l5], [], σ)) rfl h2).trans ?_
  exact e_r rfl
set_option maxRecDepth 20000 in
theorem g23_4_2 (C : pmC) {σ : pmS} {l1 : Option pmV} {x2 : Int32} {x3 : Int32} {l4 : Option pmV} {l5 : Option pmV} {σ1 : pmS} (h1 : ¬ (48 : Int32) ≤ x3) (h2 : ¬ x2 = (-1 : Int32)) (h3 : vp_in x2 48) (h4 : vp_in (σ.1 3 0 3 (x2).toNatClampNeg) 48) (h5 : C 24 [vR 3 0 0, vI (σ.1 3 0 3 (x2).toNatClampNeg), vI x2] σ = some (none, σ1)) : pq_Rn C (23, 4, [some (vR 3 0 0), l1, some (vI x2), some (vI x3), l4, l5], [], σ) = pq_Rn C (23, 4, [some (vR 3 0 0), l1, some (vI (σ.1 3 0 1 ((σ.1 3 0 3 (x2).toNatClampNeg)).toNatClampNeg)), some (vI (x3 + (1 : Int32))), some (vI (σ.1 3 0 3 (x2).toNatClampNeg)), some (vI (σ.1 3 0 1 ((σ.1 3 0 3 (x2).toNatClampNeg)).toNatClampNeg))], [], σ1) := by
  refine (e_n 2 (fr' := (23, 7, [some (vR 3 0 0), l1, some (vI x2), some (vI x3), l4, l5], [vI (48 : Int32), vI x3], σ)) rfl).trans ?_
  refine (e_f (B := (23, 10, [some (vR 3 0 0), l1, some (vI x2), some (vI x3), l4, l5], [], σ)) rfl h1).trans ?_
  refine (e_n 2 (fr' := (23, 12, [some (vR 3 0 0), l1, some (vI x2), some (vI x3), l4, l5], [vI (-1 : Int32), vI x2], σ)) rfl).trans ?_
  refine (e_f (B := (23, 15, [some (vR 3 0 0), l1, some (vI x2), some (vI x3), l4, l5], [], σ)) rfl h2).trans ?_
  refine (e_n 3 (fr' := (23, 20, [some (vR 3 0 0), l1, some (vI x2), some (vI x3), l4, l5], [vI x2, vR 3 0 4], σ)) rfl).trans ?_
  refine (e_a (A := (23, 21, [some (vR 3 0 0), l1, some (vI x2), some (vI x3), l4, l5], [vI (σ.1 3 0 3 (x2).toNatClampNeg)], σ)) rfl h3).trans ?_
  refine (e_n 4 (fr' := (23, 29, [some (vR 3 0 0), l1, some (vI x2), some (vI x3), some (vI (σ.1 3 0 3 (x2).toNatClampNeg)), l5], [vI (σ.1 3 0 3 (x2).toNatClampNeg), vR 3 0 2], σ)) rfl).trans ?_
  refine (e_a (A := (23, 30, [some (vR 3 0 0), l1, some (vI x2), some (vI x3), some (vI (σ.1 3 0 3 (x2).toNatClampNeg)), l5], [vI (σ.1 3 0 1 ((σ.1 3 0 3 (x2).toNatClampNeg)).toNatClampNeg)], σ)) rfl h4).trans ?_
  refine (e_n 4 (fr' := (23, 36, [some (vR 3 0 0), l1, some (vI x2), some (vI x3), some (vI (σ.1 3 0 3 (x2).toNatClampNeg)), some (vI (σ.1 3 0 1 ((σ.1 3 0 3 (x2).toNatClampNeg)).toNatClampNeg))], [vI x2, vI (σ.1 3 0 3 (x2).toNatClampNeg), vR 3 0 0], σ)) rfl).trans ?_
  refine (e_cv (m := 23) (pc := 39) (ls := [some (vR 3 0 0), l1, some (vI x2), some (vI x3), some (vI (σ.1 3 0 3 (x2).toNatClampNeg)), some (vI (σ.1 3 0 1 ((σ.1 3 0 3 (x2).toNatClampNeg)).toNatClampNeg))]) (rest := []) rfl h5).trans ?_
  exact e_n 4 rfl
set_option maxRecDepth 20000 in
theorem g24_0_0 (C : pmC) {σ : pmS} {x1 : Int32} {x2 : Int32} (h1 : vp_in x1 48) (h2 : vp_in x2 48) : pq_Rn C (24, 0, [some (vR 3 0 0), some (vI x1), some (vI x2)], [], σ) = some (none, (pm_wi (pm_wi σ 3 0 1 (x1).toNatClampNeg x2) 3 0 1 (x2).toNatClampNeg x1)) := by
  refine (e_n 4 (fr' := (24, 6, [some (vR 3 0 0), some (vI x1), some (vI x2)], [vI x2, vI x1, vR 3 0 2], σ)) rfl).trans ?_
  refine (e_a (A := (24, 7, [some (vR 3 0 0), some (vI x1), some (vI x2)], [], (pm_wi σ 3 0 1 (x1).toNatClampNeg x2))) rfl h1).trans ?_
  refine (e_n 4 (fr' := (24, 13, [some (vR 3 0 0), some (vI x1), some (vI x2)], [vI x1, vI x2, vR 3 0 2], (pm_wi σ 3 0 1 (x1).toNatClampNeg x2))) rfl).trans ?_
  refine (e_a (A := (24, 14, [some (vR 3 0 0), some (vI x1), some (vI x2)], [], (pm_wi (pm_wi σ 3 0 1 (x1).toNatClampNeg x2) 3 0 1 (x2).toNatClampNeg x1))) rfl h2).trans ?_
  exact e_r rfl
set_option maxRecDepth 20000 in
theorem g25_0_0 (C : pmC) {σ : pmS} {x1 : Int32} {l2 : Option pmV} {l3 : Option pmV} {l4 : Option pmV} (h1 : vp_in x1 48) : pq_Rn C (25, 0, [some (vR 3 0 0), some (vI x1), l2, l3, l4], [], σ) = pq_Rn C (25, 31, [some (vR 3 0 0), some (vI x1), some (vL ((σ.2 3 0 0 (x1).toNatClampNeg) &&& ((σ.2 3 0 6 0) ^^^ (-1 : Int64)))), none, some (vI (0 : Int32))], [], (pm_wl σ 3 0 5 0 ((σ.2 3 0 5 0) ||| ((1 : Int64) <<< ((x1).toInt64 &&& 63))))) := by
  refine (e_n 11 (fr' := (25, 17, [some (vR 3 0 0), some (vI x1), l2, l3, l4], [vI x1, vR 3 0 1], (pm_wl σ 3 0 5 0 ((σ.2 3 0 5 0) ||| ((1 : Int64) <<< ((x1).toInt64 &&& 63)))))) rfl).trans ?_
  refine (e_a (A := (25, 18, [some (vR 3 0 0), some (vI x1), l2, l3, l4], [vL (σ.2 3 0 0 (x1).toNatClampNeg)], (pm_wl σ 3 0 5 0 ((σ.2 3 0 5 0) ||| ((1 : Int64) <<< ((x1).toInt64 &&& 63)))))) rfl h1).trans ?_
  exact e_n 8 rfl
set_option maxRecDepth 20000 in
theorem g25_31_0 (C : pmC) {σ : pmS} {x1 : Int32} {w2 : Int64} {x4 : Int32} (h1 : (lg_cmp ((w2).toUInt64 >>> ((x4).toInt64.toUInt64 &&& Int64.toUInt64 63)).toInt64 (0 : Int64)) = 0) : pq_Rn C (25, 31, [some (vR 3 0 0), some (vI x1), some (vL w2), none, some (vI x4)], [], σ) = some (none, σ) := by
  refine (e_n 5 (fr' := (25, 37, [some (vR 3 0 0), some (vI x1), some (vL w2), none, some (vI x4)], [vI (lg_cmp ((w2).toUInt64 >>> ((x4).toInt64.toUInt64 &&& Int64.toUInt64 63)).toInt64 (0 : Int64))], σ)) rfl).trans ?_
  refine (e_t (A := (25, 73, [some (vR 3 0 0), some (vI x1), some (vL w2), none, some (vI x4)], [], σ)) rfl h1).trans ?_
  exact e_r rfl
set_option maxRecDepth 20000 in
theorem g25_31_1 (C : pmC) {σ : pmS} {x1 : Int32} {w2 : Int64} {x4 : Int32} (h1 : ¬ (lg_cmp ((w2).toUInt64 >>> ((x4).toInt64.toUInt64 &&& Int64.toUInt64 63)).toInt64 (0 : Int64)) = 0) (h2 : (48 : Int32) ≤ x4) : pq_Rn C (25, 31, [some (vR 3 0 0), some (vI x1), some (vL w2), none, some (vI x4)], [], σ) = some (none, σ) := by
  refine (e_n 5 (fr' := (25, 37, [some (vR 3 0 0), some (vI x1), some (vL w2), none, some (vI x4)], [vI (lg_cmp ((w2).toUInt64 >>> ((x4).toInt64.toUInt64 &&& Int64.toUInt64 63)).toInt64 (0 : Int64))], σ)) rfl).trans ?_
  refine (e_f (B := (25, 40, [some (vR 3 0 0), some (vI x1), some (vL w2), none, some (vI x4)], [], σ)) rfl h1).trans ?_
  refine (e_n 2 (fr' := (25, 44, [some (vR 3 0 0), some (vI x1), some (vL w2), none, some (vI x4)], [vI (48 : Int32), vI x4], σ)) rfl).trans ?_
  refine (e_t (A := (25, 73, [some (vR 3 0 0), some (vI x1), some (vL w2), none, some (vI x4)], [], σ)) rfl h2).trans ?_
  exact e_r rfl
set_option maxRecDepth 20000 in
theorem g25_31_2 (C : pmC) {σ : pmS} {x1 : Int32} {w2 : Int64} {x4 : Int32} {σ1 : pmS} {r1 : Int32} (h1 : ¬ (lg_cmp ((w2).toUInt64 >>> ((x4).toInt64.toUInt64 &&& Int64.toUInt64 63)).toInt64 (0 : Int64)) = 0) (h2 : ¬ (48 : Int32) ≤ x4) (h3 : C 19 [vL w2, vI x4] σ = some (some (vI r1), σ1)) (h4 : r1 = 0) : pq_Rn C (25, 31, [some (vR 3 0 0), some (vI x1), some (vL w2), none, some (vI x4)], [], σ) = pq_Rn C (25, 31, [some (vR 3 0 0), some (vI x1), some (vL w2), none, some (vI (x4 + (1 : Int32)))], [], σ1) := by
  refine (e_n 5 (fr' := (25, 37, [some (vR 3 0 0), some (vI x1), some (vL w2), none, some (vI x4)], [vI (lg_cmp ((w2).toUInt64 >>> ((x4).toInt64.toUInt64 &&& Int64.toUInt64 63)).toInt64 (0 : Int64))], σ)) rfl).trans ?_
  refine (e_f (B := (25, 40, [some (vR 3 0 0), some (vI x1), some (vL w2), none, some (vI x4)], [], σ)) rfl h1).trans ?_
  refine (e_n 2 (fr' := (25, 44, [some (vR 3 0 0), some (vI x1), some (vL w2), none, some (vI x4)], [vI (48 : Int32), vI x4], σ)) rfl).trans ?_
  refine (e_f (B := (25, 47, [some (vR 3 0 0), some (vI x1), some (vL w2), none, some (vI x4)], [], σ)) rfl h2).trans ?_
  refine (e_n 2 (fr' := (25, 50, [some (vR 3 0 0), some (vI x1), some (vL w2), none, some (vI x4)], [vI x4, vL w2], σ)) rfl).trans ?_
  refine (e_ci (m := 25) (pc := 53) (ls := [some (vR 3 0 0), some (vI x1), some (vL w2), none, some (vI x4)]) (rest := []) rfl h3).trans ?_
  refine (e_t (A := (25, 67, [some (vR 3 0 0), some (vI x1), some (vL w2), none, some (vI x4)], [], σ1)) rfl h4).trans ?_
  exact e_n 2 rfl
set_option maxRecDepth 20000 in
theorem g25_31_3 (C : pmC) {σ : pmS} {x1 : Int32} {w2 : Int64} {x4 : Int32} {σ1 : pmS} {r1 : Int32} {σ2 : pmS} {r2 : Int32} (h1 : ¬ (lg_cmp ((w2).toUInt64 >>> ((x4).toInt64.toUInt64 &&& Int64.toUInt64 63)).toInt64 (0 : Int64)) = 0) (h2 : ¬ (48 : Int32) ≤ x4) (h3 : C 19 [vL w2, vI x4] σ = some (some (vI r1), σ1)) (h4 : ¬ r1 = 0) (h5 : C 26 [vR 3 0 0, vI x1, vI x4] σ1 = some (some (vI r2), σ2)) (h6 : r2 = 0) : pq_Rn C (25, 31, [some (vR 3 0 0), some (vI x1), some (vL w2), none, some (vI x4)], [], σ) = pq_Rn C (25, 31, [some (vR 3 0 0), some (vI x1), some (vL w2), none, some (vI (x4 + (1 : Int32)))], [], σ2) := by
  refine (e_n 5 (fr' := (25, 37, [some (vR 3 0 0), some (vI x1), some (vL w2), none, some (vI x4)], [vI (lg_cmp ((w2).toUInt64 >>> ((x4).toInt64.toUInt64 &&& Int64.toUInt64 63)).toInt64 (0 : Int64))], σ)) rfl).trans ?_
  refine (e_f (B := (25, 40, [some (vR 3 0 0), some (vI x1), some (vL w2), none, some (vI x4)], [], σ)) rfl h1).trans ?_
  refine (e_n 2 (fr' := (25, 44, [some (vR 3 0 0), some (vI x1), some (vL w2), none, some (vI x4)], [vI (48 : Int32), vI x4], σ)) rfl).trans ?_
  refine (e_f (B := (25, 47, [some (vR 3 0 0), some (vI x1), some (vL w2), none, some (vI x4)], [], σ)) rfl h2).trans ?_
  refine (e_n 2 (fr' := (25, 50, [some (vR 3 0 0), some (vI x1), some (vL w2), none, some (vI x4)], [vI x4, vL w2], σ)) rfl).trans ?_
  refine (e_ci (m := 25) (pc := 53) (ls := [some (vR 3 0 0), some (vI x1), some (vL w2), none, some (vI x4)]) (rest := []) rfl h3).trans ?_
  refine (e_f (B := (25, 56, [some (vR 3 0 0), some (vI x1), some (vL w2), none, some (vI x4)], [], σ1)) rfl h4).trans ?_
  refine (e_n 3 (fr' := (25, 60, [some (vR 3 0 0), some (vI x1), some (vL w2), none, some (vI x4)], [vI x4, vI x1, vR 3 0 0], σ1)) rfl).trans ?_
  refine (e_ci (m := 25) (pc := 63) (ls := [some (vR 3 0 0), some (vI x1), some (vL w2), none, some (vI x4)]) (rest := []) rfl h5).trans ?_
  refine (e_t (A := (25, 67, [some (vR 3 0 0), some (vI x1), some (vL w2), none, some (vI x4)], [], σ2)) rfl h6).trans ?_
  exact e_n 2 rfl
set_option maxRecDepth 20000 in
theorem g25_31_4 (C : pmC) {σ : pmS} {x1 : Int32} {w2 : Int64} {x4 : Int32} {σ1 : pmS} {r1 : Int32} {σ2 : pmS} {r2 : Int32} (h1 : ¬ (lg_cmp ((w2).toUInt64 >>> ((x4).toInt64.toUInt64 &&& Int64.toUInt64 63)).toInt64 (0 : Int64)) = 0) (h2 : ¬ (48 : Int32) ≤ x4) (h3 : C 19 [vL w2, vI x4] σ = some (some (vI r1), σ1)) (h4 : ¬ r1 = 0) (h5 : C 26 [vR 3 0 0, vI x1, vI x4] σ1 = some (some (vI r2), σ2)) (h6 : ¬ r2 = 0) : pq_Rn C (25, 31, [some (vR 3 0 0), some (vI x1), some (vL w2), none, some (vI x4)], [], σ) = some (none, σ2) := by
  refine (e_n 5 (fr' := (25, 37, [some (vR 3 0 0), some (vI x1), some (vL w2), none, some (vI x4)], [vI (lg_cmp ((w2).toUInt64 >>> ((x4).toInt64.toUInt64 &&& Int64.toUInt64 63)).toInt64 (0 : Int64))], σ)) rfl).trans ?_
  refine (e_f (B := (25, 40, [some (vR 3 0 0), some (vI x1), some (vL w2), none, some (vI x4)], [], σ)) rfl h1).trans ?_
  refine (e_n 2 (fr' := (25, 44, [some (vR 3 0 0), some (vI x1), some (vL w2), none, some (vI x4)], [vI (48 : Int32), vI x4], σ)) rfl).trans ?_
  refine (e_f (B := (25, 47, [some (vR 3 0 0), some (vI x1), some (vL w2), none, some (vI x4)], [], σ)) rfl h2).trans ?_
  refine (e_n 2 (fr' := (25, 50, [some (vR 3 0 0), some (vI x1), some (vL w2), none, some (vI x4)], [vI x4, vL w2], σ)) rfl).trans ?_
  refine (e_ci (m := 25) (pc := 53) (ls := [some (vR 3 0 0), some (vI x1), some (vL w2), none, some (vI x4)]) (rest := []) rfl h3).trans ?_
  refine (e_f (B := (25, 56, [some (vR 3 0 0), some (vI x1), some (vL w2), none, some (vI x4)], [], σ1)) rfl h4).trans ?_
  refine (e_n 3 (fr' := (25, 60, [some (vR 3 0 0), some (vI x1), some (vL w2), none, some (vI x4)], [vI x4, vI x1, vR 3 0 0], σ1)) rfl).trans ?_
  refine (e_ci (m := 25) (pc := 63) (ls := [some (vR 3 0 0), some (vI x1), some (vL w2), none, some (vI x4)]) (rest := []) rfl h5).trans ?_
  refine (e_f (B := (25, 66, [some (vR 3 0 0), some (vI x1), some (vL w2), none, some (vI x4)], [], σ2)) rfl h6).trans ?_
  exact e_r rfl
set_option maxRecDepth 20000 in
theorem g26_0_0 (C : pmC) {σ : pmS} {x1 : Int32} {x2 : Int32} {l3 : Option pmV} {l4 : Option pmV} (h1 : vp_in x1 48) (h2 : vp_in x2 48) (h3 : (σ.1 3 0 1 (x2).toNatClampNeg) = x1) : pq_Rn C (26, 0, [some (vR 3 0 0), some (vI x1), some (vI x2), l3, l4], [], σ) = some (some (vI (1 : Int32)), (pm_wl σ 3 0 6 0 ((σ.2 3 0 6 0) ||| ((1 : Int64) <<< ((x2).toInt64 &&& 63))))) := by
  refine (e_n 3 (fr' := (26, 5, [some (vR 3 0 0), some (vI x1), some (vI x2), l3, l4], [vI x1, vR 3 0 2], σ)) rfl).trans ?_
  refine (e_a (A := (26, 6, [some (vR 3 0 0), some (vI x1), some (vI x2), l3, l4], [vI (σ.1 3 0 1 (x1).toNatClampNeg)], σ)) rfl h1).trans ?_
  refine (e_n 4 (fr' := (26, 12, [some (vR 3 0 0), some (vI x1), some (vI x2), some (vI (σ.1 3 0 1 (x1).toNatClampNeg)), l4], [vI x2, vR 3 0 2], σ)) rfl).trans ?_
  refine (e_a (A := (26, 13, [some (vR 3 0 0), some (vI x1), some (vI x2), some (vI (σ.1 3 0 1 (x1).toNatClampNeg)), l4], [vI (σ.1 3 0 1 (x2).toNatClampNeg)], σ)) rfl h2).trans ?_
  refine (e_n 11 (fr' := (26, 30, [some (vR 3 0 0), some (vI x1), some (vI x2), some (vI (σ.1 3 0 1 (x1).toNatClampNeg)), some (vI (σ.1 3 0 1 (x2).toNatClampNeg))], [vI x1, vI (σ.1 3 0 1 (x2).toNatClampNeg)], (pm_wl σ 3 0 6 0 ((σ.2 3 0 6 0) ||| ((1 : Int64) <<< ((x2).toInt64 &&& 63)))))) rfl).trans ?_
  refine (e_t (A := (26, 33, [some (vR 3 0 0), some (vI x1), some (vI x2), some (vI (σ.1 3 0 1 (x1).toNatClampNeg)), some (vI (σ.1 3 0 1 (x2).toNatClampNeg))], [], (pm_wl σ 3 0 6 0 ((σ.2 3 0 6 0) ||| ((1 : Int64) <<< ((x2).toInt64 &&& 63)))))) rfl h3).trans ?_
  refine (e_n 1 (fr' := (26, 34, [some (vR 3 0 0), some (vI x1), some (vI x2), some (vI (σ.1 3 0 1 (x1).toNatClampNeg)), some (vI (σ.1 3 0 1 (x2).toNatClampNeg))], [vI (1 : Int32)], (pm_wl σ 3 0 6 0 ((σ.2 3 0 6 0) ||| ((1 : Int64) <<< ((x2).toInt64 &&& 63)))))) rfl).trans ?_
  exact e_r rfl
set_option maxRecDepth 20000 in
theorem g26_0_1 (C : pmC) {σ : pmS} {x1 : Int32} {x2 : Int32} {l3 : Option pmV} {l4 : Option pmV} (h1 : vp_in x1 48) (h2 : vp_in x2 48) (h3 : ¬ (σ.1 3 0 1 (x2).toNatClampNeg) = x1) (h4 : (σ.1 3 0 1 (x1).toNatClampNeg) = (-1 : Int32)) : pq_Rn C (26, 0, [some (vR 3 0 0), some (vI x1), some (vI x2), l3, l4], [], σ) = pq_Rn C (26, 47, [some (vR 3 0 0), some (vI x1), some (vI x2), some (vI (σ.1 3 0 1 (x1).toNatClampNeg)), some (vI (σ.1 3 0 1 (x2).toNatClampNeg))], [], (pm_wl σ 3 0 6 0 ((σ.2 3 0 6 0) ||| ((1 : Int64) <<< ((x2).toInt64 &&& 63))))) := by
  refine (e_n 3 (fr' := (26, 5, [some (vR 3 0 0), some (vI x1), some (vI x2), l3, l4], [vI x1, vR 3 0 2], σ)) rfl).trans ?_
  refine (e_a (A := (26, 6, [some (vR 3 0 0), some (vI x1), some (vI x2), l3, l4], [vI (σ.1 3 0 1 (x1).toNatClampNeg)], σ)) rfl h1).trans ?_
  refine (e_n 4 (fr' := (26, 12, [some (vR 3 0 0), some (vI x1), some (vI x2), some (vI (σ.1 3 0 1 (x1).toNatClampNeg)), l4], [vI x2, vR 3 0 2], σ)) rfl).trans ?_
  refine (e_a (A := (26, 13, [some (vR 3 0 0), some (vI x1), some (vI x2), some (vI (σ.1 3 0 1 (x1).toNatClampNeg)), l4], [vI (σ.1 3 0 1 (x2).toNatClampNeg)], σ)) rfl h2).trans ?_
  refine (e_n 11 (fr' := (26, 30, [some (vR 3 0 0), some (vI x1), some (vI x2), some (vI (σ.1 3 0 1 (x1).toNatClampNeg)), some (vI (σ.1 3 0 1 (x2).toNatClampNeg))], [vI x1, vI (σ.1 3 0 1 (x2).toNatClampNeg)], (pm_wl σ 3 0 6 0 ((σ.2 3 0 6 0) ||| ((1 : Int64) <<< ((x2).toInt64 &&& 63)))))) rfl).trans ?_
  refine (e_f (B := (26, 35, [some (vR 3 0 0), some (vI x1), some (vI x2), some (vI (σ.1 3 0 1 (x1).toNatClampNeg)), some (vI (σ.1 3 0 1 (x2).toNatClampNeg))], [], (pm_wl σ 3 0 6 0 ((σ.2 3 0 6 0) ||| ((1 : Int64) <<< ((x2).toInt64 &&& 63)))))) rfl h3).trans ?_
  refine (e_n 2 (fr' := (26, 37, [some (vR 3 0 0), some (vI x1), some (vI x2), some (vI (σ.1 3 0 1 (x1).toNatClampNeg)), some (vI (σ.1 3 0 1 (x2).toNatClampNeg))], [vI (-1 : Int32), vI (σ.1 3 0 1 (x1).toNatClampNeg)], (pm_wl σ 3 0 6 0 ((σ.2 3 0 6 0) ||| ((1 : Int64) <<< ((x2).toInt64 &&& 63)))))) rfl).trans ?_
  exact e_t (A := (26, 47, [some (vR 3 0 0), some (vI x1), some (vI x2), some (vI (σ.1 3 0 1 (x1).toNatClampNeg)), some (vI (σ.1 3 0 1 (x2).toNatClampNeg))], [], (pm_wl σ 3 0 6 0 ((σ.2 3 0 6 0) ||| ((1 : Int64) <<< ((x2).toInt64 &&& 63)))))) rfl h4
set_option maxRecDepth 20000 in
theorem g26_0_2 (C : pmC) {σ : pmS} {x1 : Int32} {x2 : Int32} {l3 : Option pmV} {l4 : Option pmV} (h1 : vp_in x1 48) (h2 : vp_in x2 48) (h3 : ¬ (σ.1 3 0 1 (x2).toNatClampNeg) = x1) (h4 : ¬ (σ.1 3 0 1 (x1).toNatClampNeg) = (-1 : Int32)) (h5 : vp_in (σ.1 3 0 1 (x1).toNatClampNeg) 48) : pq_Rn C (26, 0, [some (vR 3 0 0), some (vI x1), some (vI x2), l3, l4], [], σ) = pq_Rn C (26, 47, [some (vR 3 0 0), some (vI x1), some (vI x2), some (vI (σ.1 3 0 1 (x1).toNatClampNeg)), some (vI (σ.1 3 0 1 (x2).toNatClampNeg))], [], (pm_wi (pm_wl σ 3 0 6 0 ((σ.2 3 0 6 0) ||| ((1 : Int64) <<< ((x2).toInt64 &&& 63)))) 3 0 1 ((σ.1 3 0 1 (x1).toNatClampNeg)).toNatClampNeg (-1 : Int32))) := by
  refine (e_n 3 (fr' := (26, 5, [some (vR 3 0 0), some (vI x1), some (vI x2), l3, l4], [vI x1, vR 3 0 2], σ)) rfl).trans ?_
  refine (e_a (A := (26, 6, [some (vR 3 0 0), some (vI x1), some (vI x2), l3, l4], [vI (σ.1 3 0 1 (x1).toNatClampNeg)], σ)) rfl h1).trans ?_
  refine (e_n 4 (fr' := (26, 12, [some (vR 3 0 0), some (vI x1), some (vI x2), some (vI (σ.1 3 0 1 (x1).toNatClampNeg)), l4], [vI x2, vR 3 0 2], σ)) rfl).trans ?_
  refine (e_a (A := (26, 13, [some (vR 3 0 0), some (vI x1), some (vI x2), some (vI (σ.1 3 0 1 (x1).toNatClampNeg)), l4], [vI (σ.1 3 0 1 (x2).toNatClampNeg)], σ)) rfl h2).trans ?_
  refine (e_n 11 (fr' := (26, 30, [some (vR 3 0 0), some (vI x1), some (vI x2), some (vI (σ.1 3 0 1 (x1).toNatClampNeg)), some (vI (σ.1 3 0 1 (x2).toNatClampNeg))], [vI x1, vI (σ.1 3 0 1 (x2).toNatClampNeg)], (pm_wl σ 3 0 6 0 ((σ.2 3 0 6 0) ||| ((1 : Int64) <<< ((x2).toInt64 &&& 63)))))) rfl).trans ?_
  refine (e_f (B := (26, 35, [some (vR 3 0 0), some (vI x1), some (vI x2), some (vI (σ.1 3 0 1 (x1).toNatClampNeg)), some (vI (σ.1 3 0 1 (x2).toNatClampNeg))], [], (pm_wl σ 3 0 6 0 ((σ.2 3 0 6 0) ||| ((1 : Int64) <<< ((x2).toInt64 &&& 63)))))) rfl h3).trans ?_
  refine (e_n 2 (fr' := (26, 37, [some (vR 3 0 0), some (vI x1), some (vI x2), some (vI (σ.1 3 0 1 (x1).toNatClampNeg)), some (vI (σ.1 3 0 1 (x2).toNatClampNeg))], [vI (-1 : Int32), vI (σ.1 3 0 1 (x1).toNatClampNeg)], (pm_wl σ 3 0 6 0 ((σ.2 3 0 6 0) ||| ((1 : Int64) <<< ((x2).toInt64 &&& 63)))))) rfl).trans ?_
  refine (e_f (B := (26, 40, [some (vR 3 0 0), some (vI x1), some (vI x2), some (vI (σ.1 3 0 1 (x1).toNatClampNeg)), some (vI (σ.1 3 0 1 (x2).toNatClampNeg))], [], (pm_wl σ 3 0 6 0 ((σ.2 3 0 6 0) ||| ((1 : Int64) <<< ((x2).toInt64 &&& 63)))))) rfl h4).trans ?_
  refine (e_n 4 (fr' := (26, 46, [some (vR 3 0 0), some (vI x1), some (vI x2), some (vI (σ.1 3 0 1 (x1).toNatClampNeg)), some (vI (σ.1 3 0 1 (x2).toNatClampNeg))], [vI (-1 : Int32), vI (σ.1 3 0 1 (x1).toNatClampNeg), vR 3 0 2], (pm_wl σ 3 0 6 0 ((σ.2 3 0 6 0) ||| ((1 : Int64) <<< ((x2).toInt64 &&& 63)))))) rfl).trans ?_
  exact e_a (A := (26, 47, [some (vR 3 0 0), some (vI x1), some (vI x2), some (vI (σ.1 3 0 1 (x1).toNatClampNeg)), some (vI (σ.1 3 0 1 (x2).toNatClampNeg))], [], (pm_wi (pm_wl σ 3 0 6 0 ((σ.2 3 0 6 0) ||| ((1 : Int64) <<< ((x2).toInt64 &&& 63)))) 3 0 1 ((σ.1 3 0 1 (x1).toNatClampNeg)).toNatClampNeg (-1 : Int32)))) rfl h5
set_option maxRecDepth 20000 in
theorem g26_47_0 (C : pmC) {σ : pmS} {x1 : Int32} {x2 : Int32} {x3 : Int32} {x4 : Int32} (h1 : x4 = (-1 : Int32)) : pq_Rn C (26, 47, [some (vR 3 0 0), some (vI x1), some (vI x2), some (vI x3), some (vI x4)], [], σ) = pq_Rn C (26, 61, [some (vR 3 0 0), some (vI x1), some (vI x2), some (vI x3), some (vI x4)], [], σ) := by
  refine (e_n 2 (fr' := (26, 50, [some (vR 3 0 0), some (vI x1), some (vI x2), some (vI x3), some (vI x4)], [vI (-1 : Int32), vI x4], σ)) rfl).trans ?_
  exact e_t (A := (26, 61, [some (vR 3 0 0), some (vI x1), some (vI x2), some (vI x3), some (vI x4)], [], σ)) rfl h1
set_option maxRecDepth 20000 in
theorem g26_47_1 (C : pmC) {σ : pmS} {x1 : Int32} {x2 : Int32} {x3 : Int32} {x4 : Int32} (h1 : ¬ x4 = (-1 : Int32)) (h2 : vp_in x4 48) : pq_Rn C (26, 47, [some (vR 3 0 0), some (vI x1), some (vI x2), some (vI x3), some (vI x4)], [], σ) = pq_Rn C (26, 61, [some (vR 3 0 0), some (vI x1), some (vI x2), some (vI x3), some (vI x4)], [], (pm_wi σ 3 0 1 (x4).toNatClampNeg (-1 : Int32))) := by
  refine (e_n 2 (fr' := (26, 50, [some (vR 3 0 0), some (vI x1), some (vI x2), some (vI x3), some (vI x4)], [vI (-1 : Int32), vI x4], σ)) rfl).trans ?_
  refine (e_f (B := (26, 53, [some (vR 3 0 0), some (vI x1), some (vI x2), some (vI x3), some (vI x4)], [], σ)) rfl h1).trans ?_
  refine (e_n 4 (fr' := (26, 60, [some (vR 3 0 0), some (vI x1), some (vI x2), some (vI x3), some (vI x4)], [vI (-1 : Int32), vI x4, vR 3 0 2], σ)) rfl).trans ?_
  exact e_a (A := (26, 61, [some (vR 3 0 0), some (vI x1), some (vI x2), some (vI x3), some (vI x4)], [], (pm_wi σ 3 0 1 (x4).toNatClampNeg (-1 : Int32)))) rfl h2
set_option maxRecDepth 20000 in
theorem g26_61_0 (C : pmC) {σ : pmS} {x1 : Int32} {x2 : Int32} {x3 : Int32} {x4 : Int32} {σ1 : pmS} (h1 : C 24 [vR 3 0 0, vI x1, vI x2] σ = some (none, σ1)) (h2 : x3 = (-1 : Int32)) : pq_Rn C (26, 61, [some (vR 3 0 0), some (vI x1), some (vI x2), some (vI x3), some (vI x4)], [], σ) = pq_Rn C (26, 85, [some (vR 3 0 0), some (vI x1), some (vI x2), some (vI x3), some (vI x4)], [], σ1) := by
  refine (e_n 3 (fr' := (26, 64, [some (vR 3 0 0), some (vI x1), some (vI x2), some (vI x3), some (vI x4)], [vI x2, vI x1, vR 3 0 0], σ)) rfl).trans ?_
  refine (e_cv (m := 26) (pc := 67) (ls := [some (vR 3 0 0), some (vI x1), some (vI x2), some (vI x3), some (vI x4)]) (rest := []) rfl h1).trans ?_
  refine (e_n 2 (fr' := (26, 69, [some (vR 3 0 0), some (vI x1), some (vI x2), some (vI x3), some (vI x4)], [vI (-1 : Int32), vI x3], σ1)) rfl).trans ?_
  exact e_t (A := (26, 85, [some (vR 3 0 0), some (vI x1), some (vI x2), some (vI x3), some (vI x4)], [], σ1)) rfl h2
set_option maxRecDepth 20000 in
theorem g26_61_1 (C : pmC) {σ : pmS} {x1 : Int32} {x2 : Int32} {x3 : Int32} {x4 : Int32} {σ1 : pmS} (h1 : C 24 [vR 3 0 0, vI x1, vI x2] σ = some (none, σ1)) (h2 : ¬ x3 = (-1 : Int32)) (h3 : x4 = (-1 : Int32)) : pq_Rn C (26, 61, [some (vR 3 0 0), some (vI x1), some (vI x2), some (vI x3), some (vI x4)], [], σ) = pq_Rn C (26, 85, [some (vR 3 0 0), some (vI x1), some (vI x2), some (vI x3), some (vI x4)], [], σ1) := by
  refine (e_n 3 (fr' := (26, 64, [some (vR 3 0 0), some (vI x1), some (vI x2), some (vI x3), some (vI x4)], [vI x2, vI x1, vR 3 0 0], σ)) rfl).trans ?_
  refine (e_cv (m := 26) (pc := 67) (ls := [some (vR 3 0 0), some (vI x1), some (vI x2), some (vI x3), some (vI x4)]) (rest := []) rfl h1).trans ?_
  refine (e_n 2 (fr' := (26, 69, [some (vR 3 0 0), some (vI x1), some (vI x2), some (vI x3), some (vI x4)], [vI (-1 : Int32), vI x3], σ1)) rfl).trans ?_
  refine (e_f (B := (26, 72, [some (vR 3 0 0), some (vI x1), some (vI x2), some (vI x3), some (vI x4)], [], σ1)) rfl h2).trans ?_
  refine (e_n 2 (fr' := (26, 75, [some (vR 3 0 0), some (vI x1), some (vI x2), some (vI x3), some (vI x4)], [vI (-1 : Int32), vI x4], σ1)) rfl).trans ?_
  exact e_t (A := (26, 85, [some (vR 3 0 0), some (vI x1), some (vI x2), some (vI x3), some (vI x4)], [], σ1)) rfl h3
set_option maxRecDepth 20000 in
theorem g26_61_2 (C : pmC) {σ : pmS} {x1 : Int32} {x2 : Int32} {x3 : Int32} {x4 : Int32} {σ1 : pmS} {σ2 : pmS} {r2 : Int32} {σ3 : pmS} {σ4 : pmS} (h1 : C 24 [vR 3 0 0, vI x1, vI x2] σ = some (none, σ1)) (h2 : ¬ x3 = (-1 : Int32)) (h3 : ¬ x4 = (-1 : Int32)) (h4 : C 21 [vR 3 0 0] σ1 = some (some (vI r2), σ2)) (h5 : r2 = 0) (h6 : C 24 [vR 3 0 0, vI x1, vI x3] σ2 = some (none, σ3)) (h7 : C 24 [vR 3 0 0, vI x4, vI x2] σ3 = some (none, σ4)) : pq_Rn C (26, 61, [some (vR 3 0 0), some (vI x1), some (vI x2), some (vI x3), some (vI x4)], [], σ) = some (some (vI (0 : Int32)), (pm_wl σ4 3 0 6 0 ((σ4.2 3 0 6 0) &&& (((1 : Int64) <<< ((x2).toInt64 &&& 63)) ^^^ (-1 : Int64))))) := by
  refine (e_n 3 (fr' := (26, 64, [some (vR 3 0 0), some (vI x1), some (vI x2), some (vI x3), some (vI x4)], [vI x2, vI x1, vR 3 0 0], σ)) rfl).trans ?_
  refine (e_cv (m := 26) (pc := 67) (ls := [some (vR 3 0 0), some (vI x1), some (vI x2), some (vI x3), some (vI x4)]) (rest := []) rfl h1).trans ?_
  refine (e_n 2 (fr' := (26, 69, [some (vR 3 0 0), some (vI x1), some (vI x2), some (vI x3), some (vI x4)], [vI (-1 : Int32), vI x3], σ1)) rfl).trans ?_
  refine (e_f (B := (26, 72, [some (vR 3 0 0), some (vI x1), some (vI x2), some (vI x3), some (vI x4)], [], σ1)) rfl h2).trans ?_
  refine (e_n 2 (fr' := (26, 75, [some (vR 3 0 0), some (vI x1), some (vI x2), some (vI x3), some (vI x4)], [vI (-1 : Int32), vI x4], σ1)) rfl).trans ?_
  refine (e_f (B := (26, 78, [some (vR 3 0 0), some (vI x1), some (vI x2), some (vI x3), some (vI x4)], [], σ1)) rfl h3).trans ?_
  refine (e_n 1 (fr' := (26, 79, [some (vR 3 0 0), some (vI x1), some (vI x2), some (vI x3), some (vI x4)], [vR 3 0 0], σ1)) rfl).trans ?_
  refine (e_ci (m := 26) (pc := 82) (ls := [some (vR 3 0 0), some (vI x1), some (vI x2), some (vI x3), some (vI x4)]) (rest := []) rfl h4).trans ?_
  refine (e_t (A := (26, 87, [some (vR 3 0 0), some (vI x1), some (vI x2), some (vI x3), some (vI x4)], [], σ2)) rfl h5).trans ?_
  refine (e_n 3 (fr' := (26, 90, [some (vR 3 0 0), some (vI x1), some (vI x2), some (vI x3), some (vI x4)], [vI x3, vI x1, vR 3 0 0], σ2)) rfl).trans ?_
  refine (e_cv (m := 26) (pc := 93) (ls := [some (vR 3 0 0), some (vI x1), some (vI x2), some (vI x3), some (vI x4)]) (rest := []) rfl h6).trans ?_
  refine (e_n 3 (fr' := (26, 97, [some (vR 3 0 0), some (vI x1), some (vI x2), some (vI x3), some (vI x4)], [vI x2, vI x4, vR 3 0 0], σ3)) rfl).trans ?_
  refine (e_cv (m := 26) (pc := 100) (ls := [some (vR 3 0 0), some (vI x1), some (vI x2), some (vI x3), some (vI x4)]) (rest := []) rfl h7).trans ?_
  refine (e_n 11 (fr' := (26, 117, [some (vR 3 0 0), some (vI x1), some (vI x2), some (vI x3), some (vI x4)], [vI (0 : Int32)], (pm_wl σ4 3 0 6 0 ((σ4.2 3 0 6 0) &&& (((1 : Int64) <<< ((x2).toInt64 &&& 63)) ^^^ (-1 : Int64)))))) rfl).trans ?_
  exact e_r rfl
set_option maxRecDepth 20000 in
theorem g26_61_3 (C : pmC) {σ : pmS} {x1 : Int32} {x2 : Int32} {x3 : Int32} {x4 : Int32} {σ1 : pmS} {σ2 : pmS} {r2 : Int32} (h1 : C 24 [vR 3 0 0, vI x1, vI x2] σ = some (none, σ1)) (h2 : ¬ x3 = (-1 : Int32)) (h3 : ¬ x4 = (-1 : Int32)) (h4 : C 21 [vR 3 0 0] σ1 = some (some (vI r2), σ2)) (h5 : ¬ r2 = 0) : pq_Rn C (26, 61, [some (vR 3 0 0), some (vI x1), some (vI x2), some (vI x3), some (vI x4)], [], σ) = pq_Rn C (26, 85, [some (vR 3 0 0), some (vI x1), some (vI x2), some (vI x3), some (vI x4)], [], σ2) := by
  refine (e_n 3 (fr' := (26, 64, [some (vR 3 0 0), some (vI x1), some (vI x2), some (vI x3), some (vI x4)], [vI x2, vI x1, vR 3 0 0], σ)) rfl).trans ?_
  refine (e_cv (m := 26) (pc := 67) (ls := [some (vR 3 0 0), some (vI x1), some (vI x2), some (vI x3), some (vI x4)]) (rest := []) rfl h1).trans ?_
  refine (e_n 2 (fr' := (26, 69, [some (vR 3 0 0), some (vI x1), some (vI x2), some (vI x3), some (vI x4)], [vI (-1 : Int32), vI x3], σ1)) rfl).trans ?_
  refine (e_f (B := (26, 72, [some (vR 3 0 0), some (vI x1), some (vI x2), some (vI x3), some (vI x4)], [], σ1)) rfl h2).trans ?_
  refine (e_n 2 (fr' := (26, 75, [some (vR 3 0 0), some (vI x1), some (vI x2), some (vI x3), some (vI x4)], [vI (-1 : Int32), vI x4], σ1)) rfl).trans ?_
  refine (e_f (B := (26, 78, [some (vR 3 0 0), some (vI x1), some (vI x2), some (vI x3), some (vI x4)], [], σ1)) rfl h3).trans ?_
  refine (e_n 1 (fr' := (26, 79, [some (vR 3 0 0), some (vI x1), some (vI x2), some (vI x3), some (vI x4)], [vR 3 0 0], σ1)) rfl).trans ?_
  refine (e_ci (m := 26) (pc := 82) (ls := [some (vR 3 0 0), some (vI x1), some (vI x2), some (vI x3), some (vI x4)]) (rest := []) rfl h4).trans ?_
  exact e_f (B := (26, 85, [some (vR 3 0 0), some (vI x1), some (vI x2), some (vI x3), some (vI x4)], [], σ2)) rfl h5
set_option maxRecDepth 20000 in
theorem g26_85_0 (C : pmC) {σ : pmS} {l0 : Option pmV} {l1 : Option pmV} {l2 : Option pmV} {l3 : Option pmV} {l4 : Option pmV}  : pq_Rn C (26, 85, [l0, l1, l2, l3, l4], [], σ) = some (some (vI (1 : Int32)), σ) := by
  refine (e_n 1 (fr' := (26, 86, [l0, l1, l2, l3, l4], [vI (1 : Int32)], σ)) rfl).trans ?_
  exact e_r rfl
set_option maxRecDepth 20000 in
theorem g27_0_0 (C : pmC) {σ : pmS} {l1 : Option pmV} {l2 : Option pmV} {l3 : Option pmV} {l4 : Option pmV} {l5 : Option pmV} {l6 : Option pmV} {σ1 : pmS} (h1 : C 20 [vR 3 0 0] (pm_wl σ 3 0 5 0 (0 : Int64)) = some (none, σ1)) : pq_Rn C (27, 0, [some (vR 3 0 0), l1, l2, l3, l4, l5, l6], [], σ) = pq_Rn C (27, 13, [some (vR 3 0 0), some (vL (0 : Int64)), none, some (vI (0 : Int32)), l4, l5, l6], [], σ1) := by
  refine (e_n 4 (fr' := (27, 6, [some (vR 3 0 0), l1, l2, l3, l4, l5, l6], [vR 3 0 0], (pm_wl σ 3 0 5 0 (0 : Int64)))) rfl).trans ?_
  refine (e_cv (m := 27) (pc := 9) (ls := [some (vR 3 0 0), l1, l2, l3, l4, l5, l6]) (rest := []) rfl h1).trans ?_
  exact e_n 4 rfl
set_option maxRecDepth 20000 in
theorem g27_13_0 (C : pmC) {σ : pmS} {w1 : Int64} {x3 : Int32} {l4 : Option pmV} {l5 : Option pmV} {l6 : Option pmV} {σ1 : pmS} {r1 : Int32} (h1 : (σ.1 3 0 4 0) ≤ x3) (h2 : C 180 [vL w1] (pm_wi σ 3 0 7 0 (σ.1 3 0 4 0)) = some (some (vI r1), σ1)) : pq_Rn C (27, 13, [some (vR 3 0 0), some (vL w1), none, some (vI x3), l4, l5, l6], [], σ) = some (none, (pm_wi σ1 3 0 8 0 r1)) := by
  refine (e_n 3 (fr' := (27, 18, [some (vR 3 0 0), some (vL w1), none, some (vI x3), l4, l5, l6], [vI (σ.1 3 0 4 0), vI x3], σ)) rfl).trans ?_
  refine (e_t (A := (27, 115, [some (vR 3 0 0), some (vL w1), none, some (vI x3), l4, l5, l6], [], σ)) rfl h1).trans ?_
  refine (e_n 6 (fr' := (27, 125, [some (vR 3 0 0), some (vL w1), none, some (vI x3), l4, l5, l6], [vL w1, vR 3 0 0], (pm_wi σ 3 0 7 0 (σ.1 3 0 4 0)))) rfl).trans ?_
  refine (e_ci (m := 27) (pc := 128) (ls := [some (vR 3 0 0), some (vL w1), none, some (vI x3), l4, l5, l6]) (rest := [vR 3 0 0]) rfl h2).trans ?_
  refine (e_n 1 (fr' := (27, 131, [some (vR 3 0 0), some (vL w1), none, some (vI x3), l4, l5, l6], [], (pm_wi σ1 3 0 8 0 r1))) rfl).trans ?_
  exact e_r rfl
set_option maxRecDepth 20000 in
theorem g27_13_1 (C : pmC) {σ : pmS} {w1 : Int64} {x3 : Int32} {l4 : Option pmV} {l5 : Option pmV} {l6 : Option pmV} {σ1 : pmS} {r1 : Int32} (h1 : ¬ (σ.1 3 0 4 0) ≤ x3) (h2 : (48 : Int32) ≤ x3) (h3 : C 180 [vL w1] (pm_wi σ 3 0 7 0 (σ.1 3 0 4 0)) = some (some (vI r1), σ1)) : pq_Rn C (27, 13, [some (vR 3 0 0), some (vL w1), none, some (vI x3), l4, l5, l6], [], σ) = some (none, (pm_wi σ1 3 0 8 0 r1)) := by
  refine (e_n 3 (fr' := (27, 18, [some (vR 3 0 0), some (vL w1), none, some (vI x3), l4, l5, l6], [vI (σ.1 3 0 4 0), vI x3], σ)) rfl).trans ?_
  refine (e_f (B := (27, 21, [some (vR 3 0 0), some (vL w1), none, some (vI x3), l4, l5, l6], [], σ)) rfl h1).trans ?_
  refine (e_n 2 (fr' := (27, 24, [some (vR 3 0 0), some (vL w1), none, some (vI x3), l4, l5, l6], [vI (48 : Int32), vI x3], σ)) rfl).trans ?_
  refine (e_t (A := (27, 115, [some (vR 3 0 0), some (vL w1), none, some (vI x3), l4, l5, l6], [], σ)) rfl h2).trans ?_
  refine (e_n 6 (fr' := (27, 125, [some (vR 3 0 0), some (vL w1), none, some (vI x3), l4, l5, l6], [vL w1, vR 3 0 0], (pm_wi σ 3 0 7 0 (σ.1 3 0 4 0)))) rfl).trans ?_
  refine (e_ci (m := 27) (pc := 128) (ls := [some (vR 3 0 0), some (vL w1), none, some (vI x3), l4, l5, l6]) (rest := [vR 3 0 0]) rfl h3).trans ?_
  refine (e_n 1 (fr' := (27, 131, [some (vR 3 0 0), some (vL w1), none, some (vI x3), l4, l5, l6], [], (pm_wi σ1 3 0 8 0 r1))) rfl).trans ?_
  exact e_r rfl
set_option maxRecDepth 20000 in
theorem g27_13_2 (C : pmC) {σ : pmS} {w1 : Int64} {x3 : Int32} {l4 : Option pmV} {l5 : Option pmV} {l6 : Option pmV} (h1 : ¬ (σ.1 3 0 4 0) ≤ x3) (h2 : ¬ (48 : Int32) ≤ x3) (h3 : vp_in x3 48) (h4 : vp_in (σ.1 3 0 2 (x3).toNatClampNeg) 48) : pq_Rn C (27, 13, [some (vR 3 0 0), some (vL w1), none, some (vI x3), l4, l5, l6], [], σ) = pq_Rn C (27, 54, [some (vR 3 0 0), some (vL (w1 ||| ((σ.2 3 0 0 ((σ.1 3 0 2 (x3).toNatClampNeg)).toNatClampNeg) &&& (w1 ^^^ (-1 : Int64))))), none, some (vI x3), some (vL ((σ.2 3 0 0 ((σ.1 3 0 2 (x3).toNatClampNeg)).toNatClampNeg) &&& (w1 ^^^ (-1 : Int64)))), none, some (vI (0 : Int32))], [], σ) := by
  refine (e_n 3 (fr' := (27, 18, [some (vR 3 0 0), some (vL w1), none, some (vI x3), l4, l5, l6], [vI (σ.1 3 0 4 0), vI x3], σ)) rfl).trans ?_
  refine (e_f (B := (27, 21, [some (vR 3 0 0), some (vL w1), none, some (vI x3), l4, l5, l6], [], σ)) rfl h1).trans ?_
  refine (e_n 2 (fr' := (27, 24, [some (vR 3 0 0), some (vL w1), none, some (vI x3), l4, l5, l6], [vI (48 : Int32), vI x3], σ)) rfl).trans ?_
  refine (e_f (B := (27, 27, [some (vR 3 0 0), some (vL w1), none, some (vI x3), l4, l5, l6], [], σ)) rfl h2).trans ?_
  refine (e_n 5 (fr' := (27, 36, [some (vR 3 0 0), some (vL w1), none, some (vI x3), l4, l5, l6], [vI x3, vR 3 0 3, vR 3 0 1], σ)) rfl).trans ?_
  refine (e_a (A := (27, 37, [some (vR 3 0 0), some (vL w1), none, some (vI x3), l4, l5, l6], [vI (σ.1 3 0 2 (x3).toNatClampNeg), vR 3 0 1], σ)) rfl h3).trans ?_
  refine (e_a (A := (27, 38, [some (vR 3 0 0), some (vL w1), none, some (vI x3), l4, l5, l6], [vL (σ.2 3 0 0 ((σ.1 3 0 2 (x3).toNatClampNeg)).toNatClampNeg)], σ)) rfl h4).trans ?_
  exact e_n 11 rfl
set_option maxRecDepth 20000 in
theorem g27_54_0 (C : pmC) {σ : pmS} {w1 : Int64} {x3 : Int32} {w4 : Int64} {x6 : Int32} (h1 : (lg_cmp ((w4).toUInt64 >>> ((x6).toInt64.toUInt64 &&& Int64.toUInt64 63)).toInt64 (0 : Int64)) = 0) : pq_Rn C (27, 54, [some (vR 3 0 0), some (vL w1), none, some (vI x3), some (vL w4), none, some (vI x6)], [], σ) = pq_Rn C (27, 13, [some (vR 3 0 0), some (vL w1), none, some (vI (x3 + (1 : Int32))), some (vL w4), none, some (vI x6)], [], σ) := by
  refine (e_n 5 (fr' := (27, 61, [some (vR 3 0 0), some (vL w1), none, some (vI x3), some (vL w4), none, some (vI x6)], [vI (lg_cmp ((w4).toUInt64 >>> ((x6).toInt64.toUInt64 &&& Int64.toUInt64 63)).toInt64 (0 : Int64))], σ)) rfl).trans ?_
  refine (e_t (A := (27, 109, [some (vR 3 0 0), some (vL w1), none, some (vI x3), some (vL w4), none, some (vI x6)], [], σ)) rfl h1).trans ?_
  exact e_n 2 rfl
set_option maxRecDepth 20000 in
theorem g27_54_1 (C : pmC) {σ : pmS} {w1 : Int64} {x3 : Int32} {w4 : Int64} {x6 : Int32} (h1 : ¬ (lg_cmp ((w4).toUInt64 >>> ((x6).toInt64.toUInt64 &&& Int64.toUInt64 63)).toInt64 (0 : Int64)) = 0) (h2 : (48 : Int32) ≤ x6) : pq_Rn C (27, 54, [some (vR 3 0 0), some (vL w1), none, some (vI x3), some (vL w4), none, some (vI x6)], [], σ) = pq_Rn C (27, 13, [some (vR 3 0 0), some (vL w1), none, some (vI (x3 + (1 : Int32))), some (vL w4), none, some (vI x6)], [], σ) := by
  refine (e_n 5 (fr' := (27, 61, [some (vR 3 0 0), some (vL w1), none, some (vI x3), some (vL w4), none, some (vI x6)], [vI (lg_cmp ((w4).toUInt64 >>> ((x6).toInt64.toUInt64 &&& Int64.toUInt64 63)).toInt64 (0 : Int64))], σ)) rfl).trans ?_
  refine (e_f (B := (27, 64, [some (vR 3 0 0), some (vL w1), none, some (vI x3), some (vL w4), none, some (vI x6)], [], σ)) rfl h1).trans ?_
  refine (e_n 2 (fr' := (27, 68, [some (vR 3 0 0), some (vL w1), none, some (vI x3), some (vL w4), none, some (vI x6)], [vI (48 : Int32), vI x6], σ)) rfl).trans ?_
  refine (e_t (A := (27, 109, [some (vR 3 0 0), some (vL w1), none, some (vI x3), some (vL w4), none, some (vI x6)], [], σ)) rfl h2).trans ?_
  exact e_n 2 rfl
set_option maxRecDepth 20000 in
theorem g27_54_2 (C : pmC) {σ : pmS} {w1 : Int64} {x3 : Int32} {w4 : Int64} {x6 : Int32} {σ1 : pmS} {r1 : Int32} (h1 : ¬ (lg_cmp ((w4).toUInt64 >>> ((x6).toInt64.toUInt64 &&& Int64.toUInt64 63)).toInt64 (0 : Int64)) = 0) (h2 : ¬ (48 : Int32) ≤ x6) (h3 : C 19 [vL w4, vI x6] σ = some (some (vI r1), σ1)) (h4 : r1 = 0) : pq_Rn C (27, 54, [some (vR 3 0 0), some (vL w1), none, some (vI x3), some (vL w4), none, some (vI x6)], [], σ) = pq_Rn C (27, 54, [some (vR 3 0 0), some (vL w1), none, some (vI x3), some (vL w4), none, some (vI (x6 + (1 : Int32)))], [], σ1) := by
  refine (e_n 5 (fr' := (27, 61, [some (vR 3 0 0), some (vL w1), none, some (vI x3), some (vL w4), none, some (vI x6)], [vI (lg_cmp ((w4).toUInt64 >>> ((x6).toInt64.toUInt64 &&& Int64.toUInt64 63)).toInt64 (0 : Int64))], σ)) rfl).trans ?_
  refine (e_f (B := (27, 64, [some (vR 3 0 0), some (vL w1), none, some (vI x3), some (vL w4), none, some (vI x6)], [], σ)) rfl h1).trans ?_
  refine (e_n 2 (fr' := (27, 68, [some (vR 3 0 0), some (vL w1), none, some (vI x3), some (vL w4), none, some (vI x6)], [vI (48 : Int32), vI x6], σ)) rfl).trans ?_
  refine (e_f (B := (27, 71, [some (vR 3 0 0), some (vL w1), none, some (vI x3), some (vL w4), none, some (vI x6)], [], σ)) rfl h2).trans ?_
  refine (e_n 2 (fr' := (27, 75, [some (vR 3 0 0), some (vL w1), none, some (vI x3), some (vL w4), none, some (vI x6)], [vI x6, vL w4], σ)) rfl).trans ?_
  refine (e_ci (m := 27) (pc := 78) (ls := [some (vR 3 0 0), some (vL w1), none, some (vI x3), some (vL w4), none, some (vI x6)]) (rest := []) rfl h3).trans ?_
  refine (e_t (A := (27, 103, [some (vR 3 0 0), some (vL w1), none, some (vI x3), some (vL w4), none, some (vI x6)], [], σ1)) rfl h4).trans ?_
  exact e_n 2 rfl
set_option maxRecDepth 20000 in
theorem g27_54_3 (C : pmC) {σ : pmS} {w1 : Int64} {x3 : Int32} {w4 : Int64} {x6 : Int32} {σ1 : pmS} {r1 : Int32} (h1 : ¬ (lg_cmp ((w4).toUInt64 >>> ((x6).toInt64.toUInt64 &&& Int64.toUInt64 63)).toInt64 (0 : Int64)) = 0) (h2 : ¬ (48 : Int32) ≤ x6) (h3 : C 19 [vL w4, vI x6] σ = some (some (vI r1), σ1)) (h4 : ¬ r1 = 0) (h5 : vp_in x6 48) (h6 : (σ1.1 3 0 1 (x6).toNatClampNeg) = (-1 : Int32)) : pq_Rn C (27, 54, [some (vR 3 0 0), some (vL w1), none, some (vI x3), some (vL w4), none, some (vI x6)], [], σ) = pq_Rn C (27, 54, [some (vR 3 0 0), some (vL w1), none, some (vI x3), some (vL w4), none, some (vI (x6 + (1 : Int32)))], [], σ1) := by
  refine (e_n 5 (fr' := (27, 61, [some (vR 3 0 0), some (vL w1), none, some (vI x3), some (vL w4), none, some (vI x6)], [vI (lg_cmp ((w4).toUInt64 >>> ((x6).toInt64.toUInt64 &&& Int64.toUInt64 63)).toInt64 (0 : Int64))], σ)) rfl).trans ?_
  refine (e_f (B := (27, 64, [some (vR 3 0 0), some (vL w1), none, some (vI x3), some (vL w4), none, some (vI x6)], [], σ)) rfl h1).trans ?_
  refine (e_n 2 (fr' := (27, 68, [some (vR 3 0 0), some (vL w1), none, some (vI x3), some (vL w4), none, some (vI x6)], [vI (48 : Int32), vI x6], σ)) rfl).trans ?_
  refine (e_f (B := (27, 71, [some (vR 3 0 0), some (vL w1), none, some (vI x3), some (vL w4), none, some (vI x6)], [], σ)) rfl h2).trans ?_
  refine (e_n 2 (fr' := (27, 75, [some (vR 3 0 0), some (vL w1), none, some (vI x3), some (vL w4), none, some (vI x6)], [vI x6, vL w4], σ)) rfl).trans ?_
  refine (e_ci (m := 27) (pc := 78) (ls := [some (vR 3 0 0), some (vL w1), none, some (vI x3), some (vL w4), none, some (vI x6)]) (rest := []) rfl h3).trans ?_
  refine (e_f (B := (27, 81, [some (vR 3 0 0), some (vL w1), none, some (vI x3), some (vL w4), none, some (vI x6)], [], σ1)) rfl h4).trans ?_
  refine (e_n 3 (fr' := (27, 87, [some (vR 3 0 0), some (vL w1), none, some (vI x3), some (vL w4), none, some (vI x6)], [vI x6, vR 3 0 2], σ1)) rfl).trans ?_
  refine (e_a (A := (27, 88, [some (vR 3 0 0), some (vL w1), none, some (vI x3), some (vL w4), none, some (vI x6)], [vI (σ1.1 3 0 1 (x6).toNatClampNeg)], σ1)) rfl h5).trans ?_
  refine (e_n 1 (fr' := (27, 89, [some (vR 3 0 0), some (vL w1), none, some (vI x3), some (vL w4), none, some (vI x6)], [vI (-1 : Int32), vI (σ1.1 3 0 1 (x6).toNatClampNeg)], σ1)) rfl).trans ?_
  refine (e_t (A := (27, 103, [some (vR 3 0 0), some (vL w1), none, some (vI x3), some (vL w4), none, some (vI x6)], [], σ1)) rfl h6).trans ?_
  exact e_n 2 rfl
set_option maxRecDepth 20000 in
theorem g27_54_4 (C : pmC) {σ : pmS} {w1 : Int64} {x3 : Int32} {w4 : Int64} {x6 : Int32} {σ1 : pmS} {r1 : Int32} {σ2 : pmS} (h1 : ¬ (lg_cmp ((w4).toUInt64 >>> ((x6).toInt64.toUInt64 &&& Int64.toUInt64 63)).toInt64 (0 : Int64)) = 0) (h2 : ¬ (48 : Int32) ≤ x6) (h3 : C 19 [vL w4, vI x6] σ = some (some (vI r1), σ1)) (h4 : ¬ r1 = 0) (h5 : vp_in x6 48) (h6 : ¬ (σ1.1 3 0 1 (x6).toNatClampNeg) = (-1 : Int32)) (h7 : C 22 [vR 3 0 0, vI (σ1.1 3 0 1 (x6).toNatClampNeg)] σ1 = some (none, σ2)) : pq_Rn C (27, 54, [some (vR 3 0 0), some (vL w1), none, some (vI x3), some (vL w4), none, some (vI x6)], [], σ) = pq_Rn C (27, 54, [some (vR 3 0 0), some (vL w1), none, some (vI x3), some (vL w4), none, some (vI (x6 + (1 : Int32)))], [], σ2) := by
  refine (e_n 5 (fr' := (27, 61, [some (vR 3 0 0), some (vL w1), none, some (vI x3), some (vL w4), none, some (vI x6)], [vI (lg_cmp ((w4).toUInt64 >>> ((x6).toInt64.toUInt64 &&& Int64.toUInt64 63)).toInt64 (0 : Int64))], σ)) rfl).trans ?_
  refine (e_f (B := (27, 64, [some (vR 3 0 0), some (vL w1), none, some (vI x3), some (vL w4), none, some (vI x6)], [], σ)) rfl h1).trans ?_
  refine (e_n 2 (fr' := (27, 68, [some (vR 3 0 0), some (vL w1), none, some (vI x3), some (vL w4), none, some (vI x6)], [vI (48 : Int32), vI x6], σ)) rfl).trans ?_
  refine (e_f (B := (27, 71, [some (vR 3 0 0), some (vL w1), none, some (vI x3), some (vL w4), none, some (vI x6)], [], σ)) rfl h2).trans ?_
  refine (e_n 2 (fr' := (27, 75, [some (vR 3 0 0), some (vL w1), none, some (vI x3), some (vL w4), none, some (vI x6)], [vI x6, vL w4], σ)) rfl).trans ?_
  refine (e_ci (m := 27) (pc := 78) (ls := [some (vR 3 0 0), some (vL w1), none, some (vI x3), some (vL w4), none, some (vI x6)]) (rest := []) rfl h3).trans ?_
  refine (e_f (B := (27, 81, [some (vR 3 0 0), some (vL w1), none, some (vI x3), some (vL w4), none, some (vI x6)], [], σ1)) rfl h4).trans ?_
  refine (e_n 3 (fr' := (27, 87, [some (vR 3 0 0), some (vL w1), none, some (vI x3), some (vL w4), none, some (vI x6)], [vI x6, vR 3 0 2], σ1)) rfl).trans ?_
  refine (e_a (A := (27, 88, [some (vR 3 0 0), some (vL w1), none, some (vI x3), some (vL w4), none, some (vI x6)], [vI (σ1.1 3 0 1 (x6).toNatClampNeg)], σ1)) rfl h5).trans ?_
  refine (e_n 1 (fr' := (27, 89, [some (vR 3 0 0), some (vL w1), none, some (vI x3), some (vL w4), none, some (vI x6)], [vI (-1 : Int32), vI (σ1.1 3 0 1 (x6).toNatClampNeg)], σ1)) rfl).trans ?_
  refine (e_f (B := (27, 92, [some (vR 3 0 0), some (vL w1), none, some (vI x3), some (vL w4), none, some (vI x6)], [], σ1)) rfl h6).trans ?_
  refine (e_n 4 (fr' := (27, 99, [some (vR 3 0 0), some (vL w1), none, some (vI x3), some (vL w4), none, some (vI x6)], [vI x6, vR 3 0 2, vR 3 0 0], σ1)) rfl).trans ?_
  refine (e_a (A := (27, 100, [some (vR 3 0 0), some (vL w1), none, some (vI x3), some (vL w4), none, some (vI x6)], [vI (σ1.1 3 0 1 (x6).toNatClampNeg), vR 3 0 0], σ1)) rfl h5).trans ?_
  refine (e_cv (m := 27) (pc := 103) (ls := [some (vR 3 0 0), some (vL w1), none, some (vI x3), some (vL w4), none, some (vI x6)]) (rest := []) rfl h7).trans ?_
  exact e_n 2 rfl
set_option maxRecDepth 20000 in
theorem g28_0_0 (C : pmC) {σ : pmS} {o1 : Nat} {o2 : Nat} {σ1 : pmS} (h1 : C 29 [vR 4 0 0, vR 2 o1 0, vR 2 o2 0, vI (0 : Int32), vI (0 : Int32)] (pm_wi (pm_wi (pm_wi σ 4 0 4 0 (σ.1 2 o1 8 0)) 4 0 2 0 (0 : Int32)) 4 0 3 0 (-1 : Int32)) = some (none, σ1)) : pq_Rn C (28, 0, [some (vR 4 0 0), some (vR 2 o1 0), some (vR 2 o2 0)], [], σ) = some (some (vI (σ1.1 4 0 3 0)), σ1) := by
  refine (e_n 15 (fr' := (28, 23, [some (vR 4 0 0), some (vR 2 o1 0), some (vR 2 o2 0)], [vI (0 : Int32), vI (0 : Int32), vR 2 o2 0, vR 2 o1 0, vR 4 0 0], (pm_wi (pm_wi (pm_wi σ 4 0 4 0 (σ.1 2 o1 8 0)) 4 0 2 0 (0 : Int32)) 4 0 3 0 (-1 : Int32)))) rfl).trans ?_
  refine (e_cv (m := 28) (pc := 26) (ls := [some (vR 4 0 0), some (vR 2 o1 0), some (vR 2 o2 0)]) (rest := []) rfl h1).trans ?_
  refine (e_n 2 (fr' := (28, 30, [some (vR 4 0 0), some (vR 2 o1 0), some (vR 2 o2 0)], [vI (σ1.1 4 0 3 0)], σ1)) rfl).trans ?_
  exact e_r rfl
set_option maxRecDepth 20000 in
theorem g29_0_0 (C : pmC) {σ : pmS} {o1 : Nat} {o2 : Nat} {x3 : Int32} {x4 : Int32} {l5 : Option pmV} {l6 : Option pmV} (h1 : (σ.1 4 0 3 0) < (((2 : Int32) * (σ.1 4 0 4 0)) - x4)) (h2 : x3 < (σ.1 4 0 4 0)) : pq_Rn C (29, 0, [some (vR 4 0 0), some (vR 2 o1 0), some (vR 2 o2 0), some (vI x3), some (vI x4), l5, l6], [], σ) = pq_Rn C (29, 59, [some (vR 4 0 0), some (vR 2 o1 0), some (vR 2 o2 0), some (vI x3), some (vI x4), some (vI (0 : Int32)), l6], [], σ) := by
  refine (e_n 8 (fr' := (29, 13, [some (vR 4 0 0), some (vR 2 o1 0), some (vR 2 o2 0), some (vI x3), some (vI x4), l5, l6], [vI (σ.1 4 0 3 0), vI (((2 : Int32) * (σ.1 4 0 4 0)) - x4)], σ)) rfl).trans ?_
  refine (e_t (A := (29, 17, [some (vR 4 0 0), some (vR 2 o1 0), some (vR 2 o2 0), some (vI x3), some (vI x4), l5, l6], [], σ)) rfl h1).trans ?_
  refine (e_n 3 (fr' := (29, 22, [some (vR 4 0 0), some (vR 2 o1 0), some (vR 2 o2 0), some (vI x3), some (vI x4), l5, l6], [vI (σ.1 4 0 4 0), vI x3], σ)) rfl).trans ?_
  refine (e_t (A := (29, 56, [some (vR 4 0 0), some (vR 2 o1 0), some (vR 2 o2 0), some (vI x3), some (vI x4), l5, l6], [], σ)) rfl h2).trans ?_
  exact e_n 2 rfl
set_option maxRecDepth 20000 in
theorem g29_0_1 (C : pmC) {σ : pmS} {o1 : Nat} {o2 : Nat} {x3 : Int32} {x4 : Int32} {l5 : Option pmV} {l6 : Option pmV} (h1 : (σ.1 4 0 3 0) < (((2 : Int32) * (σ.1 4 0 4 0)) - x4)) (h2 : ¬ x3 < (σ.1 4 0 4 0)) (h3 : ¬ (σ.1 4 0 4 0) < 0) (h4 : ((σ.1 4 0 4 0)).toNatClampNeg ≤ 8) (h5 : ((σ.1 4 0 4 0)).toNatClampNeg ≤ 8) : pq_Rn C (29, 0, [some (vR 4 0 0), some (vR 2 o1 0), some (vR 2 o2 0), some (vI x3), some (vI x4), l5, l6], [], σ) = some (none, (pm_wr (pm_wi σ 4 0 3 0 (((2 : Int32) * (σ.1 4 0 4 0)) - x4)) 4 0 0 (va_cpy ((pm_wi σ 4 0 3 0 (((2 : Int32) * (σ.1 4 0 4 0)) - x4)).1 4 0 1) ((pm_wi σ 4 0 3 0 (((2 : Int32) * (σ.1 4 0 4 0)) - x4)).1 4 0 0) 0 0 ((σ.1 4 0 4 0)).toNatClampNeg))) := by
  refine (e_n 8 (fr' := (29, 13, [some (vR 4 0 0), some (vR 2 o1 0), some (vR 2 o2 0), some (vI x3), some (vI x4), l5, l6], [vI (σ.1 4 0 3 0), vI (((2 : Int32) * (σ.1 4 0 4 0)) - x4)], σ)) rfl).trans ?_
  refine (e_t (A := (29, 17, [some (vR 4 0 0), some (vR 2 o1 0), some (vR 2 o2 0), some (vI x3), some (vI x4), l5, l6], [], σ)) rfl h1).trans ?_
  refine (e_n 3 (fr' := (29, 22, [some (vR 4 0 0), some (vR 2 o1 0), some (vR 2 o2 0), some (vI x3), some (vI x4), l5, l6], [vI (σ.1 4 0 4 0), vI x3], σ)) rfl).trans ?_
  refine (e_f (B := (29, 25, [some (vR 4 0 0), some (vR 2 o1 0), some (vR 2 o2 0), some (vI x3), some (vI x4), l5, l6], [], σ)) rfl h2).trans ?_
  refine (e_n 16 (fr' := (29, 52, [some (vR 4 0 0), some (vR 2 o1 0), some (vR 2 o2 0), some (vI x3), some (vI x4), l5, l6], [vI (σ.1 4 0 4 0), vI (0 : Int32), vR 4 0 1, vI (0 : Int32), vR 4 0 2], (pm_wi σ 4 0 3 0 (((2 : Int32) * (σ.1 4 0 4 0)) - x4)))) rfl).trans ?_
  refine (e_cp (A := (29, 55, [some (vR 4 0 0), some (vR 2 o1 0), some (vR 2 o2 0), some (vI x3), some (vI x4), l5, l6], [], (pm_wr (pm_wi σ 4 0 3 0 (((2 : Int32) * (σ.1 4 0 4 0)) - x4)) 4 0 0 (va_cpy ((pm_wi σ 4 0 3 0 (((2 : Int32) * (σ.1 4 0 4 0)) - x4)).1 4 0 1) ((pm_wi σ 4 0 3 0 (((2 : Int32) * (σ.1 4 0 4 0)) - x4)).1 4 0 0) 0 0 ((σ.1 4 0 4 0)).toNatClampNeg)))) rfl ⟨rfl, rfl, by decide, by decide, h3, by show 0 + ((σ.1 4 0 4 0)).toNatClampNeg ≤ 8; omega, by show 0 + ((σ.1 4 0 4 0)).toNatClampNeg ≤ 8; omega, by decide⟩).trans ?_
  exact e_r rfl
set_option maxRecDepth 20000 in
theorem g29_0_2 (C : pmC) {σ : pmS} {o1 : Nat} {o2 : Nat} {x3 : Int32} {x4 : Int32} {l5 : Option pmV} {l6 : Option pmV} (h1 : ¬ (σ.1 4 0 3 0) < (((2 : Int32) * (σ.1 4 0 4 0)) - x4)) : pq_Rn C (29, 0, [some (vR 4 0 0), some (vR 2 o1 0), some (vR 2 o2 0), some (vI x3), some (vI x4), l5, l6], [], σ) = some (none, σ) := by
  refine (e_n 8 (fr' := (29, 13, [some (vR 4 0 0), some (vR 2 o1 0), some (vR 2 o2 0), some (vI x3), some (vI x4), l5, l6], [vI (σ.1 4 0 3 0), vI (((2 : Int32) * (σ.1 4 0 4 0)) - x4)], σ)) rfl).trans ?_
  refine (e_f (B := (29, 16, [some (vR 4 0 0), some (vR 2 o1 0), some (vR 2 o2 0), some (vI x3), some (vI x4), l5, l6], [], σ)) rfl h1).trans ?_
  exact e_r rfl
set_option maxRecDepth 20000 in
theorem g29_59_0 (C : pmC) {σ : pmS} {o1 : Nat} {o2 : Nat} {x3 : Int32} {x4 : Int32} {x5 : Int32} {l6 : Option pmV} (h1 : (σ.1 4 0 4 0) ≤ x5) : pq_Rn C (29, 59, [some (vR 4 0 0), some (vR 2 o1 0), some (vR 2 o2 0), some (vI x3), some (vI x4), some (vI x5), l6], [], σ) = some (none, σ) := by
  refine (e_n 3 (fr' := (29, 65, [some (vR 4 0 0), some (vR 2 o1 0), some (vR 2 o2 0), some (vI x3), some (vI x4), some (vI x5), l6], [vI (σ.1 4 0 4 0), vI x5], σ)) rfl).trans ?_
  refine (e_t (A := (29, 173, [some (vR 4 0 0), some (vR 2 o1 0), some (vR 2 o2 0), some (vI x3), some (vI x4), some (vI x5), l6], [], σ)) rfl h1).trans ?_
  exact e_r rfl
set_option maxRecDepth 20000 in
theorem g29_59_1 (C : pmC) {σ : pmS} {o1 : Nat} {o2 : Nat} {x3 : Int32} {x4 : Int32} {x5 : Int32} {l6 : Option pmV} {σ1 : pmS} {r1 : Int32} {σ2 : pmS} {r2 : Int32} {σ3 : pmS} (h1 : ¬ (σ.1 4 0 4 0) ≤ x5) (h2 : (((σ.1 4 0 2 0) >>> (x5 &&& 31)) &&& (1 : Int32)) = 0) (h3 : vp_in x3 8) (h4 : C 30 [vR 4 0 0, vR 2 o1 1, vR 2 o1 2, vR 2 o2 1, vI x3] (pm_wi (pm_wi σ 4 0 1 (x3).toNatClampNeg x5) 4 0 2 0 ((σ.1 4 0 2 0) ||| ((1 : Int32) <<< (x5 &&& 31)))) = some (some (vI r1), σ1)) (h5 : C 30 [vR 4 0 0, vR 2 o1 3, vR 2 o1 5, vR 2 o2 3, vI x3] σ1 = some (some (vI r2), σ2)) (h6 : C 29 [vR 4 0 0, vR 2 o1 0, vR 2 o2 0, vI (x3 + (1 : Int32)), vI (x4 + (r1 + r2))] σ2 = some (none, σ3)) : pq_Rn C (29, 59, [some (vR 4 0 0), some (vR 2 o1 0), some (vR 2 o2 0), some (vI x3), some (vI x4), some (vI x5), l6], [], σ) = pq_Rn C (29, 59, [some (vR 4 0 0), some (vR 2 o1 0), some (vR 2 o2 0), some (vI x3), some (vI x4), some (vI (x5 + (1 : Int32))), some (vI (r1 + r2))], [], (pm_wi σ3 4 0 2 0 ((σ3.1 4 0 2 0) &&& (((1 : Int32) <<< (x5 &&& 31)) ^^^ (-1 : Int32))))) := by
  refine (e_n 3 (fr' := (29, 65, [some (vR 4 0 0), some (vR 2 o1 0), some (vR 2 o2 0), some (vI x3), some (vI x4), some (vI x5), l6], [vI (σ.1 4 0 4 0), vI x5], σ)) rfl).trans ?_
  refine (e_f (B := (29, 68, [some (vR 4 0 0), some (vR 2 o1 0), some (vR 2 o2 0), some (vI x3), some (vI x4), some (vI x5), l6], [], σ)) rfl h1).trans ?_
  refine (e_n 6 (fr' := (29, 77, [some (vR 4 0 0), some (vR 2 o1 0), some (vR 2 o2 0), some (vI x3), some (vI x4), some (vI x5), l6], [vI (((σ.1 4 0 2 0) >>> (x5 &&& 31)) &&& (1 : Int32))], σ)) rfl).trans ?_
  refine (e_t (A := (29, 80, [some (vR 4 0 0), some (vR 2 o1 0), some (vR 2 o2 0), some (vI x3), some (vI x4), some (vI x5), l6], [], σ)) rfl h2).trans ?_
  refine (e_n 4 (fr' := (29, 87, [some (vR 4 0 0), some (vR 2 o1 0), some (vR 2 o2 0), some (vI x3), some (vI x4), some (vI x5), l6], [vI x5, vI x3, vR 4 0 2], σ)) rfl).trans ?_
  refine (e_a (A := (29, 88, [some (vR 4 0 0), some (vR 2 o1 0), some (vR 2 o2 0), some (vI x3), some (vI x4), some (vI x5), l6], [], (pm_wi σ 4 0 1 (x3).toNatClampNeg x5))) rfl h3).trans ?_
  refine (e_n 16 (fr' := (29, 115, [some (vR 4 0 0), some (vR 2 o1 0), some (vR 2 o2 0), some (vI x3), some (vI x4), some (vI x5), l6], [vI x3, vR 2 o2 1, vR 2 o1 2, vR 2 o1 1, vR 4 0 0], (pm_wi (pm_wi σ 4 0 1 (x3).toNatClampNeg x5) 4 0 2 0 ((σ.1 4 0 2 0) ||| ((1 : Int32) <<< (x5 &&& 31)))))) rfl).trans ?_
  refine (e_ci (m := 29) (pc := 118) (ls := [some (vR 4 0 0), some (vR 2 o1 0), some (vR 2 o2 0), some (vI x3), some (vI x4), some (vI x5), l6]) (rest := []) rfl h4).trans ?_
  refine (e_n 8 (fr' := (29, 132, [some (vR 4 0 0), some (vR 2 o1 0), some (vR 2 o2 0), some (vI x3), some (vI x4), some (vI x5), l6], [vI x3, vR 2 o2 3, vR 2 o1 5, vR 2 o1 3, vR 4 0 0, vI r1], σ1)) rfl).trans ?_
  refine (e_ci (m := 29) (pc := 135) (ls := [some (vR 4 0 0), some (vR 2 o1 0), some (vR 2 o2 0), some (vI x3), some (vI x4), some (vI x5), l6]) (rest := [vI r1]) rfl h5).trans ?_
  refine (e_n 11 (fr' := (29, 149, [some (vR 4 0 0), some (vR 2 o1 0), some (vR 2 o2 0), some (vI x3), some (vI x4), some (vI x5), some (vI (r1 + r2))], [vI (x4 + (r1 + r2)), vI (x3 + (1 : Int32)), vR 2 o2 0, vR 2 o1 0, vR 4 0 0], σ2)) rfl).trans ?_
  refine (e_cv (m := 29) (pc := 152) (ls := [some (vR 4 0 0), some (vR 2 o1 0), some (vR 2 o2 0), some (vI x3), some (vI x4), some (vI x5), some (vI (r1 + r2))]) (rest := []) rfl h6).trans ?_
  exact e_n 12 rfl
set_option maxRecDepth 20000 in
theorem g29_59_2 (C : pmC) {σ : pmS} {o1 : Nat} {o2 : Nat} {x3 : Int32} {x4 : Int32} {x5 : Int32} {l6 : Option pmV} (h1 : ¬ (σ.1 4 0 4 0) ≤ x5) (h2 : ¬ (((σ.1 4 0 2 0) >>> (x5 &&& 31)) &&& (1 : Int32)) = 0) : pq_Rn C (29, 59, [some (vR 4 0 0), some (vR 2 o1 0), some (vR 2 o2 0), some (vI x3), some (vI x4), some (vI x5), l6], [], σ) = pq_Rn C (29, 59, [some (vR 4 0 0), some (vR 2 o1 0), some (vR 2 o2 0), some (vI x3), some (vI x4), some (vI (x5 + (1 : Int32))), l6], [], σ) := by
  refine (e_n 3 (fr' := (29, 65, [some (vR 4 0 0), some (vR 2 o1 0), some (vR 2 o2 0), some (vI x3), some (vI x4), some (vI x5), l6], [vI (σ.1 4 0 4 0), vI x5], σ)) rfl).trans ?_
  refine (e_f (B := (29, 68, [some (vR 4 0 0), some (vR 2 o1 0), some (vR 2 o2 0), some (vI x3), some (vI x4), some (vI x5), l6], [], σ)) rfl h1).trans ?_
  refine (e_n 6 (fr' := (29, 77, [some (vR 4 0 0), some (vR 2 o1 0), some (vR 2 o2 0), some (vI x3), some (vI x4), some (vI x5), l6], [vI (((σ.1 4 0 2 0) >>> (x5 &&& 31)) &&& (1 : Int32))], σ)) rfl).trans ?_
  refine (e_f (B := (29, 167, [some (vR 4 0 0), some (vR 2 o1 0), some (vR 2 o2 0), some (vI x3), some (vI x4), some (vI x5), l6], [], σ)) rfl h2).trans ?_
  exact e_n 2 rfl
set_option maxRecDepth 20000 in
theorem g30a_0_0 (C : pmC) {σ : pmS} {o1 : Nat} {o2 : Nat} {o3 : Nat} {x4 : Int32} {l5 : Option pmV} {l6 : Option pmV} (h1 : vp_in x4 8) (h2 : x4 < (σ.1 2 o1 0 (x4).toNatClampNeg)) (h3 : x4 ≤ (σ.1 2 o2 1 (x4).toNatClampNeg)) : pq_Rn C (30, 0, [some (vR 4 0 0), some (vR 2 o1 1), some (vR 2 o2 2), some (vR 2 o3 1), some (vI x4), l5, l6], [], σ) = some (some (vI (0 : Int32)), σ) := by
  refine (e_n 4 (fr' := (30, 6, [some (vR 4 0 0), some (vR 2 o1 1), some (vR 2 o2 2), some (vR 2 o3 1), some (vI x4), some (vI (0 : Int32)), l6], [vI x4, vR 2 o1 1], σ)) rfl).trans ?_
  refine (e_a (A := (30, 7, [some (vR 4 0 0), some (vR 2 o1 1), some (vR 2 o2 2), some (vR 2 o3 1), some (vI x4), some (vI (0 : Int32)), l6], [vI (σ.1 2 o1 0 (x4).toNatClampNeg)], σ)) rfl h1).trans ?_
  refine (e_n 1 (fr' := (30, 9, [some (vR 4 0 0), some (vR 2 o1 1), some (vR 2 o2 2), some (vR 2 o3 1), some (vI x4), some (vI (0 : Int32)), l6], [vI x4, vI (σ.1 2 o1 0 (x4).toNatClampNeg)], σ)) rfl).trans ?_
  refine (e_t (A := (30, 36, [some (vR 4 0 0), some (vR 2 o1 1), some (vR 2 o2 2), some (vR 2 o3 1), some (vI x4), some (vI (0 : Int32)), l6], [], σ)) rfl h2).trans ?_
  refine (e_n 2 (fr' := (30, 39, [some (vR 4 0 0), some (vR 2 o1 1), some (vR 2 o2 2), some (vR 2 o3 1), some (vI x4), some (vI (0 : Int32)), l6], [vI x4, vR 2 o2 2], σ)) rfl).trans ?_
  refine (e_a (A := (30, 40, [some (vR 4 0 0), some (vR 2 o1 1), some (vR 2 o2 2), some (vR 2 o3 1), some (vI x4), some (vI (0 : Int32)), l6], [vI (σ.1 2 o2 1 (x4).toNatClampNeg)], σ)) rfl h1).trans ?_
  refine (e_n 3 (fr' := (30, 46, [some (vR 4 0 0), some (vR 2 o1 1), some (vR 2 o2 2), some (vR 2 o3 1), some (vI x4), some (vI (0 : Int32)), some (vI (σ.1 2 o2 1 (x4).toNatClampNeg))], [vI x4, vI (σ.1 2 o2 1 (x4).toNatClampNeg)], σ)) rfl).trans ?_
  refine (e_t (A := (30, 71, [some (vR 4 0 0), some (vR 2 o1 1), some (vR 2 o2 2), some (vR 2 o3 1), some (vI x4), some (vI (0 : Int32)), some (vI (σ.1 2 o2 1 (x4).toNatClampNeg))], [], σ)) rfl h3).trans ?_
  refine (e_n 1 (fr' := (30, 73, [some (vR 4 0 0), some (vR 2 o1 1), some (vR 2 o2 2), some (vR 2 o3 1), some (vI x4), some (vI (0 : Int32)), some (vI (σ.1 2 o2 1 (x4).toNatClampNeg))], [vI (0 : Int32)], σ)) rfl).trans ?_
  exact e_r rfl
set_option maxRecDepth 20000 in
theorem g30a_0_1 (C : pmC) {σ : pmS} {o1 : Nat} {o2 : Nat} {o3 : Nat} {x4 : Int32} {l5 : Option pmV} {l6 : Option pmV} (h1 : vp_in x4 8) (h2 : x4 < (σ.1 2 o1 0 (x4).toNatClampNeg)) (h3 : ¬ x4 ≤ (σ.1 2 o2 1 (x4).toNatClampNeg)) (h4 : vp_in (σ.1 2 o2 1 (x4).toNatClampNeg) 8) (h5 : vp_in (σ.1 4 0 1 ((σ.1 2 o2 1 (x4).toNatClampNeg)).toNatClampNeg) 8) (h6 : (σ.1 4 0 1 (x4).toNatClampNeg) = (σ.1 2 o3 0 ((σ.1 4 0 1 ((σ.1 2 o2 1 (x4).toNatClampNeg)).toNatClampNeg)).toNatClampNeg)) : pq_Rn C (30, 0, [some (vR 4 0 0), some (vR 2 o1 1), some (vR 2 o2 2), some (vR 2 o3 1), some (vI x4), l5, l6], [], σ) = some (some (vI (0 : Int32)), σ) := by
  refine (e_n 4 (fr' := (30, 6, [some (vR 4 0 0), some (vR 2 o1 1), some (vR 2 o2 2), some (vR 2 o3 1), some (vI x4), some (vI (0 : Int32)), l6], [vI x4, vR 2 o1 1], σ)) rfl).trans ?_
  refine (e_a (A := (30, 7, [some (vR 4 0 0), some (vR 2 o1 1), some (vR 2 o2 2), some (vR 2 o3 1), some (vI x4), some (vI (0 : Int32)), l6], [vI (σ.1 2 o1 0 (x4).toNatClampNeg)], σ)) rfl h1).trans ?_
  refine (e_n 1 (fr' := (30, 9, [some (vR 4 0 0), some (vR 2 o1 1), some (vR 2 o2 2), some (vR 2 o3 1), some (vI x4), some (vI (0 : Int32)), l6], [vI x4, vI (σ.1 2 o1 0 (x4).toNatClampNeg)], σ)) rfl).trans ?_
  refine (e_t (A := (30, 36, [some (vR 4 0 0), some (vR 2 o1 1), some (vR 2 o2 2), some (vR 2 o3 1), some (vI x4), some (vI (0 : Int32)), l6], [], σ)) rfl h2).trans ?_
  refine (e_n 2 (fr' := (30, 39, [some (vR 4 0 0), some (vR 2 o1 1), some (vR 2 o2 2), some (vR 2 o3 1), some (vI x4), some (vI (0 : Int32)), l6], [vI x4, vR 2 o2 2], σ)) rfl).trans ?_
  refine (e_a (A := (30, 40, [some (vR 4 0 0), some (vR 2 o1 1), some (vR 2 o2 2), some (vR 2 o3 1), some (vI x4), some (vI (0 : Int32)), l6], [vI (σ.1 2 o2 1 (x4).toNatClampNeg)], σ)) rfl h1).trans ?_
  refine (e_n 3 (fr' := (30, 46, [some (vR 4 0 0), some (vR 2 o1 1), some (vR 2 o2 2), some (vR 2 o3 1), some (vI x4), some (vI (0 : Int32)), some (vI (σ.1 2 o2 1 (x4).toNatClampNeg))], [vI x4, vI (σ.1 2 o2 1 (x4).toNatClampNeg)], σ)) rfl).trans ?_
  refine (e_f (B := (30, 49, [some (vR 4 0 0), some (vR 2 o1 1), some (vR 2 o2 2), some (vR 2 o3 1), some (vI x4), some (vI (0 : Int32)), some (vI (σ.1 2 o2 1 (x4).toNatClampNeg))], [], σ)) rfl h3).trans ?_
  refine (e_n 3 (fr' := (30, 55, [some (vR 4 0 0), some (vR 2 o1 1), some (vR 2 o2 2), some (vR 2 o3 1), some (vI x4), some (vI (0 : Int32)), some (vI (σ.1 2 o2 1 (x4).toNatClampNeg))], [vI x4, vR 4 0 2], σ)) rfl).trans ?_
  refine (e_a (A := (30, 56, [some (vR 4 0 0), some (vR 2 o1 1), some (vR 2 o2 2), some (vR 2 o3 1), some (vI x4), some (vI (0 : Int32)), some (vI (σ.1 2 o2 1 (x4).toNatClampNeg))], [vI (σ.1 4 0 1 (x4).toNatClampNeg)], σ)) rfl h1).trans ?_
  refine (e_n 4 (fr' := (30, 63, [some (vR 4 0 0), some (vR 2 o1 1), some (vR 2 o2 2), some (vR 2 o3 1), some (vI x4), some (vI (0 : Int32)), some (vI (σ.1 2 o2 1 (x4).toNatClampNeg))], [vI (σ.1 2 o2 1 (x4).toNatClampNeg), vR 4 0 2, vR 2 o3 1, vI (σ.1 4 0 1 (x4).toNatClampNeg)], σ)) rfl).trans ?_
  refine (e_a (A := (30, 64, [some (vR 4 0 0), some (vR 2 o1 1), some (vR 2 o2 2), some (vR 2 o3 1), some (vI x4), some (vI (0 : Int32)), some (vI (σ.1 2 o2 1 (x4).toNatClampNeg))], [vI (σ.1 4 0 1 ((σ.1 2 o2 1 (x4).toNatClampNeg)).toNatClampNeg), vR 2 o3 1, vI (σ.1 4 0 1 (x4).toNatClampNeg)], σ)) rfl h4).trans ?_
  refine (e_a (A := (30, 65, [some (vR 4 0 0), some (vR 2 o1 1), some (vR 2 o2 2), some (vR 2 o3 1), some (vI x4), some (vI (0 : Int32)), some (vI (σ.1 2 o2 1 (x4).toNatClampNeg))], [vI (σ.1 2 o3 0 ((σ.1 4 0 1 ((σ.1 2 o2 1 (x4).toNatClampNeg)).toNatClampNeg)).toNatClampNeg), vI (σ.1 4 0 1 (x4).toNatClampNeg)], σ)) rfl h5).trans ?_
  refine (e_t (A := (30, 71, [some (vR 4 0 0), some (vR 2 o1 1), some (vR 2 o2 2), some (vR 2 o3 1), some (vI x4), some (vI (0 : Int32)), some (vI (σ.1 2 o2 1 (x4).toNatClampNeg))], [], σ)) rfl h6).trans ?_
  refine (e_n 1 (fr' := (30, 73, [some (vR 4 0 0), some (vR 2 o1 1), some (vR 2 o2 2), some (vR 2 o3 1), some (vI x4), some (vI (0 : Int32)), some (vI (σ.1 2 o2 1 (x4).toNatClampNeg))], [vI (0 : Int32)], σ)) rfl).trans ?_
  exact e_r rfl
