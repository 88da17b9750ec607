/-! segment rules, by program -/
set_option maxRecDepth 20000 in
theorem g136_49_2 (C : pmC) {σ : pmS} {x1 : Int32} {x2 : Int32} {x3 : Int32} {x4 : Int32} {x5 : Int32} (h1 : vp_in x1 3) (h2 : (((5 : Int32) * x1) + (σ.1 10 0 11 (x1).toNatClampNeg)) ≤ x5) (h3 : ¬ x5 = (((5 : Int32) * x1) + (5 : Int32))) (h4 : ¬ x5 = (((5 : Int32) * x1) + (σ.1 10 0 11 (x1).toNatClampNeg))) (h5 : vp_in x5 15) : pq_Rn C (136, 49, [some (vR 10 0 0), some (vI x1), some (vI x2), some (vI x3), some (vI x4), some (vI x5)], [], σ) = some (some (vI (σ.1 10 0 11 (x1).toNatClampNeg)), (pm_wi (pm_wi (pm_wi σ 10 0 12 (x5).toNatClampNeg x2) 10 0 13 (x5).toNatClampNeg x3) 10 0 14 (x5).toNatClampNeg x4)) := by
  refine (e_n 7 (fr' := (136, 59, [some (vR 10 0 0), some (vI x1), some (vI x2), some (vI x3), some (vI x4), some (vI x5)], [vI x1, vR 10 0 12, vI ((5 : Int32) * x1), vI x5], σ)) rfl).trans ?_
  refine (e_a (A := (136, 60, [some (vR 10 0 0), some (vI x1), some (vI x2), some (vI x3), some (vI x4), some (vI x5)], [vI (σ.1 10 0 11 (x1).toNatClampNeg), vI ((5 : Int32) * x1), vI x5], σ)) rfl h1).trans ?_
  refine (e_n 1 (fr' := (136, 61, [some (vR 10 0 0), some (vI x1), some (vI x2), some (vI x3), some (vI x4), some (vI x5)], [vI (((5 : Int32) * x1) + (σ.1 10 0 11 (x1).toNatClampNeg)), vI x5], σ)) rfl).trans ?_
  refine (e_t (A := (136, 81, [some (vR 10 0 0), some (vI x1), some (vI x2), some (vI x3), some (vI x4), some (vI x5)], [], σ)) rfl h2).trans ?_
  refine (e_n 6 (fr' := (136, 88, [some (vR 10 0 0), some (vI x1), some (vI x2), some (vI x3), some (vI x4), some (vI x5)], [vI (((5 : Int32) * x1) + (5 : Int32)), vI x5], σ)) rfl).trans ?_
  refine (e_f (B := (136, 94, [some (vR 10 0 0), some (vI x1), some (vI x2), some (vI x3), some (vI x4), some (vI x5)], [], σ)) rfl h3).trans ?_
  refine (e_n 7 (fr' := (136, 104, [some (vR 10 0 0), some (vI x1), some (vI x2), some (vI x3), some (vI x4), some (vI x5)], [vI x1, vR 10 0 12, vI ((5 : Int32) * x1), vI x5], σ)) rfl).trans ?_
  refine (e_a (A := (136, 105, [some (vR 10 0 0), some (vI x1), some (vI x2), some (vI x3), some (vI x4), some (vI x5)], [vI (σ.1 10 0 11 (x1).toNatClampNeg), vI ((5 : Int32) * x1), vI x5], σ)) rfl h1).trans ?_
  refine (e_n 1 (fr' := (136, 106, [some (vR 10 0 0), some (vI x1), some (vI x2), some (vI x3), some (vI x4), some (vI x5)], [vI (((5 : Int32) * x1) + (σ.1 10 0 11 (x1).toNatClampNeg)), vI x5], σ)) rfl).trans ?_
  refine (e_f (B := (136, 119, [some (vR 10 0 0), some (vI x1), some (vI x2), some (vI x3), some (vI x4), some (vI x5)], [], σ)) rfl h4).trans ?_
  refine (e_n 4 (fr' := (136, 126, [some (vR 10 0 0), some (vI x1), some (vI x2), some (vI x3), some (vI x4), some (vI x5)], [vI x2, vI x5, vR 10 0 13], σ)) rfl).trans ?_
  refine (e_a (A := (136, 127, [some (vR 10 0 0), some (vI x1), some (vI x2), some (vI x3), some (vI x4), some (vI x5)], [], (pm_wi σ 10 0 12 (x5).toNatClampNeg x2))) rfl h5).trans ?_
  refine (e_n 4 (fr' := (136, 134, [some (vR 10 0 0), some (vI x1), some (vI x2), some (vI x3), some (vI x4), some (vI x5)], [vI x3, vI x5, vR 10 0 14], (pm_wi σ 10 0 12 (x5).toNatClampNeg x2))) rfl).trans ?_
  refine (e_a (A := (136, 135, [some (vR 10 0 0), some (vI x1), some (vI x2), some (vI x3), some (vI x4), some (vI x5)], [], (pm_wi (pm_wi σ 10 0 12 (x5).toNatClampNeg x2) 10 0 13 (x5).toNatClampNeg x3))) rfl h5).trans ?_
  refine (e_n 4 (fr' := (136, 143, [some (vR 10 0 0), some (vI x1), some (vI x2), some (vI x3), some (vI x4), some (vI x5)], [vI x4, vI x5, vR 10 0 15], (pm_wi (pm_wi σ 10 0 12 (x5).toNatClampNeg x2) 10 0 13 (x5).toNatClampNeg x3))) rfl).trans ?_
  refine (e_a (A := (136, 144, [some (vR 10 0 0), some (vI x1), some (vI x2), some (vI x3), some (vI x4), some (vI x5)], [], (pm_wi (pm_wi (pm_wi σ 10 0 12 (x5).toNatClampNeg x2) 10 0 13 (x5).toNatClampNeg x3) 10 0 14 (x5).toNatClampNeg x4))) rfl h5).trans ?_
  refine (e_n 3 (fr' := (136, 149, [some (vR 10 0 0), some (vI x1), some (vI x2), some (vI x3), some (vI x4), some (vI x5)], [vI x1, vR 10 0 12], (pm_wi (pm_wi (pm_wi σ 10 0 12 (x5).toNatClampNeg x2) 10 0 13 (x5).toNatClampNeg x3) 10 0 14 (x5).toNatClampNeg x4))) rfl).trans ?_
  refine (e_a (A := (136, 150, [some (vR 10 0 0), some (vI x1), some (vI x2), some (vI x3), some (vI x4), some (vI x5)], [vI (σ.1 10 0 11 (x1).toNatClampNeg)], (pm_wi (pm_wi (pm_wi σ 10 0 12 (x5).toNatClampNeg x2) 10 0 13 (x5).toNatClampNeg x3) 10 0 14 (x5).toNatClampNeg x4))) rfl h1).trans ?_
  exact e_r rfl
set_option maxRecDepth 20000 in
theorem g136_49_3 (C : pmC) {σ : pmS} {x1 : Int32} {x2 : Int32} {x3 : Int32} {x4 : Int32} {x5 : Int32} (h1 : vp_in x1 3) (h2 : ¬ (((5 : Int32) * x1) + (σ.1 10 0 11 (x1).toNatClampNeg)) ≤ x5) (h3 : vp_in x5 15) (h4 : (σ.1 10 0 12 (x5).toNatClampNeg) = x2) (h5 : x5 = (((5 : Int32) * x1) + (5 : Int32))) : pq_Rn C (136, 49, [some (vR 10 0 0), some (vI x1), some (vI x2), some (vI x3), some (vI x4), some (vI x5)], [], σ) = some (some (vI (-4 : Int32)), σ) := by
  refine (e_n 7 (fr' := (136, 59, [some (vR 10 0 0), some (vI x1), some (vI x2), some (vI x3), some (vI x4), some (vI x5)], [vI x1, vR 10 0 12, vI ((5 : Int32) * x1), vI x5], σ)) rfl).trans ?_
  refine (e_a (A := (136, 60, [some (vR 10 0 0), some (vI x1), some (vI x2), some (vI x3), some (vI x4), some (vI x5)], [vI (σ.1 10 0 11 (x1).toNatClampNeg), vI ((5 : Int32) * x1), vI x5], σ)) rfl h1).trans ?_
  refine (e_n 1 (fr' := (136, 61, [some (vR 10 0 0), some (vI x1), some (vI x2), some (vI x3), some (vI x4), some (vI x5)], [vI (((5 : Int32) * x1) + (σ.1 10 0 11 (x1).toNatClampNeg)), vI x5], σ)) rfl).trans ?_
  refine (e_f (B := (136, 64, [some (vR 10 0 0), some (vI x1), some (vI x2), some (vI x3), some (vI x4), some (vI x5)], [], σ)) rfl h2).trans ?_
  refine (e_n 3 (fr' := (136, 70, [some (vR 10 0 0), some (vI x1), some (vI x2), some (vI x3), some (vI x4), some (vI x5)], [vI x5, vR 10 0 13], σ)) rfl).trans ?_
  refine (e_a (A := (136, 71, [some (vR 10 0 0), some (vI x1), some (vI x2), some (vI x3), some (vI x4), some (vI x5)], [vI (σ.1 10 0 12 (x5).toNatClampNeg)], σ)) rfl h3).trans ?_
  refine (e_n 1 (fr' := (136, 72, [some (vR 10 0 0), some (vI x1), some (vI x2), some (vI x3), some (vI x4), some (vI x5)], [vI x2, vI (σ.1 10 0 12 (x5).toNatClampNeg)], σ)) rfl).trans ?_
  refine (e_t (A := (136, 81, [some (vR 10 0 0), some (vI x1), some (vI x2), some (vI x3), some (vI x4), some (vI x5)], [], σ)) rfl h4).trans ?_
  refine (e_n 6 (fr' := (136, 88, [some (vR 10 0 0), some (vI x1), some (vI x2), some (vI x3), some (vI x4), some (vI x5)], [vI (((5 : Int32) * x1) + (5 : Int32)), vI x5], σ)) rfl).trans ?_
  refine (e_t (A := (136, 91, [some (vR 10 0 0), some (vI x1), some (vI x2), some (vI x3), some (vI x4), some (vI x5)], [], σ)) rfl h5).trans ?_
  refine (e_n 1 (fr' := (136, 93, [some (vR 10 0 0), some (vI x1), some (vI x2), some (vI x3), some (vI x4), some (vI x5)], [vI (-4 : Int32)], σ)) rfl).trans ?_
  exact e_r rfl
set_option maxRecDepth 20000 in
theorem g136_49_4 (C : pmC) {σ : pmS} {x1 : Int32} {x2 : Int32} {x3 : Int32} {x4 : Int32} {x5 : Int32} (h1 : vp_in x1 3) (h2 : ¬ (((5 : Int32) * x1) + (σ.1 10 0 11 (x1).toNatClampNeg)) ≤ x5) (h3 : vp_in x5 15) (h4 : (σ.1 10 0 12 (x5).toNatClampNeg) = x2) (h5 : ¬ x5 = (((5 : Int32) * x1) + (5 : Int32))) (h6 : x5 = (((5 : Int32) * x1) + (σ.1 10 0 11 (x1).toNatClampNeg))) : pq_Rn C (136, 49, [some (vR 10 0 0), some (vI x1), some (vI x2), some (vI x3), some (vI x4), some (vI x5)], [], σ) = some (some (vI ((pm_wi σ 10 0 11 (x1).toNatClampNeg ((σ.1 10 0 11 (x1).toNatClampNeg) + (1 : Int32))).1 10 0 11 (x1).toNatClampNeg)), (pm_wi (pm_wi (pm_wi (pm_wi σ 10 0 11 (x1).toNatClampNeg ((σ.1 10 0 11 (x1).toNatClampNeg) + (1 : Int32))) 10 0 12 (x5).toNatClampNeg x2) 10 0 13 (x5).toNatClampNeg x3) 10 0 14 (x5).toNatClampNeg x4)) := by
  refine (e_n 7 (fr' := (136, 59, [some (vR 10 0 0), some (vI x1), some (vI x2), some (vI x3), some (vI x4), some (vI x5)], [vI x1, vR 10 0 12, vI ((5 : Int32) * x1), vI x5], σ)) rfl).trans ?_
  refine (e_a (A := (136, 60, [some (vR 10 0 0), some (vI x1), some (vI x2), some (vI x3), some (vI x4), some (vI x5)], [vI (σ.1 10 0 11 (x1).toNatClampNeg), vI ((5 : Int32) * x1), vI x5], σ)) rfl h1).trans ?_
  refine (e_n 1 (fr' := (136, 61, [some (vR 10 0 0), some (vI x1), some (vI x2), some (vI x3), some (vI x4), some (vI x5)], [vI (((5 : Int32) * x1) + (σ.1 10 0 11 (x1).toNatClampNeg)), vI x5], σ)) rfl).trans ?_
  refine (e_f (B := (136, 64, [some (vR 10 0 0), some (vI x1), some (vI x2), some (vI x3), some (vI x4), some (vI x5)], [], σ)) rfl h2).trans ?_
  refine (e_n 3 (fr' := (136, 70, [some (vR 10 0 0), some (vI x1), some (vI x2), some (vI x3), some (vI x4), some (vI x5)], [vI x5, vR 10 0 13], σ)) rfl).trans ?_
  refine (e_a (A := (136, 71, [some (vR 10 0 0), some (vI x1), some (vI x2), some (vI x3), some (vI x4), some (vI x5)], [vI (σ.1 10 0 12 (x5).toNatClampNeg)], σ)) rfl h3).trans ?_
  refine (e_n 1 (fr' := (136, 72, [some (vR 10 0 0), some (vI x1), some (vI x2), some (vI x3), some (vI x4), some (vI x5)], [vI x2, vI (σ.1 10 0 12 (x5).toNatClampNeg)], σ)) rfl).trans ?_
  refine (e_t (A := (136, 81, [some (vR 10 0 0), some (vI x1), some (vI x2), some (vI x3), some (vI x4), some (vI x5)], [], σ)) rfl h4).trans ?_
  refine (e_n 6 (fr' := (136, 88, [some (vR 10 0 0), some (vI x1), some (vI x2), some (vI x3), some (vI x4), some (vI x5)], [vI (((5 : Int32) * x1) + (5 : Int32)), vI x5], σ)) rfl).trans ?_
  refine (e_f (B := (136, 94, [some (vR 10 0 0), some (vI x1), some (vI x2), some (vI x3), some (vI x4), some (vI x5)], [], σ)) rfl h5).trans ?_
  refine (e_n 7 (fr' := (136, 104, [some (vR 10 0 0), some (vI x1), some (vI x2), some (vI x3), some (vI x4), some (vI x5)], [vI x1, vR 10 0 12, vI ((5 : Int32) * x1), vI x5], σ)) rfl).trans ?_
  refine (e_a (A := (136, 105, [some (vR 10 0 0), some (vI x1), some (vI x2), some (vI x3), some (vI x4), some (vI x5)], [vI (σ.1 10 0 11 (x1).toNatClampNeg), vI ((5 : Int32) * x1), vI x5], σ)) rfl h1).trans ?_
  refine (e_n 1 (fr' := (136, 106, [some (vR 10 0 0), some (vI x1), some (vI x2), some (vI x3), some (vI x4), some (vI x5)], [vI (((5 : Int32) * x1) + (σ.1 10 0 11 (x1).toNatClampNeg)), vI x5], σ)) rfl).trans ?_
  refine (e_t (A := (136, 109, [some (vR 10 0 0), some (vI x1), some (vI x2), some (vI x3), some (vI x4), some (vI x5)], [], σ)) rfl h6).trans ?_
  refine (e_n 4 (fr' := (136, 115, [some (vR 10 0 0), some (vI x1), some (vI x2), some (vI x3), some (vI x4), some (vI x5)], [vI x1, vR 10 0 12, vI x1, vR 10 0 12], σ)) rfl).trans ?_
  refine (e_a (A := (136, 116, [some (vR 10 0 0), some (vI x1), some (vI x2), some (vI x3), some (vI x4), some (vI x5)], [vI (σ.1 10 0 11 (x1).toNatClampNeg), vI x1, vR 10 0 12], σ)) rfl h1).trans ?_
  refine (e_n 2 (fr' := (136, 118, [some (vR 10 0 0), some (vI x1), some (vI x2), some (vI x3), some (vI x4), some (vI x5)], [vI ((σ.1 10 0 11 (x1).toNatClampNeg) + (1 : Int32)), vI x1, vR 10 0 12], σ)) rfl).trans ?_
  refine (e_a (A := (136, 119, [some (vR 10 0 0), some (vI x1), some (vI x2), some (vI x3), some (vI x4), some (vI x5)], [], (pm_wi σ 10 0 11 (x1).toNatClampNeg ((σ.1 10 0 11 (x1).toNatClampNeg) + (1 : Int32))))) rfl h1).trans ?_
  refine (e_n 4 (fr' := (136, 126, [some (vR 10 0 0), some (vI x1), some (vI x2), some (vI x3), some (vI x4), some (vI x5)], [vI x2, vI x5, vR 10 0 13], (pm_wi σ 10 0 11 (x1).toNatClampNeg ((σ.1 10 0 11 (x1).toNatClampNeg) + (1 : Int32))))) rfl).trans ?_
  refine (e_a (A := (136, 127, [some (vR 10 0 0), some (vI x1), some (vI x2), some (vI x3), some (vI x4), some (vI x5)], [], (pm_wi (pm_wi σ 10 0 11 (x1).toNatClampNeg ((σ.1 10 0 11 (x1).toNatClampNeg) + (1 : Int32))) 10 0 12 (x5).toNatClampNeg x2))) rfl h3).trans ?_
  refine (e_n 4 (fr' := (136, 134, [some (vR 10 0 0), some (vI x1), some (vI x2), some (vI x3), some (vI x4), some (vI x5)], [vI x3, vI x5, vR 10 0 14], (pm_wi (pm_wi σ 10 0 11 (x1).toNatClampNeg ((σ.1 10 0 11 (x1).toNatClampNeg) + (1 : Int32))) 10 0 12 (x5).toNatClampNeg x2))) rfl).trans ?_
  refine (e_a (A := (136, 135, [some (vR 10 0 0), some (vI x1), some (vI x2), some (vI x3), some (vI x4), some (vI x5)], [], (pm_wi (pm_wi (pm_wi σ 10 0 11 (x1).toNatClampNeg ((σ.1 10 0 11 (x1).toNatClampNeg) + (1 : Int32))) 10 0 12 (x5).toNatClampNeg x2) 10 0 13 (x5).toNatClampNeg x3))) rfl h3).trans ?_
  refine (e_n 4 (fr' := (136, 143, [some (vR 10 0 0), some (vI x1), some (vI x2), some (vI x3), some (vI x4), some (vI x5)], [vI x4, vI x5, vR 10 0 15], (pm_wi (pm_wi (pm_wi σ 10 0 11 (x1).toNatClampNeg ((σ.1 10 0 11 (x1).toNatClampNeg) + (1 : Int32))) 10 0 12 (x5).toNatClampNeg x2) 10 0 13 (x5).toNatClampNeg x3))) rfl).trans ?_
  refine (e_a (A := (136, 144, [some (vR 10 0 0), some (vI x1), some (vI x2), some (vI x3), some (vI x4), some (vI x5)], [], (pm_wi (pm_wi (pm_wi (pm_wi σ 10 0 11 (x1).toNatClampNeg ((σ.1 10 0 11 (x1).toNatClampNeg) + (1 : Int32))) 10 0 12 (x5).toNatClampNeg x2) 10 0 13 (x5).toNatClampNeg x3) 10 0 14 (x5).toNatClampNeg x4))) rfl h3).trans ?_
  refine (e_n 3 (fr' := (136, 149, [some (vR 10 0 0), some (vI x1), some (vI x2), some (vI x3), some (vI x4), some (vI x5)], [vI x1, vR 10 0 12], (pm_wi (pm_wi (pm_wi (pm_wi σ 10 0 11 (x1).toNatClampNeg ((σ.1 10 0 11 (x1).toNatClampNeg) + (1 : Int32))) 10 0 12 (x5).toNatClampNeg x2) 10 0 13 (x5).toNatClampNeg x3) 10 0 14 (x5).toNatClampNeg x4))) rfl).trans ?_
  refine (e_a (A := (136, 150, [some (vR 10 0 0), some (vI x1), some (vI x2), some (vI x3), some (vI x4), some (vI x5)], [vI ((pm_wi σ 10 0 11 (x1).toNatClampNeg ((σ.1 10 0 11 (x1).toNatClampNeg) + (1 : Int32))).1 10 0 11 (x1).toNatClampNeg)], (pm_wi (pm_wi (pm_wi (pm_wi σ 10 0 11 (x1).toNatClampNeg ((σ.1 10 0 11 (x1).toNatClampNeg) + (1 : Int32))) 10 0 12 (x5).toNatClampNeg x2) 10 0 13 (x5).toNatClampNeg x3) 10 0 14 (x5).toNatClampNeg x4))) rfl h1).trans ?_
  exact e_r rfl
set_option maxRecDepth 20000 in
theorem g136_49_5 (C : pmC) {σ : pmS} {x1 : Int32} {x2 : Int32} {x3 : Int32} {x4 : Int32} {x5 : Int32} (h1 : vp_in x1 3) (h2 : ¬ (((5 : Int32) * x1) + (σ.1 10 0 11 (x1).toNatClampNeg)) ≤ x5) (h3 : vp_in x5 15) (h4 : (σ.1 10 0 12 (x5).toNatClampNeg) = x2) (h5 : ¬ x5 = (((5 : Int32) * x1) + (5 : Int32))) (h6 : ¬ x5 = (((5 : Int32) * x1) + (σ.1 10 0 11 (x1).toNatClampNeg))) : pq_Rn C (136, 49, [some (vR 10 0 0), some (vI x1), some (vI x2), some (vI x3), some (vI x4), some (vI x5)], [], σ) = some (some (vI (σ.1 10 0 11 (x1).toNatClampNeg)), (pm_wi (pm_wi (pm_wi σ 10 0 12 (x5).toNatClampNeg x2) 10 0 13 (x5).toNatClampNeg x3) 10 0 14 (x5).toNatClampNeg x4)) := by
  refine (e_n 7 (fr' := (136, 59, [some (vR 10 0 0), some (vI x1), some (vI x2), some (vI x3), some (vI x4), some (vI x5)], [vI x1, vR 10 0 12, vI ((5 : Int32) * x1), vI x5], σ)) rfl).trans ?_
  refine (e_a (A := (136, 60, [some (vR 10 0 0), some (vI x1), some (vI x2), some (vI x3), some (vI x4), some (vI x5)], [vI (σ.1 10 0 11 (x1).toNatClampNeg), vI ((5 : Int32) * x1), vI x5], σ)) rfl h1).trans ?_
  refine (e_n 1 (fr' := (136, 61, [some (vR 10 0 0), some (vI x1), some (vI x2), some (vI x3), some (vI x4), some (vI x5)], [vI (((5 : Int32) * x1) + (σ.1 10 0 11 (x1).toNatClampNeg)), vI x5], σ)) rfl).trans ?_
  refine (e_f (B := (136, 64, [some (vR 10 0 0), some (vI x1), some (vI x2), some (vI x3), some (vI x4), some (vI x5)], [], σ)) rfl h2).trans ?_
  refine (e_n 3 (fr' := (136, 70, [some (vR 10 0 0), some (vI x1), some (vI x2), some (vI x3), some (vI x4), some (vI x5)], [vI x5, vR 10 0 13], σ)) rfl).trans ?_
  refine (e_a (A := (136, 71, [some (vR 10 0 0), some (vI x1), some (vI x2), some (vI x3), some (vI x4), some (vI x5)], [vI (σ.1 10 0 12 (x5).toNatClampNeg)], σ)) rfl h3).trans ?_
  refine (e_n 1 (fr' := (136, 72, [some (vR 10 0 0), some (vI x1), some (vI x2), some (vI x3), some (vI x4), some (vI x5)], [vI x2, vI (σ.1 10 0 12 (x5).toNatClampNeg)], σ)) rfl).trans ?_
  refine (e_t (A := (136, 81, [some (vR 10 0 0), some (vI x1), some (vI x2), some (vI x3), some (vI x4), some (vI x5)], [], σ)) rfl h4).trans ?_
  refine (e_n 6 (fr' := (136, 88, [some (vR 10 0 0), some (vI x1), some (vI x2), some (vI x3), some (vI x4), some (vI x5)], [vI (((5 : Int32) * x1) + (5 : Int32)), vI x5], σ)) rfl).trans ?_
  refine (e_f (B := (136, 94, [some (vR 10 0 0), some (vI x1), some (vI x2), some (vI x3), some (vI x4), some (vI x5)], [], σ)) rfl h5).trans ?_
  refine (e_n 7 (fr' := (136, 104, [some (vR 10 0 0), some (vI x1), some (vI x2), some (vI x3), some (vI x4), some (vI x5)], [vI x1, vR 10 0 12, vI ((5 : Int32) * x1), vI x5], σ)) rfl).trans ?_
  refine (e_a (A := (136, 105, [some (vR 10 0 0), some (vI x1), some (vI x2), some (vI x3), some (vI x4), some (vI x5)], [vI (σ.1 10 0 11 (x1).toNatClampNeg), vI ((5 : Int32) * x1), vI x5], σ)) rfl h1).trans ?_
  refine (e_n 1 (fr' := (136, 106, [some (vR 10 0 0), some (vI x1), some (vI x2), some (vI x3), some (vI x4), some (vI x5)], [vI (((5 : Int32) * x1) + (σ.1 10 0 11 (x1).toNatClampNeg)), vI x5], σ)) rfl).trans ?_
  refine (e_f (B := (136, 119, [some (vR 10 0 0), some (vI x1), some (vI x2), some (vI x3), some (vI x4), some (vI x5)], [], σ)) rfl h6).trans ?_
  refine (e_n 4 (fr' := (136, 126, [some (vR 10 0 0), some (vI x1), some (vI x2), some (vI x3), some (vI x4), some (vI x5)], [vI x2, vI x5, vR 10 0 13], σ)) rfl).trans ?_
  refine (e_a (A := (136, 127, [some (vR 10 0 0), some (vI x1), some (vI x2), some (vI x3), some (vI x4), some (vI x5)], [], (pm_wi σ 10 0 12 (x5).toNatClampNeg x2))) rfl h3).trans ?_
  refine (e_n 4 (fr' := (136, 134, [some (vR 10 0 0), some (vI x1), some (vI x2), some (vI x3), some (vI x4), some (vI x5)], [vI x3, vI x5, vR 10 0 14], (pm_wi σ 10 0 12 (x5).toNatClampNeg x2))) rfl).trans ?_
  refine (e_a (A := (136, 135, [some (vR 10 0 0), some (vI x1), some (vI x2), some (vI x3), some (vI x4), some (vI x5)], [], (pm_wi (pm_wi σ 10 0 12 (x5).toNatClampNeg x2) 10 0 13 (x5).toNatClampNeg x3))) rfl h3).trans ?_
  refine (e_n 4 (fr' := (136, 143, [some (vR 10 0 0), some (vI x1), some (vI x2), some (vI x3), some (vI x4), some (vI x5)], [vI x4, vI x5, vR 10 0 15], (pm_wi (pm_wi σ 10 0 12 (x5).toNatClampNeg x2) 10 0 13 (x5).toNatClampNeg x3))) rfl).trans ?_
  refine (e_a (A := (136, 144, [some (vR 10 0 0), some (vI x1), some (vI x2), some (vI x3), some (vI x4), some (vI x5)], [], (pm_wi (pm_wi (pm_wi σ 10 0 12 (x5).toNatClampNeg x2) 10 0 13 (x5).toNatClampNeg x3) 10 0 14 (x5).toNatClampNeg x4))) rfl h3).trans ?_
  refine (e_n 3 (fr' := (136, 149, [some (vR 10 0 0), some (vI x1), some (vI x2), some (vI x3), some (vI x4), some (vI x5)], [vI x1, vR 10 0 12], (pm_wi (pm_wi (pm_wi σ 10 0 12 (x5).toNatClampNeg x2) 10 0 13 (x5).toNatClampNeg x3) 10 0 14 (x5).toNatClampNeg x4))) rfl).trans ?_
  refine (e_a (A := (136, 150, [some (vR 10 0 0), some (vI x1), some (vI x2), some (vI x3), some (vI x4), some (vI x5)], [vI (σ.1 10 0 11 (x1).toNatClampNeg)], (pm_wi (pm_wi (pm_wi σ 10 0 12 (x5).toNatClampNeg x2) 10 0 13 (x5).toNatClampNeg x3) 10 0 14 (x5).toNatClampNeg x4))) rfl h1).trans ?_
  exact e_r rfl
set_option maxRecDepth 20000 in
theorem g136_49_6 (C : pmC) {σ : pmS} {x1 : Int32} {x2 : Int32} {x3 : Int32} {x4 : Int32} {x5 : Int32} (h1 : vp_in x1 3) (h2 : ¬ (((5 : Int32) * x1) + (σ.1 10 0 11 (x1).toNatClampNeg)) ≤ x5) (h3 : vp_in x5 15) (h4 : ¬ (σ.1 10 0 12 (x5).toNatClampNeg) = x2) : pq_Rn C (136, 49, [some (vR 10 0 0), some (vI x1), some (vI x2), some (vI x3), some (vI x4), some (vI x5)], [], σ) = pq_Rn C (136, 49, [some (vR 10 0 0), some (vI x1), some (vI x2), some (vI x3), some (vI x4), some (vI (x5 + (1 : Int32)))], [], σ) := by
  refine (e_n 7 (fr' := (136, 59, [some (vR 10 0 0), some (vI x1), some (vI x2), some (vI x3), some (vI x4), some (vI x5)], [vI x1, vR 10 0 12, vI ((5 : Int32) * x1), vI x5], σ)) rfl).trans ?_
  refine (e_a (A := (136, 60, [some (vR 10 0 0), some (vI x1), some (vI x2), some (vI x3), some (vI x4), some (vI x5)], [vI (σ.1 10 0 11 (x1).toNatClampNeg), vI ((5 : Int32) * x1), vI x5], σ)) rfl h1).trans ?_
  refine (e_n 1 (fr' := (136, 61, [some (vR 10 0 0), some (vI x1), some (vI x2), some (vI x3), some (vI x4), some (vI x5)], [vI (((5 : Int32) * x1) + (σ.1 10 0 11 (x1).toNatClampNeg)), vI x5], σ)) rfl).trans ?_
  refine (e_f (B := (136, 64, [some (vR 10 0 0), some (vI x1), some (vI x2), some (vI x3), some (vI x4), some (vI x5)], [], σ)) rfl h2).trans ?_
  refine (e_n 3 (fr' := (136, 70, [some (vR 10 0 0), some (vI x1), some (vI x2), some (vI x3), some (vI x4), some (vI x5)], [vI x5, vR 10 0 13], σ)) rfl).trans ?_
  refine (e_a (A := (136, 71, [some (vR 10 0 0), some (vI x1), some (vI x2), some (vI x3), some (vI x4), some (vI x5)], [vI (σ.1 10 0 12 (x5).toNatClampNeg)], σ)) rfl h3).trans ?_
  refine (e_n 1 (fr' := (136, 72, [some (vR 10 0 0), some (vI x1), some (vI x2), some (vI x3), some (vI x4), some (vI x5)], [vI x2, vI (σ.1 10 0 12 (x5).toNatClampNeg)], σ)) rfl).trans ?_
  refine (e_f (B := (136, 75, [some (vR 10 0 0), some (vI x1), some (vI x2), some (vI x3), some (vI x4), some (vI x5)], [], σ)) rfl h4).trans ?_
  exact e_n 2 rfl
set_option maxRecDepth 20000 in
theorem g137_0_0 (C : pmC) {σ : pmS} {x1 : Int32} {x2 : Int32} {l3 : Option pmV} {l4 : Option pmV}  : pq_Rn C (137, 0, [some (vR 10 0 0), some (vI x1), some (vI x2), l3, l4], [], σ) = pq_Rn C (137, 9, [some (vR 10 0 0), some (vI x1), some (vI x2), some (vI ((5 : Int32) * x1)), some (vI ((5 : Int32) * x1))], [], σ) := by
  exact e_n 8 rfl
set_option maxRecDepth 20000 in
theorem g137_9_0 (C : pmC) {σ : pmS} {x1 : Int32} {x2 : Int32} {x3 : Int32} {x4 : Int32} (h1 : vp_in x1 3) (h2 : (((5 : Int32) * x1) + (σ.1 10 0 11 (x1).toNatClampNeg)) ≤ x4) : pq_Rn C (137, 9, [some (vR 10 0 0), some (vI x1), some (vI x2), some (vI x3), some (vI x4)], [], σ) = some (some (vI x3), σ) := by
  refine (e_n 7 (fr' := (137, 19, [some (vR 10 0 0), some (vI x1), some (vI x2), some (vI x3), some (vI x4)], [vI x1, vR 10 0 12, vI ((5 : Int32) * x1), vI x4], σ)) rfl).trans ?_
  refine (e_a (A := (137, 20, [some (vR 10 0 0), some (vI x1), some (vI x2), some (vI x3), some (vI x4)], [vI (σ.1 10 0 11 (x1).toNatClampNeg), vI ((5 : Int32) * x1), vI x4], σ)) rfl h1).trans ?_
  refine (e_n 1 (fr' := (137, 21, [some (vR 10 0 0), some (vI x1), some (vI x2), some (vI x3), some (vI x4)], [vI (((5 : Int32) * x1) + (σ.1 10 0 11 (x1).toNatClampNeg)), vI x4], σ)) rfl).trans ?_
  refine (e_t (A := (137, 60, [some (vR 10 0 0), some (vI x1), some (vI x2), some (vI x3), some (vI x4)], [], σ)) rfl h2).trans ?_
  refine (e_n 1 (fr' := (137, 61, [some (vR 10 0 0), some (vI x1), some (vI x2), some (vI x3), some (vI x4)], [vI x3], σ)) rfl).trans ?_
  exact e_r rfl
set_option maxRecDepth 20000 in
theorem g137_9_1 (C : pmC) {σ : pmS} {x1 : Int32} {x2 : Int32} {x3 : Int32} {x4 : Int32} (h1 : vp_in x1 3) (h2 : ¬ (((5 : Int32) * x1) + (σ.1 10 0 11 (x1).toNatClampNeg)) ≤ x4) (h3 : vp_in x4 15) (h4 : x2 < (σ.1 10 0 12 (x4).toNatClampNeg)) : pq_Rn C (137, 9, [some (vR 10 0 0), some (vI x1), some (vI x2), some (vI x3), some (vI x4)], [], σ) = pq_Rn C (137, 9, [some (vR 10 0 0), some (vI x1), some (vI x2), some (vI x3), some (vI (x4 + (1 : Int32)))], [], σ) := by
  refine (e_n 7 (fr' := (137, 19, [some (vR 10 0 0), some (vI x1), some (vI x2), some (vI x3), some (vI x4)], [vI x1, vR 10 0 12, vI ((5 : Int32) * x1), vI x4], σ)) rfl).trans ?_
  refine (e_a (A := (137, 20, [some (vR 10 0 0), some (vI x1), some (vI x2), some (vI x3), some (vI x4)], [vI (σ.1 10 0 11 (x1).toNatClampNeg), vI ((5 : Int32) * x1), vI x4], σ)) rfl h1).trans ?_
  refine (e_n 1 (fr' := (137, 21, [some (vR 10 0 0), some (vI x1), some (vI x2), some (vI x3), some (vI x4)], [vI (((5 : Int32) * x1) + (σ.1 10 0 11 (x1).toNatClampNeg)), vI x4], σ)) rfl).trans ?_
  refine (e_f (B := (137, 24, [some (vR 10 0 0), some (vI x1), some (vI x2), some (vI x3), some (vI x4)], [], σ)) rfl h2).trans ?_
  refine (e_n 3 (fr' := (137, 30, [some (vR 10 0 0), some (vI x1), some (vI x2), some (vI x3), some (vI x4)], [vI x4, vR 10 0 13], σ)) rfl).trans ?_
  refine (e_a (A := (137, 31, [some (vR 10 0 0), some (vI x1), some (vI x2), some (vI x3), some (vI x4)], [vI (σ.1 10 0 12 (x4).toNatClampNeg)], σ)) rfl h3).trans ?_
  refine (e_n 1 (fr' := (137, 32, [some (vR 10 0 0), some (vI x1), some (vI x2), some (vI x3), some (vI x4)], [vI x2, vI (σ.1 10 0 12 (x4).toNatClampNeg)], σ)) rfl).trans ?_
  refine (e_t (A := (137, 54, [some (vR 10 0 0), some (vI x1), some (vI x2), some (vI x3), some (vI x4)], [], σ)) rfl h4).trans ?_
  exact e_n 2 rfl
set_option maxRecDepth 20000 in
theorem g137_9_2 (C : pmC) {σ : pmS} {x1 : Int32} {x2 : Int32} {x3 : Int32} {x4 : Int32} (h1 : vp_in x1 3) (h2 : ¬ (((5 : Int32) * x1) + (σ.1 10 0 11 (x1).toNatClampNeg)) ≤ x4) (h3 : vp_in x4 15) (h4 : ¬ x2 < (σ.1 10 0 12 (x4).toNatClampNeg)) (h5 : vp_in x3 15) (h6 : (σ.1 10 0 12 (x4).toNatClampNeg) ≤ (σ.1 10 0 12 (x3).toNatClampNeg)) : pq_Rn C (137, 9, [some (vR 10 0 0), some (vI x1), some (vI x2), some (vI x3), some (vI x4)], [], σ) = pq_Rn C (137, 9, [some (vR 10 0 0), some (vI x1), some (vI x2), some (vI x3), some (vI (x4 + (1 : Int32)))], [], σ) := by
  refine (e_n 7 (fr' := (137, 19, [some (vR 10 0 0), some (vI x1), some (vI x2), some (vI x3), some (vI x4)], [vI x1, vR 10 0 12, vI ((5 : Int32) * x1), vI x4], σ)) rfl).trans ?_
  refine (e_a (A := (137, 20, [some (vR 10 0 0), some (vI x1), some (vI x2), some (vI x3), some (vI x4)], [vI (σ.1 10 0 11 (x1).toNatClampNeg), vI ((5 : Int32) * x1), vI x4], σ)) rfl h1).trans ?_
  refine (e_n 1 (fr' := (137, 21, [some (vR 10 0 0), some (vI x1), some (vI x2), some (vI x3), some (vI x4)], [vI (((5 : Int32) * x1) + (σ.1 10 0 11 (x1).toNatClampNeg)), vI x4], σ)) rfl).trans ?_
  refine (e_f (B := (137, 24, [some (vR 10 0 0), some (vI x1), some (vI x2), some (vI x3), some (vI x4)], [], σ)) rfl h2).trans ?_
  refine (e_n 3 (fr' := (137, 30, [some (vR 10 0 0), some (vI x1), some (vI x2), some (vI x3), some (vI x4)], [vI x4, vR 10 0 13], σ)) rfl).trans ?_
  refine (e_a (A := (137, 31, [some (vR 10 0 0), some (vI x1), some (vI x2), some (vI x3), some (vI x4)], [vI (σ.1 10 0 12 (x4).toNatClampNeg)], σ)) rfl h3).trans ?_
  refine (e_n 1 (fr' := (137, 32, [some (vR 10 0 0), some (vI x1), some (vI x2), some (vI x3), some (vI x4)], [vI x2, vI (σ.1 10 0 12 (x4).toNatClampNeg)], σ)) rfl).trans ?_
  refine (e_f (B := (137, 35, [some (vR 10 0 0), some (vI x1), some (vI x2), some (vI x3), some (vI x4)], [], σ)) rfl h4).trans ?_
  refine (e_n 3 (fr' := (137, 41, [some (vR 10 0 0), some (vI x1), some (vI x2), some (vI x3), some (vI x4)], [vI x4, vR 10 0 13], σ)) rfl).trans ?_
  refine (e_a (A := (137, 42, [some (vR 10 0 0), some (vI x1), some (vI x2), some (vI x3), some (vI x4)], [vI (σ.1 10 0 12 (x4).toNatClampNeg)], σ)) rfl h3).trans ?_
  refine (e_n 3 (fr' := (137, 47, [some (vR 10 0 0), some (vI x1), some (vI x2), some (vI x3), some (vI x4)], [vI x3, vR 10 0 13, vI (σ.1 10 0 12 (x4).toNatClampNeg)], σ)) rfl).trans ?_
  refine (e_a (A := (137, 48, [some (vR 10 0 0), some (vI x1), some (vI x2), some (vI x3), some (vI x4)], [vI (σ.1 10 0 12 (x3).toNatClampNeg), vI (σ.1 10 0 12 (x4).toNatClampNeg)], σ)) rfl h5).trans ?_
  refine (e_t (A := (137, 54, [some (vR 10 0 0), some (vI x1), some (vI x2), some (vI x3), some (vI x4)], [], σ)) rfl h6).trans ?_
  exact e_n 2 rfl
set_option maxRecDepth 20000 in
theorem g137_9_3 (C : pmC) {σ : pmS} {x1 : Int32} {x2 : Int32} {x3 : Int32} {x4 : Int32} (h1 : vp_in x1 3) (h2 : ¬ (((5 : Int32) * x1) + (σ.1 10 0 11 (x1).toNatClampNeg)) ≤ x4) (h3 : vp_in x4 15) (h4 : ¬ x2 < (σ.1 10 0 12 (x4).toNatClampNeg)) (h5 : vp_in x3 15) (h6 : ¬ (σ.1 10 0 12 (x4).toNatClampNeg) ≤ (σ.1 10 0 12 (x3).toNatClampNeg)) : pq_Rn C (137, 9, [some (vR 10 0 0), some (vI x1), some (vI x2), some (vI x3), some (vI x4)], [], σ) = pq_Rn C (137, 9, [some (vR 10 0 0), some (vI x1), some (vI x2), some (vI x4), some (vI (x4 + (1 : Int32)))], [], σ) := by
  refine (e_n 7 (fr' := (137, 19, [some (vR 10 0 0), some (vI x1), some (vI x2), some (vI x3), some (vI x4)], [vI x1, vR 10 0 12, vI ((5 : Int32) * x1), vI x4], σ)) rfl).trans ?_
  refine (e_a (A := (137, 20, [some (vR 10 0 0), some (vI x1), some (vI x2), some (vI x3), some (vI x4)], [vI (σ.1 10 0 11 (x1).toNatClampNeg), vI ((5 : Int32) * x1), vI x4], σ)) rfl h1).trans ?_
  refine (e_n 1 (fr' := (137, 21, [some (vR 10 0 0), some (vI x1), some (vI x2), some (vI x3), some (vI x4)], [vI (((5 : Int32) * x1) + (σ.1 10 0 11 (x1).toNatClampNeg)), vI x4], σ)) rfl).trans ?_
  refine (e_f (B := (137, 24, [some (vR 10 0 0), some (vI x1), some (vI x2), some (vI x3), some (vI x4)], [], σ)) rfl h2).trans ?_
  refine (e_n 3 (fr' := (137, 30, [some (vR 10 0 0), some (vI x1), some (vI x2), some (vI x3), some (vI x4)], [vI x4, vR 10 0 13], σ)) rfl).trans ?_
  refine (e_a (A := (137, 31, [some (vR 10 0 0), some (vI x1), some (vI x2), some (vI x3), some (vI x4)], [vI (σ.1 10 0 12 (x4).toNatClampNeg)], σ)) rfl h3).trans ?_
  refine (e_n 1 (fr' := (137, 32, [some (vR 10 0 0), some (vI x1), some (vI x2), some (vI x3), some (vI x4)], [vI x2, vI (σ.1 10 0 12 (x4).toNatClampNeg)], σ)) rfl).trans ?_
  refine (e_f (B := (137, 35, [some (vR 10 0 0), some (vI x1), some (vI x2), some (vI x3), some (vI x4)], [], σ)) rfl h4).trans ?_
  refine (e_n 3 (fr' := (137, 41, [some (vR 10 0 0), some (vI x1), some (vI x2), some (vI x3), some (vI x4)], [vI x4, vR 10 0 13], σ)) rfl).trans ?_
  refine (e_a (A := (137, 42, [some (vR 10 0 0), some (vI x1), some (vI x2), some (vI x3), some (vI x4)], [vI (σ.1 10 0 12 (x4).toNatClampNeg)], σ)) rfl h3).trans ?_
  refine (e_n 3 (fr' := (137, 47, [some (vR 10 0 0), some (vI x1), some (vI x2), some (vI x3), some (vI x4)], [vI x3, vR 10 0 13, vI (σ.1 10 0 12 (x4).toNatClampNeg)], σ)) rfl).trans ?_
  refine (e_a (A := (137, 48, [some (vR 10 0 0), some (vI x1), some (vI x2), some (vI x3), some (vI x4)], [vI (σ.1 10 0 12 (x3).toNatClampNeg), vI (σ.1 10 0 12 (x4).toNatClampNeg)], σ)) rfl h5).trans ?_
  refine (e_f (B := (137, 51, [some (vR 10 0 0), some (vI x1), some (vI x2), some (vI x3), some (vI x4)], [], σ)) rfl h6).trans ?_
  exact e_n 4 rfl
set_option maxRecDepth 20000 in
theorem g138_0_0 (C : pmC) {σ : pmS} {x0 : Int32} {σ1 : pmS} {r1 : Int32} (h1 : C 105 [vL (x0).toInt64, vL (0 : Int64), vL (999 : Int64)] σ = some (some (vI r1), σ1)) (h2 : r1 = 0 ∨ r1 = 1) : pq_Rn C (138, 0, [some (vI x0)], [], σ) = some (some (vI r1), σ1) := by
  refine (e_n 4 (fr' := (138, 6, [some (vI x0)], [vL (999 : Int64), vL (0 : Int64), vL (x0).toInt64], σ)) rfl).trans ?_
  refine (e_ci (m := 138) (pc := 9) (ls := [some (vI x0)]) (rest := []) rfl h1).trans ?_
  exact e_rz rfl rfl h2
set_option maxRecDepth 20000 in
theorem g139_0_0 (C : pmC) {σ : pmS} {x1 : Int32} {x2 : Int32} {x3 : Int32} {x4 : Int32} {x5 : Int32} {x6 : Int32} {l7 : Option pmV} (h1 : vp_in (σ.1 10 0 16 0) 48) : pq_Rn C (139, 0, [some (vR 10 0 0), some (vI x1), some (vI x2), some (vI x3), some (vI x4), some (vI x5), some (vI x6), l7], [], σ) = some (some (vI (σ.1 10 0 16 0)), (pm_wi (pm_wi (pm_wi (pm_wi (pm_wi (pm_wi (pm_wi (pm_wi σ 10 0 16 0 ((σ.1 10 0 16 0) + (1 : Int32))) 10 0 19 ((σ.1 10 0 16 0)).toNatClampNeg x1) 10 0 20 ((σ.1 10 0 16 0)).toNatClampNeg x2) 10 0 21 ((σ.1 10 0 16 0)).toNatClampNeg (-1 : Int32)) 10 0 22 ((σ.1 10 0 16 0)).toNatClampNeg x3) 10 0 23 ((σ.1 10 0 16 0)).toNatClampNeg x4) 10 0 24 ((σ.1 10 0 16 0)).toNatClampNeg x5) 10 0 25 ((σ.1 10 0 16 0)).toNatClampNeg x6)) := by
  refine (e_n 13 (fr' := (139, 23, [some (vR 10 0 0), some (vI x1), some (vI x2), some (vI x3), some (vI x4), some (vI x5), some (vI x6), some (vI (σ.1 10 0 16 0))], [vI x1, vI (σ.1 10 0 16 0), vR 10 0 20], (pm_wi σ 10 0 16 0 ((σ.1 10 0 16 0) + (1 : Int32))))) rfl).trans ?_
  refine (e_a (A := (139, 24, [some (vR 10 0 0), some (vI x1), some (vI x2), some (vI x3), some (vI x4), some (vI x5), some (vI x6), some (vI (σ.1 10 0 16 0))], [], (pm_wi (pm_wi σ 10 0 16 0 ((σ.1 10 0 16 0) + (1 : Int32))) 10 0 19 ((σ.1 10 0 16 0)).toNatClampNeg x1))) rfl h1).trans ?_
  refine (e_n 4 (fr' := (139, 31, [some (vR 10 0 0), some (vI x1), some (vI x2), some (vI x3), some (vI x4), some (vI x5), some (vI x6), some (vI (σ.1 10 0 16 0))], [vI x2, vI (σ.1 10 0 16 0), vR 10 0 21], (pm_wi (pm_wi σ 10 0 16 0 ((σ.1 10 0 16 0) + (1 : Int32))) 10 0 19 ((σ.1 10 0 16 0)).toNatClampNeg x1))) rfl).trans ?_
  refine (e_a (A := (139, 32, [some (vR 10 0 0), some (vI x1), some (vI x2), some (vI x3), some (vI x4), some (vI x5), some (vI x6), some (vI (σ.1 10 0 16 0))], [], (pm_wi (pm_wi (pm_wi σ 10 0 16 0 ((σ.1 10 0 16 0) + (1 : Int32))) 10 0 19 ((σ.1 10 0 16 0)).toNatClampNeg x1) 10 0 20 ((σ.1 10 0 16 0)).toNatClampNeg x2))) rfl h1).trans ?_
  refine (e_n 4 (fr' := (139, 39, [some (vR 10 0 0), some (vI x1), some (vI x2), some (vI x3), some (vI x4), some (vI x5), some (vI x6), some (vI (σ.1 10 0 16 0))], [vI (-1 : Int32), vI (σ.1 10 0 16 0), vR 10 0 22], (pm_wi (pm_wi (pm_wi σ 10 0 16 0 ((σ.1 10 0 16 0) + (1 : Int32))) 10 0 19 ((σ.1 10 0 16 0)).toNatClampNeg x1) 10 0 20 ((σ.1 10 0 16 0)).toNatClampNeg x2))) rfl).trans ?_
  refine (e_a (A := (139, 40, [some (vR 10 0 0), some (vI x1), some (vI x2), some (vI x3), some (vI x4), some (vI x5), some (vI x6), some (vI (σ.1 10 0 16 0))], [], (pm_wi (pm_wi (pm_wi (pm_wi σ 10 0 16 0 ((σ.1 10 0 16 0) + (1 : Int32))) 10 0 19 ((σ.1 10 0 16 0)).toNatClampNeg x1) 10 0 20 ((σ.1 10 0 16 0)).toNatClampNeg x2) 10 0 21 ((σ.1 10 0 16 0)).toNatClampNeg (-1 : Int32)))) rfl h1).trans ?_
  refine (e_n 4 (fr' := (139, 47, [some (vR 10 0 0), some (vI x1), some (vI x2), some (vI x3), some (vI x4), some (vI x5), some (vI x6), some (vI (σ.1 10 0 16 0))], [vI x3, vI (σ.1 10 0 16 0), vR 10 0 23], (pm_wi (pm_wi (pm_wi (pm_wi σ 10 0 16 0 ((σ.1 10 0 16 0) + (1 : Int32))) 10 0 19 ((σ.1 10 0 16 0)).toNatClampNeg x1) 10 0 20 ((σ.1 10 0 16 0)).toNatClampNeg x2) 10 0 21 ((σ.1 10 0 16 0)).toNatClampNeg (-1 : Int32)))) rfl).trans ?_
  refine (e_a (A := (139, 48, [some (vR 10 0 0), some (vI x1), some (vI x2), some (vI x3), some (vI x4), some (vI x5), some (vI x6), some (vI (σ.1 10 0 16 0))], [], (pm_wi (pm_wi (pm_wi (pm_wi (pm_wi σ 10 0 16 0 ((σ.1 10 0 16 0) + (1 : Int32))) 10 0 19 ((σ.1 10 0 16 0)).toNatClampNeg x1) 10 0 20 ((σ.1 10 0 16 0)).toNatClampNeg x2) 10 0 21 ((σ.1 10 0 16 0)).toNatClampNeg (-1 : Int32)) 10 0 22 ((σ.1 10 0 16 0)).toNatClampNeg x3))) rfl h1).trans ?_
  refine (e_n 4 (fr' := (139, 56, [some (vR 10 0 0), some (vI x1), some (vI x2), some (vI x3), some (vI x4), some (vI x5), some (vI x6), some (vI (σ.1 10 0 16 0))], [vI x4, vI (σ.1 10 0 16 0), vR 10 0 24], (pm_wi (pm_wi (pm_wi (pm_wi (pm_wi σ 10 0 16 0 ((σ.1 10 0 16 0) + (1 : Int32))) 10 0 19 ((σ.1 10 0 16 0)).toNatClampNeg x1) 10 0 20 ((σ.1 10 0 16 0)).toNatClampNeg x2) 10 0 21 ((σ.1 10 0 16 0)).toNatClampNeg (-1 : Int32)) 10 0 22 ((σ.1 10 0 16 0)).toNatClampNeg x3))) rfl).trans ?_
  refine (e_a (A := (139, 57, [some (vR 10 0 0), some (vI x1), some (vI x2), some (vI x3), some (vI x4), some (vI x5), some (vI x6), some (vI (σ.1 10 0 16 0))], [], (pm_wi (pm_wi (pm_wi (pm_wi (pm_wi (pm_wi σ 10 0 16 0 ((σ.1 10 0 16 0) + (1 : Int32))) 10 0 19 ((σ.1 10 0 16 0)).toNatClampNeg x1) 10 0 20 ((σ.1 10 0 16 0)).toNatClampNeg x2) 10 0 21 ((σ.1 10 0 16 0)).toNatClampNeg (-1 : Int32)) 10 0 22 ((σ.1 10 0 16 0)).toNatClampNeg x3) 10 0 23 ((σ.1 10 0 16 0)).toNatClampNeg x4))) rfl h1).trans ?_
  refine (e_n 4 (fr' := (139, 65, [some (vR 10 0 0), some (vI x1), some (vI x2), some (vI x3), some (vI x4), some (vI x5), some (vI x6), some (vI (σ.1 10 0 16 0))], [vI x5, vI (σ.1 10 0 16 0), vR 10 0 25], (pm_wi (pm_wi (pm_wi (pm_wi (pm_wi (pm_wi σ 10 0 16 0 ((σ.1 10 0 16 0) + (1 : Int32))) 10 0 19 ((σ.1 10 0 16 0)).toNatClampNeg x1) 10 0 20 ((σ.1 10 0 16 0)).toNatClampNeg x2) 10 0 21 ((σ.1 10 0 16 0)).toNatClampNeg (-1 : Int32)) 10 0 22 ((σ.1 10 0 16 0)).toNatClampNeg x3) 10 0 23 ((σ.1 10 0 16 0)).toNatClampNeg x4))) rfl).trans ?_
  refine (e_a (A := (139, 66, [some (vR 10 0 0), some (vI x1), some (vI x2), some (vI x3), some (vI x4), some (vI x5), some (vI x6), some (vI (σ.1 10 0 16 0))], [], (pm_wi (pm_wi (pm_wi (pm_wi (pm_wi (pm_wi (pm_wi σ 10 0 16 0 ((σ.1 10 0 16 0) + (1 : Int32))) 10 0 19 ((σ.1 10 0 16 0)).toNatClampNeg x1) 10 0 20 ((σ.1 10 0 16 0)).toNatClampNeg x2) 10 0 21 ((σ.1 10 0 16 0)).toNatClampNeg (-1 : Int32)) 10 0 22 ((σ.1 10 0 16 0)).toNatClampNeg x3) 10 0 23 ((σ.1 10 0 16 0)).toNatClampNeg x4) 10 0 24 ((σ.1 10 0 16 0)).toNatClampNeg x5))) rfl h1).trans ?_
  refine (e_n 4 (fr' := (139, 74, [some (vR 10 0 0), some (vI x1), some (vI x2), some (vI x3), some (vI x4), some (vI x5), some (vI x6), some (vI (σ.1 10 0 16 0))], [vI x6, vI (σ.1 10 0 16 0), vR 10 0 26], (pm_wi (pm_wi (pm_wi (pm_wi (pm_wi (pm_wi (pm_wi σ 10 0 16 0 ((σ.1 10 0 16 0) + (1 : Int32))) 10 0 19 ((σ.1 10 0 16 0)).toNatClampNeg x1) 10 0 20 ((σ.1 10 0 16 0)).toNatClampNeg x2) 10 0 21 ((σ.1 10 0 16 0)).toNatClampNeg (-1 : Int32)) 10 0 22 ((σ.1 10 0 16 0)).toNatClampNeg x3) 10 0 23 ((σ.1 10 0 16 0)).toNatClampNeg x4) 10 0 24 ((σ.1 10 0 16 0)).toNatClampNeg x5))) rfl).trans ?_
  refine (e_a (A := (139, 75, [some (vR 10 0 0), some (vI x1), some (vI x2), some (vI x3), some (vI x4), some (vI x5), some (vI x6), some (vI (σ.1 10 0 16 0))], [], (pm_wi (pm_wi (pm_wi (pm_wi (pm_wi (pm_wi (pm_wi (pm_wi σ 10 0 16 0 ((σ.1 10 0 16 0) + (1 : Int32))) 10 0 19 ((σ.1 10 0 16 0)).toNatClampNeg x1) 10 0 20 ((σ.1 10 0 16 0)).toNatClampNeg x2) 10 0 21 ((σ.1 10 0 16 0)).toNatClampNeg (-1 : Int32)) 10 0 22 ((σ.1 10 0 16 0)).toNatClampNeg x3) 10 0 23 ((σ.1 10 0 16 0)).toNatClampNeg x4) 10 0 24 ((σ.1 10 0 16 0)).toNatClampNeg x5) 10 0 25 ((σ.1 10 0 16 0)).toNatClampNeg x6))) rfl h1).trans ?_
  refine (e_n 1 (fr' := (139, 77, [some (vR 10 0 0), some (vI x1), some (vI x2), some (vI x3), some (vI x4), some (vI x5), some (vI x6), some (vI (σ.1 10 0 16 0))], [vI (σ.1 10 0 16 0)], (pm_wi (pm_wi (pm_wi (pm_wi (pm_wi (pm_wi (pm_wi (pm_wi σ 10 0 16 0 ((σ.1 10 0 16 0) + (1 : Int32))) 10 0 19 ((σ.1 10 0 16 0)).toNatClampNeg x1) 10 0 20 ((σ.1 10 0 16 0)).toNatClampNeg x2) 10 0 21 ((σ.1 10 0 16 0)).toNatClampNeg (-1 : Int32)) 10 0 22 ((σ.1 10 0 16 0)).toNatClampNeg x3) 10 0 23 ((σ.1 10 0 16 0)).toNatClampNeg x4) 10 0 24 ((σ.1 10 0 16 0)).toNatClampNeg x5) 10 0 25 ((σ.1 10 0 16 0)).toNatClampNeg x6))) rfl).trans ?_
  exact e_r rfl
set_option maxRecDepth 20000 in
theorem g140_0_0 (C : pmC) {σ : pmS} {x1 : Int32} {x2 : Int32} {x3 : Int32} {x4 : Int32} {σ1 : pmS} {r1 : Int32} (h1 : C 118 [vI x1] σ = some (some (vI r1), σ1)) (h2 : r1 = 0) : pq_Rn C (140, 0, [some (vR 10 0 0), some (vI x1), some (vI x2), some (vI x3), some (vI x4)], [], σ) = some (some (vI (-1 : Int32)), σ1) := by
  refine (e_n 1 (fr' := (140, 1, [some (vR 10 0 0), some (vI x1), some (vI x2), some (vI x3), some (vI x4)], [vI x1], σ)) rfl).trans ?_
  refine (e_ci (m := 140) (pc := 4) (ls := [some (vR 10 0 0), some (vI x1), some (vI x2), some (vI x3), some (vI x4)]) (rest := []) rfl h1).trans ?_
  refine (e_t (A := (140, 41, [some (vR 10 0 0), some (vI x1), some (vI x2), some (vI x3), some (vI x4)], [], σ1)) rfl h2).trans ?_
  refine (e_n 1 (fr' := (140, 42, [some (vR 10 0 0), some (vI x1), some (vI x2), some (vI x3), some (vI x4)], [vI (-1 : Int32)], σ1)) rfl).trans ?_
  exact e_r rfl
set_option maxRecDepth 20000 in
theorem g140_0_1 (C : pmC) {σ : pmS} {x1 : Int32} {x2 : Int32} {x3 : Int32} {x4 : Int32} {σ1 : pmS} {r1 : Int32} {σ2 : pmS} {r2 : Int32} (h1 : C 118 [vI x1] σ = some (some (vI r1), σ1)) (h2 : ¬ r1 = 0) (h3 : C 133 [vR 10 0 0, vI x3] σ1 = some (some (vI r2), σ2)) (h4 : r2 = 0) : pq_Rn C (140, 0, [some (vR 10 0 0), some (vI x1), some (vI x2), some (vI x3), some (vI x4)], [], σ) = some (some (vI (-1 : Int32)), σ2) := by
  refine (e_n 1 (fr' := (140, 1, [some (vR 10 0 0), some (vI x1), some (vI x2), some (vI x3), some (vI x4)], [vI x1], σ)) rfl).trans ?_
  refine (e_ci (m := 140) (pc := 4) (ls := [some (vR 10 0 0), some (vI x1), some (vI x2), some (vI x3), some (vI x4)]) (rest := []) rfl h1).trans ?_
  refine (e_f (B := (140, 7, [some (vR 10 0 0), some (vI x1), some (vI x2), some (vI x3), some (vI x4)], [], σ1)) rfl h2).trans ?_
  refine (e_n 2 (fr' := (140, 9, [some (vR 10 0 0), some (vI x1), some (vI x2), some (vI x3), some (vI x4)], [vI x3, vR 10 0 0], σ1)) rfl).trans ?_
  refine (e_ci (m := 140) (pc := 12) (ls := [some (vR 10 0 0), some (vI x1), some (vI x2), some (vI x3), some (vI x4)]) (rest := []) rfl h3).trans ?_
  refine (e_t (A := (140, 41, [some (vR 10 0 0), some (vI x1), some (vI x2), some (vI x3), some (vI x4)], [], σ2)) rfl h4).trans ?_
  refine (e_n 1 (fr' := (140, 42, [some (vR 10 0 0), some (vI x1), some (vI x2), some (vI x3), some (vI x4)], [vI (-1 : Int32)], σ2)) rfl).trans ?_
  exact e_r rfl
set_option maxRecDepth 20000 in
theorem g140_0_2 (C : pmC) {σ : pmS} {x1 : Int32} {x2 : Int32} {x3 : Int32} {x4 : Int32} {σ1 : pmS} {r1 : Int32} {σ2 : pmS} {r2 : Int32} {σ3 : pmS} {r3 : Int32} (h1 : C 118 [vI x1] σ = some (some (vI r1), σ1)) (h2 : ¬ r1 = 0) (h3 : C 133 [vR 10 0 0, vI x3] σ1 = some (some (vI r2), σ2)) (h4 : ¬ r2 = 0) (h5 : x4 = (-1 : Int32)) (h6 : C 138 [vI x2] σ2 = some (some (vI r3), σ3)) (h7 : r3 = 0) : pq_Rn C (140, 0, [some (vR 10 0 0), some (vI x1), some (vI x2), some (vI x3), some (vI x4)], [], σ) = some (some (vI (-2 : Int32)), σ3) := by
  refine (e_n 1 (fr' := (140, 1, [some (vR 10 0 0), some (vI x1), some (vI x2), some (vI x3), some (vI x4)], [vI x1], σ)) rfl).trans ?_
  refine (e_ci (m := 140) (pc := 4) (ls := [some (vR 10 0 0), some (vI x1), some (vI x2), some (vI x3), some (vI x4)]) (rest := []) rfl h1).trans ?_
  refine (e_f (B := (140, 7, [some (vR 10 0 0), some (vI x1), some (vI x2), some (vI x3), some (vI x4)], [], σ1)) rfl h2).trans ?_
  refine (e_n 2 (fr' := (140, 9, [some (vR 10 0 0), some (vI x1), some (vI x2), some (vI x3), some (vI x4)], [vI x3, vR 10 0 0], σ1)) rfl).trans ?_
  refine (e_ci (m := 140) (pc := 12) (ls := [some (vR 10 0 0), some (vI x1), some (vI x2), some (vI x3), some (vI x4)]) (rest := []) rfl h3).trans ?_
  refine (e_f (B := (140, 15, [some (vR 10 0 0), some (vI x1), some (vI x2), some (vI x3), some (vI x4)], [], σ2)) rfl h4).trans ?_
  refine (e_n 2 (fr' := (140, 18, [some (vR 10 0 0), some (vI x1), some (vI x2), some (vI x3), some (vI x4)], [vI (-1 : Int32), vI x4], σ2)) rfl).trans ?_
  refine (e_t (A := (140, 43, [some (vR 10 0 0), some (vI x1), some (vI x2), some (vI x3), some (vI x4)], [], σ2)) rfl h5).trans ?_
  refine (e_n 1 (fr' := (140, 44, [some (vR 10 0 0), some (vI x1), some (vI x2), some (vI x3), some (vI x4)], [vI x2], σ2)) rfl).trans ?_
  refine (e_ci (m := 140) (pc := 47) (ls := [some (vR 10 0 0), some (vI x1), some (vI x2), some (vI x3), some (vI x4)]) (rest := []) rfl h6).trans ?_
  refine (e_t (A := (140, 50, [some (vR 10 0 0), some (vI x1), some (vI x2), some (vI x3), some (vI x4)], [], σ3)) rfl h7).trans ?_
  refine (e_n 1 (fr' := (140, 52, [some (vR 10 0 0), some (vI x1), some (vI x2), some (vI x3), some (vI x4)], [vI (-2 : Int32)], σ3)) rfl).trans ?_
  exact e_r rfl
set_option maxRecDepth 20000 in
theorem g140_0_3 (C : pmC) {σ : pmS} {x1 : Int32} {x2 : Int32} {x3 : Int32} {x4 : Int32} {σ1 : pmS} {r1 : Int32} {σ2 : pmS} {r2 : Int32} {σ3 : pmS} {r3 : Int32} (h1 : C 118 [vI x1] σ = some (some (vI r1), σ1)) (h2 : ¬ r1 = 0) (h3 : C 133 [vR 10 0 0, vI x3] σ1 = some (some (vI r2), σ2)) (h4 : ¬ r2 = 0) (h5 : x4 = (-1 : Int32)) (h6 : C 138 [vI x2] σ2 = some (some (vI r3), σ3)) (h7 : ¬ r3 = 0) (h8 : (σ3.1 10 0 16 0) = (48 : Int32)) : pq_Rn C (140, 0, [some (vR 10 0 0), some (vI x1), some (vI x2), some (vI x3), some (vI x4)], [], σ) = some (some (vI (-4 : Int32)), σ3) := by
  refine (e_n 1 (fr' := (140, 1, [some (vR 10 0 0), some (vI x1), some (vI x2), some (vI x3), some (vI x4)], [vI x1], σ)) rfl).trans ?_
  refine (e_ci (m := 140) (pc := 4) (ls := [some (vR 10 0 0), some (vI x1), some (vI x2), some (vI x3), some (vI x4)]) (rest := []) rfl h1).trans ?_
  refine (e_f (B := (140, 7, [some (vR 10 0 0), some (vI x1), some (vI x2), some (vI x3), some (vI x4)], [], σ1)) rfl h2).trans ?_
  refine (e_n 2 (fr' := (140, 9, [some (vR 10 0 0), some (vI x1), some (vI x2), some (vI x3), some (vI x4)], [vI x3, vR 10 0 0], σ1)) rfl).trans ?_
  refine (e_ci (m := 140) (pc := 12) (ls := [some (vR 10 0 0), some (vI x1), some (vI x2), some (vI x3), some (vI x4)]) (rest := []) rfl h3).trans ?_
  refine (e_f (B := (140, 15, [some (vR 10 0 0), some (vI x1), some (vI x2), some (vI x3), some (vI x4)], [], σ2)) rfl h4).trans ?_
  refine (e_n 2 (fr' := (140, 18, [some (vR 10 0 0), some (vI x1), some (vI x2), some (vI x3), some (vI x4)], [vI (-1 : Int32), vI x4], σ2)) rfl).trans ?_
  refine (e_t (A := (140, 43, [some (vR 10 0 0), some (vI x1), some (vI x2), some (vI x3), some (vI x4)], [], σ2)) rfl h5).trans ?_
  refine (e_n 1 (fr' := (140, 44, [some (vR 10 0 0), some (vI x1), some (vI x2), some (vI x3), some (vI x4)], [vI x2], σ2)) rfl).trans ?_
  refine (e_ci (m := 140) (pc := 47) (ls := [some (vR 10 0 0), some (vI x1), some (vI x2), some (vI x3), some (vI x4)]) (rest := []) rfl h6).trans ?_
  refine (e_f (B := (140, 53, [some (vR 10 0 0), some (vI x1), some (vI x2), some (vI x3), some (vI x4)], [], σ3)) rfl h7).trans ?_
  refine (e_n 3 (fr' := (140, 59, [some (vR 10 0 0), some (vI x1), some (vI x2), some (vI x3), some (vI x4)], [vI (48 : Int32), vI (σ3.1 10 0 16 0)], σ3)) rfl).trans ?_
  refine (e_t (A := (140, 62, [some (vR 10 0 0), some (vI x1), some (vI x2), some (vI x3), some (vI x4)], [], σ3)) rfl h8).trans ?_
  refine (e_n 2 (fr' := (140, 78, [some (vR 10 0 0), some (vI x1), some (vI x2), some (vI x3), some (vI x4)], [vI (-4 : Int32)], σ3)) rfl).trans ?_
  exact e_r rfl
set_option maxRecDepth 20000 in
theorem g140_0_4 (C : pmC) {σ : pmS} {x1 : Int32} {x2 : Int32} {x3 : Int32} {x4 : Int32} {σ1 : pmS} {r1 : Int32} {σ2 : pmS} {r2 : Int32} {σ3 : pmS} {r3 : Int32} {σ4 : pmS} {r4 : Int32} (h1 : C 118 [vI x1] σ = some (some (vI r1), σ1)) (h2 : ¬ r1 = 0) (h3 : C 133 [vR 10 0 0, vI x3] σ1 = some (some (vI r2), σ2)) (h4 : ¬ r2 = 0) (h5 : x4 = (-1 : Int32)) (h6 : C 138 [vI x2] σ2 = some (some (vI r3), σ3)) (h7 : ¬ r3 = 0) (h8 : ¬ (σ3.1 10 0 16 0) = (48 : Int32)) (h9 : C 139 [vR 10 0 0, vI x1, vI x2, vI x3, vI (-1 : Int32), vI (-1 : Int32), vI x4] σ3 = some (some (vI r4), σ4)) : pq_Rn C (140, 0, [some (vR 10 0 0), some (vI x1), some (vI x2), some (vI x3), some (vI x4)], [], σ) = some (some (vI r4), σ4) := by
  refine (e_n 1 (fr' := (140, 1, [some (vR 10 0 0), some (vI x1), some (vI x2), some (vI x3), some (vI x4)], [vI x1], σ)) rfl).trans ?_
  refine (e_ci (m := 140) (pc := 4) (ls := [some (vR 10 0 0), some (vI x1), some (vI x2), some (vI x3), some (vI x4)]) (rest := []) rfl h1).trans ?_
  refine (e_f (B := (140, 7, [some (vR 10 0 0), some (vI x1), some (vI x2), some (vI x3), some (vI x4)], [], σ1)) rfl h2).trans ?_
  refine (e_n 2 (fr' := (140, 9, [some (vR 10 0 0), some (vI x1), some (vI x2), some (vI x3), some (vI x4)], [vI x3, vR 10 0 0], σ1)) rfl).trans ?_
  refine (e_ci (m := 140) (pc := 12) (ls := [some (vR 10 0 0), some (vI x1), some (vI x2), some (vI x3), some (vI x4)]) (rest := []) rfl h3).trans ?_
  refine (e_f (B := (140, 15, [some (vR 10 0 0), some (vI x1), some (vI x2), some (vI x3), some (vI x4)], [], σ2)) rfl h4).trans ?_
  refine (e_n 2 (fr' := (140, 18, [some (vR 10 0 0), some (vI x1), some (vI x2), some (vI x3), some (vI x4)], [vI (-1 : Int32), vI x4], σ2)) rfl).trans ?_
  refine (e_t (A := (140, 43, [some (vR 10 0 0), some (vI x1), some (vI x2), some (vI x3), some (vI x4)], [], σ2)) rfl h5).trans ?_
  refine (e_n 1 (fr' := (140, 44, [some (vR 10 0 0), some (vI x1), some (vI x2), some (vI x3), some (vI x4)], [vI x2], σ2)) rfl).trans ?_
  refine (e_ci (m := 140) (pc := 47) (ls := [some (vR 10 0 0), some (vI x1), some (vI x2), some (vI x3), some (vI x4)]) (rest := []) rfl h6).trans ?_
  refine (e_f (B := (140, 53, [some (vR 10 0 0), some (vI x1), some (vI x2), some (vI x3), some (vI x4)], [], σ3)) rfl h7).trans ?_
  refine (e_n 3 (fr' := (140, 59, [some (vR 10 0 0), some (vI x1), some (vI x2), some (vI x3), some (vI x4)], [vI (48 : Int32), vI (σ3.1 10 0 16 0)], σ3)) rfl).trans ?_
  refine (e_f (B := (140, 67, [some (vR 10 0 0), some (vI x1), some (vI x2), some (vI x3), some (vI x4)], [], σ3)) rfl h8).trans ?_
  refine (e_n 7 (fr' := (140, 75, [some (vR 10 0 0), some (vI x1), some (vI x2), some (vI x3), some (vI x4)], [vI x4, vI (-1 : Int32), vI (-1 : Int32), vI x3, vI x2, vI x1, vR 10 0 0], σ3)) rfl).trans ?_
  refine (e_ci (m := 140) (pc := 78) (ls := [some (vR 10 0 0), some (vI x1), some (vI x2), some (vI x3), some (vI x4)]) (rest := []) rfl h9).trans ?_
  exact e_r rfl
set_option maxRecDepth 20000 in
theorem g140_0_5 (C : pmC) {σ : pmS} {x1 : Int32} {x2 : Int32} {x3 : Int32} {x4 : Int32} {σ1 : pmS} {r1 : Int32} {σ2 : pmS} {r2 : Int32} {σ3 : pmS} {r3 : Int32} {σ4 : pmS} {r4 : Int32} (h1 : C 118 [vI x1] σ = some (some (vI r1), σ1)) (h2 : ¬ r1 = 0) (h3 : C 133 [vR 10 0 0, vI x3] σ1 = some (some (vI r2), σ2)) (h4 : ¬ r2 = 0) (h5 : ¬ x4 = (-1 : Int32)) (h6 : C 137 [vR 10 0 0, vI x3, vI x2] σ2 = some (some (vI r3), σ3)) (h7 : vp_in r3 15) (h8 : C 107 [vR 10 0 0, vI (σ3.1 10 0 13 (r3).toNatClampNeg), vI x4] σ3 = some (some (vI r4), σ4)) (h9 : r4 = 0) : pq_Rn C (140, 0, [some (vR 10 0 0), some (vI x1), some (vI x2), some (vI x3), some (vI x4)], [], σ) = some (some (vI (-1 : Int32)), σ4) := by
  refine (e_n 1 (fr' := (140, 1, [some (vR 10 0 0), some (vI x1), some (vI x2), some (vI x3), some (vI x4)], [vI x1], σ)) rfl).trans ?_
  refine (e_ci (m := 140) (pc := 4) (ls := [some (vR 10 0 0), some (vI x1), some (vI x2), some (vI x3), some (vI x4)]) (rest := []) rfl h1).trans ?_
  refine (e_f (B := (140, 7, [some (vR 10 0 0), some (vI x1), some (vI x2), some (vI x3), some (vI x4)], [], σ1)) rfl h2).trans ?_
  refine (e_n 2 (fr' := (140, 9, [some (vR 10 0 0), some (vI x1), some (vI x2), some (vI x3), some (vI x4)], [vI x3, vR 10 0 0], σ1)) rfl).trans ?_
  refine (e_ci (m := 140) (pc := 12) (ls := [some (vR 10 0 0), some (vI x1), some (vI x2), some (vI x3), some (vI x4)]) (rest := []) rfl h3).trans ?_
  refine (e_f (B := (140, 15, [some (vR 10 0 0), some (vI x1), some (vI x2), some (vI x3), some (vI x4)], [], σ2)) rfl h4).trans ?_
  refine (e_n 2 (fr' := (140, 18, [some (vR 10 0 0), some (vI x1), some (vI x2), some (vI x3), some (vI x4)], [vI (-1 : Int32), vI x4], σ2)) rfl).trans ?_
  refine (e_f (B := (140, 21, [some (vR 10 0 0), some (vI x1), some (vI x2), some (vI x3), some (vI x4)], [], σ2)) rfl h5).trans ?_
  refine (e_n 6 (fr' := (140, 29, [some (vR 10 0 0), some (vI x1), some (vI x2), some (vI x3), some (vI x4)], [vI x2, vI x3, vR 10 0 0, vR 10 0 14, vR 10 0 0], σ2)) rfl).trans ?_
  refine (e_ci (m := 140) (pc := 32) (ls := [some (vR 10 0 0), some (vI x1), some (vI x2), some (vI x3), some (vI x4)]) (rest := [vR 10 0 14, vR 10 0 0]) rfl h6).trans ?_
  refine (e_a (A := (140, 33, [some (vR 10 0 0), some (vI x1), some (vI x2), some (vI x3), some (vI x4)], [vI (σ3.1 10 0 13 (r3).toNatClampNeg), vR 10 0 0], σ3)) rfl h7).trans ?_
  refine (e_n 1 (fr' := (140, 35, [some (vR 10 0 0), some (vI x1), some (vI x2), some (vI x3), some (vI x4)], [vI x4, vI (σ3.1 10 0 13 (r3).toNatClampNeg), vR 10 0 0], σ3)) rfl).trans ?_
  refine (e_ci (m := 140) (pc := 38) (ls := [some (vR 10 0 0), some (vI x1), some (vI x2), some (vI x3), some (vI x4)]) (rest := []) rfl h8).trans ?_
  refine (e_t (A := (140, 41, [some (vR 10 0 0), some (vI x1), some (vI x2), some (vI x3), some (vI x4)], [], σ4)) rfl h9).trans ?_
  refine (e_n 1 (fr' := (140, 42, [some (vR 10 0 0), some (vI x1), some (vI x2), some (vI x3), some (vI x4)], [vI (-1 : Int32)], σ4)) rfl).trans ?_
  exact e_r rfl
set_option maxRecDepth 20000 in
theorem g140_0_6 (C : pmC) {σ : pmS} {x1 : Int32} {x2 : Int32} {x3 : Int32} {x4 : Int32} {σ1 : pmS} {r1 : Int32} {σ2 : pmS} {r2 : Int32} {σ3 : pmS} {r3 : Int32} {σ4 : pmS} {r4 : Int32} {σ5 : pmS} {r5 : Int32} (h1 : C 118 [vI x1] σ = some (some (vI r1), σ1)) (h2 : ¬ r1 = 0) (h3 : C 133 [vR 10 0 0, vI x3] σ1 = some (some (vI r2), σ2)) (h4 : ¬ r2 = 0) (h5 : ¬ x4 = (-1 : Int32)) (h6 : C 137 [vR 10 0 0, vI x3, vI x2] σ2 = some (some (vI r3), σ3)) (h7 : vp_in r3 15) (h8 : C 107 [vR 10 0 0, vI (σ3.1 10 0 13 (r3).toNatClampNeg), vI x4] σ3 = some (some (vI r4), σ4)) (h9 : ¬ r4 = 0) (h10 : C 138 [vI x2] σ4 = some (some (vI r5), σ5)) (h11 : r5 = 0) : pq_Rn C (140, 0, [some (vR 10 0 0), some (vI x1), some (vI x2), some (vI x3), some (vI x4)], [], σ) = some (some (vI (-2 : Int32)), σ5) := by
  refine (e_n 1 (fr' := (140, 1, [some (vR 10 0 0), some (vI x1), some (vI x2), some (vI x3), some (vI x4)], [vI x1], σ)) rfl).trans ?_
  refine (e_ci (m := 140) (pc := 4) (ls := [some (vR 10 0 0), some (vI x1), some (vI x2), some (vI x3), some (vI x4)]) (rest := []) rfl h1).trans ?_
  refine (e_f (B := (140, 7, [some (vR 10 0 0), some (vI x1), some (vI x2), some (vI x3), some (vI x4)], [], σ1)) rfl h2).trans ?_
  refine (e_n 2 (fr' := (140, 9, [some (vR 10 0 0), some (vI x1), some (vI x2), some (vI x3), some (vI x4)], [vI x3, vR 10 0 0], σ1)) rfl).trans ?_
  refine (e_ci (m := 140) (pc := 12) (ls := [some (vR 10 0 0), some (vI x1), some (vI x2), some (vI x3), some (vI x4)]) (rest := []) rfl h3).trans ?_
  refine (e_f (B := (140, 15, [some (vR 10 0 0), some (vI x1), some (vI x2), some (vI x3), some (vI x4)], [], σ2)) rfl h4).trans ?_
  refine (e_n 2 (fr' := (140, 18, [some (vR 10 0 0), some (vI x1), some (vI x2), some (vI x3), some (vI x4)], [vI (-1 : Int32), vI x4], σ2)) rfl).trans ?_
  refine (e_f (B := (140, 21, [some (vR 10 0 0), some (vI x1), some (vI x2), some (vI x3), some (vI x4)], [], σ2)) rfl h5).trans ?_
  refine (e_n 6 (fr' := (140, 29, [some (vR 10 0 0), some (vI x1), some (vI x2), some (vI x3), some (vI x4)], [vI x2, vI x3, vR 10 0 0, vR 10 0 14, vR 10 0 0], σ2)) rfl).trans ?_
  refine (e_ci (m := 140) (pc := 32) (ls := [some (vR 10 0 0), some (vI x1), some (vI x2), some (vI x3), some (vI x4)]) (rest := [vR 10 0 14, vR 10 0 0]) rfl h6).trans ?_
  refine (e_a (A := (140, 33, [some (vR 10 0 0), some (vI x1), some (vI x2), some (vI x3), some (vI x4)], [vI (σ3.1 10 0 13 (r3).toNatClampNeg), vR 10 0 0], σ3)) rfl h7).trans ?_
  refine (e_n 1 (fr' := (140, 35, [some (vR 10 0 0), some (vI x1), some (vI x2), some (vI x3), some (vI x4)], [vI x4, vI (σ3.1 10 0 13 (r3).toNatClampNeg), vR 10 0 0], σ3)) rfl).trans ?_
  refine (e_ci (m := 140) (pc := 38) (ls := [some (vR 10 0 0), some (vI x1), some (vI x2), some (vI x3), some (vI x4)]) (rest := []) rfl h8).trans ?_
  refine (e_f (B := (140, 43, [some (vR 10 0 0), some (vI x1), some (vI x2), some (vI x3), some (vI x4)], [], σ4)) rfl h9).trans ?_
  refine (e_n 1 (fr' := (140, 44, [some (vR 10 0 0), some (vI x1), some (vI x2), some (vI x3), some (vI x4)], [vI x2], σ4)) rfl).trans ?_
  refine (e_ci (m := 140) (pc := 47) (ls := [some (vR 10 0 0), some (vI x1), some (vI x2), some (vI x3), some (vI x4)]) (rest := []) rfl h10).trans ?_
  refine (e_t (A := (140, 50, [some (vR 10 0 0), some (vI x1), some (vI x2), some (vI x3), some (vI x4)], [], σ5)) rfl h11).trans ?_
  refine (e_n 1 (fr' := (140, 52, [some (vR 10 0 0), some (vI x1), some (vI x2), some (vI x3), some (vI x4)], [vI (-2 : Int32)], σ5)) rfl).trans ?_
  exact e_r rfl
set_option maxRecDepth 20000 in
theorem g140_0_7 (C : pmC) {σ : pmS} {x1 : Int32} {x2 : Int32} {x3 : Int32} {x4 : Int32} {σ1 : pmS} {r1 : Int32} {σ2 : pmS} {r2 : Int32} {σ3 : pmS} {r3 : Int32} {σ4 : pmS} {r4 : Int32} {σ5 : pmS} {r5 : Int32} (h1 : C 118 [vI x1] σ = some (some (vI r1), σ1)) (h2 : ¬ r1 = 0) (h3 : C 133 [vR 10 0 0, vI x3] σ1 = some (some (vI r2), σ2)) (h4 : ¬ r2 = 0) (h5 : ¬ x4 = (-1 : Int32)) (h6 : C 137 [vR 10 0 0, vI x3, vI x2] σ2 = some (some (vI r3), σ3)) (h7 : vp_in r3 15) (h8 : C 107 [vR 10 0 0, vI (σ3.1 10 0 13 (r3).toNatClampNeg), vI x4] σ3 = some (some (vI r4), σ4)) (h9 : ¬ r4 = 0) (h10 : C 138 [vI x2] σ4 = some (some (vI r5), σ5)) (h11 : ¬ r5 = 0) (h12 : (σ5.1 10 0 16 0) = (48 : Int32)) : pq_Rn C (140, 0, [some (vR 10 0 0), some (vI x1), some (vI x2), some (vI x3), some (vI x4)], [], σ) = some (some (vI (-4 : Int32)), σ5) := by
  refine (e_n 1 (fr' := (140, 1, [some (vR 10 0 0), some (vI x1), some (vI x2), some (vI x3), some (vI x4)], [vI x1], σ)) rfl).trans ?_
  refine (e_ci (m := 140) (pc := 4) (ls := [some (vR 10 0 0), some (vI x1), some (vI x2), some (vI x3), some (vI x4)]) (rest := []) rfl h1).trans ?_
  refine (e_f (B := (140, 7, [some (vR 10 0 0), some (vI x1), some (vI x2), some (vI x3), some (vI x4)], [], σ1)) rfl h2).trans ?_
  refine (e_n 2 (fr' := (140, 9, [some (vR 10 0 0), some (vI x1), some (vI x2), some (vI x3), some (vI x4)], [vI x3, vR 10 0 0], σ1)) rfl).trans ?_
  refine (e_ci (m := 140) (pc := 12) (ls := [some (vR 10 0 0), some (vI x1), some (vI x2), some (vI x3), some (vI x4)]) (rest := []) rfl h3).trans ?_
  refine (e_f (B := (140, 15, [some (vR 10 0 0), some (vI x1), some (vI x2), some (vI x3), some (vI x4)], [], σ2)) rfl h4).trans ?_
  refine (e_n 2 (fr' := (140, 18, [some (vR 10 0 0), some (vI x1), some (vI x2), some (vI x3), some (vI x4)], [vI (-1 : Int32), vI x4], σ2)) rfl).trans ?_
  refine (e_f (B := (140, 21, [some (vR 10 0 0), some (vI x1), some (vI x2), some (vI x3), some (vI x4)], [], σ2)) rfl h5).trans ?_
  refine (e_n 6 (fr' := (140, 29, [some (vR 10 0 0), some (vI x1), some (vI x2), some (vI x3), some (vI x4)], [vI x2, vI x3, vR 10 0 0, vR 10 0 14, vR 10 0 0], σ2)) rfl).trans ?_
  refine (e_ci (m := 140) (pc := 32) (ls := [some (vR 10 0 0), some (vI x1), some (vI x2), some (vI x3), some (vI x4)]) (rest := [vR 10 0 14, vR 10 0 0]) rfl h6).trans ?_
  refine (e_a (A := (140, 33, [some (vR 10 0 0), some (vI x1), some (vI x2), some (vI x3), some (vI x4)], [vI (σ3.1 10 0 13 (r3).toNatClampNeg), vR 10 0 0], σ3)) rfl h7).trans ?_
  refine (e_n 1 (fr' := (140, 35, [some (vR 10 0 0), some (vI x1), some (vI x2), some (vI x3), some (vI x4)], [vI x4, vI (σ3.1 10 0 13 (r3).toNatClampNeg), vR 10 0 0], σ3)) rfl).trans ?_
  refine (e_ci (m := 140) (pc := 38) (ls := [some (vR 10 0 0), some (vI x1), some (vI x2), some (vI x3), some (vI x4)]) (rest := []) rfl h8).trans ?_
  refine (e_f (B := (140, 43, [some (vR 10 0 0), some (vI x1), some (vI x2), some (vI x3), some (vI x4)], [], σ4)) rfl h9).trans ?_
  refine (e_n 1 (fr' := (140, 44, [some (vR 10 0 0), some (vI x1), some (vI x2), some (vI x3), some (vI x4)], [vI x2], σ4)) rfl).trans ?_
  refine (e_ci (m := 140) (pc := 47) (ls := [some (vR 10 0 0), some (vI x1), some (vI x2), some (vI x3), some (vI x4)]) (rest := []) rfl h10).trans ?_
  refine (e_f (B := (140, 53, [some (vR 10 0 0), some (vI x1), some (vI x2), some (vI x3), some (vI x4)], [], σ5)) rfl h11).trans ?_
  refine (e_n 3 (fr' := (140, 59, [some (vR 10 0 0), some (vI x1), some (vI x2), some (vI x3), some (vI x4)], [vI (48 : Int32), vI (σ5.1 10 0 16 0)], σ5)) rfl).trans ?_
  refine (e_t (A := (140, 62, [some (vR 10 0 0), some (vI x1), some (vI x2), some (vI x3), some (vI x4)], [], σ5)) rfl h12).trans ?_
  refine (e_n 2 (fr' := (140, 78, [some (vR 10 0 0), some (vI x1), some (vI x2), some (vI x3), some (vI x4)], [vI (-4 : Int32)], σ5)) rfl).trans ?_
  exact e_r rfl
set_option maxRecDepth 20000 in
theorem g140_0_8 (C : pmC) {σ : pmS} {x1 : Int32} {x2 : Int32} {x3 : Int32} {x4 : Int32} {σ1 : pmS} {r1 : Int32} {σ2 : pmS} {r2 : Int32} {σ3 : pmS} {r3 : Int32} {σ4 : pmS} {r4 : Int32} {σ5 : pmS} {r5 : Int32} {σ6 : pmS} {r6 : Int32} (h1 : C 118 [vI x1] σ = some (some (vI r1), σ1)) (h2 : ¬ r1 = 0) (h3 : C 133 [vR 10 0 0, vI x3] σ1 = some (some (vI r2), σ2)) (h4 : ¬ r2 = 0) (h5 : ¬ x4 = (-1 : Int32)) (h6 : C 137 [vR 10 0 0, vI x3, vI x2] σ2 = some (some (vI r3), σ3)) (h7 : vp_in r3 15) (h8 : C 107 [vR 10 0 0, vI (σ3.1 10 0 13 (r3).toNatClampNeg), vI x4] σ3 = some (some (vI r4), σ4)) (h9 : ¬ r4 = 0) (h10 : C 138 [vI x2] σ4 = some (some (vI r5), σ5)) (h11 : ¬ r5 = 0) (h12 : ¬ (σ5.1 10 0 16 0) = (48 : Int32)) (h13 : C 139 [vR 10 0 0, vI x1, vI x2, vI x3, vI (-1 : Int32), vI (-1 : Int32), vI x4] σ5 = some (some (vI r6), σ6)) : pq_Rn C (140, 0, [some (vR 10 0 0), some (vI x1), some (vI x2), some (vI x3), some (vI x4)], [], σ) = some (some (vI r6), σ6) := by
  refine (e_n 1 (fr' := (140, 1, [some (vR 10 0 0), some (vI x1), some (vI x2), some (vI x3), some (vI x4)], [vI x1], σ)) rfl).trans ?_
  refine (e_ci (m := 140) (pc := 4) (ls := [some (vR 10 0 0), some (vI x1), some (vI x2), some (vI x3), some (vI x4)]) (rest := []) rfl h1).trans ?_
  refine (e_f (B := (140, 7, [some (vR 10 0 0), some (vI x1), some (vI x2), some (vI x3), some (vI x4)], [], σ1)) rfl h2).trans ?_
  refine (e_n 2 (fr' := (140, 9, [some (vR 10 0 0), some (vI x1), some (vI x2), some (vI x3), some (vI x4)], [vI x3, vR 10 0 0], σ1)) rfl).trans ?_
  refine (e_ci (m := 140) (pc := 12) (ls := [some (vR 10 0 0), some (vI x1), some (vI x2), some (vI x3), some (vI x4)]) (rest := []) rfl h3).trans ?_
  refine (e_f (B := (140, 15, [some (vR 10 0 0), some (vI x1), some (vI x2), some (vI x3), some (vI x4)], [], σ2)) rfl h4).trans ?_
  refine (e_n 2 (fr' := (140, 18, [some (vR 10 0 0), some (vI x1), some (vI x2), some (vI x3), some (vI x4)], [vI (-1 : Int32), vI x4], σ2)) rfl).trans ?_
  refine (e_f (B := (140, 21, [some (vR 10 0 0), some (vI x1), some (vI x2), some (vI x3), some (vI x4)], [], σ2)) rfl h5).trans ?_
  refine (e_n 6 (fr' := (140, 29, [some (vR 10 0 0), some (vI x1), some (vI x2), some (vI x3), some (vI x4)], [vI x2, vI x3, vR 10 0 0, vR 10 0 14, vR 10 0 0], σ2)) rfl).trans ?_
  refine (e_ci (m := 140) (pc := 32) (ls := [some (vR 10 0 0), some (vI x1), some (vI x2), some (vI x3), some (vI x4)]) (rest := [vR 10 0 14, vR 10 0 0]) rfl h6).trans ?_
  refine (e_a (A := (140, 33, [some (vR 10 0 0), some (vI x1), some (vI x2), some (vI x3), some (vI x4)], [vI (σ3.1 10 0 13 (r3).toNatClampNeg), vR 10 0 0], σ3)) rfl h7).trans ?_
  refine (e_n 1 (fr' := (140, 35, [some (vR 10 0 0), some (vI x1), some (vI x2), some (vI x3), some (vI x4)], [vI x4, vI (σ3.1 10 0 13 (r3).toNatClampNeg), vR 10 0 0], σ3)) rfl).trans ?_
  refine (e_ci (m := 140) (pc := 38) (ls := [some (vR 10 0 0), some (vI x1), some (vI x2), some (vI x3), some (vI x4)]) (rest := []) rfl h8).trans ?_
  refine (e_f (B := (140, 43, [some (vR 10 0 0), some (vI x1), some (vI x2), some (vI x3), some (vI x4)], [], σ4)) rfl h9).trans ?_
  refine (e_n 1 (fr' := (140, 44, [some (vR 10 0 0), some (vI x1), some (vI x2), some (vI x3), some (vI x4)], [vI x2], σ4)) rfl).trans ?_
  refine (e_ci (m := 140) (pc := 47) (ls := [some (vR 10 0 0), some (vI x1), some (vI x2), some (vI x3), some (vI x4)]) (rest := []) rfl h10).trans ?_
  refine (e_f (B := (140, 53, [some (vR 10 0 0), some (vI x1), some (vI x2), some (vI x3), some (vI x4)], [], σ5)) rfl h11).trans ?_
  refine (e_n 3 (fr' := (140, 59, [some (vR 10 0 0), some (vI x1), some (vI x2), some (vI x3), some (vI x4)], [vI (48 : Int32), vI (σ5.1 10 0 16 0)], σ5)) rfl).trans ?_
  refine (e_f (B := (140, 67, [some (vR 10 0 0), some (vI x1), some (vI x2), some (vI x3), some (vI x4)], [], σ5)) rfl h12).trans ?_
  refine (e_n 7 (fr' := (140, 75, [some (vR 10 0 0), some (vI x1), some (vI x2), some (vI x3), some (vI x4)], [vI x4, vI (-1 : Int32), vI (-1 : Int32), vI x3, vI x2, vI x1, vR 10 0 0], σ5)) rfl).trans ?_
  refine (e_ci (m := 140) (pc := 78) (ls := [some (vR 10 0 0), some (vI x1), some (vI x2), some (vI x3), some (vI x4)]) (rest := []) rfl h13).trans ?_
  exact e_r rfl
set_option maxRecDepth 20000 in
theorem g141_0_0 (C : pmC) {σ : pmS} {x1 : Int32} {x2 : Int32} (h1 : vp_in x1 48) (h2 : x2 < (σ.1 10 0 20 (x1).toNatClampNeg)) : pq_Rn C (141, 0, [some (vR 10 0 0), some (vI x1), some (vI x2)], [], σ) = some (some (vI (0 : Int32)), σ) := by
  refine (e_n 3 (fr' := (141, 5, [some (vR 10 0 0), some (vI x1), some (vI x2)], [vI x1, vR 10 0 21], σ)) rfl).trans ?_
  refine (e_a (A := (141, 6, [some (vR 10 0 0), some (vI x1), some (vI x2)], [vI (σ.1 10 0 20 (x1).toNatClampNeg)], σ)) rfl h1).trans ?_
  refine (e_n 1 (fr' := (141, 7, [some (vR 10 0 0), some (vI x1), some (vI x2)], [vI x2, vI (σ.1 10 0 20 (x1).toNatClampNeg)], σ)) rfl).trans ?_
  refine (e_t (A := (141, 34, [some (vR 10 0 0), some (vI x1), some (vI x2)], [], σ)) rfl h2).trans ?_
  refine (e_n 1 (fr' := (141, 35, [some (vR 10 0 0), some (vI x1), some (vI x2)], [vI (0 : Int32)], σ)) rfl).trans ?_
  exact e_r rfl
set_option maxRecDepth 20000 in
theorem g141_0_1 (C : pmC) {σ : pmS} {x1 : Int32} {x2 : Int32} (h1 : vp_in x1 48) (h2 : ¬ x2 < (σ.1 10 0 20 (x1).toNatClampNeg)) (h3 : (σ.1 10 0 21 (x1).toNatClampNeg) = (-1 : Int32)) : pq_Rn C (141, 0, [some (vR 10 0 0), some (vI x1), some (vI x2)], [], σ) = some (some (vI (1 : Int32)), σ) := by
  refine (e_n 3 (fr' := (141, 5, [some (vR 10 0 0), some (vI x1), some (vI x2)], [vI x1, vR 10 0 21], σ)) rfl).trans ?_
  refine (e_a (A := (141, 6, [some (vR 10 0 0), some (vI x1), some (vI x2)], [vI (σ.1 10 0 20 (x1).toNatClampNeg)], σ)) rfl h1).trans ?_
  refine (e_n 1 (fr' := (141, 7, [some (vR 10 0 0), some (vI x1), some (vI x2)], [vI x2, vI (σ.1 10 0 20 (x1).toNatClampNeg)], σ)) rfl).trans ?_
  refine (e_f (B := (141, 10, [some (vR 10 0 0), some (vI x1), some (vI x2)], [], σ)) rfl h2).trans ?_
  refine (e_n 3 (fr' := (141, 15, [some (vR 10 0 0), some (vI x1), some (vI x2)], [vI x1, vR 10 0 22], σ)) rfl).trans ?_
  refine (e_a (A := (141, 16, [some (vR 10 0 0), some (vI x1), some (vI x2)], [vI (σ.1 10 0 21 (x1).toNatClampNeg)], σ)) rfl h1).trans ?_
  refine (e_n 1 (fr' := (141, 17, [some (vR 10 0 0), some (vI x1), some (vI x2)], [vI (-1 : Int32), vI (σ.1 10 0 21 (x1).toNatClampNeg)], σ)) rfl).trans ?_
  refine (e_t (A := (141, 30, [some (vR 10 0 0), some (vI x1), some (vI x2)], [], σ)) rfl h3).trans ?_
  refine (e_n 2 (fr' := (141, 35, [some (vR 10 0 0), some (vI x1), some (vI x2)], [vI (1 : Int32)], σ)) rfl).trans ?_
  exact e_r rfl
set_option maxRecDepth 20000 in
theorem g141_0_2 (C : pmC) {σ : pmS} {x1 : Int32} {x2 : Int32} (h1 : vp_in x1 48) (h2 : ¬ x2 < (σ.1 10 0 20 (x1).toNatClampNeg)) (h3 : ¬ (σ.1 10 0 21 (x1).toNatClampNeg) = (-1 : Int32)) (h4 : (σ.1 10 0 21 (x1).toNatClampNeg) ≤ x2) : pq_Rn C (141, 0, [some (vR 10 0 0), some (vI x1), some (vI x2)], [], σ) = some (some (vI (0 : Int32)), σ) := by
  refine (e_n 3 (fr' := (141, 5, [some (vR 10 0 0), some (vI x1), some (vI x2)], [vI x1, vR 10 0 21], σ)) rfl).trans ?_
  refine (e_a (A := (141, 6, [some (vR 10 0 0), some (vI x1), some (vI x2)], [vI (σ.1 10 0 20 (x1).toNatClampNeg)], σ)) rfl h1).trans ?_
  refine (e_n 1 (fr' := (141, 7, [some (vR 10 0 0), some (vI x1), some (vI x2)], [vI x2, vI (σ.1 10 0 20 (x1).toNatClampNeg)], σ)) rfl).trans ?_
  refine (e_f (B := (141, 10, [some (vR 10 0 0), some (vI x1), some (vI x2)], [], σ)) rfl h2).trans ?_
  refine (e_n 3 (fr' := (141, 15, [some (vR 10 0 0), some (vI x1), some (vI x2)], [vI x1, vR 10 0 22], σ)) rfl).trans ?_
  refine (e_a (A := (141, 16, [some (vR 10 0 0), some (vI x1), some (vI x2)], [vI (σ.1 10 0 21 (x1).toNatClampNeg)], σ)) rfl h1).trans ?_
  refine (e_n 1 (fr' := (141, 17, [some (vR 10 0 0), some (vI x1), some (vI x2)], [vI (-1 : Int32), vI (σ.1 10 0 21 (x1).toNatClampNeg)], σ)) rfl).trans ?_
  refine (e_f (B := (141, 20, [some (vR 10 0 0), some (vI x1), some (vI x2)], [], σ)) rfl h3).trans ?_
  refine (e_n 4 (fr' := (141, 26, [some (vR 10 0 0), some (vI x1), some (vI x2)], [vI x1, vR 10 0 22, vI x2], σ)) rfl).trans ?_
  refine (e_a (A := (141, 27, [some (vR 10 0 0), some (vI x1), some (vI x2)], [vI (σ.1 10 0 21 (x1).toNatClampNeg), vI x2], σ)) rfl h1).trans ?_
  refine (e_t (A := (141, 34, [some (vR 10 0 0), some (vI x1), some (vI x2)], [], σ)) rfl h4).trans ?_
  refine (e_n 1 (fr' := (141, 35, [some (vR 10 0 0), some (vI x1), some (vI x2)], [vI (0 : Int32)], σ)) rfl).trans ?_
  exact e_r rfl
set_option maxRecDepth 20000 in
theorem g141_0_3 (C : pmC) {σ : pmS} {x1 : Int32} {x2 : Int32} (h1 : vp_in x1 48) (h2 : ¬ x2 < (σ.1 10 0 20 (x1).toNatClampNeg)) (h3 : ¬ (σ.1 10 0 21 (x1).toNatClampNeg) = (-1 : Int32)) (h4 : ¬ (σ.1 10 0 21 (x1).toNatClampNeg) ≤ x2) : pq_Rn C (141, 0, [some (vR 10 0 0), some (vI x1), some (vI x2)], [], σ) = some (some (vI (1 : Int32)), σ) := by
  refine (e_n 3 (fr' := (141, 5, [some (vR 10 0 0), some (vI x1), some (vI x2)], [vI x1, vR 10 0 21], σ)) rfl).trans ?_
  refine (e_a (A := (141, 6, [some (vR 10 0 0), some (vI x1), some (vI x2)], [vI (σ.1 10 0 20 (x1).toNatClampNeg)], σ)) rfl h1).trans ?_
  refine (e_n 1 (fr' := (141, 7, [some (vR 10 0 0), some (vI x1), some (vI x2)], [vI x2, vI (σ.1 10 0 20 (x1).toNatClampNeg)], σ)) rfl).trans ?_
  refine (e_f (B := (141, 10, [some (vR 10 0 0), some (vI x1), some (vI x2)], [], σ)) rfl h2).trans ?_
  refine (e_n 3 (fr' := (141, 15, [some (vR 10 0 0), some (vI x1), some (vI x2)], [vI x1, vR 10 0 22], σ)) rfl).trans ?_
  refine (e_a (A := (141, 16, [some (vR 10 0 0), some (vI x1), some (vI x2)], [vI (σ.1 10 0 21 (x1).toNatClampNeg)], σ)) rfl h1).trans ?_
  refine (e_n 1 (fr' := (141, 17, [some (vR 10 0 0), some (vI x1), some (vI x2)], [vI (-1 : Int32), vI (σ.1 10 0 21 (x1).toNatClampNeg)], σ)) rfl).trans ?_
  refine (e_f (B := (141, 20, [some (vR 10 0 0), some (vI x1), some (vI x2)], [], σ)) rfl h3).trans ?_
  refine (e_n 4 (fr' := (141, 26, [some (vR 10 0 0), some (vI x1), some (vI x2)], [vI x1, vR 10 0 22, vI x2], σ)) rfl).trans ?_
  refine (e_a (A := (141, 27, [some (vR 10 0 0), some (vI x1), some (vI x2)], [vI (σ.1 10 0 21 (x1).toNatClampNeg), vI x2], σ)) rfl h1).trans ?_
  refine (e_f (B := (141, 30, [some (vR 10 0 0), some (vI x1), some (vI x2)], [], σ)) rfl h4).trans ?_
  refine (e_n 2 (fr' := (141, 35, [some (vR 10 0 0), some (vI x1), some (vI x2)], [vI (1 : Int32)], σ)) rfl).trans ?_
  exact e_r rfl
set_option maxRecDepth 20000 in
theorem g142_0_0 (C : pmC) {σ : pmS} {x1 : Int32} {x2 : Int32} {x3 : Int32} {x4 : Int32} {σ1 : pmS} {r1 : Int32} (h1 : C 118 [vI x1] σ = some (some (vI r1), σ1)) (h2 : r1 = 0) : pq_Rn C (142, 0, [some (vR 10 0 0), some (vI x1), some (vI x2), some (vI x3), some (vI x4)], [], σ) = pq_Rn C (142, 24, [some (vR 10 0 0), some (vI x1), some (vI x2), some (vI x3), some (vI x4)], [], σ1) := by
  refine (e_n 1 (fr' := (142, 1, [some (vR 10 0 0), some (vI x1), some (vI x2), some (vI x3), some (vI x4)], [vI x1], σ)) rfl).trans ?_
  refine (e_ci (m := 142) (pc := 4) (ls := [some (vR 10 0 0), some (vI x1), some (vI x2), some (vI x3), some (vI x4)]) (rest := []) rfl h1).trans ?_
  exact e_t (A := (142, 24, [some (vR 10 0 0), some (vI x1), some (vI x2), some (vI x3), some (vI x4)], [], σ1)) rfl h2
set_option maxRecDepth 20000 in
theorem g142_0_1 (C : pmC) {σ : pmS} {x1 : Int32} {x2 : Int32} {x3 : Int32} {x4 : Int32} {σ1 : pmS} {r1 : Int32} {σ2 : pmS} {r2 : Int32} (h1 : C 118 [vI x1] σ = some (some (vI r1), σ1)) (h2 : ¬ r1 = 0) (h3 : C 134 [vR 10 0 0, vI x3] σ1 = some (some (vI r2), σ2)) (h4 : r2 = 0) : pq_Rn C (142, 0, [some (vR 10 0 0), some (vI x1), some (vI x2), some (vI x3), some (vI x4)], [], σ) = pq_Rn C (142, 24, [some (vR 10 0 0), some (vI x1), some (vI x2), some (vI x3), some (vI x4)], [], σ2) := by
  refine (e_n 1 (fr' := (142, 1, [some (vR 10 0 0), some (vI x1), some (vI x2), some (vI x3), some (vI x4)], [vI x1], σ)) rfl).trans ?_
  refine (e_ci (m := 142) (pc := 4) (ls := [some (vR 10 0 0), some (vI x1), some (vI x2), some (vI x3), some (vI x4)]) (rest := []) rfl h1).trans ?_
  refine (e_f (B := (142, 7, [some (vR 10 0 0), some (vI x1), some (vI x2), some (vI x3), some (vI x4)], [], σ1)) rfl h2).trans ?_
  refine (e_n 2 (fr' := (142, 9, [some (vR 10 0 0), some (vI x1), some (vI x2), some (vI x3), some (vI x4)], [vI x3, vR 10 0 0], σ1)) rfl).trans ?_
  refine (e_ci (m := 142) (pc := 12) (ls := [some (vR 10 0 0), some (vI x1), some (vI x2), some (vI x3), some (vI x4)]) (rest := []) rfl h3).trans ?_
  exact e_t (A := (142, 24, [some (vR 10 0 0), some (vI x1), some (vI x2), some (vI x3), some (vI x4)], [], σ2)) rfl h4
set_option maxRecDepth 20000 in
theorem g142_0_2 (C : pmC) {σ : pmS} {x1 : Int32} {x2 : Int32} {x3 : Int32} {x4 : Int32} {σ1 : pmS} {r1 : Int32} {σ2 : pmS} {r2 : Int32} {σ3 : pmS} {r3 : Int32} (h1 : C 118 [vI x1] σ = some (some (vI r1), σ1)) (h2 : ¬ r1 = 0) (h3 : C 134 [vR 10 0 0, vI x3] σ1 = some (some (vI r2), σ2)) (h4 : ¬ r2 = 0) (h5 : C 134 [vR 10 0 0, vI x4] σ2 = some (some (vI r3), σ3)) (h6 : r3 = 0) : pq_Rn C (142, 0, [some (vR 10 0 0), some (vI x1), some (vI x2), some (vI x3), some (vI x4)], [], σ) = pq_Rn C (142, 24, [some (vR 10 0 0), some (vI x1), some (vI x2), some (vI x3), some (vI x4)], [], σ3) := by
  refine (e_n 1 (fr' := (142, 1, [some (vR 10 0 0), some (vI x1), some (vI x2), some (vI x3), some (vI x4)], [vI x1], σ)) rfl).trans ?_
  refine (e_ci (m := 142) (pc := 4) (ls := [some (vR 10 0 0), some (vI x1), some (vI x2), some (vI x3), some (vI x4)]) (rest := []) rfl h1).trans ?_
  refine (e_f (B := (142, 7, [some (vR 10 0 0), some (vI x1), some (vI x2), some (vI x3), some (vI x4)], [], σ1)) rfl h2).trans ?_
  refine (e_n 2 (fr' := (142, 9, [some (vR 10 0 0), some (vI x1), some (vI x2), some (vI x3), some (vI x4)], [vI x3, vR 10 0 0], σ1)) rfl).trans ?_
  refine (e_ci (m := 142) (pc := 12) (ls := [some (vR 10 0 0), some (vI x1), some (vI x2), some (vI x3), some (vI x4)]) (rest := []) rfl h3).trans ?_
  refine (e_f (B := (142, 15, [some (vR 10 0 0), some (vI x1), some (vI x2), some (vI x3), some (vI x4)], [], σ2)) rfl h4).trans ?_
  refine (e_n 2 (fr' := (142, 18, [some (vR 10 0 0), some (vI x1), some (vI x2), some (vI x3), some (vI x4)], [vI x4, vR 10 0 0], σ2)) rfl).trans ?_
  refine (e_ci (m := 142) (pc := 21) (ls := [some (vR 10 0 0), some (vI x1), some (vI x2), some (vI x3), some (vI x4)]) (rest := []) rfl h5).trans ?_
  exact e_t (A := (142, 24, [some (vR 10 0 0), some (vI x1), some (vI x2), some (vI x3), some (vI x4)], [], σ3)) rfl h6
set_option maxRecDepth 20000 in
theorem g142_0_3 (C : pmC) {σ : pmS} {x1 : Int32} {x2 : Int32} {x3 : Int32} {x4 : Int32} {σ1 : pmS} {r1 : Int32} {σ2 : pmS} {r2 : Int32} {σ3 : pmS} {r3 : Int32} {σ4 : pmS} {r4 : Int32} (h1 : C 118 [vI x1] σ = some (some (vI r1), σ1)) (h2 : ¬ r1 = 0) (h3 : C 134 [vR 10 0 0, vI x3] σ1 = some (some (vI r2), σ2)) (h4 : ¬ r2 = 0) (h5 : C 134 [vR 10 0 0, vI x4] σ2 = some (some (vI r3), σ3)) (h6 : ¬ r3 = 0) (h7 : C 138 [vI x2] σ3 = some (some (vI r4), σ4)) (h8 : r4 = 0) : pq_Rn C (142, 0, [some (vR 10 0 0), some (vI x1), some (vI x2), some (vI x3), some (vI x4)], [], σ) = pq_Rn C (142, 53, [some (vR 10 0 0), some (vI x1), some (vI x2), some (vI x3), some (vI x4)], [], σ4) := by
  refine (e_n 1 (fr' := (142, 1, [some (vR 10 0 0), some (vI x1), some (vI x2), some (vI x3), some (vI x4)], [vI x1], σ)) rfl).trans ?_
  refine (e_ci (m := 142) (pc := 4) (ls := [some (vR 10 0 0), some (vI x1), some (vI x2), some (vI x3), some (vI x4)]) (rest := []) rfl h1).trans ?_
  refine (e_f (B := (142, 7, [some (vR 10 0 0), some (vI x1), some (vI x2), some (vI x3), some (vI x4)], [], σ1)) rfl h2).trans ?_
  refine (e_n 2 (fr' := (142, 9, [some (vR 10 0 0), some (vI x1), some (vI x2), some (vI x3), some (vI x4)], [vI x3, vR 10 0 0], σ1)) rfl).trans ?_
  refine (e_ci (m := 142) (pc := 12) (ls := [some (vR 10 0 0), some (vI x1), some (vI x2), some (vI x3), some (vI x4)]) (rest := []) rfl h3).trans ?_
  refine (e_f (B := (142, 15, [some (vR 10 0 0), some (vI x1), some (vI x2), some (vI x3), some (vI x4)], [], σ2)) rfl h4).trans ?_
  refine (e_n 2 (fr' := (142, 18, [some (vR 10 0 0), some (vI x1), some (vI x2), some (vI x3), some (vI x4)], [vI x4, vR 10 0 0], σ2)) rfl).trans ?_
  refine (e_ci (m := 142) (pc := 21) (ls := [some (vR 10 0 0), some (vI x1), some (vI x2), some (vI x3), some (vI x4)]) (rest := []) rfl h5).trans ?_
  refine (e_f (B := (142, 26, [some (vR 10 0 0), some (vI x1), some (vI x2), some (vI x3), some (vI x4)], [], σ3)) rfl h6).trans ?_
  refine (e_n 1 (fr' := (142, 27, [some (vR 10 0 0), some (vI x1), some (vI x2), some (vI x3), some (vI x4)], [vI x2], σ3)) rfl).trans ?_
  refine (e_ci (m := 142) (pc := 30) (ls := [some (vR 10 0 0), some (vI x1), some (vI x2), some (vI x3), some (vI x4)]) (rest := []) rfl h7).trans ?_
  exact e_t (A := (142, 53, [some (vR 10 0 0), some (vI x1), some (vI x2), some (vI x3), some (vI x4)], [], σ4)) rfl h8
set_option maxRecDepth 20000 in
theorem g142_0_4 (C : pmC) {σ : pmS} {x1 : Int32} {x2 : Int32} {x3 : Int32} {x4 : Int32} {σ1 : pmS} {r1 : Int32} {σ2 : pmS} {r2 : Int32} {σ3 : pmS} {r3 : Int32} {σ4 : pmS} {r4 : Int32} {σ5 : pmS} {r5 : Int32} (h1 : C 118 [vI x1] σ = some (some (vI r1), σ1)) (h2 : ¬ r1 = 0) (h3 : C 134 [vR 10 0 0, vI x3] σ1 = some (some (vI r2), σ2)) (h4 : ¬ r2 = 0) (h5 : C 134 [vR 10 0 0, vI x4] σ2 = some (some (vI r3), σ3)) (h6 : ¬ r3 = 0) (h7 : C 138 [vI x2] σ3 = some (some (vI r4), σ4)) (h8 : ¬ r4 = 0) (h9 : vp_in x3 48) (h10 : (σ4.1 10 0 19 (x3).toNatClampNeg) = (1 : Int32)) (h11 : vp_in x4 48) (h12 : (σ4.1 10 0 19 (x4).toNatClampNeg) = 0) (h13 : C 141 [vR 10 0 0, vI x3, vI x2] σ4 = some (some (vI r5), σ5)) (h14 : r5 = 0) : pq_Rn C (142, 0, [some (vR 10 0 0), some (vI x1), some (vI x2), some (vI x3), some (vI x4)], [], σ) = pq_Rn C (142, 87, [some (vR 10 0 0), some (vI x1), some (vI x2), some (vI x3), some (vI x4)], [], σ5) := by
  refine (e_n 1 (fr' := (142, 1, [some (vR 10 0 0), some (vI x1), some (vI x2), some (vI x3), some (vI x4)], [vI x1], σ)) rfl).trans ?_
  refine (e_ci (m := 142) (pc := 4) (ls := [some (vR 10 0 0), some (vI x1), some (vI x2), some (vI x3), some (vI x4)]) (rest := []) rfl h1).trans ?_
  refine (e_f (B := (142, 7, [some (vR 10 0 0), some (vI x1), some (vI x2), some (vI x3), some (vI x4)], [], σ1)) rfl h2).trans ?_
  refine (e_n 2 (fr' := (142, 9, [some (vR 10 0 0), some (vI x1), some (vI x2), some (vI x3), some (vI x4)], [vI x3, vR 10 0 0], σ1)) rfl).trans ?_
  refine (e_ci (m := 142) (pc := 12) (ls := [some (vR 10 0 0), some (vI x1), some (vI x2), some (vI x3), some (vI x4)]) (rest := []) rfl h3).trans ?_
  refine (e_f (B := (142, 15, [some (vR 10 0 0), some (vI x1), some (vI x2), some (vI x3), some (vI x4)], [], σ2)) rfl h4).trans ?_
  refine (e_n 2 (fr' := (142, 18, [some (vR 10 0 0), some (vI x1), some (vI x2), some (vI x3), some (vI x4)], [vI x4, vR 10 0 0], σ2)) rfl).trans ?_
  refine (e_ci (m := 142) (pc := 21) (ls := [some (vR 10 0 0), some (vI x1), some (vI x2), some (vI x3), some (vI x4)]) (rest := []) rfl h5).trans ?_
  refine (e_f (B := (142, 26, [some (vR 10 0 0), some (vI x1), some (vI x2), some (vI x3), some (vI x4)], [], σ3)) rfl h6).trans ?_
  refine (e_n 1 (fr' := (142, 27, [some (vR 10 0 0), some (vI x1), some (vI x2), some (vI x3), some (vI x4)], [vI x2], σ3)) rfl).trans ?_
  refine (e_ci (m := 142) (pc := 30) (ls := [some (vR 10 0 0), some (vI x1), some (vI x2), some (vI x3), some (vI x4)]) (rest := []) rfl h7).trans ?_
  refine (e_f (B := (142, 33, [some (vR 10 0 0), some (vI x1), some (vI x2), some (vI x3), some (vI x4)], [], σ4)) rfl h8).trans ?_
  refine (e_n 3 (fr' := (142, 38, [some (vR 10 0 0), some (vI x1), some (vI x2), some (vI x3), some (vI x4)], [vI x3, vR 10 0 20], σ4)) rfl).trans ?_
  refine (e_a (A := (142, 39, [some (vR 10 0 0), some (vI x1), some (vI x2), some (vI x3), some (vI x4)], [vI (σ4.1 10 0 19 (x3).toNatClampNeg)], σ4)) rfl h9).trans ?_
  refine (e_n 1 (fr' := (142, 40, [some (vR 10 0 0), some (vI x1), some (vI x2), some (vI x3), some (vI x4)], [vI (1 : Int32), vI (σ4.1 10 0 19 (x3).toNatClampNeg)], σ4)) rfl).trans ?_
  refine (e_t (A := (142, 43, [some (vR 10 0 0), some (vI x1), some (vI x2), some (vI x3), some (vI x4)], [], σ4)) rfl h10).trans ?_
  refine (e_n 3 (fr' := (142, 49, [some (vR 10 0 0), some (vI x1), some (vI x2), some (vI x3), some (vI x4)], [vI x4, vR 10 0 20], σ4)) rfl).trans ?_
  refine (e_a (A := (142, 50, [some (vR 10 0 0), some (vI x1), some (vI x2), some (vI x3), some (vI x4)], [vI (σ4.1 10 0 19 (x4).toNatClampNeg)], σ4)) rfl h11).trans ?_
  refine (e_t (A := (142, 56, [some (vR 10 0 0), some (vI x1), some (vI x2), some (vI x3), some (vI x4)], [], σ4)) rfl h12).trans ?_
  refine (e_n 3 (fr' := (142, 59, [some (vR 10 0 0), some (vI x1), some (vI x2), some (vI x3), some (vI x4)], [vI x2, vI x3, vR 10 0 0], σ4)) rfl).trans ?_
  refine (e_ci (m := 142) (pc := 62) (ls := [some (vR 10 0 0), some (vI x1), some (vI x2), some (vI x3), some (vI x4)]) (rest := []) rfl h13).trans ?_
  exact e_t (A := (142, 87, [some (vR 10 0 0), some (vI x1), some (vI x2), some (vI x3), some (vI x4)], [], σ5)) rfl h14
set_option maxRecDepth 20000 in
theorem g142_0_5 (C : pmC) {σ : pmS} {x1 : Int32} {x2 : Int32} {x3 : Int32} {x4 : Int32} {σ1 : pmS} {r1 : Int32} {σ2 : pmS} {r2 : Int32} {σ3 : pmS} {r3 : Int32} {σ4 : pmS} {r4 : Int32} {σ5 : pmS} {r5 : Int32} {σ6 : pmS} {r6 : Int32} {σ7 : pmS} {r7 : Int32} (h1 : C 118 [vI x1] σ = some (some (vI r1), σ1)) (h2 : ¬ r1 = 0) (h3 : C 134 [vR 10 0 0, vI x3] σ1 = some (some (vI r2), σ2)) (h4 : ¬ r2 = 0) (h5 : C 134 [vR 10 0 0, vI x4] σ2 = some (some (vI r3), σ3)) (h6 : ¬ r3 = 0) (h7 : C 138 [vI x2] σ3 = some (some (vI r4), σ4)) (h8 : ¬ r4 = 0) (h9 : vp_in x3 48) (h10 : (σ4.1 10 0 19 (x3).toNatClampNeg) = (1 : Int32)) (h11 : vp_in x4 48) (h12 : (σ4.1 10 0 19 (x4).toNatClampNeg) = 0) (h13 : C 141 [vR 10 0 0, vI x3, vI x2] σ4 = some (some (vI r5), σ5)) (h14 : ¬ r5 = 0) (h15 : C 141 [vR 10 0 0, vI x4, vI x2] σ5 = some (some (vI r6), σ6)) (h16 : r6 = 0) (h17 : C 141 [vR 10 0 0, vI x4, vI (x2 - (1 : Int32))] σ6 = some (some (vI r7), σ7)) (h18 : r7 = 0) : pq_Rn C (142, 0, [some (vR 10 0 0), some (vI x1), some (vI x2), some (vI x3), some (vI x4)], [], σ) = pq_Rn C (142, 87, [some (vR 10 0 0), some (vI x1), some (vI x2), some (vI x3), some (vI x4)], [], σ7) := by
  refine (e_n 1 (fr' := (142, 1, [some (vR 10 0 0), some (vI x1), some (vI x2), some (vI x3), some (vI x4)], [vI x1], σ)) rfl).trans ?_
  refine (e_ci (m := 142) (pc := 4) (ls := [some (vR 10 0 0), some (vI x1), some (vI x2), some (vI x3), some (vI x4)]) (rest := []) rfl h1).trans ?_
  refine (e_f (B := (142, 7, [some (vR 10 0 0), some (vI x1), some (vI x2), some (vI x3), some (vI x4)], [], σ1)) rfl h2).trans ?_
  refine (e_n 2 (fr' := (142, 9, [some (vR 10 0 0), some (vI x1), some (vI x2), some (vI x3), some (vI x4)], [vI x3, vR 10 0 0], σ1)) rfl).trans ?_
  refine (e_ci (m := 142) (pc := 12) (ls := [some (vR 10 0 0), some (vI x1), some (vI x2), some (vI x3), some (vI x4)]) (rest := []) rfl h3).trans ?_
  refine (e_f (B := (142, 15, [some (vR 10 0 0), some (vI x1), some (vI x2), some (vI x3), some (vI x4)], [], σ2)) rfl h4).trans ?_
  refine (e_n 2 (fr' := (142, 18, [some (vR 10 0 0), some (vI x1), some (vI x2), some (vI x3), some (vI x4)], [vI x4, vR 10 0 0], σ2)) rfl).trans ?_
  refine (e_ci (m := 142) (pc := 21) (ls := [some (vR 10 0 0), some (vI x1), some (vI x2), some (vI x3), some (vI x4)]) (rest := []) rfl h5).trans ?_
  refine (e_f (B := (142, 26, [some (vR 10 0 0), some (vI x1), some (vI x2), some (vI x3), some (vI x4)], [], σ3)) rfl h6).trans ?_
  refine (e_n 1 (fr' := (142, 27, [some (vR 10 0 0), some (vI x1), some (vI x2), some (vI x3), some (vI x4)], [vI x2], σ3)) rfl).trans ?_
  refine (e_ci (m := 142) (pc := 30) (ls := [some (vR 10 0 0), some (vI x1), some (vI x2), some (vI x3), some (vI x4)]) (rest := []) rfl h7).trans ?_
  refine (e_f (B := (142, 33, [some (vR 10 0 0), some (vI x1), some (vI x2), some (vI x3), some (vI x4)], [], σ4)) rfl h8).trans ?_
  refine (e_n 3 (fr' := (142, 38, [some (vR 10 0 0), some (vI x1), some (vI x2), some (vI x3), some (vI x4)], [vI x3, vR 10 0 20], σ4)) rfl).trans ?_
  refine (e_a (A := (142, 39, [some (vR 10 0 0), some (vI x1), some (vI x2), some (vI x3), some (vI x4)], [vI (σ4.1 10 0 19 (x3).toNatClampNeg)], σ4)) rfl h9).trans ?_
  refine (e_n 1 (fr' := (142, 40, [some (vR 10 0 0), some (vI x1), some (vI x2), some (vI x3), some (vI x4)], [vI (1 : Int32), vI (σ4.1 10 0 19 (x3).toNatClampNeg)], σ4)) rfl).trans ?_
  refine (e_t (A := (142, 43, [some (vR 10 0 0), some (vI x1), some (vI x2), some (vI x3), some (vI x4)], [], σ4)) rfl h10).trans ?_
  refine (e_n 3 (fr' := (142, 49, [some (vR 10 0 0), some (vI x1), some (vI x2), some (vI x3), some (vI x4)], [vI x4, vR 10 0 20], σ4)) rfl).trans ?_
  refine (e_a (A := (142, 50, [some (vR 10 0 0), some (vI x1), some (vI x2), some (vI x3), some (vI x4)], [vI (σ4.1 10 0 19 (x4).toNatClampNeg)], σ4)) rfl h11).trans ?_
  refine (e_t (A := (142, 56, [some (vR 10 0 0), some (vI x1), some (vI x2), some (vI x3), some (vI x4)], [], σ4)) rfl h12).trans ?_
  refine (e_n 3 (fr' := (142, 59, [some (vR 10 0 0), some (vI x1), some (vI x2), some (vI x3), some (vI x4)], [vI x2, vI x3, vR 10 0 0], σ4)) rfl).trans ?_
  refine (e_ci (m := 142) (pc := 62) (ls := [some (vR 10 0 0), some (vI x1), some (vI x2), some (vI x3), some (vI x4)]) (rest := []) rfl h13).trans ?_
  refine (e_f (B := (142, 65, [some (vR 10 0 0), some (vI x1), some (vI x2), some (vI x3), some (vI x4)], [], σ5)) rfl h14).trans ?_
  refine (e_n 3 (fr' := (142, 69, [some (vR 10 0 0), some (vI x1), some (vI x2), some (vI x3), some (vI x4)], [vI x2, vI x4, vR 10 0 0], σ5)) rfl).trans ?_
  refine (e_ci (m := 142) (pc := 72) (ls := [some (vR 10 0 0), some (vI x1), some (vI x2), some (vI x3), some (vI x4)]) (rest := []) rfl h15).trans ?_
  refine (e_t (A := (142, 75, [some (vR 10 0 0), some (vI x1), some (vI x2), some (vI x3), some (vI x4)], [], σ6)) rfl h16).trans ?_
  refine (e_n 5 (fr' := (142, 81, [some (vR 10 0 0), some (vI x1), some (vI x2), some (vI x3), some (vI x4)], [vI (x2 - (1 : Int32)), vI x4, vR 10 0 0], σ6)) rfl).trans ?_
  refine (e_ci (m := 142) (pc := 84) (ls := [some (vR 10 0 0), some (vI x1), some (vI x2), some (vI x3), some (vI x4)]) (rest := []) rfl h17).trans ?_
  exact e_t (A := (142, 87, [some (vR 10 0 0), some (vI x1), some (vI x2), some (vI x3), some (vI x4)], [], σ7)) rfl h18
set_option maxRecDepth 20000 in
theorem g142_0_6 (C : pmC) {σ : pmS} {x1 : Int32} {x2 : Int32} {x3 : Int32} {x4 : Int32} {σ1 : pmS} {r1 : Int32} {σ2 : pmS} {r2 : Int32} {σ3 : pmS} {r3 : Int32} {σ4 : pmS} {r4 : Int32} {σ5 : pmS} {r5 : Int32} {σ6 : pmS} {r6 : Int32} {σ7 : pmS} {r7 : Int32} (h1 : C 118 [vI x1] σ = some (some (vI r1), σ1)) (h2 : ¬ r1 = 0) (h3 : C 134 [vR 10 0 0, vI x3] σ1 = some (some (vI r2), σ2)) (h4 : ¬ r2 = 0) (h5 : C 134 [vR 10 0 0, vI x4] σ2 = some (some (vI r3), σ3)) (h6 : ¬ r3 = 0) (h7 : C 138 [vI x2] σ3 = some (some (vI r4), σ4)) (h8 : ¬ r4 = 0) (h9 : vp_in x3 48) (h10 : (σ4.1 10 0 19 (x3).toNatClampNeg) = (1 : Int32)) (h11 : vp_in x4 48) (h12 : (σ4.1 10 0 19 (x4).toNatClampNeg) = 0) (h13 : C 141 [vR 10 0 0, vI x3, vI x2] σ4 = some (some (vI r5), σ5)) (h14 : ¬ r5 = 0) (h15 : C 141 [vR 10 0 0, vI x4, vI x2] σ5 = some (some (vI r6), σ6)) (h16 : r6 = 0) (h17 : C 141 [vR 10 0 0, vI x4, vI (x2 - (1 : Int32))] σ6 = some (some (vI r7), σ7)) (h18 : ¬ r7 = 0) : pq_Rn C (142, 0, [some (vR 10 0 0), some (vI x1), some (vI x2), some (vI x3), some (vI x4)], [], σ) = pq_Rn C (142, 90, [some (vR 10 0 0), some (vI x1), some (vI x2), some (vI x3), some (vI x4)], [], σ7) := by
  refine (e_n 1 (fr' := (142, 1, [some (vR 10 0 0), some (vI x1), some (vI x2), some (vI x3), some (vI x4)], [vI x1], σ)) rfl).trans ?_
  refine (e_ci (m := 142) (pc := 4) (ls := [some (vR 10 0 0), some (vI x1), some (vI x2), some (vI x3), some (vI x4)]) (rest := []) rfl h1).trans ?_
  refine (e_f (B := (142, 7, [some (vR 10 0 0), some (vI x1), some (vI x2), some (vI x3), some (vI x4)], [], σ1)) rfl h2).trans ?_
  refine (e_n 2 (fr' := (142, 9, [some (vR 10 0 0), some (vI x1), some (vI x2), some (vI x3), some (vI x4)], [vI x3, vR 10 0 0], σ1)) rfl).trans ?_
  refine (e_ci (m := 142) (pc := 12) (ls := [some (vR 10 0 0), some (vI x1), some (vI x2), some (vI x3), some (vI x4)]) (rest := []) rfl h3).trans ?_
  refine (e_f (B := (142, 15, [some (vR 10 0 0), some (vI x1), some (vI x2), some (vI x3), some (vI x4)], [], σ2)) rfl h4).trans ?_
  refine (e_n 2 (fr' := (142, 18, [some (vR 10 0 0), some (vI x1), some (vI x2), some (vI x3), some (vI x4)], [vI x4, vR 10 0 0], σ2)) rfl).trans ?_
  refine (e_ci (m := 142) (pc := 21) (ls := [some (vR 10 0 0), some (vI x1), some (vI x2), some (vI x3), some (vI x4)]) (rest := []) rfl h5).trans ?_
  refine (e_f (B := (142, 26, [some (vR 10 0 0), some (vI x1), some (vI x2), some (vI x3), some (vI x4)], [], σ3)) rfl h6).trans ?_
  refine (e_n 1 (fr' := (142, 27, [some (vR 10 0 0), some (vI x1), some (vI x2), some (vI x3), some (vI x4)], [vI x2], σ3)) rfl).trans ?_
  refine (e_ci (m := 142) (pc := 30) (ls := [some (vR 10 0 0), some (vI x1), some (vI x2), some (vI x3), some (vI x4)]) (rest := []) rfl h7).trans ?_
  refine (e_f (B := (142, 33, [some (vR 10 0 0), some (vI x1), some (vI x2), some (vI x3), some (vI x4)], [], σ4)) rfl h8).trans ?_
  refine (e_n 3 (fr' := (142, 38, [some (vR 10 0 0), some (vI x1), some (vI x2), some (vI x3), some (vI x4)], [vI x3, vR 10 0 20], σ4)) rfl).trans ?_
  refine (e_a (A := (142, 39, [some (vR 10 0 0), some (vI x1), some (vI x2), some (vI x3), some (vI x4)], [vI (σ4.1 10 0 19 (x3).toNatClampNeg)], σ4)) rfl h9).trans ?_
  refine (e_n 1 (fr' := (142, 40, [some (vR 10 0 0), some (vI x1), some (vI x2), some (vI x3), some (vI x4)], [vI (1 : Int32), vI (σ4.1 10 0 19 (x3).toNatClampNeg)], σ4)) rfl).trans ?_
  refine (e_t (A := (142, 43, [some (vR 10 0 0), some (vI x1), some (vI x2), some (vI x3), some (vI x4)], [], σ4)) rfl h10).trans ?_
  refine (e_n 3 (fr' := (142, 49, [some (vR 10 0 0), some (vI x1), some (vI x2), some (vI x3), some (vI x4)], [vI x4, vR 10 0 20], σ4)) rfl).trans ?_
  refine (e_a (A := (142, 50, [some (vR 10 0 0), some (vI x1), some (vI x2), some (vI x3), some (vI x4)], [vI (σ4.1 10 0 19 (x4).toNatClampNeg)], σ4)) rfl h11).trans ?_
  refine (e_t (A := (142, 56, [some (vR 10 0 0), some (vI x1), some (vI x2), some (vI x3), some (vI x4)], [], σ4)) rfl h12).trans ?_
  refine (e_n 3 (fr' := (142, 59, [some (vR 10 0 0), some (vI x1), some (vI x2), some (vI x3), some (vI x4)], [vI x2, vI x3, vR 10 0 0], σ4)) rfl).trans ?_
  refine (e_ci (m := 142) (pc := 62) (ls := [some (vR 10 0 0), some (vI x1), some (vI x2), some (vI x3), some (vI x4)]) (rest := []) rfl h13).trans ?_
  refine (e_f (B := (142, 65, [some (vR 10 0 0), some (vI x1), some (vI x2), some (vI x3), some (vI x4)], [], σ5)) rfl h14).trans ?_
  refine (e_n 3 (fr' := (142, 69, [some (vR 10 0 0), some (vI x1), some (vI x2), some (vI x3), some (vI x4)], [vI x2, vI x4, vR 10 0 0], σ5)) rfl).trans ?_
  refine (e_ci (m := 142) (pc := 72) (ls := [some (vR 10 0 0), some (vI x1), some (vI x2), some (vI x3), some (vI x4)]) (rest := []) rfl h15).trans ?_
  refine (e_t (A := (142, 75, [some (vR 10 0 0), some (vI x1), some (vI x2), some (vI x3), some (vI x4)], [], σ6)) rfl h16).trans ?_
  refine (e_n 5 (fr' := (142, 81, [some (vR 10 0 0), some (vI x1), some (vI x2), some (vI x3), some (vI x4)], [vI (x2 - (1 : Int32)), vI x4, vR 10 0 0], σ6)) rfl).trans ?_
  refine (e_ci (m := 142) (pc := 84) (ls := [some (vR 10 0 0), some (vI x1), some (vI x2), some (vI x3), some (vI x4)]) (rest := []) rfl h17).trans ?_
  exact e_f (B := (142, 90, [some (vR 10 0 0), some (vI x1), some (vI x2), some (vI x3), some (vI x4)], [], σ7)) rfl h18
set_option maxRecDepth 20000 in
theorem g142_0_7 (C : pmC) {σ : pmS} {x1 : Int32} {x2 : Int32} {x3 : Int32} {x4 : Int32} {σ1 : pmS} {r1 : Int32} {σ2 : pmS} {r2 : Int32} {σ3 : pmS} {r3 : Int32} {σ4 : pmS} {r4 : Int32} {σ5 : pmS} {r5 : Int32} {σ6 : pmS} {r6 : Int32} (h1 : C 118 [vI x1] σ = some (some (vI r1), σ1)) (h2 : ¬ r1 = 0) (h3 : C 134 [vR 10 0 0, vI x3] σ1 = some (some (vI r2), σ2)) (h4 : ¬ r2 = 0) (h5 : C 134 [vR 10 0 0, vI x4] σ2 = some (some (vI r3), σ3)) (h6 : ¬ r3 = 0) (h7 : C 138 [vI x2] σ3 = some (some (vI r4), σ4)) (h8 : ¬ r4 = 0) (h9 : vp_in x3 48) (h10 : (σ4.1 10 0 19 (x3).toNatClampNeg) = (1 : Int32)) (h11 : vp_in x4 48) (h12 : (σ4.1 10 0 19 (x4).toNatClampNeg) = 0) (h13 : C 141 [vR 10 0 0, vI x3, vI x2] σ4 = some (some (vI r5), σ5)) (h14 : ¬ r5 = 0) (h15 : C 141 [vR 10 0 0, vI x4, vI x2] σ5 = some (some (vI r6), σ6)) (h16 : ¬ r6 = 0) : pq_Rn C (142, 0, [some (vR 10 0 0), some (vI x1), some (vI x2), some (vI x3), some (vI x4)], [], σ) = pq_Rn C (142, 90, [some (vR 10 0 0), some (vI x1), some (vI x2), some (vI x3), some (vI x4)], [], σ6) := by
  refine (e_n 1 (fr' := (142, 1, [some (vR 10 0 0), some (vI x1), some (vI x2), some (vI x3), some (vI x4)], [vI x1], σ)) rfl).trans ?_
  refine (e_ci (m := 142) (pc := 4) (ls := [some (vR 10 0 0), some (vI x1), some (vI x2), some (vI x3), some (vI x4)]) (rest := []) rfl h1).trans ?_
  refine (e_f (B := (142, 7, [some (vR 10 0 0), some (vI x1), some (vI x2), some (vI x3), some (vI x4)], [], σ1)) rfl h2).trans ?_
  refine (e_n 2 (fr' := (142, 9, [some (vR 10 0 0), some (vI x1), some (vI x2), some (vI x3), some (vI x4)], [vI x3, vR 10 0 0], σ1)) rfl).trans ?_
  refine (e_ci (m := 142) (pc := 12) (ls := [some (vR 10 0 0), some (vI x1), some (vI x2), some (vI x3), some (vI x4)]) (rest := []) rfl h3).trans ?_
  refine (e_f (B := (142, 15, [some (vR 10 0 0), some (vI x1), some (vI x2), some (vI x3), some (vI x4)], [], σ2)) rfl h4).trans ?_
  refine (e_n 2 (fr' := (142, 18, [some (vR 10 0 0), some (vI x1), some (vI x2), some (vI x3), some (vI x4)], [vI x4, vR 10 0 0], σ2)) rfl).trans ?_
  refine (e_ci (m := 142) (pc := 21) (ls := [some (vR 10 0 0), some (vI x1), some (vI x2), some (vI x3), some (vI x4)]) (rest := []) rfl h5).trans ?_
  refine (e_f (B := (142, 26, [some (vR 10 0 0), some (vI x1), some (vI x2), some (vI x3), some (vI x4)], [], σ3)) rfl h6).trans ?_
  refine (e_n 1 (fr' := (142, 27, [some (vR 10 0 0), some (vI x1), some (vI x2), some (vI x3), some (vI x4)], [vI x2], σ3)) rfl).trans ?_
  refine (e_ci (m := 142) (pc := 30) (ls := [some (vR 10 0 0), some (vI x1), some (vI x2), some (vI x3), some (vI x4)]) (rest := []) rfl h7).trans ?_
  refine (e_f (B := (142, 33, [some (vR 10 0 0), some (vI x1), some (vI x2), some (vI x3), some (vI x4)], [], σ4)) rfl h8).trans ?_
  refine (e_n 3 (fr' := (142, 38, [some (vR 10 0 0), some (vI x1), some (vI x2), some (vI x3), some (vI x4)], [vI x3, vR 10 0 20], σ4)) rfl).trans ?_
  refine (e_a (A := (142, 39, [some (vR 10 0 0), some (vI x1), some (vI x2), some (vI x3), some (vI x4)], [vI (σ4.1 10 0 19 (x3).toNatClampNeg)], σ4)) rfl h9).trans ?_
  refine (e_n 1 (fr' := (142, 40, [some (vR 10 0 0), some (vI x1), some (vI x2), some (vI x3), some (vI x4)], [vI (1 : Int32), vI (σ4.1 10 0 19 (x3).toNatClampNeg)], σ4)) rfl).trans ?_
  refine (e_t (A := (142, 43, [some (vR 10 0 0), some (vI x1), some (vI x2), some (vI x3), some (vI x4)], [], σ4)) rfl h10).trans ?_
  refine (e_n 3 (fr' := (142, 49, [some (vR 10 0 0), some (vI x1), some (vI x2), some (vI x3), some (vI x4)], [vI x4, vR 10 0 20], σ4)) rfl).trans ?_
  refine (e_a (A := (142, 50, [some (vR 10 0 0), some (vI x1), some (vI x2), some (vI x3), some (vI x4)], [vI (σ4.1 10 0 19 (x4).toNatClampNeg)], σ4)) rfl h11).trans ?_
  refine (e_t (A := (142, 56, [some (vR 10 0 0), some (vI x1), some (vI x2), some (vI x3), some (vI x4)], [], σ4)) rfl h12).trans ?_
  refine (e_n 3 (fr' := (142, 59, [some (vR 10 0 0), some (vI x1), some (vI x2), some (vI x3), some (vI x4)], [vI x2, vI x3, vR 10 0 0], σ4)) rfl).trans ?_
  refine (e_ci (m := 142) (pc := 62) (ls := [some (vR 10 0 0), some (vI x1), some (vI x2), some (vI x3), some (vI x4)]) (rest := []) rfl h13).trans ?_
  refine (e_f (B := (142, 65, [some (vR 10 0 0), some (vI x1), some (vI x2), some (vI x3), some (vI x4)], [], σ5)) rfl h14).trans ?_
  refine (e_n 3 (fr' := (142, 69, [some (vR 10 0 0), some (vI x1), some (vI x2), some (vI x3), some (vI x4)], [vI x2, vI x4, vR 10 0 0], σ5)) rfl).trans ?_
  refine (e_ci (m := 142) (pc := 72) (ls := [some (vR 10 0 0), some (vI x1), some (vI x2), some (vI x3), some (vI x4)]) (rest := []) rfl h15).trans ?_
  exact e_f (B := (142, 90, [some (vR 10 0 0), some (vI x1), some (vI x2), some (vI x3), some (vI x4)], [], σ6)) rfl h16
set_option maxRecDepth 20000 in
theorem g142_0_8 (C : pmC) {σ : pmS} {x1 : Int32} {x2 : Int32} {x3 : Int32} {x4 : Int32} {σ1 : pmS} {r1 : Int32} {σ2 : pmS} {r2 : Int32} {σ3 : pmS} {r3 : Int32} {σ4 : pmS} {r4 : Int32} (h1 : C 118 [vI x1] σ = some (some (vI r1), σ1)) (h2 : ¬ r1 = 0) (h3 : C 134 [vR 10 0 0, vI x3] σ1 = some (some (vI r2), σ2)) (h4 : ¬ r2 = 0) (h5 : C 134 [vR 10 0 0, vI x4] σ2 = some (some (vI r3), σ3)) (h6 : ¬ r3 = 0) (h7 : C 138 [vI x2] σ3 = some (some (vI r4), σ4)) (h8 : ¬ r4 = 0) (h9 : vp_in x3 48) (h10 : (σ4.1 10 0 19 (x3).toNatClampNeg) = (1 : Int32)) (h11 : vp_in x4 48) (h12 : ¬ (σ4.1 10 0 19 (x4).toNatClampNeg) = 0) : pq_Rn C (142, 0, [some (vR 10 0 0), some (vI x1), some (vI x2), some (vI x3), some (vI x4)], [], σ) = pq_Rn C (142, 53, [some (vR 10 0 0), some (vI x1), some (vI x2), some (vI x3), some (vI x4)], [], σ4) := by
  refine (e_n 1 (fr' := (142, 1, [some (vR 10 0 0), some (vI x1), some (vI x2), some (vI x3), some (vI x4)], [vI x1], σ)) rfl).trans ?_
  refine (e_ci (m := 142) (pc := 4) (ls := [some (vR 10 0 0), some (vI x1), some (vI x2), some (vI x3), some (vI x4)]) (rest := []) rfl h1).trans ?_
  refine (e_f (B := (142, 7, [some (vR 10 0 0), some (vI x1), some (vI x2), some (vI x3), some (vI x4)], [], σ1)) rfl h2).trans ?_
  refine (e_n 2 (fr' := (142, 9, [some (vR 10 0 0), some (vI x1), some (vI x2), some (vI x3), some (vI x4)], [vI x3, vR 10 0 0], σ1)) rfl).trans ?_
  refine (e_ci (m := 142) (pc := 12) (ls := [some (vR 10 0 0), some (vI x1), some (vI x2), some (vI x3), some (vI x4)]) (rest := []) rfl h3).trans ?_
  refine (e_f (B := (142, 15, [some (vR 10 0 0), some (vI x1), some (vI x2), some (vI x3), some (vI x4)], [], σ2)) rfl h4).trans ?_
  refine (e_n 2 (fr' := (142, 18, [some (vR 10 0 0), some (vI x1), some (vI x2), some (vI x3), some (vI x4)], [vI x4, vR 10 0 0], σ2)) rfl).trans ?_
  refine (e_ci (m := 142) (pc := 21) (ls := [some (vR 10 0 0), some (vI x1), some (vI x2), some (vI x3), some (vI x4)]) (rest := []) rfl h5).trans ?_
  refine (e_f (B := (142, 26, [some (vR 10 0 0), some (vI x1), some (vI x2), some (vI x3), some (vI x4)], [], σ3)) rfl h6).trans ?_
  refine (e_n 1 (fr' := (142, 27, [some (vR 10 0 0), some (vI x1), some (vI x2), some (vI x3), some (vI x4)], [vI x2], σ3)) rfl).trans ?_
  refine (e_ci (m := 142) (pc := 30) (ls := [some (vR 10 0 0), some (vI x1), some (vI x2), some (vI x3), some (vI x4)]) (rest := []) rfl h7).trans ?_
  refine (e_f (B := (142, 33, [some (vR 10 0 0), some (vI x1), some (vI x2), some (vI x3), some (vI x4)], [], σ4)) rfl h8).trans ?_
  refine (e_n 3 (fr' := (142, 38, [some (vR 10 0 0), some (vI x1), some (vI x2), some (vI x3), some (vI x4)], [vI x3, vR 10 0 20], σ4)) rfl).trans ?_
  refine (e_a (A := (142, 39, [some (vR 10 0 0), some (vI x1), some (vI x2), some (vI x3), some (vI x4)], [vI (σ4.1 10 0 19 (x3).toNatClampNeg)], σ4)) rfl h9).trans ?_
  refine (e_n 1 (fr' := (142, 40, [some (vR 10 0 0), some (vI x1), some (vI x2), some (vI x3), some (vI x4)], [vI (1 : Int32), vI (σ4.1 10 0 19 (x3).toNatClampNeg)], σ4)) rfl).trans ?_
  refine (e_t (A := (142, 43, [some (vR 10 0 0), some (vI x1), some (vI x2), some (vI x3), some (vI x4)], [], σ4)) rfl h10).trans ?_
  refine (e_n 3 (fr' := (142, 49, [some (vR 10 0 0), some (vI x1), some (vI x2), some (vI x3), some (vI x4)], [vI x4, vR 10 0 20], σ4)) rfl).trans ?_
  refine (e_a (A := (142, 50, [some (vR 10 0 0), some (vI x1), some (vI x2), some (vI x3), some (vI x4)], [vI (σ4.1 10 0 19 (x4).toNatClampNeg)], σ4)) rfl h11).trans ?_
  exact e_f (B := (142, 53, [some (vR 10 0 0), some (vI x1), some (vI x2), some (vI x3), some (vI x4)], [], σ4)) rfl h12
set_option maxRecDepth 20000 in
theorem g142_0_9 (C : pmC) {σ : pmS} {x1 : Int32} {x2 : Int32} {x3 : Int32} {x4 : Int32} {σ1 : pmS} {r1 : Int32} {σ2 : pmS} {r2 : Int32} {σ3 : pmS} {r3 : Int32} {σ4 : pmS} {r4 : Int32} (h1 : C 118 [vI x1] σ = some (some (vI r1), σ1)) (h2 : ¬ r1 = 0) (h3 : C 134 [vR 10 0 0, vI x3] σ1 = some (some (vI r2), σ2)) (h4 : ¬ r2 = 0) (h5 : C 134 [vR 10 0 0, vI x4] σ2 = some (some (vI r3), σ3)) (h6 : ¬ r3 = 0) (h7 : C 138 [vI x2] σ3 = some (some (vI r4), σ4)) (h8 : ¬ r4 = 0) (h9 : vp_in x3 48) (h10 : ¬ (σ4.1 10 0 19 (x3).toNatClampNeg) = (1 : Int32)) : pq_Rn C (142, 0, [some (vR 10 0 0), some (vI x1), some (vI x2), some (vI x3), some (vI x4)], [], σ) = pq_Rn C (142, 53, [some (vR 10 0 0), some (vI x1), some (vI x2), some (vI x3), some (vI x4)], [], σ4) := by
  refine (e_n 1 (fr' := (142, 1, [some (vR 10 0 0), some (vI x1), some (vI x2), some (vI x3), some (vI x4)], [vI x1], σ)) rfl).trans ?_
  refine (e_ci (m := 142) (pc := 4) (ls := [some (vR 10 0 0), some (vI x1), some (vI x2), some (vI x3), some (vI x4)]) (rest := []) rfl h1).trans ?_
  refine (e_f (B := (142, 7, [some (vR 10 0 0), some (vI x1), some (vI x2), some (vI x3), some (vI x4)], [], σ1)) rfl h2).trans ?_
  refine (e_n 2 (fr' := (142, 9, [some (vR 10 0 0), some (vI x1), some (vI x2), some (vI x3), some (vI x4)], [vI x3, vR 10 0 0], σ1)) rfl).trans ?_
  refine (e_ci (m := 142) (pc := 12) (ls := [some (vR 10 0 0), some (vI x1), some (vI x2), some (vI x3), some (vI x4)]) (rest := []) rfl h3).trans ?_
  refine (e_f (B := (142, 15, [some (vR 10 0 0), some (vI x1), some (vI x2), some (vI x3), some (vI x4)], [], σ2)) rfl h4).trans ?_
  refine (e_n 2 (fr' := (142, 18, [some (vR 10 0 0), some (vI x1), some (vI x2), some (vI x3), some (vI x4)], [vI x4, vR 10 0 0], σ2)) rfl).trans ?_
  refine (e_ci (m := 142) (pc := 21) (ls := [some (vR 10 0 0), some (vI x1), some (vI x2), some (vI x3), some (vI x4)]) (rest := []) rfl h5).trans ?_
  refine (e_f (B := (142, 26, [some (vR 10 0 0), some (vI x1), some (vI x2), some (vI x3), some (vI x4)], [], σ3)) rfl h6).trans ?_
  refine (e_n 1 (fr' := (142, 27, [some (vR 10 0 0), some (vI x1), some (vI x2), some (vI x3), some (vI x4)], [vI x2], σ3)) rfl).trans ?_
  refine (e_ci (m := 142) (pc := 30) (ls := [some (vR 10 0 0), some (vI x1), some (vI x2), some (vI x3), some (vI x4)]) (rest := []) rfl h7).trans ?_
  refine (e_f (B := (142, 33, [some (vR 10 0 0), some (vI x1), some (vI x2), some (vI x3), some (vI x4)], [], σ4)) rfl h8).trans ?_
  refine (e_n 3 (fr' := (142, 38, [some (vR 10 0 0), some (vI x1), some (vI x2), some (vI x3), some (vI x4)], [vI x3, vR 10 0 20], σ4)) rfl).trans ?_
  refine (e_a (A := (142, 39, [some (vR 10 0 0), some (vI x1), some (vI x2), some (vI x3), some (vI x4)], [vI (σ4.1 10 0 19 (x3).toNatClampNeg)], σ4)) rfl h9).trans ?_
  refine (e_n 1 (fr' := (142, 40, [some (vR 10 0 0), some (vI x1), some (vI x2), some (vI x3), some (vI x4)], [vI (1 : Int32), vI (σ4.1 10 0 19 (x3).toNatClampNeg)], σ4)) rfl).trans ?_
  exact e_f (B := (142, 53, [some (vR 10 0 0), some (vI x1), some (vI x2), some (vI x3), some (vI x4)], [], σ4)) rfl h10
set_option maxRecDepth 20000 in
theorem g142_24_0 (C : pmC) {σ : pmS} {l0 : Option pmV} {l1 : Option pmV} {l2 : Option pmV} {l3 : Option pmV} {l4 : Option pmV}  : pq_Rn C (142, 24, [l0, l1, l2, l3, l4], [], σ) = some (some (vI (-1 : Int32)), σ) := by
  refine (e_n 1 (fr' := (142, 25, [l0, l1, l2, l3, l4], [vI (-1 : Int32)], σ)) rfl).trans ?_
  exact e_r rfl
set_option maxRecDepth 20000 in
theorem g142_53_0 (C : pmC) {σ : pmS} {l0 : Option pmV} {l1 : Option pmV} {l2 : Option pmV} {l3 : Option pmV} {l4 : Option pmV}  : pq_Rn C (142, 53, [l0, l1, l2, l3, l4], [], σ) = some (some (vI (-2 : Int32)), σ) := by
  refine (e_n 1 (fr' := (142, 55, [l0, l1, l2, l3, l4], [vI (-2 : Int32)], σ)) rfl).trans ?_
  exact e_r rfl
set_option maxRecDepth 20000 in
theorem g142_87_0 (C : pmC) {σ : pmS} {l0 : Option pmV} {l1 : Option pmV} {l2 : Option pmV} {l3 : Option pmV} {l4 : Option pmV}  : pq_Rn C (142, 87, [l0, l1, l2, l3, l4], [], σ) = some (some (vI (-3 : Int32)), σ) := by
  refine (e_n 1 (fr' := (142, 89, [l0, l1, l2, l3, l4], [vI (-3 : Int32)], σ)) rfl).trans ?_
  exact e_r rfl
set_option maxRecDepth 20000 in
theorem g142_90_0 (C : pmC) {σ : pmS} {x1 : Int32} {x2 : Int32} {x3 : Int32} {x4 : Int32} (h1 : vp_in x3 48) (h2 : (x2 - (σ.1 10 0 20 (x3).toNatClampNeg)) < (12 : Int32)) : pq_Rn C (142, 90, [some (vR 10 0 0), some (vI x1), some (vI x2), some (vI x3), some (vI x4)], [], σ) = pq_Rn C (142, 117, [some (vR 10 0 0), some (vI x1), some (vI x2), some (vI x3), some (vI x4)], [], σ) := by
  refine (e_n 4 (fr' := (142, 96, [some (vR 10 0 0), some (vI x1), some (vI x2), some (vI x3), some (vI x4)], [vI x3, vR 10 0 21, vI x2], σ)) rfl).trans ?_
  refine (e_a (A := (142, 97, [some (vR 10 0 0), some (vI x1), some (vI x2), some (vI x3), some (vI x4)], [vI (σ.1 10 0 20 (x3).toNatClampNeg), vI x2], σ)) rfl h1).trans ?_
  refine (e_n 2 (fr' := (142, 100, [some (vR 10 0 0), some (vI x1), some (vI x2), some (vI x3), some (vI x4)], [vI (12 : Int32), vI (x2 - (σ.1 10 0 20 (x3).toNatClampNeg))], σ)) rfl).trans ?_
  exact e_t (A := (142, 117, [some (vR 10 0 0), some (vI x1), some (vI x2), some (vI x3), some (vI x4)], [], σ)) rfl h2
set_option maxRecDepth 20000 in
theorem g142_90_1 (C : pmC) {σ : pmS} {x1 : Int32} {x2 : Int32} {x3 : Int32} {x4 : Int32} (h1 : vp_in x3 48) (h2 : ¬ (x2 - (σ.1 10 0 20 (x3).toNatClampNeg)) < (12 : Int32)) (h3 : vp_in x4 48) (h4 : (12 : Int32) ≤ (x2 - (σ.1 10 0 20 (x4).toNatClampNeg))) (h5 : (σ.1 10 0 16 0) = (48 : Int32)) : pq_Rn C (142, 90, [some (vR 10 0 0), some (vI x1), some (vI x2), some (vI x3), some (vI x4)], [], σ) = pq_Rn C (142, 150, [some (vR 10 0 0), some (vI x1), some (vI x2), some (vI x3), some (vI x4)], [vI (-4 : Int32)], σ) := by
  refine (e_n 4 (fr' := (142, 96, [some (vR 10 0 0), some (vI x1), some (vI x2), some (vI x3), some (vI x4)], [vI x3, vR 10 0 21, vI x2], σ)) rfl).trans ?_
  refine (e_a (A := (142, 97, [some (vR 10 0 0), some (vI x1), some (vI x2), some (vI x3), some (vI x4)], [vI (σ.1 10 0 20 (x3).toNatClampNeg), vI x2], σ)) rfl h1).trans ?_
  refine (e_n 2 (fr' := (142, 100, [some (vR 10 0 0), some (vI x1), some (vI x2), some (vI x3), some (vI x4)], [vI (12 : Int32), vI (x2 - (σ.1 10 0 20 (x3).toNatClampNeg))], σ)) rfl).trans ?_
  refine (e_f (B := (142, 103, [some (vR 10 0 0), some (vI x1), some (vI x2), some (vI x3), some (vI x4)], [], σ)) rfl h2).trans ?_
  refine (e_n 4 (fr' := (142, 110, [some (vR 10 0 0), some (vI x1), some (vI x2), some (vI x3), some (vI x4)], [vI x4, vR 10 0 21, vI x2], σ)) rfl).trans ?_
  refine (e_a (A := (142, 111, [some (vR 10 0 0), some (vI x1), some (vI x2), some (vI x3), some (vI x4)], [vI (σ.1 10 0 20 (x4).toNatClampNeg), vI x2], σ)) rfl h3).trans ?_
  refine (e_n 2 (fr' := (142, 114, [some (vR 10 0 0), some (vI x1), some (vI x2), some (vI x3), some (vI x4)], [vI (12 : Int32), vI (x2 - (σ.1 10 0 20 (x4).toNatClampNeg))], σ)) rfl).trans ?_
  refine (e_t (A := (142, 120, [some (vR 10 0 0), some (vI x1), some (vI x2), some (vI x3), some (vI x4)], [], σ)) rfl h4).trans ?_
  refine (e_n 3 (fr' := (142, 126, [some (vR 10 0 0), some (vI x1), some (vI x2), some (vI x3), some (vI x4)], [vI (48 : Int32), vI (σ.1 10 0 16 0)], σ)) rfl).trans ?_
  refine (e_t (A := (142, 129, [some (vR 10 0 0), some (vI x1), some (vI x2), some (vI x3), some (vI x4)], [], σ)) rfl h5).trans ?_
  exact e_n 2 rfl
set_option maxRecDepth 20000 in
theorem g142_90_2 (C : pmC) {σ : pmS} {x1 : Int32} {x2 : Int32} {x3 : Int32} {x4 : Int32} {σ1 : pmS} {r1 : Int32} (h1 : vp_in x3 48) (h2 : ¬ (x2 - (σ.1 10 0 20 (x3).toNatClampNeg)) < (12 : Int32)) (h3 : vp_in x4 48) (h4 : (12 : Int32) ≤ (x2 - (σ.1 10 0 20 (x4).toNatClampNeg))) (h5 : ¬ (σ.1 10 0 16 0) = (48 : Int32)) (h6 : C 139 [vR 10 0 0, vI x1, vI x2, vI (σ.1 10 0 22 (x3).toNatClampNeg), vI x3, vI x4, vI (-1 : Int32)] σ = some (some (vI r1), σ1)) : pq_Rn C (142, 90, [some (vR 10 0 0), some (vI x1), some (vI x2), some (vI x3), some (vI x4)], [], σ) = pq_Rn C (142, 150, [some (vR 10 0 0), some (vI x1), some (vI x2), some (vI x3), some (vI x4)], [vI r1], σ1) := by
  refine (e_n 4 (fr' := (142, 96, [some (vR 10 0 0), some (vI x1), some (vI x2), some (vI x3), some (vI x4)], [vI x3, vR 10 0 21, vI x2], σ)) rfl).trans ?_
  refine (e_a (A := (142, 97, [some (vR 10 0 0), some (vI x1), some (vI x2), some (vI x3), some (vI x4)], [vI (σ.1 10 0 20 (x3).toNatClampNeg), vI x2], σ)) rfl h1).trans ?_
  refine (e_n 2 (fr' := (142, 100, [some (vR 10 0 0), some (vI x1), some (vI x2), some (vI x3), some (vI x4)], [vI (12 : Int32), vI (x2 - (σ.1 10 0 20 (x3).toNatClampNeg))], σ)) rfl).trans ?_
  refine (e_f (B := (142, 103, [some (vR 10 0 0), some (vI x1), some (vI x2), some (vI x3), some (vI x4)], [], σ)) rfl h2).trans ?_
  refine (e_n 4 (fr' := (142, 110, [some (vR 10 0 0), some (vI x1), some (vI x2), some (vI x3), some (vI x4)], [vI x4, vR 10 0 21, vI x2], σ)) rfl).trans ?_
  refine (e_a (A := (142, 111, [some (vR 10 0 0), some (vI x1), some (vI x2), some (vI x3), some (vI x4)], [vI (σ.1 10 0 20 (x4).toNatClampNeg), vI x2], σ)) rfl h3).trans ?_
  refine (e_n 2 (fr' := (142, 114, [some (vR 10 0 0), some (vI x1), some (vI x2), some (vI x3), some (vI x4)], [vI (12 : Int32), vI (x2 - (σ.1 10 0 20 (x4).toNatClampNeg))], σ)) rfl).trans ?_
  refine (e_t (A := (142, 120, [some (vR 10 0 0), some (vI x1), some (vI x2), some (vI x3), some (vI x4)], [], σ)) rfl h4).trans ?_
  refine (e_n 3 (fr' := (142, 126, [some (vR 10 0 0), some (vI x1), some (vI x2), some (vI x3), some (vI x4)], [vI (48 : Int32), vI (σ.1 10 0 16 0)], σ)) rfl).trans ?_
  refine (e_f (B := (142, 134, [some (vR 10 0 0), some (vI x1), some (vI x2), some (vI x3), some (vI x4)], [], σ)) rfl h5).trans ?_
  refine (e_n 6 (fr' := (142, 142, [some (vR 10 0 0), some (vI x1), some (vI x2), some (vI x3), some (vI x4)], [vI x3, vR 10 0 23, vI x2, vI x1, vR 10 0 0], σ)) rfl).trans ?_
  refine (e_a (A := (142, 143, [some (vR 10 0 0), some (vI x1), some (vI x2), some (vI x3), some (vI x4)], [vI (σ.1 10 0 22 (x3).toNatClampNeg), vI x2, vI x1, vR 10 0 0], σ)) rfl h1).trans ?_
  refine (e_n 3 (fr' := (142, 147, [some (vR 10 0 0), some (vI x1), some (vI x2), some (vI x3), some (vI x4)], [vI (-1 : Int32), vI x4, vI x3, vI (σ.1 10 0 22 (x3).toNatClampNeg), vI x2, vI x1, vR 10 0 0], σ)) rfl).trans ?_
  exact e_ci (m := 142) (pc := 150) (ls := [some (vR 10 0 0), some (vI x1), some (vI x2), some (vI x3), some (vI x4)]) (rest := []) rfl h6
set_option maxRecDepth 20000 in
theorem g142_90_3 (C : pmC) {σ : pmS} {x1 : Int32} {x2 : Int32} {x3 : Int32} {x4 : Int32} (h1 : vp_in x3 48) (h2 : ¬ (x2 - (σ.1 10 0 20 (x3).toNatClampNeg)) < (12 : Int32)) (h3 : vp_in x4 48) (h4 : ¬ (12 : Int32) ≤ (x2 - (σ.1 10 0 20 (x4).toNatClampNeg))) : pq_Rn C (142, 90, [some (vR 10 0 0), some (vI x1), some (vI x2), some (vI x3), some (vI x4)], [], σ) = pq_Rn C (142, 117, [some (vR 10 0 0), some (vI x1), some (vI x2), some (vI x3), some (vI x4)], [], σ) := by
  refine (e_n 4 (fr' := (142, 96, [some (vR 10 0 0), some (vI x1), some (vI x2), some (vI x3), some (vI x4)], [vI x3, vR 10 0 21, vI x2], σ)) rfl).trans ?_
  refine (e_a (A := (142, 97, [some (vR 10 0 0), some (vI x1), some (vI x2), some (vI x3), some (vI x4)], [vI (σ.1 10 0 20 (x3).toNatClampNeg), vI x2], σ)) rfl h1).trans ?_
  refine (e_n 2 (fr' := (142, 100, [some (vR 10 0 0), some (vI x1), some (vI x2), some (vI x3), some (vI x4)], [vI (12 : Int32), vI (x2 - (σ.1 10 0 20 (x3).toNatClampNeg))], σ)) rfl).trans ?_
  refine (e_f (B := (142, 103, [some (vR 10 0 0), some (vI x1), some (vI x2), some (vI x3), some (vI x4)], [], σ)) rfl h2).trans ?_
  refine (e_n 4 (fr' := (142, 110, [some (vR 10 0 0), some (vI x1), some (vI x2), some (vI x3), some (vI x4)], [vI x4, vR 10 0 21, vI x2], σ)) rfl).trans ?_
  refine (e_a (A := (142, 111, [some (vR 10 0 0), some (vI x1), some (vI x2), some (vI x3), some (vI x4)], [vI (σ.1 10 0 20 (x4).toNatClampNeg), vI x2], σ)) rfl h3).trans ?_
  refine (e_n 2 (fr' := (142, 114, [some (vR 10 0 0), some (vI x1), some (vI x2), some (vI x3), some (vI x4)], [vI (12 : Int32), vI (x2 - (σ.1 10 0 20 (x4).toNatClampNeg))], σ)) rfl).trans ?_
  exact e_f (B := (142, 117, [some (vR 10 0 0), some (vI x1), some (vI x2), some (vI x3), some (vI x4)], [], σ)) rfl h4
set_option maxRecDepth 20000 in
theorem g142_117_0 (C : pmC) {σ : pmS} {l0 : Option pmV} {l1 : Option pmV} {l2 : Option pmV} {l3 : Option pmV} {l4 : Option pmV}  : pq_Rn C (142, 117, [l0, l1, l2, l3, l4], [], σ) = some (some (vI (-3 : Int32)), σ) := by
  refine (e_n 1 (fr' := (142, 119, [l0, l1, l2, l3, l4], [vI (-3 : Int32)], σ)) rfl).trans ?_
  exact e_r rfl
set_option maxRecDepth 20000 in
theorem g142_150_0 (C : pmC) {σ : pmS} {l0 : Option pmV} {l1 : Option pmV} {l2 : Option pmV} {l3 : Option pmV} {l4 : Option pmV} {s0 : Int32}  : pq_Rn C (142, 150, [l0, l1, l2, l3, l4], [vI s0], σ) = some (some (vI s0), σ) := by
  exact e_r rfl
set_option maxRecDepth 20000 in
theorem g143_0_0 (C : pmC) {σ : pmS} {x1 : Int32} {x2 : Int32} {σ1 : pmS} {r1 : Int32} (h1 : C 134 [vR 10 0 0, vI x1] σ = some (some (vI r1), σ1)) (h2 : r1 = 0) : pq_Rn C (143, 0, [some (vR 10 0 0), some (vI x1), some (vI x2)], [], σ) = some (some (vI (-1 : Int32)), σ1) := by
  refine (e_n 2 (fr' := (143, 2, [some (vR 10 0 0), some (vI x1), some (vI x2)], [vI x1, vR 10 0 0], σ)) rfl).trans ?_
  refine (e_ci (m := 143) (pc := 5) (ls := [some (vR 10 0 0), some (vI x1), some (vI x2)]) (rest := []) rfl h1).trans ?_
  refine (e_t (A := (143, 8, [some (vR 10 0 0), some (vI x1), some (vI x2)], [], σ1)) rfl h2).trans ?_
  refine (e_n 1 (fr' := (143, 9, [some (vR 10 0 0), some (vI x1), some (vI x2)], [vI (-1 : Int32)], σ1)) rfl).trans ?_
  exact e_r rfl
set_option maxRecDepth 20000 in
theorem g143_0_1 (C : pmC) {σ : pmS} {x1 : Int32} {x2 : Int32} {σ1 : pmS} {r1 : Int32} (h1 : C 134 [vR 10 0 0, vI x1] σ = some (some (vI r1), σ1)) (h2 : ¬ r1 = 0) (h3 : vp_in x1 48) (h4 : x2 ≤ (σ1.1 10 0 20 (x1).toNatClampNeg)) : pq_Rn C (143, 0, [some (vR 10 0 0), some (vI x1), some (vI x2)], [], σ) = some (some (vI (-2 : Int32)), σ1) := by
  refine (e_n 2 (fr' := (143, 2, [some (vR 10 0 0), some (vI x1), some (vI x2)], [vI x1, vR 10 0 0], σ)) rfl).trans ?_
  refine (e_ci (m := 143) (pc := 5) (ls := [some (vR 10 0 0), some (vI x1), some (vI x2)]) (rest := []) rfl h1).trans ?_
  refine (e_f (B := (143, 10, [some (vR 10 0 0), some (vI x1), some (vI x2)], [], σ1)) rfl h2).trans ?_
  refine (e_n 4 (fr' := (143, 16, [some (vR 10 0 0), some (vI x1), some (vI x2)], [vI x1, vR 10 0 21, vI x2], σ1)) rfl).trans ?_
  refine (e_a (A := (143, 17, [some (vR 10 0 0), some (vI x1), some (vI x2)], [vI (σ1.1 10 0 20 (x1).toNatClampNeg), vI x2], σ1)) rfl h3).trans ?_
  refine (e_t (A := (143, 27, [some (vR 10 0 0), some (vI x1), some (vI x2)], [], σ1)) rfl h4).trans ?_
  refine (e_n 1 (fr' := (143, 29, [some (vR 10 0 0), some (vI x1), some (vI x2)], [vI (-2 : Int32)], σ1)) rfl).trans ?_
  exact e_r rfl
set_option maxRecDepth 20000 in
theorem g143_0_2 (C : pmC) {σ : pmS} {x1 : Int32} {x2 : Int32} {σ1 : pmS} {r1 : Int32} (h1 : C 134 [vR 10 0 0, vI x1] σ = some (some (vI r1), σ1)) (h2 : ¬ r1 = 0) (h3 : vp_in x1 48) (h4 : ¬ x2 ≤ (σ1.1 10 0 20 (x1).toNatClampNeg)) (h5 : x2 ≤ (1000 : Int32)) (h6 : (σ1.1 10 0 21 (x1).toNatClampNeg) = (-1 : Int32)) : pq_Rn C (143, 0, [some (vR 10 0 0), some (vI x1), some (vI x2)], [], σ) = some (some (vI (0 : Int32)), (pm_wi σ1 10 0 21 (x1).toNatClampNeg x2)) := by
  refine (e_n 2 (fr' := (143, 2, [some (vR 10 0 0), some (vI x1), some (vI x2)], [vI x1, vR 10 0 0], σ)) rfl).trans ?_
  refine (e_ci (m := 143) (pc := 5) (ls := [some (vR 10 0 0), some (vI x1), some (vI x2)]) (rest := []) rfl h1).trans ?_
  refine (e_f (B := (143, 10, [some (vR 10 0 0), some (vI x1), some (vI x2)], [], σ1)) rfl h2).trans ?_
  refine (e_n 4 (fr' := (143, 16, [some (vR 10 0 0), some (vI x1), some (vI x2)], [vI x1, vR 10 0 21, vI x2], σ1)) rfl).trans ?_
  refine (e_a (A := (143, 17, [some (vR 10 0 0), some (vI x1), some (vI x2)], [vI (σ1.1 10 0 20 (x1).toNatClampNeg), vI x2], σ1)) rfl h3).trans ?_
  refine (e_f (B := (143, 20, [some (vR 10 0 0), some (vI x1), some (vI x2)], [], σ1)) rfl h4).trans ?_
  refine (e_n 2 (fr' := (143, 24, [some (vR 10 0 0), some (vI x1), some (vI x2)], [vI (1000 : Int32), vI x2], σ1)) rfl).trans ?_
  refine (e_t (A := (143, 30, [some (vR 10 0 0), some (vI x1), some (vI x2)], [], σ1)) rfl h5).trans ?_
  refine (e_n 3 (fr' := (143, 35, [some (vR 10 0 0), some (vI x1), some (vI x2)], [vI x1, vR 10 0 22], σ1)) rfl).trans ?_
  refine (e_a (A := (143, 36, [some (vR 10 0 0), some (vI x1), some (vI x2)], [vI (σ1.1 10 0 21 (x1).toNatClampNeg)], σ1)) rfl h3).trans ?_
  refine (e_n 1 (fr' := (143, 37, [some (vR 10 0 0), some (vI x1), some (vI x2)], [vI (-1 : Int32), vI (σ1.1 10 0 21 (x1).toNatClampNeg)], σ1)) rfl).trans ?_
  refine (e_t (A := (143, 43, [some (vR 10 0 0), some (vI x1), some (vI x2)], [], σ1)) rfl h6).trans ?_
  refine (e_n 4 (fr' := (143, 49, [some (vR 10 0 0), some (vI x1), some (vI x2)], [vI x2, vI x1, vR 10 0 22], σ1)) rfl).trans ?_
  refine (e_a (A := (143, 50, [some (vR 10 0 0), some (vI x1), some (vI x2)], [], (pm_wi σ1 10 0 21 (x1).toNatClampNeg x2))) rfl h3).trans ?_
  refine (e_n 1 (fr' := (143, 51, [some (vR 10 0 0), some (vI x1), some (vI x2)], [vI (0 : Int32)], (pm_wi σ1 10 0 21 (x1).toNatClampNeg x2))) rfl).trans ?_
  exact e_r rfl
set_option maxRecDepth 20000 in
theorem g143_0_3 (C : pmC) {σ : pmS} {x1 : Int32} {x2 : Int32} {σ1 : pmS} {r1 : Int32} (h1 : C 134 [vR 10 0 0, vI x1] σ = some (some (vI r1), σ1)) (h2 : ¬ r1 = 0) (h3 : vp_in x1 48) (h4 : ¬ x2 ≤ (σ1.1 10 0 20 (x1).toNatClampNeg)) (h5 : x2 ≤ (1000 : Int32)) (h6 : ¬ (σ1.1 10 0 21 (x1).toNatClampNeg) = (-1 : Int32)) : pq_Rn C (143, 0, [some (vR 10 0 0), some (vI x1), some (vI x2)], [], σ) = some (some (vI (-3 : Int32)), σ1) := by
  refine (e_n 2 (fr' := (143, 2, [some (vR 10 0 0), some (vI x1), some (vI x2)], [vI x1, vR 10 0 0], σ)) rfl).trans ?_
  refine (e_ci (m := 143) (pc := 5) (ls := [some (vR 10 0 0), some (vI x1), some (vI x2)]) (rest := []) rfl h1).trans ?_
  refine (e_f (B := (143, 10, [some (vR 10 0 0), some (vI x1), some (vI x2)], [], σ1)) rfl h2).trans ?_
  refine (e_n 4 (fr' := (143, 16, [some (vR 10 0 0), some (vI x1), some (vI x2)], [vI x1, vR 10 0 21, vI x2], σ1)) rfl).trans ?_
  refine (e_a (A := (143, 17, [some (vR 10 0 0), some (vI x1), some (vI x2)], [vI (σ1.1 10 0 20 (x1).toNatClampNeg), vI x2], σ1)) rfl h3).trans ?_
  refine (e_f (B := (143, 20, [some (vR 10 0 0), some (vI x1), some (vI x2)], [], σ1)) rfl h4).trans ?_
  refine (e_n 2 (fr' := (143, 24, [some (vR 10 0 0), some (vI x1), some (vI x2)], [vI (1000 : Int32), vI x2], σ1)) rfl).trans ?_
  refine (e_t (A := (143, 30, [some (vR 10 0 0), some (vI x1), some (vI x2)], [], σ1)) rfl h5).trans ?_
  refine (e_n 3 (fr' := (143, 35, [some (vR 10 0 0), some (vI x1), some (vI x2)], [vI x1, vR 10 0 22], σ1)) rfl).trans ?_
  refine (e_a (A := (143, 36, [some (vR 10 0 0), some (vI x1), some (vI x2)], [vI (σ1.1 10 0 21 (x1).toNatClampNeg)], σ1)) rfl h3).trans ?_
  refine (e_n 1 (fr' := (143, 37, [some (vR 10 0 0), some (vI x1), some (vI x2)], [vI (-1 : Int32), vI (σ1.1 10 0 21 (x1).toNatClampNeg)], σ1)) rfl).trans ?_
  refine (e_f (B := (143, 40, [some (vR 10 0 0), some (vI x1), some (vI x2)], [], σ1)) rfl h6).trans ?_
  refine (e_n 1 (fr' := (143, 42, [some (vR 10 0 0), some (vI x1), some (vI x2)], [vI (-3 : Int32)], σ1)) rfl).trans ?_
  exact e_r rfl
set_option maxRecDepth 20000 in
theorem g143_0_4 (C : pmC) {σ : pmS} {x1 : Int32} {x2 : Int32} {σ1 : pmS} {r1 : Int32} (h1 : C 134 [vR 10 0 0, vI x1] σ = some (some (vI r1), σ1)) (h2 : ¬ r1 = 0) (h3 : vp_in x1 48) (h4 : ¬ x2 ≤ (σ1.1 10 0 20 (x1).toNatClampNeg)) (h5 : ¬ x2 ≤ (1000 : Int32)) : pq_Rn C (143, 0, [some (vR 10 0 0), some (vI x1), some (vI x2)], [], σ) = some (some (vI (-2 : Int32)), σ1) := by
  refine (e_n 2 (fr' := (143, 2, [some (vR 10 0 0), some (vI x1), some (vI x2)], [vI x1, vR 10 0 0], σ)) rfl).trans ?_
  refine (e_ci (m := 143) (pc := 5) (ls := [some (vR 10 0 0), some (vI x1), some (vI x2)]) (rest := []) rfl h1).trans ?_
  refine (e_f (B := (143, 10, [some (vR 10 0 0), some (vI x1), some (vI x2)], [], σ1)) rfl h2).trans ?_
  refine (e_n 4 (fr' := (143, 16, [some (vR 10 0 0), some (vI x1), some (vI x2)], [vI x1, vR 10 0 21, vI x2], σ1)) rfl).trans ?_
  refine (e_a (A := (143, 17, [some (vR 10 0 0), some (vI x1), some (vI x2)], [vI (σ1.1 10 0 20 (x1).toNatClampNeg), vI x2], σ1)) rfl h3).trans ?_
  refine (e_f (B := (143, 20, [some (vR 10 0 0), some (vI x1), some (vI x2)], [], σ1)) rfl h4).trans ?_
  refine (e_n 2 (fr' := (143, 24, [some (vR 10 0 0), some (vI x1), some (vI x2)], [vI (1000 : Int32), vI x2], σ1)) rfl).trans ?_
  refine (e_f (B := (143, 27, [some (vR 10 0 0), some (vI x1), some (vI x2)], [], σ1)) rfl h5).trans ?_
  refine (e_n 1 (fr' := (143, 29, [some (vR 10 0 0), some (vI x1), some (vI x2)], [vI (-2 : Int32)], σ1)) rfl).trans ?_
  exact e_r rfl
set_option maxRecDepth 20000 in
theorem g144_0_0 (C : pmC) {σ : pmS} {x1 : Int32} {l2 : Option pmV} {σ1 : pmS} {r1 : Int32} (h1 : C 105 [vL (x1).toInt64, vL (0 : Int64), vL (40 : Int64)] σ = some (some (vI r1), σ1)) (h2 : r1 = 0) : pq_Rn C (144, 0, [some (vR 10 0 0), some (vI x1), l2], [], σ) = some (some (vI (-2 : Int32)), σ1) := by
  refine (e_n 4 (fr' := (144, 6, [some (vR 10 0 0), some (vI x1), l2], [vL (40 : Int64), vL (0 : Int64), vL (x1).toInt64], σ)) rfl).trans ?_
  refine (e_ci (m := 144) (pc := 9) (ls := [some (vR 10 0 0), some (vI x1), l2]) (rest := []) rfl h1).trans ?_
  refine (e_t (A := (144, 12, [some (vR 10 0 0), some (vI x1), l2], [], σ1)) rfl h2).trans ?_
  refine (e_n 1 (fr' := (144, 14, [some (vR 10 0 0), some (vI x1), l2], [vI (-2 : Int32)], σ1)) rfl).trans ?_
  exact e_r rfl
set_option maxRecDepth 20000 in
theorem g144_0_1 (C : pmC) {σ : pmS} {x1 : Int32} {l2 : Option pmV} {σ1 : pmS} {r1 : Int32} (h1 : C 105 [vL (x1).toInt64, vL (0 : Int64), vL (40 : Int64)] σ = some (some (vI r1), σ1)) (h2 : ¬ r1 = 0) : pq_Rn C (144, 0, [some (vR 10 0 0), some (vI x1), l2], [], σ) = some (some (vI (σ1.1 10 0 18 0)), (pm_wi σ1 10 0 18 0 x1)) := by
  refine (e_n 4 (fr' := (144, 6, [some (vR 10 0 0), some (vI x1), l2], [vL (40 : Int64), vL (0 : Int64), vL (x1).toInt64], σ)) rfl).trans ?_
  refine (e_ci (m := 144) (pc := 9) (ls := [some (vR 10 0 0), some (vI x1), l2]) (rest := []) rfl h1).trans ?_
  refine (e_f (B := (144, 15, [some (vR 10 0 0), some (vI x1), l2], [], σ1)) rfl h2).trans ?_
  refine (e_n 7 (fr' := (144, 26, [some (vR 10 0 0), some (vI x1), some (vI (σ1.1 10 0 18 0))], [vI (σ1.1 10 0 18 0)], (pm_wi σ1 10 0 18 0 x1))) rfl).trans ?_
  exact e_r rfl
set_option maxRecDepth 20000 in
theorem g145_0_0 (C : pmC) {σ : pmS} {x1 : Int32} {x2 : Int32} {x3 : Int32} {σ1 : pmS} {r1 : Int32} (h1 : C 107 [vR 10 0 0, vI x1, vI x2] σ = some (some (vI r1), σ1)) (h2 : r1 = 0) : pq_Rn C (145, 0, [some (vR 10 0 0), some (vI x1), some (vI x2), some (vI x3)], [], σ) = some (some (vI (-1 : Int32)), σ1) := by
  refine (e_n 3 (fr' := (145, 3, [some (vR 10 0 0), some (vI x1), some (vI x2), some (vI x3)], [vI x2, vI x1, vR 10 0 0], σ)) rfl).trans ?_
  refine (e_ci (m := 145) (pc := 6) (ls := [some (vR 10 0 0), some (vI x1), some (vI x2), some (vI x3)]) (rest := []) rfl h1).trans ?_
  refine (e_t (A := (145, 9, [some (vR 10 0 0), some (vI x1), some (vI x2), some (vI x3)], [], σ1)) rfl h2).trans ?_
  refine (e_n 1 (fr' := (145, 10, [some (vR 10 0 0), some (vI x1), some (vI x2), some (vI x3)], [vI (-1 : Int32)], σ1)) rfl).trans ?_
  exact e_r rfl
set_option maxRecDepth 20000 in
theorem g145_0_1 (C : pmC) {σ : pmS} {x1 : Int32} {x2 : Int32} {x3 : Int32} {σ1 : pmS} {r1 : Int32} (h1 : C 107 [vR 10 0 0, vI x1, vI x2] σ = some (some (vI r1), σ1)) (h2 : ¬ r1 = 0) (h3 : x3 = 0) (h4 : vp_in (((8 : Int32) * x1) + x2) 32) : pq_Rn C (145, 0, [some (vR 10 0 0), some (vI x1), some (vI x2), some (vI x3)], [], σ) = some (some (vI (σ1.1 10 0 3 ((((8 : Int32) * x1) + x2)).toNatClampNeg)), σ1) := by
  refine (e_n 3 (fr' := (145, 3, [some (vR 10 0 0), some (vI x1), some (vI x2), some (vI x3)], [vI x2, vI x1, vR 10 0 0], σ)) rfl).trans ?_
  refine (e_ci (m := 145) (pc := 6) (ls := [some (vR 10 0 0), some (vI x1), some (vI x2), some (vI x3)]) (rest := []) rfl h1).trans ?_
  refine (e_f (B := (145, 11, [some (vR 10 0 0), some (vI x1), some (vI x2), some (vI x3)], [], σ1)) rfl h2).trans ?_
  refine (e_n 1 (fr' := (145, 12, [some (vR 10 0 0), some (vI x1), some (vI x2), some (vI x3)], [vI x3], σ1)) rfl).trans ?_
  refine (e_t (A := (145, 29, [some (vR 10 0 0), some (vI x1), some (vI x2), some (vI x3)], [], σ1)) rfl h3).trans ?_
  refine (e_n 7 (fr' := (145, 39, [some (vR 10 0 0), some (vI x1), some (vI x2), some (vI x3)], [vI (((8 : Int32) * x1) + x2), vR 10 0 4], σ1)) rfl).trans ?_
  refine (e_a (A := (145, 40, [some (vR 10 0 0), some (vI x1), some (vI x2), some (vI x3)], [vI (σ1.1 10 0 3 ((((8 : Int32) * x1) + x2)).toNatClampNeg)], σ1)) rfl h4).trans ?_
  exact e_r rfl
set_option maxRecDepth 20000 in
theorem g145_0_2 (C : pmC) {σ : pmS} {x1 : Int32} {x2 : Int32} {x3 : Int32} {σ1 : pmS} {r1 : Int32} (h1 : C 107 [vR 10 0 0, vI x1, vI x2] σ = some (some (vI r1), σ1)) (h2 : ¬ r1 = 0) (h3 : ¬ x3 = 0) (h4 : vp_in (((8 : Int32) * x1) + x2) 32) : pq_Rn C (145, 0, [some (vR 10 0 0), some (vI x1), some (vI x2), some (vI x3)], [], σ) = some (some (vI (σ1.1 10 0 2 ((((8 : Int32) * x1) + x2)).toNatClampNeg)), σ1) := by
  refine (e_n 3 (fr' := (145, 3, [some (vR 10 0 0), some (vI x1), some (vI x2), some (vI x3)], [vI x2, vI x1, vR 10 0 0], σ)) rfl).trans ?_
  refine (e_ci (m := 145) (pc := 6) (ls := [some (vR 10 0 0), some (vI x1), some (vI x2), some (vI x3)]) (rest := []) rfl h1).trans ?_
  refine (e_f (B := (145, 11, [some (vR 10 0 0), some (vI x1), some (vI x2), some (vI x3)], [], σ1)) rfl h2).trans ?_
  refine (e_n 1 (fr' := (145, 12, [some (vR 10 0 0), some (vI x1), some (vI x2), some (vI x3)], [vI x3], σ1)) rfl).trans ?_
  refine (e_f (B := (145, 15, [some (vR 10 0 0), some (vI x1), some (vI x2), some (vI x3)], [], σ1)) rfl h3).trans ?_
  refine (e_n 7 (fr' := (145, 25, [some (vR 10 0 0), some (vI x1), some (vI x2), some (vI x3)], [vI (((8 : Int32) * x1) + x2), vR 10 0 3], σ1)) rfl).trans ?_
  refine (e_a (A := (145, 26, [some (vR 10 0 0), some (vI x1), some (vI x2), some (vI x3)], [vI (σ1.1 10 0 2 ((((8 : Int32) * x1) + x2)).toNatClampNeg)], σ1)) rfl h4).trans ?_
  refine (e_n 1 (fr' := (145, 40, [some (vR 10 0 0), some (vI x1), some (vI x2), some (vI x3)], [vI (σ1.1 10 0 2 ((((8 : Int32) * x1) + x2)).toNatClampNeg)], σ1)) rfl).trans ?_
  exact e_r rfl
set_option maxRecDepth 20000 in
theorem g146_0_0 (C : pmC) {σ : pmS} {l1 : Option pmV} {l2 : Option pmV} {l3 : Option pmV} {l4 : Option pmV} {l5 : Option pmV}  : pq_Rn C (146, 0, [some (vR 10 0 0), l1, l2, l3, l4, l5], [], σ) = pq_Rn C (146, 2, [some (vR 10 0 0), some (vI (0 : Int32)), l2, l3, l4, l5], [], σ) := by
  exact e_n 2 rfl
set_option maxRecDepth 20000 in
theorem g146_2_0 (C : pmC) {σ : pmS} {x1 : Int32} {l2 : Option pmV} {l3 : Option pmV} {l4 : Option pmV} {l5 : Option pmV} (h1 : (σ.1 10 0 16 0) ≤ x1) : pq_Rn C (146, 2, [some (vR 10 0 0), some (vI x1), l2, l3, l4, l5], [], σ) = some (none, σ) := by
  refine (e_n 3 (fr' := (146, 7, [some (vR 10 0 0), some (vI x1), l2, l3, l4, l5], [vI (σ.1 10 0 16 0), vI x1], σ)) rfl).trans ?_
  refine (e_t (A := (146, 161, [some (vR 10 0 0), some (vI x1), l2, l3, l4, l5], [], σ)) rfl h1).trans ?_
  exact e_r rfl
set_option maxRecDepth 20000 in
theorem g146_2_1 (C : pmC) {σ : pmS} {x1 : Int32} {l2 : Option pmV} {l3 : Option pmV} {l4 : Option pmV} {l5 : Option pmV} {σ1 : pmS} {r1 : Int32} {σ2 : pmS} {r2 : Int32} {σ3 : pmS} {r3 : Int32} (h1 : ¬ (σ.1 10 0 16 0) ≤ x1) (h2 : vp_in x1 48) (h3 : 0 ≤ (σ.1 10 0 23 (x1).toNatClampNeg)) (h4 : C 137 [vR 10 0 0, vI (σ.1 10 0 22 (x1).toNatClampNeg), vI (σ.1 10 0 20 (x1).toNatClampNeg)] (pm_wi (pm_wi σ 10 0 29 (x1).toNatClampNeg (σ.1 10 0 25 (x1).toNatClampNeg)) 10 0 30 (x1).toNatClampNeg (-1 : Int32)) = some (some (vI r1), σ1)) (h5 : vp_in r1 15) (h6 : (σ1.1 10 0 14 (r1).toNatClampNeg) = 0) (h7 : vp_in (σ1.1 10 0 23 (x1).toNatClampNeg) 48) (h8 : C 145 [vR 10 0 0, vI (σ1.1 10 0 13 (r1).toNatClampNeg), vI (σ1.1 10 0 29 ((σ1.1 10 0 23 (x1).toNatClampNeg)).toNatClampNeg), vI (1 : Int32)] σ1 = some (some (vI r2), σ2)) (h9 : vp_in (σ2.1 10 0 24 (x1).toNatClampNeg) 48) (h10 : C 145 [vR 10 0 0, vI (σ2.1 10 0 13 (r1).toNatClampNeg), vI (σ2.1 10 0 29 ((σ2.1 10 0 24 (x1).toNatClampNeg)).toNatClampNeg), vI (0 : Int32)] σ2 = some (some (vI r3), σ3)) : pq_Rn C (146, 2, [some (vR 10 0 0), some (vI x1), l2, l3, l4, l5], [], σ) = pq_Rn C (146, 2, [some (vR 10 0 0), some (vI (x1 + (1 : Int32))), some (vI r1), some (vI (1 : Int32)), some (vI r2), some (vI r3)], [], (pm_wi (pm_wi σ3 10 0 29 (x1).toNatClampNeg r2) 10 0 30 (x1).toNatClampNeg r3)) := by
  refine (e_n 3 (fr' := (146, 7, [some (vR 10 0 0), some (vI x1), l2, l3, l4, l5], [vI (σ.1 10 0 16 0), vI x1], σ)) rfl).trans ?_
  refine (e_f (B := (146, 10, [some (vR 10 0 0), some (vI x1), l2, l3, l4, l5], [], σ)) rfl h1).trans ?_
  refine (e_n 6 (fr' := (146, 20, [some (vR 10 0 0), some (vI x1), l2, l3, l4, l5], [vI x1, vR 10 0 26, vI x1, vR 10 0 30], σ)) rfl).trans ?_
  refine (e_a (A := (146, 21, [some (vR 10 0 0), some (vI x1), l2, l3, l4, l5], [vI (σ.1 10 0 25 (x1).toNatClampNeg), vI x1, vR 10 0 30], σ)) rfl h2).trans ?_
  refine (e_a (A := (146, 22, [some (vR 10 0 0), some (vI x1), l2, l3, l4, l5], [], (pm_wi σ 10 0 29 (x1).toNatClampNeg (σ.1 10 0 25 (x1).toNatClampNeg)))) rfl h2).trans ?_
  refine (e_n 4 (fr' := (146, 28, [some (vR 10 0 0), some (vI x1), l2, l3, l4, l5], [vI (-1 : Int32), vI x1, vR 10 0 31], (pm_wi σ 10 0 29 (x1).toNatClampNeg (σ.1 10 0 25 (x1).toNatClampNeg)))) rfl).trans ?_
  refine (e_a (A := (146, 29, [some (vR 10 0 0), some (vI x1), l2, l3, l4, l5], [], (pm_wi (pm_wi σ 10 0 29 (x1).toNatClampNeg (σ.1 10 0 25 (x1).toNatClampNeg)) 10 0 30 (x1).toNatClampNeg (-1 : Int32)))) rfl h2).trans ?_
  refine (e_n 3 (fr' := (146, 34, [some (vR 10 0 0), some (vI x1), l2, l3, l4, l5], [vI x1, vR 10 0 24], (pm_wi (pm_wi σ 10 0 29 (x1).toNatClampNeg (σ.1 10 0 25 (x1).toNatClampNeg)) 10 0 30 (x1).toNatClampNeg (-1 : Int32)))) rfl).trans ?_
  refine (e_a (A := (146, 35, [some (vR 10 0 0), some (vI x1), l2, l3, l4, l5], [vI (σ.1 10 0 23 (x1).toNatClampNeg)], (pm_wi (pm_wi σ 10 0 29 (x1).toNatClampNeg (σ.1 10 0 25 (x1).toNatClampNeg)) 10 0 30 (x1).toNatClampNeg (-1 : Int32)))) rfl h2).trans ?_
  refine (e_t (A := (146, 41, [some (vR 10 0 0), some (vI x1), l2, l3, l4, l5], [], (pm_wi (pm_wi σ 10 0 29 (x1).toNatClampNeg (σ.1 10 0 25 (x1).toNatClampNeg)) 10 0 30 (x1).toNatClampNeg (-1 : Int32)))) rfl h3).trans ?_
  refine (e_n 4 (fr' := (146, 47, [some (vR 10 0 0), some (vI x1), l2, l3, l4, l5], [vI x1, vR 10 0 23, vR 10 0 0], (pm_wi (pm_wi σ 10 0 29 (x1).toNatClampNeg (σ.1 10 0 25 (x1).toNatClampNeg)) 10 0 30 (x1).toNatClampNeg (-1 : Int32)))) rfl).trans ?_
  refine (e_a (A := (146, 48, [some (vR 10 0 0), some (vI x1), l2, l3, l4, l5], [vI (σ.1 10 0 22 (x1).toNatClampNeg), vR 10 0 0], (pm_wi (pm_wi σ 10 0 29 (x1).toNatClampNeg (σ.1 10 0 25 (x1).toNatClampNeg)) 10 0 30 (x1).toNatClampNeg (-1 : Int32)))) rfl h2).trans ?_
  refine (e_n 3 (fr' := (146, 53, [some (vR 10 0 0), some (vI x1), l2, l3, l4, l5], [vI x1, vR 10 0 21, vI (σ.1 10 0 22 (x1).toNatClampNeg), vR 10 0 0], (pm_wi (pm_wi σ 10 0 29 (x1).toNatClampNeg (σ.1 10 0 25 (x1).toNatClampNeg)) 10 0 30 (x1).toNatClampNeg (-1 : Int32)))) rfl).trans ?_
  refine (e_a (A := (146, 54, [some (vR 10 0 0), some (vI x1), l2, l3, l4, l5], [vI (σ.1 10 0 20 (x1).toNatClampNeg), vI (σ.1 10 0 22 (x1).toNatClampNeg), vR 10 0 0], (pm_wi (pm_wi σ 10 0 29 (x1).toNatClampNeg (σ.1 10 0 25 (x1).toNatClampNeg)) 10 0 30 (x1).toNatClampNeg (-1 : Int32)))) rfl h2).trans ?_
  refine (e_ci (m := 146) (pc := 57) (ls := [some (vR 10 0 0), some (vI x1), l2, l3, l4, l5]) (rest := []) rfl h4).trans ?_
  refine (e_n 4 (fr' := (146, 63, [some (vR 10 0 0), some (vI x1), some (vI r1), l3, l4, l5], [vI r1, vR 10 0 15], σ1)) rfl).trans ?_
  refine (e_a (A := (146, 64, [some (vR 10 0 0), some (vI x1), some (vI r1), l3, l4, l5], [vI (σ1.1 10 0 14 (r1).toNatClampNeg)], σ1)) rfl h5).trans ?_
  refine (e_t (A := (146, 67, [some (vR 10 0 0), some (vI x1), some (vI r1), l3, l4, l5], [], σ1)) rfl h6).trans ?_
  refine (e_n 7 (fr' := (146, 79, [some (vR 10 0 0), some (vI x1), some (vI r1), some (vI (1 : Int32)), l4, l5], [vI r1, vR 10 0 14, vR 10 0 0], σ1)) rfl).trans ?_
  refine (e_a (A := (146, 80, [some (vR 10 0 0), some (vI x1), some (vI r1), some (vI (1 : Int32)), l4, l5], [vI (σ1.1 10 0 13 (r1).toNatClampNeg), vR 10 0 0], σ1)) rfl h5).trans ?_
  refine (e_n 5 (fr' := (146, 89, [some (vR 10 0 0), some (vI x1), some (vI r1), some (vI (1 : Int32)), l4, l5], [vI x1, vR 10 0 24, vR 10 0 30, vI (σ1.1 10 0 13 (r1).toNatClampNeg), vR 10 0 0], σ1)) rfl).trans ?_
  refine (e_a (A := (146, 90, [some (vR 10 0 0), some (vI x1), some (vI r1), some (vI (1 : Int32)), l4, l5], [vI (σ1.1 10 0 23 (x1).toNatClampNeg), vR 10 0 30, vI (σ1.1 10 0 13 (r1).toNatClampNeg), vR 10 0 0], σ1)) rfl h2).trans ?_
  refine (e_a (A := (146, 91, [some (vR 10 0 0), some (vI x1), some (vI r1), some (vI (1 : Int32)), l4, l5], [vI (σ1.1 10 0 29 ((σ1.1 10 0 23 (x1).toNatClampNeg)).toNatClampNeg), vI (σ1.1 10 0 13 (r1).toNatClampNeg), vR 10 0 0], σ1)) rfl h7).trans ?_
  refine (e_n 1 (fr' := (146, 92, [some (vR 10 0 0), some (vI x1), some (vI r1), some (vI (1 : Int32)), l4, l5], [vI (1 : Int32), vI (σ1.1 10 0 29 ((σ1.1 10 0 23 (x1).toNatClampNeg)).toNatClampNeg), vI (σ1.1 10 0 13 (r1).toNatClampNeg), vR 10 0 0], σ1)) rfl).trans ?_
  refine (e_ci (m := 146) (pc := 95) (ls := [some (vR 10 0 0), some (vI x1), some (vI r1), some (vI (1 : Int32)), l4, l5]) (rest := []) rfl h8).trans ?_
  refine (e_n 5 (fr' := (146, 103, [some (vR 10 0 0), some (vI x1), some (vI r1), some (vI (1 : Int32)), some (vI r2), l5], [vI r1, vR 10 0 14, vR 10 0 0], σ2)) rfl).trans ?_
  refine (e_a (A := (146, 104, [some (vR 10 0 0), some (vI x1), some (vI r1), some (vI (1 : Int32)), some (vI r2), l5], [vI (σ2.1 10 0 13 (r1).toNatClampNeg), vR 10 0 0], σ2)) rfl h5).trans ?_
  refine (e_n 5 (fr' := (146, 113, [some (vR 10 0 0), some (vI x1), some (vI r1), some (vI (1 : Int32)), some (vI r2), l5], [vI x1, vR 10 0 25, vR 10 0 30, vI (σ2.1 10 0 13 (r1).toNatClampNeg), vR 10 0 0], σ2)) rfl).trans ?_
  refine (e_a (A := (146, 114, [some (vR 10 0 0), some (vI x1), some (vI r1), some (vI (1 : Int32)), some (vI r2), l5], [vI (σ2.1 10 0 24 (x1).toNatClampNeg), vR 10 0 30, vI (σ2.1 10 0 13 (r1).toNatClampNeg), vR 10 0 0], σ2)) rfl h2).trans ?_
  refine (e_a (A := (146, 115, [some (vR 10 0 0), some (vI x1), some (vI r1), some (vI (1 : Int32)), some (vI r2), l5], [vI (σ2.1 10 0 29 ((σ2.1 10 0 24 (x1).toNatClampNeg)).toNatClampNeg), vI (σ2.1 10 0 13 (r1).toNatClampNeg), vR 10 0 0], σ2)) rfl h9).trans ?_
  refine (e_n 1 (fr' := (146, 116, [some (vR 10 0 0), some (vI x1), some (vI r1), some (vI (1 : Int32)), some (vI r2), l5], [vI (0 : Int32), vI (σ2.1 10 0 29 ((σ2.1 10 0 24 (x1).toNatClampNeg)).toNatClampNeg), vI (σ2.1 10 0 13 (r1).toNatClampNeg), vR 10 0 0], σ2)) rfl).trans ?_
  refine (e_ci (m := 146) (pc := 119) (ls := [some (vR 10 0 0), some (vI x1), some (vI r1), some (vI (1 : Int32)), some (vI r2), l5]) (rest := []) rfl h10).trans ?_
  refine (e_n 8 (fr' := (146, 137, [some (vR 10 0 0), some (vI x1), some (vI r1), some (vI (1 : Int32)), some (vI r2), some (vI r3)], [vI r2, vI x1, vR 10 0 30], σ3)) rfl).trans ?_
  refine (e_a (A := (146, 138, [some (vR 10 0 0), some (vI x1), some (vI r1), some (vI (1 : Int32)), some (vI r2), some (vI r3)], [], (pm_wi σ3 10 0 29 (x1).toNatClampNeg r2))) rfl h2).trans ?_
  refine (e_n 7 (fr' := (146, 154, [some (vR 10 0 0), some (vI x1), some (vI r1), some (vI (1 : Int32)), some (vI r2), some (vI r3)], [vI r3, vI x1, vR 10 0 31], (pm_wi σ3 10 0 29 (x1).toNatClampNeg r2))) rfl).trans ?_
  refine (e_a (A := (146, 155, [some (vR 10 0 0), some (vI x1), some (vI r1), some (vI (1 : Int32)), some (vI r2), some (vI r3)], [], (pm_wi (pm_wi σ3 10 0 29 (x1).toNatClampNeg r2) 10 0 30 (x1).toNatClampNeg r3))) rfl h2).trans ?_
  exact e_n 2 rfl
set_option maxRecDepth 20000 in
theorem g146_2_2 (C : pmC) {σ : pmS} {x1 : Int32} {l2 : Option pmV} {l3 : Option pmV} {l4 : Option pmV} {l5 : Option pmV} {σ1 : pmS} {r1 : Int32} {σ2 : pmS} {r2 : Int32} {σ3 : pmS} {r3 : Int32} (h1 : ¬ (σ.1 10 0 16 0) ≤ x1) (h2 : vp_in x1 48) (h3 : 0 ≤ (σ.1 10 0 23 (x1).toNatClampNeg)) (h4 : C 137 [vR 10 0 0, vI (σ.1 10 0 22 (x1).toNatClampNeg), vI (σ.1 10 0 20 (x1).toNatClampNeg)] (pm_wi (pm_wi σ 10 0 29 (x1).toNatClampNeg (σ.1 10 0 25 (x1).toNatClampNeg)) 10 0 30 (x1).toNatClampNeg (-1 : Int32)) = some (some (vI r1), σ1)) (h5 : vp_in r1 15) (h6 : ¬ (σ1.1 10 0 14 (r1).toNatClampNeg) = 0) (h7 : vp_in (σ1.1 10 0 23 (x1).toNatClampNeg) 48) (h8 : C 145 [vR 10 0 0, vI (σ1.1 10 0 13 (r1).toNatClampNeg), vI (σ1.1 10 0 29 ((σ1.1 10 0 23 (x1).toNatClampNeg)).toNatClampNeg), vI (1 : Int32)] σ1 = some (some (vI r2), σ2)) (h9 : vp_in (σ2.1 10 0 24 (x1).toNatClampNeg) 48) (h10 : C 145 [vR 10 0 0, vI (σ2.1 10 0 13 (r1).toNatClampNeg), vI (σ2.1 10 0 29 ((σ2.1 10 0 24 (x1).toNatClampNeg)).toNatClampNeg), vI (0 : Int32)] σ2 = some (some (vI r3), σ3)) : pq_Rn C (146, 2, [some (vR 10 0 0), some (vI x1), l2, l3, l4, l5], [], σ) = pq_Rn C (146, 2, [some (vR 10 0 0), some (vI (x1 + (1 : Int32))), some (vI r1), some (vI (0 : Int32)), some (vI r2), some (vI r3)], [], (pm_wi (pm_wi σ3 10 0 29 (x1).toNatClampNeg r3) 10 0 30 (x1).toNatClampNeg r2)) := by
  refine (e_n 3 (fr' := (146, 7, [some (vR 10 0 0), some (vI x1), l2, l3, l4, l5], [vI (σ.1 10 0 16 0), vI x1], σ)) rfl).trans ?_
  refine (e_f (B := (146, 10, [some (vR 10 0 0), some (vI x1), l2, l3, l4, l5], [], σ)) rfl h1).trans ?_
  refine (e_n 6 (fr' := (146, 20, [some (vR 10 0 0), some (vI x1), l2, l3, l4, l5], [vI x1, vR 10 0 26, vI x1, vR 10 0 30], σ)) rfl).trans ?_
  refine (e_a (A := (146, 21, [some (vR 10 0 0), some (vI x1), l2, l3, l4, l5], [vI (σ.1 10 0 25 (x1).toNatClampNeg), vI x1, vR 10 0 30], σ)) rfl h2).trans ?_
  refine (e_a (A := (146, 22, [some (vR 10 0 0), some (vI x1), l2, l3, l4, l5], [], (pm_wi σ 10 0 29 (x1).toNatClampNeg (σ.1 10 0 25 (x1).toNatClampNeg)))) rfl h2).trans ?_
  refine (e_n 4 (fr' := (146, 28, [some (vR 10 0 0), some (vI x1), l2, l3, l4, l5], [vI (-1 : Int32), vI x1, vR 10 0 31], (pm_wi σ 10 0 29 (x1).toNatClampNeg (σ.1 10 0 25 (x1).toNatClampNeg)))) rfl).trans ?_
  refine (e_a (A := (146, 29, [some (vR 10 0 0), some (vI x1), l2, l3, l4, l5], [], (pm_wi (pm_wi σ 10 0 29 (x1).toNatClampNeg (σ.1 10 0 25 (x1).toNatClampNeg)) 10 0 30 (x1).toNatClampNeg (-1 : Int32)))) rfl h2).trans ?_
  refine (e_n 3 (fr' := (146, 34, [some (vR 10 0 0), some (vI x1), l2, l3, l4, l5], [vI x1, vR 10 0 24], (pm_wi (pm_wi σ 10 0 29 (x1).toNatClampNeg (σ.1 10 0 25 (x1).toNatClampNeg)) 10 0 30 (x1).toNatClampNeg (-1 : Int32)))) rfl).trans ?_
  refine (e_a (A := (146, 35, [some (vR 10 0 0), some (vI x1), l2, l3, l4, l5], [vI (σ.1 10 0 23 (x1).toNatClampNeg)], (pm_wi (pm_wi σ 10 0 29 (x1).toNatClampNeg (σ.1 10 0 25 (x1).toNatClampNeg)) 10 0 30 (x1).toNatClampNeg (-1 : Int32)))) rfl h2).trans ?_
  refine (e_t (A := (146, 41, [some (vR 10 0 0), some (vI x1), l2, l3, l4, l5], [], (pm_wi (pm_wi σ 10 0 29 (x1).toNatClampNeg (σ.1 10 0 25 (x1).toNatClampNeg)) 10 0 30 (x1).toNatClampNeg (-1 : Int32)))) rfl h3).trans ?_
  refine (e_n 4 (fr' := (146, 47, [some (vR 10 0 0), some (vI x1), l2, l3, l4, l5], [vI x1, vR 10 0 23, vR 10 0 0], (pm_wi (pm_wi σ 10 0 29 (x1).toNatClampNeg (σ.1 10 0 25 (x1).toNatClampNeg)) 10 0 30 (x1).toNatClampNeg (-1 : Int32)))) rfl).trans ?_
  refine (e_a (A := (146, 48, [some (vR 10 0 0), some (vI x1), l2, l3, l4, l5], [vI (σ.1 10 0 22 (x1).toNatClampNeg), vR 10 0 0], (pm_wi (pm_wi σ 10 0 29 (x1).toNatClampNeg (σ.1 10 0 25 (x1).toNatClampNeg)) 10 0 30 (x1).toNatClampNeg (-1 : Int32)))) rfl h2).trans ?_
  refine (e_n 3 (fr' := (146, 53, [some (vR 10 0 0), some (vI x1), l2, l3, l4, l5], [vI x1, vR 10 0 21, vI (σ.1 10 0 22 (x1).toNatClampNeg), vR 10 0 0], (pm_wi (pm_wi σ 10 0 29 (x1).toNatClampNeg (σ.1 10 0 25 (x1).toNatClampNeg)) 10 0 30 (x1).toNatClampNeg (-1 : Int32)))) rfl).trans ?_
  refine (e_a (A := (146, 54, [some (vR 10 0 0), some (vI x1), l2, l3, l4, l5], [vI (σ.1 10 0 20 (x1).toNatClampNeg), vI (σ.1 10 0 22 (x1).toNatClampNeg), vR 10 0 0], (pm_wi (pm_wi σ 10 0 29 (x1).toNatClampNeg (σ.1 10 0 25 (x1).toNatClampNeg)) 10 0 30 (x1).toNatClampNeg (-1 : Int32)))) rfl h2).trans ?_
  refine (e_ci (m := 146) (pc := 57) (ls := [some (vR 10 0 0), some (vI x1), l2, l3, l4, l5]) (rest := []) rfl h4).trans ?_
  refine (e_n 4 (fr' := (146, 63, [some (vR 10 0 0), some (vI x1), some (vI r1), l3, l4, l5], [vI r1, vR 10 0 15], σ1)) rfl).trans ?_
  refine (e_a (A := (146, 64, [some (vR 10 0 0), some (vI x1), some (vI r1), l3, l4, l5], [vI (σ1.1 10 0 14 (r1).toNatClampNeg)], σ1)) rfl h5).trans ?_
  refine (e_f (B := (146, 71, [some (vR 10 0 0), some (vI x1), some (vI r1), l3, l4, l5], [], σ1)) rfl h6).trans ?_
  refine (e_n 6 (fr' := (146, 79, [some (vR 10 0 0), some (vI x1), some (vI r1), some (vI (0 : Int32)), l4, l5], [vI r1, vR 10 0 14, vR 10 0 0], σ1)) rfl).trans ?_
  refine (e_a (A := (146, 80, [some (vR 10 0 0), some (vI x1), some (vI r1), some (vI (0 : Int32)), l4, l5], [vI (σ1.1 10 0 13 (r1).toNatClampNeg), vR 10 0 0], σ1)) rfl h5).trans ?_
  refine (e_n 5 (fr' := (146, 89, [some (vR 10 0 0), some (vI x1), some (vI r1), some (vI (0 : Int32)), l4, l5], [vI x1, vR 10 0 24, vR 10 0 30, vI (σ1.1 10 0 13 (r1).toNatClampNeg), vR 10 0 0], σ1)) rfl).trans ?_
  refine (e_a (A := (146, 90, [some (vR 10 0 0), some (vI x1), some (vI r1), some (vI (0 : Int32)), l4, l5], [vI (σ1.1 10 0 23 (x1).toNatClampNeg), vR 10 0 30, vI (σ1.1 10 0 13 (r1).toNatClampNeg), vR 10 0 0], σ1)) rfl h2).trans ?_
  refine (e_a (A := (146, 91, [some (vR 10 0 0), some (vI x1), some (vI r1), some (vI (0 : Int32)), l4, l5], [vI (σ1.1 10 0 29 ((σ1.1 10 0 23 (x1).toNatClampNeg)).toNatClampNeg), vI (σ1.1 10 0 13 (r1).toNatClampNeg), vR 10 0 0], σ1)) rfl h7).trans ?_
  refine (e_n 1 (fr' := (146, 92, [some (vR 10 0 0), some (vI x1), some (vI r1), some (vI (0 : Int32)), l4, l5], [vI (1 : Int32), vI (σ1.1 10 0 29 ((σ1.1 10 0 23 (x1).toNatClampNeg)).toNatClampNeg), vI (σ1.1 10 0 13 (r1).toNatClampNeg), vR 10 0 0], σ1)) rfl).trans ?_
  refine (e_ci (m := 146) (pc := 95) (ls := [some (vR 10 0 0), some (vI x1), some (vI r1), some (vI (0 : Int32)), l4, l5]) (rest := []) rfl h8).trans ?_
  refine (e_n 5 (fr' := (146, 103, [some (vR 10 0 0), some (vI x1), some (vI r1), some (vI (0 : Int32)), some (vI r2), l5], [vI r1, vR 10 0 14, vR 10 0 0], σ2)) rfl).trans ?_
  refine (e_a (A := (146, 104, [some (vR 10 0 0), some (vI x1), some (vI r1), some (vI (0 : Int32)), some (vI r2), l5], [vI (σ2.1 10 0 13 (r1).toNatClampNeg), vR 10 0 0], σ2)) rfl h5).trans ?_
  refine (e_n 5 (fr' := (146, 113, [some (vR 10 0 0), some (vI x1), some (vI r1), some (vI (0 : Int32)), some (vI r2), l5], [vI x1, vR 10 0 25, vR 10 0 30, vI (σ2.1 10 0 13 (r1).toNatClampNeg), vR 10 0 0], σ2)) rfl).trans ?_
  refine (e_a (A := (146, 114, [some (vR 10 0 0), some (vI x1), some (vI r1), some (vI (0 : Int32)), some (vI r2), l5], [vI (σ2.1 10 0 24 (x1).toNatClampNeg), vR 10 0 30, vI (σ2.1 10 0 13 (r1).toNatClampNeg), vR 10 0 0], σ2)) rfl h2).trans ?_
  refine (e_a (A := (146, 115, [some (vR 10 0 0), some (vI x1), some (vI r1), some (vI (0 : Int32)), some (vI r2), l5], [vI (σ2.1 10 0 29 ((σ2.1 10 0 24 (x1).toNatClampNeg)).toNatClampNeg), vI (σ2.1 10 0 13 (r1).toNatClampNeg), vR 10 0 0], σ2)) rfl h9).trans ?_
  refine (e_n 1 (fr' := (146, 116, [some (vR 10 0 0), some (vI x1), some (vI r1), some (vI (0 : Int32)), some (vI r2), l5], [vI (0 : Int32), vI (σ2.1 10 0 29 ((σ2.1 10 0 24 (x1).toNatClampNeg)).toNatClampNeg), vI (σ2.1 10 0 13 (r1).toNatClampNeg), vR 10 0 0], σ2)) rfl).trans ?_
  refine (e_ci (m := 146) (pc := 119) (ls := [some (vR 10 0 0), some (vI x1), some (vI r1), some (vI (0 : Int32)), some (vI r2), l5]) (rest := []) rfl h10).trans ?_
  refine (e_n 7 (fr' := (146, 137, [some (vR 10 0 0), some (vI x1), some (vI r1), some (vI (0 : Int32)), some (vI r2), some (vI r3)], [vI r3, vI x1, vR 10 0 30], σ3)) rfl).trans ?_
  refine (e_a (A := (146, 138, [some (vR 10 0 0), some (vI x1), some (vI r1), some (vI (0 : Int32)), some (vI r2), some (vI r3)], [], (pm_wi σ3 10 0 29 (x1).toNatClampNeg r3))) rfl h2).trans ?_
  refine (e_n 6 (fr' := (146, 154, [some (vR 10 0 0), some (vI x1), some (vI r1), some (vI (0 : Int32)), some (vI r2), some (vI r3)], [vI r2, vI x1, vR 10 0 31], (pm_wi σ3 10 0 29 (x1).toNatClampNeg r3))) rfl).trans ?_
  refine (e_a (A := (146, 155, [some (vR 10 0 0), some (vI x1), some (vI r1), some (vI (0 : Int32)), some (vI r2), some (vI r3)], [], (pm_wi (pm_wi σ3 10 0 29 (x1).toNatClampNeg r3) 10 0 30 (x1).toNatClampNeg r2))) rfl h2).trans ?_
  exact e_n 2 rfl
set_option maxRecDepth 20000 in
theorem g146_2_3 (C : pmC) {σ : pmS} {x1 : Int32} {l2 : Option pmV} {l3 : Option pmV} {l4 : Option pmV} {l5 : Option pmV} (h1 : ¬ (σ.1 10 0 16 0) ≤ x1) (h2 : vp_in x1 48) (h3 : ¬ 0 ≤ (σ.1 10 0 23 (x1).toNatClampNeg)) : pq_Rn C (146, 2, [some (vR 10 0 0), some (vI x1), l2, l3, l4, l5], [], σ) = pq_Rn C (146, 2, [some (vR 10 0 0), some (vI (x1 + (1 : Int32))), l2, l3, l4, l5], [], (pm_wi (pm_wi σ 10 0 29 (x1).toNatClampNeg (σ.1 10 0 25 (x1).toNatClampNeg)) 10 0 30 (x1).toNatClampNeg (-1 : Int32))) := by
  refine (e_n 3 (fr' := (146, 7, [some (vR 10 0 0), some (vI x1), l2, l3, l4, l5], [vI (σ.1 10 0 16 0), vI x1], σ)) rfl).trans ?_
  refine (e_f (B := (146, 10, [some (vR 10 0 0), some (vI x1), l2, l3, l4, l5], [], σ)) rfl h1).trans ?_
  refine (e_n 6 (fr' := (146, 20, [some (vR 10 0 0), some (vI x1), l2, l3, l4, l5], [vI x1, vR 10 0 26, vI x1, vR 10 0 30], σ)) rfl).trans ?_
  refine (e_a (A := (146, 21, [some (vR 10 0 0), some (vI x1), l2, l3, l4, l5], [vI (σ.1 10 0 25 (x1).toNatClampNeg), vI x1, vR 10 0 30], σ)) rfl h2).trans ?_
  refine (e_a (A := (146, 22, [some (vR 10 0 0), some (vI x1), l2, l3, l4, l5], [], (pm_wi σ 10 0 29 (x1).toNatClampNeg (σ.1 10 0 25 (x1).toNatClampNeg)))) rfl h2).trans ?_
  refine (e_n 4 (fr' := (146, 28, [some (vR 10 0 0), some (vI x1), l2, l3, l4, l5], [vI (-1 : Int32), vI x1, vR 10 0 31], (pm_wi σ 10 0 29 (x1).toNatClampNeg (σ.1 10 0 25 (x1).toNatClampNeg)))) rfl).trans ?_
  refine (e_a (A := (146, 29, [some (vR 10 0 0), some (vI x1), l2, l3, l4, l5], [], (pm_wi (pm_wi σ 10 0 29 (x1).toNatClampNeg (σ.1 10 0 25 (x1).toNatClampNeg)) 10 0 30 (x1).toNatClampNeg (-1 : Int32)))) rfl h2).trans ?_
  refine (e_n 3 (fr' := (146, 34, [some (vR 10 0 0), some (vI x1), l2, l3, l4, l5], [vI x1, vR 10 0 24], (pm_wi (pm_wi σ 10 0 29 (x1).toNatClampNeg (σ.1 10 0 25 (x1).toNatClampNeg)) 10 0 30 (x1).toNatClampNeg (-1 : Int32)))) rfl).trans ?_
  refine (e_a (A := (146, 35, [some (vR 10 0 0), some (vI x1), l2, l3, l4, l5], [vI (σ.1 10 0 23 (x1).toNatClampNeg)], (pm_wi (pm_wi σ 10 0 29 (x1).toNatClampNeg (σ.1 10 0 25 (x1).toNatClampNeg)) 10 0 30 (x1).toNatClampNeg (-1 : Int32)))) rfl h2).trans ?_
  refine (e_f (B := (146, 38, [some (vR 10 0 0), some (vI x1), l2, l3, l4, l5], [], (pm_wi (pm_wi σ 10 0 29 (x1).toNatClampNeg (σ.1 10 0 25 (x1).toNatClampNeg)) 10 0 30 (x1).toNatClampNeg (-1 : Int32)))) rfl h3).trans ?_
  exact e_n 3 rfl
set_option maxRecDepth 20000 in
theorem g147_0_0 (C : pmC) {σ : pmS} {x1 : Int32} (h1 : vp_in x1 48) (h2 : (σ.1 10 0 29 (x1).toNatClampNeg) < 0) : pq_Rn C (147, 0, [some (vR 10 0 0), some (vI x1)], [], σ) = some (some (vI (0 : Int32)), σ) := by
  refine (e_n 3 (fr' := (147, 5, [some (vR 10 0 0), some (vI x1)], [vI x1, vR 10 0 30], σ)) rfl).trans ?_
  refine (e_a (A := (147, 6, [some (vR 10 0 0), some (vI x1)], [vI (σ.1 10 0 29 (x1).toNatClampNeg)], σ)) rfl h1).trans ?_
  refine (e_t (A := (147, 37, [some (vR 10 0 0), some (vI x1)], [], σ)) rfl h2).trans ?_
  refine (e_n 1 (fr' := (147, 38, [some (vR 10 0 0), some (vI x1)], [vI (0 : Int32)], σ)) rfl).trans ?_
  exact e_r rfl
set_option maxRecDepth 20000 in
theorem g147_0_1 (C : pmC) {σ : pmS} {x1 : Int32} (h1 : vp_in x1 48) (h2 : ¬ (σ.1 10 0 29 (x1).toNatClampNeg) < 0) (h3 : (σ.1 10 0 30 (x1).toNatClampNeg) < 0) : pq_Rn C (147, 0, [some (vR 10 0 0), some (vI x1)], [], σ) = some (some (vI (0 : Int32)), σ) := by
  refine (e_n 3 (fr' := (147, 5, [some (vR 10 0 0), some (vI x1)], [vI x1, vR 10 0 30], σ)) rfl).trans ?_
  refine (e_a (A := (147, 6, [some (vR 10 0 0), some (vI x1)], [vI (σ.1 10 0 29 (x1).toNatClampNeg)], σ)) rfl h1).trans ?_
  refine (e_f (B := (147, 9, [some (vR 10 0 0), some (vI x1)], [], σ)) rfl h2).trans ?_
  refine (e_n 3 (fr' := (147, 14, [some (vR 10 0 0), some (vI x1)], [vI x1, vR 10 0 31], σ)) rfl).trans ?_
  refine (e_a (A := (147, 15, [some (vR 10 0 0), some (vI x1)], [vI (σ.1 10 0 30 (x1).toNatClampNeg)], σ)) rfl h1).trans ?_
  refine (e_t (A := (147, 37, [some (vR 10 0 0), some (vI x1)], [], σ)) rfl h3).trans ?_
  refine (e_n 1 (fr' := (147, 38, [some (vR 10 0 0), some (vI x1)], [vI (0 : Int32)], σ)) rfl).trans ?_
  exact e_r rfl
set_option maxRecDepth 20000 in
theorem g147_0_2 (C : pmC) {σ : pmS} {x1 : Int32} (h1 : vp_in x1 48) (h2 : ¬ (σ.1 10 0 29 (x1).toNatClampNeg) < 0) (h3 : ¬ (σ.1 10 0 30 (x1).toNatClampNeg) < 0) (h4 : (σ.1 10 0 29 (x1).toNatClampNeg) = (σ.1 10 0 30 (x1).toNatClampNeg)) : pq_Rn C (147, 0, [some (vR 10 0 0), some (vI x1)], [], σ) = some (some (vI (0 : Int32)), σ) := by
  refine (e_n 3 (fr' := (147, 5, [some (vR 10 0 0), some (vI x1)], [vI x1, vR 10 0 30], σ)) rfl).trans ?_
  refine (e_a (A := (147, 6, [some (vR 10 0 0), some (vI x1)], [vI (σ.1 10 0 29 (x1).toNatClampNeg)], σ)) rfl h1).trans ?_
  refine (e_f (B := (147, 9, [some (vR 10 0 0), some (vI x1)], [], σ)) rfl h2).trans ?_
  refine (e_n 3 (fr' := (147, 14, [some (vR 10 0 0), some (vI x1)], [vI x1, vR 10 0 31], σ)) rfl).trans ?_
  refine (e_a (A := (147, 15, [some (vR 10 0 0), some (vI x1)], [vI (σ.1 10 0 30 (x1).toNatClampNeg)], σ)) rfl h1).trans ?_
  refine (e_f (B := (147, 18, [some (vR 10 0 0), some (vI x1)], [], σ)) rfl h3).trans ?_
  refine (e_n 3 (fr' := (147, 23, [some (vR 10 0 0), some (vI x1)], [vI x1, vR 10 0 30], σ)) rfl).trans ?_
  refine (e_a (A := (147, 24, [some (vR 10 0 0), some (vI x1)], [vI (σ.1 10 0 29 (x1).toNatClampNeg)], σ)) rfl h1).trans ?_
  refine (e_n 3 (fr' := (147, 29, [some (vR 10 0 0), some (vI x1)], [vI x1, vR 10 0 31, vI (σ.1 10 0 29 (x1).toNatClampNeg)], σ)) rfl).trans ?_
  refine (e_a (A := (147, 30, [some (vR 10 0 0), some (vI x1)], [vI (σ.1 10 0 30 (x1).toNatClampNeg), vI (σ.1 10 0 29 (x1).toNatClampNeg)], σ)) rfl h1).trans ?_
  refine (e_t (A := (147, 37, [some (vR 10 0 0), some (vI x1)], [], σ)) rfl h4).trans ?_
  refine (e_n 1 (fr' := (147, 38, [some (vR 10 0 0), some (vI x1)], [vI (0 : Int32)], σ)) rfl).trans ?_
  exact e_r rfl
set_option maxRecDepth 20000 in
theorem g147_0_3 (C : pmC) {σ : pmS} {x1 : Int32} (h1 : vp_in x1 48) (h2 : ¬ (σ.1 10 0 29 (x1).toNatClampNeg) < 0) (h3 : ¬ (σ.1 10 0 30 (x1).toNatClampNeg) < 0) (h4 : ¬ (σ.1 10 0 29 (x1).toNatClampNeg) = (σ.1 10 0 30 (x1).toNatClampNeg)) : pq_Rn C (147, 0, [some (vR 10 0 0), some (vI x1)], [], σ) = some (some (vI (1 : Int32)), σ) := by
  refine (e_n 3 (fr' := (147, 5, [some (vR 10 0 0), some (vI x1)], [vI x1, vR 10 0 30], σ)) rfl).trans ?_
  refine (e_a (A := (147, 6, [some (vR 10 0 0), some (vI x1)], [vI (σ.1 10 0 29 (x1).toNatClampNeg)], σ)) rfl h1).trans ?_
  refine (e_f (B := (147, 9, [some (vR 10 0 0), some (vI x1)], [], σ)) rfl h2).trans ?_
  refine (e_n 3 (fr' := (147, 14, [some (vR 10 0 0), some (vI x1)], [vI x1, vR 10 0 31], σ)) rfl).trans ?_
  refine (e_a (A := (147, 15, [some (vR 10 0 0), some (vI x1)], [vI (σ.1 10 0 30 (x1).toNatClampNeg)], σ)) rfl h1).trans ?_
  refine (e_f (B := (147, 18, [some (vR 10 0 0), some (vI x1)], [], σ)) rfl h3).trans ?_
  refine (e_n 3 (fr' := (147, 23, [some (vR 10 0 0), some (vI x1)], [vI x1, vR 10 0 30], σ)) rfl).trans ?_
  refine (e_a (A := (147, 24, [some (vR 10 0 0), some (vI x1)], [vI (σ.1 10 0 29 (x1).toNatClampNeg)], σ)) rfl h1).trans ?_
  refine (e_n 3 (fr' := (147, 29, [some (vR 10 0 0), some (vI x1)], [vI x1, vR 10 0 31, vI (σ.1 10 0 29 (x1).toNatClampNeg)], σ)) rfl).trans ?_
  refine (e_a (A := (147, 30, [some (vR 10 0 0), some (vI x1)], [vI (σ.1 10 0 30 (x1).toNatClampNeg), vI (σ.1 10 0 29 (x1).toNatClampNeg)], σ)) rfl h1).trans ?_
  refine (e_f (B := (147, 33, [some (vR 10 0 0), some (vI x1)], [], σ)) rfl h4).trans ?_
  refine (e_n 2 (fr' := (147, 38, [some (vR 10 0 0), some (vI x1)], [vI (1 : Int32)], σ)) rfl).trans ?_
  exact e_r rfl
set_option maxRecDepth 20000 in
theorem g148_0_0 (C : pmC) {σ : pmS} {x1 : Int32} {x2 : Int32} {x3 : Int32} {l4 : Option pmV} {σ1 : pmS} {r1 : Int32} {σ2 : pmS} {r2 : Int32} (h1 : vp_in x2 48) (h2 : C 137 [vR 10 0 0, vI (σ.1 10 0 22 (x2).toNatClampNeg), vI x3] σ = some (some (vI r1), σ1)) (h3 : vp_in r1 15) (h4 : vp_in x1 48) (h5 : C 107 [vR 10 0 0, vI (σ1.1 10 0 13 (r1).toNatClampNeg), vI (σ1.1 10 0 29 (x1).toNatClampNeg)] σ1 = some (some (vI r2), σ2)) (h6 : r2 = 0) : pq_Rn C (148, 0, [some (vR 10 0 0), some (vI x1), some (vI x2), some (vI x3), l4], [], σ) = some (some (vI (0 : Int32)), σ2) := by
  refine (e_n 6 (fr' := (148, 10, [some (vR 10 0 0), some (vI x1), some (vI x2), some (vI x3), l4], [vI x2, vR 10 0 23, vR 10 0 0, vR 10 0 14], σ)) rfl).trans ?_
  refine (e_a (A := (148, 11, [some (vR 10 0 0), some (vI x1), some (vI x2), some (vI x3), l4], [vI (σ.1 10 0 22 (x2).toNatClampNeg), vR 10 0 0, vR 10 0 14], σ)) rfl h1).trans ?_
  refine (e_n 1 (fr' := (148, 12, [some (vR 10 0 0), some (vI x1), some (vI x2), some (vI x3), l4], [vI x3, vI (σ.1 10 0 22 (x2).toNatClampNeg), vR 10 0 0, vR 10 0 14], σ)) rfl).trans ?_
  refine (e_ci (m := 148) (pc := 15) (ls := [some (vR 10 0 0), some (vI x1), some (vI x2), some (vI x3), l4]) (rest := [vR 10 0 14]) rfl h2).trans ?_
  refine (e_a (A := (148, 16, [some (vR 10 0 0), some (vI x1), some (vI x2), some (vI x3), l4], [vI (σ1.1 10 0 13 (r1).toNatClampNeg)], σ1)) rfl h3).trans ?_
  refine (e_n 6 (fr' := (148, 26, [some (vR 10 0 0), some (vI x1), some (vI x2), some (vI x3), some (vI (σ1.1 10 0 13 (r1).toNatClampNeg))], [vI x1, vR 10 0 30, vI (σ1.1 10 0 13 (r1).toNatClampNeg), vR 10 0 0], σ1)) rfl).trans ?_
  refine (e_a (A := (148, 27, [some (vR 10 0 0), some (vI x1), some (vI x2), some (vI x3), some (vI (σ1.1 10 0 13 (r1).toNatClampNeg))], [vI (σ1.1 10 0 29 (x1).toNatClampNeg), vI (σ1.1 10 0 13 (r1).toNatClampNeg), vR 10 0 0], σ1)) rfl h4).trans ?_
  refine (e_ci (m := 148) (pc := 30) (ls := [some (vR 10 0 0), some (vI x1), some (vI x2), some (vI x3), some (vI (σ1.1 10 0 13 (r1).toNatClampNeg))]) (rest := []) rfl h5).trans ?_
  refine (e_t (A := (148, 72, [some (vR 10 0 0), some (vI x1), some (vI x2), some (vI x3), some (vI (σ1.1 10 0 13 (r1).toNatClampNeg))], [], σ2)) rfl h6).trans ?_
  refine (e_n 1 (fr' := (148, 73, [some (vR 10 0 0), some (vI x1), some (vI x2), some (vI x3), some (vI (σ1.1 10 0 13 (r1).toNatClampNeg))], [vI (0 : Int32)], σ2)) rfl).trans ?_
  exact e_r rfl
set_option maxRecDepth 20000 in
theorem g148_0_1 (C : pmC) {σ : pmS} {x1 : Int32} {x2 : Int32} {x3 : Int32} {l4 : Option pmV} {σ1 : pmS} {r1 : Int32} {σ2 : pmS} {r2 : Int32} (h1 : vp_in x2 48) (h2 : C 137 [vR 10 0 0, vI (σ.1 10 0 22 (x2).toNatClampNeg), vI x3] σ = some (some (vI r1), σ1)) (h3 : vp_in r1 15) (h4 : vp_in x1 48) (h5 : C 107 [vR 10 0 0, vI (σ1.1 10 0 13 (r1).toNatClampNeg), vI (σ1.1 10 0 29 (x1).toNatClampNeg)] σ1 = some (some (vI r2), σ2)) (h6 : ¬ r2 = 0) (h7 : (σ2.1 10 0 29 (x2).toNatClampNeg) < 0) : pq_Rn C (148, 0, [some (vR 10 0 0), some (vI x1), some (vI x2), some (vI x3), l4], [], σ) = some (some (vI (0 : Int32)), σ2) := by
  refine (e_n 6 (fr' := (148, 10, [some (vR 10 0 0), some (vI x1), some (vI x2), some (vI x3), l4], [vI x2, vR 10 0 23, vR 10 0 0, vR 10 0 14], σ)) rfl).trans ?_
  refine (e_a (A := (148, 11, [some (vR 10 0 0), some (vI x1), some (vI x2), some (vI x3), l4], [vI (σ.1 10 0 22 (x2).toNatClampNeg), vR 10 0 0, vR 10 0 14], σ)) rfl h1).trans ?_
  refine (e_n 1 (fr' := (148, 12, [some (vR 10 0 0), some (vI x1), some (vI x2), some (vI x3), l4], [vI x3, vI (σ.1 10 0 22 (x2).toNatClampNeg), vR 10 0 0, vR 10 0 14], σ)) rfl).trans ?_
  refine (e_ci (m := 148) (pc := 15) (ls := [some (vR 10 0 0), some (vI x1), some (vI x2), some (vI x3), l4]) (rest := [vR 10 0 14]) rfl h2).trans ?_
  refine (e_a (A := (148, 16, [some (vR 10 0 0), some (vI x1), some (vI x2), some (vI x3), l4], [vI (σ1.1 10 0 13 (r1).toNatClampNeg)], σ1)) rfl h3).trans ?_
  refine (e_n 6 (fr' := (148, 26, [some (vR 10 0 0), some (vI x1), some (vI x2), some (vI x3), some (vI (σ1.1 10 0 13 (r1).toNatClampNeg))], [vI x1, vR 10 0 30, vI (σ1.1 10 0 13 (r1).toNatClampNeg), vR 10 0 0], σ1)) rfl).trans ?_
  refine (e_a (A := (148, 27, [some (vR 10 0 0), some (vI x1), some (vI x2), some (vI x3), some (vI (σ1.1 10 0 13 (r1).toNatClampNeg))], [vI (σ1.1 10 0 29 (x1).toNatClampNeg), vI (σ1.1 10 0 13 (r1).toNatClampNeg), vR 10 0 0], σ1)) rfl h4).trans ?_
  refine (e_ci (m := 148) (pc := 30) (ls := [some (vR 10 0 0), some (vI x1), some (vI x2), some (vI x3), some (vI (σ1.1 10 0 13 (r1).toNatClampNeg))]) (rest := []) rfl h5).trans ?_
  refine (e_f (B := (148, 33, [some (vR 10 0 0), some (vI x1), some (vI x2), some (vI x3), some (vI (σ1.1 10 0 13 (r1).toNatClampNeg))], [], σ2)) rfl h6).trans ?_
  refine (e_n 3 (fr' := (148, 38, [some (vR 10 0 0), some (vI x1), some (vI x2), some (vI x3), some (vI (σ1.1 10 0 13 (r1).toNatClampNeg))], [vI x2, vR 10 0 30], σ2)) rfl).trans ?_
  refine (e_a (A := (148, 39, [some (vR 10 0 0), some (vI x1), some (vI x2), some (vI x3), some (vI (σ1.1 10 0 13 (r1).toNatClampNeg))], [vI (σ2.1 10 0 29 (x2).toNatClampNeg)], σ2)) rfl h1).trans ?_
  refine (e_t (A := (148, 72, [some (vR 10 0 0), some (vI x1), some (vI x2), some (vI x3), some (vI (σ1.1 10 0 13 (r1).toNatClampNeg))], [], σ2)) rfl h7).trans ?_
  refine (e_n 1 (fr' := (148, 73, [some (vR 10 0 0), some (vI x1), some (vI x2), some (vI x3), some (vI (σ1.1 10 0 13 (r1).toNatClampNeg))], [vI (0 : Int32)], σ2)) rfl).trans ?_
  exact e_r rfl
set_option maxRecDepth 20000 in
theorem g148_0_2 (C : pmC) {σ : pmS} {x1 : Int32} {x2 : Int32} {x3 : Int32} {l4 : Option pmV} {σ1 : pmS} {r1 : Int32} {σ2 : pmS} {r2 : Int32} (h1 : vp_in x2 48) (h2 : C 137 [vR 10 0 0, vI (σ.1 10 0 22 (x2).toNatClampNeg), vI x3] σ = some (some (vI r1), σ1)) (h3 : vp_in r1 15) (h4 : vp_in x1 48) (h5 : C 107 [vR 10 0 0, vI (σ1.1 10 0 13 (r1).toNatClampNeg), vI (σ1.1 10 0 29 (x1).toNatClampNeg)] σ1 = some (some (vI r2), σ2)) (h6 : ¬ r2 = 0) (h7 : ¬ (σ2.1 10 0 29 (x2).toNatClampNeg) < 0) (h8 : vp_in (((8 : Int32) * (σ1.1 10 0 13 (r1).toNatClampNeg)) + (σ2.1 10 0 29 (x1).toNatClampNeg)) 32) (h9 : (σ2.1 10 0 1 ((((8 : Int32) * (σ1.1 10 0 13 (r1).toNatClampNeg)) + (σ2.1 10 0 29 (x1).toNatClampNeg))).toNatClampNeg) = (σ2.1 10 0 29 (x2).toNatClampNeg)) : pq_Rn C (148, 0, [some (vR 10 0 0), some (vI x1), some (vI x2), some (vI x3), l4], [], σ) = some (some (vI (1 : Int32)), σ2) := by
  refine (e_n 6 (fr' := (148, 10, [some (vR 10 0 0), some (vI x1), some (vI x2), some (vI x3), l4], [vI x2, vR 10 0 23, vR 10 0 0, vR 10 0 14], σ)) rfl).trans ?_
  refine (e_a (A := (148, 11, [some (vR 10 0 0), some (vI x1), some (vI x2), some (vI x3), l4], [vI (σ.1 10 0 22 (x2).toNatClampNeg), vR 10 0 0, vR 10 0 14], σ)) rfl h1).trans ?_
  refine (e_n 1 (fr' := (148, 12, [some (vR 10 0 0), some (vI x1), some (vI x2), some (vI x3), l4], [vI x3, vI (σ.1 10 0 22 (x2).toNatClampNeg), vR 10 0 0, vR 10 0 14], σ)) rfl).trans ?_
  refine (e_ci (m := 148) (pc := 15) (ls := [some (vR 10 0 0), some (vI x1), some (vI x2), some (vI x3), l4]) (rest := [vR 10 0 14]) rfl h2).trans ?_
  refine (e_a (A := (148, 16, [some (vR 10 0 0), some (vI x1), some (vI x2), some (vI x3), l4], [vI (σ1.1 10 0 13 (r1).toNatClampNeg)], σ1)) rfl h3).trans ?_
  refine (e_n 6 (fr' := (148, 26, [some (vR 10 0 0), some (vI x1), some (vI x2), some (vI x3), some (vI (σ1.1 10 0 13 (r1).toNatClampNeg))], [vI x1, vR 10 0 30, vI (σ1.1 10 0 13 (r1).toNatClampNeg), vR 10 0 0], σ1)) rfl).trans ?_
  refine (e_a (A := (148, 27, [some (vR 10 0 0), some (vI x1), some (vI x2), some (vI x3), some (vI (σ1.1 10 0 13 (r1).toNatClampNeg))], [vI (σ1.1 10 0 29 (x1).toNatClampNeg), vI (σ1.1 10 0 13 (r1).toNatClampNeg), vR 10 0 0], σ1)) rfl h4).trans ?_
  refine (e_ci (m := 148) (pc := 30) (ls := [some (vR 10 0 0), some (vI x1), some (vI x2), some (vI x3), some (vI (σ1.1 10 0 13 (r1).toNatClampNeg))]) (rest := []) rfl h5).trans ?_
  refine (e_f (B := (148, 33, [some (vR 10 0 0), some (vI x1), some (vI x2), some (vI x3), some (vI (σ1.1 10 0 13 (r1).toNatClampNeg))], [], σ2)) rfl h6).trans ?_
  refine (e_n 3 (fr' := (148, 38, [some (vR 10 0 0), some (vI x1), some (vI x2), some (vI x3), some (vI (σ1.1 10 0 13 (r1).toNatClampNeg))], [vI x2, vR 10 0 30], σ2)) rfl).trans ?_
  refine (e_a (A := (148, 39, [some (vR 10 0 0), some (vI x1), some (vI x2), some (vI x3), some (vI (σ1.1 10 0 13 (r1).toNatClampNeg))], [vI (σ2.1 10 0 29 (x2).toNatClampNeg)], σ2)) rfl h1).trans ?_
  refine (e_f (B := (148, 42, [some (vR 10 0 0), some (vI x1), some (vI x2), some (vI x3), some (vI (σ1.1 10 0 13 (r1).toNatClampNeg))], [], σ2)) rfl h7).trans ?_
  refine (e_n 8 (fr' := (148, 56, [some (vR 10 0 0), some (vI x1), some (vI x2), some (vI x3), some (vI (σ1.1 10 0 13 (r1).toNatClampNeg))], [vI x1, vR 10 0 30, vI ((8 : Int32) * (σ1.1 10 0 13 (r1).toNatClampNeg)), vR 10 0 2], σ2)) rfl).trans ?_
  refine (e_a (A := (148, 57, [some (vR 10 0 0), some (vI x1), some (vI x2), some (vI x3), some (vI (σ1.1 10 0 13 (r1).toNatClampNeg))], [vI (σ2.1 10 0 29 (x1).toNatClampNeg), vI ((8 : Int32) * (σ1.1 10 0 13 (r1).toNatClampNeg)), vR 10 0 2], σ2)) rfl h4).trans ?_
  refine (e_n 1 (fr' := (148, 58, [some (vR 10 0 0), some (vI x1), some (vI x2), some (vI x3), some (vI (σ1.1 10 0 13 (r1).toNatClampNeg))], [vI (((8 : Int32) * (σ1.1 10 0 13 (r1).toNatClampNeg)) + (σ2.1 10 0 29 (x1).toNatClampNeg)), vR 10 0 2], σ2)) rfl).trans ?_
  refine (e_a (A := (148, 59, [some (vR 10 0 0), some (vI x1), some (vI x2), some (vI x3), some (vI (σ1.1 10 0 13 (r1).toNatClampNeg))], [vI (σ2.1 10 0 1 ((((8 : Int32) * (σ1.1 10 0 13 (r1).toNatClampNeg)) + (σ2.1 10 0 29 (x1).toNatClampNeg))).toNatClampNeg)], σ2)) rfl h8).trans ?_
  refine (e_n 3 (fr' := (148, 64, [some (vR 10 0 0), some (vI x1), some (vI x2), some (vI x3), some (vI (σ1.1 10 0 13 (r1).toNatClampNeg))], [vI x2, vR 10 0 30, vI (σ2.1 10 0 1 ((((8 : Int32) * (σ1.1 10 0 13 (r1).toNatClampNeg)) + (σ2.1 10 0 29 (x1).toNatClampNeg))).toNatClampNeg)], σ2)) rfl).trans ?_
  refine (e_a (A := (148, 65, [some (vR 10 0 0), some (vI x1), some (vI x2), some (vI x3), some (vI (σ1.1 10 0 13 (r1).toNatClampNeg))], [vI (σ2.1 10 0 29 (x2).toNatClampNeg), vI (σ2.1 10 0 1 ((((8 : Int32) * (σ1.1 10 0 13 (r1).toNatClampNeg)) + (σ2.1 10 0 29 (x1).toNatClampNeg))).toNatClampNeg)], σ2)) rfl h1).trans ?_
  refine (e_t (A := (148, 68, [some (vR 10 0 0), some (vI x1), some (vI x2), some (vI x3), some (vI (σ1.1 10 0 13 (r1).toNatClampNeg))], [], σ2)) rfl h9).trans ?_
  refine (e_n 2 (fr' := (148, 73, [some (vR 10 0 0), some (vI x1), some (vI x2), some (vI x3), some (vI (σ1.1 10 0 13 (r1).toNatClampNeg))], [vI (1 : Int32)], σ2)) rfl).trans ?_
  exact e_r rfl
set_option maxRecDepth 20000 in
theorem g148_0_3 (C : pmC) {σ : pmS} {x1 : Int32} {x2 : Int32} {x3 : Int32} {l4 : Option pmV} {σ1 : pmS} {r1 : Int32} {σ2 : pmS} {r2 : Int32} (h1 : vp_in x2 48) (h2 : C 137 [vR 10 0 0, vI (σ.1 10 0 22 (x2).toNatClampNeg), vI x3] σ = some (some (vI r1), σ1)) (h3 : vp_in r1 15) (h4 : vp_in x1 48) (h5 : C 107 [vR 10 0 0, vI (σ1.1 10 0 13 (r1).toNatClampNeg), vI (σ1.1 10 0 29 (x1).toNatClampNeg)] σ1 = some (some (vI r2), σ2)) (h6 : ¬ r2 = 0) (h7 : ¬ (σ2.1 10 0 29 (x2).toNatClampNeg) < 0) (h8 : vp_in (((8 : Int32) * (σ1.1 10 0 13 (r1).toNatClampNeg)) + (σ2.1 10 0 29 (x1).toNatClampNeg)) 32) (h9 : ¬ (σ2.1 10 0 1 ((((8 : Int32) * (σ1.1 10 0 13 (r1).toNatClampNeg)) + (σ2.1 10 0 29 (x1).toNatClampNeg))).toNatClampNeg) = (σ2.1 10 0 29 (x2).toNatClampNeg)) : pq_Rn C (148, 0, [some (vR 10 0 0), some (vI x1), some (vI x2), some (vI x3), l4], [], σ) = some (some (vI (0 : Int32)), σ2) := by
  refine (e_n 6 (fr' := (148, 10, [some (vR 10 0 0), some (vI x1), some (vI x2), some (vI x3), l4], [vI x2, vR 10 0 23, vR 10 0 0, vR 10 0 14], σ)) rfl).trans ?_
  refine (e_a (A := (148, 11, [some (vR 10 0 0), some (vI x1), some (vI x2), some (vI x3), l4], [vI (σ.1 10 0 22 (x2).toNatClampNeg), vR 10 0 0, vR 10 0 14], σ)) rfl h1).trans ?_
  refine (e_n 1 (fr' := (148, 12, [some (vR 10 0 0), some (vI x1), some (vI x2), some (vI x3), l4], [vI x3, vI (σ.1 10 0 22 (x2).toNatClampNeg), vR 10 0 0, vR 10 0 14], σ)) rfl).trans ?_
  refine (e_ci (m := 148) (pc := 15) (ls := [some (vR 10 0 0), some (vI x1), some (vI x2), some (vI x3), l4]) (rest := [vR 10 0 14]) rfl h2).trans ?_
  refine (e_a (A := (148, 16, [some (vR 10 0 0), some (vI x1), some (vI x2), some (vI x3), l4], [vI (σ1.1 10 0 13 (r1).toNatClampNeg)], σ1)) rfl h3).trans ?_
  refine (e_n 6 (fr' := (148, 26, [some (vR 10 0 0), some (vI x1), some (vI x2), some (vI x3), some (vI (σ1.1 10 0 13 (r1).toNatClampNeg))], [vI x1, vR 10 0 30, vI (σ1.1 10 0 13 (r1).toNatClampNeg), vR 10 0 0], σ1)) rfl).trans ?_
  refine (e_a (A := (148, 27, [some (vR 10 0 0), some (vI x1), some (vI x2), some (vI x3), some (vI (σ1.1 10 0 13 (r1).toNatClampNeg))], [vI (σ1.1 10 0 29 (x1).toNatClampNeg), vI (σ1.1 10 0 13 (r1).toNatClampNeg), vR 10 0 0], σ1)) rfl h4).trans ?_
  refine (e_ci (m := 148) (pc := 30) (ls := [some (vR 10 0 0), some (vI x1), some (vI x2), some (vI x3), some (vI (σ1.1 10 0 13 (r1).toNatClampNeg))]) (rest := []) rfl h5).trans ?_
  refine (e_f (B := (148, 33, [some (vR 10 0 0), some (vI x1), some (vI x2), some (vI x3), some (vI (σ1.1 10 0 13 (r1).toNatClampNeg))], [], σ2)) rfl h6).trans ?_
  refine (e_n 3 (fr' := (148, 38, [some (vR 10 0 0), some (vI x1), some (vI x2), some (vI x3), some (vI (σ1.1 10 0 13 (r1).toNatClampNeg))], [vI x2, vR 10 0 30], σ2)) rfl).trans ?_
  refine (e_a (A := (148, 39, [some (vR 10 0 0), some (vI x1), some (vI x2), some (vI x3), some (vI (σ1.1 10 0 13 (r1).toNatClampNeg))], [vI (σ2.1 10 0 29 (x2).toNatClampNeg)], σ2)) rfl h1).trans ?_
  refine (e_f (B := (148, 42, [some (vR 10 0 0), some (vI x1), some (vI x2), some (vI x3), some (vI (σ1.1 10 0 13 (r1).toNatClampNeg))], [], σ2)) rfl h7).trans ?_
  refine (e_n 8 (fr' := (148, 56, [some (vR 10 0 0), some (vI x1), some (vI x2), some (vI x3), some (vI (σ1.1 10 0 13 (r1).toNatClampNeg))], [vI x1, vR 10 0 30, vI ((8 : Int32) * (σ1.1 10 0 13 (r1).toNatClampNeg)), vR 10 0 2], σ2)) rfl).trans ?_
  refine (e_a (A := (148, 57, [some (vR 10 0 0), some (vI x1), some (vI x2), some (vI x3), some (vI (σ1.1 10 0 13 (r1).toNatClampNeg))], [vI (σ2.1 10 0 29 (x1).toNatClampNeg), vI ((8 : Int32) * (σ1.1 10 0 13 (r1).toNatClampNeg)), vR 10 0 2], σ2)) rfl h4).trans ?_
  refine (e_n 1 (fr' := (148, 58, [some (vR 10 0 0), some (vI x1), some (vI x2), some (vI x3), some (vI (σ1.1 10 0 13 (r1).toNatClampNeg))], [vI (((8 : Int32) * (σ1.1 10 0 13 (r1).toNatClampNeg)) + (σ2.1 10 0 29 (x1).toNatClampNeg)), vR 10 0 2], σ2)) rfl).trans ?_
  refine (e_a (A := (148, 59, [some (vR 10 0 0), some (vI x1), some (vI x2), some (vI x3), some (vI (σ1.1 10 0 13 (r1).toNatClampNeg))], [vI (σ2.1 10 0 1 ((((8 : Int32) * (σ1.1 10 0 13 (r1).toNatClampNeg)) + (σ2.1 10 0 29 (x1).toNatClampNeg))).toNatClampNeg)], σ2)) rfl h8).trans ?_
  refine (e_n 3 (fr' := (148, 64, [some (vR 10 0 0), some (vI x1), some (vI x2), some (vI x3), some (vI (σ1.1 10 0 13 (r1).toNatClampNeg))], [vI x2, vR 10 0 30, vI (σ2.1 10 0 1 ((((8 : Int32) * (σ1.1 10 0 13 (r1).toNatClampNeg)) + (σ2.1 10 0 29 (x1).toNatClampNeg))).toNatClampNeg)], σ2)) rfl).trans ?_
  refine (e_a (A := (148, 65, [some (vR 10 0 0), some (vI x1), some (vI x2), some (vI x3), some (vI (σ1.1 10 0 13 (r1).toNatClampNeg))], [vI (σ2.1 10 0 29 (x2).toNatClampNeg), vI (σ2.1 10 0 1 ((((8 : Int32) * (σ1.1 10 0 13 (r1).toNatClampNeg)) + (σ2.1 10 0 29 (x1).toNatClampNeg))).toNatClampNeg)], σ2)) rfl h1).trans ?_
  refine (e_f (B := (148, 72, [some (vR 10 0 0), some (vI x1), some (vI x2), some (vI x3), some (vI (σ1.1 10 0 13 (r1).toNatClampNeg))], [], σ2)) rfl h9).trans ?_
  refine (e_n 1 (fr' := (148, 73, [some (vR 10 0 0), some (vI x1), some (vI x2), some (vI x3), some (vI (σ1.1 10 0 13 (r1).toNatClampNeg))], [vI (0 : Int32)], σ2)) rfl).trans ?_
  exact e_r rfl
set_option maxRecDepth 20000 in
theorem g149_0_0 (C : pmC) {σ : pmS} {x1 : Int32} {x2 : Int32} (h1 : vp_in x1 40) (h2 : x2 < (σ.1 10 0 28 (x1).toNatClampNeg)) : pq_Rn C (149, 0, [some (vR 10 0 0), some (vI x1), some (vI x2)], [], σ) = some (some (vI (0 : Int32)), σ) := by
  refine (e_n 3 (fr' := (149, 5, [some (vR 10 0 0), some (vI x1), some (vI x2)], [vI x1, vR 10 0 29], σ)) rfl).trans ?_
  refine (e_a (A := (149, 6, [some (vR 10 0 0), some (vI x1), some (vI x2)], [vI (σ.1 10 0 28 (x1).toNatClampNeg)], σ)) rfl h1).trans ?_
  refine (e_n 1 (fr' := (149, 7, [some (vR 10 0 0), some (vI x1), some (vI x2)], [vI x2, vI (σ.1 10 0 28 (x1).toNatClampNeg)], σ)) rfl).trans ?_
  refine (e_t (A := (149, 42, [some (vR 10 0 0), some (vI x1), some (vI x2)], [], σ)) rfl h2).trans ?_
  refine (e_n 1 (fr' := (149, 43, [some (vR 10 0 0), some (vI x1), some (vI x2)], [vI (0 : Int32)], σ)) rfl).trans ?_
  exact e_r rfl
set_option maxRecDepth 20000 in
theorem g149_0_1 (C : pmC) {σ : pmS} {x1 : Int32} {x2 : Int32} {σ1 : pmS} {r1 : Int32} (h1 : vp_in x1 40) (h2 : ¬ x2 < (σ.1 10 0 28 (x1).toNatClampNeg)) (h3 : C 141 [vR 10 0 0, vI (σ.1 10 0 26 (x1).toNatClampNeg), vI x2] σ = some (some (vI r1), σ1)) (h4 : r1 = 0) : pq_Rn C (149, 0, [some (vR 10 0 0), some (vI x1), some (vI x2)], [], σ) = some (some (vI (0 : Int32)), σ1) := by
  refine (e_n 3 (fr' := (149, 5, [some (vR 10 0 0), some (vI x1), some (vI x2)], [vI x1, vR 10 0 29], σ)) rfl).trans ?_
  refine (e_a (A := (149, 6, [some (vR 10 0 0), some (vI x1), some (vI x2)], [vI (σ.1 10 0 28 (x1).toNatClampNeg)], σ)) rfl h1).trans ?_
  refine (e_n 1 (fr' := (149, 7, [some (vR 10 0 0), some (vI x1), some (vI x2)], [vI x2, vI (σ.1 10 0 28 (x1).toNatClampNeg)], σ)) rfl).trans ?_
  refine (e_f (B := (149, 10, [some (vR 10 0 0), some (vI x1), some (vI x2)], [], σ)) rfl h2).trans ?_
  refine (e_n 4 (fr' := (149, 16, [some (vR 10 0 0), some (vI x1), some (vI x2)], [vI x1, vR 10 0 27, vR 10 0 0], σ)) rfl).trans ?_
  refine (e_a (A := (149, 17, [some (vR 10 0 0), some (vI x1), some (vI x2)], [vI (σ.1 10 0 26 (x1).toNatClampNeg), vR 10 0 0], σ)) rfl h1).trans ?_
  refine (e_n 1 (fr' := (149, 18, [some (vR 10 0 0), some (vI x1), some (vI x2)], [vI x2, vI (σ.1 10 0 26 (x1).toNatClampNeg), vR 10 0 0], σ)) rfl).trans ?_
  refine (e_ci (m := 149) (pc := 21) (ls := [some (vR 10 0 0), some (vI x1), some (vI x2)]) (rest := []) rfl h3).trans ?_
  refine (e_t (A := (149, 42, [some (vR 10 0 0), some (vI x1), some (vI x2)], [], σ1)) rfl h4).trans ?_
  refine (e_n 1 (fr' := (149, 43, [some (vR 10 0 0), some (vI x1), some (vI x2)], [vI (0 : Int32)], σ1)) rfl).trans ?_
  exact e_r rfl
set_option maxRecDepth 20000 in
theorem g149_0_2 (C : pmC) {σ : pmS} {x1 : Int32} {x2 : Int32} {σ1 : pmS} {r1 : Int32} {σ2 : pmS} {r2 : Int32} (h1 : vp_in x1 40) (h2 : ¬ x2 < (σ.1 10 0 28 (x1).toNatClampNeg)) (h3 : C 141 [vR 10 0 0, vI (σ.1 10 0 26 (x1).toNatClampNeg), vI x2] σ = some (some (vI r1), σ1)) (h4 : ¬ r1 = 0) (h5 : C 141 [vR 10 0 0, vI (σ1.1 10 0 27 (x1).toNatClampNeg), vI x2] σ1 = some (some (vI r2), σ2)) (h6 : r2 = 0) : pq_Rn C (149, 0, [some (vR 10 0 0), some (vI x1), some (vI x2)], [], σ) = some (some (vI (0 : Int32)), σ2) := by
  refine (e_n 3 (fr' := (149, 5, [some (vR 10 0 0), some (vI x1), some (vI x2)], [vI x1, vR 10 0 29], σ)) rfl).trans ?_
  refine (e_a (A := (149, 6, [some (vR 10 0 0), some (vI x1), some (vI x2)], [vI (σ.1 10 0 28 (x1).toNatClampNeg)], σ)) rfl h1).trans ?_
  refine (e_n 1 (fr' := (149, 7, [some (vR 10 0 0), some (vI x1), some (vI x2)], [vI x2, vI (σ.1 10 0 28 (x1).toNatClampNeg)], σ)) rfl).trans ?_
  refine (e_f (B := (149, 10, [some (vR 10 0 0), some (vI x1), some (vI x2)], [], σ)) rfl h2).trans ?_
  refine (e_n 4 (fr' := (149, 16, [some (vR 10 0 0), some (vI x1), some (vI x2)], [vI x1, vR 10 0 27, vR 10 0 0], σ)) rfl).trans ?_
  refine (e_a (A := (149, 17, [some (vR 10 0 0), some (vI x1), some (vI x2)], [vI (σ.1 10 0 26 (x1).toNatClampNeg), vR 10 0 0], σ)) rfl h1).trans ?_
  refine (e_n 1 (fr' := (149, 18, [some (vR 10 0 0), some (vI x1), some (vI x2)], [vI x2, vI (σ.1 10 0 26 (x1).toNatClampNeg), vR 10 0 0], σ)) rfl).trans ?_
  refine (e_ci (m := 149) (pc := 21) (ls := [some (vR 10 0 0), some (vI x1), some (vI x2)]) (rest := []) rfl h3).trans ?_
  refine (e_f (B := (149, 24, [some (vR 10 0 0), some (vI x1), some (vI x2)], [], σ1)) rfl h4).trans ?_
  refine (e_n 4 (fr' := (149, 30, [some (vR 10 0 0), some (vI x1), some (vI x2)], [vI x1, vR 10 0 28, vR 10 0 0], σ1)) rfl).trans ?_
  refine (e_a (A := (149, 31, [some (vR 10 0 0), some (vI x1), some (vI x2)], [vI (σ1.1 10 0 27 (x1).toNatClampNeg), vR 10 0 0], σ1)) rfl h1).trans ?_
  refine (e_n 1 (fr' := (149, 32, [some (vR 10 0 0), some (vI x1), some (vI x2)], [vI x2, vI (σ1.1 10 0 27 (x1).toNatClampNeg), vR 10 0 0], σ1)) rfl).trans ?_
  refine (e_ci (m := 149) (pc := 35) (ls := [some (vR 10 0 0), some (vI x1), some (vI x2)]) (rest := []) rfl h5).trans ?_
  refine (e_t (A := (149, 42, [some (vR 10 0 0), some (vI x1), some (vI x2)], [], σ2)) rfl h6).trans ?_
  refine (e_n 1 (fr' := (149, 43, [some (vR 10 0 0), some (vI x1), some (vI x2)], [vI (0 : Int32)], σ2)) rfl).trans ?_
  exact e_r rfl
set_option maxRecDepth 20000 in
theorem g149_0_3 (C : pmC) {σ : pmS} {x1 : Int32} {x2 : Int32} {σ1 : pmS} {r1 : Int32} {σ2 : pmS} {r2 : Int32} (h1 : vp_in x1 40) (h2 : ¬ x2 < (σ.1 10 0 28 (x1).toNatClampNeg)) (h3 : C 141 [vR 10 0 0, vI (σ.1 10 0 26 (x1).toNatClampNeg), vI x2] σ = some (some (vI r1), σ1)) (h4 : ¬ r1 = 0) (h5 : C 141 [vR 10 0 0, vI (σ1.1 10 0 27 (x1).toNatClampNeg), vI x2] σ1 = some (some (vI r2), σ2)) (h6 : ¬ r2 = 0) : pq_Rn C (149, 0, [some (vR 10 0 0), some (vI x1), some (vI x2)], [], σ) = some (some (vI (1 : Int32)), σ2) := by
  refine (e_n 3 (fr' := (149, 5, [some (vR 10 0 0), some (vI x1), some (vI x2)], [vI x1, vR 10 0 29], σ)) rfl).trans ?_
  refine (e_a (A := (149, 6, [some (vR 10 0 0), some (vI x1), some (vI x2)], [vI (σ.1 10 0 28 (x1).toNatClampNeg)], σ)) rfl h1).trans ?_
  refine (e_n 1 (fr' := (149, 7, [some (vR 10 0 0), some (vI x1), some (vI x2)], [vI x2, vI (σ.1 10 0 28 (x1).toNatClampNeg)], σ)) rfl).trans ?_
  refine (e_f (B := (149, 10, [some (vR 10 0 0), some (vI x1), some (vI x2)], [], σ)) rfl h2).trans ?_
  refine (e_n 4 (fr' := (149, 16, [some (vR 10 0 0), some (vI x1), some (vI x2)], [vI x1, vR 10 0 27, vR 10 0 0], σ)) rfl).trans ?_
  refine (e_a (A := (149, 17, [some (vR 10 0 0), some (vI x1), some (vI x2)], [vI (σ.1 10 0 26 (x1).toNatClampNeg), vR 10 0 0], σ)) rfl h1).trans ?_
  refine (e_n 1 (fr' := (149, 18, [some (vR 10 0 0), some (vI x1), some (vI x2)], [vI x2, vI (σ.1 10 0 26 (x1).toNatClampNeg), vR 10 0 0], σ)) rfl).trans ?_
  refine (e_ci (m := 149) (pc := 21) (ls := [some (vR 10 0 0), some (vI x1), some (vI x2)]) (rest := []) rfl h3).trans ?_
  refine (e_f (B := (149, 24, [some (vR 10 0 0), some (vI x1), some (vI x2)], [], σ1)) rfl h4).trans ?_
  refine (e_n 4 (fr' := (149, 30, [some (vR 10 0 0), some (vI x1), some (vI x2)], [vI x1, vR 10 0 28, vR 10 0 0], σ1)) rfl).trans ?_
  refine (e_a (A := (149, 31, [some (vR 10 0 0), some (vI x1), some (vI x2)], [vI (σ1.1 10 0 27 (x1).toNatClampNeg), vR 10 0 0], σ1)) rfl h1).trans ?_
  refine (e_n 1 (fr' := (149, 32, [some (vR 10 0 0), some (vI x1), some (vI x2)], [vI x2, vI (σ1.1 10 0 27 (x1).toNatClampNeg), vR 10 0 0], σ1)) rfl).trans ?_
  refine (e_ci (m := 149) (pc := 35) (ls := [some (vR 10 0 0), some (vI x1), some (vI x2)]) (rest := []) rfl h5).trans ?_
  refine (e_f (B := (149, 38, [some (vR 10 0 0), some (vI x1), some (vI x2)], [], σ2)) rfl h6).trans ?_
  refine (e_n 2 (fr' := (149, 43, [some (vR 10 0 0), some (vI x1), some (vI x2)], [vI (1 : Int32)], σ2)) rfl).trans ?_
  exact e_r rfl
set_option maxRecDepth 20000 in
theorem g150_0_0 (C : pmC) {σ : pmS} {x1 : Int32} {x2 : Int32} {l3 : Option pmV}  : pq_Rn C (150, 0, [some (vR 10 0 0), some (vI x1), some (vI x2), l3], [], σ) = pq_Rn C (150, 2, [some (vR 10 0 0), some (vI x1), some (vI x2), some (vI (0 : Int32))], [], σ) := by
  exact e_n 2 rfl
set_option maxRecDepth 20000 in
theorem g150_2_0 (C : pmC) {σ : pmS} {x1 : Int32} {x2 : Int32} {x3 : Int32} (h1 : (σ.1 10 0 17 0) ≤ x3) : pq_Rn C (150, 2, [some (vR 10 0 0), some (vI x1), some (vI x2), some (vI x3)], [], σ) = some (some (vI (-1 : Int32)), σ) := by
  refine (e_n 3 (fr' := (150, 7, [some (vR 10 0 0), some (vI x1), some (vI x2), some (vI x3)], [vI (σ.1 10 0 17 0), vI x3], σ)) rfl).trans ?_
  refine (e_t (A := (150, 71, [some (vR 10 0 0), some (vI x1), some (vI x2), some (vI x3)], [], σ)) rfl h1).trans ?_
  refine (e_n 1 (fr' := (150, 72, [some (vR 10 0 0), some (vI x1), some (vI x2), some (vI x3)], [vI (-1 : Int32)], σ)) rfl).trans ?_
  exact e_r rfl
set_option maxRecDepth 20000 in
theorem g150_2_1 (C : pmC) {σ : pmS} {x1 : Int32} {x2 : Int32} {x3 : Int32} {σ1 : pmS} {r1 : Int32} (h1 : ¬ (σ.1 10 0 17 0) ≤ x3) (h2 : C 149 [vR 10 0 0, vI x3, vI x2] σ = some (some (vI r1), σ1)) (h3 : r1 = 0) : pq_Rn C (150, 2, [some (vR 10 0 0), some (vI x1), some (vI x2), some (vI x3)], [], σ) = pq_Rn C (150, 2, [some (vR 10 0 0), some (vI x1), some (vI x2), some (vI (x3 + (1 : Int32)))], [], σ1) := by
  refine (e_n 3 (fr' := (150, 7, [some (vR 10 0 0), some (vI x1), some (vI x2), some (vI x3)], [vI (σ.1 10 0 17 0), vI x3], σ)) rfl).trans ?_
  refine (e_f (B := (150, 10, [some (vR 10 0 0), some (vI x1), some (vI x2), some (vI x3)], [], σ)) rfl h1).trans ?_
  refine (e_n 3 (fr' := (150, 13, [some (vR 10 0 0), some (vI x1), some (vI x2), some (vI x3)], [vI x2, vI x3, vR 10 0 0], σ)) rfl).trans ?_
  refine (e_ci (m := 150) (pc := 16) (ls := [some (vR 10 0 0), some (vI x1), some (vI x2), some (vI x3)]) (rest := []) rfl h2).trans ?_
  refine (e_t (A := (150, 65, [some (vR 10 0 0), some (vI x1), some (vI x2), some (vI x3)], [], σ1)) rfl h3).trans ?_
  exact e_n 2 rfl
set_option maxRecDepth 20000 in
theorem g150_2_2 (C : pmC) {σ : pmS} {x1 : Int32} {x2 : Int32} {x3 : Int32} {σ1 : pmS} {r1 : Int32} (h1 : ¬ (σ.1 10 0 17 0) ≤ x3) (h2 : C 149 [vR 10 0 0, vI x3, vI x2] σ = some (some (vI r1), σ1)) (h3 : ¬ r1 = 0) (h4 : vp_in x3 40) (h5 : (σ1.1 10 0 26 (x3).toNatClampNeg) = x1) (h6 : (σ1.1 10 0 26 (x3).toNatClampNeg) = x1) : pq_Rn C (150, 2, [some (vR 10 0 0), some (vI x1), some (vI x2), some (vI x3)], [], σ) = some (some (vI (σ1.1 10 0 27 (x3).toNatClampNeg)), σ1) := by
  refine (e_n 3 (fr' := (150, 7, [some (vR 10 0 0), some (vI x1), some (vI x2), some (vI x3)], [vI (σ.1 10 0 17 0), vI x3], σ)) rfl).trans ?_
  refine (e_f (B := (150, 10, [some (vR 10 0 0), some (vI x1), some (vI x2), some (vI x3)], [], σ)) rfl h1).trans ?_
  refine (e_n 3 (fr' := (150, 13, [some (vR 10 0 0), some (vI x1), some (vI x2), some (vI x3)], [vI x2, vI x3, vR 10 0 0], σ)) rfl).trans ?_
  refine (e_ci (m := 150) (pc := 16) (ls := [some (vR 10 0 0), some (vI x1), some (vI x2), some (vI x3)]) (rest := []) rfl h2).trans ?_
  refine (e_f (B := (150, 19, [some (vR 10 0 0), some (vI x1), some (vI x2), some (vI x3)], [], σ1)) rfl h3).trans ?_
  refine (e_n 3 (fr' := (150, 24, [some (vR 10 0 0), some (vI x1), some (vI x2), some (vI x3)], [vI x3, vR 10 0 27], σ1)) rfl).trans ?_
  refine (e_a (A := (150, 25, [some (vR 10 0 0), some (vI x1), some (vI x2), some (vI x3)], [vI (σ1.1 10 0 26 (x3).toNatClampNeg)], σ1)) rfl h4).trans ?_
  refine (e_n 1 (fr' := (150, 26, [some (vR 10 0 0), some (vI x1), some (vI x2), some (vI x3)], [vI x1, vI (σ1.1 10 0 26 (x3).toNatClampNeg)], σ1)) rfl).trans ?_
  refine (e_t (A := (150, 39, [some (vR 10 0 0), some (vI x1), some (vI x2), some (vI x3)], [], σ1)) rfl h5).trans ?_
  refine (e_n 3 (fr' := (150, 44, [some (vR 10 0 0), some (vI x1), some (vI x2), some (vI x3)], [vI x3, vR 10 0 27], σ1)) rfl).trans ?_
  refine (e_a (A := (150, 45, [some (vR 10 0 0), some (vI x1), some (vI x2), some (vI x3)], [vI (σ1.1 10 0 26 (x3).toNatClampNeg)], σ1)) rfl h4).trans ?_
  refine (e_n 1 (fr' := (150, 46, [some (vR 10 0 0), some (vI x1), some (vI x2), some (vI x3)], [vI x1, vI (σ1.1 10 0 26 (x3).toNatClampNeg)], σ1)) rfl).trans ?_
  refine (e_t (A := (150, 49, [some (vR 10 0 0), some (vI x1), some (vI x2), some (vI x3)], [], σ1)) rfl h6).trans ?_
  refine (e_n 3 (fr' := (150, 54, [some (vR 10 0 0), some (vI x1), some (vI x2), some (vI x3)], [vI x3, vR 10 0 28], σ1)) rfl).trans ?_
  refine (e_a (A := (150, 55, [some (vR 10 0 0), some (vI x1), some (vI x2), some (vI x3)], [vI (σ1.1 10 0 27 (x3).toNatClampNeg)], σ1)) rfl h4).trans ?_
  refine (e_n 1 (fr' := (150, 64, [some (vR 10 0 0), some (vI x1), some (vI x2), some (vI x3)], [vI (σ1.1 10 0 27 (x3).toNatClampNeg)], σ1)) rfl).trans ?_
  exact e_r rfl
set_option maxRecDepth 20000 in
theorem g150_2_3 (C : pmC) {σ : pmS} {x1 : Int32} {x2 : Int32} {x3 : Int32} {σ1 : pmS} {r1 : Int32} (h1 : ¬ (σ.1 10 0 17 0) ≤ x3) (h2 : C 149 [vR 10 0 0, vI x3, vI x2] σ = some (some (vI r1), σ1)) (h3 : ¬ r1 = 0) (h4 : vp_in x3 40) (h5 : (σ1.1 10 0 26 (x3).toNatClampNeg) = x1) (h6 : ¬ (σ1.1 10 0 26 (x3).toNatClampNeg) = x1) : pq_Rn C (150, 2, [some (vR 10 0 0), some (vI x1), some (vI x2), some (vI x3)], [], σ) = some (some (vI (σ1.1 10 0 26 (x3).toNatClampNeg)), σ1) := by
  refine (e_n 3 (fr' := (150, 7, [some (vR 10 0 0), some (vI x1), some (vI x2), some (vI x3)], [vI (σ.1 10 0 17 0), vI x3], σ)) rfl).trans ?_
  refine (e_f (B := (150, 10, [some (vR 10 0 0), some (vI x1), some (vI x2), some (vI x3)], [], σ)) rfl h1).trans ?_
  refine (e_n 3 (fr' := (150, 13, [some (vR 10 0 0), some (vI x1), some (vI x2), some (vI x3)], [vI x2, vI x3, vR 10 0 0], σ)) rfl).trans ?_
  refine (e_ci (m := 150) (pc := 16) (ls := [some (vR 10 0 0), some (vI x1), some (vI x2), some (vI x3)]) (rest := []) rfl h2).trans ?_
  refine (e_f (B := (150, 19, [some (vR 10 0 0), some (vI x1), some (vI x2), some (vI x3)], [], σ1)) rfl h3).trans ?_
  refine (e_n 3 (fr' := (150, 24, [some (vR 10 0 0), some (vI x1), some (vI x2), some (vI x3)], [vI x3, vR 10 0 27], σ1)) rfl).trans ?_
  refine (e_a (A := (150, 25, [some (vR 10 0 0), some (vI x1), some (vI x2), some (vI x3)], [vI (σ1.1 10 0 26 (x3).toNatClampNeg)], σ1)) rfl h4).trans ?_
  refine (e_n 1 (fr' := (150, 26, [some (vR 10 0 0), some (vI x1), some (vI x2), some (vI x3)], [vI x1, vI (σ1.1 10 0 26 (x3).toNatClampNeg)], σ1)) rfl).trans ?_
  refine (e_t (A := (150, 39, [some (vR 10 0 0), some (vI x1), some (vI x2), some (vI x3)], [], σ1)) rfl h5).trans ?_
  refine (e_n 3 (fr' := (150, 44, [some (vR 10 0 0), some (vI x1), some (vI x2), some (vI x3)], [vI x3, vR 10 0 27], σ1)) rfl).trans ?_
  refine (e_a (A := (150, 45, [some (vR 10 0 0), some (vI x1), some (vI x2), some (vI x3)], [vI (σ1.1 10 0 26 (x3).toNatClampNeg)], σ1)) rfl h4).trans ?_
  refine (e_n 1 (fr' := (150, 46, [some (vR 10 0 0), some (vI x1), some (vI x2), some (vI x3)], [vI x1, vI (σ1.1 10 0 26 (x3).toNatClampNeg)], σ1)) rfl).trans ?_
  refine (e_f (B := (150, 58, [some (vR 10 0 0), some (vI x1), some (vI x2), some (vI x3)], [], σ1)) rfl h6).trans ?_
  refine (e_n 3 (fr' := (150, 63, [some (vR 10 0 0), some (vI x1), some (vI x2), some (vI x3)], [vI x3, vR 10 0 27], σ1)) rfl).trans ?_
  refine (e_a (A := (150, 64, [some (vR 10 0 0), some (vI x1), some (vI x2), some (vI x3)], [vI (σ1.1 10 0 26 (x3).toNatClampNeg)], σ1)) rfl h4).trans ?_
  exact e_r rfl
set_option maxRecDepth 20000 in
theorem g150_2_4 (C : pmC) {σ : pmS} {x1 : Int32} {x2 : Int32} {x3 : Int32} {σ1 : pmS} {r1 : Int32} (h1 : ¬ (σ.1 10 0 17 0) ≤ x3) (h2 : C 149 [vR 10 0 0, vI x3, vI x2] σ = some (some (vI r1), σ1)) (h3 : ¬ r1 = 0) (h4 : vp_in x3 40) (h5 : ¬ (σ1.1 10 0 26 (x3).toNatClampNeg) = x1) (h6 : (σ1.1 10 0 27 (x3).toNatClampNeg) = x1) (h7 : (σ1.1 10 0 26 (x3).toNatClampNeg) = x1) : pq_Rn C (150, 2, [some (vR 10 0 0), some (vI x1), some (vI x2), some (vI x3)], [], σ) = some (some (vI (σ1.1 10 0 27 (x3).toNatClampNeg)), σ1) := by
  refine (e_n 3 (fr' := (150, 7, [some (vR 10 0 0), some (vI x1), some (vI x2), some (vI x3)], [vI (σ.1 10 0 17 0), vI x3], σ)) rfl).trans ?_
  refine (e_f (B := (150, 10, [some (vR 10 0 0), some (vI x1), some (vI x2), some (vI x3)], [], σ)) rfl h1).trans ?_
  refine (e_n 3 (fr' := (150, 13, [some (vR 10 0 0), some (vI x1), some (vI x2), some (vI x3)], [vI x2, vI x3, vR 10 0 0], σ)) rfl).trans ?_
  refine (e_ci (m := 150) (pc := 16) (ls := [some (vR 10 0 0), some (vI x1), some (vI x2), some (vI x3)]) (rest := []) rfl h2).trans ?_
  refine (e_f (B := (150, 19, [some (vR 10 0 0), some (vI x1), some (vI x2), some (vI x3)], [], σ1)) rfl h3).trans ?_
  refine (e_n 3 (fr' := (150, 24, [some (vR 10 0 0), some (vI x1), some (vI x2), some (vI x3)], [vI x3, vR 10 0 27], σ1)) rfl).trans ?_
  refine (e_a (A := (150, 25, [some (vR 10 0 0), some (vI x1), some (vI x2), some (vI x3)], [vI (σ1.1 10 0 26 (x3).toNatClampNeg)], σ1)) rfl h4).trans ?_
  refine (e_n 1 (fr' := (150, 26, [some (vR 10 0 0), some (vI x1), some (vI x2), some (vI x3)], [vI x1, vI (σ1.1 10 0 26 (x3).toNatClampNeg)], σ1)) rfl).trans ?_
  refine (e_f (B := (150, 29, [some (vR 10 0 0), some (vI x1), some (vI x2), some (vI x3)], [], σ1)) rfl h5).trans ?_
  refine (e_n 3 (fr' := (150, 34, [some (vR 10 0 0), some (vI x1), some (vI x2), some (vI x3)], [vI x3, vR 10 0 28], σ1)) rfl).trans ?_
  refine (e_a (A := (150, 35, [some (vR 10 0 0), some (vI x1), some (vI x2), some (vI x3)], [vI (σ1.1 10 0 27 (x3).toNatClampNeg)], σ1)) rfl h4).trans ?_
  refine (e_n 1 (fr' := (150, 36, [some (vR 10 0 0), some (vI x1), some (vI x2), some (vI x3)], [vI x1, vI (σ1.1 10 0 27 (x3).toNatClampNeg)], σ1)) rfl).trans ?_
  refine (e_t (A := (150, 39, [some (vR 10 0 0), some (vI x1), some (vI x2), some (vI x3)], [], σ1)) rfl h6).trans ?_
  refine (e_n 3 (fr' := (150, 44, [some (vR 10 0 0), some (vI x1), some (vI x2), some (vI x3)], [vI x3, vR 10 0 27], σ1)) rfl).trans ?_
  refine (e_a (A := (150, 45, [some (vR 10 0 0), some (vI x1), some (vI x2), some (vI x3)], [vI (σ1.1 10 0 26 (x3).toNatClampNeg)], σ1)) rfl h4).trans ?_
  refine (e_n 1 (fr' := (150, 46, [some (vR 10 0 0), some (vI x1), some (vI x2), some (vI x3)], [vI x1, vI (σ1.1 10 0 26 (x3).toNatClampNeg)], σ1)) rfl).trans ?_
  refine (e_t (A := (150, 49, [some (vR 10 0 0), some (vI x1), some (vI x2), some (vI x3)], [], σ1)) rfl h7).trans ?_
  refine (e_n 3 (fr' := (150, 54, [some (vR 10 0 0), some (vI x1), some (vI x2), some (vI x3)], [vI x3, vR 10 0 28], σ1)) rfl).trans ?_
  refine (e_a (A := (150, 55, [some (vR 10 0 0), some (vI x1), some (vI x2), some (vI x3)], [vI (σ1.1 10 0 27 (x3).toNatClampNeg)], σ1)) rfl h4).trans ?_
  refine (e_n 1 (fr' := (150, 64, [some (vR 10 0 0), some (vI x1), some (vI x2), some (vI x3)], [vI (σ1.1 10 0 27 (x3).toNatClampNeg)], σ1)) rfl).trans ?_
  exact e_r rfl
set_option maxRecDepth 20000 in
theorem g150_2_5 (C : pmC) {σ : pmS} {x1 : Int32} {x2 : Int32} {x3 : Int32} {σ1 : pmS} {r1 : Int32} (h1 : ¬ (σ.1 10 0 17 0) ≤ x3) (h2 : C 149 [vR 10 0 0, vI x3, vI x2] σ = some (some (vI r1), σ1)) (h3 : ¬ r1 = 0) (h4 : vp_in x3 40) (h5 : ¬ (σ1.1 10 0 26 (x3).toNatClampNeg) = x1) (h6 : (σ1.1 10 0 27 (x3).toNatClampNeg) = x1) (h7 : ¬ (σ1.1 10 0 26 (x3).toNatClampNeg) = x1) : pq_Rn C (150, 2, [some (vR 10 0 0), some (vI x1), some (vI x2), some (vI x3)], [], σ) = some (some (vI (σ1.1 10 0 26 (x3).toNatClampNeg)), σ1) := by
  refine (e_n 3 (fr' := (150, 7, [some (vR 10 0 0), some (vI x1), some (vI x2), some (vI x3)], [vI (σ.1 10 0 17 0), vI x3], σ)) rfl).trans ?_
  refine (e_f (B := (150, 10, [some (vR 10 0 0), some (vI x1), some (vI x2), some (vI x3)], [], σ)) rfl h1).trans ?_
  refine (e_n 3 (fr' := (150, 13, [some (vR 10 0 0), some (vI x1), some (vI x2), some (vI x3)], [vI x2, vI x3, vR 10 0 0], σ)) rfl).trans ?_
  refine (e_ci (m := 150) (pc := 16) (ls := [some (vR 10 0 0), some (vI x1), some (vI x2), some (vI x3)]) (rest := []) rfl h2).trans ?_
  refine (e_f (B := (150, 19, [some (vR 10 0 0), some (vI x1), some (vI x2), some (vI x3)], [], σ1)) rfl h3).trans ?_
  refine (e_n 3 (fr' := (150, 24, [some (vR 10 0 0), some (vI x1), some (vI x2), some (vI x3)], [vI x3, vR 10 0 27], σ1)) rfl).trans ?_
  refine (e_a (A := (150, 25, [some (vR 10 0 0), some (vI x1), some (vI x2), some (vI x3)], [vI (σ1.1 10 0 26 (x3).toNatClampNeg)], σ1)) rfl h4).trans ?_
  refine (e_n 1 (fr' := (150, 26, [some (vR 10 0 0), some (vI x1), some (vI x2), some (vI x3)], [vI x1, vI (σ1.1 10 0 26 (x3).toNatClampNeg)], σ1)) rfl).trans ?_
  refine (e_f (B := (150, 29, [some (vR 10 0 0), some (vI x1), some (vI x2), some (vI x3)], [], σ1)) rfl h5).trans ?_
  refine (e_n 3 (fr' := (150, 34, [some (vR 10 0 0), some (vI x1), some (vI x2), some (vI x3)], [vI x3, vR 10 0 28], σ1)) rfl).trans ?_
  refine (e_a (A := (150, 35, [some (vR 10 0 0), some (vI x1), some (vI x2), some (vI x3)], [vI (σ1.1 10 0 27 (x3).toNatClampNeg)], σ1)) rfl h4).trans ?_
  refine (e_n 1 (fr' := (150, 36, [some (vR 10 0 0), some (vI x1), some (vI x2), some (vI x3)], [vI x1, vI (σ1.1 10 0 27 (x3).toNatClampNeg)], σ1)) rfl).trans ?_
  refine (e_t (A := (150, 39, [some (vR 10 0 0), some (vI x1), some (vI x2), some (vI x3)], [], σ1)) rfl h6).trans ?_
  refine (e_n 3 (fr' := (150, 44, [some (vR 10 0 0), some (vI x1), some (vI x2), some (vI x3)], [vI x3, vR 10 0 27], σ1)) rfl).trans ?_
  refine (e_a (A := (150, 45, [some (vR 10 0 0), some (vI x1), some (vI x2), some (vI x3)], [vI (σ1.1 10 0 26 (x3).toNatClampNeg)], σ1)) rfl h4).trans ?_
  refine (e_n 1 (fr' := (150, 46, [some (vR 10 0 0), some (vI x1), some (vI x2), some (vI x3)], [vI x1, vI (σ1.1 10 0 26 (x3).toNatClampNeg)], σ1)) rfl).trans ?_
  refine (e_f (B := (150, 58, [some (vR 10 0 0), some (vI x1), some (vI x2), some (vI x3)], [], σ1)) rfl h7).trans ?_
  refine (e_n 3 (fr' := (150, 63, [some (vR 10 0 0), some (vI x1), some (vI x2), some (vI x3)], [vI x3, vR 10 0 27], σ1)) rfl).trans ?_
  refine (e_a (A := (150, 64, [some (vR 10 0 0), some (vI x1), some (vI x2), some (vI x3)], [vI (σ1.1 10 0 26 (x3).toNatClampNeg)], σ1)) rfl h4).trans ?_
  exact e_r rfl
set_option maxRecDepth 20000 in
theorem g150_2_6 (C : pmC) {σ : pmS} {x1 : Int32} {x2 : Int32} {x3 : Int32} {σ1 : pmS} {r1 : Int32} (h1 : ¬ (σ.1 10 0 17 0) ≤ x3) (h2 : C 149 [vR 10 0 0, vI x3, vI x2] σ = some (some (vI r1), σ1)) (h3 : ¬ r1 = 0) (h4 : vp_in x3 40) (h5 : ¬ (σ1.1 10 0 26 (x3).toNatClampNeg) = x1) (h6 : ¬ (σ1.1 10 0 27 (x3).toNatClampNeg) = x1) : pq_Rn C (150, 2, [some (vR 10 0 0), some (vI x1), some (vI x2), some (vI x3)], [], σ) = pq_Rn C (150, 2, [some (vR 10 0 0), some (vI x1), some (vI x2), some (vI (x3 + (1 : Int32)))], [], σ1) := by
  refine (e_n 3 (fr' := (150, 7, [some (vR 10 0 0), some (vI x1), some (vI x2), some (vI x3)], [vI (σ.1 10 0 17 0), vI x3], σ)) rfl).trans ?_
  refine (e_f (B := (150, 10, [some (vR 10 0 0), some (vI x1), some (vI x2), some (vI x3)], [], σ)) rfl h1).trans ?_
  refine (e_n 3 (fr' := (150, 13, [some (vR 10 0 0), some (vI x1), some (vI x2), some (vI x3)], [vI x2, vI x3, vR 10 0 0], σ)) rfl).trans ?_
  refine (e_ci (m := 150) (pc := 16) (ls := [some (vR 10 0 0), some (vI x1), some (vI x2), some (vI x3)]) (rest := []) rfl h2).trans ?_
  refine (e_f (B := (150, 19, [some (vR 10 0 0), some (vI x1), some (vI x2), some (vI x3)], [], σ1)) rfl h3).trans ?_
  refine (e_n 3 (fr' := (150, 24, [some (vR 10 0 0), some (vI x1), some (vI x2), some (vI x3)], [vI x3, vR 10 0 27], σ1)) rfl).trans ?_
  refine (e_a (A := (150, 25, [some (vR 10 0 0), some (vI x1), some (vI x2), some (vI x3)], [vI (σ1.1 10 0 26 (x3).toNatClampNeg)], σ1)) rfl h4).trans ?_
  refine (e_n 1 (fr' := (150, 26, [some (vR 10 0 0), some (vI x1), some (vI x2), some (vI x3)], [vI x1, vI (σ1.1 10 0 26 (x3).toNatClampNeg)], σ1)) rfl).trans ?_
  refine (e_f (B := (150, 29, [some (vR 10 0 0), some (vI x1), some (vI x2), some (vI x3)], [], σ1)) rfl h5).trans ?_
  refine (e_n 3 (fr' := (150, 34, [some (vR 10 0 0), some (vI x1), some (vI x2), some (vI x3)], [vI x3, vR 10 0 28], σ1)) rfl).trans ?_
  refine (e_a (A := (150, 35, [some (vR 10 0 0), some (vI x1), some (vI x2), some (vI x3)], [vI (σ1.1 10 0 27 (x3).toNatClampNeg)], σ1)) rfl h4).trans ?_
  refine (e_n 1 (fr' := (150, 36, [some (vR 10 0 0), some (vI x1), some (vI x2), some (vI x3)], [vI x1, vI (σ1.1 10 0 27 (x3).toNatClampNeg)], σ1)) rfl).trans ?_
  refine (e_f (B := (150, 65, [some (vR 10 0 0), some (vI x1), some (vI x2), some (vI x3)], [], σ1)) rfl h6).trans ?_
  exact e_n 2 rfl
set_option maxRecDepth 20000 in
theorem g151_0_0 (C : pmC) {σ : pmS} {x1 : Int32} {x2 : Int32} (h1 : vp_in x1 48) (h2 : (σ.1 10 0 23 (x1).toNatClampNeg) = x2) : pq_Rn C (151, 0, [some (vR 10 0 0), some (vI x1), some (vI x2)], [], σ) = some (some (vI (1 : Int32)), σ) := by
  refine (e_n 3 (fr' := (151, 5, [some (vR 10 0 0), some (vI x1), some (vI x2)], [vI x1, vR 10 0 24], σ)) rfl).trans ?_
  refine (e_a (A := (151, 6, [some (vR 10 0 0), some (vI x1), some (vI x2)], [vI (σ.1 10 0 23 (x1).toNatClampNeg)], σ)) rfl h1).trans ?_
  refine (e_n 1 (fr' := (151, 7, [some (vR 10 0 0), some (vI x1), some (vI x2)], [vI x2, vI (σ.1 10 0 23 (x1).toNatClampNeg)], σ)) rfl).trans ?_
  refine (e_t (A := (151, 40, [some (vR 10 0 0), some (vI x1), some (vI x2)], [], σ)) rfl h2).trans ?_
  refine (e_n 1 (fr' := (151, 41, [some (vR 10 0 0), some (vI x1), some (vI x2)], [vI (1 : Int32)], σ)) rfl).trans ?_
  exact e_r rfl
set_option maxRecDepth 20000 in
theorem g151_0_1 (C : pmC) {σ : pmS} {x1 : Int32} {x2 : Int32} (h1 : vp_in x1 48) (h2 : ¬ (σ.1 10 0 23 (x1).toNatClampNeg) = x2) (h3 : (σ.1 10 0 24 (x1).toNatClampNeg) = x2) : pq_Rn C (151, 0, [some (vR 10 0 0), some (vI x1), some (vI x2)], [], σ) = some (some (vI (1 : Int32)), σ) := by
  refine (e_n 3 (fr' := (151, 5, [some (vR 10 0 0), some (vI x1), some (vI x2)], [vI x1, vR 10 0 24], σ)) rfl).trans ?_
  refine (e_a (A := (151, 6, [some (vR 10 0 0), some (vI x1), some (vI x2)], [vI (σ.1 10 0 23 (x1).toNatClampNeg)], σ)) rfl h1).trans ?_
  refine (e_n 1 (fr' := (151, 7, [some (vR 10 0 0), some (vI x1), some (vI x2)], [vI x2, vI (σ.1 10 0 23 (x1).toNatClampNeg)], σ)) rfl).trans ?_
  refine (e_f (B := (151, 10, [some (vR 10 0 0), some (vI x1), some (vI x2)], [], σ)) rfl h2).trans ?_
  refine (e_n 3 (fr' := (151, 15, [some (vR 10 0 0), some (vI x1), some (vI x2)], [vI x1, vR 10 0 25], σ)) rfl).trans ?_
  refine (e_a (A := (151, 16, [some (vR 10 0 0), some (vI x1), some (vI x2)], [vI (σ.1 10 0 24 (x1).toNatClampNeg)], σ)) rfl h1).trans ?_
  refine (e_n 1 (fr' := (151, 17, [some (vR 10 0 0), some (vI x1), some (vI x2)], [vI x2, vI (σ.1 10 0 24 (x1).toNatClampNeg)], σ)) rfl).trans ?_
  refine (e_t (A := (151, 40, [some (vR 10 0 0), some (vI x1), some (vI x2)], [], σ)) rfl h3).trans ?_
  refine (e_n 1 (fr' := (151, 41, [some (vR 10 0 0), some (vI x1), some (vI x2)], [vI (1 : Int32)], σ)) rfl).trans ?_
  exact e_r rfl
set_option maxRecDepth 20000 in
theorem g151_0_2 (C : pmC) {σ : pmS} {x1 : Int32} {x2 : Int32} (h1 : vp_in x1 48) (h2 : ¬ (σ.1 10 0 23 (x1).toNatClampNeg) = x2) (h3 : ¬ (σ.1 10 0 24 (x1).toNatClampNeg) = x2) (h4 : vp_in x2 48) (h5 : (σ.1 10 0 23 (x2).toNatClampNeg) = x1) : pq_Rn C (151, 0, [some (vR 10 0 0), some (vI x1), some (vI x2)], [], σ) = some (some (vI (1 : Int32)), σ) := by
  refine (e_n 3 (fr' := (151, 5, [some (vR 10 0 0), some (vI x1), some (vI x2)], [vI x1, vR 10 0 24], σ)) rfl).trans ?_
  refine (e_a (A := (151, 6, [some (vR 10 0 0), some (vI x1), some (vI x2)], [vI (σ.1 10 0 23 (x1).toNatClampNeg)], σ)) rfl h1).trans ?_
  refine (e_n 1 (fr' := (151, 7, [some (vR 10 0 0), some (vI x1), some (vI x2)], [vI x2, vI (σ.1 10 0 23 (x1).toNatClampNeg)], σ)) rfl).trans ?_
  refine (e_f (B := (151, 10, [some (vR 10 0 0), some (vI x1), some (vI x2)], [], σ)) rfl h2).trans ?_
  refine (e_n 3 (fr' := (151, 15, [some (vR 10 0 0), some (vI x1), some (vI x2)], [vI x1, vR 10 0 25], σ)) rfl).trans ?_
  refine (e_a (A := (151, 16, [some (vR 10 0 0), some (vI x1), some (vI x2)], [vI (σ.1 10 0 24 (x1).toNatClampNeg)], σ)) rfl h1).trans ?_
  refine (e_n 1 (fr' := (151, 17, [some (vR 10 0 0), some (vI x1), some (vI x2)], [vI x2, vI (σ.1 10 0 24 (x1).toNatClampNeg)], σ)) rfl).trans ?_
  refine (e_f (B := (151, 20, [some (vR 10 0 0), some (vI x1), some (vI x2)], [], σ)) rfl h3).trans ?_
  refine (e_n 3 (fr' := (151, 25, [some (vR 10 0 0), some (vI x1), some (vI x2)], [vI x2, vR 10 0 24], σ)) rfl).trans ?_
  refine (e_a (A := (151, 26, [some (vR 10 0 0), some (vI x1), some (vI x2)], [vI (σ.1 10 0 23 (x2).toNatClampNeg)], σ)) rfl h4).trans ?_
  refine (e_n 1 (fr' := (151, 27, [some (vR 10 0 0), some (vI x1), some (vI x2)], [vI x1, vI (σ.1 10 0 23 (x2).toNatClampNeg)], σ)) rfl).trans ?_
  refine (e_t (A := (151, 40, [some (vR 10 0 0), some (vI x1), some (vI x2)], [], σ)) rfl h5).trans ?_
  refine (e_n 1 (fr' := (151, 41, [some (vR 10 0 0), some (vI x1), some (vI x2)], [vI (1 : Int32)], σ)) rfl).trans ?_
  exact e_r rfl
set_option maxRecDepth 20000 in
theorem g151_0_3 (C : pmC) {σ : pmS} {x1 : Int32} {x2 : Int32} (h1 : vp_in x1 48) (h2 : ¬ (σ.1 10 0 23 (x1).toNatClampNeg) = x2) (h3 : ¬ (σ.1 10 0 24 (x1).toNatClampNeg) = x2) (h4 : vp_in x2 48) (h5 : ¬ (σ.1 10 0 23 (x2).toNatClampNeg) = x1) (h6 : (σ.1 10 0 24 (x2).toNatClampNeg) = x1) : pq_Rn C (151, 0, [some (vR 10 0 0), some (vI x1), some (vI x2)], [], σ) = some (some (vI (1 : Int32)), σ) := by
  refine (e_n 3 (fr' := (151, 5, [some (vR 10 0 0), some (vI x1), some (vI x2)], [vI x1, vR 10 0 24], σ)) rfl).trans ?_
  refine (e_a (A := (151, 6, [some (vR 10 0 0), some (vI x1), some (vI x2)], [vI (σ.1 10 0 23 (x1).toNatClampNeg)], σ)) rfl h1).trans ?_
  refine (e_n 1 (fr' := (151, 7, [some (vR 10 0 0), some (vI x1), some (vI x2)], [vI x2, vI (σ.1 10 0 23 (x1).toNatClampNeg)], σ)) rfl).trans ?_
  refine (e_f (B := (151, 10, [some (vR 10 0 0), some (vI x1), some (vI x2)], [], σ)) rfl h2).trans ?_
  refine (e_n 3 (fr' := (151, 15, [some (vR 10 0 0), some (vI x1), some (vI x2)], [vI x1, vR 10 0 25], σ)) rfl).trans ?_
  refine (e_a (A := (151, 16, [some (vR 10 0 0), some (vI x1), some (vI x2)], [vI (σ.1 10 0 24 (x1).toNatClampNeg)], σ)) rfl h1).trans ?_
  refine (e_n 1 (fr' := (151, 17, [some (vR 10 0 0), some (vI x1), some (vI x2)], [vI x2, vI (σ.1 10 0 24 (x1).toNatClampNeg)], σ)) rfl).trans ?_
  refine (e_f (B := (151, 20, [some (vR 10 0 0), some (vI x1), some (vI x2)], [], σ)) rfl h3).trans ?_
  refine (e_n 3 (fr' := (151, 25, [some (vR 10 0 0), some (vI x1), some (vI x2)], [vI x2, vR 10 0 24], σ)) rfl).trans ?_
  refine (e_a (A := (151, 26, [some (vR 10 0 0), some (vI x1), some (vI x2)], [vI (σ.1 10 0 23 (x2).toNatClampNeg)], σ)) rfl h4).trans ?_
  refine (e_n 1 (fr' := (151, 27, [some (vR 10 0 0), some (vI x1), some (vI x2)], [vI x1, vI (σ.1 10 0 23 (x2).toNatClampNeg)], σ)) rfl).trans ?_
  refine (e_f (B := (151, 30, [some (vR 10 0 0), some (vI x1), some (vI x2)], [], σ)) rfl h5).trans ?_
  refine (e_n 3 (fr' := (151, 35, [some (vR 10 0 0), some (vI x1), some (vI x2)], [vI x2, vR 10 0 25], σ)) rfl).trans ?_
  refine (e_a (A := (151, 36, [some (vR 10 0 0), some (vI x1), some (vI x2)], [vI (σ.1 10 0 24 (x2).toNatClampNeg)], σ)) rfl h4).trans ?_
  refine (e_n 1 (fr' := (151, 37, [some (vR 10 0 0), some (vI x1), some (vI x2)], [vI x1, vI (σ.1 10 0 24 (x2).toNatClampNeg)], σ)) rfl).trans ?_
  refine (e_t (A := (151, 40, [some (vR 10 0 0), some (vI x1), some (vI x2)], [], σ)) rfl h6).trans ?_
  refine (e_n 1 (fr' := (151, 41, [some (vR 10 0 0), some (vI x1), some (vI x2)], [vI (1 : Int32)], σ)) rfl).trans ?_
  exact e_r rfl
set_option maxRecDepth 20000 in
theorem g151_0_4 (C : pmC) {σ : pmS} {x1 : Int32} {x2 : Int32} (h1 : vp_in x1 48) (h2 : ¬ (σ.1 10 0 23 (x1).toNatClampNeg) = x2) (h3 : ¬ (σ.1 10 0 24 (x1).toNatClampNeg) = x2) (h4 : vp_in x2 48) (h5 : ¬ (σ.1 10 0 23 (x2).toNatClampNeg) = x1) (h6 : ¬ (σ.1 10 0 24 (x2).toNatClampNeg) = x1) (h7 : (σ.1 10 0 23 (x1).toNatClampNeg) < 0) : pq_Rn C (151, 0, [some (vR 10 0 0), some (vI x1), some (vI x2)], [], σ) = some (some (vI (0 : Int32)), σ) := by
  refine (e_n 3 (fr' := (151, 5, [some (vR 10 0 0), some (vI x1), some (vI x2)], [vI x1, vR 10 0 24], σ)) rfl).trans ?_
  refine (e_a (A := (151, 6, [some (vR 10 0 0), some (vI x1), some (vI x2)], [vI (σ.1 10 0 23 (x1).toNatClampNeg)], σ)) rfl h1).trans ?_
  refine (e_n 1 (fr' := (151, 7, [some (vR 10 0 0), some (vI x1), some (vI x2)], [vI x2, vI (σ.1 10 0 23 (x1).toNatClampNeg)], σ)) rfl).trans ?_
  refine (e_f (B := (151, 10, [some (vR 10 0 0), some (vI x1), some (vI x2)], [], σ)) rfl h2).trans ?_
  refine (e_n 3 (fr' := (151, 15, [some (vR 10 0 0), some (vI x1), some (vI x2)], [vI x1, vR 10 0 25], σ)) rfl).trans ?_
  refine (e_a (A := (151, 16, [some (vR 10 0 0), some (vI x1), some (vI x2)], [vI (σ.1 10 0 24 (x1).toNatClampNeg)], σ)) rfl h1).trans ?_
  refine (e_n 1 (fr' := (151, 17, [some (vR 10 0 0), some (vI x1), some (vI x2)], [vI x2, vI (σ.1 10 0 24 (x1).toNatClampNeg)], σ)) rfl).trans ?_
  refine (e_f (B := (151, 20, [some (vR 10 0 0), some (vI x1), some (vI x2)], [], σ)) rfl h3).trans ?_
  refine (e_n 3 (fr' := (151, 25, [some (vR 10 0 0), some (vI x1), some (vI x2)], [vI x2, vR 10 0 24], σ)) rfl).trans ?_
  refine (e_a (A := (151, 26, [some (vR 10 0 0), some (vI x1), some (vI x2)], [vI (σ.1 10 0 23 (x2).toNatClampNeg)], σ)) rfl h4).trans ?_
  refine (e_n 1 (fr' := (151, 27, [some (vR 10 0 0), some (vI x1), some (vI x2)], [vI x1, vI (σ.1 10 0 23 (x2).toNatClampNeg)], σ)) rfl).trans ?_
  refine (e_f (B := (151, 30, [some (vR 10 0 0), some (vI x1), some (vI x2)], [], σ)) rfl h5).trans ?_
  refine (e_n 3 (fr' := (151, 35, [some (vR 10 0 0), some (vI x1), some (vI x2)], [vI x2, vR 10 0 25], σ)) rfl).trans ?_
  refine (e_a (A := (151, 36, [some (vR 10 0 0), some (vI x1), some (vI x2)], [vI (σ.1 10 0 24 (x2).toNatClampNeg)], σ)) rfl h4).trans ?_
  refine (e_n 1 (fr' := (151, 37, [some (vR 10 0 0), some (vI x1), some (vI x2)], [vI x1, vI (σ.1 10 0 24 (x2).toNatClampNeg)], σ)) rfl).trans ?_
  refine (e_f (B := (151, 42, [some (vR 10 0 0), some (vI x1), some (vI x2)], [], σ)) rfl h6).trans ?_
  refine (e_n 3 (fr' := (151, 47, [some (vR 10 0 0), some (vI x1), some (vI x2)], [vI x1, vR 10 0 24], σ)) rfl).trans ?_
  refine (e_a (A := (151, 48, [some (vR 10 0 0), some (vI x1), some (vI x2)], [vI (σ.1 10 0 23 (x1).toNatClampNeg)], σ)) rfl h1).trans ?_
  refine (e_t (A := (151, 85, [some (vR 10 0 0), some (vI x1), some (vI x2)], [], σ)) rfl h7).trans ?_
  refine (e_n 1 (fr' := (151, 86, [some (vR 10 0 0), some (vI x1), some (vI x2)], [vI (0 : Int32)], σ)) rfl).trans ?_
  exact e_r rfl
