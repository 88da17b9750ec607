/-! segment rules, by program -/
set_option maxRecDepth 20000 in
theorem g30a_0_2 (C : pmC) {σ : pmS} {o1 : Nat} {o2 : Nat} {o3 : Nat} {x4 : Int32} {l5 : Option pmV} {l6 : Option pmV} (h1 : vp_in x4 8) (h2 : x4 < (σ.1 2 o1 0 (x4).toNatClampNeg)) (h3 : ¬ x4 ≤ (σ.1 2 o2 1 (x4).toNatClampNeg)) (h4 : vp_in (σ.1 2 o2 1 (x4).toNatClampNeg) 8) (h5 : vp_in (σ.1 4 0 1 ((σ.1 2 o2 1 (x4).toNatClampNeg)).toNatClampNeg) 8) (h6 : ¬ (σ.1 4 0 1 (x4).toNatClampNeg) = (σ.1 2 o3 0 ((σ.1 4 0 1 ((σ.1 2 o2 1 (x4).toNatClampNeg)).toNatClampNeg)).toNatClampNeg)) : pq_Rn C (30, 0, [some (vR 4 0 0), some (vR 2 o1 1), some (vR 2 o2 2), some (vR 2 o3 1), some (vI x4), l5, l6], [], σ) = some (some (vI ((0 : Int32) + (1 : Int32))), σ) := by
  refine (e_n 4 (fr' := (30, 6, [some (vR 4 0 0), some (vR 2 o1 1), some (vR 2 o2 2), some (vR 2 o3 1), some (vI x4), some (vI (0 : Int32)), l6], [vI x4, vR 2 o1 1], σ)) rfl).trans ?_
  refine (e_a (A := (30, 7, [some (vR 4 0 0), some (vR 2 o1 1), some (vR 2 o2 2), some (vR 2 o3 1), some (vI x4), some (vI (0 : Int32)), l6], [vI (σ.1 2 o1 0 (x4).toNatClampNeg)], σ)) rfl h1).trans ?_
  refine (e_n 1 (fr' := (30, 9, [some (vR 4 0 0), some (vR 2 o1 1), some (vR 2 o2 2), some (vR 2 o3 1), some (vI x4), some (vI (0 : Int32)), l6], [vI x4, vI (σ.1 2 o1 0 (x4).toNatClampNeg)], σ)) rfl).trans ?_
  refine (e_t (A := (30, 36, [some (vR 4 0 0), some (vR 2 o1 1), some (vR 2 o2 2), some (vR 2 o3 1), some (vI x4), some (vI (0 : Int32)), l6], [], σ)) rfl h2).trans ?_
  refine (e_n 2 (fr' := (30, 39, [some (vR 4 0 0), some (vR 2 o1 1), some (vR 2 o2 2), some (vR 2 o3 1), some (vI x4), some (vI (0 : Int32)), l6], [vI x4, vR 2 o2 2], σ)) rfl).trans ?_
  refine (e_a (A := (30, 40, [some (vR 4 0 0), some (vR 2 o1 1), some (vR 2 o2 2), some (vR 2 o3 1), some (vI x4), some (vI (0 : Int32)), l6], [vI (σ.1 2 o2 1 (x4).toNatClampNeg)], σ)) rfl h1).trans ?_
  refine (e_n 3 (fr' := (30, 46, [some (vR 4 0 0), some (vR 2 o1 1), some (vR 2 o2 2), some (vR 2 o3 1), some (vI x4), some (vI (0 : Int32)), some (vI (σ.1 2 o2 1 (x4).toNatClampNeg))], [vI x4, vI (σ.1 2 o2 1 (x4).toNatClampNeg)], σ)) rfl).trans ?_
  refine (e_f (B := (30, 49, [some (vR 4 0 0), some (vR 2 o1 1), some (vR 2 o2 2), some (vR 2 o3 1), some (vI x4), some (vI (0 : Int32)), some (vI (σ.1 2 o2 1 (x4).toNatClampNeg))], [], σ)) rfl h3).trans ?_
  refine (e_n 3 (fr' := (30, 55, [some (vR 4 0 0), some (vR 2 o1 1), some (vR 2 o2 2), some (vR 2 o3 1), some (vI x4), some (vI (0 : Int32)), some (vI (σ.1 2 o2 1 (x4).toNatClampNeg))], [vI x4, vR 4 0 2], σ)) rfl).trans ?_
  refine (e_a (A := (30, 56, [some (vR 4 0 0), some (vR 2 o1 1), some (vR 2 o2 2), some (vR 2 o3 1), some (vI x4), some (vI (0 : Int32)), some (vI (σ.1 2 o2 1 (x4).toNatClampNeg))], [vI (σ.1 4 0 1 (x4).toNatClampNeg)], σ)) rfl h1).trans ?_
  refine (e_n 4 (fr' := (30, 63, [some (vR 4 0 0), some (vR 2 o1 1), some (vR 2 o2 2), some (vR 2 o3 1), some (vI x4), some (vI (0 : Int32)), some (vI (σ.1 2 o2 1 (x4).toNatClampNeg))], [vI (σ.1 2 o2 1 (x4).toNatClampNeg), vR 4 0 2, vR 2 o3 1, vI (σ.1 4 0 1 (x4).toNatClampNeg)], σ)) rfl).trans ?_
  refine (e_a (A := (30, 64, [some (vR 4 0 0), some (vR 2 o1 1), some (vR 2 o2 2), some (vR 2 o3 1), some (vI x4), some (vI (0 : Int32)), some (vI (σ.1 2 o2 1 (x4).toNatClampNeg))], [vI (σ.1 4 0 1 ((σ.1 2 o2 1 (x4).toNatClampNeg)).toNatClampNeg), vR 2 o3 1, vI (σ.1 4 0 1 (x4).toNatClampNeg)], σ)) rfl h4).trans ?_
  refine (e_a (A := (30, 65, [some (vR 4 0 0), some (vR 2 o1 1), some (vR 2 o2 2), some (vR 2 o3 1), some (vI x4), some (vI (0 : Int32)), some (vI (σ.1 2 o2 1 (x4).toNatClampNeg))], [vI (σ.1 2 o3 0 ((σ.1 4 0 1 ((σ.1 2 o2 1 (x4).toNatClampNeg)).toNatClampNeg)).toNatClampNeg), vI (σ.1 4 0 1 (x4).toNatClampNeg)], σ)) rfl h5).trans ?_
  refine (e_f (B := (30, 68, [some (vR 4 0 0), some (vR 2 o1 1), some (vR 2 o2 2), some (vR 2 o3 1), some (vI x4), some (vI (0 : Int32)), some (vI (σ.1 2 o2 1 (x4).toNatClampNeg))], [], σ)) rfl h6).trans ?_
  refine (e_n 2 (fr' := (30, 73, [some (vR 4 0 0), some (vR 2 o1 1), some (vR 2 o2 2), some (vR 2 o3 1), some (vI x4), some (vI ((0 : Int32) + (1 : Int32))), some (vI (σ.1 2 o2 1 (x4).toNatClampNeg))], [vI ((0 : Int32) + (1 : Int32))], σ)) rfl).trans ?_
  exact e_r rfl
set_option maxRecDepth 20000 in
theorem g30a_0_3 (C : pmC) {σ : pmS} {o1 : Nat} {o2 : Nat} {o3 : Nat} {x4 : Int32} {l5 : Option pmV} {l6 : Option pmV} (h1 : vp_in x4 8) (h2 : ¬ x4 < (σ.1 2 o1 0 (x4).toNatClampNeg)) (h3 : vp_in (σ.1 2 o1 0 (x4).toNatClampNeg) 8) (h4 : vp_in (σ.1 4 0 1 (x4).toNatClampNeg) 8) (h5 : (σ.1 4 0 1 ((σ.1 2 o1 0 (x4).toNatClampNeg)).toNatClampNeg) = (σ.1 2 o3 0 ((σ.1 4 0 1 (x4).toNatClampNeg)).toNatClampNeg)) (h6 : x4 ≤ (σ.1 2 o2 1 (x4).toNatClampNeg)) : pq_Rn C (30, 0, [some (vR 4 0 0), some (vR 2 o1 1), some (vR 2 o2 2), some (vR 2 o3 1), some (vI x4), l5, l6], [], σ) = some (some (vI (0 : Int32)), σ) := by
  refine (e_n 4 (fr' := (30, 6, [some (vR 4 0 0), some (vR 2 o1 1), some (vR 2 o2 2), some (vR 2 o3 1), some (vI x4), some (vI (0 : Int32)), l6], [vI x4, vR 2 o1 1], σ)) rfl).trans ?_
  refine (e_a (A := (30, 7, [some (vR 4 0 0), some (vR 2 o1 1), some (vR 2 o2 2), some (vR 2 o3 1), some (vI x4), some (vI (0 : Int32)), l6], [vI (σ.1 2 o1 0 (x4).toNatClampNeg)], σ)) rfl h1).trans ?_
  refine (e_n 1 (fr' := (30, 9, [some (vR 4 0 0), some (vR 2 o1 1), some (vR 2 o2 2), some (vR 2 o3 1), some (vI x4), some (vI (0 : Int32)), l6], [vI x4, vI (σ.1 2 o1 0 (x4).toNatClampNeg)], σ)) rfl).trans ?_
  refine (e_f (B := (30, 12, [some (vR 4 0 0), some (vR 2 o1 1), some (vR 2 o2 2), some (vR 2 o3 1), some (vI x4), some (vI (0 : Int32)), l6], [], σ)) rfl h2).trans ?_
  refine (e_n 4 (fr' := (30, 19, [some (vR 4 0 0), some (vR 2 o1 1), some (vR 2 o2 2), some (vR 2 o3 1), some (vI x4), some (vI (0 : Int32)), l6], [vI x4, vR 2 o1 1, vR 4 0 2], σ)) rfl).trans ?_
  refine (e_a (A := (30, 20, [some (vR 4 0 0), some (vR 2 o1 1), some (vR 2 o2 2), some (vR 2 o3 1), some (vI x4), some (vI (0 : Int32)), l6], [vI (σ.1 2 o1 0 (x4).toNatClampNeg), vR 4 0 2], σ)) rfl h1).trans ?_
  refine (e_a (A := (30, 21, [some (vR 4 0 0), some (vR 2 o1 1), some (vR 2 o2 2), some (vR 2 o3 1), some (vI x4), some (vI (0 : Int32)), l6], [vI (σ.1 4 0 1 ((σ.1 2 o1 0 (x4).toNatClampNeg)).toNatClampNeg)], σ)) rfl h3).trans ?_
  refine (e_n 4 (fr' := (30, 28, [some (vR 4 0 0), some (vR 2 o1 1), some (vR 2 o2 2), some (vR 2 o3 1), some (vI x4), some (vI (0 : Int32)), l6], [vI x4, vR 4 0 2, vR 2 o3 1, vI (σ.1 4 0 1 ((σ.1 2 o1 0 (x4).toNatClampNeg)).toNatClampNeg)], σ)) rfl).trans ?_
  refine (e_a (A := (30, 29, [some (vR 4 0 0), some (vR 2 o1 1), some (vR 2 o2 2), some (vR 2 o3 1), some (vI x4), some (vI (0 : Int32)), l6], [vI (σ.1 4 0 1 (x4).toNatClampNeg), vR 2 o3 1, vI (σ.1 4 0 1 ((σ.1 2 o1 0 (x4).toNatClampNeg)).toNatClampNeg)], σ)) rfl h1).trans ?_
  refine (e_a (A := (30, 30, [some (vR 4 0 0), some (vR 2 o1 1), some (vR 2 o2 2), some (vR 2 o3 1), some (vI x4), some (vI (0 : Int32)), l6], [vI (σ.1 2 o3 0 ((σ.1 4 0 1 (x4).toNatClampNeg)).toNatClampNeg), vI (σ.1 4 0 1 ((σ.1 2 o1 0 (x4).toNatClampNeg)).toNatClampNeg)], σ)) rfl h4).trans ?_
  refine (e_t (A := (30, 36, [some (vR 4 0 0), some (vR 2 o1 1), some (vR 2 o2 2), some (vR 2 o3 1), some (vI x4), some (vI (0 : Int32)), l6], [], σ)) rfl h5).trans ?_
  refine (e_n 2 (fr' := (30, 39, [some (vR 4 0 0), some (vR 2 o1 1), some (vR 2 o2 2), some (vR 2 o3 1), some (vI x4), some (vI (0 : Int32)), l6], [vI x4, vR 2 o2 2], σ)) rfl).trans ?_
  refine (e_a (A := (30, 40, [some (vR 4 0 0), some (vR 2 o1 1), some (vR 2 o2 2), some (vR 2 o3 1), some (vI x4), some (vI (0 : Int32)), l6], [vI (σ.1 2 o2 1 (x4).toNatClampNeg)], σ)) rfl h1).trans ?_
  refine (e_n 3 (fr' := (30, 46, [some (vR 4 0 0), some (vR 2 o1 1), some (vR 2 o2 2), some (vR 2 o3 1), some (vI x4), some (vI (0 : Int32)), some (vI (σ.1 2 o2 1 (x4).toNatClampNeg))], [vI x4, vI (σ.1 2 o2 1 (x4).toNatClampNeg)], σ)) rfl).trans ?_
  refine (e_t (A := (30, 71, [some (vR 4 0 0), some (vR 2 o1 1), some (vR 2 o2 2), some (vR 2 o3 1), some (vI x4), some (vI (0 : Int32)), some (vI (σ.1 2 o2 1 (x4).toNatClampNeg))], [], σ)) rfl h6).trans ?_
  refine (e_n 1 (fr' := (30, 73, [some (vR 4 0 0), some (vR 2 o1 1), some (vR 2 o2 2), some (vR 2 o3 1), some (vI x4), some (vI (0 : Int32)), some (vI (σ.1 2 o2 1 (x4).toNatClampNeg))], [vI (0 : Int32)], σ)) rfl).trans ?_
  exact e_r rfl
set_option maxRecDepth 20000 in
theorem g30a_0_4 (C : pmC) {σ : pmS} {o1 : Nat} {o2 : Nat} {o3 : Nat} {x4 : Int32} {l5 : Option pmV} {l6 : Option pmV} (h1 : vp_in x4 8) (h2 : ¬ x4 < (σ.1 2 o1 0 (x4).toNatClampNeg)) (h3 : vp_in (σ.1 2 o1 0 (x4).toNatClampNeg) 8) (h4 : vp_in (σ.1 4 0 1 (x4).toNatClampNeg) 8) (h5 : (σ.1 4 0 1 ((σ.1 2 o1 0 (x4).toNatClampNeg)).toNatClampNeg) = (σ.1 2 o3 0 ((σ.1 4 0 1 (x4).toNatClampNeg)).toNatClampNeg)) (h6 : ¬ x4 ≤ (σ.1 2 o2 1 (x4).toNatClampNeg)) (h7 : vp_in (σ.1 2 o2 1 (x4).toNatClampNeg) 8) (h8 : vp_in (σ.1 4 0 1 ((σ.1 2 o2 1 (x4).toNatClampNeg)).toNatClampNeg) 8) (h9 : (σ.1 4 0 1 (x4).toNatClampNeg) = (σ.1 2 o3 0 ((σ.1 4 0 1 ((σ.1 2 o2 1 (x4).toNatClampNeg)).toNatClampNeg)).toNatClampNeg)) : pq_Rn C (30, 0, [some (vR 4 0 0), some (vR 2 o1 1), some (vR 2 o2 2), some (vR 2 o3 1), some (vI x4), l5, l6], [], σ) = some (some (vI (0 : Int32)), σ) := by
  refine (e_n 4 (fr' := (30, 6, [some (vR 4 0 0), some (vR 2 o1 1), some (vR 2 o2 2), some (vR 2 o3 1), some (vI x4), some (vI (0 : Int32)), l6], [vI x4, vR 2 o1 1], σ)) rfl).trans ?_
  refine (e_a (A := (30, 7, [some (vR 4 0 0), some (vR 2 o1 1), some (vR 2 o2 2), some (vR 2 o3 1), some (vI x4), some (vI (0 : Int32)), l6], [vI (σ.1 2 o1 0 (x4).toNatClampNeg)], σ)) rfl h1).trans ?_
  refine (e_n 1 (fr' := (30, 9, [some (vR 4 0 0), some (vR 2 o1 1), some (vR 2 o2 2), some (vR 2 o3 1), some (vI x4), some (vI (0 : Int32)), l6], [vI x4, vI (σ.1 2 o1 0 (x4).toNatClampNeg)], σ)) rfl).trans ?_
  refine (e_f (B := (30, 12, [some (vR 4 0 0), some (vR 2 o1 1), some (vR 2 o2 2), some (vR 2 o3 1), some (vI x4), some (vI (0 : Int32)), l6], [], σ)) rfl h2).trans ?_
  refine (e_n 4 (fr' := (30, 19, [some (vR 4 0 0), some (vR 2 o1 1), some (vR 2 o2 2), some (vR 2 o3 1), some (vI x4), some (vI (0 : Int32)), l6], [vI x4, vR 2 o1 1, vR 4 0 2], σ)) rfl).trans ?_
  refine (e_a (A := (30, 20, [some (vR 4 0 0), some (vR 2 o1 1), some (vR 2 o2 2), some (vR 2 o3 1), some (vI x4), some (vI (0 : Int32)), l6], [vI (σ.1 2 o1 0 (x4).toNatClampNeg), vR 4 0 2], σ)) rfl h1).trans ?_
  refine (e_a (A := (30, 21, [some (vR 4 0 0), some (vR 2 o1 1), some (vR 2 o2 2), some (vR 2 o3 1), some (vI x4), some (vI (0 : Int32)), l6], [vI (σ.1 4 0 1 ((σ.1 2 o1 0 (x4).toNatClampNeg)).toNatClampNeg)], σ)) rfl h3).trans ?_
  refine (e_n 4 (fr' := (30, 28, [some (vR 4 0 0), some (vR 2 o1 1), some (vR 2 o2 2), some (vR 2 o3 1), some (vI x4), some (vI (0 : Int32)), l6], [vI x4, vR 4 0 2, vR 2 o3 1, vI (σ.1 4 0 1 ((σ.1 2 o1 0 (x4).toNatClampNeg)).toNatClampNeg)], σ)) rfl).trans ?_
  refine (e_a (A := (30, 29, [some (vR 4 0 0), some (vR 2 o1 1), some (vR 2 o2 2), some (vR 2 o3 1), some (vI x4), some (vI (0 : Int32)), l6], [vI (σ.1 4 0 1 (x4).toNatClampNeg), vR 2 o3 1, vI (σ.1 4 0 1 ((σ.1 2 o1 0 (x4).toNatClampNeg)).toNatClampNeg)], σ)) rfl h1).trans ?_
  refine (e_a (A := (30, 30, [some (vR 4 0 0), some (vR 2 o1 1), some (vR 2 o2 2), some (vR 2 o3 1), some (vI x4), some (vI (0 : Int32)), l6], [vI (σ.1 2 o3 0 ((σ.1 4 0 1 (x4).toNatClampNeg)).toNatClampNeg), vI (σ.1 4 0 1 ((σ.1 2 o1 0 (x4).toNatClampNeg)).toNatClampNeg)], σ)) rfl h4).trans ?_
  refine (e_t (A := (30, 36, [some (vR 4 0 0), some (vR 2 o1 1), some (vR 2 o2 2), some (vR 2 o3 1), some (vI x4), some (vI (0 : Int32)), l6], [], σ)) rfl h5).trans ?_
  refine (e_n 2 (fr' := (30, 39, [some (vR 4 0 0), some (vR 2 o1 1), some (vR 2 o2 2), some (vR 2 o3 1), some (vI x4), some (vI (0 : Int32)), l6], [vI x4, vR 2 o2 2], σ)) rfl).trans ?_
  refine (e_a (A := (30, 40, [some (vR 4 0 0), some (vR 2 o1 1), some (vR 2 o2 2), some (vR 2 o3 1), some (vI x4), some (vI (0 : Int32)), l6], [vI (σ.1 2 o2 1 (x4).toNatClampNeg)], σ)) rfl h1).trans ?_
  refine (e_n 3 (fr' := (30, 46, [some (vR 4 0 0), some (vR 2 o1 1), some (vR 2 o2 2), some (vR 2 o3 1), some (vI x4), some (vI (0 : Int32)), some (vI (σ.1 2 o2 1 (x4).toNatClampNeg))], [vI x4, vI (σ.1 2 o2 1 (x4).toNatClampNeg)], σ)) rfl).trans ?_
  refine (e_f (B := (30, 49, [some (vR 4 0 0), some (vR 2 o1 1), some (vR 2 o2 2), some (vR 2 o3 1), some (vI x4), some (vI (0 : Int32)), some (vI (σ.1 2 o2 1 (x4).toNatClampNeg))], [], σ)) rfl h6).trans ?_
  refine (e_n 3 (fr' := (30, 55, [some (vR 4 0 0), some (vR 2 o1 1), some (vR 2 o2 2), some (vR 2 o3 1), some (vI x4), some (vI (0 : Int32)), some (vI (σ.1 2 o2 1 (x4).toNatClampNeg))], [vI x4, vR 4 0 2], σ)) rfl).trans ?_
  refine (e_a (A := (30, 56, [some (vR 4 0 0), some (vR 2 o1 1), some (vR 2 o2 2), some (vR 2 o3 1), some (vI x4), some (vI (0 : Int32)), some (vI (σ.1 2 o2 1 (x4).toNatClampNeg))], [vI (σ.1 4 0 1 (x4).toNatClampNeg)], σ)) rfl h1).trans ?_
  refine (e_n 4 (fr' := (30, 63, [some (vR 4 0 0), some (vR 2 o1 1), some (vR 2 o2 2), some (vR 2 o3 1), some (vI x4), some (vI (0 : Int32)), some (vI (σ.1 2 o2 1 (x4).toNatClampNeg))], [vI (σ.1 2 o2 1 (x4).toNatClampNeg), vR 4 0 2, vR 2 o3 1, vI (σ.1 4 0 1 (x4).toNatClampNeg)], σ)) rfl).trans ?_
  refine (e_a (A := (30, 64, [some (vR 4 0 0), some (vR 2 o1 1), some (vR 2 o2 2), some (vR 2 o3 1), some (vI x4), some (vI (0 : Int32)), some (vI (σ.1 2 o2 1 (x4).toNatClampNeg))], [vI (σ.1 4 0 1 ((σ.1 2 o2 1 (x4).toNatClampNeg)).toNatClampNeg), vR 2 o3 1, vI (σ.1 4 0 1 (x4).toNatClampNeg)], σ)) rfl h7).trans ?_
  refine (e_a (A := (30, 65, [some (vR 4 0 0), some (vR 2 o1 1), some (vR 2 o2 2), some (vR 2 o3 1), some (vI x4), some (vI (0 : Int32)), some (vI (σ.1 2 o2 1 (x4).toNatClampNeg))], [vI (σ.1 2 o3 0 ((σ.1 4 0 1 ((σ.1 2 o2 1 (x4).toNatClampNeg)).toNatClampNeg)).toNatClampNeg), vI (σ.1 4 0 1 (x4).toNatClampNeg)], σ)) rfl h8).trans ?_
  refine (e_t (A := (30, 71, [some (vR 4 0 0), some (vR 2 o1 1), some (vR 2 o2 2), some (vR 2 o3 1), some (vI x4), some (vI (0 : Int32)), some (vI (σ.1 2 o2 1 (x4).toNatClampNeg))], [], σ)) rfl h9).trans ?_
  refine (e_n 1 (fr' := (30, 73, [some (vR 4 0 0), some (vR 2 o1 1), some (vR 2 o2 2), some (vR 2 o3 1), some (vI x4), some (vI (0 : Int32)), some (vI (σ.1 2 o2 1 (x4).toNatClampNeg))], [vI (0 : Int32)], σ)) rfl).trans ?_
  exact e_r rfl
set_option maxRecDepth 20000 in
theorem g30a_0_5 (C : pmC) {σ : pmS} {o1 : Nat} {o2 : Nat} {o3 : Nat} {x4 : Int32} {l5 : Option pmV} {l6 : Option pmV} (h1 : vp_in x4 8) (h2 : ¬ x4 < (σ.1 2 o1 0 (x4).toNatClampNeg)) (h3 : vp_in (σ.1 2 o1 0 (x4).toNatClampNeg) 8) (h4 : vp_in (σ.1 4 0 1 (x4).toNatClampNeg) 8) (h5 : (σ.1 4 0 1 ((σ.1 2 o1 0 (x4).toNatClampNeg)).toNatClampNeg) = (σ.1 2 o3 0 ((σ.1 4 0 1 (x4).toNatClampNeg)).toNatClampNeg)) (h6 : ¬ x4 ≤ (σ.1 2 o2 1 (x4).toNatClampNeg)) (h7 : vp_in (σ.1 2 o2 1 (x4).toNatClampNeg) 8) (h8 : vp_in (σ.1 4 0 1 ((σ.1 2 o2 1 (x4).toNatClampNeg)).toNatClampNeg) 8) (h9 : ¬ (σ.1 4 0 1 (x4).toNatClampNeg) = (σ.1 2 o3 0 ((σ.1 4 0 1 ((σ.1 2 o2 1 (x4).toNatClampNeg)).toNatClampNeg)).toNatClampNeg)) : pq_Rn C (30, 0, [some (vR 4 0 0), some (vR 2 o1 1), some (vR 2 o2 2), some (vR 2 o3 1), some (vI x4), l5, l6], [], σ) = some (some (vI ((0 : Int32) + (1 : Int32))), σ) := by
  refine (e_n 4 (fr' := (30, 6, [some (vR 4 0 0), some (vR 2 o1 1), some (vR 2 o2 2), some (vR 2 o3 1), some (vI x4), some (vI (0 : Int32)), l6], [vI x4, vR 2 o1 1], σ)) rfl).trans ?_
  refine (e_a (A := (30, 7, [some (vR 4 0 0), some (vR 2 o1 1), some (vR 2 o2 2), some (vR 2 o3 1), some (vI x4), some (vI (0 : Int32)), l6], [vI (σ.1 2 o1 0 (x4).toNatClampNeg)], σ)) rfl h1).trans ?_
  refine (e_n 1 (fr' := (30, 9, [some (vR 4 0 0), some (vR 2 o1 1), some (vR 2 o2 2), some (vR 2 o3 1), some (vI x4), some (vI (0 : Int32)), l6], [vI x4, vI (σ.1 2 o1 0 (x4).toNatClampNeg)], σ)) rfl).trans ?_
  refine (e_f (B := (30, 12, [some (vR 4 0 0), some (vR 2 o1 1), some (vR 2 o2 2), some (vR 2 o3 1), some (vI x4), some (vI (0 : Int32)), l6], [], σ)) rfl h2).trans ?_
  refine (e_n 4 (fr' := (30, 19, [some (vR 4 0 0), some (vR 2 o1 1), some (vR 2 o2 2), some (vR 2 o3 1), some (vI x4), some (vI (0 : Int32)), l6], [vI x4, vR 2 o1 1, vR 4 0 2], σ)) rfl).trans ?_
  refine (e_a (A := (30, 20, [some (vR 4 0 0), some (vR 2 o1 1), some (vR 2 o2 2), some (vR 2 o3 1), some (vI x4), some (vI (0 : Int32)), l6], [vI (σ.1 2 o1 0 (x4).toNatClampNeg), vR 4 0 2], σ)) rfl h1).trans ?_
  refine (e_a (A := (30, 21, [some (vR 4 0 0), some (vR 2 o1 1), some (vR 2 o2 2), some (vR 2 o3 1), some (vI x4), some (vI (0 : Int32)), l6], [vI (σ.1 4 0 1 ((σ.1 2 o1 0 (x4).toNatClampNeg)).toNatClampNeg)], σ)) rfl h3).trans ?_
  refine (e_n 4 (fr' := (30, 28, [some (vR 4 0 0), some (vR 2 o1 1), some (vR 2 o2 2), some (vR 2 o3 1), some (vI x4), some (vI (0 : Int32)), l6], [vI x4, vR 4 0 2, vR 2 o3 1, vI (σ.1 4 0 1 ((σ.1 2 o1 0 (x4).toNatClampNeg)).toNatClampNeg)], σ)) rfl).trans ?_
  refine (e_a (A := (30, 29, [some (vR 4 0 0), some (vR 2 o1 1), some (vR 2 o2 2), some (vR 2 o3 1), some (vI x4), some (vI (0 : Int32)), l6], [vI (σ.1 4 0 1 (x4).toNatClampNeg), vR 2 o3 1, vI (σ.1 4 0 1 ((σ.1 2 o1 0 (x4).toNatClampNeg)).toNatClampNeg)], σ)) rfl h1).trans ?_
  refine (e_a (A := (30, 30, [some (vR 4 0 0), some (vR 2 o1 1), some (vR 2 o2 2), some (vR 2 o3 1), some (vI x4), some (vI (0 : Int32)), l6], [vI (σ.1 2 o3 0 ((σ.1 4 0 1 (x4).toNatClampNeg)).toNatClampNeg), vI (σ.1 4 0 1 ((σ.1 2 o1 0 (x4).toNatClampNeg)).toNatClampNeg)], σ)) rfl h4).trans ?_
  refine (e_t (A := (30, 36, [some (vR 4 0 0), some (vR 2 o1 1), some (vR 2 o2 2), some (vR 2 o3 1), some (vI x4), some (vI (0 : Int32)), l6], [], σ)) rfl h5).trans ?_
  refine (e_n 2 (fr' := (30, 39, [some (vR 4 0 0), some (vR 2 o1 1), some (vR 2 o2 2), some (vR 2 o3 1), some (vI x4), some (vI (0 : Int32)), l6], [vI x4, vR 2 o2 2], σ)) rfl).trans ?_
  refine (e_a (A := (30, 40, [some (vR 4 0 0), some (vR 2 o1 1), some (vR 2 o2 2), some (vR 2 o3 1), some (vI x4), some (vI (0 : Int32)), l6], [vI (σ.1 2 o2 1 (x4).toNatClampNeg)], σ)) rfl h1).trans ?_
  refine (e_n 3 (fr' := (30, 46, [some (vR 4 0 0), some (vR 2 o1 1), some (vR 2 o2 2), some (vR 2 o3 1), some (vI x4), some (vI (0 : Int32)), some (vI (σ.1 2 o2 1 (x4).toNatClampNeg))], [vI x4, vI (σ.1 2 o2 1 (x4).toNatClampNeg)], σ)) rfl).trans ?_
  refine (e_f (B := (30, 49, [some (vR 4 0 0), some (vR 2 o1 1), some (vR 2 o2 2), some (vR 2 o3 1), some (vI x4), some (vI (0 : Int32)), some (vI (σ.1 2 o2 1 (x4).toNatClampNeg))], [], σ)) rfl h6).trans ?_
  refine (e_n 3 (fr' := (30, 55, [some (vR 4 0 0), some (vR 2 o1 1), some (vR 2 o2 2), some (vR 2 o3 1), some (vI x4), some (vI (0 : Int32)), some (vI (σ.1 2 o2 1 (x4).toNatClampNeg))], [vI x4, vR 4 0 2], σ)) rfl).trans ?_
  refine (e_a (A := (30, 56, [some (vR 4 0 0), some (vR 2 o1 1), some (vR 2 o2 2), some (vR 2 o3 1), some (vI x4), some (vI (0 : Int32)), some (vI (σ.1 2 o2 1 (x4).toNatClampNeg))], [vI (σ.1 4 0 1 (x4).toNatClampNeg)], σ)) rfl h1).trans ?_
  refine (e_n 4 (fr' := (30, 63, [some (vR 4 0 0), some (vR 2 o1 1), some (vR 2 o2 2), some (vR 2 o3 1), some (vI x4), some (vI (0 : Int32)), some (vI (σ.1 2 o2 1 (x4).toNatClampNeg))], [vI (σ.1 2 o2 1 (x4).toNatClampNeg), vR 4 0 2, vR 2 o3 1, vI (σ.1 4 0 1 (x4).toNatClampNeg)], σ)) rfl).trans ?_
  refine (e_a (A := (30, 64, [some (vR 4 0 0), some (vR 2 o1 1), some (vR 2 o2 2), some (vR 2 o3 1), some (vI x4), some (vI (0 : Int32)), some (vI (σ.1 2 o2 1 (x4).toNatClampNeg))], [vI (σ.1 4 0 1 ((σ.1 2 o2 1 (x4).toNatClampNeg)).toNatClampNeg), vR 2 o3 1, vI (σ.1 4 0 1 (x4).toNatClampNeg)], σ)) rfl h7).trans ?_
  refine (e_a (A := (30, 65, [some (vR 4 0 0), some (vR 2 o1 1), some (vR 2 o2 2), some (vR 2 o3 1), some (vI x4), some (vI (0 : Int32)), some (vI (σ.1 2 o2 1 (x4).toNatClampNeg))], [vI (σ.1 2 o3 0 ((σ.1 4 0 1 ((σ.1 2 o2 1 (x4).toNatClampNeg)).toNatClampNeg)).toNatClampNeg), vI (σ.1 4 0 1 (x4).toNatClampNeg)], σ)) rfl h8).trans ?_
  refine (e_f (B := (30, 68, [some (vR 4 0 0), some (vR 2 o1 1), some (vR 2 o2 2), some (vR 2 o3 1), some (vI x4), some (vI (0 : Int32)), some (vI (σ.1 2 o2 1 (x4).toNatClampNeg))], [], σ)) rfl h9).trans ?_
  refine (e_n 2 (fr' := (30, 73, [some (vR 4 0 0), some (vR 2 o1 1), some (vR 2 o2 2), some (vR 2 o3 1), some (vI x4), some (vI ((0 : Int32) + (1 : Int32))), some (vI (σ.1 2 o2 1 (x4).toNatClampNeg))], [vI ((0 : Int32) + (1 : Int32))], σ)) rfl).trans ?_
  exact e_r rfl
set_option maxRecDepth 20000 in
theorem g30a_0_6 (C : pmC) {σ : pmS} {o1 : Nat} {o2 : Nat} {o3 : Nat} {x4 : Int32} {l5 : Option pmV} {l6 : Option pmV} (h1 : vp_in x4 8) (h2 : ¬ x4 < (σ.1 2 o1 0 (x4).toNatClampNeg)) (h3 : vp_in (σ.1 2 o1 0 (x4).toNatClampNeg) 8) (h4 : vp_in (σ.1 4 0 1 (x4).toNatClampNeg) 8) (h5 : ¬ (σ.1 4 0 1 ((σ.1 2 o1 0 (x4).toNatClampNeg)).toNatClampNeg) = (σ.1 2 o3 0 ((σ.1 4 0 1 (x4).toNatClampNeg)).toNatClampNeg)) (h6 : x4 ≤ (σ.1 2 o2 1 (x4).toNatClampNeg)) : pq_Rn C (30, 0, [some (vR 4 0 0), some (vR 2 o1 1), some (vR 2 o2 2), some (vR 2 o3 1), some (vI x4), l5, l6], [], σ) = some (some (vI ((0 : Int32) + (1 : Int32))), σ) := by
  refine (e_n 4 (fr' := (30, 6, [some (vR 4 0 0), some (vR 2 o1 1), some (vR 2 o2 2), some (vR 2 o3 1), some (vI x4), some (vI (0 : Int32)), l6], [vI x4, vR 2 o1 1], σ)) rfl).trans ?_
  refine (e_a (A := (30, 7, [some (vR 4 0 0), some (vR 2 o1 1), some (vR 2 o2 2), some (vR 2 o3 1), some (vI x4), some (vI (0 : Int32)), l6], [vI (σ.1 2 o1 0 (x4).toNatClampNeg)], σ)) rfl h1).trans ?_
  refine (e_n 1 (fr' := (30, 9, [some (vR 4 0 0), some (vR 2 o1 1), some (vR 2 o2 2), some (vR 2 o3 1), some (vI x4), some (vI (0 : Int32)), l6], [vI x4, vI (σ.1 2 o1 0 (x4).toNatClampNeg)], σ)) rfl).trans ?_
  refine (e_f (B := (30, 12, [some (vR 4 0 0), some (vR 2 o1 1), some (vR 2 o2 2), some (vR 2 o3 1), some (vI x4), some (vI (0 : Int32)), l6], [], σ)) rfl h2).trans ?_
  refine (e_n 4 (fr' := (30, 19, [some (vR 4 0 0), some (vR 2 o1 1), some (vR 2 o2 2), some (vR 2 o3 1), some (vI x4), some (vI (0 : Int32)), l6], [vI x4, vR 2 o1 1, vR 4 0 2], σ)) rfl).trans ?_
  refine (e_a (A := (30, 20, [some (vR 4 0 0), some (vR 2 o1 1), some (vR 2 o2 2), some (vR 2 o3 1), some (vI x4), some (vI (0 : Int32)), l6], [vI (σ.1 2 o1 0 (x4).toNatClampNeg), vR 4 0 2], σ)) rfl h1).trans ?_
  refine (e_a (A := (30, 21, [some (vR 4 0 0), some (vR 2 o1 1), some (vR 2 o2 2), some (vR 2 o3 1), some (vI x4), some (vI (0 : Int32)), l6], [vI (σ.1 4 0 1 ((σ.1 2 o1 0 (x4).toNatClampNeg)).toNatClampNeg)], σ)) rfl h3).trans ?_
  refine (e_n 4 (fr' := (30, 28, [some (vR 4 0 0), some (vR 2 o1 1), some (vR 2 o2 2), some (vR 2 o3 1), some (vI x4), some (vI (0 : Int32)), l6], [vI x4, vR 4 0 2, vR 2 o3 1, vI (σ.1 4 0 1 ((σ.1 2 o1 0 (x4).toNatClampNeg)).toNatClampNeg)], σ)) rfl).trans ?_
  refine (e_a (A := (30, 29, [some (vR 4 0 0), some (vR 2 o1 1), some (vR 2 o2 2), some (vR 2 o3 1), some (vI x4), some (vI (0 : Int32)), l6], [vI (σ.1 4 0 1 (x4).toNatClampNeg), vR 2 o3 1, vI (σ.1 4 0 1 ((σ.1 2 o1 0 (x4).toNatClampNeg)).toNatClampNeg)], σ)) rfl h1).trans ?_
  refine (e_a (A := (30, 30, [some (vR 4 0 0), some (vR 2 o1 1), some (vR 2 o2 2), some (vR 2 o3 1), some (vI x4), some (vI (0 : Int32)), l6], [vI (σ.1 2 o3 0 ((σ.1 4 0 1 (x4).toNatClampNeg)).toNatClampNeg), vI (σ.1 4 0 1 ((σ.1 2 o1 0 (x4).toNatClampNeg)).toNatClampNeg)], σ)) rfl h4).trans ?_
  refine (e_f (B := (30, 33, [some (vR 4 0 0), some (vR 2 o1 1), some (vR 2 o2 2), some (vR 2 o3 1), some (vI x4), some (vI (0 : Int32)), l6], [], σ)) rfl h5).trans ?_
  refine (e_n 3 (fr' := (30, 39, [some (vR 4 0 0), some (vR 2 o1 1), some (vR 2 o2 2), some (vR 2 o3 1), some (vI x4), some (vI ((0 : Int32) + (1 : Int32))), l6], [vI x4, vR 2 o2 2], σ)) rfl).trans ?_
  refine (e_a (A := (30, 40, [some (vR 4 0 0), some (vR 2 o1 1), some (vR 2 o2 2), some (vR 2 o3 1), some (vI x4), some (vI ((0 : Int32) + (1 : Int32))), l6], [vI (σ.1 2 o2 1 (x4).toNatClampNeg)], σ)) rfl h1).trans ?_
  refine (e_n 3 (fr' := (30, 46, [some (vR 4 0 0), some (vR 2 o1 1), some (vR 2 o2 2), some (vR 2 o3 1), some (vI x4), some (vI ((0 : Int32) + (1 : Int32))), some (vI (σ.1 2 o2 1 (x4).toNatClampNeg))], [vI x4, vI (σ.1 2 o2 1 (x4).toNatClampNeg)], σ)) rfl).trans ?_
  refine (e_t (A := (30, 71, [some (vR 4 0 0), some (vR 2 o1 1), some (vR 2 o2 2), some (vR 2 o3 1), some (vI x4), some (vI ((0 : Int32) + (1 : Int32))), some (vI (σ.1 2 o2 1 (x4).toNatClampNeg))], [], σ)) rfl h6).trans ?_
  refine (e_n 1 (fr' := (30, 73, [some (vR 4 0 0), some (vR 2 o1 1), some (vR 2 o2 2), some (vR 2 o3 1), some (vI x4), some (vI ((0 : Int32) + (1 : Int32))), some (vI (σ.1 2 o2 1 (x4).toNatClampNeg))], [vI ((0 : Int32) + (1 : Int32))], σ)) rfl).trans ?_
  exact e_r rfl
set_option maxRecDepth 20000 in
theorem g30a_0_7 (C : pmC) {σ : pmS} {o1 : Nat} {o2 : Nat} {o3 : Nat} {x4 : Int32} {l5 : Option pmV} {l6 : Option pmV} (h1 : vp_in x4 8) (h2 : ¬ x4 < (σ.1 2 o1 0 (x4).toNatClampNeg)) (h3 : vp_in (σ.1 2 o1 0 (x4).toNatClampNeg) 8) (h4 : vp_in (σ.1 4 0 1 (x4).toNatClampNeg) 8) (h5 : ¬ (σ.1 4 0 1 ((σ.1 2 o1 0 (x4).toNatClampNeg)).toNatClampNeg) = (σ.1 2 o3 0 ((σ.1 4 0 1 (x4).toNatClampNeg)).toNatClampNeg)) (h6 : ¬ x4 ≤ (σ.1 2 o2 1 (x4).toNatClampNeg)) (h7 : vp_in (σ.1 2 o2 1 (x4).toNatClampNeg) 8) (h8 : vp_in (σ.1 4 0 1 ((σ.1 2 o2 1 (x4).toNatClampNeg)).toNatClampNeg) 8) (h9 : (σ.1 4 0 1 (x4).toNatClampNeg) = (σ.1 2 o3 0 ((σ.1 4 0 1 ((σ.1 2 o2 1 (x4).toNatClampNeg)).toNatClampNeg)).toNatClampNeg)) : pq_Rn C (30, 0, [some (vR 4 0 0), some (vR 2 o1 1), some (vR 2 o2 2), some (vR 2 o3 1), some (vI x4), l5, l6], [], σ) = some (some (vI ((0 : Int32) + (1 : Int32))), σ) := by
  refine (e_n 4 (fr' := (30, 6, [some (vR 4 0 0), some (vR 2 o1 1), some (vR 2 o2 2), some (vR 2 o3 1), some (vI x4), some (vI (0 : Int32)), l6], [vI x4, vR 2 o1 1], σ)) rfl).trans ?_
  refine (e_a (A := (30, 7, [some (vR 4 0 0), some (vR 2 o1 1), some (vR 2 o2 2), some (vR 2 o3 1), some (vI x4), some (vI (0 : Int32)), l6], [vI (σ.1 2 o1 0 (x4).toNatClampNeg)], σ)) rfl h1).trans ?_
  refine (e_n 1 (fr' := (30, 9, [some (vR 4 0 0), some (vR 2 o1 1), some (vR 2 o2 2), some (vR 2 o3 1), some (vI x4), some (vI (0 : Int32)), l6], [vI x4, vI (σ.1 2 o1 0 (x4).toNatClampNeg)], σ)) rfl).trans ?_
  refine (e_f (B := (30, 12, [some (vR 4 0 0), some (vR 2 o1 1), some (vR 2 o2 2), some (vR 2 o3 1), some (vI x4), some (vI (0 : Int32)), l6], [], σ)) rfl h2).trans ?_
  refine (e_n 4 (fr' := (30, 19, [some (vR 4 0 0), some (vR 2 o1 1), some (vR 2 o2 2), some (vR 2 o3 1), some (vI x4), some (vI (0 : Int32)), l6], [vI x4, vR 2 o1 1, vR 4 0 2], σ)) rfl).trans ?_
  refine (e_a (A := (30, 20, [some (vR 4 0 0), some (vR 2 o1 1), some (vR 2 o2 2), some (vR 2 o3 1), some (vI x4), some (vI (0 : Int32)), l6], [vI (σ.1 2 o1 0 (x4).toNatClampNeg), vR 4 0 2], σ)) rfl h1).trans ?_
  refine (e_a (A := (30, 21, [some (vR 4 0 0), some (vR 2 o1 1), some (vR 2 o2 2), some (vR 2 o3 1), some (vI x4), some (vI (0 : Int32)), l6], [vI (σ.1 4 0 1 ((σ.1 2 o1 0 (x4).toNatClampNeg)).toNatClampNeg)], σ)) rfl h3).trans ?_
  refine (e_n 4 (fr' := (30, 28, [some (vR 4 0 0), some (vR 2 o1 1), some (vR 2 o2 2), some (vR 2 o3 1), some (vI x4), some (vI (0 : Int32)), l6], [vI x4, vR 4 0 2, vR 2 o3 1, vI (σ.1 4 0 1 ((σ.1 2 o1 0 (x4).toNatClampNeg)).toNatClampNeg)], σ)) rfl).trans ?_
  refine (e_a (A := (30, 29, [some (vR 4 0 0), some (vR 2 o1 1), some (vR 2 o2 2), some (vR 2 o3 1), some (vI x4), some (vI (0 : Int32)), l6], [vI (σ.1 4 0 1 (x4).toNatClampNeg), vR 2 o3 1, vI (σ.1 4 0 1 ((σ.1 2 o1 0 (x4).toNatClampNeg)).toNatClampNeg)], σ)) rfl h1).trans ?_
  refine (e_a (A := (30, 30, [some (vR 4 0 0), some (vR 2 o1 1), some (vR 2 o2 2), some (vR 2 o3 1), some (vI x4), some (vI (0 : Int32)), l6], [vI (σ.1 2 o3 0 ((σ.1 4 0 1 (x4).toNatClampNeg)).toNatClampNeg), vI (σ.1 4 0 1 ((σ.1 2 o1 0 (x4).toNatClampNeg)).toNatClampNeg)], σ)) rfl h4).trans ?_
  refine (e_f (B := (30, 33, [some (vR 4 0 0), some (vR 2 o1 1), some (vR 2 o2 2), some (vR 2 o3 1), some (vI x4), some (vI (0 : Int32)), l6], [], σ)) rfl h5).trans ?_
  refine (e_n 3 (fr' := (30, 39, [some (vR 4 0 0), some (vR 2 o1 1), some (vR 2 o2 2), some (vR 2 o3 1), some (vI x4), some (vI ((0 : Int32) + (1 : Int32))), l6], [vI x4, vR 2 o2 2], σ)) rfl).trans ?_
  refine (e_a (A := (30, 40, [some (vR 4 0 0), some (vR 2 o1 1), some (vR 2 o2 2), some (vR 2 o3 1), some (vI x4), some (vI ((0 : Int32) + (1 : Int32))), l6], [vI (σ.1 2 o2 1 (x4).toNatClampNeg)], σ)) rfl h1).trans ?_
  refine (e_n 3 (fr' := (30, 46, [some (vR 4 0 0), some (vR 2 o1 1), some (vR 2 o2 2), some (vR 2 o3 1), some (vI x4), some (vI ((0 : Int32) + (1 : Int32))), some (vI (σ.1 2 o2 1 (x4).toNatClampNeg))], [vI x4, vI (σ.1 2 o2 1 (x4).toNatClampNeg)], σ)) rfl).trans ?_
  refine (e_f (B := (30, 49, [some (vR 4 0 0), some (vR 2 o1 1), some (vR 2 o2 2), some (vR 2 o3 1), some (vI x4), some (vI ((0 : Int32) + (1 : Int32))), some (vI (σ.1 2 o2 1 (x4).toNatClampNeg))], [], σ)) rfl h6).trans ?_
  refine (e_n 3 (fr' := (30, 55, [some (vR 4 0 0), some (vR 2 o1 1), some (vR 2 o2 2), some (vR 2 o3 1), some (vI x4), some (vI ((0 : Int32) + (1 : Int32))), some (vI (σ.1 2 o2 1 (x4).toNatClampNeg))], [vI x4, vR 4 0 2], σ)) rfl).trans ?_
  refine (e_a (A := (30, 56, [some (vR 4 0 0), some (vR 2 o1 1), some (vR 2 o2 2), some (vR 2 o3 1), some (vI x4), some (vI ((0 : Int32) + (1 : Int32))), some (vI (σ.1 2 o2 1 (x4).toNatClampNeg))], [vI (σ.1 4 0 1 (x4).toNatClampNeg)], σ)) rfl h1).trans ?_
  refine (e_n 4 (fr' := (30, 63, [some (vR 4 0 0), some (vR 2 o1 1), some (vR 2 o2 2), some (vR 2 o3 1), some (vI x4), some (vI ((0 : Int32) + (1 : Int32))), some (vI (σ.1 2 o2 1 (x4).toNatClampNeg))], [vI (σ.1 2 o2 1 (x4).toNatClampNeg), vR 4 0 2, vR 2 o3 1, vI (σ.1 4 0 1 (x4).toNatClampNeg)], σ)) rfl).trans ?_
  refine (e_a (A := (30, 64, [some (vR 4 0 0), some (vR 2 o1 1), some (vR 2 o2 2), some (vR 2 o3 1), some (vI x4), some (vI ((0 : Int32) + (1 : Int32))), some (vI (σ.1 2 o2 1 (x4).toNatClampNeg))], [vI (σ.1 4 0 1 ((σ.1 2 o2 1 (x4).toNatClampNeg)).toNatClampNeg), vR 2 o3 1, vI (σ.1 4 0 1 (x4).toNatClampNeg)], σ)) rfl h7).trans ?_
  refine (e_a (A := (30, 65, [some (vR 4 0 0), some (vR 2 o1 1), some (vR 2 o2 2), some (vR 2 o3 1), some (vI x4), some (vI ((0 : Int32) + (1 : Int32))), some (vI (σ.1 2 o2 1 (x4).toNatClampNeg))], [vI (σ.1 2 o3 0 ((σ.1 4 0 1 ((σ.1 2 o2 1 (x4).toNatClampNeg)).toNatClampNeg)).toNatClampNeg), vI (σ.1 4 0 1 (x4).toNatClampNeg)], σ)) rfl h8).trans ?_
  refine (e_t (A := (30, 71, [some (vR 4 0 0), some (vR 2 o1 1), some (vR 2 o2 2), some (vR 2 o3 1), some (vI x4), some (vI ((0 : Int32) + (1 : Int32))), some (vI (σ.1 2 o2 1 (x4).toNatClampNeg))], [], σ)) rfl h9).trans ?_
  refine (e_n 1 (fr' := (30, 73, [some (vR 4 0 0), some (vR 2 o1 1), some (vR 2 o2 2), some (vR 2 o3 1), some (vI x4), some (vI ((0 : Int32) + (1 : Int32))), some (vI (σ.1 2 o2 1 (x4).toNatClampNeg))], [vI ((0 : Int32) + (1 : Int32))], σ)) rfl).trans ?_
  exact e_r rfl
set_option maxRecDepth 20000 in
theorem g30a_0_8 (C : pmC) {σ : pmS} {o1 : Nat} {o2 : Nat} {o3 : Nat} {x4 : Int32} {l5 : Option pmV} {l6 : Option pmV} (h1 : vp_in x4 8) (h2 : ¬ x4 < (σ.1 2 o1 0 (x4).toNatClampNeg)) (h3 : vp_in (σ.1 2 o1 0 (x4).toNatClampNeg) 8) (h4 : vp_in (σ.1 4 0 1 (x4).toNatClampNeg) 8) (h5 : ¬ (σ.1 4 0 1 ((σ.1 2 o1 0 (x4).toNatClampNeg)).toNatClampNeg) = (σ.1 2 o3 0 ((σ.1 4 0 1 (x4).toNatClampNeg)).toNatClampNeg)) (h6 : ¬ x4 ≤ (σ.1 2 o2 1 (x4).toNatClampNeg)) (h7 : vp_in (σ.1 2 o2 1 (x4).toNatClampNeg) 8) (h8 : vp_in (σ.1 4 0 1 ((σ.1 2 o2 1 (x4).toNatClampNeg)).toNatClampNeg) 8) (h9 : ¬ (σ.1 4 0 1 (x4).toNatClampNeg) = (σ.1 2 o3 0 ((σ.1 4 0 1 ((σ.1 2 o2 1 (x4).toNatClampNeg)).toNatClampNeg)).toNatClampNeg)) : pq_Rn C (30, 0, [some (vR 4 0 0), some (vR 2 o1 1), some (vR 2 o2 2), some (vR 2 o3 1), some (vI x4), l5, l6], [], σ) = some (some (vI (((0 : Int32) + (1 : Int32)) + (1 : Int32))), σ) := by
  refine (e_n 4 (fr' := (30, 6, [some (vR 4 0 0), some (vR 2 o1 1), some (vR 2 o2 2), some (vR 2 o3 1), some (vI x4), some (vI (0 : Int32)), l6], [vI x4, vR 2 o1 1], σ)) rfl).trans ?_
  refine (e_a (A := (30, 7, [some (vR 4 0 0), some (vR 2 o1 1), some (vR 2 o2 2), some (vR 2 o3 1), some (vI x4), some (vI (0 : Int32)), l6], [vI (σ.1 2 o1 0 (x4).toNatClampNeg)], σ)) rfl h1).trans ?_
  refine (e_n 1 (fr' := (30, 9, [some (vR 4 0 0), some (vR 2 o1 1), some (vR 2 o2 2), some (vR 2 o3 1), some (vI x4), some (vI (0 : Int32)), l6], [vI x4, vI (σ.1 2 o1 0 (x4).toNatClampNeg)], σ)) rfl).trans ?_
  refine (e_f (B := (30, 12, [some (vR 4 0 0), some (vR 2 o1 1), some (vR 2 o2 2), some (vR 2 o3 1), some (vI x4), some (vI (0 : Int32)), l6], [], σ)) rfl h2).trans ?_
  refine (e_n 4 (fr' := (30, 19, [some (vR 4 0 0), some (vR 2 o1 1), some (vR 2 o2 2), some (vR 2 o3 1), some (vI x4), some (vI (0 : Int32)), l6], [vI x4, vR 2 o1 1, vR 4 0 2], σ)) rfl).trans ?_
  refine (e_a (A := (30, 20, [some (vR 4 0 0), some (vR 2 o1 1), some (vR 2 o2 2), some (vR 2 o3 1), some (vI x4), some (vI (0 : Int32)), l6], [vI (σ.1 2 o1 0 (x4).toNatClampNeg), vR 4 0 2], σ)) rfl h1).trans ?_
  refine (e_a (A := (30, 21, [some (vR 4 0 0), some (vR 2 o1 1), some (vR 2 o2 2), some (vR 2 o3 1), some (vI x4), some (vI (0 : Int32)), l6], [vI (σ.1 4 0 1 ((σ.1 2 o1 0 (x4).toNatClampNeg)).toNatClampNeg)], σ)) rfl h3).trans ?_
  refine (e_n 4 (fr' := (30, 28, [some (vR 4 0 0), some (vR 2 o1 1), some (vR 2 o2 2), some (vR 2 o3 1), some (vI x4), some (vI (0 : Int32)), l6], [vI x4, vR 4 0 2, vR 2 o3 1, vI (σ.1 4 0 1 ((σ.1 2 o1 0 (x4).toNatClampNeg)).toNatClampNeg)], σ)) rfl).trans ?_
  refine (e_a (A := (30, 29, [some (vR 4 0 0), some (vR 2 o1 1), some (vR 2 o2 2), some (vR 2 o3 1), some (vI x4), some (vI (0 : Int32)), l6], [vI (σ.1 4 0 1 (x4).toNatClampNeg), vR 2 o3 1, vI (σ.1 4 0 1 ((σ.1 2 o1 0 (x4).toNatClampNeg)).toNatClampNeg)], σ)) rfl h1).trans ?_
  refine (e_a (A := (30, 30, [some (vR 4 0 0), some (vR 2 o1 1), some (vR 2 o2 2), some (vR 2 o3 1), some (vI x4), some (vI (0 : Int32)), l6], [vI (σ.1 2 o3 0 ((σ.1 4 0 1 (x4).toNatClampNeg)).toNatClampNeg), vI (σ.1 4 0 1 ((σ.1 2 o1 0 (x4).toNatClampNeg)).toNatClampNeg)], σ)) rfl h4).trans ?_
  refine (e_f (B := (30, 33, [some (vR 4 0 0), some (vR 2 o1 1), some (vR 2 o2 2), some (vR 2 o3 1), some (vI x4), some (vI (0 : Int32)), l6], [], σ)) rfl h5).trans ?_
  refine (e_n 3 (fr' := (30, 39, [some (vR 4 0 0), some (vR 2 o1 1), some (vR 2 o2 2), some (vR 2 o3 1), some (vI x4), some (vI ((0 : Int32) + (1 : Int32))), l6], [vI x4, vR 2 o2 2], σ)) rfl).trans ?_
  refine (e_a (A := (30, 40, [some (vR 4 0 0), some (vR 2 o1 1), some (vR 2 o2 2), some (vR 2 o3 1), some (vI x4), some (vI ((0 : Int32) + (1 : Int32))), l6], [vI (σ.1 2 o2 1 (x4).toNatClampNeg)], σ)) rfl h1).trans ?_
  refine (e_n 3 (fr' := (30, 46, [some (vR 4 0 0), some (vR 2 o1 1), some (vR 2 o2 2), some (vR 2 o3 1), some (vI x4), some (vI ((0 : Int32) + (1 : Int32))), some (vI (σ.1 2 o2 1 (x4).toNatClampNeg))], [vI x4, vI (σ.1 2 o2 1 (x4).toNatClampNeg)], σ)) rfl).trans ?_
  refine (e_f (B := (30, 49, [some (vR 4 0 0), some (vR 2 o1 1), some (vR 2 o2 2), some (vR 2 o3 1), some (vI x4), some (vI ((0 : Int32) + (1 : Int32))), some (vI (σ.1 2 o2 1 (x4).toNatClampNeg))], [], σ)) rfl h6).trans ?_
  refine (e_n 3 (fr' := (30, 55, [some (vR 4 0 0), some (vR 2 o1 1), some (vR 2 o2 2), some (vR 2 o3 1), some (vI x4), some (vI ((0 : Int32) + (1 : Int32))), some (vI (σ.1 2 o2 1 (x4).toNatClampNeg))], [vI x4, vR 4 0 2], σ)) rfl).trans ?_
  refine (e_a (A := (30, 56, [some (vR 4 0 0), some (vR 2 o1 1), some (vR 2 o2 2), some (vR 2 o3 1), some (vI x4), some (vI ((0 : Int32) + (1 : Int32))), some (vI (σ.1 2 o2 1 (x4).toNatClampNeg))], [vI (σ.1 4 0 1 (x4).toNatClampNeg)], σ)) rfl h1).trans ?_
  refine (e_n 4 (fr' := (30, 63, [some (vR 4 0 0), some (vR 2 o1 1), some (vR 2 o2 2), some (vR 2 o3 1), some (vI x4), some (vI ((0 : Int32) + (1 : Int32))), some (vI (σ.1 2 o2 1 (x4).toNatClampNeg))], [vI (σ.1 2 o2 1 (x4).toNatClampNeg), vR 4 0 2, vR 2 o3 1, vI (σ.1 4 0 1 (x4).toNatClampNeg)], σ)) rfl).trans ?_
  refine (e_a (A := (30, 64, [some (vR 4 0 0), some (vR 2 o1 1), some (vR 2 o2 2), some (vR 2 o3 1), some (vI x4), some (vI ((0 : Int32) + (1 : Int32))), some (vI (σ.1 2 o2 1 (x4).toNatClampNeg))], [vI (σ.1 4 0 1 ((σ.1 2 o2 1 (x4).toNatClampNeg)).toNatClampNeg), vR 2 o3 1, vI (σ.1 4 0 1 (x4).toNatClampNeg)], σ)) rfl h7).trans ?_
  refine (e_a (A := (30, 65, [some (vR 4 0 0), some (vR 2 o1 1), some (vR 2 o2 2), some (vR 2 o3 1), some (vI x4), some (vI ((0 : Int32) + (1 : Int32))), some (vI (σ.1 2 o2 1 (x4).toNatClampNeg))], [vI (σ.1 2 o3 0 ((σ.1 4 0 1 ((σ.1 2 o2 1 (x4).toNatClampNeg)).toNatClampNeg)).toNatClampNeg), vI (σ.1 4 0 1 (x4).toNatClampNeg)], σ)) rfl h8).trans ?_
  refine (e_f (B := (30, 68, [some (vR 4 0 0), some (vR 2 o1 1), some (vR 2 o2 2), some (vR 2 o3 1), some (vI x4), some (vI ((0 : Int32) + (1 : Int32))), some (vI (σ.1 2 o2 1 (x4).toNatClampNeg))], [], σ)) rfl h9).trans ?_
  refine (e_n 2 (fr' := (30, 73, [some (vR 4 0 0), some (vR 2 o1 1), some (vR 2 o2 2), some (vR 2 o3 1), some (vI x4), some (vI (((0 : Int32) + (1 : Int32)) + (1 : Int32))), some (vI (σ.1 2 o2 1 (x4).toNatClampNeg))], [vI (((0 : Int32) + (1 : Int32)) + (1 : Int32))], σ)) rfl).trans ?_
  exact e_r rfl
set_option maxRecDepth 20000 in
theorem g30b_0_0 (C : pmC) {σ : pmS} {o1 : Nat} {o2 : Nat} {o3 : Nat} {x4 : Int32} {l5 : Option pmV} {l6 : Option pmV} (h1 : vp_in x4 8) (h2 : x4 < (σ.1 2 o1 2 (x4).toNatClampNeg)) (h3 : x4 ≤ (σ.1 2 o2 4 (x4).toNatClampNeg)) : pq_Rn C (30, 0, [some (vR 4 0 0), some (vR 2 o1 3), some (vR 2 o2 5), some (vR 2 o3 3), some (vI x4), l5, l6], [], σ) = some (some (vI (0 : Int32)), σ) := by
  refine (e_n 4 (fr' := (30, 6, [some (vR 4 0 0), some (vR 2 o1 3), some (vR 2 o2 5), some (vR 2 o3 3), some (vI x4), some (vI (0 : Int32)), l6], [vI x4, vR 2 o1 3], σ)) rfl).trans ?_
  refine (e_a (A := (30, 7, [some (vR 4 0 0), some (vR 2 o1 3), some (vR 2 o2 5), some (vR 2 o3 3), some (vI x4), some (vI (0 : Int32)), l6], [vI (σ.1 2 o1 2 (x4).toNatClampNeg)], σ)) rfl h1).trans ?_
  refine (e_n 1 (fr' := (30, 9, [some (vR 4 0 0), some (vR 2 o1 3), some (vR 2 o2 5), some (vR 2 o3 3), some (vI x4), some (vI (0 : Int32)), l6], [vI x4, vI (σ.1 2 o1 2 (x4).toNatClampNeg)], σ)) rfl).trans ?_
  refine (e_t (A := (30, 36, [some (vR 4 0 0), some (vR 2 o1 3), some (vR 2 o2 5), some (vR 2 o3 3), some (vI x4), some (vI (0 : Int32)), l6], [], σ)) rfl h2).trans ?_
  refine (e_n 2 (fr' := (30, 39, [some (vR 4 0 0), some (vR 2 o1 3), some (vR 2 o2 5), some (vR 2 o3 3), some (vI x4), some (vI (0 : Int32)), l6], [vI x4, vR 2 o2 5], σ)) rfl).trans ?_
  refine (e_a (A := (30, 40, [some (vR 4 0 0), some (vR 2 o1 3), some (vR 2 o2 5), some (vR 2 o3 3), some (vI x4), some (vI (0 : Int32)), l6], [vI (σ.1 2 o2 4 (x4).toNatClampNeg)], σ)) rfl h1).trans ?_
  refine (e_n 3 (fr' := (30, 46, [some (vR 4 0 0), some (vR 2 o1 3), some (vR 2 o2 5), some (vR 2 o3 3), some (vI x4), some (vI (0 : Int32)), some (vI (σ.1 2 o2 4 (x4).toNatClampNeg))], [vI x4, vI (σ.1 2 o2 4 (x4).toNatClampNeg)], σ)) rfl).trans ?_
  refine (e_t (A := (30, 71, [some (vR 4 0 0), some (vR 2 o1 3), some (vR 2 o2 5), some (vR 2 o3 3), some (vI x4), some (vI (0 : Int32)), some (vI (σ.1 2 o2 4 (x4).toNatClampNeg))], [], σ)) rfl h3).trans ?_
  refine (e_n 1 (fr' := (30, 73, [some (vR 4 0 0), some (vR 2 o1 3), some (vR 2 o2 5), some (vR 2 o3 3), some (vI x4), some (vI (0 : Int32)), some (vI (σ.1 2 o2 4 (x4).toNatClampNeg))], [vI (0 : Int32)], σ)) rfl).trans ?_
  exact e_r rfl
set_option maxRecDepth 20000 in
theorem g30b_0_1 (C : pmC) {σ : pmS} {o1 : Nat} {o2 : Nat} {o3 : Nat} {x4 : Int32} {l5 : Option pmV} {l6 : Option pmV} (h1 : vp_in x4 8) (h2 : x4 < (σ.1 2 o1 2 (x4).toNatClampNeg)) (h3 : ¬ x4 ≤ (σ.1 2 o2 4 (x4).toNatClampNeg)) (h4 : vp_in (σ.1 2 o2 4 (x4).toNatClampNeg) 8) (h5 : vp_in (σ.1 4 0 1 ((σ.1 2 o2 4 (x4).toNatClampNeg)).toNatClampNeg) 8) (h6 : (σ.1 4 0 1 (x4).toNatClampNeg) = (σ.1 2 o3 2 ((σ.1 4 0 1 ((σ.1 2 o2 4 (x4).toNatClampNeg)).toNatClampNeg)).toNatClampNeg)) : pq_Rn C (30, 0, [some (vR 4 0 0), some (vR 2 o1 3), some (vR 2 o2 5), some (vR 2 o3 3), some (vI x4), l5, l6], [], σ) = some (some (vI (0 : Int32)), σ) := by
  refine (e_n 4 (fr' := (30, 6, [some (vR 4 0 0), some (vR 2 o1 3), some (vR 2 o2 5), some (vR 2 o3 3), some (vI x4), some (vI (0 : Int32)), l6], [vI x4, vR 2 o1 3], σ)) rfl).trans ?_
  refine (e_a (A := (30, 7, [some (vR 4 0 0), some (vR 2 o1 3), some (vR 2 o2 5), some (vR 2 o3 3), some (vI x4), some (vI (0 : Int32)), l6], [vI (σ.1 2 o1 2 (x4).toNatClampNeg)], σ)) rfl h1).trans ?_
  refine (e_n 1 (fr' := (30, 9, [some (vR 4 0 0), some (vR 2 o1 3), some (vR 2 o2 5), some (vR 2 o3 3), some (vI x4), some (vI (0 : Int32)), l6], [vI x4, vI (σ.1 2 o1 2 (x4).toNatClampNeg)], σ)) rfl).trans ?_
  refine (e_t (A := (30, 36, [some (vR 4 0 0), some (vR 2 o1 3), some (vR 2 o2 5), some (vR 2 o3 3), some (vI x4), some (vI (0 : Int32)), l6], [], σ)) rfl h2).trans ?_
  refine (e_n 2 (fr' := (30, 39, [some (vR 4 0 0), some (vR 2 o1 3), some (vR 2 o2 5), some (vR 2 o3 3), some (vI x4), some (vI (0 : Int32)), l6], [vI x4, vR 2 o2 5], σ)) rfl).trans ?_
  refine (e_a (A := (30, 40, [some (vR 4 0 0), some (vR 2 o1 3), some (vR 2 o2 5), some (vR 2 o3 3), some (vI x4), some (vI (0 : Int32)), l6], [vI (σ.1 2 o2 4 (x4).toNatClampNeg)], σ)) rfl h1).trans ?_
  refine (e_n 3 (fr' := (30, 46, [some (vR 4 0 0), some (vR 2 o1 3), some (vR 2 o2 5), some (vR 2 o3 3), some (vI x4), some (vI (0 : Int32)), some (vI (σ.1 2 o2 4 (x4).toNatClampNeg))], [vI x4, vI (σ.1 2 o2 4 (x4).toNatClampNeg)], σ)) rfl).trans ?_
  refine (e_f (B := (30, 49, [some (vR 4 0 0), some (vR 2 o1 3), some (vR 2 o2 5), some (vR 2 o3 3), some (vI x4), some (vI (0 : Int32)), some (vI (σ.1 2 o2 4 (x4).toNatClampNeg))], [], σ)) rfl h3).trans ?_
  refine (e_n 3 (fr' := (30, 55, [some (vR 4 0 0), some (vR 2 o1 3), some (vR 2 o2 5), some (vR 2 o3 3), some (vI x4), some (vI (0 : Int32)), some (vI (σ.1 2 o2 4 (x4).toNatClampNeg))], [vI x4, vR 4 0 2], σ)) rfl).trans ?_
  refine (e_a (A := (30, 56, [some (vR 4 0 0), some (vR 2 o1 3), some (vR 2 o2 5), some (vR 2 o3 3), some (vI x4), some (vI (0 : Int32)), some (vI (σ.1 2 o2 4 (x4).toNatClampNeg))], [vI (σ.1 4 0 1 (x4).toNatClampNeg)], σ)) rfl h1).trans ?_
  refine (e_n 4 (fr' := (30, 63, [some (vR 4 0 0), some (vR 2 o1 3), some (vR 2 o2 5), some (vR 2 o3 3), some (vI x4), some (vI (0 : Int32)), some (vI (σ.1 2 o2 4 (x4).toNatClampNeg))], [vI (σ.1 2 o2 4 (x4).toNatClampNeg), vR 4 0 2, vR 2 o3 3, vI (σ.1 4 0 1 (x4).toNatClampNeg)], σ)) rfl).trans ?_
  refine (e_a (A := (30, 64, [some (vR 4 0 0), some (vR 2 o1 3), some (vR 2 o2 5), some (vR 2 o3 3), some (vI x4), some (vI (0 : Int32)), some (vI (σ.1 2 o2 4 (x4).toNatClampNeg))], [vI (σ.1 4 0 1 ((σ.1 2 o2 4 (x4).toNatClampNeg)).toNatClampNeg), vR 2 o3 3, vI (σ.1 4 0 1 (x4).toNatClampNeg)], σ)) rfl h4).trans ?_
  refine (e_a (A := (30, 65, [some (vR 4 0 0), some (vR 2 o1 3), some (vR 2 o2 5), some (vR 2 o3 3), some (vI x4), some (vI (0 : Int32)), some (vI (σ.1 2 o2 4 (x4).toNatClampNeg))], [vI (σ.1 2 o3 2 ((σ.1 4 0 1 ((σ.1 2 o2 4 (x4).toNatClampNeg)).toNatClampNeg)).toNatClampNeg), vI (σ.1 4 0 1 (x4).toNatClampNeg)], σ)) rfl h5).trans ?_
  refine (e_t (A := (30, 71, [some (vR 4 0 0), some (vR 2 o1 3), some (vR 2 o2 5), some (vR 2 o3 3), some (vI x4), some (vI (0 : Int32)), some (vI (σ.1 2 o2 4 (x4).toNatClampNeg))], [], σ)) rfl h6).trans ?_
  refine (e_n 1 (fr' := (30, 73, [some (vR 4 0 0), some (vR 2 o1 3), some (vR 2 o2 5), some (vR 2 o3 3), some (vI x4), some (vI (0 : Int32)), some (vI (σ.1 2 o2 4 (x4).toNatClampNeg))], [vI (0 : Int32)], σ)) rfl).trans ?_
  exact e_r rfl
set_option maxRecDepth 20000 in
theorem g30b_0_2 (C : pmC) {σ : pmS} {o1 : Nat} {o2 : Nat} {o3 : Nat} {x4 : Int32} {l5 : Option pmV} {l6 : Option pmV} (h1 : vp_in x4 8) (h2 : x4 < (σ.1 2 o1 2 (x4).toNatClampNeg)) (h3 : ¬ x4 ≤ (σ.1 2 o2 4 (x4).toNatClampNeg)) (h4 : vp_in (σ.1 2 o2 4 (x4).toNatClampNeg) 8) (h5 : vp_in (σ.1 4 0 1 ((σ.1 2 o2 4 (x4).toNatClampNeg)).toNatClampNeg) 8) (h6 : ¬ (σ.1 4 0 1 (x4).toNatClampNeg) = (σ.1 2 o3 2 ((σ.1 4 0 1 ((σ.1 2 o2 4 (x4).toNatClampNeg)).toNatClampNeg)).toNatClampNeg)) : pq_Rn C (30, 0, [some (vR 4 0 0), some (vR 2 o1 3), some (vR 2 o2 5), some (vR 2 o3 3), some (vI x4), l5, l6], [], σ) = some (some (vI ((0 : Int32) + (1 : Int32))), σ) := by
  refine (e_n 4 (fr' := (30, 6, [some (vR 4 0 0), some (vR 2 o1 3), some (vR 2 o2 5), some (vR 2 o3 3), some (vI x4), some (vI (0 : Int32)), l6], [vI x4, vR 2 o1 3], σ)) rfl).trans ?_
  refine (e_a (A := (30, 7, [some (vR 4 0 0), some (vR 2 o1 3), some (vR 2 o2 5), some (vR 2 o3 3), some (vI x4), some (vI (0 : Int32)), l6], [vI (σ.1 2 o1 2 (x4).toNatClampNeg)], σ)) rfl h1).trans ?_
  refine (e_n 1 (fr' := (30, 9, [some (vR 4 0 0), some (vR 2 o1 3), some (vR 2 o2 5), some (vR 2 o3 3), some (vI x4), some (vI (0 : Int32)), l6], [vI x4, vI (σ.1 2 o1 2 (x4).toNatClampNeg)], σ)) rfl).trans ?_
  refine (e_t (A := (30, 36, [some (vR 4 0 0), some (vR 2 o1 3), some (vR 2 o2 5), some (vR 2 o3 3), some (vI x4), some (vI (0 : Int32)), l6], [], σ)) rfl h2).trans ?_
  refine (e_n 2 (fr' := (30, 39, [some (vR 4 0 0), some (vR 2 o1 3), some (vR 2 o2 5), some (vR 2 o3 3), some (vI x4), some (vI (0 : Int32)), l6], [vI x4, vR 2 o2 5], σ)) rfl).trans ?_
  refine (e_a (A := (30, 40, [some (vR 4 0 0), some (vR 2 o1 3), some (vR 2 o2 5), some (vR 2 o3 3), some (vI x4), some (vI (0 : Int32)), l6], [vI (σ.1 2 o2 4 (x4).toNatClampNeg)], σ)) rfl h1).trans ?_
  refine (e_n 3 (fr' := (30, 46, [some (vR 4 0 0), some (vR 2 o1 3), some (vR 2 o2 5), some (vR 2 o3 3), some (vI x4), some (vI (0 : Int32)), some (vI (σ.1 2 o2 4 (x4).toNatClampNeg))], [vI x4, vI (σ.1 2 o2 4 (x4).toNatClampNeg)], σ)) rfl).trans ?_
  refine (e_f (B := (30, 49, [some (vR 4 0 0), some (vR 2 o1 3), some (vR 2 o2 5), some (vR 2 o3 3), some (vI x4), some (vI (0 : Int32)), some (vI (σ.1 2 o2 4 (x4).toNatClampNeg))], [], σ)) rfl h3).trans ?_
  refine (e_n 3 (fr' := (30, 55, [some (vR 4 0 0), some (vR 2 o1 3), some (vR 2 o2 5), some (vR 2 o3 3), some (vI x4), some (vI (0 : Int32)), some (vI (σ.1 2 o2 4 (x4).toNatClampNeg))], [vI x4, vR 4 0 2], σ)) rfl).trans ?_
  refine (e_a (A := (30, 56, [some (vR 4 0 0), some (vR 2 o1 3), some (vR 2 o2 5), some (vR 2 o3 3), some (vI x4), some (vI (0 : Int32)), some (vI (σ.1 2 o2 4 (x4).toNatClampNeg))], [vI (σ.1 4 0 1 (x4).toNatClampNeg)], σ)) rfl h1).trans ?_
  refine (e_n 4 (fr' := (30, 63, [some (vR 4 0 0), some (vR 2 o1 3), some (vR 2 o2 5), some (vR 2 o3 3), some (vI x4), some (vI (0 : Int32)), some (vI (σ.1 2 o2 4 (x4).toNatClampNeg))], [vI (σ.1 2 o2 4 (x4).toNatClampNeg), vR 4 0 2, vR 2 o3 3, vI (σ.1 4 0 1 (x4).toNatClampNeg)], σ)) rfl).trans ?_
  refine (e_a (A := (30, 64, [some (vR 4 0 0), some (vR 2 o1 3), some (vR 2 o2 5), some (vR 2 o3 3), some (vI x4), some (vI (0 : Int32)), some (vI (σ.1 2 o2 4 (x4).toNatClampNeg))], [vI (σ.1 4 0 1 ((σ.1 2 o2 4 (x4).toNatClampNeg)).toNatClampNeg), vR 2 o3 3, vI (σ.1 4 0 1 (x4).toNatClampNeg)], σ)) rfl h4).trans ?_
  refine (e_a (A := (30, 65, [some (vR 4 0 0), some (vR 2 o1 3), some (vR 2 o2 5), some (vR 2 o3 3), some (vI x4), some (vI (0 : Int32)), some (vI (σ.1 2 o2 4 (x4).toNatClampNeg))], [vI (σ.1 2 o3 2 ((σ.1 4 0 1 ((σ.1 2 o2 4 (x4).toNatClampNeg)).toNatClampNeg)).toNatClampNeg), vI (σ.1 4 0 1 (x4).toNatClampNeg)], σ)) rfl h5).trans ?_
  refine (e_f (B := (30, 68, [some (vR 4 0 0), some (vR 2 o1 3), some (vR 2 o2 5), some (vR 2 o3 3), some (vI x4), some (vI (0 : Int32)), some (vI (σ.1 2 o2 4 (x4).toNatClampNeg))], [], σ)) rfl h6).trans ?_
  refine (e_n 2 (fr' := (30, 73, [some (vR 4 0 0), some (vR 2 o1 3), some (vR 2 o2 5), some (vR 2 o3 3), some (vI x4), some (vI ((0 : Int32) + (1 : Int32))), some (vI (σ.1 2 o2 4 (x4).toNatClampNeg))], [vI ((0 : Int32) + (1 : Int32))], σ)) rfl).trans ?_
  exact e_r rfl
set_option maxRecDepth 20000 in
theorem g30b_0_3 (C : pmC) {σ : pmS} {o1 : Nat} {o2 : Nat} {o3 : Nat} {x4 : Int32} {l5 : Option pmV} {l6 : Option pmV} (h1 : vp_in x4 8) (h2 : ¬ x4 < (σ.1 2 o1 2 (x4).toNatClampNeg)) (h3 : vp_in (σ.1 2 o1 2 (x4).toNatClampNeg) 8) (h4 : vp_in (σ.1 4 0 1 (x4).toNatClampNeg) 8) (h5 : (σ.1 4 0 1 ((σ.1 2 o1 2 (x4).toNatClampNeg)).toNatClampNeg) = (σ.1 2 o3 2 ((σ.1 4 0 1 (x4).toNatClampNeg)).toNatClampNeg)) (h6 : x4 ≤ (σ.1 2 o2 4 (x4).toNatClampNeg)) : pq_Rn C (30, 0, [some (vR 4 0 0), some (vR 2 o1 3), some (vR 2 o2 5), some (vR 2 o3 3), some (vI x4), l5, l6], [], σ) = some (some (vI (0 : Int32)), σ) := by
  refine (e_n 4 (fr' := (30, 6, [some (vR 4 0 0), some (vR 2 o1 3), some (vR 2 o2 5), some (vR 2 o3 3), some (vI x4), some (vI (0 : Int32)), l6], [vI x4, vR 2 o1 3], σ)) rfl).trans ?_
  refine (e_a (A := (30, 7, [some (vR 4 0 0), some (vR 2 o1 3), some (vR 2 o2 5), some (vR 2 o3 3), some (vI x4), some (vI (0 : Int32)), l6], [vI (σ.1 2 o1 2 (x4).toNatClampNeg)], σ)) rfl h1).trans ?_
  refine (e_n 1 (fr' := (30, 9, [some (vR 4 0 0), some (vR 2 o1 3), some (vR 2 o2 5), some (vR 2 o3 3), some (vI x4), some (vI (0 : Int32)), l6], [vI x4, vI (σ.1 2 o1 2 (x4).toNatClampNeg)], σ)) rfl).trans ?_
  refine (e_f (B := (30, 12, [some (vR 4 0 0), some (vR 2 o1 3), some (vR 2 o2 5), some (vR 2 o3 3), some (vI x4), some (vI (0 : Int32)), l6], [], σ)) rfl h2).trans ?_
  refine (e_n 4 (fr' := (30, 19, [some (vR 4 0 0), some (vR 2 o1 3), some (vR 2 o2 5), some (vR 2 o3 3), some (vI x4), some (vI (0 : Int32)), l6], [vI x4, vR 2 o1 3, vR 4 0 2], σ)) rfl).trans ?_
  refine (e_a (A := (30, 20, [some (vR 4 0 0), some (vR 2 o1 3), some (vR 2 o2 5), some (vR 2 o3 3), some (vI x4), some (vI (0 : Int32)), l6], [vI (σ.1 2 o1 2 (x4).toNatClampNeg), vR 4 0 2], σ)) rfl h1).trans ?_
  refine (e_a (A := (30, 21, [some (vR 4 0 0), some (vR 2 o1 3), some (vR 2 o2 5), some (vR 2 o3 3), some (vI x4), some (vI (0 : Int32)), l6], [vI (σ.1 4 0 1 ((σ.1 2 o1 2 (x4).toNatClampNeg)).toNatClampNeg)], σ)) rfl h3).trans ?_
  refine (e_n 4 (fr' := (30, 28, [some (vR 4 0 0), some (vR 2 o1 3), some (vR 2 o2 5), some (vR 2 o3 3), some (vI x4), some (vI (0 : Int32)), l6], [vI x4, vR 4 0 2, vR 2 o3 3, vI (σ.1 4 0 1 ((σ.1 2 o1 2 (x4).toNatClampNeg)).toNatClampNeg)], σ)) rfl).trans ?_
  refine (e_a (A := (30, 29, [some (vR 4 0 0), some (vR 2 o1 3), some (vR 2 o2 5), some (vR 2 o3 3), some (vI x4), some (vI (0 : Int32)), l6], [vI (σ.1 4 0 1 (x4).toNatClampNeg), vR 2 o3 3, vI (σ.1 4 0 1 ((σ.1 2 o1 2 (x4).toNatClampNeg)).toNatClampNeg)], σ)) rfl h1).trans ?_
  refine (e_a (A := (30, 30, [some (vR 4 0 0), some (vR 2 o1 3), some (vR 2 o2 5), some (vR 2 o3 3), some (vI x4), some (vI (0 : Int32)), l6], [vI (σ.1 2 o3 2 ((σ.1 4 0 1 (x4).toNatClampNeg)).toNatClampNeg), vI (σ.1 4 0 1 ((σ.1 2 o1 2 (x4).toNatClampNeg)).toNatClampNeg)], σ)) rfl h4).trans ?_
  refine (e_t (A := (30, 36, [some (vR 4 0 0), some (vR 2 o1 3), some (vR 2 o2 5), some (vR 2 o3 3), some (vI x4), some (vI (0 : Int32)), l6], [], σ)) rfl h5).trans ?_
  refine (e_n 2 (fr' := (30, 39, [some (vR 4 0 0), some (vR 2 o1 3), some (vR 2 o2 5), some (vR 2 o3 3), some (vI x4), some (vI (0 : Int32)), l6], [vI x4, vR 2 o2 5], σ)) rfl).trans ?_
  refine (e_a (A := (30, 40, [some (vR 4 0 0), some (vR 2 o1 3), some (vR 2 o2 5), some (vR 2 o3 3), some (vI x4), some (vI (0 : Int32)), l6], [vI (σ.1 2 o2 4 (x4).toNatClampNeg)], σ)) rfl h1).trans ?_
  refine (e_n 3 (fr' := (30, 46, [some (vR 4 0 0), some (vR 2 o1 3), some (vR 2 o2 5), some (vR 2 o3 3), some (vI x4), some (vI (0 : Int32)), some (vI (σ.1 2 o2 4 (x4).toNatClampNeg))], [vI x4, vI (σ.1 2 o2 4 (x4).toNatClampNeg)], σ)) rfl).trans ?_
  refine (e_t (A := (30, 71, [some (vR 4 0 0), some (vR 2 o1 3), some (vR 2 o2 5), some (vR 2 o3 3), some (vI x4), some (vI (0 : Int32)), some (vI (σ.1 2 o2 4 (x4).toNatClampNeg))], [], σ)) rfl h6).trans ?_
  refine (e_n 1 (fr' := (30, 73, [some (vR 4 0 0), some (vR 2 o1 3), some (vR 2 o2 5), some (vR 2 o3 3), some (vI x4), some (vI (0 : Int32)), some (vI (σ.1 2 o2 4 (x4).toNatClampNeg))], [vI (0 : Int32)], σ)) rfl).trans ?_
  exact e_r rfl
set_option maxRecDepth 20000 in
theorem g30b_0_4 (C : pmC) {σ : pmS} {o1 : Nat} {o2 : Nat} {o3 : Nat} {x4 : Int32} {l5 : Option pmV} {l6 : Option pmV} (h1 : vp_in x4 8) (h2 : ¬ x4 < (σ.1 2 o1 2 (x4).toNatClampNeg)) (h3 : vp_in (σ.1 2 o1 2 (x4).toNatClampNeg) 8) (h4 : vp_in (σ.1 4 0 1 (x4).toNatClampNeg) 8) (h5 : (σ.1 4 0 1 ((σ.1 2 o1 2 (x4).toNatClampNeg)).toNatClampNeg) = (σ.1 2 o3 2 ((σ.1 4 0 1 (x4).toNatClampNeg)).toNatClampNeg)) (h6 : ¬ x4 ≤ (σ.1 2 o2 4 (x4).toNatClampNeg)) (h7 : vp_in (σ.1 2 o2 4 (x4).toNatClampNeg) 8) (h8 : vp_in (σ.1 4 0 1 ((σ.1 2 o2 4 (x4).toNatClampNeg)).toNatClampNeg) 8) (h9 : (σ.1 4 0 1 (x4).toNatClampNeg) = (σ.1 2 o3 2 ((σ.1 4 0 1 ((σ.1 2 o2 4 (x4).toNatClampNeg)).toNatClampNeg)).toNatClampNeg)) : pq_Rn C (30, 0, [some (vR 4 0 0), some (vR 2 o1 3), some (vR 2 o2 5), some (vR 2 o3 3), some (vI x4), l5, l6], [], σ) = some (some (vI (0 : Int32)), σ) := by
  refine (e_n 4 (fr' := (30, 6, [some (vR 4 0 0), some (vR 2 o1 3), some (vR 2 o2 5), some (vR 2 o3 3), some (vI x4), some (vI (0 : Int32)), l6], [vI x4, vR 2 o1 3], σ)) rfl).trans ?_
  refine (e_a (A := (30, 7, [some (vR 4 0 0), some (vR 2 o1 3), some (vR 2 o2 5), some (vR 2 o3 3), some (vI x4), some (vI (0 : Int32)), l6], [vI (σ.1 2 o1 2 (x4).toNatClampNeg)], σ)) rfl h1).trans ?_
  refine (e_n 1 (fr' := (30, 9, [some (vR 4 0 0), some (vR 2 o1 3), some (vR 2 o2 5), some (vR 2 o3 3), some (vI x4), some (vI (0 : Int32)), l6], [vI x4, vI (σ.1 2 o1 2 (x4).toNatClampNeg)], σ)) rfl).trans ?_
  refine (e_f (B := (30, 12, [some (vR 4 0 0), some (vR 2 o1 3), some (vR 2 o2 5), some (vR 2 o3 3), some (vI x4), some (vI (0 : Int32)), l6], [], σ)) rfl h2).trans ?_
  refine (e_n 4 (fr' := (30, 19, [some (vR 4 0 0), some (vR 2 o1 3), some (vR 2 o2 5), some (vR 2 o3 3), some (vI x4), some (vI (0 : Int32)), l6], [vI x4, vR 2 o1 3, vR 4 0 2], σ)) rfl).trans ?_
  refine (e_a (A := (30, 20, [some (vR 4 0 0), some (vR 2 o1 3), some (vR 2 o2 5), some (vR 2 o3 3), some (vI x4), some (vI (0 : Int32)), l6], [vI (σ.1 2 o1 2 (x4).toNatClampNeg), vR 4 0 2], σ)) rfl h1).trans ?_
  refine (e_a (A := (30, 21, [some (vR 4 0 0), some (vR 2 o1 3), some (vR 2 o2 5), some (vR 2 o3 3), some (vI x4), some (vI (0 : Int32)), l6], [vI (σ.1 4 0 1 ((σ.1 2 o1 2 (x4).toNatClampNeg)).toNatClampNeg)], σ)) rfl h3).trans ?_
  refine (e_n 4 (fr' := (30, 28, [some (vR 4 0 0), some (vR 2 o1 3), some (vR 2 o2 5), some (vR 2 o3 3), some (vI x4), some (vI (0 : Int32)), l6], [vI x4, vR 4 0 2, vR 2 o3 3, vI (σ.1 4 0 1 ((σ.1 2 o1 2 (x4).toNatClampNeg)).toNatClampNeg)], σ)) rfl).trans ?_
  refine (e_a (A := (30, 29, [some (vR 4 0 0), some (vR 2 o1 3), some (vR 2 o2 5), some (vR 2 o3 3), some (vI x4), some (vI (0 : Int32)), l6], [vI (σ.1 4 0 1 (x4).toNatClampNeg), vR 2 o3 3, vI (σ.1 4 0 1 ((σ.1 2 o1 2 (x4).toNatClampNeg)).toNatClampNeg)], σ)) rfl h1).trans ?_
  refine (e_a (A := (30, 30, [some (vR 4 0 0), some (vR 2 o1 3), some (vR 2 o2 5), some (vR 2 o3 3), some (vI x4), some (vI (0 : Int32)), l6], [vI (σ.1 2 o3 2 ((σ.1 4 0 1 (x4).toNatClampNeg)).toNatClampNeg), vI (σ.1 4 0 1 ((σ.1 2 o1 2 (x4).toNatClampNeg)).toNatClampNeg)], σ)) rfl h4).trans ?_
  refine (e_t (A := (30, 36, [some (vR 4 0 0), some (vR 2 o1 3), some (vR 2 o2 5), some (vR 2 o3 3), some (vI x4), some (vI (0 : Int32)), l6], [], σ)) rfl h5).trans ?_
  refine (e_n 2 (fr' := (30, 39, [some (vR 4 0 0), some (vR 2 o1 3), some (vR 2 o2 5), some (vR 2 o3 3), some (vI x4), some (vI (0 : Int32)), l6], [vI x4, vR 2 o2 5], σ)) rfl).trans ?_
  refine (e_a (A := (30, 40, [some (vR 4 0 0), some (vR 2 o1 3), some (vR 2 o2 5), some (vR 2 o3 3), some (vI x4), some (vI (0 : Int32)), l6], [vI (σ.1 2 o2 4 (x4).toNatClampNeg)], σ)) rfl h1).trans ?_
  refine (e_n 3 (fr' := (30, 46, [some (vR 4 0 0), some (vR 2 o1 3), some (vR 2 o2 5), some (vR 2 o3 3), some (vI x4), some (vI (0 : Int32)), some (vI (σ.1 2 o2 4 (x4).toNatClampNeg))], [vI x4, vI (σ.1 2 o2 4 (x4).toNatClampNeg)], σ)) rfl).trans ?_
  refine (e_f (B := (30, 49, [some (vR 4 0 0), some (vR 2 o1 3), some (vR 2 o2 5), some (vR 2 o3 3), some (vI x4), some (vI (0 : Int32)), some (vI (σ.1 2 o2 4 (x4).toNatClampNeg))], [], σ)) rfl h6).trans ?_
  refine (e_n 3 (fr' := (30, 55, [some (vR 4 0 0), some (vR 2 o1 3), some (vR 2 o2 5), some (vR 2 o3 3), some (vI x4), some (vI (0 : Int32)), some (vI (σ.1 2 o2 4 (x4).toNatClampNeg))], [vI x4, vR 4 0 2], σ)) rfl).trans ?_
  refine (e_a (A := (30, 56, [some (vR 4 0 0), some (vR 2 o1 3), some (vR 2 o2 5), some (vR 2 o3 3), some (vI x4), some (vI (0 : Int32)), some (vI (σ.1 2 o2 4 (x4).toNatClampNeg))], [vI (σ.1 4 0 1 (x4).toNatClampNeg)], σ)) rfl h1).trans ?_
  refine (e_n 4 (fr' := (30, 63, [some (vR 4 0 0), some (vR 2 o1 3), some (vR 2 o2 5), some (vR 2 o3 3), some (vI x4), some (vI (0 : Int32)), some (vI (σ.1 2 o2 4 (x4).toNatClampNeg))], [vI (σ.1 2 o2 4 (x4).toNatClampNeg), vR 4 0 2, vR 2 o3 3, vI (σ.1 4 0 1 (x4).toNatClampNeg)], σ)) rfl).trans ?_
  refine (e_a (A := (30, 64, [some (vR 4 0 0), some (vR 2 o1 3), some (vR 2 o2 5), some (vR 2 o3 3), some (vI x4), some (vI (0 : Int32)), some (vI (σ.1 2 o2 4 (x4).toNatClampNeg))], [vI (σ.1 4 0 1 ((σ.1 2 o2 4 (x4).toNatClampNeg)).toNatClampNeg), vR 2 o3 3, vI (σ.1 4 0 1 (x4).toNatClampNeg)], σ)) rfl h7).trans ?_
  refine (e_a (A := (30, 65, [some (vR 4 0 0), some (vR 2 o1 3), some (vR 2 o2 5), some (vR 2 o3 3), some (vI x4), some (vI (0 : Int32)), some (vI (σ.1 2 o2 4 (x4).toNatClampNeg))], [vI (σ.1 2 o3 2 ((σ.1 4 0 1 ((σ.1 2 o2 4 (x4).toNatClampNeg)).toNatClampNeg)).toNatClampNeg), vI (σ.1 4 0 1 (x4).toNatClampNeg)], σ)) rfl h8).trans ?_
  refine (e_t (A := (30, 71, [some (vR 4 0 0), some (vR 2 o1 3), some (vR 2 o2 5), some (vR 2 o3 3), some (vI x4), some (vI (0 : Int32)), some (vI (σ.1 2 o2 4 (x4).toNatClampNeg))], [], σ)) rfl h9).trans ?_
  refine (e_n 1 (fr' := (30, 73, [some (vR 4 0 0), some (vR 2 o1 3), some (vR 2 o2 5), some (vR 2 o3 3), some (vI x4), some (vI (0 : Int32)), some (vI (σ.1 2 o2 4 (x4).toNatClampNeg))], [vI (0 : Int32)], σ)) rfl).trans ?_
  exact e_r rfl
set_option maxRecDepth 20000 in
theorem g30b_0_5 (C : pmC) {σ : pmS} {o1 : Nat} {o2 : Nat} {o3 : Nat} {x4 : Int32} {l5 : Option pmV} {l6 : Option pmV} (h1 : vp_in x4 8) (h2 : ¬ x4 < (σ.1 2 o1 2 (x4).toNatClampNeg)) (h3 : vp_in (σ.1 2 o1 2 (x4).toNatClampNeg) 8) (h4 : vp_in (σ.1 4 0 1 (x4).toNatClampNeg) 8) (h5 : (σ.1 4 0 1 ((σ.1 2 o1 2 (x4).toNatClampNeg)).toNatClampNeg) = (σ.1 2 o3 2 ((σ.1 4 0 1 (x4).toNatClampNeg)).toNatClampNeg)) (h6 : ¬ x4 ≤ (σ.1 2 o2 4 (x4).toNatClampNeg)) (h7 : vp_in (σ.1 2 o2 4 (x4).toNatClampNeg) 8) (h8 : vp_in (σ.1 4 0 1 ((σ.1 2 o2 4 (x4).toNatClampNeg)).toNatClampNeg) 8) (h9 : ¬ (σ.1 4 0 1 (x4).toNatClampNeg) = (σ.1 2 o3 2 ((σ.1 4 0 1 ((σ.1 2 o2 4 (x4).toNatClampNeg)).toNatClampNeg)).toNatClampNeg)) : pq_Rn C (30, 0, [some (vR 4 0 0), some (vR 2 o1 3), some (vR 2 o2 5), some (vR 2 o3 3), some (vI x4), l5, l6], [], σ) = some (some (vI ((0 : Int32) + (1 : Int32))), σ) := by
  refine (e_n 4 (fr' := (30, 6, [some (vR 4 0 0), some (vR 2 o1 3), some (vR 2 o2 5), some (vR 2 o3 3), some (vI x4), some (vI (0 : Int32)), l6], [vI x4, vR 2 o1 3], σ)) rfl).trans ?_
  refine (e_a (A := (30, 7, [some (vR 4 0 0), some (vR 2 o1 3), some (vR 2 o2 5), some (vR 2 o3 3), some (vI x4), some (vI (0 : Int32)), l6], [vI (σ.1 2 o1 2 (x4).toNatClampNeg)], σ)) rfl h1).trans ?_
  refine (e_n 1 (fr' := (30, 9, [some (vR 4 0 0), some (vR 2 o1 3), some (vR 2 o2 5), some (vR 2 o3 3), some (vI x4), some (vI (0 : Int32)), l6], [vI x4, vI (σ.1 2 o1 2 (x4).toNatClampNeg)], σ)) rfl).trans ?_
  refine (e_f (B := (30, 12, [some (vR 4 0 0), some (vR 2 o1 3), some (vR 2 o2 5), some (vR 2 o3 3), some (vI x4), some (vI (0 : Int32)), l6], [], σ)) rfl h2).trans ?_
  refine (e_n 4 (fr' := (30, 19, [some (vR 4 0 0), some (vR 2 o1 3), some (vR 2 o2 5), some (vR 2 o3 3), some (vI x4), some (vI (0 : Int32)), l6], [vI x4, vR 2 o1 3, vR 4 0 2], σ)) rfl).trans ?_
  refine (e_a (A := (30, 20, [some (vR 4 0 0), some (vR 2 o1 3), some (vR 2 o2 5), some (vR 2 o3 3), some (vI x4), some (vI (0 : Int32)), l6], [vI (σ.1 2 o1 2 (x4).toNatClampNeg), vR 4 0 2], σ)) rfl h1).trans ?_
  refine (e_a (A := (30, 21, [some (vR 4 0 0), some (vR 2 o1 3), some (vR 2 o2 5), some (vR 2 o3 3), some (vI x4), some (vI (0 : Int32)), l6], [vI (σ.1 4 0 1 ((σ.1 2 o1 2 (x4).toNatClampNeg)).toNatClampNeg)], σ)) rfl h3).trans ?_
  refine (e_n 4 (fr' := (30, 28, [some (vR 4 0 0), some (vR 2 o1 3), some (vR 2 o2 5), some (vR 2 o3 3), some (vI x4), some (vI (0 : Int32)), l6], [vI x4, vR 4 0 2, vR 2 o3 3, vI (σ.1 4 0 1 ((σ.1 2 o1 2 (x4).toNatClampNeg)).toNatClampNeg)], σ)) rfl).trans ?_
  refine (e_a (A := (30, 29, [some (vR 4 0 0), some (vR 2 o1 3), some (vR 2 o2 5), some (vR 2 o3 3), some (vI x4), some (vI (0 : Int32)), l6], [vI (σ.1 4 0 1 (x4).toNatClampNeg), vR 2 o3 3, vI (σ.1 4 0 1 ((σ.1 2 o1 2 (x4).toNatClampNeg)).toNatClampNeg)], σ)) rfl h1).trans ?_
  refine (e_a (A := (30, 30, [some (vR 4 0 0), some (vR 2 o1 3), some (vR 2 o2 5), some (vR 2 o3 3), some (vI x4), some (vI (0 : Int32)), l6], [vI (σ.1 2 o3 2 ((σ.1 4 0 1 (x4).toNatClampNeg)).toNatClampNeg), vI (σ.1 4 0 1 ((σ.1 2 o1 2 (x4).toNatClampNeg)).toNatClampNeg)], σ)) rfl h4).trans ?_
  refine (e_t (A := (30, 36, [some (vR 4 0 0), some (vR 2 o1 3), some (vR 2 o2 5), some (vR 2 o3 3), some (vI x4), some (vI (0 : Int32)), l6], [], σ)) rfl h5).trans ?_
  refine (e_n 2 (fr' := (30, 39, [some (vR 4 0 0), some (vR 2 o1 3), some (vR 2 o2 5), some (vR 2 o3 3), some (vI x4), some (vI (0 : Int32)), l6], [vI x4, vR 2 o2 5], σ)) rfl).trans ?_
  refine (e_a (A := (30, 40, [some (vR 4 0 0), some (vR 2 o1 3), some (vR 2 o2 5), some (vR 2 o3 3), some (vI x4), some (vI (0 : Int32)), l6], [vI (σ.1 2 o2 4 (x4).toNatClampNeg)], σ)) rfl h1).trans ?_
  refine (e_n 3 (fr' := (30, 46, [some (vR 4 0 0), some (vR 2 o1 3), some (vR 2 o2 5), some (vR 2 o3 3), some (vI x4), some (vI (0 : Int32)), some (vI (σ.1 2 o2 4 (x4).toNatClampNeg))], [vI x4, vI (σ.1 2 o2 4 (x4).toNatClampNeg)], σ)) rfl).trans ?_
  refine (e_f (B := (30, 49, [some (vR 4 0 0), some (vR 2 o1 3), some (vR 2 o2 5), some (vR 2 o3 3), some (vI x4), some (vI (0 : Int32)), some (vI (σ.1 2 o2 4 (x4).toNatClampNeg))], [], σ)) rfl h6).trans ?_
  refine (e_n 3 (fr' := (30, 55, [some (vR 4 0 0), some (vR 2 o1 3), some (vR 2 o2 5), some (vR 2 o3 3), some (vI x4), some (vI (0 : Int32)), some (vI (σ.1 2 o2 4 (x4).toNatClampNeg))], [vI x4, vR 4 0 2], σ)) rfl).trans ?_
  refine (e_a (A := (30, 56, [some (vR 4 0 0), some (vR 2 o1 3), some (vR 2 o2 5), some (vR 2 o3 3), some (vI x4), some (vI (0 : Int32)), some (vI (σ.1 2 o2 4 (x4).toNatClampNeg))], [vI (σ.1 4 0 1 (x4).toNatClampNeg)], σ)) rfl h1).trans ?_
  refine (e_n 4 (fr' := (30, 63, [some (vR 4 0 0), some (vR 2 o1 3), some (vR 2 o2 5), some (vR 2 o3 3), some (vI x4), some (vI (0 : Int32)), some (vI (σ.1 2 o2 4 (x4).toNatClampNeg))], [vI (σ.1 2 o2 4 (x4).toNatClampNeg), vR 4 0 2, vR 2 o3 3, vI (σ.1 4 0 1 (x4).toNatClampNeg)], σ)) rfl).trans ?_
  refine (e_a (A := (30, 64, [some (vR 4 0 0), some (vR 2 o1 3), some (vR 2 o2 5), some (vR 2 o3 3), some (vI x4), some (vI (0 : Int32)), some (vI (σ.1 2 o2 4 (x4).toNatClampNeg))], [vI (σ.1 4 0 1 ((σ.1 2 o2 4 (x4).toNatClampNeg)).toNatClampNeg), vR 2 o3 3, vI (σ.1 4 0 1 (x4).toNatClampNeg)], σ)) rfl h7).trans ?_
  refine (e_a (A := (30, 65, [some (vR 4 0 0), some (vR 2 o1 3), some (vR 2 o2 5), some (vR 2 o3 3), some (vI x4), some (vI (0 : Int32)), some (vI (σ.1 2 o2 4 (x4).toNatClampNeg))], [vI (σ.1 2 o3 2 ((σ.1 4 0 1 ((σ.1 2 o2 4 (x4).toNatClampNeg)).toNatClampNeg)).toNatClampNeg), vI (σ.1 4 0 1 (x4).toNatClampNeg)], σ)) rfl h8).trans ?_
  refine (e_f (B := (30, 68, [some (vR 4 0 0), some (vR 2 o1 3), some (vR 2 o2 5), some (vR 2 o3 3), some (vI x4), some (vI (0 : Int32)), some (vI (σ.1 2 o2 4 (x4).toNatClampNeg))], [], σ)) rfl h9).trans ?_
  refine (e_n 2 (fr' := (30, 73, [some (vR 4 0 0), some (vR 2 o1 3), some (vR 2 o2 5), some (vR 2 o3 3), some (vI x4), some (vI ((0 : Int32) + (1 : Int32))), some (vI (σ.1 2 o2 4 (x4).toNatClampNeg))], [vI ((0 : Int32) + (1 : Int32))], σ)) rfl).trans ?_
  exact e_r rfl
set_option maxRecDepth 20000 in
theorem g30b_0_6 (C : pmC) {σ : pmS} {o1 : Nat} {o2 : Nat} {o3 : Nat} {x4 : Int32} {l5 : Option pmV} {l6 : Option pmV} (h1 : vp_in x4 8) (h2 : ¬ x4 < (σ.1 2 o1 2 (x4).toNatClampNeg)) (h3 : vp_in (σ.1 2 o1 2 (x4).toNatClampNeg) 8) (h4 : vp_in (σ.1 4 0 1 (x4).toNatClampNeg) 8) (h5 : ¬ (σ.1 4 0 1 ((σ.1 2 o1 2 (x4).toNatClampNeg)).toNatClampNeg) = (σ.1 2 o3 2 ((σ.1 4 0 1 (x4).toNatClampNeg)).toNatClampNeg)) (h6 : x4 ≤ (σ.1 2 o2 4 (x4).toNatClampNeg)) : pq_Rn C (30, 0, [some (vR 4 0 0), some (vR 2 o1 3), some (vR 2 o2 5), some (vR 2 o3 3), some (vI x4), l5, l6], [], σ) = some (some (vI ((0 : Int32) + (1 : Int32))), σ) := by
  refine (e_n 4 (fr' := (30, 6, [some (vR 4 0 0), some (vR 2 o1 3), some (vR 2 o2 5), some (vR 2 o3 3), some (vI x4), some (vI (0 : Int32)), l6], [vI x4, vR 2 o1 3], σ)) rfl).trans ?_
  refine (e_a (A := (30, 7, [some (vR 4 0 0), some (vR 2 o1 3), some (vR 2 o2 5), some (vR 2 o3 3), some (vI x4), some (vI (0 : Int32)), l6], [vI (σ.1 2 o1 2 (x4).toNatClampNeg)], σ)) rfl h1).trans ?_
  refine (e_n 1 (fr' := (30, 9, [some (vR 4 0 0), some (vR 2 o1 3), some (vR 2 o2 5), some (vR 2 o3 3), some (vI x4), some (vI (0 : Int32)), l6], [vI x4, vI (σ.1 2 o1 2 (x4).toNatClampNeg)], σ)) rfl).trans ?_
  refine (e_f (B := (30, 12, [some (vR 4 0 0), some (vR 2 o1 3), some (vR 2 o2 5), some (vR 2 o3 3), some (vI x4), some (vI (0 : Int32)), l6], [], σ)) rfl h2).trans ?_
  refine (e_n 4 (fr' := (30, 19, [some (vR 4 0 0), some (vR 2 o1 3), some (vR 2 o2 5), some (vR 2 o3 3), some (vI x4), some (vI (0 : Int32)), l6], [vI x4, vR 2 o1 3, vR 4 0 2], σ)) rfl).trans ?_
  refine (e_a (A := (30, 20, [some (vR 4 0 0), some (vR 2 o1 3), some (vR 2 o2 5), some (vR 2 o3 3), some (vI x4), some (vI (0 : Int32)), l6], [vI (σ.1 2 o1 2 (x4).toNatClampNeg), vR 4 0 2], σ)) rfl h1).trans ?_
  refine (e_a (A := (30, 21, [some (vR 4 0 0), some (vR 2 o1 3), some (vR 2 o2 5), some (vR 2 o3 3), some (vI x4), some (vI (0 : Int32)), l6], [vI (σ.1 4 0 1 ((σ.1 2 o1 2 (x4).toNatClampNeg)).toNatClampNeg)], σ)) rfl h3).trans ?_
  refine (e_n 4 (fr' := (30, 28, [some (vR 4 0 0), some (vR 2 o1 3), some (vR 2 o2 5), some (vR 2 o3 3), some (vI x4), some (vI (0 : Int32)), l6], [vI x4, vR 4 0 2, vR 2 o3 3, vI (σ.1 4 0 1 ((σ.1 2 o1 2 (x4).toNatClampNeg)).toNatClampNeg)], σ)) rfl).trans ?_
  refine (e_a (A := (30, 29, [some (vR 4 0 0), some (vR 2 o1 3), some (vR 2 o2 5), some (vR 2 o3 3), some (vI x4), some (vI (0 : Int32)), l6], [vI (σ.1 4 0 1 (x4).toNatClampNeg), vR 2 o3 3, vI (σ.1 4 0 1 ((σ.1 2 o1 2 (x4).toNatClampNeg)).toNatClampNeg)], σ)) rfl h1).trans ?_
  refine (e_a (A := (30, 30, [some (vR 4 0 0), some (vR 2 o1 3), some (vR 2 o2 5), some (vR 2 o3 3), some (vI x4), some (vI (0 : Int32)), l6], [vI (σ.1 2 o3 2 ((σ.1 4 0 1 (x4).toNatClampNeg)).toNatClampNeg), vI (σ.1 4 0 1 ((σ.1 2 o1 2 (x4).toNatClampNeg)).toNatClampNeg)], σ)) rfl h4).trans ?_
  refine (e_f (B := (30, 33, [some (vR 4 0 0), some (vR 2 o1 3), some (vR 2 o2 5), some (vR 2 o3 3), some (vI x4), some (vI (0 : Int32)), l6], [], σ)) rfl h5).trans ?_
  refine (e_n 3 (fr' := (30, 39, [some (vR 4 0 0), some (vR 2 o1 3), some (vR 2 o2 5), some (vR 2 o3 3), some (vI x4), some (vI ((0 : Int32) + (1 : Int32))), l6], [vI x4, vR 2 o2 5], σ)) rfl).trans ?_
  refine (e_a (A := (30, 40, [some (vR 4 0 0), some (vR 2 o1 3), some (vR 2 o2 5), some (vR 2 o3 3), some (vI x4), some (vI ((0 : Int32) + (1 : Int32))), l6], [vI (σ.1 2 o2 4 (x4).toNatClampNeg)], σ)) rfl h1).trans ?_
  refine (e_n 3 (fr' := (30, 46, [some (vR 4 0 0), some (vR 2 o1 3), some (vR 2 o2 5), some (vR 2 o3 3), some (vI x4), some (vI ((0 : Int32) + (1 : Int32))), some (vI (σ.1 2 o2 4 (x4).toNatClampNeg))], [vI x4, vI (σ.1 2 o2 4 (x4).toNatClampNeg)], σ)) rfl).trans ?_
  refine (e_t (A := (30, 71, [some (vR 4 0 0), some (vR 2 o1 3), some (vR 2 o2 5), some (vR 2 o3 3), some (vI x4), some (vI ((0 : Int32) + (1 : Int32))), some (vI (σ.1 2 o2 4 (x4).toNatClampNeg))], [], σ)) rfl h6).trans ?_
  refine (e_n 1 (fr' := (30, 73, [some (vR 4 0 0), some (vR 2 o1 3), some (vR 2 o2 5), some (vR 2 o3 3), some (vI x4), some (vI ((0 : Int32) + (1 : Int32))), some (vI (σ.1 2 o2 4 (x4).toNatClampNeg))], [vI ((0 : Int32) + (1 : Int32))], σ)) rfl).trans ?_
  exact e_r rfl
set_option maxRecDepth 20000 in
theorem g30b_0_7 (C : pmC) {σ : pmS} {o1 : Nat} {o2 : Nat} {o3 : Nat} {x4 : Int32} {l5 : Option pmV} {l6 : Option pmV} (h1 : vp_in x4 8) (h2 : ¬ x4 < (σ.1 2 o1 2 (x4).toNatClampNeg)) (h3 : vp_in (σ.1 2 o1 2 (x4).toNatClampNeg) 8) (h4 : vp_in (σ.1 4 0 1 (x4).toNatClampNeg) 8) (h5 : ¬ (σ.1 4 0 1 ((σ.1 2 o1 2 (x4).toNatClampNeg)).toNatClampNeg) = (σ.1 2 o3 2 ((σ.1 4 0 1 (x4).toNatClampNeg)).toNatClampNeg)) (h6 : ¬ x4 ≤ (σ.1 2 o2 4 (x4).toNatClampNeg)) (h7 : vp_in (σ.1 2 o2 4 (x4).toNatClampNeg) 8) (h8 : vp_in (σ.1 4 0 1 ((σ.1 2 o2 4 (x4).toNatClampNeg)).toNatClampNeg) 8) (h9 : (σ.1 4 0 1 (x4).toNatClampNeg) = (σ.1 2 o3 2 ((σ.1 4 0 1 ((σ.1 2 o2 4 (x4).toNatClampNeg)).toNatClampNeg)).toNatClampNeg)) : pq_Rn C (30, 0, [some (vR 4 0 0), some (vR 2 o1 3), some (vR 2 o2 5), some (vR 2 o3 3), some (vI x4), l5, l6], [], σ) = some (some (vI ((0 : Int32) + (1 : Int32))), σ) := by
  refine (e_n 4 (fr' := (30, 6, [some (vR 4 0 0), some (vR 2 o1 3), some (vR 2 o2 5), some (vR 2 o3 3), some (vI x4), some (vI (0 : Int32)), l6], [vI x4, vR 2 o1 3], σ)) rfl).trans ?_
  refine (e_a (A := (30, 7, [some (vR 4 0 0), some (vR 2 o1 3), some (vR 2 o2 5), some (vR 2 o3 3), some (vI x4), some (vI (0 : Int32)), l6], [vI (σ.1 2 o1 2 (x4).toNatClampNeg)], σ)) rfl h1).trans ?_
  refine (e_n 1 (fr' := (30, 9, [some (vR 4 0 0), some (vR 2 o1 3), some (vR 2 o2 5), some (vR 2 o3 3), some (vI x4), some (vI (0 : Int32)), l6], [vI x4, vI (σ.1 2 o1 2 (x4).toNatClampNeg)], σ)) rfl).trans ?_
  refine (e_f (B := (30, 12, [some (vR 4 0 0), some (vR 2 o1 3), some (vR 2 o2 5), some (vR 2 o3 3), some (vI x4), some (vI (0 : Int32)), l6], [], σ)) rfl h2).trans ?_
  refine (e_n 4 (fr' := (30, 19, [some (vR 4 0 0), some (vR 2 o1 3), some (vR 2 o2 5), some (vR 2 o3 3), some (vI x4), some (vI (0 : Int32)), l6], [vI x4, vR 2 o1 3, vR 4 0 2], σ)) rfl).trans ?_
  refine (e_a (A := (30, 20, [some (vR 4 0 0), some (vR 2 o1 3), some (vR 2 o2 5), some (vR 2 o3 3), some (vI x4), some (vI (0 : Int32)), l6], [vI (σ.1 2 o1 2 (x4).toNatClampNeg), vR 4 0 2], σ)) rfl h1).trans ?_
  refine (e_a (A := (30, 21, [some (vR 4 0 0), some (vR 2 o1 3), some (vR 2 o2 5), some (vR 2 o3 3), some (vI x4), some (vI (0 : Int32)), l6], [vI (σ.1 4 0 1 ((σ.1 2 o1 2 (x4).toNatClampNeg)).toNatClampNeg)], σ)) rfl h3).trans ?_
  refine (e_n 4 (fr' := (30, 28, [some (vR 4 0 0), some (vR 2 o1 3), some (vR 2 o2 5), some (vR 2 o3 3), some (vI x4), some (vI (0 : Int32)), l6], [vI x4, vR 4 0 2, vR 2 o3 3, vI (σ.1 4 0 1 ((σ.1 2 o1 2 (x4).toNatClampNeg)).toNatClampNeg)], σ)) rfl).trans ?_
  refine (e_a (A := (30, 29, [some (vR 4 0 0), some (vR 2 o1 3), some (vR 2 o2 5), some (vR 2 o3 3), some (vI x4), some (vI (0 : Int32)), l6], [vI (σ.1 4 0 1 (x4).toNatClampNeg), vR 2 o3 3, vI (σ.1 4 0 1 ((σ.1 2 o1 2 (x4).toNatClampNeg)).toNatClampNeg)], σ)) rfl h1).trans ?_
  refine (e_a (A := (30, 30, [some (vR 4 0 0), some (vR 2 o1 3), some (vR 2 o2 5), some (vR 2 o3 3), some (vI x4), some (vI (0 : Int32)), l6], [vI (σ.1 2 o3 2 ((σ.1 4 0 1 (x4).toNatClampNeg)).toNatClampNeg), vI (σ.1 4 0 1 ((σ.1 2 o1 2 (x4).toNatClampNeg)).toNatClampNeg)], σ)) rfl h4).trans ?_
  refine (e_f (B := (30, 33, [some (vR 4 0 0), some (vR 2 o1 3), some (vR 2 o2 5), some (vR 2 o3 3), some (vI x4), some (vI (0 : Int32)), l6], [], σ)) rfl h5).trans ?_
  refine (e_n 3 (fr' := (30, 39, [some (vR 4 0 0), some (vR 2 o1 3), some (vR 2 o2 5), some (vR 2 o3 3), some (vI x4), some (vI ((0 : Int32) + (1 : Int32))), l6], [vI x4, vR 2 o2 5], σ)) rfl).trans ?_
  refine (e_a (A := (30, 40, [some (vR 4 0 0), some (vR 2 o1 3), some (vR 2 o2 5), some (vR 2 o3 3), some (vI x4), some (vI ((0 : Int32) + (1 : Int32))), l6], [vI (σ.1 2 o2 4 (x4).toNatClampNeg)], σ)) rfl h1).trans ?_
  refine (e_n 3 (fr' := (30, 46, [some (vR 4 0 0), some (vR 2 o1 3), some (vR 2 o2 5), some (vR 2 o3 3), some (vI x4), some (vI ((0 : Int32) + (1 : Int32))), some (vI (σ.1 2 o2 4 (x4).toNatClampNeg))], [vI x4, vI (σ.1 2 o2 4 (x4).toNatClampNeg)], σ)) rfl).trans ?_
  refine (e_f (B := (30, 49, [some (vR 4 0 0), some (vR 2 o1 3), some (vR 2 o2 5), some (vR 2 o3 3), some (vI x4), some (vI ((0 : Int32) + (1 : Int32))), some (vI (σ.1 2 o2 4 (x4).toNatClampNeg))], [], σ)) rfl h6).trans ?_
  refine (e_n 3 (fr' := (30, 55, [some (vR 4 0 0), some (vR 2 o1 3), some (vR 2 o2 5), some (vR 2 o3 3), some (vI x4), some (vI ((0 : Int32) + (1 : Int32))), some (vI (σ.1 2 o2 4 (x4).toNatClampNeg))], [vI x4, vR 4 0 2], σ)) rfl).trans ?_
  refine (e_a (A := (30, 56, [some (vR 4 0 0), some (vR 2 o1 3), some (vR 2 o2 5), some (vR 2 o3 3), some (vI x4), some (vI ((0 : Int32) + (1 : Int32))), some (vI (σ.1 2 o2 4 (x4).toNatClampNeg))], [vI (σ.1 4 0 1 (x4).toNatClampNeg)], σ)) rfl h1).trans ?_
  refine (e_n 4 (fr' := (30, 63, [some (vR 4 0 0), some (vR 2 o1 3), some (vR 2 o2 5), some (vR 2 o3 3), some (vI x4), some (vI ((0 : Int32) + (1 : Int32))), some (vI (σ.1 2 o2 4 (x4).toNatClampNeg))], [vI (σ.1 2 o2 4 (x4).toNatClampNeg), vR 4 0 2, vR 2 o3 3, vI (σ.1 4 0 1 (x4).toNatClampNeg)], σ)) rfl).trans ?_
  refine (e_a (A := (30, 64, [some (vR 4 0 0), some (vR 2 o1 3), some (vR 2 o2 5), some (vR 2 o3 3), some (vI x4), some (vI ((0 : Int32) + (1 : Int32))), some (vI (σ.1 2 o2 4 (x4).toNatClampNeg))], [vI (σ.1 4 0 1 ((σ.1 2 o2 4 (x4).toNatClampNeg)).toNatClampNeg), vR 2 o3 3, vI (σ.1 4 0 1 (x4).toNatClampNeg)], σ)) rfl h7).trans ?_
  refine (e_a (A := (30, 65, [some (vR 4 0 0), some (vR 2 o1 3), some (vR 2 o2 5), some (vR 2 o3 3), some (vI x4), some (vI ((0 : Int32) + (1 : Int32))), some (vI (σ.1 2 o2 4 (x4).toNatClampNeg))], [vI (σ.1 2 o3 2 ((σ.1 4 0 1 ((σ.1 2 o2 4 (x4).toNatClampNeg)).toNatClampNeg)).toNatClampNeg), vI (σ.1 4 0 1 (x4).toNatClampNeg)], σ)) rfl h8).trans ?_
  refine (e_t (A := (30, 71, [some (vR 4 0 0), some (vR 2 o1 3), some (vR 2 o2 5), some (vR 2 o3 3), some (vI x4), some (vI ((0 : Int32) + (1 : Int32))), some (vI (σ.1 2 o2 4 (x4).toNatClampNeg))], [], σ)) rfl h9).trans ?_
  refine (e_n 1 (fr' := (30, 73, [some (vR 4 0 0), some (vR 2 o1 3), some (vR 2 o2 5), some (vR 2 o3 3), some (vI x4), some (vI ((0 : Int32) + (1 : Int32))), some (vI (σ.1 2 o2 4 (x4).toNatClampNeg))], [vI ((0 : Int32) + (1 : Int32))], σ)) rfl).trans ?_
  exact e_r rfl
set_option maxRecDepth 20000 in
theorem g30b_0_8 (C : pmC) {σ : pmS} {o1 : Nat} {o2 : Nat} {o3 : Nat} {x4 : Int32} {l5 : Option pmV} {l6 : Option pmV} (h1 : vp_in x4 8) (h2 : ¬ x4 < (σ.1 2 o1 2 (x4).toNatClampNeg)) (h3 : vp_in (σ.1 2 o1 2 (x4).toNatClampNeg) 8) (h4 : vp_in (σ.1 4 0 1 (x4).toNatClampNeg) 8) (h5 : ¬ (σ.1 4 0 1 ((σ.1 2 o1 2 (x4).toNatClampNeg)).toNatClampNeg) = (σ.1 2 o3 2 ((σ.1 4 0 1 (x4).toNatClampNeg)).toNatClampNeg)) (h6 : ¬ x4 ≤ (σ.1 2 o2 4 (x4).toNatClampNeg)) (h7 : vp_in (σ.1 2 o2 4 (x4).toNatClampNeg) 8) (h8 : vp_in (σ.1 4 0 1 ((σ.1 2 o2 4 (x4).toNatClampNeg)).toNatClampNeg) 8) (h9 : ¬ (σ.1 4 0 1 (x4).toNatClampNeg) = (σ.1 2 o3 2 ((σ.1 4 0 1 ((σ.1 2 o2 4 (x4).toNatClampNeg)).toNatClampNeg)).toNatClampNeg)) : pq_Rn C (30, 0, [some (vR 4 0 0), some (vR 2 o1 3), some (vR 2 o2 5), some (vR 2 o3 3), some (vI x4), l5, l6], [], σ) = some (some (vI (((0 : Int32) + (1 : Int32)) + (1 : Int32))), σ) := by
  refine (e_n 4 (fr' := (30, 6, [some (vR 4 0 0), some (vR 2 o1 3), some (vR 2 o2 5), some (vR 2 o3 3), some (vI x4), some (vI (0 : Int32)), l6], [vI x4, vR 2 o1 3], σ)) rfl).trans ?_
  refine (e_a (A := (30, 7, [some (vR 4 0 0), some (vR 2 o1 3), some (vR 2 o2 5), some (vR 2 o3 3), some (vI x4), some (vI (0 : Int32)), l6], [vI (σ.1 2 o1 2 (x4).toNatClampNeg)], σ)) rfl h1).trans ?_
  refine (e_n 1 (fr' := (30, 9, [some (vR 4 0 0), some (vR 2 o1 3), some (vR 2 o2 5), some (vR 2 o3 3), some (vI x4), some (vI (0 : Int32)), l6], [vI x4, vI (σ.1 2 o1 2 (x4).toNatClampNeg)], σ)) rfl).trans ?_
  refine (e_f (B := (30, 12, [some (vR 4 0 0), some (vR 2 o1 3), some (vR 2 o2 5), some (vR 2 o3 3), some (vI x4), some (vI (0 : Int32)), l6], [], σ)) rfl h2).trans ?_
  refine (e_n 4 (fr' := (30, 19, [some (vR 4 0 0), some (vR 2 o1 3), some (vR 2 o2 5), some (vR 2 o3 3), some (vI x4), some (vI (0 : Int32)), l6], [vI x4, vR 2 o1 3, vR 4 0 2], σ)) rfl).trans ?_
  refine (e_a (A := (30, 20, [some (vR 4 0 0), some (vR 2 o1 3), some (vR 2 o2 5), some (vR 2 o3 3), some (vI x4), some (vI (0 : Int32)), l6], [vI (σ.1 2 o1 2 (x4).toNatClampNeg), vR 4 0 2], σ)) rfl h1).trans ?_
  refine (e_a (A := (30, 21, [some (vR 4 0 0), some (vR 2 o1 3), some (vR 2 o2 5), some (vR 2 o3 3), some (vI x4), some (vI (0 : Int32)), l6], [vI (σ.1 4 0 1 ((σ.1 2 o1 2 (x4).toNatClampNeg)).toNatClampNeg)], σ)) rfl h3).trans ?_
  refine (e_n 4 (fr' := (30, 28, [some (vR 4 0 0), some (vR 2 o1 3), some (vR 2 o2 5), some (vR 2 o3 3), some (vI x4), some (vI (0 : Int32)), l6], [vI x4, vR 4 0 2, vR 2 o3 3, vI (σ.1 4 0 1 ((σ.1 2 o1 2 (x4).toNatClampNeg)).toNatClampNeg)], σ)) rfl).trans ?_
  refine (e_a (A := (30, 29, [some (vR 4 0 0), some (vR 2 o1 3), some (vR 2 o2 5), some (vR 2 o3 3), some (vI x4), some (vI (0 : Int32)), l6], [vI (σ.1 4 0 1 (x4).toNatClampNeg), vR 2 o3 3, vI (σ.1 4 0 1 ((σ.1 2 o1 2 (x4).toNatClampNeg)).toNatClampNeg)], σ)) rfl h1).trans ?_
  refine (e_a (A := (30, 30, [some (vR 4 0 0), some (vR 2 o1 3), some (vR 2 o2 5), some (vR 2 o3 3), some (vI x4), some (vI (0 : Int32)), l6], [vI (σ.1 2 o3 2 ((σ.1 4 0 1 (x4).toNatClampNeg)).toNatClampNeg), vI (σ.1 4 0 1 ((σ.1 2 o1 2 (x4).toNatClampNeg)).toNatClampNeg)], σ)) rfl h4).trans ?_
  refine (e_f (B := (30, 33, [some (vR 4 0 0), some (vR 2 o1 3), some (vR 2 o2 5), some (vR 2 o3 3), some (vI x4), some (vI (0 : Int32)), l6], [], σ)) rfl h5).trans ?_
  refine (e_n 3 (fr' := (30, 39, [some (vR 4 0 0), some (vR 2 o1 3), some (vR 2 o2 5), some (vR 2 o3 3), some (vI x4), some (vI ((0 : Int32) + (1 : Int32))), l6], [vI x4, vR 2 o2 5], σ)) rfl).trans ?_
  refine (e_a (A := (30, 40, [some (vR 4 0 0), some (vR 2 o1 3), some (vR 2 o2 5), some (vR 2 o3 3), some (vI x4), some (vI ((0 : Int32) + (1 : Int32))), l6], [vI (σ.1 2 o2 4 (x4).toNatClampNeg)], σ)) rfl h1).trans ?_
  refine (e_n 3 (fr' := (30, 46, [some (vR 4 0 0), some (vR 2 o1 3), some (vR 2 o2 5), some (vR 2 o3 3), some (vI x4), some (vI ((0 : Int32) + (1 : Int32))), some (vI (σ.1 2 o2 4 (x4).toNatClampNeg))], [vI x4, vI (σ.1 2 o2 4 (x4).toNatClampNeg)], σ)) rfl).trans ?_
  refine (e_f (B := (30, 49, [some (vR 4 0 0), some (vR 2 o1 3), some (vR 2 o2 5), some (vR 2 o3 3), some (vI x4), some (vI ((0 : Int32) + (1 : Int32))), some (vI (σ.1 2 o2 4 (x4).toNatClampNeg))], [], σ)) rfl h6).trans ?_
  refine (e_n 3 (fr' := (30, 55, [some (vR 4 0 0), some (vR 2 o1 3), some (vR 2 o2 5), some (vR 2 o3 3), some (vI x4), some (vI ((0 : Int32) + (1 : Int32))), some (vI (σ.1 2 o2 4 (x4).toNatClampNeg))], [vI x4, vR 4 0 2], σ)) rfl).trans ?_
  refine (e_a (A := (30, 56, [some (vR 4 0 0), some (vR 2 o1 3), some (vR 2 o2 5), some (vR 2 o3 3), some (vI x4), some (vI ((0 : Int32) + (1 : Int32))), some (vI (σ.1 2 o2 4 (x4).toNatClampNeg))], [vI (σ.1 4 0 1 (x4).toNatClampNeg)], σ)) rfl h1).trans ?_
  refine (e_n 4 (fr' := (30, 63, [some (vR 4 0 0), some (vR 2 o1 3), some (vR 2 o2 5), some (vR 2 o3 3), some (vI x4), some (vI ((0 : Int32) + (1 : Int32))), some (vI (σ.1 2 o2 4 (x4).toNatClampNeg))], [vI (σ.1 2 o2 4 (x4).toNatClampNeg), vR 4 0 2, vR 2 o3 3, vI (σ.1 4 0 1 (x4).toNatClampNeg)], σ)) rfl).trans ?_
  refine (e_a (A := (30, 64, [some (vR 4 0 0), some (vR 2 o1 3), some (vR 2 o2 5), some (vR 2 o3 3), some (vI x4), some (vI ((0 : Int32) + (1 : Int32))), some (vI (σ.1 2 o2 4 (x4).toNatClampNeg))], [vI (σ.1 4 0 1 ((σ.1 2 o2 4 (x4).toNatClampNeg)).toNatClampNeg), vR 2 o3 3, vI (σ.1 4 0 1 (x4).toNatClampNeg)], σ)) rfl h7).trans ?_
  refine (e_a (A := (30, 65, [some (vR 4 0 0), some (vR 2 o1 3), some (vR 2 o2 5), some (vR 2 o3 3), some (vI x4), some (vI ((0 : Int32) + (1 : Int32))), some (vI (σ.1 2 o2 4 (x4).toNatClampNeg))], [vI (σ.1 2 o3 2 ((σ.1 4 0 1 ((σ.1 2 o2 4 (x4).toNatClampNeg)).toNatClampNeg)).toNatClampNeg), vI (σ.1 4 0 1 (x4).toNatClampNeg)], σ)) rfl h8).trans ?_
  refine (e_f (B := (30, 68, [some (vR 4 0 0), some (vR 2 o1 3), some (vR 2 o2 5), some (vR 2 o3 3), some (vI x4), some (vI ((0 : Int32) + (1 : Int32))), some (vI (σ.1 2 o2 4 (x4).toNatClampNeg))], [], σ)) rfl h9).trans ?_
  refine (e_n 2 (fr' := (30, 73, [some (vR 4 0 0), some (vR 2 o1 3), some (vR 2 o2 5), some (vR 2 o3 3), some (vI x4), some (vI (((0 : Int32) + (1 : Int32)) + (1 : Int32))), some (vI (σ.1 2 o2 4 (x4).toNatClampNeg))], [vI (((0 : Int32) + (1 : Int32)) + (1 : Int32))], σ)) rfl).trans ?_
  exact e_r rfl
set_option maxRecDepth 20000 in
theorem g31_0_0 (C : pmC) {σ : pmS} {x1 : Int32} {x2 : Int32} {x3 : Int32} {l4 : Option pmV} (h1 : vp_in (σ.1 5 0 9 0) 48) : pq_Rn C (31, 0, [some (vR 5 0 0), some (vI x1), some (vI x2), some (vI x3), l4], [], σ) = some (some (vI (σ.1 5 0 9 0)), (pm_wi (pm_wi (pm_wi (pm_wi (pm_wi (pm_wi (pm_wi (pm_wi (pm_wi (pm_wi σ 5 0 0 ((σ.1 5 0 9 0)).toNatClampNeg x1) 5 0 1 ((σ.1 5 0 9 0)).toNatClampNeg x2) 5 0 2 ((σ.1 5 0 9 0)).toNatClampNeg (-1 : Int32)) 5 0 3 ((σ.1 5 0 9 0)).toNatClampNeg x3) 5 0 4 ((σ.1 5 0 9 0)).toNatClampNeg (-1 : Int32)) 5 0 5 ((σ.1 5 0 9 0)).toNatClampNeg (-1 : Int32)) 5 0 6 ((σ.1 5 0 9 0)).toNatClampNeg (-1 : Int32)) 5 0 7 ((σ.1 5 0 9 0)).toNatClampNeg (-1 : Int32)) 5 0 8 ((σ.1 5 0 9 0)).toNatClampNeg (-1 : Int32)) 5 0 9 0 ((σ.1 5 0 9 0) + (1 : Int32)))) := by
  refine (e_n 7 (fr' := (31, 13, [some (vR 5 0 0), some (vI x1), some (vI x2), some (vI x3), some (vI (σ.1 5 0 9 0))], [vI x1, vI (σ.1 5 0 9 0), vR 5 0 1], σ)) rfl).trans ?_
  refine (e_a (A := (31, 14, [some (vR 5 0 0), some (vI x1), some (vI x2), some (vI x3), some (vI (σ.1 5 0 9 0))], [], (pm_wi σ 5 0 0 ((σ.1 5 0 9 0)).toNatClampNeg x1))) rfl h1).trans ?_
  refine (e_n 4 (fr' := (31, 21, [some (vR 5 0 0), some (vI x1), some (vI x2), some (vI x3), some (vI (σ.1 5 0 9 0))], [vI x2, vI (σ.1 5 0 9 0), vR 5 0 2], (pm_wi σ 5 0 0 ((σ.1 5 0 9 0)).toNatClampNeg x1))) rfl).trans ?_
  refine (e_a (A := (31, 22, [some (vR 5 0 0), some (vI x1), some (vI x2), some (vI x3), some (vI (σ.1 5 0 9 0))], [], (pm_wi (pm_wi σ 5 0 0 ((σ.1 5 0 9 0)).toNatClampNeg x1) 5 0 1 ((σ.1 5 0 9 0)).toNatClampNeg x2))) rfl h1).trans ?_
  refine (e_n 4 (fr' := (31, 29, [some (vR 5 0 0), some (vI x1), some (vI x2), some (vI x3), some (vI (σ.1 5 0 9 0))], [vI (-1 : Int32), vI (σ.1 5 0 9 0), vR 5 0 3], (pm_wi (pm_wi σ 5 0 0 ((σ.1 5 0 9 0)).toNatClampNeg x1) 5 0 1 ((σ.1 5 0 9 0)).toNatClampNeg x2))) rfl).trans ?_
  refine (e_a (A := (31, 30, [some (vR 5 0 0), some (vI x1), some (vI x2), some (vI x3), some (vI (σ.1 5 0 9 0))], [], (pm_wi (pm_wi (pm_wi σ 5 0 0 ((σ.1 5 0 9 0)).toNatClampNeg x1) 5 0 1 ((σ.1 5 0 9 0)).toNatClampNeg x2) 5 0 2 ((σ.1 5 0 9 0)).toNatClampNeg (-1 : Int32)))) rfl h1).trans ?_
  refine (e_n 4 (fr' := (31, 37, [some (vR 5 0 0), some (vI x1), some (vI x2), some (vI x3), some (vI (σ.1 5 0 9 0))], [vI x3, vI (σ.1 5 0 9 0), vR 5 0 4], (pm_wi (pm_wi (pm_wi σ 5 0 0 ((σ.1 5 0 9 0)).toNatClampNeg x1) 5 0 1 ((σ.1 5 0 9 0)).toNatClampNeg x2) 5 0 2 ((σ.1 5 0 9 0)).toNatClampNeg (-1 : Int32)))) rfl).trans ?_
  refine (e_a (A := (31, 38, [some (vR 5 0 0), some (vI x1), some (vI x2), some (vI x3), some (vI (σ.1 5 0 9 0))], [], (pm_wi (pm_wi (pm_wi (pm_wi σ 5 0 0 ((σ.1 5 0 9 0)).toNatClampNeg x1) 5 0 1 ((σ.1 5 0 9 0)).toNatClampNeg x2) 5 0 2 ((σ.1 5 0 9 0)).toNatClampNeg (-1 : Int32)) 5 0 3 ((σ.1 5 0 9 0)).toNatClampNeg x3))) rfl h1).trans ?_
  refine (e_n 4 (fr' := (31, 45, [some (vR 5 0 0), some (vI x1), some (vI x2), some (vI x3), some (vI (σ.1 5 0 9 0))], [vI (-1 : Int32), vI (σ.1 5 0 9 0), vR 5 0 5], (pm_wi (pm_wi (pm_wi (pm_wi σ 5 0 0 ((σ.1 5 0 9 0)).toNatClampNeg x1) 5 0 1 ((σ.1 5 0 9 0)).toNatClampNeg x2) 5 0 2 ((σ.1 5 0 9 0)).toNatClampNeg (-1 : Int32)) 5 0 3 ((σ.1 5 0 9 0)).toNatClampNeg x3))) rfl).trans ?_
  refine (e_a (A := (31, 46, [some (vR 5 0 0), some (vI x1), some (vI x2), some (vI x3), some (vI (σ.1 5 0 9 0))], [], (pm_wi (pm_wi (pm_wi (pm_wi (pm_wi σ 5 0 0 ((σ.1 5 0 9 0)).toNatClampNeg x1) 5 0 1 ((σ.1 5 0 9 0)).toNatClampNeg x2) 5 0 2 ((σ.1 5 0 9 0)).toNatClampNeg (-1 : Int32)) 5 0 3 ((σ.1 5 0 9 0)).toNatClampNeg x3) 5 0 4 ((σ.1 5 0 9 0)).toNatClampNeg (-1 : Int32)))) rfl h1).trans ?_
  refine (e_n 4 (fr' := (31, 53, [some (vR 5 0 0), some (vI x1), some (vI x2), some (vI x3), some (vI (σ.1 5 0 9 0))], [vI (-1 : Int32), vI (σ.1 5 0 9 0), vR 5 0 6], (pm_wi (pm_wi (pm_wi (pm_wi (pm_wi σ 5 0 0 ((σ.1 5 0 9 0)).toNatClampNeg x1) 5 0 1 ((σ.1 5 0 9 0)).toNatClampNeg x2) 5 0 2 ((σ.1 5 0 9 0)).toNatClampNeg (-1 : Int32)) 5 0 3 ((σ.1 5 0 9 0)).toNatClampNeg x3) 5 0 4 ((σ.1 5 0 9 0)).toNatClampNeg (-1 : Int32)))) rfl).trans ?_
  refine (e_a (A := (31, 54, [some (vR 5 0 0), some (vI x1), some (vI x2), some (vI x3), some (vI (σ.1 5 0 9 0))], [], (pm_wi (pm_wi (pm_wi (pm_wi (pm_wi (pm_wi σ 5 0 0 ((σ.1 5 0 9 0)).toNatClampNeg x1) 5 0 1 ((σ.1 5 0 9 0)).toNatClampNeg x2) 5 0 2 ((σ.1 5 0 9 0)).toNatClampNeg (-1 : Int32)) 5 0 3 ((σ.1 5 0 9 0)).toNatClampNeg x3) 5 0 4 ((σ.1 5 0 9 0)).toNatClampNeg (-1 : Int32)) 5 0 5 ((σ.1 5 0 9 0)).toNatClampNeg (-1 : Int32)))) rfl h1).trans ?_
  refine (e_n 4 (fr' := (31, 61, [some (vR 5 0 0), some (vI x1), some (vI x2), some (vI x3), some (vI (σ.1 5 0 9 0))], [vI (-1 : Int32), vI (σ.1 5 0 9 0), vR 5 0 7], (pm_wi (pm_wi (pm_wi (pm_wi (pm_wi (pm_wi σ 5 0 0 ((σ.1 5 0 9 0)).toNatClampNeg x1) 5 0 1 ((σ.1 5 0 9 0)).toNatClampNeg x2) 5 0 2 ((σ.1 5 0 9 0)).toNatClampNeg (-1 : Int32)) 5 0 3 ((σ.1 5 0 9 0)).toNatClampNeg x3) 5 0 4 ((σ.1 5 0 9 0)).toNatClampNeg (-1 : Int32)) 5 0 5 ((σ.1 5 0 9 0)).toNatClampNeg (-1 : Int32)))) rfl).trans ?_
  refine (e_a (A := (31, 62, [some (vR 5 0 0), some (vI x1), some (vI x2), some (vI x3), some (vI (σ.1 5 0 9 0))], [], (pm_wi (pm_wi (pm_wi (pm_wi (pm_wi (pm_wi (pm_wi σ 5 0 0 ((σ.1 5 0 9 0)).toNatClampNeg x1) 5 0 1 ((σ.1 5 0 9 0)).toNatClampNeg x2) 5 0 2 ((σ.1 5 0 9 0)).toNatClampNeg (-1 : Int32)) 5 0 3 ((σ.1 5 0 9 0)).toNatClampNeg x3) 5 0 4 ((σ.1 5 0 9 0)).toNatClampNeg (-1 : Int32)) 5 0 5 ((σ.1 5 0 9 0)).toNatClampNeg (-1 : Int32)) 5 0 6 ((σ.1 5 0 9 0)).toNatClampNeg (-1 : Int32)))) rfl h1).trans ?_
  refine (e_n 4 (fr' := (31, 69, [some (vR 5 0 0), some (vI x1), some (vI x2), some (vI x3), some (vI (σ.1 5 0 9 0))], [vI (-1 : Int32), vI (σ.1 5 0 9 0), vR 5 0 8], (pm_wi (pm_wi (pm_wi (pm_wi (pm_wi (pm_wi (pm_wi σ 5 0 0 ((σ.1 5 0 9 0)).toNatClampNeg x1) 5 0 1 ((σ.1 5 0 9 0)).toNatClampNeg x2) 5 0 2 ((σ.1 5 0 9 0)).toNatClampNeg (-1 : Int32)) 5 0 3 ((σ.1 5 0 9 0)).toNatClampNeg x3) 5 0 4 ((σ.1 5 0 9 0)).toNatClampNeg (-1 : Int32)) 5 0 5 ((σ.1 5 0 9 0)).toNatClampNeg (-1 : Int32)) 5 0 6 ((σ.1 5 0 9 0)).toNatClampNeg (-1 : Int32)))) rfl).trans ?_
  refine (e_a (A := (31, 70, [some (vR 5 0 0), some (vI x1), some (vI x2), some (vI x3), some (vI (σ.1 5 0 9 0))], [], (pm_wi (pm_wi (pm_wi (pm_wi (pm_wi (pm_wi (pm_wi (pm_wi σ 5 0 0 ((σ.1 5 0 9 0)).toNatClampNeg x1) 5 0 1 ((σ.1 5 0 9 0)).toNatClampNeg x2) 5 0 2 ((σ.1 5 0 9 0)).toNatClampNeg (-1 : Int32)) 5 0 3 ((σ.1 5 0 9 0)).toNatClampNeg x3) 5 0 4 ((σ.1 5 0 9 0)).toNatClampNeg (-1 : Int32)) 5 0 5 ((σ.1 5 0 9 0)).toNatClampNeg (-1 : Int32)) 5 0 6 ((σ.1 5 0 9 0)).toNatClampNeg (-1 : Int32)) 5 0 7 ((σ.1 5 0 9 0)).toNatClampNeg (-1 : Int32)))) rfl h1).trans ?_
  refine (e_n 4 (fr' := (31, 77, [some (vR 5 0 0), some (vI x1), some (vI x2), some (vI x3), some (vI (σ.1 5 0 9 0))], [vI (-1 : Int32), vI (σ.1 5 0 9 0), vR 5 0 9], (pm_wi (pm_wi (pm_wi (pm_wi (pm_wi (pm_wi (pm_wi (pm_wi σ 5 0 0 ((σ.1 5 0 9 0)).toNatClampNeg x1) 5 0 1 ((σ.1 5 0 9 0)).toNatClampNeg x2) 5 0 2 ((σ.1 5 0 9 0)).toNatClampNeg (-1 : Int32)) 5 0 3 ((σ.1 5 0 9 0)).toNatClampNeg x3) 5 0 4 ((σ.1 5 0 9 0)).toNatClampNeg (-1 : Int32)) 5 0 5 ((σ.1 5 0 9 0)).toNatClampNeg (-1 : Int32)) 5 0 6 ((σ.1 5 0 9 0)).toNatClampNeg (-1 : Int32)) 5 0 7 ((σ.1 5 0 9 0)).toNatClampNeg (-1 : Int32)))) rfl).trans ?_
  refine (e_a (A := (31, 78, [some (vR 5 0 0), some (vI x1), some (vI x2), some (vI x3), some (vI (σ.1 5 0 9 0))], [], (pm_wi (pm_wi (pm_wi (pm_wi (pm_wi (pm_wi (pm_wi (pm_wi (pm_wi σ 5 0 0 ((σ.1 5 0 9 0)).toNatClampNeg x1) 5 0 1 ((σ.1 5 0 9 0)).toNatClampNeg x2) 5 0 2 ((σ.1 5 0 9 0)).toNatClampNeg (-1 : Int32)) 5 0 3 ((σ.1 5 0 9 0)).toNatClampNeg x3) 5 0 4 ((σ.1 5 0 9 0)).toNatClampNeg (-1 : Int32)) 5 0 5 ((σ.1 5 0 9 0)).toNatClampNeg (-1 : Int32)) 5 0 6 ((σ.1 5 0 9 0)).toNatClampNeg (-1 : Int32)) 5 0 7 ((σ.1 5 0 9 0)).toNatClampNeg (-1 : Int32)) 5 0 8 ((σ.1 5 0 9 0)).toNatClampNeg (-1 : Int32)))) rfl h1).trans ?_
  refine (e_n 7 (fr' := (31, 90, [some (vR 5 0 0), some (vI x1), some (vI x2), some (vI x3), some (vI (σ.1 5 0 9 0))], [vI (σ.1 5 0 9 0)], (pm_wi (pm_wi (pm_wi (pm_wi (pm_wi (pm_wi (pm_wi (pm_wi (pm_wi (pm_wi σ 5 0 0 ((σ.1 5 0 9 0)).toNatClampNeg x1) 5 0 1 ((σ.1 5 0 9 0)).toNatClampNeg x2) 5 0 2 ((σ.1 5 0 9 0)).toNatClampNeg (-1 : Int32)) 5 0 3 ((σ.1 5 0 9 0)).toNatClampNeg x3) 5 0 4 ((σ.1 5 0 9 0)).toNatClampNeg (-1 : Int32)) 5 0 5 ((σ.1 5 0 9 0)).toNatClampNeg (-1 : Int32)) 5 0 6 ((σ.1 5 0 9 0)).toNatClampNeg (-1 : Int32)) 5 0 7 ((σ.1 5 0 9 0)).toNatClampNeg (-1 : Int32)) 5 0 8 ((σ.1 5 0 9 0)).toNatClampNeg (-1 : Int32)) 5 0 9 0 ((σ.1 5 0 9 0) + (1 : Int32))))) rfl).trans ?_
  exact e_r rfl
set_option maxRecDepth 20000 in
theorem g32_0_0 (C : pmC) {σ : pmS} {x1 : Int32} (h1 : x1 < 0) : pq_Rn C (32, 0, [some (vR 5 0 0), some (vI x1)], [], σ) = some (some (vI (0 : Int32)), σ) := by
  refine (e_n 1 (fr' := (32, 1, [some (vR 5 0 0), some (vI x1)], [vI x1], σ)) rfl).trans ?_
  refine (e_t (A := (32, 16, [some (vR 5 0 0), some (vI x1)], [], σ)) rfl h1).trans ?_
  refine (e_n 1 (fr' := (32, 17, [some (vR 5 0 0), some (vI x1)], [vI (0 : Int32)], σ)) rfl).trans ?_
  exact e_r rfl
set_option maxRecDepth 20000 in
theorem g32_0_1 (C : pmC) {σ : pmS} {x1 : Int32} (h1 : ¬ x1 < 0) (h2 : (σ.1 5 0 9 0) ≤ x1) : pq_Rn C (32, 0, [some (vR 5 0 0), some (vI x1)], [], σ) = some (some (vI (0 : Int32)), σ) := by
  refine (e_n 1 (fr' := (32, 1, [some (vR 5 0 0), some (vI x1)], [vI x1], σ)) rfl).trans ?_
  refine (e_f (B := (32, 4, [some (vR 5 0 0), some (vI x1)], [], σ)) rfl h1).trans ?_
  refine (e_n 3 (fr' := (32, 9, [some (vR 5 0 0), some (vI x1)], [vI (σ.1 5 0 9 0), vI x1], σ)) rfl).trans ?_
  refine (e_t (A := (32, 16, [some (vR 5 0 0), some (vI x1)], [], σ)) rfl h2).trans ?_
  refine (e_n 1 (fr' := (32, 17, [some (vR 5 0 0), some (vI x1)], [vI (0 : Int32)], σ)) rfl).trans ?_
  exact e_r rfl
set_option maxRecDepth 20000 in
theorem g32_0_2 (C : pmC) {σ : pmS} {x1 : Int32} (h1 : ¬ x1 < 0) (h2 : ¬ (σ.1 5 0 9 0) ≤ x1) : pq_Rn C (32, 0, [some (vR 5 0 0), some (vI x1)], [], σ) = some (some (vI (1 : Int32)), σ) := by
  refine (e_n 1 (fr' := (32, 1, [some (vR 5 0 0), some (vI x1)], [vI x1], σ)) rfl).trans ?_
  refine (e_f (B := (32, 4, [some (vR 5 0 0), some (vI x1)], [], σ)) rfl h1).trans ?_
  refine (e_n 3 (fr' := (32, 9, [some (vR 5 0 0), some (vI x1)], [vI (σ.1 5 0 9 0), vI x1], σ)) rfl).trans ?_
  refine (e_f (B := (32, 12, [some (vR 5 0 0), some (vI x1)], [], σ)) rfl h2).trans ?_
  refine (e_n 2 (fr' := (32, 17, [some (vR 5 0 0), some (vI x1)], [vI (1 : Int32)], σ)) rfl).trans ?_
  exact e_r rfl
set_option maxRecDepth 20000 in
theorem g33_0_0 (C : pmC) {σ : pmS} {x1 : Int32} (h1 : vp_in x1 48) (h2 : (σ.1 5 0 4 (x1).toNatClampNeg) = (-1 : Int32)) : pq_Rn C (33, 0, [some (vR 5 0 0), some (vI x1)], [], σ) = some (some (vI (1 : Int32)), σ) := by
  refine (e_n 3 (fr' := (33, 5, [some (vR 5 0 0), some (vI x1)], [vI x1, vR 5 0 5], σ)) rfl).trans ?_
  refine (e_a (A := (33, 6, [some (vR 5 0 0), some (vI x1)], [vI (σ.1 5 0 4 (x1).toNatClampNeg)], σ)) rfl h1).trans ?_
  refine (e_n 1 (fr' := (33, 7, [some (vR 5 0 0), some (vI x1)], [vI (-1 : Int32), vI (σ.1 5 0 4 (x1).toNatClampNeg)], σ)) rfl).trans ?_
  refine (e_t (A := (33, 10, [some (vR 5 0 0), some (vI x1)], [], σ)) rfl h2).trans ?_
  refine (e_n 2 (fr' := (33, 15, [some (vR 5 0 0), some (vI x1)], [vI (1 : Int32)], σ)) rfl).trans ?_
  exact e_r rfl
set_option maxRecDepth 20000 in
theorem g33_0_1 (C : pmC) {σ : pmS} {x1 : Int32} (h1 : vp_in x1 48) (h2 : ¬ (σ.1 5 0 4 (x1).toNatClampNeg) = (-1 : Int32)) : pq_Rn C (33, 0, [some (vR 5 0 0), some (vI x1)], [], σ) = some (some (vI (0 : Int32)), σ) := by
  refine (e_n 3 (fr' := (33, 5, [some (vR 5 0 0), some (vI x1)], [vI x1, vR 5 0 5], σ)) rfl).trans ?_
  refine (e_a (A := (33, 6, [some (vR 5 0 0), some (vI x1)], [vI (σ.1 5 0 4 (x1).toNatClampNeg)], σ)) rfl h1).trans ?_
  refine (e_n 1 (fr' := (33, 7, [some (vR 5 0 0), some (vI x1)], [vI (-1 : Int32), vI (σ.1 5 0 4 (x1).toNatClampNeg)], σ)) rfl).trans ?_
  refine (e_f (B := (33, 14, [some (vR 5 0 0), some (vI x1)], [], σ)) rfl h2).trans ?_
  refine (e_n 1 (fr' := (33, 15, [some (vR 5 0 0), some (vI x1)], [vI (0 : Int32)], σ)) rfl).trans ?_
  exact e_r rfl
set_option maxRecDepth 20000 in
theorem g34_0_0 (C : pmC) {σ : pmS} {x1 : Int32} {x2 : Int32} (h1 : vp_in x1 48) (h2 : x2 < (σ.1 5 0 1 (x1).toNatClampNeg)) : pq_Rn C (34, 0, [some (vR 5 0 0), some (vI x1), some (vI x2)], [], σ) = some (some (vI (0 : Int32)), σ) := by
  refine (e_n 4 (fr' := (34, 6, [some (vR 5 0 0), some (vI x1), some (vI x2)], [vI x1, vR 5 0 2, vI x2], σ)) rfl).trans ?_
  refine (e_a (A := (34, 7, [some (vR 5 0 0), some (vI x1), some (vI x2)], [vI (σ.1 5 0 1 (x1).toNatClampNeg), vI x2], σ)) rfl h1).trans ?_
  refine (e_t (A := (34, 34, [some (vR 5 0 0), some (vI x1), some (vI x2)], [], σ)) rfl h2).trans ?_
  refine (e_n 1 (fr' := (34, 35, [some (vR 5 0 0), some (vI x1), some (vI x2)], [vI (0 : Int32)], σ)) rfl).trans ?_
  exact e_r rfl
set_option maxRecDepth 20000 in
theorem g34_0_1 (C : pmC) {σ : pmS} {x1 : Int32} {x2 : Int32} (h1 : vp_in x1 48) (h2 : ¬ x2 < (σ.1 5 0 1 (x1).toNatClampNeg)) (h3 : (σ.1 5 0 2 (x1).toNatClampNeg) = (-1 : Int32)) : pq_Rn C (34, 0, [some (vR 5 0 0), some (vI x1), some (vI x2)], [], σ) = some (some (vI (1 : Int32)), σ) := by
  refine (e_n 4 (fr' := (34, 6, [some (vR 5 0 0), some (vI x1), some (vI x2)], [vI x1, vR 5 0 2, vI x2], σ)) rfl).trans ?_
  refine (e_a (A := (34, 7, [some (vR 5 0 0), some (vI x1), some (vI x2)], [vI (σ.1 5 0 1 (x1).toNatClampNeg), vI x2], σ)) rfl h1).trans ?_
  refine (e_f (B := (34, 10, [some (vR 5 0 0), some (vI x1), some (vI x2)], [], σ)) rfl h2).trans ?_
  refine (e_n 3 (fr' := (34, 15, [some (vR 5 0 0), some (vI x1), some (vI x2)], [vI x1, vR 5 0 3], σ)) rfl).trans ?_
  refine (e_a (A := (34, 16, [some (vR 5 0 0), some (vI x1), some (vI x2)], [vI (σ.1 5 0 2 (x1).toNatClampNeg)], σ)) rfl h1).trans ?_
  refine (e_n 1 (fr' := (34, 17, [some (vR 5 0 0), some (vI x1), some (vI x2)], [vI (-1 : Int32), vI (σ.1 5 0 2 (x1).toNatClampNeg)], σ)) rfl).trans ?_
  refine (e_t (A := (34, 30, [some (vR 5 0 0), some (vI x1), some (vI x2)], [], σ)) rfl h3).trans ?_
  refine (e_n 2 (fr' := (34, 35, [some (vR 5 0 0), some (vI x1), some (vI x2)], [vI (1 : Int32)], σ)) rfl).trans ?_
  exact e_r rfl
set_option maxRecDepth 20000 in
theorem g34_0_2 (C : pmC) {σ : pmS} {x1 : Int32} {x2 : Int32} (h1 : vp_in x1 48) (h2 : ¬ x2 < (σ.1 5 0 1 (x1).toNatClampNeg)) (h3 : ¬ (σ.1 5 0 2 (x1).toNatClampNeg) = (-1 : Int32)) (h4 : (σ.1 5 0 2 (x1).toNatClampNeg) ≤ x2) : pq_Rn C (34, 0, [some (vR 5 0 0), some (vI x1), some (vI x2)], [], σ) = some (some (vI (0 : Int32)), σ) := by
  refine (e_n 4 (fr' := (34, 6, [some (vR 5 0 0), some (vI x1), some (vI x2)], [vI x1, vR 5 0 2, vI x2], σ)) rfl).trans ?_
  refine (e_a (A := (34, 7, [some (vR 5 0 0), some (vI x1), some (vI x2)], [vI (σ.1 5 0 1 (x1).toNatClampNeg), vI x2], σ)) rfl h1).trans ?_
  refine (e_f (B := (34, 10, [some (vR 5 0 0), some (vI x1), some (vI x2)], [], σ)) rfl h2).trans ?_
  refine (e_n 3 (fr' := (34, 15, [some (vR 5 0 0), some (vI x1), some (vI x2)], [vI x1, vR 5 0 3], σ)) rfl).trans ?_
  refine (e_a (A := (34, 16, [some (vR 5 0 0), some (vI x1), some (vI x2)], [vI (σ.1 5 0 2 (x1).toNatClampNeg)], σ)) rfl h1).trans ?_
  refine (e_n 1 (fr' := (34, 17, [some (vR 5 0 0), some (vI x1), some (vI x2)], [vI (-1 : Int32), vI (σ.1 5 0 2 (x1).toNatClampNeg)], σ)) rfl).trans ?_
  refine (e_f (B := (34, 20, [some (vR 5 0 0), some (vI x1), some (vI x2)], [], σ)) rfl h3).trans ?_
  refine (e_n 4 (fr' := (34, 26, [some (vR 5 0 0), some (vI x1), some (vI x2)], [vI x1, vR 5 0 3, vI x2], σ)) rfl).trans ?_
  refine (e_a (A := (34, 27, [some (vR 5 0 0), some (vI x1), some (vI x2)], [vI (σ.1 5 0 2 (x1).toNatClampNeg), vI x2], σ)) rfl h1).trans ?_
  refine (e_t (A := (34, 34, [some (vR 5 0 0), some (vI x1), some (vI x2)], [], σ)) rfl h4).trans ?_
  refine (e_n 1 (fr' := (34, 35, [some (vR 5 0 0), some (vI x1), some (vI x2)], [vI (0 : Int32)], σ)) rfl).trans ?_
  exact e_r rfl
set_option maxRecDepth 20000 in
theorem g34_0_3 (C : pmC) {σ : pmS} {x1 : Int32} {x2 : Int32} (h1 : vp_in x1 48) (h2 : ¬ x2 < (σ.1 5 0 1 (x1).toNatClampNeg)) (h3 : ¬ (σ.1 5 0 2 (x1).toNatClampNeg) = (-1 : Int32)) (h4 : ¬ (σ.1 5 0 2 (x1).toNatClampNeg) ≤ x2) : pq_Rn C (34, 0, [some (vR 5 0 0), some (vI x1), some (vI x2)], [], σ) = some (some (vI (1 : Int32)), σ) := by
  refine (e_n 4 (fr' := (34, 6, [some (vR 5 0 0), some (vI x1), some (vI x2)], [vI x1, vR 5 0 2, vI x2], σ)) rfl).trans ?_
  refine (e_a (A := (34, 7, [some (vR 5 0 0), some (vI x1), some (vI x2)], [vI (σ.1 5 0 1 (x1).toNatClampNeg), vI x2], σ)) rfl h1).trans ?_
  refine (e_f (B := (34, 10, [some (vR 5 0 0), some (vI x1), some (vI x2)], [], σ)) rfl h2).trans ?_
  refine (e_n 3 (fr' := (34, 15, [some (vR 5 0 0), some (vI x1), some (vI x2)], [vI x1, vR 5 0 3], σ)) rfl).trans ?_
  refine (e_a (A := (34, 16, [some (vR 5 0 0), some (vI x1), some (vI x2)], [vI (σ.1 5 0 2 (x1).toNatClampNeg)], σ)) rfl h1).trans ?_
  refine (e_n 1 (fr' := (34, 17, [some (vR 5 0 0), some (vI x1), some (vI x2)], [vI (-1 : Int32), vI (σ.1 5 0 2 (x1).toNatClampNeg)], σ)) rfl).trans ?_
  refine (e_f (B := (34, 20, [some (vR 5 0 0), some (vI x1), some (vI x2)], [], σ)) rfl h3).trans ?_
  refine (e_n 4 (fr' := (34, 26, [some (vR 5 0 0), some (vI x1), some (vI x2)], [vI x1, vR 5 0 3, vI x2], σ)) rfl).trans ?_
  refine (e_a (A := (34, 27, [some (vR 5 0 0), some (vI x1), some (vI x2)], [vI (σ.1 5 0 2 (x1).toNatClampNeg), vI x2], σ)) rfl h1).trans ?_
  refine (e_f (B := (34, 30, [some (vR 5 0 0), some (vI x1), some (vI x2)], [], σ)) rfl h4).trans ?_
  refine (e_n 2 (fr' := (34, 35, [some (vR 5 0 0), some (vI x1), some (vI x2)], [vI (1 : Int32)], σ)) rfl).trans ?_
  exact e_r rfl
set_option maxRecDepth 20000 in
theorem g35_0_0 (C : pmC) {σ : pmS} {x1 : Int32} {x2 : Int32} (h1 : vp_in x2 48) (h2 : (σ.1 5 0 4 (x2).toNatClampNeg) = x1) : pq_Rn C (35, 0, [some (vR 5 0 0), some (vI x1), some (vI x2)], [], σ) = some (some (vI (1 : Int32)), σ) := by
  refine (e_n 3 (fr' := (35, 5, [some (vR 5 0 0), some (vI x1), some (vI x2)], [vI x2, vR 5 0 5], σ)) rfl).trans ?_
  refine (e_a (A := (35, 6, [some (vR 5 0 0), some (vI x1), some (vI x2)], [vI (σ.1 5 0 4 (x2).toNatClampNeg)], σ)) rfl h1).trans ?_
  refine (e_n 1 (fr' := (35, 7, [some (vR 5 0 0), some (vI x1), some (vI x2)], [vI x1, vI (σ.1 5 0 4 (x2).toNatClampNeg)], σ)) rfl).trans ?_
  refine (e_t (A := (35, 20, [some (vR 5 0 0), some (vI x1), some (vI x2)], [], σ)) rfl h2).trans ?_
  refine (e_n 2 (fr' := (35, 25, [some (vR 5 0 0), some (vI x1), some (vI x2)], [vI (1 : Int32)], σ)) rfl).trans ?_
  exact e_r rfl
set_option maxRecDepth 20000 in
theorem g35_0_1 (C : pmC) {σ : pmS} {x1 : Int32} {x2 : Int32} (h1 : vp_in x2 48) (h2 : ¬ (σ.1 5 0 4 (x2).toNatClampNeg) = x1) (h3 : (σ.1 5 0 5 (x2).toNatClampNeg) = x1) : pq_Rn C (35, 0, [some (vR 5 0 0), some (vI x1), some (vI x2)], [], σ) = some (some (vI (1 : Int32)), σ) := by
  refine (e_n 3 (fr' := (35, 5, [some (vR 5 0 0), some (vI x1), some (vI x2)], [vI x2, vR 5 0 5], σ)) rfl).trans ?_
  refine (e_a (A := (35, 6, [some (vR 5 0 0), some (vI x1), some (vI x2)], [vI (σ.1 5 0 4 (x2).toNatClampNeg)], σ)) rfl h1).trans ?_
  refine (e_n 1 (fr' := (35, 7, [some (vR 5 0 0), some (vI x1), some (vI x2)], [vI x1, vI (σ.1 5 0 4 (x2).toNatClampNeg)], σ)) rfl).trans ?_
  refine (e_f (B := (35, 10, [some (vR 5 0 0), some (vI x1), some (vI x2)], [], σ)) rfl h2).trans ?_
  refine (e_n 3 (fr' := (35, 15, [some (vR 5 0 0), some (vI x1), some (vI x2)], [vI x2, vR 5 0 6], σ)) rfl).trans ?_
  refine (e_a (A := (35, 16, [some (vR 5 0 0), some (vI x1), some (vI x2)], [vI (σ.1 5 0 5 (x2).toNatClampNeg)], σ)) rfl h1).trans ?_
  refine (e_n 1 (fr' := (35, 17, [some (vR 5 0 0), some (vI x1), some (vI x2)], [vI x1, vI (σ.1 5 0 5 (x2).toNatClampNeg)], σ)) rfl).trans ?_
  refine (e_t (A := (35, 20, [some (vR 5 0 0), some (vI x1), some (vI x2)], [], σ)) rfl h3).trans ?_
  refine (e_n 2 (fr' := (35, 25, [some (vR 5 0 0), some (vI x1), some (vI x2)], [vI (1 : Int32)], σ)) rfl).trans ?_
  exact e_r rfl
set_option maxRecDepth 20000 in
theorem g35_0_2 (C : pmC) {σ : pmS} {x1 : Int32} {x2 : Int32} (h1 : vp_in x2 48) (h2 : ¬ (σ.1 5 0 4 (x2).toNatClampNeg) = x1) (h3 : ¬ (σ.1 5 0 5 (x2).toNatClampNeg) = x1) : pq_Rn C (35, 0, [some (vR 5 0 0), some (vI x1), some (vI x2)], [], σ) = some (some (vI (0 : Int32)), σ) := by
  refine (e_n 3 (fr' := (35, 5, [some (vR 5 0 0), some (vI x1), some (vI x2)], [vI x2, vR 5 0 5], σ)) rfl).trans ?_
  refine (e_a (A := (35, 6, [some (vR 5 0 0), some (vI x1), some (vI x2)], [vI (σ.1 5 0 4 (x2).toNatClampNeg)], σ)) rfl h1).trans ?_
  refine (e_n 1 (fr' := (35, 7, [some (vR 5 0 0), some (vI x1), some (vI x2)], [vI x1, vI (σ.1 5 0 4 (x2).toNatClampNeg)], σ)) rfl).trans ?_
  refine (e_f (B := (35, 10, [some (vR 5 0 0), some (vI x1), some (vI x2)], [], σ)) rfl h2).trans ?_
  refine (e_n 3 (fr' := (35, 15, [some (vR 5 0 0), some (vI x1), some (vI x2)], [vI x2, vR 5 0 6], σ)) rfl).trans ?_
  refine (e_a (A := (35, 16, [some (vR 5 0 0), some (vI x1), some (vI x2)], [vI (σ.1 5 0 5 (x2).toNatClampNeg)], σ)) rfl h1).trans ?_
  refine (e_n 1 (fr' := (35, 17, [some (vR 5 0 0), some (vI x1), some (vI x2)], [vI x1, vI (σ.1 5 0 5 (x2).toNatClampNeg)], σ)) rfl).trans ?_
  refine (e_f (B := (35, 24, [some (vR 5 0 0), some (vI x1), some (vI x2)], [], σ)) rfl h3).trans ?_
  refine (e_n 1 (fr' := (35, 25, [some (vR 5 0 0), some (vI x1), some (vI x2)], [vI (0 : Int32)], σ)) rfl).trans ?_
  exact e_r rfl
set_option maxRecDepth 20000 in
theorem g36_0_0 (C : pmC) {σ : pmS} {x1 : Int32} {x2 : Int32} {σ1 : pmS} {r1 : Int32} {σ2 : pmS} {r2 : Int32} {σ3 : pmS} {r3 : Int32} (h1 : C 35 [vR 5 0 0, vI x1, vI x2] σ = some (some (vI r1), σ1)) (h2 : r1 = 0) (h3 : C 35 [vR 5 0 0, vI x2, vI x1] σ1 = some (some (vI r2), σ2)) (h4 : r2 = 0) (h5 : C 33 [vR 5 0 0, vI x1] σ2 = some (some (vI r3), σ3)) (h6 : r3 = 0) (h7 : vp_in x1 48) (h8 : vp_in x2 48) (h9 : (σ3.1 5 0 4 (x1).toNatClampNeg) = (σ3.1 5 0 4 (x2).toNatClampNeg)) : pq_Rn C (36, 0, [some (vR 5 0 0), some (vI x1), some (vI x2)], [], σ) = some (some (vI (1 : Int32)), σ3) := by
  refine (e_n 3 (fr' := (36, 3, [some (vR 5 0 0), some (vI x1), some (vI x2)], [vI x2, vI x1, vR 5 0 0], σ)) rfl).trans ?_
  refine (e_ci (m := 36) (pc := 6) (ls := [some (vR 5 0 0), some (vI x1), some (vI x2)]) (rest := []) rfl h1).trans ?_
  refine (e_t (A := (36, 9, [some (vR 5 0 0), some (vI x1), some (vI x2)], [], σ1)) rfl h2).trans ?_
  refine (e_n 3 (fr' := (36, 12, [some (vR 5 0 0), some (vI x1), some (vI x2)], [vI x1, vI x2, vR 5 0 0], σ1)) rfl).trans ?_
  refine (e_ci (m := 36) (pc := 15) (ls := [some (vR 5 0 0), some (vI x1), some (vI x2)]) (rest := []) rfl h3).trans ?_
  refine (e_t (A := (36, 20, [some (vR 5 0 0), some (vI x1), some (vI x2)], [], σ2)) rfl h4).trans ?_
  refine (e_n 2 (fr' := (36, 22, [some (vR 5 0 0), some (vI x1), some (vI x2)], [vI x1, vR 5 0 0], σ2)) rfl).trans ?_
  refine (e_ci (m := 36) (pc := 25) (ls := [some (vR 5 0 0), some (vI x1), some (vI x2)]) (rest := []) rfl h5).trans ?_
  refine (e_t (A := (36, 28, [some (vR 5 0 0), some (vI x1), some (vI x2)], [], σ3)) rfl h6).trans ?_
  refine (e_n 3 (fr' := (36, 33, [some (vR 5 0 0), some (vI x1), some (vI x2)], [vI x1, vR 5 0 5], σ3)) rfl).trans ?_
  refine (e_a (A := (36, 34, [some (vR 5 0 0), some (vI x1), some (vI x2)], [vI (σ3.1 5 0 4 (x1).toNatClampNeg)], σ3)) rfl h7).trans ?_
  refine (e_n 3 (fr' := (36, 39, [some (vR 5 0 0), some (vI x1), some (vI x2)], [vI x2, vR 5 0 5, vI (σ3.1 5 0 4 (x1).toNatClampNeg)], σ3)) rfl).trans ?_
  refine (e_a (A := (36, 40, [some (vR 5 0 0), some (vI x1), some (vI x2)], [vI (σ3.1 5 0 4 (x2).toNatClampNeg), vI (σ3.1 5 0 4 (x1).toNatClampNeg)], σ3)) rfl h8).trans ?_
  refine (e_t (A := (36, 58, [some (vR 5 0 0), some (vI x1), some (vI x2)], [], σ3)) rfl h9).trans ?_
  refine (e_n 2 (fr' := (36, 63, [some (vR 5 0 0), some (vI x1), some (vI x2)], [vI (1 : Int32)], σ3)) rfl).trans ?_
  exact e_r rfl
set_option maxRecDepth 20000 in
theorem g36_0_1 (C : pmC) {σ : pmS} {x1 : Int32} {x2 : Int32} {σ1 : pmS} {r1 : Int32} {σ2 : pmS} {r2 : Int32} {σ3 : pmS} {r3 : Int32} (h1 : C 35 [vR 5 0 0, vI x1, vI x2] σ = some (some (vI r1), σ1)) (h2 : r1 = 0) (h3 : C 35 [vR 5 0 0, vI x2, vI x1] σ1 = some (some (vI r2), σ2)) (h4 : r2 = 0) (h5 : C 33 [vR 5 0 0, vI x1] σ2 = some (some (vI r3), σ3)) (h6 : r3 = 0) (h7 : vp_in x1 48) (h8 : vp_in x2 48) (h9 : ¬ (σ3.1 5 0 4 (x1).toNatClampNeg) = (σ3.1 5 0 4 (x2).toNatClampNeg)) (h10 : (σ3.1 5 0 5 (x1).toNatClampNeg) = (σ3.1 5 0 5 (x2).toNatClampNeg)) : pq_Rn C (36, 0, [some (vR 5 0 0), some (vI x1), some (vI x2)], [], σ) = some (some (vI (1 : Int32)), σ3) := by
  refine (e_n 3 (fr' := (36, 3, [some (vR 5 0 0), some (vI x1), some (vI x2)], [vI x2, vI x1, vR 5 0 0], σ)) rfl).trans ?_
  refine (e_ci (m := 36) (pc := 6) (ls := [some (vR 5 0 0), some (vI x1), some (vI x2)]) (rest := []) rfl h1).trans ?_
  refine (e_t (A := (36, 9, [some (vR 5 0 0), some (vI x1), some (vI x2)], [], σ1)) rfl h2).trans ?_
  refine (e_n 3 (fr' := (36, 12, [some (vR 5 0 0), some (vI x1), some (vI x2)], [vI x1, vI x2, vR 5 0 0], σ1)) rfl).trans ?_
  refine (e_ci (m := 36) (pc := 15) (ls := [some (vR 5 0 0), some (vI x1), some (vI x2)]) (rest := []) rfl h3).trans ?_
  refine (e_t (A := (36, 20, [some (vR 5 0 0), some (vI x1), some (vI x2)], [], σ2)) rfl h4).trans ?_
  refine (e_n 2 (fr' := (36, 22, [some (vR 5 0 0), some (vI x1), some (vI x2)], [vI x1, vR 5 0 0], σ2)) rfl).trans ?_
  refine (e_ci (m := 36) (pc := 25) (ls := [some (vR 5 0 0), some (vI x1), some (vI x2)]) (rest := []) rfl h5).trans ?_
  refine (e_t (A := (36, 28, [some (vR 5 0 0), some (vI x1), some (vI x2)], [], σ3)) rfl h6).trans ?_
  refine (e_n 3 (fr' := (36, 33, [some (vR 5 0 0), some (vI x1), some (vI x2)], [vI x1, vR 5 0 5], σ3)) rfl).trans ?_
  refine (e_a (A := (36, 34, [some (vR 5 0 0), some (vI x1), some (vI x2)], [vI (σ3.1 5 0 4 (x1).toNatClampNeg)], σ3)) rfl h7).trans ?_
  refine (e_n 3 (fr' := (36, 39, [some (vR 5 0 0), some (vI x1), some (vI x2)], [vI x2, vR 5 0 5, vI (σ3.1 5 0 4 (x1).toNatClampNeg)], σ3)) rfl).trans ?_
  refine (e_a (A := (36, 40, [some (vR 5 0 0), some (vI x1), some (vI x2)], [vI (σ3.1 5 0 4 (x2).toNatClampNeg), vI (σ3.1 5 0 4 (x1).toNatClampNeg)], σ3)) rfl h8).trans ?_
  refine (e_f (B := (36, 43, [some (vR 5 0 0), some (vI x1), some (vI x2)], [], σ3)) rfl h9).trans ?_
  refine (e_n 3 (fr' := (36, 48, [some (vR 5 0 0), some (vI x1), some (vI x2)], [vI x1, vR 5 0 6], σ3)) rfl).trans ?_
  refine (e_a (A := (36, 49, [some (vR 5 0 0), some (vI x1), some (vI x2)], [vI (σ3.1 5 0 5 (x1).toNatClampNeg)], σ3)) rfl h7).trans ?_
  refine (e_n 3 (fr' := (36, 54, [some (vR 5 0 0), some (vI x1), some (vI x2)], [vI x2, vR 5 0 6, vI (σ3.1 5 0 5 (x1).toNatClampNeg)], σ3)) rfl).trans ?_
  refine (e_a (A := (36, 55, [some (vR 5 0 0), some (vI x1), some (vI x2)], [vI (σ3.1 5 0 5 (x2).toNatClampNeg), vI (σ3.1 5 0 5 (x1).toNatClampNeg)], σ3)) rfl h8).trans ?_
  refine (e_t (A := (36, 58, [some (vR 5 0 0), some (vI x1), some (vI x2)], [], σ3)) rfl h10).trans ?_
  refine (e_n 2 (fr' := (36, 63, [some (vR 5 0 0), some (vI x1), some (vI x2)], [vI (1 : Int32)], σ3)) rfl).trans ?_
  exact e_r rfl
set_option maxRecDepth 20000 in
theorem g36_0_2 (C : pmC) {σ : pmS} {x1 : Int32} {x2 : Int32} {σ1 : pmS} {r1 : Int32} {σ2 : pmS} {r2 : Int32} {σ3 : pmS} {r3 : Int32} (h1 : C 35 [vR 5 0 0, vI x1, vI x2] σ = some (some (vI r1), σ1)) (h2 : r1 = 0) (h3 : C 35 [vR 5 0 0, vI x2, vI x1] σ1 = some (some (vI r2), σ2)) (h4 : r2 = 0) (h5 : C 33 [vR 5 0 0, vI x1] σ2 = some (some (vI r3), σ3)) (h6 : r3 = 0) (h7 : vp_in x1 48) (h8 : vp_in x2 48) (h9 : ¬ (σ3.1 5 0 4 (x1).toNatClampNeg) = (σ3.1 5 0 4 (x2).toNatClampNeg)) (h10 : ¬ (σ3.1 5 0 5 (x1).toNatClampNeg) = (σ3.1 5 0 5 (x2).toNatClampNeg)) : pq_Rn C (36, 0, [some (vR 5 0 0), some (vI x1), some (vI x2)], [], σ) = some (some (vI (0 : Int32)), σ3) := by
  refine (e_n 3 (fr' := (36, 3, [some (vR 5 0 0), some (vI x1), some (vI x2)], [vI x2, vI x1, vR 5 0 0], σ)) rfl).trans ?_
  refine (e_ci (m := 36) (pc := 6) (ls := [some (vR 5 0 0), some (vI x1), some (vI x2)]) (rest := []) rfl h1).trans ?_
  refine (e_t (A := (36, 9, [some (vR 5 0 0), some (vI x1), some (vI x2)], [], σ1)) rfl h2).trans ?_
  refine (e_n 3 (fr' := (36, 12, [some (vR 5 0 0), some (vI x1), some (vI x2)], [vI x1, vI x2, vR 5 0 0], σ1)) rfl).trans ?_
  refine (e_ci (m := 36) (pc := 15) (ls := [some (vR 5 0 0), some (vI x1), some (vI x2)]) (rest := []) rfl h3).trans ?_
  refine (e_t (A := (36, 20, [some (vR 5 0 0), some (vI x1), some (vI x2)], [], σ2)) rfl h4).trans ?_
  refine (e_n 2 (fr' := (36, 22, [some (vR 5 0 0), some (vI x1), some (vI x2)], [vI x1, vR 5 0 0], σ2)) rfl).trans ?_
  refine (e_ci (m := 36) (pc := 25) (ls := [some (vR 5 0 0), some (vI x1), some (vI x2)]) (rest := []) rfl h5).trans ?_
  refine (e_t (A := (36, 28, [some (vR 5 0 0), some (vI x1), some (vI x2)], [], σ3)) rfl h6).trans ?_
  refine (e_n 3 (fr' := (36, 33, [some (vR 5 0 0), some (vI x1), some (vI x2)], [vI x1, vR 5 0 5], σ3)) rfl).trans ?_
  refine (e_a (A := (36, 34, [some (vR 5 0 0), some (vI x1), some (vI x2)], [vI (σ3.1 5 0 4 (x1).toNatClampNeg)], σ3)) rfl h7).trans ?_
  refine (e_n 3 (fr' := (36, 39, [some (vR 5 0 0), some (vI x1), some (vI x2)], [vI x2, vR 5 0 5, vI (σ3.1 5 0 4 (x1).toNatClampNeg)], σ3)) rfl).trans ?_
  refine (e_a (A := (36, 40, [some (vR 5 0 0), some (vI x1), some (vI x2)], [vI (σ3.1 5 0 4 (x2).toNatClampNeg), vI (σ3.1 5 0 4 (x1).toNatClampNeg)], σ3)) rfl h8).trans ?_
  refine (e_f (B := (36, 43, [some (vR 5 0 0), some (vI x1), some (vI x2)], [], σ3)) rfl h9).trans ?_
  refine (e_n 3 (fr' := (36, 48, [some (vR 5 0 0), some (vI x1), some (vI x2)], [vI x1, vR 5 0 6], σ3)) rfl).trans ?_
  refine (e_a (A := (36, 49, [some (vR 5 0 0), some (vI x1), some (vI x2)], [vI (σ3.1 5 0 5 (x1).toNatClampNeg)], σ3)) rfl h7).trans ?_
  refine (e_n 3 (fr' := (36, 54, [some (vR 5 0 0), some (vI x1), some (vI x2)], [vI x2, vR 5 0 6, vI (σ3.1 5 0 5 (x1).toNatClampNeg)], σ3)) rfl).trans ?_
  refine (e_a (A := (36, 55, [some (vR 5 0 0), some (vI x1), some (vI x2)], [vI (σ3.1 5 0 5 (x2).toNatClampNeg), vI (σ3.1 5 0 5 (x1).toNatClampNeg)], σ3)) rfl h8).trans ?_
  refine (e_f (B := (36, 62, [some (vR 5 0 0), some (vI x1), some (vI x2)], [], σ3)) rfl h10).trans ?_
  refine (e_n 1 (fr' := (36, 63, [some (vR 5 0 0), some (vI x1), some (vI x2)], [vI (0 : Int32)], σ3)) rfl).trans ?_
  exact e_r rfl
set_option maxRecDepth 20000 in
theorem g36_0_3 (C : pmC) {σ : pmS} {x1 : Int32} {x2 : Int32} {σ1 : pmS} {r1 : Int32} {σ2 : pmS} {r2 : Int32} {σ3 : pmS} {r3 : Int32} (h1 : C 35 [vR 5 0 0, vI x1, vI x2] σ = some (some (vI r1), σ1)) (h2 : r1 = 0) (h3 : C 35 [vR 5 0 0, vI x2, vI x1] σ1 = some (some (vI r2), σ2)) (h4 : r2 = 0) (h5 : C 33 [vR 5 0 0, vI x1] σ2 = some (some (vI r3), σ3)) (h6 : ¬ r3 = 0) : pq_Rn C (36, 0, [some (vR 5 0 0), some (vI x1), some (vI x2)], [], σ) = some (some (vI (0 : Int32)), σ3) := by
  refine (e_n 3 (fr' := (36, 3, [some (vR 5 0 0), some (vI x1), some (vI x2)], [vI x2, vI x1, vR 5 0 0], σ)) rfl).trans ?_
  refine (e_ci (m := 36) (pc := 6) (ls := [some (vR 5 0 0), some (vI x1), some (vI x2)]) (rest := []) rfl h1).trans ?_
  refine (e_t (A := (36, 9, [some (vR 5 0 0), some (vI x1), some (vI x2)], [], σ1)) rfl h2).trans ?_
  refine (e_n 3 (fr' := (36, 12, [some (vR 5 0 0), some (vI x1), some (vI x2)], [vI x1, vI x2, vR 5 0 0], σ1)) rfl).trans ?_
  refine (e_ci (m := 36) (pc := 15) (ls := [some (vR 5 0 0), some (vI x1), some (vI x2)]) (rest := []) rfl h3).trans ?_
  refine (e_t (A := (36, 20, [some (vR 5 0 0), some (vI x1), some (vI x2)], [], σ2)) rfl h4).trans ?_
  refine (e_n 2 (fr' := (36, 22, [some (vR 5 0 0), some (vI x1), some (vI x2)], [vI x1, vR 5 0 0], σ2)) rfl).trans ?_
  refine (e_ci (m := 36) (pc := 25) (ls := [some (vR 5 0 0), some (vI x1), some (vI x2)]) (rest := []) rfl h5).trans ?_
  refine (e_f (B := (36, 62, [some (vR 5 0 0), some (vI x1), some (vI x2)], [], σ3)) rfl h6).trans ?_
  refine (e_n 1 (fr' := (36, 63, [some (vR 5 0 0), some (vI x1), some (vI x2)], [vI (0 : Int32)], σ3)) rfl).trans ?_
  exact e_r rfl
set_option maxRecDepth 20000 in
theorem g36_0_4 (C : pmC) {σ : pmS} {x1 : Int32} {x2 : Int32} {σ1 : pmS} {r1 : Int32} {σ2 : pmS} {r2 : Int32} (h1 : C 35 [vR 5 0 0, vI x1, vI x2] σ = some (some (vI r1), σ1)) (h2 : r1 = 0) (h3 : C 35 [vR 5 0 0, vI x2, vI x1] σ1 = some (some (vI r2), σ2)) (h4 : ¬ r2 = 0) : pq_Rn C (36, 0, [some (vR 5 0 0), some (vI x1), some (vI x2)], [], σ) = some (some (vI (1 : Int32)), σ2) := by
  refine (e_n 3 (fr' := (36, 3, [some (vR 5 0 0), some (vI x1), some (vI x2)], [vI x2, vI x1, vR 5 0 0], σ)) rfl).trans ?_
  refine (e_ci (m := 36) (pc := 6) (ls := [some (vR 5 0 0), some (vI x1), some (vI x2)]) (rest := []) rfl h1).trans ?_
  refine (e_t (A := (36, 9, [some (vR 5 0 0), some (vI x1), some (vI x2)], [], σ1)) rfl h2).trans ?_
  refine (e_n 3 (fr' := (36, 12, [some (vR 5 0 0), some (vI x1), some (vI x2)], [vI x1, vI x2, vR 5 0 0], σ1)) rfl).trans ?_
  refine (e_ci (m := 36) (pc := 15) (ls := [some (vR 5 0 0), some (vI x1), some (vI x2)]) (rest := []) rfl h3).trans ?_
  refine (e_f (B := (36, 18, [some (vR 5 0 0), some (vI x1), some (vI x2)], [], σ2)) rfl h4).trans ?_
  refine (e_n 1 (fr' := (36, 19, [some (vR 5 0 0), some (vI x1), some (vI x2)], [vI (1 : Int32)], σ2)) rfl).trans ?_
  exact e_r rfl
set_option maxRecDepth 20000 in
theorem g36_0_5 (C : pmC) {σ : pmS} {x1 : Int32} {x2 : Int32} {σ1 : pmS} {r1 : Int32} (h1 : C 35 [vR 5 0 0, vI x1, vI x2] σ = some (some (vI r1), σ1)) (h2 : ¬ r1 = 0) : pq_Rn C (36, 0, [some (vR 5 0 0), some (vI x1), some (vI x2)], [], σ) = some (some (vI (1 : Int32)), σ1) := by
  refine (e_n 3 (fr' := (36, 3, [some (vR 5 0 0), some (vI x1), some (vI x2)], [vI x2, vI x1, vR 5 0 0], σ)) rfl).trans ?_
  refine (e_ci (m := 36) (pc := 6) (ls := [some (vR 5 0 0), some (vI x1), some (vI x2)]) (rest := []) rfl h1).trans ?_
  refine (e_f (B := (36, 18, [some (vR 5 0 0), some (vI x1), some (vI x2)], [], σ1)) rfl h2).trans ?_
  refine (e_n 1 (fr' := (36, 19, [some (vR 5 0 0), some (vI x1), some (vI x2)], [vI (1 : Int32)], σ1)) rfl).trans ?_
  exact e_r rfl
set_option maxRecDepth 20000 in
theorem g37_0_0 (C : pmC) {σ : pmS} {x1 : Int32} (h1 : vp_in x1 48) (h2 : (σ.1 5 0 7 (x1).toNatClampNeg) = (-1 : Int32)) : pq_Rn C (37, 0, [some (vR 5 0 0), some (vI x1)], [], σ) = some (some (vI (0 : Int32)), σ) := by
  refine (e_n 3 (fr' := (37, 5, [some (vR 5 0 0), some (vI x1)], [vI x1, vR 5 0 8], σ)) rfl).trans ?_
  refine (e_a (A := (37, 6, [some (vR 5 0 0), some (vI x1)], [vI (σ.1 5 0 7 (x1).toNatClampNeg)], σ)) rfl h1).trans ?_
  refine (e_n 1 (fr' := (37, 7, [some (vR 5 0 0), some (vI x1)], [vI (-1 : Int32), vI (σ.1 5 0 7 (x1).toNatClampNeg)], σ)) rfl).trans ?_
  refine (e_t (A := (37, 39, [some (vR 5 0 0), some (vI x1)], [], σ)) rfl h2).trans ?_
  refine (e_n 1 (fr' := (37, 40, [some (vR 5 0 0), some (vI x1)], [vI (0 : Int32)], σ)) rfl).trans ?_
  exact e_r rfl
set_option maxRecDepth 20000 in
theorem g37_0_1 (C : pmC) {σ : pmS} {x1 : Int32} (h1 : vp_in x1 48) (h2 : ¬ (σ.1 5 0 7 (x1).toNatClampNeg) = (-1 : Int32)) (h3 : (σ.1 5 0 8 (x1).toNatClampNeg) = (-1 : Int32)) : pq_Rn C (37, 0, [some (vR 5 0 0), some (vI x1)], [], σ) = some (some (vI (0 : Int32)), σ) := by
  refine (e_n 3 (fr' := (37, 5, [some (vR 5 0 0), some (vI x1)], [vI x1, vR 5 0 8], σ)) rfl).trans ?_
  refine (e_a (A := (37, 6, [some (vR 5 0 0), some (vI x1)], [vI (σ.1 5 0 7 (x1).toNatClampNeg)], σ)) rfl h1).trans ?_
  refine (e_n 1 (fr' := (37, 7, [some (vR 5 0 0), some (vI x1)], [vI (-1 : Int32), vI (σ.1 5 0 7 (x1).toNatClampNeg)], σ)) rfl).trans ?_
  refine (e_f (B := (37, 10, [some (vR 5 0 0), some (vI x1)], [], σ)) rfl h2).trans ?_
  refine (e_n 3 (fr' := (37, 15, [some (vR 5 0 0), some (vI x1)], [vI x1, vR 5 0 9], σ)) rfl).trans ?_
  refine (e_a (A := (37, 16, [some (vR 5 0 0), some (vI x1)], [vI (σ.1 5 0 8 (x1).toNatClampNeg)], σ)) rfl h1).trans ?_
  refine (e_n 1 (fr' := (37, 17, [some (vR 5 0 0), some (vI x1)], [vI (-1 : Int32), vI (σ.1 5 0 8 (x1).toNatClampNeg)], σ)) rfl).trans ?_
  refine (e_t (A := (37, 39, [some (vR 5 0 0), some (vI x1)], [], σ)) rfl h3).trans ?_
  refine (e_n 1 (fr' := (37, 40, [some (vR 5 0 0), some (vI x1)], [vI (0 : Int32)], σ)) rfl).trans ?_
  exact e_r rfl
set_option maxRecDepth 20000 in
theorem g37_0_2 (C : pmC) {σ : pmS} {x1 : Int32} (h1 : vp_in x1 48) (h2 : ¬ (σ.1 5 0 7 (x1).toNatClampNeg) = (-1 : Int32)) (h3 : ¬ (σ.1 5 0 8 (x1).toNatClampNeg) = (-1 : Int32)) (h4 : (σ.1 5 0 7 (x1).toNatClampNeg) = (σ.1 5 0 8 (x1).toNatClampNeg)) : pq_Rn C (37, 0, [some (vR 5 0 0), some (vI x1)], [], σ) = some (some (vI (0 : Int32)), σ) := by
  refine (e_n 3 (fr' := (37, 5, [some (vR 5 0 0), some (vI x1)], [vI x1, vR 5 0 8], σ)) rfl).trans ?_
  refine (e_a (A := (37, 6, [some (vR 5 0 0), some (vI x1)], [vI (σ.1 5 0 7 (x1).toNatClampNeg)], σ)) rfl h1).trans ?_
  refine (e_n 1 (fr' := (37, 7, [some (vR 5 0 0), some (vI x1)], [vI (-1 : Int32), vI (σ.1 5 0 7 (x1).toNatClampNeg)], σ)) rfl).trans ?_
  refine (e_f (B := (37, 10, [some (vR 5 0 0), some (vI x1)], [], σ)) rfl h2).trans ?_
  refine (e_n 3 (fr' := (37, 15, [some (vR 5 0 0), some (vI x1)], [vI x1, vR 5 0 9], σ)) rfl).trans ?_
  refine (e_a (A := (37, 16, [some (vR 5 0 0), some (vI x1)], [vI (σ.1 5 0 8 (x1).toNatClampNeg)], σ)) rfl h1).trans ?_
  refine (e_n 1 (fr' := (37, 17, [some (vR 5 0 0), some (vI x1)], [vI (-1 : Int32), vI (σ.1 5 0 8 (x1).toNatClampNeg)], σ)) rfl).trans ?_
  refine (e_f (B := (37, 20, [some (vR 5 0 0), some (vI x1)], [], σ)) rfl h3).trans ?_
  refine (e_n 3 (fr' := (37, 25, [some (vR 5 0 0), some (vI x1)], [vI x1, vR 5 0 8], σ)) rfl).trans ?_
  refine (e_a (A := (37, 26, [some (vR 5 0 0), some (vI x1)], [vI (σ.1 5 0 7 (x1).toNatClampNeg)], σ)) rfl h1).trans ?_
  refine (e_n 3 (fr' := (37, 31, [some (vR 5 0 0), some (vI x1)], [vI x1, vR 5 0 9, vI (σ.1 5 0 7 (x1).toNatClampNeg)], σ)) rfl).trans ?_
  refine (e_a (A := (37, 32, [some (vR 5 0 0), some (vI x1)], [vI (σ.1 5 0 8 (x1).toNatClampNeg), vI (σ.1 5 0 7 (x1).toNatClampNeg)], σ)) rfl h1).trans ?_
  refine (e_t (A := (37, 39, [some (vR 5 0 0), some (vI x1)], [], σ)) rfl h4).trans ?_
  refine (e_n 1 (fr' := (37, 40, [some (vR 5 0 0), some (vI x1)], [vI (0 : Int32)], σ)) rfl).trans ?_
  exact e_r rfl
set_option maxRecDepth 20000 in
theorem g37_0_3 (C : pmC) {σ : pmS} {x1 : Int32} (h1 : vp_in x1 48) (h2 : ¬ (σ.1 5 0 7 (x1).toNatClampNeg) = (-1 : Int32)) (h3 : ¬ (σ.1 5 0 8 (x1).toNatClampNeg) = (-1 : Int32)) (h4 : ¬ (σ.1 5 0 7 (x1).toNatClampNeg) = (σ.1 5 0 8 (x1).toNatClampNeg)) : pq_Rn C (37, 0, [some (vR 5 0 0), some (vI x1)], [], σ) = some (some (vI (1 : Int32)), σ) := by
  refine (e_n 3 (fr' := (37, 5, [some (vR 5 0 0), some (vI x1)], [vI x1, vR 5 0 8], σ)) rfl).trans ?_
  refine (e_a (A := (37, 6, [some (vR 5 0 0), some (vI x1)], [vI (σ.1 5 0 7 (x1).toNatClampNeg)], σ)) rfl h1).trans ?_
  refine (e_n 1 (fr' := (37, 7, [some (vR 5 0 0), some (vI x1)], [vI (-1 : Int32), vI (σ.1 5 0 7 (x1).toNatClampNeg)], σ)) rfl).trans ?_
  refine (e_f (B := (37, 10, [some (vR 5 0 0), some (vI x1)], [], σ)) rfl h2).trans ?_
  refine (e_n 3 (fr' := (37, 15, [some (vR 5 0 0), some (vI x1)], [vI x1, vR 5 0 9], σ)) rfl).trans ?_
  refine (e_a (A := (37, 16, [some (vR 5 0 0), some (vI x1)], [vI (σ.1 5 0 8 (x1).toNatClampNeg)], σ)) rfl h1).trans ?_
  refine (e_n 1 (fr' := (37, 17, [some (vR 5 0 0), some (vI x1)], [vI (-1 : Int32), vI (σ.1 5 0 8 (x1).toNatClampNeg)], σ)) rfl).trans ?_
  refine (e_f (B := (37, 20, [some (vR 5 0 0), some (vI x1)], [], σ)) rfl h3).trans ?_
  refine (e_n 3 (fr' := (37, 25, [some (vR 5 0 0), some (vI x1)], [vI x1, vR 5 0 8], σ)) rfl).trans ?_
  refine (e_a (A := (37, 26, [some (vR 5 0 0), some (vI x1)], [vI (σ.1 5 0 7 (x1).toNatClampNeg)], σ)) rfl h1).trans ?_
  refine (e_n 3 (fr' := (37, 31, [some (vR 5 0 0), some (vI x1)], [vI x1, vR 5 0 9, vI (σ.1 5 0 7 (x1).toNatClampNeg)], σ)) rfl).trans ?_
  refine (e_a (A := (37, 32, [some (vR 5 0 0), some (vI x1)], [vI (σ.1 5 0 8 (x1).toNatClampNeg), vI (σ.1 5 0 7 (x1).toNatClampNeg)], σ)) rfl h1).trans ?_
  refine (e_f (B := (37, 35, [some (vR 5 0 0), some (vI x1)], [], σ)) rfl h4).trans ?_
  refine (e_n 2 (fr' := (37, 40, [some (vR 5 0 0), some (vI x1)], [vI (1 : Int32)], σ)) rfl).trans ?_
  exact e_r rfl
set_option maxRecDepth 20000 in
theorem g38_0_0 (C : pmC) {σ : pmS} {l1 : Option pmV} {l2 : Option pmV}  : pq_Rn C (38, 0, [some (vR 5 0 0), l1, l2], [], σ) = pq_Rn C (38, 4, [some (vR 5 0 0), some (vI (0 : Int32)), some (vI (0 : Int32))], [], σ) := by
  exact e_n 4 rfl
set_option maxRecDepth 20000 in
theorem g38_4_0 (C : pmC) {σ : pmS} {x1 : Int32} {x2 : Int32} (h1 : (σ.1 5 0 9 0) ≤ x2) : pq_Rn C (38, 4, [some (vR 5 0 0), some (vI x1), some (vI x2)], [], σ) = some (some (vI x1), σ) := by
  refine (e_n 3 (fr' := (38, 9, [some (vR 5 0 0), some (vI x1), some (vI x2)], [vI (σ.1 5 0 9 0), vI x2], σ)) rfl).trans ?_
  refine (e_t (A := (38, 29, [some (vR 5 0 0), some (vI x1), some (vI x2)], [], σ)) rfl h1).trans ?_
  refine (e_n 1 (fr' := (38, 30, [some (vR 5 0 0), some (vI x1), some (vI x2)], [vI x1], σ)) rfl).trans ?_
  exact e_r rfl
set_option maxRecDepth 20000 in
theorem g38_4_1 (C : pmC) {σ : pmS} {x1 : Int32} {x2 : Int32} {σ1 : pmS} {r1 : Int32} (h1 : ¬ (σ.1 5 0 9 0) ≤ x2) (h2 : C 37 [vR 5 0 0, vI x2] σ = some (some (vI r1), σ1)) (h3 : r1 = 0) : pq_Rn C (38, 4, [some (vR 5 0 0), some (vI x1), some (vI x2)], [], σ) = pq_Rn C (38, 4, [some (vR 5 0 0), some (vI x1), some (vI (x2 + (1 : Int32)))], [], σ1) := by
  refine (e_n 3 (fr' := (38, 9, [some (vR 5 0 0), some (vI x1), some (vI x2)], [vI (σ.1 5 0 9 0), vI x2], σ)) rfl).trans ?_
  refine (e_f (B := (38, 12, [some (vR 5 0 0), some (vI x1), some (vI x2)], [], σ)) rfl h1).trans ?_
  refine (e_n 2 (fr' := (38, 14, [some (vR 5 0 0), some (vI x1), some (vI x2)], [vI x2, vR 5 0 0], σ)) rfl).trans ?_
  refine (e_ci (m := 38) (pc := 17) (ls := [some (vR 5 0 0), some (vI x1), some (vI x2)]) (rest := []) rfl h2).trans ?_
  refine (e_t (A := (38, 23, [some (vR 5 0 0), some (vI x1), some (vI x2)], [], σ1)) rfl h3).trans ?_
  exact e_n 2 rfl
set_option maxRecDepth 20000 in
theorem g38_4_2 (C : pmC) {σ : pmS} {x1 : Int32} {x2 : Int32} {σ1 : pmS} {r1 : Int32} (h1 : ¬ (σ.1 5 0 9 0) ≤ x2) (h2 : C 37 [vR 5 0 0, vI x2] σ = some (some (vI r1), σ1)) (h3 : ¬ r1 = 0) : pq_Rn C (38, 4, [some (vR 5 0 0), some (vI x1), some (vI x2)], [], σ) = pq_Rn C (38, 4, [some (vR 5 0 0), some (vI (x1 + (1 : Int32))), some (vI (x2 + (1 : Int32)))], [], σ1) := by
  refine (e_n 3 (fr' := (38, 9, [some (vR 5 0 0), some (vI x1), some (vI x2)], [vI (σ.1 5 0 9 0), vI x2], σ)) rfl).trans ?_
  refine (e_f (B := (38, 12, [some (vR 5 0 0), some (vI x1), some (vI x2)], [], σ)) rfl h1).trans ?_
  refine (e_n 2 (fr' := (38, 14, [some (vR 5 0 0), some (vI x1), some (vI x2)], [vI x2, vR 5 0 0], σ)) rfl).trans ?_
  refine (e_ci (m := 38) (pc := 17) (ls := [some (vR 5 0 0), some (vI x1), some (vI x2)]) (rest := []) rfl h2).trans ?_
  refine (e_f (B := (38, 20, [some (vR 5 0 0), some (vI x1), some (vI x2)], [], σ1)) rfl h3).trans ?_
  exact e_n 3 rfl
set_option maxRecDepth 20000 in
theorem g39_0_0 (C : pmC) {σ : pmS} {l1 : Option pmV} {l2 : Option pmV}  : pq_Rn C (39, 0, [some (vR 5 0 0), l1, l2], [], σ) = pq_Rn C (39, 4, [some (vR 5 0 0), some (vI (0 : Int32)), some (vI (0 : Int32))], [], σ) := by
  exact e_n 4 rfl
set_option maxRecDepth 20000 in
theorem g39_4_0 (C : pmC) {σ : pmS} {x1 : Int32} {x2 : Int32} (h1 : (σ.1 5 0 9 0) ≤ x2) : pq_Rn C (39, 4, [some (vR 5 0 0), some (vI x1), some (vI x2)], [], σ) = some (some (vI x1), σ) := by
  refine (e_n 3 (fr' := (39, 9, [some (vR 5 0 0), some (vI x1), some (vI x2)], [vI (σ.1 5 0 9 0), vI x2], σ)) rfl).trans ?_
  refine (e_t (A := (39, 31, [some (vR 5 0 0), some (vI x1), some (vI x2)], [], σ)) rfl h1).trans ?_
  refine (e_n 1 (fr' := (39, 32, [some (vR 5 0 0), some (vI x1), some (vI x2)], [vI x1], σ)) rfl).trans ?_
  exact e_r rfl
set_option maxRecDepth 20000 in
theorem g39_4_1 (C : pmC) {σ : pmS} {x1 : Int32} {x2 : Int32} (h1 : ¬ (σ.1 5 0 9 0) ≤ x2) (h2 : vp_in x2 48) (h3 : (σ.1 5 0 7 (x2).toNatClampNeg) = (-1 : Int32)) : pq_Rn C (39, 4, [some (vR 5 0 0), some (vI x1), some (vI x2)], [], σ) = pq_Rn C (39, 4, [some (vR 5 0 0), some (vI (x1 + (1 : Int32))), some (vI (x2 + (1 : Int32)))], [], σ) := by
  refine (e_n 3 (fr' := (39, 9, [some (vR 5 0 0), some (vI x1), some (vI x2)], [vI (σ.1 5 0 9 0), vI x2], σ)) rfl).trans ?_
  refine (e_f (B := (39, 12, [some (vR 5 0 0), some (vI x1), some (vI x2)], [], σ)) rfl h1).trans ?_
  refine (e_n 3 (fr' := (39, 17, [some (vR 5 0 0), some (vI x1), some (vI x2)], [vI x2, vR 5 0 8], σ)) rfl).trans ?_
  refine (e_a (A := (39, 18, [some (vR 5 0 0), some (vI x1), some (vI x2)], [vI (σ.1 5 0 7 (x2).toNatClampNeg)], σ)) rfl h2).trans ?_
  refine (e_n 1 (fr' := (39, 19, [some (vR 5 0 0), some (vI x1), some (vI x2)], [vI (-1 : Int32), vI (σ.1 5 0 7 (x2).toNatClampNeg)], σ)) rfl).trans ?_
  refine (e_t (A := (39, 22, [some (vR 5 0 0), some (vI x1), some (vI x2)], [], σ)) rfl h3).trans ?_
  exact e_n 3 rfl
set_option maxRecDepth 20000 in
theorem g39_4_2 (C : pmC) {σ : pmS} {x1 : Int32} {x2 : Int32} (h1 : ¬ (σ.1 5 0 9 0) ≤ x2) (h2 : vp_in x2 48) (h3 : ¬ (σ.1 5 0 7 (x2).toNatClampNeg) = (-1 : Int32)) : pq_Rn C (39, 4, [some (vR 5 0 0), some (vI x1), some (vI x2)], [], σ) = pq_Rn C (39, 4, [some (vR 5 0 0), some (vI x1), some (vI (x2 + (1 : Int32)))], [], σ) := by
  refine (e_n 3 (fr' := (39, 9, [some (vR 5 0 0), some (vI x1), some (vI x2)], [vI (σ.1 5 0 9 0), vI x2], σ)) rfl).trans ?_
  refine (e_f (B := (39, 12, [some (vR 5 0 0), some (vI x1), some (vI x2)], [], σ)) rfl h1).trans ?_
  refine (e_n 3 (fr' := (39, 17, [some (vR 5 0 0), some (vI x1), some (vI x2)], [vI x2, vR 5 0 8], σ)) rfl).trans ?_
  refine (e_a (A := (39, 18, [some (vR 5 0 0), some (vI x1), some (vI x2)], [vI (σ.1 5 0 7 (x2).toNatClampNeg)], σ)) rfl h2).trans ?_
  refine (e_n 1 (fr' := (39, 19, [some (vR 5 0 0), some (vI x1), some (vI x2)], [vI (-1 : Int32), vI (σ.1 5 0 7 (x2).toNatClampNeg)], σ)) rfl).trans ?_
  refine (e_f (B := (39, 25, [some (vR 5 0 0), some (vI x1), some (vI x2)], [], σ)) rfl h3).trans ?_
  exact e_n 2 rfl
set_option maxRecDepth 20000 in
theorem g40_0_0 (C : pmC) {σ : pmS} {w1 : Int64} {x3 : Int32} {l4 : Option pmV} (h1 : ((σ.1 6 0 1 0) + x3) ≤ (60 : Int32)) : pq_Rn C (40, 0, [some (vR 6 0 0), some (vL w1), none, some (vI x3), l4], [], σ) = pq_Rn C (40, 18, [some (vR 6 0 0), some (vL w1), none, some (vI x3), some (vI (x3 - (1 : Int32)))], [], σ) := by
  refine (e_n 5 (fr' := (40, 8, [some (vR 6 0 0), some (vL w1), none, some (vI x3), l4], [vI (60 : Int32), vI ((σ.1 6 0 1 0) + x3)], σ)) rfl).trans ?_
  refine (e_t (A := (40, 13, [some (vR 6 0 0), some (vL w1), none, some (vI x3), l4], [], σ)) rfl h1).trans ?_
  exact e_n 4 rfl
set_option maxRecDepth 20000 in
theorem g40_0_1 (C : pmC) {σ : pmS} {w1 : Int64} {x3 : Int32} {l4 : Option pmV} (h1 : ¬ ((σ.1 6 0 1 0) + x3) ≤ (60 : Int32)) : pq_Rn C (40, 0, [some (vR 6 0 0), some (vL w1), none, some (vI x3), l4], [], σ) = some (some (vI (0 : Int32)), σ) := by
  refine (e_n 5 (fr' := (40, 8, [some (vR 6 0 0), some (vL w1), none, some (vI x3), l4], [vI (60 : Int32), vI ((σ.1 6 0 1 0) + x3)], σ)) rfl).trans ?_
  refine (e_f (B := (40, 11, [some (vR 6 0 0), some (vL w1), none, some (vI x3), l4], [], σ)) rfl h1).trans ?_
  refine (e_n 1 (fr' := (40, 12, [some (vR 6 0 0), some (vL w1), none, some (vI x3), l4], [vI (0 : Int32)], σ)) rfl).trans ?_
  exact e_r rfl
set_option maxRecDepth 20000 in
theorem g40_18_0 (C : pmC) {σ : pmS} {w1 : Int64} {l3 : Option pmV} {x4 : Int32} (h1 : x4 < 0) : pq_Rn C (40, 18, [some (vR 6 0 0), some (vL w1), none, l3, some (vI x4)], [], σ) = some (some (vI (1 : Int32)), σ) := by
  refine (e_n 1 (fr' := (40, 20, [some (vR 6 0 0), some (vL w1), none, l3, some (vI x4)], [vI x4], σ)) rfl).trans ?_
  refine (e_t (A := (40, 60, [some (vR 6 0 0), some (vL w1), none, l3, some (vI x4)], [], σ)) rfl h1).trans ?_
  refine (e_n 1 (fr' := (40, 61, [some (vR 6 0 0), some (vL w1), none, l3, some (vI x4)], [vI (1 : Int32)], σ)) rfl).trans ?_
  exact e_r rfl
set_option maxRecDepth 20000 in
theorem g40_18_1 (C : pmC) {σ : pmS} {w1 : Int64} {l3 : Option pmV} {x4 : Int32} (h1 : ¬ x4 < 0) (h2 : vp_in (σ.1 6 0 1 0) 60) : pq_Rn C (40, 18, [some (vR 6 0 0), some (vL w1), none, l3, some (vI x4)], [], σ) = pq_Rn C (40, 18, [some (vR 6 0 0), some (vL w1), none, l3, some (vI (x4 + (-1 : Int32)))], [], (pm_wi (pm_wi σ 6 0 0 ((σ.1 6 0 1 0)).toNatClampNeg ((((w1).toUInt64 >>> ((((8 : Int32) * x4)).toInt64.toUInt64 &&& Int64.toUInt64 63)).toInt64 &&& (255 : Int64))).toInt32) 6 0 1 0 ((σ.1 6 0 1 0) + (1 : Int32)))) := by
  refine (e_n 1 (fr' := (40, 20, [some (vR 6 0 0), some (vL w1), none, l3, some (vI x4)], [vI x4], σ)) rfl).trans ?_
  refine (e_f (B := (40, 23, [some (vR 6 0 0), some (vL w1), none, l3, some (vI x4)], [], σ)) rfl h1).trans ?_
  refine (e_n 12 (fr' := (40, 43, [some (vR 6 0 0), some (vL w1), none, l3, some (vI x4)], [vI ((((w1).toUInt64 >>> ((((8 : Int32) * x4)).toInt64.toUInt64 &&& Int64.toUInt64 63)).toInt64 &&& (255 : Int64))).toInt32, vI (σ.1 6 0 1 0), vR 6 0 1], σ)) rfl).trans ?_
  refine (e_a (A := (40, 44, [some (vR 6 0 0), some (vL w1), none, l3, some (vI x4)], [], (pm_wi σ 6 0 0 ((σ.1 6 0 1 0)).toNatClampNeg ((((w1).toUInt64 >>> ((((8 : Int32) * x4)).toInt64.toUInt64 &&& Int64.toUInt64 63)).toInt64 &&& (255 : Int64))).toInt32))) rfl h2).trans ?_
  exact e_n 8 rfl
set_option maxRecDepth 20000 in
theorem g41_0_0 (C : pmC) {σ : pmS} {σ1 : pmS} {r1 : Int32} {σ2 : pmS} {r2 : Int32} {σ3 : pmS} {r3 : Int32} (h1 : C 43 [vR 6 0 0] (pm_wi σ 6 0 2 0 (1 : Int32)) = some (some (vI r1), σ1)) (h2 : r1 = (-1 : Int32)) (h3 : C 45 [vR 6 0 0] (pm_wi (pm_wi σ1 6 0 3 0 r1) 6 0 2 0 (2 : Int32)) = some (some (vI r2), σ2)) (h4 : r2 = (-1 : Int32)) (h5 : C 46 [vR 6 0 0] (pm_wi (pm_wi σ2 6 0 3 0 r2) 6 0 2 0 (3 : Int32)) = some (some (vI r3), σ3)) (h6 : r3 = (-1 : Int32)) : pq_Rn C (41, 0, [some (vR 6 0 0)], [], σ) = some (none, (pm_wi (pm_wi σ3 6 0 3 0 r3) 6 0 2 0 (0 : Int32))) := by
  refine (e_n 5 (fr' := (41, 7, [some (vR 6 0 0)], [vR 6 0 0, vR 6 0 0], (pm_wi σ 6 0 2 0 (1 : Int32)))) rfl).trans ?_
  refine (e_ci (m := 41) (pc := 10) (ls := [some (vR 6 0 0)]) (rest := [vR 6 0 0]) rfl h1).trans ?_
  refine (e_n 4 (fr' := (41, 18, [some (vR 6 0 0)], [vI (-1 : Int32), vI r1], (pm_wi σ1 6 0 3 0 r1))) rfl).trans ?_
  refine (e_t (A := (41, 21, [some (vR 6 0 0)], [], (pm_wi σ1 6 0 3 0 r1))) rfl h2).trans ?_
  refine (e_n 5 (fr' := (41, 28, [some (vR 6 0 0)], [vR 6 0 0, vR 6 0 0], (pm_wi (pm_wi σ1 6 0 3 0 r1) 6 0 2 0 (2 : Int32)))) rfl).trans ?_
  refine (e_ci (m := 41) (pc := 31) (ls := [some (vR 6 0 0)]) (rest := [vR 6 0 0]) rfl h3).trans ?_
  refine (e_n 4 (fr' := (41, 39, [some (vR 6 0 0)], [vI (-1 : Int32), vI r2], (pm_wi σ2 6 0 3 0 r2))) rfl).trans ?_
  refine (e_t (A := (41, 42, [some (vR 6 0 0)], [], (pm_wi σ2 6 0 3 0 r2))) rfl h4).trans ?_
  refine (e_n 5 (fr' := (41, 49, [some (vR 6 0 0)], [vR 6 0 0, vR 6 0 0], (pm_wi (pm_wi σ2 6 0 3 0 r2) 6 0 2 0 (3 : Int32)))) rfl).trans ?_
  refine (e_ci (m := 41) (pc := 52) (ls := [some (vR 6 0 0)]) (rest := [vR 6 0 0]) rfl h5).trans ?_
  refine (e_n 4 (fr' := (41, 60, [some (vR 6 0 0)], [vI (-1 : Int32), vI r3], (pm_wi σ3 6 0 3 0 r3))) rfl).trans ?_
  refine (e_t (A := (41, 63, [some (vR 6 0 0)], [], (pm_wi σ3 6 0 3 0 r3))) rfl h6).trans ?_
  refine (e_n 3 (fr' := (41, 68, [some (vR 6 0 0)], [], (pm_wi (pm_wi σ3 6 0 3 0 r3) 6 0 2 0 (0 : Int32)))) rfl).trans ?_
  exact e_r rfl
set_option maxRecDepth 20000 in
theorem g41_0_1 (C : pmC) {σ : pmS} {σ1 : pmS} {r1 : Int32} {σ2 : pmS} {r2 : Int32} {σ3 : pmS} {r3 : Int32} (h1 : C 43 [vR 6 0 0] (pm_wi σ 6 0 2 0 (1 : Int32)) = some (some (vI r1), σ1)) (h2 : r1 = (-1 : Int32)) (h3 : C 45 [vR 6 0 0] (pm_wi (pm_wi σ1 6 0 3 0 r1) 6 0 2 0 (2 : Int32)) = some (some (vI r2), σ2)) (h4 : r2 = (-1 : Int32)) (h5 : C 46 [vR 6 0 0] (pm_wi (pm_wi σ2 6 0 3 0 r2) 6 0 2 0 (3 : Int32)) = some (some (vI r3), σ3)) (h6 : ¬ r3 = (-1 : Int32)) : pq_Rn C (41, 0, [some (vR 6 0 0)], [], σ) = some (none, (pm_wi σ3 6 0 3 0 r3)) := by
  refine (e_n 5 (fr' := (41, 7, [some (vR 6 0 0)], [vR 6 0 0, vR 6 0 0], (pm_wi σ 6 0 2 0 (1 : Int32)))) rfl).trans ?_
  refine (e_ci (m := 41) (pc := 10) (ls := [some (vR 6 0 0)]) (rest := [vR 6 0 0]) rfl h1).trans ?_
  refine (e_n 4 (fr' := (41, 18, [some (vR 6 0 0)], [vI (-1 : Int32), vI r1], (pm_wi σ1 6 0 3 0 r1))) rfl).trans ?_
  refine (e_t (A := (41, 21, [some (vR 6 0 0)], [], (pm_wi σ1 6 0 3 0 r1))) rfl h2).trans ?_
  refine (e_n 5 (fr' := (41, 28, [some (vR 6 0 0)], [vR 6 0 0, vR 6 0 0], (pm_wi (pm_wi σ1 6 0 3 0 r1) 6 0 2 0 (2 : Int32)))) rfl).trans ?_
  refine (e_ci (m := 41) (pc := 31) (ls := [some (vR 6 0 0)]) (rest := [vR 6 0 0]) rfl h3).trans ?_
  refine (e_n 4 (fr' := (41, 39, [some (vR 6 0 0)], [vI (-1 : Int32), vI r2], (pm_wi σ2 6 0 3 0 r2))) rfl).trans ?_
  refine (e_t (A := (41, 42, [some (vR 6 0 0)], [], (pm_wi σ2 6 0 3 0 r2))) rfl h4).trans ?_
  refine (e_n 5 (fr' := (41, 49, [some (vR 6 0 0)], [vR 6 0 0, vR 6 0 0], (pm_wi (pm_wi σ2 6 0 3 0 r2) 6 0 2 0 (3 : Int32)))) rfl).trans ?_
  refine (e_ci (m := 41) (pc := 52) (ls := [some (vR 6 0 0)]) (rest := [vR 6 0 0]) rfl h5).trans ?_
  refine (e_n 4 (fr' := (41, 60, [some (vR 6 0 0)], [vI (-1 : Int32), vI r3], (pm_wi σ3 6 0 3 0 r3))) rfl).trans ?_
  refine (e_f (B := (41, 68, [some (vR 6 0 0)], [], (pm_wi σ3 6 0 3 0 r3))) rfl h6).trans ?_
  exact e_r rfl
set_option maxRecDepth 20000 in
theorem g41_0_2 (C : pmC) {σ : pmS} {σ1 : pmS} {r1 : Int32} {σ2 : pmS} {r2 : Int32} (h1 : C 43 [vR 6 0 0] (pm_wi σ 6 0 2 0 (1 : Int32)) = some (some (vI r1), σ1)) (h2 : r1 = (-1 : Int32)) (h3 : C 45 [vR 6 0 0] (pm_wi (pm_wi σ1 6 0 3 0 r1) 6 0 2 0 (2 : Int32)) = some (some (vI r2), σ2)) (h4 : ¬ r2 = (-1 : Int32)) (h5 : r2 = (-1 : Int32)) : pq_Rn C (41, 0, [some (vR 6 0 0)], [], σ) = some (none, (pm_wi (pm_wi σ2 6 0 3 0 r2) 6 0 2 0 (0 : Int32))) := by
  refine (e_n 5 (fr' := (41, 7, [some (vR 6 0 0)], [vR 6 0 0, vR 6 0 0], (pm_wi σ 6 0 2 0 (1 : Int32)))) rfl).trans ?_
  refine (e_ci (m := 41) (pc := 10) (ls := [some (vR 6 0 0)]) (rest := [vR 6 0 0]) rfl h1).trans ?_
  refine (e_n 4 (fr' := (41, 18, [some (vR 6 0 0)], [vI (-1 : Int32), vI r1], (pm_wi σ1 6 0 3 0 r1))) rfl).trans ?_
  refine (e_t (A := (41, 21, [some (vR 6 0 0)], [], (pm_wi σ1 6 0 3 0 r1))) rfl h2).trans ?_
  refine (e_n 5 (fr' := (41, 28, [some (vR 6 0 0)], [vR 6 0 0, vR 6 0 0], (pm_wi (pm_wi σ1 6 0 3 0 r1) 6 0 2 0 (2 : Int32)))) rfl).trans ?_
  refine (e_ci (m := 41) (pc := 31) (ls := [some (vR 6 0 0)]) (rest := [vR 6 0 0]) rfl h3).trans ?_
  refine (e_n 4 (fr' := (41, 39, [some (vR 6 0 0)], [vI (-1 : Int32), vI r2], (pm_wi σ2 6 0 3 0 r2))) rfl).trans ?_
  refine (e_f (B := (41, 55, [some (vR 6 0 0)], [], (pm_wi σ2 6 0 3 0 r2))) rfl h4).trans ?_
  refine (e_n 3 (fr' := (41, 60, [some (vR 6 0 0)], [vI (-1 : Int32), vI r2], (pm_wi σ2 6 0 3 0 r2))) rfl).trans ?_
  refine (e_t (A := (41, 63, [some (vR 6 0 0)], [], (pm_wi σ2 6 0 3 0 r2))) rfl h5).trans ?_
  refine (e_n 3 (fr' := (41, 68, [some (vR 6 0 0)], [], (pm_wi (pm_wi σ2 6 0 3 0 r2) 6 0 2 0 (0 : Int32)))) rfl).trans ?_
  exact e_r rfl
set_option maxRecDepth 20000 in
theorem g41_0_3 (C : pmC) {σ : pmS} {σ1 : pmS} {r1 : Int32} {σ2 : pmS} {r2 : Int32} (h1 : C 43 [vR 6 0 0] (pm_wi σ 6 0 2 0 (1 : Int32)) = some (some (vI r1), σ1)) (h2 : r1 = (-1 : Int32)) (h3 : C 45 [vR 6 0 0] (pm_wi (pm_wi σ1 6 0 3 0 r1) 6 0 2 0 (2 : Int32)) = some (some (vI r2), σ2)) (h4 : ¬ r2 = (-1 : Int32)) (h5 : ¬ r2 = (-1 : Int32)) : pq_Rn C (41, 0, [some (vR 6 0 0)], [], σ) = some (none, (pm_wi σ2 6 0 3 0 r2)) := by
  refine (e_n 5 (fr' := (41, 7, [some (vR 6 0 0)], [vR 6 0 0, vR 6 0 0], (pm_wi σ 6 0 2 0 (1 : Int32)))) rfl).trans ?_
  refine (e_ci (m := 41) (pc := 10) (ls := [some (vR 6 0 0)]) (rest := [vR 6 0 0]) rfl h1).trans ?_
  refine (e_n 4 (fr' := (41, 18, [some (vR 6 0 0)], [vI (-1 : Int32), vI r1], (pm_wi σ1 6 0 3 0 r1))) rfl).trans ?_
  refine (e_t (A := (41, 21, [some (vR 6 0 0)], [], (pm_wi σ1 6 0 3 0 r1))) rfl h2).trans ?_
  refine (e_n 5 (fr' := (41, 28, [some (vR 6 0 0)], [vR 6 0 0, vR 6 0 0], (pm_wi (pm_wi σ1 6 0 3 0 r1) 6 0 2 0 (2 : Int32)))) rfl).trans ?_
  refine (e_ci (m := 41) (pc := 31) (ls := [some (vR 6 0 0)]) (rest := [vR 6 0 0]) rfl h3).trans ?_
  refine (e_n 4 (fr' := (41, 39, [some (vR 6 0 0)], [vI (-1 : Int32), vI r2], (pm_wi σ2 6 0 3 0 r2))) rfl).trans ?_
  refine (e_f (B := (41, 55, [some (vR 6 0 0)], [], (pm_wi σ2 6 0 3 0 r2))) rfl h4).trans ?_
  refine (e_n 3 (fr' := (41, 60, [some (vR 6 0 0)], [vI (-1 : Int32), vI r2], (pm_wi σ2 6 0 3 0 r2))) rfl).trans ?_
  refine (e_f (B := (41, 68, [some (vR 6 0 0)], [], (pm_wi σ2 6 0 3 0 r2))) rfl h5).trans ?_
  exact e_r rfl
set_option maxRecDepth 20000 in
theorem g41_0_4 (C : pmC) {σ : pmS} {σ1 : pmS} {r1 : Int32} {σ2 : pmS} {r2 : Int32} (h1 : C 43 [vR 6 0 0] (pm_wi σ 6 0 2 0 (1 : Int32)) = some (some (vI r1), σ1)) (h2 : ¬ r1 = (-1 : Int32)) (h3 : r1 = (-1 : Int32)) (h4 : C 46 [vR 6 0 0] (pm_wi (pm_wi σ1 6 0 3 0 r1) 6 0 2 0 (3 : Int32)) = some (some (vI r2), σ2)) (h5 : r2 = (-1 : Int32)) : pq_Rn C (41, 0, [some (vR 6 0 0)], [], σ) = some (none, (pm_wi (pm_wi σ2 6 0 3 0 r2) 6 0 2 0 (0 : Int32))) := by
  refine (e_n 5 (fr' := (41, 7, [some (vR 6 0 0)], [vR 6 0 0, vR 6 0 0], (pm_wi σ 6 0 2 0 (1 : Int32)))) rfl).trans ?_
  refine (e_ci (m := 41) (pc := 10) (ls := [some (vR 6 0 0)]) (rest := [vR 6 0 0]) rfl h1).trans ?_
  refine (e_n 4 (fr' := (41, 18, [some (vR 6 0 0)], [vI (-1 : Int32), vI r1], (pm_wi σ1 6 0 3 0 r1))) rfl).trans ?_
  refine (e_f (B := (41, 34, [some (vR 6 0 0)], [], (pm_wi σ1 6 0 3 0 r1))) rfl h2).trans ?_
  refine (e_n 3 (fr' := (41, 39, [some (vR 6 0 0)], [vI (-1 : Int32), vI r1], (pm_wi σ1 6 0 3 0 r1))) rfl).trans ?_
  refine (e_t (A := (41, 42, [some (vR 6 0 0)], [], (pm_wi σ1 6 0 3 0 r1))) rfl h3).trans ?_
  refine (e_n 5 (fr' := (41, 49, [some (vR 6 0 0)], [vR 6 0 0, vR 6 0 0], (pm_wi (pm_wi σ1 6 0 3 0 r1) 6 0 2 0 (3 : Int32)))) rfl).trans ?_
  refine (e_ci (m := 41) (pc := 52) (ls := [some (vR 6 0 0)]) (rest := [vR 6 0 0]) rfl h4).trans ?_
  refine (e_n 4 (fr' := (41, 60, [some (vR 6 0 0)], [vI (-1 : Int32), vI r2], (pm_wi σ2 6 0 3 0 r2))) rfl).trans ?_
  refine (e_t (A := (41, 63, [some (vR 6 0 0)], [], (pm_wi σ2 6 0 3 0 r2))) rfl h5).trans ?_
  refine (e_n 3 (fr' := (41, 68, [some (vR 6 0 0)], [], (pm_wi (pm_wi σ2 6 0 3 0 r2) 6 0 2 0 (0 : Int32)))) rfl).trans ?_
  exact e_r rfl
set_option maxRecDepth 20000 in
theorem g41_0_5 (C : pmC) {σ : pmS} {σ1 : pmS} {r1 : Int32} {σ2 : pmS} {r2 : Int32} (h1 : C 43 [vR 6 0 0] (pm_wi σ 6 0 2 0 (1 : Int32)) = some (some (vI r1), σ1)) (h2 : ¬ r1 = (-1 : Int32)) (h3 : r1 = (-1 : Int32)) (h4 : C 46 [vR 6 0 0] (pm_wi (pm_wi σ1 6 0 3 0 r1) 6 0 2 0 (3 : Int32)) = some (some (vI r2), σ2)) (h5 : ¬ r2 = (-1 : Int32)) : pq_Rn C (41, 0, [some (vR 6 0 0)], [], σ) = some (none, (pm_wi σ2 6 0 3 0 r2)) := by
  refine (e_n 5 (fr' := (41, 7, [some (vR 6 0 0)], [vR 6 0 0, vR 6 0 0], (pm_wi σ 6 0 2 0 (1 : Int32)))) rfl).trans ?_
  refine (e_ci (m := 41) (pc := 10) (ls := [some (vR 6 0 0)]) (rest := [vR 6 0 0]) rfl h1).trans ?_
  refine (e_n 4 (fr' := (41, 18, [some (vR 6 0 0)], [vI (-1 : Int32), vI r1], (pm_wi σ1 6 0 3 0 r1))) rfl).trans ?_
  refine (e_f (B := (41, 34, [some (vR 6 0 0)], [], (pm_wi σ1 6 0 3 0 r1))) rfl h2).trans ?_
  refine (e_n 3 (fr' := (41, 39, [some (vR 6 0 0)], [vI (-1 : Int32), vI r1], (pm_wi σ1 6 0 3 0 r1))) rfl).trans ?_
  refine (e_t (A := (41, 42, [some (vR 6 0 0)], [], (pm_wi σ1 6 0 3 0 r1))) rfl h3).trans ?_
  refine (e_n 5 (fr' := (41, 49, [some (vR 6 0 0)], [vR 6 0 0, vR 6 0 0], (pm_wi (pm_wi σ1 6 0 3 0 r1) 6 0 2 0 (3 : Int32)))) rfl).trans ?_
  refine (e_ci (m := 41) (pc := 52) (ls := [some (vR 6 0 0)]) (rest := [vR 6 0 0]) rfl h4).trans ?_
  refine (e_n 4 (fr' := (41, 60, [some (vR 6 0 0)], [vI (-1 : Int32), vI r2], (pm_wi σ2 6 0 3 0 r2))) rfl).trans ?_
  refine (e_f (B := (41, 68, [some (vR 6 0 0)], [], (pm_wi σ2 6 0 3 0 r2))) rfl h5).trans ?_
  exact e_r rfl
set_option maxRecDepth 20000 in
theorem g41_0_6 (C : pmC) {σ : pmS} {σ1 : pmS} {r1 : Int32} (h1 : C 43 [vR 6 0 0] (pm_wi σ 6 0 2 0 (1 : Int32)) = some (some (vI r1), σ1)) (h2 : ¬ r1 = (-1 : Int32)) (h3 : ¬ r1 = (-1 : Int32)) (h4 : r1 = (-1 : Int32)) : pq_Rn C (41, 0, [some (vR 6 0 0)], [], σ) = some (none, (pm_wi (pm_wi σ1 6 0 3 0 r1) 6 0 2 0 (0 : Int32))) := by
  refine (e_n 5 (fr' := (41, 7, [some (vR 6 0 0)], [vR 6 0 0, vR 6 0 0], (pm_wi σ 6 0 2 0 (1 : Int32)))) rfl).trans ?_
  refine (e_ci (m := 41) (pc := 10) (ls := [some (vR 6 0 0)]) (rest := [vR 6 0 0]) rfl h1).trans ?_
  refine (e_n 4 (fr' := (41, 18, [some (vR 6 0 0)], [vI (-1 : Int32), vI r1], (pm_wi σ1 6 0 3 0 r1))) rfl).trans ?_
  refine (e_f (B := (41, 34, [some (vR 6 0 0)], [], (pm_wi σ1 6 0 3 0 r1))) rfl h2).trans ?_
  refine (e_n 3 (fr' := (41, 39, [some (vR 6 0 0)], [vI (-1 : Int32), vI r1], (pm_wi σ1 6 0 3 0 r1))) rfl).trans ?_
  refine (e_f (B := (41, 55, [some (vR 6 0 0)], [], (pm_wi σ1 6 0 3 0 r1))) rfl h3).trans ?_
  refine (e_n 3 (fr' := (41, 60, [some (vR 6 0 0)], [vI (-1 : Int32), vI r1], (pm_wi σ1 6 0 3 0 r1))) rfl).trans ?_
  refine (e_t (A := (41, 63, [some (vR 6 0 0)], [], (pm_wi σ1 6 0 3 0 r1))) rfl h4).trans ?_
  refine (e_n 3 (fr' := (41, 68, [some (vR 6 0 0)], [], (pm_wi (pm_wi σ1 6 0 3 0 r1) 6 0 2 0 (0 : Int32)))) rfl).trans ?_
  exact e_r rfl
set_option maxRecDepth 20000 in
theorem g41_0_7 (C : pmC) {σ : pmS} {σ1 : pmS} {r1 : Int32} (h1 : C 43 [vR 6 0 0] (pm_wi σ 6 0 2 0 (1 : Int32)) = some (some (vI r1), σ1)) (h2 : ¬ r1 = (-1 : Int32)) (h3 : ¬ r1 = (-1 : Int32)) (h4 : ¬ r1 = (-1 : Int32)) : pq_Rn C (41, 0, [some (vR 6 0 0)], [], σ) = some (none, (pm_wi σ1 6 0 3 0 r1)) := by
  refine (e_n 5 (fr' := (41, 7, [some (vR 6 0 0)], [vR 6 0 0, vR 6 0 0], (pm_wi σ 6 0 2 0 (1 : Int32)))) rfl).trans ?_
  refine (e_ci (m := 41) (pc := 10) (ls := [some (vR 6 0 0)]) (rest := [vR 6 0 0]) rfl h1).trans ?_
  refine (e_n 4 (fr' := (41, 18, [some (vR 6 0 0)], [vI (-1 : Int32), vI r1], (pm_wi σ1 6 0 3 0 r1))) rfl).trans ?_
  refine (e_f (B := (41, 34, [some (vR 6 0 0)], [], (pm_wi σ1 6 0 3 0 r1))) rfl h2).trans ?_
  refine (e_n 3 (fr' := (41, 39, [some (vR 6 0 0)], [vI (-1 : Int32), vI r1], (pm_wi σ1 6 0 3 0 r1))) rfl).trans ?_
  refine (e_f (B := (41, 55, [some (vR 6 0 0)], [], (pm_wi σ1 6 0 3 0 r1))) rfl h3).trans ?_
  refine (e_n 3 (fr' := (41, 60, [some (vR 6 0 0)], [vI (-1 : Int32), vI r1], (pm_wi σ1 6 0 3 0 r1))) rfl).trans ?_
  refine (e_f (B := (41, 68, [some (vR 6 0 0)], [], (pm_wi σ1 6 0 3 0 r1))) rfl h4).trans ?_
  exact e_r rfl
set_option maxRecDepth 20000 in
theorem g42_0_0 (C : pmC) {σ : pmS} {o1 : Nat} {l2 : Option pmV}  : pq_Rn C (42, 0, [some (vR 6 0 0), some (vR 2 o1 0), l2], [], σ) = pq_Rn C (42, 2, [some (vR 6 0 0), some (vR 2 o1 0), some (vI (0 : Int32))], [], σ) := by
  exact e_n 2 rfl
set_option maxRecDepth 20000 in
theorem g42_2_0 (C : pmC) {σ : pmS} {o1 : Nat} {x2 : Int32} (h1 : (σ.1 6 0 1 0) ≤ (x2 + (4 : Int32))) : pq_Rn C (42, 2, [some (vR 6 0 0), some (vR 2 o1 0), some (vI x2)], [], σ) = some (none, σ) := by
  refine (e_n 5 (fr' := (42, 9, [some (vR 6 0 0), some (vR 2 o1 0), some (vI x2)], [vI (σ.1 6 0 1 0), vI (x2 + (4 : Int32))], σ)) rfl).trans ?_
  refine (e_t (A := (42, 53, [some (vR 6 0 0), some (vR 2 o1 0), some (vI x2)], [], σ)) rfl h1).trans ?_
  exact e_r rfl
set_option maxRecDepth 20000 in
theorem g42_2_1 (C : pmC) {σ : pmS} {o1 : Nat} {x2 : Int32} {σ1 : pmS} (h1 : ¬ (σ.1 6 0 1 0) ≤ (x2 + (4 : Int32))) (h2 : vp_in x2 60) (h3 : vp_in (x2 + (2 : Int32)) 60) (h4 : vp_in (x2 + (4 : Int32)) 60) (h5 : C 8 [vR 2 o1 0, vI ((σ.1 6 0 0 (x2).toNatClampNeg) - (97 : Int32)), vI ((σ.1 6 0 0 ((x2 + (2 : Int32))).toNatClampNeg) - (97 : Int32)), vI ((σ.1 6 0 0 ((x2 + (4 : Int32))).toNatClampNeg) - (97 : Int32))] σ = some (none, σ1)) : pq_Rn C (42, 2, [some (vR 6 0 0), some (vR 2 o1 0), some (vI x2)], [], σ) = pq_Rn C (42, 2, [some (vR 6 0 0), some (vR 2 o1 0), some (vI (x2 + (6 : Int32)))], [], σ1) := by
  refine (e_n 5 (fr' := (42, 9, [some (vR 6 0 0), some (vR 2 o1 0), some (vI x2)], [vI (σ.1 6 0 1 0), vI (x2 + (4 : Int32))], σ)) rfl).trans ?_
  refine (e_f (B := (42, 12, [some (vR 6 0 0), some (vR 2 o1 0), some (vI x2)], [], σ)) rfl h1).trans ?_
  refine (e_n 4 (fr' := (42, 18, [some (vR 6 0 0), some (vR 2 o1 0), some (vI x2)], [vI x2, vR 6 0 1, vR 2 o1 0], σ)) rfl).trans ?_
  refine (e_a (A := (42, 19, [some (vR 6 0 0), some (vR 2 o1 0), some (vI x2)], [vI (σ.1 6 0 0 (x2).toNatClampNeg), vR 2 o1 0], σ)) rfl h2).trans ?_
  refine (e_n 7 (fr' := (42, 29, [some (vR 6 0 0), some (vR 2 o1 0), some (vI x2)], [vI (x2 + (2 : Int32)), vR 6 0 1, vI ((σ.1 6 0 0 (x2).toNatClampNeg) - (97 : Int32)), vR 2 o1 0], σ)) rfl).trans ?_
  refine (e_a (A := (42, 30, [some (vR 6 0 0), some (vR 2 o1 0), some (vI x2)], [vI (σ.1 6 0 0 ((x2 + (2 : Int32))).toNatClampNeg), vI ((σ.1 6 0 0 (x2).toNatClampNeg) - (97 : Int32)), vR 2 o1 0], σ)) rfl h3).trans ?_
  refine (e_n 7 (fr' := (42, 40, [some (vR 6 0 0), some (vR 2 o1 0), some (vI x2)], [vI (x2 + (4 : Int32)), vR 6 0 1, vI ((σ.1 6 0 0 ((x2 + (2 : Int32))).toNatClampNeg) - (97 : Int32)), vI ((σ.1 6 0 0 (x2).toNatClampNeg) - (97 : Int32)), vR 2 o1 0], σ)) rfl).trans ?_
  refine (e_a (A := (42, 41, [some (vR 6 0 0), some (vR 2 o1 0), some (vI x2)], [vI (σ.1 6 0 0 ((x2 + (4 : Int32))).toNatClampNeg), vI ((σ.1 6 0 0 ((x2 + (2 : Int32))).toNatClampNeg) - (97 : Int32)), vI ((σ.1 6 0 0 (x2).toNatClampNeg) - (97 : Int32)), vR 2 o1 0], σ)) rfl h4).trans ?_
  refine (e_n 2 (fr' := (42, 44, [some (vR 6 0 0), some (vR 2 o1 0), some (vI x2)], [vI ((σ.1 6 0 0 ((x2 + (4 : Int32))).toNatClampNeg) - (97 : Int32)), vI ((σ.1 6 0 0 ((x2 + (2 : Int32))).toNatClampNeg) - (97 : Int32)), vI ((σ.1 6 0 0 (x2).toNatClampNeg) - (97 : Int32)), vR 2 o1 0], σ)) rfl).trans ?_
  refine (e_cv (m := 42) (pc := 47) (ls := [some (vR 6 0 0), some (vR 2 o1 0), some (vI x2)]) (rest := []) rfl h5).trans ?_
  exact e_n 2 rfl
set_option maxRecDepth 20000 in
theorem g43_0_0 (C : pmC) {σ : pmS} {l1 : Option pmV}  : pq_Rn C (43, 0, [some (vR 6 0 0), l1], [], σ) = pq_Rn C (43, 2, [some (vR 6 0 0), some (vI (0 : Int32))], [], σ) := by
  exact e_n 2 rfl
set_option maxRecDepth 20000 in
theorem g43_2_0 (C : pmC) {σ : pmS} {x1 : Int32} (h1 : (σ.1 6 0 1 0) ≤ x1) (h2 : (σ.1 6 0 1 0) < (11 : Int32)) : pq_Rn C (43, 2, [some (vR 6 0 0), some (vI x1)], [], σ) = some (some (vI (σ.1 6 0 1 0)), σ) := by
  refine (e_n 3 (fr' := (43, 7, [some (vR 6 0 0), some (vI x1)], [vI (σ.1 6 0 1 0), vI x1], σ)) rfl).trans ?_
  refine (e_t (A := (43, 26, [some (vR 6 0 0), some (vI x1)], [], σ)) rfl h1).trans ?_
  refine (e_n 3 (fr' := (43, 32, [some (vR 6 0 0), some (vI x1)], [vI (11 : Int32), vI (σ.1 6 0 1 0)], σ)) rfl).trans ?_
  refine (e_t (A := (43, 50, [some (vR 6 0 0), some (vI x1)], [], σ)) rfl h2).trans ?_
  refine (e_n 6 (fr' := (43, 64, [some (vR 6 0 0), some (vI (0 : Int32))], [vI (σ.1 6 0 1 0)], σ)) rfl).trans ?_
  exact e_r rfl
set_option maxRecDepth 20000 in
theorem g43_2_1 (C : pmC) {σ : pmS} {x1 : Int32} (h1 : (σ.1 6 0 1 0) ≤ x1) (h2 : ¬ (σ.1 6 0 1 0) < (11 : Int32)) (h3 : ((σ.1 6 0 1 0) - (σ.1 6 0 1 0) / (6 : Int32) * (6 : Int32)) = (5 : Int32)) : pq_Rn C (43, 2, [some (vR 6 0 0), some (vI x1)], [], σ) = some (some (vI (-1 : Int32)), σ) := by
  refine (e_n 3 (fr' := (43, 7, [some (vR 6 0 0), some (vI x1)], [vI (σ.1 6 0 1 0), vI x1], σ)) rfl).trans ?_
  refine (e_t (A := (43, 26, [some (vR 6 0 0), some (vI x1)], [], σ)) rfl h1).trans ?_
  refine (e_n 3 (fr' := (43, 32, [some (vR 6 0 0), some (vI x1)], [vI (11 : Int32), vI (σ.1 6 0 1 0)], σ)) rfl).trans ?_
  refine (e_f (B := (43, 35, [some (vR 6 0 0), some (vI x1)], [], σ)) rfl h2).trans ?_
  refine (e_n 5 (fr' := (43, 43, [some (vR 6 0 0), some (vI x1)], [vI (5 : Int32), vI ((σ.1 6 0 1 0) - (σ.1 6 0 1 0) / (6 : Int32) * (6 : Int32))], σ)) rfl).trans ?_
  refine (e_t (A := (43, 46, [some (vR 6 0 0), some (vI x1)], [], σ)) rfl h3).trans ?_
  refine (e_n 7 (fr' := (43, 64, [some (vR 6 0 0), some (vI (1 : Int32))], [vI (-1 : Int32)], σ)) rfl).trans ?_
  exact e_r rfl
set_option maxRecDepth 20000 in
theorem g43_2_2 (C : pmC) {σ : pmS} {x1 : Int32} (h1 : (σ.1 6 0 1 0) ≤ x1) (h2 : ¬ (σ.1 6 0 1 0) < (11 : Int32)) (h3 : ¬ ((σ.1 6 0 1 0) - (σ.1 6 0 1 0) / (6 : Int32) * (6 : Int32)) = (5 : Int32)) : pq_Rn C (43, 2, [some (vR 6 0 0), some (vI x1)], [], σ) = some (some (vI (σ.1 6 0 1 0)), σ) := by
  refine (e_n 3 (fr' := (43, 7, [some (vR 6 0 0), some (vI x1)], [vI (σ.1 6 0 1 0), vI x1], σ)) rfl).trans ?_
  refine (e_t (A := (43, 26, [some (vR 6 0 0), some (vI x1)], [], σ)) rfl h1).trans ?_
  refine (e_n 3 (fr' := (43, 32, [some (vR 6 0 0), some (vI x1)], [vI (11 : Int32), vI (σ.1 6 0 1 0)], σ)) rfl).trans ?_
  refine (e_f (B := (43, 35, [some (vR 6 0 0), some (vI x1)], [], σ)) rfl h2).trans ?_
  refine (e_n 5 (fr' := (43, 43, [some (vR 6 0 0), some (vI x1)], [vI (5 : Int32), vI ((σ.1 6 0 1 0) - (σ.1 6 0 1 0) / (6 : Int32) * (6 : Int32))], σ)) rfl).trans ?_
  refine (e_f (B := (43, 50, [some (vR 6 0 0), some (vI x1)], [], σ)) rfl h3).trans ?_
  refine (e_n 6 (fr' := (43, 64, [some (vR 6 0 0), some (vI (0 : Int32))], [vI (σ.1 6 0 1 0)], σ)) rfl).trans ?_
  exact e_r rfl
set_option maxRecDepth 20000 in
theorem g43_2_3 (C : pmC) {σ : pmS} {x1 : Int32} {σ1 : pmS} {r1 : Int32} (h1 : ¬ (σ.1 6 0 1 0) ≤ x1) (h2 : C 44 [vR 6 0 0, vI x1] σ = some (some (vI r1), σ1)) (h3 : r1 = 0) : pq_Rn C (43, 2, [some (vR 6 0 0), some (vI x1)], [], σ) = some (some (vI x1), σ1) := by
  refine (e_n 3 (fr' := (43, 7, [some (vR 6 0 0), some (vI x1)], [vI (σ.1 6 0 1 0), vI x1], σ)) rfl).trans ?_
  refine (e_f (B := (43, 10, [some (vR 6 0 0), some (vI x1)], [], σ)) rfl h1).trans ?_
  refine (e_n 2 (fr' := (43, 12, [some (vR 6 0 0), some (vI x1)], [vI x1, vR 6 0 0], σ)) rfl).trans ?_
  refine (e_ci (m := 43) (pc := 15) (ls := [some (vR 6 0 0), some (vI x1)]) (rest := []) rfl h2).trans ?_
  refine (e_t (A := (43, 18, [some (vR 6 0 0), some (vI x1)], [], σ1)) rfl h3).trans ?_
  refine (e_n 1 (fr' := (43, 19, [some (vR 6 0 0), some (vI x1)], [vI x1], σ1)) rfl).trans ?_
  exact e_r rfl
set_option maxRecDepth 20000 in
theorem g43_2_4 (C : pmC) {σ : pmS} {x1 : Int32} {σ1 : pmS} {r1 : Int32} (h1 : ¬ (σ.1 6 0 1 0) ≤ x1) (h2 : C 44 [vR 6 0 0, vI x1] σ = some (some (vI r1), σ1)) (h3 : ¬ r1 = 0) : pq_Rn C (43, 2, [some (vR 6 0 0), some (vI x1)], [], σ) = pq_Rn C (43, 2, [some (vR 6 0 0), some (vI (x1 + (1 : Int32)))], [], σ1) := by
  refine (e_n 3 (fr' := (43, 7, [some (vR 6 0 0), some (vI x1)], [vI (σ.1 6 0 1 0), vI x1], σ)) rfl).trans ?_
  refine (e_f (B := (43, 10, [some (vR 6 0 0), some (vI x1)], [], σ)) rfl h1).trans ?_
  refine (e_n 2 (fr' := (43, 12, [some (vR 6 0 0), some (vI x1)], [vI x1, vR 6 0 0], σ)) rfl).trans ?_
  refine (e_ci (m := 43) (pc := 15) (ls := [some (vR 6 0 0), some (vI x1)]) (rest := []) rfl h2).trans ?_
  refine (e_f (B := (43, 20, [some (vR 6 0 0), some (vI x1)], [], σ1)) rfl h3).trans ?_
  exact e_n 2 rfl
set_option maxRecDepth 20000 in
theorem g44_0_0 (C : pmC) {σ : pmS} {x1 : Int32} (h1 : x1 < (47 : Int32)) (h2 : (x1 - x1 / (6 : Int32) * (6 : Int32)) = (1 : Int32)) (h3 : vp_in x1 60) (h4 : (σ.1 6 0 0 (x1).toNatClampNeg) = (43 : Int32)) : pq_Rn C (44, 0, [some (vR 6 0 0), some (vI x1)], [], σ) = pq_Rn C (44, 64, [some (vR 6 0 0), some (vI x1)], [vI (1 : Int32)], σ) := by
  refine (e_n 2 (fr' := (44, 3, [some (vR 6 0 0), some (vI x1)], [vI (47 : Int32), vI x1], σ)) rfl).trans ?_
  refine (e_t (A := (44, 8, [some (vR 6 0 0), some (vI x1)], [], σ)) rfl h1).trans ?_
  refine (e_n 3 (fr' := (44, 12, [some (vR 6 0 0), some (vI x1)], [vI (x1 - x1 / (6 : Int32) * (6 : Int32))], σ)) rfl).trans ?_
  refine (e_g (A := (44, 48, [some (vR 6 0 0), some (vI x1)], [], σ)) (off' := 36) rfl (by rw [h2]; decide) rfl).trans ?_
  refine (e_n 3 (fr' := (44, 53, [some (vR 6 0 0), some (vI x1)], [vI x1, vR 6 0 1], σ)) rfl).trans ?_
  refine (e_a (A := (44, 54, [some (vR 6 0 0), some (vI x1)], [vI (σ.1 6 0 0 (x1).toNatClampNeg)], σ)) rfl h3).trans ?_
  refine (e_n 1 (fr' := (44, 56, [some (vR 6 0 0), some (vI x1)], [vI (43 : Int32), vI (σ.1 6 0 0 (x1).toNatClampNeg)], σ)) rfl).trans ?_
  refine (e_t (A := (44, 59, [some (vR 6 0 0), some (vI x1)], [], σ)) rfl h4).trans ?_
  exact e_n 2 rfl
set_option maxRecDepth 20000 in
theorem g44_0_1 (C : pmC) {σ : pmS} {x1 : Int32} (h1 : x1 < (47 : Int32)) (h2 : (x1 - x1 / (6 : Int32) * (6 : Int32)) = (1 : Int32)) (h3 : vp_in x1 60) (h4 : ¬ (σ.1 6 0 0 (x1).toNatClampNeg) = (43 : Int32)) : pq_Rn C (44, 0, [some (vR 6 0 0), some (vI x1)], [], σ) = pq_Rn C (44, 64, [some (vR 6 0 0), some (vI x1)], [vI (0 : Int32)], σ) := by
  refine (e_n 2 (fr' := (44, 3, [some (vR 6 0 0), some (vI x1)], [vI (47 : Int32), vI x1], σ)) rfl).trans ?_
  refine (e_t (A := (44, 8, [some (vR 6 0 0), some (vI x1)], [], σ)) rfl h1).trans ?_
  refine (e_n 3 (fr' := (44, 12, [some (vR 6 0 0), some (vI x1)], [vI (x1 - x1 / (6 : Int32) * (6 : Int32))], σ)) rfl).trans ?_
  refine (e_g (A := (44, 48, [some (vR 6 0 0), some (vI x1)], [], σ)) (off' := 36) rfl (by rw [h2]; decide) rfl).trans ?_
  refine (e_n 3 (fr' := (44, 53, [some (vR 6 0 0), some (vI x1)], [vI x1, vR 6 0 1], σ)) rfl).trans ?_
  refine (e_a (A := (44, 54, [some (vR 6 0 0), some (vI x1)], [vI (σ.1 6 0 0 (x1).toNatClampNeg)], σ)) rfl h3).trans ?_
  refine (e_n 1 (fr' := (44, 56, [some (vR 6 0 0), some (vI x1)], [vI (43 : Int32), vI (σ.1 6 0 0 (x1).toNatClampNeg)], σ)) rfl).trans ?_
  refine (e_f (B := (44, 63, [some (vR 6 0 0), some (vI x1)], [], σ)) rfl h4).trans ?_
  exact e_n 1 rfl
set_option maxRecDepth 20000 in
theorem g44_0_2 (C : pmC) {σ : pmS} {x1 : Int32} (h1 : x1 < (47 : Int32)) (h2 : (x1 - x1 / (6 : Int32) * (6 : Int32)) = (2 : Int32)) (h3 : vp_in x1 60) (h4 : (σ.1 6 0 0 (x1).toNatClampNeg) < (97 : Int32)) : pq_Rn C (44, 0, [some (vR 6 0 0), some (vI x1)], [], σ) = pq_Rn C (44, 125, [some (vR 6 0 0), some (vI x1)], [], σ) := by
  refine (e_n 2 (fr' := (44, 3, [some (vR 6 0 0), some (vI x1)], [vI (47 : Int32), vI x1], σ)) rfl).trans ?_
  refine (e_t (A := (44, 8, [some (vR 6 0 0), some (vI x1)], [], σ)) rfl h1).trans ?_
  refine (e_n 3 (fr' := (44, 12, [some (vR 6 0 0), some (vI x1)], [vI (x1 - x1 / (6 : Int32) * (6 : Int32))], σ)) rfl).trans ?_
  refine (e_g (A := (44, 99, [some (vR 6 0 0), some (vI x1)], [], σ)) (off' := 87) rfl (by rw [h2]; decide) rfl).trans ?_
  refine (e_n 3 (fr' := (44, 104, [some (vR 6 0 0), some (vI x1)], [vI x1, vR 6 0 1], σ)) rfl).trans ?_
  refine (e_a (A := (44, 105, [some (vR 6 0 0), some (vI x1)], [vI (σ.1 6 0 0 (x1).toNatClampNeg)], σ)) rfl h3).trans ?_
  refine (e_n 1 (fr' := (44, 107, [some (vR 6 0 0), some (vI x1)], [vI (97 : Int32), vI (σ.1 6 0 0 (x1).toNatClampNeg)], σ)) rfl).trans ?_
  exact e_t (A := (44, 125, [some (vR 6 0 0), some (vI x1)], [], σ)) rfl h4
set_option maxRecDepth 20000 in
theorem g44_0_3 (C : pmC) {σ : pmS} {x1 : Int32} (h1 : x1 < (47 : Int32)) (h2 : (x1 - x1 / (6 : Int32) * (6 : Int32)) = (2 : Int32)) (h3 : vp_in x1 60) (h4 : ¬ (σ.1 6 0 0 (x1).toNatClampNeg) < (97 : Int32)) (h5 : (104 : Int32) < (σ.1 6 0 0 (x1).toNatClampNeg)) : pq_Rn C (44, 0, [some (vR 6 0 0), some (vI x1)], [], σ) = pq_Rn C (44, 125, [some (vR 6 0 0), some (vI x1)], [], σ) := by
  refine (e_n 2 (fr' := (44, 3, [some (vR 6 0 0), some (vI x1)], [vI (47 : Int32), vI x1], σ)) rfl).trans ?_
  refine (e_t (A := (44, 8, [some (vR 6 0 0), some (vI x1)], [], σ)) rfl h1).trans ?_
  refine (e_n 3 (fr' := (44, 12, [some (vR 6 0 0), some (vI x1)], [vI (x1 - x1 / (6 : Int32) * (6 : Int32))], σ)) rfl).trans ?_
  refine (e_g (A := (44, 99, [some (vR 6 0 0), some (vI x1)], [], σ)) (off' := 87) rfl (by rw [h2]; decide) rfl).trans ?_
  refine (e_n 3 (fr' := (44, 104, [some (vR 6 0 0), some (vI x1)], [vI x1, vR 6 0 1], σ)) rfl).trans ?_
  refine (e_a (A := (44, 105, [some (vR 6 0 0), some (vI x1)], [vI (σ.1 6 0 0 (x1).toNatClampNeg)], σ)) rfl h3).trans ?_
  refine (e_n 1 (fr' := (44, 107, [some (vR 6 0 0), some (vI x1)], [vI (97 : Int32), vI (σ.1 6 0 0 (x1).toNatClampNeg)], σ)) rfl).trans ?_
  refine (e_f (B := (44, 110, [some (vR 6 0 0), some (vI x1)], [], σ)) rfl h4).trans ?_
  refine (e_n 3 (fr' := (44, 115, [some (vR 6 0 0), some (vI x1)], [vI x1, vR 6 0 1], σ)) rfl).trans ?_
  refine (e_a (A := (44, 116, [some (vR 6 0 0), some (vI x1)], [vI (σ.1 6 0 0 (x1).toNatClampNeg)], σ)) rfl h3).trans ?_
  refine (e_n 1 (fr' := (44, 118, [some (vR 6 0 0), some (vI x1)], [vI (104 : Int32), vI (σ.1 6 0 0 (x1).toNatClampNeg)], σ)) rfl).trans ?_
  exact e_t (A := (44, 125, [some (vR 6 0 0), some (vI x1)], [], σ)) rfl h5
set_option maxRecDepth 20000 in
theorem g44_0_4 (C : pmC) {σ : pmS} {x1 : Int32} (h1 : x1 < (47 : Int32)) (h2 : (x1 - x1 / (6 : Int32) * (6 : Int32)) = (2 : Int32)) (h3 : vp_in x1 60) (h4 : ¬ (σ.1 6 0 0 (x1).toNatClampNeg) < (97 : Int32)) (h5 : ¬ (104 : Int32) < (σ.1 6 0 0 (x1).toNatClampNeg)) : pq_Rn C (44, 0, [some (vR 6 0 0), some (vI x1)], [], σ) = pq_Rn C (44, 126, [some (vR 6 0 0), some (vI x1)], [vI (1 : Int32)], σ) := by
  refine (e_n 2 (fr' := (44, 3, [some (vR 6 0 0), some (vI x1)], [vI (47 : Int32), vI x1], σ)) rfl).trans ?_
  refine (e_t (A := (44, 8, [some (vR 6 0 0), some (vI x1)], [], σ)) rfl h1).trans ?_
  refine (e_n 3 (fr' := (44, 12, [some (vR 6 0 0), some (vI x1)], [vI (x1 - x1 / (6 : Int32) * (6 : Int32))], σ)) rfl).trans ?_
  refine (e_g (A := (44, 99, [some (vR 6 0 0), some (vI x1)], [], σ)) (off' := 87) rfl (by rw [h2]; decide) rfl).trans ?_
  refine (e_n 3 (fr' := (44, 104, [some (vR 6 0 0), some (vI x1)], [vI x1, vR 6 0 1], σ)) rfl).trans ?_
  refine (e_a (A := (44, 105, [some (vR 6 0 0), some (vI x1)], [vI (σ.1 6 0 0 (x1).toNatClampNeg)], σ)) rfl h3).trans ?_
  refine (e_n 1 (fr' := (44, 107, [some (vR 6 0 0), some (vI x1)], [vI (97 : Int32), vI (σ.1 6 0 0 (x1).toNatClampNeg)], σ)) rfl).trans ?_
  refine (e_f (B := (44, 110, [some (vR 6 0 0), some (vI x1)], [], σ)) rfl h4).trans ?_
  refine (e_n 3 (fr' := (44, 115, [some (vR 6 0 0), some (vI x1)], [vI x1, vR 6 0 1], σ)) rfl).trans ?_
  refine (e_a (A := (44, 116, [some (vR 6 0 0), some (vI x1)], [vI (σ.1 6 0 0 (x1).toNatClampNeg)], σ)) rfl h3).trans ?_
  refine (e_n 1 (fr' := (44, 118, [some (vR 6 0 0), some (vI x1)], [vI (104 : Int32), vI (σ.1 6 0 0 (x1).toNatClampNeg)], σ)) rfl).trans ?_
  refine (e_f (B := (44, 121, [some (vR 6 0 0), some (vI x1)], [], σ)) rfl h5).trans ?_
  exact e_n 2 rfl
set_option maxRecDepth 20000 in
theorem g44_0_5 (C : pmC) {σ : pmS} {x1 : Int32} (h1 : x1 < (47 : Int32)) (h2 : (x1 - x1 / (6 : Int32) * (6 : Int32)) = (3 : Int32)) (h3 : vp_in x1 60) (h4 : (σ.1 6 0 0 (x1).toNatClampNeg) = (61 : Int32)) : pq_Rn C (44, 0, [some (vR 6 0 0), some (vI x1)], [], σ) = pq_Rn C (44, 81, [some (vR 6 0 0), some (vI x1)], [vI (1 : Int32)], σ) := by
  refine (e_n 2 (fr' := (44, 3, [some (vR 6 0 0), some (vI x1)], [vI (47 : Int32), vI x1], σ)) rfl).trans ?_
  refine (e_t (A := (44, 8, [some (vR 6 0 0), some (vI x1)], [], σ)) rfl h1).trans ?_
  refine (e_n 3 (fr' := (44, 12, [some (vR 6 0 0), some (vI x1)], [vI (x1 - x1 / (6 : Int32) * (6 : Int32))], σ)) rfl).trans ?_
  refine (e_g (A := (44, 65, [some (vR 6 0 0), some (vI x1)], [], σ)) (off' := 53) rfl (by rw [h2]; decide) rfl).trans ?_
  refine (e_n 3 (fr' := (44, 70, [some (vR 6 0 0), some (vI x1)], [vI x1, vR 6 0 1], σ)) rfl).trans ?_
  refine (e_a (A := (44, 71, [some (vR 6 0 0), some (vI x1)], [vI (σ.1 6 0 0 (x1).toNatClampNeg)], σ)) rfl h3).trans ?_
  refine (e_n 1 (fr' := (44, 73, [some (vR 6 0 0), some (vI x1)], [vI (61 : Int32), vI (σ.1 6 0 0 (x1).toNatClampNeg)], σ)) rfl).trans ?_
  refine (e_t (A := (44, 76, [some (vR 6 0 0), some (vI x1)], [], σ)) rfl h4).trans ?_
  exact e_n 2 rfl
set_option maxRecDepth 20000 in
theorem g44_0_6 (C : pmC) {σ : pmS} {x1 : Int32} (h1 : x1 < (47 : Int32)) (h2 : (x1 - x1 / (6 : Int32) * (6 : Int32)) = (3 : Int32)) (h3 : vp_in x1 60) (h4 : ¬ (σ.1 6 0 0 (x1).toNatClampNeg) = (61 : Int32)) : pq_Rn C (44, 0, [some (vR 6 0 0), some (vI x1)], [], σ) = pq_Rn C (44, 81, [some (vR 6 0 0), some (vI x1)], [vI (0 : Int32)], σ) := by
  refine (e_n 2 (fr' := (44, 3, [some (vR 6 0 0), some (vI x1)], [vI (47 : Int32), vI x1], σ)) rfl).trans ?_
  refine (e_t (A := (44, 8, [some (vR 6 0 0), some (vI x1)], [], σ)) rfl h1).trans ?_
  refine (e_n 3 (fr' := (44, 12, [some (vR 6 0 0), some (vI x1)], [vI (x1 - x1 / (6 : Int32) * (6 : Int32))], σ)) rfl).trans ?_
  refine (e_g (A := (44, 65, [some (vR 6 0 0), some (vI x1)], [], σ)) (off' := 53) rfl (by rw [h2]; decide) rfl).trans ?_
  refine (e_n 3 (fr' := (44, 70, [some (vR 6 0 0), some (vI x1)], [vI x1, vR 6 0 1], σ)) rfl).trans ?_
  refine (e_a (A := (44, 71, [some (vR 6 0 0), some (vI x1)], [vI (σ.1 6 0 0 (x1).toNatClampNeg)], σ)) rfl h3).trans ?_
  refine (e_n 1 (fr' := (44, 73, [some (vR 6 0 0), some (vI x1)], [vI (61 : Int32), vI (σ.1 6 0 0 (x1).toNatClampNeg)], σ)) rfl).trans ?_
  refine (e_f (B := (44, 80, [some (vR 6 0 0), some (vI x1)], [], σ)) rfl h4).trans ?_
  exact e_n 1 rfl
set_option maxRecDepth 20000 in
theorem g44_0_7 (C : pmC) {σ : pmS} {x1 : Int32} (h1 : x1 < (47 : Int32)) (h2 : (x1 - x1 / (6 : Int32) * (6 : Int32)) = (4 : Int32)) (h3 : vp_in x1 60) (h4 : (σ.1 6 0 0 (x1).toNatClampNeg) < (97 : Int32)) : pq_Rn C (44, 0, [some (vR 6 0 0), some (vI x1)], [], σ) = pq_Rn C (44, 125, [some (vR 6 0 0), some (vI x1)], [], σ) := by
  refine (e_n 2 (fr' := (44, 3, [some (vR 6 0 0), some (vI x1)], [vI (47 : Int32), vI x1], σ)) rfl).trans ?_
  refine (e_t (A := (44, 8, [some (vR 6 0 0), some (vI x1)], [], σ)) rfl h1).trans ?_
  refine (e_n 3 (fr' := (44, 12, [some (vR 6 0 0), some (vI x1)], [vI (x1 - x1 / (6 : Int32) * (6 : Int32))], σ)) rfl).trans ?_
  refine (e_g (A := (44, 99, [some (vR 6 0 0), some (vI x1)], [], σ)) (off' := 87) rfl (by rw [h2]; decide) rfl).trans ?_
  refine (e_n 3 (fr' := (44, 104, [some (vR 6 0 0), some (vI x1)], [vI x1, vR 6 0 1], σ)) rfl).trans ?_
  refine (e_a (A := (44, 105, [some (vR 6 0 0), some (vI x1)], [vI (σ.1 6 0 0 (x1).toNatClampNeg)], σ)) rfl h3).trans ?_
  refine (e_n 1 (fr' := (44, 107, [some (vR 6 0 0), some (vI x1)], [vI (97 : Int32), vI (σ.1 6 0 0 (x1).toNatClampNeg)], σ)) rfl).trans ?_
  exact e_t (A := (44, 125, [some (vR 6 0 0), some (vI x1)], [], σ)) rfl h4
set_option maxRecDepth 20000 in
theorem g44_0_8 (C : pmC) {σ : pmS} {x1 : Int32} (h1 : x1 < (47 : Int32)) (h2 : (x1 - x1 / (6 : Int32) * (6 : Int32)) = (4 : Int32)) (h3 : vp_in x1 60) (h4 : ¬ (σ.1 6 0 0 (x1).toNatClampNeg) < (97 : Int32)) (h5 : (104 : Int32) < (σ.1 6 0 0 (x1).toNatClampNeg)) : pq_Rn C (44, 0, [some (vR 6 0 0), some (vI x1)], [], σ) = pq_Rn C (44, 125, [some (vR 6 0 0), some (vI x1)], [], σ) := by
  refine (e_n 2 (fr' := (44, 3, [some (vR 6 0 0), some (vI x1)], [vI (47 : Int32), vI x1], σ)) rfl).trans ?_
  refine (e_t (A := (44, 8, [some (vR 6 0 0), some (vI x1)], [], σ)) rfl h1).trans ?_
  refine (e_n 3 (fr' := (44, 12, [some (vR 6 0 0), some (vI x1)], [vI (x1 - x1 / (6 : Int32) * (6 : Int32))], σ)) rfl).trans ?_
  refine (e_g (A := (44, 99, [some (vR 6 0 0), some (vI x1)], [], σ)) (off' := 87) rfl (by rw [h2]; decide) rfl).trans ?_
  refine (e_n 3 (fr' := (44, 104, [some (vR 6 0 0), some (vI x1)], [vI x1, vR 6 0 1], σ)) rfl).trans ?_
  refine (e_a (A := (44, 105, [some (vR 6 0 0), some (vI x1)], [vI (σ.1 6 0 0 (x1).toNatClampNeg)], σ)) rfl h3).trans ?_
  refine (e_n 1 (fr' := (44, 107, [some (vR 6 0 0), some (vI x1)], [vI (97 : Int32), vI (σ.1 6 0 0 (x1).toNatClampNeg)], σ)) rfl).trans ?_
  refine (e_f (B := (44, 110, [some (vR 6 0 0), some (vI x1)], [], σ)) rfl h4).trans ?_
  refine (e_n 3 (fr' := (44, 115, [some (vR 6 0 0), some (vI x1)], [vI x1, vR 6 0 1], σ)) rfl).trans ?_
  refine (e_a (A := (44, 116, [some (vR 6 0 0), some (vI x1)], [vI (σ.1 6 0 0 (x1).toNatClampNeg)], σ)) rfl h3).trans ?_
  refine (e_n 1 (fr' := (44, 118, [some (vR 6 0 0), some (vI x1)], [vI (104 : Int32), vI (σ.1 6 0 0 (x1).toNatClampNeg)], σ)) rfl).trans ?_
  exact e_t (A := (44, 125, [some (vR 6 0 0), some (vI x1)], [], σ)) rfl h5
set_option maxRecDepth 20000 in
theorem g44_0_9 (C : pmC) {σ : pmS} {x1 : Int32} (h1 : x1 < (47 : Int32)) (h2 : (x1 - x1 / (6 : Int32) * (6 : Int32)) = (4 : Int32)) (h3 : vp_in x1 60) (h4 : ¬ (σ.1 6 0 0 (x1).toNatClampNeg) < (97 : Int32)) (h5 : ¬ (104 : Int32) < (σ.1 6 0 0 (x1).toNatClampNeg)) : pq_Rn C (44, 0, [some (vR 6 0 0), some (vI x1)], [], σ) = pq_Rn C (44, 126, [some (vR 6 0 0), some (vI x1)], [vI (1 : Int32)], σ) := by
  refine (e_n 2 (fr' := (44, 3, [some (vR 6 0 0), some (vI x1)], [vI (47 : Int32), vI x1], σ)) rfl).trans ?_
  refine (e_t (A := (44, 8, [some (vR 6 0 0), some (vI x1)], [], σ)) rfl h1).trans ?_
  refine (e_n 3 (fr' := (44, 12, [some (vR 6 0 0), some (vI x1)], [vI (x1 - x1 / (6 : Int32) * (6 : Int32))], σ)) rfl).trans ?_
  refine (e_g (A := (44, 99, [some (vR 6 0 0), some (vI x1)], [], σ)) (off' := 87) rfl (by rw [h2]; decide) rfl).trans ?_
  refine (e_n 3 (fr' := (44, 104, [some (vR 6 0 0), some (vI x1)], [vI x1, vR 6 0 1], σ)) rfl).trans ?_
  refine (e_a (A := (44, 105, [some (vR 6 0 0), some (vI x1)], [vI (σ.1 6 0 0 (x1).toNatClampNeg)], σ)) rfl h3).trans ?_
  refine (e_n 1 (fr' := (44, 107, [some (vR 6 0 0), some (vI x1)], [vI (97 : Int32), vI (σ.1 6 0 0 (x1).toNatClampNeg)], σ)) rfl).trans ?_
  refine (e_f (B := (44, 110, [some (vR 6 0 0), some (vI x1)], [], σ)) rfl h4).trans ?_
  refine (e_n 3 (fr' := (44, 115, [some (vR 6 0 0), some (vI x1)], [vI x1, vR 6 0 1], σ)) rfl).trans ?_
  refine (e_a (A := (44, 116, [some (vR 6 0 0), some (vI x1)], [vI (σ.1 6 0 0 (x1).toNatClampNeg)], σ)) rfl h3).trans ?_
  refine (e_n 1 (fr' := (44, 118, [some (vR 6 0 0), some (vI x1)], [vI (104 : Int32), vI (σ.1 6 0 0 (x1).toNatClampNeg)], σ)) rfl).trans ?_
  refine (e_f (B := (44, 121, [some (vR 6 0 0), some (vI x1)], [], σ)) rfl h5).trans ?_
  exact e_n 2 rfl
set_option maxRecDepth 20000 in
theorem g44_0_10 (C : pmC) {σ : pmS} {x1 : Int32} (h1 : x1 < (47 : Int32)) (h2 : (x1 - x1 / (6 : Int32) * (6 : Int32)) = (5 : Int32)) (h3 : vp_in x1 60) (h4 : (σ.1 6 0 0 (x1).toNatClampNeg) = (59 : Int32)) : pq_Rn C (44, 0, [some (vR 6 0 0), some (vI x1)], [], σ) = pq_Rn C (44, 98, [some (vR 6 0 0), some (vI x1)], [vI (1 : Int32)], σ) := by
  refine (e_n 2 (fr' := (44, 3, [some (vR 6 0 0), some (vI x1)], [vI (47 : Int32), vI x1], σ)) rfl).trans ?_
  refine (e_t (A := (44, 8, [some (vR 6 0 0), some (vI x1)], [], σ)) rfl h1).trans ?_
  refine (e_n 3 (fr' := (44, 12, [some (vR 6 0 0), some (vI x1)], [vI (x1 - x1 / (6 : Int32) * (6 : Int32))], σ)) rfl).trans ?_
  refine (e_g (A := (44, 82, [some (vR 6 0 0), some (vI x1)], [], σ)) (off' := 70) rfl (by rw [h2]; decide) rfl).trans ?_
  refine (e_n 3 (fr' := (44, 87, [some (vR 6 0 0), some (vI x1)], [vI x1, vR 6 0 1], σ)) rfl).trans ?_
  refine (e_a (A := (44, 88, [some (vR 6 0 0), some (vI x1)], [vI (σ.1 6 0 0 (x1).toNatClampNeg)], σ)) rfl h3).trans ?_
  refine (e_n 1 (fr' := (44, 90, [some (vR 6 0 0), some (vI x1)], [vI (59 : Int32), vI (σ.1 6 0 0 (x1).toNatClampNeg)], σ)) rfl).trans ?_
  refine (e_t (A := (44, 93, [some (vR 6 0 0), some (vI x1)], [], σ)) rfl h4).trans ?_
  exact e_n 2 rfl
set_option maxRecDepth 20000 in
theorem g44_0_11 (C : pmC) {σ : pmS} {x1 : Int32} (h1 : x1 < (47 : Int32)) (h2 : (x1 - x1 / (6 : Int32) * (6 : Int32)) = (5 : Int32)) (h3 : vp_in x1 60) (h4 : ¬ (σ.1 6 0 0 (x1).toNatClampNeg) = (59 : Int32)) : pq_Rn C (44, 0, [some (vR 6 0 0), some (vI x1)], [], σ) = pq_Rn C (44, 98, [some (vR 6 0 0), some (vI x1)], [vI (0 : Int32)], σ) := by
  refine (e_n 2 (fr' := (44, 3, [some (vR 6 0 0), some (vI x1)], [vI (47 : Int32), vI x1], σ)) rfl).trans ?_
  refine (e_t (A := (44, 8, [some (vR 6 0 0), some (vI x1)], [], σ)) rfl h1).trans ?_
  refine (e_n 3 (fr' := (44, 12, [some (vR 6 0 0), some (vI x1)], [vI (x1 - x1 / (6 : Int32) * (6 : Int32))], σ)) rfl).trans ?_
  refine (e_g (A := (44, 82, [some (vR 6 0 0), some (vI x1)], [], σ)) (off' := 70) rfl (by rw [h2]; decide) rfl).trans ?_
  refine (e_n 3 (fr' := (44, 87, [some (vR 6 0 0), some (vI x1)], [vI x1, vR 6 0 1], σ)) rfl).trans ?_
  refine (e_a (A := (44, 88, [some (vR 6 0 0), some (vI x1)], [vI (σ.1 6 0 0 (x1).toNatClampNeg)], σ)) rfl h3).trans ?_
  refine (e_n 1 (fr' := (44, 90, [some (vR 6 0 0), some (vI x1)], [vI (59 : Int32), vI (σ.1 6 0 0 (x1).toNatClampNeg)], σ)) rfl).trans ?_
  refine (e_f (B := (44, 97, [some (vR 6 0 0), some (vI x1)], [], σ)) rfl h4).trans ?_
  exact e_n 1 rfl
set_option maxRecDepth 20000 in
theorem g44_0_12 (C : pmC) {σ : pmS} {x1 : Int32} (h1 : x1 < (47 : Int32)) (h2 : ¬ (x1 - x1 / (6 : Int32) * (6 : Int32)) = (1 : Int32)) (h3 : ¬ (x1 - x1 / (6 : Int32) * (6 : Int32)) = (2 : Int32)) (h4 : ¬ (x1 - x1 / (6 : Int32) * (6 : Int32)) = (3 : Int32)) (h5 : ¬ (x1 - x1 / (6 : Int32) * (6 : Int32)) = (4 : Int32)) (h6 : ¬ (x1 - x1 / (6 : Int32) * (6 : Int32)) = (5 : Int32)) (h7 : vp_in x1 60) (h8 : (σ.1 6 0 0 (x1).toNatClampNeg) < (97 : Int32)) : pq_Rn C (44, 0, [some (vR 6 0 0), some (vI x1)], [], σ) = pq_Rn C (44, 125, [some (vR 6 0 0), some (vI x1)], [], σ) := by
  refine (e_n 2 (fr' := (44, 3, [some (vR 6 0 0), some (vI x1)], [vI (47 : Int32), vI x1], σ)) rfl).trans ?_
  refine (e_t (A := (44, 8, [some (vR 6 0 0), some (vI x1)], [], σ)) rfl h1).trans ?_
  refine (e_n 3 (fr' := (44, 12, [some (vR 6 0 0), some (vI x1)], [vI (x1 - x1 / (6 : Int32) * (6 : Int32))], σ)) rfl).trans ?_
  refine (e_g (A := (44, 99, [some (vR 6 0 0), some (vI x1)], [], σ)) (off' := 87) rfl ((pm_sw_ne h2).trans ((pm_sw_ne h3).trans ((pm_sw_ne h4).trans ((pm_sw_ne h5).trans ((pm_sw_ne h6).trans (rfl)))))) rfl).trans ?_
  refine (e_n 3 (fr' := (44, 104, [some (vR 6 0 0), some (vI x1)], [vI x1, vR 6 0 1], σ)) rfl).trans ?_
  refine (e_a (A := (44, 105, [some (vR 6 0 0), some (vI x1)], [vI (σ.1 6 0 0 (x1).toNatClampNeg)], σ)) rfl h7).trans ?_
  refine (e_n 1 (fr' := (44, 107, [some (vR 6 0 0), some (vI x1)], [vI (97 : Int32), vI (σ.1 6 0 0 (x1).toNatClampNeg)], σ)) rfl).trans ?_
  exact e_t (A := (44, 125, [some (vR 6 0 0), some (vI x1)], [], σ)) rfl h8
set_option maxRecDepth 20000 in
theorem g44_0_13 (C : pmC) {σ : pmS} {x1 : Int32} (h1 : x1 < (47 : Int32)) (h2 : ¬ (x1 - x1 / (6 : Int32) * (6 : Int32)) = (1 : Int32)) (h3 : ¬ (x1 - x1 / (6 : Int32) * (6 : Int32)) = (2 : Int32)) (h4 : ¬ (x1 - x1 / (6 : Int32) * (6 : Int32)) = (3 : Int32)) (h5 : ¬ (x1 - x1 / (6 : Int32) * (6 : Int32)) = (4 : Int32)) (h6 : ¬ (x1 - x1 / (6 : Int32) * (6 : Int32)) = (5 : Int32)) (h7 : vp_in x1 60) (h8 : ¬ (σ.1 6 0 0 (x1).toNatClampNeg) < (97 : Int32)) (h9 : (104 : Int32) < (σ.1 6 0 0 (x1).toNatClampNeg)) : pq_Rn C (44, 0, [some (vR 6 0 0), some (vI x1)], [], σ) = pq_Rn C (44, 125, [some (vR 6 0 0), some (vI x1)], [], σ) := by
  refine (e_n 2 (fr' := (44, 3, [some (vR 6 0 0), some (vI x1)], [vI (47 : Int32), vI x1], σ)) rfl).trans ?_
  refine (e_t (A := (44, 8, [some (vR 6 0 0), some (vI x1)], [], σ)) rfl h1).trans ?_
  refine (e_n 3 (fr' := (44, 12, [some (vR 6 0 0), some (vI x1)], [vI (x1 - x1 / (6 : Int32) * (6 : Int32))], σ)) rfl).trans ?_
  refine (e_g (A := (44, 99, [some (vR 6 0 0), some (vI x1)], [], σ)) (off' := 87) rfl ((pm_sw_ne h2).trans ((pm_sw_ne h3).trans ((pm_sw_ne h4).trans ((pm_sw_ne h5).trans ((pm_sw_ne h6).trans (rfl)))))) rfl).trans ?_
  refine (e_n 3 (fr' := (44, 104, [some (vR 6 0 0), some (vI x1)], [vI x1, vR 6 0 1], σ)) rfl).trans ?_
  refine (e_a (A := (44, 105, [some (vR 6 0 0), some (vI x1)], [vI (σ.1 6 0 0 (x1).toNatClampNeg)], σ)) rfl h7).trans ?_
  refine (e_n 1 (fr' := (44, 107, [some (vR 6 0 0), some (vI x1)], [vI (97 : Int32), vI (σ.1 6 0 0 (x1).toNatClampNeg)], σ)) rfl).trans ?_
  refine (e_f (B := (44, 110, [some (vR 6 0 0), some (vI x1)], [], σ)) rfl h8).trans ?_
  refine (e_n 3 (fr' := (44, 115, [some (vR 6 0 0), some (vI x1)], [vI x1, vR 6 0 1], σ)) rfl).trans ?_
  refine (e_a (A := (44, 116, [some (vR 6 0 0), some (vI x1)], [vI (σ.1 6 0 0 (x1).toNatClampNeg)], σ)) rfl h7).trans ?_
  refine (e_n 1 (fr' := (44, 118, [some (vR 6 0 0), some (vI x1)], [vI (104 : Int32), vI (σ.1 6 0 0 (x1).toNatClampNeg)], σ)) rfl).trans ?_
  exact e_t (A := (44, 125, [some (vR 6 0 0), some (vI x1)], [], σ)) rfl h9
set_option maxRecDepth 20000 in
theorem g44_0_14 (C : pmC) {σ : pmS} {x1 : Int32} (h1 : x1 < (47 : Int32)) (h2 : ¬ (x1 - x1 / (6 : Int32) * (6 : Int32)) = (1 : Int32)) (h3 : ¬ (x1 - x1 / (6 : Int32) * (6 : Int32)) = (2 : Int32)) (h4 : ¬ (x1 - x1 / (6 : Int32) * (6 : Int32)) = (3 : Int32)) (h5 : ¬ (x1 - x1 / (6 : Int32) * (6 : Int32)) = (4 : Int32)) (h6 : ¬ (x1 - x1 / (6 : Int32) * (6 : Int32)) = (5 : Int32)) (h7 : vp_in x1 60) (h8 : ¬ (σ.1 6 0 0 (x1).toNatClampNeg) < (97 : Int32)) (h9 : ¬ (104 : Int32) < (σ.1 6 0 0 (x1).toNatClampNeg)) : pq_Rn C (44, 0, [some (vR 6 0 0), some (vI x1)], [], σ) = pq_Rn C (44, 126, [some (vR 6 0 0), some (vI x1)], [vI (1 : Int32)], σ) := by
  refine (e_n 2 (fr' := (44, 3, [some (vR 6 0 0), some (vI x1)], [vI (47 : Int32), vI x1], σ)) rfl).trans ?_
  refine (e_t (A := (44, 8, [some (vR 6 0 0), some (vI x1)], [], σ)) rfl h1).trans ?_
  refine (e_n 3 (fr' := (44, 12, [some (vR 6 0 0), some (vI x1)], [vI (x1 - x1 / (6 : Int32) * (6 : Int32))], σ)) rfl).trans ?_
  refine (e_g (A := (44, 99, [some (vR 6 0 0), some (vI x1)], [], σ)) (off' := 87) rfl ((pm_sw_ne h2).trans ((pm_sw_ne h3).trans ((pm_sw_ne h4).trans ((pm_sw_ne h5).trans ((pm_sw_ne h6).trans (rfl)))))) rfl).trans ?_
  refine (e_n 3 (fr' := (44, 104, [some (vR 6 0 0), some (vI x1)], [vI x1, vR 6 0 1], σ)) rfl).trans ?_
  refine (e_a (A := (44, 105, [some (vR 6 0 0), some (vI x1)], [vI (σ.1 6 0 0 (x1).toNatClampNeg)], σ)) rfl h7).trans ?_
  refine (e_n 1 (fr' := (44, 107, [some (vR 6 0 0), some (vI x1)], [vI (97 : Int32), vI (σ.1 6 0 0 (x1).toNatClampNeg)], σ)) rfl).trans ?_
  refine (e_f (B := (44, 110, [some (vR 6 0 0), some (vI x1)], [], σ)) rfl h8).trans ?_
  refine (e_n 3 (fr' := (44, 115, [some (vR 6 0 0), some (vI x1)], [vI x1, vR 6 0 1], σ)) rfl).trans ?_
  refine (e_a (A := (44, 116, [some (vR 6 0 0), some (vI x1)], [vI (σ.1 6 0 0 (x1).toNatClampNeg)], σ)) rfl h7).trans ?_
  refine (e_n 1 (fr' := (44, 118, [some (vR 6 0 0), some (vI x1)], [vI (104 : Int32), vI (σ.1 6 0 0 (x1).toNatClampNeg)], σ)) rfl).trans ?_
  refine (e_f (B := (44, 121, [some (vR 6 0 0), some (vI x1)], [], σ)) rfl h9).trans ?_
  exact e_n 2 rfl
set_option maxRecDepth 20000 in
theorem g44_0_15 (C : pmC) {σ : pmS} {x1 : Int32} (h1 : ¬ x1 < (47 : Int32)) : pq_Rn C (44, 0, [some (vR 6 0 0), some (vI x1)], [], σ) = some (some (vI (0 : Int32)), σ) := by
  refine (e_n 2 (fr' := (44, 3, [some (vR 6 0 0), some (vI x1)], [vI (47 : Int32), vI x1], σ)) rfl).trans ?_
  refine (e_f (B := (44, 6, [some (vR 6 0 0), some (vI x1)], [], σ)) rfl h1).trans ?_
  refine (e_n 1 (fr' := (44, 7, [some (vR 6 0 0), some (vI x1)], [vI (0 : Int32)], σ)) rfl).trans ?_
  exact e_r rfl
set_option maxRecDepth 20000 in
theorem g44_64_0 (C : pmC) {σ : pmS} {l0 : Option pmV} {l1 : Option pmV} {s0 : Int32} (h1 : s0 = 0 ∨ s0 = 1) : pq_Rn C (44, 64, [l0, l1], [vI s0], σ) = some (some (vI s0), σ) := by
  exact e_rz rfl rfl h1
set_option maxRecDepth 20000 in
theorem g44_81_0 (C : pmC) {σ : pmS} {l0 : Option pmV} {l1 : Option pmV} {s0 : Int32} (h1 : s0 = 0 ∨ s0 = 1) : pq_Rn C (44, 81, [l0, l1], [vI s0], σ) = some (some (vI s0), σ) := by
  exact e_rz rfl rfl h1
set_option maxRecDepth 20000 in
theorem g44_98_0 (C : pmC) {σ : pmS} {l0 : Option pmV} {l1 : Option pmV} {s0 : Int32} (h1 : s0 = 0 ∨ s0 = 1) : pq_Rn C (44, 98, [l0, l1], [vI s0], σ) = some (some (vI s0), σ) := by
  exact e_rz rfl rfl h1
set_option maxRecDepth 20000 in
theorem g44_125_0 (C : pmC) {σ : pmS} {l0 : Option pmV} {l1 : Option pmV}  : pq_Rn C (44, 125, [l0, l1], [], σ) = pq_Rn C (44, 126, [l0, l1], [vI (0 : Int32)], σ) := by
  exact e_n 1 rfl
set_option maxRecDepth 20000 in
theorem g44_126_0 (C : pmC) {σ : pmS} {l0 : Option pmV} {l1 : Option pmV} {s0 : Int32} (h1 : s0 = 0 ∨ s0 = 1) : pq_Rn C (44, 126, [l0, l1], [vI s0], σ) = some (some (vI s0), σ) := by
  exact e_rz rfl rfl h1
set_option maxRecDepth 20000 in
theorem g45_0_0 (C : pmC) {σ : pmS} {l1 : Option pmV} {l2 : Option pmV}  : pq_Rn C (45, 0, [some (vR 6 0 0), l1, l2], [], σ) = pq_Rn C (45, 12, [some (vR 6 0 0), some (vI (((σ.1 6 0 1 0) + (1 : Int32)) / (6 : Int32))), some (vI (0 : Int32))], [], σ) := by
  exact e_n 9 rfl
set_option maxRecDepth 20000 in
theorem g45_12_0 (C : pmC) {σ : pmS} {x1 : Int32} {x2 : Int32} (h1 : (σ.1 6 0 1 0) ≤ x2) : pq_Rn C (45, 12, [some (vR 6 0 0), some (vI x1), some (vI x2)], [], σ) = some (some (vI (-1 : Int32)), σ) := by
  refine (e_n 3 (fr' := (45, 17, [some (vR 6 0 0), some (vI x1), some (vI x2)], [vI (σ.1 6 0 1 0), vI x2], σ)) rfl).trans ?_
  refine (e_t (A := (45, 41, [some (vR 6 0 0), some (vI x1), some (vI x2)], [], σ)) rfl h1).trans ?_
  refine (e_n 1 (fr' := (45, 42, [some (vR 6 0 0), some (vI x1), some (vI x2)], [vI (-1 : Int32)], σ)) rfl).trans ?_
  exact e_r rfl
set_option maxRecDepth 20000 in
theorem g45_12_1 (C : pmC) {σ : pmS} {x1 : Int32} {x2 : Int32} (h1 : ¬ (σ.1 6 0 1 0) ≤ x2) (h2 : vp_in x2 60) (h3 : ((σ.1 6 0 0 (x2).toNatClampNeg) - (97 : Int32)) < x1) : pq_Rn C (45, 12, [some (vR 6 0 0), some (vI x1), some (vI x2)], [], σ) = pq_Rn C (45, 12, [some (vR 6 0 0), some (vI x1), some (vI (x2 + (2 : Int32)))], [], σ) := by
  refine (e_n 3 (fr' := (45, 17, [some (vR 6 0 0), some (vI x1), some (vI x2)], [vI (σ.1 6 0 1 0), vI x2], σ)) rfl).trans ?_
  refine (e_f (B := (45, 20, [some (vR 6 0 0), some (vI x1), some (vI x2)], [], σ)) rfl h1).trans ?_
  refine (e_n 3 (fr' := (45, 25, [some (vR 6 0 0), some (vI x1), some (vI x2)], [vI x2, vR 6 0 1], σ)) rfl).trans ?_
  refine (e_a (A := (45, 26, [some (vR 6 0 0), some (vI x1), some (vI x2)], [vI (σ.1 6 0 0 (x2).toNatClampNeg)], σ)) rfl h2).trans ?_
  refine (e_n 3 (fr' := (45, 30, [some (vR 6 0 0), some (vI x1), some (vI x2)], [vI x1, vI ((σ.1 6 0 0 (x2).toNatClampNeg) - (97 : Int32))], σ)) rfl).trans ?_
  refine (e_t (A := (45, 35, [some (vR 6 0 0), some (vI x1), some (vI x2)], [], σ)) rfl h3).trans ?_
  exact e_n 2 rfl
set_option maxRecDepth 20000 in
theorem g45_12_2 (C : pmC) {σ : pmS} {x1 : Int32} {x2 : Int32} (h1 : ¬ (σ.1 6 0 1 0) ≤ x2) (h2 : vp_in x2 60) (h3 : ¬ ((σ.1 6 0 0 (x2).toNatClampNeg) - (97 : Int32)) < x1) : pq_Rn C (45, 12, [some (vR 6 0 0), some (vI x1), some (vI x2)], [], σ) = some (some (vI x2), σ) := by
  refine (e_n 3 (fr' := (45, 17, [some (vR 6 0 0), some (vI x1), some (vI x2)], [vI (σ.1 6 0 1 0), vI x2], σ)) rfl).trans ?_
  refine (e_f (B := (45, 20, [some (vR 6 0 0), some (vI x1), some (vI x2)], [], σ)) rfl h1).trans ?_
  refine (e_n 3 (fr' := (45, 25, [some (vR 6 0 0), some (vI x1), some (vI x2)], [vI x2, vR 6 0 1], σ)) rfl).trans ?_
  refine (e_a (A := (45, 26, [some (vR 6 0 0), some (vI x1), some (vI x2)], [vI (σ.1 6 0 0 (x2).toNatClampNeg)], σ)) rfl h2).trans ?_
  refine (e_n 3 (fr' := (45, 30, [some (vR 6 0 0), some (vI x1), some (vI x2)], [vI x1, vI ((σ.1 6 0 0 (x2).toNatClampNeg) - (97 : Int32))], σ)) rfl).trans ?_
  refine (e_f (B := (45, 33, [some (vR 6 0 0), some (vI x1), some (vI x2)], [], σ)) rfl h3).trans ?_
  refine (e_n 1 (fr' := (45, 34, [some (vR 6 0 0), some (vI x1), some (vI x2)], [vI x2], σ)) rfl).trans ?_
  exact e_r rfl
set_option maxRecDepth 20000 in
theorem g46_0_0 (C : pmC) {σ : pmS} {l1 : Option pmV} {l2 : Option pmV}  : pq_Rn C (46, 0, [some (vR 6 0 0), l1, l2], [], σ) = pq_Rn C (46, 3, [some (vR 6 0 0), some (vI (6 : Int32)), l2], [], σ) := by
  exact e_n 2 rfl
set_option maxRecDepth 20000 in
theorem g46_3_0 (C : pmC) {σ : pmS} {x1 : Int32} {l2 : Option pmV} (h1 : (σ.1 6 0 1 0) ≤ x1) : pq_Rn C (46, 3, [some (vR 6 0 0), some (vI x1), l2], [], σ) = some (some (vI (-1 : Int32)), σ) := by
  refine (e_n 3 (fr' := (46, 8, [some (vR 6 0 0), some (vI x1), l2], [vI (σ.1 6 0 1 0), vI x1], σ)) rfl).trans ?_
  refine (e_t (A := (46, 49, [some (vR 6 0 0), some (vI x1), l2], [], σ)) rfl h1).trans ?_
  refine (e_n 1 (fr' := (46, 50, [some (vR 6 0 0), some (vI x1), l2], [vI (-1 : Int32)], σ)) rfl).trans ?_
  exact e_r rfl
set_option maxRecDepth 20000 in
theorem g46_3_1 (C : pmC) {σ : pmS} {x1 : Int32} {l2 : Option pmV} (h1 : ¬ (σ.1 6 0 1 0) ≤ x1) : pq_Rn C (46, 3, [some (vR 6 0 0), some (vI x1), l2], [], σ) = pq_Rn C (46, 16, [some (vR 6 0 0), some (vI x1), some (vI (x1 - (6 : Int32)))], [], σ) := by
  refine (e_n 3 (fr' := (46, 8, [some (vR 6 0 0), some (vI x1), l2], [vI (σ.1 6 0 1 0), vI x1], σ)) rfl).trans ?_
  refine (e_f (B := (46, 11, [some (vR 6 0 0), some (vI x1), l2], [], σ)) rfl h1).trans ?_
  exact e_n 4 rfl
set_option maxRecDepth 20000 in
theorem g46_16_0 (C : pmC) {σ : pmS} {x1 : Int32} {x2 : Int32} (h1 : x2 < 0) : pq_Rn C (46, 16, [some (vR 6 0 0), some (vI x1), some (vI x2)], [], σ) = pq_Rn C (46, 3, [some (vR 6 0 0), some (vI (x1 + (2 : Int32))), some (vI x2)], [], σ) := by
  refine (e_n 1 (fr' := (46, 17, [some (vR 6 0 0), some (vI x1), some (vI x2)], [vI x2], σ)) rfl).trans ?_
  refine (e_t (A := (46, 43, [some (vR 6 0 0), some (vI x1), some (vI x2)], [], σ)) rfl h1).trans ?_
  exact e_n 2 rfl
set_option maxRecDepth 20000 in
theorem g46_16_1 (C : pmC) {σ : pmS} {x1 : Int32} {x2 : Int32} (h1 : ¬ x2 < 0) (h2 : vp_in x2 60) (h3 : vp_in x1 60) (h4 : (σ.1 6 0 0 (x2).toNatClampNeg) = (σ.1 6 0 0 (x1).toNatClampNeg)) : pq_Rn C (46, 16, [some (vR 6 0 0), some (vI x1), some (vI x2)], [], σ) = some (some (vI x1), σ) := by
  refine (e_n 1 (fr' := (46, 17, [some (vR 6 0 0), some (vI x1), some (vI x2)], [vI x2], σ)) rfl).trans ?_
  refine (e_f (B := (46, 20, [some (vR 6 0 0), some (vI x1), some (vI x2)], [], σ)) rfl h1).trans ?_
  refine (e_n 3 (fr' := (46, 25, [some (vR 6 0 0), some (vI x1), some (vI x2)], [vI x2, vR 6 0 1], σ)) rfl).trans ?_
  refine (e_a (A := (46, 26, [some (vR 6 0 0), some (vI x1), some (vI x2)], [vI (σ.1 6 0 0 (x2).toNatClampNeg)], σ)) rfl h2).trans ?_
  refine (e_n 3 (fr' := (46, 31, [some (vR 6 0 0), some (vI x1), some (vI x2)], [vI x1, vR 6 0 1, vI (σ.1 6 0 0 (x2).toNatClampNeg)], σ)) rfl).trans ?_
  refine (e_a (A := (46, 32, [some (vR 6 0 0), some (vI x1), some (vI x2)], [vI (σ.1 6 0 0 (x1).toNatClampNeg), vI (σ.1 6 0 0 (x2).toNatClampNeg)], σ)) rfl h3).trans ?_
  refine (e_t (A := (46, 35, [some (vR 6 0 0), some (vI x1), some (vI x2)], [], σ)) rfl h4).trans ?_
  refine (e_n 1 (fr' := (46, 36, [some (vR 6 0 0), some (vI x1), some (vI x2)], [vI x1], σ)) rfl).trans ?_
  exact e_r rfl
set_option maxRecDepth 20000 in
theorem g46_16_2 (C : pmC) {σ : pmS} {x1 : Int32} {x2 : Int32} (h1 : ¬ x2 < 0) (h2 : vp_in x2 60) (h3 : vp_in x1 60) (h4 : ¬ (σ.1 6 0 0 (x2).toNatClampNeg) = (σ.1 6 0 0 (x1).toNatClampNeg)) : pq_Rn C (46, 16, [some (vR 6 0 0), some (vI x1), some (vI x2)], [], σ) = pq_Rn C (46, 16, [some (vR 6 0 0), some (vI x1), some (vI (x2 + (-6 : Int32)))], [], σ) := by
  refine (e_n 1 (fr' := (46, 17, [some (vR 6 0 0), some (vI x1), some (vI x2)], [vI x2], σ)) rfl).trans ?_
  refine (e_f (B := (46, 20, [some (vR 6 0 0), some (vI x1), some (vI x2)], [], σ)) rfl h1).trans ?_
  refine (e_n 3 (fr' := (46, 25, [some (vR 6 0 0), some (vI x1), some (vI x2)], [vI x2, vR 6 0 1], σ)) rfl).trans ?_
  refine (e_a (A := (46, 26, [some (vR 6 0 0), some (vI x1), some (vI x2)], [vI (σ.1 6 0 0 (x2).toNatClampNeg)], σ)) rfl h2).trans ?_
  refine (e_n 3 (fr' := (46, 31, [some (vR 6 0 0), some (vI x1), some (vI x2)], [vI x1, vR 6 0 1, vI (σ.1 6 0 0 (x2).toNatClampNeg)], σ)) rfl).trans ?_
  refine (e_a (A := (46, 32, [some (vR 6 0 0), some (vI x1), some (vI x2)], [vI (σ.1 6 0 0 (x1).toNatClampNeg), vI (σ.1 6 0 0 (x2).toNatClampNeg)], σ)) rfl h3).trans ?_
  refine (e_f (B := (46, 37, [some (vR 6 0 0), some (vI x1), some (vI x2)], [], σ)) rfl h4).trans ?_
  exact e_n 2 rfl
set_option maxRecDepth 20000 in
theorem g47_0_0 (C : pmC) {σ : pmS} {o1 : Nat} {l2 : Option pmV} {σ1 : pmS} {σ2 : pmS} {r2 : Int32} {σ3 : pmS} (h1 : C 182 [vR 7 0 2, vI (0 : Int32)] σ = some (none, σ1)) (h2 : C 48 [vI (σ1.1 2 o1 8 0)] (pm_wi σ1 7 0 2 0 (0 : Int32)) = some (some (vI r2), σ2)) (h3 : C 50 [vR 7 0 0, vI r2] σ2 = some (none, σ3)) : pq_Rn C (47, 0, [some (vR 7 0 0), some (vR 2 o1 0), l2], [], σ) = pq_Rn C (47, 26, [some (vR 7 0 0), some (vR 2 o1 0), some (vI (0 : Int32))], [], σ3) := by
  refine (e_n 3 (fr' := (47, 5, [some (vR 7 0 0), some (vR 2 o1 0), l2], [vI (0 : Int32), vR 7 0 2], σ)) rfl).trans ?_
  refine (e_cv (m := 47) (pc := 8) (ls := [some (vR 7 0 0), some (vR 2 o1 0), l2]) (rest := []) rfl h1).trans ?_
  refine (e_n 6 (fr' := (47, 18, [some (vR 7 0 0), some (vR 2 o1 0), l2], [vI (σ1.1 2 o1 8 0), vR 7 0 0], (pm_wi σ1 7 0 2 0 (0 : Int32)))) rfl).trans ?_
  refine (e_ci (m := 47) (pc := 21) (ls := [some (vR 7 0 0), some (vR 2 o1 0), l2]) (rest := [vR 7 0 0]) rfl h2).trans ?_
  refine (e_cv (m := 47) (pc := 24) (ls := [some (vR 7 0 0), some (vR 2 o1 0), l2]) (rest := []) rfl h3).trans ?_
  exact e_n 2 rfl
set_option maxRecDepth 20000 in
theorem g47_26_0 (C : pmC) {σ : pmS} {o1 : Nat} {x2 : Int32} (h1 : (σ.1 7 0 2 0) ≤ x2) : pq_Rn C (47, 26, [some (vR 7 0 0), some (vR 2 o1 0), some (vI x2)], [], σ) = some (some (vI (σ.1 7 0 2 0)), σ) := by
  refine (e_n 3 (fr' := (47, 31, [some (vR 7 0 0), some (vR 2 o1 0), some (vI x2)], [vI (σ.1 7 0 2 0), vI x2], σ)) rfl).trans ?_
  refine (e_t (A := (47, 92, [some (vR 7 0 0), some (vR 2 o1 0), some (vI x2)], [], σ)) rfl h1).trans ?_
  refine (e_n 2 (fr' := (47, 96, [some (vR 7 0 0), some (vR 2 o1 0), some (vI x2)], [vI (σ.1 7 0 2 0)], σ)) rfl).trans ?_
  exact e_r rfl
set_option maxRecDepth 20000 in
theorem g47_26_1 (C : pmC) {σ : pmS} {o1 : Nat} {x2 : Int32} (h1 : ¬ (σ.1 7 0 2 0) ≤ x2) (h2 : (1000 : Int32) ≤ (σ.1 7 0 2 0)) : pq_Rn C (47, 26, [some (vR 7 0 0), some (vR 2 o1 0), some (vI x2)], [], σ) = some (some (vI (σ.1 7 0 2 0)), σ) := by
  refine (e_n 3 (fr' := (47, 31, [some (vR 7 0 0), some (vR 2 o1 0), some (vI x2)], [vI (σ.1 7 0 2 0), vI x2], σ)) rfl).trans ?_
  refine (e_f (B := (47, 34, [some (vR 7 0 0), some (vR 2 o1 0), some (vI x2)], [], σ)) rfl h1).trans ?_
  refine (e_n 3 (fr' := (47, 41, [some (vR 7 0 0), some (vR 2 o1 0), some (vI x2)], [vI (1000 : Int32), vI (σ.1 7 0 2 0)], σ)) rfl).trans ?_
  refine (e_t (A := (47, 92, [some (vR 7 0 0), some (vR 2 o1 0), some (vI x2)], [], σ)) rfl h2).trans ?_
  refine (e_n 2 (fr' := (47, 96, [some (vR 7 0 0), some (vR 2 o1 0), some (vI x2)], [vI (σ.1 7 0 2 0)], σ)) rfl).trans ?_
  exact e_r rfl
set_option maxRecDepth 20000 in
theorem g47_26_2 (C : pmC) {σ : pmS} {o1 : Nat} {x2 : Int32} {σ1 : pmS} {r1 : Int32} {σ2 : pmS} {σ3 : pmS} {r3 : Int32} {σ4 : pmS} (h1 : ¬ (σ.1 7 0 2 0) ≤ x2) (h2 : ¬ (1000 : Int32) ≤ (σ.1 7 0 2 0)) (h3 : vp_in x2 1000) (h4 : C 49 [vI (σ.1 7 0 0 (x2).toNatClampNeg), vR 2 o1 1, vI (σ.1 2 o1 8 0)] σ = some (some (vI r1), σ1)) (h5 : C 50 [vR 7 0 0, vI r1] σ1 = some (none, σ2)) (h6 : C 49 [vI (σ2.1 7 0 0 (x2).toNatClampNeg), vR 2 o1 3, vI (σ2.1 2 o1 8 0)] σ2 = some (some (vI r3), σ3)) (h7 : C 50 [vR 7 0 0, vI r3] σ3 = some (none, σ4)) : pq_Rn C (47, 26, [some (vR 7 0 0), some (vR 2 o1 0), some (vI x2)], [], σ) = pq_Rn C (47, 26, [some (vR 7 0 0), some (vR 2 o1 0), some (vI (x2 + (1 : Int32)))], [], σ4) := by
  refine (e_n 3 (fr' := (47, 31, [some (vR 7 0 0), some (vR 2 o1 0), some (vI x2)], [vI (σ.1 7 0 2 0), vI x2], σ)) rfl).trans ?_
  refine (e_f (B := (47, 34, [some (vR 7 0 0), some (vR 2 o1 0), some (vI x2)], [], σ)) rfl h1).trans ?_
  refine (e_n 3 (fr' := (47, 41, [some (vR 7 0 0), some (vR 2 o1 0), some (vI x2)], [vI (1000 : Int32), vI (σ.1 7 0 2 0)], σ)) rfl).trans ?_
  refine (e_f (B := (47, 44, [some (vR 7 0 0), some (vR 2 o1 0), some (vI x2)], [], σ)) rfl h2).trans ?_
  refine (e_n 4 (fr' := (47, 50, [some (vR 7 0 0), some (vR 2 o1 0), some (vI x2)], [vI x2, vR 7 0 1, vR 7 0 0], σ)) rfl).trans ?_
  refine (e_a (A := (47, 51, [some (vR 7 0 0), some (vR 2 o1 0), some (vI x2)], [vI (σ.1 7 0 0 (x2).toNatClampNeg), vR 7 0 0], σ)) rfl h3).trans ?_
  refine (e_n 4 (fr' := (47, 59, [some (vR 7 0 0), some (vR 2 o1 0), some (vI x2)], [vI (σ.1 2 o1 8 0), vR 2 o1 1, vI (σ.1 7 0 0 (x2).toNatClampNeg), vR 7 0 0], σ)) rfl).trans ?_
  refine (e_ci (m := 47) (pc := 62) (ls := [some (vR 7 0 0), some (vR 2 o1 0), some (vI x2)]) (rest := [vR 7 0 0]) rfl h4).trans ?_
  refine (e_cv (m := 47) (pc := 65) (ls := [some (vR 7 0 0), some (vR 2 o1 0), some (vI x2)]) (rest := []) rfl h5).trans ?_
  refine (e_n 4 (fr' := (47, 71, [some (vR 7 0 0), some (vR 2 o1 0), some (vI x2)], [vI x2, vR 7 0 1, vR 7 0 0], σ2)) rfl).trans ?_
  refine (e_a (A := (47, 72, [some (vR 7 0 0), some (vR 2 o1 0), some (vI x2)], [vI (σ2.1 7 0 0 (x2).toNatClampNeg), vR 7 0 0], σ2)) rfl h3).trans ?_
  refine (e_n 4 (fr' := (47, 80, [some (vR 7 0 0), some (vR 2 o1 0), some (vI x2)], [vI (σ2.1 2 o1 8 0), vR 2 o1 3, vI (σ2.1 7 0 0 (x2).toNatClampNeg), vR 7 0 0], σ2)) rfl).trans ?_
  refine (e_ci (m := 47) (pc := 83) (ls := [some (vR 7 0 0), some (vR 2 o1 0), some (vI x2)]) (rest := [vR 7 0 0]) rfl h6).trans ?_
  refine (e_cv (m := 47) (pc := 86) (ls := [some (vR 7 0 0), some (vR 2 o1 0), some (vI x2)]) (rest := []) rfl h7).trans ?_
  exact e_n 2 rfl
set_option maxRecDepth 20000 in
theorem g48_0_0 (C : pmC) {σ : pmS} {x0 : Int32} {l1 : Option pmV} {l2 : Option pmV}  : pq_Rn C (48, 0, [some (vI x0), l1, l2], [], σ) = pq_Rn C (48, 4, [some (vI x0), some (vI (0 : Int32)), some (vI (0 : Int32))], [], σ) := by
  exact e_n 4 rfl
set_option maxRecDepth 20000 in
theorem g48_4_0 (C : pmC) {σ : pmS} {x0 : Int32} {x1 : Int32} {x2 : Int32} (h1 : x0 ≤ x2) : pq_Rn C (48, 4, [some (vI x0), some (vI x1), some (vI x2)], [], σ) = some (some (vI x1), σ) := by
  refine (e_n 2 (fr' := (48, 6, [some (vI x0), some (vI x1), some (vI x2)], [vI x0, vI x2], σ)) rfl).trans ?_
  refine (e_t (A := (48, 23, [some (vI x0), some (vI x1), some (vI x2)], [], σ)) rfl h1).trans ?_
  refine (e_n 1 (fr' := (48, 24, [some (vI x0), some (vI x1), some (vI x2)], [vI x1], σ)) rfl).trans ?_
  exact e_r rfl
set_option maxRecDepth 20000 in
theorem g48_4_1 (C : pmC) {σ : pmS} {x0 : Int32} {x1 : Int32} {x2 : Int32} (h1 : ¬ x0 ≤ x2) : pq_Rn C (48, 4, [some (vI x0), some (vI x1), some (vI x2)], [], σ) = pq_Rn C (48, 4, [some (vI x0), some (vI (x1 ||| (x2 <<< (((3 : Int32) * x2) &&& 31)))), some (vI (x2 + (1 : Int32)))], [], σ) := by
  refine (e_n 2 (fr' := (48, 6, [some (vI x0), some (vI x1), some (vI x2)], [vI x0, vI x2], σ)) rfl).trans ?_
  refine (e_f (B := (48, 9, [some (vI x0), some (vI x1), some (vI x2)], [], σ)) rfl h1).trans ?_
  exact e_n 10 rfl
set_option maxRecDepth 20000 in
theorem g49a_0_0 (C : pmC) {σ : pmS} {x0 : Int32} {o1 : Nat} {x2 : Int32} {l3 : Option pmV} {l4 : Option pmV}  : pq_Rn C (49, 0, [some (vI x0), some (vR 2 o1 1), some (vI x2), l3, l4], [], σ) = pq_Rn C (49, 5, [some (vI x0), some (vR 2 o1 1), some (vI x2), some (vI (0 : Int32)), some (vI (0 : Int32))], [], σ) := by
  exact e_n 4 rfl
set_option maxRecDepth 20000 in
theorem g49a_5_0 (C : pmC) {σ : pmS} {x0 : Int32} {o1 : Nat} {x2 : Int32} {x3 : Int32} {x4 : Int32} (h1 : x2 ≤ x4) : pq_Rn C (49, 5, [some (vI x0), some (vR 2 o1 1), some (vI x2), some (vI x3), some (vI x4)], [], σ) = some (some (vI x3), σ) := by
  refine (e_n 2 (fr' := (49, 8, [some (vI x0), some (vR 2 o1 1), some (vI x2), some (vI x3), some (vI x4)], [vI x2, vI x4], σ)) rfl).trans ?_
  refine (e_t (A := (49, 36, [some (vI x0), some (vR 2 o1 1), some (vI x2), some (vI x3), some (vI x4)], [], σ)) rfl h1).trans ?_
  refine (e_n 1 (fr' := (49, 37, [some (vI x0), some (vR 2 o1 1), some (vI x2), some (vI x3), some (vI x4)], [vI x3], σ)) rfl).trans ?_
  exact e_r rfl
set_option maxRecDepth 20000 in
theorem g49a_5_1 (C : pmC) {σ : pmS} {x0 : Int32} {o1 : Nat} {x2 : Int32} {x3 : Int32} {x4 : Int32} (h1 : ¬ x2 ≤ x4) (h2 : vp_in ((x0 >>> (((3 : Int32) * x4) &&& 31)) &&& (7 : Int32)) 8) : pq_Rn C (49, 5, [some (vI x0), some (vR 2 o1 1), some (vI x2), some (vI x3), some (vI x4)], [], σ) = pq_Rn C (49, 5, [some (vI x0), some (vR 2 o1 1), some (vI x2), some (vI (x3 ||| ((σ.1 2 o1 0 (((x0 >>> (((3 : Int32) * x4) &&& 31)) &&& (7 : Int32))).toNatClampNeg) <<< (((3 : Int32) * x4) &&& 31)))), some (vI (x4 + (1 : Int32)))], [], σ) := by
  refine (e_n 2 (fr' := (49, 8, [some (vI x0), some (vR 2 o1 1), some (vI x2), some (vI x3), some (vI x4)], [vI x2, vI x4], σ)) rfl).trans ?_
  refine (e_f (B := (49, 11, [some (vI x0), some (vR 2 o1 1), some (vI x2), some (vI x3), some (vI x4)], [], σ)) rfl h1).trans ?_
  refine (e_n 9 (fr' := (49, 22, [some (vI x0), some (vR 2 o1 1), some (vI x2), some (vI x3), some (vI x4)], [vI ((x0 >>> (((3 : Int32) * x4) &&& 31)) &&& (7 : Int32)), vR 2 o1 1, vI x3], σ)) rfl).trans ?_
  refine (e_a (A := (49, 23, [some (vI x0), some (vR 2 o1 1), some (vI x2), some (vI x3), some (vI x4)], [vI (σ.1 2 o1 0 (((x0 >>> (((3 : Int32) * x4) &&& 31)) &&& (7 : Int32))).toNatClampNeg), vI x3], σ)) rfl h2).trans ?_
  exact e_n 8 rfl
set_option maxRecDepth 20000 in
theorem g49b_0_0 (C : pmC) {σ : pmS} {x0 : Int32} {o1 : Nat} {x2 : Int32} {l3 : Option pmV} {l4 : Option pmV}  : pq_Rn C (49, 0, [some (vI x0), some (vR 2 o1 3), some (vI x2), l3, l4], [], σ) = pq_Rn C (49, 5, [some (vI x0), some (vR 2 o1 3), some (vI x2), some (vI (0 : Int32)), some (vI (0 : Int32))], [], σ) := by
  exact e_n 4 rfl
set_option maxRecDepth 20000 in
theorem g49b_5_0 (C : pmC) {σ : pmS} {x0 : Int32} {o1 : Nat} {x2 : Int32} {x3 : Int32} {x4 : Int32} (h1 : x2 ≤ x4) : pq_Rn C (49, 5, [some (vI x0), some (vR 2 o1 3), some (vI x2), some (vI x3), some (vI x4)], [], σ) = some (some (vI x3), σ) := by
  refine (e_n 2 (fr' := (49, 8, [some (vI x0), some (vR 2 o1 3), some (vI x2), some (vI x3), some (vI x4)], [vI x2, vI x4], σ)) rfl).trans ?_
  refine (e_t (A := (49, 36, [some (vI x0), some (vR 2 o1 3), some (vI x2), some (vI x3), some (vI x4)], [], σ)) rfl h1).trans ?_
  refine (e_n 1 (fr' := (49, 37, [some (vI x0), some (vR 2 o1 3), some (vI x2), some (vI x3), some (vI x4)], [vI x3], σ)) rfl).trans ?_
  exact e_r rfl
set_option maxRecDepth 20000 in
theorem g49b_5_1 (C : pmC) {σ : pmS} {x0 : Int32} {o1 : Nat} {x2 : Int32} {x3 : Int32} {x4 : Int32} (h1 : ¬ x2 ≤ x4) (h2 : vp_in ((x0 >>> (((3 : Int32) * x4) &&& 31)) &&& (7 : Int32)) 8) : pq_Rn C (49, 5, [some (vI x0), some (vR 2 o1 3), some (vI x2), some (vI x3), some (vI x4)], [], σ) = pq_Rn C (49, 5, [some (vI x0), some (vR 2 o1 3), some (vI x2), some (vI (x3 ||| ((σ.1 2 o1 2 (((x0 >>> (((3 : Int32) * x4) &&& 31)) &&& (7 : Int32))).toNatClampNeg) <<< (((3 : Int32) * x4) &&& 31)))), some (vI (x4 + (1 : Int32)))], [], σ) := by
  refine (e_n 2 (fr' := (49, 8, [some (vI x0), some (vR 2 o1 3), some (vI x2), some (vI x3), some (vI x4)], [vI x2, vI x4], σ)) rfl).trans ?_
  refine (e_f (B := (49, 11, [some (vI x0), some (vR 2 o1 3), some (vI x2), some (vI x3), some (vI x4)], [], σ)) rfl h1).trans ?_
  refine (e_n 9 (fr' := (49, 22, [some (vI x0), some (vR 2 o1 3), some (vI x2), some (vI x3), some (vI x4)], [vI ((x0 >>> (((3 : Int32) * x4) &&& 31)) &&& (7 : Int32)), vR 2 o1 3, vI x3], σ)) rfl).trans ?_
  refine (e_a (A := (49, 23, [some (vI x0), some (vR 2 o1 3), some (vI x2), some (vI x3), some (vI x4)], [vI (σ.1 2 o1 2 (((x0 >>> (((3 : Int32) * x4) &&& 31)) &&& (7 : Int32))).toNatClampNeg), vI x3], σ)) rfl h2).trans ?_
  exact e_n 8 rfl
set_option maxRecDepth 20000 in
theorem g50_0_0 (C : pmC) {σ : pmS} {x1 : Int32} {l2 : Option pmV} {l3 : Option pmV}  : pq_Rn C (50, 0, [some (vR 7 0 0), some (vI x1), l2, l3], [], σ) = pq_Rn C (50, 10, [some (vR 7 0 0), some (vI x1), some (vI (((x1 * (-1640531535 : Int32))).toUInt32 >>> (((21 : Int32)).toUInt32 &&& Int32.toUInt32 31)).toInt32), some (vI (0 : Int32))], [], σ) := by
  exact e_n 8 rfl
set_option maxRecDepth 20000 in
theorem g50_10_0 (C : pmC) {σ : pmS} {x1 : Int32} {x2 : Int32} {x3 : Int32} (h1 : (2048 : Int32) ≤ x3) (h2 : (1000 : Int32) ≤ (σ.1 7 0 2 0)) : pq_Rn C (50, 10, [some (vR 7 0 0), some (vI x1), some (vI x2), some (vI x3)], [], σ) = some (none, σ) := by
  refine (e_n 2 (fr' := (50, 14, [some (vR 7 0 0), some (vI x1), some (vI x2), some (vI x3)], [vI (2048 : Int32), vI x3], σ)) rfl).trans ?_
  refine (e_t (A := (50, 53, [some (vR 7 0 0), some (vI x1), some (vI x2), some (vI x3)], [], σ)) rfl h1).trans ?_
  refine (e_n 3 (fr' := (50, 60, [some (vR 7 0 0), some (vI x1), some (vI x2), some (vI x3)], [vI (1000 : Int32), vI (σ.1 7 0 2 0)], σ)) rfl).trans ?_
  refine (e_t (A := (50, 92, [some (vR 7 0 0), some (vI x1), some (vI x2), some (vI x3)], [], σ)) rfl h2).trans ?_
  exact e_r rfl
set_option maxRecDepth 20000 in
theorem g50_10_1 (C : pmC) {σ : pmS} {x1 : Int32} {x2 : Int32} {x3 : Int32} (h1 : (2048 : Int32) ≤ x3) (h2 : ¬ (1000 : Int32) ≤ (σ.1 7 0 2 0)) (h3 : vp_in x2 2048) (h4 : vp_in (σ.1 7 0 2 0) 1000) : pq_Rn C (50, 10, [some (vR 7 0 0), some (vI x1), some (vI x2), some (vI x3)], [], σ) = some (none, (pm_wi (pm_wi (pm_wi σ 7 0 1 (x2).toNatClampNeg (x1 + (1 : Int32))) 7 0 0 ((σ.1 7 0 2 0)).toNatClampNeg x1) 7 0 2 0 ((σ.1 7 0 2 0) + (1 : Int32)))) := by
  refine (e_n 2 (fr' := (50, 14, [some (vR 7 0 0), some (vI x1), some (vI x2), some (vI x3)], [vI (2048 : Int32), vI x3], σ)) rfl).trans ?_
  refine (e_t (A := (50, 53, [some (vR 7 0 0), some (vI x1), some (vI x2), some (vI x3)], [], σ)) rfl h1).trans ?_
  refine (e_n 3 (fr' := (50, 60, [some (vR 7 0 0), some (vI x1), some (vI x2), some (vI x3)], [vI (1000 : Int32), vI (σ.1 7 0 2 0)], σ)) rfl).trans ?_
  refine (e_f (B := (50, 63, [some (vR 7 0 0), some (vI x1), some (vI x2), some (vI x3)], [], σ)) rfl h2).trans ?_
  refine (e_n 6 (fr' := (50, 71, [some (vR 7 0 0), some (vI x1), some (vI x2), some (vI x3)], [vI (x1 + (1 : Int32)), vI x2, vR 7 0 2], σ)) rfl).trans ?_
  refine (e_a (A := (50, 72, [some (vR 7 0 0), some (vI x1), some (vI x2), some (vI x3)], [], (pm_wi σ 7 0 1 (x2).toNatClampNeg (x1 + (1 : Int32))))) rfl h3).trans ?_
  refine (e_n 5 (fr' := (50, 81, [some (vR 7 0 0), some (vI x1), some (vI x2), some (vI x3)], [vI x1, vI (σ.1 7 0 2 0), vR 7 0 1], (pm_wi σ 7 0 1 (x2).toNatClampNeg (x1 + (1 : Int32))))) rfl).trans ?_
  refine (e_a (A := (50, 82, [some (vR 7 0 0), some (vI x1), some (vI x2), some (vI x3)], [], (pm_wi (pm_wi σ 7 0 1 (x2).toNatClampNeg (x1 + (1 : Int32))) 7 0 0 ((σ.1 7 0 2 0)).toNatClampNeg x1))) rfl h4).trans ?_
  refine (e_n 6 (fr' := (50, 92, [some (vR 7 0 0), some (vI x1), some (vI x2), some (vI x3)], [], (pm_wi (pm_wi (pm_wi σ 7 0 1 (x2).toNatClampNeg (x1 + (1 : Int32))) 7 0 0 ((σ.1 7 0 2 0)).toNatClampNeg x1) 7 0 2 0 ((σ.1 7 0 2 0) + (1 : Int32))))) rfl).trans ?_
  exact e_r rfl
set_option maxRecDepth 20000 in
theorem g50_10_2 (C : pmC) {σ : pmS} {x1 : Int32} {x2 : Int32} {x3 : Int32} (h1 : ¬ (2048 : Int32) ≤ x3) (h2 : vp_in x2 2048) (h3 : (σ.1 7 0 1 (x2).toNatClampNeg) = 0) (h4 : (1000 : Int32) ≤ (σ.1 7 0 2 0)) : pq_Rn C (50, 10, [some (vR 7 0 0), some (vI x1), some (vI x2), some (vI x3)], [], σ) = some (none, σ) := by
  refine (e_n 2 (fr' := (50, 14, [some (vR 7 0 0), some (vI x1), some (vI x2), some (vI x3)], [vI (2048 : Int32), vI x3], σ)) rfl).trans ?_
  refine (e_f (B := (50, 17, [some (vR 7 0 0), some (vI x1), some (vI x2), some (vI x3)], [], σ)) rfl h1).trans ?_
  refine (e_n 3 (fr' := (50, 22, [some (vR 7 0 0), some (vI x1), some (vI x2), some (vI x3)], [vI x2, vR 7 0 2], σ)) rfl).trans ?_
  refine (e_a (A := (50, 23, [some (vR 7 0 0), some (vI x1), some (vI x2), some (vI x3)], [vI (σ.1 7 0 1 (x2).toNatClampNeg)], σ)) rfl h2).trans ?_
  refine (e_t (A := (50, 53, [some (vR 7 0 0), some (vI x1), some (vI x2), some (vI x3)], [], σ)) rfl h3).trans ?_
  refine (e_n 3 (fr' := (50, 60, [some (vR 7 0 0), some (vI x1), some (vI x2), some (vI x3)], [vI (1000 : Int32), vI (σ.1 7 0 2 0)], σ)) rfl).trans ?_
  refine (e_t (A := (50, 92, [some (vR 7 0 0), some (vI x1), some (vI x2), some (vI x3)], [], σ)) rfl h4).trans ?_
  exact e_r rfl
set_option maxRecDepth 20000 in
theorem g50_10_3 (C : pmC) {σ : pmS} {x1 : Int32} {x2 : Int32} {x3 : Int32} (h1 : ¬ (2048 : Int32) ≤ x3) (h2 : vp_in x2 2048) (h3 : (σ.1 7 0 1 (x2).toNatClampNeg) = 0) (h4 : ¬ (1000 : Int32) ≤ (σ.1 7 0 2 0)) (h5 : vp_in (σ.1 7 0 2 0) 1000) : pq_Rn C (50, 10, [some (vR 7 0 0), some (vI x1), some (vI x2), some (vI x3)], [], σ) = some (none, (pm_wi (pm_wi (pm_wi σ 7 0 1 (x2).toNatClampNeg (x1 + (1 : Int32))) 7 0 0 ((σ.1 7 0 2 0)).toNatClampNeg x1) 7 0 2 0 ((σ.1 7 0 2 0) + (1 : Int32)))) := by
  refine (e_n 2 (fr' := (50, 14, [some (vR 7 0 0), some (vI x1), some (vI x2), some (vI x3)], [vI (2048 : Int32), vI x3], σ)) rfl).trans ?_
  refine (e_f (B := (50, 17, [some (vR 7 0 0), some (vI x1), some (vI x2), some (vI x3)], [], σ)) rfl h1).trans ?_
  refine (e_n 3 (fr' := (50, 22, [some (vR 7 0 0), some (vI x1), some (vI x2), some (vI x3)], [vI x2, vR 7 0 2], σ)) rfl).trans ?_
  refine (e_a (A := (50, 23, [some (vR 7 0 0), some (vI x1), some (vI x2), some (vI x3)], [vI (σ.1 7 0 1 (x2).toNatClampNeg)], σ)) rfl h2).trans ?_
  refine (e_t (A := (50, 53, [some (vR 7 0 0), some (vI x1), some (vI x2), some (vI x3)], [], σ)) rfl h3).trans ?_
  refine (e_n 3 (fr' := (50, 60, [some (vR 7 0 0), some (vI x1), some (vI x2), some (vI x3)], [vI (1000 : Int32), vI (σ.1 7 0 2 0)], σ)) rfl).trans ?_
  refine (e_f (B := (50, 63, [some (vR 7 0 0), some (vI x1), some (vI x2), some (vI x3)], [], σ)) rfl h4).trans ?_
  refine (e_n 6 (fr' := (50, 71, [some (vR 7 0 0), some (vI x1), some (vI x2), some (vI x3)], [vI (x1 + (1 : Int32)), vI x2, vR 7 0 2], σ)) rfl).trans ?_
  refine (e_a (A := (50, 72, [some (vR 7 0 0), some (vI x1), some (vI x2), some (vI x3)], [], (pm_wi σ 7 0 1 (x2).toNatClampNeg (x1 + (1 : Int32))))) rfl h2).trans ?_
  refine (e_n 5 (fr' := (50, 81, [some (vR 7 0 0), some (vI x1), some (vI x2), some (vI x3)], [vI x1, vI (σ.1 7 0 2 0), vR 7 0 1], (pm_wi σ 7 0 1 (x2).toNatClampNeg (x1 + (1 : Int32))))) rfl).trans ?_
  refine (e_a (A := (50, 82, [some (vR 7 0 0), some (vI x1), some (vI x2), some (vI x3)], [], (pm_wi (pm_wi σ 7 0 1 (x2).toNatClampNeg (x1 + (1 : Int32))) 7 0 0 ((σ.1 7 0 2 0)).toNatClampNeg x1))) rfl h5).trans ?_
  refine (e_n 6 (fr' := (50, 92, [some (vR 7 0 0), some (vI x1), some (vI x2), some (vI x3)], [], (pm_wi (pm_wi (pm_wi σ 7 0 1 (x2).toNatClampNeg (x1 + (1 : Int32))) 7 0 0 ((σ.1 7 0 2 0)).toNatClampNeg x1) 7 0 2 0 ((σ.1 7 0 2 0) + (1 : Int32))))) rfl).trans ?_
  exact e_r rfl
