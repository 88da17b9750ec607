/-! segment rules, by program -/
set_option maxRecDepth 20000 in
theorem g151_0_5 (C : pmC) {σ : pmS} {x1 : Int32} {x2 : Int32} (h1 : vp_in x1 48) (h2 : ¬ (σ.1 10 0 23 (x1).toNatClampNeg) = x2) (h3 : ¬ (σ.1 10 0 24 (x1).toNatClampNeg) = x2) (h4 : vp_in x2 48) (h5 : ¬ (σ.1 10 0 23 (x2).toNatClampNeg) = x1) (h6 : ¬ (σ.1 10 0 24 (x2).toNatClampNeg) = x1) (h7 : ¬ (σ.1 10 0 23 (x1).toNatClampNeg) < 0) (h8 : (σ.1 10 0 23 (x1).toNatClampNeg) = (σ.1 10 0 23 (x2).toNatClampNeg)) : pq_Rn C (151, 0, [some (vR 10 0 0), some (vI x1), some (vI x2)], [], σ) = some (some (vI (1 : Int32)), σ) := by
  refine (e_n 3 (fr' := (151, 5, [some (vR 10 0 0), some (vI x1), some (vI x2)], [vI x1, vR 10 0 24], σ)) rfl).trans ?_
  refine (e_a (A := (151, 6, [some (vR 10 0 0), some (vI x1), some (vI x2)], [vI (σ.1 10 0 23 (x1).toNatClampNeg)], σ)) rfl h1).trans ?_
  refine (e_n 1 (fr' := (151, 7, [some (vR 10 0 0), some (vI x1), some (vI x2)], [vI x2, vI (σ.1 10 0 23 (x1).toNatClampNeg)], σ)) rfl).trans ?_
  refine (e_f (B := (151, 10, [some (vR 10 0 0), some (vI x1), some (vI x2)], [], σ)) rfl h2).trans ?_
  refine (e_n 3 (fr' := (151, 15, [some (vR 10 0 0), some (vI x1), some (vI x2)], [vI x1, vR 10 0 25], σ)) rfl).trans ?_
  refine (e_a (A := (151, 16, [some (vR 10 0 0), some (vI x1), some (vI x2)], [vI (σ.1 10 0 24 (x1).toNatClampNeg)], σ)) rfl h1).trans ?_
  refine (e_n 1 (fr' := (151, 17, [some (vR 10 0 0), some (vI x1), some (vI x2)], [vI x2, vI (σ.1 10 0 24 (x1).toNatClampNeg)], σ)) rfl).trans ?_
  refine (e_f (B := (151, 20, [some (vR 10 0 0), some (vI x1), some (vI x2)], [], σ)) rfl h3).trans ?_
  refine (e_n 3 (fr' := (151, 25, [some (vR 10 0 0), some (vI x1), some (vI x2)], [vI x2, vR 10 0 24], σ)) rfl).trans ?_
  refine (e_a (A := (151, 26, [some (vR 10 0 0), some (vI x1), some (vI x2)], [vI (σ.1 10 0 23 (x2).toNatClampNeg)], σ)) rfl h4).trans ?_
  refine (e_n 1 (fr' := (151, 27, [some (vR 10 0 0), some (vI x1), some (vI x2)], [vI x1, vI (σ.1 10 0 23 (x2).toNatClampNeg)], σ)) rfl).trans ?_
  refine (e_f (B := (151, 30, [some (vR 10 0 0), some (vI x1), some (vI x2)], [], σ)) rfl h5).trans ?_
  refine (e_n 3 (fr' := (151, 35, [some (vR 10 0 0), some (vI x1), some (vI x2)], [vI x2, vR 10 0 25], σ)) rfl).trans ?_
  refine (e_a (A := (151, 36, [some (vR 10 0 0), some (vI x1), some (vI x2)], [vI (σ.1 10 0 24 (x2).toNatClampNeg)], σ)) rfl h4).trans ?_
  refine (e_n 1 (fr' := (151, 37, [some (vR 10 0 0), some (vI x1), some (vI x2)], [vI x1, vI (σ.1 10 0 24 (x2).toNatClampNeg)], σ)) rfl).trans ?_
  refine (e_f (B := (151, 42, [some (vR 10 0 0), some (vI x1), some (vI x2)], [], σ)) rfl h6).trans ?_
  refine (e_n 3 (fr' := (151, 47, [some (vR 10 0 0), some (vI x1), some (vI x2)], [vI x1, vR 10 0 24], σ)) rfl).trans ?_
  refine (e_a (A := (151, 48, [some (vR 10 0 0), some (vI x1), some (vI x2)], [vI (σ.1 10 0 23 (x1).toNatClampNeg)], σ)) rfl h1).trans ?_
  refine (e_f (B := (151, 51, [some (vR 10 0 0), some (vI x1), some (vI x2)], [], σ)) rfl h7).trans ?_
  refine (e_n 3 (fr' := (151, 56, [some (vR 10 0 0), some (vI x1), some (vI x2)], [vI x1, vR 10 0 24], σ)) rfl).trans ?_
  refine (e_a (A := (151, 57, [some (vR 10 0 0), some (vI x1), some (vI x2)], [vI (σ.1 10 0 23 (x1).toNatClampNeg)], σ)) rfl h1).trans ?_
  refine (e_n 3 (fr' := (151, 62, [some (vR 10 0 0), some (vI x1), some (vI x2)], [vI x2, vR 10 0 24, vI (σ.1 10 0 23 (x1).toNatClampNeg)], σ)) rfl).trans ?_
  refine (e_a (A := (151, 63, [some (vR 10 0 0), some (vI x1), some (vI x2)], [vI (σ.1 10 0 23 (x2).toNatClampNeg), vI (σ.1 10 0 23 (x1).toNatClampNeg)], σ)) rfl h4).trans ?_
  refine (e_t (A := (151, 81, [some (vR 10 0 0), some (vI x1), some (vI x2)], [], σ)) rfl h8).trans ?_
  refine (e_n 2 (fr' := (151, 86, [some (vR 10 0 0), some (vI x1), some (vI x2)], [vI (1 : Int32)], σ)) rfl).trans ?_
  exact e_r rfl
set_option maxRecDepth 20000 in
theorem g151_0_6 (C : pmC) {σ : pmS} {x1 : Int32} {x2 : Int32} (h1 : vp_in x1 48) (h2 : ¬ (σ.1 10 0 23 (x1).toNatClampNeg) = x2) (h3 : ¬ (σ.1 10 0 24 (x1).toNatClampNeg) = x2) (h4 : vp_in x2 48) (h5 : ¬ (σ.1 10 0 23 (x2).toNatClampNeg) = x1) (h6 : ¬ (σ.1 10 0 24 (x2).toNatClampNeg) = x1) (h7 : ¬ (σ.1 10 0 23 (x1).toNatClampNeg) < 0) (h8 : ¬ (σ.1 10 0 23 (x1).toNatClampNeg) = (σ.1 10 0 23 (x2).toNatClampNeg)) (h9 : (σ.1 10 0 24 (x1).toNatClampNeg) = (σ.1 10 0 24 (x2).toNatClampNeg)) : pq_Rn C (151, 0, [some (vR 10 0 0), some (vI x1), some (vI x2)], [], σ) = some (some (vI (1 : Int32)), σ) := by
  refine (e_n 3 (fr' := (151, 5, [some (vR 10 0 0), some (vI x1), some (vI x2)], [vI x1, vR 10 0 24], σ)) rfl).trans ?_
  refine (e_a (A := (151, 6, [some (vR 10 0 0), some (vI x1), some (vI x2)], [vI (σ.1 10 0 23 (x1).toNatClampNeg)], σ)) rfl h1).trans ?_
  refine (e_n 1 (fr' := (151, 7, [some (vR 10 0 0), some (vI x1), some (vI x2)], [vI x2, vI (σ.1 10 0 23 (x1).toNatClampNeg)], σ)) rfl).trans ?_
  refine (e_f (B := (151, 10, [some (vR 10 0 0), some (vI x1), some (vI x2)], [], σ)) rfl h2).trans ?_
  refine (e_n 3 (fr' := (151, 15, [some (vR 10 0 0), some (vI x1), some (vI x2)], [vI x1, vR 10 0 25], σ)) rfl).trans ?_
  refine (e_a (A := (151, 16, [some (vR 10 0 0), some (vI x1), some (vI x2)], [vI (σ.1 10 0 24 (x1).toNatClampNeg)], σ)) rfl h1).trans ?_
  refine (e_n 1 (fr' := (151, 17, [some (vR 10 0 0), some (vI x1), some (vI x2)], [vI x2, vI (σ.1 10 0 24 (x1).toNatClampNeg)], σ)) rfl).trans ?_
  refine (e_f (B := (151, 20, [some (vR 10 0 0), some (vI x1), some (vI x2)], [], σ)) rfl h3).trans ?_
  refine (e_n 3 (fr' := (151, 25, [some (vR 10 0 0), some (vI x1), some (vI x2)], [vI x2, vR 10 0 24], σ)) rfl).trans ?_
  refine (e_a (A := (151, 26, [some (vR 10 0 0), some (vI x1), some (vI x2)], [vI (σ.1 10 0 23 (x2).toNatClampNeg)], σ)) rfl h4).trans ?_
  refine (e_n 1 (fr' := (151, 27, [some (vR 10 0 0), some (vI x1), some (vI x2)], [vI x1, vI (σ.1 10 0 23 (x2).toNatClampNeg)], σ)) rfl).trans ?_
  refine (e_f (B := (151, 30, [some (vR 10 0 0), some (vI x1), some (vI x2)], [], σ)) rfl h5).trans ?_
  refine (e_n 3 (fr' := (151, 35, [some (vR 10 0 0), some (vI x1), some (vI x2)], [vI x2, vR 10 0 25], σ)) rfl).trans ?_
  refine (e_a (A := (151, 36, [some (vR 10 0 0), some (vI x1), some (vI x2)], [vI (σ.1 10 0 24 (x2).toNatClampNeg)], σ)) rfl h4).trans ?_
  refine (e_n 1 (fr' := (151, 37, [some (vR 10 0 0), some (vI x1), some (vI x2)], [vI x1, vI (σ.1 10 0 24 (x2).toNatClampNeg)], σ)) rfl).trans ?_
  refine (e_f (B := (151, 42, [some (vR 10 0 0), some (vI x1), some (vI x2)], [], σ)) rfl h6).trans ?_
  refine (e_n 3 (fr' := (151, 47, [some (vR 10 0 0), some (vI x1), some (vI x2)], [vI x1, vR 10 0 24], σ)) rfl).trans ?_
  refine (e_a (A := (151, 48, [some (vR 10 0 0), some (vI x1), some (vI x2)], [vI (σ.1 10 0 23 (x1).toNatClampNeg)], σ)) rfl h1).trans ?_
  refine (e_f (B := (151, 51, [some (vR 10 0 0), some (vI x1), some (vI x2)], [], σ)) rfl h7).trans ?_
  refine (e_n 3 (fr' := (151, 56, [some (vR 10 0 0), some (vI x1), some (vI x2)], [vI x1, vR 10 0 24], σ)) rfl).trans ?_
  refine (e_a (A := (151, 57, [some (vR 10 0 0), some (vI x1), some (vI x2)], [vI (σ.1 10 0 23 (x1).toNatClampNeg)], σ)) rfl h1).trans ?_
  refine (e_n 3 (fr' := (151, 62, [some (vR 10 0 0), some (vI x1), some (vI x2)], [vI x2, vR 10 0 24, vI (σ.1 10 0 23 (x1).toNatClampNeg)], σ)) rfl).trans ?_
  refine (e_a (A := (151, 63, [some (vR 10 0 0), some (vI x1), some (vI x2)], [vI (σ.1 10 0 23 (x2).toNatClampNeg), vI (σ.1 10 0 23 (x1).toNatClampNeg)], σ)) rfl h4).trans ?_
  refine (e_f (B := (151, 66, [some (vR 10 0 0), some (vI x1), some (vI x2)], [], σ)) rfl h8).trans ?_
  refine (e_n 3 (fr' := (151, 71, [some (vR 10 0 0), some (vI x1), some (vI x2)], [vI x1, vR 10 0 25], σ)) rfl).trans ?_
  refine (e_a (A := (151, 72, [some (vR 10 0 0), some (vI x1), some (vI x2)], [vI (σ.1 10 0 24 (x1).toNatClampNeg)], σ)) rfl h1).trans ?_
  refine (e_n 3 (fr' := (151, 77, [some (vR 10 0 0), some (vI x1), some (vI x2)], [vI x2, vR 10 0 25, vI (σ.1 10 0 24 (x1).toNatClampNeg)], σ)) rfl).trans ?_
  refine (e_a (A := (151, 78, [some (vR 10 0 0), some (vI x1), some (vI x2)], [vI (σ.1 10 0 24 (x2).toNatClampNeg), vI (σ.1 10 0 24 (x1).toNatClampNeg)], σ)) rfl h4).trans ?_
  refine (e_t (A := (151, 81, [some (vR 10 0 0), some (vI x1), some (vI x2)], [], σ)) rfl h9).trans ?_
  refine (e_n 2 (fr' := (151, 86, [some (vR 10 0 0), some (vI x1), some (vI x2)], [vI (1 : Int32)], σ)) rfl).trans ?_
  exact e_r rfl
set_option maxRecDepth 20000 in
theorem g151_0_7 (C : pmC) {σ : pmS} {x1 : Int32} {x2 : Int32} (h1 : vp_in x1 48) (h2 : ¬ (σ.1 10 0 23 (x1).toNatClampNeg) = x2) (h3 : ¬ (σ.1 10 0 24 (x1).toNatClampNeg) = x2) (h4 : vp_in x2 48) (h5 : ¬ (σ.1 10 0 23 (x2).toNatClampNeg) = x1) (h6 : ¬ (σ.1 10 0 24 (x2).toNatClampNeg) = x1) (h7 : ¬ (σ.1 10 0 23 (x1).toNatClampNeg) < 0) (h8 : ¬ (σ.1 10 0 23 (x1).toNatClampNeg) = (σ.1 10 0 23 (x2).toNatClampNeg)) (h9 : ¬ (σ.1 10 0 24 (x1).toNatClampNeg) = (σ.1 10 0 24 (x2).toNatClampNeg)) : pq_Rn C (151, 0, [some (vR 10 0 0), some (vI x1), some (vI x2)], [], σ) = some (some (vI (0 : Int32)), σ) := by
  refine (e_n 3 (fr' := (151, 5, [some (vR 10 0 0), some (vI x1), some (vI x2)], [vI x1, vR 10 0 24], σ)) rfl).trans ?_
  refine (e_a (A := (151, 6, [some (vR 10 0 0), some (vI x1), some (vI x2)], [vI (σ.1 10 0 23 (x1).toNatClampNeg)], σ)) rfl h1).trans ?_
  refine (e_n 1 (fr' := (151, 7, [some (vR 10 0 0), some (vI x1), some (vI x2)], [vI x2, vI (σ.1 10 0 23 (x1).toNatClampNeg)], σ)) rfl).trans ?_
  refine (e_f (B := (151, 10, [some (vR 10 0 0), some (vI x1), some (vI x2)], [], σ)) rfl h2).trans ?_
  refine (e_n 3 (fr' := (151, 15, [some (vR 10 0 0), some (vI x1), some (vI x2)], [vI x1, vR 10 0 25], σ)) rfl).trans ?_
  refine (e_a (A := (151, 16, [some (vR 10 0 0), some (vI x1), some (vI x2)], [vI (σ.1 10 0 24 (x1).toNatClampNeg)], σ)) rfl h1).trans ?_
  refine (e_n 1 (fr' := (151, 17, [some (vR 10 0 0), some (vI x1), some (vI x2)], [vI x2, vI (σ.1 10 0 24 (x1).toNatClampNeg)], σ)) rfl).trans ?_
  refine (e_f (B := (151, 20, [some (vR 10 0 0), some (vI x1), some (vI x2)], [], σ)) rfl h3).trans ?_
  refine (e_n 3 (fr' := (151, 25, [some (vR 10 0 0), some (vI x1), some (vI x2)], [vI x2, vR 10 0 24], σ)) rfl).trans ?_
  refine (e_a (A := (151, 26, [some (vR 10 0 0), some (vI x1), some (vI x2)], [vI (σ.1 10 0 23 (x2).toNatClampNeg)], σ)) rfl h4).trans ?_
  refine (e_n 1 (fr' := (151, 27, [some (vR 10 0 0), some (vI x1), some (vI x2)], [vI x1, vI (σ.1 10 0 23 (x2).toNatClampNeg)], σ)) rfl).trans ?_
  refine (e_f (B := (151, 30, [some (vR 10 0 0), some (vI x1), some (vI x2)], [], σ)) rfl h5).trans ?_
  refine (e_n 3 (fr' := (151, 35, [some (vR 10 0 0), some (vI x1), some (vI x2)], [vI x2, vR 10 0 25], σ)) rfl).trans ?_
  refine (e_a (A := (151, 36, [some (vR 10 0 0), some (vI x1), some (vI x2)], [vI (σ.1 10 0 24 (x2).toNatClampNeg)], σ)) rfl h4).trans ?_
  refine (e_n 1 (fr' := (151, 37, [some (vR 10 0 0), some (vI x1), some (vI x2)], [vI x1, vI (σ.1 10 0 24 (x2).toNatClampNeg)], σ)) rfl).trans ?_
  refine (e_f (B := (151, 42, [some (vR 10 0 0), some (vI x1), some (vI x2)], [], σ)) rfl h6).trans ?_
  refine (e_n 3 (fr' := (151, 47, [some (vR 10 0 0), some (vI x1), some (vI x2)], [vI x1, vR 10 0 24], σ)) rfl).trans ?_
  refine (e_a (A := (151, 48, [some (vR 10 0 0), some (vI x1), some (vI x2)], [vI (σ.1 10 0 23 (x1).toNatClampNeg)], σ)) rfl h1).trans ?_
  refine (e_f (B := (151, 51, [some (vR 10 0 0), some (vI x1), some (vI x2)], [], σ)) rfl h7).trans ?_
  refine (e_n 3 (fr' := (151, 56, [some (vR 10 0 0), some (vI x1), some (vI x2)], [vI x1, vR 10 0 24], σ)) rfl).trans ?_
  refine (e_a (A := (151, 57, [some (vR 10 0 0), some (vI x1), some (vI x2)], [vI (σ.1 10 0 23 (x1).toNatClampNeg)], σ)) rfl h1).trans ?_
  refine (e_n 3 (fr' := (151, 62, [some (vR 10 0 0), some (vI x1), some (vI x2)], [vI x2, vR 10 0 24, vI (σ.1 10 0 23 (x1).toNatClampNeg)], σ)) rfl).trans ?_
  refine (e_a (A := (151, 63, [some (vR 10 0 0), some (vI x1), some (vI x2)], [vI (σ.1 10 0 23 (x2).toNatClampNeg), vI (σ.1 10 0 23 (x1).toNatClampNeg)], σ)) rfl h4).trans ?_
  refine (e_f (B := (151, 66, [some (vR 10 0 0), some (vI x1), some (vI x2)], [], σ)) rfl h8).trans ?_
  refine (e_n 3 (fr' := (151, 71, [some (vR 10 0 0), some (vI x1), some (vI x2)], [vI x1, vR 10 0 25], σ)) rfl).trans ?_
  refine (e_a (A := (151, 72, [some (vR 10 0 0), some (vI x1), some (vI x2)], [vI (σ.1 10 0 24 (x1).toNatClampNeg)], σ)) rfl h1).trans ?_
  refine (e_n 3 (fr' := (151, 77, [some (vR 10 0 0), some (vI x1), some (vI x2)], [vI x2, vR 10 0 25, vI (σ.1 10 0 24 (x1).toNatClampNeg)], σ)) rfl).trans ?_
  refine (e_a (A := (151, 78, [some (vR 10 0 0), some (vI x1), some (vI x2)], [vI (σ.1 10 0 24 (x2).toNatClampNeg), vI (σ.1 10 0 24 (x1).toNatClampNeg)], σ)) rfl h4).trans ?_
  refine (e_f (B := (151, 85, [some (vR 10 0 0), some (vI x1), some (vI x2)], [], σ)) rfl h9).trans ?_
  refine (e_n 1 (fr' := (151, 86, [some (vR 10 0 0), some (vI x1), some (vI x2)], [vI (0 : Int32)], σ)) rfl).trans ?_
  exact e_r rfl
set_option maxRecDepth 20000 in
theorem g152_0_0 (C : pmC) {σ : pmS} {x1 : Int32} {x2 : Int32} {x3 : Int32} {σ1 : pmS} {r1 : Int32} (h1 : C 141 [vR 10 0 0, vI x1, vI x3] σ = some (some (vI r1), σ1)) (h2 : r1 = 0) : pq_Rn C (152, 0, [some (vR 10 0 0), some (vI x1), some (vI x2), some (vI x3)], [], σ) = some (some (vI (1 : Int32)), σ1) := by
  refine (e_n 3 (fr' := (152, 3, [some (vR 10 0 0), some (vI x1), some (vI x2), some (vI x3)], [vI x3, vI x1, vR 10 0 0], σ)) rfl).trans ?_
  refine (e_ci (m := 152) (pc := 6) (ls := [some (vR 10 0 0), some (vI x1), some (vI x2), some (vI x3)]) (rest := []) rfl h1).trans ?_
  refine (e_t (A := (152, 18, [some (vR 10 0 0), some (vI x1), some (vI x2), some (vI x3)], [], σ1)) rfl h2).trans ?_
  refine (e_n 1 (fr' := (152, 19, [some (vR 10 0 0), some (vI x1), some (vI x2), some (vI x3)], [vI (1 : Int32)], σ1)) rfl).trans ?_
  exact e_r rfl
set_option maxRecDepth 20000 in
theorem g152_0_1 (C : pmC) {σ : pmS} {x1 : Int32} {x2 : Int32} {x3 : Int32} {σ1 : pmS} {r1 : Int32} {σ2 : pmS} {r2 : Int32} (h1 : C 141 [vR 10 0 0, vI x1, vI x3] σ = some (some (vI r1), σ1)) (h2 : ¬ r1 = 0) (h3 : C 141 [vR 10 0 0, vI x2, vI x3] σ1 = some (some (vI r2), σ2)) (h4 : r2 = 0) : pq_Rn C (152, 0, [some (vR 10 0 0), some (vI x1), some (vI x2), some (vI x3)], [], σ) = some (some (vI (1 : Int32)), σ2) := by
  refine (e_n 3 (fr' := (152, 3, [some (vR 10 0 0), some (vI x1), some (vI x2), some (vI x3)], [vI x3, vI x1, vR 10 0 0], σ)) rfl).trans ?_
  refine (e_ci (m := 152) (pc := 6) (ls := [some (vR 10 0 0), some (vI x1), some (vI x2), some (vI x3)]) (rest := []) rfl h1).trans ?_
  refine (e_f (B := (152, 9, [some (vR 10 0 0), some (vI x1), some (vI x2), some (vI x3)], [], σ1)) rfl h2).trans ?_
  refine (e_n 3 (fr' := (152, 12, [some (vR 10 0 0), some (vI x1), some (vI x2), some (vI x3)], [vI x3, vI x2, vR 10 0 0], σ1)) rfl).trans ?_
  refine (e_ci (m := 152) (pc := 15) (ls := [some (vR 10 0 0), some (vI x1), some (vI x2), some (vI x3)]) (rest := []) rfl h3).trans ?_
  refine (e_t (A := (152, 18, [some (vR 10 0 0), some (vI x1), some (vI x2), some (vI x3)], [], σ2)) rfl h4).trans ?_
  refine (e_n 1 (fr' := (152, 19, [some (vR 10 0 0), some (vI x1), some (vI x2), some (vI x3)], [vI (1 : Int32)], σ2)) rfl).trans ?_
  exact e_r rfl
set_option maxRecDepth 20000 in
theorem g152_0_2 (C : pmC) {σ : pmS} {x1 : Int32} {x2 : Int32} {x3 : Int32} {σ1 : pmS} {r1 : Int32} {σ2 : pmS} {r2 : Int32} (h1 : C 141 [vR 10 0 0, vI x1, vI x3] σ = some (some (vI r1), σ1)) (h2 : ¬ r1 = 0) (h3 : C 141 [vR 10 0 0, vI x2, vI x3] σ1 = some (some (vI r2), σ2)) (h4 : ¬ r2 = 0) (h5 : vp_in x1 48) (h6 : (x3 - (σ2.1 10 0 20 (x1).toNatClampNeg)) < (σ2.1 10 0 18 0)) : pq_Rn C (152, 0, [some (vR 10 0 0), some (vI x1), some (vI x2), some (vI x3)], [], σ) = some (some (vI (2 : Int32)), σ2) := by
  refine (e_n 3 (fr' := (152, 3, [some (vR 10 0 0), some (vI x1), some (vI x2), some (vI x3)], [vI x3, vI x1, vR 10 0 0], σ)) rfl).trans ?_
  refine (e_ci (m := 152) (pc := 6) (ls := [some (vR 10 0 0), some (vI x1), some (vI x2), some (vI x3)]) (rest := []) rfl h1).trans ?_
  refine (e_f (B := (152, 9, [some (vR 10 0 0), some (vI x1), some (vI x2), some (vI x3)], [], σ1)) rfl h2).trans ?_
  refine (e_n 3 (fr' := (152, 12, [some (vR 10 0 0), some (vI x1), some (vI x2), some (vI x3)], [vI x3, vI x2, vR 10 0 0], σ1)) rfl).trans ?_
  refine (e_ci (m := 152) (pc := 15) (ls := [some (vR 10 0 0), some (vI x1), some (vI x2), some (vI x3)]) (rest := []) rfl h3).trans ?_
  refine (e_f (B := (152, 20, [some (vR 10 0 0), some (vI x1), some (vI x2), some (vI x3)], [], σ2)) rfl h4).trans ?_
  refine (e_n 4 (fr' := (152, 26, [some (vR 10 0 0), some (vI x1), some (vI x2), some (vI x3)], [vI x1, vR 10 0 21, vI x3], σ2)) rfl).trans ?_
  refine (e_a (A := (152, 27, [some (vR 10 0 0), some (vI x1), some (vI x2), some (vI x3)], [vI (σ2.1 10 0 20 (x1).toNatClampNeg), vI x3], σ2)) rfl h5).trans ?_
  refine (e_n 3 (fr' := (152, 32, [some (vR 10 0 0), some (vI x1), some (vI x2), some (vI x3)], [vI (σ2.1 10 0 18 0), vI (x3 - (σ2.1 10 0 20 (x1).toNatClampNeg))], σ2)) rfl).trans ?_
  refine (e_t (A := (152, 50, [some (vR 10 0 0), some (vI x1), some (vI x2), some (vI x3)], [], σ2)) rfl h6).trans ?_
  refine (e_n 1 (fr' := (152, 51, [some (vR 10 0 0), some (vI x1), some (vI x2), some (vI x3)], [vI (2 : Int32)], σ2)) rfl).trans ?_
  exact e_r rfl
set_option maxRecDepth 20000 in
theorem g152_0_3 (C : pmC) {σ : pmS} {x1 : Int32} {x2 : Int32} {x3 : Int32} {σ1 : pmS} {r1 : Int32} {σ2 : pmS} {r2 : Int32} {σ3 : pmS} {r3 : Int32} (h1 : C 141 [vR 10 0 0, vI x1, vI x3] σ = some (some (vI r1), σ1)) (h2 : ¬ r1 = 0) (h3 : C 141 [vR 10 0 0, vI x2, vI x3] σ1 = some (some (vI r2), σ2)) (h4 : ¬ r2 = 0) (h5 : vp_in x1 48) (h6 : ¬ (x3 - (σ2.1 10 0 20 (x1).toNatClampNeg)) < (σ2.1 10 0 18 0)) (h7 : vp_in x2 48) (h8 : (σ2.1 10 0 18 0) ≤ (x3 - (σ2.1 10 0 20 (x2).toNatClampNeg))) (h9 : C 150 [vR 10 0 0, vI x1, vI x3] σ2 = some (some (vI r3), σ3)) (h10 : 0 ≤ r3) : pq_Rn C (152, 0, [some (vR 10 0 0), some (vI x1), some (vI x2), some (vI x3)], [], σ) = some (some (vI (3 : Int32)), σ3) := by
  refine (e_n 3 (fr' := (152, 3, [some (vR 10 0 0), some (vI x1), some (vI x2), some (vI x3)], [vI x3, vI x1, vR 10 0 0], σ)) rfl).trans ?_
  refine (e_ci (m := 152) (pc := 6) (ls := [some (vR 10 0 0), some (vI x1), some (vI x2), some (vI x3)]) (rest := []) rfl h1).trans ?_
  refine (e_f (B := (152, 9, [some (vR 10 0 0), some (vI x1), some (vI x2), some (vI x3)], [], σ1)) rfl h2).trans ?_
  refine (e_n 3 (fr' := (152, 12, [some (vR 10 0 0), some (vI x1), some (vI x2), some (vI x3)], [vI x3, vI x2, vR 10 0 0], σ1)) rfl).trans ?_
  refine (e_ci (m := 152) (pc := 15) (ls := [some (vR 10 0 0), some (vI x1), some (vI x2), some (vI x3)]) (rest := []) rfl h3).trans ?_
  refine (e_f (B := (152, 20, [some (vR 10 0 0), some (vI x1), some (vI x2), some (vI x3)], [], σ2)) rfl h4).trans ?_
  refine (e_n 4 (fr' := (152, 26, [some (vR 10 0 0), some (vI x1), some (vI x2), some (vI x3)], [vI x1, vR 10 0 21, vI x3], σ2)) rfl).trans ?_
  refine (e_a (A := (152, 27, [some (vR 10 0 0), some (vI x1), some (vI x2), some (vI x3)], [vI (σ2.1 10 0 20 (x1).toNatClampNeg), vI x3], σ2)) rfl h5).trans ?_
  refine (e_n 3 (fr' := (152, 32, [some (vR 10 0 0), some (vI x1), some (vI x2), some (vI x3)], [vI (σ2.1 10 0 18 0), vI (x3 - (σ2.1 10 0 20 (x1).toNatClampNeg))], σ2)) rfl).trans ?_
  refine (e_f (B := (152, 35, [some (vR 10 0 0), some (vI x1), some (vI x2), some (vI x3)], [], σ2)) rfl h6).trans ?_
  refine (e_n 4 (fr' := (152, 41, [some (vR 10 0 0), some (vI x1), some (vI x2), some (vI x3)], [vI x2, vR 10 0 21, vI x3], σ2)) rfl).trans ?_
  refine (e_a (A := (152, 42, [some (vR 10 0 0), some (vI x1), some (vI x2), some (vI x3)], [vI (σ2.1 10 0 20 (x2).toNatClampNeg), vI x3], σ2)) rfl h7).trans ?_
  refine (e_n 3 (fr' := (152, 47, [some (vR 10 0 0), some (vI x1), some (vI x2), some (vI x3)], [vI (σ2.1 10 0 18 0), vI (x3 - (σ2.1 10 0 20 (x2).toNatClampNeg))], σ2)) rfl).trans ?_
  refine (e_t (A := (152, 52, [some (vR 10 0 0), some (vI x1), some (vI x2), some (vI x3)], [], σ2)) rfl h8).trans ?_
  refine (e_n 3 (fr' := (152, 55, [some (vR 10 0 0), some (vI x1), some (vI x2), some (vI x3)], [vI x3, vI x1, vR 10 0 0], σ2)) rfl).trans ?_
  refine (e_ci (m := 152) (pc := 58) (ls := [some (vR 10 0 0), some (vI x1), some (vI x2), some (vI x3)]) (rest := []) rfl h9).trans ?_
  refine (e_t (A := (152, 70, [some (vR 10 0 0), some (vI x1), some (vI x2), some (vI x3)], [], σ3)) rfl h10).trans ?_
  refine (e_n 1 (fr' := (152, 71, [some (vR 10 0 0), some (vI x1), some (vI x2), some (vI x3)], [vI (3 : Int32)], σ3)) rfl).trans ?_
  exact e_r rfl
set_option maxRecDepth 20000 in
theorem g152_0_4 (C : pmC) {σ : pmS} {x1 : Int32} {x2 : Int32} {x3 : Int32} {σ1 : pmS} {r1 : Int32} {σ2 : pmS} {r2 : Int32} {σ3 : pmS} {r3 : Int32} {σ4 : pmS} {r4 : Int32} {σ5 : pmS} {r5 : Int32} {σ6 : pmS} {r6 : Int32} (h1 : C 141 [vR 10 0 0, vI x1, vI x3] σ = some (some (vI r1), σ1)) (h2 : ¬ r1 = 0) (h3 : C 141 [vR 10 0 0, vI x2, vI x3] σ1 = some (some (vI r2), σ2)) (h4 : ¬ r2 = 0) (h5 : vp_in x1 48) (h6 : ¬ (x3 - (σ2.1 10 0 20 (x1).toNatClampNeg)) < (σ2.1 10 0 18 0)) (h7 : vp_in x2 48) (h8 : (σ2.1 10 0 18 0) ≤ (x3 - (σ2.1 10 0 20 (x2).toNatClampNeg))) (h9 : C 150 [vR 10 0 0, vI x1, vI x3] σ2 = some (some (vI r3), σ3)) (h10 : ¬ 0 ≤ r3) (h11 : C 150 [vR 10 0 0, vI x2, vI x3] σ3 = some (some (vI r4), σ4)) (h12 : r4 < 0) (h13 : C 151 [vR 10 0 0, vI x1, vI x2] σ4 = some (some (vI r5), σ5)) (h14 : r5 = 0) (h15 : C 148 [vR 10 0 0, vI x1, vI x2, vI x3] σ5 = some (some (vI r6), σ6)) (h16 : r6 = 0) : pq_Rn C (152, 0, [some (vR 10 0 0), some (vI x1), some (vI x2), some (vI x3)], [], σ) = some (some (vI (5 : Int32)), σ6) := by
  refine (e_n 3 (fr' := (152, 3, [some (vR 10 0 0), some (vI x1), some (vI x2), some (vI x3)], [vI x3, vI x1, vR 10 0 0], σ)) rfl).trans ?_
  refine (e_ci (m := 152) (pc := 6) (ls := [some (vR 10 0 0), some (vI x1), some (vI x2), some (vI x3)]) (rest := []) rfl h1).trans ?_
  refine (e_f (B := (152, 9, [some (vR 10 0 0), some (vI x1), some (vI x2), some (vI x3)], [], σ1)) rfl h2).trans ?_
  refine (e_n 3 (fr' := (152, 12, [some (vR 10 0 0), some (vI x1), some (vI x2), some (vI x3)], [vI x3, vI x2, vR 10 0 0], σ1)) rfl).trans ?_
  refine (e_ci (m := 152) (pc := 15) (ls := [some (vR 10 0 0), some (vI x1), some (vI x2), some (vI x3)]) (rest := []) rfl h3).trans ?_
  refine (e_f (B := (152, 20, [some (vR 10 0 0), some (vI x1), some (vI x2), some (vI x3)], [], σ2)) rfl h4).trans ?_
  refine (e_n 4 (fr' := (152, 26, [some (vR 10 0 0), some (vI x1), some (vI x2), some (vI x3)], [vI x1, vR 10 0 21, vI x3], σ2)) rfl).trans ?_
  refine (e_a (A := (152, 27, [some (vR 10 0 0), some (vI x1), some (vI x2), some (vI x3)], [vI (σ2.1 10 0 20 (x1).toNatClampNeg), vI x3], σ2)) rfl h5).trans ?_
  refine (e_n 3 (fr' := (152, 32, [some (vR 10 0 0), some (vI x1), some (vI x2), some (vI x3)], [vI (σ2.1 10 0 18 0), vI (x3 - (σ2.1 10 0 20 (x1).toNatClampNeg))], σ2)) rfl).trans ?_
  refine (e_f (B := (152, 35, [some (vR 10 0 0), some (vI x1), some (vI x2), some (vI x3)], [], σ2)) rfl h6).trans ?_
  refine (e_n 4 (fr' := (152, 41, [some (vR 10 0 0), some (vI x1), some (vI x2), some (vI x3)], [vI x2, vR 10 0 21, vI x3], σ2)) rfl).trans ?_
  refine (e_a (A := (152, 42, [some (vR 10 0 0), some (vI x1), some (vI x2), some (vI x3)], [vI (σ2.1 10 0 20 (x2).toNatClampNeg), vI x3], σ2)) rfl h7).trans ?_
  refine (e_n 3 (fr' := (152, 47, [some (vR 10 0 0), some (vI x1), some (vI x2), some (vI x3)], [vI (σ2.1 10 0 18 0), vI (x3 - (σ2.1 10 0 20 (x2).toNatClampNeg))], σ2)) rfl).trans ?_
  refine (e_t (A := (152, 52, [some (vR 10 0 0), some (vI x1), some (vI x2), some (vI x3)], [], σ2)) rfl h8).trans ?_
  refine (e_n 3 (fr' := (152, 55, [some (vR 10 0 0), some (vI x1), some (vI x2), some (vI x3)], [vI x3, vI x1, vR 10 0 0], σ2)) rfl).trans ?_
  refine (e_ci (m := 152) (pc := 58) (ls := [some (vR 10 0 0), some (vI x1), some (vI x2), some (vI x3)]) (rest := []) rfl h9).trans ?_
  refine (e_f (B := (152, 61, [some (vR 10 0 0), some (vI x1), some (vI x2), some (vI x3)], [], σ3)) rfl h10).trans ?_
  refine (e_n 3 (fr' := (152, 64, [some (vR 10 0 0), some (vI x1), some (vI x2), some (vI x3)], [vI x3, vI x2, vR 10 0 0], σ3)) rfl).trans ?_
  refine (e_ci (m := 152) (pc := 67) (ls := [some (vR 10 0 0), some (vI x1), some (vI x2), some (vI x3)]) (rest := []) rfl h11).trans ?_
  refine (e_t (A := (152, 72, [some (vR 10 0 0), some (vI x1), some (vI x2), some (vI x3)], [], σ4)) rfl h12).trans ?_
  refine (e_n 3 (fr' := (152, 75, [some (vR 10 0 0), some (vI x1), some (vI x2), some (vI x3)], [vI x2, vI x1, vR 10 0 0], σ4)) rfl).trans ?_
  refine (e_ci (m := 152) (pc := 78) (ls := [some (vR 10 0 0), some (vI x1), some (vI x2), some (vI x3)]) (rest := []) rfl h13).trans ?_
  refine (e_t (A := (152, 83, [some (vR 10 0 0), some (vI x1), some (vI x2), some (vI x3)], [], σ5)) rfl h14).trans ?_
  refine (e_n 4 (fr' := (152, 87, [some (vR 10 0 0), some (vI x1), some (vI x2), some (vI x3)], [vI x3, vI x2, vI x1, vR 10 0 0], σ5)) rfl).trans ?_
  refine (e_ci (m := 152) (pc := 90) (ls := [some (vR 10 0 0), some (vI x1), some (vI x2), some (vI x3)]) (rest := []) rfl h15).trans ?_
  refine (e_t (A := (152, 97, [some (vR 10 0 0), some (vI x1), some (vI x2), some (vI x3)], [], σ6)) rfl h16).trans ?_
  refine (e_n 1 (fr' := (152, 98, [some (vR 10 0 0), some (vI x1), some (vI x2), some (vI x3)], [vI (5 : Int32)], σ6)) rfl).trans ?_
  exact e_r rfl
set_option maxRecDepth 20000 in
theorem g152_0_5 (C : pmC) {σ : pmS} {x1 : Int32} {x2 : Int32} {x3 : Int32} {σ1 : pmS} {r1 : Int32} {σ2 : pmS} {r2 : Int32} {σ3 : pmS} {r3 : Int32} {σ4 : pmS} {r4 : Int32} {σ5 : pmS} {r5 : Int32} {σ6 : pmS} {r6 : Int32} (h1 : C 141 [vR 10 0 0, vI x1, vI x3] σ = some (some (vI r1), σ1)) (h2 : ¬ r1 = 0) (h3 : C 141 [vR 10 0 0, vI x2, vI x3] σ1 = some (some (vI r2), σ2)) (h4 : ¬ r2 = 0) (h5 : vp_in x1 48) (h6 : ¬ (x3 - (σ2.1 10 0 20 (x1).toNatClampNeg)) < (σ2.1 10 0 18 0)) (h7 : vp_in x2 48) (h8 : (σ2.1 10 0 18 0) ≤ (x3 - (σ2.1 10 0 20 (x2).toNatClampNeg))) (h9 : C 150 [vR 10 0 0, vI x1, vI x3] σ2 = some (some (vI r3), σ3)) (h10 : ¬ 0 ≤ r3) (h11 : C 150 [vR 10 0 0, vI x2, vI x3] σ3 = some (some (vI r4), σ4)) (h12 : r4 < 0) (h13 : C 151 [vR 10 0 0, vI x1, vI x2] σ4 = some (some (vI r5), σ5)) (h14 : r5 = 0) (h15 : C 148 [vR 10 0 0, vI x1, vI x2, vI x3] σ5 = some (some (vI r6), σ6)) (h16 : ¬ r6 = 0) : pq_Rn C (152, 0, [some (vR 10 0 0), some (vI x1), some (vI x2), some (vI x3)], [], σ) = some (some (vI (0 : Int32)), σ6) := by
  refine (e_n 3 (fr' := (152, 3, [some (vR 10 0 0), some (vI x1), some (vI x2), some (vI x3)], [vI x3, vI x1, vR 10 0 0], σ)) rfl).trans ?_
  refine (e_ci (m := 152) (pc := 6) (ls := [some (vR 10 0 0), some (vI x1), some (vI x2), some (vI x3)]) (rest := []) rfl h1).trans ?_
  refine (e_f (B := (152, 9, [some (vR 10 0 0), some (vI x1), some (vI x2), some (vI x3)], [], σ1)) rfl h2).trans ?_
  refine (e_n 3 (fr' := (152, 12, [some (vR 10 0 0), some (vI x1), some (vI x2), some (vI x3)], [vI x3, vI x2, vR 10 0 0], σ1)) rfl).trans ?_
  refine (e_ci (m := 152) (pc := 15) (ls := [some (vR 10 0 0), some (vI x1), some (vI x2), some (vI x3)]) (rest := []) rfl h3).trans ?_
  refine (e_f (B := (152, 20, [some (vR 10 0 0), some (vI x1), some (vI x2), some (vI x3)], [], σ2)) rfl h4).trans ?_
  refine (e_n 4 (fr' := (152, 26, [some (vR 10 0 0), some (vI x1), some (vI x2), some (vI x3)], [vI x1, vR 10 0 21, vI x3], σ2)) rfl).trans ?_
  refine (e_a (A := (152, 27, [some (vR 10 0 0), some (vI x1), some (vI x2), some (vI x3)], [vI (σ2.1 10 0 20 (x1).toNatClampNeg), vI x3], σ2)) rfl h5).trans ?_
  refine (e_n 3 (fr' := (152, 32, [some (vR 10 0 0), some (vI x1), some (vI x2), some (vI x3)], [vI (σ2.1 10 0 18 0), vI (x3 - (σ2.1 10 0 20 (x1).toNatClampNeg))], σ2)) rfl).trans ?_
  refine (e_f (B := (152, 35, [some (vR 10 0 0), some (vI x1), some (vI x2), some (vI x3)], [], σ2)) rfl h6).trans ?_
  refine (e_n 4 (fr' := (152, 41, [some (vR 10 0 0), some (vI x1), some (vI x2), some (vI x3)], [vI x2, vR 10 0 21, vI x3], σ2)) rfl).trans ?_
  refine (e_a (A := (152, 42, [some (vR 10 0 0), some (vI x1), some (vI x2), some (vI x3)], [vI (σ2.1 10 0 20 (x2).toNatClampNeg), vI x3], σ2)) rfl h7).trans ?_
  refine (e_n 3 (fr' := (152, 47, [some (vR 10 0 0), some (vI x1), some (vI x2), some (vI x3)], [vI (σ2.1 10 0 18 0), vI (x3 - (σ2.1 10 0 20 (x2).toNatClampNeg))], σ2)) rfl).trans ?_
  refine (e_t (A := (152, 52, [some (vR 10 0 0), some (vI x1), some (vI x2), some (vI x3)], [], σ2)) rfl h8).trans ?_
  refine (e_n 3 (fr' := (152, 55, [some (vR 10 0 0), some (vI x1), some (vI x2), some (vI x3)], [vI x3, vI x1, vR 10 0 0], σ2)) rfl).trans ?_
  refine (e_ci (m := 152) (pc := 58) (ls := [some (vR 10 0 0), some (vI x1), some (vI x2), some (vI x3)]) (rest := []) rfl h9).trans ?_
  refine (e_f (B := (152, 61, [some (vR 10 0 0), some (vI x1), some (vI x2), some (vI x3)], [], σ3)) rfl h10).trans ?_
  refine (e_n 3 (fr' := (152, 64, [some (vR 10 0 0), some (vI x1), some (vI x2), some (vI x3)], [vI x3, vI x2, vR 10 0 0], σ3)) rfl).trans ?_
  refine (e_ci (m := 152) (pc := 67) (ls := [some (vR 10 0 0), some (vI x1), some (vI x2), some (vI x3)]) (rest := []) rfl h11).trans ?_
  refine (e_t (A := (152, 72, [some (vR 10 0 0), some (vI x1), some (vI x2), some (vI x3)], [], σ4)) rfl h12).trans ?_
  refine (e_n 3 (fr' := (152, 75, [some (vR 10 0 0), some (vI x1), some (vI x2), some (vI x3)], [vI x2, vI x1, vR 10 0 0], σ4)) rfl).trans ?_
  refine (e_ci (m := 152) (pc := 78) (ls := [some (vR 10 0 0), some (vI x1), some (vI x2), some (vI x3)]) (rest := []) rfl h13).trans ?_
  refine (e_t (A := (152, 83, [some (vR 10 0 0), some (vI x1), some (vI x2), some (vI x3)], [], σ5)) rfl h14).trans ?_
  refine (e_n 4 (fr' := (152, 87, [some (vR 10 0 0), some (vI x1), some (vI x2), some (vI x3)], [vI x3, vI x2, vI x1, vR 10 0 0], σ5)) rfl).trans ?_
  refine (e_ci (m := 152) (pc := 90) (ls := [some (vR 10 0 0), some (vI x1), some (vI x2), some (vI x3)]) (rest := []) rfl h15).trans ?_
  refine (e_f (B := (152, 93, [some (vR 10 0 0), some (vI x1), some (vI x2), some (vI x3)], [], σ6)) rfl h16).trans ?_
  refine (e_n 2 (fr' := (152, 98, [some (vR 10 0 0), some (vI x1), some (vI x2), some (vI x3)], [vI (0 : Int32)], σ6)) rfl).trans ?_
  exact e_r rfl
set_option maxRecDepth 20000 in
theorem g152_0_6 (C : pmC) {σ : pmS} {x1 : Int32} {x2 : Int32} {x3 : Int32} {σ1 : pmS} {r1 : Int32} {σ2 : pmS} {r2 : Int32} {σ3 : pmS} {r3 : Int32} {σ4 : pmS} {r4 : Int32} {σ5 : pmS} {r5 : Int32} (h1 : C 141 [vR 10 0 0, vI x1, vI x3] σ = some (some (vI r1), σ1)) (h2 : ¬ r1 = 0) (h3 : C 141 [vR 10 0 0, vI x2, vI x3] σ1 = some (some (vI r2), σ2)) (h4 : ¬ r2 = 0) (h5 : vp_in x1 48) (h6 : ¬ (x3 - (σ2.1 10 0 20 (x1).toNatClampNeg)) < (σ2.1 10 0 18 0)) (h7 : vp_in x2 48) (h8 : (σ2.1 10 0 18 0) ≤ (x3 - (σ2.1 10 0 20 (x2).toNatClampNeg))) (h9 : C 150 [vR 10 0 0, vI x1, vI x3] σ2 = some (some (vI r3), σ3)) (h10 : ¬ 0 ≤ r3) (h11 : C 150 [vR 10 0 0, vI x2, vI x3] σ3 = some (some (vI r4), σ4)) (h12 : r4 < 0) (h13 : C 151 [vR 10 0 0, vI x1, vI x2] σ4 = some (some (vI r5), σ5)) (h14 : ¬ r5 = 0) : pq_Rn C (152, 0, [some (vR 10 0 0), some (vI x1), some (vI x2), some (vI x3)], [], σ) = some (some (vI (4 : Int32)), σ5) := by
  refine (e_n 3 (fr' := (152, 3, [some (vR 10 0 0), some (vI x1), some (vI x2), some (vI x3)], [vI x3, vI x1, vR 10 0 0], σ)) rfl).trans ?_
  refine (e_ci (m := 152) (pc := 6) (ls := [some (vR 10 0 0), some (vI x1), some (vI x2), some (vI x3)]) (rest := []) rfl h1).trans ?_
  refine (e_f (B := (152, 9, [some (vR 10 0 0), some (vI x1), some (vI x2), some (vI x3)], [], σ1)) rfl h2).trans ?_
  refine (e_n 3 (fr' := (152, 12, [some (vR 10 0 0), some (vI x1), some (vI x2), some (vI x3)], [vI x3, vI x2, vR 10 0 0], σ1)) rfl).trans ?_
  refine (e_ci (m := 152) (pc := 15) (ls := [some (vR 10 0 0), some (vI x1), some (vI x2), some (vI x3)]) (rest := []) rfl h3).trans ?_
  refine (e_f (B := (152, 20, [some (vR 10 0 0), some (vI x1), some (vI x2), some (vI x3)], [], σ2)) rfl h4).trans ?_
  refine (e_n 4 (fr' := (152, 26, [some (vR 10 0 0), some (vI x1), some (vI x2), some (vI x3)], [vI x1, vR 10 0 21, vI x3], σ2)) rfl).trans ?_
  refine (e_a (A := (152, 27, [some (vR 10 0 0), some (vI x1), some (vI x2), some (vI x3)], [vI (σ2.1 10 0 20 (x1).toNatClampNeg), vI x3], σ2)) rfl h5).trans ?_
  refine (e_n 3 (fr' := (152, 32, [some (vR 10 0 0), some (vI x1), some (vI x2), some (vI x3)], [vI (σ2.1 10 0 18 0), vI (x3 - (σ2.1 10 0 20 (x1).toNatClampNeg))], σ2)) rfl).trans ?_
  refine (e_f (B := (152, 35, [some (vR 10 0 0), some (vI x1), some (vI x2), some (vI x3)], [], σ2)) rfl h6).trans ?_
  refine (e_n 4 (fr' := (152, 41, [some (vR 10 0 0), some (vI x1), some (vI x2), some (vI x3)], [vI x2, vR 10 0 21, vI x3], σ2)) rfl).trans ?_
  refine (e_a (A := (152, 42, [some (vR 10 0 0), some (vI x1), some (vI x2), some (vI x3)], [vI (σ2.1 10 0 20 (x2).toNatClampNeg), vI x3], σ2)) rfl h7).trans ?_
  refine (e_n 3 (fr' := (152, 47, [some (vR 10 0 0), some (vI x1), some (vI x2), some (vI x3)], [vI (σ2.1 10 0 18 0), vI (x3 - (σ2.1 10 0 20 (x2).toNatClampNeg))], σ2)) rfl).trans ?_
  refine (e_t (A := (152, 52, [some (vR 10 0 0), some (vI x1), some (vI x2), some (vI x3)], [], σ2)) rfl h8).trans ?_
  refine (e_n 3 (fr' := (152, 55, [some (vR 10 0 0), some (vI x1), some (vI x2), some (vI x3)], [vI x3, vI x1, vR 10 0 0], σ2)) rfl).trans ?_
  refine (e_ci (m := 152) (pc := 58) (ls := [some (vR 10 0 0), some (vI x1), some (vI x2), some (vI x3)]) (rest := []) rfl h9).trans ?_
  refine (e_f (B := (152, 61, [some (vR 10 0 0), some (vI x1), some (vI x2), some (vI x3)], [], σ3)) rfl h10).trans ?_
  refine (e_n 3 (fr' := (152, 64, [some (vR 10 0 0), some (vI x1), some (vI x2), some (vI x3)], [vI x3, vI x2, vR 10 0 0], σ3)) rfl).trans ?_
  refine (e_ci (m := 152) (pc := 67) (ls := [some (vR 10 0 0), some (vI x1), some (vI x2), some (vI x3)]) (rest := []) rfl h11).trans ?_
  refine (e_t (A := (152, 72, [some (vR 10 0 0), some (vI x1), some (vI x2), some (vI x3)], [], σ4)) rfl h12).trans ?_
  refine (e_n 3 (fr' := (152, 75, [some (vR 10 0 0), some (vI x1), some (vI x2), some (vI x3)], [vI x2, vI x1, vR 10 0 0], σ4)) rfl).trans ?_
  refine (e_ci (m := 152) (pc := 78) (ls := [some (vR 10 0 0), some (vI x1), some (vI x2), some (vI x3)]) (rest := []) rfl h13).trans ?_
  refine (e_f (B := (152, 81, [some (vR 10 0 0), some (vI x1), some (vI x2), some (vI x3)], [], σ5)) rfl h14).trans ?_
  refine (e_n 1 (fr' := (152, 82, [some (vR 10 0 0), some (vI x1), some (vI x2), some (vI x3)], [vI (4 : Int32)], σ5)) rfl).trans ?_
  exact e_r rfl
set_option maxRecDepth 20000 in
theorem g152_0_7 (C : pmC) {σ : pmS} {x1 : Int32} {x2 : Int32} {x3 : Int32} {σ1 : pmS} {r1 : Int32} {σ2 : pmS} {r2 : Int32} {σ3 : pmS} {r3 : Int32} {σ4 : pmS} {r4 : Int32} (h1 : C 141 [vR 10 0 0, vI x1, vI x3] σ = some (some (vI r1), σ1)) (h2 : ¬ r1 = 0) (h3 : C 141 [vR 10 0 0, vI x2, vI x3] σ1 = some (some (vI r2), σ2)) (h4 : ¬ r2 = 0) (h5 : vp_in x1 48) (h6 : ¬ (x3 - (σ2.1 10 0 20 (x1).toNatClampNeg)) < (σ2.1 10 0 18 0)) (h7 : vp_in x2 48) (h8 : (σ2.1 10 0 18 0) ≤ (x3 - (σ2.1 10 0 20 (x2).toNatClampNeg))) (h9 : C 150 [vR 10 0 0, vI x1, vI x3] σ2 = some (some (vI r3), σ3)) (h10 : ¬ 0 ≤ r3) (h11 : C 150 [vR 10 0 0, vI x2, vI x3] σ3 = some (some (vI r4), σ4)) (h12 : ¬ r4 < 0) : pq_Rn C (152, 0, [some (vR 10 0 0), some (vI x1), some (vI x2), some (vI x3)], [], σ) = some (some (vI (3 : Int32)), σ4) := by
  refine (e_n 3 (fr' := (152, 3, [some (vR 10 0 0), some (vI x1), some (vI x2), some (vI x3)], [vI x3, vI x1, vR 10 0 0], σ)) rfl).trans ?_
  refine (e_ci (m := 152) (pc := 6) (ls := [some (vR 10 0 0), some (vI x1), some (vI x2), some (vI x3)]) (rest := []) rfl h1).trans ?_
  refine (e_f (B := (152, 9, [some (vR 10 0 0), some (vI x1), some (vI x2), some (vI x3)], [], σ1)) rfl h2).trans ?_
  refine (e_n 3 (fr' := (152, 12, [some (vR 10 0 0), some (vI x1), some (vI x2), some (vI x3)], [vI x3, vI x2, vR 10 0 0], σ1)) rfl).trans ?_
  refine (e_ci (m := 152) (pc := 15) (ls := [some (vR 10 0 0), some (vI x1), some (vI x2), some (vI x3)]) (rest := []) rfl h3).trans ?_
  refine (e_f (B := (152, 20, [some (vR 10 0 0), some (vI x1), some (vI x2), some (vI x3)], [], σ2)) rfl h4).trans ?_
  refine (e_n 4 (fr' := (152, 26, [some (vR 10 0 0), some (vI x1), some (vI x2), some (vI x3)], [vI x1, vR 10 0 21, vI x3], σ2)) rfl).trans ?_
  refine (e_a (A := (152, 27, [some (vR 10 0 0), some (vI x1), some (vI x2), some (vI x3)], [vI (σ2.1 10 0 20 (x1).toNatClampNeg), vI x3], σ2)) rfl h5).trans ?_
  refine (e_n 3 (fr' := (152, 32, [some (vR 10 0 0), some (vI x1), some (vI x2), some (vI x3)], [vI (σ2.1 10 0 18 0), vI (x3 - (σ2.1 10 0 20 (x1).toNatClampNeg))], σ2)) rfl).trans ?_
  refine (e_f (B := (152, 35, [some (vR 10 0 0), some (vI x1), some (vI x2), some (vI x3)], [], σ2)) rfl h6).trans ?_
  refine (e_n 4 (fr' := (152, 41, [some (vR 10 0 0), some (vI x1), some (vI x2), some (vI x3)], [vI x2, vR 10 0 21, vI x3], σ2)) rfl).trans ?_
  refine (e_a (A := (152, 42, [some (vR 10 0 0), some (vI x1), some (vI x2), some (vI x3)], [vI (σ2.1 10 0 20 (x2).toNatClampNeg), vI x3], σ2)) rfl h7).trans ?_
  refine (e_n 3 (fr' := (152, 47, [some (vR 10 0 0), some (vI x1), some (vI x2), some (vI x3)], [vI (σ2.1 10 0 18 0), vI (x3 - (σ2.1 10 0 20 (x2).toNatClampNeg))], σ2)) rfl).trans ?_
  refine (e_t (A := (152, 52, [some (vR 10 0 0), some (vI x1), some (vI x2), some (vI x3)], [], σ2)) rfl h8).trans ?_
  refine (e_n 3 (fr' := (152, 55, [some (vR 10 0 0), some (vI x1), some (vI x2), some (vI x3)], [vI x3, vI x1, vR 10 0 0], σ2)) rfl).trans ?_
  refine (e_ci (m := 152) (pc := 58) (ls := [some (vR 10 0 0), some (vI x1), some (vI x2), some (vI x3)]) (rest := []) rfl h9).trans ?_
  refine (e_f (B := (152, 61, [some (vR 10 0 0), some (vI x1), some (vI x2), some (vI x3)], [], σ3)) rfl h10).trans ?_
  refine (e_n 3 (fr' := (152, 64, [some (vR 10 0 0), some (vI x1), some (vI x2), some (vI x3)], [vI x3, vI x2, vR 10 0 0], σ3)) rfl).trans ?_
  refine (e_ci (m := 152) (pc := 67) (ls := [some (vR 10 0 0), some (vI x1), some (vI x2), some (vI x3)]) (rest := []) rfl h11).trans ?_
  refine (e_f (B := (152, 70, [some (vR 10 0 0), some (vI x1), some (vI x2), some (vI x3)], [], σ4)) rfl h12).trans ?_
  refine (e_n 1 (fr' := (152, 71, [some (vR 10 0 0), some (vI x1), some (vI x2), some (vI x3)], [vI (3 : Int32)], σ4)) rfl).trans ?_
  exact e_r rfl
set_option maxRecDepth 20000 in
theorem g152_0_8 (C : pmC) {σ : pmS} {x1 : Int32} {x2 : Int32} {x3 : Int32} {σ1 : pmS} {r1 : Int32} {σ2 : pmS} {r2 : Int32} (h1 : C 141 [vR 10 0 0, vI x1, vI x3] σ = some (some (vI r1), σ1)) (h2 : ¬ r1 = 0) (h3 : C 141 [vR 10 0 0, vI x2, vI x3] σ1 = some (some (vI r2), σ2)) (h4 : ¬ r2 = 0) (h5 : vp_in x1 48) (h6 : ¬ (x3 - (σ2.1 10 0 20 (x1).toNatClampNeg)) < (σ2.1 10 0 18 0)) (h7 : vp_in x2 48) (h8 : ¬ (σ2.1 10 0 18 0) ≤ (x3 - (σ2.1 10 0 20 (x2).toNatClampNeg))) : pq_Rn C (152, 0, [some (vR 10 0 0), some (vI x1), some (vI x2), some (vI x3)], [], σ) = some (some (vI (2 : Int32)), σ2) := by
  refine (e_n 3 (fr' := (152, 3, [some (vR 10 0 0), some (vI x1), some (vI x2), some (vI x3)], [vI x3, vI x1, vR 10 0 0], σ)) rfl).trans ?_
  refine (e_ci (m := 152) (pc := 6) (ls := [some (vR 10 0 0), some (vI x1), some (vI x2), some (vI x3)]) (rest := []) rfl h1).trans ?_
  refine (e_f (B := (152, 9, [some (vR 10 0 0), some (vI x1), some (vI x2), some (vI x3)], [], σ1)) rfl h2).trans ?_
  refine (e_n 3 (fr' := (152, 12, [some (vR 10 0 0), some (vI x1), some (vI x2), some (vI x3)], [vI x3, vI x2, vR 10 0 0], σ1)) rfl).trans ?_
  refine (e_ci (m := 152) (pc := 15) (ls := [some (vR 10 0 0), some (vI x1), some (vI x2), some (vI x3)]) (rest := []) rfl h3).trans ?_
  refine (e_f (B := (152, 20, [some (vR 10 0 0), some (vI x1), some (vI x2), some (vI x3)], [], σ2)) rfl h4).trans ?_
  refine (e_n 4 (fr' := (152, 26, [some (vR 10 0 0), some (vI x1), some (vI x2), some (vI x3)], [vI x1, vR 10 0 21, vI x3], σ2)) rfl).trans ?_
  refine (e_a (A := (152, 27, [some (vR 10 0 0), some (vI x1), some (vI x2), some (vI x3)], [vI (σ2.1 10 0 20 (x1).toNatClampNeg), vI x3], σ2)) rfl h5).trans ?_
  refine (e_n 3 (fr' := (152, 32, [some (vR 10 0 0), some (vI x1), some (vI x2), some (vI x3)], [vI (σ2.1 10 0 18 0), vI (x3 - (σ2.1 10 0 20 (x1).toNatClampNeg))], σ2)) rfl).trans ?_
  refine (e_f (B := (152, 35, [some (vR 10 0 0), some (vI x1), some (vI x2), some (vI x3)], [], σ2)) rfl h6).trans ?_
  refine (e_n 4 (fr' := (152, 41, [some (vR 10 0 0), some (vI x1), some (vI x2), some (vI x3)], [vI x2, vR 10 0 21, vI x3], σ2)) rfl).trans ?_
  refine (e_a (A := (152, 42, [some (vR 10 0 0), some (vI x1), some (vI x2), some (vI x3)], [vI (σ2.1 10 0 20 (x2).toNatClampNeg), vI x3], σ2)) rfl h7).trans ?_
  refine (e_n 3 (fr' := (152, 47, [some (vR 10 0 0), some (vI x1), some (vI x2), some (vI x3)], [vI (σ2.1 10 0 18 0), vI (x3 - (σ2.1 10 0 20 (x2).toNatClampNeg))], σ2)) rfl).trans ?_
  refine (e_f (B := (152, 50, [some (vR 10 0 0), some (vI x1), some (vI x2), some (vI x3)], [], σ2)) rfl h8).trans ?_
  refine (e_n 1 (fr' := (152, 51, [some (vR 10 0 0), some (vI x1), some (vI x2), some (vI x3)], [vI (2 : Int32)], σ2)) rfl).trans ?_
  exact e_r rfl
set_option maxRecDepth 20000 in
theorem g153_0_0 (C : pmC) {σ : pmS} {x1 : Int32} {x2 : Int32} {x3 : Int32} {l4 : Option pmV} {σ1 : pmS} {r1 : Int32} (h1 : C 134 [vR 10 0 0, vI x1] σ = some (some (vI r1), σ1)) (h2 : r1 = 0) : pq_Rn C (153, 0, [some (vR 10 0 0), some (vI x1), some (vI x2), some (vI x3), l4], [], σ) = some (some (vI (-1 : Int32)), σ1) := by
  refine (e_n 2 (fr' := (153, 2, [some (vR 10 0 0), some (vI x1), some (vI x2), some (vI x3), l4], [vI x1, vR 10 0 0], σ)) rfl).trans ?_
  refine (e_ci (m := 153) (pc := 5) (ls := [some (vR 10 0 0), some (vI x1), some (vI x2), some (vI x3), l4]) (rest := []) rfl h1).trans ?_
  refine (e_t (A := (153, 16, [some (vR 10 0 0), some (vI x1), some (vI x2), some (vI x3), l4], [], σ1)) rfl h2).trans ?_
  refine (e_n 1 (fr' := (153, 17, [some (vR 10 0 0), some (vI x1), some (vI x2), some (vI x3), l4], [vI (-1 : Int32)], σ1)) rfl).trans ?_
  exact e_r rfl
set_option maxRecDepth 20000 in
theorem g153_0_1 (C : pmC) {σ : pmS} {x1 : Int32} {x2 : Int32} {x3 : Int32} {l4 : Option pmV} {σ1 : pmS} {r1 : Int32} {σ2 : pmS} {r2 : Int32} (h1 : C 134 [vR 10 0 0, vI x1] σ = some (some (vI r1), σ1)) (h2 : ¬ r1 = 0) (h3 : C 134 [vR 10 0 0, vI x2] σ1 = some (some (vI r2), σ2)) (h4 : r2 = 0) : pq_Rn C (153, 0, [some (vR 10 0 0), some (vI x1), some (vI x2), some (vI x3), l4], [], σ) = some (some (vI (-1 : Int32)), σ2) := by
  refine (e_n 2 (fr' := (153, 2, [some (vR 10 0 0), some (vI x1), some (vI x2), some (vI x3), l4], [vI x1, vR 10 0 0], σ)) rfl).trans ?_
  refine (e_ci (m := 153) (pc := 5) (ls := [some (vR 10 0 0), some (vI x1), some (vI x2), some (vI x3), l4]) (rest := []) rfl h1).trans ?_
  refine (e_f (B := (153, 8, [some (vR 10 0 0), some (vI x1), some (vI x2), some (vI x3), l4], [], σ1)) rfl h2).trans ?_
  refine (e_n 2 (fr' := (153, 10, [some (vR 10 0 0), some (vI x1), some (vI x2), some (vI x3), l4], [vI x2, vR 10 0 0], σ1)) rfl).trans ?_
  refine (e_ci (m := 153) (pc := 13) (ls := [some (vR 10 0 0), some (vI x1), some (vI x2), some (vI x3), l4]) (rest := []) rfl h3).trans ?_
  refine (e_t (A := (153, 16, [some (vR 10 0 0), some (vI x1), some (vI x2), some (vI x3), l4], [], σ2)) rfl h4).trans ?_
  refine (e_n 1 (fr' := (153, 17, [some (vR 10 0 0), some (vI x1), some (vI x2), some (vI x3), l4], [vI (-1 : Int32)], σ2)) rfl).trans ?_
  exact e_r rfl
set_option maxRecDepth 20000 in
theorem g153_0_2 (C : pmC) {σ : pmS} {x1 : Int32} {x2 : Int32} {x3 : Int32} {l4 : Option pmV} {σ1 : pmS} {r1 : Int32} {σ2 : pmS} {r2 : Int32} {σ3 : pmS} {r3 : Int32} (h1 : C 134 [vR 10 0 0, vI x1] σ = some (some (vI r1), σ1)) (h2 : ¬ r1 = 0) (h3 : C 134 [vR 10 0 0, vI x2] σ1 = some (some (vI r2), σ2)) (h4 : ¬ r2 = 0) (h5 : C 138 [vI x3] σ2 = some (some (vI r3), σ3)) (h6 : r3 = 0) : pq_Rn C (153, 0, [some (vR 10 0 0), some (vI x1), some (vI x2), some (vI x3), l4], [], σ) = some (some (vI (-2 : Int32)), σ3) := by
  refine (e_n 2 (fr' := (153, 2, [some (vR 10 0 0), some (vI x1), some (vI x2), some (vI x3), l4], [vI x1, vR 10 0 0], σ)) rfl).trans ?_
  refine (e_ci (m := 153) (pc := 5) (ls := [some (vR 10 0 0), some (vI x1), some (vI x2), some (vI x3), l4]) (rest := []) rfl h1).trans ?_
  refine (e_f (B := (153, 8, [some (vR 10 0 0), some (vI x1), some (vI x2), some (vI x3), l4], [], σ1)) rfl h2).trans ?_
  refine (e_n 2 (fr' := (153, 10, [some (vR 10 0 0), some (vI x1), some (vI x2), some (vI x3), l4], [vI x2, vR 10 0 0], σ1)) rfl).trans ?_
  refine (e_ci (m := 153) (pc := 13) (ls := [some (vR 10 0 0), some (vI x1), some (vI x2), some (vI x3), l4]) (rest := []) rfl h3).trans ?_
  refine (e_f (B := (153, 18, [some (vR 10 0 0), some (vI x1), some (vI x2), some (vI x3), l4], [], σ2)) rfl h4).trans ?_
  refine (e_n 1 (fr' := (153, 19, [some (vR 10 0 0), some (vI x1), some (vI x2), some (vI x3), l4], [vI x3], σ2)) rfl).trans ?_
  refine (e_ci (m := 153) (pc := 22) (ls := [some (vR 10 0 0), some (vI x1), some (vI x2), some (vI x3), l4]) (rest := []) rfl h5).trans ?_
  refine (e_t (A := (153, 44, [some (vR 10 0 0), some (vI x1), some (vI x2), some (vI x3), l4], [], σ3)) rfl h6).trans ?_
  refine (e_n 1 (fr' := (153, 46, [some (vR 10 0 0), some (vI x1), some (vI x2), some (vI x3), l4], [vI (-2 : Int32)], σ3)) rfl).trans ?_
  exact e_r rfl
set_option maxRecDepth 20000 in
theorem g153_0_3 (C : pmC) {σ : pmS} {x1 : Int32} {x2 : Int32} {x3 : Int32} {l4 : Option pmV} {σ1 : pmS} {r1 : Int32} {σ2 : pmS} {r2 : Int32} {σ3 : pmS} {r3 : Int32} {σ4 : pmS} {σ5 : pmS} {r5 : Int32} (h1 : C 134 [vR 10 0 0, vI x1] σ = some (some (vI r1), σ1)) (h2 : ¬ r1 = 0) (h3 : C 134 [vR 10 0 0, vI x2] σ1 = some (some (vI r2), σ2)) (h4 : ¬ r2 = 0) (h5 : C 138 [vI x3] σ2 = some (some (vI r3), σ3)) (h6 : ¬ r3 = 0) (h7 : vp_in x1 48) (h8 : (σ3.1 10 0 19 (x1).toNatClampNeg) = 0) (h9 : vp_in x2 48) (h10 : (σ3.1 10 0 19 (x2).toNatClampNeg) = (1 : Int32)) (h11 : C 146 [vR 10 0 0] σ3 = some (none, σ4)) (h12 : C 152 [vR 10 0 0, vI x1, vI x2, vI x3] σ4 = some (some (vI r5), σ5)) (h13 : r5 ≤ 0) (h14 : (σ5.1 10 0 17 0) = (40 : Int32)) : pq_Rn C (153, 0, [some (vR 10 0 0), some (vI x1), some (vI x2), some (vI x3), l4], [], σ) = some (some (vI (-4 : Int32)), σ5) := by
  refine (e_n 2 (fr' := (153, 2, [some (vR 10 0 0), some (vI x1), some (vI x2), some (vI x3), l4], [vI x1, vR 10 0 0], σ)) rfl).trans ?_
  refine (e_ci (m := 153) (pc := 5) (ls := [some (vR 10 0 0), some (vI x1), some (vI x2), some (vI x3), l4]) (rest := []) rfl h1).trans ?_
  refine (e_f (B := (153, 8, [some (vR 10 0 0), some (vI x1), some (vI x2), some (vI x3), l4], [], σ1)) rfl h2).trans ?_
  refine (e_n 2 (fr' := (153, 10, [some (vR 10 0 0), some (vI x1), some (vI x2), some (vI x3), l4], [vI x2, vR 10 0 0], σ1)) rfl).trans ?_
  refine (e_ci (m := 153) (pc := 13) (ls := [some (vR 10 0 0), some (vI x1), some (vI x2), some (vI x3), l4]) (rest := []) rfl h3).trans ?_
  refine (e_f (B := (153, 18, [some (vR 10 0 0), some (vI x1), some (vI x2), some (vI x3), l4], [], σ2)) rfl h4).trans ?_
  refine (e_n 1 (fr' := (153, 19, [some (vR 10 0 0), some (vI x1), some (vI x2), some (vI x3), l4], [vI x3], σ2)) rfl).trans ?_
  refine (e_ci (m := 153) (pc := 22) (ls := [some (vR 10 0 0), some (vI x1), some (vI x2), some (vI x3), l4]) (rest := []) rfl h5).trans ?_
  refine (e_f (B := (153, 25, [some (vR 10 0 0), some (vI x1), some (vI x2), some (vI x3), l4], [], σ3)) rfl h6).trans ?_
  refine (e_n 3 (fr' := (153, 30, [some (vR 10 0 0), some (vI x1), some (vI x2), some (vI x3), l4], [vI x1, vR 10 0 20], σ3)) rfl).trans ?_
  refine (e_a (A := (153, 31, [some (vR 10 0 0), some (vI x1), some (vI x2), some (vI x3), l4], [vI (σ3.1 10 0 19 (x1).toNatClampNeg)], σ3)) rfl h7).trans ?_
  refine (e_t (A := (153, 34, [some (vR 10 0 0), some (vI x1), some (vI x2), some (vI x3), l4], [], σ3)) rfl h8).trans ?_
  refine (e_n 3 (fr' := (153, 39, [some (vR 10 0 0), some (vI x1), some (vI x2), some (vI x3), l4], [vI x2, vR 10 0 20], σ3)) rfl).trans ?_
  refine (e_a (A := (153, 40, [some (vR 10 0 0), some (vI x1), some (vI x2), some (vI x3), l4], [vI (σ3.1 10 0 19 (x2).toNatClampNeg)], σ3)) rfl h9).trans ?_
  refine (e_n 1 (fr' := (153, 41, [some (vR 10 0 0), some (vI x1), some (vI x2), some (vI x3), l4], [vI (1 : Int32), vI (σ3.1 10 0 19 (x2).toNatClampNeg)], σ3)) rfl).trans ?_
  refine (e_t (A := (153, 47, [some (vR 10 0 0), some (vI x1), some (vI x2), some (vI x3), l4], [], σ3)) rfl h10).trans ?_
  refine (e_n 1 (fr' := (153, 48, [some (vR 10 0 0), some (vI x1), some (vI x2), some (vI x3), l4], [vR 10 0 0], σ3)) rfl).trans ?_
  refine (e_cv (m := 153) (pc := 51) (ls := [some (vR 10 0 0), some (vI x1), some (vI x2), some (vI x3), l4]) (rest := []) rfl h11).trans ?_
  refine (e_n 4 (fr' := (153, 55, [some (vR 10 0 0), some (vI x1), some (vI x2), some (vI x3), l4], [vI x3, vI x2, vI x1, vR 10 0 0], σ4)) rfl).trans ?_
  refine (e_ci (m := 153) (pc := 58) (ls := [some (vR 10 0 0), some (vI x1), some (vI x2), some (vI x3), l4]) (rest := []) rfl h12).trans ?_
  refine (e_n 2 (fr' := (153, 62, [some (vR 10 0 0), some (vI x1), some (vI x2), some (vI x3), some (vI r5)], [vI r5], σ5)) rfl).trans ?_
  refine (e_t (A := (153, 74, [some (vR 10 0 0), some (vI x1), some (vI x2), some (vI x3), some (vI r5)], [], σ5)) rfl h13).trans ?_
  refine (e_n 3 (fr' := (153, 80, [some (vR 10 0 0), some (vI x1), some (vI x2), some (vI x3), some (vI r5)], [vI (40 : Int32), vI (σ5.1 10 0 17 0)], σ5)) rfl).trans ?_
  refine (e_t (A := (153, 83, [some (vR 10 0 0), some (vI x1), some (vI x2), some (vI x3), some (vI r5)], [], σ5)) rfl h14).trans ?_
  refine (e_n 1 (fr' := (153, 85, [some (vR 10 0 0), some (vI x1), some (vI x2), some (vI x3), some (vI r5)], [vI (-4 : Int32)], σ5)) rfl).trans ?_
  exact e_r rfl
set_option maxRecDepth 20000 in
theorem g153_0_4 (C : pmC) {σ : pmS} {x1 : Int32} {x2 : Int32} {x3 : Int32} {l4 : Option pmV} {σ1 : pmS} {r1 : Int32} {σ2 : pmS} {r2 : Int32} {σ3 : pmS} {r3 : Int32} {σ4 : pmS} {σ5 : pmS} {r5 : Int32} (h1 : C 134 [vR 10 0 0, vI x1] σ = some (some (vI r1), σ1)) (h2 : ¬ r1 = 0) (h3 : C 134 [vR 10 0 0, vI x2] σ1 = some (some (vI r2), σ2)) (h4 : ¬ r2 = 0) (h5 : C 138 [vI x3] σ2 = some (some (vI r3), σ3)) (h6 : ¬ r3 = 0) (h7 : vp_in x1 48) (h8 : (σ3.1 10 0 19 (x1).toNatClampNeg) = 0) (h9 : vp_in x2 48) (h10 : (σ3.1 10 0 19 (x2).toNatClampNeg) = (1 : Int32)) (h11 : C 146 [vR 10 0 0] σ3 = some (none, σ4)) (h12 : C 152 [vR 10 0 0, vI x1, vI x2, vI x3] σ4 = some (some (vI r5), σ5)) (h13 : r5 ≤ 0) (h14 : ¬ (σ5.1 10 0 17 0) = (40 : Int32)) (h15 : vp_in (σ5.1 10 0 17 0) 40) (h16 : r5 = 0) : pq_Rn C (153, 0, [some (vR 10 0 0), some (vI x1), some (vI x2), some (vI x3), l4], [], σ) = some (some (vI (1 : Int32)), (pm_wi (pm_wi (pm_wi (pm_wi σ5 10 0 26 ((σ5.1 10 0 17 0)).toNatClampNeg x1) 10 0 27 ((σ5.1 10 0 17 0)).toNatClampNeg x2) 10 0 28 ((σ5.1 10 0 17 0)).toNatClampNeg x3) 10 0 17 0 ((σ5.1 10 0 17 0) + (1 : Int32)))) := by
  refine (e_n 2 (fr' := (153, 2, [some (vR 10 0 0), some (vI x1), some (vI x2), some (vI x3), l4], [vI x1, vR 10 0 0], σ)) rfl).trans ?_
  refine (e_ci (m := 153) (pc := 5) (ls := [some (vR 10 0 0), some (vI x1), some (vI x2), some (vI x3), l4]) (rest := []) rfl h1).trans ?_
  refine (e_f (B := (153, 8, [some (vR 10 0 0), some (vI x1), some (vI x2), some (vI x3), l4], [], σ1)) rfl h2).trans ?_
  refine (e_n 2 (fr' := (153, 10, [some (vR 10 0 0), some (vI x1), some (vI x2), some (vI x3), l4], [vI x2, vR 10 0 0], σ1)) rfl).trans ?_
  refine (e_ci (m := 153) (pc := 13) (ls := [some (vR 10 0 0), some (vI x1), some (vI x2), some (vI x3), l4]) (rest := []) rfl h3).trans ?_
  refine (e_f (B := (153, 18, [some (vR 10 0 0), some (vI x1), some (vI x2), some (vI x3), l4], [], σ2)) rfl h4).trans ?_
  refine (e_n 1 (fr' := (153, 19, [some (vR 10 0 0), some (vI x1), some (vI x2), some (vI x3), l4], [vI x3], σ2)) rfl).trans ?_
  refine (e_ci (m := 153) (pc := 22) (ls := [some (vR 10 0 0), some (vI x1), some (vI x2), some (vI x3), l4]) (rest := []) rfl h5).trans ?_
  refine (e_f (B := (153, 25, [some (vR 10 0 0), some (vI x1), some (vI x2), some (vI x3), l4], [], σ3)) rfl h6).trans ?_
  refine (e_n 3 (fr' := (153, 30, [some (vR 10 0 0), some (vI x1), some (vI x2), some (vI x3), l4], [vI x1, vR 10 0 20], σ3)) rfl).trans ?_
  refine (e_a (A := (153, 31, [some (vR 10 0 0), some (vI x1), some (vI x2), some (vI x3), l4], [vI (σ3.1 10 0 19 (x1).toNatClampNeg)], σ3)) rfl h7).trans ?_
  refine (e_t (A := (153, 34, [some (vR 10 0 0), some (vI x1), some (vI x2), some (vI x3), l4], [], σ3)) rfl h8).trans ?_
  refine (e_n 3 (fr' := (153, 39, [some (vR 10 0 0), some (vI x1), some (vI x2), some (vI x3), l4], [vI x2, vR 10 0 20], σ3)) rfl).trans ?_
  refine (e_a (A := (153, 40, [some (vR 10 0 0), some (vI x1), some (vI x2), some (vI x3), l4], [vI (σ3.1 10 0 19 (x2).toNatClampNeg)], σ3)) rfl h9).trans ?_
  refine (e_n 1 (fr' := (153, 41, [some (vR 10 0 0), some (vI x1), some (vI x2), some (vI x3), l4], [vI (1 : Int32), vI (σ3.1 10 0 19 (x2).toNatClampNeg)], σ3)) rfl).trans ?_
  refine (e_t (A := (153, 47, [some (vR 10 0 0), some (vI x1), some (vI x2), some (vI x3), l4], [], σ3)) rfl h10).trans ?_
  refine (e_n 1 (fr' := (153, 48, [some (vR 10 0 0), some (vI x1), some (vI x2), some (vI x3), l4], [vR 10 0 0], σ3)) rfl).trans ?_
  refine (e_cv (m := 153) (pc := 51) (ls := [some (vR 10 0 0), some (vI x1), some (vI x2), some (vI x3), l4]) (rest := []) rfl h11).trans ?_
  refine (e_n 4 (fr' := (153, 55, [some (vR 10 0 0), some (vI x1), some (vI x2), some (vI x3), l4], [vI x3, vI x2, vI x1, vR 10 0 0], σ4)) rfl).trans ?_
  refine (e_ci (m := 153) (pc := 58) (ls := [some (vR 10 0 0), some (vI x1), some (vI x2), some (vI x3), l4]) (rest := []) rfl h12).trans ?_
  refine (e_n 2 (fr' := (153, 62, [some (vR 10 0 0), some (vI x1), some (vI x2), some (vI x3), some (vI r5)], [vI r5], σ5)) rfl).trans ?_
  refine (e_t (A := (153, 74, [some (vR 10 0 0), some (vI x1), some (vI x2), some (vI x3), some (vI r5)], [], σ5)) rfl h13).trans ?_
  refine (e_n 3 (fr' := (153, 80, [some (vR 10 0 0), some (vI x1), some (vI x2), some (vI x3), some (vI r5)], [vI (40 : Int32), vI (σ5.1 10 0 17 0)], σ5)) rfl).trans ?_
  refine (e_f (B := (153, 86, [some (vR 10 0 0), some (vI x1), some (vI x2), some (vI x3), some (vI r5)], [], σ5)) rfl h14).trans ?_
  refine (e_n 5 (fr' := (153, 95, [some (vR 10 0 0), some (vI x1), some (vI x2), some (vI x3), some (vI r5)], [vI x1, vI (σ5.1 10 0 17 0), vR 10 0 27], σ5)) rfl).trans ?_
  refine (e_a (A := (153, 96, [some (vR 10 0 0), some (vI x1), some (vI x2), some (vI x3), some (vI r5)], [], (pm_wi σ5 10 0 26 ((σ5.1 10 0 17 0)).toNatClampNeg x1))) rfl h15).trans ?_
  refine (e_n 5 (fr' := (153, 105, [some (vR 10 0 0), some (vI x1), some (vI x2), some (vI x3), some (vI r5)], [vI x2, vI (σ5.1 10 0 17 0), vR 10 0 28], (pm_wi σ5 10 0 26 ((σ5.1 10 0 17 0)).toNatClampNeg x1))) rfl).trans ?_
  refine (e_a (A := (153, 106, [some (vR 10 0 0), some (vI x1), some (vI x2), some (vI x3), some (vI r5)], [], (pm_wi (pm_wi σ5 10 0 26 ((σ5.1 10 0 17 0)).toNatClampNeg x1) 10 0 27 ((σ5.1 10 0 17 0)).toNatClampNeg x2))) rfl h15).trans ?_
  refine (e_n 5 (fr' := (153, 115, [some (vR 10 0 0), some (vI x1), some (vI x2), some (vI x3), some (vI r5)], [vI x3, vI (σ5.1 10 0 17 0), vR 10 0 29], (pm_wi (pm_wi σ5 10 0 26 ((σ5.1 10 0 17 0)).toNatClampNeg x1) 10 0 27 ((σ5.1 10 0 17 0)).toNatClampNeg x2))) rfl).trans ?_
  refine (e_a (A := (153, 116, [some (vR 10 0 0), some (vI x1), some (vI x2), some (vI x3), some (vI r5)], [], (pm_wi (pm_wi (pm_wi σ5 10 0 26 ((σ5.1 10 0 17 0)).toNatClampNeg x1) 10 0 27 ((σ5.1 10 0 17 0)).toNatClampNeg x2) 10 0 28 ((σ5.1 10 0 17 0)).toNatClampNeg x3))) rfl h15).trans ?_
  refine (e_n 7 (fr' := (153, 128, [some (vR 10 0 0), some (vI x1), some (vI x2), some (vI x3), some (vI r5)], [vI r5], (pm_wi (pm_wi (pm_wi (pm_wi σ5 10 0 26 ((σ5.1 10 0 17 0)).toNatClampNeg x1) 10 0 27 ((σ5.1 10 0 17 0)).toNatClampNeg x2) 10 0 28 ((σ5.1 10 0 17 0)).toNatClampNeg x3) 10 0 17 0 ((σ5.1 10 0 17 0) + (1 : Int32))))) rfl).trans ?_
  refine (e_t (A := (153, 131, [some (vR 10 0 0), some (vI x1), some (vI x2), some (vI x3), some (vI r5)], [], (pm_wi (pm_wi (pm_wi (pm_wi σ5 10 0 26 ((σ5.1 10 0 17 0)).toNatClampNeg x1) 10 0 27 ((σ5.1 10 0 17 0)).toNatClampNeg x2) 10 0 28 ((σ5.1 10 0 17 0)).toNatClampNeg x3) 10 0 17 0 ((σ5.1 10 0 17 0) + (1 : Int32))))) rfl h16).trans ?_
  refine (e_n 2 (fr' := (153, 136, [some (vR 10 0 0), some (vI x1), some (vI x2), some (vI x3), some (vI r5)], [vI (1 : Int32)], (pm_wi (pm_wi (pm_wi (pm_wi σ5 10 0 26 ((σ5.1 10 0 17 0)).toNatClampNeg x1) 10 0 27 ((σ5.1 10 0 17 0)).toNatClampNeg x2) 10 0 28 ((σ5.1 10 0 17 0)).toNatClampNeg x3) 10 0 17 0 ((σ5.1 10 0 17 0) + (1 : Int32))))) rfl).trans ?_
  exact e_r rfl
set_option maxRecDepth 20000 in
theorem g153_0_5 (C : pmC) {σ : pmS} {x1 : Int32} {x2 : Int32} {x3 : Int32} {l4 : Option pmV} {σ1 : pmS} {r1 : Int32} {σ2 : pmS} {r2 : Int32} {σ3 : pmS} {r3 : Int32} {σ4 : pmS} {σ5 : pmS} {r5 : Int32} (h1 : C 134 [vR 10 0 0, vI x1] σ = some (some (vI r1), σ1)) (h2 : ¬ r1 = 0) (h3 : C 134 [vR 10 0 0, vI x2] σ1 = some (some (vI r2), σ2)) (h4 : ¬ r2 = 0) (h5 : C 138 [vI x3] σ2 = some (some (vI r3), σ3)) (h6 : ¬ r3 = 0) (h7 : vp_in x1 48) (h8 : (σ3.1 10 0 19 (x1).toNatClampNeg) = 0) (h9 : vp_in x2 48) (h10 : (σ3.1 10 0 19 (x2).toNatClampNeg) = (1 : Int32)) (h11 : C 146 [vR 10 0 0] σ3 = some (none, σ4)) (h12 : C 152 [vR 10 0 0, vI x1, vI x2, vI x3] σ4 = some (some (vI r5), σ5)) (h13 : r5 ≤ 0) (h14 : ¬ (σ5.1 10 0 17 0) = (40 : Int32)) (h15 : vp_in (σ5.1 10 0 17 0) 40) (h16 : ¬ r5 = 0) : pq_Rn C (153, 0, [some (vR 10 0 0), some (vI x1), some (vI x2), some (vI x3), l4], [], σ) = some (some (vI (0 : Int32)), (pm_wi (pm_wi (pm_wi (pm_wi σ5 10 0 26 ((σ5.1 10 0 17 0)).toNatClampNeg x1) 10 0 27 ((σ5.1 10 0 17 0)).toNatClampNeg x2) 10 0 28 ((σ5.1 10 0 17 0)).toNatClampNeg x3) 10 0 17 0 ((σ5.1 10 0 17 0) + (1 : Int32)))) := by
  refine (e_n 2 (fr' := (153, 2, [some (vR 10 0 0), some (vI x1), some (vI x2), some (vI x3), l4], [vI x1, vR 10 0 0], σ)) rfl).trans ?_
  refine (e_ci (m := 153) (pc := 5) (ls := [some (vR 10 0 0), some (vI x1), some (vI x2), some (vI x3), l4]) (rest := []) rfl h1).trans ?_
  refine (e_f (B := (153, 8, [some (vR 10 0 0), some (vI x1), some (vI x2), some (vI x3), l4], [], σ1)) rfl h2).trans ?_
  refine (e_n 2 (fr' := (153, 10, [some (vR 10 0 0), some (vI x1), some (vI x2), some (vI x3), l4], [vI x2, vR 10 0 0], σ1)) rfl).trans ?_
  refine (e_ci (m := 153) (pc := 13) (ls := [some (vR 10 0 0), some (vI x1), some (vI x2), some (vI x3), l4]) (rest := []) rfl h3).trans ?_
  refine (e_f (B := (153, 18, [some (vR 10 0 0), some (vI x1), some (vI x2), some (vI x3), l4], [], σ2)) rfl h4).trans ?_
  refine (e_n 1 (fr' := (153, 19, [some (vR 10 0 0), some (vI x1), some (vI x2), some (vI x3), l4], [vI x3], σ2)) rfl).trans ?_
  refine (e_ci (m := 153) (pc := 22) (ls := [some (vR 10 0 0), some (vI x1), some (vI x2), some (vI x3), l4]) (rest := []) rfl h5).trans ?_
  refine (e_f (B := (153, 25, [some (vR 10 0 0), some (vI x1), some (vI x2), some (vI x3), l4], [], σ3)) rfl h6).trans ?_
  refine (e_n 3 (fr' := (153, 30, [some (vR 10 0 0), some (vI x1), some (vI x2), some (vI x3), l4], [vI x1, vR 10 0 20], σ3)) rfl).trans ?_
  refine (e_a (A := (153, 31, [some (vR 10 0 0), some (vI x1), some (vI x2), some (vI x3), l4], [vI (σ3.1 10 0 19 (x1).toNatClampNeg)], σ3)) rfl h7).trans ?_
  refine (e_t (A := (153, 34, [some (vR 10 0 0), some (vI x1), some (vI x2), some (vI x3), l4], [], σ3)) rfl h8).trans ?_
  refine (e_n 3 (fr' := (153, 39, [some (vR 10 0 0), some (vI x1), some (vI x2), some (vI x3), l4], [vI x2, vR 10 0 20], σ3)) rfl).trans ?_
  refine (e_a (A := (153, 40, [some (vR 10 0 0), some (vI x1), some (vI x2), some (vI x3), l4], [vI (σ3.1 10 0 19 (x2).toNatClampNeg)], σ3)) rfl h9).trans ?_
  refine (e_n 1 (fr' := (153, 41, [some (vR 10 0 0), some (vI x1), some (vI x2), some (vI x3), l4], [vI (1 : Int32), vI (σ3.1 10 0 19 (x2).toNatClampNeg)], σ3)) rfl).trans ?_
  refine (e_t (A := (153, 47, [some (vR 10 0 0), some (vI x1), some (vI x2), some (vI x3), l4], [], σ3)) rfl h10).trans ?_
  refine (e_n 1 (fr' := (153, 48, [some (vR 10 0 0), some (vI x1), some (vI x2), some (vI x3), l4], [vR 10 0 0], σ3)) rfl).trans ?_
  refine (e_cv (m := 153) (pc := 51) (ls := [some (vR 10 0 0), some (vI x1), some (vI x2), some (vI x3), l4]) (rest := []) rfl h11).trans ?_
  refine (e_n 4 (fr' := (153, 55, [some (vR 10 0 0), some (vI x1), some (vI x2), some (vI x3), l4], [vI x3, vI x2, vI x1, vR 10 0 0], σ4)) rfl).trans ?_
  refine (e_ci (m := 153) (pc := 58) (ls := [some (vR 10 0 0), some (vI x1), some (vI x2), some (vI x3), l4]) (rest := []) rfl h12).trans ?_
  refine (e_n 2 (fr' := (153, 62, [some (vR 10 0 0), some (vI x1), some (vI x2), some (vI x3), some (vI r5)], [vI r5], σ5)) rfl).trans ?_
  refine (e_t (A := (153, 74, [some (vR 10 0 0), some (vI x1), some (vI x2), some (vI x3), some (vI r5)], [], σ5)) rfl h13).trans ?_
  refine (e_n 3 (fr' := (153, 80, [some (vR 10 0 0), some (vI x1), some (vI x2), some (vI x3), some (vI r5)], [vI (40 : Int32), vI (σ5.1 10 0 17 0)], σ5)) rfl).trans ?_
  refine (e_f (B := (153, 86, [some (vR 10 0 0), some (vI x1), some (vI x2), some (vI x3), some (vI r5)], [], σ5)) rfl h14).trans ?_
  refine (e_n 5 (fr' := (153, 95, [some (vR 10 0 0), some (vI x1), some (vI x2), some (vI x3), some (vI r5)], [vI x1, vI (σ5.1 10 0 17 0), vR 10 0 27], σ5)) rfl).trans ?_
  refine (e_a (A := (153, 96, [some (vR 10 0 0), some (vI x1), some (vI x2), some (vI x3), some (vI r5)], [], (pm_wi σ5 10 0 26 ((σ5.1 10 0 17 0)).toNatClampNeg x1))) rfl h15).trans ?_
  refine (e_n 5 (fr' := (153, 105, [some (vR 10 0 0), some (vI x1), some (vI x2), some (vI x3), some (vI r5)], [vI x2, vI (σ5.1 10 0 17 0), vR 10 0 28], (pm_wi σ5 10 0 26 ((σ5.1 10 0 17 0)).toNatClampNeg x1))) rfl).trans ?_
  refine (e_a (A := (153, 106, [some (vR 10 0 0), some (vI x1), some (vI x2), some (vI x3), some (vI r5)], [], (pm_wi (pm_wi σ5 10 0 26 ((σ5.1 10 0 17 0)).toNatClampNeg x1) 10 0 27 ((σ5.1 10 0 17 0)).toNatClampNeg x2))) rfl h15).trans ?_
  refine (e_n 5 (fr' := (153, 115, [some (vR 10 0 0), some (vI x1), some (vI x2), some (vI x3), some (vI r5)], [vI x3, vI (σ5.1 10 0 17 0), vR 10 0 29], (pm_wi (pm_wi σ5 10 0 26 ((σ5.1 10 0 17 0)).toNatClampNeg x1) 10 0 27 ((σ5.1 10 0 17 0)).toNatClampNeg x2))) rfl).trans ?_
  refine (e_a (A := (153, 116, [some (vR 10 0 0), some (vI x1), some (vI x2), some (vI x3), some (vI r5)], [], (pm_wi (pm_wi (pm_wi σ5 10 0 26 ((σ5.1 10 0 17 0)).toNatClampNeg x1) 10 0 27 ((σ5.1 10 0 17 0)).toNatClampNeg x2) 10 0 28 ((σ5.1 10 0 17 0)).toNatClampNeg x3))) rfl h15).trans ?_
  refine (e_n 7 (fr' := (153, 128, [some (vR 10 0 0), some (vI x1), some (vI x2), some (vI x3), some (vI r5)], [vI r5], (pm_wi (pm_wi (pm_wi (pm_wi σ5 10 0 26 ((σ5.1 10 0 17 0)).toNatClampNeg x1) 10 0 27 ((σ5.1 10 0 17 0)).toNatClampNeg x2) 10 0 28 ((σ5.1 10 0 17 0)).toNatClampNeg x3) 10 0 17 0 ((σ5.1 10 0 17 0) + (1 : Int32))))) rfl).trans ?_
  refine (e_f (B := (153, 135, [some (vR 10 0 0), some (vI x1), some (vI x2), some (vI x3), some (vI r5)], [], (pm_wi (pm_wi (pm_wi (pm_wi σ5 10 0 26 ((σ5.1 10 0 17 0)).toNatClampNeg x1) 10 0 27 ((σ5.1 10 0 17 0)).toNatClampNeg x2) 10 0 28 ((σ5.1 10 0 17 0)).toNatClampNeg x3) 10 0 17 0 ((σ5.1 10 0 17 0) + (1 : Int32))))) rfl h16).trans ?_
  refine (e_n 1 (fr' := (153, 136, [some (vR 10 0 0), some (vI x1), some (vI x2), some (vI x3), some (vI r5)], [vI (0 : Int32)], (pm_wi (pm_wi (pm_wi (pm_wi σ5 10 0 26 ((σ5.1 10 0 17 0)).toNatClampNeg x1) 10 0 27 ((σ5.1 10 0 17 0)).toNatClampNeg x2) 10 0 28 ((σ5.1 10 0 17 0)).toNatClampNeg x3) 10 0 17 0 ((σ5.1 10 0 17 0) + (1 : Int32))))) rfl).trans ?_
  exact e_r rfl
set_option maxRecDepth 20000 in
theorem g153_0_6 (C : pmC) {σ : pmS} {x1 : Int32} {x2 : Int32} {x3 : Int32} {l4 : Option pmV} {σ1 : pmS} {r1 : Int32} {σ2 : pmS} {r2 : Int32} {σ3 : pmS} {r3 : Int32} {σ4 : pmS} {σ5 : pmS} {r5 : Int32} (h1 : C 134 [vR 10 0 0, vI x1] σ = some (some (vI r1), σ1)) (h2 : ¬ r1 = 0) (h3 : C 134 [vR 10 0 0, vI x2] σ1 = some (some (vI r2), σ2)) (h4 : ¬ r2 = 0) (h5 : C 138 [vI x3] σ2 = some (some (vI r3), σ3)) (h6 : ¬ r3 = 0) (h7 : vp_in x1 48) (h8 : (σ3.1 10 0 19 (x1).toNatClampNeg) = 0) (h9 : vp_in x2 48) (h10 : (σ3.1 10 0 19 (x2).toNatClampNeg) = (1 : Int32)) (h11 : C 146 [vR 10 0 0] σ3 = some (none, σ4)) (h12 : C 152 [vR 10 0 0, vI x1, vI x2, vI x3] σ4 = some (some (vI r5), σ5)) (h13 : ¬ r5 ≤ 0) (h14 : (5 : Int32) ≤ r5) (h15 : (σ5.1 10 0 17 0) = (40 : Int32)) : pq_Rn C (153, 0, [some (vR 10 0 0), some (vI x1), some (vI x2), some (vI x3), l4], [], σ) = some (some (vI (-4 : Int32)), σ5) := by
  refine (e_n 2 (fr' := (153, 2, [some (vR 10 0 0), some (vI x1), some (vI x2), some (vI x3), l4], [vI x1, vR 10 0 0], σ)) rfl).trans ?_
  refine (e_ci (m := 153) (pc := 5) (ls := [some (vR 10 0 0), some (vI x1), some (vI x2), some (vI x3), l4]) (rest := []) rfl h1).trans ?_
  refine (e_f (B := (153, 8, [some (vR 10 0 0), some (vI x1), some (vI x2), some (vI x3), l4], [], σ1)) rfl h2).trans ?_
  refine (e_n 2 (fr' := (153, 10, [some (vR 10 0 0), some (vI x1), some (vI x2), some (vI x3), l4], [vI x2, vR 10 0 0], σ1)) rfl).trans ?_
  refine (e_ci (m := 153) (pc := 13) (ls := [some (vR 10 0 0), some (vI x1), some (vI x2), some (vI x3), l4]) (rest := []) rfl h3).trans ?_
  refine (e_f (B := (153, 18, [some (vR 10 0 0), some (vI x1), some (vI x2), some (vI x3), l4], [], σ2)) rfl h4).trans ?_
  refine (e_n 1 (fr' := (153, 19, [some (vR 10 0 0), some (vI x1), some (vI x2), some (vI x3), l4], [vI x3], σ2)) rfl).trans ?_
  refine (e_ci (m := 153) (pc := 22) (ls := [some (vR 10 0 0), some (vI x1), some (vI x2), some (vI x3), l4]) (rest := []) rfl h5).trans ?_
  refine (e_f (B := (153, 25, [some (vR 10 0 0), some (vI x1), some (vI x2), some (vI x3), l4], [], σ3)) rfl h6).trans ?_
  refine (e_n 3 (fr' := (153, 30, [some (vR 10 0 0), some (vI x1), some (vI x2), some (vI x3), l4], [vI x1, vR 10 0 20], σ3)) rfl).trans ?_
  refine (e_a (A := (153, 31, [some (vR 10 0 0), some (vI x1), some (vI x2), some (vI x3), l4], [vI (σ3.1 10 0 19 (x1).toNatClampNeg)], σ3)) rfl h7).trans ?_
  refine (e_t (A := (153, 34, [some (vR 10 0 0), some (vI x1), some (vI x2), some (vI x3), l4], [], σ3)) rfl h8).trans ?_
  refine (e_n 3 (fr' := (153, 39, [some (vR 10 0 0), some (vI x1), some (vI x2), some (vI x3), l4], [vI x2, vR 10 0 20], σ3)) rfl).trans ?_
  refine (e_a (A := (153, 40, [some (vR 10 0 0), some (vI x1), some (vI x2), some (vI x3), l4], [vI (σ3.1 10 0 19 (x2).toNatClampNeg)], σ3)) rfl h9).trans ?_
  refine (e_n 1 (fr' := (153, 41, [some (vR 10 0 0), some (vI x1), some (vI x2), some (vI x3), l4], [vI (1 : Int32), vI (σ3.1 10 0 19 (x2).toNatClampNeg)], σ3)) rfl).trans ?_
  refine (e_t (A := (153, 47, [some (vR 10 0 0), some (vI x1), some (vI x2), some (vI x3), l4], [], σ3)) rfl h10).trans ?_
  refine (e_n 1 (fr' := (153, 48, [some (vR 10 0 0), some (vI x1), some (vI x2), some (vI x3), l4], [vR 10 0 0], σ3)) rfl).trans ?_
  refine (e_cv (m := 153) (pc := 51) (ls := [some (vR 10 0 0), some (vI x1), some (vI x2), some (vI x3), l4]) (rest := []) rfl h11).trans ?_
  refine (e_n 4 (fr' := (153, 55, [some (vR 10 0 0), some (vI x1), some (vI x2), some (vI x3), l4], [vI x3, vI x2, vI x1, vR 10 0 0], σ4)) rfl).trans ?_
  refine (e_ci (m := 153) (pc := 58) (ls := [some (vR 10 0 0), some (vI x1), some (vI x2), some (vI x3), l4]) (rest := []) rfl h12).trans ?_
  refine (e_n 2 (fr' := (153, 62, [some (vR 10 0 0), some (vI x1), some (vI x2), some (vI x3), some (vI r5)], [vI r5], σ5)) rfl).trans ?_
  refine (e_f (B := (153, 65, [some (vR 10 0 0), some (vI x1), some (vI x2), some (vI x3), some (vI r5)], [], σ5)) rfl h13).trans ?_
  refine (e_n 2 (fr' := (153, 68, [some (vR 10 0 0), some (vI x1), some (vI x2), some (vI x3), some (vI r5)], [vI (5 : Int32), vI r5], σ5)) rfl).trans ?_
  refine (e_t (A := (153, 74, [some (vR 10 0 0), some (vI x1), some (vI x2), some (vI x3), some (vI r5)], [], σ5)) rfl h14).trans ?_
  refine (e_n 3 (fr' := (153, 80, [some (vR 10 0 0), some (vI x1), some (vI x2), some (vI x3), some (vI r5)], [vI (40 : Int32), vI (σ5.1 10 0 17 0)], σ5)) rfl).trans ?_
  refine (e_t (A := (153, 83, [some (vR 10 0 0), some (vI x1), some (vI x2), some (vI x3), some (vI r5)], [], σ5)) rfl h15).trans ?_
  refine (e_n 1 (fr' := (153, 85, [some (vR 10 0 0), some (vI x1), some (vI x2), some (vI x3), some (vI r5)], [vI (-4 : Int32)], σ5)) rfl).trans ?_
  exact e_r rfl
set_option maxRecDepth 20000 in
theorem g153_0_7 (C : pmC) {σ : pmS} {x1 : Int32} {x2 : Int32} {x3 : Int32} {l4 : Option pmV} {σ1 : pmS} {r1 : Int32} {σ2 : pmS} {r2 : Int32} {σ3 : pmS} {r3 : Int32} {σ4 : pmS} {σ5 : pmS} {r5 : Int32} (h1 : C 134 [vR 10 0 0, vI x1] σ = some (some (vI r1), σ1)) (h2 : ¬ r1 = 0) (h3 : C 134 [vR 10 0 0, vI x2] σ1 = some (some (vI r2), σ2)) (h4 : ¬ r2 = 0) (h5 : C 138 [vI x3] σ2 = some (some (vI r3), σ3)) (h6 : ¬ r3 = 0) (h7 : vp_in x1 48) (h8 : (σ3.1 10 0 19 (x1).toNatClampNeg) = 0) (h9 : vp_in x2 48) (h10 : (σ3.1 10 0 19 (x2).toNatClampNeg) = (1 : Int32)) (h11 : C 146 [vR 10 0 0] σ3 = some (none, σ4)) (h12 : C 152 [vR 10 0 0, vI x1, vI x2, vI x3] σ4 = some (some (vI r5), σ5)) (h13 : ¬ r5 ≤ 0) (h14 : (5 : Int32) ≤ r5) (h15 : ¬ (σ5.1 10 0 17 0) = (40 : Int32)) (h16 : vp_in (σ5.1 10 0 17 0) 40) (h17 : r5 = 0) : pq_Rn C (153, 0, [some (vR 10 0 0), some (vI x1), some (vI x2), some (vI x3), l4], [], σ) = some (some (vI (1 : Int32)), (pm_wi (pm_wi (pm_wi (pm_wi σ5 10 0 26 ((σ5.1 10 0 17 0)).toNatClampNeg x1) 10 0 27 ((σ5.1 10 0 17 0)).toNatClampNeg x2) 10 0 28 ((σ5.1 10 0 17 0)).toNatClampNeg x3) 10 0 17 0 ((σ5.1 10 0 17 0) + (1 : Int32)))) := by
  refine (e_n 2 (fr' := (153, 2, [some (vR 10 0 0), some (vI x1), some (vI x2), some (vI x3), l4], [vI x1, vR 10 0 0], σ)) rfl).trans ?_
  refine (e_ci (m := 153) (pc := 5) (ls := [some (vR 10 0 0), some (vI x1), some (vI x2), some (vI x3), l4]) (rest := []) rfl h1).trans ?_
  refine (e_f (B := (153, 8, [some (vR 10 0 0), some (vI x1), some (vI x2), some (vI x3), l4], [], σ1)) rfl h2).trans ?_
  refine (e_n 2 (fr' := (153, 10, [some (vR 10 0 0), some (vI x1), some (vI x2), some (vI x3), l4], [vI x2, vR 10 0 0], σ1)) rfl).trans ?_
  refine (e_ci (m := 153) (pc := 13) (ls := [some (vR 10 0 0), some (vI x1), some (vI x2), some (vI x3), l4]) (rest := []) rfl h3).trans ?_
  refine (e_f (B := (153, 18, [some (vR 10 0 0), some (vI x1), some (vI x2), some (vI x3), l4], [], σ2)) rfl h4).trans ?_
  refine (e_n 1 (fr' := (153, 19, [some (vR 10 0 0), some (vI x1), some (vI x2), some (vI x3), l4], [vI x3], σ2)) rfl).trans ?_
  refine (e_ci (m := 153) (pc := 22) (ls := [some (vR 10 0 0), some (vI x1), some (vI x2), some (vI x3), l4]) (rest := []) rfl h5).trans ?_
  refine (e_f (B := (153, 25, [some (vR 10 0 0), some (vI x1), some (vI x2), some (vI x3), l4], [], σ3)) rfl h6).trans ?_
  refine (e_n 3 (fr' := (153, 30, [some (vR 10 0 0), some (vI x1), some (vI x2), some (vI x3), l4], [vI x1, vR 10 0 20], σ3)) rfl).trans ?_
  refine (e_a (A := (153, 31, [some (vR 10 0 0), some (vI x1), some (vI x2), some (vI x3), l4], [vI (σ3.1 10 0 19 (x1).toNatClampNeg)], σ3)) rfl h7).trans ?_
  refine (e_t (A := (153, 34, [some (vR 10 0 0), some (vI x1), some (vI x2), some (vI x3), l4], [], σ3)) rfl h8).trans ?_
  refine (e_n 3 (fr' := (153, 39, [some (vR 10 0 0), some (vI x1), some (vI x2), some (vI x3), l4], [vI x2, vR 10 0 20], σ3)) rfl).trans ?_
  refine (e_a (A := (153, 40, [some (vR 10 0 0), some (vI x1), some (vI x2), some (vI x3), l4], [vI (σ3.1 10 0 19 (x2).toNatClampNeg)], σ3)) rfl h9).trans ?_
  refine (e_n 1 (fr' := (153, 41, [some (vR 10 0 0), some (vI x1), some (vI x2), some (vI x3), l4], [vI (1 : Int32), vI (σ3.1 10 0 19 (x2).toNatClampNeg)], σ3)) rfl).trans ?_
  refine (e_t (A := (153, 47, [some (vR 10 0 0), some (vI x1), some (vI x2), some (vI x3), l4], [], σ3)) rfl h10).trans ?_
  refine (e_n 1 (fr' := (153, 48, [some (vR 10 0 0), some (vI x1), some (vI x2), some (vI x3), l4], [vR 10 0 0], σ3)) rfl).trans ?_
  refine (e_cv (m := 153) (pc := 51) (ls := [some (vR 10 0 0), some (vI x1), some (vI x2), some (vI x3), l4]) (rest := []) rfl h11).trans ?_
  refine (e_n 4 (fr' := (153, 55, [some (vR 10 0 0), some (vI x1), some (vI x2), some (vI x3), l4], [vI x3, vI x2, vI x1, vR 10 0 0], σ4)) rfl).trans ?_
  refine (e_ci (m := 153) (pc := 58) (ls := [some (vR 10 0 0), some (vI x1), some (vI x2), some (vI x3), l4]) (rest := []) rfl h12).trans ?_
  refine (e_n 2 (fr' := (153, 62, [some (vR 10 0 0), some (vI x1), some (vI x2), some (vI x3), some (vI r5)], [vI r5], σ5)) rfl).trans ?_
  refine (e_f (B := (153, 65, [some (vR 10 0 0), some (vI x1), some (vI x2), some (vI x3), some (vI r5)], [], σ5)) rfl h13).trans ?_
  refine (e_n 2 (fr' := (153, 68, [some (vR 10 0 0), some (vI x1), some (vI x2), some (vI x3), some (vI r5)], [vI (5 : Int32), vI r5], σ5)) rfl).trans ?_
  refine (e_t (A := (153, 74, [some (vR 10 0 0), some (vI x1), some (vI x2), some (vI x3), some (vI r5)], [], σ5)) rfl h14).trans ?_
  refine (e_n 3 (fr' := (153, 80, [some (vR 10 0 0), some (vI x1), some (vI x2), some (vI x3), some (vI r5)], [vI (40 : Int32), vI (σ5.1 10 0 17 0)], σ5)) rfl).trans ?_
  refine (e_f (B := (153, 86, [some (vR 10 0 0), some (vI x1), some (vI x2), some (vI x3), some (vI r5)], [], σ5)) rfl h15).trans ?_
  refine (e_n 5 (fr' := (153, 95, [some (vR 10 0 0), some (vI x1), some (vI x2), some (vI x3), some (vI r5)], [vI x1, vI (σ5.1 10 0 17 0), vR 10 0 27], σ5)) rfl).trans ?_
  refine (e_a (A := (153, 96, [some (vR 10 0 0), some (vI x1), some (vI x2), some (vI x3), some (vI r5)], [], (pm_wi σ5 10 0 26 ((σ5.1 10 0 17 0)).toNatClampNeg x1))) rfl h16).trans ?_
  refine (e_n 5 (fr' := (153, 105, [some (vR 10 0 0), some (vI x1), some (vI x2), some (vI x3), some (vI r5)], [vI x2, vI (σ5.1 10 0 17 0), vR 10 0 28], (pm_wi σ5 10 0 26 ((σ5.1 10 0 17 0)).toNatClampNeg x1))) rfl).trans ?_
  refine (e_a (A := (153, 106, [some (vR 10 0 0), some (vI x1), some (vI x2), some (vI x3), some (vI r5)], [], (pm_wi (pm_wi σ5 10 0 26 ((σ5.1 10 0 17 0)).toNatClampNeg x1) 10 0 27 ((σ5.1 10 0 17 0)).toNatClampNeg x2))) rfl h16).trans ?_
  refine (e_n 5 (fr' := (153, 115, [some (vR 10 0 0), some (vI x1), some (vI x2), some (vI x3), some (vI r5)], [vI x3, vI (σ5.1 10 0 17 0), vR 10 0 29], (pm_wi (pm_wi σ5 10 0 26 ((σ5.1 10 0 17 0)).toNatClampNeg x1) 10 0 27 ((σ5.1 10 0 17 0)).toNatClampNeg x2))) rfl).trans ?_
  refine (e_a (A := (153, 116, [some (vR 10 0 0), some (vI x1), some (vI x2), some (vI x3), some (vI r5)], [], (pm_wi (pm_wi (pm_wi σ5 10 0 26 ((σ5.1 10 0 17 0)).toNatClampNeg x1) 10 0 27 ((σ5.1 10 0 17 0)).toNatClampNeg x2) 10 0 28 ((σ5.1 10 0 17 0)).toNatClampNeg x3))) rfl h16).trans ?_
  refine (e_n 7 (fr' := (153, 128, [some (vR 10 0 0), some (vI x1), some (vI x2), some (vI x3), some (vI r5)], [vI r5], (pm_wi (pm_wi (pm_wi (pm_wi σ5 10 0 26 ((σ5.1 10 0 17 0)).toNatClampNeg x1) 10 0 27 ((σ5.1 10 0 17 0)).toNatClampNeg x2) 10 0 28 ((σ5.1 10 0 17 0)).toNatClampNeg x3) 10 0 17 0 ((σ5.1 10 0 17 0) + (1 : Int32))))) rfl).trans ?_
  refine (e_t (A := (153, 131, [some (vR 10 0 0), some (vI x1), some (vI x2), some (vI x3), some (vI r5)], [], (pm_wi (pm_wi (pm_wi (pm_wi σ5 10 0 26 ((σ5.1 10 0 17 0)).toNatClampNeg x1) 10 0 27 ((σ5.1 10 0 17 0)).toNatClampNeg x2) 10 0 28 ((σ5.1 10 0 17 0)).toNatClampNeg x3) 10 0 17 0 ((σ5.1 10 0 17 0) + (1 : Int32))))) rfl h17).trans ?_
  refine (e_n 2 (fr' := (153, 136, [some (vR 10 0 0), some (vI x1), some (vI x2), some (vI x3), some (vI r5)], [vI (1 : Int32)], (pm_wi (pm_wi (pm_wi (pm_wi σ5 10 0 26 ((σ5.1 10 0 17 0)).toNatClampNeg x1) 10 0 27 ((σ5.1 10 0 17 0)).toNatClampNeg x2) 10 0 28 ((σ5.1 10 0 17 0)).toNatClampNeg x3) 10 0 17 0 ((σ5.1 10 0 17 0) + (1 : Int32))))) rfl).trans ?_
  exact e_r rfl
set_option maxRecDepth 20000 in
theorem g153_0_8 (C : pmC) {σ : pmS} {x1 : Int32} {x2 : Int32} {x3 : Int32} {l4 : Option pmV} {σ1 : pmS} {r1 : Int32} {σ2 : pmS} {r2 : Int32} {σ3 : pmS} {r3 : Int32} {σ4 : pmS} {σ5 : pmS} {r5 : Int32} (h1 : C 134 [vR 10 0 0, vI x1] σ = some (some (vI r1), σ1)) (h2 : ¬ r1 = 0) (h3 : C 134 [vR 10 0 0, vI x2] σ1 = some (some (vI r2), σ2)) (h4 : ¬ r2 = 0) (h5 : C 138 [vI x3] σ2 = some (some (vI r3), σ3)) (h6 : ¬ r3 = 0) (h7 : vp_in x1 48) (h8 : (σ3.1 10 0 19 (x1).toNatClampNeg) = 0) (h9 : vp_in x2 48) (h10 : (σ3.1 10 0 19 (x2).toNatClampNeg) = (1 : Int32)) (h11 : C 146 [vR 10 0 0] σ3 = some (none, σ4)) (h12 : C 152 [vR 10 0 0, vI x1, vI x2, vI x3] σ4 = some (some (vI r5), σ5)) (h13 : ¬ r5 ≤ 0) (h14 : (5 : Int32) ≤ r5) (h15 : ¬ (σ5.1 10 0 17 0) = (40 : Int32)) (h16 : vp_in (σ5.1 10 0 17 0) 40) (h17 : ¬ r5 = 0) : pq_Rn C (153, 0, [some (vR 10 0 0), some (vI x1), some (vI x2), some (vI x3), l4], [], σ) = some (some (vI (0 : Int32)), (pm_wi (pm_wi (pm_wi (pm_wi σ5 10 0 26 ((σ5.1 10 0 17 0)).toNatClampNeg x1) 10 0 27 ((σ5.1 10 0 17 0)).toNatClampNeg x2) 10 0 28 ((σ5.1 10 0 17 0)).toNatClampNeg x3) 10 0 17 0 ((σ5.1 10 0 17 0) + (1 : Int32)))) := by
  refine (e_n 2 (fr' := (153, 2, [some (vR 10 0 0), some (vI x1), some (vI x2), some (vI x3), l4], [vI x1, vR 10 0 0], σ)) rfl).trans ?_
  refine (e_ci (m := 153) (pc := 5) (ls := [some (vR 10 0 0), some (vI x1), some (vI x2), some (vI x3), l4]) (rest := []) rfl h1).trans ?_
  refine (e_f (B := (153, 8, [some (vR 10 0 0), some (vI x1), some (vI x2), some (vI x3), l4], [], σ1)) rfl h2).trans ?_
  refine (e_n 2 (fr' := (153, 10, [some (vR 10 0 0), some (vI x1), some (vI x2), some (vI x3), l4], [vI x2, vR 10 0 0], σ1)) rfl).trans ?_
  refine (e_ci (m := 153) (pc := 13) (ls := [some (vR 10 0 0), some (vI x1), some (vI x2), some (vI x3), l4]) (rest := []) rfl h3).trans ?_
  refine (e_f (B := (153, 18, [some (vR 10 0 0), some (vI x1), some (vI x2), some (vI x3), l4], [], σ2)) rfl h4).trans ?_
  refine (e_n 1 (fr' := (153, 19, [some (vR 10 0 0), some (vI x1), some (vI x2), some (vI x3), l4], [vI x3], σ2)) rfl).trans ?_
  refine (e_ci (m := 153) (pc := 22) (ls := [some (vR 10 0 0), some (vI x1), some (vI x2), some (vI x3), l4]) (rest := []) rfl h5).trans ?_
  refine (e_f (B := (153, 25, [some (vR 10 0 0), some (vI x1), some (vI x2), some (vI x3), l4], [], σ3)) rfl h6).trans ?_
  refine (e_n 3 (fr' := (153, 30, [some (vR 10 0 0), some (vI x1), some (vI x2), some (vI x3), l4], [vI x1, vR 10 0 20], σ3)) rfl).trans ?_
  refine (e_a (A := (153, 31, [some (vR 10 0 0), some (vI x1), some (vI x2), some (vI x3), l4], [vI (σ3.1 10 0 19 (x1).toNatClampNeg)], σ3)) rfl h7).trans ?_
  refine (e_t (A := (153, 34, [some (vR 10 0 0), some (vI x1), some (vI x2), some (vI x3), l4], [], σ3)) rfl h8).trans ?_
  refine (e_n 3 (fr' := (153, 39, [some (vR 10 0 0), some (vI x1), some (vI x2), some (vI x3), l4], [vI x2, vR 10 0 20], σ3)) rfl).trans ?_
  refine (e_a (A := (153, 40, [some (vR 10 0 0), some (vI x1), some (vI x2), some (vI x3), l4], [vI (σ3.1 10 0 19 (x2).toNatClampNeg)], σ3)) rfl h9).trans ?_
  refine (e_n 1 (fr' := (153, 41, [some (vR 10 0 0), some (vI x1), some (vI x2), some (vI x3), l4], [vI (1 : Int32), vI (σ3.1 10 0 19 (x2).toNatClampNeg)], σ3)) rfl).trans ?_
  refine (e_t (A := (153, 47, [some (vR 10 0 0), some (vI x1), some (vI x2), some (vI x3), l4], [], σ3)) rfl h10).trans ?_
  refine (e_n 1 (fr' := (153, 48, [some (vR 10 0 0), some (vI x1), some (vI x2), some (vI x3), l4], [vR 10 0 0], σ3)) rfl).trans ?_
  refine (e_cv (m := 153) (pc := 51) (ls := [some (vR 10 0 0), some (vI x1), some (vI x2), some (vI x3), l4]) (rest := []) rfl h11).trans ?_
  refine (e_n 4 (fr' := (153, 55, [some (vR 10 0 0), some (vI x1), some (vI x2), some (vI x3), l4], [vI x3, vI x2, vI x1, vR 10 0 0], σ4)) rfl).trans ?_
  refine (e_ci (m := 153) (pc := 58) (ls := [some (vR 10 0 0), some (vI x1), some (vI x2), some (vI x3), l4]) (rest := []) rfl h12).trans ?_
  refine (e_n 2 (fr' := (153, 62, [some (vR 10 0 0), some (vI x1), some (vI x2), some (vI x3), some (vI r5)], [vI r5], σ5)) rfl).trans ?_
  refine (e_f (B := (153, 65, [some (vR 10 0 0), some (vI x1), some (vI x2), some (vI x3), some (vI r5)], [], σ5)) rfl h13).trans ?_
  refine (e_n 2 (fr' := (153, 68, [some (vR 10 0 0), some (vI x1), some (vI x2), some (vI x3), some (vI r5)], [vI (5 : Int32), vI r5], σ5)) rfl).trans ?_
  refine (e_t (A := (153, 74, [some (vR 10 0 0), some (vI x1), some (vI x2), some (vI x3), some (vI r5)], [], σ5)) rfl h14).trans ?_
  refine (e_n 3 (fr' := (153, 80, [some (vR 10 0 0), some (vI x1), some (vI x2), some (vI x3), some (vI r5)], [vI (40 : Int32), vI (σ5.1 10 0 17 0)], σ5)) rfl).trans ?_
  refine (e_f (B := (153, 86, [some (vR 10 0 0), some (vI x1), some (vI x2), some (vI x3), some (vI r5)], [], σ5)) rfl h15).trans ?_
  refine (e_n 5 (fr' := (153, 95, [some (vR 10 0 0), some (vI x1), some (vI x2), some (vI x3), some (vI r5)], [vI x1, vI (σ5.1 10 0 17 0), vR 10 0 27], σ5)) rfl).trans ?_
  refine (e_a (A := (153, 96, [some (vR 10 0 0), some (vI x1), some (vI x2), some (vI x3), some (vI r5)], [], (pm_wi σ5 10 0 26 ((σ5.1 10 0 17 0)).toNatClampNeg x1))) rfl h16).trans ?_
  refine (e_n 5 (fr' := (153, 105, [some (vR 10 0 0), some (vI x1), some (vI x2), some (vI x3), some (vI r5)], [vI x2, vI (σ5.1 10 0 17 0), vR 10 0 28], (pm_wi σ5 10 0 26 ((σ5.1 10 0 17 0)).toNatClampNeg x1))) rfl).trans ?_
  refine (e_a (A := (153, 106, [some (vR 10 0 0), some (vI x1), some (vI x2), some (vI x3), some (vI r5)], [], (pm_wi (pm_wi σ5 10 0 26 ((σ5.1 10 0 17 0)).toNatClampNeg x1) 10 0 27 ((σ5.1 10 0 17 0)).toNatClampNeg x2))) rfl h16).trans ?_
  refine (e_n 5 (fr' := (153, 115, [some (vR 10 0 0), some (vI x1), some (vI x2), some (vI x3), some (vI r5)], [vI x3, vI (σ5.1 10 0 17 0), vR 10 0 29], (pm_wi (pm_wi σ5 10 0 26 ((σ5.1 10 0 17 0)).toNatClampNeg x1) 10 0 27 ((σ5.1 10 0 17 0)).toNatClampNeg x2))) rfl).trans ?_
  refine (e_a (A := (153, 116, [some (vR 10 0 0), some (vI x1), some (vI x2), some (vI x3), some (vI r5)], [], (pm_wi (pm_wi (pm_wi σ5 10 0 26 ((σ5.1 10 0 17 0)).toNatClampNeg x1) 10 0 27 ((σ5.1 10 0 17 0)).toNatClampNeg x2) 10 0 28 ((σ5.1 10 0 17 0)).toNatClampNeg x3))) rfl h16).trans ?_
  refine (e_n 7 (fr' := (153, 128, [some (vR 10 0 0), some (vI x1), some (vI x2), some (vI x3), some (vI r5)], [vI r5], (pm_wi (pm_wi (pm_wi (pm_wi σ5 10 0 26 ((σ5.1 10 0 17 0)).toNatClampNeg x1) 10 0 27 ((σ5.1 10 0 17 0)).toNatClampNeg x2) 10 0 28 ((σ5.1 10 0 17 0)).toNatClampNeg x3) 10 0 17 0 ((σ5.1 10 0 17 0) + (1 : Int32))))) rfl).trans ?_
  refine (e_f (B := (153, 135, [some (vR 10 0 0), some (vI x1), some (vI x2), some (vI x3), some (vI r5)], [], (pm_wi (pm_wi (pm_wi (pm_wi σ5 10 0 26 ((σ5.1 10 0 17 0)).toNatClampNeg x1) 10 0 27 ((σ5.1 10 0 17 0)).toNatClampNeg x2) 10 0 28 ((σ5.1 10 0 17 0)).toNatClampNeg x3) 10 0 17 0 ((σ5.1 10 0 17 0) + (1 : Int32))))) rfl h17).trans ?_
  refine (e_n 1 (fr' := (153, 136, [some (vR 10 0 0), some (vI x1), some (vI x2), some (vI x3), some (vI r5)], [vI (0 : Int32)], (pm_wi (pm_wi (pm_wi (pm_wi σ5 10 0 26 ((σ5.1 10 0 17 0)).toNatClampNeg x1) 10 0 27 ((σ5.1 10 0 17 0)).toNatClampNeg x2) 10 0 28 ((σ5.1 10 0 17 0)).toNatClampNeg x3) 10 0 17 0 ((σ5.1 10 0 17 0) + (1 : Int32))))) rfl).trans ?_
  exact e_r rfl
set_option maxRecDepth 20000 in
theorem g153_0_9 (C : pmC) {σ : pmS} {x1 : Int32} {x2 : Int32} {x3 : Int32} {l4 : Option pmV} {σ1 : pmS} {r1 : Int32} {σ2 : pmS} {r2 : Int32} {σ3 : pmS} {r3 : Int32} {σ4 : pmS} {σ5 : pmS} {r5 : Int32} (h1 : C 134 [vR 10 0 0, vI x1] σ = some (some (vI r1), σ1)) (h2 : ¬ r1 = 0) (h3 : C 134 [vR 10 0 0, vI x2] σ1 = some (some (vI r2), σ2)) (h4 : ¬ r2 = 0) (h5 : C 138 [vI x3] σ2 = some (some (vI r3), σ3)) (h6 : ¬ r3 = 0) (h7 : vp_in x1 48) (h8 : (σ3.1 10 0 19 (x1).toNatClampNeg) = 0) (h9 : vp_in x2 48) (h10 : (σ3.1 10 0 19 (x2).toNatClampNeg) = (1 : Int32)) (h11 : C 146 [vR 10 0 0] σ3 = some (none, σ4)) (h12 : C 152 [vR 10 0 0, vI x1, vI x2, vI x3] σ4 = some (some (vI r5), σ5)) (h13 : ¬ r5 ≤ 0) (h14 : ¬ (5 : Int32) ≤ r5) : pq_Rn C (153, 0, [some (vR 10 0 0), some (vI x1), some (vI x2), some (vI x3), l4], [], σ) = some (some (vI (-3 : Int32)), σ5) := by
  refine (e_n 2 (fr' := (153, 2, [some (vR 10 0 0), some (vI x1), some (vI x2), some (vI x3), l4], [vI x1, vR 10 0 0], σ)) rfl).trans ?_
  refine (e_ci (m := 153) (pc := 5) (ls := [some (vR 10 0 0), some (vI x1), some (vI x2), some (vI x3), l4]) (rest := []) rfl h1).trans ?_
  refine (e_f (B := (153, 8, [some (vR 10 0 0), some (vI x1), some (vI x2), some (vI x3), l4], [], σ1)) rfl h2).trans ?_
  refine (e_n 2 (fr' := (153, 10, [some (vR 10 0 0), some (vI x1), some (vI x2), some (vI x3), l4], [vI x2, vR 10 0 0], σ1)) rfl).trans ?_
  refine (e_ci (m := 153) (pc := 13) (ls := [some (vR 10 0 0), some (vI x1), some (vI x2), some (vI x3), l4]) (rest := []) rfl h3).trans ?_
  refine (e_f (B := (153, 18, [some (vR 10 0 0), some (vI x1), some (vI x2), some (vI x3), l4], [], σ2)) rfl h4).trans ?_
  refine (e_n 1 (fr' := (153, 19, [some (vR 10 0 0), some (vI x1), some (vI x2), some (vI x3), l4], [vI x3], σ2)) rfl).trans ?_
  refine (e_ci (m := 153) (pc := 22) (ls := [some (vR 10 0 0), some (vI x1), some (vI x2), some (vI x3), l4]) (rest := []) rfl h5).trans ?_
  refine (e_f (B := (153, 25, [some (vR 10 0 0), some (vI x1), some (vI x2), some (vI x3), l4], [], σ3)) rfl h6).trans ?_
  refine (e_n 3 (fr' := (153, 30, [some (vR 10 0 0), some (vI x1), some (vI x2), some (vI x3), l4], [vI x1, vR 10 0 20], σ3)) rfl).trans ?_
  refine (e_a (A := (153, 31, [some (vR 10 0 0), some (vI x1), some (vI x2), some (vI x3), l4], [vI (σ3.1 10 0 19 (x1).toNatClampNeg)], σ3)) rfl h7).trans ?_
  refine (e_t (A := (153, 34, [some (vR 10 0 0), some (vI x1), some (vI x2), some (vI x3), l4], [], σ3)) rfl h8).trans ?_
  refine (e_n 3 (fr' := (153, 39, [some (vR 10 0 0), some (vI x1), some (vI x2), some (vI x3), l4], [vI x2, vR 10 0 20], σ3)) rfl).trans ?_
  refine (e_a (A := (153, 40, [some (vR 10 0 0), some (vI x1), some (vI x2), some (vI x3), l4], [vI (σ3.1 10 0 19 (x2).toNatClampNeg)], σ3)) rfl h9).trans ?_
  refine (e_n 1 (fr' := (153, 41, [some (vR 10 0 0), some (vI x1), some (vI x2), some (vI x3), l4], [vI (1 : Int32), vI (σ3.1 10 0 19 (x2).toNatClampNeg)], σ3)) rfl).trans ?_
  refine (e_t (A := (153, 47, [some (vR 10 0 0), some (vI x1), some (vI x2), some (vI x3), l4], [], σ3)) rfl h10).trans ?_
  refine (e_n 1 (fr' := (153, 48, [some (vR 10 0 0), some (vI x1), some (vI x2), some (vI x3), l4], [vR 10 0 0], σ3)) rfl).trans ?_
  refine (e_cv (m := 153) (pc := 51) (ls := [some (vR 10 0 0), some (vI x1), some (vI x2), some (vI x3), l4]) (rest := []) rfl h11).trans ?_
  refine (e_n 4 (fr' := (153, 55, [some (vR 10 0 0), some (vI x1), some (vI x2), some (vI x3), l4], [vI x3, vI x2, vI x1, vR 10 0 0], σ4)) rfl).trans ?_
  refine (e_ci (m := 153) (pc := 58) (ls := [some (vR 10 0 0), some (vI x1), some (vI x2), some (vI x3), l4]) (rest := []) rfl h12).trans ?_
  refine (e_n 2 (fr' := (153, 62, [some (vR 10 0 0), some (vI x1), some (vI x2), some (vI x3), some (vI r5)], [vI r5], σ5)) rfl).trans ?_
  refine (e_f (B := (153, 65, [some (vR 10 0 0), some (vI x1), some (vI x2), some (vI x3), some (vI r5)], [], σ5)) rfl h13).trans ?_
  refine (e_n 2 (fr' := (153, 68, [some (vR 10 0 0), some (vI x1), some (vI x2), some (vI x3), some (vI r5)], [vI (5 : Int32), vI r5], σ5)) rfl).trans ?_
  refine (e_f (B := (153, 71, [some (vR 10 0 0), some (vI x1), some (vI x2), some (vI x3), some (vI r5)], [], σ5)) rfl h14).trans ?_
  refine (e_n 1 (fr' := (153, 73, [some (vR 10 0 0), some (vI x1), some (vI x2), some (vI x3), some (vI r5)], [vI (-3 : Int32)], σ5)) rfl).trans ?_
  exact e_r rfl
set_option maxRecDepth 20000 in
theorem g153_0_10 (C : pmC) {σ : pmS} {x1 : Int32} {x2 : Int32} {x3 : Int32} {l4 : Option pmV} {σ1 : pmS} {r1 : Int32} {σ2 : pmS} {r2 : Int32} {σ3 : pmS} {r3 : Int32} (h1 : C 134 [vR 10 0 0, vI x1] σ = some (some (vI r1), σ1)) (h2 : ¬ r1 = 0) (h3 : C 134 [vR 10 0 0, vI x2] σ1 = some (some (vI r2), σ2)) (h4 : ¬ r2 = 0) (h5 : C 138 [vI x3] σ2 = some (some (vI r3), σ3)) (h6 : ¬ r3 = 0) (h7 : vp_in x1 48) (h8 : (σ3.1 10 0 19 (x1).toNatClampNeg) = 0) (h9 : vp_in x2 48) (h10 : ¬ (σ3.1 10 0 19 (x2).toNatClampNeg) = (1 : Int32)) : pq_Rn C (153, 0, [some (vR 10 0 0), some (vI x1), some (vI x2), some (vI x3), l4], [], σ) = some (some (vI (-2 : Int32)), σ3) := by
  refine (e_n 2 (fr' := (153, 2, [some (vR 10 0 0), some (vI x1), some (vI x2), some (vI x3), l4], [vI x1, vR 10 0 0], σ)) rfl).trans ?_
  refine (e_ci (m := 153) (pc := 5) (ls := [some (vR 10 0 0), some (vI x1), some (vI x2), some (vI x3), l4]) (rest := []) rfl h1).trans ?_
  refine (e_f (B := (153, 8, [some (vR 10 0 0), some (vI x1), some (vI x2), some (vI x3), l4], [], σ1)) rfl h2).trans ?_
  refine (e_n 2 (fr' := (153, 10, [some (vR 10 0 0), some (vI x1), some (vI x2), some (vI x3), l4], [vI x2, vR 10 0 0], σ1)) rfl).trans ?_
  refine (e_ci (m := 153) (pc := 13) (ls := [some (vR 10 0 0), some (vI x1), some (vI x2), some (vI x3), l4]) (rest := []) rfl h3).trans ?_
  refine (e_f (B := (153, 18, [some (vR 10 0 0), some (vI x1), some (vI x2), some (vI x3), l4], [], σ2)) rfl h4).trans ?_
  refine (e_n 1 (fr' := (153, 19, [some (vR 10 0 0), some (vI x1), some (vI x2), some (vI x3), l4], [vI x3], σ2)) rfl).trans ?_
  refine (e_ci (m := 153) (pc := 22) (ls := [some (vR 10 0 0), some (vI x1), some (vI x2), some (vI x3), l4]) (rest := []) rfl h5).trans ?_
  refine (e_f (B := (153, 25, [some (vR 10 0 0), some (vI x1), some (vI x2), some (vI x3), l4], [], σ3)) rfl h6).trans ?_
  refine (e_n 3 (fr' := (153, 30, [some (vR 10 0 0), some (vI x1), some (vI x2), some (vI x3), l4], [vI x1, vR 10 0 20], σ3)) rfl).trans ?_
  refine (e_a (A := (153, 31, [some (vR 10 0 0), some (vI x1), some (vI x2), some (vI x3), l4], [vI (σ3.1 10 0 19 (x1).toNatClampNeg)], σ3)) rfl h7).trans ?_
  refine (e_t (A := (153, 34, [some (vR 10 0 0), some (vI x1), some (vI x2), some (vI x3), l4], [], σ3)) rfl h8).trans ?_
  refine (e_n 3 (fr' := (153, 39, [some (vR 10 0 0), some (vI x1), some (vI x2), some (vI x3), l4], [vI x2, vR 10 0 20], σ3)) rfl).trans ?_
  refine (e_a (A := (153, 40, [some (vR 10 0 0), some (vI x1), some (vI x2), some (vI x3), l4], [vI (σ3.1 10 0 19 (x2).toNatClampNeg)], σ3)) rfl h9).trans ?_
  refine (e_n 1 (fr' := (153, 41, [some (vR 10 0 0), some (vI x1), some (vI x2), some (vI x3), l4], [vI (1 : Int32), vI (σ3.1 10 0 19 (x2).toNatClampNeg)], σ3)) rfl).trans ?_
  refine (e_f (B := (153, 44, [some (vR 10 0 0), some (vI x1), some (vI x2), some (vI x3), l4], [], σ3)) rfl h10).trans ?_
  refine (e_n 1 (fr' := (153, 46, [some (vR 10 0 0), some (vI x1), some (vI x2), some (vI x3), l4], [vI (-2 : Int32)], σ3)) rfl).trans ?_
  exact e_r rfl
set_option maxRecDepth 20000 in
theorem g153_0_11 (C : pmC) {σ : pmS} {x1 : Int32} {x2 : Int32} {x3 : Int32} {l4 : Option pmV} {σ1 : pmS} {r1 : Int32} {σ2 : pmS} {r2 : Int32} {σ3 : pmS} {r3 : Int32} (h1 : C 134 [vR 10 0 0, vI x1] σ = some (some (vI r1), σ1)) (h2 : ¬ r1 = 0) (h3 : C 134 [vR 10 0 0, vI x2] σ1 = some (some (vI r2), σ2)) (h4 : ¬ r2 = 0) (h5 : C 138 [vI x3] σ2 = some (some (vI r3), σ3)) (h6 : ¬ r3 = 0) (h7 : vp_in x1 48) (h8 : ¬ (σ3.1 10 0 19 (x1).toNatClampNeg) = 0) : pq_Rn C (153, 0, [some (vR 10 0 0), some (vI x1), some (vI x2), some (vI x3), l4], [], σ) = some (some (vI (-2 : Int32)), σ3) := by
  refine (e_n 2 (fr' := (153, 2, [some (vR 10 0 0), some (vI x1), some (vI x2), some (vI x3), l4], [vI x1, vR 10 0 0], σ)) rfl).trans ?_
  refine (e_ci (m := 153) (pc := 5) (ls := [some (vR 10 0 0), some (vI x1), some (vI x2), some (vI x3), l4]) (rest := []) rfl h1).trans ?_
  refine (e_f (B := (153, 8, [some (vR 10 0 0), some (vI x1), some (vI x2), some (vI x3), l4], [], σ1)) rfl h2).trans ?_
  refine (e_n 2 (fr' := (153, 10, [some (vR 10 0 0), some (vI x1), some (vI x2), some (vI x3), l4], [vI x2, vR 10 0 0], σ1)) rfl).trans ?_
  refine (e_ci (m := 153) (pc := 13) (ls := [some (vR 10 0 0), some (vI x1), some (vI x2), some (vI x3), l4]) (rest := []) rfl h3).trans ?_
  refine (e_f (B := (153, 18, [some (vR 10 0 0), some (vI x1), some (vI x2), some (vI x3), l4], [], σ2)) rfl h4).trans ?_
  refine (e_n 1 (fr' := (153, 19, [some (vR 10 0 0), some (vI x1), some (vI x2), some (vI x3), l4], [vI x3], σ2)) rfl).trans ?_
  refine (e_ci (m := 153) (pc := 22) (ls := [some (vR 10 0 0), some (vI x1), some (vI x2), some (vI x3), l4]) (rest := []) rfl h5).trans ?_
  refine (e_f (B := (153, 25, [some (vR 10 0 0), some (vI x1), some (vI x2), some (vI x3), l4], [], σ3)) rfl h6).trans ?_
  refine (e_n 3 (fr' := (153, 30, [some (vR 10 0 0), some (vI x1), some (vI x2), some (vI x3), l4], [vI x1, vR 10 0 20], σ3)) rfl).trans ?_
  refine (e_a (A := (153, 31, [some (vR 10 0 0), some (vI x1), some (vI x2), some (vI x3), l4], [vI (σ3.1 10 0 19 (x1).toNatClampNeg)], σ3)) rfl h7).trans ?_
  refine (e_f (B := (153, 44, [some (vR 10 0 0), some (vI x1), some (vI x2), some (vI x3), l4], [], σ3)) rfl h8).trans ?_
  refine (e_n 1 (fr' := (153, 46, [some (vR 10 0 0), some (vI x1), some (vI x2), some (vI x3), l4], [vI (-2 : Int32)], σ3)) rfl).trans ?_
  exact e_r rfl
set_option maxRecDepth 20000 in
theorem g154_0_0 (C : pmC) {σ : pmS} {x1 : Int32} {x2 : Int32} {x3 : Int32} {σ1 : pmS} {r1 : Int32} (h1 : C 134 [vR 10 0 0, vI x1] σ = some (some (vI r1), σ1)) (h2 : r1 = 0) : pq_Rn C (154, 0, [some (vR 10 0 0), some (vI x1), some (vI x2), some (vI x3)], [], σ) = some (some (vI (-1 : Int32)), σ1) := by
  refine (e_n 2 (fr' := (154, 2, [some (vR 10 0 0), some (vI x1), some (vI x2), some (vI x3)], [vI x1, vR 10 0 0], σ)) rfl).trans ?_
  refine (e_ci (m := 154) (pc := 5) (ls := [some (vR 10 0 0), some (vI x1), some (vI x2), some (vI x3)]) (rest := []) rfl h1).trans ?_
  refine (e_t (A := (154, 16, [some (vR 10 0 0), some (vI x1), some (vI x2), some (vI x3)], [], σ1)) rfl h2).trans ?_
  refine (e_n 1 (fr' := (154, 17, [some (vR 10 0 0), some (vI x1), some (vI x2), some (vI x3)], [vI (-1 : Int32)], σ1)) rfl).trans ?_
  exact e_r rfl
set_option maxRecDepth 20000 in
theorem g154_0_1 (C : pmC) {σ : pmS} {x1 : Int32} {x2 : Int32} {x3 : Int32} {σ1 : pmS} {r1 : Int32} {σ2 : pmS} {r2 : Int32} (h1 : C 134 [vR 10 0 0, vI x1] σ = some (some (vI r1), σ1)) (h2 : ¬ r1 = 0) (h3 : C 134 [vR 10 0 0, vI x2] σ1 = some (some (vI r2), σ2)) (h4 : r2 = 0) : pq_Rn C (154, 0, [some (vR 10 0 0), some (vI x1), some (vI x2), some (vI x3)], [], σ) = some (some (vI (-1 : Int32)), σ2) := by
  refine (e_n 2 (fr' := (154, 2, [some (vR 10 0 0), some (vI x1), some (vI x2), some (vI x3)], [vI x1, vR 10 0 0], σ)) rfl).trans ?_
  refine (e_ci (m := 154) (pc := 5) (ls := [some (vR 10 0 0), some (vI x1), some (vI x2), some (vI x3)]) (rest := []) rfl h1).trans ?_
  refine (e_f (B := (154, 8, [some (vR 10 0 0), some (vI x1), some (vI x2), some (vI x3)], [], σ1)) rfl h2).trans ?_
  refine (e_n 2 (fr' := (154, 10, [some (vR 10 0 0), some (vI x1), some (vI x2), some (vI x3)], [vI x2, vR 10 0 0], σ1)) rfl).trans ?_
  refine (e_ci (m := 154) (pc := 13) (ls := [some (vR 10 0 0), some (vI x1), some (vI x2), some (vI x3)]) (rest := []) rfl h3).trans ?_
  refine (e_t (A := (154, 16, [some (vR 10 0 0), some (vI x1), some (vI x2), some (vI x3)], [], σ2)) rfl h4).trans ?_
  refine (e_n 1 (fr' := (154, 17, [some (vR 10 0 0), some (vI x1), some (vI x2), some (vI x3)], [vI (-1 : Int32)], σ2)) rfl).trans ?_
  exact e_r rfl
set_option maxRecDepth 20000 in
theorem g154_0_2 (C : pmC) {σ : pmS} {x1 : Int32} {x2 : Int32} {x3 : Int32} {σ1 : pmS} {r1 : Int32} {σ2 : pmS} {r2 : Int32} {σ3 : pmS} {r3 : Int32} (h1 : C 134 [vR 10 0 0, vI x1] σ = some (some (vI r1), σ1)) (h2 : ¬ r1 = 0) (h3 : C 134 [vR 10 0 0, vI x2] σ1 = some (some (vI r2), σ2)) (h4 : ¬ r2 = 0) (h5 : C 138 [vI x3] σ2 = some (some (vI r3), σ3)) (h6 : r3 = 0) : pq_Rn C (154, 0, [some (vR 10 0 0), some (vI x1), some (vI x2), some (vI x3)], [], σ) = some (some (vI (-2 : Int32)), σ3) := by
  refine (e_n 2 (fr' := (154, 2, [some (vR 10 0 0), some (vI x1), some (vI x2), some (vI x3)], [vI x1, vR 10 0 0], σ)) rfl).trans ?_
  refine (e_ci (m := 154) (pc := 5) (ls := [some (vR 10 0 0), some (vI x1), some (vI x2), some (vI x3)]) (rest := []) rfl h1).trans ?_
  refine (e_f (B := (154, 8, [some (vR 10 0 0), some (vI x1), some (vI x2), some (vI x3)], [], σ1)) rfl h2).trans ?_
  refine (e_n 2 (fr' := (154, 10, [some (vR 10 0 0), some (vI x1), some (vI x2), some (vI x3)], [vI x2, vR 10 0 0], σ1)) rfl).trans ?_
  refine (e_ci (m := 154) (pc := 13) (ls := [some (vR 10 0 0), some (vI x1), some (vI x2), some (vI x3)]) (rest := []) rfl h3).trans ?_
  refine (e_f (B := (154, 18, [some (vR 10 0 0), some (vI x1), some (vI x2), some (vI x3)], [], σ2)) rfl h4).trans ?_
  refine (e_n 1 (fr' := (154, 19, [some (vR 10 0 0), some (vI x1), some (vI x2), some (vI x3)], [vI x3], σ2)) rfl).trans ?_
  refine (e_ci (m := 154) (pc := 22) (ls := [some (vR 10 0 0), some (vI x1), some (vI x2), some (vI x3)]) (rest := []) rfl h5).trans ?_
  refine (e_t (A := (154, 44, [some (vR 10 0 0), some (vI x1), some (vI x2), some (vI x3)], [], σ3)) rfl h6).trans ?_
  refine (e_n 1 (fr' := (154, 46, [some (vR 10 0 0), some (vI x1), some (vI x2), some (vI x3)], [vI (-2 : Int32)], σ3)) rfl).trans ?_
  exact e_r rfl
set_option maxRecDepth 20000 in
theorem g154_0_3 (C : pmC) {σ : pmS} {x1 : Int32} {x2 : Int32} {x3 : Int32} {σ1 : pmS} {r1 : Int32} {σ2 : pmS} {r2 : Int32} {σ3 : pmS} {r3 : Int32} {σ4 : pmS} {σ5 : pmS} {r5 : Int32} (h1 : C 134 [vR 10 0 0, vI x1] σ = some (some (vI r1), σ1)) (h2 : ¬ r1 = 0) (h3 : C 134 [vR 10 0 0, vI x2] σ1 = some (some (vI r2), σ2)) (h4 : ¬ r2 = 0) (h5 : C 138 [vI x3] σ2 = some (some (vI r3), σ3)) (h6 : ¬ r3 = 0) (h7 : vp_in x1 48) (h8 : (σ3.1 10 0 19 (x1).toNatClampNeg) = 0) (h9 : vp_in x2 48) (h10 : (σ3.1 10 0 19 (x2).toNatClampNeg) = (1 : Int32)) (h11 : C 146 [vR 10 0 0] σ3 = some (none, σ4)) (h12 : C 152 [vR 10 0 0, vI x1, vI x2, vI x3] σ4 = some (some (vI r5), σ5)) : pq_Rn C (154, 0, [some (vR 10 0 0), some (vI x1), some (vI x2), some (vI x3)], [], σ) = some (some (vI r5), σ5) := by
  refine (e_n 2 (fr' := (154, 2, [some (vR 10 0 0), some (vI x1), some (vI x2), some (vI x3)], [vI x1, vR 10 0 0], σ)) rfl).trans ?_
  refine (e_ci (m := 154) (pc := 5) (ls := [some (vR 10 0 0), some (vI x1), some (vI x2), some (vI x3)]) (rest := []) rfl h1).trans ?_
  refine (e_f (B := (154, 8, [some (vR 10 0 0), some (vI x1), some (vI x2), some (vI x3)], [], σ1)) rfl h2).trans ?_
  refine (e_n 2 (fr' := (154, 10, [some (vR 10 0 0), some (vI x1), some (vI x2), some (vI x3)], [vI x2, vR 10 0 0], σ1)) rfl).trans ?_
  refine (e_ci (m := 154) (pc := 13) (ls := [some (vR 10 0 0), some (vI x1), some (vI x2), some (vI x3)]) (rest := []) rfl h3).trans ?_
  refine (e_f (B := (154, 18, [some (vR 10 0 0), some (vI x1), some (vI x2), some (vI x3)], [], σ2)) rfl h4).trans ?_
  refine (e_n 1 (fr' := (154, 19, [some (vR 10 0 0), some (vI x1), some (vI x2), some (vI x3)], [vI x3], σ2)) rfl).trans ?_
  refine (e_ci (m := 154) (pc := 22) (ls := [some (vR 10 0 0), some (vI x1), some (vI x2), some (vI x3)]) (rest := []) rfl h5).trans ?_
  refine (e_f (B := (154, 25, [some (vR 10 0 0), some (vI x1), some (vI x2), some (vI x3)], [], σ3)) rfl h6).trans ?_
  refine (e_n 3 (fr' := (154, 30, [some (vR 10 0 0), some (vI x1), some (vI x2), some (vI x3)], [vI x1, vR 10 0 20], σ3)) rfl).trans ?_
  refine (e_a (A := (154, 31, [some (vR 10 0 0), some (vI x1), some (vI x2), some (vI x3)], [vI (σ3.1 10 0 19 (x1).toNatClampNeg)], σ3)) rfl h7).trans ?_
  refine (e_t (A := (154, 34, [some (vR 10 0 0), some (vI x1), some (vI x2), some (vI x3)], [], σ3)) rfl h8).trans ?_
  refine (e_n 3 (fr' := (154, 39, [some (vR 10 0 0), some (vI x1), some (vI x2), some (vI x3)], [vI x2, vR 10 0 20], σ3)) rfl).trans ?_
  refine (e_a (A := (154, 40, [some (vR 10 0 0), some (vI x1), some (vI x2), some (vI x3)], [vI (σ3.1 10 0 19 (x2).toNatClampNeg)], σ3)) rfl h9).trans ?_
  refine (e_n 1 (fr' := (154, 41, [some (vR 10 0 0), some (vI x1), some (vI x2), some (vI x3)], [vI (1 : Int32), vI (σ3.1 10 0 19 (x2).toNatClampNeg)], σ3)) rfl).trans ?_
  refine (e_t (A := (154, 47, [some (vR 10 0 0), some (vI x1), some (vI x2), some (vI x3)], [], σ3)) rfl h10).trans ?_
  refine (e_n 1 (fr' := (154, 48, [some (vR 10 0 0), some (vI x1), some (vI x2), some (vI x3)], [vR 10 0 0], σ3)) rfl).trans ?_
  refine (e_cv (m := 154) (pc := 51) (ls := [some (vR 10 0 0), some (vI x1), some (vI x2), some (vI x3)]) (rest := []) rfl h11).trans ?_
  refine (e_n 4 (fr' := (154, 55, [some (vR 10 0 0), some (vI x1), some (vI x2), some (vI x3)], [vI x3, vI x2, vI x1, vR 10 0 0], σ4)) rfl).trans ?_
  refine (e_ci (m := 154) (pc := 58) (ls := [some (vR 10 0 0), some (vI x1), some (vI x2), some (vI x3)]) (rest := []) rfl h12).trans ?_
  exact e_r rfl
set_option maxRecDepth 20000 in
theorem g154_0_4 (C : pmC) {σ : pmS} {x1 : Int32} {x2 : Int32} {x3 : Int32} {σ1 : pmS} {r1 : Int32} {σ2 : pmS} {r2 : Int32} {σ3 : pmS} {r3 : Int32} (h1 : C 134 [vR 10 0 0, vI x1] σ = some (some (vI r1), σ1)) (h2 : ¬ r1 = 0) (h3 : C 134 [vR 10 0 0, vI x2] σ1 = some (some (vI r2), σ2)) (h4 : ¬ r2 = 0) (h5 : C 138 [vI x3] σ2 = some (some (vI r3), σ3)) (h6 : ¬ r3 = 0) (h7 : vp_in x1 48) (h8 : (σ3.1 10 0 19 (x1).toNatClampNeg) = 0) (h9 : vp_in x2 48) (h10 : ¬ (σ3.1 10 0 19 (x2).toNatClampNeg) = (1 : Int32)) : pq_Rn C (154, 0, [some (vR 10 0 0), some (vI x1), some (vI x2), some (vI x3)], [], σ) = some (some (vI (-2 : Int32)), σ3) := by
  refine (e_n 2 (fr' := (154, 2, [some (vR 10 0 0), some (vI x1), some (vI x2), some (vI x3)], [vI x1, vR 10 0 0], σ)) rfl).trans ?_
  refine (e_ci (m := 154) (pc := 5) (ls := [some (vR 10 0 0), some (vI x1), some (vI x2), some (vI x3)]) (rest := []) rfl h1).trans ?_
  refine (e_f (B := (154, 8, [some (vR 10 0 0), some (vI x1), some (vI x2), some (vI x3)], [], σ1)) rfl h2).trans ?_
  refine (e_n 2 (fr' := (154, 10, [some (vR 10 0 0), some (vI x1), some (vI x2), some (vI x3)], [vI x2, vR 10 0 0], σ1)) rfl).trans ?_
  refine (e_ci (m := 154) (pc := 13) (ls := [some (vR 10 0 0), some (vI x1), some (vI x2), some (vI x3)]) (rest := []) rfl h3).trans ?_
  refine (e_f (B := (154, 18, [some (vR 10 0 0), some (vI x1), some (vI x2), some (vI x3)], [], σ2)) rfl h4).trans ?_
  refine (e_n 1 (fr' := (154, 19, [some (vR 10 0 0), some (vI x1), some (vI x2), some (vI x3)], [vI x3], σ2)) rfl).trans ?_
  refine (e_ci (m := 154) (pc := 22) (ls := [some (vR 10 0 0), some (vI x1), some (vI x2), some (vI x3)]) (rest := []) rfl h5).trans ?_
  refine (e_f (B := (154, 25, [some (vR 10 0 0), some (vI x1), some (vI x2), some (vI x3)], [], σ3)) rfl h6).trans ?_
  refine (e_n 3 (fr' := (154, 30, [some (vR 10 0 0), some (vI x1), some (vI x2), some (vI x3)], [vI x1, vR 10 0 20], σ3)) rfl).trans ?_
  refine (e_a (A := (154, 31, [some (vR 10 0 0), some (vI x1), some (vI x2), some (vI x3)], [vI (σ3.1 10 0 19 (x1).toNatClampNeg)], σ3)) rfl h7).trans ?_
  refine (e_t (A := (154, 34, [some (vR 10 0 0), some (vI x1), some (vI x2), some (vI x3)], [], σ3)) rfl h8).trans ?_
  refine (e_n 3 (fr' := (154, 39, [some (vR 10 0 0), some (vI x1), some (vI x2), some (vI x3)], [vI x2, vR 10 0 20], σ3)) rfl).trans ?_
  refine (e_a (A := (154, 40, [some (vR 10 0 0), some (vI x1), some (vI x2), some (vI x3)], [vI (σ3.1 10 0 19 (x2).toNatClampNeg)], σ3)) rfl h9).trans ?_
  refine (e_n 1 (fr' := (154, 41, [some (vR 10 0 0), some (vI x1), some (vI x2), some (vI x3)], [vI (1 : Int32), vI (σ3.1 10 0 19 (x2).toNatClampNeg)], σ3)) rfl).trans ?_
  refine (e_f (B := (154, 44, [some (vR 10 0 0), some (vI x1), some (vI x2), some (vI x3)], [], σ3)) rfl h10).trans ?_
  refine (e_n 1 (fr' := (154, 46, [some (vR 10 0 0), some (vI x1), some (vI x2), some (vI x3)], [vI (-2 : Int32)], σ3)) rfl).trans ?_
  exact e_r rfl
set_option maxRecDepth 20000 in
theorem g154_0_5 (C : pmC) {σ : pmS} {x1 : Int32} {x2 : Int32} {x3 : Int32} {σ1 : pmS} {r1 : Int32} {σ2 : pmS} {r2 : Int32} {σ3 : pmS} {r3 : Int32} (h1 : C 134 [vR 10 0 0, vI x1] σ = some (some (vI r1), σ1)) (h2 : ¬ r1 = 0) (h3 : C 134 [vR 10 0 0, vI x2] σ1 = some (some (vI r2), σ2)) (h4 : ¬ r2 = 0) (h5 : C 138 [vI x3] σ2 = some (some (vI r3), σ3)) (h6 : ¬ r3 = 0) (h7 : vp_in x1 48) (h8 : ¬ (σ3.1 10 0 19 (x1).toNatClampNeg) = 0) : pq_Rn C (154, 0, [some (vR 10 0 0), some (vI x1), some (vI x2), some (vI x3)], [], σ) = some (some (vI (-2 : Int32)), σ3) := by
  refine (e_n 2 (fr' := (154, 2, [some (vR 10 0 0), some (vI x1), some (vI x2), some (vI x3)], [vI x1, vR 10 0 0], σ)) rfl).trans ?_
  refine (e_ci (m := 154) (pc := 5) (ls := [some (vR 10 0 0), some (vI x1), some (vI x2), some (vI x3)]) (rest := []) rfl h1).trans ?_
  refine (e_f (B := (154, 8, [some (vR 10 0 0), some (vI x1), some (vI x2), some (vI x3)], [], σ1)) rfl h2).trans ?_
  refine (e_n 2 (fr' := (154, 10, [some (vR 10 0 0), some (vI x1), some (vI x2), some (vI x3)], [vI x2, vR 10 0 0], σ1)) rfl).trans ?_
  refine (e_ci (m := 154) (pc := 13) (ls := [some (vR 10 0 0), some (vI x1), some (vI x2), some (vI x3)]) (rest := []) rfl h3).trans ?_
  refine (e_f (B := (154, 18, [some (vR 10 0 0), some (vI x1), some (vI x2), some (vI x3)], [], σ2)) rfl h4).trans ?_
  refine (e_n 1 (fr' := (154, 19, [some (vR 10 0 0), some (vI x1), some (vI x2), some (vI x3)], [vI x3], σ2)) rfl).trans ?_
  refine (e_ci (m := 154) (pc := 22) (ls := [some (vR 10 0 0), some (vI x1), some (vI x2), some (vI x3)]) (rest := []) rfl h5).trans ?_
  refine (e_f (B := (154, 25, [some (vR 10 0 0), some (vI x1), some (vI x2), some (vI x3)], [], σ3)) rfl h6).trans ?_
  refine (e_n 3 (fr' := (154, 30, [some (vR 10 0 0), some (vI x1), some (vI x2), some (vI x3)], [vI x1, vR 10 0 20], σ3)) rfl).trans ?_
  refine (e_a (A := (154, 31, [some (vR 10 0 0), some (vI x1), some (vI x2), some (vI x3)], [vI (σ3.1 10 0 19 (x1).toNatClampNeg)], σ3)) rfl h7).trans ?_
  refine (e_f (B := (154, 44, [some (vR 10 0 0), some (vI x1), some (vI x2), some (vI x3)], [], σ3)) rfl h8).trans ?_
  refine (e_n 1 (fr' := (154, 46, [some (vR 10 0 0), some (vI x1), some (vI x2), some (vI x3)], [vI (-2 : Int32)], σ3)) rfl).trans ?_
  exact e_r rfl
set_option maxRecDepth 20000 in
theorem g155_0_0 (C : pmC) {σ : pmS} {x1 : Int32} {x2 : Int32} {σ1 : pmS} {r1 : Int32} (h1 : C 134 [vR 10 0 0, vI x1] σ = some (some (vI r1), σ1)) (h2 : r1 = 0) : pq_Rn C (155, 0, [some (vR 10 0 0), some (vI x1), some (vI x2)], [], σ) = some (some (vI (-5 : Int32)), σ1) := by
  refine (e_n 2 (fr' := (155, 2, [some (vR 10 0 0), some (vI x1), some (vI x2)], [vI x1, vR 10 0 0], σ)) rfl).trans ?_
  refine (e_ci (m := 155) (pc := 5) (ls := [some (vR 10 0 0), some (vI x1), some (vI x2)]) (rest := []) rfl h1).trans ?_
  refine (e_t (A := (155, 8, [some (vR 10 0 0), some (vI x1), some (vI x2)], [], σ1)) rfl h2).trans ?_
  refine (e_n 1 (fr' := (155, 10, [some (vR 10 0 0), some (vI x1), some (vI x2)], [vI (-5 : Int32)], σ1)) rfl).trans ?_
  exact e_r rfl
set_option maxRecDepth 20000 in
theorem g155_0_1 (C : pmC) {σ : pmS} {x1 : Int32} {x2 : Int32} {σ1 : pmS} {r1 : Int32} {σ2 : pmS} (h1 : C 134 [vR 10 0 0, vI x1] σ = some (some (vI r1), σ1)) (h2 : ¬ r1 = 0) (h3 : C 146 [vR 10 0 0] σ1 = some (none, σ2)) (h4 : x2 = (0 : Int32)) (h5 : vp_in x1 48) : pq_Rn C (155, 0, [some (vR 10 0 0), some (vI x1), some (vI x2)], [], σ) = some (some (vI (σ2.1 10 0 19 (x1).toNatClampNeg)), σ2) := by
  refine (e_n 2 (fr' := (155, 2, [some (vR 10 0 0), some (vI x1), some (vI x2)], [vI x1, vR 10 0 0], σ)) rfl).trans ?_
  refine (e_ci (m := 155) (pc := 5) (ls := [some (vR 10 0 0), some (vI x1), some (vI x2)]) (rest := []) rfl h1).trans ?_
  refine (e_f (B := (155, 11, [some (vR 10 0 0), some (vI x1), some (vI x2)], [], σ1)) rfl h2).trans ?_
  refine (e_n 1 (fr' := (155, 12, [some (vR 10 0 0), some (vI x1), some (vI x2)], [vR 10 0 0], σ1)) rfl).trans ?_
  refine (e_cv (m := 155) (pc := 15) (ls := [some (vR 10 0 0), some (vI x1), some (vI x2)]) (rest := []) rfl h3).trans ?_
  refine (e_n 1 (fr' := (155, 16, [some (vR 10 0 0), some (vI x1), some (vI x2)], [vI x2], σ2)) rfl).trans ?_
  refine (e_g (A := (155, 68, [some (vR 10 0 0), some (vI x1), some (vI x2)], [], σ2)) (off' := 52) rfl (by rw [h4]; decide) rfl).trans ?_
  refine (e_n 3 (fr' := (155, 73, [some (vR 10 0 0), some (vI x1), some (vI x2)], [vI x1, vR 10 0 20], σ2)) rfl).trans ?_
  refine (e_a (A := (155, 74, [some (vR 10 0 0), some (vI x1), some (vI x2)], [vI (σ2.1 10 0 19 (x1).toNatClampNeg)], σ2)) rfl h5).trans ?_
  exact e_r rfl
set_option maxRecDepth 20000 in
theorem g155_0_2 (C : pmC) {σ : pmS} {x1 : Int32} {x2 : Int32} {σ1 : pmS} {r1 : Int32} {σ2 : pmS} (h1 : C 134 [vR 10 0 0, vI x1] σ = some (some (vI r1), σ1)) (h2 : ¬ r1 = 0) (h3 : C 146 [vR 10 0 0] σ1 = some (none, σ2)) (h4 : x2 = (1 : Int32)) (h5 : vp_in x1 48) : pq_Rn C (155, 0, [some (vR 10 0 0), some (vI x1), some (vI x2)], [], σ) = some (some (vI (σ2.1 10 0 20 (x1).toNatClampNeg)), σ2) := by
  refine (e_n 2 (fr' := (155, 2, [some (vR 10 0 0), some (vI x1), some (vI x2)], [vI x1, vR 10 0 0], σ)) rfl).trans ?_
  refine (e_ci (m := 155) (pc := 5) (ls := [some (vR 10 0 0), some (vI x1), some (vI x2)]) (rest := []) rfl h1).trans ?_
  refine (e_f (B := (155, 11, [some (vR 10 0 0), some (vI x1), some (vI x2)], [], σ1)) rfl h2).trans ?_
  refine (e_n 1 (fr' := (155, 12, [some (vR 10 0 0), some (vI x1), some (vI x2)], [vR 10 0 0], σ1)) rfl).trans ?_
  refine (e_cv (m := 155) (pc := 15) (ls := [some (vR 10 0 0), some (vI x1), some (vI x2)]) (rest := []) rfl h3).trans ?_
  refine (e_n 1 (fr' := (155, 16, [some (vR 10 0 0), some (vI x1), some (vI x2)], [vI x2], σ2)) rfl).trans ?_
  refine (e_g (A := (155, 75, [some (vR 10 0 0), some (vI x1), some (vI x2)], [], σ2)) (off' := 59) rfl (by rw [h4]; decide) rfl).trans ?_
  refine (e_n 3 (fr' := (155, 80, [some (vR 10 0 0), some (vI x1), some (vI x2)], [vI x1, vR 10 0 21], σ2)) rfl).trans ?_
  refine (e_a (A := (155, 81, [some (vR 10 0 0), some (vI x1), some (vI x2)], [vI (σ2.1 10 0 20 (x1).toNatClampNeg)], σ2)) rfl h5).trans ?_
  exact e_r rfl
set_option maxRecDepth 20000 in
theorem g155_0_3 (C : pmC) {σ : pmS} {x1 : Int32} {x2 : Int32} {σ1 : pmS} {r1 : Int32} {σ2 : pmS} (h1 : C 134 [vR 10 0 0, vI x1] σ = some (some (vI r1), σ1)) (h2 : ¬ r1 = 0) (h3 : C 146 [vR 10 0 0] σ1 = some (none, σ2)) (h4 : x2 = (2 : Int32)) (h5 : vp_in x1 48) : pq_Rn C (155, 0, [some (vR 10 0 0), some (vI x1), some (vI x2)], [], σ) = some (some (vI (σ2.1 10 0 21 (x1).toNatClampNeg)), σ2) := by
  refine (e_n 2 (fr' := (155, 2, [some (vR 10 0 0), some (vI x1), some (vI x2)], [vI x1, vR 10 0 0], σ)) rfl).trans ?_
  refine (e_ci (m := 155) (pc := 5) (ls := [some (vR 10 0 0), some (vI x1), some (vI x2)]) (rest := []) rfl h1).trans ?_
  refine (e_f (B := (155, 11, [some (vR 10 0 0), some (vI x1), some (vI x2)], [], σ1)) rfl h2).trans ?_
  refine (e_n 1 (fr' := (155, 12, [some (vR 10 0 0), some (vI x1), some (vI x2)], [vR 10 0 0], σ1)) rfl).trans ?_
  refine (e_cv (m := 155) (pc := 15) (ls := [some (vR 10 0 0), some (vI x1), some (vI x2)]) (rest := []) rfl h3).trans ?_
  refine (e_n 1 (fr' := (155, 16, [some (vR 10 0 0), some (vI x1), some (vI x2)], [vI x2], σ2)) rfl).trans ?_
  refine (e_g (A := (155, 82, [some (vR 10 0 0), some (vI x1), some (vI x2)], [], σ2)) (off' := 66) rfl (by rw [h4]; decide) rfl).trans ?_
  refine (e_n 3 (fr' := (155, 87, [some (vR 10 0 0), some (vI x1), some (vI x2)], [vI x1, vR 10 0 22], σ2)) rfl).trans ?_
  refine (e_a (A := (155, 88, [some (vR 10 0 0), some (vI x1), some (vI x2)], [vI (σ2.1 10 0 21 (x1).toNatClampNeg)], σ2)) rfl h5).trans ?_
  exact e_r rfl
set_option maxRecDepth 20000 in
theorem g155_0_4 (C : pmC) {σ : pmS} {x1 : Int32} {x2 : Int32} {σ1 : pmS} {r1 : Int32} {σ2 : pmS} (h1 : C 134 [vR 10 0 0, vI x1] σ = some (some (vI r1), σ1)) (h2 : ¬ r1 = 0) (h3 : C 146 [vR 10 0 0] σ1 = some (none, σ2)) (h4 : x2 = (3 : Int32)) (h5 : vp_in x1 48) : pq_Rn C (155, 0, [some (vR 10 0 0), some (vI x1), some (vI x2)], [], σ) = some (some (vI (σ2.1 10 0 22 (x1).toNatClampNeg)), σ2) := by
  refine (e_n 2 (fr' := (155, 2, [some (vR 10 0 0), some (vI x1), some (vI x2)], [vI x1, vR 10 0 0], σ)) rfl).trans ?_
  refine (e_ci (m := 155) (pc := 5) (ls := [some (vR 10 0 0), some (vI x1), some (vI x2)]) (rest := []) rfl h1).trans ?_
  refine (e_f (B := (155, 11, [some (vR 10 0 0), some (vI x1), some (vI x2)], [], σ1)) rfl h2).trans ?_
  refine (e_n 1 (fr' := (155, 12, [some (vR 10 0 0), some (vI x1), some (vI x2)], [vR 10 0 0], σ1)) rfl).trans ?_
  refine (e_cv (m := 155) (pc := 15) (ls := [some (vR 10 0 0), some (vI x1), some (vI x2)]) (rest := []) rfl h3).trans ?_
  refine (e_n 1 (fr' := (155, 16, [some (vR 10 0 0), some (vI x1), some (vI x2)], [vI x2], σ2)) rfl).trans ?_
  refine (e_g (A := (155, 89, [some (vR 10 0 0), some (vI x1), some (vI x2)], [], σ2)) (off' := 73) rfl (by rw [h4]; decide) rfl).trans ?_
  refine (e_n 3 (fr' := (155, 94, [some (vR 10 0 0), some (vI x1), some (vI x2)], [vI x1, vR 10 0 23], σ2)) rfl).trans ?_
  refine (e_a (A := (155, 95, [some (vR 10 0 0), some (vI x1), some (vI x2)], [vI (σ2.1 10 0 22 (x1).toNatClampNeg)], σ2)) rfl h5).trans ?_
  exact e_r rfl
set_option maxRecDepth 20000 in
theorem g155_0_5 (C : pmC) {σ : pmS} {x1 : Int32} {x2 : Int32} {σ1 : pmS} {r1 : Int32} {σ2 : pmS} (h1 : C 134 [vR 10 0 0, vI x1] σ = some (some (vI r1), σ1)) (h2 : ¬ r1 = 0) (h3 : C 146 [vR 10 0 0] σ1 = some (none, σ2)) (h4 : x2 = (4 : Int32)) (h5 : vp_in x1 48) : pq_Rn C (155, 0, [some (vR 10 0 0), some (vI x1), some (vI x2)], [], σ) = some (some (vI (σ2.1 10 0 23 (x1).toNatClampNeg)), σ2) := by
  refine (e_n 2 (fr' := (155, 2, [some (vR 10 0 0), some (vI x1), some (vI x2)], [vI x1, vR 10 0 0], σ)) rfl).trans ?_
  refine (e_ci (m := 155) (pc := 5) (ls := [some (vR 10 0 0), some (vI x1), some (vI x2)]) (rest := []) rfl h1).trans ?_
  refine (e_f (B := (155, 11, [some (vR 10 0 0), some (vI x1), some (vI x2)], [], σ1)) rfl h2).trans ?_
  refine (e_n 1 (fr' := (155, 12, [some (vR 10 0 0), some (vI x1), some (vI x2)], [vR 10 0 0], σ1)) rfl).trans ?_
  refine (e_cv (m := 155) (pc := 15) (ls := [some (vR 10 0 0), some (vI x1), some (vI x2)]) (rest := []) rfl h3).trans ?_
  refine (e_n 1 (fr' := (155, 16, [some (vR 10 0 0), some (vI x1), some (vI x2)], [vI x2], σ2)) rfl).trans ?_
  refine (e_g (A := (155, 96, [some (vR 10 0 0), some (vI x1), some (vI x2)], [], σ2)) (off' := 80) rfl (by rw [h4]; decide) rfl).trans ?_
  refine (e_n 3 (fr' := (155, 101, [some (vR 10 0 0), some (vI x1), some (vI x2)], [vI x1, vR 10 0 24], σ2)) rfl).trans ?_
  refine (e_a (A := (155, 102, [some (vR 10 0 0), some (vI x1), some (vI x2)], [vI (σ2.1 10 0 23 (x1).toNatClampNeg)], σ2)) rfl h5).trans ?_
  exact e_r rfl
set_option maxRecDepth 20000 in
theorem g155_0_6 (C : pmC) {σ : pmS} {x1 : Int32} {x2 : Int32} {σ1 : pmS} {r1 : Int32} {σ2 : pmS} (h1 : C 134 [vR 10 0 0, vI x1] σ = some (some (vI r1), σ1)) (h2 : ¬ r1 = 0) (h3 : C 146 [vR 10 0 0] σ1 = some (none, σ2)) (h4 : x2 = (5 : Int32)) (h5 : vp_in x1 48) : pq_Rn C (155, 0, [some (vR 10 0 0), some (vI x1), some (vI x2)], [], σ) = some (some (vI (σ2.1 10 0 24 (x1).toNatClampNeg)), σ2) := by
  refine (e_n 2 (fr' := (155, 2, [some (vR 10 0 0), some (vI x1), some (vI x2)], [vI x1, vR 10 0 0], σ)) rfl).trans ?_
  refine (e_ci (m := 155) (pc := 5) (ls := [some (vR 10 0 0), some (vI x1), some (vI x2)]) (rest := []) rfl h1).trans ?_
  refine (e_f (B := (155, 11, [some (vR 10 0 0), some (vI x1), some (vI x2)], [], σ1)) rfl h2).trans ?_
  refine (e_n 1 (fr' := (155, 12, [some (vR 10 0 0), some (vI x1), some (vI x2)], [vR 10 0 0], σ1)) rfl).trans ?_
  refine (e_cv (m := 155) (pc := 15) (ls := [some (vR 10 0 0), some (vI x1), some (vI x2)]) (rest := []) rfl h3).trans ?_
  refine (e_n 1 (fr' := (155, 16, [some (vR 10 0 0), some (vI x1), some (vI x2)], [vI x2], σ2)) rfl).trans ?_
  refine (e_g (A := (155, 103, [some (vR 10 0 0), some (vI x1), some (vI x2)], [], σ2)) (off' := 87) rfl (by rw [h4]; decide) rfl).trans ?_
  refine (e_n 3 (fr' := (155, 108, [some (vR 10 0 0), some (vI x1), some (vI x2)], [vI x1, vR 10 0 25], σ2)) rfl).trans ?_
  refine (e_a (A := (155, 109, [some (vR 10 0 0), some (vI x1), some (vI x2)], [vI (σ2.1 10 0 24 (x1).toNatClampNeg)], σ2)) rfl h5).trans ?_
  exact e_r rfl
set_option maxRecDepth 20000 in
theorem g155_0_7 (C : pmC) {σ : pmS} {x1 : Int32} {x2 : Int32} {σ1 : pmS} {r1 : Int32} {σ2 : pmS} (h1 : C 134 [vR 10 0 0, vI x1] σ = some (some (vI r1), σ1)) (h2 : ¬ r1 = 0) (h3 : C 146 [vR 10 0 0] σ1 = some (none, σ2)) (h4 : x2 = (6 : Int32)) (h5 : vp_in x1 48) : pq_Rn C (155, 0, [some (vR 10 0 0), some (vI x1), some (vI x2)], [], σ) = some (some (vI (σ2.1 10 0 29 (x1).toNatClampNeg)), σ2) := by
  refine (e_n 2 (fr' := (155, 2, [some (vR 10 0 0), some (vI x1), some (vI x2)], [vI x1, vR 10 0 0], σ)) rfl).trans ?_
  refine (e_ci (m := 155) (pc := 5) (ls := [some (vR 10 0 0), some (vI x1), some (vI x2)]) (rest := []) rfl h1).trans ?_
  refine (e_f (B := (155, 11, [some (vR 10 0 0), some (vI x1), some (vI x2)], [], σ1)) rfl h2).trans ?_
  refine (e_n 1 (fr' := (155, 12, [some (vR 10 0 0), some (vI x1), some (vI x2)], [vR 10 0 0], σ1)) rfl).trans ?_
  refine (e_cv (m := 155) (pc := 15) (ls := [some (vR 10 0 0), some (vI x1), some (vI x2)]) (rest := []) rfl h3).trans ?_
  refine (e_n 1 (fr' := (155, 16, [some (vR 10 0 0), some (vI x1), some (vI x2)], [vI x2], σ2)) rfl).trans ?_
  refine (e_g (A := (155, 110, [some (vR 10 0 0), some (vI x1), some (vI x2)], [], σ2)) (off' := 94) rfl (by rw [h4]; decide) rfl).trans ?_
  refine (e_n 3 (fr' := (155, 115, [some (vR 10 0 0), some (vI x1), some (vI x2)], [vI x1, vR 10 0 30], σ2)) rfl).trans ?_
  refine (e_a (A := (155, 116, [some (vR 10 0 0), some (vI x1), some (vI x2)], [vI (σ2.1 10 0 29 (x1).toNatClampNeg)], σ2)) rfl h5).trans ?_
  exact e_r rfl
set_option maxRecDepth 20000 in
theorem g155_0_8 (C : pmC) {σ : pmS} {x1 : Int32} {x2 : Int32} {σ1 : pmS} {r1 : Int32} {σ2 : pmS} (h1 : C 134 [vR 10 0 0, vI x1] σ = some (some (vI r1), σ1)) (h2 : ¬ r1 = 0) (h3 : C 146 [vR 10 0 0] σ1 = some (none, σ2)) (h4 : x2 = (7 : Int32)) (h5 : vp_in x1 48) : pq_Rn C (155, 0, [some (vR 10 0 0), some (vI x1), some (vI x2)], [], σ) = some (some (vI (σ2.1 10 0 30 (x1).toNatClampNeg)), σ2) := by
  refine (e_n 2 (fr' := (155, 2, [some (vR 10 0 0), some (vI x1), some (vI x2)], [vI x1, vR 10 0 0], σ)) rfl).trans ?_
  refine (e_ci (m := 155) (pc := 5) (ls := [some (vR 10 0 0), some (vI x1), some (vI x2)]) (rest := []) rfl h1).trans ?_
  refine (e_f (B := (155, 11, [some (vR 10 0 0), some (vI x1), some (vI x2)], [], σ1)) rfl h2).trans ?_
  refine (e_n 1 (fr' := (155, 12, [some (vR 10 0 0), some (vI x1), some (vI x2)], [vR 10 0 0], σ1)) rfl).trans ?_
  refine (e_cv (m := 155) (pc := 15) (ls := [some (vR 10 0 0), some (vI x1), some (vI x2)]) (rest := []) rfl h3).trans ?_
  refine (e_n 1 (fr' := (155, 16, [some (vR 10 0 0), some (vI x1), some (vI x2)], [vI x2], σ2)) rfl).trans ?_
  refine (e_g (A := (155, 117, [some (vR 10 0 0), some (vI x1), some (vI x2)], [], σ2)) (off' := 101) rfl (by rw [h4]; decide) rfl).trans ?_
  refine (e_n 3 (fr' := (155, 122, [some (vR 10 0 0), some (vI x1), some (vI x2)], [vI x1, vR 10 0 31], σ2)) rfl).trans ?_
  refine (e_a (A := (155, 123, [some (vR 10 0 0), some (vI x1), some (vI x2)], [vI (σ2.1 10 0 30 (x1).toNatClampNeg)], σ2)) rfl h5).trans ?_
  exact e_r rfl
set_option maxRecDepth 20000 in
theorem g155_0_9 (C : pmC) {σ : pmS} {x1 : Int32} {x2 : Int32} {σ1 : pmS} {r1 : Int32} {σ2 : pmS} {σ3 : pmS} {r3 : Int32} (h1 : C 134 [vR 10 0 0, vI x1] σ = some (some (vI r1), σ1)) (h2 : ¬ r1 = 0) (h3 : C 146 [vR 10 0 0] σ1 = some (none, σ2)) (h4 : x2 = (8 : Int32)) (h5 : C 147 [vR 10 0 0, vI x1] σ2 = some (some (vI r3), σ3)) (h6 : r3 = 0) : pq_Rn C (155, 0, [some (vR 10 0 0), some (vI x1), some (vI x2)], [], σ) = some (some (vI (0 : Int32)), σ3) := by
  refine (e_n 2 (fr' := (155, 2, [some (vR 10 0 0), some (vI x1), some (vI x2)], [vI x1, vR 10 0 0], σ)) rfl).trans ?_
  refine (e_ci (m := 155) (pc := 5) (ls := [some (vR 10 0 0), some (vI x1), some (vI x2)]) (rest := []) rfl h1).trans ?_
  refine (e_f (B := (155, 11, [some (vR 10 0 0), some (vI x1), some (vI x2)], [], σ1)) rfl h2).trans ?_
  refine (e_n 1 (fr' := (155, 12, [some (vR 10 0 0), some (vI x1), some (vI x2)], [vR 10 0 0], σ1)) rfl).trans ?_
  refine (e_cv (m := 155) (pc := 15) (ls := [some (vR 10 0 0), some (vI x1), some (vI x2)]) (rest := []) rfl h3).trans ?_
  refine (e_n 1 (fr' := (155, 16, [some (vR 10 0 0), some (vI x1), some (vI x2)], [vI x2], σ2)) rfl).trans ?_
  refine (e_g (A := (155, 124, [some (vR 10 0 0), some (vI x1), some (vI x2)], [], σ2)) (off' := 108) rfl (by rw [h4]; decide) rfl).trans ?_
  refine (e_n 2 (fr' := (155, 126, [some (vR 10 0 0), some (vI x1), some (vI x2)], [vI x1, vR 10 0 0], σ2)) rfl).trans ?_
  refine (e_ci (m := 155) (pc := 129) (ls := [some (vR 10 0 0), some (vI x1), some (vI x2)]) (rest := []) rfl h5).trans ?_
  refine (e_t (A := (155, 136, [some (vR 10 0 0), some (vI x1), some (vI x2)], [], σ3)) rfl h6).trans ?_
  refine (e_n 1 (fr' := (155, 137, [some (vR 10 0 0), some (vI x1), some (vI x2)], [vI (0 : Int32)], σ3)) rfl).trans ?_
  exact e_r rfl
set_option maxRecDepth 20000 in
theorem g155_0_10 (C : pmC) {σ : pmS} {x1 : Int32} {x2 : Int32} {σ1 : pmS} {r1 : Int32} {σ2 : pmS} {σ3 : pmS} {r3 : Int32} (h1 : C 134 [vR 10 0 0, vI x1] σ = some (some (vI r1), σ1)) (h2 : ¬ r1 = 0) (h3 : C 146 [vR 10 0 0] σ1 = some (none, σ2)) (h4 : x2 = (8 : Int32)) (h5 : C 147 [vR 10 0 0, vI x1] σ2 = some (some (vI r3), σ3)) (h6 : ¬ r3 = 0) : pq_Rn C (155, 0, [some (vR 10 0 0), some (vI x1), some (vI x2)], [], σ) = some (some (vI (1 : Int32)), σ3) := by
  refine (e_n 2 (fr' := (155, 2, [some (vR 10 0 0), some (vI x1), some (vI x2)], [vI x1, vR 10 0 0], σ)) rfl).trans ?_
  refine (e_ci (m := 155) (pc := 5) (ls := [some (vR 10 0 0), some (vI x1), some (vI x2)]) (rest := []) rfl h1).trans ?_
  refine (e_f (B := (155, 11, [some (vR 10 0 0), some (vI x1), some (vI x2)], [], σ1)) rfl h2).trans ?_
  refine (e_n 1 (fr' := (155, 12, [some (vR 10 0 0), some (vI x1), some (vI x2)], [vR 10 0 0], σ1)) rfl).trans ?_
  refine (e_cv (m := 155) (pc := 15) (ls := [some (vR 10 0 0), some (vI x1), some (vI x2)]) (rest := []) rfl h3).trans ?_
  refine (e_n 1 (fr' := (155, 16, [some (vR 10 0 0), some (vI x1), some (vI x2)], [vI x2], σ2)) rfl).trans ?_
  refine (e_g (A := (155, 124, [some (vR 10 0 0), some (vI x1), some (vI x2)], [], σ2)) (off' := 108) rfl (by rw [h4]; decide) rfl).trans ?_
  refine (e_n 2 (fr' := (155, 126, [some (vR 10 0 0), some (vI x1), some (vI x2)], [vI x1, vR 10 0 0], σ2)) rfl).trans ?_
  refine (e_ci (m := 155) (pc := 129) (ls := [some (vR 10 0 0), some (vI x1), some (vI x2)]) (rest := []) rfl h5).trans ?_
  refine (e_f (B := (155, 132, [some (vR 10 0 0), some (vI x1), some (vI x2)], [], σ3)) rfl h6).trans ?_
  refine (e_n 2 (fr' := (155, 137, [some (vR 10 0 0), some (vI x1), some (vI x2)], [vI (1 : Int32)], σ3)) rfl).trans ?_
  exact e_r rfl
set_option maxRecDepth 20000 in
theorem g155_0_11 (C : pmC) {σ : pmS} {x1 : Int32} {x2 : Int32} {σ1 : pmS} {r1 : Int32} {σ2 : pmS} (h1 : C 134 [vR 10 0 0, vI x1] σ = some (some (vI r1), σ1)) (h2 : ¬ r1 = 0) (h3 : C 146 [vR 10 0 0] σ1 = some (none, σ2)) (h4 : ¬ x2 = (0 : Int32)) (h5 : ¬ x2 = (1 : Int32)) (h6 : ¬ x2 = (2 : Int32)) (h7 : ¬ x2 = (3 : Int32)) (h8 : ¬ x2 = (4 : Int32)) (h9 : ¬ x2 = (5 : Int32)) (h10 : ¬ x2 = (6 : Int32)) (h11 : ¬ x2 = (7 : Int32)) (h12 : ¬ x2 = (8 : Int32)) : pq_Rn C (155, 0, [some (vR 10 0 0), some (vI x1), some (vI x2)], [], σ) = some (some (vI (-5 : Int32)), σ2) := by
  refine (e_n 2 (fr' := (155, 2, [some (vR 10 0 0), some (vI x1), some (vI x2)], [vI x1, vR 10 0 0], σ)) rfl).trans ?_
  refine (e_ci (m := 155) (pc := 5) (ls := [some (vR 10 0 0), some (vI x1), some (vI x2)]) (rest := []) rfl h1).trans ?_
  refine (e_f (B := (155, 11, [some (vR 10 0 0), some (vI x1), some (vI x2)], [], σ1)) rfl h2).trans ?_
  refine (e_n 1 (fr' := (155, 12, [some (vR 10 0 0), some (vI x1), some (vI x2)], [vR 10 0 0], σ1)) rfl).trans ?_
  refine (e_cv (m := 155) (pc := 15) (ls := [some (vR 10 0 0), some (vI x1), some (vI x2)]) (rest := []) rfl h3).trans ?_
  refine (e_n 1 (fr' := (155, 16, [some (vR 10 0 0), some (vI x1), some (vI x2)], [vI x2], σ2)) rfl).trans ?_
  refine (e_g (A := (155, 138, [some (vR 10 0 0), some (vI x1), some (vI x2)], [], σ2)) (off' := 122) rfl ((pm_sw_ne h4).trans ((pm_sw_ne h5).trans ((pm_sw_ne h6).trans ((pm_sw_ne h7).trans ((pm_sw_ne h8).trans ((pm_sw_ne h9).trans ((pm_sw_ne h10).trans ((pm_sw_ne h11).trans ((pm_sw_ne h12).trans (rfl)))))))))) rfl).trans ?_
  refine (e_n 1 (fr' := (155, 140, [some (vR 10 0 0), some (vI x1), some (vI x2)], [vI (-5 : Int32)], σ2)) rfl).trans ?_
  exact e_r rfl
set_option maxRecDepth 20000 in
theorem g156_0_0 (C : pmC) {σ : pmS} {x1 : Int32} {x2 : Int32} {σ1 : pmS} {r1 : Int32} (h1 : C 134 [vR 10 0 0, vI x1] σ = some (some (vI r1), σ1)) (h2 : r1 = 0) : pq_Rn C (156, 0, [some (vR 10 0 0), some (vI x1), some (vI x2)], [], σ) = some (some (vI (-1 : Int32)), σ1) := by
  refine (e_n 2 (fr' := (156, 2, [some (vR 10 0 0), some (vI x1), some (vI x2)], [vI x1, vR 10 0 0], σ)) rfl).trans ?_
  refine (e_ci (m := 156) (pc := 5) (ls := [some (vR 10 0 0), some (vI x1), some (vI x2)]) (rest := []) rfl h1).trans ?_
  refine (e_t (A := (156, 17, [some (vR 10 0 0), some (vI x1), some (vI x2)], [], σ1)) rfl h2).trans ?_
  refine (e_n 1 (fr' := (156, 18, [some (vR 10 0 0), some (vI x1), some (vI x2)], [vI (-1 : Int32)], σ1)) rfl).trans ?_
  exact e_r rfl
set_option maxRecDepth 20000 in
theorem g156_0_1 (C : pmC) {σ : pmS} {x1 : Int32} {x2 : Int32} {σ1 : pmS} {r1 : Int32} {σ2 : pmS} {r2 : Int32} (h1 : C 134 [vR 10 0 0, vI x1] σ = some (some (vI r1), σ1)) (h2 : ¬ r1 = 0) (h3 : C 150 [vR 10 0 0, vI x1, vI x2] σ1 = some (some (vI r2), σ2)) : pq_Rn C (156, 0, [some (vR 10 0 0), some (vI x1), some (vI x2)], [], σ) = some (some (vI r2), σ2) := by
  refine (e_n 2 (fr' := (156, 2, [some (vR 10 0 0), some (vI x1), some (vI x2)], [vI x1, vR 10 0 0], σ)) rfl).trans ?_
  refine (e_ci (m := 156) (pc := 5) (ls := [some (vR 10 0 0), some (vI x1), some (vI x2)]) (rest := []) rfl h1).trans ?_
  refine (e_f (B := (156, 8, [some (vR 10 0 0), some (vI x1), some (vI x2)], [], σ1)) rfl h2).trans ?_
  refine (e_n 3 (fr' := (156, 11, [some (vR 10 0 0), some (vI x1), some (vI x2)], [vI x2, vI x1, vR 10 0 0], σ1)) rfl).trans ?_
  refine (e_ci (m := 156) (pc := 14) (ls := [some (vR 10 0 0), some (vI x1), some (vI x2)]) (rest := []) rfl h3).trans ?_
  refine (e_n 1 (fr' := (156, 18, [some (vR 10 0 0), some (vI x1), some (vI x2)], [vI r2], σ2)) rfl).trans ?_
  exact e_r rfl
set_option maxRecDepth 20000 in
theorem g157_0_0 (C : pmC) {σ : pmS} {x1 : Int32} {x2 : Int32} {l3 : Option pmV} {l4 : Option pmV} {σ1 : pmS} {r1 : Int32} (h1 : C 134 [vR 10 0 0, vI x1] σ = some (some (vI r1), σ1)) (h2 : r1 = 0) : pq_Rn C (157, 0, [some (vR 10 0 0), some (vI x1), some (vI x2), l3, l4], [], σ) = some (some (vI (-1 : Int32)), σ1) := by
  refine (e_n 2 (fr' := (157, 2, [some (vR 10 0 0), some (vI x1), some (vI x2), l3, l4], [vI x1, vR 10 0 0], σ)) rfl).trans ?_
  refine (e_ci (m := 157) (pc := 5) (ls := [some (vR 10 0 0), some (vI x1), some (vI x2), l3, l4]) (rest := []) rfl h1).trans ?_
  refine (e_t (A := (157, 8, [some (vR 10 0 0), some (vI x1), some (vI x2), l3, l4], [], σ1)) rfl h2).trans ?_
  refine (e_n 1 (fr' := (157, 9, [some (vR 10 0 0), some (vI x1), some (vI x2), l3, l4], [vI (-1 : Int32)], σ1)) rfl).trans ?_
  exact e_r rfl
set_option maxRecDepth 20000 in
theorem g157_0_1 (C : pmC) {σ : pmS} {x1 : Int32} {x2 : Int32} {l3 : Option pmV} {l4 : Option pmV} {σ1 : pmS} {r1 : Int32} (h1 : C 134 [vR 10 0 0, vI x1] σ = some (some (vI r1), σ1)) (h2 : ¬ r1 = 0) : pq_Rn C (157, 0, [some (vR 10 0 0), some (vI x1), some (vI x2), l3, l4], [], σ) = pq_Rn C (157, 15, [some (vR 10 0 0), some (vI x1), some (vI x2), some (vI (0 : Int32)), some (vI (0 : Int32))], [], σ1) := by
  refine (e_n 2 (fr' := (157, 2, [some (vR 10 0 0), some (vI x1), some (vI x2), l3, l4], [vI x1, vR 10 0 0], σ)) rfl).trans ?_
  refine (e_ci (m := 157) (pc := 5) (ls := [some (vR 10 0 0), some (vI x1), some (vI x2), l3, l4]) (rest := []) rfl h1).trans ?_
  refine (e_f (B := (157, 10, [some (vR 10 0 0), some (vI x1), some (vI x2), l3, l4], [], σ1)) rfl h2).trans ?_
  exact e_n 4 rfl
set_option maxRecDepth 20000 in
theorem g157_15_0 (C : pmC) {σ : pmS} {x1 : Int32} {x2 : Int32} {x3 : Int32} {x4 : Int32} (h1 : (σ.1 10 0 16 0) ≤ x4) : pq_Rn C (157, 15, [some (vR 10 0 0), some (vI x1), some (vI x2), some (vI x3), some (vI x4)], [], σ) = some (some (vI x3), σ) := by
  refine (e_n 3 (fr' := (157, 21, [some (vR 10 0 0), some (vI x1), some (vI x2), some (vI x3), some (vI x4)], [vI (σ.1 10 0 16 0), vI x4], σ)) rfl).trans ?_
  refine (e_t (A := (157, 71, [some (vR 10 0 0), some (vI x1), some (vI x2), some (vI x3), some (vI x4)], [], σ)) rfl h1).trans ?_
  refine (e_n 1 (fr' := (157, 72, [some (vR 10 0 0), some (vI x1), some (vI x2), some (vI x3), some (vI x4)], [vI x3], σ)) rfl).trans ?_
  exact e_r rfl
set_option maxRecDepth 20000 in
theorem g157_15_1 (C : pmC) {σ : pmS} {x1 : Int32} {x2 : Int32} {x3 : Int32} {x4 : Int32} (h1 : ¬ (σ.1 10 0 16 0) ≤ x4) (h2 : vp_in x4 48) (h3 : (σ.1 10 0 23 (x4).toNatClampNeg) = x1) (h4 : x2 < (σ.1 10 0 20 (x4).toNatClampNeg)) : pq_Rn C (157, 15, [some (vR 10 0 0), some (vI x1), some (vI x2), some (vI x3), some (vI x4)], [], σ) = pq_Rn C (157, 15, [some (vR 10 0 0), some (vI x1), some (vI x2), some (vI (x3 + (0 : Int32))), some (vI (x4 + (1 : Int32)))], [], σ) := by
  refine (e_n 3 (fr' := (157, 21, [some (vR 10 0 0), some (vI x1), some (vI x2), some (vI x3), some (vI x4)], [vI (σ.1 10 0 16 0), vI x4], σ)) rfl).trans ?_
  refine (e_f (B := (157, 24, [some (vR 10 0 0), some (vI x1), some (vI x2), some (vI x3), some (vI x4)], [], σ)) rfl h1).trans ?_
  refine (e_n 4 (fr' := (157, 31, [some (vR 10 0 0), some (vI x1), some (vI x2), some (vI x3), some (vI x4)], [vI x4, vR 10 0 24, vI x3], σ)) rfl).trans ?_
  refine (e_a (A := (157, 32, [some (vR 10 0 0), some (vI x1), some (vI x2), some (vI x3), some (vI x4)], [vI (σ.1 10 0 23 (x4).toNatClampNeg), vI x3], σ)) rfl h2).trans ?_
  refine (e_n 1 (fr' := (157, 33, [some (vR 10 0 0), some (vI x1), some (vI x2), some (vI x3), some (vI x4)], [vI x1, vI (σ.1 10 0 23 (x4).toNatClampNeg), vI x3], σ)) rfl).trans ?_
  refine (e_t (A := (157, 47, [some (vR 10 0 0), some (vI x1), some (vI x2), some (vI x3), some (vI x4)], [vI x3], σ)) rfl h3).trans ?_
  refine (e_n 3 (fr' := (157, 53, [some (vR 10 0 0), some (vI x1), some (vI x2), some (vI x3), some (vI x4)], [vI x4, vR 10 0 21, vI x3], σ)) rfl).trans ?_
  refine (e_a (A := (157, 54, [some (vR 10 0 0), some (vI x1), some (vI x2), some (vI x3), some (vI x4)], [vI (σ.1 10 0 20 (x4).toNatClampNeg), vI x3], σ)) rfl h2).trans ?_
  refine (e_n 1 (fr' := (157, 55, [some (vR 10 0 0), some (vI x1), some (vI x2), some (vI x3), some (vI x4)], [vI x2, vI (σ.1 10 0 20 (x4).toNatClampNeg), vI x3], σ)) rfl).trans ?_
  refine (e_t (A := (157, 62, [some (vR 10 0 0), some (vI x1), some (vI x2), some (vI x3), some (vI x4)], [vI x3], σ)) rfl h4).trans ?_
  exact e_n 5 rfl
set_option maxRecDepth 20000 in
theorem g157_15_2 (C : pmC) {σ : pmS} {x1 : Int32} {x2 : Int32} {x3 : Int32} {x4 : Int32} (h1 : ¬ (σ.1 10 0 16 0) ≤ x4) (h2 : vp_in x4 48) (h3 : (σ.1 10 0 23 (x4).toNatClampNeg) = x1) (h4 : ¬ x2 < (σ.1 10 0 20 (x4).toNatClampNeg)) : pq_Rn C (157, 15, [some (vR 10 0 0), some (vI x1), some (vI x2), some (vI x3), some (vI x4)], [], σ) = pq_Rn C (157, 15, [some (vR 10 0 0), some (vI x1), some (vI x2), some (vI (x3 + (1 : Int32))), some (vI (x4 + (1 : Int32)))], [], σ) := by
  refine (e_n 3 (fr' := (157, 21, [some (vR 10 0 0), some (vI x1), some (vI x2), some (vI x3), some (vI x4)], [vI (σ.1 10 0 16 0), vI x4], σ)) rfl).trans ?_
  refine (e_f (B := (157, 24, [some (vR 10 0 0), some (vI x1), some (vI x2), some (vI x3), some (vI x4)], [], σ)) rfl h1).trans ?_
  refine (e_n 4 (fr' := (157, 31, [some (vR 10 0 0), some (vI x1), some (vI x2), some (vI x3), some (vI x4)], [vI x4, vR 10 0 24, vI x3], σ)) rfl).trans ?_
  refine (e_a (A := (157, 32, [some (vR 10 0 0), some (vI x1), some (vI x2), some (vI x3), some (vI x4)], [vI (σ.1 10 0 23 (x4).toNatClampNeg), vI x3], σ)) rfl h2).trans ?_
  refine (e_n 1 (fr' := (157, 33, [some (vR 10 0 0), some (vI x1), some (vI x2), some (vI x3), some (vI x4)], [vI x1, vI (σ.1 10 0 23 (x4).toNatClampNeg), vI x3], σ)) rfl).trans ?_
  refine (e_t (A := (157, 47, [some (vR 10 0 0), some (vI x1), some (vI x2), some (vI x3), some (vI x4)], [vI x3], σ)) rfl h3).trans ?_
  refine (e_n 3 (fr' := (157, 53, [some (vR 10 0 0), some (vI x1), some (vI x2), some (vI x3), some (vI x4)], [vI x4, vR 10 0 21, vI x3], σ)) rfl).trans ?_
  refine (e_a (A := (157, 54, [some (vR 10 0 0), some (vI x1), some (vI x2), some (vI x3), some (vI x4)], [vI (σ.1 10 0 20 (x4).toNatClampNeg), vI x3], σ)) rfl h2).trans ?_
  refine (e_n 1 (fr' := (157, 55, [some (vR 10 0 0), some (vI x1), some (vI x2), some (vI x3), some (vI x4)], [vI x2, vI (σ.1 10 0 20 (x4).toNatClampNeg), vI x3], σ)) rfl).trans ?_
  refine (e_f (B := (157, 58, [some (vR 10 0 0), some (vI x1), some (vI x2), some (vI x3), some (vI x4)], [vI x3], σ)) rfl h4).trans ?_
  exact e_n 6 rfl
set_option maxRecDepth 20000 in
theorem g157_15_3 (C : pmC) {σ : pmS} {x1 : Int32} {x2 : Int32} {x3 : Int32} {x4 : Int32} (h1 : ¬ (σ.1 10 0 16 0) ≤ x4) (h2 : vp_in x4 48) (h3 : ¬ (σ.1 10 0 23 (x4).toNatClampNeg) = x1) (h4 : (σ.1 10 0 24 (x4).toNatClampNeg) = x1) (h5 : x2 < (σ.1 10 0 20 (x4).toNatClampNeg)) : pq_Rn C (157, 15, [some (vR 10 0 0), some (vI x1), some (vI x2), some (vI x3), some (vI x4)], [], σ) = pq_Rn C (157, 15, [some (vR 10 0 0), some (vI x1), some (vI x2), some (vI (x3 + (0 : Int32))), some (vI (x4 + (1 : Int32)))], [], σ) := by
  refine (e_n 3 (fr' := (157, 21, [some (vR 10 0 0), some (vI x1), some (vI x2), some (vI x3), some (vI x4)], [vI (σ.1 10 0 16 0), vI x4], σ)) rfl).trans ?_
  refine (e_f (B := (157, 24, [some (vR 10 0 0), some (vI x1), some (vI x2), some (vI x3), some (vI x4)], [], σ)) rfl h1).trans ?_
  refine (e_n 4 (fr' := (157, 31, [some (vR 10 0 0), some (vI x1), some (vI x2), some (vI x3), some (vI x4)], [vI x4, vR 10 0 24, vI x3], σ)) rfl).trans ?_
  refine (e_a (A := (157, 32, [some (vR 10 0 0), some (vI x1), some (vI x2), some (vI x3), some (vI x4)], [vI (σ.1 10 0 23 (x4).toNatClampNeg), vI x3], σ)) rfl h2).trans ?_
  refine (e_n 1 (fr' := (157, 33, [some (vR 10 0 0), some (vI x1), some (vI x2), some (vI x3), some (vI x4)], [vI x1, vI (σ.1 10 0 23 (x4).toNatClampNeg), vI x3], σ)) rfl).trans ?_
  refine (e_f (B := (157, 36, [some (vR 10 0 0), some (vI x1), some (vI x2), some (vI x3), some (vI x4)], [vI x3], σ)) rfl h3).trans ?_
  refine (e_n 3 (fr' := (157, 42, [some (vR 10 0 0), some (vI x1), some (vI x2), some (vI x3), some (vI x4)], [vI x4, vR 10 0 25, vI x3], σ)) rfl).trans ?_
  refine (e_a (A := (157, 43, [some (vR 10 0 0), some (vI x1), some (vI x2), some (vI x3), some (vI x4)], [vI (σ.1 10 0 24 (x4).toNatClampNeg), vI x3], σ)) rfl h2).trans ?_
  refine (e_n 1 (fr' := (157, 44, [some (vR 10 0 0), some (vI x1), some (vI x2), some (vI x3), some (vI x4)], [vI x1, vI (σ.1 10 0 24 (x4).toNatClampNeg), vI x3], σ)) rfl).trans ?_
  refine (e_t (A := (157, 47, [some (vR 10 0 0), some (vI x1), some (vI x2), some (vI x3), some (vI x4)], [vI x3], σ)) rfl h4).trans ?_
  refine (e_n 3 (fr' := (157, 53, [some (vR 10 0 0), some (vI x1), some (vI x2), some (vI x3), some (vI x4)], [vI x4, vR 10 0 21, vI x3], σ)) rfl).trans ?_
  refine (e_a (A := (157, 54, [some (vR 10 0 0), some (vI x1), some (vI x2), some (vI x3), some (vI x4)], [vI (σ.1 10 0 20 (x4).toNatClampNeg), vI x3], σ)) rfl h2).trans ?_
  refine (e_n 1 (fr' := (157, 55, [some (vR 10 0 0), some (vI x1), some (vI x2), some (vI x3), some (vI x4)], [vI x2, vI (σ.1 10 0 20 (x4).toNatClampNeg), vI x3], σ)) rfl).trans ?_
  refine (e_t (A := (157, 62, [some (vR 10 0 0), some (vI x1), some (vI x2), some (vI x3), some (vI x4)], [vI x3], σ)) rfl h5).trans ?_
  exact e_n 5 rfl
set_option maxRecDepth 20000 in
theorem g157_15_4 (C : pmC) {σ : pmS} {x1 : Int32} {x2 : Int32} {x3 : Int32} {x4 : Int32} (h1 : ¬ (σ.1 10 0 16 0) ≤ x4) (h2 : vp_in x4 48) (h3 : ¬ (σ.1 10 0 23 (x4).toNatClampNeg) = x1) (h4 : (σ.1 10 0 24 (x4).toNatClampNeg) = x1) (h5 : ¬ x2 < (σ.1 10 0 20 (x4).toNatClampNeg)) : pq_Rn C (157, 15, [some (vR 10 0 0), some (vI x1), some (vI x2), some (vI x3), some (vI x4)], [], σ) = pq_Rn C (157, 15, [some (vR 10 0 0), some (vI x1), some (vI x2), some (vI (x3 + (1 : Int32))), some (vI (x4 + (1 : Int32)))], [], σ) := by
  refine (e_n 3 (fr' := (157, 21, [some (vR 10 0 0), some (vI x1), some (vI x2), some (vI x3), some (vI x4)], [vI (σ.1 10 0 16 0), vI x4], σ)) rfl).trans ?_
  refine (e_f (B := (157, 24, [some (vR 10 0 0), some (vI x1), some (vI x2), some (vI x3), some (vI x4)], [], σ)) rfl h1).trans ?_
  refine (e_n 4 (fr' := (157, 31, [some (vR 10 0 0), some (vI x1), some (vI x2), some (vI x3), some (vI x4)], [vI x4, vR 10 0 24, vI x3], σ)) rfl).trans ?_
  refine (e_a (A := (157, 32, [some (vR 10 0 0), some (vI x1), some (vI x2), some (vI x3), some (vI x4)], [vI (σ.1 10 0 23 (x4).toNatClampNeg), vI x3], σ)) rfl h2).trans ?_
  refine (e_n 1 (fr' := (157, 33, [some (vR 10 0 0), some (vI x1), some (vI x2), some (vI x3), some (vI x4)], [vI x1, vI (σ.1 10 0 23 (x4).toNatClampNeg), vI x3], σ)) rfl).trans ?_
  refine (e_f (B := (157, 36, [some (vR 10 0 0), some (vI x1), some (vI x2), some (vI x3), some (vI x4)], [vI x3], σ)) rfl h3).trans ?_
  refine (e_n 3 (fr' := (157, 42, [some (vR 10 0 0), some (vI x1), some (vI x2), some (vI x3), some (vI x4)], [vI x4, vR 10 0 25, vI x3], σ)) rfl).trans ?_
  refine (e_a (A := (157, 43, [some (vR 10 0 0), some (vI x1), some (vI x2), some (vI x3), some (vI x4)], [vI (σ.1 10 0 24 (x4).toNatClampNeg), vI x3], σ)) rfl h2).trans ?_
  refine (e_n 1 (fr' := (157, 44, [some (vR 10 0 0), some (vI x1), some (vI x2), some (vI x3), some (vI x4)], [vI x1, vI (σ.1 10 0 24 (x4).toNatClampNeg), vI x3], σ)) rfl).trans ?_
  refine (e_t (A := (157, 47, [some (vR 10 0 0), some (vI x1), some (vI x2), some (vI x3), some (vI x4)], [vI x3], σ)) rfl h4).trans ?_
  refine (e_n 3 (fr' := (157, 53, [some (vR 10 0 0), some (vI x1), some (vI x2), some (vI x3), some (vI x4)], [vI x4, vR 10 0 21, vI x3], σ)) rfl).trans ?_
  refine (e_a (A := (157, 54, [some (vR 10 0 0), some (vI x1), some (vI x2), some (vI x3), some (vI x4)], [vI (σ.1 10 0 20 (x4).toNatClampNeg), vI x3], σ)) rfl h2).trans ?_
  refine (e_n 1 (fr' := (157, 55, [some (vR 10 0 0), some (vI x1), some (vI x2), some (vI x3), some (vI x4)], [vI x2, vI (σ.1 10 0 20 (x4).toNatClampNeg), vI x3], σ)) rfl).trans ?_
  refine (e_f (B := (157, 58, [some (vR 10 0 0), some (vI x1), some (vI x2), some (vI x3), some (vI x4)], [vI x3], σ)) rfl h5).trans ?_
  exact e_n 6 rfl
set_option maxRecDepth 20000 in
theorem g157_15_5 (C : pmC) {σ : pmS} {x1 : Int32} {x2 : Int32} {x3 : Int32} {x4 : Int32} (h1 : ¬ (σ.1 10 0 16 0) ≤ x4) (h2 : vp_in x4 48) (h3 : ¬ (σ.1 10 0 23 (x4).toNatClampNeg) = x1) (h4 : ¬ (σ.1 10 0 24 (x4).toNatClampNeg) = x1) : pq_Rn C (157, 15, [some (vR 10 0 0), some (vI x1), some (vI x2), some (vI x3), some (vI x4)], [], σ) = pq_Rn C (157, 15, [some (vR 10 0 0), some (vI x1), some (vI x2), some (vI (x3 + (0 : Int32))), some (vI (x4 + (1 : Int32)))], [], σ) := by
  refine (e_n 3 (fr' := (157, 21, [some (vR 10 0 0), some (vI x1), some (vI x2), some (vI x3), some (vI x4)], [vI (σ.1 10 0 16 0), vI x4], σ)) rfl).trans ?_
  refine (e_f (B := (157, 24, [some (vR 10 0 0), some (vI x1), some (vI x2), some (vI x3), some (vI x4)], [], σ)) rfl h1).trans ?_
  refine (e_n 4 (fr' := (157, 31, [some (vR 10 0 0), some (vI x1), some (vI x2), some (vI x3), some (vI x4)], [vI x4, vR 10 0 24, vI x3], σ)) rfl).trans ?_
  refine (e_a (A := (157, 32, [some (vR 10 0 0), some (vI x1), some (vI x2), some (vI x3), some (vI x4)], [vI (σ.1 10 0 23 (x4).toNatClampNeg), vI x3], σ)) rfl h2).trans ?_
  refine (e_n 1 (fr' := (157, 33, [some (vR 10 0 0), some (vI x1), some (vI x2), some (vI x3), some (vI x4)], [vI x1, vI (σ.1 10 0 23 (x4).toNatClampNeg), vI x3], σ)) rfl).trans ?_
  refine (e_f (B := (157, 36, [some (vR 10 0 0), some (vI x1), some (vI x2), some (vI x3), some (vI x4)], [vI x3], σ)) rfl h3).trans ?_
  refine (e_n 3 (fr' := (157, 42, [some (vR 10 0 0), some (vI x1), some (vI x2), some (vI x3), some (vI x4)], [vI x4, vR 10 0 25, vI x3], σ)) rfl).trans ?_
  refine (e_a (A := (157, 43, [some (vR 10 0 0), some (vI x1), some (vI x2), some (vI x3), some (vI x4)], [vI (σ.1 10 0 24 (x4).toNatClampNeg), vI x3], σ)) rfl h2).trans ?_
  refine (e_n 1 (fr' := (157, 44, [some (vR 10 0 0), some (vI x1), some (vI x2), some (vI x3), some (vI x4)], [vI x1, vI (σ.1 10 0 24 (x4).toNatClampNeg), vI x3], σ)) rfl).trans ?_
  refine (e_f (B := (157, 62, [some (vR 10 0 0), some (vI x1), some (vI x2), some (vI x3), some (vI x4)], [vI x3], σ)) rfl h4).trans ?_
  exact e_n 5 rfl
set_option maxRecDepth 20000 in
theorem g158_0_0 (C : pmC) {σ : pmS} {x1 : Int32} {x2 : Int32} {x3 : Int32} {l4 : Option pmV} {l5 : Option pmV} {σ1 : pmS} {r1 : Int32} (h1 : C 133 [vR 10 0 0, vI x1] σ = some (some (vI r1), σ1)) (h2 : r1 = 0) : pq_Rn C (158, 0, [some (vR 10 0 0), some (vI x1), some (vI x2), some (vI x3), l4, l5], [], σ) = some (some (vI (-1 : Int32)), σ1) := by
  refine (e_n 2 (fr' := (158, 2, [some (vR 10 0 0), some (vI x1), some (vI x2), some (vI x3), l4, l5], [vI x1, vR 10 0 0], σ)) rfl).trans ?_
  refine (e_ci (m := 158) (pc := 5) (ls := [some (vR 10 0 0), some (vI x1), some (vI x2), some (vI x3), l4, l5]) (rest := []) rfl h1).trans ?_
  refine (e_t (A := (158, 22, [some (vR 10 0 0), some (vI x1), some (vI x2), some (vI x3), l4, l5], [], σ1)) rfl h2).trans ?_
  refine (e_n 1 (fr' := (158, 23, [some (vR 10 0 0), some (vI x1), some (vI x2), some (vI x3), l4, l5], [vI (-1 : Int32)], σ1)) rfl).trans ?_
  exact e_r rfl
set_option maxRecDepth 20000 in
theorem g158_0_1 (C : pmC) {σ : pmS} {x1 : Int32} {x2 : Int32} {x3 : Int32} {l4 : Option pmV} {l5 : Option pmV} {σ1 : pmS} {r1 : Int32} {σ2 : pmS} {r2 : Int32} (h1 : C 133 [vR 10 0 0, vI x1] σ = some (some (vI r1), σ1)) (h2 : ¬ r1 = 0) (h3 : C 105 [vL (x3).toInt64, vL (-1 : Int64), vL (7 : Int64)] σ1 = some (some (vI r2), σ2)) (h4 : r2 = 0) : pq_Rn C (158, 0, [some (vR 10 0 0), some (vI x1), some (vI x2), some (vI x3), l4, l5], [], σ) = some (some (vI (-1 : Int32)), σ2) := by
  refine (e_n 2 (fr' := (158, 2, [some (vR 10 0 0), some (vI x1), some (vI x2), some (vI x3), l4, l5], [vI x1, vR 10 0 0], σ)) rfl).trans ?_
  refine (e_ci (m := 158) (pc := 5) (ls := [some (vR 10 0 0), some (vI x1), some (vI x2), some (vI x3), l4, l5]) (rest := []) rfl h1).trans ?_
  refine (e_f (B := (158, 8, [some (vR 10 0 0), some (vI x1), some (vI x2), some (vI x3), l4, l5], [], σ1)) rfl h2).trans ?_
  refine (e_n 4 (fr' := (158, 16, [some (vR 10 0 0), some (vI x1), some (vI x2), some (vI x3), l4, l5], [vL (7 : Int64), vL (-1 : Int64), vL (x3).toInt64], σ1)) rfl).trans ?_
  refine (e_ci (m := 158) (pc := 19) (ls := [some (vR 10 0 0), some (vI x1), some (vI x2), some (vI x3), l4, l5]) (rest := []) rfl h3).trans ?_
  refine (e_t (A := (158, 22, [some (vR 10 0 0), some (vI x1), some (vI x2), some (vI x3), l4, l5], [], σ2)) rfl h4).trans ?_
  refine (e_n 1 (fr' := (158, 23, [some (vR 10 0 0), some (vI x1), some (vI x2), some (vI x3), l4, l5], [vI (-1 : Int32)], σ2)) rfl).trans ?_
  exact e_r rfl
set_option maxRecDepth 20000 in
theorem g158_0_2 (C : pmC) {σ : pmS} {x1 : Int32} {x2 : Int32} {x3 : Int32} {l4 : Option pmV} {l5 : Option pmV} {σ1 : pmS} {r1 : Int32} {σ2 : pmS} {r2 : Int32} {σ3 : pmS} (h1 : C 133 [vR 10 0 0, vI x1] σ = some (some (vI r1), σ1)) (h2 : ¬ r1 = 0) (h3 : C 105 [vL (x3).toInt64, vL (-1 : Int64), vL (7 : Int64)] σ1 = some (some (vI r2), σ2)) (h4 : ¬ r2 = 0) (h5 : C 146 [vR 10 0 0] σ2 = some (none, σ3)) : pq_Rn C (158, 0, [some (vR 10 0 0), some (vI x1), some (vI x2), some (vI x3), l4, l5], [], σ) = pq_Rn C (158, 34, [some (vR 10 0 0), some (vI x1), some (vI x2), some (vI x3), some (vI (0 : Int32)), some (vI (0 : Int32))], [], σ3) := by
  refine (e_n 2 (fr' := (158, 2, [some (vR 10 0 0), some (vI x1), some (vI x2), some (vI x3), l4, l5], [vI x1, vR 10 0 0], σ)) rfl).trans ?_
  refine (e_ci (m := 158) (pc := 5) (ls := [some (vR 10 0 0), some (vI x1), some (vI x2), some (vI x3), l4, l5]) (rest := []) rfl h1).trans ?_
  refine (e_f (B := (158, 8, [some (vR 10 0 0), some (vI x1), some (vI x2), some (vI x3), l4, l5], [], σ1)) rfl h2).trans ?_
  refine (e_n 4 (fr' := (158, 16, [some (vR 10 0 0), some (vI x1), some (vI x2), some (vI x3), l4, l5], [vL (7 : Int64), vL (-1 : Int64), vL (x3).toInt64], σ1)) rfl).trans ?_
  refine (e_ci (m := 158) (pc := 19) (ls := [some (vR 10 0 0), some (vI x1), some (vI x2), some (vI x3), l4, l5]) (rest := []) rfl h3).trans ?_
  refine (e_f (B := (158, 24, [some (vR 10 0 0), some (vI x1), some (vI x2), some (vI x3), l4, l5], [], σ2)) rfl h4).trans ?_
  refine (e_n 1 (fr' := (158, 25, [some (vR 10 0 0), some (vI x1), some (vI x2), some (vI x3), l4, l5], [vR 10 0 0], σ2)) rfl).trans ?_
  refine (e_cv (m := 158) (pc := 28) (ls := [some (vR 10 0 0), some (vI x1), some (vI x2), some (vI x3), l4, l5]) (rest := []) rfl h5).trans ?_
  exact e_n 4 rfl
set_option maxRecDepth 20000 in
theorem g158_34_0 (C : pmC) {σ : pmS} {x1 : Int32} {x2 : Int32} {x3 : Int32} {x4 : Int32} {x5 : Int32} (h1 : (σ.1 10 0 16 0) ≤ x5) : pq_Rn C (158, 34, [some (vR 10 0 0), some (vI x1), some (vI x2), some (vI x3), some (vI x4), some (vI x5)], [], σ) = some (some (vI x4), σ) := by
  refine (e_n 3 (fr' := (158, 40, [some (vR 10 0 0), some (vI x1), some (vI x2), some (vI x3), some (vI x4), some (vI x5)], [vI (σ.1 10 0 16 0), vI x5], σ)) rfl).trans ?_
  refine (e_t (A := (158, 96, [some (vR 10 0 0), some (vI x1), some (vI x2), some (vI x3), some (vI x4), some (vI x5)], [], σ)) rfl h1).trans ?_
  refine (e_n 1 (fr' := (158, 98, [some (vR 10 0 0), some (vI x1), some (vI x2), some (vI x3), some (vI x4), some (vI x5)], [vI x4], σ)) rfl).trans ?_
  exact e_r rfl
set_option maxRecDepth 20000 in
theorem g158_34_1 (C : pmC) {σ : pmS} {x1 : Int32} {x2 : Int32} {x3 : Int32} {x4 : Int32} {x5 : Int32} {σ1 : pmS} {r1 : Int32} (h1 : ¬ (σ.1 10 0 16 0) ≤ x5) (h2 : vp_in x5 48) (h3 : (σ.1 10 0 22 (x5).toNatClampNeg) = x1) (h4 : C 141 [vR 10 0 0, vI x5, vI x2] σ = some (some (vI r1), σ1)) (h5 : r1 = 0) : pq_Rn C (158, 34, [some (vR 10 0 0), some (vI x1), some (vI x2), some (vI x3), some (vI x4), some (vI x5)], [], σ) = pq_Rn C (158, 34, [some (vR 10 0 0), some (vI x1), some (vI x2), some (vI x3), some (vI (x4 + (0 : Int32))), some (vI (x5 + (1 : Int32)))], [], σ1) := by
  refine (e_n 3 (fr' := (158, 40, [some (vR 10 0 0), some (vI x1), some (vI x2), some (vI x3), some (vI x4), some (vI x5)], [vI (σ.1 10 0 16 0), vI x5], σ)) rfl).trans ?_
  refine (e_f (B := (158, 43, [some (vR 10 0 0), some (vI x1), some (vI x2), some (vI x3), some (vI x4), some (vI x5)], [], σ)) rfl h1).trans ?_
  refine (e_n 4 (fr' := (158, 51, [some (vR 10 0 0), some (vI x1), some (vI x2), some (vI x3), some (vI x4), some (vI x5)], [vI x5, vR 10 0 23, vI x4], σ)) rfl).trans ?_
  refine (e_a (A := (158, 52, [some (vR 10 0 0), some (vI x1), some (vI x2), some (vI x3), some (vI x4), some (vI x5)], [vI (σ.1 10 0 22 (x5).toNatClampNeg), vI x4], σ)) rfl h2).trans ?_
  refine (e_n 1 (fr' := (158, 53, [some (vR 10 0 0), some (vI x1), some (vI x2), some (vI x3), some (vI x4), some (vI x5)], [vI x1, vI (σ.1 10 0 22 (x5).toNatClampNeg), vI x4], σ)) rfl).trans ?_
  refine (e_t (A := (158, 56, [some (vR 10 0 0), some (vI x1), some (vI x2), some (vI x3), some (vI x4), some (vI x5)], [vI x4], σ)) rfl h3).trans ?_
  refine (e_n 3 (fr' := (158, 60, [some (vR 10 0 0), some (vI x1), some (vI x2), some (vI x3), some (vI x4), some (vI x5)], [vI x2, vI x5, vR 10 0 0, vI x4], σ)) rfl).trans ?_
  refine (e_ci (m := 158) (pc := 63) (ls := [some (vR 10 0 0), some (vI x1), some (vI x2), some (vI x3), some (vI x4), some (vI x5)]) (rest := [vI x4]) rfl h4).trans ?_
  refine (e_t (A := (158, 86, [some (vR 10 0 0), some (vI x1), some (vI x2), some (vI x3), some (vI x4), some (vI x5)], [vI x4], σ1)) rfl h5).trans ?_
  exact e_n 5 rfl
set_option maxRecDepth 20000 in
theorem g158_34_2 (C : pmC) {σ : pmS} {x1 : Int32} {x2 : Int32} {x3 : Int32} {x4 : Int32} {x5 : Int32} {σ1 : pmS} {r1 : Int32} (h1 : ¬ (σ.1 10 0 16 0) ≤ x5) (h2 : vp_in x5 48) (h3 : (σ.1 10 0 22 (x5).toNatClampNeg) = x1) (h4 : C 141 [vR 10 0 0, vI x5, vI x2] σ = some (some (vI r1), σ1)) (h5 : ¬ r1 = 0) (h6 : x3 = (-1 : Int32)) : pq_Rn C (158, 34, [some (vR 10 0 0), some (vI x1), some (vI x2), some (vI x3), some (vI x4), some (vI x5)], [], σ) = pq_Rn C (158, 34, [some (vR 10 0 0), some (vI x1), some (vI x2), some (vI x3), some (vI (x4 + (1 : Int32))), some (vI (x5 + (1 : Int32)))], [], σ1) := by
  refine (e_n 3 (fr' := (158, 40, [some (vR 10 0 0), some (vI x1), some (vI x2), some (vI x3), some (vI x4), some (vI x5)], [vI (σ.1 10 0 16 0), vI x5], σ)) rfl).trans ?_
  refine (e_f (B := (158, 43, [some (vR 10 0 0), some (vI x1), some (vI x2), some (vI x3), some (vI x4), some (vI x5)], [], σ)) rfl h1).trans ?_
  refine (e_n 4 (fr' := (158, 51, [some (vR 10 0 0), some (vI x1), some (vI x2), some (vI x3), some (vI x4), some (vI x5)], [vI x5, vR 10 0 23, vI x4], σ)) rfl).trans ?_
  refine (e_a (A := (158, 52, [some (vR 10 0 0), some (vI x1), some (vI x2), some (vI x3), some (vI x4), some (vI x5)], [vI (σ.1 10 0 22 (x5).toNatClampNeg), vI x4], σ)) rfl h2).trans ?_
  refine (e_n 1 (fr' := (158, 53, [some (vR 10 0 0), some (vI x1), some (vI x2), some (vI x3), some (vI x4), some (vI x5)], [vI x1, vI (σ.1 10 0 22 (x5).toNatClampNeg), vI x4], σ)) rfl).trans ?_
  refine (e_t (A := (158, 56, [some (vR 10 0 0), some (vI x1), some (vI x2), some (vI x3), some (vI x4), some (vI x5)], [vI x4], σ)) rfl h3).trans ?_
  refine (e_n 3 (fr' := (158, 60, [some (vR 10 0 0), some (vI x1), some (vI x2), some (vI x3), some (vI x4), some (vI x5)], [vI x2, vI x5, vR 10 0 0, vI x4], σ)) rfl).trans ?_
  refine (e_ci (m := 158) (pc := 63) (ls := [some (vR 10 0 0), some (vI x1), some (vI x2), some (vI x3), some (vI x4), some (vI x5)]) (rest := [vI x4]) rfl h4).trans ?_
  refine (e_f (B := (158, 66, [some (vR 10 0 0), some (vI x1), some (vI x2), some (vI x3), some (vI x4), some (vI x5)], [vI x4], σ1)) rfl h5).trans ?_
  refine (e_n 2 (fr' := (158, 68, [some (vR 10 0 0), some (vI x1), some (vI x2), some (vI x3), some (vI x4), some (vI x5)], [vI (-1 : Int32), vI x3, vI x4], σ1)) rfl).trans ?_
  refine (e_t (A := (158, 82, [some (vR 10 0 0), some (vI x1), some (vI x2), some (vI x3), some (vI x4), some (vI x5)], [vI x4], σ1)) rfl h6).trans ?_
  exact e_n 6 rfl
set_option maxRecDepth 20000 in
theorem g158_34_3 (C : pmC) {σ : pmS} {x1 : Int32} {x2 : Int32} {x3 : Int32} {x4 : Int32} {x5 : Int32} {σ1 : pmS} {r1 : Int32} (h1 : ¬ (σ.1 10 0 16 0) ≤ x5) (h2 : vp_in x5 48) (h3 : (σ.1 10 0 22 (x5).toNatClampNeg) = x1) (h4 : C 141 [vR 10 0 0, vI x5, vI x2] σ = some (some (vI r1), σ1)) (h5 : ¬ r1 = 0) (h6 : ¬ x3 = (-1 : Int32)) (h7 : (σ1.1 10 0 29 (x5).toNatClampNeg) = x3) : pq_Rn C (158, 34, [some (vR 10 0 0), some (vI x1), some (vI x2), some (vI x3), some (vI x4), some (vI x5)], [], σ) = pq_Rn C (158, 34, [some (vR 10 0 0), some (vI x1), some (vI x2), some (vI x3), some (vI (x4 + (1 : Int32))), some (vI (x5 + (1 : Int32)))], [], σ1) := by
  refine (e_n 3 (fr' := (158, 40, [some (vR 10 0 0), some (vI x1), some (vI x2), some (vI x3), some (vI x4), some (vI x5)], [vI (σ.1 10 0 16 0), vI x5], σ)) rfl).trans ?_
  refine (e_f (B := (158, 43, [some (vR 10 0 0), some (vI x1), some (vI x2), some (vI x3), some (vI x4), some (vI x5)], [], σ)) rfl h1).trans ?_
  refine (e_n 4 (fr' := (158, 51, [some (vR 10 0 0), some (vI x1), some (vI x2), some (vI x3), some (vI x4), some (vI x5)], [vI x5, vR 10 0 23, vI x4], σ)) rfl).trans ?_
  refine (e_a (A := (158, 52, [some (vR 10 0 0), some (vI x1), some (vI x2), some (vI x3), some (vI x4), some (vI x5)], [vI (σ.1 10 0 22 (x5).toNatClampNeg), vI x4], σ)) rfl h2).trans ?_
  refine (e_n 1 (fr' := (158, 53, [some (vR 10 0 0), some (vI x1), some (vI x2), some (vI x3), some (vI x4), some (vI x5)], [vI x1, vI (σ.1 10 0 22 (x5).toNatClampNeg), vI x4], σ)) rfl).trans ?_
  refine (e_t (A := (158, 56, [some (vR 10 0 0), some (vI x1), some (vI x2), some (vI x3), some (vI x4), some (vI x5)], [vI x4], σ)) rfl h3).trans ?_
  refine (e_n 3 (fr' := (158, 60, [some (vR 10 0 0), some (vI x1), some (vI x2), some (vI x3), some (vI x4), some (vI x5)], [vI x2, vI x5, vR 10 0 0, vI x4], σ)) rfl).trans ?_
  refine (e_ci (m := 158) (pc := 63) (ls := [some (vR 10 0 0), some (vI x1), some (vI x2), some (vI x3), some (vI x4), some (vI x5)]) (rest := [vI x4]) rfl h4).trans ?_
  refine (e_f (B := (158, 66, [some (vR 10 0 0), some (vI x1), some (vI x2), some (vI x3), some (vI x4), some (vI x5)], [vI x4], σ1)) rfl h5).trans ?_
  refine (e_n 2 (fr' := (158, 68, [some (vR 10 0 0), some (vI x1), some (vI x2), some (vI x3), some (vI x4), some (vI x5)], [vI (-1 : Int32), vI x3, vI x4], σ1)) rfl).trans ?_
  refine (e_f (B := (158, 71, [some (vR 10 0 0), some (vI x1), some (vI x2), some (vI x3), some (vI x4), some (vI x5)], [vI x4], σ1)) rfl h6).trans ?_
  refine (e_n 3 (fr' := (158, 77, [some (vR 10 0 0), some (vI x1), some (vI x2), some (vI x3), some (vI x4), some (vI x5)], [vI x5, vR 10 0 30, vI x4], σ1)) rfl).trans ?_
  refine (e_a (A := (158, 78, [some (vR 10 0 0), some (vI x1), some (vI x2), some (vI x3), some (vI x4), some (vI x5)], [vI (σ1.1 10 0 29 (x5).toNatClampNeg), vI x4], σ1)) rfl h2).trans ?_
  refine (e_n 1 (fr' := (158, 79, [some (vR 10 0 0), some (vI x1), some (vI x2), some (vI x3), some (vI x4), some (vI x5)], [vI x3, vI (σ1.1 10 0 29 (x5).toNatClampNeg), vI x4], σ1)) rfl).trans ?_
  refine (e_t (A := (158, 82, [some (vR 10 0 0), some (vI x1), some (vI x2), some (vI x3), some (vI x4), some (vI x5)], [vI x4], σ1)) rfl h7).trans ?_
  exact e_n 6 rfl
set_option maxRecDepth 20000 in
theorem g158_34_4 (C : pmC) {σ : pmS} {x1 : Int32} {x2 : Int32} {x3 : Int32} {x4 : Int32} {x5 : Int32} {σ1 : pmS} {r1 : Int32} (h1 : ¬ (σ.1 10 0 16 0) ≤ x5) (h2 : vp_in x5 48) (h3 : (σ.1 10 0 22 (x5).toNatClampNeg) = x1) (h4 : C 141 [vR 10 0 0, vI x5, vI x2] σ = some (some (vI r1), σ1)) (h5 : ¬ r1 = 0) (h6 : ¬ x3 = (-1 : Int32)) (h7 : ¬ (σ1.1 10 0 29 (x5).toNatClampNeg) = x3) : pq_Rn C (158, 34, [some (vR 10 0 0), some (vI x1), some (vI x2), some (vI x3), some (vI x4), some (vI x5)], [], σ) = pq_Rn C (158, 34, [some (vR 10 0 0), some (vI x1), some (vI x2), some (vI x3), some (vI (x4 + (0 : Int32))), some (vI (x5 + (1 : Int32)))], [], σ1) := by
  refine (e_n 3 (fr' := (158, 40, [some (vR 10 0 0), some (vI x1), some (vI x2), some (vI x3), some (vI x4), some (vI x5)], [vI (σ.1 10 0 16 0), vI x5], σ)) rfl).trans ?_
  refine (e_f (B := (158, 43, [some (vR 10 0 0), some (vI x1), some (vI x2), some (vI x3), some (vI x4), some (vI x5)], [], σ)) rfl h1).trans ?_
  refine (e_n 4 (fr' := (158, 51, [some (vR 10 0 0), some (vI x1), some (vI x2), some (vI x3), some (vI x4), some (vI x5)], [vI x5, vR 10 0 23, vI x4], σ)) rfl).trans ?_
  refine (e_a (A := (158, 52, [some (vR 10 0 0), some (vI x1), some (vI x2), some (vI x3), some (vI x4), some (vI x5)], [vI (σ.1 10 0 22 (x5).toNatClampNeg), vI x4], σ)) rfl h2).trans ?_
  refine (e_n 1 (fr' := (158, 53, [some (vR 10 0 0), some (vI x1), some (vI x2), some (vI x3), some (vI x4), some (vI x5)], [vI x1, vI (σ.1 10 0 22 (x5).toNatClampNeg), vI x4], σ)) rfl).trans ?_
  refine (e_t (A := (158, 56, [some (vR 10 0 0), some (vI x1), some (vI x2), some (vI x3), some (vI x4), some (vI x5)], [vI x4], σ)) rfl h3).trans ?_
  refine (e_n 3 (fr' := (158, 60, [some (vR 10 0 0), some (vI x1), some (vI x2), some (vI x3), some (vI x4), some (vI x5)], [vI x2, vI x5, vR 10 0 0, vI x4], σ)) rfl).trans ?_
  refine (e_ci (m := 158) (pc := 63) (ls := [some (vR 10 0 0), some (vI x1), some (vI x2), some (vI x3), some (vI x4), some (vI x5)]) (rest := [vI x4]) rfl h4).trans ?_
  refine (e_f (B := (158, 66, [some (vR 10 0 0), some (vI x1), some (vI x2), some (vI x3), some (vI x4), some (vI x5)], [vI x4], σ1)) rfl h5).trans ?_
  refine (e_n 2 (fr' := (158, 68, [some (vR 10 0 0), some (vI x1), some (vI x2), some (vI x3), some (vI x4), some (vI x5)], [vI (-1 : Int32), vI x3, vI x4], σ1)) rfl).trans ?_
  refine (e_f (B := (158, 71, [some (vR 10 0 0), some (vI x1), some (vI x2), some (vI x3), some (vI x4), some (vI x5)], [vI x4], σ1)) rfl h6).trans ?_
  refine (e_n 3 (fr' := (158, 77, [some (vR 10 0 0), some (vI x1), some (vI x2), some (vI x3), some (vI x4), some (vI x5)], [vI x5, vR 10 0 30, vI x4], σ1)) rfl).trans ?_
  refine (e_a (A := (158, 78, [some (vR 10 0 0), some (vI x1), some (vI x2), some (vI x3), some (vI x4), some (vI x5)], [vI (σ1.1 10 0 29 (x5).toNatClampNeg), vI x4], σ1)) rfl h2).trans ?_
  refine (e_n 1 (fr' := (158, 79, [some (vR 10 0 0), some (vI x1), some (vI x2), some (vI x3), some (vI x4), some (vI x5)], [vI x3, vI (σ1.1 10 0 29 (x5).toNatClampNeg), vI x4], σ1)) rfl).trans ?_
  refine (e_f (B := (158, 86, [some (vR 10 0 0), some (vI x1), some (vI x2), some (vI x3), some (vI x4), some (vI x5)], [vI x4], σ1)) rfl h7).trans ?_
  exact e_n 5 rfl
set_option maxRecDepth 20000 in
theorem g158_34_5 (C : pmC) {σ : pmS} {x1 : Int32} {x2 : Int32} {x3 : Int32} {x4 : Int32} {x5 : Int32} (h1 : ¬ (σ.1 10 0 16 0) ≤ x5) (h2 : vp_in x5 48) (h3 : ¬ (σ.1 10 0 22 (x5).toNatClampNeg) = x1) : pq_Rn C (158, 34, [some (vR 10 0 0), some (vI x1), some (vI x2), some (vI x3), some (vI x4), some (vI x5)], [], σ) = pq_Rn C (158, 34, [some (vR 10 0 0), some (vI x1), some (vI x2), some (vI x3), some (vI (x4 + (0 : Int32))), some (vI (x5 + (1 : Int32)))], [], σ) := by
  refine (e_n 3 (fr' := (158, 40, [some (vR 10 0 0), some (vI x1), some (vI x2), some (vI x3), some (vI x4), some (vI x5)], [vI (σ.1 10 0 16 0), vI x5], σ)) rfl).trans ?_
  refine (e_f (B := (158, 43, [some (vR 10 0 0), some (vI x1), some (vI x2), some (vI x3), some (vI x4), some (vI x5)], [], σ)) rfl h1).trans ?_
  refine (e_n 4 (fr' := (158, 51, [some (vR 10 0 0), some (vI x1), some (vI x2), some (vI x3), some (vI x4), some (vI x5)], [vI x5, vR 10 0 23, vI x4], σ)) rfl).trans ?_
  refine (e_a (A := (158, 52, [some (vR 10 0 0), some (vI x1), some (vI x2), some (vI x3), some (vI x4), some (vI x5)], [vI (σ.1 10 0 22 (x5).toNatClampNeg), vI x4], σ)) rfl h2).trans ?_
  refine (e_n 1 (fr' := (158, 53, [some (vR 10 0 0), some (vI x1), some (vI x2), some (vI x3), some (vI x4), some (vI x5)], [vI x1, vI (σ.1 10 0 22 (x5).toNatClampNeg), vI x4], σ)) rfl).trans ?_
  refine (e_f (B := (158, 86, [some (vR 10 0 0), some (vI x1), some (vI x2), some (vI x3), some (vI x4), some (vI x5)], [vI x4], σ)) rfl h3).trans ?_
  exact e_n 5 rfl
set_option maxRecDepth 20000 in
theorem g159_0_0 (C : pmC) {σ : pmS} {x1 : Int32} {x2 : Int32} {l3 : Option pmV} {l4 : Option pmV} {σ1 : pmS} {r1 : Int32} (h1 : C 138 [vI x1] σ = some (some (vI r1), σ1)) (h2 : r1 = 0) : pq_Rn C (159, 0, [some (vR 10 0 0), some (vI x1), some (vI x2), l3, l4], [], σ) = some (some (vI (-2 : Int32)), σ1) := by
  refine (e_n 1 (fr' := (159, 1, [some (vR 10 0 0), some (vI x1), some (vI x2), l3, l4], [vI x1], σ)) rfl).trans ?_
  refine (e_ci (m := 159) (pc := 4) (ls := [some (vR 10 0 0), some (vI x1), some (vI x2), l3, l4]) (rest := []) rfl h1).trans ?_
  refine (e_t (A := (159, 17, [some (vR 10 0 0), some (vI x1), some (vI x2), l3, l4], [], σ1)) rfl h2).trans ?_
  refine (e_n 1 (fr' := (159, 19, [some (vR 10 0 0), some (vI x1), some (vI x2), l3, l4], [vI (-2 : Int32)], σ1)) rfl).trans ?_
  exact e_r rfl
set_option maxRecDepth 20000 in
theorem g159_0_1 (C : pmC) {σ : pmS} {x1 : Int32} {x2 : Int32} {l3 : Option pmV} {l4 : Option pmV} {σ1 : pmS} {r1 : Int32} {σ2 : pmS} {r2 : Int32} (h1 : C 138 [vI x1] σ = some (some (vI r1), σ1)) (h2 : ¬ r1 = 0) (h3 : C 105 [vL (x2).toInt64, vL (0 : Int64), vL (1 : Int64)] σ1 = some (some (vI r2), σ2)) (h4 : r2 = 0) : pq_Rn C (159, 0, [some (vR 10 0 0), some (vI x1), some (vI x2), l3, l4], [], σ) = some (some (vI (-2 : Int32)), σ2) := by
  refine (e_n 1 (fr' := (159, 1, [some (vR 10 0 0), some (vI x1), some (vI x2), l3, l4], [vI x1], σ)) rfl).trans ?_
  refine (e_ci (m := 159) (pc := 4) (ls := [some (vR 10 0 0), some (vI x1), some (vI x2), l3, l4]) (rest := []) rfl h1).trans ?_
  refine (e_f (B := (159, 7, [some (vR 10 0 0), some (vI x1), some (vI x2), l3, l4], [], σ1)) rfl h2).trans ?_
  refine (e_n 4 (fr' := (159, 11, [some (vR 10 0 0), some (vI x1), some (vI x2), l3, l4], [vL (1 : Int64), vL (0 : Int64), vL (x2).toInt64], σ1)) rfl).trans ?_
  refine (e_ci (m := 159) (pc := 14) (ls := [some (vR 10 0 0), some (vI x1), some (vI x2), l3, l4]) (rest := []) rfl h3).trans ?_
  refine (e_t (A := (159, 17, [some (vR 10 0 0), some (vI x1), some (vI x2), l3, l4], [], σ2)) rfl h4).trans ?_
  refine (e_n 1 (fr' := (159, 19, [some (vR 10 0 0), some (vI x1), some (vI x2), l3, l4], [vI (-2 : Int32)], σ2)) rfl).trans ?_
  exact e_r rfl
set_option maxRecDepth 20000 in
theorem g159_0_2 (C : pmC) {σ : pmS} {x1 : Int32} {x2 : Int32} {l3 : Option pmV} {l4 : Option pmV} {σ1 : pmS} {r1 : Int32} {σ2 : pmS} {r2 : Int32} {σ3 : pmS} (h1 : C 138 [vI x1] σ = some (some (vI r1), σ1)) (h2 : ¬ r1 = 0) (h3 : C 105 [vL (x2).toInt64, vL (0 : Int64), vL (1 : Int64)] σ1 = some (some (vI r2), σ2)) (h4 : ¬ r2 = 0) (h5 : C 146 [vR 10 0 0] σ2 = some (none, σ3)) : pq_Rn C (159, 0, [some (vR 10 0 0), some (vI x1), some (vI x2), l3, l4], [], σ) = pq_Rn C (159, 29, [some (vR 10 0 0), some (vI x1), some (vI x2), some (vI (0 : Int32)), some (vI (0 : Int32))], [], σ3) := by
  refine (e_n 1 (fr' := (159, 1, [some (vR 10 0 0), some (vI x1), some (vI x2), l3, l4], [vI x1], σ)) rfl).trans ?_
  refine (e_ci (m := 159) (pc := 4) (ls := [some (vR 10 0 0), some (vI x1), some (vI x2), l3, l4]) (rest := []) rfl h1).trans ?_
  refine (e_f (B := (159, 7, [some (vR 10 0 0), some (vI x1), some (vI x2), l3, l4], [], σ1)) rfl h2).trans ?_
  refine (e_n 4 (fr' := (159, 11, [some (vR 10 0 0), some (vI x1), some (vI x2), l3, l4], [vL (1 : Int64), vL (0 : Int64), vL (x2).toInt64], σ1)) rfl).trans ?_
  refine (e_ci (m := 159) (pc := 14) (ls := [some (vR 10 0 0), some (vI x1), some (vI x2), l3, l4]) (rest := []) rfl h3).trans ?_
  refine (e_f (B := (159, 20, [some (vR 10 0 0), some (vI x1), some (vI x2), l3, l4], [], σ2)) rfl h4).trans ?_
  refine (e_n 1 (fr' := (159, 21, [some (vR 10 0 0), some (vI x1), some (vI x2), l3, l4], [vR 10 0 0], σ2)) rfl).trans ?_
  refine (e_cv (m := 159) (pc := 24) (ls := [some (vR 10 0 0), some (vI x1), some (vI x2), l3, l4]) (rest := []) rfl h5).trans ?_
  exact e_n 4 rfl
set_option maxRecDepth 20000 in
theorem g159_29_0 (C : pmC) {σ : pmS} {x1 : Int32} {x2 : Int32} {x3 : Int32} {x4 : Int32} (h1 : (σ.1 10 0 17 0) ≤ x4) : pq_Rn C (159, 29, [some (vR 10 0 0), some (vI x1), some (vI x2), some (vI x3), some (vI x4)], [], σ) = some (some (vI x3), σ) := by
  refine (e_n 3 (fr' := (159, 35, [some (vR 10 0 0), some (vI x1), some (vI x2), some (vI x3), some (vI x4)], [vI (σ.1 10 0 17 0), vI x4], σ)) rfl).trans ?_
  refine (e_t (A := (159, 100, [some (vR 10 0 0), some (vI x1), some (vI x2), some (vI x3), some (vI x4)], [], σ)) rfl h1).trans ?_
  refine (e_n 1 (fr' := (159, 101, [some (vR 10 0 0), some (vI x1), some (vI x2), some (vI x3), some (vI x4)], [vI x3], σ)) rfl).trans ?_
  exact e_r rfl
set_option maxRecDepth 20000 in
theorem g159_29_1 (C : pmC) {σ : pmS} {x1 : Int32} {x2 : Int32} {x3 : Int32} {x4 : Int32} {σ1 : pmS} {r1 : Int32} (h1 : ¬ (σ.1 10 0 17 0) ≤ x4) (h2 : C 149 [vR 10 0 0, vI x4, vI x1] σ = some (some (vI r1), σ1)) (h3 : r1 = 0) : pq_Rn C (159, 29, [some (vR 10 0 0), some (vI x1), some (vI x2), some (vI x3), some (vI x4)], [], σ) = pq_Rn C (159, 29, [some (vR 10 0 0), some (vI x1), some (vI x2), some (vI (x3 + (0 : Int32))), some (vI (x4 + (1 : Int32)))], [], σ1) := by
  refine (e_n 3 (fr' := (159, 35, [some (vR 10 0 0), some (vI x1), some (vI x2), some (vI x3), some (vI x4)], [vI (σ.1 10 0 17 0), vI x4], σ)) rfl).trans ?_
  refine (e_f (B := (159, 38, [some (vR 10 0 0), some (vI x1), some (vI x2), some (vI x3), some (vI x4)], [], σ)) rfl h1).trans ?_
  refine (e_n 4 (fr' := (159, 43, [some (vR 10 0 0), some (vI x1), some (vI x2), some (vI x3), some (vI x4)], [vI x1, vI x4, vR 10 0 0, vI x3], σ)) rfl).trans ?_
  refine (e_ci (m := 159) (pc := 46) (ls := [some (vR 10 0 0), some (vI x1), some (vI x2), some (vI x3), some (vI x4)]) (rest := [vI x3]) rfl h2).trans ?_
  refine (e_t (A := (159, 91, [some (vR 10 0 0), some (vI x1), some (vI x2), some (vI x3), some (vI x4)], [vI x3], σ1)) rfl h3).trans ?_
  exact e_n 5 rfl
set_option maxRecDepth 20000 in
theorem g159_29_2 (C : pmC) {σ : pmS} {x1 : Int32} {x2 : Int32} {x3 : Int32} {x4 : Int32} {σ1 : pmS} {r1 : Int32} {σ2 : pmS} {r2 : Int32} (h1 : ¬ (σ.1 10 0 17 0) ≤ x4) (h2 : C 149 [vR 10 0 0, vI x4, vI x1] σ = some (some (vI r1), σ1)) (h3 : ¬ r1 = 0) (h4 : vp_in x4 40) (h5 : C 148 [vR 10 0 0, vI (σ1.1 10 0 26 (x4).toNatClampNeg), vI (σ1.1 10 0 27 (x4).toNatClampNeg), vI (σ1.1 10 0 28 (x4).toNatClampNeg)] σ1 = some (some (vI r2), σ2)) (h6 : x2 = (1 : Int32)) (h7 : r2 = (1 : Int32)) : pq_Rn C (159, 29, [some (vR 10 0 0), some (vI x1), some (vI x2), some (vI x3), some (vI x4)], [], σ) = pq_Rn C (159, 29, [some (vR 10 0 0), some (vI x1), some (vI x2), some (vI (x3 + (1 : Int32))), some (vI (x4 + (1 : Int32)))], [], σ2) := by
  refine (e_n 3 (fr' := (159, 35, [some (vR 10 0 0), some (vI x1), some (vI x2), some (vI x3), some (vI x4)], [vI (σ.1 10 0 17 0), vI x4], σ)) rfl).trans ?_
  refine (e_f (B := (159, 38, [some (vR 10 0 0), some (vI x1), some (vI x2), some (vI x3), some (vI x4)], [], σ)) rfl h1).trans ?_
  refine (e_n 4 (fr' := (159, 43, [some (vR 10 0 0), some (vI x1), some (vI x2), some (vI x3), some (vI x4)], [vI x1, vI x4, vR 10 0 0, vI x3], σ)) rfl).trans ?_
  refine (e_ci (m := 159) (pc := 46) (ls := [some (vR 10 0 0), some (vI x1), some (vI x2), some (vI x3), some (vI x4)]) (rest := [vI x3]) rfl h2).trans ?_
  refine (e_f (B := (159, 49, [some (vR 10 0 0), some (vI x1), some (vI x2), some (vI x3), some (vI x4)], [vI x3], σ1)) rfl h3).trans ?_
  refine (e_n 4 (fr' := (159, 56, [some (vR 10 0 0), some (vI x1), some (vI x2), some (vI x3), some (vI x4)], [vI x4, vR 10 0 27, vR 10 0 0, vI x3], σ1)) rfl).trans ?_
  refine (e_a (A := (159, 57, [some (vR 10 0 0), some (vI x1), some (vI x2), some (vI x3), some (vI x4)], [vI (σ1.1 10 0 26 (x4).toNatClampNeg), vR 10 0 0, vI x3], σ1)) rfl h4).trans ?_
  refine (e_n 3 (fr' := (159, 63, [some (vR 10 0 0), some (vI x1), some (vI x2), some (vI x3), some (vI x4)], [vI x4, vR 10 0 28, vI (σ1.1 10 0 26 (x4).toNatClampNeg), vR 10 0 0, vI x3], σ1)) rfl).trans ?_
  refine (e_a (A := (159, 64, [some (vR 10 0 0), some (vI x1), some (vI x2), some (vI x3), some (vI x4)], [vI (σ1.1 10 0 27 (x4).toNatClampNeg), vI (σ1.1 10 0 26 (x4).toNatClampNeg), vR 10 0 0, vI x3], σ1)) rfl h4).trans ?_
  refine (e_n 3 (fr' := (159, 70, [some (vR 10 0 0), some (vI x1), some (vI x2), some (vI x3), some (vI x4)], [vI x4, vR 10 0 29, vI (σ1.1 10 0 27 (x4).toNatClampNeg), vI (σ1.1 10 0 26 (x4).toNatClampNeg), vR 10 0 0, vI x3], σ1)) rfl).trans ?_
  refine (e_a (A := (159, 71, [some (vR 10 0 0), some (vI x1), some (vI x2), some (vI x3), some (vI x4)], [vI (σ1.1 10 0 28 (x4).toNatClampNeg), vI (σ1.1 10 0 27 (x4).toNatClampNeg), vI (σ1.1 10 0 26 (x4).toNatClampNeg), vR 10 0 0, vI x3], σ1)) rfl h4).trans ?_
  refine (e_ci (m := 159) (pc := 74) (ls := [some (vR 10 0 0), some (vI x1), some (vI x2), some (vI x3), some (vI x4)]) (rest := [vI x3]) rfl h5).trans ?_
  refine (e_n 2 (fr' := (159, 76, [some (vR 10 0 0), some (vI x1), some (vI x2), some (vI x3), some (vI x4)], [vI (1 : Int32), vI x2, vI r2, vI x3], σ2)) rfl).trans ?_
  refine (e_t (A := (159, 79, [some (vR 10 0 0), some (vI x1), some (vI x2), some (vI x3), some (vI x4)], [vI r2, vI x3], σ2)) rfl h6).trans ?_
  refine (e_n 2 (fr' := (159, 84, [some (vR 10 0 0), some (vI x1), some (vI x2), some (vI x3), some (vI x4)], [vI (1 : Int32), vI r2, vI x3], σ2)) rfl).trans ?_
  refine (e_t (A := (159, 87, [some (vR 10 0 0), some (vI x1), some (vI x2), some (vI x3), some (vI x4)], [vI x3], σ2)) rfl h7).trans ?_
  exact e_n 6 rfl
set_option maxRecDepth 20000 in
theorem g159_29_3 (C : pmC) {σ : pmS} {x1 : Int32} {x2 : Int32} {x3 : Int32} {x4 : Int32} {σ1 : pmS} {r1 : Int32} {σ2 : pmS} {r2 : Int32} (h1 : ¬ (σ.1 10 0 17 0) ≤ x4) (h2 : C 149 [vR 10 0 0, vI x4, vI x1] σ = some (some (vI r1), σ1)) (h3 : ¬ r1 = 0) (h4 : vp_in x4 40) (h5 : C 148 [vR 10 0 0, vI (σ1.1 10 0 26 (x4).toNatClampNeg), vI (σ1.1 10 0 27 (x4).toNatClampNeg), vI (σ1.1 10 0 28 (x4).toNatClampNeg)] σ1 = some (some (vI r2), σ2)) (h6 : x2 = (1 : Int32)) (h7 : ¬ r2 = (1 : Int32)) : pq_Rn C (159, 29, [some (vR 10 0 0), some (vI x1), some (vI x2), some (vI x3), some (vI x4)], [], σ) = pq_Rn C (159, 29, [some (vR 10 0 0), some (vI x1), some (vI x2), some (vI (x3 + (0 : Int32))), some (vI (x4 + (1 : Int32)))], [], σ2) := by
  refine (e_n 3 (fr' := (159, 35, [some (vR 10 0 0), some (vI x1), some (vI x2), some (vI x3), some (vI x4)], [vI (σ.1 10 0 17 0), vI x4], σ)) rfl).trans ?_
  refine (e_f (B := (159, 38, [some (vR 10 0 0), some (vI x1), some (vI x2), some (vI x3), some (vI x4)], [], σ)) rfl h1).trans ?_
  refine (e_n 4 (fr' := (159, 43, [some (vR 10 0 0), some (vI x1), some (vI x2), some (vI x3), some (vI x4)], [vI x1, vI x4, vR 10 0 0, vI x3], σ)) rfl).trans ?_
  refine (e_ci (m := 159) (pc := 46) (ls := [some (vR 10 0 0), some (vI x1), some (vI x2), some (vI x3), some (vI x4)]) (rest := [vI x3]) rfl h2).trans ?_
  refine (e_f (B := (159, 49, [some (vR 10 0 0), some (vI x1), some (vI x2), some (vI x3), some (vI x4)], [vI x3], σ1)) rfl h3).trans ?_
  refine (e_n 4 (fr' := (159, 56, [some (vR 10 0 0), some (vI x1), some (vI x2), some (vI x3), some (vI x4)], [vI x4, vR 10 0 27, vR 10 0 0, vI x3], σ1)) rfl).trans ?_
  refine (e_a (A := (159, 57, [some (vR 10 0 0), some (vI x1), some (vI x2), some (vI x3), some (vI x4)], [vI (σ1.1 10 0 26 (x4).toNatClampNeg), vR 10 0 0, vI x3], σ1)) rfl h4).trans ?_
  refine (e_n 3 (fr' := (159, 63, [some (vR 10 0 0), some (vI x1), some (vI x2), some (vI x3), some (vI x4)], [vI x4, vR 10 0 28, vI (σ1.1 10 0 26 (x4).toNatClampNeg), vR 10 0 0, vI x3], σ1)) rfl).trans ?_
  refine (e_a (A := (159, 64, [some (vR 10 0 0), some (vI x1), some (vI x2), some (vI x3), some (vI x4)], [vI (σ1.1 10 0 27 (x4).toNatClampNeg), vI (σ1.1 10 0 26 (x4).toNatClampNeg), vR 10 0 0, vI x3], σ1)) rfl h4).trans ?_
  refine (e_n 3 (fr' := (159, 70, [some (vR 10 0 0), some (vI x1), some (vI x2), some (vI x3), some (vI x4)], [vI x4, vR 10 0 29, vI (σ1.1 10 0 27 (x4).toNatClampNeg), vI (σ1.1 10 0 26 (x4).toNatClampNeg), vR 10 0 0, vI x3], σ1)) rfl).trans ?_
  refine (e_a (A := (159, 71, [some (vR 10 0 0), some (vI x1), some (vI x2), some (vI x3), some (vI x4)], [vI (σ1.1 10 0 28 (x4).toNatClampNeg), vI (σ1.1 10 0 27 (x4).toNatClampNeg), vI (σ1.1 10 0 26 (x4).toNatClampNeg), vR 10 0 0, vI x3], σ1)) rfl h4).trans ?_
  refine (e_ci (m := 159) (pc := 74) (ls := [some (vR 10 0 0), some (vI x1), some (vI x2), some (vI x3), some (vI x4)]) (rest := [vI x3]) rfl h5).trans ?_
  refine (e_n 2 (fr' := (159, 76, [some (vR 10 0 0), some (vI x1), some (vI x2), some (vI x3), some (vI x4)], [vI (1 : Int32), vI x2, vI r2, vI x3], σ2)) rfl).trans ?_
  refine (e_t (A := (159, 79, [some (vR 10 0 0), some (vI x1), some (vI x2), some (vI x3), some (vI x4)], [vI r2, vI x3], σ2)) rfl h6).trans ?_
  refine (e_n 2 (fr' := (159, 84, [some (vR 10 0 0), some (vI x1), some (vI x2), some (vI x3), some (vI x4)], [vI (1 : Int32), vI r2, vI x3], σ2)) rfl).trans ?_
  refine (e_f (B := (159, 91, [some (vR 10 0 0), some (vI x1), some (vI x2), some (vI x3), some (vI x4)], [vI x3], σ2)) rfl h7).trans ?_
  exact e_n 5 rfl
set_option maxRecDepth 20000 in
theorem g159_29_4 (C : pmC) {σ : pmS} {x1 : Int32} {x2 : Int32} {x3 : Int32} {x4 : Int32} {σ1 : pmS} {r1 : Int32} {σ2 : pmS} {r2 : Int32} (h1 : ¬ (σ.1 10 0 17 0) ≤ x4) (h2 : C 149 [vR 10 0 0, vI x4, vI x1] σ = some (some (vI r1), σ1)) (h3 : ¬ r1 = 0) (h4 : vp_in x4 40) (h5 : C 148 [vR 10 0 0, vI (σ1.1 10 0 26 (x4).toNatClampNeg), vI (σ1.1 10 0 27 (x4).toNatClampNeg), vI (σ1.1 10 0 28 (x4).toNatClampNeg)] σ1 = some (some (vI r2), σ2)) (h6 : ¬ x2 = (1 : Int32)) (h7 : r2 = (0 : Int32)) : pq_Rn C (159, 29, [some (vR 10 0 0), some (vI x1), some (vI x2), some (vI x3), some (vI x4)], [], σ) = pq_Rn C (159, 29, [some (vR 10 0 0), some (vI x1), some (vI x2), some (vI (x3 + (1 : Int32))), some (vI (x4 + (1 : Int32)))], [], σ2) := by
  refine (e_n 3 (fr' := (159, 35, [some (vR 10 0 0), some (vI x1), some (vI x2), some (vI x3), some (vI x4)], [vI (σ.1 10 0 17 0), vI x4], σ)) rfl).trans ?_
  refine (e_f (B := (159, 38, [some (vR 10 0 0), some (vI x1), some (vI x2), some (vI x3), some (vI x4)], [], σ)) rfl h1).trans ?_
  refine (e_n 4 (fr' := (159, 43, [some (vR 10 0 0), some (vI x1), some (vI x2), some (vI x3), some (vI x4)], [vI x1, vI x4, vR 10 0 0, vI x3], σ)) rfl).trans ?_
  refine (e_ci (m := 159) (pc := 46) (ls := [some (vR 10 0 0), some (vI x1), some (vI x2), some (vI x3), some (vI x4)]) (rest := [vI x3]) rfl h2).trans ?_
  refine (e_f (B := (159, 49, [some (vR 10 0 0), some (vI x1), some (vI x2), some (vI x3), some (vI x4)], [vI x3], σ1)) rfl h3).trans ?_
  refine (e_n 4 (fr' := (159, 56, [some (vR 10 0 0), some (vI x1), some (vI x2), some (vI x3), some (vI x4)], [vI x4, vR 10 0 27, vR 10 0 0, vI x3], σ1)) rfl).trans ?_
  refine (e_a (A := (159, 57, [some (vR 10 0 0), some (vI x1), some (vI x2), some (vI x3), some (vI x4)], [vI (σ1.1 10 0 26 (x4).toNatClampNeg), vR 10 0 0, vI x3], σ1)) rfl h4).trans ?_
  refine (e_n 3 (fr' := (159, 63, [some (vR 10 0 0), some (vI x1), some (vI x2), some (vI x3), some (vI x4)], [vI x4, vR 10 0 28, vI (σ1.1 10 0 26 (x4).toNatClampNeg), vR 10 0 0, vI x3], σ1)) rfl).trans ?_
  refine (e_a (A := (159, 64, [some (vR 10 0 0), some (vI x1), some (vI x2), some (vI x3), some (vI x4)], [vI (σ1.1 10 0 27 (x4).toNatClampNeg), vI (σ1.1 10 0 26 (x4).toNatClampNeg), vR 10 0 0, vI x3], σ1)) rfl h4).trans ?_
  refine (e_n 3 (fr' := (159, 70, [some (vR 10 0 0), some (vI x1), some (vI x2), some (vI x3), some (vI x4)], [vI x4, vR 10 0 29, vI (σ1.1 10 0 27 (x4).toNatClampNeg), vI (σ1.1 10 0 26 (x4).toNatClampNeg), vR 10 0 0, vI x3], σ1)) rfl).trans ?_
  refine (e_a (A := (159, 71, [some (vR 10 0 0), some (vI x1), some (vI x2), some (vI x3), some (vI x4)], [vI (σ1.1 10 0 28 (x4).toNatClampNeg), vI (σ1.1 10 0 27 (x4).toNatClampNeg), vI (σ1.1 10 0 26 (x4).toNatClampNeg), vR 10 0 0, vI x3], σ1)) rfl h4).trans ?_
  refine (e_ci (m := 159) (pc := 74) (ls := [some (vR 10 0 0), some (vI x1), some (vI x2), some (vI x3), some (vI x4)]) (rest := [vI x3]) rfl h5).trans ?_
  refine (e_n 2 (fr' := (159, 76, [some (vR 10 0 0), some (vI x1), some (vI x2), some (vI x3), some (vI x4)], [vI (1 : Int32), vI x2, vI r2, vI x3], σ2)) rfl).trans ?_
  refine (e_f (B := (159, 83, [some (vR 10 0 0), some (vI x1), some (vI x2), some (vI x3), some (vI x4)], [vI r2, vI x3], σ2)) rfl h6).trans ?_
  refine (e_n 1 (fr' := (159, 84, [some (vR 10 0 0), some (vI x1), some (vI x2), some (vI x3), some (vI x4)], [vI (0 : Int32), vI r2, vI x3], σ2)) rfl).trans ?_
  refine (e_t (A := (159, 87, [some (vR 10 0 0), some (vI x1), some (vI x2), some (vI x3), some (vI x4)], [vI x3], σ2)) rfl h7).trans ?_
  exact e_n 6 rfl
set_option maxRecDepth 20000 in
theorem g159_29_5 (C : pmC) {σ : pmS} {x1 : Int32} {x2 : Int32} {x3 : Int32} {x4 : Int32} {σ1 : pmS} {r1 : Int32} {σ2 : pmS} {r2 : Int32} (h1 : ¬ (σ.1 10 0 17 0) ≤ x4) (h2 : C 149 [vR 10 0 0, vI x4, vI x1] σ = some (some (vI r1), σ1)) (h3 : ¬ r1 = 0) (h4 : vp_in x4 40) (h5 : C 148 [vR 10 0 0, vI (σ1.1 10 0 26 (x4).toNatClampNeg), vI (σ1.1 10 0 27 (x4).toNatClampNeg), vI (σ1.1 10 0 28 (x4).toNatClampNeg)] σ1 = some (some (vI r2), σ2)) (h6 : ¬ x2 = (1 : Int32)) (h7 : ¬ r2 = (0 : Int32)) : pq_Rn C (159, 29, [some (vR 10 0 0), some (vI x1), some (vI x2), some (vI x3), some (vI x4)], [], σ) = pq_Rn C (159, 29, [some (vR 10 0 0), some (vI x1), some (vI x2), some (vI (x3 + (0 : Int32))), some (vI (x4 + (1 : Int32)))], [], σ2) := by
  refine (e_n 3 (fr' := (159, 35, [some (vR 10 0 0), some (vI x1), some (vI x2), some (vI x3), some (vI x4)], [vI (σ.1 10 0 17 0), vI x4], σ)) rfl).trans ?_
  refine (e_f (B := (159, 38, [some (vR 10 0 0), some (vI x1), some (vI x2), some (vI x3), some (vI x4)], [], σ)) rfl h1).trans ?_
  refine (e_n 4 (fr' := (159, 43, [some (vR 10 0 0), some (vI x1), some (vI x2), some (vI x3), some (vI x4)], [vI x1, vI x4, vR 10 0 0, vI x3], σ)) rfl).trans ?_
  refine (e_ci (m := 159) (pc := 46) (ls := [some (vR 10 0 0), some (vI x1), some (vI x2), some (vI x3), some (vI x4)]) (rest := [vI x3]) rfl h2).trans ?_
  refine (e_f (B := (159, 49, [some (vR 10 0 0), some (vI x1), some (vI x2), some (vI x3), some (vI x4)], [vI x3], σ1)) rfl h3).trans ?_
  refine (e_n 4 (fr' := (159, 56, [some (vR 10 0 0), some (vI x1), some (vI x2), some (vI x3), some (vI x4)], [vI x4, vR 10 0 27, vR 10 0 0, vI x3], σ1)) rfl).trans ?_
  refine (e_a (A := (159, 57, [some (vR 10 0 0), some (vI x1), some (vI x2), some (vI x3), some (vI x4)], [vI (σ1.1 10 0 26 (x4).toNatClampNeg), vR 10 0 0, vI x3], σ1)) rfl h4).trans ?_
  refine (e_n 3 (fr' := (159, 63, [some (vR 10 0 0), some (vI x1), some (vI x2), some (vI x3), some (vI x4)], [vI x4, vR 10 0 28, vI (σ1.1 10 0 26 (x4).toNatClampNeg), vR 10 0 0, vI x3], σ1)) rfl).trans ?_
  refine (e_a (A := (159, 64, [some (vR 10 0 0), some (vI x1), some (vI x2), some (vI x3), some (vI x4)], [vI (σ1.1 10 0 27 (x4).toNatClampNeg), vI (σ1.1 10 0 26 (x4).toNatClampNeg), vR 10 0 0, vI x3], σ1)) rfl h4).trans ?_
  refine (e_n 3 (fr' := (159, 70, [some (vR 10 0 0), some (vI x1), some (vI x2), some (vI x3), some (vI x4)], [vI x4, vR 10 0 29, vI (σ1.1 10 0 27 (x4).toNatClampNeg), vI (σ1.1 10 0 26 (x4).toNatClampNeg), vR 10 0 0, vI x3], σ1)) rfl).trans ?_
  refine (e_a (A := (159, 71, [some (vR 10 0 0), some (vI x1), some (vI x2), some (vI x3), some (vI x4)], [vI (σ1.1 10 0 28 (x4).toNatClampNeg), vI (σ1.1 10 0 27 (x4).toNatClampNeg), vI (σ1.1 10 0 26 (x4).toNatClampNeg), vR 10 0 0, vI x3], σ1)) rfl h4).trans ?_
  refine (e_ci (m := 159) (pc := 74) (ls := [some (vR 10 0 0), some (vI x1), some (vI x2), some (vI x3), some (vI x4)]) (rest := [vI x3]) rfl h5).trans ?_
  refine (e_n 2 (fr' := (159, 76, [some (vR 10 0 0), some (vI x1), some (vI x2), some (vI x3), some (vI x4)], [vI (1 : Int32), vI x2, vI r2, vI x3], σ2)) rfl).trans ?_
  refine (e_f (B := (159, 83, [some (vR 10 0 0), some (vI x1), some (vI x2), some (vI x3), some (vI x4)], [vI r2, vI x3], σ2)) rfl h6).trans ?_
  refine (e_n 1 (fr' := (159, 84, [some (vR 10 0 0), some (vI x1), some (vI x2), some (vI x3), some (vI x4)], [vI (0 : Int32), vI r2, vI x3], σ2)) rfl).trans ?_
  refine (e_f (B := (159, 91, [some (vR 10 0 0), some (vI x1), some (vI x2), some (vI x3), some (vI x4)], [vI x3], σ2)) rfl h7).trans ?_
  exact e_n 5 rfl
set_option maxRecDepth 20000 in
theorem g160_0_0 (C : pmC) {σ : pmS} {x1 : Int32} {l2 : Option pmV} {l3 : Option pmV} {l4 : Option pmV}  : pq_Rn C (160, 0, [some (vR 10 0 0), some (vI x1), l2, l3, l4], [], σ) = pq_Rn C (160, 2, [some (vR 10 0 0), some (vI x1), some (vI (0 : Int32)), l3, l4], [], σ) := by
  exact e_n 2 rfl
set_option maxRecDepth 20000 in
theorem g160_2_0 (C : pmC) {σ : pmS} {x1 : Int32} {x2 : Int32} {l3 : Option pmV} {l4 : Option pmV} (h1 : (σ.1 10 0 16 0) ≤ x2) : pq_Rn C (160, 2, [some (vR 10 0 0), some (vI x1), some (vI x2), l3, l4], [], σ) = pq_Rn C (160, 34, [some (vR 10 0 0), some (vI x1), some (vI (1 : Int32)), some (vI (0 : Int32)), l4], [], (pm_wi σ 10 0 34 ((0 : Int32)).toNatClampNeg x1)) := by
  refine (e_n 3 (fr' := (160, 7, [some (vR 10 0 0), some (vI x1), some (vI x2), l3, l4], [vI (σ.1 10 0 16 0), vI x2], σ)) rfl).trans ?_
  refine (e_t (A := (160, 23, [some (vR 10 0 0), some (vI x1), some (vI x2), l3, l4], [], σ)) rfl h1).trans ?_
  exact e_n 9 rfl
set_option maxRecDepth 20000 in
theorem g160_2_1 (C : pmC) {σ : pmS} {x1 : Int32} {x2 : Int32} {l3 : Option pmV} {l4 : Option pmV} (h1 : ¬ (σ.1 10 0 16 0) ≤ x2) (h2 : vp_in x2 48) : pq_Rn C (160, 2, [some (vR 10 0 0), some (vI x1), some (vI x2), l3, l4], [], σ) = pq_Rn C (160, 2, [some (vR 10 0 0), some (vI x1), some (vI (x2 + (1 : Int32))), l3, l4], [], (pm_wi σ 10 0 33 (x2).toNatClampNeg (-1 : Int32))) := by
  refine (e_n 3 (fr' := (160, 7, [some (vR 10 0 0), some (vI x1), some (vI x2), l3, l4], [vI (σ.1 10 0 16 0), vI x2], σ)) rfl).trans ?_
  refine (e_f (B := (160, 10, [some (vR 10 0 0), some (vI x1), some (vI x2), l3, l4], [], σ)) rfl h1).trans ?_
  refine (e_n 4 (fr' := (160, 16, [some (vR 10 0 0), some (vI x1), some (vI x2), l3, l4], [vI (-1 : Int32), vI x2, vR 10 0 34], σ)) rfl).trans ?_
  refine (e_a (A := (160, 17, [some (vR 10 0 0), some (vI x1), some (vI x2), l3, l4], [], (pm_wi σ 10 0 33 (x2).toNatClampNeg (-1 : Int32)))) rfl h2).trans ?_
  exact e_n 2 rfl
set_option maxRecDepth 20000 in
theorem g160_34_0 (C : pmC) {σ : pmS} {l1 : Option pmV} {x2 : Int32} {x3 : Int32} {l4 : Option pmV} (h1 : x2 ≤ x3) : pq_Rn C (160, 34, [some (vR 10 0 0), l1, some (vI x2), some (vI x3), l4], [], σ) = some (some (vI (0 : Int32)), σ) := by
  refine (e_n 2 (fr' := (160, 36, [some (vR 10 0 0), l1, some (vI x2), some (vI x3), l4], [vI x2, vI x3], σ)) rfl).trans ?_
  refine (e_t (A := (160, 156, [some (vR 10 0 0), l1, some (vI x2), some (vI x3), l4], [], σ)) rfl h1).trans ?_
  refine (e_n 1 (fr' := (160, 157, [some (vR 10 0 0), l1, some (vI x2), some (vI x3), l4], [vI (0 : Int32)], σ)) rfl).trans ?_
  exact e_r rfl
set_option maxRecDepth 20000 in
theorem g160_34_1 (C : pmC) {σ : pmS} {l1 : Option pmV} {x2 : Int32} {x3 : Int32} {l4 : Option pmV} (h1 : ¬ x2 ≤ x3) : pq_Rn C (160, 34, [some (vR 10 0 0), l1, some (vI x2), some (vI x3), l4], [], σ) = pq_Rn C (160, 42, [some (vR 10 0 0), l1, some (vI x2), some (vI x3), some (vI (0 : Int32))], [], σ) := by
  refine (e_n 2 (fr' := (160, 36, [some (vR 10 0 0), l1, some (vI x2), some (vI x3), l4], [vI x2, vI x3], σ)) rfl).trans ?_
  refine (e_f (B := (160, 39, [some (vR 10 0 0), l1, some (vI x2), some (vI x3), l4], [], σ)) rfl h1).trans ?_
  exact e_n 2 rfl
set_option maxRecDepth 20000 in
theorem g160_42_0 (C : pmC) {σ : pmS} {l1 : Option pmV} {x2 : Int32} {x3 : Int32} {x4 : Int32} (h1 : (σ.1 10 0 16 0) ≤ x4) : pq_Rn C (160, 42, [some (vR 10 0 0), l1, some (vI x2), some (vI x3), some (vI x4)], [], σ) = pq_Rn C (160, 34, [some (vR 10 0 0), l1, some (vI x2), some (vI (x3 + (1 : Int32))), some (vI x4)], [], σ) := by
  refine (e_n 3 (fr' := (160, 48, [some (vR 10 0 0), l1, some (vI x2), some (vI x3), some (vI x4)], [vI (σ.1 10 0 16 0), vI x4], σ)) rfl).trans ?_
  refine (e_t (A := (160, 150, [some (vR 10 0 0), l1, some (vI x2), some (vI x3), some (vI x4)], [], σ)) rfl h1).trans ?_
  exact e_n 2 rfl
set_option maxRecDepth 20000 in
theorem g160_42_1 (C : pmC) {σ : pmS} {l1 : Option pmV} {x2 : Int32} {x3 : Int32} {x4 : Int32} (h1 : ¬ (σ.1 10 0 16 0) ≤ x4) (h2 : vp_in x3 48) (h3 : vp_in (((48 : Int32) * (σ.1 10 0 34 (x3).toNatClampNeg)) + x4) 2304) (h4 : (σ.1 10 0 31 ((((48 : Int32) * (σ.1 10 0 34 (x3).toNatClampNeg)) + x4)).toNatClampNeg) = 0) : pq_Rn C (160, 42, [some (vR 10 0 0), l1, some (vI x2), some (vI x3), some (vI x4)], [], σ) = pq_Rn C (160, 42, [some (vR 10 0 0), l1, some (vI x2), some (vI x3), some (vI (x4 + (1 : Int32)))], [], σ) := by
  refine (e_n 3 (fr' := (160, 48, [some (vR 10 0 0), l1, some (vI x2), some (vI x3), some (vI x4)], [vI (σ.1 10 0 16 0), vI x4], σ)) rfl).trans ?_
  refine (e_f (B := (160, 51, [some (vR 10 0 0), l1, some (vI x2), some (vI x3), some (vI x4)], [], σ)) rfl h1).trans ?_
  refine (e_n 6 (fr' := (160, 62, [some (vR 10 0 0), l1, some (vI x2), some (vI x3), some (vI x4)], [vI x3, vR 10 0 35, vI (48 : Int32), vR 10 0 32], σ)) rfl).trans ?_
  refine (e_a (A := (160, 63, [some (vR 10 0 0), l1, some (vI x2), some (vI x3), some (vI x4)], [vI (σ.1 10 0 34 (x3).toNatClampNeg), vI (48 : Int32), vR 10 0 32], σ)) rfl h2).trans ?_
  refine (e_n 3 (fr' := (160, 67, [some (vR 10 0 0), l1, some (vI x2), some (vI x3), some (vI x4)], [vI (((48 : Int32) * (σ.1 10 0 34 (x3).toNatClampNeg)) + x4), vR 10 0 32], σ)) rfl).trans ?_
  refine (e_a (A := (160, 68, [some (vR 10 0 0), l1, some (vI x2), some (vI x3), some (vI x4)], [vI (σ.1 10 0 31 ((((48 : Int32) * (σ.1 10 0 34 (x3).toNatClampNeg)) + x4)).toNatClampNeg)], σ)) rfl h3).trans ?_
  refine (e_t (A := (160, 144, [some (vR 10 0 0), l1, some (vI x2), some (vI x3), some (vI x4)], [], σ)) rfl h4).trans ?_
  exact e_n 2 rfl
set_option maxRecDepth 20000 in
theorem g160_42_2 (C : pmC) {σ : pmS} {l1 : Option pmV} {x2 : Int32} {x3 : Int32} {x4 : Int32} (h1 : ¬ (σ.1 10 0 16 0) ≤ x4) (h2 : vp_in x3 48) (h3 : vp_in (((48 : Int32) * (σ.1 10 0 34 (x3).toNatClampNeg)) + x4) 2304) (h4 : ¬ (σ.1 10 0 31 ((((48 : Int32) * (σ.1 10 0 34 (x3).toNatClampNeg)) + x4)).toNatClampNeg) = 0) (h5 : vp_in x4 48) (h6 : 0 ≤ (σ.1 10 0 33 (x4).toNatClampNeg)) : pq_Rn C (160, 42, [some (vR 10 0 0), l1, some (vI x2), some (vI x3), some (vI x4)], [], σ) = pq_Rn C (160, 42, [some (vR 10 0 0), l1, some (vI x2), some (vI x3), some (vI (x4 + (1 : Int32)))], [], σ) := by
  refine (e_n 3 (fr' := (160, 48, [some (vR 10 0 0), l1, some (vI x2), some (vI x3), some (vI x4)], [vI (σ.1 10 0 16 0), vI x4], σ)) rfl).trans ?_
  refine (e_f (B := (160, 51, [some (vR 10 0 0), l1, some (vI x2), some (vI x3), some (vI x4)], [], σ)) rfl h1).trans ?_
  refine (e_n 6 (fr' := (160, 62, [some (vR 10 0 0), l1, some (vI x2), some (vI x3), some (vI x4)], [vI x3, vR 10 0 35, vI (48 : Int32), vR 10 0 32], σ)) rfl).trans ?_
  refine (e_a (A := (160, 63, [some (vR 10 0 0), l1, some (vI x2), some (vI x3), some (vI x4)], [vI (σ.1 10 0 34 (x3).toNatClampNeg), vI (48 : Int32), vR 10 0 32], σ)) rfl h2).trans ?_
  refine (e_n 3 (fr' := (160, 67, [some (vR 10 0 0), l1, some (vI x2), some (vI x3), some (vI x4)], [vI (((48 : Int32) * (σ.1 10 0 34 (x3).toNatClampNeg)) + x4), vR 10 0 32], σ)) rfl).trans ?_
  refine (e_a (A := (160, 68, [some (vR 10 0 0), l1, some (vI x2), some (vI x3), some (vI x4)], [vI (σ.1 10 0 31 ((((48 : Int32) * (σ.1 10 0 34 (x3).toNatClampNeg)) + x4)).toNatClampNeg)], σ)) rfl h3).trans ?_
  refine (e_f (B := (160, 71, [some (vR 10 0 0), l1, some (vI x2), some (vI x3), some (vI x4)], [], σ)) rfl h4).trans ?_
  refine (e_n 3 (fr' := (160, 77, [some (vR 10 0 0), l1, some (vI x2), some (vI x3), some (vI x4)], [vI x4, vR 10 0 34], σ)) rfl).trans ?_
  refine (e_a (A := (160, 78, [some (vR 10 0 0), l1, some (vI x2), some (vI x3), some (vI x4)], [vI (σ.1 10 0 33 (x4).toNatClampNeg)], σ)) rfl h5).trans ?_
  refine (e_t (A := (160, 144, [some (vR 10 0 0), l1, some (vI x2), some (vI x3), some (vI x4)], [], σ)) rfl h6).trans ?_
  exact e_n 2 rfl
set_option maxRecDepth 20000 in
theorem g160_42_3 (C : pmC) {σ : pmS} {l1 : Option pmV} {x2 : Int32} {x3 : Int32} {x4 : Int32} {σ1 : pmS} (h1 : ¬ (σ.1 10 0 16 0) ≤ x4) (h2 : vp_in x3 48) (h3 : vp_in (((48 : Int32) * (σ.1 10 0 34 (x3).toNatClampNeg)) + x4) 2304) (h4 : ¬ (σ.1 10 0 31 ((((48 : Int32) * (σ.1 10 0 34 (x3).toNatClampNeg)) + x4)).toNatClampNeg) = 0) (h5 : vp_in x4 48) (h6 : ¬ 0 ≤ (σ.1 10 0 33 (x4).toNatClampNeg)) (h7 : (σ.1 10 0 35 (x4).toNatClampNeg) < 0) (h8 : (σ.1 10 0 32 (x4).toNatClampNeg) < 0) (h9 : C 161 [vR 10 0 0, vI x4] (pm_wi σ 10 0 33 (x4).toNatClampNeg (σ.1 10 0 34 (x3).toNatClampNeg)) = some (none, σ1)) : pq_Rn C (160, 42, [some (vR 10 0 0), l1, some (vI x2), some (vI x3), some (vI x4)], [], σ) = some (some (vI (1 : Int32)), σ1) := by
  refine (e_n 3 (fr' := (160, 48, [some (vR 10 0 0), l1, some (vI x2), some (vI x3), some (vI x4)], [vI (σ.1 10 0 16 0), vI x4], σ)) rfl).trans ?_
  refine (e_f (B := (160, 51, [some (vR 10 0 0), l1, some (vI x2), some (vI x3), some (vI x4)], [], σ)) rfl h1).trans ?_
  refine (e_n 6 (fr' := (160, 62, [some (vR 10 0 0), l1, some (vI x2), some (vI x3), some (vI x4)], [vI x3, vR 10 0 35, vI (48 : Int32), vR 10 0 32], σ)) rfl).trans ?_
  refine (e_a (A := (160, 63, [some (vR 10 0 0), l1, some (vI x2), some (vI x3), some (vI x4)], [vI (σ.1 10 0 34 (x3).toNatClampNeg), vI (48 : Int32), vR 10 0 32], σ)) rfl h2).trans ?_
  refine (e_n 3 (fr' := (160, 67, [some (vR 10 0 0), l1, some (vI x2), some (vI x3), some (vI x4)], [vI (((48 : Int32) * (σ.1 10 0 34 (x3).toNatClampNeg)) + x4), vR 10 0 32], σ)) rfl).trans ?_
  refine (e_a (A := (160, 68, [some (vR 10 0 0), l1, some (vI x2), some (vI x3), some (vI x4)], [vI (σ.1 10 0 31 ((((48 : Int32) * (σ.1 10 0 34 (x3).toNatClampNeg)) + x4)).toNatClampNeg)], σ)) rfl h3).trans ?_
  refine (e_f (B := (160, 71, [some (vR 10 0 0), l1, some (vI x2), some (vI x3), some (vI x4)], [], σ)) rfl h4).trans ?_
  refine (e_n 3 (fr' := (160, 77, [some (vR 10 0 0), l1, some (vI x2), some (vI x3), some (vI x4)], [vI x4, vR 10 0 34], σ)) rfl).trans ?_
  refine (e_a (A := (160, 78, [some (vR 10 0 0), l1, some (vI x2), some (vI x3), some (vI x4)], [vI (σ.1 10 0 33 (x4).toNatClampNeg)], σ)) rfl h5).trans ?_
  refine (e_f (B := (160, 81, [some (vR 10 0 0), l1, some (vI x2), some (vI x3), some (vI x4)], [], σ)) rfl h6).trans ?_
  refine (e_n 3 (fr' := (160, 87, [some (vR 10 0 0), l1, some (vI x2), some (vI x3), some (vI x4)], [vI x4, vR 10 0 36], σ)) rfl).trans ?_
  refine (e_a (A := (160, 88, [some (vR 10 0 0), l1, some (vI x2), some (vI x3), some (vI x4)], [vI (σ.1 10 0 35 (x4).toNatClampNeg)], σ)) rfl h5).trans ?_
  refine (e_t (A := (160, 94, [some (vR 10 0 0), l1, some (vI x2), some (vI x3), some (vI x4)], [], σ)) rfl h7).trans ?_
  refine (e_n 6 (fr' := (160, 105, [some (vR 10 0 0), l1, some (vI x2), some (vI x3), some (vI x4)], [vI x3, vR 10 0 35, vI x4, vR 10 0 34], σ)) rfl).trans ?_
  refine (e_a (A := (160, 106, [some (vR 10 0 0), l1, some (vI x2), some (vI x3), some (vI x4)], [vI (σ.1 10 0 34 (x3).toNatClampNeg), vI x4, vR 10 0 34], σ)) rfl h2).trans ?_
  refine (e_a (A := (160, 107, [some (vR 10 0 0), l1, some (vI x2), some (vI x3), some (vI x4)], [], (pm_wi σ 10 0 33 (x4).toNatClampNeg (σ.1 10 0 34 (x3).toNatClampNeg)))) rfl h5).trans ?_
  refine (e_n 3 (fr' := (160, 113, [some (vR 10 0 0), l1, some (vI x2), some (vI x3), some (vI x4)], [vI x4, vR 10 0 33], (pm_wi σ 10 0 33 (x4).toNatClampNeg (σ.1 10 0 34 (x3).toNatClampNeg)))) rfl).trans ?_
  refine (e_a (A := (160, 114, [some (vR 10 0 0), l1, some (vI x2), some (vI x3), some (vI x4)], [vI (σ.1 10 0 32 (x4).toNatClampNeg)], (pm_wi σ 10 0 33 (x4).toNatClampNeg (σ.1 10 0 34 (x3).toNatClampNeg)))) rfl h5).trans ?_
  refine (e_t (A := (160, 136, [some (vR 10 0 0), l1, some (vI x2), some (vI x3), some (vI x4)], [], (pm_wi σ 10 0 33 (x4).toNatClampNeg (σ.1 10 0 34 (x3).toNatClampNeg)))) rfl h8).trans ?_
  refine (e_n 2 (fr' := (160, 139, [some (vR 10 0 0), l1, some (vI x2), some (vI x3), some (vI x4)], [vI x4, vR 10 0 0], (pm_wi σ 10 0 33 (x4).toNatClampNeg (σ.1 10 0 34 (x3).toNatClampNeg)))) rfl).trans ?_
  refine (e_cv (m := 160) (pc := 142) (ls := [some (vR 10 0 0), l1, some (vI x2), some (vI x3), some (vI x4)]) (rest := []) rfl h9).trans ?_
  refine (e_n 1 (fr' := (160, 143, [some (vR 10 0 0), l1, some (vI x2), some (vI x3), some (vI x4)], [vI (1 : Int32)], σ1)) rfl).trans ?_
  exact e_r rfl
set_option maxRecDepth 20000 in
theorem g160_42_4 (C : pmC) {σ : pmS} {l1 : Option pmV} {x2 : Int32} {x3 : Int32} {x4 : Int32} (h1 : ¬ (σ.1 10 0 16 0) ≤ x4) (h2 : vp_in x3 48) (h3 : vp_in (((48 : Int32) * (σ.1 10 0 34 (x3).toNatClampNeg)) + x4) 2304) (h4 : ¬ (σ.1 10 0 31 ((((48 : Int32) * (σ.1 10 0 34 (x3).toNatClampNeg)) + x4)).toNatClampNeg) = 0) (h5 : vp_in x4 48) (h6 : ¬ 0 ≤ (σ.1 10 0 33 (x4).toNatClampNeg)) (h7 : (σ.1 10 0 35 (x4).toNatClampNeg) < 0) (h8 : ¬ (σ.1 10 0 32 (x4).toNatClampNeg) < 0) (h9 : vp_in x2 48) : pq_Rn C (160, 42, [some (vR 10 0 0), l1, some (vI x2), some (vI x3), some (vI x4)], [], σ) = pq_Rn C (160, 42, [some (vR 10 0 0), l1, some (vI (x2 + (1 : Int32))), some (vI x3), some (vI (x4 + (1 : Int32)))], [], (pm_wi (pm_wi σ 10 0 33 (x4).toNatClampNeg (σ.1 10 0 34 (x3).toNatClampNeg)) 10 0 34 (x2).toNatClampNeg (σ.1 10 0 32 (x4).toNatClampNeg))) := by
  refine (e_n 3 (fr' := (160, 48, [some (vR 10 0 0), l1, some (vI x2), some (vI x3), some (vI x4)], [vI (σ.1 10 0 16 0), vI x4], σ)) rfl).trans ?_
  refine (e_f (B := (160, 51, [some (vR 10 0 0), l1, some (vI x2), some (vI x3), some (vI x4)], [], σ)) rfl h1).trans ?_
  refine (e_n 6 (fr' := (160, 62, [some (vR 10 0 0), l1, some (vI x2), some (vI x3), some (vI x4)], [vI x3, vR 10 0 35, vI (48 : Int32), vR 10 0 32], σ)) rfl).trans ?_
  refine (e_a (A := (160, 63, [some (vR 10 0 0), l1, some (vI x2), some (vI x3), some (vI x4)], [vI (σ.1 10 0 34 (x3).toNatClampNeg), vI (48 : Int32), vR 10 0 32], σ)) rfl h2).trans ?_
  refine (e_n 3 (fr' := (160, 67, [some (vR 10 0 0), l1, some (vI x2), some (vI x3), some (vI x4)], [vI (((48 : Int32) * (σ.1 10 0 34 (x3).toNatClampNeg)) + x4), vR 10 0 32], σ)) rfl).trans ?_
  refine (e_a (A := (160, 68, [some (vR 10 0 0), l1, some (vI x2), some (vI x3), some (vI x4)], [vI (σ.1 10 0 31 ((((48 : Int32) * (σ.1 10 0 34 (x3).toNatClampNeg)) + x4)).toNatClampNeg)], σ)) rfl h3).trans ?_
  refine (e_f (B := (160, 71, [some (vR 10 0 0), l1, some (vI x2), some (vI x3), some (vI x4)], [], σ)) rfl h4).trans ?_
  refine (e_n 3 (fr' := (160, 77, [some (vR 10 0 0), l1, some (vI x2), some (vI x3), some (vI x4)], [vI x4, vR 10 0 34], σ)) rfl).trans ?_
  refine (e_a (A := (160, 78, [some (vR 10 0 0), l1, some (vI x2), some (vI x3), some (vI x4)], [vI (σ.1 10 0 33 (x4).toNatClampNeg)], σ)) rfl h5).trans ?_
  refine (e_f (B := (160, 81, [some (vR 10 0 0), l1, some (vI x2), some (vI x3), some (vI x4)], [], σ)) rfl h6).trans ?_
  refine (e_n 3 (fr' := (160, 87, [some (vR 10 0 0), l1, some (vI x2), some (vI x3), some (vI x4)], [vI x4, vR 10 0 36], σ)) rfl).trans ?_
  refine (e_a (A := (160, 88, [some (vR 10 0 0), l1, some (vI x2), some (vI x3), some (vI x4)], [vI (σ.1 10 0 35 (x4).toNatClampNeg)], σ)) rfl h5).trans ?_
  refine (e_t (A := (160, 94, [some (vR 10 0 0), l1, some (vI x2), some (vI x3), some (vI x4)], [], σ)) rfl h7).trans ?_
  refine (e_n 6 (fr' := (160, 105, [some (vR 10 0 0), l1, some (vI x2), some (vI x3), some (vI x4)], [vI x3, vR 10 0 35, vI x4, vR 10 0 34], σ)) rfl).trans ?_
  refine (e_a (A := (160, 106, [some (vR 10 0 0), l1, some (vI x2), some (vI x3), some (vI x4)], [vI (σ.1 10 0 34 (x3).toNatClampNeg), vI x4, vR 10 0 34], σ)) rfl h2).trans ?_
  refine (e_a (A := (160, 107, [some (vR 10 0 0), l1, some (vI x2), some (vI x3), some (vI x4)], [], (pm_wi σ 10 0 33 (x4).toNatClampNeg (σ.1 10 0 34 (x3).toNatClampNeg)))) rfl h5).trans ?_
  refine (e_n 3 (fr' := (160, 113, [some (vR 10 0 0), l1, some (vI x2), some (vI x3), some (vI x4)], [vI x4, vR 10 0 33], (pm_wi σ 10 0 33 (x4).toNatClampNeg (σ.1 10 0 34 (x3).toNatClampNeg)))) rfl).trans ?_
  refine (e_a (A := (160, 114, [some (vR 10 0 0), l1, some (vI x2), some (vI x3), some (vI x4)], [vI (σ.1 10 0 32 (x4).toNatClampNeg)], (pm_wi σ 10 0 33 (x4).toNatClampNeg (σ.1 10 0 34 (x3).toNatClampNeg)))) rfl h5).trans ?_
  refine (e_f (B := (160, 117, [some (vR 10 0 0), l1, some (vI x2), some (vI x3), some (vI x4)], [], (pm_wi σ 10 0 33 (x4).toNatClampNeg (σ.1 10 0 34 (x3).toNatClampNeg)))) rfl h8).trans ?_
  refine (e_n 6 (fr' := (160, 128, [some (vR 10 0 0), l1, some (vI x2), some (vI x3), some (vI x4)], [vI x4, vR 10 0 33, vI x2, vR 10 0 35], (pm_wi σ 10 0 33 (x4).toNatClampNeg (σ.1 10 0 34 (x3).toNatClampNeg)))) rfl).trans ?_
  refine (e_a (A := (160, 129, [some (vR 10 0 0), l1, some (vI x2), some (vI x3), some (vI x4)], [vI (σ.1 10 0 32 (x4).toNatClampNeg), vI x2, vR 10 0 35], (pm_wi σ 10 0 33 (x4).toNatClampNeg (σ.1 10 0 34 (x3).toNatClampNeg)))) rfl h5).trans ?_
  refine (e_a (A := (160, 130, [some (vR 10 0 0), l1, some (vI x2), some (vI x3), some (vI x4)], [], (pm_wi (pm_wi σ 10 0 33 (x4).toNatClampNeg (σ.1 10 0 34 (x3).toNatClampNeg)) 10 0 34 (x2).toNatClampNeg (σ.1 10 0 32 (x4).toNatClampNeg)))) rfl h9).trans ?_
  exact e_n 4 rfl
set_option maxRecDepth 20000 in
theorem g160_42_5 (C : pmC) {σ : pmS} {l1 : Option pmV} {x2 : Int32} {x3 : Int32} {x4 : Int32} (h1 : ¬ (σ.1 10 0 16 0) ≤ x4) (h2 : vp_in x3 48) (h3 : vp_in (((48 : Int32) * (σ.1 10 0 34 (x3).toNatClampNeg)) + x4) 2304) (h4 : ¬ (σ.1 10 0 31 ((((48 : Int32) * (σ.1 10 0 34 (x3).toNatClampNeg)) + x4)).toNatClampNeg) = 0) (h5 : vp_in x4 48) (h6 : ¬ 0 ≤ (σ.1 10 0 33 (x4).toNatClampNeg)) (h7 : ¬ (σ.1 10 0 35 (x4).toNatClampNeg) < 0) : pq_Rn C (160, 42, [some (vR 10 0 0), l1, some (vI x2), some (vI x3), some (vI x4)], [], σ) = pq_Rn C (160, 42, [some (vR 10 0 0), l1, some (vI x2), some (vI x3), some (vI (x4 + (1 : Int32)))], [], σ) := by
  refine (e_n 3 (fr' := (160, 48, [some (vR 10 0 0), l1, some (vI x2), some (vI x3), some (vI x4)], [vI (σ.1 10 0 16 0), vI x4], σ)) rfl).trans ?_
  refine (e_f (B := (160, 51, [some (vR 10 0 0), l1, some (vI x2), some (vI x3), some (vI x4)], [], σ)) rfl h1).trans ?_
  refine (e_n 6 (fr' := (160, 62, [some (vR 10 0 0), l1, some (vI x2), some (vI x3), some (vI x4)], [vI x3, vR 10 0 35, vI (48 : Int32), vR 10 0 32], σ)) rfl).trans ?_
  refine (e_a (A := (160, 63, [some (vR 10 0 0), l1, some (vI x2), some (vI x3), some (vI x4)], [vI (σ.1 10 0 34 (x3).toNatClampNeg), vI (48 : Int32), vR 10 0 32], σ)) rfl h2).trans ?_
  refine (e_n 3 (fr' := (160, 67, [some (vR 10 0 0), l1, some (vI x2), some (vI x3), some (vI x4)], [vI (((48 : Int32) * (σ.1 10 0 34 (x3).toNatClampNeg)) + x4), vR 10 0 32], σ)) rfl).trans ?_
  refine (e_a (A := (160, 68, [some (vR 10 0 0), l1, some (vI x2), some (vI x3), some (vI x4)], [vI (σ.1 10 0 31 ((((48 : Int32) * (σ.1 10 0 34 (x3).toNatClampNeg)) + x4)).toNatClampNeg)], σ)) rfl h3).trans ?_
  refine (e_f (B := (160, 71, [some (vR 10 0 0), l1, some (vI x2), some (vI x3), some (vI x4)], [], σ)) rfl h4).trans ?_
  refine (e_n 3 (fr' := (160, 77, [some (vR 10 0 0), l1, some (vI x2), some (vI x3), some (vI x4)], [vI x4, vR 10 0 34], σ)) rfl).trans ?_
  refine (e_a (A := (160, 78, [some (vR 10 0 0), l1, some (vI x2), some (vI x3), some (vI x4)], [vI (σ.1 10 0 33 (x4).toNatClampNeg)], σ)) rfl h5).trans ?_
  refine (e_f (B := (160, 81, [some (vR 10 0 0), l1, some (vI x2), some (vI x3), some (vI x4)], [], σ)) rfl h6).trans ?_
  refine (e_n 3 (fr' := (160, 87, [some (vR 10 0 0), l1, some (vI x2), some (vI x3), some (vI x4)], [vI x4, vR 10 0 36], σ)) rfl).trans ?_
  refine (e_a (A := (160, 88, [some (vR 10 0 0), l1, some (vI x2), some (vI x3), some (vI x4)], [vI (σ.1 10 0 35 (x4).toNatClampNeg)], σ)) rfl h5).trans ?_
  refine (e_f (B := (160, 91, [some (vR 10 0 0), l1, some (vI x2), some (vI x3), some (vI x4)], [], σ)) rfl h7).trans ?_
  exact e_n 3 rfl
set_option maxRecDepth 20000 in
theorem g161_0_0 (C : pmC) {σ : pmS} {x1 : Int32} {l2 : Option pmV} {l3 : Option pmV} {l4 : Option pmV}  : pq_Rn C (161, 0, [some (vR 10 0 0), some (vI x1), l2, l3, l4], [], σ) = pq_Rn C (161, 2, [some (vR 10 0 0), some (vI x1), some (vI x1), l3, l4], [], σ) := by
  exact e_n 2 rfl
set_option maxRecDepth 20000 in
theorem g161_2_0 (C : pmC) {σ : pmS} {l1 : Option pmV} {x2 : Int32} {l3 : Option pmV} {l4 : Option pmV} (h1 : x2 < 0) : pq_Rn C (161, 2, [some (vR 10 0 0), l1, some (vI x2), l3, l4], [], σ) = some (none, σ) := by
  refine (e_n 1 (fr' := (161, 3, [some (vR 10 0 0), l1, some (vI x2), l3, l4], [vI x2], σ)) rfl).trans ?_
  refine (e_t (A := (161, 41, [some (vR 10 0 0), l1, some (vI x2), l3, l4], [], σ)) rfl h1).trans ?_
  exact e_r rfl
set_option maxRecDepth 20000 in
theorem g161_2_1 (C : pmC) {σ : pmS} {l1 : Option pmV} {x2 : Int32} {l3 : Option pmV} {l4 : Option pmV} (h1 : ¬ x2 < 0) (h2 : vp_in x2 48) (h3 : vp_in (σ.1 10 0 33 (x2).toNatClampNeg) 48) : pq_Rn C (161, 2, [some (vR 10 0 0), l1, some (vI x2), l3, l4], [], σ) = pq_Rn C (161, 2, [some (vR 10 0 0), l1, some (vI (σ.1 10 0 32 ((σ.1 10 0 33 (x2).toNatClampNeg)).toNatClampNeg)), some (vI (σ.1 10 0 33 (x2).toNatClampNeg)), some (vI (σ.1 10 0 32 ((σ.1 10 0 33 (x2).toNatClampNeg)).toNatClampNeg))], [], (pm_wi (pm_wi σ 10 0 32 (x2).toNatClampNeg (σ.1 10 0 33 (x2).toNatClampNeg)) 10 0 32 ((σ.1 10 0 33 (x2).toNatClampNeg)).toNatClampNeg x2)) := by
  refine (e_n 1 (fr' := (161, 3, [some (vR 10 0 0), l1, some (vI x2), l3, l4], [vI x2], σ)) rfl).trans ?_
  refine (e_f (B := (161, 6, [some (vR 10 0 0), l1, some (vI x2), l3, l4], [], σ)) rfl h1).trans ?_
  refine (e_n 3 (fr' := (161, 11, [some (vR 10 0 0), l1, some (vI x2), l3, l4], [vI x2, vR 10 0 34], σ)) rfl).trans ?_
  refine (e_a (A := (161, 12, [some (vR 10 0 0), l1, some (vI x2), l3, l4], [vI (σ.1 10 0 33 (x2).toNatClampNeg)], σ)) rfl h2).trans ?_
  refine (e_n 4 (fr' := (161, 18, [some (vR 10 0 0), l1, some (vI x2), some (vI (σ.1 10 0 33 (x2).toNatClampNeg)), l4], [vI (σ.1 10 0 33 (x2).toNatClampNeg), vR 10 0 33], σ)) rfl).trans ?_
  refine (e_a (A := (161, 19, [some (vR 10 0 0), l1, some (vI x2), some (vI (σ.1 10 0 33 (x2).toNatClampNeg)), l4], [vI (σ.1 10 0 32 ((σ.1 10 0 33 (x2).toNatClampNeg)).toNatClampNeg)], σ)) rfl h3).trans ?_
  refine (e_n 5 (fr' := (161, 27, [some (vR 10 0 0), l1, some (vI x2), some (vI (σ.1 10 0 33 (x2).toNatClampNeg)), some (vI (σ.1 10 0 32 ((σ.1 10 0 33 (x2).toNatClampNeg)).toNatClampNeg))], [vI (σ.1 10 0 33 (x2).toNatClampNeg), vI x2, vR 10 0 33], σ)) rfl).trans ?_
  refine (e_a (A := (161, 28, [some (vR 10 0 0), l1, some (vI x2), some (vI (σ.1 10 0 33 (x2).toNatClampNeg)), some (vI (σ.1 10 0 32 ((σ.1 10 0 33 (x2).toNatClampNeg)).toNatClampNeg))], [], (pm_wi σ 10 0 32 (x2).toNatClampNeg (σ.1 10 0 33 (x2).toNatClampNeg)))) rfl h2).trans ?_
  refine (e_n 4 (fr' := (161, 34, [some (vR 10 0 0), l1, some (vI x2), some (vI (σ.1 10 0 33 (x2).toNatClampNeg)), some (vI (σ.1 10 0 32 ((σ.1 10 0 33 (x2).toNatClampNeg)).toNatClampNeg))], [vI x2, vI (σ.1 10 0 33 (x2).toNatClampNeg), vR 10 0 33], (pm_wi σ 10 0 32 (x2).toNatClampNeg (σ.1 10 0 33 (x2).toNatClampNeg)))) rfl).trans ?_
  refine (e_a (A := (161, 35, [some (vR 10 0 0), l1, some (vI x2), some (vI (σ.1 10 0 33 (x2).toNatClampNeg)), some (vI (σ.1 10 0 32 ((σ.1 10 0 33 (x2).toNatClampNeg)).toNatClampNeg))], [], (pm_wi (pm_wi σ 10 0 32 (x2).toNatClampNeg (σ.1 10 0 33 (x2).toNatClampNeg)) 10 0 32 ((σ.1 10 0 33 (x2).toNatClampNeg)).toNatClampNeg x2))) rfl h3).trans ?_
  exact e_n 3 rfl
