/-! segment rules, by program -/
set_option maxRecDepth 20000 in
theorem g95_0_2 (C : pmC) {σ : pmS} {x1 : Int32} {l2 : Option pmV} {l3 : Option pmV} {l4 : Option pmV} {l5 : Option pmV} {σ1 : pmS} {r1 : Int32} {σ2 : pmS} {q2 : Nat} {σ3 : pmS} {r3 : Int32} {σ4 : pmS} {r4 : Int32} {σ5 : pmS} {r5 : Int32} (h1 : C 33 [vR 5 0 0, vI x1] σ = some (some (vI r1), σ1)) (h2 : r1 = 0) (h3 : C 93 [vR 9 0 0, vI x1] σ1 = some (some (vR 2 q2 0), σ2)) (h4 : vp_in x1 48) (h5 : vp_in (σ2.1 5 0 4 (x1).toNatClampNeg) 48) (h6 : C 10 [vR 2 q2 0, vI (σ2.1 5 0 7 ((σ2.1 5 0 4 (x1).toNatClampNeg)).toNatClampNeg), vI (1 : Int32)] σ2 = some (some (vI r3), σ3)) (h7 : vp_in (σ3.1 5 0 5 (x1).toNatClampNeg) 48) (h8 : C 10 [vR 2 q2 0, vI (σ3.1 5 0 7 ((σ3.1 5 0 5 (x1).toNatClampNeg)).toNatClampNeg), vI (0 : Int32)] σ3 = some (some (vI r4), σ4)) (h9 : C 94 [vR 9 0 0, vI x1] σ4 = some (some (vI r5), σ5)) (h10 : ¬ r5 = 0) (h11 : r5 = 0) : pq_Rn C (95, 0, [some (vR 9 0 0), some (vI x1), l2, l3, l4, l5], [], σ) = some (none, (pm_wi (pm_wi σ5 5 0 7 (x1).toNatClampNeg r3) 5 0 8 (x1).toNatClampNeg r3)) := by
  refine (e_n 3 (fr' := (95, 5, [some (vR 9 0 0), some (vI x1), l2, l3, l4, l5], [vI x1, vR 5 0 0], σ)) rfl).trans ?_
  refine (e_ci (m := 95) (pc := 8) (ls := [some (vR 9 0 0), some (vI x1), l2, l3, l4, l5]) (rest := []) rfl h1).trans ?_
  refine (e_t (A := (95, 40, [some (vR 9 0 0), some (vI x1), l2, l3, l4, l5], [], σ1)) rfl h2).trans ?_
  refine (e_n 2 (fr' := (95, 42, [some (vR 9 0 0), some (vI x1), l2, l3, l4, l5], [vI x1, vR 9 0 0], σ1)) rfl).trans ?_
  refine (e_cr (m := 95) (pc := 45) (ls := [some (vR 9 0 0), some (vI x1), l2, l3, l4, l5]) (rest := []) rfl h3).trans ?_
  refine (e_n 9 (fr' := (95, 62, [some (vR 9 0 0), some (vI x1), some (vR 2 q2 0), l3, l4, l5], [vI x1, vR 5 0 5, vR 5 0 8, vR 2 q2 0], σ2)) rfl).trans ?_
  refine (e_a (A := (95, 63, [some (vR 9 0 0), some (vI x1), some (vR 2 q2 0), l3, l4, l5], [vI (σ2.1 5 0 4 (x1).toNatClampNeg), vR 5 0 8, vR 2 q2 0], σ2)) rfl h4).trans ?_
  refine (e_a (A := (95, 64, [some (vR 9 0 0), some (vI x1), some (vR 2 q2 0), l3, l4, l5], [vI (σ2.1 5 0 7 ((σ2.1 5 0 4 (x1).toNatClampNeg)).toNatClampNeg), vR 2 q2 0], σ2)) rfl h5).trans ?_
  refine (e_n 1 (fr' := (95, 65, [some (vR 9 0 0), some (vI x1), some (vR 2 q2 0), l3, l4, l5], [vI (1 : Int32), vI (σ2.1 5 0 7 ((σ2.1 5 0 4 (x1).toNatClampNeg)).toNatClampNeg), vR 2 q2 0], σ2)) rfl).trans ?_
  refine (e_ci (m := 95) (pc := 68) (ls := [some (vR 9 0 0), some (vI x1), some (vR 2 q2 0), l3, l4, l5]) (rest := []) rfl h6).trans ?_
  refine (e_n 9 (fr' := (95, 85, [some (vR 9 0 0), some (vI x1), some (vR 2 q2 0), some (vI r3), l4, l5], [vI x1, vR 5 0 6, vR 5 0 8, vR 2 q2 0], σ3)) rfl).trans ?_
  refine (e_a (A := (95, 86, [some (vR 9 0 0), some (vI x1), some (vR 2 q2 0), some (vI r3), l4, l5], [vI (σ3.1 5 0 5 (x1).toNatClampNeg), vR 5 0 8, vR 2 q2 0], σ3)) rfl h4).trans ?_
  refine (e_a (A := (95, 87, [some (vR 9 0 0), some (vI x1), some (vR 2 q2 0), some (vI r3), l4, l5], [vI (σ3.1 5 0 7 ((σ3.1 5 0 5 (x1).toNatClampNeg)).toNatClampNeg), vR 2 q2 0], σ3)) rfl h7).trans ?_
  refine (e_n 1 (fr' := (95, 88, [some (vR 9 0 0), some (vI x1), some (vR 2 q2 0), some (vI r3), l4, l5], [vI (0 : Int32), vI (σ3.1 5 0 7 ((σ3.1 5 0 5 (x1).toNatClampNeg)).toNatClampNeg), vR 2 q2 0], σ3)) rfl).trans ?_
  refine (e_ci (m := 95) (pc := 91) (ls := [some (vR 9 0 0), some (vI x1), some (vR 2 q2 0), some (vI r3), l4, l5]) (rest := []) rfl h8).trans ?_
  refine (e_n 3 (fr' := (95, 95, [some (vR 9 0 0), some (vI x1), some (vR 2 q2 0), some (vI r3), some (vI r4), l5], [vI x1, vR 9 0 0], σ4)) rfl).trans ?_
  refine (e_ci (m := 95) (pc := 98) (ls := [some (vR 9 0 0), some (vI x1), some (vR 2 q2 0), some (vI r3), some (vI r4), l5]) (rest := []) rfl h9).trans ?_
  refine (e_n 6 (fr' := (95, 110, [some (vR 9 0 0), some (vI x1), some (vR 2 q2 0), some (vI r3), some (vI r4), some (vI r5)], [vI r5, vI x1, vR 5 0 8], σ5)) rfl).trans ?_
  refine (e_f (B := (95, 113, [some (vR 9 0 0), some (vI x1), some (vR 2 q2 0), some (vI r3), some (vI r4), some (vI r5)], [vI x1, vR 5 0 8], σ5)) rfl h10).trans ?_
  refine (e_n 2 (fr' := (95, 119, [some (vR 9 0 0), some (vI x1), some (vR 2 q2 0), some (vI r3), some (vI r4), some (vI r5)], [vI r3, vI x1, vR 5 0 8], σ5)) rfl).trans ?_
  refine (e_a (A := (95, 120, [some (vR 9 0 0), some (vI x1), some (vR 2 q2 0), some (vI r3), some (vI r4), some (vI r5)], [], (pm_wi σ5 5 0 7 (x1).toNatClampNeg r3))) rfl h4).trans ?_
  refine (e_n 5 (fr' := (95, 130, [some (vR 9 0 0), some (vI x1), some (vR 2 q2 0), some (vI r3), some (vI r4), some (vI r5)], [vI r5, vI x1, vR 5 0 9], (pm_wi σ5 5 0 7 (x1).toNatClampNeg r3))) rfl).trans ?_
  refine (e_t (A := (95, 138, [some (vR 9 0 0), some (vI x1), some (vR 2 q2 0), some (vI r3), some (vI r4), some (vI r5)], [vI x1, vR 5 0 9], (pm_wi σ5 5 0 7 (x1).toNatClampNeg r3))) rfl h11).trans ?_
  refine (e_n 1 (fr' := (95, 139, [some (vR 9 0 0), some (vI x1), some (vR 2 q2 0), some (vI r3), some (vI r4), some (vI r5)], [vI r3, vI x1, vR 5 0 9], (pm_wi σ5 5 0 7 (x1).toNatClampNeg r3))) rfl).trans ?_
  refine (e_a (A := (95, 140, [some (vR 9 0 0), some (vI x1), some (vR 2 q2 0), some (vI r3), some (vI r4), some (vI r5)], [], (pm_wi (pm_wi σ5 5 0 7 (x1).toNatClampNeg r3) 5 0 8 (x1).toNatClampNeg r3))) rfl h4).trans ?_
  exact e_r rfl
set_option maxRecDepth 20000 in
theorem g95_0_3 (C : pmC) {σ : pmS} {x1 : Int32} {l2 : Option pmV} {l3 : Option pmV} {l4 : Option pmV} {l5 : Option pmV} {σ1 : pmS} {r1 : Int32} {σ2 : pmS} {q2 : Nat} {σ3 : pmS} {r3 : Int32} {σ4 : pmS} {r4 : Int32} {σ5 : pmS} {r5 : Int32} (h1 : C 33 [vR 5 0 0, vI x1] σ = some (some (vI r1), σ1)) (h2 : r1 = 0) (h3 : C 93 [vR 9 0 0, vI x1] σ1 = some (some (vR 2 q2 0), σ2)) (h4 : vp_in x1 48) (h5 : vp_in (σ2.1 5 0 4 (x1).toNatClampNeg) 48) (h6 : C 10 [vR 2 q2 0, vI (σ2.1 5 0 7 ((σ2.1 5 0 4 (x1).toNatClampNeg)).toNatClampNeg), vI (1 : Int32)] σ2 = some (some (vI r3), σ3)) (h7 : vp_in (σ3.1 5 0 5 (x1).toNatClampNeg) 48) (h8 : C 10 [vR 2 q2 0, vI (σ3.1 5 0 7 ((σ3.1 5 0 5 (x1).toNatClampNeg)).toNatClampNeg), vI (0 : Int32)] σ3 = some (some (vI r4), σ4)) (h9 : C 94 [vR 9 0 0, vI x1] σ4 = some (some (vI r5), σ5)) (h10 : ¬ r5 = 0) (h11 : ¬ r5 = 0) : pq_Rn C (95, 0, [some (vR 9 0 0), some (vI x1), l2, l3, l4, l5], [], σ) = some (none, (pm_wi (pm_wi σ5 5 0 7 (x1).toNatClampNeg r3) 5 0 8 (x1).toNatClampNeg r4)) := by
  refine (e_n 3 (fr' := (95, 5, [some (vR 9 0 0), some (vI x1), l2, l3, l4, l5], [vI x1, vR 5 0 0], σ)) rfl).trans ?_
  refine (e_ci (m := 95) (pc := 8) (ls := [some (vR 9 0 0), some (vI x1), l2, l3, l4, l5]) (rest := []) rfl h1).trans ?_
  refine (e_t (A := (95, 40, [some (vR 9 0 0), some (vI x1), l2, l3, l4, l5], [], σ1)) rfl h2).trans ?_
  refine (e_n 2 (fr' := (95, 42, [some (vR 9 0 0), some (vI x1), l2, l3, l4, l5], [vI x1, vR 9 0 0], σ1)) rfl).trans ?_
  refine (e_cr (m := 95) (pc := 45) (ls := [some (vR 9 0 0), some (vI x1), l2, l3, l4, l5]) (rest := []) rfl h3).trans ?_
  refine (e_n 9 (fr' := (95, 62, [some (vR 9 0 0), some (vI x1), some (vR 2 q2 0), l3, l4, l5], [vI x1, vR 5 0 5, vR 5 0 8, vR 2 q2 0], σ2)) rfl).trans ?_
  refine (e_a (A := (95, 63, [some (vR 9 0 0), some (vI x1), some (vR 2 q2 0), l3, l4, l5], [vI (σ2.1 5 0 4 (x1).toNatClampNeg), vR 5 0 8, vR 2 q2 0], σ2)) rfl h4).trans ?_
  refine (e_a (A := (95, 64, [some (vR 9 0 0), some (vI x1), some (vR 2 q2 0), l3, l4, l5], [vI (σ2.1 5 0 7 ((σ2.1 5 0 4 (x1).toNatClampNeg)).toNatClampNeg), vR 2 q2 0], σ2)) rfl h5).trans ?_
  refine (e_n 1 (fr' := (95, 65, [some (vR 9 0 0), some (vI x1), some (vR 2 q2 0), l3, l4, l5], [vI (1 : Int32), vI (σ2.1 5 0 7 ((σ2.1 5 0 4 (x1).toNatClampNeg)).toNatClampNeg), vR 2 q2 0], σ2)) rfl).trans ?_
  refine (e_ci (m := 95) (pc := 68) (ls := [some (vR 9 0 0), some (vI x1), some (vR 2 q2 0), l3, l4, l5]) (rest := []) rfl h6).trans ?_
  refine (e_n 9 (fr' := (95, 85, [some (vR 9 0 0), some (vI x1), some (vR 2 q2 0), some (vI r3), l4, l5], [vI x1, vR 5 0 6, vR 5 0 8, vR 2 q2 0], σ3)) rfl).trans ?_
  refine (e_a (A := (95, 86, [some (vR 9 0 0), some (vI x1), some (vR 2 q2 0), some (vI r3), l4, l5], [vI (σ3.1 5 0 5 (x1).toNatClampNeg), vR 5 0 8, vR 2 q2 0], σ3)) rfl h4).trans ?_
  refine (e_a (A := (95, 87, [some (vR 9 0 0), some (vI x1), some (vR 2 q2 0), some (vI r3), l4, l5], [vI (σ3.1 5 0 7 ((σ3.1 5 0 5 (x1).toNatClampNeg)).toNatClampNeg), vR 2 q2 0], σ3)) rfl h7).trans ?_
  refine (e_n 1 (fr' := (95, 88, [some (vR 9 0 0), some (vI x1), some (vR 2 q2 0), some (vI r3), l4, l5], [vI (0 : Int32), vI (σ3.1 5 0 7 ((σ3.1 5 0 5 (x1).toNatClampNeg)).toNatClampNeg), vR 2 q2 0], σ3)) rfl).trans ?_
  refine (e_ci (m := 95) (pc := 91) (ls := [some (vR 9 0 0), some (vI x1), some (vR 2 q2 0), some (vI r3), l4, l5]) (rest := []) rfl h8).trans ?_
  refine (e_n 3 (fr' := (95, 95, [some (vR 9 0 0), some (vI x1), some (vR 2 q2 0), some (vI r3), some (vI r4), l5], [vI x1, vR 9 0 0], σ4)) rfl).trans ?_
  refine (e_ci (m := 95) (pc := 98) (ls := [some (vR 9 0 0), some (vI x1), some (vR 2 q2 0), some (vI r3), some (vI r4), l5]) (rest := []) rfl h9).trans ?_
  refine (e_n 6 (fr' := (95, 110, [some (vR 9 0 0), some (vI x1), some (vR 2 q2 0), some (vI r3), some (vI r4), some (vI r5)], [vI r5, vI x1, vR 5 0 8], σ5)) rfl).trans ?_
  refine (e_f (B := (95, 113, [some (vR 9 0 0), some (vI x1), some (vR 2 q2 0), some (vI r3), some (vI r4), some (vI r5)], [vI x1, vR 5 0 8], σ5)) rfl h10).trans ?_
  refine (e_n 2 (fr' := (95, 119, [some (vR 9 0 0), some (vI x1), some (vR 2 q2 0), some (vI r3), some (vI r4), some (vI r5)], [vI r3, vI x1, vR 5 0 8], σ5)) rfl).trans ?_
  refine (e_a (A := (95, 120, [some (vR 9 0 0), some (vI x1), some (vR 2 q2 0), some (vI r3), some (vI r4), some (vI r5)], [], (pm_wi σ5 5 0 7 (x1).toNatClampNeg r3))) rfl h4).trans ?_
  refine (e_n 5 (fr' := (95, 130, [some (vR 9 0 0), some (vI x1), some (vR 2 q2 0), some (vI r3), some (vI r4), some (vI r5)], [vI r5, vI x1, vR 5 0 9], (pm_wi σ5 5 0 7 (x1).toNatClampNeg r3))) rfl).trans ?_
  refine (e_f (B := (95, 133, [some (vR 9 0 0), some (vI x1), some (vR 2 q2 0), some (vI r3), some (vI r4), some (vI r5)], [vI x1, vR 5 0 9], (pm_wi σ5 5 0 7 (x1).toNatClampNeg r3))) rfl h11).trans ?_
  refine (e_n 2 (fr' := (95, 139, [some (vR 9 0 0), some (vI x1), some (vR 2 q2 0), some (vI r3), some (vI r4), some (vI r5)], [vI r4, vI x1, vR 5 0 9], (pm_wi σ5 5 0 7 (x1).toNatClampNeg r3))) rfl).trans ?_
  refine (e_a (A := (95, 140, [some (vR 9 0 0), some (vI x1), some (vR 2 q2 0), some (vI r3), some (vI r4), some (vI r5)], [], (pm_wi (pm_wi σ5 5 0 7 (x1).toNatClampNeg r3) 5 0 8 (x1).toNatClampNeg r4))) rfl h4).trans ?_
  exact e_r rfl
set_option maxRecDepth 20000 in
theorem g95_0_4 (C : pmC) {σ : pmS} {x1 : Int32} {l2 : Option pmV} {l3 : Option pmV} {l4 : Option pmV} {l5 : Option pmV} {σ1 : pmS} {r1 : Int32} (h1 : C 33 [vR 5 0 0, vI x1] σ = some (some (vI r1), σ1)) (h2 : ¬ r1 = 0) (h3 : vp_in x1 48) : pq_Rn C (95, 0, [some (vR 9 0 0), some (vI x1), l2, l3, l4, l5], [], σ) = some (none, (pm_wi (pm_wi σ1 5 0 7 (x1).toNatClampNeg (σ1.1 5 0 6 (x1).toNatClampNeg)) 5 0 8 (x1).toNatClampNeg (-1 : Int32))) := by
  refine (e_n 3 (fr' := (95, 5, [some (vR 9 0 0), some (vI x1), l2, l3, l4, l5], [vI x1, vR 5 0 0], σ)) rfl).trans ?_
  refine (e_ci (m := 95) (pc := 8) (ls := [some (vR 9 0 0), some (vI x1), l2, l3, l4, l5]) (rest := []) rfl h1).trans ?_
  refine (e_f (B := (95, 11, [some (vR 9 0 0), some (vI x1), l2, l3, l4, l5], [], σ1)) rfl h2).trans ?_
  refine (e_n 8 (fr' := (95, 27, [some (vR 9 0 0), some (vI x1), l2, l3, l4, l5], [vI x1, vR 5 0 7, vI x1, vR 5 0 8], σ1)) rfl).trans ?_
  refine (e_a (A := (95, 28, [some (vR 9 0 0), some (vI x1), l2, l3, l4, l5], [vI (σ1.1 5 0 6 (x1).toNatClampNeg), vI x1, vR 5 0 8], σ1)) rfl h3).trans ?_
  refine (e_a (A := (95, 29, [some (vR 9 0 0), some (vI x1), l2, l3, l4, l5], [], (pm_wi σ1 5 0 7 (x1).toNatClampNeg (σ1.1 5 0 6 (x1).toNatClampNeg)))) rfl h3).trans ?_
  refine (e_n 5 (fr' := (95, 38, [some (vR 9 0 0), some (vI x1), l2, l3, l4, l5], [vI (-1 : Int32), vI x1, vR 5 0 9], (pm_wi σ1 5 0 7 (x1).toNatClampNeg (σ1.1 5 0 6 (x1).toNatClampNeg)))) rfl).trans ?_
  refine (e_a (A := (95, 39, [some (vR 9 0 0), some (vI x1), l2, l3, l4, l5], [], (pm_wi (pm_wi σ1 5 0 7 (x1).toNatClampNeg (σ1.1 5 0 6 (x1).toNatClampNeg)) 5 0 8 (x1).toNatClampNeg (-1 : Int32)))) rfl h3).trans ?_
  exact e_r rfl
set_option maxRecDepth 20000 in
theorem g96_0_0 (C : pmC) {σ : pmS} {x1 : Int32} {x2 : Int32} {x3 : Int32} {σ1 : pmS} {r1 : Int32} (h1 : C 34 [vR 5 0 0, vI x1, vI x3] σ = some (some (vI r1), σ1)) (h2 : r1 = 0) : pq_Rn C (96, 0, [some (vR 9 0 0), some (vI x1), some (vI x2), some (vI x3)], [], σ) = some (some (vI (0 : Int32)), σ1) := by
  refine (e_n 4 (fr' := (96, 6, [some (vR 9 0 0), some (vI x1), some (vI x2), some (vI x3)], [vI x3, vI x1, vR 5 0 0], σ)) rfl).trans ?_
  refine (e_ci (m := 96) (pc := 9) (ls := [some (vR 9 0 0), some (vI x1), some (vI x2), some (vI x3)]) (rest := []) rfl h1).trans ?_
  refine (e_t (A := (96, 12, [some (vR 9 0 0), some (vI x1), some (vI x2), some (vI x3)], [], σ1)) rfl h2).trans ?_
  refine (e_n 1 (fr' := (96, 13, [some (vR 9 0 0), some (vI x1), some (vI x2), some (vI x3)], [vI (0 : Int32)], σ1)) rfl).trans ?_
  exact e_r rfl
set_option maxRecDepth 20000 in
theorem g96_0_1 (C : pmC) {σ : pmS} {x1 : Int32} {x2 : Int32} {x3 : Int32} {σ1 : pmS} {r1 : Int32} {σ2 : pmS} {r2 : Int32} {σ3 : pmS} {r3 : Int32} (h1 : C 34 [vR 5 0 0, vI x1, vI x3] σ = some (some (vI r1), σ1)) (h2 : ¬ r1 = 0) (h3 : C 34 [vR 5 0 0, vI x2, vI (x3 - (1 : Int32))] σ1 = some (some (vI r2), σ2)) (h4 : r2 = 0) (h5 : C 34 [vR 5 0 0, vI x2, vI x3] σ2 = some (some (vI r3), σ3)) (h6 : r3 = 0) : pq_Rn C (96, 0, [some (vR 9 0 0), some (vI x1), some (vI x2), some (vI x3)], [], σ) = some (some (vI (0 : Int32)), σ3) := by
  refine (e_n 4 (fr' := (96, 6, [some (vR 9 0 0), some (vI x1), some (vI x2), some (vI x3)], [vI x3, vI x1, vR 5 0 0], σ)) rfl).trans ?_
  refine (e_ci (m := 96) (pc := 9) (ls := [some (vR 9 0 0), some (vI x1), some (vI x2), some (vI x3)]) (rest := []) rfl h1).trans ?_
  refine (e_f (B := (96, 14, [some (vR 9 0 0), some (vI x1), some (vI x2), some (vI x3)], [], σ1)) rfl h2).trans ?_
  refine (e_n 6 (fr' := (96, 22, [some (vR 9 0 0), some (vI x1), some (vI x2), some (vI x3)], [vI (x3 - (1 : Int32)), vI x2, vR 5 0 0], σ1)) rfl).trans ?_
  refine (e_ci (m := 96) (pc := 25) (ls := [some (vR 9 0 0), some (vI x1), some (vI x2), some (vI x3)]) (rest := []) rfl h3).trans ?_
  refine (e_t (A := (96, 28, [some (vR 9 0 0), some (vI x1), some (vI x2), some (vI x3)], [], σ2)) rfl h4).trans ?_
  refine (e_n 4 (fr' := (96, 34, [some (vR 9 0 0), some (vI x1), some (vI x2), some (vI x3)], [vI x3, vI x2, vR 5 0 0], σ2)) rfl).trans ?_
  refine (e_ci (m := 96) (pc := 37) (ls := [some (vR 9 0 0), some (vI x1), some (vI x2), some (vI x3)]) (rest := []) rfl h5).trans ?_
  refine (e_t (A := (96, 40, [some (vR 9 0 0), some (vI x1), some (vI x2), some (vI x3)], [], σ3)) rfl h6).trans ?_
  refine (e_n 1 (fr' := (96, 41, [some (vR 9 0 0), some (vI x1), some (vI x2), some (vI x3)], [vI (0 : Int32)], σ3)) rfl).trans ?_
  exact e_r rfl
set_option maxRecDepth 20000 in
theorem g96_0_2 (C : pmC) {σ : pmS} {x1 : Int32} {x2 : Int32} {x3 : Int32} {σ1 : pmS} {r1 : Int32} {σ2 : pmS} {r2 : Int32} {σ3 : pmS} {r3 : Int32} (h1 : C 34 [vR 5 0 0, vI x1, vI x3] σ = some (some (vI r1), σ1)) (h2 : ¬ r1 = 0) (h3 : C 34 [vR 5 0 0, vI x2, vI (x3 - (1 : Int32))] σ1 = some (some (vI r2), σ2)) (h4 : r2 = 0) (h5 : C 34 [vR 5 0 0, vI x2, vI x3] σ2 = some (some (vI r3), σ3)) (h6 : ¬ r3 = 0) (h7 : vp_in x1 48) (h8 : (x3 - (σ3.1 5 0 1 (x1).toNatClampNeg)) < (12 : Int32)) : pq_Rn C (96, 0, [some (vR 9 0 0), some (vI x1), some (vI x2), some (vI x3)], [], σ) = some (some (vI (0 : Int32)), σ3) := by
  refine (e_n 4 (fr' := (96, 6, [some (vR 9 0 0), some (vI x1), some (vI x2), some (vI x3)], [vI x3, vI x1, vR 5 0 0], σ)) rfl).trans ?_
  refine (e_ci (m := 96) (pc := 9) (ls := [some (vR 9 0 0), some (vI x1), some (vI x2), some (vI x3)]) (rest := []) rfl h1).trans ?_
  refine (e_f (B := (96, 14, [some (vR 9 0 0), some (vI x1), some (vI x2), some (vI x3)], [], σ1)) rfl h2).trans ?_
  refine (e_n 6 (fr' := (96, 22, [some (vR 9 0 0), some (vI x1), some (vI x2), some (vI x3)], [vI (x3 - (1 : Int32)), vI x2, vR 5 0 0], σ1)) rfl).trans ?_
  refine (e_ci (m := 96) (pc := 25) (ls := [some (vR 9 0 0), some (vI x1), some (vI x2), some (vI x3)]) (rest := []) rfl h3).trans ?_
  refine (e_t (A := (96, 28, [some (vR 9 0 0), some (vI x1), some (vI x2), some (vI x3)], [], σ2)) rfl h4).trans ?_
  refine (e_n 4 (fr' := (96, 34, [some (vR 9 0 0), some (vI x1), some (vI x2), some (vI x3)], [vI x3, vI x2, vR 5 0 0], σ2)) rfl).trans ?_
  refine (e_ci (m := 96) (pc := 37) (ls := [some (vR 9 0 0), some (vI x1), some (vI x2), some (vI x3)]) (rest := []) rfl h5).trans ?_
  refine (e_f (B := (96, 42, [some (vR 9 0 0), some (vI x1), some (vI x2), some (vI x3)], [], σ3)) rfl h6).trans ?_
  refine (e_n 5 (fr' := (96, 51, [some (vR 9 0 0), some (vI x1), some (vI x2), some (vI x3)], [vI x1, vR 5 0 2, vI x3], σ3)) rfl).trans ?_
  refine (e_a (A := (96, 52, [some (vR 9 0 0), some (vI x1), some (vI x2), some (vI x3)], [vI (σ3.1 5 0 1 (x1).toNatClampNeg), vI x3], σ3)) rfl h7).trans ?_
  refine (e_n 2 (fr' := (96, 55, [some (vR 9 0 0), some (vI x1), some (vI x2), some (vI x3)], [vI (12 : Int32), vI (x3 - (σ3.1 5 0 1 (x1).toNatClampNeg))], σ3)) rfl).trans ?_
  refine (e_t (A := (96, 78, [some (vR 9 0 0), some (vI x1), some (vI x2), some (vI x3)], [], σ3)) rfl h8).trans ?_
  refine (e_n 1 (fr' := (96, 79, [some (vR 9 0 0), some (vI x1), some (vI x2), some (vI x3)], [vI (0 : Int32)], σ3)) rfl).trans ?_
  exact e_r rfl
set_option maxRecDepth 20000 in
theorem g96_0_3 (C : pmC) {σ : pmS} {x1 : Int32} {x2 : Int32} {x3 : Int32} {σ1 : pmS} {r1 : Int32} {σ2 : pmS} {r2 : Int32} {σ3 : pmS} {r3 : Int32} (h1 : C 34 [vR 5 0 0, vI x1, vI x3] σ = some (some (vI r1), σ1)) (h2 : ¬ r1 = 0) (h3 : C 34 [vR 5 0 0, vI x2, vI (x3 - (1 : Int32))] σ1 = some (some (vI r2), σ2)) (h4 : r2 = 0) (h5 : C 34 [vR 5 0 0, vI x2, vI x3] σ2 = some (some (vI r3), σ3)) (h6 : ¬ r3 = 0) (h7 : vp_in x1 48) (h8 : ¬ (x3 - (σ3.1 5 0 1 (x1).toNatClampNeg)) < (12 : Int32)) (h9 : vp_in x2 48) (h10 : (x3 - (σ3.1 5 0 1 (x2).toNatClampNeg)) < (12 : Int32)) : pq_Rn C (96, 0, [some (vR 9 0 0), some (vI x1), some (vI x2), some (vI x3)], [], σ) = some (some (vI (0 : Int32)), σ3) := by
  refine (e_n 4 (fr' := (96, 6, [some (vR 9 0 0), some (vI x1), some (vI x2), some (vI x3)], [vI x3, vI x1, vR 5 0 0], σ)) rfl).trans ?_
  refine (e_ci (m := 96) (pc := 9) (ls := [some (vR 9 0 0), some (vI x1), some (vI x2), some (vI x3)]) (rest := []) rfl h1).trans ?_
  refine (e_f (B := (96, 14, [some (vR 9 0 0), some (vI x1), some (vI x2), some (vI x3)], [], σ1)) rfl h2).trans ?_
  refine (e_n 6 (fr' := (96, 22, [some (vR 9 0 0), some (vI x1), some (vI x2), some (vI x3)], [vI (x3 - (1 : Int32)), vI x2, vR 5 0 0], σ1)) rfl).trans ?_
  refine (e_ci (m := 96) (pc := 25) (ls := [some (vR 9 0 0), some (vI x1), some (vI x2), some (vI x3)]) (rest := []) rfl h3).trans ?_
  refine (e_t (A := (96, 28, [some (vR 9 0 0), some (vI x1), some (vI x2), some (vI x3)], [], σ2)) rfl h4).trans ?_
  refine (e_n 4 (fr' := (96, 34, [some (vR 9 0 0), some (vI x1), some (vI x2), some (vI x3)], [vI x3, vI x2, vR 5 0 0], σ2)) rfl).trans ?_
  refine (e_ci (m := 96) (pc := 37) (ls := [some (vR 9 0 0), some (vI x1), some (vI x2), some (vI x3)]) (rest := []) rfl h5).trans ?_
  refine (e_f (B := (96, 42, [some (vR 9 0 0), some (vI x1), some (vI x2), some (vI x3)], [], σ3)) rfl h6).trans ?_
  refine (e_n 5 (fr' := (96, 51, [some (vR 9 0 0), some (vI x1), some (vI x2), some (vI x3)], [vI x1, vR 5 0 2, vI x3], σ3)) rfl).trans ?_
  refine (e_a (A := (96, 52, [some (vR 9 0 0), some (vI x1), some (vI x2), some (vI x3)], [vI (σ3.1 5 0 1 (x1).toNatClampNeg), vI x3], σ3)) rfl h7).trans ?_
  refine (e_n 2 (fr' := (96, 55, [some (vR 9 0 0), some (vI x1), some (vI x2), some (vI x3)], [vI (12 : Int32), vI (x3 - (σ3.1 5 0 1 (x1).toNatClampNeg))], σ3)) rfl).trans ?_
  refine (e_f (B := (96, 58, [some (vR 9 0 0), some (vI x1), some (vI x2), some (vI x3)], [], σ3)) rfl h8).trans ?_
  refine (e_n 5 (fr' := (96, 67, [some (vR 9 0 0), some (vI x1), some (vI x2), some (vI x3)], [vI x2, vR 5 0 2, vI x3], σ3)) rfl).trans ?_
  refine (e_a (A := (96, 68, [some (vR 9 0 0), some (vI x1), some (vI x2), some (vI x3)], [vI (σ3.1 5 0 1 (x2).toNatClampNeg), vI x3], σ3)) rfl h9).trans ?_
  refine (e_n 2 (fr' := (96, 71, [some (vR 9 0 0), some (vI x1), some (vI x2), some (vI x3)], [vI (12 : Int32), vI (x3 - (σ3.1 5 0 1 (x2).toNatClampNeg))], σ3)) rfl).trans ?_
  refine (e_t (A := (96, 78, [some (vR 9 0 0), some (vI x1), some (vI x2), some (vI x3)], [], σ3)) rfl h10).trans ?_
  refine (e_n 1 (fr' := (96, 79, [some (vR 9 0 0), some (vI x1), some (vI x2), some (vI x3)], [vI (0 : Int32)], σ3)) rfl).trans ?_
  exact e_r rfl
set_option maxRecDepth 20000 in
theorem g96_0_4 (C : pmC) {σ : pmS} {x1 : Int32} {x2 : Int32} {x3 : Int32} {σ1 : pmS} {r1 : Int32} {σ2 : pmS} {r2 : Int32} {σ3 : pmS} {r3 : Int32} (h1 : C 34 [vR 5 0 0, vI x1, vI x3] σ = some (some (vI r1), σ1)) (h2 : ¬ r1 = 0) (h3 : C 34 [vR 5 0 0, vI x2, vI (x3 - (1 : Int32))] σ1 = some (some (vI r2), σ2)) (h4 : r2 = 0) (h5 : C 34 [vR 5 0 0, vI x2, vI x3] σ2 = some (some (vI r3), σ3)) (h6 : ¬ r3 = 0) (h7 : vp_in x1 48) (h8 : ¬ (x3 - (σ3.1 5 0 1 (x1).toNatClampNeg)) < (12 : Int32)) (h9 : vp_in x2 48) (h10 : ¬ (x3 - (σ3.1 5 0 1 (x2).toNatClampNeg)) < (12 : Int32)) : pq_Rn C (96, 0, [some (vR 9 0 0), some (vI x1), some (vI x2), some (vI x3)], [], σ) = some (some (vI (1 : Int32)), σ3) := by
  refine (e_n 4 (fr' := (96, 6, [some (vR 9 0 0), some (vI x1), some (vI x2), some (vI x3)], [vI x3, vI x1, vR 5 0 0], σ)) rfl).trans ?_
  refine (e_ci (m := 96) (pc := 9) (ls := [some (vR 9 0 0), some (vI x1), some (vI x2), some (vI x3)]) (rest := []) rfl h1).trans ?_
  refine (e_f (B := (96, 14, [some (vR 9 0 0), some (vI x1), some (vI x2), some (vI x3)], [], σ1)) rfl h2).trans ?_
  refine (e_n 6 (fr' := (96, 22, [some (vR 9 0 0), some (vI x1), some (vI x2), some (vI x3)], [vI (x3 - (1 : Int32)), vI x2, vR 5 0 0], σ1)) rfl).trans ?_
  refine (e_ci (m := 96) (pc := 25) (ls := [some (vR 9 0 0), some (vI x1), some (vI x2), some (vI x3)]) (rest := []) rfl h3).trans ?_
  refine (e_t (A := (96, 28, [some (vR 9 0 0), some (vI x1), some (vI x2), some (vI x3)], [], σ2)) rfl h4).trans ?_
  refine (e_n 4 (fr' := (96, 34, [some (vR 9 0 0), some (vI x1), some (vI x2), some (vI x3)], [vI x3, vI x2, vR 5 0 0], σ2)) rfl).trans ?_
  refine (e_ci (m := 96) (pc := 37) (ls := [some (vR 9 0 0), some (vI x1), some (vI x2), some (vI x3)]) (rest := []) rfl h5).trans ?_
  refine (e_f (B := (96, 42, [some (vR 9 0 0), some (vI x1), some (vI x2), some (vI x3)], [], σ3)) rfl h6).trans ?_
  refine (e_n 5 (fr' := (96, 51, [some (vR 9 0 0), some (vI x1), some (vI x2), some (vI x3)], [vI x1, vR 5 0 2, vI x3], σ3)) rfl).trans ?_
  refine (e_a (A := (96, 52, [some (vR 9 0 0), some (vI x1), some (vI x2), some (vI x3)], [vI (σ3.1 5 0 1 (x1).toNatClampNeg), vI x3], σ3)) rfl h7).trans ?_
  refine (e_n 2 (fr' := (96, 55, [some (vR 9 0 0), some (vI x1), some (vI x2), some (vI x3)], [vI (12 : Int32), vI (x3 - (σ3.1 5 0 1 (x1).toNatClampNeg))], σ3)) rfl).trans ?_
  refine (e_f (B := (96, 58, [some (vR 9 0 0), some (vI x1), some (vI x2), some (vI x3)], [], σ3)) rfl h8).trans ?_
  refine (e_n 5 (fr' := (96, 67, [some (vR 9 0 0), some (vI x1), some (vI x2), some (vI x3)], [vI x2, vR 5 0 2, vI x3], σ3)) rfl).trans ?_
  refine (e_a (A := (96, 68, [some (vR 9 0 0), some (vI x1), some (vI x2), some (vI x3)], [vI (σ3.1 5 0 1 (x2).toNatClampNeg), vI x3], σ3)) rfl h9).trans ?_
  refine (e_n 2 (fr' := (96, 71, [some (vR 9 0 0), some (vI x1), some (vI x2), some (vI x3)], [vI (12 : Int32), vI (x3 - (σ3.1 5 0 1 (x2).toNatClampNeg))], σ3)) rfl).trans ?_
  refine (e_f (B := (96, 74, [some (vR 9 0 0), some (vI x1), some (vI x2), some (vI x3)], [], σ3)) rfl h10).trans ?_
  refine (e_n 2 (fr' := (96, 79, [some (vR 9 0 0), some (vI x1), some (vI x2), some (vI x3)], [vI (1 : Int32)], σ3)) rfl).trans ?_
  exact e_r rfl
set_option maxRecDepth 20000 in
theorem g96_0_5 (C : pmC) {σ : pmS} {x1 : Int32} {x2 : Int32} {x3 : Int32} {σ1 : pmS} {r1 : Int32} {σ2 : pmS} {r2 : Int32} (h1 : C 34 [vR 5 0 0, vI x1, vI x3] σ = some (some (vI r1), σ1)) (h2 : ¬ r1 = 0) (h3 : C 34 [vR 5 0 0, vI x2, vI (x3 - (1 : Int32))] σ1 = some (some (vI r2), σ2)) (h4 : ¬ r2 = 0) (h5 : vp_in x1 48) (h6 : (x3 - (σ2.1 5 0 1 (x1).toNatClampNeg)) < (12 : Int32)) : pq_Rn C (96, 0, [some (vR 9 0 0), some (vI x1), some (vI x2), some (vI x3)], [], σ) = some (some (vI (0 : Int32)), σ2) := by
  refine (e_n 4 (fr' := (96, 6, [some (vR 9 0 0), some (vI x1), some (vI x2), some (vI x3)], [vI x3, vI x1, vR 5 0 0], σ)) rfl).trans ?_
  refine (e_ci (m := 96) (pc := 9) (ls := [some (vR 9 0 0), some (vI x1), some (vI x2), some (vI x3)]) (rest := []) rfl h1).trans ?_
  refine (e_f (B := (96, 14, [some (vR 9 0 0), some (vI x1), some (vI x2), some (vI x3)], [], σ1)) rfl h2).trans ?_
  refine (e_n 6 (fr' := (96, 22, [some (vR 9 0 0), some (vI x1), some (vI x2), some (vI x3)], [vI (x3 - (1 : Int32)), vI x2, vR 5 0 0], σ1)) rfl).trans ?_
  refine (e_ci (m := 96) (pc := 25) (ls := [some (vR 9 0 0), some (vI x1), some (vI x2), some (vI x3)]) (rest := []) rfl h3).trans ?_
  refine (e_f (B := (96, 42, [some (vR 9 0 0), some (vI x1), some (vI x2), some (vI x3)], [], σ2)) rfl h4).trans ?_
  refine (e_n 5 (fr' := (96, 51, [some (vR 9 0 0), some (vI x1), some (vI x2), some (vI x3)], [vI x1, vR 5 0 2, vI x3], σ2)) rfl).trans ?_
  refine (e_a (A := (96, 52, [some (vR 9 0 0), some (vI x1), some (vI x2), some (vI x3)], [vI (σ2.1 5 0 1 (x1).toNatClampNeg), vI x3], σ2)) rfl h5).trans ?_
  refine (e_n 2 (fr' := (96, 55, [some (vR 9 0 0), some (vI x1), some (vI x2), some (vI x3)], [vI (12 : Int32), vI (x3 - (σ2.1 5 0 1 (x1).toNatClampNeg))], σ2)) rfl).trans ?_
  refine (e_t (A := (96, 78, [some (vR 9 0 0), some (vI x1), some (vI x2), some (vI x3)], [], σ2)) rfl h6).trans ?_
  refine (e_n 1 (fr' := (96, 79, [some (vR 9 0 0), some (vI x1), some (vI x2), some (vI x3)], [vI (0 : Int32)], σ2)) rfl).trans ?_
  exact e_r rfl
set_option maxRecDepth 20000 in
theorem g96_0_6 (C : pmC) {σ : pmS} {x1 : Int32} {x2 : Int32} {x3 : Int32} {σ1 : pmS} {r1 : Int32} {σ2 : pmS} {r2 : Int32} (h1 : C 34 [vR 5 0 0, vI x1, vI x3] σ = some (some (vI r1), σ1)) (h2 : ¬ r1 = 0) (h3 : C 34 [vR 5 0 0, vI x2, vI (x3 - (1 : Int32))] σ1 = some (some (vI r2), σ2)) (h4 : ¬ r2 = 0) (h5 : vp_in x1 48) (h6 : ¬ (x3 - (σ2.1 5 0 1 (x1).toNatClampNeg)) < (12 : Int32)) (h7 : vp_in x2 48) (h8 : (x3 - (σ2.1 5 0 1 (x2).toNatClampNeg)) < (12 : Int32)) : pq_Rn C (96, 0, [some (vR 9 0 0), some (vI x1), some (vI x2), some (vI x3)], [], σ) = some (some (vI (0 : Int32)), σ2) := by
  refine (e_n 4 (fr' := (96, 6, [some (vR 9 0 0), some (vI x1), some (vI x2), some (vI x3)], [vI x3, vI x1, vR 5 0 0], σ)) rfl).trans ?_
  refine (e_ci (m := 96) (pc := 9) (ls := [some (vR 9 0 0), some (vI x1), some (vI x2), some (vI x3)]) (rest := []) rfl h1).trans ?_
  refine (e_f (B := (96, 14, [some (vR 9 0 0), some (vI x1), some (vI x2), some (vI x3)], [], σ1)) rfl h2).trans ?_
  refine (e_n 6 (fr' := (96, 22, [some (vR 9 0 0), some (vI x1), some (vI x2), some (vI x3)], [vI (x3 - (1 : Int32)), vI x2, vR 5 0 0], σ1)) rfl).trans ?_
  refine (e_ci (m := 96) (pc := 25) (ls := [some (vR 9 0 0), some (vI x1), some (vI x2), some (vI x3)]) (rest := []) rfl h3).trans ?_
  refine (e_f (B := (96, 42, [some (vR 9 0 0), some (vI x1), some (vI x2), some (vI x3)], [], σ2)) rfl h4).trans ?_
  refine (e_n 5 (fr' := (96, 51, [some (vR 9 0 0), some (vI x1), some (vI x2), some (vI x3)], [vI x1, vR 5 0 2, vI x3], σ2)) rfl).trans ?_
  refine (e_a (A := (96, 52, [some (vR 9 0 0), some (vI x1), some (vI x2), some (vI x3)], [vI (σ2.1 5 0 1 (x1).toNatClampNeg), vI x3], σ2)) rfl h5).trans ?_
  refine (e_n 2 (fr' := (96, 55, [some (vR 9 0 0), some (vI x1), some (vI x2), some (vI x3)], [vI (12 : Int32), vI (x3 - (σ2.1 5 0 1 (x1).toNatClampNeg))], σ2)) rfl).trans ?_
  refine (e_f (B := (96, 58, [some (vR 9 0 0), some (vI x1), some (vI x2), some (vI x3)], [], σ2)) rfl h6).trans ?_
  refine (e_n 5 (fr' := (96, 67, [some (vR 9 0 0), some (vI x1), some (vI x2), some (vI x3)], [vI x2, vR 5 0 2, vI x3], σ2)) rfl).trans ?_
  refine (e_a (A := (96, 68, [some (vR 9 0 0), some (vI x1), some (vI x2), some (vI x3)], [vI (σ2.1 5 0 1 (x2).toNatClampNeg), vI x3], σ2)) rfl h7).trans ?_
  refine (e_n 2 (fr' := (96, 71, [some (vR 9 0 0), some (vI x1), some (vI x2), some (vI x3)], [vI (12 : Int32), vI (x3 - (σ2.1 5 0 1 (x2).toNatClampNeg))], σ2)) rfl).trans ?_
  refine (e_t (A := (96, 78, [some (vR 9 0 0), some (vI x1), some (vI x2), some (vI x3)], [], σ2)) rfl h8).trans ?_
  refine (e_n 1 (fr' := (96, 79, [some (vR 9 0 0), some (vI x1), some (vI x2), some (vI x3)], [vI (0 : Int32)], σ2)) rfl).trans ?_
  exact e_r rfl
set_option maxRecDepth 20000 in
theorem g96_0_7 (C : pmC) {σ : pmS} {x1 : Int32} {x2 : Int32} {x3 : Int32} {σ1 : pmS} {r1 : Int32} {σ2 : pmS} {r2 : Int32} (h1 : C 34 [vR 5 0 0, vI x1, vI x3] σ = some (some (vI r1), σ1)) (h2 : ¬ r1 = 0) (h3 : C 34 [vR 5 0 0, vI x2, vI (x3 - (1 : Int32))] σ1 = some (some (vI r2), σ2)) (h4 : ¬ r2 = 0) (h5 : vp_in x1 48) (h6 : ¬ (x3 - (σ2.1 5 0 1 (x1).toNatClampNeg)) < (12 : Int32)) (h7 : vp_in x2 48) (h8 : ¬ (x3 - (σ2.1 5 0 1 (x2).toNatClampNeg)) < (12 : Int32)) : pq_Rn C (96, 0, [some (vR 9 0 0), some (vI x1), some (vI x2), some (vI x3)], [], σ) = some (some (vI (1 : Int32)), σ2) := by
  refine (e_n 4 (fr' := (96, 6, [some (vR 9 0 0), some (vI x1), some (vI x2), some (vI x3)], [vI x3, vI x1, vR 5 0 0], σ)) rfl).trans ?_
  refine (e_ci (m := 96) (pc := 9) (ls := [some (vR 9 0 0), some (vI x1), some (vI x2), some (vI x3)]) (rest := []) rfl h1).trans ?_
  refine (e_f (B := (96, 14, [some (vR 9 0 0), some (vI x1), some (vI x2), some (vI x3)], [], σ1)) rfl h2).trans ?_
  refine (e_n 6 (fr' := (96, 22, [some (vR 9 0 0), some (vI x1), some (vI x2), some (vI x3)], [vI (x3 - (1 : Int32)), vI x2, vR 5 0 0], σ1)) rfl).trans ?_
  refine (e_ci (m := 96) (pc := 25) (ls := [some (vR 9 0 0), some (vI x1), some (vI x2), some (vI x3)]) (rest := []) rfl h3).trans ?_
  refine (e_f (B := (96, 42, [some (vR 9 0 0), some (vI x1), some (vI x2), some (vI x3)], [], σ2)) rfl h4).trans ?_
  refine (e_n 5 (fr' := (96, 51, [some (vR 9 0 0), some (vI x1), some (vI x2), some (vI x3)], [vI x1, vR 5 0 2, vI x3], σ2)) rfl).trans ?_
  refine (e_a (A := (96, 52, [some (vR 9 0 0), some (vI x1), some (vI x2), some (vI x3)], [vI (σ2.1 5 0 1 (x1).toNatClampNeg), vI x3], σ2)) rfl h5).trans ?_
  refine (e_n 2 (fr' := (96, 55, [some (vR 9 0 0), some (vI x1), some (vI x2), some (vI x3)], [vI (12 : Int32), vI (x3 - (σ2.1 5 0 1 (x1).toNatClampNeg))], σ2)) rfl).trans ?_
  refine (e_f (B := (96, 58, [some (vR 9 0 0), some (vI x1), some (vI x2), some (vI x3)], [], σ2)) rfl h6).trans ?_
  refine (e_n 5 (fr' := (96, 67, [some (vR 9 0 0), some (vI x1), some (vI x2), some (vI x3)], [vI x2, vR 5 0 2, vI x3], σ2)) rfl).trans ?_
  refine (e_a (A := (96, 68, [some (vR 9 0 0), some (vI x1), some (vI x2), some (vI x3)], [vI (σ2.1 5 0 1 (x2).toNatClampNeg), vI x3], σ2)) rfl h7).trans ?_
  refine (e_n 2 (fr' := (96, 71, [some (vR 9 0 0), some (vI x1), some (vI x2), some (vI x3)], [vI (12 : Int32), vI (x3 - (σ2.1 5 0 1 (x2).toNatClampNeg))], σ2)) rfl).trans ?_
  refine (e_f (B := (96, 74, [some (vR 9 0 0), some (vI x1), some (vI x2), some (vI x3)], [], σ2)) rfl h8).trans ?_
  refine (e_n 2 (fr' := (96, 79, [some (vR 9 0 0), some (vI x1), some (vI x2), some (vI x3)], [vI (1 : Int32)], σ2)) rfl).trans ?_
  exact e_r rfl
set_option maxRecDepth 20000 in
theorem g97_0_0 (C : pmC) {σ : pmS} {x1 : Int32} {x2 : Int32} {σ1 : pmS} {r1 : Int32} (h1 : C 34 [vR 5 0 0, vI x1, vI x2] σ = some (some (vI r1), σ1)) (h2 : r1 = 0) : pq_Rn C (97, 0, [some (vR 9 0 0), some (vI x1), some (vI x2)], [], σ) = some (some (vI (1 : Int32)), σ1) := by
  refine (e_n 4 (fr' := (97, 6, [some (vR 9 0 0), some (vI x1), some (vI x2)], [vI x2, vI x1, vR 5 0 0], σ)) rfl).trans ?_
  refine (e_ci (m := 97) (pc := 9) (ls := [some (vR 9 0 0), some (vI x1), some (vI x2)]) (rest := []) rfl h1).trans ?_
  refine (e_t (A := (97, 12, [some (vR 9 0 0), some (vI x1), some (vI x2)], [], σ1)) rfl h2).trans ?_
  refine (e_n 1 (fr' := (97, 13, [some (vR 9 0 0), some (vI x1), some (vI x2)], [vI (1 : Int32)], σ1)) rfl).trans ?_
  exact e_r rfl
set_option maxRecDepth 20000 in
theorem g97_0_1 (C : pmC) {σ : pmS} {x1 : Int32} {x2 : Int32} {σ1 : pmS} {r1 : Int32} {σ2 : pmS} {r2 : Int32} (h1 : C 34 [vR 5 0 0, vI x1, vI x2] σ = some (some (vI r1), σ1)) (h2 : ¬ r1 = 0) (h3 : vp_in x1 48) (h4 : (σ1.1 9 0 11 0) ≤ (x2 - (σ1.1 5 0 1 (x1).toNatClampNeg))) (h5 : C 53 [vR 8 0 0, vR 5 0 0, vI x1, vI x2] σ1 = some (some (vI r2), σ2)) (h6 : r2 = (-1 : Int32)) : pq_Rn C (97, 0, [some (vR 9 0 0), some (vI x1), some (vI x2)], [], σ) = some (some (vI (0 : Int32)), σ2) := by
  refine (e_n 4 (fr' := (97, 6, [some (vR 9 0 0), some (vI x1), some (vI x2)], [vI x2, vI x1, vR 5 0 0], σ)) rfl).trans ?_
  refine (e_ci (m := 97) (pc := 9) (ls := [some (vR 9 0 0), some (vI x1), some (vI x2)]) (rest := []) rfl h1).trans ?_
  refine (e_f (B := (97, 14, [some (vR 9 0 0), some (vI x1), some (vI x2)], [], σ1)) rfl h2).trans ?_
  refine (e_n 5 (fr' := (97, 23, [some (vR 9 0 0), some (vI x1), some (vI x2)], [vI x1, vR 5 0 2, vI x2], σ1)) rfl).trans ?_
  refine (e_a (A := (97, 24, [some (vR 9 0 0), some (vI x1), some (vI x2)], [vI (σ1.1 5 0 1 (x1).toNatClampNeg), vI x2], σ1)) rfl h3).trans ?_
  refine (e_n 3 (fr' := (97, 29, [some (vR 9 0 0), some (vI x1), some (vI x2)], [vI (σ1.1 9 0 11 0), vI (x2 - (σ1.1 5 0 1 (x1).toNatClampNeg))], σ1)) rfl).trans ?_
  refine (e_t (A := (97, 34, [some (vR 9 0 0), some (vI x1), some (vI x2)], [], σ1)) rfl h4).trans ?_
  refine (e_n 6 (fr' := (97, 44, [some (vR 9 0 0), some (vI x1), some (vI x2)], [vI x2, vI x1, vR 5 0 0, vR 8 0 0], σ1)) rfl).trans ?_
  refine (e_ci (m := 97) (pc := 47) (ls := [some (vR 9 0 0), some (vI x1), some (vI x2)]) (rest := []) rfl h5).trans ?_
  refine (e_n 1 (fr' := (97, 48, [some (vR 9 0 0), some (vI x1), some (vI x2)], [vI (-1 : Int32), vI r2], σ2)) rfl).trans ?_
  refine (e_t (A := (97, 55, [some (vR 9 0 0), some (vI x1), some (vI x2)], [], σ2)) rfl h6).trans ?_
  refine (e_n 1 (fr' := (97, 56, [some (vR 9 0 0), some (vI x1), some (vI x2)], [vI (0 : Int32)], σ2)) rfl).trans ?_
  exact e_r rfl
set_option maxRecDepth 20000 in
theorem g97_0_2 (C : pmC) {σ : pmS} {x1 : Int32} {x2 : Int32} {σ1 : pmS} {r1 : Int32} {σ2 : pmS} {r2 : Int32} (h1 : C 34 [vR 5 0 0, vI x1, vI x2] σ = some (some (vI r1), σ1)) (h2 : ¬ r1 = 0) (h3 : vp_in x1 48) (h4 : (σ1.1 9 0 11 0) ≤ (x2 - (σ1.1 5 0 1 (x1).toNatClampNeg))) (h5 : C 53 [vR 8 0 0, vR 5 0 0, vI x1, vI x2] σ1 = some (some (vI r2), σ2)) (h6 : ¬ r2 = (-1 : Int32)) : pq_Rn C (97, 0, [some (vR 9 0 0), some (vI x1), some (vI x2)], [], σ) = some (some (vI (3 : Int32)), σ2) := by
  refine (e_n 4 (fr' := (97, 6, [some (vR 9 0 0), some (vI x1), some (vI x2)], [vI x2, vI x1, vR 5 0 0], σ)) rfl).trans ?_
  refine (e_ci (m := 97) (pc := 9) (ls := [some (vR 9 0 0), some (vI x1), some (vI x2)]) (rest := []) rfl h1).trans ?_
  refine (e_f (B := (97, 14, [some (vR 9 0 0), some (vI x1), some (vI x2)], [], σ1)) rfl h2).trans ?_
  refine (e_n 5 (fr' := (97, 23, [some (vR 9 0 0), some (vI x1), some (vI x2)], [vI x1, vR 5 0 2, vI x2], σ1)) rfl).trans ?_
  refine (e_a (A := (97, 24, [some (vR 9 0 0), some (vI x1), some (vI x2)], [vI (σ1.1 5 0 1 (x1).toNatClampNeg), vI x2], σ1)) rfl h3).trans ?_
  refine (e_n 3 (fr' := (97, 29, [some (vR 9 0 0), some (vI x1), some (vI x2)], [vI (σ1.1 9 0 11 0), vI (x2 - (σ1.1 5 0 1 (x1).toNatClampNeg))], σ1)) rfl).trans ?_
  refine (e_t (A := (97, 34, [some (vR 9 0 0), some (vI x1), some (vI x2)], [], σ1)) rfl h4).trans ?_
  refine (e_n 6 (fr' := (97, 44, [some (vR 9 0 0), some (vI x1), some (vI x2)], [vI x2, vI x1, vR 5 0 0, vR 8 0 0], σ1)) rfl).trans ?_
  refine (e_ci (m := 97) (pc := 47) (ls := [some (vR 9 0 0), some (vI x1), some (vI x2)]) (rest := []) rfl h5).trans ?_
  refine (e_n 1 (fr' := (97, 48, [some (vR 9 0 0), some (vI x1), some (vI x2)], [vI (-1 : Int32), vI r2], σ2)) rfl).trans ?_
  refine (e_f (B := (97, 51, [some (vR 9 0 0), some (vI x1), some (vI x2)], [], σ2)) rfl h6).trans ?_
  refine (e_n 2 (fr' := (97, 56, [some (vR 9 0 0), some (vI x1), some (vI x2)], [vI (3 : Int32)], σ2)) rfl).trans ?_
  exact e_r rfl
set_option maxRecDepth 20000 in
theorem g97_0_3 (C : pmC) {σ : pmS} {x1 : Int32} {x2 : Int32} {σ1 : pmS} {r1 : Int32} (h1 : C 34 [vR 5 0 0, vI x1, vI x2] σ = some (some (vI r1), σ1)) (h2 : ¬ r1 = 0) (h3 : vp_in x1 48) (h4 : ¬ (σ1.1 9 0 11 0) ≤ (x2 - (σ1.1 5 0 1 (x1).toNatClampNeg))) : pq_Rn C (97, 0, [some (vR 9 0 0), some (vI x1), some (vI x2)], [], σ) = some (some (vI (2 : Int32)), σ1) := by
  refine (e_n 4 (fr' := (97, 6, [some (vR 9 0 0), some (vI x1), some (vI x2)], [vI x2, vI x1, vR 5 0 0], σ)) rfl).trans ?_
  refine (e_ci (m := 97) (pc := 9) (ls := [some (vR 9 0 0), some (vI x1), some (vI x2)]) (rest := []) rfl h1).trans ?_
  refine (e_f (B := (97, 14, [some (vR 9 0 0), some (vI x1), some (vI x2)], [], σ1)) rfl h2).trans ?_
  refine (e_n 5 (fr' := (97, 23, [some (vR 9 0 0), some (vI x1), some (vI x2)], [vI x1, vR 5 0 2, vI x2], σ1)) rfl).trans ?_
  refine (e_a (A := (97, 24, [some (vR 9 0 0), some (vI x1), some (vI x2)], [vI (σ1.1 5 0 1 (x1).toNatClampNeg), vI x2], σ1)) rfl h3).trans ?_
  refine (e_n 3 (fr' := (97, 29, [some (vR 9 0 0), some (vI x1), some (vI x2)], [vI (σ1.1 9 0 11 0), vI (x2 - (σ1.1 5 0 1 (x1).toNatClampNeg))], σ1)) rfl).trans ?_
  refine (e_f (B := (97, 32, [some (vR 9 0 0), some (vI x1), some (vI x2)], [], σ1)) rfl h4).trans ?_
  refine (e_n 1 (fr' := (97, 33, [some (vR 9 0 0), some (vI x1), some (vI x2)], [vI (2 : Int32)], σ1)) rfl).trans ?_
  exact e_r rfl
set_option maxRecDepth 20000 in
theorem g98_0_0 (C : pmC) {σ : pmS} {x1 : Int32} {x2 : Int32} {x3 : Int32} {σ1 : pmS} {r1 : Int32} {σ2 : pmS} {r2 : Int32} (h1 : C 36 [vR 5 0 0, vI x1, vI x2] σ = some (some (vI r1), σ1)) (h2 : r1 = 0) (h3 : C 99 [vR 9 0 0, vI x1, vI x2, vI x3] σ1 = some (some (vI r2), σ2)) (h4 : r2 = 0) : pq_Rn C (98, 0, [some (vR 9 0 0), some (vI x1), some (vI x2), some (vI x3)], [], σ) = some (some (vI (5 : Int32)), σ2) := by
  refine (e_n 4 (fr' := (98, 6, [some (vR 9 0 0), some (vI x1), some (vI x2), some (vI x3)], [vI x2, vI x1, vR 5 0 0], σ)) rfl).trans ?_
  refine (e_ci (m := 98) (pc := 9) (ls := [some (vR 9 0 0), some (vI x1), some (vI x2), some (vI x3)]) (rest := []) rfl h1).trans ?_
  refine (e_t (A := (98, 14, [some (vR 9 0 0), some (vI x1), some (vI x2), some (vI x3)], [], σ1)) rfl h2).trans ?_
  refine (e_n 4 (fr' := (98, 18, [some (vR 9 0 0), some (vI x1), some (vI x2), some (vI x3)], [vI x3, vI x2, vI x1, vR 9 0 0], σ1)) rfl).trans ?_
  refine (e_ci (m := 98) (pc := 21) (ls := [some (vR 9 0 0), some (vI x1), some (vI x2), some (vI x3)]) (rest := []) rfl h3).trans ?_
  refine (e_t (A := (98, 28, [some (vR 9 0 0), some (vI x1), some (vI x2), some (vI x3)], [], σ2)) rfl h4).trans ?_
  refine (e_n 1 (fr' := (98, 29, [some (vR 9 0 0), some (vI x1), some (vI x2), some (vI x3)], [vI (5 : Int32)], σ2)) rfl).trans ?_
  exact e_r rfl
set_option maxRecDepth 20000 in
theorem g98_0_1 (C : pmC) {σ : pmS} {x1 : Int32} {x2 : Int32} {x3 : Int32} {σ1 : pmS} {r1 : Int32} {σ2 : pmS} {r2 : Int32} (h1 : C 36 [vR 5 0 0, vI x1, vI x2] σ = some (some (vI r1), σ1)) (h2 : r1 = 0) (h3 : C 99 [vR 9 0 0, vI x1, vI x2, vI x3] σ1 = some (some (vI r2), σ2)) (h4 : ¬ r2 = 0) : pq_Rn C (98, 0, [some (vR 9 0 0), some (vI x1), some (vI x2), some (vI x3)], [], σ) = some (some (vI (0 : Int32)), σ2) := by
  refine (e_n 4 (fr' := (98, 6, [some (vR 9 0 0), some (vI x1), some (vI x2), some (vI x3)], [vI x2, vI x1, vR 5 0 0], σ)) rfl).trans ?_
  refine (e_ci (m := 98) (pc := 9) (ls := [some (vR 9 0 0), some (vI x1), some (vI x2), some (vI x3)]) (rest := []) rfl h1).trans ?_
  refine (e_t (A := (98, 14, [some (vR 9 0 0), some (vI x1), some (vI x2), some (vI x3)], [], σ1)) rfl h2).trans ?_
  refine (e_n 4 (fr' := (98, 18, [some (vR 9 0 0), some (vI x1), some (vI x2), some (vI x3)], [vI x3, vI x2, vI x1, vR 9 0 0], σ1)) rfl).trans ?_
  refine (e_ci (m := 98) (pc := 21) (ls := [some (vR 9 0 0), some (vI x1), some (vI x2), some (vI x3)]) (rest := []) rfl h3).trans ?_
  refine (e_f (B := (98, 24, [some (vR 9 0 0), some (vI x1), some (vI x2), some (vI x3)], [], σ2)) rfl h4).trans ?_
  refine (e_n 2 (fr' := (98, 29, [some (vR 9 0 0), some (vI x1), some (vI x2), some (vI x3)], [vI (0 : Int32)], σ2)) rfl).trans ?_
  exact e_r rfl
set_option maxRecDepth 20000 in
theorem g98_0_2 (C : pmC) {σ : pmS} {x1 : Int32} {x2 : Int32} {x3 : Int32} {σ1 : pmS} {r1 : Int32} (h1 : C 36 [vR 5 0 0, vI x1, vI x2] σ = some (some (vI r1), σ1)) (h2 : ¬ r1 = 0) : pq_Rn C (98, 0, [some (vR 9 0 0), some (vI x1), some (vI x2), some (vI x3)], [], σ) = some (some (vI (4 : Int32)), σ1) := by
  refine (e_n 4 (fr' := (98, 6, [some (vR 9 0 0), some (vI x1), some (vI x2), some (vI x3)], [vI x2, vI x1, vR 5 0 0], σ)) rfl).trans ?_
  refine (e_ci (m := 98) (pc := 9) (ls := [some (vR 9 0 0), some (vI x1), some (vI x2), some (vI x3)]) (rest := []) rfl h1).trans ?_
  refine (e_f (B := (98, 12, [some (vR 9 0 0), some (vI x1), some (vI x2), some (vI x3)], [], σ1)) rfl h2).trans ?_
  refine (e_n 1 (fr' := (98, 13, [some (vR 9 0 0), some (vI x1), some (vI x2), some (vI x3)], [vI (4 : Int32)], σ1)) rfl).trans ?_
  exact e_r rfl
set_option maxRecDepth 20000 in
theorem g99_0_0 (C : pmC) {σ : pmS} {x1 : Int32} {x2 : Int32} {x3 : Int32} {l4 : Option pmV} {l5 : Option pmV} {σ1 : pmS} {r1 : Int32} {σ2 : pmS} {r2 : Int32} (h1 : vp_in x2 48) (h2 : C 92 [vR 9 0 0, vI (σ.1 5 0 3 (x2).toNatClampNeg), vI x3] σ = some (some (vI r1), σ1)) (h3 : vp_in r1 4) (h4 : vp_in x1 48) (h5 : C 9 [vR 2 (r1).toNatClampNeg 0, vI (σ1.1 5 0 7 (x1).toNatClampNeg)] σ1 = some (some (vI r2), σ2)) (h6 : r2 = 0) : pq_Rn C (99, 0, [some (vR 9 0 0), some (vI x1), some (vI x2), some (vI x3), l4, l5], [], σ) = some (some (vI (0 : Int32)), σ2) := by
  refine (e_n 7 (fr' := (99, 13, [some (vR 9 0 0), some (vI x1), some (vI x2), some (vI x3), l4, l5], [vI x2, vR 5 0 4, vR 9 0 0, vR 9 0 2], σ)) rfl).trans ?_
  refine (e_a (A := (99, 14, [some (vR 9 0 0), some (vI x1), some (vI x2), some (vI x3), l4, l5], [vI (σ.1 5 0 3 (x2).toNatClampNeg), vR 9 0 0, vR 9 0 2], σ)) rfl h1).trans ?_
  refine (e_n 1 (fr' := (99, 15, [some (vR 9 0 0), some (vI x1), some (vI x2), some (vI x3), l4, l5], [vI x3, vI (σ.1 5 0 3 (x2).toNatClampNeg), vR 9 0 0, vR 9 0 2], σ)) rfl).trans ?_
  refine (e_ci (m := 99) (pc := 18) (ls := [some (vR 9 0 0), some (vI x1), some (vI x2), some (vI x3), l4, l5]) (rest := [vR 9 0 2]) rfl h2).trans ?_
  refine (e_a (A := (99, 19, [some (vR 9 0 0), some (vI x1), some (vI x2), some (vI x3), l4, l5], [vR 2 (r1).toNatClampNeg 0], σ1)) rfl h3).trans ?_
  refine (e_n 5 (fr' := (99, 29, [some (vR 9 0 0), some (vI x1), some (vI x2), some (vI x3), some (vR 2 (r1).toNatClampNeg 0), l5], [vI x1, vR 5 0 8], σ1)) rfl).trans ?_
  refine (e_a (A := (99, 30, [some (vR 9 0 0), some (vI x1), some (vI x2), some (vI x3), some (vR 2 (r1).toNatClampNeg 0), l5], [vI (σ1.1 5 0 7 (x1).toNatClampNeg)], σ1)) rfl h4).trans ?_
  refine (e_n 3 (fr' := (99, 36, [some (vR 9 0 0), some (vI x1), some (vI x2), some (vI x3), some (vR 2 (r1).toNatClampNeg 0), some (vI (σ1.1 5 0 7 (x1).toNatClampNeg))], [vI (σ1.1 5 0 7 (x1).toNatClampNeg), vR 2 (r1).toNatClampNeg 0], σ1)) rfl).trans ?_
  refine (e_ci (m := 99) (pc := 39) (ls := [some (vR 9 0 0), some (vI x1), some (vI x2), some (vI x3), some (vR 2 (r1).toNatClampNeg 0), some (vI (σ1.1 5 0 7 (x1).toNatClampNeg))]) (rest := []) rfl h5).trans ?_
  refine (e_t (A := (99, 66, [some (vR 9 0 0), some (vI x1), some (vI x2), some (vI x3), some (vR 2 (r1).toNatClampNeg 0), some (vI (σ1.1 5 0 7 (x1).toNatClampNeg))], [], σ2)) rfl h6).trans ?_
  refine (e_n 1 (fr' := (99, 67, [some (vR 9 0 0), some (vI x1), some (vI x2), some (vI x3), some (vR 2 (r1).toNatClampNeg 0), some (vI (σ1.1 5 0 7 (x1).toNatClampNeg))], [vI (0 : Int32)], σ2)) rfl).trans ?_
  exact e_r rfl
set_option maxRecDepth 20000 in
theorem g99_0_1 (C : pmC) {σ : pmS} {x1 : Int32} {x2 : Int32} {x3 : Int32} {l4 : Option pmV} {l5 : Option pmV} {σ1 : pmS} {r1 : Int32} {σ2 : pmS} {r2 : Int32} (h1 : vp_in x2 48) (h2 : C 92 [vR 9 0 0, vI (σ.1 5 0 3 (x2).toNatClampNeg), vI x3] σ = some (some (vI r1), σ1)) (h3 : vp_in r1 4) (h4 : vp_in x1 48) (h5 : C 9 [vR 2 (r1).toNatClampNeg 0, vI (σ1.1 5 0 7 (x1).toNatClampNeg)] σ1 = some (some (vI r2), σ2)) (h6 : ¬ r2 = 0) (h7 : vp_in (σ1.1 5 0 7 (x1).toNatClampNeg) 8) (h8 : (σ2.1 2 (r1).toNatClampNeg 0 ((σ1.1 5 0 7 (x1).toNatClampNeg)).toNatClampNeg) = (σ2.1 5 0 7 (x2).toNatClampNeg)) : pq_Rn C (99, 0, [some (vR 9 0 0), some (vI x1), some (vI x2), some (vI x3), l4, l5], [], σ) = some (some (vI (1 : Int32)), σ2) := by
  refine (e_n 7 (fr' := (99, 13, [some (vR 9 0 0), some (vI x1), some (vI x2), some (vI x3), l4, l5], [vI x2, vR 5 0 4, vR 9 0 0, vR 9 0 2], σ)) rfl).trans ?_
  refine (e_a (A := (99, 14, [some (vR 9 0 0), some (vI x1), some (vI x2), some (vI x3), l4, l5], [vI (σ.1 5 0 3 (x2).toNatClampNeg), vR 9 0 0, vR 9 0 2], σ)) rfl h1).trans ?_
  refine (e_n 1 (fr' := (99, 15, [some (vR 9 0 0), some (vI x1), some (vI x2), some (vI x3), l4, l5], [vI x3, vI (σ.1 5 0 3 (x2).toNatClampNeg), vR 9 0 0, vR 9 0 2], σ)) rfl).trans ?_
  refine (e_ci (m := 99) (pc := 18) (ls := [some (vR 9 0 0), some (vI x1), some (vI x2), some (vI x3), l4, l5]) (rest := [vR 9 0 2]) rfl h2).trans ?_
  refine (e_a (A := (99, 19, [some (vR 9 0 0), some (vI x1), some (vI x2), some (vI x3), l4, l5], [vR 2 (r1).toNatClampNeg 0], σ1)) rfl h3).trans ?_
  refine (e_n 5 (fr' := (99, 29, [some (vR 9 0 0), some (vI x1), some (vI x2), some (vI x3), some (vR 2 (r1).toNatClampNeg 0), l5], [vI x1, vR 5 0 8], σ1)) rfl).trans ?_
  refine (e_a (A := (99, 30, [some (vR 9 0 0), some (vI x1), some (vI x2), some (vI x3), some (vR 2 (r1).toNatClampNeg 0), l5], [vI (σ1.1 5 0 7 (x1).toNatClampNeg)], σ1)) rfl h4).trans ?_
  refine (e_n 3 (fr' := (99, 36, [some (vR 9 0 0), some (vI x1), some (vI x2), some (vI x3), some (vR 2 (r1).toNatClampNeg 0), some (vI (σ1.1 5 0 7 (x1).toNatClampNeg))], [vI (σ1.1 5 0 7 (x1).toNatClampNeg), vR 2 (r1).toNatClampNeg 0], σ1)) rfl).trans ?_
  refine (e_ci (m := 99) (pc := 39) (ls := [some (vR 9 0 0), some (vI x1), some (vI x2), some (vI x3), some (vR 2 (r1).toNatClampNeg 0), some (vI (σ1.1 5 0 7 (x1).toNatClampNeg))]) (rest := []) rfl h5).trans ?_
  refine (e_f (B := (99, 42, [some (vR 9 0 0), some (vI x1), some (vI x2), some (vI x3), some (vR 2 (r1).toNatClampNeg 0), some (vI (σ1.1 5 0 7 (x1).toNatClampNeg))], [], σ2)) rfl h6).trans ?_
  refine (e_n 3 (fr' := (99, 49, [some (vR 9 0 0), some (vI x1), some (vI x2), some (vI x3), some (vR 2 (r1).toNatClampNeg 0), some (vI (σ1.1 5 0 7 (x1).toNatClampNeg))], [vI (σ1.1 5 0 7 (x1).toNatClampNeg), vR 2 (r1).toNatClampNeg 1], σ2)) rfl).trans ?_
  refine (e_a (A := (99, 50, [some (vR 9 0 0), some (vI x1), some (vI x2), some (vI x3), some (vR 2 (r1).toNatClampNeg 0), some (vI (σ1.1 5 0 7 (x1).toNatClampNeg))], [vI (σ2.1 2 (r1).toNatClampNeg 0 ((σ1.1 5 0 7 (x1).toNatClampNeg)).toNatClampNeg)], σ2)) rfl h7).trans ?_
  refine (e_n 4 (fr' := (99, 58, [some (vR 9 0 0), some (vI x1), some (vI x2), some (vI x3), some (vR 2 (r1).toNatClampNeg 0), some (vI (σ1.1 5 0 7 (x1).toNatClampNeg))], [vI x2, vR 5 0 8, vI (σ2.1 2 (r1).toNatClampNeg 0 ((σ1.1 5 0 7 (x1).toNatClampNeg)).toNatClampNeg)], σ2)) rfl).trans ?_
  refine (e_a (A := (99, 59, [some (vR 9 0 0), some (vI x1), some (vI x2), some (vI x3), some (vR 2 (r1).toNatClampNeg 0), some (vI (σ1.1 5 0 7 (x1).toNatClampNeg))], [vI (σ2.1 5 0 7 (x2).toNatClampNeg), vI (σ2.1 2 (r1).toNatClampNeg 0 ((σ1.1 5 0 7 (x1).toNatClampNeg)).toNatClampNeg)], σ2)) rfl h1).trans ?_
  refine (e_t (A := (99, 62, [some (vR 9 0 0), some (vI x1), some (vI x2), some (vI x3), some (vR 2 (r1).toNatClampNeg 0), some (vI (σ1.1 5 0 7 (x1).toNatClampNeg))], [], σ2)) rfl h8).trans ?_
  refine (e_n 2 (fr' := (99, 67, [some (vR 9 0 0), some (vI x1), some (vI x2), some (vI x3), some (vR 2 (r1).toNatClampNeg 0), some (vI (σ1.1 5 0 7 (x1).toNatClampNeg))], [vI (1 : Int32)], σ2)) rfl).trans ?_
  exact e_r rfl
set_option maxRecDepth 20000 in
theorem g99_0_2 (C : pmC) {σ : pmS} {x1 : Int32} {x2 : Int32} {x3 : Int32} {l4 : Option pmV} {l5 : Option pmV} {σ1 : pmS} {r1 : Int32} {σ2 : pmS} {r2 : Int32} (h1 : vp_in x2 48) (h2 : C 92 [vR 9 0 0, vI (σ.1 5 0 3 (x2).toNatClampNeg), vI x3] σ = some (some (vI r1), σ1)) (h3 : vp_in r1 4) (h4 : vp_in x1 48) (h5 : C 9 [vR 2 (r1).toNatClampNeg 0, vI (σ1.1 5 0 7 (x1).toNatClampNeg)] σ1 = some (some (vI r2), σ2)) (h6 : ¬ r2 = 0) (h7 : vp_in (σ1.1 5 0 7 (x1).toNatClampNeg) 8) (h8 : ¬ (σ2.1 2 (r1).toNatClampNeg 0 ((σ1.1 5 0 7 (x1).toNatClampNeg)).toNatClampNeg) = (σ2.1 5 0 7 (x2).toNatClampNeg)) : pq_Rn C (99, 0, [some (vR 9 0 0), some (vI x1), some (vI x2), some (vI x3), l4, l5], [], σ) = some (some (vI (0 : Int32)), σ2) := by
  refine (e_n 7 (fr' := (99, 13, [some (vR 9 0 0), some (vI x1), some (vI x2), some (vI x3), l4, l5], [vI x2, vR 5 0 4, vR 9 0 0, vR 9 0 2], σ)) rfl).trans ?_
  refine (e_a (A := (99, 14, [some (vR 9 0 0), some (vI x1), some (vI x2), some (vI x3), l4, l5], [vI (σ.1 5 0 3 (x2).toNatClampNeg), vR 9 0 0, vR 9 0 2], σ)) rfl h1).trans ?_
  refine (e_n 1 (fr' := (99, 15, [some (vR 9 0 0), some (vI x1), some (vI x2), some (vI x3), l4, l5], [vI x3, vI (σ.1 5 0 3 (x2).toNatClampNeg), vR 9 0 0, vR 9 0 2], σ)) rfl).trans ?_
  refine (e_ci (m := 99) (pc := 18) (ls := [some (vR 9 0 0), some (vI x1), some (vI x2), some (vI x3), l4, l5]) (rest := [vR 9 0 2]) rfl h2).trans ?_
  refine (e_a (A := (99, 19, [some (vR 9 0 0), some (vI x1), some (vI x2), some (vI x3), l4, l5], [vR 2 (r1).toNatClampNeg 0], σ1)) rfl h3).trans ?_
  refine (e_n 5 (fr' := (99, 29, [some (vR 9 0 0), some (vI x1), some (vI x2), some (vI x3), some (vR 2 (r1).toNatClampNeg 0), l5], [vI x1, vR 5 0 8], σ1)) rfl).trans ?_
  refine (e_a (A := (99, 30, [some (vR 9 0 0), some (vI x1), some (vI x2), some (vI x3), some (vR 2 (r1).toNatClampNeg 0), l5], [vI (σ1.1 5 0 7 (x1).toNatClampNeg)], σ1)) rfl h4).trans ?_
  refine (e_n 3 (fr' := (99, 36, [some (vR 9 0 0), some (vI x1), some (vI x2), some (vI x3), some (vR 2 (r1).toNatClampNeg 0), some (vI (σ1.1 5 0 7 (x1).toNatClampNeg))], [vI (σ1.1 5 0 7 (x1).toNatClampNeg), vR 2 (r1).toNatClampNeg 0], σ1)) rfl).trans ?_
  refine (e_ci (m := 99) (pc := 39) (ls := [some (vR 9 0 0), some (vI x1), some (vI x2), some (vI x3), some (vR 2 (r1).toNatClampNeg 0), some (vI (σ1.1 5 0 7 (x1).toNatClampNeg))]) (rest := []) rfl h5).trans ?_
  refine (e_f (B := (99, 42, [some (vR 9 0 0), some (vI x1), some (vI x2), some (vI x3), some (vR 2 (r1).toNatClampNeg 0), some (vI (σ1.1 5 0 7 (x1).toNatClampNeg))], [], σ2)) rfl h6).trans ?_
  refine (e_n 3 (fr' := (99, 49, [some (vR 9 0 0), some (vI x1), some (vI x2), some (vI x3), some (vR 2 (r1).toNatClampNeg 0), some (vI (σ1.1 5 0 7 (x1).toNatClampNeg))], [vI (σ1.1 5 0 7 (x1).toNatClampNeg), vR 2 (r1).toNatClampNeg 1], σ2)) rfl).trans ?_
  refine (e_a (A := (99, 50, [some (vR 9 0 0), some (vI x1), some (vI x2), some (vI x3), some (vR 2 (r1).toNatClampNeg 0), some (vI (σ1.1 5 0 7 (x1).toNatClampNeg))], [vI (σ2.1 2 (r1).toNatClampNeg 0 ((σ1.1 5 0 7 (x1).toNatClampNeg)).toNatClampNeg)], σ2)) rfl h7).trans ?_
  refine (e_n 4 (fr' := (99, 58, [some (vR 9 0 0), some (vI x1), some (vI x2), some (vI x3), some (vR 2 (r1).toNatClampNeg 0), some (vI (σ1.1 5 0 7 (x1).toNatClampNeg))], [vI x2, vR 5 0 8, vI (σ2.1 2 (r1).toNatClampNeg 0 ((σ1.1 5 0 7 (x1).toNatClampNeg)).toNatClampNeg)], σ2)) rfl).trans ?_
  refine (e_a (A := (99, 59, [some (vR 9 0 0), some (vI x1), some (vI x2), some (vI x3), some (vR 2 (r1).toNatClampNeg 0), some (vI (σ1.1 5 0 7 (x1).toNatClampNeg))], [vI (σ2.1 5 0 7 (x2).toNatClampNeg), vI (σ2.1 2 (r1).toNatClampNeg 0 ((σ1.1 5 0 7 (x1).toNatClampNeg)).toNatClampNeg)], σ2)) rfl h1).trans ?_
  refine (e_f (B := (99, 66, [some (vR 9 0 0), some (vI x1), some (vI x2), some (vI x3), some (vR 2 (r1).toNatClampNeg 0), some (vI (σ1.1 5 0 7 (x1).toNatClampNeg))], [], σ2)) rfl h8).trans ?_
  refine (e_n 1 (fr' := (99, 67, [some (vR 9 0 0), some (vI x1), some (vI x2), some (vI x3), some (vR 2 (r1).toNatClampNeg 0), some (vI (σ1.1 5 0 7 (x1).toNatClampNeg))], [vI (0 : Int32)], σ2)) rfl).trans ?_
  exact e_r rfl
set_option maxRecDepth 20000 in
theorem g100_0_0 (C : pmC) {σ : pmS} {x1 : Int32} {x2 : Int32} {x3 : Int32} {x4 : Int32} {σ1 : pmS} {r1 : Int32} (h1 : vp_in x1 48) (h2 : (σ.1 5 0 0 (x1).toNatClampNeg) = x2) (h3 : (σ.1 5 0 3 (x1).toNatClampNeg) = x3) (h4 : C 97 [vR 9 0 0, vI x1, vI x4] σ = some (some (vI r1), σ1)) (h5 : r1 = 0) : pq_Rn C (100, 0, [some (vR 9 0 0), some (vI x1), some (vI x2), some (vI x3), some (vI x4)], [], σ) = some (some (vI (1 : Int32)), σ1) := by
  refine (e_n 4 (fr' := (100, 8, [some (vR 9 0 0), some (vI x1), some (vI x2), some (vI x3), some (vI x4)], [vI x1, vR 5 0 1], σ)) rfl).trans ?_
  refine (e_a (A := (100, 9, [some (vR 9 0 0), some (vI x1), some (vI x2), some (vI x3), some (vI x4)], [vI (σ.1 5 0 0 (x1).toNatClampNeg)], σ)) rfl h1).trans ?_
  refine (e_n 1 (fr' := (100, 10, [some (vR 9 0 0), some (vI x1), some (vI x2), some (vI x3), some (vI x4)], [vI x2, vI (σ.1 5 0 0 (x1).toNatClampNeg)], σ)) rfl).trans ?_
  refine (e_t (A := (100, 13, [some (vR 9 0 0), some (vI x1), some (vI x2), some (vI x3), some (vI x4)], [], σ)) rfl h2).trans ?_
  refine (e_n 4 (fr' := (100, 21, [some (vR 9 0 0), some (vI x1), some (vI x2), some (vI x3), some (vI x4)], [vI x1, vR 5 0 4], σ)) rfl).trans ?_
  refine (e_a (A := (100, 22, [some (vR 9 0 0), some (vI x1), some (vI x2), some (vI x3), some (vI x4)], [vI (σ.1 5 0 3 (x1).toNatClampNeg)], σ)) rfl h1).trans ?_
  refine (e_n 1 (fr' := (100, 23, [some (vR 9 0 0), some (vI x1), some (vI x2), some (vI x3), some (vI x4)], [vI x3, vI (σ.1 5 0 3 (x1).toNatClampNeg)], σ)) rfl).trans ?_
  refine (e_t (A := (100, 26, [some (vR 9 0 0), some (vI x1), some (vI x2), some (vI x3), some (vI x4)], [], σ)) rfl h3).trans ?_
  refine (e_n 3 (fr' := (100, 30, [some (vR 9 0 0), some (vI x1), some (vI x2), some (vI x3), some (vI x4)], [vI x4, vI x1, vR 9 0 0], σ)) rfl).trans ?_
  refine (e_ci (m := 100) (pc := 33) (ls := [some (vR 9 0 0), some (vI x1), some (vI x2), some (vI x3), some (vI x4)]) (rest := []) rfl h4).trans ?_
  refine (e_t (A := (100, 36, [some (vR 9 0 0), some (vI x1), some (vI x2), some (vI x3), some (vI x4)], [], σ1)) rfl h5).trans ?_
  refine (e_n 2 (fr' := (100, 41, [some (vR 9 0 0), some (vI x1), some (vI x2), some (vI x3), some (vI x4)], [vI (1 : Int32)], σ1)) rfl).trans ?_
  exact e_r rfl
set_option maxRecDepth 20000 in
theorem g100_0_1 (C : pmC) {σ : pmS} {x1 : Int32} {x2 : Int32} {x3 : Int32} {x4 : Int32} {σ1 : pmS} {r1 : Int32} (h1 : vp_in x1 48) (h2 : (σ.1 5 0 0 (x1).toNatClampNeg) = x2) (h3 : (σ.1 5 0 3 (x1).toNatClampNeg) = x3) (h4 : C 97 [vR 9 0 0, vI x1, vI x4] σ = some (some (vI r1), σ1)) (h5 : ¬ r1 = 0) : pq_Rn C (100, 0, [some (vR 9 0 0), some (vI x1), some (vI x2), some (vI x3), some (vI x4)], [], σ) = some (some (vI (0 : Int32)), σ1) := by
  refine (e_n 4 (fr' := (100, 8, [some (vR 9 0 0), some (vI x1), some (vI x2), some (vI x3), some (vI x4)], [vI x1, vR 5 0 1], σ)) rfl).trans ?_
  refine (e_a (A := (100, 9, [some (vR 9 0 0), some (vI x1), some (vI x2), some (vI x3), some (vI x4)], [vI (σ.1 5 0 0 (x1).toNatClampNeg)], σ)) rfl h1).trans ?_
  refine (e_n 1 (fr' := (100, 10, [some (vR 9 0 0), some (vI x1), some (vI x2), some (vI x3), some (vI x4)], [vI x2, vI (σ.1 5 0 0 (x1).toNatClampNeg)], σ)) rfl).trans ?_
  refine (e_t (A := (100, 13, [some (vR 9 0 0), some (vI x1), some (vI x2), some (vI x3), some (vI x4)], [], σ)) rfl h2).trans ?_
  refine (e_n 4 (fr' := (100, 21, [some (vR 9 0 0), some (vI x1), some (vI x2), some (vI x3), some (vI x4)], [vI x1, vR 5 0 4], σ)) rfl).trans ?_
  refine (e_a (A := (100, 22, [some (vR 9 0 0), some (vI x1), some (vI x2), some (vI x3), some (vI x4)], [vI (σ.1 5 0 3 (x1).toNatClampNeg)], σ)) rfl h1).trans ?_
  refine (e_n 1 (fr' := (100, 23, [some (vR 9 0 0), some (vI x1), some (vI x2), some (vI x3), some (vI x4)], [vI x3, vI (σ.1 5 0 3 (x1).toNatClampNeg)], σ)) rfl).trans ?_
  refine (e_t (A := (100, 26, [some (vR 9 0 0), some (vI x1), some (vI x2), some (vI x3), some (vI x4)], [], σ)) rfl h3).trans ?_
  refine (e_n 3 (fr' := (100, 30, [some (vR 9 0 0), some (vI x1), some (vI x2), some (vI x3), some (vI x4)], [vI x4, vI x1, vR 9 0 0], σ)) rfl).trans ?_
  refine (e_ci (m := 100) (pc := 33) (ls := [some (vR 9 0 0), some (vI x1), some (vI x2), some (vI x3), some (vI x4)]) (rest := []) rfl h4).trans ?_
  refine (e_f (B := (100, 40, [some (vR 9 0 0), some (vI x1), some (vI x2), some (vI x3), some (vI x4)], [], σ1)) rfl h5).trans ?_
  refine (e_n 1 (fr' := (100, 41, [some (vR 9 0 0), some (vI x1), some (vI x2), some (vI x3), some (vI x4)], [vI (0 : Int32)], σ1)) rfl).trans ?_
  exact e_r rfl
set_option maxRecDepth 20000 in
theorem g100_0_2 (C : pmC) {σ : pmS} {x1 : Int32} {x2 : Int32} {x3 : Int32} {x4 : Int32} (h1 : vp_in x1 48) (h2 : (σ.1 5 0 0 (x1).toNatClampNeg) = x2) (h3 : ¬ (σ.1 5 0 3 (x1).toNatClampNeg) = x3) : pq_Rn C (100, 0, [some (vR 9 0 0), some (vI x1), some (vI x2), some (vI x3), some (vI x4)], [], σ) = some (some (vI (0 : Int32)), σ) := by
  refine (e_n 4 (fr' := (100, 8, [some (vR 9 0 0), some (vI x1), some (vI x2), some (vI x3), some (vI x4)], [vI x1, vR 5 0 1], σ)) rfl).trans ?_
  refine (e_a (A := (100, 9, [some (vR 9 0 0), some (vI x1), some (vI x2), some (vI x3), some (vI x4)], [vI (σ.1 5 0 0 (x1).toNatClampNeg)], σ)) rfl h1).trans ?_
  refine (e_n 1 (fr' := (100, 10, [some (vR 9 0 0), some (vI x1), some (vI x2), some (vI x3), some (vI x4)], [vI x2, vI (σ.1 5 0 0 (x1).toNatClampNeg)], σ)) rfl).trans ?_
  refine (e_t (A := (100, 13, [some (vR 9 0 0), some (vI x1), some (vI x2), some (vI x3), some (vI x4)], [], σ)) rfl h2).trans ?_
  refine (e_n 4 (fr' := (100, 21, [some (vR 9 0 0), some (vI x1), some (vI x2), some (vI x3), some (vI x4)], [vI x1, vR 5 0 4], σ)) rfl).trans ?_
  refine (e_a (A := (100, 22, [some (vR 9 0 0), some (vI x1), some (vI x2), some (vI x3), some (vI x4)], [vI (σ.1 5 0 3 (x1).toNatClampNeg)], σ)) rfl h1).trans ?_
  refine (e_n 1 (fr' := (100, 23, [some (vR 9 0 0), some (vI x1), some (vI x2), some (vI x3), some (vI x4)], [vI x3, vI (σ.1 5 0 3 (x1).toNatClampNeg)], σ)) rfl).trans ?_
  refine (e_f (B := (100, 40, [some (vR 9 0 0), some (vI x1), some (vI x2), some (vI x3), some (vI x4)], [], σ)) rfl h3).trans ?_
  refine (e_n 1 (fr' := (100, 41, [some (vR 9 0 0), some (vI x1), some (vI x2), some (vI x3), some (vI x4)], [vI (0 : Int32)], σ)) rfl).trans ?_
  exact e_r rfl
set_option maxRecDepth 20000 in
theorem g100_0_3 (C : pmC) {σ : pmS} {x1 : Int32} {x2 : Int32} {x3 : Int32} {x4 : Int32} (h1 : vp_in x1 48) (h2 : ¬ (σ.1 5 0 0 (x1).toNatClampNeg) = x2) : pq_Rn C (100, 0, [some (vR 9 0 0), some (vI x1), some (vI x2), some (vI x3), some (vI x4)], [], σ) = some (some (vI (0 : Int32)), σ) := by
  refine (e_n 4 (fr' := (100, 8, [some (vR 9 0 0), some (vI x1), some (vI x2), some (vI x3), some (vI x4)], [vI x1, vR 5 0 1], σ)) rfl).trans ?_
  refine (e_a (A := (100, 9, [some (vR 9 0 0), some (vI x1), some (vI x2), some (vI x3), some (vI x4)], [vI (σ.1 5 0 0 (x1).toNatClampNeg)], σ)) rfl h1).trans ?_
  refine (e_n 1 (fr' := (100, 10, [some (vR 9 0 0), some (vI x1), some (vI x2), some (vI x3), some (vI x4)], [vI x2, vI (σ.1 5 0 0 (x1).toNatClampNeg)], σ)) rfl).trans ?_
  refine (e_f (B := (100, 40, [some (vR 9 0 0), some (vI x1), some (vI x2), some (vI x3), some (vI x4)], [], σ)) rfl h2).trans ?_
  refine (e_n 1 (fr' := (100, 41, [some (vR 9 0 0), some (vI x1), some (vI x2), some (vI x3), some (vI x4)], [vI (0 : Int32)], σ)) rfl).trans ?_
  exact e_r rfl
set_option maxRecDepth 20000 in
theorem g101_0_0 (C : pmC) {σ : pmS} {x1 : Int32} {x2 : Int32} {x3 : Int32} {l4 : Option pmV}  : pq_Rn C (101, 0, [some (vR 9 0 0), some (vI x1), some (vI x2), some (vI x3), l4], [], σ) = pq_Rn C (101, 3, [some (vR 9 0 0), some (vI x1), some (vI x2), some (vI x3), some (vI (0 : Int32))], [], σ) := by
  exact e_n 2 rfl
set_option maxRecDepth 20000 in
theorem g101_3_0 (C : pmC) {σ : pmS} {x1 : Int32} {x2 : Int32} {x3 : Int32} {x4 : Int32} (h1 : (σ.1 5 0 9 0) ≤ x4) : pq_Rn C (101, 3, [some (vR 9 0 0), some (vI x1), some (vI x2), some (vI x3), some (vI x4)], [], σ) = some (none, σ) := by
  refine (e_n 4 (fr' := (101, 12, [some (vR 9 0 0), some (vI x1), some (vI x2), some (vI x3), some (vI x4)], [vI (σ.1 5 0 9 0), vI x4], σ)) rfl).trans ?_
  refine (e_t (A := (101, 54, [some (vR 9 0 0), some (vI x1), some (vI x2), some (vI x3), some (vI x4)], [], σ)) rfl h1).trans ?_
  exact e_r rfl
set_option maxRecDepth 20000 in
theorem g101_3_1 (C : pmC) {σ : pmS} {x1 : Int32} {x2 : Int32} {x3 : Int32} {x4 : Int32} {σ1 : pmS} {r1 : Int32} (h1 : ¬ (σ.1 5 0 9 0) ≤ x4) (h2 : C 100 [vR 9 0 0, vI x4, vI (1 : Int32), vI x2, vI x3] σ = some (some (vI r1), σ1)) (h3 : r1 = 0) : pq_Rn C (101, 3, [some (vR 9 0 0), some (vI x1), some (vI x2), some (vI x3), some (vI x4)], [], σ) = pq_Rn C (101, 3, [some (vR 9 0 0), some (vI x1), some (vI x2), some (vI x3), some (vI (x4 + (1 : Int32)))], [], σ1) := by
  refine (e_n 4 (fr' := (101, 12, [some (vR 9 0 0), some (vI x1), some (vI x2), some (vI x3), some (vI x4)], [vI (σ.1 5 0 9 0), vI x4], σ)) rfl).trans ?_
  refine (e_f (B := (101, 15, [some (vR 9 0 0), some (vI x1), some (vI x2), some (vI x3), some (vI x4)], [], σ)) rfl h1).trans ?_
  refine (e_n 5 (fr' := (101, 21, [some (vR 9 0 0), some (vI x1), some (vI x2), some (vI x3), some (vI x4)], [vI x3, vI x2, vI (1 : Int32), vI x4, vR 9 0 0], σ)) rfl).trans ?_
  refine (e_ci (m := 101) (pc := 24) (ls := [some (vR 9 0 0), some (vI x1), some (vI x2), some (vI x3), some (vI x4)]) (rest := []) rfl h2).trans ?_
  refine (e_t (A := (101, 48, [some (vR 9 0 0), some (vI x1), some (vI x2), some (vI x3), some (vI x4)], [], σ1)) rfl h3).trans ?_
  exact e_n 2 rfl
set_option maxRecDepth 20000 in
theorem g101_3_2 (C : pmC) {σ : pmS} {x1 : Int32} {x2 : Int32} {x3 : Int32} {x4 : Int32} {σ1 : pmS} {r1 : Int32} {σ2 : pmS} {r2 : Int32} {σ3 : pmS} (h1 : ¬ (σ.1 5 0 9 0) ≤ x4) (h2 : C 100 [vR 9 0 0, vI x4, vI (1 : Int32), vI x2, vI x3] σ = some (some (vI r1), σ1)) (h3 : ¬ r1 = 0) (h4 : C 98 [vR 9 0 0, vI x1, vI x4, vI x3] σ1 = some (some (vI r2), σ2)) (h5 : r2 = 0) (h6 : C 17 [vR 3 0 0, vI x1, vI x4] σ2 = some (none, σ3)) : pq_Rn C (101, 3, [some (vR 9 0 0), some (vI x1), some (vI x2), some (vI x3), some (vI x4)], [], σ) = pq_Rn C (101, 3, [some (vR 9 0 0), some (vI x1), some (vI x2), some (vI x3), some (vI (x4 + (1 : Int32)))], [], σ3) := by
  refine (e_n 4 (fr' := (101, 12, [some (vR 9 0 0), some (vI x1), some (vI x2), some (vI x3), some (vI x4)], [vI (σ.1 5 0 9 0), vI x4], σ)) rfl).trans ?_
  refine (e_f (B := (101, 15, [some (vR 9 0 0), some (vI x1), some (vI x2), some (vI x3), some (vI x4)], [], σ)) rfl h1).trans ?_
  refine (e_n 5 (fr' := (101, 21, [some (vR 9 0 0), some (vI x1), some (vI x2), some (vI x3), some (vI x4)], [vI x3, vI x2, vI (1 : Int32), vI x4, vR 9 0 0], σ)) rfl).trans ?_
  refine (e_ci (m := 101) (pc := 24) (ls := [some (vR 9 0 0), some (vI x1), some (vI x2), some (vI x3), some (vI x4)]) (rest := []) rfl h2).trans ?_
  refine (e_f (B := (101, 27, [some (vR 9 0 0), some (vI x1), some (vI x2), some (vI x3), some (vI x4)], [], σ1)) rfl h3).trans ?_
  refine (e_n 4 (fr' := (101, 32, [some (vR 9 0 0), some (vI x1), some (vI x2), some (vI x3), some (vI x4)], [vI x3, vI x4, vI x1, vR 9 0 0], σ1)) rfl).trans ?_
  refine (e_ci (m := 101) (pc := 35) (ls := [some (vR 9 0 0), some (vI x1), some (vI x2), some (vI x3), some (vI x4)]) (rest := []) rfl h4).trans ?_
  refine (e_t (A := (101, 38, [some (vR 9 0 0), some (vI x1), some (vI x2), some (vI x3), some (vI x4)], [], σ2)) rfl h5).trans ?_
  refine (e_n 4 (fr' := (101, 45, [some (vR 9 0 0), some (vI x1), some (vI x2), some (vI x3), some (vI x4)], [vI x4, vI x1, vR 3 0 0], σ2)) rfl).trans ?_
  refine (e_cv (m := 101) (pc := 48) (ls := [some (vR 9 0 0), some (vI x1), some (vI x2), some (vI x3), some (vI x4)]) (rest := []) rfl h6).trans ?_
  exact e_n 2 rfl
set_option maxRecDepth 20000 in
theorem g101_3_3 (C : pmC) {σ : pmS} {x1 : Int32} {x2 : Int32} {x3 : Int32} {x4 : Int32} {σ1 : pmS} {r1 : Int32} {σ2 : pmS} {r2 : Int32} (h1 : ¬ (σ.1 5 0 9 0) ≤ x4) (h2 : C 100 [vR 9 0 0, vI x4, vI (1 : Int32), vI x2, vI x3] σ = some (some (vI r1), σ1)) (h3 : ¬ r1 = 0) (h4 : C 98 [vR 9 0 0, vI x1, vI x4, vI x3] σ1 = some (some (vI r2), σ2)) (h5 : ¬ r2 = 0) : pq_Rn C (101, 3, [some (vR 9 0 0), some (vI x1), some (vI x2), some (vI x3), some (vI x4)], [], σ) = pq_Rn C (101, 3, [some (vR 9 0 0), some (vI x1), some (vI x2), some (vI x3), some (vI (x4 + (1 : Int32)))], [], σ2) := by
  refine (e_n 4 (fr' := (101, 12, [some (vR 9 0 0), some (vI x1), some (vI x2), some (vI x3), some (vI x4)], [vI (σ.1 5 0 9 0), vI x4], σ)) rfl).trans ?_
  refine (e_f (B := (101, 15, [some (vR 9 0 0), some (vI x1), some (vI x2), some (vI x3), some (vI x4)], [], σ)) rfl h1).trans ?_
  refine (e_n 5 (fr' := (101, 21, [some (vR 9 0 0), some (vI x1), some (vI x2), some (vI x3), some (vI x4)], [vI x3, vI x2, vI (1 : Int32), vI x4, vR 9 0 0], σ)) rfl).trans ?_
  refine (e_ci (m := 101) (pc := 24) (ls := [some (vR 9 0 0), some (vI x1), some (vI x2), some (vI x3), some (vI x4)]) (rest := []) rfl h2).trans ?_
  refine (e_f (B := (101, 27, [some (vR 9 0 0), some (vI x1), some (vI x2), some (vI x3), some (vI x4)], [], σ1)) rfl h3).trans ?_
  refine (e_n 4 (fr' := (101, 32, [some (vR 9 0 0), some (vI x1), some (vI x2), some (vI x3), some (vI x4)], [vI x3, vI x4, vI x1, vR 9 0 0], σ1)) rfl).trans ?_
  refine (e_ci (m := 101) (pc := 35) (ls := [some (vR 9 0 0), some (vI x1), some (vI x2), some (vI x3), some (vI x4)]) (rest := []) rfl h4).trans ?_
  refine (e_f (B := (101, 48, [some (vR 9 0 0), some (vI x1), some (vI x2), some (vI x3), some (vI x4)], [], σ2)) rfl h5).trans ?_
  exact e_n 2 rfl
set_option maxRecDepth 20000 in
theorem g102_0_0 (C : pmC) {σ : pmS} {l1 : Option pmV} {l2 : Option pmV} {σ1 : pmS} (h1 : C 3 [vR 1 0 0, vI (σ.1 5 0 9 0)] σ = some (none, σ1)) : pq_Rn C (102, 0, [some (vR 9 0 0), l1, l2], [], σ) = pq_Rn C (102, 16, [some (vR 9 0 0), some (vI (0 : Int32)), l2], [], σ1) := by
  refine (e_n 5 (fr' := (102, 11, [some (vR 9 0 0), l1, l2], [vI (σ.1 5 0 9 0), vR 1 0 0], σ)) rfl).trans ?_
  refine (e_cv (m := 102) (pc := 14) (ls := [some (vR 9 0 0), l1, l2]) (rest := []) rfl h1).trans ?_
  exact e_n 2 rfl
set_option maxRecDepth 20000 in
theorem g102_16_0 (C : pmC) {σ : pmS} {x1 : Int32} {l2 : Option pmV} {σ1 : pmS} {r1 : Int32} (h1 : (8 : Int32) ≤ x1) (h2 : C 7 [vR 1 0 0, vI (σ.1 5 0 9 0)] σ = some (some (vI r1), σ1)) (h3 : r1 = 0 ∨ r1 = 1) : pq_Rn C (102, 16, [some (vR 9 0 0), some (vI x1), l2], [], σ) = some (some (vI r1), σ1) := by
  refine (e_n 2 (fr' := (102, 19, [some (vR 9 0 0), some (vI x1), l2], [vI (8 : Int32), vI x1], σ)) rfl).trans ?_
  refine (e_t (A := (102, 95, [some (vR 9 0 0), some (vI x1), l2], [], σ)) rfl h1).trans ?_
  refine (e_n 5 (fr' := (102, 106, [some (vR 9 0 0), some (vI x1), l2], [vI (σ.1 5 0 9 0), vR 1 0 0], σ)) rfl).trans ?_
  refine (e_ci (m := 102) (pc := 109) (ls := [some (vR 9 0 0), some (vI x1), l2]) (rest := []) rfl h2).trans ?_
  exact e_rz rfl rfl h3
set_option maxRecDepth 20000 in
theorem g102_16_1 (C : pmC) {σ : pmS} {x1 : Int32} {l2 : Option pmV} (h1 : ¬ (8 : Int32) ≤ x1) : pq_Rn C (102, 16, [some (vR 9 0 0), some (vI x1), l2], [], σ) = pq_Rn C (102, 24, [some (vR 9 0 0), some (vI x1), some (vI (0 : Int32))], [], σ) := by
  refine (e_n 2 (fr' := (102, 19, [some (vR 9 0 0), some (vI x1), l2], [vI (8 : Int32), vI x1], σ)) rfl).trans ?_
  refine (e_f (B := (102, 22, [some (vR 9 0 0), some (vI x1), l2], [], σ)) rfl h1).trans ?_
  exact e_n 2 rfl
set_option maxRecDepth 20000 in
theorem g102_24_0 (C : pmC) {σ : pmS} {x1 : Int32} {x2 : Int32} {σ1 : pmS} (h1 : (σ.1 5 0 9 0) ≤ x2) (h2 : C 6 [vR 1 0 0, vI (σ.1 5 0 9 0)] σ = some (none, σ1)) : pq_Rn C (102, 24, [some (vR 9 0 0), some (vI x1), some (vI x2)], [], σ) = pq_Rn C (102, 16, [some (vR 9 0 0), some (vI (x1 + (1 : Int32))), some (vI x2)], [], σ1) := by
  refine (e_n 4 (fr' := (102, 32, [some (vR 9 0 0), some (vI x1), some (vI x2)], [vI (σ.1 5 0 9 0), vI x2], σ)) rfl).trans ?_
  refine (e_t (A := (102, 75, [some (vR 9 0 0), some (vI x1), some (vI x2)], [], σ)) rfl h1).trans ?_
  refine (e_n 5 (fr' := (102, 86, [some (vR 9 0 0), some (vI x1), some (vI x2)], [vI (σ.1 5 0 9 0), vR 1 0 0], σ)) rfl).trans ?_
  refine (e_cv (m := 102) (pc := 89) (ls := [some (vR 9 0 0), some (vI x1), some (vI x2)]) (rest := []) rfl h2).trans ?_
  exact e_n 2 rfl
set_option maxRecDepth 20000 in
theorem g102_24_1 (C : pmC) {σ : pmS} {x1 : Int32} {x2 : Int32} {σ1 : pmS} {r1 : Int32} {σ2 : pmS} (h1 : ¬ (σ.1 5 0 9 0) ≤ x2) (h2 : C 33 [vR 5 0 0, vI x2] σ = some (some (vI r1), σ1)) (h3 : r1 = 0) (h4 : C 104 [vR 9 0 0, vI x2] σ1 = some (none, σ2)) : pq_Rn C (102, 24, [some (vR 9 0 0), some (vI x1), some (vI x2)], [], σ) = pq_Rn C (102, 24, [some (vR 9 0 0), some (vI x1), some (vI (x2 + (1 : Int32)))], [], σ2) := by
  refine (e_n 4 (fr' := (102, 32, [some (vR 9 0 0), some (vI x1), some (vI x2)], [vI (σ.1 5 0 9 0), vI x2], σ)) rfl).trans ?_
  refine (e_f (B := (102, 35, [some (vR 9 0 0), some (vI x1), some (vI x2)], [], σ)) rfl h1).trans ?_
  refine (e_n 3 (fr' := (102, 40, [some (vR 9 0 0), some (vI x1), some (vI x2)], [vI x2, vR 5 0 0], σ)) rfl).trans ?_
  refine (e_ci (m := 102) (pc := 43) (ls := [some (vR 9 0 0), some (vI x1), some (vI x2)]) (rest := []) rfl h2).trans ?_
  refine (e_t (A := (102, 64, [some (vR 9 0 0), some (vI x1), some (vI x2)], [], σ1)) rfl h3).trans ?_
  refine (e_n 2 (fr' := (102, 66, [some (vR 9 0 0), some (vI x1), some (vI x2)], [vI x2, vR 9 0 0], σ1)) rfl).trans ?_
  refine (e_cv (m := 102) (pc := 69) (ls := [some (vR 9 0 0), some (vI x1), some (vI x2)]) (rest := []) rfl h4).trans ?_
  exact e_n 2 rfl
set_option maxRecDepth 20000 in
theorem g102_24_2 (C : pmC) {σ : pmS} {x1 : Int32} {x2 : Int32} {σ1 : pmS} {r1 : Int32} {σ2 : pmS} {r2 : Int32} {σ3 : pmS} (h1 : ¬ (σ.1 5 0 9 0) ≤ x2) (h2 : C 33 [vR 5 0 0, vI x2] σ = some (some (vI r1), σ1)) (h3 : ¬ r1 = 0) (h4 : C 103 [vR 9 0 0, vI x2, vI x1] σ1 = some (some (vI r2), σ2)) (h5 : C 4 [vR 1 0 0, vI x2, vI x1, vI r2] σ2 = some (none, σ3)) : pq_Rn C (102, 24, [some (vR 9 0 0), some (vI x1), some (vI x2)], [], σ) = pq_Rn C (102, 24, [some (vR 9 0 0), some (vI x1), some (vI (x2 + (1 : Int32)))], [], σ3) := by
  refine (e_n 4 (fr' := (102, 32, [some (vR 9 0 0), some (vI x1), some (vI x2)], [vI (σ.1 5 0 9 0), vI x2], σ)) rfl).trans ?_
  refine (e_f (B := (102, 35, [some (vR 9 0 0), some (vI x1), some (vI x2)], [], σ)) rfl h1).trans ?_
  refine (e_n 3 (fr' := (102, 40, [some (vR 9 0 0), some (vI x1), some (vI x2)], [vI x2, vR 5 0 0], σ)) rfl).trans ?_
  refine (e_ci (m := 102) (pc := 43) (ls := [some (vR 9 0 0), some (vI x1), some (vI x2)]) (rest := []) rfl h2).trans ?_
  refine (e_f (B := (102, 46, [some (vR 9 0 0), some (vI x1), some (vI x2)], [], σ1)) rfl h3).trans ?_
  refine (e_n 7 (fr' := (102, 55, [some (vR 9 0 0), some (vI x1), some (vI x2)], [vI x1, vI x2, vR 9 0 0, vI x1, vI x2, vR 1 0 0], σ1)) rfl).trans ?_
  refine (e_ci (m := 102) (pc := 58) (ls := [some (vR 9 0 0), some (vI x1), some (vI x2)]) (rest := [vI x1, vI x2, vR 1 0 0]) rfl h4).trans ?_
  refine (e_cv (m := 102) (pc := 61) (ls := [some (vR 9 0 0), some (vI x1), some (vI x2)]) (rest := []) rfl h5).trans ?_
  exact e_n 3 rfl
set_option maxRecDepth 20000 in
theorem g103_0_0 (C : pmC) {σ : pmS} {x1 : Int32} {x2 : Int32} {l3 : Option pmV} {σ1 : pmS} {q1 : Nat} {σ2 : pmS} {r2 : Int32} (h1 : vp_in x1 48) (h2 : (σ.1 5 0 6 (x1).toNatClampNeg) = (-1 : Int32)) (h3 : C 93 [vR 9 0 0, vI x1] σ = some (some (vR 2 q1 0), σ1)) (h4 : C 9 [vR 2 q1 0, vI x2] σ1 = some (some (vI r2), σ2)) (h5 : r2 = 0 ∨ r2 = 1) : pq_Rn C (103, 0, [some (vR 9 0 0), some (vI x1), some (vI x2), l3], [], σ) = some (some (vI r2), σ2) := by
  refine (e_n 4 (fr' := (103, 8, [some (vR 9 0 0), some (vI x1), some (vI x2), l3], [vI x1, vR 5 0 7], σ)) rfl).trans ?_
  refine (e_a (A := (103, 9, [some (vR 9 0 0), some (vI x1), some (vI x2), l3], [vI (σ.1 5 0 6 (x1).toNatClampNeg)], σ)) rfl h1).trans ?_
  refine (e_n 3 (fr' := (103, 12, [some (vR 9 0 0), some (vI x1), some (vI x2), some (vI (σ.1 5 0 6 (x1).toNatClampNeg))], [vI (-1 : Int32), vI (σ.1 5 0 6 (x1).toNatClampNeg)], σ)) rfl).trans ?_
  refine (e_t (A := (103, 28, [some (vR 9 0 0), some (vI x1), some (vI x2), some (vI (σ.1 5 0 6 (x1).toNatClampNeg))], [], σ)) rfl h2).trans ?_
  refine (e_n 2 (fr' := (103, 30, [some (vR 9 0 0), some (vI x1), some (vI x2), some (vI (σ.1 5 0 6 (x1).toNatClampNeg))], [vI x1, vR 9 0 0], σ)) rfl).trans ?_
  refine (e_cr (m := 103) (pc := 33) (ls := [some (vR 9 0 0), some (vI x1), some (vI x2), some (vI (σ.1 5 0 6 (x1).toNatClampNeg))]) (rest := []) rfl h3).trans ?_
  refine (e_n 1 (fr' := (103, 34, [some (vR 9 0 0), some (vI x1), some (vI x2), some (vI (σ.1 5 0 6 (x1).toNatClampNeg))], [vI x2, vR 2 q1 0], σ1)) rfl).trans ?_
  refine (e_ci (m := 103) (pc := 37) (ls := [some (vR 9 0 0), some (vI x1), some (vI x2), some (vI (σ.1 5 0 6 (x1).toNatClampNeg))]) (rest := []) rfl h4).trans ?_
  exact e_rz rfl rfl h5
set_option maxRecDepth 20000 in
theorem g103_0_1 (C : pmC) {σ : pmS} {x1 : Int32} {x2 : Int32} {l3 : Option pmV} (h1 : vp_in x1 48) (h2 : ¬ (σ.1 5 0 6 (x1).toNatClampNeg) = (-1 : Int32)) (h3 : (σ.1 5 0 6 (x1).toNatClampNeg) = x2) : pq_Rn C (103, 0, [some (vR 9 0 0), some (vI x1), some (vI x2), l3], [], σ) = some (some (vI (1 : Int32)), σ) := by
  refine (e_n 4 (fr' := (103, 8, [some (vR 9 0 0), some (vI x1), some (vI x2), l3], [vI x1, vR 5 0 7], σ)) rfl).trans ?_
  refine (e_a (A := (103, 9, [some (vR 9 0 0), some (vI x1), some (vI x2), l3], [vI (σ.1 5 0 6 (x1).toNatClampNeg)], σ)) rfl h1).trans ?_
  refine (e_n 3 (fr' := (103, 12, [some (vR 9 0 0), some (vI x1), some (vI x2), some (vI (σ.1 5 0 6 (x1).toNatClampNeg))], [vI (-1 : Int32), vI (σ.1 5 0 6 (x1).toNatClampNeg)], σ)) rfl).trans ?_
  refine (e_f (B := (103, 15, [some (vR 9 0 0), some (vI x1), some (vI x2), some (vI (σ.1 5 0 6 (x1).toNatClampNeg))], [], σ)) rfl h2).trans ?_
  refine (e_n 2 (fr' := (103, 17, [some (vR 9 0 0), some (vI x1), some (vI x2), some (vI (σ.1 5 0 6 (x1).toNatClampNeg))], [vI x2, vI (σ.1 5 0 6 (x1).toNatClampNeg)], σ)) rfl).trans ?_
  refine (e_t (A := (103, 20, [some (vR 9 0 0), some (vI x1), some (vI x2), some (vI (σ.1 5 0 6 (x1).toNatClampNeg))], [], σ)) rfl h3).trans ?_
  refine (e_n 2 (fr' := (103, 37, [some (vR 9 0 0), some (vI x1), some (vI x2), some (vI (σ.1 5 0 6 (x1).toNatClampNeg))], [vI (1 : Int32)], σ)) rfl).trans ?_
  exact e_r rfl
set_option maxRecDepth 20000 in
theorem g103_0_2 (C : pmC) {σ : pmS} {x1 : Int32} {x2 : Int32} {l3 : Option pmV} (h1 : vp_in x1 48) (h2 : ¬ (σ.1 5 0 6 (x1).toNatClampNeg) = (-1 : Int32)) (h3 : ¬ (σ.1 5 0 6 (x1).toNatClampNeg) = x2) : pq_Rn C (103, 0, [some (vR 9 0 0), some (vI x1), some (vI x2), l3], [], σ) = some (some (vI (0 : Int32)), σ) := by
  refine (e_n 4 (fr' := (103, 8, [some (vR 9 0 0), some (vI x1), some (vI x2), l3], [vI x1, vR 5 0 7], σ)) rfl).trans ?_
  refine (e_a (A := (103, 9, [some (vR 9 0 0), some (vI x1), some (vI x2), l3], [vI (σ.1 5 0 6 (x1).toNatClampNeg)], σ)) rfl h1).trans ?_
  refine (e_n 3 (fr' := (103, 12, [some (vR 9 0 0), some (vI x1), some (vI x2), some (vI (σ.1 5 0 6 (x1).toNatClampNeg))], [vI (-1 : Int32), vI (σ.1 5 0 6 (x1).toNatClampNeg)], σ)) rfl).trans ?_
  refine (e_f (B := (103, 15, [some (vR 9 0 0), some (vI x1), some (vI x2), some (vI (σ.1 5 0 6 (x1).toNatClampNeg))], [], σ)) rfl h2).trans ?_
  refine (e_n 2 (fr' := (103, 17, [some (vR 9 0 0), some (vI x1), some (vI x2), some (vI (σ.1 5 0 6 (x1).toNatClampNeg))], [vI x2, vI (σ.1 5 0 6 (x1).toNatClampNeg)], σ)) rfl).trans ?_
  refine (e_f (B := (103, 24, [some (vR 9 0 0), some (vI x1), some (vI x2), some (vI (σ.1 5 0 6 (x1).toNatClampNeg))], [], σ)) rfl h3).trans ?_
  refine (e_n 2 (fr' := (103, 37, [some (vR 9 0 0), some (vI x1), some (vI x2), some (vI (σ.1 5 0 6 (x1).toNatClampNeg))], [vI (0 : Int32)], σ)) rfl).trans ?_
  exact e_r rfl
set_option maxRecDepth 20000 in
theorem g104_0_0 (C : pmC) {σ : pmS} {x1 : Int32} {l2 : Option pmV} {l3 : Option pmV} {l4 : Option pmV} {σ1 : pmS} {r1 : Int32} {σ2 : pmS} {q2 : Nat} {σ3 : pmS} {r3 : Int32} {σ4 : pmS} (h1 : C 94 [vR 9 0 0, vI x1] σ = some (some (vI r1), σ1)) (h2 : r1 = 0) (h3 : vp_in x1 48) (h4 : C 93 [vR 9 0 0, vI x1] σ1 = some (some (vR 2 q2 0), σ2)) (h5 : vp_in (σ1.1 5 0 5 (x1).toNatClampNeg) 48) (h6 : r1 = 0) (h7 : C 10 [vR 2 q2 0, vI (σ2.1 1 0 0 ((σ1.1 5 0 5 (x1).toNatClampNeg)).toNatClampNeg), vI (0 : Int32)] σ2 = some (some (vI r3), σ3)) (h8 : C 5 [vR 1 0 0, vI x1, vI (σ1.1 5 0 5 (x1).toNatClampNeg), vI r3] σ3 = some (none, σ4)) : pq_Rn C (104, 0, [some (vR 9 0 0), some (vI x1), l2, l3, l4], [], σ) = some (none, σ4) := by
  refine (e_n 2 (fr' := (104, 2, [some (vR 9 0 0), some (vI x1), l2, l3, l4], [vI x1, vR 9 0 0], σ)) rfl).trans ?_
  refine (e_ci (m := 104) (pc := 5) (ls := [some (vR 9 0 0), some (vI x1), l2, l3, l4]) (rest := []) rfl h1).trans ?_
  refine (e_n 2 (fr' := (104, 7, [some (vR 9 0 0), some (vI x1), some (vI r1), l3, l4], [vI r1], σ1)) rfl).trans ?_
  refine (e_t (A := (104, 22, [some (vR 9 0 0), some (vI x1), some (vI r1), l3, l4], [], σ1)) rfl h2).trans ?_
  refine (e_n 4 (fr' := (104, 30, [some (vR 9 0 0), some (vI x1), some (vI r1), l3, l4], [vI x1, vR 5 0 6], σ1)) rfl).trans ?_
  refine (e_a (A := (104, 31, [some (vR 9 0 0), some (vI x1), some (vI r1), l3, l4], [vI (σ1.1 5 0 5 (x1).toNatClampNeg)], σ1)) rfl h3).trans ?_
  refine (e_n 3 (fr' := (104, 34, [some (vR 9 0 0), some (vI x1), some (vI r1), some (vI (σ1.1 5 0 5 (x1).toNatClampNeg)), l4], [vI x1, vR 9 0 0], σ1)) rfl).trans ?_
  refine (e_cr (m := 104) (pc := 37) (ls := [some (vR 9 0 0), some (vI x1), some (vI r1), some (vI (σ1.1 5 0 5 (x1).toNatClampNeg)), l4]) (rest := []) rfl h4).trans ?_
  refine (e_n 4 (fr' := (104, 45, [some (vR 9 0 0), some (vI x1), some (vI r1), some (vI (σ1.1 5 0 5 (x1).toNatClampNeg)), l4], [vI (σ1.1 5 0 5 (x1).toNatClampNeg), vR 1 0 1, vR 2 q2 0], σ2)) rfl).trans ?_
  refine (e_a (A := (104, 46, [some (vR 9 0 0), some (vI x1), some (vI r1), some (vI (σ1.1 5 0 5 (x1).toNatClampNeg)), l4], [vI (σ2.1 1 0 0 ((σ1.1 5 0 5 (x1).toNatClampNeg)).toNatClampNeg), vR 2 q2 0], σ2)) rfl h5).trans ?_
  refine (e_n 1 (fr' := (104, 47, [some (vR 9 0 0), some (vI x1), some (vI r1), some (vI (σ1.1 5 0 5 (x1).toNatClampNeg)), l4], [vI r1, vI (σ2.1 1 0 0 ((σ1.1 5 0 5 (x1).toNatClampNeg)).toNatClampNeg), vR 2 q2 0], σ2)) rfl).trans ?_
  refine (e_t (A := (104, 54, [some (vR 9 0 0), some (vI x1), some (vI r1), some (vI (σ1.1 5 0 5 (x1).toNatClampNeg)), l4], [vI (σ2.1 1 0 0 ((σ1.1 5 0 5 (x1).toNatClampNeg)).toNatClampNeg), vR 2 q2 0], σ2)) rfl h6).trans ?_
  refine (e_n 1 (fr' := (104, 55, [some (vR 9 0 0), some (vI x1), some (vI r1), some (vI (σ1.1 5 0 5 (x1).toNatClampNeg)), l4], [vI (0 : Int32), vI (σ2.1 1 0 0 ((σ1.1 5 0 5 (x1).toNatClampNeg)).toNatClampNeg), vR 2 q2 0], σ2)) rfl).trans ?_
  refine (e_ci (m := 104) (pc := 58) (ls := [some (vR 9 0 0), some (vI x1), some (vI r1), some (vI (σ1.1 5 0 5 (x1).toNatClampNeg)), l4]) (rest := []) rfl h7).trans ?_
  refine (e_n 6 (fr' := (104, 68, [some (vR 9 0 0), some (vI x1), some (vI r1), some (vI (σ1.1 5 0 5 (x1).toNatClampNeg)), some (vI r3)], [vI r3, vI (σ1.1 5 0 5 (x1).toNatClampNeg), vI x1, vR 1 0 0], σ3)) rfl).trans ?_
  refine (e_cv (m := 104) (pc := 71) (ls := [some (vR 9 0 0), some (vI x1), some (vI r1), some (vI (σ1.1 5 0 5 (x1).toNatClampNeg)), some (vI r3)]) (rest := []) rfl h8).trans ?_
  exact e_r rfl
set_option maxRecDepth 20000 in
theorem g104_0_1 (C : pmC) {σ : pmS} {x1 : Int32} {l2 : Option pmV} {l3 : Option pmV} {l4 : Option pmV} {σ1 : pmS} {r1 : Int32} {σ2 : pmS} {q2 : Nat} {σ3 : pmS} {r3 : Int32} {σ4 : pmS} (h1 : C 94 [vR 9 0 0, vI x1] σ = some (some (vI r1), σ1)) (h2 : r1 = 0) (h3 : vp_in x1 48) (h4 : C 93 [vR 9 0 0, vI x1] σ1 = some (some (vR 2 q2 0), σ2)) (h5 : vp_in (σ1.1 5 0 5 (x1).toNatClampNeg) 48) (h6 : ¬ r1 = 0) (h7 : C 10 [vR 2 q2 0, vI (σ2.1 1 0 0 ((σ1.1 5 0 5 (x1).toNatClampNeg)).toNatClampNeg), vI (1 : Int32)] σ2 = some (some (vI r3), σ3)) (h8 : C 5 [vR 1 0 0, vI x1, vI (σ1.1 5 0 5 (x1).toNatClampNeg), vI r3] σ3 = some (none, σ4)) : pq_Rn C (104, 0, [some (vR 9 0 0), some (vI x1), l2, l3, l4], [], σ) = some (none, σ4) := by
  refine (e_n 2 (fr' := (104, 2, [some (vR 9 0 0), some (vI x1), l2, l3, l4], [vI x1, vR 9 0 0], σ)) rfl).trans ?_
  refine (e_ci (m := 104) (pc := 5) (ls := [some (vR 9 0 0), some (vI x1), l2, l3, l4]) (rest := []) rfl h1).trans ?_
  refine (e_n 2 (fr' := (104, 7, [some (vR 9 0 0), some (vI x1), some (vI r1), l3, l4], [vI r1], σ1)) rfl).trans ?_
  refine (e_t (A := (104, 22, [some (vR 9 0 0), some (vI x1), some (vI r1), l3, l4], [], σ1)) rfl h2).trans ?_
  refine (e_n 4 (fr' := (104, 30, [some (vR 9 0 0), some (vI x1), some (vI r1), l3, l4], [vI x1, vR 5 0 6], σ1)) rfl).trans ?_
  refine (e_a (A := (104, 31, [some (vR 9 0 0), some (vI x1), some (vI r1), l3, l4], [vI (σ1.1 5 0 5 (x1).toNatClampNeg)], σ1)) rfl h3).trans ?_
  refine (e_n 3 (fr' := (104, 34, [some (vR 9 0 0), some (vI x1), some (vI r1), some (vI (σ1.1 5 0 5 (x1).toNatClampNeg)), l4], [vI x1, vR 9 0 0], σ1)) rfl).trans ?_
  refine (e_cr (m := 104) (pc := 37) (ls := [some (vR 9 0 0), some (vI x1), some (vI r1), some (vI (σ1.1 5 0 5 (x1).toNatClampNeg)), l4]) (rest := []) rfl h4).trans ?_
  refine (e_n 4 (fr' := (104, 45, [some (vR 9 0 0), some (vI x1), some (vI r1), some (vI (σ1.1 5 0 5 (x1).toNatClampNeg)), l4], [vI (σ1.1 5 0 5 (x1).toNatClampNeg), vR 1 0 1, vR 2 q2 0], σ2)) rfl).trans ?_
  refine (e_a (A := (104, 46, [some (vR 9 0 0), some (vI x1), some (vI r1), some (vI (σ1.1 5 0 5 (x1).toNatClampNeg)), l4], [vI (σ2.1 1 0 0 ((σ1.1 5 0 5 (x1).toNatClampNeg)).toNatClampNeg), vR 2 q2 0], σ2)) rfl h5).trans ?_
  refine (e_n 1 (fr' := (104, 47, [some (vR 9 0 0), some (vI x1), some (vI r1), some (vI (σ1.1 5 0 5 (x1).toNatClampNeg)), l4], [vI r1, vI (σ2.1 1 0 0 ((σ1.1 5 0 5 (x1).toNatClampNeg)).toNatClampNeg), vR 2 q2 0], σ2)) rfl).trans ?_
  refine (e_f (B := (104, 50, [some (vR 9 0 0), some (vI x1), some (vI r1), some (vI (σ1.1 5 0 5 (x1).toNatClampNeg)), l4], [vI (σ2.1 1 0 0 ((σ1.1 5 0 5 (x1).toNatClampNeg)).toNatClampNeg), vR 2 q2 0], σ2)) rfl h6).trans ?_
  refine (e_n 2 (fr' := (104, 55, [some (vR 9 0 0), some (vI x1), some (vI r1), some (vI (σ1.1 5 0 5 (x1).toNatClampNeg)), l4], [vI (1 : Int32), vI (σ2.1 1 0 0 ((σ1.1 5 0 5 (x1).toNatClampNeg)).toNatClampNeg), vR 2 q2 0], σ2)) rfl).trans ?_
  refine (e_ci (m := 104) (pc := 58) (ls := [some (vR 9 0 0), some (vI x1), some (vI r1), some (vI (σ1.1 5 0 5 (x1).toNatClampNeg)), l4]) (rest := []) rfl h7).trans ?_
  refine (e_n 6 (fr' := (104, 68, [some (vR 9 0 0), some (vI x1), some (vI r1), some (vI (σ1.1 5 0 5 (x1).toNatClampNeg)), some (vI r3)], [vI r3, vI (σ1.1 5 0 5 (x1).toNatClampNeg), vI x1, vR 1 0 0], σ3)) rfl).trans ?_
  refine (e_cv (m := 104) (pc := 71) (ls := [some (vR 9 0 0), some (vI x1), some (vI r1), some (vI (σ1.1 5 0 5 (x1).toNatClampNeg)), some (vI r3)]) (rest := []) rfl h8).trans ?_
  exact e_r rfl
set_option maxRecDepth 20000 in
theorem g104_0_2 (C : pmC) {σ : pmS} {x1 : Int32} {l2 : Option pmV} {l3 : Option pmV} {l4 : Option pmV} {σ1 : pmS} {r1 : Int32} {σ2 : pmS} {q2 : Nat} {σ3 : pmS} {r3 : Int32} {σ4 : pmS} (h1 : C 94 [vR 9 0 0, vI x1] σ = some (some (vI r1), σ1)) (h2 : ¬ r1 = 0) (h3 : vp_in x1 48) (h4 : C 93 [vR 9 0 0, vI x1] σ1 = some (some (vR 2 q2 0), σ2)) (h5 : vp_in (σ1.1 5 0 4 (x1).toNatClampNeg) 48) (h6 : r1 = 0) (h7 : C 10 [vR 2 q2 0, vI (σ2.1 1 0 0 ((σ1.1 5 0 4 (x1).toNatClampNeg)).toNatClampNeg), vI (0 : Int32)] σ2 = some (some (vI r3), σ3)) (h8 : C 5 [vR 1 0 0, vI x1, vI (σ1.1 5 0 4 (x1).toNatClampNeg), vI r3] σ3 = some (none, σ4)) : pq_Rn C (104, 0, [some (vR 9 0 0), some (vI x1), l2, l3, l4], [], σ) = some (none, σ4) := by
  refine (e_n 2 (fr' := (104, 2, [some (vR 9 0 0), some (vI x1), l2, l3, l4], [vI x1, vR 9 0 0], σ)) rfl).trans ?_
  refine (e_ci (m := 104) (pc := 5) (ls := [some (vR 9 0 0), some (vI x1), l2, l3, l4]) (rest := []) rfl h1).trans ?_
  refine (e_n 2 (fr' := (104, 7, [some (vR 9 0 0), some (vI x1), some (vI r1), l3, l4], [vI r1], σ1)) rfl).trans ?_
  refine (e_f (B := (104, 10, [some (vR 9 0 0), some (vI x1), some (vI r1), l3, l4], [], σ1)) rfl h2).trans ?_
  refine (e_n 4 (fr' := (104, 18, [some (vR 9 0 0), some (vI x1), some (vI r1), l3, l4], [vI x1, vR 5 0 5], σ1)) rfl).trans ?_
  refine (e_a (A := (104, 19, [some (vR 9 0 0), some (vI x1), some (vI r1), l3, l4], [vI (σ1.1 5 0 4 (x1).toNatClampNeg)], σ1)) rfl h3).trans ?_
  refine (e_n 4 (fr' := (104, 34, [some (vR 9 0 0), some (vI x1), some (vI r1), some (vI (σ1.1 5 0 4 (x1).toNatClampNeg)), l4], [vI x1, vR 9 0 0], σ1)) rfl).trans ?_
  refine (e_cr (m := 104) (pc := 37) (ls := [some (vR 9 0 0), some (vI x1), some (vI r1), some (vI (σ1.1 5 0 4 (x1).toNatClampNeg)), l4]) (rest := []) rfl h4).trans ?_
  refine (e_n 4 (fr' := (104, 45, [some (vR 9 0 0), some (vI x1), some (vI r1), some (vI (σ1.1 5 0 4 (x1).toNatClampNeg)), l4], [vI (σ1.1 5 0 4 (x1).toNatClampNeg), vR 1 0 1, vR 2 q2 0], σ2)) rfl).trans ?_
  refine (e_a (A := (104, 46, [some (vR 9 0 0), some (vI x1), some (vI r1), some (vI (σ1.1 5 0 4 (x1).toNatClampNeg)), l4], [vI (σ2.1 1 0 0 ((σ1.1 5 0 4 (x1).toNatClampNeg)).toNatClampNeg), vR 2 q2 0], σ2)) rfl h5).trans ?_
  refine (e_n 1 (fr' := (104, 47, [some (vR 9 0 0), some (vI x1), some (vI r1), some (vI (σ1.1 5 0 4 (x1).toNatClampNeg)), l4], [vI r1, vI (σ2.1 1 0 0 ((σ1.1 5 0 4 (x1).toNatClampNeg)).toNatClampNeg), vR 2 q2 0], σ2)) rfl).trans ?_
  refine (e_t (A := (104, 54, [some (vR 9 0 0), some (vI x1), some (vI r1), some (vI (σ1.1 5 0 4 (x1).toNatClampNeg)), l4], [vI (σ2.1 1 0 0 ((σ1.1 5 0 4 (x1).toNatClampNeg)).toNatClampNeg), vR 2 q2 0], σ2)) rfl h6).trans ?_
  refine (e_n 1 (fr' := (104, 55, [some (vR 9 0 0), some (vI x1), some (vI r1), some (vI (σ1.1 5 0 4 (x1).toNatClampNeg)), l4], [vI (0 : Int32), vI (σ2.1 1 0 0 ((σ1.1 5 0 4 (x1).toNatClampNeg)).toNatClampNeg), vR 2 q2 0], σ2)) rfl).trans ?_
  refine (e_ci (m := 104) (pc := 58) (ls := [some (vR 9 0 0), some (vI x1), some (vI r1), some (vI (σ1.1 5 0 4 (x1).toNatClampNeg)), l4]) (rest := []) rfl h7).trans ?_
  refine (e_n 6 (fr' := (104, 68, [some (vR 9 0 0), some (vI x1), some (vI r1), some (vI (σ1.1 5 0 4 (x1).toNatClampNeg)), some (vI r3)], [vI r3, vI (σ1.1 5 0 4 (x1).toNatClampNeg), vI x1, vR 1 0 0], σ3)) rfl).trans ?_
  refine (e_cv (m := 104) (pc := 71) (ls := [some (vR 9 0 0), some (vI x1), some (vI r1), some (vI (σ1.1 5 0 4 (x1).toNatClampNeg)), some (vI r3)]) (rest := []) rfl h8).trans ?_
  exact e_r rfl
set_option maxRecDepth 20000 in
theorem g104_0_3 (C : pmC) {σ : pmS} {x1 : Int32} {l2 : Option pmV} {l3 : Option pmV} {l4 : Option pmV} {σ1 : pmS} {r1 : Int32} {σ2 : pmS} {q2 : Nat} {σ3 : pmS} {r3 : Int32} {σ4 : pmS} (h1 : C 94 [vR 9 0 0, vI x1] σ = some (some (vI r1), σ1)) (h2 : ¬ r1 = 0) (h3 : vp_in x1 48) (h4 : C 93 [vR 9 0 0, vI x1] σ1 = some (some (vR 2 q2 0), σ2)) (h5 : vp_in (σ1.1 5 0 4 (x1).toNatClampNeg) 48) (h6 : ¬ r1 = 0) (h7 : C 10 [vR 2 q2 0, vI (σ2.1 1 0 0 ((σ1.1 5 0 4 (x1).toNatClampNeg)).toNatClampNeg), vI (1 : Int32)] σ2 = some (some (vI r3), σ3)) (h8 : C 5 [vR 1 0 0, vI x1, vI (σ1.1 5 0 4 (x1).toNatClampNeg), vI r3] σ3 = some (none, σ4)) : pq_Rn C (104, 0, [some (vR 9 0 0), some (vI x1), l2, l3, l4], [], σ) = some (none, σ4) := by
  refine (e_n 2 (fr' := (104, 2, [some (vR 9 0 0), some (vI x1), l2, l3, l4], [vI x1, vR 9 0 0], σ)) rfl).trans ?_
  refine (e_ci (m := 104) (pc := 5) (ls := [some (vR 9 0 0), some (vI x1), l2, l3, l4]) (rest := []) rfl h1).trans ?_
  refine (e_n 2 (fr' := (104, 7, [some (vR 9 0 0), some (vI x1), some (vI r1), l3, l4], [vI r1], σ1)) rfl).trans ?_
  refine (e_f (B := (104, 10, [some (vR 9 0 0), some (vI x1), some (vI r1), l3, l4], [], σ1)) rfl h2).trans ?_
  refine (e_n 4 (fr' := (104, 18, [some (vR 9 0 0), some (vI x1), some (vI r1), l3, l4], [vI x1, vR 5 0 5], σ1)) rfl).trans ?_
  refine (e_a (A := (104, 19, [some (vR 9 0 0), some (vI x1), some (vI r1), l3, l4], [vI (σ1.1 5 0 4 (x1).toNatClampNeg)], σ1)) rfl h3).trans ?_
  refine (e_n 4 (fr' := (104, 34, [some (vR 9 0 0), some (vI x1), some (vI r1), some (vI (σ1.1 5 0 4 (x1).toNatClampNeg)), l4], [vI x1, vR 9 0 0], σ1)) rfl).trans ?_
  refine (e_cr (m := 104) (pc := 37) (ls := [some (vR 9 0 0), some (vI x1), some (vI r1), some (vI (σ1.1 5 0 4 (x1).toNatClampNeg)), l4]) (rest := []) rfl h4).trans ?_
  refine (e_n 4 (fr' := (104, 45, [some (vR 9 0 0), some (vI x1), some (vI r1), some (vI (σ1.1 5 0 4 (x1).toNatClampNeg)), l4], [vI (σ1.1 5 0 4 (x1).toNatClampNeg), vR 1 0 1, vR 2 q2 0], σ2)) rfl).trans ?_
  refine (e_a (A := (104, 46, [some (vR 9 0 0), some (vI x1), some (vI r1), some (vI (σ1.1 5 0 4 (x1).toNatClampNeg)), l4], [vI (σ2.1 1 0 0 ((σ1.1 5 0 4 (x1).toNatClampNeg)).toNatClampNeg), vR 2 q2 0], σ2)) rfl h5).trans ?_
  refine (e_n 1 (fr' := (104, 47, [some (vR 9 0 0), some (vI x1), some (vI r1), some (vI (σ1.1 5 0 4 (x1).toNatClampNeg)), l4], [vI r1, vI (σ2.1 1 0 0 ((σ1.1 5 0 4 (x1).toNatClampNeg)).toNatClampNeg), vR 2 q2 0], σ2)) rfl).trans ?_
  refine (e_f (B := (104, 50, [some (vR 9 0 0), some (vI x1), some (vI r1), some (vI (σ1.1 5 0 4 (x1).toNatClampNeg)), l4], [vI (σ2.1 1 0 0 ((σ1.1 5 0 4 (x1).toNatClampNeg)).toNatClampNeg), vR 2 q2 0], σ2)) rfl h6).trans ?_
  refine (e_n 2 (fr' := (104, 55, [some (vR 9 0 0), some (vI x1), some (vI r1), some (vI (σ1.1 5 0 4 (x1).toNatClampNeg)), l4], [vI (1 : Int32), vI (σ2.1 1 0 0 ((σ1.1 5 0 4 (x1).toNatClampNeg)).toNatClampNeg), vR 2 q2 0], σ2)) rfl).trans ?_
  refine (e_ci (m := 104) (pc := 58) (ls := [some (vR 9 0 0), some (vI x1), some (vI r1), some (vI (σ1.1 5 0 4 (x1).toNatClampNeg)), l4]) (rest := []) rfl h7).trans ?_
  refine (e_n 6 (fr' := (104, 68, [some (vR 9 0 0), some (vI x1), some (vI r1), some (vI (σ1.1 5 0 4 (x1).toNatClampNeg)), some (vI r3)], [vI r3, vI (σ1.1 5 0 4 (x1).toNatClampNeg), vI x1, vR 1 0 0], σ3)) rfl).trans ?_
  refine (e_cv (m := 104) (pc := 71) (ls := [some (vR 9 0 0), some (vI x1), some (vI r1), some (vI (σ1.1 5 0 4 (x1).toNatClampNeg)), some (vI r3)]) (rest := []) rfl h8).trans ?_
  exact e_r rfl
set_option maxRecDepth 20000 in
theorem g105_0_0 (C : pmC) {σ : pmS} {w0 : Int64} {w2 : Int64} {w4 : Int64} (h1 : (lg_cmp w0 w2) < 0) : pq_Rn C (105, 0, [some (vL w0), none, some (vL w2), none, some (vL w4), none], [], σ) = some (some (vI (0 : Int32)), σ) := by
  refine (e_n 3 (fr' := (105, 3, [some (vL w0), none, some (vL w2), none, some (vL w4), none], [vI (lg_cmp w0 w2)], σ)) rfl).trans ?_
  refine (e_t (A := (105, 17, [some (vL w0), none, some (vL w2), none, some (vL w4), none], [], σ)) rfl h1).trans ?_
  refine (e_n 1 (fr' := (105, 18, [some (vL w0), none, some (vL w2), none, some (vL w4), none], [vI (0 : Int32)], σ)) rfl).trans ?_
  exact e_r rfl
set_option maxRecDepth 20000 in
theorem g105_0_1 (C : pmC) {σ : pmS} {w0 : Int64} {w2 : Int64} {w4 : Int64} (h1 : ¬ (lg_cmp w0 w2) < 0) (h2 : 0 < (lg_cmp w0 w4)) : pq_Rn C (105, 0, [some (vL w0), none, some (vL w2), none, some (vL w4), none], [], σ) = some (some (vI (0 : Int32)), σ) := by
  refine (e_n 3 (fr' := (105, 3, [some (vL w0), none, some (vL w2), none, some (vL w4), none], [vI (lg_cmp w0 w2)], σ)) rfl).trans ?_
  refine (e_f (B := (105, 6, [some (vL w0), none, some (vL w2), none, some (vL w4), none], [], σ)) rfl h1).trans ?_
  refine (e_n 3 (fr' := (105, 10, [some (vL w0), none, some (vL w2), none, some (vL w4), none], [vI (lg_cmp w0 w4)], σ)) rfl).trans ?_
  refine (e_t (A := (105, 17, [some (vL w0), none, some (vL w2), none, some (vL w4), none], [], σ)) rfl h2).trans ?_
  refine (e_n 1 (fr' := (105, 18, [some (vL w0), none, some (vL w2), none, some (vL w4), none], [vI (0 : Int32)], σ)) rfl).trans ?_
  exact e_r rfl
set_option maxRecDepth 20000 in
theorem g105_0_2 (C : pmC) {σ : pmS} {w0 : Int64} {w2 : Int64} {w4 : Int64} (h1 : ¬ (lg_cmp w0 w2) < 0) (h2 : ¬ 0 < (lg_cmp w0 w4)) : pq_Rn C (105, 0, [some (vL w0), none, some (vL w2), none, some (vL w4), none], [], σ) = some (some (vI (1 : Int32)), σ) := by
  refine (e_n 3 (fr' := (105, 3, [some (vL w0), none, some (vL w2), none, some (vL w4), none], [vI (lg_cmp w0 w2)], σ)) rfl).trans ?_
  refine (e_f (B := (105, 6, [some (vL w0), none, some (vL w2), none, some (vL w4), none], [], σ)) rfl h1).trans ?_
  refine (e_n 3 (fr' := (105, 10, [some (vL w0), none, some (vL w2), none, some (vL w4), none], [vI (lg_cmp w0 w4)], σ)) rfl).trans ?_
  refine (e_f (B := (105, 13, [some (vL w0), none, some (vL w2), none, some (vL w4), none], [], σ)) rfl h2).trans ?_
  refine (e_n 2 (fr' := (105, 18, [some (vL w0), none, some (vL w2), none, some (vL w4), none], [vI (1 : Int32)], σ)) rfl).trans ?_
  exact e_r rfl
set_option maxRecDepth 20000 in
theorem g106_0_0 (C : pmC) {σ : pmS} {x1 : Int32} (h1 : x1 < 0) : pq_Rn C (106, 0, [some (vR 10 0 0), some (vI x1)], [], σ) = some (some (vI (0 : Int32)), σ) := by
  refine (e_n 1 (fr' := (106, 1, [some (vR 10 0 0), some (vI x1)], [vI x1], σ)) rfl).trans ?_
  refine (e_t (A := (106, 16, [some (vR 10 0 0), some (vI x1)], [], σ)) rfl h1).trans ?_
  refine (e_n 1 (fr' := (106, 17, [some (vR 10 0 0), some (vI x1)], [vI (0 : Int32)], σ)) rfl).trans ?_
  exact e_r rfl
set_option maxRecDepth 20000 in
theorem g106_0_1 (C : pmC) {σ : pmS} {x1 : Int32} (h1 : ¬ x1 < 0) (h2 : (σ.1 10 0 4 0) ≤ x1) : pq_Rn C (106, 0, [some (vR 10 0 0), some (vI x1)], [], σ) = some (some (vI (0 : Int32)), σ) := by
  refine (e_n 1 (fr' := (106, 1, [some (vR 10 0 0), some (vI x1)], [vI x1], σ)) rfl).trans ?_
  refine (e_f (B := (106, 4, [some (vR 10 0 0), some (vI x1)], [], σ)) rfl h1).trans ?_
  refine (e_n 3 (fr' := (106, 9, [some (vR 10 0 0), some (vI x1)], [vI (σ.1 10 0 4 0), vI x1], σ)) rfl).trans ?_
  refine (e_t (A := (106, 16, [some (vR 10 0 0), some (vI x1)], [], σ)) rfl h2).trans ?_
  refine (e_n 1 (fr' := (106, 17, [some (vR 10 0 0), some (vI x1)], [vI (0 : Int32)], σ)) rfl).trans ?_
  exact e_r rfl
set_option maxRecDepth 20000 in
theorem g106_0_2 (C : pmC) {σ : pmS} {x1 : Int32} (h1 : ¬ x1 < 0) (h2 : ¬ (σ.1 10 0 4 0) ≤ x1) : pq_Rn C (106, 0, [some (vR 10 0 0), some (vI x1)], [], σ) = some (some (vI (1 : Int32)), σ) := by
  refine (e_n 1 (fr' := (106, 1, [some (vR 10 0 0), some (vI x1)], [vI x1], σ)) rfl).trans ?_
  refine (e_f (B := (106, 4, [some (vR 10 0 0), some (vI x1)], [], σ)) rfl h1).trans ?_
  refine (e_n 3 (fr' := (106, 9, [some (vR 10 0 0), some (vI x1)], [vI (σ.1 10 0 4 0), vI x1], σ)) rfl).trans ?_
  refine (e_f (B := (106, 12, [some (vR 10 0 0), some (vI x1)], [], σ)) rfl h2).trans ?_
  refine (e_n 2 (fr' := (106, 17, [some (vR 10 0 0), some (vI x1)], [vI (1 : Int32)], σ)) rfl).trans ?_
  exact e_r rfl
set_option maxRecDepth 20000 in
theorem g107_0_0 (C : pmC) {σ : pmS} {x1 : Int32} {x2 : Int32} {σ1 : pmS} {r1 : Int32} (h1 : C 106 [vR 10 0 0, vI x1] σ = some (some (vI r1), σ1)) (h2 : r1 = 0) : pq_Rn C (107, 0, [some (vR 10 0 0), some (vI x1), some (vI x2)], [], σ) = some (some (vI (0 : Int32)), σ1) := by
  refine (e_n 2 (fr' := (107, 2, [some (vR 10 0 0), some (vI x1), some (vI x2)], [vI x1, vR 10 0 0], σ)) rfl).trans ?_
  refine (e_ci (m := 107) (pc := 5) (ls := [some (vR 10 0 0), some (vI x1), some (vI x2)]) (rest := []) rfl h1).trans ?_
  refine (e_t (A := (107, 26, [some (vR 10 0 0), some (vI x1), some (vI x2)], [], σ1)) rfl h2).trans ?_
  refine (e_n 1 (fr' := (107, 27, [some (vR 10 0 0), some (vI x1), some (vI x2)], [vI (0 : Int32)], σ1)) rfl).trans ?_
  exact e_r rfl
set_option maxRecDepth 20000 in
theorem g107_0_1 (C : pmC) {σ : pmS} {x1 : Int32} {x2 : Int32} {σ1 : pmS} {r1 : Int32} (h1 : C 106 [vR 10 0 0, vI x1] σ = some (some (vI r1), σ1)) (h2 : ¬ r1 = 0) (h3 : x2 < 0) : pq_Rn C (107, 0, [some (vR 10 0 0), some (vI x1), some (vI x2)], [], σ) = some (some (vI (0 : Int32)), σ1) := by
  refine (e_n 2 (fr' := (107, 2, [some (vR 10 0 0), some (vI x1), some (vI x2)], [vI x1, vR 10 0 0], σ)) rfl).trans ?_
  refine (e_ci (m := 107) (pc := 5) (ls := [some (vR 10 0 0), some (vI x1), some (vI x2)]) (rest := []) rfl h1).trans ?_
  refine (e_f (B := (107, 8, [some (vR 10 0 0), some (vI x1), some (vI x2)], [], σ1)) rfl h2).trans ?_
  refine (e_n 1 (fr' := (107, 9, [some (vR 10 0 0), some (vI x1), some (vI x2)], [vI x2], σ1)) rfl).trans ?_
  refine (e_t (A := (107, 26, [some (vR 10 0 0), some (vI x1), some (vI x2)], [], σ1)) rfl h3).trans ?_
  refine (e_n 1 (fr' := (107, 27, [some (vR 10 0 0), some (vI x1), some (vI x2)], [vI (0 : Int32)], σ1)) rfl).trans ?_
  exact e_r rfl
set_option maxRecDepth 20000 in
theorem g107_0_2 (C : pmC) {σ : pmS} {x1 : Int32} {x2 : Int32} {σ1 : pmS} {r1 : Int32} (h1 : C 106 [vR 10 0 0, vI x1] σ = some (some (vI r1), σ1)) (h2 : ¬ r1 = 0) (h3 : ¬ x2 < 0) (h4 : vp_in x1 4) (h5 : (σ1.1 10 0 0 (x1).toNatClampNeg) ≤ x2) : pq_Rn C (107, 0, [some (vR 10 0 0), some (vI x1), some (vI x2)], [], σ) = some (some (vI (0 : Int32)), σ1) := by
  refine (e_n 2 (fr' := (107, 2, [some (vR 10 0 0), some (vI x1), some (vI x2)], [vI x1, vR 10 0 0], σ)) rfl).trans ?_
  refine (e_ci (m := 107) (pc := 5) (ls := [some (vR 10 0 0), some (vI x1), some (vI x2)]) (rest := []) rfl h1).trans ?_
  refine (e_f (B := (107, 8, [some (vR 10 0 0), some (vI x1), some (vI x2)], [], σ1)) rfl h2).trans ?_
  refine (e_n 1 (fr' := (107, 9, [some (vR 10 0 0), some (vI x1), some (vI x2)], [vI x2], σ1)) rfl).trans ?_
  refine (e_f (B := (107, 12, [some (vR 10 0 0), some (vI x1), some (vI x2)], [], σ1)) rfl h3).trans ?_
  refine (e_n 4 (fr' := (107, 18, [some (vR 10 0 0), some (vI x1), some (vI x2)], [vI x1, vR 10 0 1, vI x2], σ1)) rfl).trans ?_
  refine (e_a (A := (107, 19, [some (vR 10 0 0), some (vI x1), some (vI x2)], [vI (σ1.1 10 0 0 (x1).toNatClampNeg), vI x2], σ1)) rfl h4).trans ?_
  refine (e_t (A := (107, 26, [some (vR 10 0 0), some (vI x1), some (vI x2)], [], σ1)) rfl h5).trans ?_
  refine (e_n 1 (fr' := (107, 27, [some (vR 10 0 0), some (vI x1), some (vI x2)], [vI (0 : Int32)], σ1)) rfl).trans ?_
  exact e_r rfl
set_option maxRecDepth 20000 in
theorem g107_0_3 (C : pmC) {σ : pmS} {x1 : Int32} {x2 : Int32} {σ1 : pmS} {r1 : Int32} (h1 : C 106 [vR 10 0 0, vI x1] σ = some (some (vI r1), σ1)) (h2 : ¬ r1 = 0) (h3 : ¬ x2 < 0) (h4 : vp_in x1 4) (h5 : ¬ (σ1.1 10 0 0 (x1).toNatClampNeg) ≤ x2) : pq_Rn C (107, 0, [some (vR 10 0 0), some (vI x1), some (vI x2)], [], σ) = some (some (vI (1 : Int32)), σ1) := by
  refine (e_n 2 (fr' := (107, 2, [some (vR 10 0 0), some (vI x1), some (vI x2)], [vI x1, vR 10 0 0], σ)) rfl).trans ?_
  refine (e_ci (m := 107) (pc := 5) (ls := [some (vR 10 0 0), some (vI x1), some (vI x2)]) (rest := []) rfl h1).trans ?_
  refine (e_f (B := (107, 8, [some (vR 10 0 0), some (vI x1), some (vI x2)], [], σ1)) rfl h2).trans ?_
  refine (e_n 1 (fr' := (107, 9, [some (vR 10 0 0), some (vI x1), some (vI x2)], [vI x2], σ1)) rfl).trans ?_
  refine (e_f (B := (107, 12, [some (vR 10 0 0), some (vI x1), some (vI x2)], [], σ1)) rfl h3).trans ?_
  refine (e_n 4 (fr' := (107, 18, [some (vR 10 0 0), some (vI x1), some (vI x2)], [vI x1, vR 10 0 1, vI x2], σ1)) rfl).trans ?_
  refine (e_a (A := (107, 19, [some (vR 10 0 0), some (vI x1), some (vI x2)], [vI (σ1.1 10 0 0 (x1).toNatClampNeg), vI x2], σ1)) rfl h4).trans ?_
  refine (e_f (B := (107, 22, [some (vR 10 0 0), some (vI x1), some (vI x2)], [], σ1)) rfl h5).trans ?_
  refine (e_n 2 (fr' := (107, 27, [some (vR 10 0 0), some (vI x1), some (vI x2)], [vI (1 : Int32)], σ1)) rfl).trans ?_
  exact e_r rfl
set_option maxRecDepth 20000 in
theorem g108_0_0 (C : pmC) {σ : pmS} {w1 : Int64} {x3 : Int32} {l4 : Option pmV} {σ1 : pmS} {r1 : Int32} (h1 : C 105 [vL (x3).toInt64, vL (1 : Int64), vL (8 : Int64)] σ = some (some (vI r1), σ1)) (h2 : r1 = 0) : pq_Rn C (108, 0, [some (vR 10 0 0), some (vL w1), none, some (vI x3), l4], [], σ) = some (some (vI (-2 : Int32)), σ1) := by
  refine (e_n 4 (fr' := (108, 6, [some (vR 10 0 0), some (vL w1), none, some (vI x3), l4], [vL (8 : Int64), vL (1 : Int64), vL (x3).toInt64], σ)) rfl).trans ?_
  refine (e_ci (m := 108) (pc := 9) (ls := [some (vR 10 0 0), some (vL w1), none, some (vI x3), l4]) (rest := []) rfl h1).trans ?_
  refine (e_t (A := (108, 12, [some (vR 10 0 0), some (vL w1), none, some (vI x3), l4], [], σ1)) rfl h2).trans ?_
  refine (e_n 1 (fr' := (108, 14, [some (vR 10 0 0), some (vL w1), none, some (vI x3), l4], [vI (-2 : Int32)], σ1)) rfl).trans ?_
  exact e_r rfl
set_option maxRecDepth 20000 in
theorem g108_0_1 (C : pmC) {σ : pmS} {w1 : Int64} {x3 : Int32} {l4 : Option pmV} {σ1 : pmS} {r1 : Int32} (h1 : C 105 [vL (x3).toInt64, vL (1 : Int64), vL (8 : Int64)] σ = some (some (vI r1), σ1)) (h2 : ¬ r1 = 0) (h3 : ((σ1.1 10 0 6 0) + x3) ≤ (60 : Int32)) : pq_Rn C (108, 0, [some (vR 10 0 0), some (vL w1), none, some (vI x3), l4], [], σ) = pq_Rn C (108, 34, [some (vR 10 0 0), some (vL w1), none, some (vI x3), some (vI (x3 - (1 : Int32)))], [], σ1) := by
  refine (e_n 4 (fr' := (108, 6, [some (vR 10 0 0), some (vL w1), none, some (vI x3), l4], [vL (8 : Int64), vL (1 : Int64), vL (x3).toInt64], σ)) rfl).trans ?_
  refine (e_ci (m := 108) (pc := 9) (ls := [some (vR 10 0 0), some (vL w1), none, some (vI x3), l4]) (rest := []) rfl h1).trans ?_
  refine (e_f (B := (108, 15, [some (vR 10 0 0), some (vL w1), none, some (vI x3), l4], [], σ1)) rfl h2).trans ?_
  refine (e_n 5 (fr' := (108, 23, [some (vR 10 0 0), some (vL w1), none, some (vI x3), l4], [vI (60 : Int32), vI ((σ1.1 10 0 6 0) + x3)], σ1)) rfl).trans ?_
  refine (e_t (A := (108, 29, [some (vR 10 0 0), some (vL w1), none, some (vI x3), l4], [], σ1)) rfl h3).trans ?_
  exact e_n 4 rfl
set_option maxRecDepth 20000 in
theorem g108_0_2 (C : pmC) {σ : pmS} {w1 : Int64} {x3 : Int32} {l4 : Option pmV} {σ1 : pmS} {r1 : Int32} (h1 : C 105 [vL (x3).toInt64, vL (1 : Int64), vL (8 : Int64)] σ = some (some (vI r1), σ1)) (h2 : ¬ r1 = 0) (h3 : ¬ ((σ1.1 10 0 6 0) + x3) ≤ (60 : Int32)) : pq_Rn C (108, 0, [some (vR 10 0 0), some (vL w1), none, some (vI x3), l4], [], σ) = some (some (vI (-4 : Int32)), σ1) := by
  refine (e_n 4 (fr' := (108, 6, [some (vR 10 0 0), some (vL w1), none, some (vI x3), l4], [vL (8 : Int64), vL (1 : Int64), vL (x3).toInt64], σ)) rfl).trans ?_
  refine (e_ci (m := 108) (pc := 9) (ls := [some (vR 10 0 0), some (vL w1), none, some (vI x3), l4]) (rest := []) rfl h1).trans ?_
  refine (e_f (B := (108, 15, [some (vR 10 0 0), some (vL w1), none, some (vI x3), l4], [], σ1)) rfl h2).trans ?_
  refine (e_n 5 (fr' := (108, 23, [some (vR 10 0 0), some (vL w1), none, some (vI x3), l4], [vI (60 : Int32), vI ((σ1.1 10 0 6 0) + x3)], σ1)) rfl).trans ?_
  refine (e_f (B := (108, 26, [some (vR 10 0 0), some (vL w1), none, some (vI x3), l4], [], σ1)) rfl h3).trans ?_
  refine (e_n 1 (fr' := (108, 28, [some (vR 10 0 0), some (vL w1), none, some (vI x3), l4], [vI (-4 : Int32)], σ1)) rfl).trans ?_
  exact e_r rfl
set_option maxRecDepth 20000 in
theorem g108_34_0 (C : pmC) {σ : pmS} {w1 : Int64} {l3 : Option pmV} {x4 : Int32} (h1 : x4 < 0) : pq_Rn C (108, 34, [some (vR 10 0 0), some (vL w1), none, l3, some (vI x4)], [], σ) = some (some (vI (σ.1 10 0 6 0)), σ) := by
  refine (e_n 1 (fr' := (108, 36, [some (vR 10 0 0), some (vL w1), none, l3, some (vI x4)], [vI x4], σ)) rfl).trans ?_
  refine (e_t (A := (108, 76, [some (vR 10 0 0), some (vL w1), none, l3, some (vI x4)], [], σ)) rfl h1).trans ?_
  refine (e_n 2 (fr' := (108, 80, [some (vR 10 0 0), some (vL w1), none, l3, some (vI x4)], [vI (σ.1 10 0 6 0)], σ)) rfl).trans ?_
  exact e_r rfl
set_option maxRecDepth 20000 in
theorem g108_34_1 (C : pmC) {σ : pmS} {w1 : Int64} {l3 : Option pmV} {x4 : Int32} (h1 : ¬ x4 < 0) (h2 : vp_in (σ.1 10 0 6 0) 60) : pq_Rn C (108, 34, [some (vR 10 0 0), some (vL w1), none, l3, some (vI x4)], [], σ) = pq_Rn C (108, 34, [some (vR 10 0 0), some (vL w1), none, l3, some (vI (x4 + (-1 : Int32)))], [], (pm_wi (pm_wi σ 10 0 5 ((σ.1 10 0 6 0)).toNatClampNeg (((w1 >>> ((((8 : Int32) * x4)).toInt64 &&& 63)) &&& (255 : Int64))).toInt32) 10 0 6 0 ((σ.1 10 0 6 0) + (1 : Int32)))) := by
  refine (e_n 1 (fr' := (108, 36, [some (vR 10 0 0), some (vL w1), none, l3, some (vI x4)], [vI x4], σ)) rfl).trans ?_
  refine (e_f (B := (108, 39, [some (vR 10 0 0), some (vL w1), none, l3, some (vI x4)], [], σ)) rfl h1).trans ?_
  refine (e_n 12 (fr' := (108, 59, [some (vR 10 0 0), some (vL w1), none, l3, some (vI x4)], [vI (((w1 >>> ((((8 : Int32) * x4)).toInt64 &&& 63)) &&& (255 : Int64))).toInt32, vI (σ.1 10 0 6 0), vR 10 0 6], σ)) rfl).trans ?_
  refine (e_a (A := (108, 60, [some (vR 10 0 0), some (vL w1), none, l3, some (vI x4)], [], (pm_wi σ 10 0 5 ((σ.1 10 0 6 0)).toNatClampNeg (((w1 >>> ((((8 : Int32) * x4)).toInt64 &&& 63)) &&& (255 : Int64))).toInt32))) rfl h2).trans ?_
  exact e_n 8 rfl
set_option maxRecDepth 20000 in
theorem g109_0_0 (C : pmC) {σ : pmS} {x0 : Int32} (h1 : x0 < (97 : Int32)) : pq_Rn C (109, 0, [some (vI x0)], [], σ) = some (some (vI (0 : Int32)), σ) := by
  refine (e_n 2 (fr' := (109, 3, [some (vI x0)], [vI (97 : Int32), vI x0], σ)) rfl).trans ?_
  refine (e_t (A := (109, 16, [some (vI x0)], [], σ)) rfl h1).trans ?_
  refine (e_n 1 (fr' := (109, 17, [some (vI x0)], [vI (0 : Int32)], σ)) rfl).trans ?_
  exact e_r rfl
set_option maxRecDepth 20000 in
theorem g109_0_1 (C : pmC) {σ : pmS} {x0 : Int32} (h1 : ¬ x0 < (97 : Int32)) (h2 : (104 : Int32) < x0) : pq_Rn C (109, 0, [some (vI x0)], [], σ) = some (some (vI (0 : Int32)), σ) := by
  refine (e_n 2 (fr' := (109, 3, [some (vI x0)], [vI (97 : Int32), vI x0], σ)) rfl).trans ?_
  refine (e_f (B := (109, 6, [some (vI x0)], [], σ)) rfl h1).trans ?_
  refine (e_n 2 (fr' := (109, 9, [some (vI x0)], [vI (104 : Int32), vI x0], σ)) rfl).trans ?_
  refine (e_t (A := (109, 16, [some (vI x0)], [], σ)) rfl h2).trans ?_
  refine (e_n 1 (fr' := (109, 17, [some (vI x0)], [vI (0 : Int32)], σ)) rfl).trans ?_
  exact e_r rfl
set_option maxRecDepth 20000 in
theorem g109_0_2 (C : pmC) {σ : pmS} {x0 : Int32} (h1 : ¬ x0 < (97 : Int32)) (h2 : ¬ (104 : Int32) < x0) : pq_Rn C (109, 0, [some (vI x0)], [], σ) = some (some (vI (1 : Int32)), σ) := by
  refine (e_n 2 (fr' := (109, 3, [some (vI x0)], [vI (97 : Int32), vI x0], σ)) rfl).trans ?_
  refine (e_f (B := (109, 6, [some (vI x0)], [], σ)) rfl h1).trans ?_
  refine (e_n 2 (fr' := (109, 9, [some (vI x0)], [vI (104 : Int32), vI x0], σ)) rfl).trans ?_
  refine (e_f (B := (109, 12, [some (vI x0)], [], σ)) rfl h2).trans ?_
  refine (e_n 2 (fr' := (109, 17, [some (vI x0)], [vI (1 : Int32)], σ)) rfl).trans ?_
  exact e_r rfl
set_option maxRecDepth 20000 in
theorem g110_0_0 (C : pmC) {σ : pmS} {l1 : Option pmV} {l2 : Option pmV} {l3 : Option pmV}  : pq_Rn C (110, 0, [some (vR 10 0 0), l1, l2, l3], [], σ) = pq_Rn C (110, 2, [some (vR 10 0 0), some (vI (0 : Int32)), l2, l3], [], σ) := by
  exact e_n 2 rfl
set_option maxRecDepth 20000 in
theorem g110_2_0 (C : pmC) {σ : pmS} {x1 : Int32} {l2 : Option pmV} {l3 : Option pmV} (h1 : (σ.1 10 0 6 0) ≤ x1) (h2 : ((σ.1 10 0 6 0) - (σ.1 10 0 6 0) / (6 : Int32) * (6 : Int32)) = (5 : Int32)) (h3 : (σ.1 10 0 6 0) < (11 : Int32)) : pq_Rn C (110, 2, [some (vR 10 0 0), some (vI x1), l2, l3], [], σ) = pq_Rn C (110, 139, [some (vR 10 0 0), some (vI x1), l2, l3], [], σ) := by
  refine (e_n 3 (fr' := (110, 7, [some (vR 10 0 0), some (vI x1), l2, l3], [vI (σ.1 10 0 6 0), vI x1], σ)) rfl).trans ?_
  refine (e_t (A := (110, 115, [some (vR 10 0 0), some (vI x1), l2, l3], [], σ)) rfl h1).trans ?_
  refine (e_n 5 (fr' := (110, 123, [some (vR 10 0 0), some (vI x1), l2, l3], [vI (5 : Int32), vI ((σ.1 10 0 6 0) - (σ.1 10 0 6 0) / (6 : Int32) * (6 : Int32))], σ)) rfl).trans ?_
  refine (e_t (A := (110, 126, [some (vR 10 0 0), some (vI x1), l2, l3], [], σ)) rfl h2).trans ?_
  refine (e_n 3 (fr' := (110, 132, [some (vR 10 0 0), some (vI x1), l2, l3], [vI (11 : Int32), vI (σ.1 10 0 6 0)], σ)) rfl).trans ?_
  exact e_t (A := (110, 139, [some (vR 10 0 0), some (vI x1), l2, l3], [], σ)) rfl h3
set_option maxRecDepth 20000 in
theorem g110_2_1 (C : pmC) {σ : pmS} {x1 : Int32} {l2 : Option pmV} {l3 : Option pmV} (h1 : (σ.1 10 0 6 0) ≤ x1) (h2 : ((σ.1 10 0 6 0) - (σ.1 10 0 6 0) / (6 : Int32) * (6 : Int32)) = (5 : Int32)) (h3 : ¬ (σ.1 10 0 6 0) < (11 : Int32)) : pq_Rn C (110, 2, [some (vR 10 0 0), some (vI x1), l2, l3], [], σ) = pq_Rn C (110, 143, [some (vR 10 0 0), some (vI x1), l2, l3], [vI (-1 : Int32)], σ) := by
  refine (e_n 3 (fr' := (110, 7, [some (vR 10 0 0), some (vI x1), l2, l3], [vI (σ.1 10 0 6 0), vI x1], σ)) rfl).trans ?_
  refine (e_t (A := (110, 115, [some (vR 10 0 0), some (vI x1), l2, l3], [], σ)) rfl h1).trans ?_
  refine (e_n 5 (fr' := (110, 123, [some (vR 10 0 0), some (vI x1), l2, l3], [vI (5 : Int32), vI ((σ.1 10 0 6 0) - (σ.1 10 0 6 0) / (6 : Int32) * (6 : Int32))], σ)) rfl).trans ?_
  refine (e_t (A := (110, 126, [some (vR 10 0 0), some (vI x1), l2, l3], [], σ)) rfl h2).trans ?_
  refine (e_n 3 (fr' := (110, 132, [some (vR 10 0 0), some (vI x1), l2, l3], [vI (11 : Int32), vI (σ.1 10 0 6 0)], σ)) rfl).trans ?_
  refine (e_f (B := (110, 135, [some (vR 10 0 0), some (vI x1), l2, l3], [], σ)) rfl h3).trans ?_
  exact e_n 2 rfl
set_option maxRecDepth 20000 in
theorem g110_2_2 (C : pmC) {σ : pmS} {x1 : Int32} {l2 : Option pmV} {l3 : Option pmV} (h1 : (σ.1 10 0 6 0) ≤ x1) (h2 : ¬ ((σ.1 10 0 6 0) - (σ.1 10 0 6 0) / (6 : Int32) * (6 : Int32)) = (5 : Int32)) : pq_Rn C (110, 2, [some (vR 10 0 0), some (vI x1), l2, l3], [], σ) = pq_Rn C (110, 139, [some (vR 10 0 0), some (vI x1), l2, l3], [], σ) := by
  refine (e_n 3 (fr' := (110, 7, [some (vR 10 0 0), some (vI x1), l2, l3], [vI (σ.1 10 0 6 0), vI x1], σ)) rfl).trans ?_
  refine (e_t (A := (110, 115, [some (vR 10 0 0), some (vI x1), l2, l3], [], σ)) rfl h1).trans ?_
  refine (e_n 5 (fr' := (110, 123, [some (vR 10 0 0), some (vI x1), l2, l3], [vI (5 : Int32), vI ((σ.1 10 0 6 0) - (σ.1 10 0 6 0) / (6 : Int32) * (6 : Int32))], σ)) rfl).trans ?_
  exact e_f (B := (110, 139, [some (vR 10 0 0), some (vI x1), l2, l3], [], σ)) rfl h2
set_option maxRecDepth 20000 in
theorem g110_2_3 (C : pmC) {σ : pmS} {x1 : Int32} {l2 : Option pmV} {l3 : Option pmV} (h1 : ¬ (σ.1 10 0 6 0) ≤ x1) (h2 : (x1 - x1 / (6 : Int32) * (6 : Int32)) = (1 : Int32)) (h3 : vp_in x1 60) (h4 : (σ.1 10 0 5 (x1).toNatClampNeg) = (43 : Int32)) : pq_Rn C (110, 2, [some (vR 10 0 0), some (vI x1), l2, l3], [], σ) = pq_Rn C (110, 96, [some (vR 10 0 0), some (vI x1), some (vI (x1 - x1 / (6 : Int32) * (6 : Int32))), l3], [vI (1 : Int32)], σ) := by
  refine (e_n 3 (fr' := (110, 7, [some (vR 10 0 0), some (vI x1), l2, l3], [vI (σ.1 10 0 6 0), vI x1], σ)) rfl).trans ?_
  refine (e_f (B := (110, 10, [some (vR 10 0 0), some (vI x1), l2, l3], [], σ)) rfl h1).trans ?_
  refine (e_n 6 (fr' := (110, 17, [some (vR 10 0 0), some (vI x1), some (vI (x1 - x1 / (6 : Int32) * (6 : Int32))), l3], [vI (1 : Int32), vI (x1 - x1 / (6 : Int32) * (6 : Int32))], σ)) rfl).trans ?_
  refine (e_t (A := (110, 20, [some (vR 10 0 0), some (vI x1), some (vI (x1 - x1 / (6 : Int32) * (6 : Int32))), l3], [], σ)) rfl h2).trans ?_
  refine (e_n 3 (fr' := (110, 25, [some (vR 10 0 0), some (vI x1), some (vI (x1 - x1 / (6 : Int32) * (6 : Int32))), l3], [vI x1, vR 10 0 6], σ)) rfl).trans ?_
  refine (e_a (A := (110, 26, [some (vR 10 0 0), some (vI x1), some (vI (x1 - x1 / (6 : Int32) * (6 : Int32))), l3], [vI (σ.1 10 0 5 (x1).toNatClampNeg)], σ)) rfl h3).trans ?_
  refine (e_n 1 (fr' := (110, 28, [some (vR 10 0 0), some (vI x1), some (vI (x1 - x1 / (6 : Int32) * (6 : Int32))), l3], [vI (43 : Int32), vI (σ.1 10 0 5 (x1).toNatClampNeg)], σ)) rfl).trans ?_
  refine (e_t (A := (110, 31, [some (vR 10 0 0), some (vI x1), some (vI (x1 - x1 / (6 : Int32) * (6 : Int32))), l3], [], σ)) rfl h4).trans ?_
  exact e_n 2 rfl
set_option maxRecDepth 20000 in
theorem g110_2_4 (C : pmC) {σ : pmS} {x1 : Int32} {l2 : Option pmV} {l3 : Option pmV} (h1 : ¬ (σ.1 10 0 6 0) ≤ x1) (h2 : (x1 - x1 / (6 : Int32) * (6 : Int32)) = (1 : Int32)) (h3 : vp_in x1 60) (h4 : ¬ (σ.1 10 0 5 (x1).toNatClampNeg) = (43 : Int32)) : pq_Rn C (110, 2, [some (vR 10 0 0), some (vI x1), l2, l3], [], σ) = pq_Rn C (110, 96, [some (vR 10 0 0), some (vI x1), some (vI (x1 - x1 / (6 : Int32) * (6 : Int32))), l3], [vI (0 : Int32)], σ) := by
  refine (e_n 3 (fr' := (110, 7, [some (vR 10 0 0), some (vI x1), l2, l3], [vI (σ.1 10 0 6 0), vI x1], σ)) rfl).trans ?_
  refine (e_f (B := (110, 10, [some (vR 10 0 0), some (vI x1), l2, l3], [], σ)) rfl h1).trans ?_
  refine (e_n 6 (fr' := (110, 17, [some (vR 10 0 0), some (vI x1), some (vI (x1 - x1 / (6 : Int32) * (6 : Int32))), l3], [vI (1 : Int32), vI (x1 - x1 / (6 : Int32) * (6 : Int32))], σ)) rfl).trans ?_
  refine (e_t (A := (110, 20, [some (vR 10 0 0), some (vI x1), some (vI (x1 - x1 / (6 : Int32) * (6 : Int32))), l3], [], σ)) rfl h2).trans ?_
  refine (e_n 3 (fr' := (110, 25, [some (vR 10 0 0), some (vI x1), some (vI (x1 - x1 / (6 : Int32) * (6 : Int32))), l3], [vI x1, vR 10 0 6], σ)) rfl).trans ?_
  refine (e_a (A := (110, 26, [some (vR 10 0 0), some (vI x1), some (vI (x1 - x1 / (6 : Int32) * (6 : Int32))), l3], [vI (σ.1 10 0 5 (x1).toNatClampNeg)], σ)) rfl h3).trans ?_
  refine (e_n 1 (fr' := (110, 28, [some (vR 10 0 0), some (vI x1), some (vI (x1 - x1 / (6 : Int32) * (6 : Int32))), l3], [vI (43 : Int32), vI (σ.1 10 0 5 (x1).toNatClampNeg)], σ)) rfl).trans ?_
  refine (e_f (B := (110, 35, [some (vR 10 0 0), some (vI x1), some (vI (x1 - x1 / (6 : Int32) * (6 : Int32))), l3], [], σ)) rfl h4).trans ?_
  exact e_n 2 rfl
set_option maxRecDepth 20000 in
theorem g110_2_5 (C : pmC) {σ : pmS} {x1 : Int32} {l2 : Option pmV} {l3 : Option pmV} (h1 : ¬ (σ.1 10 0 6 0) ≤ x1) (h2 : ¬ (x1 - x1 / (6 : Int32) * (6 : Int32)) = (1 : Int32)) (h3 : (x1 - x1 / (6 : Int32) * (6 : Int32)) = (3 : Int32)) (h4 : vp_in x1 60) (h5 : (σ.1 10 0 5 (x1).toNatClampNeg) = (61 : Int32)) : pq_Rn C (110, 2, [some (vR 10 0 0), some (vI x1), l2, l3], [], σ) = pq_Rn C (110, 96, [some (vR 10 0 0), some (vI x1), some (vI (x1 - x1 / (6 : Int32) * (6 : Int32))), l3], [vI (1 : Int32)], σ) := by
  refine (e_n 3 (fr' := (110, 7, [some (vR 10 0 0), some (vI x1), l2, l3], [vI (σ.1 10 0 6 0), vI x1], σ)) rfl).trans ?_
  refine (e_f (B := (110, 10, [some (vR 10 0 0), some (vI x1), l2, l3], [], σ)) rfl h1).trans ?_
  refine (e_n 6 (fr' := (110, 17, [some (vR 10 0 0), some (vI x1), some (vI (x1 - x1 / (6 : Int32) * (6 : Int32))), l3], [vI (1 : Int32), vI (x1 - x1 / (6 : Int32) * (6 : Int32))], σ)) rfl).trans ?_
  refine (e_f (B := (110, 39, [some (vR 10 0 0), some (vI x1), some (vI (x1 - x1 / (6 : Int32) * (6 : Int32))), l3], [], σ)) rfl h2).trans ?_
  refine (e_n 2 (fr' := (110, 41, [some (vR 10 0 0), some (vI x1), some (vI (x1 - x1 / (6 : Int32) * (6 : Int32))), l3], [vI (3 : Int32), vI (x1 - x1 / (6 : Int32) * (6 : Int32))], σ)) rfl).trans ?_
  refine (e_t (A := (110, 44, [some (vR 10 0 0), some (vI x1), some (vI (x1 - x1 / (6 : Int32) * (6 : Int32))), l3], [], σ)) rfl h3).trans ?_
  refine (e_n 3 (fr' := (110, 49, [some (vR 10 0 0), some (vI x1), some (vI (x1 - x1 / (6 : Int32) * (6 : Int32))), l3], [vI x1, vR 10 0 6], σ)) rfl).trans ?_
  refine (e_a (A := (110, 50, [some (vR 10 0 0), some (vI x1), some (vI (x1 - x1 / (6 : Int32) * (6 : Int32))), l3], [vI (σ.1 10 0 5 (x1).toNatClampNeg)], σ)) rfl h4).trans ?_
  refine (e_n 1 (fr' := (110, 52, [some (vR 10 0 0), some (vI x1), some (vI (x1 - x1 / (6 : Int32) * (6 : Int32))), l3], [vI (61 : Int32), vI (σ.1 10 0 5 (x1).toNatClampNeg)], σ)) rfl).trans ?_
  refine (e_t (A := (110, 55, [some (vR 10 0 0), some (vI x1), some (vI (x1 - x1 / (6 : Int32) * (6 : Int32))), l3], [], σ)) rfl h5).trans ?_
  exact e_n 2 rfl
set_option maxRecDepth 20000 in
theorem g110_2_6 (C : pmC) {σ : pmS} {x1 : Int32} {l2 : Option pmV} {l3 : Option pmV} (h1 : ¬ (σ.1 10 0 6 0) ≤ x1) (h2 : ¬ (x1 - x1 / (6 : Int32) * (6 : Int32)) = (1 : Int32)) (h3 : (x1 - x1 / (6 : Int32) * (6 : Int32)) = (3 : Int32)) (h4 : vp_in x1 60) (h5 : ¬ (σ.1 10 0 5 (x1).toNatClampNeg) = (61 : Int32)) : pq_Rn C (110, 2, [some (vR 10 0 0), some (vI x1), l2, l3], [], σ) = pq_Rn C (110, 96, [some (vR 10 0 0), some (vI x1), some (vI (x1 - x1 / (6 : Int32) * (6 : Int32))), l3], [vI (0 : Int32)], σ) := by
  refine (e_n 3 (fr' := (110, 7, [some (vR 10 0 0), some (vI x1), l2, l3], [vI (σ.1 10 0 6 0), vI x1], σ)) rfl).trans ?_
  refine (e_f (B := (110, 10, [some (vR 10 0 0), some (vI x1), l2, l3], [], σ)) rfl h1).trans ?_
  refine (e_n 6 (fr' := (110, 17, [some (vR 10 0 0), some (vI x1), some (vI (x1 - x1 / (6 : Int32) * (6 : Int32))), l3], [vI (1 : Int32), vI (x1 - x1 / (6 : Int32) * (6 : Int32))], σ)) rfl).trans ?_
  refine (e_f (B := (110, 39, [some (vR 10 0 0), some (vI x1), some (vI (x1 - x1 / (6 : Int32) * (6 : Int32))), l3], [], σ)) rfl h2).trans ?_
  refine (e_n 2 (fr' := (110, 41, [some (vR 10 0 0), some (vI x1), some (vI (x1 - x1 / (6 : Int32) * (6 : Int32))), l3], [vI (3 : Int32), vI (x1 - x1 / (6 : Int32) * (6 : Int32))], σ)) rfl).trans ?_
  refine (e_t (A := (110, 44, [some (vR 10 0 0), some (vI x1), some (vI (x1 - x1 / (6 : Int32) * (6 : Int32))), l3], [], σ)) rfl h3).trans ?_
  refine (e_n 3 (fr' := (110, 49, [some (vR 10 0 0), some (vI x1), some (vI (x1 - x1 / (6 : Int32) * (6 : Int32))), l3], [vI x1, vR 10 0 6], σ)) rfl).trans ?_
  refine (e_a (A := (110, 50, [some (vR 10 0 0), some (vI x1), some (vI (x1 - x1 / (6 : Int32) * (6 : Int32))), l3], [vI (σ.1 10 0 5 (x1).toNatClampNeg)], σ)) rfl h4).trans ?_
  refine (e_n 1 (fr' := (110, 52, [some (vR 10 0 0), some (vI x1), some (vI (x1 - x1 / (6 : Int32) * (6 : Int32))), l3], [vI (61 : Int32), vI (σ.1 10 0 5 (x1).toNatClampNeg)], σ)) rfl).trans ?_
  refine (e_f (B := (110, 59, [some (vR 10 0 0), some (vI x1), some (vI (x1 - x1 / (6 : Int32) * (6 : Int32))), l3], [], σ)) rfl h5).trans ?_
  exact e_n 2 rfl
set_option maxRecDepth 20000 in
theorem g110_2_7 (C : pmC) {σ : pmS} {x1 : Int32} {l2 : Option pmV} {l3 : Option pmV} (h1 : ¬ (σ.1 10 0 6 0) ≤ x1) (h2 : ¬ (x1 - x1 / (6 : Int32) * (6 : Int32)) = (1 : Int32)) (h3 : ¬ (x1 - x1 / (6 : Int32) * (6 : Int32)) = (3 : Int32)) (h4 : (x1 - x1 / (6 : Int32) * (6 : Int32)) = (5 : Int32)) (h5 : vp_in x1 60) (h6 : (σ.1 10 0 5 (x1).toNatClampNeg) = (59 : Int32)) : pq_Rn C (110, 2, [some (vR 10 0 0), some (vI x1), l2, l3], [], σ) = pq_Rn C (110, 96, [some (vR 10 0 0), some (vI x1), some (vI (x1 - x1 / (6 : Int32) * (6 : Int32))), l3], [vI (1 : Int32)], σ) := by
  refine (e_n 3 (fr' := (110, 7, [some (vR 10 0 0), some (vI x1), l2, l3], [vI (σ.1 10 0 6 0), vI x1], σ)) rfl).trans ?_
  refine (e_f (B := (110, 10, [some (vR 10 0 0), some (vI x1), l2, l3], [], σ)) rfl h1).trans ?_
  refine (e_n 6 (fr' := (110, 17, [some (vR 10 0 0), some (vI x1), some (vI (x1 - x1 / (6 : Int32) * (6 : Int32))), l3], [vI (1 : Int32), vI (x1 - x1 / (6 : Int32) * (6 : Int32))], σ)) rfl).trans ?_
  refine (e_f (B := (110, 39, [some (vR 10 0 0), some (vI x1), some (vI (x1 - x1 / (6 : Int32) * (6 : Int32))), l3], [], σ)) rfl h2).trans ?_
  refine (e_n 2 (fr' := (110, 41, [some (vR 10 0 0), some (vI x1), some (vI (x1 - x1 / (6 : Int32) * (6 : Int32))), l3], [vI (3 : Int32), vI (x1 - x1 / (6 : Int32) * (6 : Int32))], σ)) rfl).trans ?_
  refine (e_f (B := (110, 63, [some (vR 10 0 0), some (vI x1), some (vI (x1 - x1 / (6 : Int32) * (6 : Int32))), l3], [], σ)) rfl h3).trans ?_
  refine (e_n 2 (fr' := (110, 65, [some (vR 10 0 0), some (vI x1), some (vI (x1 - x1 / (6 : Int32) * (6 : Int32))), l3], [vI (5 : Int32), vI (x1 - x1 / (6 : Int32) * (6 : Int32))], σ)) rfl).trans ?_
  refine (e_t (A := (110, 68, [some (vR 10 0 0), some (vI x1), some (vI (x1 - x1 / (6 : Int32) * (6 : Int32))), l3], [], σ)) rfl h4).trans ?_
  refine (e_n 3 (fr' := (110, 73, [some (vR 10 0 0), some (vI x1), some (vI (x1 - x1 / (6 : Int32) * (6 : Int32))), l3], [vI x1, vR 10 0 6], σ)) rfl).trans ?_
  refine (e_a (A := (110, 74, [some (vR 10 0 0), some (vI x1), some (vI (x1 - x1 / (6 : Int32) * (6 : Int32))), l3], [vI (σ.1 10 0 5 (x1).toNatClampNeg)], σ)) rfl h5).trans ?_
  refine (e_n 1 (fr' := (110, 76, [some (vR 10 0 0), some (vI x1), some (vI (x1 - x1 / (6 : Int32) * (6 : Int32))), l3], [vI (59 : Int32), vI (σ.1 10 0 5 (x1).toNatClampNeg)], σ)) rfl).trans ?_
  refine (e_t (A := (110, 79, [some (vR 10 0 0), some (vI x1), some (vI (x1 - x1 / (6 : Int32) * (6 : Int32))), l3], [], σ)) rfl h6).trans ?_
  exact e_n 2 rfl
set_option maxRecDepth 20000 in
theorem g110_2_8 (C : pmC) {σ : pmS} {x1 : Int32} {l2 : Option pmV} {l3 : Option pmV} (h1 : ¬ (σ.1 10 0 6 0) ≤ x1) (h2 : ¬ (x1 - x1 / (6 : Int32) * (6 : Int32)) = (1 : Int32)) (h3 : ¬ (x1 - x1 / (6 : Int32) * (6 : Int32)) = (3 : Int32)) (h4 : (x1 - x1 / (6 : Int32) * (6 : Int32)) = (5 : Int32)) (h5 : vp_in x1 60) (h6 : ¬ (σ.1 10 0 5 (x1).toNatClampNeg) = (59 : Int32)) : pq_Rn C (110, 2, [some (vR 10 0 0), some (vI x1), l2, l3], [], σ) = pq_Rn C (110, 96, [some (vR 10 0 0), some (vI x1), some (vI (x1 - x1 / (6 : Int32) * (6 : Int32))), l3], [vI (0 : Int32)], σ) := by
  refine (e_n 3 (fr' := (110, 7, [some (vR 10 0 0), some (vI x1), l2, l3], [vI (σ.1 10 0 6 0), vI x1], σ)) rfl).trans ?_
  refine (e_f (B := (110, 10, [some (vR 10 0 0), some (vI x1), l2, l3], [], σ)) rfl h1).trans ?_
  refine (e_n 6 (fr' := (110, 17, [some (vR 10 0 0), some (vI x1), some (vI (x1 - x1 / (6 : Int32) * (6 : Int32))), l3], [vI (1 : Int32), vI (x1 - x1 / (6 : Int32) * (6 : Int32))], σ)) rfl).trans ?_
  refine (e_f (B := (110, 39, [some (vR 10 0 0), some (vI x1), some (vI (x1 - x1 / (6 : Int32) * (6 : Int32))), l3], [], σ)) rfl h2).trans ?_
  refine (e_n 2 (fr' := (110, 41, [some (vR 10 0 0), some (vI x1), some (vI (x1 - x1 / (6 : Int32) * (6 : Int32))), l3], [vI (3 : Int32), vI (x1 - x1 / (6 : Int32) * (6 : Int32))], σ)) rfl).trans ?_
  refine (e_f (B := (110, 63, [some (vR 10 0 0), some (vI x1), some (vI (x1 - x1 / (6 : Int32) * (6 : Int32))), l3], [], σ)) rfl h3).trans ?_
  refine (e_n 2 (fr' := (110, 65, [some (vR 10 0 0), some (vI x1), some (vI (x1 - x1 / (6 : Int32) * (6 : Int32))), l3], [vI (5 : Int32), vI (x1 - x1 / (6 : Int32) * (6 : Int32))], σ)) rfl).trans ?_
  refine (e_t (A := (110, 68, [some (vR 10 0 0), some (vI x1), some (vI (x1 - x1 / (6 : Int32) * (6 : Int32))), l3], [], σ)) rfl h4).trans ?_
  refine (e_n 3 (fr' := (110, 73, [some (vR 10 0 0), some (vI x1), some (vI (x1 - x1 / (6 : Int32) * (6 : Int32))), l3], [vI x1, vR 10 0 6], σ)) rfl).trans ?_
  refine (e_a (A := (110, 74, [some (vR 10 0 0), some (vI x1), some (vI (x1 - x1 / (6 : Int32) * (6 : Int32))), l3], [vI (σ.1 10 0 5 (x1).toNatClampNeg)], σ)) rfl h5).trans ?_
  refine (e_n 1 (fr' := (110, 76, [some (vR 10 0 0), some (vI x1), some (vI (x1 - x1 / (6 : Int32) * (6 : Int32))), l3], [vI (59 : Int32), vI (σ.1 10 0 5 (x1).toNatClampNeg)], σ)) rfl).trans ?_
  refine (e_f (B := (110, 83, [some (vR 10 0 0), some (vI x1), some (vI (x1 - x1 / (6 : Int32) * (6 : Int32))), l3], [], σ)) rfl h6).trans ?_
  exact e_n 2 rfl
set_option maxRecDepth 20000 in
theorem g110_2_9 (C : pmC) {σ : pmS} {x1 : Int32} {l2 : Option pmV} {l3 : Option pmV} {σ1 : pmS} {r1 : Int32} (h1 : ¬ (σ.1 10 0 6 0) ≤ x1) (h2 : ¬ (x1 - x1 / (6 : Int32) * (6 : Int32)) = (1 : Int32)) (h3 : ¬ (x1 - x1 / (6 : Int32) * (6 : Int32)) = (3 : Int32)) (h4 : ¬ (x1 - x1 / (6 : Int32) * (6 : Int32)) = (5 : Int32)) (h5 : vp_in x1 60) (h6 : C 109 [vI (σ.1 10 0 5 (x1).toNatClampNeg)] σ = some (some (vI r1), σ1)) : pq_Rn C (110, 2, [some (vR 10 0 0), some (vI x1), l2, l3], [], σ) = pq_Rn C (110, 96, [some (vR 10 0 0), some (vI x1), some (vI (x1 - x1 / (6 : Int32) * (6 : Int32))), l3], [vI r1], σ1) := by
  refine (e_n 3 (fr' := (110, 7, [some (vR 10 0 0), some (vI x1), l2, l3], [vI (σ.1 10 0 6 0), vI x1], σ)) rfl).trans ?_
  refine (e_f (B := (110, 10, [some (vR 10 0 0), some (vI x1), l2, l3], [], σ)) rfl h1).trans ?_
  refine (e_n 6 (fr' := (110, 17, [some (vR 10 0 0), some (vI x1), some (vI (x1 - x1 / (6 : Int32) * (6 : Int32))), l3], [vI (1 : Int32), vI (x1 - x1 / (6 : Int32) * (6 : Int32))], σ)) rfl).trans ?_
  refine (e_f (B := (110, 39, [some (vR 10 0 0), some (vI x1), some (vI (x1 - x1 / (6 : Int32) * (6 : Int32))), l3], [], σ)) rfl h2).trans ?_
  refine (e_n 2 (fr' := (110, 41, [some (vR 10 0 0), some (vI x1), some (vI (x1 - x1 / (6 : Int32) * (6 : Int32))), l3], [vI (3 : Int32), vI (x1 - x1 / (6 : Int32) * (6 : Int32))], σ)) rfl).trans ?_
  refine (e_f (B := (110, 63, [some (vR 10 0 0), some (vI x1), some (vI (x1 - x1 / (6 : Int32) * (6 : Int32))), l3], [], σ)) rfl h3).trans ?_
  refine (e_n 2 (fr' := (110, 65, [some (vR 10 0 0), some (vI x1), some (vI (x1 - x1 / (6 : Int32) * (6 : Int32))), l3], [vI (5 : Int32), vI (x1 - x1 / (6 : Int32) * (6 : Int32))], σ)) rfl).trans ?_
  refine (e_f (B := (110, 87, [some (vR 10 0 0), some (vI x1), some (vI (x1 - x1 / (6 : Int32) * (6 : Int32))), l3], [], σ)) rfl h4).trans ?_
  refine (e_n 3 (fr' := (110, 92, [some (vR 10 0 0), some (vI x1), some (vI (x1 - x1 / (6 : Int32) * (6 : Int32))), l3], [vI x1, vR 10 0 6], σ)) rfl).trans ?_
  refine (e_a (A := (110, 93, [some (vR 10 0 0), some (vI x1), some (vI (x1 - x1 / (6 : Int32) * (6 : Int32))), l3], [vI (σ.1 10 0 5 (x1).toNatClampNeg)], σ)) rfl h5).trans ?_
  exact e_ci (m := 110) (pc := 96) (ls := [some (vR 10 0 0), some (vI x1), some (vI (x1 - x1 / (6 : Int32) * (6 : Int32))), l3]) (rest := []) rfl h6
set_option maxRecDepth 20000 in
theorem g110_96_0 (C : pmC) {σ : pmS} {x1 : Int32} {l2 : Option pmV} {l3 : Option pmV} {s0 : Int32} (h1 : s0 = 0) : pq_Rn C (110, 96, [some (vR 10 0 0), some (vI x1), l2, l3], [vI s0], σ) = pq_Rn C (110, 107, [some (vR 10 0 0), some (vI x1), l2, some (vI s0)], [], σ) := by
  refine (e_n 2 (fr' := (110, 98, [some (vR 10 0 0), some (vI x1), l2, some (vI s0)], [vI s0], σ)) rfl).trans ?_
  exact e_t (A := (110, 107, [some (vR 10 0 0), some (vI x1), l2, some (vI s0)], [], σ)) rfl h1
set_option maxRecDepth 20000 in
theorem g110_96_1 (C : pmC) {σ : pmS} {x1 : Int32} {l2 : Option pmV} {l3 : Option pmV} {s0 : Int32} (h1 : ¬ s0 = 0) (h2 : x1 < (47 : Int32)) : pq_Rn C (110, 96, [some (vR 10 0 0), some (vI x1), l2, l3], [vI s0], σ) = pq_Rn C (110, 2, [some (vR 10 0 0), some (vI (x1 + (1 : Int32))), l2, some (vI s0)], [], σ) := by
  refine (e_n 2 (fr' := (110, 98, [some (vR 10 0 0), some (vI x1), l2, some (vI s0)], [vI s0], σ)) rfl).trans ?_
  refine (e_f (B := (110, 101, [some (vR 10 0 0), some (vI x1), l2, some (vI s0)], [], σ)) rfl h1).trans ?_
  refine (e_n 2 (fr' := (110, 104, [some (vR 10 0 0), some (vI x1), l2, some (vI s0)], [vI (47 : Int32), vI x1], σ)) rfl).trans ?_
  refine (e_t (A := (110, 109, [some (vR 10 0 0), some (vI x1), l2, some (vI s0)], [], σ)) rfl h2).trans ?_
  exact e_n 2 rfl
set_option maxRecDepth 20000 in
theorem g110_96_2 (C : pmC) {σ : pmS} {x1 : Int32} {l2 : Option pmV} {l3 : Option pmV} {s0 : Int32} (h1 : ¬ s0 = 0) (h2 : ¬ x1 < (47 : Int32)) : pq_Rn C (110, 96, [some (vR 10 0 0), some (vI x1), l2, l3], [vI s0], σ) = pq_Rn C (110, 107, [some (vR 10 0 0), some (vI x1), l2, some (vI s0)], [], σ) := by
  refine (e_n 2 (fr' := (110, 98, [some (vR 10 0 0), some (vI x1), l2, some (vI s0)], [vI s0], σ)) rfl).trans ?_
  refine (e_f (B := (110, 101, [some (vR 10 0 0), some (vI x1), l2, some (vI s0)], [], σ)) rfl h1).trans ?_
  refine (e_n 2 (fr' := (110, 104, [some (vR 10 0 0), some (vI x1), l2, some (vI s0)], [vI (47 : Int32), vI x1], σ)) rfl).trans ?_
  exact e_f (B := (110, 107, [some (vR 10 0 0), some (vI x1), l2, some (vI s0)], [], σ)) rfl h2
set_option maxRecDepth 20000 in
theorem g110_107_0 (C : pmC) {σ : pmS} {l0 : Option pmV} {x1 : Int32} {l2 : Option pmV} {l3 : Option pmV}  : pq_Rn C (110, 107, [l0, some (vI x1), l2, l3], [], σ) = some (some (vI x1), σ) := by
  refine (e_n 1 (fr' := (110, 108, [l0, some (vI x1), l2, l3], [vI x1], σ)) rfl).trans ?_
  exact e_r rfl
set_option maxRecDepth 20000 in
theorem g110_139_0 (C : pmC) {σ : pmS} {l1 : Option pmV} {l2 : Option pmV} {l3 : Option pmV}  : pq_Rn C (110, 139, [some (vR 10 0 0), l1, l2, l3], [], σ) = pq_Rn C (110, 143, [some (vR 10 0 0), l1, l2, l3], [vI (σ.1 10 0 6 0)], σ) := by
  exact e_n 2 rfl
set_option maxRecDepth 20000 in
theorem g110_143_0 (C : pmC) {σ : pmS} {l0 : Option pmV} {l1 : Option pmV} {l2 : Option pmV} {l3 : Option pmV} {s0 : Int32}  : pq_Rn C (110, 143, [l0, l1, l2, l3], [vI s0], σ) = some (some (vI s0), σ) := by
  exact e_r rfl
set_option maxRecDepth 20000 in
theorem g111_0_0 (C : pmC) {σ : pmS} {x1 : Int32} {l2 : Option pmV}  : pq_Rn C (111, 0, [some (vR 10 0 0), some (vI x1), l2], [], σ) = pq_Rn C (111, 2, [some (vR 10 0 0), some (vI x1), some (vI (0 : Int32))], [], σ) := by
  exact e_n 2 rfl
set_option maxRecDepth 20000 in
theorem g111_2_0 (C : pmC) {σ : pmS} {x1 : Int32} {x2 : Int32} (h1 : (σ.1 10 0 6 0) ≤ x2) : pq_Rn C (111, 2, [some (vR 10 0 0), some (vI x1), some (vI x2)], [], σ) = some (some (vI (-1 : Int32)), σ) := by
  refine (e_n 3 (fr' := (111, 7, [some (vR 10 0 0), some (vI x1), some (vI x2)], [vI (σ.1 10 0 6 0), vI x2], σ)) rfl).trans ?_
  refine (e_t (A := (111, 31, [some (vR 10 0 0), some (vI x1), some (vI x2)], [], σ)) rfl h1).trans ?_
  refine (e_n 1 (fr' := (111, 32, [some (vR 10 0 0), some (vI x1), some (vI x2)], [vI (-1 : Int32)], σ)) rfl).trans ?_
  exact e_r rfl
set_option maxRecDepth 20000 in
theorem g111_2_1 (C : pmC) {σ : pmS} {x1 : Int32} {x2 : Int32} (h1 : ¬ (σ.1 10 0 6 0) ≤ x2) (h2 : vp_in x2 60) (h3 : ((σ.1 10 0 5 (x2).toNatClampNeg) - (97 : Int32)) < x1) : pq_Rn C (111, 2, [some (vR 10 0 0), some (vI x1), some (vI x2)], [], σ) = pq_Rn C (111, 2, [some (vR 10 0 0), some (vI x1), some (vI (x2 + (2 : Int32)))], [], σ) := by
  refine (e_n 3 (fr' := (111, 7, [some (vR 10 0 0), some (vI x1), some (vI x2)], [vI (σ.1 10 0 6 0), vI x2], σ)) rfl).trans ?_
  refine (e_f (B := (111, 10, [some (vR 10 0 0), some (vI x1), some (vI x2)], [], σ)) rfl h1).trans ?_
  refine (e_n 3 (fr' := (111, 15, [some (vR 10 0 0), some (vI x1), some (vI x2)], [vI x2, vR 10 0 6], σ)) rfl).trans ?_
  refine (e_a (A := (111, 16, [some (vR 10 0 0), some (vI x1), some (vI x2)], [vI (σ.1 10 0 5 (x2).toNatClampNeg)], σ)) rfl h2).trans ?_
  refine (e_n 3 (fr' := (111, 20, [some (vR 10 0 0), some (vI x1), some (vI x2)], [vI x1, vI ((σ.1 10 0 5 (x2).toNatClampNeg) - (97 : Int32))], σ)) rfl).trans ?_
  refine (e_t (A := (111, 25, [some (vR 10 0 0), some (vI x1), some (vI x2)], [], σ)) rfl h3).trans ?_
  exact e_n 2 rfl
set_option maxRecDepth 20000 in
theorem g111_2_2 (C : pmC) {σ : pmS} {x1 : Int32} {x2 : Int32} (h1 : ¬ (σ.1 10 0 6 0) ≤ x2) (h2 : vp_in x2 60) (h3 : ¬ ((σ.1 10 0 5 (x2).toNatClampNeg) - (97 : Int32)) < x1) : pq_Rn C (111, 2, [some (vR 10 0 0), some (vI x1), some (vI x2)], [], σ) = some (some (vI x2), σ) := by
  refine (e_n 3 (fr' := (111, 7, [some (vR 10 0 0), some (vI x1), some (vI x2)], [vI (σ.1 10 0 6 0), vI x2], σ)) rfl).trans ?_
  refine (e_f (B := (111, 10, [some (vR 10 0 0), some (vI x1), some (vI x2)], [], σ)) rfl h1).trans ?_
  refine (e_n 3 (fr' := (111, 15, [some (vR 10 0 0), some (vI x1), some (vI x2)], [vI x2, vR 10 0 6], σ)) rfl).trans ?_
  refine (e_a (A := (111, 16, [some (vR 10 0 0), some (vI x1), some (vI x2)], [vI (σ.1 10 0 5 (x2).toNatClampNeg)], σ)) rfl h2).trans ?_
  refine (e_n 3 (fr' := (111, 20, [some (vR 10 0 0), some (vI x1), some (vI x2)], [vI x1, vI ((σ.1 10 0 5 (x2).toNatClampNeg) - (97 : Int32))], σ)) rfl).trans ?_
  refine (e_f (B := (111, 23, [some (vR 10 0 0), some (vI x1), some (vI x2)], [], σ)) rfl h3).trans ?_
  refine (e_n 1 (fr' := (111, 24, [some (vR 10 0 0), some (vI x1), some (vI x2)], [vI x2], σ)) rfl).trans ?_
  exact e_r rfl
set_option maxRecDepth 20000 in
theorem g112_0_0 (C : pmC) {σ : pmS} {l1 : Option pmV} {l2 : Option pmV}  : pq_Rn C (112, 0, [some (vR 10 0 0), l1, l2], [], σ) = pq_Rn C (112, 2, [some (vR 10 0 0), some (vI (0 : Int32)), l2], [], σ) := by
  exact e_n 2 rfl
set_option maxRecDepth 20000 in
theorem g112_2_0 (C : pmC) {σ : pmS} {x1 : Int32} {l2 : Option pmV} (h1 : (σ.1 10 0 6 0) ≤ x1) : pq_Rn C (112, 2, [some (vR 10 0 0), some (vI x1), l2], [], σ) = some (some (vI (-1 : Int32)), σ) := by
  refine (e_n 3 (fr' := (112, 7, [some (vR 10 0 0), some (vI x1), l2], [vI (σ.1 10 0 6 0), vI x1], σ)) rfl).trans ?_
  refine (e_t (A := (112, 48, [some (vR 10 0 0), some (vI x1), l2], [], σ)) rfl h1).trans ?_
  refine (e_n 1 (fr' := (112, 49, [some (vR 10 0 0), some (vI x1), l2], [vI (-1 : Int32)], σ)) rfl).trans ?_
  exact e_r rfl
set_option maxRecDepth 20000 in
theorem g112_2_1 (C : pmC) {σ : pmS} {x1 : Int32} {l2 : Option pmV} (h1 : ¬ (σ.1 10 0 6 0) ≤ x1) : pq_Rn C (112, 2, [some (vR 10 0 0), some (vI x1), l2], [], σ) = pq_Rn C (112, 15, [some (vR 10 0 0), some (vI x1), some (vI (x1 - (6 : Int32)))], [], σ) := by
  refine (e_n 3 (fr' := (112, 7, [some (vR 10 0 0), some (vI x1), l2], [vI (σ.1 10 0 6 0), vI x1], σ)) rfl).trans ?_
  refine (e_f (B := (112, 10, [some (vR 10 0 0), some (vI x1), l2], [], σ)) rfl h1).trans ?_
  exact e_n 4 rfl
set_option maxRecDepth 20000 in
theorem g112_15_0 (C : pmC) {σ : pmS} {x1 : Int32} {x2 : Int32} (h1 : x2 < 0) : pq_Rn C (112, 15, [some (vR 10 0 0), some (vI x1), some (vI x2)], [], σ) = pq_Rn C (112, 2, [some (vR 10 0 0), some (vI (x1 + (2 : Int32))), some (vI x2)], [], σ) := by
  refine (e_n 1 (fr' := (112, 16, [some (vR 10 0 0), some (vI x1), some (vI x2)], [vI x2], σ)) rfl).trans ?_
  refine (e_t (A := (112, 42, [some (vR 10 0 0), some (vI x1), some (vI x2)], [], σ)) rfl h1).trans ?_
  exact e_n 2 rfl
set_option maxRecDepth 20000 in
theorem g112_15_1 (C : pmC) {σ : pmS} {x1 : Int32} {x2 : Int32} (h1 : ¬ x2 < 0) (h2 : vp_in x2 60) (h3 : vp_in x1 60) (h4 : (σ.1 10 0 5 (x2).toNatClampNeg) = (σ.1 10 0 5 (x1).toNatClampNeg)) : pq_Rn C (112, 15, [some (vR 10 0 0), some (vI x1), some (vI x2)], [], σ) = some (some (vI x1), σ) := by
  refine (e_n 1 (fr' := (112, 16, [some (vR 10 0 0), some (vI x1), some (vI x2)], [vI x2], σ)) rfl).trans ?_
  refine (e_f (B := (112, 19, [some (vR 10 0 0), some (vI x1), some (vI x2)], [], σ)) rfl h1).trans ?_
  refine (e_n 3 (fr' := (112, 24, [some (vR 10 0 0), some (vI x1), some (vI x2)], [vI x2, vR 10 0 6], σ)) rfl).trans ?_
  refine (e_a (A := (112, 25, [some (vR 10 0 0), some (vI x1), some (vI x2)], [vI (σ.1 10 0 5 (x2).toNatClampNeg)], σ)) rfl h2).trans ?_
  refine (e_n 3 (fr' := (112, 30, [some (vR 10 0 0), some (vI x1), some (vI x2)], [vI x1, vR 10 0 6, vI (σ.1 10 0 5 (x2).toNatClampNeg)], σ)) rfl).trans ?_
  refine (e_a (A := (112, 31, [some (vR 10 0 0), some (vI x1), some (vI x2)], [vI (σ.1 10 0 5 (x1).toNatClampNeg), vI (σ.1 10 0 5 (x2).toNatClampNeg)], σ)) rfl h3).trans ?_
  refine (e_t (A := (112, 34, [some (vR 10 0 0), some (vI x1), some (vI x2)], [], σ)) rfl h4).trans ?_
  refine (e_n 1 (fr' := (112, 35, [some (vR 10 0 0), some (vI x1), some (vI x2)], [vI x1], σ)) rfl).trans ?_
  exact e_r rfl
set_option maxRecDepth 20000 in
theorem g112_15_2 (C : pmC) {σ : pmS} {x1 : Int32} {x2 : Int32} (h1 : ¬ x2 < 0) (h2 : vp_in x2 60) (h3 : vp_in x1 60) (h4 : ¬ (σ.1 10 0 5 (x2).toNatClampNeg) = (σ.1 10 0 5 (x1).toNatClampNeg)) : pq_Rn C (112, 15, [some (vR 10 0 0), some (vI x1), some (vI x2)], [], σ) = pq_Rn C (112, 15, [some (vR 10 0 0), some (vI x1), some (vI (x2 + (-6 : Int32)))], [], σ) := by
  refine (e_n 1 (fr' := (112, 16, [some (vR 10 0 0), some (vI x1), some (vI x2)], [vI x2], σ)) rfl).trans ?_
  refine (e_f (B := (112, 19, [some (vR 10 0 0), some (vI x1), some (vI x2)], [], σ)) rfl h1).trans ?_
  refine (e_n 3 (fr' := (112, 24, [some (vR 10 0 0), some (vI x1), some (vI x2)], [vI x2, vR 10 0 6], σ)) rfl).trans ?_
  refine (e_a (A := (112, 25, [some (vR 10 0 0), some (vI x1), some (vI x2)], [vI (σ.1 10 0 5 (x2).toNatClampNeg)], σ)) rfl h2).trans ?_
  refine (e_n 3 (fr' := (112, 30, [some (vR 10 0 0), some (vI x1), some (vI x2)], [vI x1, vR 10 0 6, vI (σ.1 10 0 5 (x2).toNatClampNeg)], σ)) rfl).trans ?_
  refine (e_a (A := (112, 31, [some (vR 10 0 0), some (vI x1), some (vI x2)], [vI (σ.1 10 0 5 (x1).toNatClampNeg), vI (σ.1 10 0 5 (x2).toNatClampNeg)], σ)) rfl h3).trans ?_
  refine (e_f (B := (112, 36, [some (vR 10 0 0), some (vI x1), some (vI x2)], [], σ)) rfl h4).trans ?_
  exact e_n 2 rfl
set_option maxRecDepth 20000 in
theorem g113_0_0 (C : pmC) {σ : pmS} {l1 : Option pmV} {l2 : Option pmV} {l3 : Option pmV} (h1 : (σ.1 10 0 4 0) = (4 : Int32)) : pq_Rn C (113, 0, [some (vR 10 0 0), l1, l2, l3], [], σ) = some (some (vI (-4 : Int32)), σ) := by
  refine (e_n 3 (fr' := (113, 5, [some (vR 10 0 0), l1, l2, l3], [vI (4 : Int32), vI (σ.1 10 0 4 0)], σ)) rfl).trans ?_
  refine (e_t (A := (113, 8, [some (vR 10 0 0), l1, l2, l3], [], σ)) rfl h1).trans ?_
  refine (e_n 1 (fr' := (113, 10, [some (vR 10 0 0), l1, l2, l3], [vI (-4 : Int32)], σ)) rfl).trans ?_
  exact e_r rfl
set_option maxRecDepth 20000 in
theorem g113_0_1 (C : pmC) {σ : pmS} {l1 : Option pmV} {l2 : Option pmV} {l3 : Option pmV} {σ1 : pmS} {r1 : Int32} (h1 : ¬ (σ.1 10 0 4 0) = (4 : Int32)) (h2 : C 110 [vR 10 0 0] (pm_wi σ 10 0 7 0 (1 : Int32)) = some (some (vI r1), σ1)) (h3 : 0 ≤ r1) (h4 : 0 ≤ r1) (h5 : r1 < 0) (h6 : vp_in (σ1.1 10 0 4 0) 4) : pq_Rn C (113, 0, [some (vR 10 0 0), l1, l2, l3], [], σ) = pq_Rn C (113, 129, [some (vR 10 0 0), some (vI (((σ.1 10 0 6 0) + (1 : Int32)) / (6 : Int32))), some (vI (σ1.1 10 0 4 0)), some (vI (0 : Int32))], [], (pm_wi (pm_wi (pm_wi (pm_wi (pm_wi σ1 10 0 8 0 r1) 10 0 7 0 (0 : Int32)) 10 0 8 0 (-1 : Int32)) 10 0 4 0 ((σ1.1 10 0 4 0) + (1 : Int32))) 10 0 0 ((σ1.1 10 0 4 0)).toNatClampNeg (((σ.1 10 0 6 0) + (1 : Int32)) / (6 : Int32)))) := by
  refine (e_n 3 (fr' := (113, 5, [some (vR 10 0 0), l1, l2, l3], [vI (4 : Int32), vI (σ.1 10 0 4 0)], σ)) rfl).trans ?_
  refine (e_f (B := (113, 11, [some (vR 10 0 0), l1, l2, l3], [], σ)) rfl h1).trans ?_
  refine (e_n 12 (fr' := (113, 28, [some (vR 10 0 0), some (vI (((σ.1 10 0 6 0) + (1 : Int32)) / (6 : Int32))), l2, l3], [vR 10 0 0, vR 10 0 0], (pm_wi σ 10 0 7 0 (1 : Int32)))) rfl).trans ?_
  refine (e_ci (m := 113) (pc := 31) (ls := [some (vR 10 0 0), some (vI (((σ.1 10 0 6 0) + (1 : Int32)) / (6 : Int32))), l2, l3]) (rest := [vR 10 0 0]) rfl h2).trans ?_
  refine (e_n 3 (fr' := (113, 38, [some (vR 10 0 0), some (vI (((σ.1 10 0 6 0) + (1 : Int32)) / (6 : Int32))), l2, l3], [vI r1], (pm_wi σ1 10 0 8 0 r1))) rfl).trans ?_
  refine (e_t (A := (113, 55, [some (vR 10 0 0), some (vI (((σ.1 10 0 6 0) + (1 : Int32)) / (6 : Int32))), l2, l3], [], (pm_wi σ1 10 0 8 0 r1))) rfl h3).trans ?_
  refine (e_n 2 (fr' := (113, 59, [some (vR 10 0 0), some (vI (((σ.1 10 0 6 0) + (1 : Int32)) / (6 : Int32))), l2, l3], [vI r1], (pm_wi σ1 10 0 8 0 r1))) rfl).trans ?_
  refine (e_t (A := (113, 75, [some (vR 10 0 0), some (vI (((σ.1 10 0 6 0) + (1 : Int32)) / (6 : Int32))), l2, l3], [], (pm_wi σ1 10 0 8 0 r1))) rfl h4).trans ?_
  refine (e_n 2 (fr' := (113, 79, [some (vR 10 0 0), some (vI (((σ.1 10 0 6 0) + (1 : Int32)) / (6 : Int32))), l2, l3], [vI r1], (pm_wi σ1 10 0 8 0 r1))) rfl).trans ?_
  refine (e_t (A := (113, 95, [some (vR 10 0 0), some (vI (((σ.1 10 0 6 0) + (1 : Int32)) / (6 : Int32))), l2, l3], [], (pm_wi σ1 10 0 8 0 r1))) rfl h5).trans ?_
  refine (e_n 19 (fr' := (113, 126, [some (vR 10 0 0), some (vI (((σ.1 10 0 6 0) + (1 : Int32)) / (6 : Int32))), some (vI (σ1.1 10 0 4 0)), l3], [vI (((σ.1 10 0 6 0) + (1 : Int32)) / (6 : Int32)), vI (σ1.1 10 0 4 0), vR 10 0 1], (pm_wi (pm_wi (pm_wi (pm_wi σ1 10 0 8 0 r1) 10 0 7 0 (0 : Int32)) 10 0 8 0 (-1 : Int32)) 10 0 4 0 ((σ1.1 10 0 4 0) + (1 : Int32))))) rfl).trans ?_
  refine (e_a (A := (113, 127, [some (vR 10 0 0), some (vI (((σ.1 10 0 6 0) + (1 : Int32)) / (6 : Int32))), some (vI (σ1.1 10 0 4 0)), l3], [], (pm_wi (pm_wi (pm_wi (pm_wi (pm_wi σ1 10 0 8 0 r1) 10 0 7 0 (0 : Int32)) 10 0 8 0 (-1 : Int32)) 10 0 4 0 ((σ1.1 10 0 4 0) + (1 : Int32))) 10 0 0 ((σ1.1 10 0 4 0)).toNatClampNeg (((σ.1 10 0 6 0) + (1 : Int32)) / (6 : Int32))))) rfl h6).trans ?_
  exact e_n 2 rfl
set_option maxRecDepth 20000 in
theorem g113_0_2 (C : pmC) {σ : pmS} {l1 : Option pmV} {l2 : Option pmV} {l3 : Option pmV} {σ1 : pmS} {r1 : Int32} (h1 : ¬ (σ.1 10 0 4 0) = (4 : Int32)) (h2 : C 110 [vR 10 0 0] (pm_wi σ 10 0 7 0 (1 : Int32)) = some (some (vI r1), σ1)) (h3 : 0 ≤ r1) (h4 : 0 ≤ r1) (h5 : ¬ r1 < 0) : pq_Rn C (113, 0, [some (vR 10 0 0), l1, l2, l3], [], σ) = some (some (vI ((-10 : Int32) - (σ1.1 10 0 7 0))), (pm_wi (pm_wi σ1 10 0 8 0 r1) 10 0 6 0 (0 : Int32))) := by
  refine (e_n 3 (fr' := (113, 5, [some (vR 10 0 0), l1, l2, l3], [vI (4 : Int32), vI (σ.1 10 0 4 0)], σ)) rfl).trans ?_
  refine (e_f (B := (113, 11, [some (vR 10 0 0), l1, l2, l3], [], σ)) rfl h1).trans ?_
  refine (e_n 12 (fr' := (113, 28, [some (vR 10 0 0), some (vI (((σ.1 10 0 6 0) + (1 : Int32)) / (6 : Int32))), l2, l3], [vR 10 0 0, vR 10 0 0], (pm_wi σ 10 0 7 0 (1 : Int32)))) rfl).trans ?_
  refine (e_ci (m := 113) (pc := 31) (ls := [some (vR 10 0 0), some (vI (((σ.1 10 0 6 0) + (1 : Int32)) / (6 : Int32))), l2, l3]) (rest := [vR 10 0 0]) rfl h2).trans ?_
  refine (e_n 3 (fr' := (113, 38, [some (vR 10 0 0), some (vI (((σ.1 10 0 6 0) + (1 : Int32)) / (6 : Int32))), l2, l3], [vI r1], (pm_wi σ1 10 0 8 0 r1))) rfl).trans ?_
  refine (e_t (A := (113, 55, [some (vR 10 0 0), some (vI (((σ.1 10 0 6 0) + (1 : Int32)) / (6 : Int32))), l2, l3], [], (pm_wi σ1 10 0 8 0 r1))) rfl h3).trans ?_
  refine (e_n 2 (fr' := (113, 59, [some (vR 10 0 0), some (vI (((σ.1 10 0 6 0) + (1 : Int32)) / (6 : Int32))), l2, l3], [vI r1], (pm_wi σ1 10 0 8 0 r1))) rfl).trans ?_
  refine (e_t (A := (113, 75, [some (vR 10 0 0), some (vI (((σ.1 10 0 6 0) + (1 : Int32)) / (6 : Int32))), l2, l3], [], (pm_wi σ1 10 0 8 0 r1))) rfl h4).trans ?_
  refine (e_n 2 (fr' := (113, 79, [some (vR 10 0 0), some (vI (((σ.1 10 0 6 0) + (1 : Int32)) / (6 : Int32))), l2, l3], [vI r1], (pm_wi σ1 10 0 8 0 r1))) rfl).trans ?_
  refine (e_f (B := (113, 82, [some (vR 10 0 0), some (vI (((σ.1 10 0 6 0) + (1 : Int32)) / (6 : Int32))), l2, l3], [], (pm_wi σ1 10 0 8 0 r1))) rfl h5).trans ?_
  refine (e_n 7 (fr' := (113, 94, [some (vR 10 0 0), some (vI (((σ.1 10 0 6 0) + (1 : Int32)) / (6 : Int32))), l2, l3], [vI ((-10 : Int32) - (σ1.1 10 0 7 0))], (pm_wi (pm_wi σ1 10 0 8 0 r1) 10 0 6 0 (0 : Int32)))) rfl).trans ?_
  exact e_r rfl
set_option maxRecDepth 20000 in
theorem g113_0_3 (C : pmC) {σ : pmS} {l1 : Option pmV} {l2 : Option pmV} {l3 : Option pmV} {σ1 : pmS} {r1 : Int32} {σ2 : pmS} {r2 : Int32} (h1 : ¬ (σ.1 10 0 4 0) = (4 : Int32)) (h2 : C 110 [vR 10 0 0] (pm_wi σ 10 0 7 0 (1 : Int32)) = some (some (vI r1), σ1)) (h3 : 0 ≤ r1) (h4 : ¬ 0 ≤ r1) (h5 : C 112 [vR 10 0 0] (pm_wi (pm_wi σ1 10 0 8 0 r1) 10 0 7 0 (3 : Int32)) = some (some (vI r2), σ2)) (h6 : r2 < 0) (h7 : vp_in (σ2.1 10 0 4 0) 4) : pq_Rn C (113, 0, [some (vR 10 0 0), l1, l2, l3], [], σ) = pq_Rn C (113, 129, [some (vR 10 0 0), some (vI (((σ.1 10 0 6 0) + (1 : Int32)) / (6 : Int32))), some (vI (σ2.1 10 0 4 0)), some (vI (0 : Int32))], [], (pm_wi (pm_wi (pm_wi (pm_wi (pm_wi σ2 10 0 8 0 r2) 10 0 7 0 (0 : Int32)) 10 0 8 0 (-1 : Int32)) 10 0 4 0 ((σ2.1 10 0 4 0) + (1 : Int32))) 10 0 0 ((σ2.1 10 0 4 0)).toNatClampNeg (((σ.1 10 0 6 0) + (1 : Int32)) / (6 : Int32)))) := by
  refine (e_n 3 (fr' := (113, 5, [some (vR 10 0 0), l1, l2, l3], [vI (4 : Int32), vI (σ.1 10 0 4 0)], σ)) rfl).trans ?_
  refine (e_f (B := (113, 11, [some (vR 10 0 0), l1, l2, l3], [], σ)) rfl h1).trans ?_
  refine (e_n 12 (fr' := (113, 28, [some (vR 10 0 0), some (vI (((σ.1 10 0 6 0) + (1 : Int32)) / (6 : Int32))), l2, l3], [vR 10 0 0, vR 10 0 0], (pm_wi σ 10 0 7 0 (1 : Int32)))) rfl).trans ?_
  refine (e_ci (m := 113) (pc := 31) (ls := [some (vR 10 0 0), some (vI (((σ.1 10 0 6 0) + (1 : Int32)) / (6 : Int32))), l2, l3]) (rest := [vR 10 0 0]) rfl h2).trans ?_
  refine (e_n 3 (fr' := (113, 38, [some (vR 10 0 0), some (vI (((σ.1 10 0 6 0) + (1 : Int32)) / (6 : Int32))), l2, l3], [vI r1], (pm_wi σ1 10 0 8 0 r1))) rfl).trans ?_
  refine (e_t (A := (113, 55, [some (vR 10 0 0), some (vI (((σ.1 10 0 6 0) + (1 : Int32)) / (6 : Int32))), l2, l3], [], (pm_wi σ1 10 0 8 0 r1))) rfl h3).trans ?_
  refine (e_n 2 (fr' := (113, 59, [some (vR 10 0 0), some (vI (((σ.1 10 0 6 0) + (1 : Int32)) / (6 : Int32))), l2, l3], [vI r1], (pm_wi σ1 10 0 8 0 r1))) rfl).trans ?_
  refine (e_f (B := (113, 62, [some (vR 10 0 0), some (vI (((σ.1 10 0 6 0) + (1 : Int32)) / (6 : Int32))), l2, l3], [], (pm_wi σ1 10 0 8 0 r1))) rfl h4).trans ?_
  refine (e_n 5 (fr' := (113, 69, [some (vR 10 0 0), some (vI (((σ.1 10 0 6 0) + (1 : Int32)) / (6 : Int32))), l2, l3], [vR 10 0 0, vR 10 0 0], (pm_wi (pm_wi σ1 10 0 8 0 r1) 10 0 7 0 (3 : Int32)))) rfl).trans ?_
  refine (e_ci (m := 113) (pc := 72) (ls := [some (vR 10 0 0), some (vI (((σ.1 10 0 6 0) + (1 : Int32)) / (6 : Int32))), l2, l3]) (rest := [vR 10 0 0]) rfl h5).trans ?_
  refine (e_n 3 (fr' := (113, 79, [some (vR 10 0 0), some (vI (((σ.1 10 0 6 0) + (1 : Int32)) / (6 : Int32))), l2, l3], [vI r2], (pm_wi σ2 10 0 8 0 r2))) rfl).trans ?_
  refine (e_t (A := (113, 95, [some (vR 10 0 0), some (vI (((σ.1 10 0 6 0) + (1 : Int32)) / (6 : Int32))), l2, l3], [], (pm_wi σ2 10 0 8 0 r2))) rfl h6).trans ?_
  refine (e_n 19 (fr' := (113, 126, [some (vR 10 0 0), some (vI (((σ.1 10 0 6 0) + (1 : Int32)) / (6 : Int32))), some (vI (σ2.1 10 0 4 0)), l3], [vI (((σ.1 10 0 6 0) + (1 : Int32)) / (6 : Int32)), vI (σ2.1 10 0 4 0), vR 10 0 1], (pm_wi (pm_wi (pm_wi (pm_wi σ2 10 0 8 0 r2) 10 0 7 0 (0 : Int32)) 10 0 8 0 (-1 : Int32)) 10 0 4 0 ((σ2.1 10 0 4 0) + (1 : Int32))))) rfl).trans ?_
  refine (e_a (A := (113, 127, [some (vR 10 0 0), some (vI (((σ.1 10 0 6 0) + (1 : Int32)) / (6 : Int32))), some (vI (σ2.1 10 0 4 0)), l3], [], (pm_wi (pm_wi (pm_wi (pm_wi (pm_wi σ2 10 0 8 0 r2) 10 0 7 0 (0 : Int32)) 10 0 8 0 (-1 : Int32)) 10 0 4 0 ((σ2.1 10 0 4 0) + (1 : Int32))) 10 0 0 ((σ2.1 10 0 4 0)).toNatClampNeg (((σ.1 10 0 6 0) + (1 : Int32)) / (6 : Int32))))) rfl h7).trans ?_
  exact e_n 2 rfl
set_option maxRecDepth 20000 in
theorem g113_0_4 (C : pmC) {σ : pmS} {l1 : Option pmV} {l2 : Option pmV} {l3 : Option pmV} {σ1 : pmS} {r1 : Int32} {σ2 : pmS} {r2 : Int32} (h1 : ¬ (σ.1 10 0 4 0) = (4 : Int32)) (h2 : C 110 [vR 10 0 0] (pm_wi σ 10 0 7 0 (1 : Int32)) = some (some (vI r1), σ1)) (h3 : 0 ≤ r1) (h4 : ¬ 0 ≤ r1) (h5 : C 112 [vR 10 0 0] (pm_wi (pm_wi σ1 10 0 8 0 r1) 10 0 7 0 (3 : Int32)) = some (some (vI r2), σ2)) (h6 : ¬ r2 < 0) : pq_Rn C (113, 0, [some (vR 10 0 0), l1, l2, l3], [], σ) = some (some (vI ((-10 : Int32) - (σ2.1 10 0 7 0))), (pm_wi (pm_wi σ2 10 0 8 0 r2) 10 0 6 0 (0 : Int32))) := by
  refine (e_n 3 (fr' := (113, 5, [some (vR 10 0 0), l1, l2, l3], [vI (4 : Int32), vI (σ.1 10 0 4 0)], σ)) rfl).trans ?_
  refine (e_f (B := (113, 11, [some (vR 10 0 0), l1, l2, l3], [], σ)) rfl h1).trans ?_
  refine (e_n 12 (fr' := (113, 28, [some (vR 10 0 0), some (vI (((σ.1 10 0 6 0) + (1 : Int32)) / (6 : Int32))), l2, l3], [vR 10 0 0, vR 10 0 0], (pm_wi σ 10 0 7 0 (1 : Int32)))) rfl).trans ?_
  refine (e_ci (m := 113) (pc := 31) (ls := [some (vR 10 0 0), some (vI (((σ.1 10 0 6 0) + (1 : Int32)) / (6 : Int32))), l2, l3]) (rest := [vR 10 0 0]) rfl h2).trans ?_
  refine (e_n 3 (fr' := (113, 38, [some (vR 10 0 0), some (vI (((σ.1 10 0 6 0) + (1 : Int32)) / (6 : Int32))), l2, l3], [vI r1], (pm_wi σ1 10 0 8 0 r1))) rfl).trans ?_
  refine (e_t (A := (113, 55, [some (vR 10 0 0), some (vI (((σ.1 10 0 6 0) + (1 : Int32)) / (6 : Int32))), l2, l3], [], (pm_wi σ1 10 0 8 0 r1))) rfl h3).trans ?_
  refine (e_n 2 (fr' := (113, 59, [some (vR 10 0 0), some (vI (((σ.1 10 0 6 0) + (1 : Int32)) / (6 : Int32))), l2, l3], [vI r1], (pm_wi σ1 10 0 8 0 r1))) rfl).trans ?_
  refine (e_f (B := (113, 62, [some (vR 10 0 0), some (vI (((σ.1 10 0 6 0) + (1 : Int32)) / (6 : Int32))), l2, l3], [], (pm_wi σ1 10 0 8 0 r1))) rfl h4).trans ?_
  refine (e_n 5 (fr' := (113, 69, [some (vR 10 0 0), some (vI (((σ.1 10 0 6 0) + (1 : Int32)) / (6 : Int32))), l2, l3], [vR 10 0 0, vR 10 0 0], (pm_wi (pm_wi σ1 10 0 8 0 r1) 10 0 7 0 (3 : Int32)))) rfl).trans ?_
  refine (e_ci (m := 113) (pc := 72) (ls := [some (vR 10 0 0), some (vI (((σ.1 10 0 6 0) + (1 : Int32)) / (6 : Int32))), l2, l3]) (rest := [vR 10 0 0]) rfl h5).trans ?_
  refine (e_n 3 (fr' := (113, 79, [some (vR 10 0 0), some (vI (((σ.1 10 0 6 0) + (1 : Int32)) / (6 : Int32))), l2, l3], [vI r2], (pm_wi σ2 10 0 8 0 r2))) rfl).trans ?_
  refine (e_f (B := (113, 82, [some (vR 10 0 0), some (vI (((σ.1 10 0 6 0) + (1 : Int32)) / (6 : Int32))), l2, l3], [], (pm_wi σ2 10 0 8 0 r2))) rfl h6).trans ?_
  refine (e_n 7 (fr' := (113, 94, [some (vR 10 0 0), some (vI (((σ.1 10 0 6 0) + (1 : Int32)) / (6 : Int32))), l2, l3], [vI ((-10 : Int32) - (σ2.1 10 0 7 0))], (pm_wi (pm_wi σ2 10 0 8 0 r2) 10 0 6 0 (0 : Int32)))) rfl).trans ?_
  exact e_r rfl
set_option maxRecDepth 20000 in
theorem g113_0_5 (C : pmC) {σ : pmS} {l1 : Option pmV} {l2 : Option pmV} {l3 : Option pmV} {σ1 : pmS} {r1 : Int32} {σ2 : pmS} {r2 : Int32} (h1 : ¬ (σ.1 10 0 4 0) = (4 : Int32)) (h2 : C 110 [vR 10 0 0] (pm_wi σ 10 0 7 0 (1 : Int32)) = some (some (vI r1), σ1)) (h3 : ¬ 0 ≤ r1) (h4 : C 111 [vR 10 0 0, vI (((σ.1 10 0 6 0) + (1 : Int32)) / (6 : Int32))] (pm_wi (pm_wi σ1 10 0 8 0 r1) 10 0 7 0 (2 : Int32)) = some (some (vI r2), σ2)) (h5 : 0 ≤ r2) (h6 : r2 < 0) (h7 : vp_in (σ2.1 10 0 4 0) 4) : pq_Rn C (113, 0, [some (vR 10 0 0), l1, l2, l3], [], σ) = pq_Rn C (113, 129, [some (vR 10 0 0), some (vI (((σ.1 10 0 6 0) + (1 : Int32)) / (6 : Int32))), some (vI (σ2.1 10 0 4 0)), some (vI (0 : Int32))], [], (pm_wi (pm_wi (pm_wi (pm_wi (pm_wi σ2 10 0 8 0 r2) 10 0 7 0 (0 : Int32)) 10 0 8 0 (-1 : Int32)) 10 0 4 0 ((σ2.1 10 0 4 0) + (1 : Int32))) 10 0 0 ((σ2.1 10 0 4 0)).toNatClampNeg (((σ.1 10 0 6 0) + (1 : Int32)) / (6 : Int32)))) := by
  refine (e_n 3 (fr' := (113, 5, [some (vR 10 0 0), l1, l2, l3], [vI (4 : Int32), vI (σ.1 10 0 4 0)], σ)) rfl).trans ?_
  refine (e_f (B := (113, 11, [some (vR 10 0 0), l1, l2, l3], [], σ)) rfl h1).trans ?_
  refine (e_n 12 (fr' := (113, 28, [some (vR 10 0 0), some (vI (((σ.1 10 0 6 0) + (1 : Int32)) / (6 : Int32))), l2, l3], [vR 10 0 0, vR 10 0 0], (pm_wi σ 10 0 7 0 (1 : Int32)))) rfl).trans ?_
  refine (e_ci (m := 113) (pc := 31) (ls := [some (vR 10 0 0), some (vI (((σ.1 10 0 6 0) + (1 : Int32)) / (6 : Int32))), l2, l3]) (rest := [vR 10 0 0]) rfl h2).trans ?_
  refine (e_n 3 (fr' := (113, 38, [some (vR 10 0 0), some (vI (((σ.1 10 0 6 0) + (1 : Int32)) / (6 : Int32))), l2, l3], [vI r1], (pm_wi σ1 10 0 8 0 r1))) rfl).trans ?_
  refine (e_f (B := (113, 41, [some (vR 10 0 0), some (vI (((σ.1 10 0 6 0) + (1 : Int32)) / (6 : Int32))), l2, l3], [], (pm_wi σ1 10 0 8 0 r1))) rfl h3).trans ?_
  refine (e_n 6 (fr' := (113, 49, [some (vR 10 0 0), some (vI (((σ.1 10 0 6 0) + (1 : Int32)) / (6 : Int32))), l2, l3], [vI (((σ.1 10 0 6 0) + (1 : Int32)) / (6 : Int32)), vR 10 0 0, vR 10 0 0], (pm_wi (pm_wi σ1 10 0 8 0 r1) 10 0 7 0 (2 : Int32)))) rfl).trans ?_
  refine (e_ci (m := 113) (pc := 52) (ls := [some (vR 10 0 0), some (vI (((σ.1 10 0 6 0) + (1 : Int32)) / (6 : Int32))), l2, l3]) (rest := [vR 10 0 0]) rfl h4).trans ?_
  refine (e_n 3 (fr' := (113, 59, [some (vR 10 0 0), some (vI (((σ.1 10 0 6 0) + (1 : Int32)) / (6 : Int32))), l2, l3], [vI r2], (pm_wi σ2 10 0 8 0 r2))) rfl).trans ?_
  refine (e_t (A := (113, 75, [some (vR 10 0 0), some (vI (((σ.1 10 0 6 0) + (1 : Int32)) / (6 : Int32))), l2, l3], [], (pm_wi σ2 10 0 8 0 r2))) rfl h5).trans ?_
  refine (e_n 2 (fr' := (113, 79, [some (vR 10 0 0), some (vI (((σ.1 10 0 6 0) + (1 : Int32)) / (6 : Int32))), l2, l3], [vI r2], (pm_wi σ2 10 0 8 0 r2))) rfl).trans ?_
  refine (e_t (A := (113, 95, [some (vR 10 0 0), some (vI (((σ.1 10 0 6 0) + (1 : Int32)) / (6 : Int32))), l2, l3], [], (pm_wi σ2 10 0 8 0 r2))) rfl h6).trans ?_
  refine (e_n 19 (fr' := (113, 126, [some (vR 10 0 0), some (vI (((σ.1 10 0 6 0) + (1 : Int32)) / (6 : Int32))), some (vI (σ2.1 10 0 4 0)), l3], [vI (((σ.1 10 0 6 0) + (1 : Int32)) / (6 : Int32)), vI (σ2.1 10 0 4 0), vR 10 0 1], (pm_wi (pm_wi (pm_wi (pm_wi σ2 10 0 8 0 r2) 10 0 7 0 (0 : Int32)) 10 0 8 0 (-1 : Int32)) 10 0 4 0 ((σ2.1 10 0 4 0) + (1 : Int32))))) rfl).trans ?_
  refine (e_a (A := (113, 127, [some (vR 10 0 0), some (vI (((σ.1 10 0 6 0) + (1 : Int32)) / (6 : Int32))), some (vI (σ2.1 10 0 4 0)), l3], [], (pm_wi (pm_wi (pm_wi (pm_wi (pm_wi σ2 10 0 8 0 r2) 10 0 7 0 (0 : Int32)) 10 0 8 0 (-1 : Int32)) 10 0 4 0 ((σ2.1 10 0 4 0) + (1 : Int32))) 10 0 0 ((σ2.1 10 0 4 0)).toNatClampNeg (((σ.1 10 0 6 0) + (1 : Int32)) / (6 : Int32))))) rfl h7).trans ?_
  exact e_n 2 rfl
set_option maxRecDepth 20000 in
theorem g113_0_6 (C : pmC) {σ : pmS} {l1 : Option pmV} {l2 : Option pmV} {l3 : Option pmV} {σ1 : pmS} {r1 : Int32} {σ2 : pmS} {r2 : Int32} (h1 : ¬ (σ.1 10 0 4 0) = (4 : Int32)) (h2 : C 110 [vR 10 0 0] (pm_wi σ 10 0 7 0 (1 : Int32)) = some (some (vI r1), σ1)) (h3 : ¬ 0 ≤ r1) (h4 : C 111 [vR 10 0 0, vI (((σ.1 10 0 6 0) + (1 : Int32)) / (6 : Int32))] (pm_wi (pm_wi σ1 10 0 8 0 r1) 10 0 7 0 (2 : Int32)) = some (some (vI r2), σ2)) (h5 : 0 ≤ r2) (h6 : ¬ r2 < 0) : pq_Rn C (113, 0, [some (vR 10 0 0), l1, l2, l3], [], σ) = some (some (vI ((-10 : Int32) - (σ2.1 10 0 7 0))), (pm_wi (pm_wi σ2 10 0 8 0 r2) 10 0 6 0 (0 : Int32))) := by
  refine (e_n 3 (fr' := (113, 5, [some (vR 10 0 0), l1, l2, l3], [vI (4 : Int32), vI (σ.1 10 0 4 0)], σ)) rfl).trans ?_
  refine (e_f (B := (113, 11, [some (vR 10 0 0), l1, l2, l3], [], σ)) rfl h1).trans ?_
  refine (e_n 12 (fr' := (113, 28, [some (vR 10 0 0), some (vI (((σ.1 10 0 6 0) + (1 : Int32)) / (6 : Int32))), l2, l3], [vR 10 0 0, vR 10 0 0], (pm_wi σ 10 0 7 0 (1 : Int32)))) rfl).trans ?_
  refine (e_ci (m := 113) (pc := 31) (ls := [some (vR 10 0 0), some (vI (((σ.1 10 0 6 0) + (1 : Int32)) / (6 : Int32))), l2, l3]) (rest := [vR 10 0 0]) rfl h2).trans ?_
  refine (e_n 3 (fr' := (113, 38, [some (vR 10 0 0), some (vI (((σ.1 10 0 6 0) + (1 : Int32)) / (6 : Int32))), l2, l3], [vI r1], (pm_wi σ1 10 0 8 0 r1))) rfl).trans ?_
  refine (e_f (B := (113, 41, [some (vR 10 0 0), some (vI (((σ.1 10 0 6 0) + (1 : Int32)) / (6 : Int32))), l2, l3], [], (pm_wi σ1 10 0 8 0 r1))) rfl h3).trans ?_
  refine (e_n 6 (fr' := (113, 49, [some (vR 10 0 0), some (vI (((σ.1 10 0 6 0) + (1 : Int32)) / (6 : Int32))), l2, l3], [vI (((σ.1 10 0 6 0) + (1 : Int32)) / (6 : Int32)), vR 10 0 0, vR 10 0 0], (pm_wi (pm_wi σ1 10 0 8 0 r1) 10 0 7 0 (2 : Int32)))) rfl).trans ?_
  refine (e_ci (m := 113) (pc := 52) (ls := [some (vR 10 0 0), some (vI (((σ.1 10 0 6 0) + (1 : Int32)) / (6 : Int32))), l2, l3]) (rest := [vR 10 0 0]) rfl h4).trans ?_
  refine (e_n 3 (fr' := (113, 59, [some (vR 10 0 0), some (vI (((σ.1 10 0 6 0) + (1 : Int32)) / (6 : Int32))), l2, l3], [vI r2], (pm_wi σ2 10 0 8 0 r2))) rfl).trans ?_
  refine (e_t (A := (113, 75, [some (vR 10 0 0), some (vI (((σ.1 10 0 6 0) + (1 : Int32)) / (6 : Int32))), l2, l3], [], (pm_wi σ2 10 0 8 0 r2))) rfl h5).trans ?_
  refine (e_n 2 (fr' := (113, 79, [some (vR 10 0 0), some (vI (((σ.1 10 0 6 0) + (1 : Int32)) / (6 : Int32))), l2, l3], [vI r2], (pm_wi σ2 10 0 8 0 r2))) rfl).trans ?_
  refine (e_f (B := (113, 82, [some (vR 10 0 0), some (vI (((σ.1 10 0 6 0) + (1 : Int32)) / (6 : Int32))), l2, l3], [], (pm_wi σ2 10 0 8 0 r2))) rfl h6).trans ?_
  refine (e_n 7 (fr' := (113, 94, [some (vR 10 0 0), some (vI (((σ.1 10 0 6 0) + (1 : Int32)) / (6 : Int32))), l2, l3], [vI ((-10 : Int32) - (σ2.1 10 0 7 0))], (pm_wi (pm_wi σ2 10 0 8 0 r2) 10 0 6 0 (0 : Int32)))) rfl).trans ?_
  exact e_r rfl
set_option maxRecDepth 20000 in
theorem g113_0_7 (C : pmC) {σ : pmS} {l1 : Option pmV} {l2 : Option pmV} {l3 : Option pmV} {σ1 : pmS} {r1 : Int32} {σ2 : pmS} {r2 : Int32} {σ3 : pmS} {r3 : Int32} (h1 : ¬ (σ.1 10 0 4 0) = (4 : Int32)) (h2 : C 110 [vR 10 0 0] (pm_wi σ 10 0 7 0 (1 : Int32)) = some (some (vI r1), σ1)) (h3 : ¬ 0 ≤ r1) (h4 : C 111 [vR 10 0 0, vI (((σ.1 10 0 6 0) + (1 : Int32)) / (6 : Int32))] (pm_wi (pm_wi σ1 10 0 8 0 r1) 10 0 7 0 (2 : Int32)) = some (some (vI r2), σ2)) (h5 : ¬ 0 ≤ r2) (h6 : C 112 [vR 10 0 0] (pm_wi (pm_wi σ2 10 0 8 0 r2) 10 0 7 0 (3 : Int32)) = some (some (vI r3), σ3)) (h7 : r3 < 0) (h8 : vp_in (σ3.1 10 0 4 0) 4) : pq_Rn C (113, 0, [some (vR 10 0 0), l1, l2, l3], [], σ) = pq_Rn C (113, 129, [some (vR 10 0 0), some (vI (((σ.1 10 0 6 0) + (1 : Int32)) / (6 : Int32))), some (vI (σ3.1 10 0 4 0)), some (vI (0 : Int32))], [], (pm_wi (pm_wi (pm_wi (pm_wi (pm_wi σ3 10 0 8 0 r3) 10 0 7 0 (0 : Int32)) 10 0 8 0 (-1 : Int32)) 10 0 4 0 ((σ3.1 10 0 4 0) + (1 : Int32))) 10 0 0 ((σ3.1 10 0 4 0)).toNatClampNeg (((σ.1 10 0 6 0) + (1 : Int32)) / (6 : Int32)))) := by
  refine (e_n 3 (fr' := (113, 5, [some (vR 10 0 0), l1, l2, l3], [vI (4 : Int32), vI (σ.1 10 0 4 0)], σ)) rfl).trans ?_
  refine (e_f (B := (113, 11, [some (vR 10 0 0), l1, l2, l3], [], σ)) rfl h1).trans ?_
  refine (e_n 12 (fr' := (113, 28, [some (vR 10 0 0), some (vI (((σ.1 10 0 6 0) + (1 : Int32)) / (6 : Int32))), l2, l3], [vR 10 0 0, vR 10 0 0], (pm_wi σ 10 0 7 0 (1 : Int32)))) rfl).trans ?_
  refine (e_ci (m := 113) (pc := 31) (ls := [some (vR 10 0 0), some (vI (((σ.1 10 0 6 0) + (1 : Int32)) / (6 : Int32))), l2, l3]) (rest := [vR 10 0 0]) rfl h2).trans ?_
  refine (e_n 3 (fr' := (113, 38, [some (vR 10 0 0), some (vI (((σ.1 10 0 6 0) + (1 : Int32)) / (6 : Int32))), l2, l3], [vI r1], (pm_wi σ1 10 0 8 0 r1))) rfl).trans ?_
  refine (e_f (B := (113, 41, [some (vR 10 0 0), some (vI (((σ.1 10 0 6 0) + (1 : Int32)) / (6 : Int32))), l2, l3], [], (pm_wi σ1 10 0 8 0 r1))) rfl h3).trans ?_
  refine (e_n 6 (fr' := (113, 49, [some (vR 10 0 0), some (vI (((σ.1 10 0 6 0) + (1 : Int32)) / (6 : Int32))), l2, l3], [vI (((σ.1 10 0 6 0) + (1 : Int32)) / (6 : Int32)), vR 10 0 0, vR 10 0 0], (pm_wi (pm_wi σ1 10 0 8 0 r1) 10 0 7 0 (2 : Int32)))) rfl).trans ?_
  refine (e_ci (m := 113) (pc := 52) (ls := [some (vR 10 0 0), some (vI (((σ.1 10 0 6 0) + (1 : Int32)) / (6 : Int32))), l2, l3]) (rest := [vR 10 0 0]) rfl h4).trans ?_
  refine (e_n 3 (fr' := (113, 59, [some (vR 10 0 0), some (vI (((σ.1 10 0 6 0) + (1 : Int32)) / (6 : Int32))), l2, l3], [vI r2], (pm_wi σ2 10 0 8 0 r2))) rfl).trans ?_
  refine (e_f (B := (113, 62, [some (vR 10 0 0), some (vI (((σ.1 10 0 6 0) + (1 : Int32)) / (6 : Int32))), l2, l3], [], (pm_wi σ2 10 0 8 0 r2))) rfl h5).trans ?_
  refine (e_n 5 (fr' := (113, 69, [some (vR 10 0 0), some (vI (((σ.1 10 0 6 0) + (1 : Int32)) / (6 : Int32))), l2, l3], [vR 10 0 0, vR 10 0 0], (pm_wi (pm_wi σ2 10 0 8 0 r2) 10 0 7 0 (3 : Int32)))) rfl).trans ?_
  refine (e_ci (m := 113) (pc := 72) (ls := [some (vR 10 0 0), some (vI (((σ.1 10 0 6 0) + (1 : Int32)) / (6 : Int32))), l2, l3]) (rest := [vR 10 0 0]) rfl h6).trans ?_
  refine (e_n 3 (fr' := (113, 79, [some (vR 10 0 0), some (vI (((σ.1 10 0 6 0) + (1 : Int32)) / (6 : Int32))), l2, l3], [vI r3], (pm_wi σ3 10 0 8 0 r3))) rfl).trans ?_
  refine (e_t (A := (113, 95, [some (vR 10 0 0), some (vI (((σ.1 10 0 6 0) + (1 : Int32)) / (6 : Int32))), l2, l3], [], (pm_wi σ3 10 0 8 0 r3))) rfl h7).trans ?_
  refine (e_n 19 (fr' := (113, 126, [some (vR 10 0 0), some (vI (((σ.1 10 0 6 0) + (1 : Int32)) / (6 : Int32))), some (vI (σ3.1 10 0 4 0)), l3], [vI (((σ.1 10 0 6 0) + (1 : Int32)) / (6 : Int32)), vI (σ3.1 10 0 4 0), vR 10 0 1], (pm_wi (pm_wi (pm_wi (pm_wi σ3 10 0 8 0 r3) 10 0 7 0 (0 : Int32)) 10 0 8 0 (-1 : Int32)) 10 0 4 0 ((σ3.1 10 0 4 0) + (1 : Int32))))) rfl).trans ?_
  refine (e_a (A := (113, 127, [some (vR 10 0 0), some (vI (((σ.1 10 0 6 0) + (1 : Int32)) / (6 : Int32))), some (vI (σ3.1 10 0 4 0)), l3], [], (pm_wi (pm_wi (pm_wi (pm_wi (pm_wi σ3 10 0 8 0 r3) 10 0 7 0 (0 : Int32)) 10 0 8 0 (-1 : Int32)) 10 0 4 0 ((σ3.1 10 0 4 0) + (1 : Int32))) 10 0 0 ((σ3.1 10 0 4 0)).toNatClampNeg (((σ.1 10 0 6 0) + (1 : Int32)) / (6 : Int32))))) rfl h8).trans ?_
  exact e_n 2 rfl
set_option maxRecDepth 20000 in
theorem g113_0_8 (C : pmC) {σ : pmS} {l1 : Option pmV} {l2 : Option pmV} {l3 : Option pmV} {σ1 : pmS} {r1 : Int32} {σ2 : pmS} {r2 : Int32} {σ3 : pmS} {r3 : Int32} (h1 : ¬ (σ.1 10 0 4 0) = (4 : Int32)) (h2 : C 110 [vR 10 0 0] (pm_wi σ 10 0 7 0 (1 : Int32)) = some (some (vI r1), σ1)) (h3 : ¬ 0 ≤ r1) (h4 : C 111 [vR 10 0 0, vI (((σ.1 10 0 6 0) + (1 : Int32)) / (6 : Int32))] (pm_wi (pm_wi σ1 10 0 8 0 r1) 10 0 7 0 (2 : Int32)) = some (some (vI r2), σ2)) (h5 : ¬ 0 ≤ r2) (h6 : C 112 [vR 10 0 0] (pm_wi (pm_wi σ2 10 0 8 0 r2) 10 0 7 0 (3 : Int32)) = some (some (vI r3), σ3)) (h7 : ¬ r3 < 0) : pq_Rn C (113, 0, [some (vR 10 0 0), l1, l2, l3], [], σ) = some (some (vI ((-10 : Int32) - (σ3.1 10 0 7 0))), (pm_wi (pm_wi σ3 10 0 8 0 r3) 10 0 6 0 (0 : Int32))) := by
  refine (e_n 3 (fr' := (113, 5, [some (vR 10 0 0), l1, l2, l3], [vI (4 : Int32), vI (σ.1 10 0 4 0)], σ)) rfl).trans ?_
  refine (e_f (B := (113, 11, [some (vR 10 0 0), l1, l2, l3], [], σ)) rfl h1).trans ?_
  refine (e_n 12 (fr' := (113, 28, [some (vR 10 0 0), some (vI (((σ.1 10 0 6 0) + (1 : Int32)) / (6 : Int32))), l2, l3], [vR 10 0 0, vR 10 0 0], (pm_wi σ 10 0 7 0 (1 : Int32)))) rfl).trans ?_
  refine (e_ci (m := 113) (pc := 31) (ls := [some (vR 10 0 0), some (vI (((σ.1 10 0 6 0) + (1 : Int32)) / (6 : Int32))), l2, l3]) (rest := [vR 10 0 0]) rfl h2).trans ?_
  refine (e_n 3 (fr' := (113, 38, [some (vR 10 0 0), some (vI (((σ.1 10 0 6 0) + (1 : Int32)) / (6 : Int32))), l2, l3], [vI r1], (pm_wi σ1 10 0 8 0 r1))) rfl).trans ?_
  refine (e_f (B := (113, 41, [some (vR 10 0 0), some (vI (((σ.1 10 0 6 0) + (1 : Int32)) / (6 : Int32))), l2, l3], [], (pm_wi σ1 10 0 8 0 r1))) rfl h3).trans ?_
  refine (e_n 6 (fr' := (113, 49, [some (vR 10 0 0), some (vI (((σ.1 10 0 6 0) + (1 : Int32)) / (6 : Int32))), l2, l3], [vI (((σ.1 10 0 6 0) + (1 : Int32)) / (6 : Int32)), vR 10 0 0, vR 10 0 0], (pm_wi (pm_wi σ1 10 0 8 0 r1) 10 0 7 0 (2 : Int32)))) rfl).trans ?_
  refine (e_ci (m := 113) (pc := 52) (ls := [some (vR 10 0 0), some (vI (((σ.1 10 0 6 0) + (1 : Int32)) / (6 : Int32))), l2, l3]) (rest := [vR 10 0 0]) rfl h4).trans ?_
  refine (e_n 3 (fr' := (113, 59, [some (vR 10 0 0), some (vI (((σ.1 10 0 6 0) + (1 : Int32)) / (6 : Int32))), l2, l3], [vI r2], (pm_wi σ2 10 0 8 0 r2))) rfl).trans ?_
  refine (e_f (B := (113, 62, [some (vR 10 0 0), some (vI (((σ.1 10 0 6 0) + (1 : Int32)) / (6 : Int32))), l2, l3], [], (pm_wi σ2 10 0 8 0 r2))) rfl h5).trans ?_
  refine (e_n 5 (fr' := (113, 69, [some (vR 10 0 0), some (vI (((σ.1 10 0 6 0) + (1 : Int32)) / (6 : Int32))), l2, l3], [vR 10 0 0, vR 10 0 0], (pm_wi (pm_wi σ2 10 0 8 0 r2) 10 0 7 0 (3 : Int32)))) rfl).trans ?_
  refine (e_ci (m := 113) (pc := 72) (ls := [some (vR 10 0 0), some (vI (((σ.1 10 0 6 0) + (1 : Int32)) / (6 : Int32))), l2, l3]) (rest := [vR 10 0 0]) rfl h6).trans ?_
  refine (e_n 3 (fr' := (113, 79, [some (vR 10 0 0), some (vI (((σ.1 10 0 6 0) + (1 : Int32)) / (6 : Int32))), l2, l3], [vI r3], (pm_wi σ3 10 0 8 0 r3))) rfl).trans ?_
  refine (e_f (B := (113, 82, [some (vR 10 0 0), some (vI (((σ.1 10 0 6 0) + (1 : Int32)) / (6 : Int32))), l2, l3], [], (pm_wi σ3 10 0 8 0 r3))) rfl h7).trans ?_
  refine (e_n 7 (fr' := (113, 94, [some (vR 10 0 0), some (vI (((σ.1 10 0 6 0) + (1 : Int32)) / (6 : Int32))), l2, l3], [vI ((-10 : Int32) - (σ3.1 10 0 7 0))], (pm_wi (pm_wi σ3 10 0 8 0 r3) 10 0 6 0 (0 : Int32)))) rfl).trans ?_
  exact e_r rfl
set_option maxRecDepth 20000 in
theorem g113_129_0 (C : pmC) {σ : pmS} {l1 : Option pmV} {x2 : Int32} {x3 : Int32} (h1 : (σ.1 10 0 6 0) ≤ x3) : pq_Rn C (113, 129, [some (vR 10 0 0), l1, some (vI x2), some (vI x3)], [], σ) = some (some (vI x2), (pm_wi σ 10 0 6 0 (0 : Int32))) := by
  refine (e_n 3 (fr' := (113, 134, [some (vR 10 0 0), l1, some (vI x2), some (vI x3)], [vI (σ.1 10 0 6 0), vI x3], σ)) rfl).trans ?_
  refine (e_t (A := (113, 235, [some (vR 10 0 0), l1, some (vI x2), some (vI x3)], [], σ)) rfl h1).trans ?_
  refine (e_n 4 (fr' := (113, 241, [some (vR 10 0 0), l1, some (vI x2), some (vI x3)], [vI x2], (pm_wi σ 10 0 6 0 (0 : Int32)))) rfl).trans ?_
  exact e_r rfl
set_option maxRecDepth 20000 in
theorem g113_129_1 (C : pmC) {σ : pmS} {l1 : Option pmV} {x2 : Int32} {x3 : Int32} (h1 : ¬ (σ.1 10 0 6 0) ≤ x3) (h2 : vp_in x3 60) (h3 : vp_in (x3 + (2 : Int32)) 60) (h4 : vp_in ((((8 : Int32) * x2) + (σ.1 10 0 5 (x3).toNatClampNeg)) - (97 : Int32)) 32) (h5 : vp_in (x3 + (4 : Int32)) 60) (h6 : vp_in ((((8 : Int32) * x2) + (σ.1 10 0 5 ((x3 + (2 : Int32))).toNatClampNeg)) - (97 : Int32)) 32) : pq_Rn C (113, 129, [some (vR 10 0 0), l1, some (vI x2), some (vI x3)], [], σ) = pq_Rn C (113, 129, [some (vR 10 0 0), l1, some (vI x2), some (vI (x3 + (6 : Int32)))], [], (pm_wi (pm_wi (pm_wi σ 10 0 1 (((((8 : Int32) * x2) + (σ.1 10 0 5 (x3).toNatClampNeg)) - (97 : Int32))).toNatClampNeg ((σ.1 10 0 5 ((x3 + (2 : Int32))).toNatClampNeg) - (97 : Int32))) 10 0 2 (((((8 : Int32) * x2) + (σ.1 10 0 5 ((x3 + (2 : Int32))).toNatClampNeg)) - (97 : Int32))).toNatClampNeg ((σ.1 10 0 5 ((x3 + (4 : Int32))).toNatClampNeg) - (97 : Int32))) 10 0 3 (((((8 : Int32) * x2) + (σ.1 10 0 5 (x3).toNatClampNeg)) - (97 : Int32))).toNatClampNeg ((σ.1 10 0 5 ((x3 + (4 : Int32))).toNatClampNeg) - (97 : Int32)))) := by
  refine (e_n 3 (fr' := (113, 134, [some (vR 10 0 0), l1, some (vI x2), some (vI x3)], [vI (σ.1 10 0 6 0), vI x3], σ)) rfl).trans ?_
  refine (e_f (B := (113, 137, [some (vR 10 0 0), l1, some (vI x2), some (vI x3)], [], σ)) rfl h1).trans ?_
  refine (e_n 8 (fr' := (113, 150, [some (vR 10 0 0), l1, some (vI x2), some (vI x3)], [vI x3, vR 10 0 6, vI ((8 : Int32) * x2), vR 10 0 2], σ)) rfl).trans ?_
  refine (e_a (A := (113, 151, [some (vR 10 0 0), l1, some (vI x2), some (vI x3)], [vI (σ.1 10 0 5 (x3).toNatClampNeg), vI ((8 : Int32) * x2), vR 10 0 2], σ)) rfl h2).trans ?_
  refine (e_n 8 (fr' := (113, 162, [some (vR 10 0 0), l1, some (vI x2), some (vI x3)], [vI (x3 + (2 : Int32)), vR 10 0 6, vI ((((8 : Int32) * x2) + (σ.1 10 0 5 (x3).toNatClampNeg)) - (97 : Int32)), vR 10 0 2], σ)) rfl).trans ?_
  refine (e_a (A := (113, 163, [some (vR 10 0 0), l1, some (vI x2), some (vI x3)], [vI (σ.1 10 0 5 ((x3 + (2 : Int32))).toNatClampNeg), vI ((((8 : Int32) * x2) + (σ.1 10 0 5 (x3).toNatClampNeg)) - (97 : Int32)), vR 10 0 2], σ)) rfl h3).trans ?_
  refine (e_n 2 (fr' := (113, 166, [some (vR 10 0 0), l1, some (vI x2), some (vI x3)], [vI ((σ.1 10 0 5 ((x3 + (2 : Int32))).toNatClampNeg) - (97 : Int32)), vI ((((8 : Int32) * x2) + (σ.1 10 0 5 (x3).toNatClampNeg)) - (97 : Int32)), vR 10 0 2], σ)) rfl).trans ?_
  refine (e_a (A := (113, 167, [some (vR 10 0 0), l1, some (vI x2), some (vI x3)], [], (pm_wi σ 10 0 1 (((((8 : Int32) * x2) + (σ.1 10 0 5 (x3).toNatClampNeg)) - (97 : Int32))).toNatClampNeg ((σ.1 10 0 5 ((x3 + (2 : Int32))).toNatClampNeg) - (97 : Int32))))) rfl h4).trans ?_
  refine (e_n 10 (fr' := (113, 182, [some (vR 10 0 0), l1, some (vI x2), some (vI x3)], [vI (x3 + (2 : Int32)), vR 10 0 6, vI ((8 : Int32) * x2), vR 10 0 3], (pm_wi σ 10 0 1 (((((8 : Int32) * x2) + (σ.1 10 0 5 (x3).toNatClampNeg)) - (97 : Int32))).toNatClampNeg ((σ.1 10 0 5 ((x3 + (2 : Int32))).toNatClampNeg) - (97 : Int32))))) rfl).trans ?_
  refine (e_a (A := (113, 183, [some (vR 10 0 0), l1, some (vI x2), some (vI x3)], [vI (σ.1 10 0 5 ((x3 + (2 : Int32))).toNatClampNeg), vI ((8 : Int32) * x2), vR 10 0 3], (pm_wi σ 10 0 1 (((((8 : Int32) * x2) + (σ.1 10 0 5 (x3).toNatClampNeg)) - (97 : Int32))).toNatClampNeg ((σ.1 10 0 5 ((x3 + (2 : Int32))).toNatClampNeg) - (97 : Int32))))) rfl h3).trans ?_
  refine (e_n 8 (fr' := (113, 194, [some (vR 10 0 0), l1, some (vI x2), some (vI x3)], [vI (x3 + (4 : Int32)), vR 10 0 6, vI ((((8 : Int32) * x2) + (σ.1 10 0 5 ((x3 + (2 : Int32))).toNatClampNeg)) - (97 : Int32)), vR 10 0 3], (pm_wi σ 10 0 1 (((((8 : Int32) * x2) + (σ.1 10 0 5 (x3).toNatClampNeg)) - (97 : Int32))).toNatClampNeg ((σ.1 10 0 5 ((x3 + (2 : Int32))).toNatClampNeg) - (97 : Int32))))) rfl).trans ?_
  refine (e_a (A := (113, 195, [some (vR 10 0 0), l1, some (vI x2), some (vI x3)], [vI (σ.1 10 0 5 ((x3 + (4 : Int32))).toNatClampNeg), vI ((((8 : Int32) * x2) + (σ.1 10 0 5 ((x3 + (2 : Int32))).toNatClampNeg)) - (97 : Int32)), vR 10 0 3], (pm_wi σ 10 0 1 (((((8 : Int32) * x2) + (σ.1 10 0 5 (x3).toNatClampNeg)) - (97 : Int32))).toNatClampNeg ((σ.1 10 0 5 ((x3 + (2 : Int32))).toNatClampNeg) - (97 : Int32))))) rfl h5).trans ?_
  refine (e_n 2 (fr' := (113, 198, [some (vR 10 0 0), l1, some (vI x2), some (vI x3)], [vI ((σ.1 10 0 5 ((x3 + (4 : Int32))).toNatClampNeg) - (97 : Int32)), vI ((((8 : Int32) * x2) + (σ.1 10 0 5 ((x3 + (2 : Int32))).toNatClampNeg)) - (97 : Int32)), vR 10 0 3], (pm_wi σ 10 0 1 (((((8 : Int32) * x2) + (σ.1 10 0 5 (x3).toNatClampNeg)) - (97 : Int32))).toNatClampNeg ((σ.1 10 0 5 ((x3 + (2 : Int32))).toNatClampNeg) - (97 : Int32))))) rfl).trans ?_
  refine (e_a (A := (113, 199, [some (vR 10 0 0), l1, some (vI x2), some (vI x3)], [], (pm_wi (pm_wi σ 10 0 1 (((((8 : Int32) * x2) + (σ.1 10 0 5 (x3).toNatClampNeg)) - (97 : Int32))).toNatClampNeg ((σ.1 10 0 5 ((x3 + (2 : Int32))).toNatClampNeg) - (97 : Int32))) 10 0 2 (((((8 : Int32) * x2) + (σ.1 10 0 5 ((x3 + (2 : Int32))).toNatClampNeg)) - (97 : Int32))).toNatClampNeg ((σ.1 10 0 5 ((x3 + (4 : Int32))).toNatClampNeg) - (97 : Int32))))) rfl h6).trans ?_
  refine (e_n 8 (fr' := (113, 212, [some (vR 10 0 0), l1, some (vI x2), some (vI x3)], [vI x3, vR 10 0 6, vI ((8 : Int32) * x2), vR 10 0 4], (pm_wi (pm_wi σ 10 0 1 (((((8 : Int32) * x2) + (σ.1 10 0 5 (x3).toNatClampNeg)) - (97 : Int32))).toNatClampNeg ((σ.1 10 0 5 ((x3 + (2 : Int32))).toNatClampNeg) - (97 : Int32))) 10 0 2 (((((8 : Int32) * x2) + (σ.1 10 0 5 ((x3 + (2 : Int32))).toNatClampNeg)) - (97 : Int32))).toNatClampNeg ((σ.1 10 0 5 ((x3 + (4 : Int32))).toNatClampNeg) - (97 : Int32))))) rfl).trans ?_
  refine (e_a (A := (113, 213, [some (vR 10 0 0), l1, some (vI x2), some (vI x3)], [vI (σ.1 10 0 5 (x3).toNatClampNeg), vI ((8 : Int32) * x2), vR 10 0 4], (pm_wi (pm_wi σ 10 0 1 (((((8 : Int32) * x2) + (σ.1 10 0 5 (x3).toNatClampNeg)) - (97 : Int32))).toNatClampNeg ((σ.1 10 0 5 ((x3 + (2 : Int32))).toNatClampNeg) - (97 : Int32))) 10 0 2 (((((8 : Int32) * x2) + (σ.1 10 0 5 ((x3 + (2 : Int32))).toNatClampNeg)) - (97 : Int32))).toNatClampNeg ((σ.1 10 0 5 ((x3 + (4 : Int32))).toNatClampNeg) - (97 : Int32))))) rfl h2).trans ?_
  refine (e_n 8 (fr' := (113, 224, [some (vR 10 0 0), l1, some (vI x2), some (vI x3)], [vI (x3 + (4 : Int32)), vR 10 0 6, vI ((((8 : Int32) * x2) + (σ.1 10 0 5 (x3).toNatClampNeg)) - (97 : Int32)), vR 10 0 4], (pm_wi (pm_wi σ 10 0 1 (((((8 : Int32) * x2) + (σ.1 10 0 5 (x3).toNatClampNeg)) - (97 : Int32))).toNatClampNeg ((σ.1 10 0 5 ((x3 + (2 : Int32))).toNatClampNeg) - (97 : Int32))) 10 0 2 (((((8 : Int32) * x2) + (σ.1 10 0 5 ((x3 + (2 : Int32))).toNatClampNeg)) - (97 : Int32))).toNatClampNeg ((σ.1 10 0 5 ((x3 + (4 : Int32))).toNatClampNeg) - (97 : Int32))))) rfl).trans ?_
  refine (e_a (A := (113, 225, [some (vR 10 0 0), l1, some (vI x2), some (vI x3)], [vI (σ.1 10 0 5 ((x3 + (4 : Int32))).toNatClampNeg), vI ((((8 : Int32) * x2) + (σ.1 10 0 5 (x3).toNatClampNeg)) - (97 : Int32)), vR 10 0 4], (pm_wi (pm_wi σ 10 0 1 (((((8 : Int32) * x2) + (σ.1 10 0 5 (x3).toNatClampNeg)) - (97 : Int32))).toNatClampNeg ((σ.1 10 0 5 ((x3 + (2 : Int32))).toNatClampNeg) - (97 : Int32))) 10 0 2 (((((8 : Int32) * x2) + (σ.1 10 0 5 ((x3 + (2 : Int32))).toNatClampNeg)) - (97 : Int32))).toNatClampNeg ((σ.1 10 0 5 ((x3 + (4 : Int32))).toNatClampNeg) - (97 : Int32))))) rfl h5).trans ?_
  refine (e_n 2 (fr' := (113, 228, [some (vR 10 0 0), l1, some (vI x2), some (vI x3)], [vI ((σ.1 10 0 5 ((x3 + (4 : Int32))).toNatClampNeg) - (97 : Int32)), vI ((((8 : Int32) * x2) + (σ.1 10 0 5 (x3).toNatClampNeg)) - (97 : Int32)), vR 10 0 4], (pm_wi (pm_wi σ 10 0 1 (((((8 : Int32) * x2) + (σ.1 10 0 5 (x3).toNatClampNeg)) - (97 : Int32))).toNatClampNeg ((σ.1 10 0 5 ((x3 + (2 : Int32))).toNatClampNeg) - (97 : Int32))) 10 0 2 (((((8 : Int32) * x2) + (σ.1 10 0 5 ((x3 + (2 : Int32))).toNatClampNeg)) - (97 : Int32))).toNatClampNeg ((σ.1 10 0 5 ((x3 + (4 : Int32))).toNatClampNeg) - (97 : Int32))))) rfl).trans ?_
  refine (e_a (A := (113, 229, [some (vR 10 0 0), l1, some (vI x2), some (vI x3)], [], (pm_wi (pm_wi (pm_wi σ 10 0 1 (((((8 : Int32) * x2) + (σ.1 10 0 5 (x3).toNatClampNeg)) - (97 : Int32))).toNatClampNeg ((σ.1 10 0 5 ((x3 + (2 : Int32))).toNatClampNeg) - (97 : Int32))) 10 0 2 (((((8 : Int32) * x2) + (σ.1 10 0 5 ((x3 + (2 : Int32))).toNatClampNeg)) - (97 : Int32))).toNatClampNeg ((σ.1 10 0 5 ((x3 + (4 : Int32))).toNatClampNeg) - (97 : Int32))) 10 0 3 (((((8 : Int32) * x2) + (σ.1 10 0 5 (x3).toNatClampNeg)) - (97 : Int32))).toNatClampNeg ((σ.1 10 0 5 ((x3 + (4 : Int32))).toNatClampNeg) - (97 : Int32))))) rfl h4).trans ?_
  exact e_n 2 rfl
set_option maxRecDepth 20000 in
theorem g114_0_0 (C : pmC) {σ : pmS} {x1 : Int32} (h1 : x1 = 0) : pq_Rn C (114, 0, [some (vR 10 0 0), some (vI x1)], [], σ) = some (some (vI (σ.1 10 0 7 0)), σ) := by
  refine (e_n 1 (fr' := (114, 1, [some (vR 10 0 0), some (vI x1)], [vI x1], σ)) rfl).trans ?_
  refine (e_t (A := (114, 4, [some (vR 10 0 0), some (vI x1)], [], σ)) rfl h1).trans ?_
  refine (e_n 3 (fr' := (114, 24, [some (vR 10 0 0), some (vI x1)], [vI (σ.1 10 0 7 0)], σ)) rfl).trans ?_
  exact e_r rfl
set_option maxRecDepth 20000 in
theorem g114_0_1 (C : pmC) {σ : pmS} {x1 : Int32} (h1 : ¬ x1 = 0) (h2 : x1 = (1 : Int32)) : pq_Rn C (114, 0, [some (vR 10 0 0), some (vI x1)], [], σ) = some (some (vI (σ.1 10 0 8 0)), σ) := by
  refine (e_n 1 (fr' := (114, 1, [some (vR 10 0 0), some (vI x1)], [vI x1], σ)) rfl).trans ?_
  refine (e_f (B := (114, 11, [some (vR 10 0 0), some (vI x1)], [], σ)) rfl h1).trans ?_
  refine (e_n 2 (fr' := (114, 13, [some (vR 10 0 0), some (vI x1)], [vI (1 : Int32), vI x1], σ)) rfl).trans ?_
  refine (e_t (A := (114, 16, [some (vR 10 0 0), some (vI x1)], [], σ)) rfl h2).trans ?_
  refine (e_n 3 (fr' := (114, 24, [some (vR 10 0 0), some (vI x1)], [vI (σ.1 10 0 8 0)], σ)) rfl).trans ?_
  exact e_r rfl
set_option maxRecDepth 20000 in
theorem g114_0_2 (C : pmC) {σ : pmS} {x1 : Int32} (h1 : ¬ x1 = 0) (h2 : ¬ x1 = (1 : Int32)) : pq_Rn C (114, 0, [some (vR 10 0 0), some (vI x1)], [], σ) = some (some (vI (-1 : Int32)), σ) := by
  refine (e_n 1 (fr' := (114, 1, [some (vR 10 0 0), some (vI x1)], [vI x1], σ)) rfl).trans ?_
  refine (e_f (B := (114, 11, [some (vR 10 0 0), some (vI x1)], [], σ)) rfl h1).trans ?_
  refine (e_n 2 (fr' := (114, 13, [some (vR 10 0 0), some (vI x1)], [vI (1 : Int32), vI x1], σ)) rfl).trans ?_
  refine (e_f (B := (114, 23, [some (vR 10 0 0), some (vI x1)], [], σ)) rfl h2).trans ?_
  refine (e_n 1 (fr' := (114, 24, [some (vR 10 0 0), some (vI x1)], [vI (-1 : Int32)], σ)) rfl).trans ?_
  exact e_r rfl
set_option maxRecDepth 20000 in
theorem g115a_0_0 (C : pmC) {σ : pmS} {l0 : Option pmV} {x2 : Int32} {x3 : Int32} {l4 : Option pmV}  : pq_Rn C (115, 0, [l0, some (vR 10 0 2), some (vI x2), some (vI x3), l4], [], σ) = pq_Rn C (115, 3, [l0, some (vR 10 0 2), some (vI x2), some (vI x3), some (vI (0 : Int32))], [], σ) := by
  exact e_n 2 rfl
set_option maxRecDepth 20000 in
theorem g115a_3_0 (C : pmC) {σ : pmS} {l0 : Option pmV} {x2 : Int32} {x3 : Int32} {x4 : Int32} (h1 : vp_in (((8 : Int32) * x2) + x4) 32) (h2 : (σ.1 10 0 1 ((((8 : Int32) * x2) + x4)).toNatClampNeg) = x3) : pq_Rn C (115, 3, [l0, some (vR 10 0 2), some (vI x2), some (vI x3), some (vI x4)], [], σ) = some (some (vI x4), σ) := by
  refine (e_n 6 (fr' := (115, 11, [l0, some (vR 10 0 2), some (vI x2), some (vI x3), some (vI x4)], [vI (((8 : Int32) * x2) + x4), vR 10 0 2], σ)) rfl).trans ?_
  refine (e_a (A := (115, 12, [l0, some (vR 10 0 2), some (vI x2), some (vI x3), some (vI x4)], [vI (σ.1 10 0 1 ((((8 : Int32) * x2) + x4)).toNatClampNeg)], σ)) rfl h1).trans ?_
  refine (e_n 1 (fr' := (115, 13, [l0, some (vR 10 0 2), some (vI x2), some (vI x3), some (vI x4)], [vI x3, vI (σ.1 10 0 1 ((((8 : Int32) * x2) + x4)).toNatClampNeg)], σ)) rfl).trans ?_
  refine (e_t (A := (115, 22, [l0, some (vR 10 0 2), some (vI x2), some (vI x3), some (vI x4)], [], σ)) rfl h2).trans ?_
  refine (e_n 1 (fr' := (115, 24, [l0, some (vR 10 0 2), some (vI x2), some (vI x3), some (vI x4)], [vI x4], σ)) rfl).trans ?_
  exact e_r rfl
set_option maxRecDepth 20000 in
theorem g115a_3_1 (C : pmC) {σ : pmS} {l0 : Option pmV} {x2 : Int32} {x3 : Int32} {x4 : Int32} (h1 : vp_in (((8 : Int32) * x2) + x4) 32) (h2 : ¬ (σ.1 10 0 1 ((((8 : Int32) * x2) + x4)).toNatClampNeg) = x3) : pq_Rn C (115, 3, [l0, some (vR 10 0 2), some (vI x2), some (vI x3), some (vI x4)], [], σ) = pq_Rn C (115, 3, [l0, some (vR 10 0 2), some (vI x2), some (vI x3), some (vI (x4 + (1 : Int32)))], [], σ) := by
  refine (e_n 6 (fr' := (115, 11, [l0, some (vR 10 0 2), some (vI x2), some (vI x3), some (vI x4)], [vI (((8 : Int32) * x2) + x4), vR 10 0 2], σ)) rfl).trans ?_
  refine (e_a (A := (115, 12, [l0, some (vR 10 0 2), some (vI x2), some (vI x3), some (vI x4)], [vI (σ.1 10 0 1 ((((8 : Int32) * x2) + x4)).toNatClampNeg)], σ)) rfl h1).trans ?_
  refine (e_n 1 (fr' := (115, 13, [l0, some (vR 10 0 2), some (vI x2), some (vI x3), some (vI x4)], [vI x3, vI (σ.1 10 0 1 ((((8 : Int32) * x2) + x4)).toNatClampNeg)], σ)) rfl).trans ?_
  refine (e_f (B := (115, 16, [l0, some (vR 10 0 2), some (vI x2), some (vI x3), some (vI x4)], [], σ)) rfl h2).trans ?_
  exact e_n 2 rfl
set_option maxRecDepth 20000 in
theorem g115b_0_0 (C : pmC) {σ : pmS} {l0 : Option pmV} {x2 : Int32} {x3 : Int32} {l4 : Option pmV}  : pq_Rn C (115, 0, [l0, some (vR 10 0 3), some (vI x2), some (vI x3), l4], [], σ) = pq_Rn C (115, 3, [l0, some (vR 10 0 3), some (vI x2), some (vI x3), some (vI (0 : Int32))], [], σ) := by
  exact e_n 2 rfl
set_option maxRecDepth 20000 in
theorem g115b_3_0 (C : pmC) {σ : pmS} {l0 : Option pmV} {x2 : Int32} {x3 : Int32} {x4 : Int32} (h1 : vp_in (((8 : Int32) * x2) + x4) 32) (h2 : (σ.1 10 0 2 ((((8 : Int32) * x2) + x4)).toNatClampNeg) = x3) : pq_Rn C (115, 3, [l0, some (vR 10 0 3), some (vI x2), some (vI x3), some (vI x4)], [], σ) = some (some (vI x4), σ) := by
  refine (e_n 6 (fr' := (115, 11, [l0, some (vR 10 0 3), some (vI x2), some (vI x3), some (vI x4)], [vI (((8 : Int32) * x2) + x4), vR 10 0 3], σ)) rfl).trans ?_
  refine (e_a (A := (115, 12, [l0, some (vR 10 0 3), some (vI x2), some (vI x3), some (vI x4)], [vI (σ.1 10 0 2 ((((8 : Int32) * x2) + x4)).toNatClampNeg)], σ)) rfl h1).trans ?_
  refine (e_n 1 (fr' := (115, 13, [l0, some (vR 10 0 3), some (vI x2), some (vI x3), some (vI x4)], [vI x3, vI (σ.1 10 0 2 ((((8 : Int32) * x2) + x4)).toNatClampNeg)], σ)) rfl).trans ?_
  refine (e_t (A := (115, 22, [l0, some (vR 10 0 3), some (vI x2), some (vI x3), some (vI x4)], [], σ)) rfl h2).trans ?_
  refine (e_n 1 (fr' := (115, 24, [l0, some (vR 10 0 3), some (vI x2), some (vI x3), some (vI x4)], [vI x4], σ)) rfl).trans ?_
  exact e_r rfl
set_option maxRecDepth 20000 in
theorem g115b_3_1 (C : pmC) {σ : pmS} {l0 : Option pmV} {x2 : Int32} {x3 : Int32} {x4 : Int32} (h1 : vp_in (((8 : Int32) * x2) + x4) 32) (h2 : ¬ (σ.1 10 0 2 ((((8 : Int32) * x2) + x4)).toNatClampNeg) = x3) : pq_Rn C (115, 3, [l0, some (vR 10 0 3), some (vI x2), some (vI x3), some (vI x4)], [], σ) = pq_Rn C (115, 3, [l0, some (vR 10 0 3), some (vI x2), some (vI x3), some (vI (x4 + (1 : Int32)))], [], σ) := by
  refine (e_n 6 (fr' := (115, 11, [l0, some (vR 10 0 3), some (vI x2), some (vI x3), some (vI x4)], [vI (((8 : Int32) * x2) + x4), vR 10 0 3], σ)) rfl).trans ?_
  refine (e_a (A := (115, 12, [l0, some (vR 10 0 3), some (vI x2), some (vI x3), some (vI x4)], [vI (σ.1 10 0 2 ((((8 : Int32) * x2) + x4)).toNatClampNeg)], σ)) rfl h1).trans ?_
  refine (e_n 1 (fr' := (115, 13, [l0, some (vR 10 0 3), some (vI x2), some (vI x3), some (vI x4)], [vI x3, vI (σ.1 10 0 2 ((((8 : Int32) * x2) + x4)).toNatClampNeg)], σ)) rfl).trans ?_
  refine (e_f (B := (115, 16, [l0, some (vR 10 0 3), some (vI x2), some (vI x3), some (vI x4)], [], σ)) rfl h2).trans ?_
  exact e_n 2 rfl
set_option maxRecDepth 20000 in
theorem g115c_0_0 (C : pmC) {σ : pmS} {l0 : Option pmV} {x2 : Int32} {x3 : Int32} {l4 : Option pmV}  : pq_Rn C (115, 0, [l0, some (vR 10 0 4), some (vI x2), some (vI x3), l4], [], σ) = pq_Rn C (115, 3, [l0, some (vR 10 0 4), some (vI x2), some (vI x3), some (vI (0 : Int32))], [], σ) := by
  exact e_n 2 rfl
set_option maxRecDepth 20000 in
theorem g115c_3_0 (C : pmC) {σ : pmS} {l0 : Option pmV} {x2 : Int32} {x3 : Int32} {x4 : Int32} (h1 : vp_in (((8 : Int32) * x2) + x4) 32) (h2 : (σ.1 10 0 3 ((((8 : Int32) * x2) + x4)).toNatClampNeg) = x3) : pq_Rn C (115, 3, [l0, some (vR 10 0 4), some (vI x2), some (vI x3), some (vI x4)], [], σ) = some (some (vI x4), σ) := by
  refine (e_n 6 (fr' := (115, 11, [l0, some (vR 10 0 4), some (vI x2), some (vI x3), some (vI x4)], [vI (((8 : Int32) * x2) + x4), vR 10 0 4], σ)) rfl).trans ?_
  refine (e_a (A := (115, 12, [l0, some (vR 10 0 4), some (vI x2), some (vI x3), some (vI x4)], [vI (σ.1 10 0 3 ((((8 : Int32) * x2) + x4)).toNatClampNeg)], σ)) rfl h1).trans ?_
  refine (e_n 1 (fr' := (115, 13, [l0, some (vR 10 0 4), some (vI x2), some (vI x3), some (vI x4)], [vI x3, vI (σ.1 10 0 3 ((((8 : Int32) * x2) + x4)).toNatClampNeg)], σ)) rfl).trans ?_
  refine (e_t (A := (115, 22, [l0, some (vR 10 0 4), some (vI x2), some (vI x3), some (vI x4)], [], σ)) rfl h2).trans ?_
  refine (e_n 1 (fr' := (115, 24, [l0, some (vR 10 0 4), some (vI x2), some (vI x3), some (vI x4)], [vI x4], σ)) rfl).trans ?_
  exact e_r rfl
set_option maxRecDepth 20000 in
theorem g115c_3_1 (C : pmC) {σ : pmS} {l0 : Option pmV} {x2 : Int32} {x3 : Int32} {x4 : Int32} (h1 : vp_in (((8 : Int32) * x2) + x4) 32) (h2 : ¬ (σ.1 10 0 3 ((((8 : Int32) * x2) + x4)).toNatClampNeg) = x3) : pq_Rn C (115, 3, [l0, some (vR 10 0 4), some (vI x2), some (vI x3), some (vI x4)], [], σ) = pq_Rn C (115, 3, [l0, some (vR 10 0 4), some (vI x2), some (vI x3), some (vI (x4 + (1 : Int32)))], [], σ) := by
  refine (e_n 6 (fr' := (115, 11, [l0, some (vR 10 0 4), some (vI x2), some (vI x3), some (vI x4)], [vI (((8 : Int32) * x2) + x4), vR 10 0 4], σ)) rfl).trans ?_
  refine (e_a (A := (115, 12, [l0, some (vR 10 0 4), some (vI x2), some (vI x3), some (vI x4)], [vI (σ.1 10 0 3 ((((8 : Int32) * x2) + x4)).toNatClampNeg)], σ)) rfl h1).trans ?_
  refine (e_n 1 (fr' := (115, 13, [l0, some (vR 10 0 4), some (vI x2), some (vI x3), some (vI x4)], [vI x3, vI (σ.1 10 0 3 ((((8 : Int32) * x2) + x4)).toNatClampNeg)], σ)) rfl).trans ?_
  refine (e_f (B := (115, 16, [l0, some (vR 10 0 4), some (vI x2), some (vI x3), some (vI x4)], [], σ)) rfl h2).trans ?_
  exact e_n 2 rfl
set_option maxRecDepth 20000 in
theorem g116_0_0 (C : pmC) {σ : pmS} {x1 : Int32} {x2 : Int32} {x3 : Int32} {σ1 : pmS} {r1 : Int32} (h1 : C 107 [vR 10 0 0, vI x1, vI x2] σ = some (some (vI r1), σ1)) (h2 : r1 = 0) : pq_Rn C (116, 0, [some (vR 10 0 0), some (vI x1), some (vI x2), some (vI x3)], [], σ) = some (some (vI (-1 : Int32)), σ1) := by
  refine (e_n 3 (fr' := (116, 3, [some (vR 10 0 0), some (vI x1), some (vI x2), some (vI x3)], [vI x2, vI x1, vR 10 0 0], σ)) rfl).trans ?_
  refine (e_ci (m := 116) (pc := 6) (ls := [some (vR 10 0 0), some (vI x1), some (vI x2), some (vI x3)]) (rest := []) rfl h1).trans ?_
  refine (e_t (A := (116, 9, [some (vR 10 0 0), some (vI x1), some (vI x2), some (vI x3)], [], σ1)) rfl h2).trans ?_
  refine (e_n 1 (fr' := (116, 10, [some (vR 10 0 0), some (vI x1), some (vI x2), some (vI x3)], [vI (-1 : Int32)], σ1)) rfl).trans ?_
  exact e_r rfl
set_option maxRecDepth 20000 in
theorem g116_0_1 (C : pmC) {σ : pmS} {x1 : Int32} {x2 : Int32} {x3 : Int32} {σ1 : pmS} {r1 : Int32} (h1 : C 107 [vR 10 0 0, vI x1, vI x2] σ = some (some (vI r1), σ1)) (h2 : ¬ r1 = 0) (h3 : x3 = (0 : Int32)) (h4 : vp_in (((8 : Int32) * x1) + x2) 32) : pq_Rn C (116, 0, [some (vR 10 0 0), some (vI x1), some (vI x2), some (vI x3)], [], σ) = some (some (vI (σ1.1 10 0 1 ((((8 : Int32) * x1) + x2)).toNatClampNeg)), σ1) := by
  refine (e_n 3 (fr' := (116, 3, [some (vR 10 0 0), some (vI x1), some (vI x2), some (vI x3)], [vI x2, vI x1, vR 10 0 0], σ)) rfl).trans ?_
  refine (e_ci (m := 116) (pc := 6) (ls := [some (vR 10 0 0), some (vI x1), some (vI x2), some (vI x3)]) (rest := []) rfl h1).trans ?_
  refine (e_f (B := (116, 11, [some (vR 10 0 0), some (vI x1), some (vI x2), some (vI x3)], [], σ1)) rfl h2).trans ?_
  refine (e_n 1 (fr' := (116, 12, [some (vR 10 0 0), some (vI x1), some (vI x2), some (vI x3)], [vI x3], σ1)) rfl).trans ?_
  refine (e_g (A := (116, 48, [some (vR 10 0 0), some (vI x1), some (vI x2), some (vI x3)], [], σ1)) (off' := 36) rfl (by rw [h3]; decide) rfl).trans ?_
  refine (e_n 7 (fr' := (116, 58, [some (vR 10 0 0), some (vI x1), some (vI x2), some (vI x3)], [vI (((8 : Int32) * x1) + x2), vR 10 0 2], σ1)) rfl).trans ?_
  refine (e_a (A := (116, 59, [some (vR 10 0 0), some (vI x1), some (vI x2), some (vI x3)], [vI (σ1.1 10 0 1 ((((8 : Int32) * x1) + x2)).toNatClampNeg)], σ1)) rfl h4).trans ?_
  exact e_r rfl
set_option maxRecDepth 20000 in
theorem g116_0_2 (C : pmC) {σ : pmS} {x1 : Int32} {x2 : Int32} {x3 : Int32} {σ1 : pmS} {r1 : Int32} (h1 : C 107 [vR 10 0 0, vI x1, vI x2] σ = some (some (vI r1), σ1)) (h2 : ¬ r1 = 0) (h3 : x3 = (1 : Int32)) (h4 : vp_in (((8 : Int32) * x1) + x2) 32) : pq_Rn C (116, 0, [some (vR 10 0 0), some (vI x1), some (vI x2), some (vI x3)], [], σ) = some (some (vI (σ1.1 10 0 2 ((((8 : Int32) * x1) + x2)).toNatClampNeg)), σ1) := by
  refine (e_n 3 (fr' := (116, 3, [some (vR 10 0 0), some (vI x1), some (vI x2), some (vI x3)], [vI x2, vI x1, vR 10 0 0], σ)) rfl).trans ?_
  refine (e_ci (m := 116) (pc := 6) (ls := [some (vR 10 0 0), some (vI x1), some (vI x2), some (vI x3)]) (rest := []) rfl h1).trans ?_
  refine (e_f (B := (116, 11, [some (vR 10 0 0), some (vI x1), some (vI x2), some (vI x3)], [], σ1)) rfl h2).trans ?_
  refine (e_n 1 (fr' := (116, 12, [some (vR 10 0 0), some (vI x1), some (vI x2), some (vI x3)], [vI x3], σ1)) rfl).trans ?_
  refine (e_g (A := (116, 60, [some (vR 10 0 0), some (vI x1), some (vI x2), some (vI x3)], [], σ1)) (off' := 48) rfl (by rw [h3]; decide) rfl).trans ?_
  refine (e_n 7 (fr' := (116, 70, [some (vR 10 0 0), some (vI x1), some (vI x2), some (vI x3)], [vI (((8 : Int32) * x1) + x2), vR 10 0 3], σ1)) rfl).trans ?_
  refine (e_a (A := (116, 71, [some (vR 10 0 0), some (vI x1), some (vI x2), some (vI x3)], [vI (σ1.1 10 0 2 ((((8 : Int32) * x1) + x2)).toNatClampNeg)], σ1)) rfl h4).trans ?_
  exact e_r rfl
set_option maxRecDepth 20000 in
theorem g116_0_3 (C : pmC) {σ : pmS} {x1 : Int32} {x2 : Int32} {x3 : Int32} {σ1 : pmS} {r1 : Int32} (h1 : C 107 [vR 10 0 0, vI x1, vI x2] σ = some (some (vI r1), σ1)) (h2 : ¬ r1 = 0) (h3 : x3 = (2 : Int32)) (h4 : vp_in (((8 : Int32) * x1) + x2) 32) : pq_Rn C (116, 0, [some (vR 10 0 0), some (vI x1), some (vI x2), some (vI x3)], [], σ) = some (some (vI (σ1.1 10 0 3 ((((8 : Int32) * x1) + x2)).toNatClampNeg)), σ1) := by
  refine (e_n 3 (fr' := (116, 3, [some (vR 10 0 0), some (vI x1), some (vI x2), some (vI x3)], [vI x2, vI x1, vR 10 0 0], σ)) rfl).trans ?_
  refine (e_ci (m := 116) (pc := 6) (ls := [some (vR 10 0 0), some (vI x1), some (vI x2), some (vI x3)]) (rest := []) rfl h1).trans ?_
  refine (e_f (B := (116, 11, [some (vR 10 0 0), some (vI x1), some (vI x2), some (vI x3)], [], σ1)) rfl h2).trans ?_
  refine (e_n 1 (fr' := (116, 12, [some (vR 10 0 0), some (vI x1), some (vI x2), some (vI x3)], [vI x3], σ1)) rfl).trans ?_
  refine (e_g (A := (116, 72, [some (vR 10 0 0), some (vI x1), some (vI x2), some (vI x3)], [], σ1)) (off' := 60) rfl (by rw [h3]; decide) rfl).trans ?_
  refine (e_n 7 (fr' := (116, 82, [some (vR 10 0 0), some (vI x1), some (vI x2), some (vI x3)], [vI (((8 : Int32) * x1) + x2), vR 10 0 4], σ1)) rfl).trans ?_
  refine (e_a (A := (116, 83, [some (vR 10 0 0), some (vI x1), some (vI x2), some (vI x3)], [vI (σ1.1 10 0 3 ((((8 : Int32) * x1) + x2)).toNatClampNeg)], σ1)) rfl h4).trans ?_
  exact e_r rfl
set_option maxRecDepth 20000 in
theorem g116_0_4 (C : pmC) {σ : pmS} {x1 : Int32} {x2 : Int32} {x3 : Int32} {σ1 : pmS} {r1 : Int32} {σ2 : pmS} {r2 : Int32} (h1 : C 107 [vR 10 0 0, vI x1, vI x2] σ = some (some (vI r1), σ1)) (h2 : ¬ r1 = 0) (h3 : x3 = (3 : Int32)) (h4 : C 115 [vR 10 0 0, vR 10 0 2, vI x1, vI x2] σ1 = some (some (vI r2), σ2)) : pq_Rn C (116, 0, [some (vR 10 0 0), some (vI x1), some (vI x2), some (vI x3)], [], σ) = some (some (vI r2), σ2) := by
  refine (e_n 3 (fr' := (116, 3, [some (vR 10 0 0), some (vI x1), some (vI x2), some (vI x3)], [vI x2, vI x1, vR 10 0 0], σ)) rfl).trans ?_
  refine (e_ci (m := 116) (pc := 6) (ls := [some (vR 10 0 0), some (vI x1), some (vI x2), some (vI x3)]) (rest := []) rfl h1).trans ?_
  refine (e_f (B := (116, 11, [some (vR 10 0 0), some (vI x1), some (vI x2), some (vI x3)], [], σ1)) rfl h2).trans ?_
  refine (e_n 1 (fr' := (116, 12, [some (vR 10 0 0), some (vI x1), some (vI x2), some (vI x3)], [vI x3], σ1)) rfl).trans ?_
  refine (e_g (A := (116, 84, [some (vR 10 0 0), some (vI x1), some (vI x2), some (vI x3)], [], σ1)) (off' := 72) rfl (by rw [h3]; decide) rfl).trans ?_
  refine (e_n 5 (fr' := (116, 91, [some (vR 10 0 0), some (vI x1), some (vI x2), some (vI x3)], [vI x2, vI x1, vR 10 0 2, vR 10 0 0], σ1)) rfl).trans ?_
  refine (e_ci (m := 116) (pc := 94) (ls := [some (vR 10 0 0), some (vI x1), some (vI x2), some (vI x3)]) (rest := []) rfl h4).trans ?_
  exact e_r rfl
set_option maxRecDepth 20000 in
theorem g116_0_5 (C : pmC) {σ : pmS} {x1 : Int32} {x2 : Int32} {x3 : Int32} {σ1 : pmS} {r1 : Int32} (h1 : C 107 [vR 10 0 0, vI x1, vI x2] σ = some (some (vI r1), σ1)) (h2 : ¬ r1 = 0) (h3 : x3 = (4 : Int32)) (h4 : vp_in x1 4) : pq_Rn C (116, 0, [some (vR 10 0 0), some (vI x1), some (vI x2), some (vI x3)], [], σ) = some (some (vI (σ1.1 10 0 0 (x1).toNatClampNeg)), σ1) := by
  refine (e_n 3 (fr' := (116, 3, [some (vR 10 0 0), some (vI x1), some (vI x2), some (vI x3)], [vI x2, vI x1, vR 10 0 0], σ)) rfl).trans ?_
  refine (e_ci (m := 116) (pc := 6) (ls := [some (vR 10 0 0), some (vI x1), some (vI x2), some (vI x3)]) (rest := []) rfl h1).trans ?_
  refine (e_f (B := (116, 11, [some (vR 10 0 0), some (vI x1), some (vI x2), some (vI x3)], [], σ1)) rfl h2).trans ?_
  refine (e_n 1 (fr' := (116, 12, [some (vR 10 0 0), some (vI x1), some (vI x2), some (vI x3)], [vI x3], σ1)) rfl).trans ?_
  refine (e_g (A := (116, 95, [some (vR 10 0 0), some (vI x1), some (vI x2), some (vI x3)], [], σ1)) (off' := 83) rfl (by rw [h3]; decide) rfl).trans ?_
  refine (e_n 3 (fr' := (116, 100, [some (vR 10 0 0), some (vI x1), some (vI x2), some (vI x3)], [vI x1, vR 10 0 1], σ1)) rfl).trans ?_
  refine (e_a (A := (116, 101, [some (vR 10 0 0), some (vI x1), some (vI x2), some (vI x3)], [vI (σ1.1 10 0 0 (x1).toNatClampNeg)], σ1)) rfl h4).trans ?_
  exact e_r rfl
set_option maxRecDepth 20000 in
theorem g116_0_6 (C : pmC) {σ : pmS} {x1 : Int32} {x2 : Int32} {x3 : Int32} {σ1 : pmS} {r1 : Int32} (h1 : C 107 [vR 10 0 0, vI x1, vI x2] σ = some (some (vI r1), σ1)) (h2 : ¬ r1 = 0) (h3 : ¬ x3 = (0 : Int32)) (h4 : ¬ x3 = (1 : Int32)) (h5 : ¬ x3 = (2 : Int32)) (h6 : ¬ x3 = (3 : Int32)) (h7 : ¬ x3 = (4 : Int32)) : pq_Rn C (116, 0, [some (vR 10 0 0), some (vI x1), some (vI x2), some (vI x3)], [], σ) = some (some (vI (-1 : Int32)), σ1) := by
  refine (e_n 3 (fr' := (116, 3, [some (vR 10 0 0), some (vI x1), some (vI x2), some (vI x3)], [vI x2, vI x1, vR 10 0 0], σ)) rfl).trans ?_
  refine (e_ci (m := 116) (pc := 6) (ls := [some (vR 10 0 0), some (vI x1), some (vI x2), some (vI x3)]) (rest := []) rfl h1).trans ?_
  refine (e_f (B := (116, 11, [some (vR 10 0 0), some (vI x1), some (vI x2), some (vI x3)], [], σ1)) rfl h2).trans ?_
  refine (e_n 1 (fr' := (116, 12, [some (vR 10 0 0), some (vI x1), some (vI x2), some (vI x3)], [vI x3], σ1)) rfl).trans ?_
  refine (e_g (A := (116, 102, [some (vR 10 0 0), some (vI x1), some (vI x2), some (vI x3)], [], σ1)) (off' := 90) rfl ((pm_sw_ne h3).trans ((pm_sw_ne h4).trans ((pm_sw_ne h5).trans ((pm_sw_ne h6).trans ((pm_sw_ne h7).trans (rfl)))))) rfl).trans ?_
  refine (e_n 1 (fr' := (116, 103, [some (vR 10 0 0), some (vI x1), some (vI x2), some (vI x3)], [vI (-1 : Int32)], σ1)) rfl).trans ?_
  exact e_r rfl
set_option maxRecDepth 20000 in
theorem g117_0_0 (C : pmC) {σ : pmS} {x0 : Int32} {l1 : Option pmV} {l2 : Option pmV}  : pq_Rn C (117, 0, [some (vI x0), l1, l2], [], σ) = pq_Rn C (117, 4, [some (vI x0), some (vI (0 : Int32)), some (vI x0)], [], σ) := by
  exact e_n 4 rfl
set_option maxRecDepth 20000 in
theorem g117_4_0 (C : pmC) {σ : pmS} {x0 : Int32} {x1 : Int32} {x2 : Int32} (h1 : x2 ≤ 0) (h2 : x0 ≤ 0) : pq_Rn C (117, 4, [some (vI x0), some (vI x1), some (vI x2)], [], σ) = some (some (vI (0 : Int32)), σ) := by
  refine (e_n 1 (fr' := (117, 5, [some (vI x0), some (vI x1), some (vI x2)], [vI x2], σ)) rfl).trans ?_
  refine (e_t (A := (117, 37, [some (vI x0), some (vI x1), some (vI x2)], [], σ)) rfl h1).trans ?_
  refine (e_n 1 (fr' := (117, 38, [some (vI x0), some (vI x1), some (vI x2)], [vI x0], σ)) rfl).trans ?_
  refine (e_t (A := (117, 51, [some (vI x0), some (vI x1), some (vI x2)], [], σ)) rfl h2).trans ?_
  refine (e_n 1 (fr' := (117, 52, [some (vI x0), some (vI x1), some (vI x2)], [vI (0 : Int32)], σ)) rfl).trans ?_
  exact e_r rfl
set_option maxRecDepth 20000 in
theorem g117_4_1 (C : pmC) {σ : pmS} {x0 : Int32} {x1 : Int32} {x2 : Int32} (h1 : x2 ≤ 0) (h2 : ¬ x0 ≤ 0) (h3 : (6 : Int32) < x1) : pq_Rn C (117, 4, [some (vI x0), some (vI x1), some (vI x2)], [], σ) = some (some (vI (0 : Int32)), σ) := by
  refine (e_n 1 (fr' := (117, 5, [some (vI x0), some (vI x1), some (vI x2)], [vI x2], σ)) rfl).trans ?_
  refine (e_t (A := (117, 37, [some (vI x0), some (vI x1), some (vI x2)], [], σ)) rfl h1).trans ?_
  refine (e_n 1 (fr' := (117, 38, [some (vI x0), some (vI x1), some (vI x2)], [vI x0], σ)) rfl).trans ?_
  refine (e_f (B := (117, 41, [some (vI x0), some (vI x1), some (vI x2)], [], σ)) rfl h2).trans ?_
  refine (e_n 2 (fr' := (117, 44, [some (vI x0), some (vI x1), some (vI x2)], [vI (6 : Int32), vI x1], σ)) rfl).trans ?_
  refine (e_t (A := (117, 51, [some (vI x0), some (vI x1), some (vI x2)], [], σ)) rfl h3).trans ?_
  refine (e_n 1 (fr' := (117, 52, [some (vI x0), some (vI x1), some (vI x2)], [vI (0 : Int32)], σ)) rfl).trans ?_
  exact e_r rfl
set_option maxRecDepth 20000 in
theorem g117_4_2 (C : pmC) {σ : pmS} {x0 : Int32} {x1 : Int32} {x2 : Int32} (h1 : x2 ≤ 0) (h2 : ¬ x0 ≤ 0) (h3 : ¬ (6 : Int32) < x1) : pq_Rn C (117, 4, [some (vI x0), some (vI x1), some (vI x2)], [], σ) = some (some (vI (1 : Int32)), σ) := by
  refine (e_n 1 (fr' := (117, 5, [some (vI x0), some (vI x1), some (vI x2)], [vI x2], σ)) rfl).trans ?_
  refine (e_t (A := (117, 37, [some (vI x0), some (vI x1), some (vI x2)], [], σ)) rfl h1).trans ?_
  refine (e_n 1 (fr' := (117, 38, [some (vI x0), some (vI x1), some (vI x2)], [vI x0], σ)) rfl).trans ?_
  refine (e_f (B := (117, 41, [some (vI x0), some (vI x1), some (vI x2)], [], σ)) rfl h2).trans ?_
  refine (e_n 2 (fr' := (117, 44, [some (vI x0), some (vI x1), some (vI x2)], [vI (6 : Int32), vI x1], σ)) rfl).trans ?_
  refine (e_f (B := (117, 47, [some (vI x0), some (vI x1), some (vI x2)], [], σ)) rfl h3).trans ?_
  refine (e_n 2 (fr' := (117, 52, [some (vI x0), some (vI x1), some (vI x2)], [vI (1 : Int32)], σ)) rfl).trans ?_
  exact e_r rfl
set_option maxRecDepth 20000 in
theorem g117_4_3 (C : pmC) {σ : pmS} {x0 : Int32} {x1 : Int32} {x2 : Int32} (h1 : ¬ x2 ≤ 0) (h2 : (x2 - x2 / (8 : Int32) * (8 : Int32)) < (1 : Int32)) : pq_Rn C (117, 4, [some (vI x0), some (vI x1), some (vI x2)], [], σ) = some (some (vI (0 : Int32)), σ) := by
  refine (e_n 1 (fr' := (117, 5, [some (vI x0), some (vI x1), some (vI x2)], [vI x2], σ)) rfl).trans ?_
  refine (e_f (B := (117, 8, [some (vI x0), some (vI x1), some (vI x2)], [], σ)) rfl h1).trans ?_
  refine (e_n 4 (fr' := (117, 13, [some (vI x0), some (vI x1), some (vI x2)], [vI (1 : Int32), vI (x2 - x2 / (8 : Int32) * (8 : Int32))], σ)) rfl).trans ?_
  refine (e_t (A := (117, 24, [some (vI x0), some (vI x1), some (vI x2)], [], σ)) rfl h2).trans ?_
  refine (e_n 1 (fr' := (117, 25, [some (vI x0), some (vI x1), some (vI x2)], [vI (0 : Int32)], σ)) rfl).trans ?_
  exact e_r rfl
set_option maxRecDepth 20000 in
theorem g117_4_4 (C : pmC) {σ : pmS} {x0 : Int32} {x1 : Int32} {x2 : Int32} (h1 : ¬ x2 ≤ 0) (h2 : ¬ (x2 - x2 / (8 : Int32) * (8 : Int32)) < (1 : Int32)) (h3 : (x2 - x2 / (8 : Int32) * (8 : Int32)) ≤ (5 : Int32)) : pq_Rn C (117, 4, [some (vI x0), some (vI x1), some (vI x2)], [], σ) = pq_Rn C (117, 4, [some (vI x0), some (vI (x1 + (1 : Int32))), some (vI (x2 / (8 : Int32)))], [], σ) := by
  refine (e_n 1 (fr' := (117, 5, [some (vI x0), some (vI x1), some (vI x2)], [vI x2], σ)) rfl).trans ?_
  refine (e_f (B := (117, 8, [some (vI x0), some (vI x1), some (vI x2)], [], σ)) rfl h1).trans ?_
  refine (e_n 4 (fr' := (117, 13, [some (vI x0), some (vI x1), some (vI x2)], [vI (1 : Int32), vI (x2 - x2 / (8 : Int32) * (8 : Int32))], σ)) rfl).trans ?_
  refine (e_f (B := (117, 16, [some (vI x0), some (vI x1), some (vI x2)], [], σ)) rfl h2).trans ?_
  refine (e_n 4 (fr' := (117, 21, [some (vI x0), some (vI x1), some (vI x2)], [vI (5 : Int32), vI (x2 - x2 / (8 : Int32) * (8 : Int32))], σ)) rfl).trans ?_
  refine (e_t (A := (117, 26, [some (vI x0), some (vI x1), some (vI x2)], [], σ)) rfl h3).trans ?_
  exact e_n 6 rfl
set_option maxRecDepth 20000 in
theorem g117_4_5 (C : pmC) {σ : pmS} {x0 : Int32} {x1 : Int32} {x2 : Int32} (h1 : ¬ x2 ≤ 0) (h2 : ¬ (x2 - x2 / (8 : Int32) * (8 : Int32)) < (1 : Int32)) (h3 : ¬ (x2 - x2 / (8 : Int32) * (8 : Int32)) ≤ (5 : Int32)) : pq_Rn C (117, 4, [some (vI x0), some (vI x1), some (vI x2)], [], σ) = some (some (vI (0 : Int32)), σ) := by
  refine (e_n 1 (fr' := (117, 5, [some (vI x0), some (vI x1), some (vI x2)], [vI x2], σ)) rfl).trans ?_
  refine (e_f (B := (117, 8, [some (vI x0), some (vI x1), some (vI x2)], [], σ)) rfl h1).trans ?_
  refine (e_n 4 (fr' := (117, 13, [some (vI x0), some (vI x1), some (vI x2)], [vI (1 : Int32), vI (x2 - x2 / (8 : Int32) * (8 : Int32))], σ)) rfl).trans ?_
  refine (e_f (B := (117, 16, [some (vI x0), some (vI x1), some (vI x2)], [], σ)) rfl h2).trans ?_
  refine (e_n 4 (fr' := (117, 21, [some (vI x0), some (vI x1), some (vI x2)], [vI (5 : Int32), vI (x2 - x2 / (8 : Int32) * (8 : Int32))], σ)) rfl).trans ?_
  refine (e_f (B := (117, 24, [some (vI x0), some (vI x1), some (vI x2)], [], σ)) rfl h3).trans ?_
  refine (e_n 1 (fr' := (117, 25, [some (vI x0), some (vI x1), some (vI x2)], [vI (0 : Int32)], σ)) rfl).trans ?_
  exact e_r rfl
set_option maxRecDepth 20000 in
theorem g118_0_0 (C : pmC) {σ : pmS} {x0 : Int32} (h1 : x0 = 0) : pq_Rn C (118, 0, [some (vI x0)], [], σ) = some (some (vI (1 : Int32)), σ) := by
  refine (e_n 1 (fr' := (118, 1, [some (vI x0)], [vI x0], σ)) rfl).trans ?_
  refine (e_t (A := (118, 9, [some (vI x0)], [], σ)) rfl h1).trans ?_
  refine (e_n 2 (fr' := (118, 14, [some (vI x0)], [vI (1 : Int32)], σ)) rfl).trans ?_
  exact e_r rfl
set_option maxRecDepth 20000 in
theorem g118_0_1 (C : pmC) {σ : pmS} {x0 : Int32} (h1 : ¬ x0 = 0) (h2 : x0 = (1 : Int32)) : pq_Rn C (118, 0, [some (vI x0)], [], σ) = some (some (vI (1 : Int32)), σ) := by
  refine (e_n 1 (fr' := (118, 1, [some (vI x0)], [vI x0], σ)) rfl).trans ?_
  refine (e_f (B := (118, 4, [some (vI x0)], [], σ)) rfl h1).trans ?_
  refine (e_n 2 (fr' := (118, 6, [some (vI x0)], [vI (1 : Int32), vI x0], σ)) rfl).trans ?_
  refine (e_t (A := (118, 9, [some (vI x0)], [], σ)) rfl h2).trans ?_
  refine (e_n 2 (fr' := (118, 14, [some (vI x0)], [vI (1 : Int32)], σ)) rfl).trans ?_
  exact e_r rfl
set_option maxRecDepth 20000 in
theorem g118_0_2 (C : pmC) {σ : pmS} {x0 : Int32} (h1 : ¬ x0 = 0) (h2 : ¬ x0 = (1 : Int32)) : pq_Rn C (118, 0, [some (vI x0)], [], σ) = some (some (vI (0 : Int32)), σ) := by
  refine (e_n 1 (fr' := (118, 1, [some (vI x0)], [vI x0], σ)) rfl).trans ?_
  refine (e_f (B := (118, 4, [some (vI x0)], [], σ)) rfl h1).trans ?_
  refine (e_n 2 (fr' := (118, 6, [some (vI x0)], [vI (1 : Int32), vI x0], σ)) rfl).trans ?_
  refine (e_f (B := (118, 13, [some (vI x0)], [], σ)) rfl h2).trans ?_
  refine (e_n 1 (fr' := (118, 14, [some (vI x0)], [vI (0 : Int32)], σ)) rfl).trans ?_
  exact e_r rfl
set_option maxRecDepth 20000 in
theorem g119_0_0 (C : pmC) {σ : pmS} {x0 : Int32} {x1 : Int32} (h1 : x1 = (3 : Int32)) : pq_Rn C (119, 0, [some (vI x0), some (vI x1)], [], σ) = some (some (vI ((1 : Int32) - x0)), σ) := by
  refine (e_n 2 (fr' := (119, 2, [some (vI x0), some (vI x1)], [vI (3 : Int32), vI x1], σ)) rfl).trans ?_
  refine (e_t (A := (119, 5, [some (vI x0), some (vI x1)], [], σ)) rfl h1).trans ?_
  refine (e_n 4 (fr' := (119, 26, [some (vI x0), some (vI x1)], [vI ((1 : Int32) - x0)], σ)) rfl).trans ?_
  exact e_r rfl
set_option maxRecDepth 20000 in
theorem g119_0_1 (C : pmC) {σ : pmS} {x0 : Int32} {x1 : Int32} (h1 : ¬ x1 = (3 : Int32)) (h2 : x1 = (2 : Int32)) : pq_Rn C (119, 0, [some (vI x0), some (vI x1)], [], σ) = some (some (vI (1 : Int32)), σ) := by
  refine (e_n 2 (fr' := (119, 2, [some (vI x0), some (vI x1)], [vI (3 : Int32), vI x1], σ)) rfl).trans ?_
  refine (e_f (B := (119, 11, [some (vI x0), some (vI x1)], [], σ)) rfl h1).trans ?_
  refine (e_n 2 (fr' := (119, 13, [some (vI x0), some (vI x1)], [vI (2 : Int32), vI x1], σ)) rfl).trans ?_
  refine (e_t (A := (119, 21, [some (vI x0), some (vI x1)], [], σ)) rfl h2).trans ?_
  refine (e_n 2 (fr' := (119, 26, [some (vI x0), some (vI x1)], [vI (1 : Int32)], σ)) rfl).trans ?_
  exact e_r rfl
