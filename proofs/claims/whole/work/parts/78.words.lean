/-! the words and the decode rows of the constructors, by program -/
theorem k_dg {cc : ByteArray} {l : List (Nat × Instr × Nat)} (h : l.all (fun e => decide (decode cc e.1 = .ok (e.2.1, e.2.2))) = true) (j : Nat) {pc n : Nat} {i : Instr} (hj : l[j]? = some (pc, i, n)) : decode cc pc = .ok (i, n) := by
  have h1 := List.all_eq_true.mp h _ (List.mem_of_getElem? hj)
  exact of_decide_eq_true h1
theorem k_gi {w : Cond} (h : w ∈ pm_G) : GoodIn pm_G (w :: pm_G) := fun x hx => (List.mem_cons.mp hx).elim (fun e => ⟨e ▸ h, pm_G_good (e ▸ h)⟩) (fun e => ⟨e, pm_G_good e⟩)
def kdl_0_0 : List (Nat × Instr × Nat) := [(0, .aload_n 0, 1), (1, .invokespecial 3, 3), (4, .aload_n 0, 1), (5, .iconst 5, 1), (6, .newarray .int, 2), (8, .putfield 9, 3), (11, .aload_n 0, 1), (12, .iconst 5, 1), (13, .newarray .int, 2), (15, .putfield 15, 3), (18, .aload_n 0, 1), (19, .iconst 5, 1), (20, .newarray .int, 2), (22, .putfield 18, 3), (25, .aload_n 0, 1), (26, .iconst 0, 1), (27, .putfield 21, 3), (30, .return_, 1)]
theorem kdk_0_0 : kdl_0_0.all (fun e => decide (decode cX0_init e.1 = .ok (e.2.1, e.2.2))) = true := by decide +kernel
theorem kd_0_0 (j : Nat) {pc n : Nat} {i : Instr} (h : kdl_0_0[j]? = some (pc, i, n)) : decode cX0_init pc = .ok (i, n) := k_dg kdk_0_0 j h
theorem k_cl0 : k_Cl 0 RX0 TX0 4 tyX0 := ⟨rfl, tyX0_ok⟩
theorem k_ml0 : Cond.methodLink (pm_cn 0) 3 objectInit ∈ pm_G := pm_in_G (i := 344) (by decide +kernel)
set_option maxRecDepth 100000 in
theorem k_cd0 : Cond.code yX0_init cX0_init 1 none ∈ pm_G := List.mem_filter.mpr ⟨List.mem_of_getElem? (i := 343) rfl, rfl⟩
theorem k_im0 : Cond.instanceMethod yX0_init ∈ pm_G := pm_in_G (i := 342) (by decide +kernel)
theorem k_it0 : Cond.instantiable RX0 4 ∈ pm_G := pm_in_G (i := 340) (by decide +kernel)
theorem k_in0 : Cond.initialized RX0 ∈ pm_G := pm_in_G (i := 80) (by decide +kernel)
def kdl_1_0 : List (Nat × Instr × Nat) := [(0, .aload_n 0, 1), (1, .invokespecial 3, 3), (4, .aload_n 0, 1), (5, .bipush 48, 2), (7, .newarray .int, 2), (9, .putfield 9, 3), (12, .aload_n 0, 1), (13, .bipush 48, 2), (15, .newarray .int, 2), (17, .putfield 15, 3), (20, .aload_n 0, 1), (21, .bipush 48, 2), (23, .newarray .int, 2), (25, .putfield 18, 3), (28, .aload_n 0, 1), (29, .bipush 48, 2), (31, .newarray .boolean, 2), (33, .putfield 21, 3), (36, .return_, 1)]
theorem kdk_1_0 : kdl_1_0.all (fun e => decide (decode cX1_init e.1 = .ok (e.2.1, e.2.2))) = true := by decide +kernel
theorem kd_1_0 (j : Nat) {pc n : Nat} {i : Instr} (h : kdl_1_0[j]? = some (pc, i, n)) : decode cX1_init pc = .ok (i, n) := k_dg kdk_1_0 j h
theorem k_cl1 : k_Cl 1 RX1 TX1 4 tyX1 := ⟨rfl, tyX1_ok⟩
theorem k_ml1 : Cond.methodLink (pm_cn 1) 3 objectInit ∈ pm_G := pm_in_G (i := 277) (by decide +kernel)
set_option maxRecDepth 100000 in
theorem k_cd1 : Cond.code yX1_init cX1_init 1 none ∈ pm_G := List.mem_filter.mpr ⟨List.mem_of_getElem? (i := 276) rfl, rfl⟩
theorem k_im1 : Cond.instanceMethod yX1_init ∈ pm_G := pm_in_G (i := 275) (by decide +kernel)
theorem k_it1 : Cond.instantiable RX1 4 ∈ pm_G := pm_in_G (i := 273) (by decide +kernel)
theorem k_in1 : Cond.initialized RX1 ∈ pm_G := pm_in_G (i := 78) (by decide +kernel)
def kdl_2_0 : List (Nat × Instr × Nat) := [(0, .aload_n 0, 1), (1, .invokespecial 3, 3), (4, .aload_n 0, 1), (5, .bipush 8, 2), (7, .newarray .int, 2), (9, .putfield 9, 3), (12, .aload_n 0, 1), (13, .bipush 8, 2), (15, .newarray .int, 2), (17, .putfield 15, 3), (20, .aload_n 0, 1), (21, .bipush 8, 2), (23, .newarray .int, 2), (25, .putfield 18, 3), (28, .aload_n 0, 1), (29, .bipush 8, 2), (31, .newarray .int, 2), (33, .putfield 21, 3), (36, .aload_n 0, 1), (37, .bipush 8, 2), (39, .newarray .int, 2), (41, .putfield 24, 3), (44, .aload_n 0, 1), (45, .bipush 8, 2), (47, .newarray .int, 2), (49, .putfield 27, 3), (52, .aload_n 0, 1), (53, .bipush 16, 2), (55, .newarray .int, 2), (57, .putfield 30, 3), (60, .aload_n 0, 1), (61, .bipush 16, 2), (63, .newarray .int, 2), (65, .putfield 33, 3), (68, .aload_n 0, 1), (69, .iconst 0, 1), (70, .putfield 36, 3), (73, .return_, 1)]
theorem kdk_2_0 : kdl_2_0.all (fun e => decide (decode cX2_init e.1 = .ok (e.2.1, e.2.2))) = true := by decide +kernel
theorem kd_2_0 (j : Nat) {pc n : Nat} {i : Instr} (h : kdl_2_0[j]? = some (pc, i, n)) : decode cX2_init pc = .ok (i, n) := k_dg kdk_2_0 j h
theorem k_cl2 : k_Cl 2 RX2 TX2 9 tyX2 := ⟨rfl, tyX2_ok⟩
theorem k_ml2 : Cond.methodLink (pm_cn 2) 3 objectInit ∈ pm_G := pm_in_G (i := 298) (by decide +kernel)
set_option maxRecDepth 100000 in
theorem k_cd2 : Cond.code yX2_init cX2_init 1 none ∈ pm_G := List.mem_filter.mpr ⟨List.mem_of_getElem? (i := 297) rfl, rfl⟩
theorem k_im2 : Cond.instanceMethod yX2_init ∈ pm_G := pm_in_G (i := 296) (by decide +kernel)
theorem k_it2 : Cond.instantiable RX2 9 ∈ pm_G := pm_in_G (i := 294) (by decide +kernel)
theorem k_in2 : Cond.initialized RX2 ∈ pm_G := pm_in_G (i := 79) (by decide +kernel)
def kdl_3_0 : List (Nat × Instr × Nat) := [(0, .aload_n 0, 1), (1, .invokespecial 3, 3), (4, .aload_n 0, 1), (5, .bipush 48, 2), (7, .newarray .long, 2), (9, .putfield 9, 3), (12, .aload_n 0, 1), (13, .bipush 48, 2), (15, .newarray .int, 2), (17, .putfield 15, 3), (20, .aload_n 0, 1), (21, .bipush 48, 2), (23, .newarray .int, 2), (25, .putfield 19, 3), (28, .aload_n 0, 1), (29, .bipush 48, 2), (31, .newarray .int, 2), (33, .putfield 22, 3), (36, .aload_n 0, 1), (37, .iconst 0, 1), (38, .putfield 25, 3), (41, .aload_n 0, 1), (42, .lconst 0, 1), (43, .putfield 29, 3), (46, .aload_n 0, 1), (47, .lconst 0, 1), (48, .putfield 33, 3), (51, .aload_n 0, 1), (52, .iconst 0, 1), (53, .putfield 36, 3), (56, .aload_n 0, 1), (57, .iconst 0, 1), (58, .putfield 39, 3), (61, .aload_n 0, 1), (62, .getfield 15, 3), (65, .iconst (-1), 1), (66, .invokestatic 42, 3), (69, .return_, 1)]
theorem kdk_3_0 : kdl_3_0.all (fun e => decide (decode cX3_init e.1 = .ok (e.2.1, e.2.2))) = true := by decide +kernel
theorem kd_3_0 (j : Nat) {pc n : Nat} {i : Instr} (h : kdl_3_0[j]? = some (pc, i, n)) : decode cX3_init pc = .ok (i, n) := k_dg kdk_3_0 j h
theorem k_cl3 : k_Cl 3 RX3 TX3 9 tyX3 := ⟨rfl, tyX3_ok⟩
theorem k_ml3 : Cond.methodLink (pm_cn 3) 3 objectInit ∈ pm_G := pm_in_G (i := 212) (by decide +kernel)
set_option maxRecDepth 100000 in
theorem k_cd3 : Cond.code yX3_init cX3_init 1 none ∈ pm_G := List.mem_filter.mpr ⟨List.mem_of_getElem? (i := 211) rfl, rfl⟩
theorem k_im3 : Cond.instanceMethod yX3_init ∈ pm_G := pm_in_G (i := 210) (by decide +kernel)
theorem k_it3 : Cond.instantiable RX3 9 ∈ pm_G := pm_in_G (i := 208) (by decide +kernel)
theorem k_in3 : Cond.initialized RX3 ∈ pm_G := pm_in_G (i := 75) (by decide +kernel)
def kdl_4_0 : List (Nat × Instr × Nat) := [(0, .aload_n 0, 1), (1, .invokespecial 3, 3), (4, .aload_n 0, 1), (5, .bipush 8, 2), (7, .newarray .int, 2), (9, .putfield 9, 3), (12, .aload_n 0, 1), (13, .bipush 8, 2), (15, .newarray .int, 2), (17, .putfield 15, 3), (20, .aload_n 0, 1), (21, .iconst 0, 1), (22, .putfield 18, 3), (25, .aload_n 0, 1), (26, .iconst (-1), 1), (27, .putfield 22, 3), (30, .aload_n 0, 1), (31, .iconst 0, 1), (32, .putfield 25, 3), (35, .return_, 1)]
theorem kdk_4_0 : kdl_4_0.all (fun e => decide (decode cX4_init e.1 = .ok (e.2.1, e.2.2))) = true := by decide +kernel
theorem kd_4_0 (j : Nat) {pc n : Nat} {i : Instr} (h : kdl_4_0[j]? = some (pc, i, n)) : decode cX4_init pc = .ok (i, n) := k_dg kdk_4_0 j h
theorem k_cl4 : k_Cl 4 RX4 TX4 5 tyX4 := ⟨rfl, tyX4_ok⟩
theorem k_ml4 : Cond.methodLink (pm_cn 4) 3 objectInit ∈ pm_G := pm_in_G (i := 253) (by decide +kernel)
set_option maxRecDepth 100000 in
theorem k_cd4 : Cond.code yX4_init cX4_init 1 none ∈ pm_G := List.mem_filter.mpr ⟨List.mem_of_getElem? (i := 252) rfl, rfl⟩
theorem k_im4 : Cond.instanceMethod yX4_init ∈ pm_G := pm_in_G (i := 251) (by decide +kernel)
theorem k_it4 : Cond.instantiable RX4 5 ∈ pm_G := pm_in_G (i := 249) (by decide +kernel)
theorem k_in4 : Cond.initialized RX4 ∈ pm_G := pm_in_G (i := 77) (by decide +kernel)
def kdl_5_0 : List (Nat × Instr × Nat) := [(0, .aload_n 0, 1), (1, .invokespecial 3, 3), (4, .aload_n 0, 1), (5, .bipush 48, 2), (7, .newarray .int, 2), (9, .putfield 9, 3), (12, .aload_n 0, 1), (13, .bipush 48, 2), (15, .newarray .int, 2), (17, .putfield 15, 3), (20, .aload_n 0, 1), (21, .bipush 48, 2), (23, .newarray .int, 2), (25, .putfield 18, 3), (28, .aload_n 0, 1), (29, .bipush 48, 2), (31, .newarray .int, 2), (33, .putfield 21, 3), (36, .aload_n 0, 1), (37, .bipush 48, 2), (39, .newarray .int, 2), (41, .putfield 24, 3), (44, .aload_n 0, 1), (45, .bipush 48, 2), (47, .newarray .int, 2), (49, .putfield 27, 3), (52, .aload_n 0, 1), (53, .bipush 48, 2), (55, .newarray .int, 2), (57, .putfield 30, 3), (60, .aload_n 0, 1), (61, .bipush 48, 2), (63, .newarray .int, 2), (65, .putfield 33, 3), (68, .aload_n 0, 1), (69, .bipush 48, 2), (71, .newarray .int, 2), (73, .putfield 36, 3), (76, .aload_n 0, 1), (77, .iconst 0, 1), (78, .putfield 39, 3), (81, .return_, 1)]
theorem kdk_5_0 : kdl_5_0.all (fun e => decide (decode cX5_init e.1 = .ok (e.2.1, e.2.2))) = true := by decide +kernel
theorem kd_5_0 (j : Nat) {pc n : Nat} {i : Instr} (h : kdl_5_0[j]? = some (pc, i, n)) : decode cX5_init pc = .ok (i, n) := k_dg kdk_5_0 j h
theorem k_cl5 : k_Cl 5 RX5 TX5 10 tyX5 := ⟨rfl, tyX5_ok⟩
theorem k_ml5 : Cond.methodLink (pm_cn 5) 3 objectInit ∈ pm_G := pm_in_G (i := 126) (by decide +kernel)
set_option maxRecDepth 100000 in
theorem k_cd5 : Cond.code yX5_init cX5_init 1 none ∈ pm_G := List.mem_filter.mpr ⟨List.mem_of_getElem? (i := 125) rfl, rfl⟩
theorem k_im5 : Cond.instanceMethod yX5_init ∈ pm_G := pm_in_G (i := 124) (by decide +kernel)
theorem k_it5 : Cond.instantiable RX5 10 ∈ pm_G := pm_in_G (i := 122) (by decide +kernel)
theorem k_in5 : Cond.initialized RX5 ∈ pm_G := pm_in_G (i := 72) (by decide +kernel)
def kdl_6_0 : List (Nat × Instr × Nat) := [(0, .aload_n 0, 1), (1, .invokespecial 5, 3), (4, .aload_n 0, 1), (5, .bipush 60, 2), (7, .newarray .int, 2), (9, .putfield 11, 3), (12, .aload_n 0, 1), (13, .iconst 0, 1), (14, .putfield 15, 3), (17, .aload_n 0, 1), (18, .iconst 0, 1), (19, .putfield 19, 3), (22, .aload_n 0, 1), (23, .iconst (-1), 1), (24, .putfield 22, 3), (27, .return_, 1)]
theorem kdk_6_0 : kdl_6_0.all (fun e => decide (decode cX6_init e.1 = .ok (e.2.1, e.2.2))) = true := by decide +kernel
theorem kd_6_0 (j : Nat) {pc n : Nat} {i : Instr} (h : kdl_6_0[j]? = some (pc, i, n)) : decode cX6_init pc = .ok (i, n) := k_dg kdk_6_0 j h
theorem k_cl6 : k_Cl 6 RX6 TX6 4 tyX6 := ⟨rfl, tyX6_ok⟩
theorem k_ml6 : Cond.methodLink (pm_cn 6) 5 objectInit ∈ pm_G := pm_in_G (i := 99) (by decide +kernel)
set_option maxRecDepth 100000 in
theorem k_cd6 : Cond.code yX6_init cX6_init 1 none ∈ pm_G := List.mem_filter.mpr ⟨List.mem_of_getElem? (i := 98) rfl, rfl⟩
theorem k_im6 : Cond.instanceMethod yX6_init ∈ pm_G := pm_in_G (i := 97) (by decide +kernel)
theorem k_it6 : Cond.instantiable RX6 4 ∈ pm_G := pm_in_G (i := 95) (by decide +kernel)
theorem k_in6 : Cond.initialized RX6 ∈ pm_G := pm_in_G (i := 71) (by decide +kernel)
def kdl_7_0 : List (Nat × Instr × Nat) := [(0, .aload_n 0, 1), (1, .invokespecial 1, 3), (4, .aload_n 0, 1), (5, .sipush 1000, 3), (8, .newarray .int, 2), (10, .putfield 9, 3), (13, .aload_n 0, 1), (14, .sipush 2048, 3), (17, .newarray .int, 2), (19, .putfield 13, 3), (22, .aload_n 0, 1), (23, .iconst 0, 1), (24, .putfield 16, 3), (27, .return_, 1)]
theorem kdk_7_0 : kdl_7_0.all (fun e => decide (decode cX7_init e.1 = .ok (e.2.1, e.2.2))) = true := by decide +kernel
theorem kd_7_0 (j : Nat) {pc n : Nat} {i : Instr} (h : kdl_7_0[j]? = some (pc, i, n)) : decode cX7_init pc = .ok (i, n) := k_dg kdk_7_0 j h
theorem k_cl7 : k_Cl 7 RX7 TX7 3 tyX7 := ⟨rfl, tyX7_ok⟩
theorem k_ml7 : Cond.methodLink (pm_cn 7) 1 objectInit ∈ pm_G := pm_in_G (i := 196) (by decide +kernel)
set_option maxRecDepth 100000 in
theorem k_cd7 : Cond.code yX7_init cX7_init 1 none ∈ pm_G := List.mem_filter.mpr ⟨List.mem_of_getElem? (i := 195) rfl, rfl⟩
theorem k_im7 : Cond.instanceMethod yX7_init ∈ pm_G := pm_in_G (i := 194) (by decide +kernel)
theorem k_it7 : Cond.instantiable RX7 3 ∈ pm_G := pm_in_G (i := 192) (by decide +kernel)
theorem k_in7 : Cond.initialized RX7 ∈ pm_G := pm_in_G (i := 74) (by decide +kernel)
def kdl_8_0 : List (Nat × Instr × Nat) := [(0, .aload_n 0, 1), (1, .invokespecial 3, 3), (4, .aload_n 0, 1), (5, .bipush 40, 2), (7, .newarray .int, 2), (9, .putfield 9, 3), (12, .aload_n 0, 1), (13, .bipush 40, 2), (15, .newarray .int, 2), (17, .putfield 15, 3), (20, .aload_n 0, 1), (21, .bipush 40, 2), (23, .newarray .int, 2), (25, .putfield 18, 3), (28, .aload_n 0, 1), (29, .iconst 0, 1), (30, .putfield 21, 3), (33, .return_, 1)]
theorem kdk_8_0 : kdl_8_0.all (fun e => decide (decode cX8_init e.1 = .ok (e.2.1, e.2.2))) = true := by decide +kernel
theorem kd_8_0 (j : Nat) {pc n : Nat} {i : Instr} (h : kdl_8_0[j]? = some (pc, i, n)) : decode cX8_init pc = .ok (i, n) := k_dg kdk_8_0 j h
theorem k_cl8 : k_Cl 8 RX8 TX8 4 tyX8 := ⟨rfl, tyX8_ok⟩
theorem k_ml8 : Cond.methodLink (pm_cn 8) 3 objectInit ∈ pm_G := pm_in_G (i := 173) (by decide +kernel)
set_option maxRecDepth 100000 in
theorem k_cd8 : Cond.code yX8_init cX8_init 1 none ∈ pm_G := List.mem_filter.mpr ⟨List.mem_of_getElem? (i := 172) rfl, rfl⟩
theorem k_im8 : Cond.instanceMethod yX8_init ∈ pm_G := pm_in_G (i := 171) (by decide +kernel)
theorem k_it8 : Cond.instantiable RX8 4 ∈ pm_G := pm_in_G (i := 169) (by decide +kernel)
theorem k_in8 : Cond.initialized RX8 ∈ pm_G := pm_in_G (i := 73) (by decide +kernel)
def kdl_9_0 : List (Nat × Instr × Nat) := [(0, .aload_n 0, 1), (1, .invokespecial 3, 3), (4, .aload_n 0, 1), (5, .new 9, 3), (8, .dup, 1), (9, .invokespecial 11, 3), (12, .putfield 12, 3), (15, .aload_n 0, 1), (16, .iconst 4, 1), (17, .anewarray 16, 3), (20, .putfield 18, 3), (23, .aload_n 0, 1), (24, .iconst 3, 1), (25, .anewarray 22, 3), (28, .putfield 24, 3), (31, .aload_n 0, 1), (32, .new 28, 3), (35, .dup, 1), (36, .invokespecial 30, 3), (39, .putfield 31, 3), (42, .aload_n 0, 1), (43, .new 35, 3), (46, .dup, 1), (47, .invokespecial 37, 3), (50, .putfield 38, 3), (53, .aload_n 0, 1), (54, .new 42, 3), (57, .dup, 1), (58, .invokespecial 44, 3), (61, .putfield 45, 3), (64, .aload_n 0, 1), (65, .new 49, 3), (68, .dup, 1), (69, .invokespecial 51, 3), (72, .putfield 52, 3), (75, .aload_n 0, 1), (76, .new 56, 3), (79, .dup, 1), (80, .invokespecial 58, 3), (83, .putfield 59, 3), (86, .aload_n 0, 1), (87, .new 63, 3), (90, .dup, 1), (91, .invokespecial 65, 3), (94, .putfield 66, 3), (97, .aload_n 0, 1), (98, .iconst 0, 1), (99, .putfield 70, 3), (102, .aload_n 0, 1), (103, .iconst 0, 1), (104, .putfield 74, 3), (107, .aload_n 0, 1), (108, .bipush 16, 2), (110, .putfield 77, 3), (113, .iconst 0, 1), (114, .istore_n 1, 1), (115, .iload_n 1, 1), (116, .iconst 4, 1), (117, .if_icmp .ge 22, 3), (120, .aload_n 0, 1), (121, .getfield 18, 3), (124, .iload_n 1, 1), (125, .new 16, 3), (128, .dup, 1), (129, .invokespecial 80, 3), (132, .aastore, 1), (133, .iinc 1 1, 3), (136, .goto (-21), 3), (139, .iconst 0, 1), (140, .istore_n 1, 1), (141, .iload_n 1, 1), (142, .iconst 3, 1), (143, .if_icmp .ge 22, 3), (146, .aload_n 0, 1), (147, .getfield 24, 3), (150, .iload_n 1, 1), (151, .new 22, 3), (154, .dup, 1), (155, .invokespecial 81, 3), (158, .aastore, 1)]
theorem kdk_9_0 : kdl_9_0.all (fun e => decide (decode cX9_init e.1 = .ok (e.2.1, e.2.2))) = true := by decide +kernel
theorem kd_9_0 (j : Nat) {pc n : Nat} {i : Instr} (h : kdl_9_0[j]? = some (pc, i, n)) : decode cX9_init pc = .ok (i, n) := k_dg kdk_9_0 j h
def kdl_9_1 : List (Nat × Instr × Nat) := [(159, .iinc 1 1, 3), (162, .goto (-21), 3), (165, .return_, 1)]
theorem kdk_9_1 : kdl_9_1.all (fun e => decide (decode cX9_init e.1 = .ok (e.2.1, e.2.2))) = true := by decide +kernel
theorem kd_9_1 (j : Nat) {pc n : Nat} {i : Instr} (h : kdl_9_1[j]? = some (pc, i, n)) : decode cX9_init pc = .ok (i, n) := k_dg kdk_9_1 j h
theorem k_cl9 : k_Cl 9 RX9 TX9 12 tyX9 := ⟨rfl, tyX9_ok⟩
theorem k_ml9 : Cond.methodLink (pm_cn 9) 3 objectInit ∈ pm_G := pm_in_G (i := 91) (by decide +kernel)
set_option maxRecDepth 100000 in
theorem k_cd9 : Cond.code yX9_init cX9_init 2 none ∈ pm_G := List.mem_filter.mpr ⟨List.mem_of_getElem? (i := 90) rfl, rfl⟩
theorem k_im9 : Cond.instanceMethod yX9_init ∈ pm_G := pm_in_G (i := 89) (by decide +kernel)
theorem k_it9 : Cond.instantiable RX9 12 ∈ pm_G := pm_in_G (i := 87) (by decide +kernel)
theorem k_in9 : Cond.initialized RX9 ∈ pm_G := pm_in_G (i := 70) (by decide +kernel)
def kdl_10_0 : List (Nat × Instr × Nat) := [(0, .aload_n 0, 1), (1, .invokespecial 1, 3), (4, .aload_n 0, 1), (5, .iconst 4, 1), (6, .newarray .int, 2), (8, .putfield 7, 3), (11, .aload_n 0, 1), (12, .bipush 32, 2), (14, .newarray .int, 2), (16, .putfield 13, 3), (19, .aload_n 0, 1), (20, .bipush 32, 2), (22, .newarray .int, 2), (24, .putfield 16, 3), (27, .aload_n 0, 1), (28, .bipush 32, 2), (30, .newarray .int, 2), (32, .putfield 19, 3), (35, .aload_n 0, 1), (36, .bipush 60, 2), (38, .newarray .int, 2), (40, .putfield 22, 3), (43, .aload_n 0, 1), (44, .iconst (-1), 1), (45, .putfield 25, 3), (48, .aload_n 0, 1), (49, .bipush 8, 2), (51, .newarray .int, 2), (53, .putfield 29, 3), (56, .aload_n 0, 1), (57, .sipush 1000, 3), (60, .newarray .int, 2), (62, .putfield 32, 3), (65, .aload_n 0, 1), (66, .iconst 3, 1), (67, .newarray .int, 2), (69, .putfield 35, 3), (72, .aload_n 0, 1), (73, .bipush 15, 2), (75, .newarray .int, 2), (77, .putfield 38, 3), (80, .aload_n 0, 1), (81, .bipush 15, 2), (83, .newarray .int, 2), (85, .putfield 41, 3), (88, .aload_n 0, 1), (89, .bipush 15, 2), (91, .newarray .int, 2), (93, .putfield 44, 3), (96, .aload_n 0, 1), (97, .bipush 16, 2), (99, .putfield 47, 3), (102, .aload_n 0, 1), (103, .bipush 48, 2), (105, .newarray .int, 2), (107, .putfield 50, 3), (110, .aload_n 0, 1), (111, .bipush 48, 2), (113, .newarray .int, 2), (115, .putfield 53, 3), (118, .aload_n 0, 1), (119, .bipush 48, 2), (121, .newarray .int, 2), (123, .putfield 56, 3), (126, .aload_n 0, 1), (127, .bipush 48, 2), (129, .newarray .int, 2), (131, .putfield 59, 3), (134, .aload_n 0, 1), (135, .bipush 48, 2), (137, .newarray .int, 2), (139, .putfield 62, 3), (142, .aload_n 0, 1), (143, .bipush 48, 2), (145, .newarray .int, 2), (147, .putfield 65, 3), (150, .aload_n 0, 1), (151, .bipush 48, 2), (153, .newarray .int, 2), (155, .putfield 68, 3)]
theorem kdk_10_0 : kdl_10_0.all (fun e => decide (decode cX10_init e.1 = .ok (e.2.1, e.2.2))) = true := by decide +kernel
theorem kd_10_0 (j : Nat) {pc n : Nat} {i : Instr} (h : kdl_10_0[j]? = some (pc, i, n)) : decode cX10_init pc = .ok (i, n) := k_dg kdk_10_0 j h
def kdl_10_1 : List (Nat × Instr × Nat) := [(158, .aload_n 0, 1), (159, .bipush 40, 2), (161, .newarray .int, 2), (163, .putfield 71, 3), (166, .aload_n 0, 1), (167, .bipush 40, 2), (169, .newarray .int, 2), (171, .putfield 74, 3), (174, .aload_n 0, 1), (175, .bipush 40, 2), (177, .newarray .int, 2), (179, .putfield 77, 3), (182, .aload_n 0, 1), (183, .bipush 48, 2), (185, .newarray .int, 2), (187, .putfield 80, 3), (190, .aload_n 0, 1), (191, .bipush 48, 2), (193, .newarray .int, 2), (195, .putfield 83, 3), (198, .aload_n 0, 1), (199, .sipush 2304, 3), (202, .newarray .boolean, 2), (204, .putfield 86, 3), (207, .aload_n 0, 1), (208, .bipush 48, 2), (210, .newarray .int, 2), (212, .putfield 90, 3), (215, .aload_n 0, 1), (216, .bipush 48, 2), (218, .newarray .int, 2), (220, .putfield 93, 3), (223, .aload_n 0, 1), (224, .bipush 48, 2), (226, .newarray .int, 2), (228, .putfield 96, 3), (231, .aload_n 0, 1), (232, .bipush 48, 2), (234, .newarray .int, 2), (236, .putfield 99, 3), (239, .aload_n 0, 1), (240, .bipush 48, 2), (242, .newarray .int, 2), (244, .putfield 102, 3), (247, .aload_n 0, 1), (248, .bipush 48, 2), (250, .newarray .boolean, 2), (252, .putfield 105, 3), (255, .aload_n 0, 1), (256, .bipush 8, 2), (258, .newarray .int, 2), (260, .putfield 108, 3), (263, .aload_n 0, 1), (264, .bipush 8, 2), (266, .newarray .int, 2), (268, .putfield 111, 3), (271, .aload_n 0, 1), (272, .bipush 48, 2), (274, .newarray .int, 2), (276, .putfield 114, 3), (279, .aload_n 0, 1), (280, .sipush 384, 3), (283, .newarray .int, 2), (285, .putfield 117, 3), (288, .aload_n 0, 1), (289, .bipush 48, 2), (291, .newarray .int, 2), (293, .putfield 120, 3), (296, .iconst 0, 1), (297, .istore_n 1, 1), (298, .iload_n 1, 1), (299, .bipush 48, 2), (301, .if_icmp .ge 16, 3), (304, .aload_n 0, 1), (305, .getfield 102, 3), (308, .iload_n 1, 1), (309, .iconst (-1), 1), (310, .iastore, 1), (311, .iinc 1 1, 3), (314, .goto (-16), 3)]
theorem kdk_10_1 : kdl_10_1.all (fun e => decide (decode cX10_init e.1 = .ok (e.2.1, e.2.2))) = true := by decide +kernel
theorem kd_10_1 (j : Nat) {pc n : Nat} {i : Instr} (h : kdl_10_1[j]? = some (pc, i, n)) : decode cX10_init pc = .ok (i, n) := k_dg kdk_10_1 j h
def kdl_10_2 : List (Nat × Instr × Nat) := [(317, .return_, 1)]
theorem kdk_10_2 : kdl_10_2.all (fun e => decide (decode cX10_init e.1 = .ok (e.2.1, e.2.2))) = true := by decide +kernel
theorem kd_10_2 (j : Nat) {pc n : Nat} {i : Instr} (h : kdl_10_2[j]? = some (pc, i, n)) : decode cX10_init pc = .ok (i, n) := k_dg kdk_10_2 j h
theorem k_cl10 : k_Cl 10 RX10 TX10 46 tyX10 := ⟨rfl, tyX10_ok⟩
theorem k_ml10 : Cond.methodLink (pm_cn 10) 1 objectInit ∈ pm_G := pm_in_G (i := 854) (by decide +kernel)
set_option maxRecDepth 100000 in
theorem k_cd10 : Cond.code yX10_init cX10_init 2 none ∈ pm_G := List.mem_filter.mpr ⟨List.mem_of_getElem? (i := 853) rfl, rfl⟩
theorem k_im10 : Cond.instanceMethod yX10_init ∈ pm_G := pm_in_G (i := 852) (by decide +kernel)
theorem k_it10 : Cond.instantiable RX10 46 ∈ pm_G := pm_in_G (i := 850) (by decide +kernel)
theorem k_in10 : Cond.initialized RX10 ∈ pm_G := pm_in_G (i := 81) (by decide +kernel)
theorem k_ck12_7 : Cond.classLink (pm_cn 12) 7 RX9 ∈ pm_G := pm_in_G (i := 86) (by decide +kernel)
theorem k_mk12_9 : Cond.methodLink (pm_cn 12) 9 yX9_init ∈ pm_G := pm_in_G (i := 88) (by decide +kernel)
theorem k_ck9_9 : Cond.classLink (pm_cn 9) 9 RX6 ∈ pm_G := pm_in_G (i := 94) (by decide +kernel)
theorem k_ck9_16 : Cond.classLink (pm_cn 9) 16 RX2 ∈ pm_G := pm_in_G (i := 117) (by decide +kernel)
theorem k_ck9_22 : Cond.classLink (pm_cn 9) 22 RX0 ∈ pm_G := pm_in_G (i := 119) (by decide +kernel)
theorem k_ck9_28 : Cond.classLink (pm_cn 9) 28 RX5 ∈ pm_G := pm_in_G (i := 121) (by decide +kernel)
theorem k_ck9_35 : Cond.classLink (pm_cn 9) 35 RX8 ∈ pm_G := pm_in_G (i := 168) (by decide +kernel)
theorem k_ck9_42 : Cond.classLink (pm_cn 9) 42 RX7 ∈ pm_G := pm_in_G (i := 191) (by decide +kernel)
theorem k_ck9_49 : Cond.classLink (pm_cn 9) 49 RX3 ∈ pm_G := pm_in_G (i := 207) (by decide +kernel)
theorem k_mk9_51 : Cond.methodLink (pm_cn 9) 51 yX3_init ∈ pm_G := pm_in_G (i := 209) (by decide +kernel)
theorem k_ck9_56 : Cond.classLink (pm_cn 9) 56 RX4 ∈ pm_G := pm_in_G (i := 248) (by decide +kernel)
theorem k_ck9_63 : Cond.classLink (pm_cn 9) 63 RX1 ∈ pm_G := pm_in_G (i := 272) (by decide +kernel)
theorem k_ck12_10 : Cond.classLink (pm_cn 12) 10 RX10 ∈ pm_G := pm_in_G (i := 849) (by decide +kernel)
theorem k_mk12_12 : Cond.methodLink (pm_cn 12) 12 yX10_init ∈ pm_G := pm_in_G (i := 851) (by decide +kernel)
/-- the words that no contract's list may hold -/
def k_Nw (U : State) : Prop := va_Nw (.methodLinkNest RX9 11 yX6_init RX9) U ∧ va_Nw (.methodLinkNest RX9 30 yX5_init RX9) U ∧ va_Nw (.methodLinkNest RX9 37 yX8_init RX9) U ∧ va_Nw (.methodLinkNest RX9 44 yX7_init RX9) U ∧ va_Nw (.methodLinkNest RX9 58 yX4_init RX9) U ∧ va_Nw (.methodLinkNest RX9 65 yX1_init RX9) U ∧ va_Nw (.methodLinkNest RX9 80 yX2_init RX9) U ∧ va_Nw (.methodLinkNest RX9 81 yX0_init RX9) U ∧ va_AO RX2 U ∧ va_AO RX0 U
theorem k_Nw.warm {s U : State} (h : k_Nw s) (hW : s.WarmedH U.vm) : k_Nw U := by
  obtain ⟨h0, h1, h2, h3, h4, h5, h6, h7, h8, h9⟩ := h
  exact ⟨va_Nw.warmM hW h0, va_Nw.warmM hW h1, va_Nw.warmM hW h2, va_Nw.warmM hW h3, va_Nw.warmM hW h4, va_Nw.warmM hW h5, va_Nw.warmM hW h6, va_Nw.warmM hW h7, va_AO.moved hW.alike h8, va_AO.moved hW.alike h9⟩
theorem k_Nw.blind {U : State} {g : JFrame} {mk : MethodId} {v : Array Value} (h : k_Nw U) : k_Nw (U.calling g mk v) := by
  obtain ⟨h0, h1, h2, h3, h4, h5, h6, h7, h8, h9⟩ := h
  exact ⟨va_Nw.same rfl (u := U) rfl h0, va_Nw.same rfl (u := U) rfl h1, va_Nw.same rfl (u := U) rfl h2, va_Nw.same rfl (u := U) rfl h3, va_Nw.same rfl (u := U) rfl h4, va_Nw.same rfl (u := U) rfl h5, va_Nw.same rfl (u := U) rfl h6, va_Nw.same rfl (u := U) rfl h7, va_AO.moved (u := U) (Vm.Alike.refl U.vm) h8, va_AO.moved (u := U) (Vm.Alike.refl U.vm) h9⟩
theorem k_Nw.start {s : State} {args : Array Value} (hts : ∀ w ∈ lw_tbl, w.before args s = true) : k_Nw s := ⟨va_Nw.of rfl (hts _ (List.mem_of_getElem? (i := 96) (by decide +kernel))), va_Nw.of rfl (hts _ (List.mem_of_getElem? (i := 123) (by decide +kernel))), va_Nw.of rfl (hts _ (List.mem_of_getElem? (i := 170) (by decide +kernel))), va_Nw.of rfl (hts _ (List.mem_of_getElem? (i := 193) (by decide +kernel))), va_Nw.of rfl (hts _ (List.mem_of_getElem? (i := 250) (by decide +kernel))), va_Nw.of rfl (hts _ (List.mem_of_getElem? (i := 274) (by decide +kernel))), va_Nw.of rfl (hts _ (List.mem_of_getElem? (i := 295) (by decide +kernel))), va_Nw.of rfl (hts _ (List.mem_of_getElem? (i := 341) (by decide +kernel))), va_AO.of (hts _ (List.mem_of_getElem? (i := 118) (by decide +kernel))), va_AO.of (hts _ (List.mem_of_getElem? (i := 120) (by decide +kernel)))⟩
