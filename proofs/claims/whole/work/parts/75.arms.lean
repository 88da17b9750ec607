/-! the arms of the law, by program -/
theorem arm_0 {σ : pmS} (hI : Inv σ) {x3 : Int32} (h1 : ¬ ((σ.1 11 0 1 0) - (5 : Int32)) < x3) (v0 : vp_in x3 ((σ.1 11 0 1 0)).toNatClampNeg) (v1 : vp_in (x3 + (1 : Int32)) ((σ.1 11 0 1 0)).toNatClampNeg) (v2 : vp_in (x3 + (2 : Int32)) ((σ.1 11 0 1 0)).toNatClampNeg) (v3 : vp_in (x3 + (3 : Int32)) ((σ.1 11 0 1 0)).toNatClampNeg) (v4 : vp_in (x3 + (4 : Int32)) ((σ.1 11 0 1 0)).toNatClampNeg) (h3 : ((σ.1 11 0 0 (x3).toNatClampNeg) &&& (31 : Int32)) = (0 : Int32)) : ∃ σ2 : pmS, Inv σ2 ∧ σ2.1 11 = σ.1 11 ∧ pq_Rn (pq_RD 60) (183, 18, [some (vR 11 0 1), some (vR 9 0 0), some (vR 10 0 0), some (vI x3)], [], σ) = pq_Rn (pq_RD 60) (183, 1302, [some (vR 11 0 1), some (vR 9 0 0), some (vR 10 0 0), some (vI x3)], [], σ2) := by
  obtain ⟨r, σ1, σ2, e1, e2, hI2⟩ := T_feed hI ((((σ.1 11 0 0 ((x3 + (1 : Int32))).toNatClampNeg)).toInt64 <<< (((32 : Int32)).toInt64 &&& 63)) ||| (((σ.1 11 0 0 ((x3 + (2 : Int32))).toNatClampNeg)).toInt64 &&& (4294967295 : Int64))) (σ.1 11 0 0 ((x3 + (3 : Int32))).toNatClampNeg)
  have e3 := pq_no11 e1
  exact ⟨σ2, hI2, (pq_no11 e2).trans e3, g183_18_1 _ h1 v0 h3 v1 v2 v3 e1 (by rw [e3]; exact v1) (by rw [e3]; exact v2) (by rw [e3]; exact v3) (by rw [e3]; exact e2) rfl⟩
theorem arm_1 {σ : pmS} (hI : Inv σ) {x3 : Int32} (h1 : ¬ ((σ.1 11 0 1 0) - (5 : Int32)) < x3) (v0 : vp_in x3 ((σ.1 11 0 1 0)).toNatClampNeg) (v1 : vp_in (x3 + (1 : Int32)) ((σ.1 11 0 1 0)).toNatClampNeg) (v2 : vp_in (x3 + (2 : Int32)) ((σ.1 11 0 1 0)).toNatClampNeg) (v3 : vp_in (x3 + (3 : Int32)) ((σ.1 11 0 1 0)).toNatClampNeg) (v4 : vp_in (x3 + (4 : Int32)) ((σ.1 11 0 1 0)).toNatClampNeg) (h3 : ((σ.1 11 0 0 (x3).toNatClampNeg) &&& (31 : Int32)) = (1 : Int32)) : ∃ σ2 : pmS, Inv σ2 ∧ σ2.1 11 = σ.1 11 ∧ pq_Rn (pq_RD 60) (183, 18, [some (vR 11 0 1), some (vR 9 0 0), some (vR 10 0 0), some (vI x3)], [], σ) = pq_Rn (pq_RD 60) (183, 1302, [some (vR 11 0 1), some (vR 9 0 0), some (vR 10 0 0), some (vI x3)], [], σ2) := by
  obtain ⟨r, σ1, σ2, e1, e2, hI2⟩ := T_system hI 
  have e3 := pq_no11 e1
  exact ⟨σ2, hI2, (pq_no11 e2).trans e3, g183_18_3 _ h1 v0 h3 e1 e2 rfl⟩
theorem arm_2 {σ : pmS} (hI : Inv σ) {x3 : Int32} (h1 : ¬ ((σ.1 11 0 1 0) - (5 : Int32)) < x3) (v0 : vp_in x3 ((σ.1 11 0 1 0)).toNatClampNeg) (v1 : vp_in (x3 + (1 : Int32)) ((σ.1 11 0 1 0)).toNatClampNeg) (v2 : vp_in (x3 + (2 : Int32)) ((σ.1 11 0 1 0)).toNatClampNeg) (v3 : vp_in (x3 + (3 : Int32)) ((σ.1 11 0 1 0)).toNatClampNeg) (v4 : vp_in (x3 + (4 : Int32)) ((σ.1 11 0 1 0)).toNatClampNeg) (h3 : ((σ.1 11 0 0 (x3).toNatClampNeg) &&& (31 : Int32)) = (2 : Int32)) : ∃ σ2 : pmS, Inv σ2 ∧ σ2.1 11 = σ.1 11 ∧ pq_Rn (pq_RD 60) (183, 18, [some (vR 11 0 1), some (vR 9 0 0), some (vR 10 0 0), some (vI x3)], [], σ) = pq_Rn (pq_RD 60) (183, 1302, [some (vR 11 0 1), some (vR 9 0 0), some (vR 10 0 0), some (vI x3)], [], σ2) := by
  obtain ⟨r, σ1, σ2, e1, e2, hI2⟩ := T_fault hI (σ.1 11 0 0 ((x3 + (1 : Int32))).toNatClampNeg)
  have e3 := pq_no11 e1
  exact ⟨σ2, hI2, (pq_no11 e2).trans e3, g183_18_5 _ h1 v0 h3 v1 e1 (by rw [e3]; exact v1) (by rw [e3]; exact e2) rfl⟩
theorem arm_3 {σ : pmS} (hI : Inv σ) {x3 : Int32} (h1 : ¬ ((σ.1 11 0 1 0) - (5 : Int32)) < x3) (v0 : vp_in x3 ((σ.1 11 0 1 0)).toNatClampNeg) (v1 : vp_in (x3 + (1 : Int32)) ((σ.1 11 0 1 0)).toNatClampNeg) (v2 : vp_in (x3 + (2 : Int32)) ((σ.1 11 0 1 0)).toNatClampNeg) (v3 : vp_in (x3 + (3 : Int32)) ((σ.1 11 0 1 0)).toNatClampNeg) (v4 : vp_in (x3 + (4 : Int32)) ((σ.1 11 0 1 0)).toNatClampNeg) (h3 : ((σ.1 11 0 0 (x3).toNatClampNeg) &&& (31 : Int32)) = (3 : Int32)) : ∃ σ2 : pmS, Inv σ2 ∧ σ2.1 11 = σ.1 11 ∧ pq_Rn (pq_RD 60) (183, 18, [some (vR 11 0 1), some (vR 9 0 0), some (vR 10 0 0), some (vI x3)], [], σ) = pq_Rn (pq_RD 60) (183, 1302, [some (vR 11 0 1), some (vR 9 0 0), some (vR 10 0 0), some (vI x3)], [], σ2) := by
  obtain ⟨r, σ1, σ2, e1, e2, hI2⟩ := T_table hI (σ.1 11 0 0 ((x3 + (1 : Int32))).toNatClampNeg) (σ.1 11 0 0 ((x3 + (2 : Int32))).toNatClampNeg) (σ.1 11 0 0 ((x3 + (3 : Int32))).toNatClampNeg)
  have e3 := pq_no11 e1
  exact ⟨σ2, hI2, (pq_no11 e2).trans e3, g183_18_7 _ h1 v0 h3 v1 v2 v3 e1 (by rw [e3]; exact v1) (by rw [e3]; exact v2) (by rw [e3]; exact v3) (by rw [e3]; exact e2) rfl⟩
theorem arm_4 {σ : pmS} (hI : Inv σ) {x3 : Int32} (h1 : ¬ ((σ.1 11 0 1 0) - (5 : Int32)) < x3) (v0 : vp_in x3 ((σ.1 11 0 1 0)).toNatClampNeg) (v1 : vp_in (x3 + (1 : Int32)) ((σ.1 11 0 1 0)).toNatClampNeg) (v2 : vp_in (x3 + (2 : Int32)) ((σ.1 11 0 1 0)).toNatClampNeg) (v3 : vp_in (x3 + (3 : Int32)) ((σ.1 11 0 1 0)).toNatClampNeg) (v4 : vp_in (x3 + (4 : Int32)) ((σ.1 11 0 1 0)).toNatClampNeg) (h3 : ((σ.1 11 0 0 (x3).toNatClampNeg) &&& (31 : Int32)) = (4 : Int32)) : ∃ σ2 : pmS, Inv σ2 ∧ σ2.1 11 = σ.1 11 ∧ pq_Rn (pq_RD 60) (183, 18, [some (vR 11 0 1), some (vR 9 0 0), some (vR 10 0 0), some (vI x3)], [], σ) = pq_Rn (pq_RD 60) (183, 1302, [some (vR 11 0 1), some (vR 9 0 0), some (vR 10 0 0), some (vI x3)], [], σ2) := by
  obtain ⟨r, σ1, σ2, e1, e2, hI2⟩ := T_kin hI (σ.1 11 0 0 ((x3 + (1 : Int32))).toNatClampNeg) (σ.1 11 0 0 ((x3 + (2 : Int32))).toNatClampNeg) (σ.1 11 0 0 ((x3 + (3 : Int32))).toNatClampNeg) (σ.1 11 0 0 ((x3 + (4 : Int32))).toNatClampNeg)
  have e3 := pq_no11 e1
  exact ⟨σ2, hI2, (pq_no11 e2).trans e3, g183_18_9 _ h1 v0 h3 v1 v2 v3 v4 e1 (by rw [e3]; exact v1) (by rw [e3]; exact v2) (by rw [e3]; exact v3) (by rw [e3]; exact v4) (by rw [e3]; exact e2) rfl⟩
theorem arm_5 {σ : pmS} (hI : Inv σ) {x3 : Int32} (h1 : ¬ ((σ.1 11 0 1 0) - (5 : Int32)) < x3) (v0 : vp_in x3 ((σ.1 11 0 1 0)).toNatClampNeg) (v1 : vp_in (x3 + (1 : Int32)) ((σ.1 11 0 1 0)).toNatClampNeg) (v2 : vp_in (x3 + (2 : Int32)) ((σ.1 11 0 1 0)).toNatClampNeg) (v3 : vp_in (x3 + (3 : Int32)) ((σ.1 11 0 1 0)).toNatClampNeg) (v4 : vp_in (x3 + (4 : Int32)) ((σ.1 11 0 1 0)).toNatClampNeg) (h3 : ((σ.1 11 0 0 (x3).toNatClampNeg) &&& (31 : Int32)) = (5 : Int32)) : ∃ σ2 : pmS, Inv σ2 ∧ σ2.1 11 = σ.1 11 ∧ pq_Rn (pq_RD 60) (183, 18, [some (vR 11 0 1), some (vR 9 0 0), some (vR 10 0 0), some (vI x3)], [], σ) = pq_Rn (pq_RD 60) (183, 1302, [some (vR 11 0 1), some (vR 9 0 0), some (vR 10 0 0), some (vI x3)], [], σ2) := by
  obtain ⟨r, σ1, σ2, e1, e2, hI2⟩ := T_alike hI (σ.1 11 0 0 ((x3 + (1 : Int32))).toNatClampNeg) (σ.1 11 0 0 ((x3 + (2 : Int32))).toNatClampNeg) (σ.1 11 0 0 ((x3 + (3 : Int32))).toNatClampNeg) (σ.1 11 0 0 ((x3 + (4 : Int32))).toNatClampNeg)
  have e3 := pq_no11 e1
  exact ⟨σ2, hI2, (pq_no11 e2).trans e3, g183_18_11 _ h1 v0 h3 v1 v2 v3 v4 e1 (by rw [e3]; exact v1) (by rw [e3]; exact v2) (by rw [e3]; exact v3) (by rw [e3]; exact v4) (by rw [e3]; exact e2) rfl⟩
theorem arm_6 {σ : pmS} (hI : Inv σ) {x3 : Int32} (h1 : ¬ ((σ.1 11 0 1 0) - (5 : Int32)) < x3) (v0 : vp_in x3 ((σ.1 11 0 1 0)).toNatClampNeg) (v1 : vp_in (x3 + (1 : Int32)) ((σ.1 11 0 1 0)).toNatClampNeg) (v2 : vp_in (x3 + (2 : Int32)) ((σ.1 11 0 1 0)).toNatClampNeg) (v3 : vp_in (x3 + (3 : Int32)) ((σ.1 11 0 1 0)).toNatClampNeg) (v4 : vp_in (x3 + (4 : Int32)) ((σ.1 11 0 1 0)).toNatClampNeg) (h3 : ((σ.1 11 0 0 (x3).toNatClampNeg) &&& (31 : Int32)) = (6 : Int32)) : ∃ σ2 : pmS, Inv σ2 ∧ σ2.1 11 = σ.1 11 ∧ pq_Rn (pq_RD 60) (183, 18, [some (vR 11 0 1), some (vR 9 0 0), some (vR 10 0 0), some (vI x3)], [], σ) = pq_Rn (pq_RD 60) (183, 1302, [some (vR 11 0 1), some (vR 9 0 0), some (vR 10 0 0), some (vI x3)], [], σ2) := by
  obtain ⟨r, σ1, σ2, e1, e2, hI2⟩ := T_home hI (σ.1 11 0 0 ((x3 + (1 : Int32))).toNatClampNeg) (σ.1 11 0 0 ((x3 + (2 : Int32))).toNatClampNeg) (σ.1 11 0 0 ((x3 + (3 : Int32))).toNatClampNeg)
  have e3 := pq_no11 e1
  exact ⟨σ2, hI2, (pq_no11 e2).trans e3, g183_18_13 _ h1 v0 h3 v1 v2 v3 e1 (by rw [e3]; exact v1) (by rw [e3]; exact v2) (by rw [e3]; exact v3) (by rw [e3]; exact e2) rfl⟩
theorem arm_7 {σ : pmS} (hI : Inv σ) {x3 : Int32} (h1 : ¬ ((σ.1 11 0 1 0) - (5 : Int32)) < x3) (v0 : vp_in x3 ((σ.1 11 0 1 0)).toNatClampNeg) (v1 : vp_in (x3 + (1 : Int32)) ((σ.1 11 0 1 0)).toNatClampNeg) (v2 : vp_in (x3 + (2 : Int32)) ((σ.1 11 0 1 0)).toNatClampNeg) (v3 : vp_in (x3 + (3 : Int32)) ((σ.1 11 0 1 0)).toNatClampNeg) (v4 : vp_in (x3 + (4 : Int32)) ((σ.1 11 0 1 0)).toNatClampNeg) (h3 : ((σ.1 11 0 0 (x3).toNatClampNeg) &&& (31 : Int32)) = (7 : Int32)) : ∃ σ2 : pmS, Inv σ2 ∧ σ2.1 11 = σ.1 11 ∧ pq_Rn (pq_RD 60) (183, 18, [some (vR 11 0 1), some (vR 9 0 0), some (vR 10 0 0), some (vI x3)], [], σ) = pq_Rn (pq_RD 60) (183, 1302, [some (vR 11 0 1), some (vR 9 0 0), some (vR 10 0 0), some (vI x3)], [], σ2) := by
  obtain ⟨r, σ1, σ2, e1, e2, hI2⟩ := T_brides hI (σ.1 11 0 0 ((x3 + (1 : Int32))).toNatClampNeg) (σ.1 11 0 0 ((x3 + (2 : Int32))).toNatClampNeg) (σ.1 11 0 0 ((x3 + (3 : Int32))).toNatClampNeg)
  have e3 := pq_no11 e1
  exact ⟨σ2, hI2, (pq_no11 e2).trans e3, g183_18_15 _ h1 v0 h3 v1 v2 v3 e1 (by rw [e3]; exact v1) (by rw [e3]; exact v2) (by rw [e3]; exact v3) (by rw [e3]; exact e2) rfl⟩
theorem arm_8 {σ : pmS} (hI : Inv σ) {x3 : Int32} (h1 : ¬ ((σ.1 11 0 1 0) - (5 : Int32)) < x3) (v0 : vp_in x3 ((σ.1 11 0 1 0)).toNatClampNeg) (v1 : vp_in (x3 + (1 : Int32)) ((σ.1 11 0 1 0)).toNatClampNeg) (v2 : vp_in (x3 + (2 : Int32)) ((σ.1 11 0 1 0)).toNatClampNeg) (v3 : vp_in (x3 + (3 : Int32)) ((σ.1 11 0 1 0)).toNatClampNeg) (v4 : vp_in (x3 + (4 : Int32)) ((σ.1 11 0 1 0)).toNatClampNeg) (h3 : ((σ.1 11 0 0 (x3).toNatClampNeg) &&& (31 : Int32)) = (8 : Int32)) : ∃ σ2 : pmS, Inv σ2 ∧ σ2.1 11 = σ.1 11 ∧ pq_Rn (pq_RD 60) (183, 18, [some (vR 11 0 1), some (vR 9 0 0), some (vR 10 0 0), some (vI x3)], [], σ) = pq_Rn (pq_RD 60) (183, 1302, [some (vR 11 0 1), some (vR 9 0 0), some (vR 10 0 0), some (vI x3)], [], σ2) := by
  obtain ⟨r, σ1, σ2, e1, e2, hI2⟩ := T_group hI (σ.1 11 0 0 ((x3 + (1 : Int32))).toNatClampNeg)
  have e3 := pq_no11 e1
  exact ⟨σ2, hI2, (pq_no11 e2).trans e3, g183_18_17 _ h1 v0 h3 v1 e1 (by rw [e3]; exact v1) (by rw [e3]; exact e2) rfl⟩
theorem arm_9 {σ : pmS} (hI : Inv σ) {x3 : Int32} (h1 : ¬ ((σ.1 11 0 1 0) - (5 : Int32)) < x3) (v0 : vp_in x3 ((σ.1 11 0 1 0)).toNatClampNeg) (v1 : vp_in (x3 + (1 : Int32)) ((σ.1 11 0 1 0)).toNatClampNeg) (v2 : vp_in (x3 + (2 : Int32)) ((σ.1 11 0 1 0)).toNatClampNeg) (v3 : vp_in (x3 + (3 : Int32)) ((σ.1 11 0 1 0)).toNatClampNeg) (v4 : vp_in (x3 + (4 : Int32)) ((σ.1 11 0 1 0)).toNatClampNeg) (h3 : ((σ.1 11 0 0 (x3).toNatClampNeg) &&& (31 : Int32)) = (9 : Int32)) : ∃ σ2 : pmS, Inv σ2 ∧ σ2.1 11 = σ.1 11 ∧ pq_Rn (pq_RD 60) (183, 18, [some (vR 11 0 1), some (vR 9 0 0), some (vR 10 0 0), some (vI x3)], [], σ) = pq_Rn (pq_RD 60) (183, 1302, [some (vR 11 0 1), some (vR 9 0 0), some (vR 10 0 0), some (vI x3)], [], σ2) := by
  obtain ⟨r, σ1, σ2, e1, e2, hI2⟩ := T_half hI (σ.1 11 0 0 ((x3 + (1 : Int32))).toNatClampNeg) (σ.1 11 0 0 ((x3 + (2 : Int32))).toNatClampNeg)
  have e3 := pq_no11 e1
  exact ⟨σ2, hI2, (pq_no11 e2).trans e3, g183_18_19 _ h1 v0 h3 v1 v2 e1 (by rw [e3]; exact v1) (by rw [e3]; exact v2) (by rw [e3]; exact e2) rfl⟩
theorem arm_10 {σ : pmS} (hI : Inv σ) {x3 : Int32} (h1 : ¬ ((σ.1 11 0 1 0) - (5 : Int32)) < x3) (v0 : vp_in x3 ((σ.1 11 0 1 0)).toNatClampNeg) (v1 : vp_in (x3 + (1 : Int32)) ((σ.1 11 0 1 0)).toNatClampNeg) (v2 : vp_in (x3 + (2 : Int32)) ((σ.1 11 0 1 0)).toNatClampNeg) (v3 : vp_in (x3 + (3 : Int32)) ((σ.1 11 0 1 0)).toNatClampNeg) (v4 : vp_in (x3 + (4 : Int32)) ((σ.1 11 0 1 0)).toNatClampNeg) (h3 : ((σ.1 11 0 0 (x3).toNatClampNeg) &&& (31 : Int32)) = (10 : Int32)) : ∃ σ2 : pmS, Inv σ2 ∧ σ2.1 11 = σ.1 11 ∧ pq_Rn (pq_RD 60) (183, 18, [some (vR 11 0 1), some (vR 9 0 0), some (vR 10 0 0), some (vI x3)], [], σ) = pq_Rn (pq_RD 60) (183, 1302, [some (vR 11 0 1), some (vR 9 0 0), some (vR 10 0 0), some (vI x3)], [], σ2) := by
  obtain ⟨r, σ1, σ2, e1, e2, hI2⟩ := T_halves hI (σ.1 11 0 0 ((x3 + (1 : Int32))).toNatClampNeg) (σ.1 11 0 0 ((x3 + (2 : Int32))).toNatClampNeg)
  have e3 := pq_no11 e1
  exact ⟨σ2, hI2, (pq_no11 e2).trans e3, g183_18_21 _ h1 v0 h3 v1 v2 e1 (by rw [e3]; exact v1) (by rw [e3]; exact v2) (by rw [e3]; exact e2) rfl⟩
theorem arm_11 {σ : pmS} (hI : Inv σ) {x3 : Int32} (h1 : ¬ ((σ.1 11 0 1 0) - (5 : Int32)) < x3) (v0 : vp_in x3 ((σ.1 11 0 1 0)).toNatClampNeg) (v1 : vp_in (x3 + (1 : Int32)) ((σ.1 11 0 1 0)).toNatClampNeg) (v2 : vp_in (x3 + (2 : Int32)) ((σ.1 11 0 1 0)).toNatClampNeg) (v3 : vp_in (x3 + (3 : Int32)) ((σ.1 11 0 1 0)).toNatClampNeg) (v4 : vp_in (x3 + (4 : Int32)) ((σ.1 11 0 1 0)).toNatClampNeg) (h3 : ((σ.1 11 0 0 (x3).toNatClampNeg) &&& (31 : Int32)) = (11 : Int32)) : ∃ σ2 : pmS, Inv σ2 ∧ σ2.1 11 = σ.1 11 ∧ pq_Rn (pq_RD 60) (183, 18, [some (vR 11 0 1), some (vR 9 0 0), some (vR 10 0 0), some (vI x3)], [], σ) = pq_Rn (pq_RD 60) (183, 1302, [some (vR 11 0 1), some (vR 9 0 0), some (vR 10 0 0), some (vI x3)], [], σ2) := by
  obtain ⟨r, σ1, σ2, e1, e2, hI2⟩ := T_camp hI (σ.1 11 0 0 ((x3 + (1 : Int32))).toNatClampNeg) (σ.1 11 0 0 ((x3 + (2 : Int32))).toNatClampNeg)
  have e3 := pq_no11 e1
  exact ⟨σ2, hI2, (pq_no11 e2).trans e3, g183_18_23 _ h1 v0 h3 v1 v2 e1 (by rw [e3]; exact v1) (by rw [e3]; exact v2) (by rw [e3]; exact e2) rfl⟩
theorem arm_12 {σ : pmS} (hI : Inv σ) {x3 : Int32} (h1 : ¬ ((σ.1 11 0 1 0) - (5 : Int32)) < x3) (v0 : vp_in x3 ((σ.1 11 0 1 0)).toNatClampNeg) (v1 : vp_in (x3 + (1 : Int32)) ((σ.1 11 0 1 0)).toNatClampNeg) (v2 : vp_in (x3 + (2 : Int32)) ((σ.1 11 0 1 0)).toNatClampNeg) (v3 : vp_in (x3 + (3 : Int32)) ((σ.1 11 0 1 0)).toNatClampNeg) (v4 : vp_in (x3 + (4 : Int32)) ((σ.1 11 0 1 0)).toNatClampNeg) (h3 : ((σ.1 11 0 0 (x3).toNatClampNeg) &&& (31 : Int32)) = (12 : Int32)) : ∃ σ2 : pmS, Inv σ2 ∧ σ2.1 11 = σ.1 11 ∧ pq_Rn (pq_RD 60) (183, 18, [some (vR 11 0 1), some (vR 9 0 0), some (vR 10 0 0), some (vI x3)], [], σ) = pq_Rn (pq_RD 60) (183, 1302, [some (vR 11 0 1), some (vR 9 0 0), some (vR 10 0 0), some (vI x3)], [], σ2) := by
  obtain ⟨r, σ1, σ2, e1, e2, hI2⟩ := T_law hI (σ.1 11 0 0 ((x3 + (1 : Int32))).toNatClampNeg) (σ.1 11 0 0 ((x3 + (2 : Int32))).toNatClampNeg) (σ.1 11 0 0 ((x3 + (3 : Int32))).toNatClampNeg) (σ.1 11 0 0 ((x3 + (4 : Int32))).toNatClampNeg)
  have e3 := pq_no11 e1
  exact ⟨σ2, hI2, (pq_no11 e2).trans e3, g183_18_25 _ h1 v0 h3 v1 v2 v3 v4 e1 (by rw [e3]; exact v1) (by rw [e3]; exact v2) (by rw [e3]; exact v3) (by rw [e3]; exact v4) (by rw [e3]; exact e2) rfl⟩
theorem arm_13 {σ : pmS} (hI : Inv σ) {x3 : Int32} (h1 : ¬ ((σ.1 11 0 1 0) - (5 : Int32)) < x3) (v0 : vp_in x3 ((σ.1 11 0 1 0)).toNatClampNeg) (v1 : vp_in (x3 + (1 : Int32)) ((σ.1 11 0 1 0)).toNatClampNeg) (v2 : vp_in (x3 + (2 : Int32)) ((σ.1 11 0 1 0)).toNatClampNeg) (v3 : vp_in (x3 + (3 : Int32)) ((σ.1 11 0 1 0)).toNatClampNeg) (v4 : vp_in (x3 + (4 : Int32)) ((σ.1 11 0 1 0)).toNatClampNeg) (h3 : ((σ.1 11 0 0 (x3).toNatClampNeg) &&& (31 : Int32)) = (13 : Int32)) : ∃ σ2 : pmS, Inv σ2 ∧ σ2.1 11 = σ.1 11 ∧ pq_Rn (pq_RD 60) (183, 18, [some (vR 11 0 1), some (vR 9 0 0), some (vR 10 0 0), some (vI x3)], [], σ) = pq_Rn (pq_RD 60) (183, 1302, [some (vR 11 0 1), some (vR 9 0 0), some (vR 10 0 0), some (vI x3)], [], σ2) := by
  obtain ⟨r, σ1, σ2, e1, e2, hI2⟩ := T_stranger hI (σ.1 11 0 0 ((x3 + (1 : Int32))).toNatClampNeg) (σ.1 11 0 0 ((x3 + (2 : Int32))).toNatClampNeg) (σ.1 11 0 0 ((x3 + (3 : Int32))).toNatClampNeg) (σ.1 11 0 0 ((x3 + (4 : Int32))).toNatClampNeg)
  have e3 := pq_no11 e1
  exact ⟨σ2, hI2, (pq_no11 e2).trans e3, g183_18_27 _ h1 v0 h3 v1 v2 v3 v4 e1 (by rw [e3]; exact v1) (by rw [e3]; exact v2) (by rw [e3]; exact v3) (by rw [e3]; exact v4) (by rw [e3]; exact e2) rfl⟩
theorem arm_14 {σ : pmS} (hI : Inv σ) {x3 : Int32} (h1 : ¬ ((σ.1 11 0 1 0) - (5 : Int32)) < x3) (v0 : vp_in x3 ((σ.1 11 0 1 0)).toNatClampNeg) (v1 : vp_in (x3 + (1 : Int32)) ((σ.1 11 0 1 0)).toNatClampNeg) (v2 : vp_in (x3 + (2 : Int32)) ((σ.1 11 0 1 0)).toNatClampNeg) (v3 : vp_in (x3 + (3 : Int32)) ((σ.1 11 0 1 0)).toNatClampNeg) (v4 : vp_in (x3 + (4 : Int32)) ((σ.1 11 0 1 0)).toNatClampNeg) (h3 : ((σ.1 11 0 0 (x3).toNatClampNeg) &&& (31 : Int32)) = (14 : Int32)) : ∃ σ2 : pmS, Inv σ2 ∧ σ2.1 11 = σ.1 11 ∧ pq_Rn (pq_RD 60) (183, 18, [some (vR 11 0 1), some (vR 9 0 0), some (vR 10 0 0), some (vI x3)], [], σ) = pq_Rn (pq_RD 60) (183, 1302, [some (vR 11 0 1), some (vR 9 0 0), some (vR 10 0 0), some (vI x3)], [], σ2) := by
  obtain ⟨r, σ1, σ2, e1, e2, hI2⟩ := T_born hI (σ.1 11 0 0 ((x3 + (1 : Int32))).toNatClampNeg) (σ.1 11 0 0 ((x3 + (2 : Int32))).toNatClampNeg) (σ.1 11 0 0 ((x3 + (3 : Int32))).toNatClampNeg) (σ.1 11 0 0 ((x3 + (4 : Int32))).toNatClampNeg)
  have e3 := pq_no11 e1
  exact ⟨σ2, hI2, (pq_no11 e2).trans e3, g183_18_29 _ h1 v0 h3 v1 v2 v3 v4 e1 (by rw [e3]; exact v1) (by rw [e3]; exact v2) (by rw [e3]; exact v3) (by rw [e3]; exact v4) (by rw [e3]; exact e2) rfl⟩
theorem arm_15 {σ : pmS} (hI : Inv σ) {x3 : Int32} (h1 : ¬ ((σ.1 11 0 1 0) - (5 : Int32)) < x3) (v0 : vp_in x3 ((σ.1 11 0 1 0)).toNatClampNeg) (v1 : vp_in (x3 + (1 : Int32)) ((σ.1 11 0 1 0)).toNatClampNeg) (v2 : vp_in (x3 + (2 : Int32)) ((σ.1 11 0 1 0)).toNatClampNeg) (v3 : vp_in (x3 + (3 : Int32)) ((σ.1 11 0 1 0)).toNatClampNeg) (v4 : vp_in (x3 + (4 : Int32)) ((σ.1 11 0 1 0)).toNatClampNeg) (h3 : ((σ.1 11 0 0 (x3).toNatClampNeg) &&& (31 : Int32)) = (15 : Int32)) : ∃ σ2 : pmS, Inv σ2 ∧ σ2.1 11 = σ.1 11 ∧ pq_Rn (pq_RD 60) (183, 18, [some (vR 11 0 1), some (vR 9 0 0), some (vR 10 0 0), some (vI x3)], [], σ) = pq_Rn (pq_RD 60) (183, 1302, [some (vR 11 0 1), some (vR 9 0 0), some (vR 10 0 0), some (vI x3)], [], σ2) := by
  obtain ⟨r, σ1, σ2, e1, e2, hI2⟩ := T_die hI (σ.1 11 0 0 ((x3 + (1 : Int32))).toNatClampNeg) (σ.1 11 0 0 ((x3 + (2 : Int32))).toNatClampNeg)
  have e3 := pq_no11 e1
  exact ⟨σ2, hI2, (pq_no11 e2).trans e3, g183_18_31 _ h1 v0 h3 v1 v2 e1 (by rw [e3]; exact v1) (by rw [e3]; exact v2) (by rw [e3]; exact e2) rfl⟩
theorem arm_16 {σ : pmS} (hI : Inv σ) {x3 : Int32} (h1 : ¬ ((σ.1 11 0 1 0) - (5 : Int32)) < x3) (v0 : vp_in x3 ((σ.1 11 0 1 0)).toNatClampNeg) (v1 : vp_in (x3 + (1 : Int32)) ((σ.1 11 0 1 0)).toNatClampNeg) (v2 : vp_in (x3 + (2 : Int32)) ((σ.1 11 0 1 0)).toNatClampNeg) (v3 : vp_in (x3 + (3 : Int32)) ((σ.1 11 0 1 0)).toNatClampNeg) (v4 : vp_in (x3 + (4 : Int32)) ((σ.1 11 0 1 0)).toNatClampNeg) (h3 : ((σ.1 11 0 0 (x3).toNatClampNeg) &&& (31 : Int32)) = (16 : Int32)) : ∃ σ2 : pmS, Inv σ2 ∧ σ2.1 11 = σ.1 11 ∧ pq_Rn (pq_RD 60) (183, 18, [some (vR 11 0 1), some (vR 9 0 0), some (vR 10 0 0), some (vI x3)], [], σ) = pq_Rn (pq_RD 60) (183, 1302, [some (vR 11 0 1), some (vR 9 0 0), some (vR 10 0 0), some (vI x3)], [], σ2) := by
  obtain ⟨r, σ1, σ2, e1, e2, hI2⟩ := T_age hI (σ.1 11 0 0 ((x3 + (1 : Int32))).toNatClampNeg)
  have e3 := pq_no11 e1
  exact ⟨σ2, hI2, (pq_no11 e2).trans e3, g183_18_33 _ h1 v0 h3 v1 e1 (by rw [e3]; exact v1) (by rw [e3]; exact e2) rfl⟩
theorem arm_17 {σ : pmS} (hI : Inv σ) {x3 : Int32} (h1 : ¬ ((σ.1 11 0 1 0) - (5 : Int32)) < x3) (v0 : vp_in x3 ((σ.1 11 0 1 0)).toNatClampNeg) (v1 : vp_in (x3 + (1 : Int32)) ((σ.1 11 0 1 0)).toNatClampNeg) (v2 : vp_in (x3 + (2 : Int32)) ((σ.1 11 0 1 0)).toNatClampNeg) (v3 : vp_in (x3 + (3 : Int32)) ((σ.1 11 0 1 0)).toNatClampNeg) (v4 : vp_in (x3 + (4 : Int32)) ((σ.1 11 0 1 0)).toNatClampNeg) (h3 : ((σ.1 11 0 0 (x3).toNatClampNeg) &&& (31 : Int32)) = (17 : Int32)) : ∃ σ2 : pmS, Inv σ2 ∧ σ2.1 11 = σ.1 11 ∧ pq_Rn (pq_RD 60) (183, 18, [some (vR 11 0 1), some (vR 9 0 0), some (vR 10 0 0), some (vI x3)], [], σ) = pq_Rn (pq_RD 60) (183, 1302, [some (vR 11 0 1), some (vR 9 0 0), some (vR 10 0 0), some (vI x3)], [], σ2) := by
  obtain ⟨r, σ1, σ2, e1, e2, hI2⟩ := T_marry hI (σ.1 11 0 0 ((x3 + (1 : Int32))).toNatClampNeg) (σ.1 11 0 0 ((x3 + (2 : Int32))).toNatClampNeg) (σ.1 11 0 0 ((x3 + (3 : Int32))).toNatClampNeg)
  have e3 := pq_no11 e1
  exact ⟨σ2, hI2, (pq_no11 e2).trans e3, g183_18_35 _ h1 v0 h3 v1 v2 v3 e1 (by rw [e3]; exact v1) (by rw [e3]; exact v2) (by rw [e3]; exact v3) (by rw [e3]; exact e2) rfl⟩
theorem arm_18 {σ : pmS} (hI : Inv σ) {x3 : Int32} (h1 : ¬ ((σ.1 11 0 1 0) - (5 : Int32)) < x3) (v0 : vp_in x3 ((σ.1 11 0 1 0)).toNatClampNeg) (v1 : vp_in (x3 + (1 : Int32)) ((σ.1 11 0 1 0)).toNatClampNeg) (v2 : vp_in (x3 + (2 : Int32)) ((σ.1 11 0 1 0)).toNatClampNeg) (v3 : vp_in (x3 + (3 : Int32)) ((σ.1 11 0 1 0)).toNatClampNeg) (v4 : vp_in (x3 + (4 : Int32)) ((σ.1 11 0 1 0)).toNatClampNeg) (h3 : ((σ.1 11 0 0 (x3).toNatClampNeg) &&& (31 : Int32)) = (18 : Int32)) : ∃ σ2 : pmS, Inv σ2 ∧ σ2.1 11 = σ.1 11 ∧ pq_Rn (pq_RD 60) (183, 18, [some (vR 11 0 1), some (vR 9 0 0), some (vR 10 0 0), some (vI x3)], [], σ) = pq_Rn (pq_RD 60) (183, 1302, [some (vR 11 0 1), some (vR 9 0 0), some (vR 10 0 0), some (vI x3)], [], σ2) := by
  obtain ⟨r, σ1, σ2, e1, e2, hI2⟩ := T_may hI (σ.1 11 0 0 ((x3 + (1 : Int32))).toNatClampNeg) (σ.1 11 0 0 ((x3 + (2 : Int32))).toNatClampNeg) (σ.1 11 0 0 ((x3 + (3 : Int32))).toNatClampNeg)
  have e3 := pq_no11 e1
  exact ⟨σ2, hI2, (pq_no11 e2).trans e3, g183_18_37 _ h1 v0 h3 v1 v2 v3 e1 (by rw [e3]; exact v1) (by rw [e3]; exact v2) (by rw [e3]; exact v3) (by rw [e3]; exact e2) rfl⟩
theorem arm_19 {σ : pmS} (hI : Inv σ) {x3 : Int32} (h1 : ¬ ((σ.1 11 0 1 0) - (5 : Int32)) < x3) (v0 : vp_in x3 ((σ.1 11 0 1 0)).toNatClampNeg) (v1 : vp_in (x3 + (1 : Int32)) ((σ.1 11 0 1 0)).toNatClampNeg) (v2 : vp_in (x3 + (2 : Int32)) ((σ.1 11 0 1 0)).toNatClampNeg) (v3 : vp_in (x3 + (3 : Int32)) ((σ.1 11 0 1 0)).toNatClampNeg) (v4 : vp_in (x3 + (4 : Int32)) ((σ.1 11 0 1 0)).toNatClampNeg) (h3 : ((σ.1 11 0 0 (x3).toNatClampNeg) &&& (31 : Int32)) = (19 : Int32)) : ∃ σ2 : pmS, Inv σ2 ∧ σ2.1 11 = σ.1 11 ∧ pq_Rn (pq_RD 60) (183, 18, [some (vR 11 0 1), some (vR 9 0 0), some (vR 10 0 0), some (vI x3)], [], σ) = pq_Rn (pq_RD 60) (183, 1302, [some (vR 11 0 1), some (vR 9 0 0), some (vR 10 0 0), some (vI x3)], [], σ2) := by
  obtain ⟨r, σ1, σ2, e1, e2, hI2⟩ := T_about hI (σ.1 11 0 0 ((x3 + (1 : Int32))).toNatClampNeg) (σ.1 11 0 0 ((x3 + (2 : Int32))).toNatClampNeg)
  have e3 := pq_no11 e1
  exact ⟨σ2, hI2, (pq_no11 e2).trans e3, g183_18_39 _ h1 v0 h3 v1 v2 e1 (by rw [e3]; exact v1) (by rw [e3]; exact v2) (by rw [e3]; exact e2) rfl⟩
theorem arm_20 {σ : pmS} (hI : Inv σ) {x3 : Int32} (h1 : ¬ ((σ.1 11 0 1 0) - (5 : Int32)) < x3) (v0 : vp_in x3 ((σ.1 11 0 1 0)).toNatClampNeg) (v1 : vp_in (x3 + (1 : Int32)) ((σ.1 11 0 1 0)).toNatClampNeg) (v2 : vp_in (x3 + (2 : Int32)) ((σ.1 11 0 1 0)).toNatClampNeg) (v3 : vp_in (x3 + (3 : Int32)) ((σ.1 11 0 1 0)).toNatClampNeg) (v4 : vp_in (x3 + (4 : Int32)) ((σ.1 11 0 1 0)).toNatClampNeg) (h3 : ((σ.1 11 0 0 (x3).toNatClampNeg) &&& (31 : Int32)) = (20 : Int32)) : ∃ σ2 : pmS, Inv σ2 ∧ σ2.1 11 = σ.1 11 ∧ pq_Rn (pq_RD 60) (183, 18, [some (vR 11 0 1), some (vR 9 0 0), some (vR 10 0 0), some (vI x3)], [], σ) = pq_Rn (pq_RD 60) (183, 1302, [some (vR 11 0 1), some (vR 9 0 0), some (vR 10 0 0), some (vI x3)], [], σ2) := by
  obtain ⟨r, σ1, σ2, e1, e2, hI2⟩ := T_spouse hI (σ.1 11 0 0 ((x3 + (1 : Int32))).toNatClampNeg) (σ.1 11 0 0 ((x3 + (2 : Int32))).toNatClampNeg)
  have e3 := pq_no11 e1
  exact ⟨σ2, hI2, (pq_no11 e2).trans e3, g183_18_41 _ h1 v0 h3 v1 v2 e1 (by rw [e3]; exact v1) (by rw [e3]; exact v2) (by rw [e3]; exact e2) rfl⟩
theorem arm_21 {σ : pmS} (hI : Inv σ) {x3 : Int32} (h1 : ¬ ((σ.1 11 0 1 0) - (5 : Int32)) < x3) (v0 : vp_in x3 ((σ.1 11 0 1 0)).toNatClampNeg) (v1 : vp_in (x3 + (1 : Int32)) ((σ.1 11 0 1 0)).toNatClampNeg) (v2 : vp_in (x3 + (2 : Int32)) ((σ.1 11 0 1 0)).toNatClampNeg) (v3 : vp_in (x3 + (3 : Int32)) ((σ.1 11 0 1 0)).toNatClampNeg) (v4 : vp_in (x3 + (4 : Int32)) ((σ.1 11 0 1 0)).toNatClampNeg) (h3 : ((σ.1 11 0 0 (x3).toNatClampNeg) &&& (31 : Int32)) = (21 : Int32)) : ∃ σ2 : pmS, Inv σ2 ∧ σ2.1 11 = σ.1 11 ∧ pq_Rn (pq_RD 60) (183, 18, [some (vR 11 0 1), some (vR 9 0 0), some (vR 10 0 0), some (vI x3)], [], σ) = pq_Rn (pq_RD 60) (183, 1302, [some (vR 11 0 1), some (vR 9 0 0), some (vR 10 0 0), some (vI x3)], [], σ2) := by
  obtain ⟨r, σ1, σ2, e1, e2, hI2⟩ := T_children hI (σ.1 11 0 0 ((x3 + (1 : Int32))).toNatClampNeg) (σ.1 11 0 0 ((x3 + (2 : Int32))).toNatClampNeg)
  have e3 := pq_no11 e1
  exact ⟨σ2, hI2, (pq_no11 e2).trans e3, g183_18_43 _ h1 v0 h3 v1 v2 e1 (by rw [e3]; exact v1) (by rw [e3]; exact v2) (by rw [e3]; exact e2) rfl⟩
theorem arm_22 {σ : pmS} (hI : Inv σ) {x3 : Int32} (h1 : ¬ ((σ.1 11 0 1 0) - (5 : Int32)) < x3) (v0 : vp_in x3 ((σ.1 11 0 1 0)).toNatClampNeg) (v1 : vp_in (x3 + (1 : Int32)) ((σ.1 11 0 1 0)).toNatClampNeg) (v2 : vp_in (x3 + (2 : Int32)) ((σ.1 11 0 1 0)).toNatClampNeg) (v3 : vp_in (x3 + (3 : Int32)) ((σ.1 11 0 1 0)).toNatClampNeg) (v4 : vp_in (x3 + (4 : Int32)) ((σ.1 11 0 1 0)).toNatClampNeg) (h3 : ((σ.1 11 0 0 (x3).toNatClampNeg) &&& (31 : Int32)) = (22 : Int32)) : ∃ σ2 : pmS, Inv σ2 ∧ σ2.1 11 = σ.1 11 ∧ pq_Rn (pq_RD 60) (183, 18, [some (vR 11 0 1), some (vR 9 0 0), some (vR 10 0 0), some (vI x3)], [], σ) = pq_Rn (pq_RD 60) (183, 1302, [some (vR 11 0 1), some (vR 9 0 0), some (vR 10 0 0), some (vI x3)], [], σ2) := by
  obtain ⟨r, σ1, σ2, e1, e2, hI2⟩ := T_living hI (σ.1 11 0 0 ((x3 + (1 : Int32))).toNatClampNeg) (σ.1 11 0 0 ((x3 + (2 : Int32))).toNatClampNeg) (σ.1 11 0 0 ((x3 + (3 : Int32))).toNatClampNeg)
  have e3 := pq_no11 e1
  exact ⟨σ2, hI2, (pq_no11 e2).trans e3, g183_18_45 _ h1 v0 h3 v1 v2 v3 e1 (by rw [e3]; exact v1) (by rw [e3]; exact v2) (by rw [e3]; exact v3) (by rw [e3]; exact e2) rfl⟩
theorem arm_23 {σ : pmS} (hI : Inv σ) {x3 : Int32} (h1 : ¬ ((σ.1 11 0 1 0) - (5 : Int32)) < x3) (v0 : vp_in x3 ((σ.1 11 0 1 0)).toNatClampNeg) (v1 : vp_in (x3 + (1 : Int32)) ((σ.1 11 0 1 0)).toNatClampNeg) (v2 : vp_in (x3 + (2 : Int32)) ((σ.1 11 0 1 0)).toNatClampNeg) (v3 : vp_in (x3 + (3 : Int32)) ((σ.1 11 0 1 0)).toNatClampNeg) (v4 : vp_in (x3 + (4 : Int32)) ((σ.1 11 0 1 0)).toNatClampNeg) (h3 : ((σ.1 11 0 0 (x3).toNatClampNeg) &&& (31 : Int32)) = (23 : Int32)) : ∃ σ2 : pmS, Inv σ2 ∧ σ2.1 11 = σ.1 11 ∧ pq_Rn (pq_RD 60) (183, 18, [some (vR 11 0 1), some (vR 9 0 0), some (vR 10 0 0), some (vI x3)], [], σ) = pq_Rn (pq_RD 60) (183, 1302, [some (vR 11 0 1), some (vR 9 0 0), some (vR 10 0 0), some (vI x3)], [], σ2) := by
  obtain ⟨r, σ1, σ2, e1, e2, hI2⟩ := T_marriages hI (σ.1 11 0 0 ((x3 + (1 : Int32))).toNatClampNeg) (σ.1 11 0 0 ((x3 + (2 : Int32))).toNatClampNeg)
  have e3 := pq_no11 e1
  exact ⟨σ2, hI2, (pq_no11 e2).trans e3, g183_18_47 _ h1 v0 h3 v1 v2 e1 (by rw [e3]; exact v1) (by rw [e3]; exact v2) (by rw [e3]; exact e2) rfl⟩
theorem arm_24 {σ : pmS} (hI : Inv σ) {x3 : Int32} (h1 : ¬ ((σ.1 11 0 1 0) - (5 : Int32)) < x3) (v0 : vp_in x3 ((σ.1 11 0 1 0)).toNatClampNeg) (v1 : vp_in (x3 + (1 : Int32)) ((σ.1 11 0 1 0)).toNatClampNeg) (v2 : vp_in (x3 + (2 : Int32)) ((σ.1 11 0 1 0)).toNatClampNeg) (v3 : vp_in (x3 + (3 : Int32)) ((σ.1 11 0 1 0)).toNatClampNeg) (v4 : vp_in (x3 + (4 : Int32)) ((σ.1 11 0 1 0)).toNatClampNeg) (h3 : ((σ.1 11 0 0 (x3).toNatClampNeg) &&& (31 : Int32)) = (24 : Int32)) : ∃ σ2 : pmS, Inv σ2 ∧ σ2.1 11 = σ.1 11 ∧ pq_Rn (pq_RD 60) (183, 18, [some (vR 11 0 1), some (vR 9 0 0), some (vR 10 0 0), some (vI x3)], [], σ) = pq_Rn (pq_RD 60) (183, 1302, [some (vR 11 0 1), some (vR 9 0 0), some (vR 10 0 0), some (vI x3)], [], σ2) := by
  obtain ⟨r, σ1, σ2, e1, e2, hI2⟩ := T_match hI (σ.1 11 0 0 ((x3 + (1 : Int32))).toNatClampNeg) (σ.1 11 0 0 ((x3 + (2 : Int32))).toNatClampNeg)
  have e3 := pq_no11 e1
  exact ⟨σ2, hI2, (pq_no11 e2).trans e3, g183_18_49 _ h1 v0 h3 v1 v2 e1 (by rw [e3]; exact v1) (by rw [e3]; exact v2) (by rw [e3]; exact e2) rfl⟩
theorem arm_25 {σ : pmS} (hI : Inv σ) {x3 : Int32} (h1 : ¬ ((σ.1 11 0 1 0) - (5 : Int32)) < x3) (v0 : vp_in x3 ((σ.1 11 0 1 0)).toNatClampNeg) (v1 : vp_in (x3 + (1 : Int32)) ((σ.1 11 0 1 0)).toNatClampNeg) (v2 : vp_in (x3 + (2 : Int32)) ((σ.1 11 0 1 0)).toNatClampNeg) (v3 : vp_in (x3 + (3 : Int32)) ((σ.1 11 0 1 0)).toNatClampNeg) (v4 : vp_in (x3 + (4 : Int32)) ((σ.1 11 0 1 0)).toNatClampNeg) (h3 : ((σ.1 11 0 0 (x3).toNatClampNeg) &&& (31 : Int32)) = (25 : Int32)) : ∃ σ2 : pmS, Inv σ2 ∧ σ2.1 11 = σ.1 11 ∧ pq_Rn (pq_RD 60) (183, 18, [some (vR 11 0 1), some (vR 9 0 0), some (vR 10 0 0), some (vI x3)], [], σ) = pq_Rn (pq_RD 60) (183, 1302, [some (vR 11 0 1), some (vR 9 0 0), some (vR 10 0 0), some (vI x3)], [], σ2) := by
  obtain ⟨r, σ1, σ2, e1, e2, hI2⟩ := T_matched hI (σ.1 11 0 0 ((x3 + (1 : Int32))).toNatClampNeg)
  have e3 := pq_no11 e1
  exact ⟨σ2, hI2, (pq_no11 e2).trans e3, g183_18_51 _ h1 v0 h3 v1 e1 (by rw [e3]; exact v1) (by rw [e3]; exact e2) rfl⟩
theorem arm_26 {σ : pmS} (hI : Inv σ) {x3 : Int32} (h1 : ¬ ((σ.1 11 0 1 0) - (5 : Int32)) < x3) (v0 : vp_in x3 ((σ.1 11 0 1 0)).toNatClampNeg) (v1 : vp_in (x3 + (1 : Int32)) ((σ.1 11 0 1 0)).toNatClampNeg) (v2 : vp_in (x3 + (2 : Int32)) ((σ.1 11 0 1 0)).toNatClampNeg) (v3 : vp_in (x3 + (3 : Int32)) ((σ.1 11 0 1 0)).toNatClampNeg) (v4 : vp_in (x3 + (4 : Int32)) ((σ.1 11 0 1 0)).toNatClampNeg) (h3 : ((σ.1 11 0 0 (x3).toNatClampNeg) &&& (31 : Int32)) = (26 : Int32)) : ∃ σ2 : pmS, Inv σ2 ∧ σ2.1 11 = σ.1 11 ∧ pq_Rn (pq_RD 60) (183, 18, [some (vR 11 0 1), some (vR 9 0 0), some (vR 10 0 0), some (vI x3)], [], σ) = pq_Rn (pq_RD 60) (183, 1302, [some (vR 11 0 1), some (vR 9 0 0), some (vR 10 0 0), some (vI x3)], [], σ2) := by
  obtain ⟨r, σ1, σ2, e1, e2, hI2⟩ := T_lack hI (σ.1 11 0 0 ((x3 + (1 : Int32))).toNatClampNeg)
  have e3 := pq_no11 e1
  exact ⟨σ2, hI2, (pq_no11 e2).trans e3, g183_18_53 _ h1 v0 h3 v1 e1 (by rw [e3]; exact v1) (by rw [e3]; exact e2) rfl⟩
theorem arm_27 {σ : pmS} (hI : Inv σ) {x3 : Int32} (h1 : ¬ ((σ.1 11 0 1 0) - (5 : Int32)) < x3) (v0 : vp_in x3 ((σ.1 11 0 1 0)).toNatClampNeg) (v1 : vp_in (x3 + (1 : Int32)) ((σ.1 11 0 1 0)).toNatClampNeg) (v2 : vp_in (x3 + (2 : Int32)) ((σ.1 11 0 1 0)).toNatClampNeg) (v3 : vp_in (x3 + (3 : Int32)) ((σ.1 11 0 1 0)).toNatClampNeg) (v4 : vp_in (x3 + (4 : Int32)) ((σ.1 11 0 1 0)).toNatClampNeg) (h3 : ((σ.1 11 0 0 (x3).toNatClampNeg) &&& (31 : Int32)) = (27 : Int32)) : ∃ σ2 : pmS, Inv σ2 ∧ σ2.1 11 = σ.1 11 ∧ pq_Rn (pq_RD 60) (183, 18, [some (vR 11 0 1), some (vR 9 0 0), some (vR 10 0 0), some (vI x3)], [], σ) = pq_Rn (pq_RD 60) (183, 1302, [some (vR 11 0 1), some (vR 9 0 0), some (vR 10 0 0), some (vI x3)], [], σ2) := by
  obtain ⟨r, σ1, σ2, e1, e2, hI2⟩ := T_lay hI (σ.1 11 0 0 ((x3 + (1 : Int32))).toNatClampNeg) (σ.1 11 0 0 ((x3 + (2 : Int32))).toNatClampNeg)
  have e3 := pq_no11 e1
  exact ⟨σ2, hI2, (pq_no11 e2).trans e3, g183_18_55 _ h1 v0 h3 v1 v2 e1 (by rw [e3]; exact v1) (by rw [e3]; exact v2) (by rw [e3]; exact e2) rfl⟩
theorem arm_28 {σ : pmS} (hI : Inv σ) {x3 : Int32} (h1 : ¬ ((σ.1 11 0 1 0) - (5 : Int32)) < x3) (v0 : vp_in x3 ((σ.1 11 0 1 0)).toNatClampNeg) (v1 : vp_in (x3 + (1 : Int32)) ((σ.1 11 0 1 0)).toNatClampNeg) (v2 : vp_in (x3 + (2 : Int32)) ((σ.1 11 0 1 0)).toNatClampNeg) (v3 : vp_in (x3 + (3 : Int32)) ((σ.1 11 0 1 0)).toNatClampNeg) (v4 : vp_in (x3 + (4 : Int32)) ((σ.1 11 0 1 0)).toNatClampNeg) (h3 : ((σ.1 11 0 0 (x3).toNatClampNeg) &&& (31 : Int32)) = (28 : Int32)) : ∃ σ2 : pmS, Inv σ2 ∧ σ2.1 11 = σ.1 11 ∧ pq_Rn (pq_RD 60) (183, 18, [some (vR 11 0 1), some (vR 9 0 0), some (vR 10 0 0), some (vI x3)], [], σ) = pq_Rn (pq_RD 60) (183, 1302, [some (vR 11 0 1), some (vR 9 0 0), some (vR 10 0 0), some (vI x3)], [], σ2) := by
  obtain ⟨r, σ1, σ2, e1, e2, hI2⟩ := T_lies hI (σ.1 11 0 0 ((x3 + (1 : Int32))).toNatClampNeg)
  have e3 := pq_no11 e1
  exact ⟨σ2, hI2, (pq_no11 e2).trans e3, g183_18_57 _ h1 v0 h3 v1 e1 (by rw [e3]; exact v1) (by rw [e3]; exact e2) rfl⟩
theorem arm_29 {σ : pmS} (hI : Inv σ) {x3 : Int32} (h1 : ¬ ((σ.1 11 0 1 0) - (5 : Int32)) < x3) (v0 : vp_in x3 ((σ.1 11 0 1 0)).toNatClampNeg) (v1 : vp_in (x3 + (1 : Int32)) ((σ.1 11 0 1 0)).toNatClampNeg) (v2 : vp_in (x3 + (2 : Int32)) ((σ.1 11 0 1 0)).toNatClampNeg) (v3 : vp_in (x3 + (3 : Int32)) ((σ.1 11 0 1 0)).toNatClampNeg) (v4 : vp_in (x3 + (4 : Int32)) ((σ.1 11 0 1 0)).toNatClampNeg) (h3 : ((σ.1 11 0 0 (x3).toNatClampNeg) &&& (31 : Int32)) = (29 : Int32)) : ∃ σ2 : pmS, Inv σ2 ∧ σ2.1 11 = σ.1 11 ∧ pq_Rn (pq_RD 60) (183, 18, [some (vR 11 0 1), some (vR 9 0 0), some (vR 10 0 0), some (vI x3)], [], σ) = pq_Rn (pq_RD 60) (183, 1302, [some (vR 11 0 1), some (vR 9 0 0), some (vR 10 0 0), some (vI x3)], [], σ2) := by
  obtain ⟨r, σ1, σ2, e1, e2, hI2⟩ := T_open hI (σ.1 11 0 0 ((x3 + (1 : Int32))).toNatClampNeg)
  have e3 := pq_no11 e1
  exact ⟨σ2, hI2, (pq_no11 e2).trans e3, g183_18_59 _ h1 v0 h3 v1 e1 (by rw [e3]; exact v1) (by rw [e3]; exact e2) rfl⟩
theorem arm_30 {σ : pmS} (hI : Inv σ) {x3 : Int32} (h1 : ¬ ((σ.1 11 0 1 0) - (5 : Int32)) < x3) (v0 : vp_in x3 ((σ.1 11 0 1 0)).toNatClampNeg) (v1 : vp_in (x3 + (1 : Int32)) ((σ.1 11 0 1 0)).toNatClampNeg) (v2 : vp_in (x3 + (2 : Int32)) ((σ.1 11 0 1 0)).toNatClampNeg) (v3 : vp_in (x3 + (3 : Int32)) ((σ.1 11 0 1 0)).toNatClampNeg) (v4 : vp_in (x3 + (4 : Int32)) ((σ.1 11 0 1 0)).toNatClampNeg) (h3 : ((σ.1 11 0 0 (x3).toNatClampNeg) &&& (31 : Int32)) = (30 : Int32)) : ∃ σ2 : pmS, Inv σ2 ∧ σ2.1 11 = σ.1 11 ∧ pq_Rn (pq_RD 60) (183, 18, [some (vR 11 0 1), some (vR 9 0 0), some (vR 10 0 0), some (vI x3)], [], σ) = pq_Rn (pq_RD 60) (183, 1302, [some (vR 11 0 1), some (vR 9 0 0), some (vR 10 0 0), some (vI x3)], [], σ2) := by
  obtain ⟨r, σ1, σ2, e1, e2, hI2⟩ := T_sure hI 
  have e3 := pq_no11 e1
  exact ⟨σ2, hI2, (pq_no11 e2).trans e3, g183_18_61 _ h1 v0 h3 e1 e2 rfl⟩
theorem arm_31 {σ : pmS} (hI : Inv σ) {x3 : Int32} (h1 : ¬ ((σ.1 11 0 1 0) - (5 : Int32)) < x3) (v0 : vp_in x3 ((σ.1 11 0 1 0)).toNatClampNeg) (v1 : vp_in (x3 + (1 : Int32)) ((σ.1 11 0 1 0)).toNatClampNeg) (v2 : vp_in (x3 + (2 : Int32)) ((σ.1 11 0 1 0)).toNatClampNeg) (v3 : vp_in (x3 + (3 : Int32)) ((σ.1 11 0 1 0)).toNatClampNeg) (v4 : vp_in (x3 + (4 : Int32)) ((σ.1 11 0 1 0)).toNatClampNeg) (h3 : ((σ.1 11 0 0 (x3).toNatClampNeg) &&& (31 : Int32)) = (31 : Int32)) : ∃ σ2 : pmS, Inv σ2 ∧ σ2.1 11 = σ.1 11 ∧ pq_Rn (pq_RD 60) (183, 18, [some (vR 11 0 1), some (vR 9 0 0), some (vR 10 0 0), some (vI x3)], [], σ) = pq_Rn (pq_RD 60) (183, 1302, [some (vR 11 0 1), some (vR 9 0 0), some (vR 10 0 0), some (vI x3)], [], σ2) := by
  obtain ⟨r, σ1, σ2, e1, e2, hI2⟩ := T_count hI (σ.1 11 0 0 ((x3 + (1 : Int32))).toNatClampNeg)
  have e3 := pq_no11 e1
  exact ⟨σ2, hI2, (pq_no11 e2).trans e3, g183_18_63 _ h1 v0 h3 v1 e1 (by rw [e3]; exact v1) (by rw [e3]; exact e2) rfl⟩
/-- one round of the law -/
theorem law_arm {σ : pmS} (hI : Inv σ) {x3 : Int32} (h1 : ¬ ((σ.1 11 0 1 0) - (5 : Int32)) < x3) (v0 : vp_in x3 ((σ.1 11 0 1 0)).toNatClampNeg) (v1 : vp_in (x3 + (1 : Int32)) ((σ.1 11 0 1 0)).toNatClampNeg) (v2 : vp_in (x3 + (2 : Int32)) ((σ.1 11 0 1 0)).toNatClampNeg) (v3 : vp_in (x3 + (3 : Int32)) ((σ.1 11 0 1 0)).toNatClampNeg) (v4 : vp_in (x3 + (4 : Int32)) ((σ.1 11 0 1 0)).toNatClampNeg) : ∃ σ2 : pmS, Inv σ2 ∧ σ2.1 11 = σ.1 11 ∧ pq_Rn (pq_RD 60) (183, 18, [some (vR 11 0 1), some (vR 9 0 0), some (vR 10 0 0), some (vI x3)], [], σ) = pq_Rn (pq_RD 60) (183, 18, [some (vR 11 0 1), some (vR 9 0 0), some (vR 10 0 0), some (vI (x3 + (5 : Int32)))], [], σ2) := by
  have H : ∃ σ2 : pmS, Inv σ2 ∧ σ2.1 11 = σ.1 11 ∧ pq_Rn (pq_RD 60) (183, 18, [some (vR 11 0 1), some (vR 9 0 0), some (vR 10 0 0), some (vI x3)], [], σ) = pq_Rn (pq_RD 60) (183, 1302, [some (vR 11 0 1), some (vR 9 0 0), some (vR 10 0 0), some (vI x3)], [], σ2) := by
    by_cases d0 : ((σ.1 11 0 0 (x3).toNatClampNeg) &&& (31 : Int32)) = (0 : Int32)
    · exact arm_0 hI h1 v0 v1 v2 v3 v4 d0
    by_cases d1 : ((σ.1 11 0 0 (x3).toNatClampNeg) &&& (31 : Int32)) = (1 : Int32)
    · exact arm_1 hI h1 v0 v1 v2 v3 v4 d1
    by_cases d2 : ((σ.1 11 0 0 (x3).toNatClampNeg) &&& (31 : Int32)) = (2 : Int32)
    · exact arm_2 hI h1 v0 v1 v2 v3 v4 d2
    by_cases d3 : ((σ.1 11 0 0 (x3).toNatClampNeg) &&& (31 : Int32)) = (3 : Int32)
    · exact arm_3 hI h1 v0 v1 v2 v3 v4 d3
    by_cases d4 : ((σ.1 11 0 0 (x3).toNatClampNeg) &&& (31 : Int32)) = (4 : Int32)
    · exact arm_4 hI h1 v0 v1 v2 v3 v4 d4
    by_cases d5 : ((σ.1 11 0 0 (x3).toNatClampNeg) &&& (31 : Int32)) = (5 : Int32)
    · exact arm_5 hI h1 v0 v1 v2 v3 v4 d5
    by_cases d6 : ((σ.1 11 0 0 (x3).toNatClampNeg) &&& (31 : Int32)) = (6 : Int32)
    · exact arm_6 hI h1 v0 v1 v2 v3 v4 d6
    by_cases d7 : ((σ.1 11 0 0 (x3).toNatClampNeg) &&& (31 : Int32)) = (7 : Int32)
    · exact arm_7 hI h1 v0 v1 v2 v3 v4 d7
    by_cases d8 : ((σ.1 11 0 0 (x3).toNatClampNeg) &&& (31 : Int32)) = (8 : Int32)
    · exact arm_8 hI h1 v0 v1 v2 v3 v4 d8
    by_cases d9 : ((σ.1 11 0 0 (x3).toNatClampNeg) &&& (31 : Int32)) = (9 : Int32)
    · exact arm_9 hI h1 v0 v1 v2 v3 v4 d9
    by_cases d10 : ((σ.1 11 0 0 (x3).toNatClampNeg) &&& (31 : Int32)) = (10 : Int32)
    · exact arm_10 hI h1 v0 v1 v2 v3 v4 d10
    by_cases d11 : ((σ.1 11 0 0 (x3).toNatClampNeg) &&& (31 : Int32)) = (11 : Int32)
    · exact arm_11 hI h1 v0 v1 v2 v3 v4 d11
    by_cases d12 : ((σ.1 11 0 0 (x3).toNatClampNeg) &&& (31 : Int32)) = (12 : Int32)
    · exact arm_12 hI h1 v0 v1 v2 v3 v4 d12
    by_cases d13 : ((σ.1 11 0 0 (x3).toNatClampNeg) &&& (31 : Int32)) = (13 : Int32)
    · exact arm_13 hI h1 v0 v1 v2 v3 v4 d13
    by_cases d14 : ((σ.1 11 0 0 (x3).toNatClampNeg) &&& (31 : Int32)) = (14 : Int32)
    · exact arm_14 hI h1 v0 v1 v2 v3 v4 d14
    by_cases d15 : ((σ.1 11 0 0 (x3).toNatClampNeg) &&& (31 : Int32)) = (15 : Int32)
    · exact arm_15 hI h1 v0 v1 v2 v3 v4 d15
    by_cases d16 : ((σ.1 11 0 0 (x3).toNatClampNeg) &&& (31 : Int32)) = (16 : Int32)
    · exact arm_16 hI h1 v0 v1 v2 v3 v4 d16
    by_cases d17 : ((σ.1 11 0 0 (x3).toNatClampNeg) &&& (31 : Int32)) = (17 : Int32)
    · exact arm_17 hI h1 v0 v1 v2 v3 v4 d17
    by_cases d18 : ((σ.1 11 0 0 (x3).toNatClampNeg) &&& (31 : Int32)) = (18 : Int32)
    · exact arm_18 hI h1 v0 v1 v2 v3 v4 d18
    by_cases d19 : ((σ.1 11 0 0 (x3).toNatClampNeg) &&& (31 : Int32)) = (19 : Int32)
    · exact arm_19 hI h1 v0 v1 v2 v3 v4 d19
    by_cases d20 : ((σ.1 11 0 0 (x3).toNatClampNeg) &&& (31 : Int32)) = (20 : Int32)
    · exact arm_20 hI h1 v0 v1 v2 v3 v4 d20
    by_cases d21 : ((σ.1 11 0 0 (x3).toNatClampNeg) &&& (31 : Int32)) = (21 : Int32)
    · exact arm_21 hI h1 v0 v1 v2 v3 v4 d21
    by_cases d22 : ((σ.1 11 0 0 (x3).toNatClampNeg) &&& (31 : Int32)) = (22 : Int32)
    · exact arm_22 hI h1 v0 v1 v2 v3 v4 d22
    by_cases d23 : ((σ.1 11 0 0 (x3).toNatClampNeg) &&& (31 : Int32)) = (23 : Int32)
    · exact arm_23 hI h1 v0 v1 v2 v3 v4 d23
    by_cases d24 : ((σ.1 11 0 0 (x3).toNatClampNeg) &&& (31 : Int32)) = (24 : Int32)
    · exact arm_24 hI h1 v0 v1 v2 v3 v4 d24
    by_cases d25 : ((σ.1 11 0 0 (x3).toNatClampNeg) &&& (31 : Int32)) = (25 : Int32)
    · exact arm_25 hI h1 v0 v1 v2 v3 v4 d25
    by_cases d26 : ((σ.1 11 0 0 (x3).toNatClampNeg) &&& (31 : Int32)) = (26 : Int32)
    · exact arm_26 hI h1 v0 v1 v2 v3 v4 d26
    by_cases d27 : ((σ.1 11 0 0 (x3).toNatClampNeg) &&& (31 : Int32)) = (27 : Int32)
    · exact arm_27 hI h1 v0 v1 v2 v3 v4 d27
    by_cases d28 : ((σ.1 11 0 0 (x3).toNatClampNeg) &&& (31 : Int32)) = (28 : Int32)
    · exact arm_28 hI h1 v0 v1 v2 v3 v4 d28
    by_cases d29 : ((σ.1 11 0 0 (x3).toNatClampNeg) &&& (31 : Int32)) = (29 : Int32)
    · exact arm_29 hI h1 v0 v1 v2 v3 v4 d29
    by_cases d30 : ((σ.1 11 0 0 (x3).toNatClampNeg) &&& (31 : Int32)) = (30 : Int32)
    · exact arm_30 hI h1 v0 v1 v2 v3 v4 d30
    by_cases d31 : ((σ.1 11 0 0 (x3).toNatClampNeg) &&& (31 : Int32)) = (31 : Int32)
    · exact arm_31 hI h1 v0 v1 v2 v3 v4 d31
    exact ⟨σ, hI, rfl, g183_18_65 _ h1 v0 d0 d1 d2 d3 d4 d5 d6 d7 d8 d9 d10 d11 d12 d13 d14 d15 d16 d17 d18 d19 d20 d21 d22 d23 d24 d25 d26 d27 d28 d29 d30 d31⟩
  obtain ⟨σ2, a1, a2, a3⟩ := H
  exact ⟨σ2, a1, a2, a3.trans (g183_1302_0 _)⟩
theorem law_rounds {L : Nat} (hL : L ≤ 2560) : ∀ (n k : Nat) (σ : pmS), Inv σ → σ.1 11 0 1 0 = nI L → L ≤ 5 * (k + n) → k ≤ 600 → ∃ τ : pmS, pq_Rn (pq_RD 60) (183, 18, [some (vR 11 0 1), some (vR 9 0 0), some (vR 10 0 0), some (vI (nI (5 * k)))], [], σ) = some (some (vI 1), τ) := by
  intro n
  induction n with
  | zero =>
    intro k σ hI hl hk hk6
    refine ⟨σ, g183_18_0 _ ?_⟩
    rw [hl, fa_lt, fb_subI]
    all_goals simp only [nI_toInt (show L < 2 ^ 31 by omega), nI_toInt (show 5 * k < 2 ^ 31 by omega), show (5 : Int32).toInt = 5 from rfl]
    all_goals omega
  | succ n ih =>
    intro k σ hI hl hk hk6
    by_cases hc : 5 * k + 5 ≤ L
    · have hcl : (σ.1 11 0 1 0).toNatClampNeg = L := by rw [hl]; exact nI_clamp (by omega)
      have hv : ∀ j, j < 5 → vp_in (nI (5 * k + j)) (σ.1 11 0 1 0).toNatClampNeg := fun j hj => by
        rw [hcl]
        exact vp_in_nI (by omega) (by omega)
      have h1 : ¬ ((σ.1 11 0 1 0) - (5 : Int32)) < nI (5 * k) := by
        rw [hl, fa_lt, fb_subI]
        all_goals simp only [nI_toInt (show L < 2 ^ 31 by omega), nI_toInt (show 5 * k < 2 ^ 31 by omega), show (5 : Int32).toInt = 5 from rfl]
        all_goals omega
      have hp : ∀ j, nI (5 * k) + nI j = nI (5 * k + j) := fun j => nI_add _ _
      obtain ⟨σ2, a1, a2, a3⟩ := law_arm hI h1 (hv 0 (by omega)) ((hp 1).symm ▸ hv 1 (by omega)) ((hp 2).symm ▸ hv 2 (by omega)) ((hp 3).symm ▸ hv 3 (by omega)) ((hp 4).symm ▸ hv 4 (by omega))
      obtain ⟨τ, hτ⟩ := ih (k + 1) σ2 a1 (by rw [a2]; exact hl) (by omega) (by omega)
      have e5 : nI (5 * k) + (5 : Int32) = nI (5 * (k + 1)) := hp 5
      rw [e5] at a3
      exact ⟨τ, a3.trans hτ⟩
    · refine ⟨σ, g183_18_0 _ ?_⟩
      rw [hl, fa_lt, fb_subI]
      all_goals simp only [nI_toInt (show L < 2 ^ 31 by omega), nI_toInt (show 5 * k < 2 ^ 31 by omega), show (5 : Int32).toInt = 5 from rfl]
      all_goals omega
