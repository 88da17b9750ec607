/-! the facts of the tables in the form in which a step takes them -/
theorem pm_lookup {α : Type} : ∀ {l : List (Nat × α)} {k : Nat} {v : α}, l.lookup k = some v → (k, v) ∈ l
  | [], k, v, h => by cases h
  | (k', v') :: l, k, v, h => by
    rw [List.lookup_cons] at h
    split at h
    next hk =>
      have e : k = k' := by simpa using hk
      cases h
      subst e
      exact List.mem_cons_self
    next => exact List.mem_cons_of_mem _ (pm_lookup h)
theorem pm_zip {α β : Type} : ∀ {l : List α} {r : List β} {x : α}, l.length ≤ r.length → x ∈ l → ∃ y, (x, y) ∈ l.zip r
  | [], r, x, h, hx => by cases hx
  | a :: l, [], x, h, hx => by simp at h
  | a :: l, b :: r, x, h, hx => by
    rcases List.mem_cons.mp hx with rfl | hx
    · exact ⟨b, by simp⟩
    · obtain ⟨y, hy⟩ := pm_zip (l := l) (r := r) (by simpa using h) hx
      exact ⟨y, by rw [List.zip_cons_cons]; exact List.mem_cons_of_mem _ hy⟩
theorem pm_key {own idx : Nat} (h : idx < 1000) : (1000 * own + idx) / 1000 = own ∧ (1000 * own + idx) % 1000 = idx := by omega
theorem pm_fl_ok {own idx c k : Nat} (h : pm_fl own idx = some (c, k)) : ∃ r : vw_C, pm_classes[c]? = some r ∧ k < r.2.2 ∧ Cond.fieldLink (pm_cn own) idx (r.2.1 k).1 (r.2.1 k).2.1 (r.2.1 k).2.2.1 ∈ pm_G := by
  unfold pm_fl at h
  split at h
  next hi =>
    obtain ⟨i, hz⟩ := pm_zip pm_okF0 (pm_lookup h)
    have h1 := List.all_eq_true.mp pm_okF _ hz
    unfold pm_okF1 at h1
    dsimp only at h1
    split at h1
    next => cases h1
    next r hr =>
      rw [Bool.and_eq_true, decide_eq_true_eq, (pm_key hi).1, (pm_key hi).2] at h1
      exact ⟨r, hr, h1.1, pm_in_G h1.2⟩
  next => cases h
theorem pm_cl_ok {own idx cm : Nat} (h : pm_cl own idx = some cm) : cm < 183 ∧ Cond.methodLink (pm_cn own) idx (pm_y cm) ∈ pm_G := by
  unfold pm_cl at h
  split at h
  next hi =>
    obtain ⟨i, hz⟩ := pm_zip pm_okC0 (pm_lookup h)
    have h1 := List.all_eq_true.mp pm_okC _ hz
    unfold pm_okC1 at h1
    dsimp only at h1
    rw [Bool.and_eq_true, decide_eq_true_eq, (pm_key hi).1, (pm_key hi).2] at h1
    exact ⟨h1.1, pm_in_G h1.2⟩
  next => cases h
theorem pm_ci_ok {own idx : Nat} {v : Int32} (h : pm_ci own idx = some v) : Cond.constant (pm_cn own) idx v ∈ pm_G := by
  unfold pm_ci at h
  split at h
  next hi =>
    obtain ⟨i, hz⟩ := pm_zip pm_okK9.1 (pm_lookup h)
    have h1 := List.all_eq_true.mp pm_okK0 _ hz
    dsimp only at h1
    rw [(pm_key hi).1, (pm_key hi).2] at h1
    exact pm_in_G h1
  next => cases h
theorem pm_cL_ok {own idx : Nat} {v : Int64} (h : pm_cL own idx = some v) : Cond.constantLong (pm_cn own) idx v ∈ pm_G := by
  unfold pm_cL at h
  split at h
  next hi =>
    obtain ⟨i, hz⟩ := pm_zip pm_okK9.2.1 (pm_lookup h)
    have h1 := List.all_eq_true.mp pm_okL0 _ hz
    dsimp only at h1
    rw [(pm_key hi).1, (pm_key hi).2] at h1
    exact pm_in_G h1
  next => cases h
theorem pm_nat_ok {own idx : Nat} (h : pm_isnat own idx = true) : Cond.methodLink (pm_cn own) idx arraycopyName ∈ pm_G := by
  unfold pm_isnat at h
  rw [Bool.and_eq_true, decide_eq_true_eq] at h
  obtain ⟨i, hz⟩ := pm_zip pm_okK9.2.2.1 (List.contains_iff_mem.mp h.2)
  have h1 := List.all_eq_true.mp pm_okP _ hz
  dsimp only at h1
  rw [(pm_key h.1).1, (pm_key h.1).2] at h1
  exact pm_in_G h1
theorem pm_min_ok {own idx : Nat} (h : pm_ismin own idx = true) : Cond.methodLink (pm_cn own) idx Lib.Math.min.name ∈ pm_G := by
  unfold pm_ismin at h
  rw [Bool.and_eq_true, decide_eq_true_eq] at h
  obtain ⟨i, hz⟩ := pm_zip pm_okK9.2.2.2 (List.contains_iff_mem.mp h.2)
  have h1 := List.all_eq_true.mp pm_okQ _ hz
  dsimp only at h1
  rw [(pm_key h.1).1, (pm_key h.1).2] at h1
  exact pm_in_G h1
theorem pm_m_ok {m : Nat} (h : m < 183) : ((pm_y m).cls = pm_cn (pm_own m)) ∧ ((pm_y m).cls ≠ "java/lang/invoke/MethodHandle" ∧ (pm_y m).cls ≠ "java/lang/invoke/VarHandle") ∧ ((parseMethodDescriptor (pm_y m).desc).map (fun d => d.parameters.length) = some (pm_na m - pm_vt m)) ∧ pm_mx m ≤ 40 ∧ pm_vt m ≤ pm_na m ∧ pm_vt m ≤ 1 ∧ Jvm.plainName (pm_y m).cls = true := by
  have h1 := List.all_eq_true.mp pm_okM m (List.mem_range.mpr h)
  unfold pm_okM1 at h1
  simp only [Bool.and_eq_true, decide_eq_true_eq] at h1
  obtain ⟨⟨⟨⟨⟨⟨a, b⟩, c⟩, d⟩, e⟩, f⟩, g⟩ := h1
  exact ⟨a, b, c, d, e, f, g⟩
theorem pm_n_ok {m : Nat} (h : m < 183) : goodWord (Cond.code (pm_y m) (pm_b m) (pm_mx m) (pm_ret m)) = true ∧ Cond.initialized (pm_y m).cls ∈ pm_G ∧ (pm_vt m = 1 → Cond.instanceMethod (pm_y m) ∈ pm_G ∧ Cond.selects (pm_y m).cls (pm_y m) (pm_y m) ∈ pm_G) ∧ (pm_vt m = 0 → Cond.static (pm_y m) ∈ pm_G) := by
  have h1 := List.all_eq_true.mp pm_okN m (List.mem_range.mpr h)
  unfold pm_okN1 at h1
  rw [Bool.and_eq_true, Bool.and_eq_true] at h1
  obtain ⟨⟨a, b⟩, c⟩ := h1
  refine ⟨a, pm_in_G b, fun hv => ?_, fun hv => ?_⟩
  · rw [if_pos hv, Bool.and_eq_true] at c
    exact ⟨pm_in_G c.1, pm_in_G c.2⟩
  · rw [if_neg (by omega)] at c
    exact pm_in_G c
theorem pm_cdm {a m : Nat} (h : a ≤ m) (h2 : m < a + 10) (h3 : m < 183) {l : List (Nat × Nat × Nat × Nat)} (e : (((List.range 183).drop a).take 10).map (fun m => Cond.code (pm_y m) (pm_b m) (pm_mx m) (pm_ret m)) = l.filterMap (fun i => lw_tbl[i.1]?)) : Cond.code (pm_y m) (pm_b m) (pm_mx m) (pm_ret m) ∈ lw_tbl := by
  have hm : m ∈ ((List.range 183).drop a).take 10 := by
    refine List.mem_of_getElem? (i := m - a) ?_
    rw [List.getElem?_take_of_lt (by omega), List.getElem?_drop, List.getElem?_range (by omega)]
    exact congrArg some (by omega)
  have h4 := List.mem_map_of_mem (f := fun m => Cond.code (pm_y m) (pm_b m) (pm_mx m) (pm_ret m)) hm
  rw [e] at h4
  obtain ⟨i, -, hi⟩ := List.mem_filterMap.mp h4
  exact List.mem_of_getElem? hi
theorem pm_code_in {m : Nat} (h : m < 183) : Cond.code (pm_y m) (pm_b m) (pm_mx m) (pm_ret m) ∈ pm_G := by
  refine List.mem_filter.mpr ⟨?_, (pm_n_ok h).1⟩
  by_cases h0 : m < 10
  · exact pm_cdm (a := 0) (by omega) (by omega) h pm_cd_0
  by_cases h10 : m < 20
  · exact pm_cdm (a := 10) (by omega) (by omega) h pm_cd_10
  by_cases h20 : m < 30
  · exact pm_cdm (a := 20) (by omega) (by omega) h pm_cd_20
  by_cases h30 : m < 40
  · exact pm_cdm (a := 30) (by omega) (by omega) h pm_cd_30
  by_cases h40 : m < 50
  · exact pm_cdm (a := 40) (by omega) (by omega) h pm_cd_40
  by_cases h50 : m < 60
  · exact pm_cdm (a := 50) (by omega) (by omega) h pm_cd_50
  by_cases h60 : m < 70
  · exact pm_cdm (a := 60) (by omega) (by omega) h pm_cd_60
  by_cases h70 : m < 80
  · exact pm_cdm (a := 70) (by omega) (by omega) h pm_cd_70
  by_cases h80 : m < 90
  · exact pm_cdm (a := 80) (by omega) (by omega) h pm_cd_80
  by_cases h90 : m < 100
  · exact pm_cdm (a := 90) (by omega) (by omega) h pm_cd_90
  by_cases h100 : m < 110
  · exact pm_cdm (a := 100) (by omega) (by omega) h pm_cd_100
  by_cases h110 : m < 120
  · exact pm_cdm (a := 110) (by omega) (by omega) h pm_cd_110
  by_cases h120 : m < 130
  · exact pm_cdm (a := 120) (by omega) (by omega) h pm_cd_120
  by_cases h130 : m < 140
  · exact pm_cdm (a := 130) (by omega) (by omega) h pm_cd_130
  by_cases h140 : m < 150
  · exact pm_cdm (a := 140) (by omega) (by omega) h pm_cd_140
  by_cases h150 : m < 160
  · exact pm_cdm (a := 150) (by omega) (by omega) h pm_cd_150
  by_cases h160 : m < 170
  · exact pm_cdm (a := 160) (by omega) (by omega) h pm_cd_160
  by_cases h170 : m < 180
  · exact pm_cdm (a := 170) (by omega) (by omega) h pm_cd_170
  exact pm_cdm (a := 180) (by omega) (by omega) h pm_cd_180
/-! decode -/
theorem pm_dcm {cc : ByteArray} {l : List (Nat × Instr × Nat)} {a pc n : Nat} {i : Instr} (h : ((l.drop a).take 120).all (fun e => decide (decode cc e.1 = .ok (e.2.1, e.2.2))) = true) (hm : (pc, i, n) ∈ (l.drop a).take 120) : decode cc pc = .ok (i, n) := by
  have h1 := List.all_eq_true.mp h _ hm
  rwa [decide_eq_true_eq] at h1
theorem pm_cut {α : Type} {l : List α} {x : α} {a : Nat} (h : x ∈ l.drop a) : x ∈ (l.drop a).take 120 ∨ x ∈ l.drop (a + 120) := by
  rw [← List.take_append_drop 120 (l.drop a), List.drop_drop] at h
  exact List.mem_append.mp h
theorem pm_end {α : Type} {l : List α} {x : α} {a : Nat} (h : x ∈ l.drop a) (hl : l.length ≤ a) : False := by
  rw [List.drop_eq_nil_of_le hl] at h
  cases h
theorem pm_dd_0 {pc n : Nat} {i : Instr} (h : (pc, i, n) ∈ pmc_0) : decode cX0_enact pc = .ok (i, n) := by
  have h : (pc, i, n) ∈ pmc_0.drop 0 := h
  rcases pm_cut h with h | h
  · exact pm_dcm pm_dc_0_0 h
  exact (pm_end h (by decide +kernel)).elim
theorem pm_dd_1 {pc n : Nat} {i : Instr} (h : (pc, i, n) ∈ pmc_1) : decode cX0_lawFrom pc = .ok (i, n) := by
  have h : (pc, i, n) ∈ pmc_1.drop 0 := h
  rcases pm_cut h with h | h
  · exact pm_dcm pm_dc_1_0 h
  exact (pm_end h (by decide +kernel)).elim
theorem pm_dd_2 {pc n : Nat} {i : Instr} (h : (pc, i, n) ∈ pmc_2) : decode cX0_lawAt pc = .ok (i, n) := by
  have h : (pc, i, n) ∈ pmc_2.drop 0 := h
  rcases pm_cut h with h | h
  · exact pm_dcm pm_dc_2_0 h
  exact (pm_end h (by decide +kernel)).elim
theorem pm_dd_3 {pc n : Nat} {i : Instr} (h : (pc, i, n) ∈ pmc_3) : decode cX1_clear pc = .ok (i, n) := by
  have h : (pc, i, n) ∈ pmc_3.drop 0 := h
  rcases pm_cut h with h | h
  · exact pm_dcm pm_dc_3_0 h
  exact (pm_end h (by decide +kernel)).elim
theorem pm_dd_4 {pc n : Nat} {i : Instr} (h : (pc, i, n) ∈ pmc_4) : decode cX1_plant pc = .ok (i, n) := by
  have h : (pc, i, n) ∈ pmc_4.drop 0 := h
  rcases pm_cut h with h | h
  · exact pm_dcm pm_dc_4_0 h
  exact (pm_end h (by decide +kernel)).elim
theorem pm_dd_5 {pc n : Nat} {i : Instr} (h : (pc, i, n) ∈ pmc_5) : decode cX1_branch pc = .ok (i, n) := by
  have h : (pc, i, n) ∈ pmc_5.drop 0 := h
  rcases pm_cut h with h | h
  · exact pm_dcm pm_dc_5_0 h
  exact (pm_end h (by decide +kernel)).elim
theorem pm_dd_6 {pc n : Nat} {i : Instr} (h : (pc, i, n) ∈ pmc_6) : decode cX1_harvest pc = .ok (i, n) := by
  have h : (pc, i, n) ∈ pmc_6.drop 0 := h
  rcases pm_cut h with h | h
  · exact pm_dcm pm_dc_6_0 h
  exact (pm_end h (by decide +kernel)).elim
theorem pm_dd_7 {pc n : Nat} {i : Instr} (h : (pc, i, n) ∈ pmc_7) : decode cX1_areAllFilled pc = .ok (i, n) := by
  have h : (pc, i, n) ∈ pmc_7.drop 0 := h
  rcases pm_cut h with h | h
  · exact pm_dcm pm_dc_7_0 h
  exact (pm_end h (by decide +kernel)).elim
theorem pm_dd_8 {pc n : Nat} {i : Instr} (h : (pc, i, n) ∈ pmc_8) : decode cX2_addRule pc = .ok (i, n) := by
  have h : (pc, i, n) ∈ pmc_8.drop 0 := h
  rcases pm_cut h with h | h
  · exact pm_dcm pm_dc_8_0 h
  exact (pm_end h (by decide +kernel)).elim
theorem pm_dd_9 {pc n : Nat} {i : Instr} (h : (pc, i, n) ∈ pmc_9) : decode cX2_has pc = .ok (i, n) := by
  have h : (pc, i, n) ∈ pmc_9.drop 0 := h
  rcases pm_cut h with h | h
  · exact pm_dcm pm_dc_9_0 h
  exact (pm_end h (by decide +kernel)).elim
theorem pm_dd_10 {pc n : Nat} {i : Instr} (h : (pc, i, n) ∈ pmc_10) : decode cX2_childOf pc = .ok (i, n) := by
  have h : (pc, i, n) ∈ pmc_10.drop 0 := h
  rcases pm_cut h with h | h
  · exact pm_dcm pm_dc_10_0 h
  exact (pm_end h (by decide +kernel)).elim
theorem pm_dd_11 {pc n : Nat} {i : Instr} (h : (pc, i, n) ∈ pmc_11) : decode cX2_stepFrom pc = .ok (i, n) := by
  have h : (pc, i, n) ∈ pmc_11.drop 0 := h
  rcases pm_cut h with h | h
  · exact pm_dcm pm_dc_11_0 h
  exact (pm_end h (by decide +kernel)).elim
theorem pm_dd_12 {pc n : Nat} {i : Instr} (h : (pc, i, n) ∈ pmc_12) : decode cX2_walk pc = .ok (i, n) := by
  have h : (pc, i, n) ∈ pmc_12.drop 0 := h
  rcases pm_cut h with h | h
  · exact pm_dcm pm_dc_12_0 h
  exact (pm_end h (by decide +kernel)).elim
theorem pm_dd_13 {pc n : Nat} {i : Instr} (h : (pc, i, n) ∈ pmc_13) : decode cX2_timesTillHome pc = .ok (i, n) := by
  have h : (pc, i, n) ∈ pmc_13.drop 0 := h
  rcases pm_cut h with h | h
  · exact pm_dcm pm_dc_13_0 h
  exact (pm_end h (by decide +kernel)).elim
theorem pm_dd_14 {pc n : Nat} {i : Instr} (h : (pc, i, n) ∈ pmc_14) : decode cX2_waysToWife pc = .ok (i, n) := by
  have h : (pc, i, n) ∈ pmc_14.drop 0 := h
  rcases pm_cut h with h | h
  · exact pm_dcm pm_dc_14_0 h
  exact (pm_end h (by decide +kernel)).elim
theorem pm_dd_15 {pc n : Nat} {i : Instr} (h : (pc, i, n) ∈ pmc_15) : decode cX2_halfBits pc = .ok (i, n) := by
  have h : (pc, i, n) ∈ pmc_15.drop 0 := h
  rcases pm_cut h with h | h
  · exact pm_dcm pm_dc_15_0 h
  exact (pm_end h (by decide +kernel)).elim
theorem pm_dd_16 {pc n : Nat} {i : Instr} (h : (pc, i, n) ∈ pmc_16) : decode cX3_clear pc = .ok (i, n) := by
  have h : (pc, i, n) ∈ pmc_16.drop 0 := h
  rcases pm_cut h with h | h
  · exact pm_dcm pm_dc_16_0 h
  exact (pm_end h (by decide +kernel)).elim
theorem pm_dd_17 {pc n : Nat} {i : Instr} (h : (pc, i, n) ∈ pmc_17) : decode cX3_allow pc = .ok (i, n) := by
  have h : (pc, i, n) ∈ pmc_17.drop 0 := h
  rcases pm_cut h with h | h
  · exact pm_dcm pm_dc_17_0 h
  exact (pm_end h (by decide +kernel)).elim
theorem pm_dd_18 {pc n : Nat} {i : Instr} (h : (pc, i, n) ∈ pmc_18) : decode cX3_solve pc = .ok (i, n) := by
  have h : (pc, i, n) ∈ pmc_18.drop 0 := h
  rcases pm_cut h with h | h
  · exact pm_dcm pm_dc_18_0 h
  exact (pm_end h (by decide +kernel)).elim
theorem pm_dd_19 {pc n : Nat} {i : Instr} (h : (pc, i, n) ∈ pmc_19) : decode cX3_isIn pc = .ok (i, n) := by
  have h : (pc, i, n) ∈ pmc_19.drop 0 := h
  rcases pm_cut h with h | h
  · exact pm_dcm pm_dc_19_0 h
  exact (pm_end h (by decide +kernel)).elim
theorem pm_dd_20 {pc n : Nat} {i : Instr} (h : (pc, i, n) ∈ pmc_20) : decode cX3_queueLoneMen pc = .ok (i, n) := by
  have h : (pc, i, n) ∈ pmc_20.drop 0 := h
  rcases pm_cut h with h | h
  · exact pm_dcm pm_dc_20_0 h
  exact (pm_end h (by decide +kernel)).elim
theorem pm_dd_21 {pc n : Nat} {i : Instr} (h : (pc, i, n) ∈ pmc_21) : decode cX3_findOneMore pc = .ok (i, n) := by
  have h : (pc, i, n) ∈ pmc_21.drop 0 := h
  rcases pm_cut h with h | h
  · exact pm_dcm pm_dc_21_0 h
  exact (pm_end h (by decide +kernel)).elim
theorem pm_dd_22 {pc n : Nat} {i : Instr} (h : (pc, i, n) ∈ pmc_22) : decode cX3_enqueue pc = .ok (i, n) := by
  have h : (pc, i, n) ∈ pmc_22.drop 0 := h
  rcases pm_cut h with h | h
  · exact pm_dcm pm_dc_22_0 h
  exact (pm_end h (by decide +kernel)).elim
theorem pm_dd_23 {pc n : Nat} {i : Instr} (h : (pc, i, n) ∈ pmc_23) : decode cX3_changeAlong pc = .ok (i, n) := by
  have h : (pc, i, n) ∈ pmc_23.drop 0 := h
  rcases pm_cut h with h | h
  · exact pm_dcm pm_dc_23_0 h
  exact (pm_end h (by decide +kernel)).elim
theorem pm_dd_24 {pc n : Nat} {i : Instr} (h : (pc, i, n) ∈ pmc_24) : decode cX3_couple pc = .ok (i, n) := by
  have h : (pc, i, n) ∈ pmc_24.drop 0 := h
  rcases pm_cut h with h | h
  · exact pm_dcm pm_dc_24_0 h
  exact (pm_end h (by decide +kernel)).elim
theorem pm_dd_25 {pc n : Nat} {i : Instr} (h : (pc, i, n) ∈ pmc_25) : decode cX3_settle pc = .ok (i, n) := by
  have h : (pc, i, n) ∈ pmc_25.drop 0 := h
  rcases pm_cut h with h | h
  · exact pm_dcm pm_dc_25_0 h
  exact (pm_end h (by decide +kernel)).elim
theorem pm_dd_26 {pc n : Nat} {i : Instr} (h : (pc, i, n) ∈ pmc_26) : decode cX3_give pc = .ok (i, n) := by
  have h : (pc, i, n) ∈ pmc_26.drop 0 := h
  rcases pm_cut h with h | h
  · exact pm_dcm pm_dc_26_0 h
  exact (pm_end h (by decide +kernel)).elim
theorem pm_dd_27 {pc n : Nat} {i : Instr} (h : (pc, i, n) ∈ pmc_27) : decode cX3_findLack pc = .ok (i, n) := by
  have h : (pc, i, n) ∈ pmc_27.drop 0 := h
  rcases pm_cut h with h | h
  · exact pm_dcm pm_dc_27_0 h
  exact (pm_end h (by decide +kernel)).elim
theorem pm_dd_28 {pc n : Nat} {i : Instr} (h : (pc, i, n) ∈ pmc_28) : decode cX4_fit pc = .ok (i, n) := by
  have h : (pc, i, n) ∈ pmc_28.drop 0 := h
  rcases pm_cut h with h | h
  · exact pm_dcm pm_dc_28_0 h
  exact (pm_end h (by decide +kernel)).elim
theorem pm_dd_29 {pc n : Nat} {i : Instr} (h : (pc, i, n) ∈ pmc_29) : decode cX4_layFrom pc = .ok (i, n) := by
  have h : (pc, i, n) ∈ pmc_29.drop 0 := h
  rcases pm_cut h with h | h
  · exact pm_dcm pm_dc_29_0 h
  exact (pm_end h (by decide +kernel)).elim
theorem pm_dd_30 {pc n : Nat} {i : Instr} (h : (pc, i, n) ∈ pmc_30) : decode cX4_missedAt pc = .ok (i, n) := by
  have h : (pc, i, n) ∈ pmc_30.drop 0 := h
  rcases pm_cut h with h | h
  · exact pm_dcm pm_dc_30_0 h
  exact (pm_end h (by decide +kernel)).elim
theorem pm_dd_31 {pc n : Nat} {i : Instr} (h : (pc, i, n) ∈ pmc_31) : decode cX5_add pc = .ok (i, n) := by
  have h : (pc, i, n) ∈ pmc_31.drop 0 := h
  rcases pm_cut h with h | h
  · exact pm_dcm pm_dc_31_0 h
  exact (pm_end h (by decide +kernel)).elim
theorem pm_dd_32 {pc n : Nat} {i : Instr} (h : (pc, i, n) ∈ pmc_32) : decode cX5_has pc = .ok (i, n) := by
  have h : (pc, i, n) ∈ pmc_32.drop 0 := h
  rcases pm_cut h with h | h
  · exact pm_dcm pm_dc_32_0 h
  exact (pm_end h (by decide +kernel)).elim
theorem pm_dd_33 {pc n : Nat} {i : Instr} (h : (pc, i, n) ∈ pmc_33) : decode cX5_isStranger pc = .ok (i, n) := by
  have h : (pc, i, n) ∈ pmc_33.drop 0 := h
  rcases pm_cut h with h | h
  · exact pm_dcm pm_dc_33_0 h
  exact (pm_end h (by decide +kernel)).elim
theorem pm_dd_34 {pc n : Nat} {i : Instr} (h : (pc, i, n) ∈ pmc_34) : decode cX5_lives pc = .ok (i, n) := by
  have h : (pc, i, n) ∈ pmc_34.drop 0 := h
  rcases pm_cut h with h | h
  · exact pm_dcm pm_dc_34_0 h
  exact (pm_end h (by decide +kernel)).elim
theorem pm_dd_35 {pc n : Nat} {i : Instr} (h : (pc, i, n) ∈ pmc_35) : decode cX5_isParent pc = .ok (i, n) := by
  have h : (pc, i, n) ∈ pmc_35.drop 0 := h
  rcases pm_cut h with h | h
  · exact pm_dcm pm_dc_35_0 h
  exact (pm_end h (by decide +kernel)).elim
theorem pm_dd_36 {pc n : Nat} {i : Instr} (h : (pc, i, n) ∈ pmc_36) : decode cX5_areNear pc = .ok (i, n) := by
  have h : (pc, i, n) ∈ pmc_36.drop 0 := h
  rcases pm_cut h with h | h
  · exact pm_dcm pm_dc_36_0 h
  exact (pm_end h (by decide +kernel)).elim
theorem pm_dd_37 {pc n : Nat} {i : Instr} (h : (pc, i, n) ∈ pmc_37) : decode cX5_quarrels pc = .ok (i, n) := by
  have h : (pc, i, n) ∈ pmc_37.drop 0 := h
  rcases pm_cut h with h | h
  · exact pm_dcm pm_dc_37_0 h
  exact (pm_end h (by decide +kernel)).elim
theorem pm_dd_38 {pc n : Nat} {i : Instr} (h : (pc, i, n) ∈ pmc_38) : decode cX5_howManyQuarrel pc = .ok (i, n) := by
  have h : (pc, i, n) ∈ pmc_38.drop 0 := h
  rcases pm_cut h with h | h
  · exact pm_dcm pm_dc_38_0 h
  exact (pm_end h (by decide +kernel)).elim
theorem pm_dd_39 {pc n : Nat} {i : Instr} (h : (pc, i, n) ∈ pmc_39) : decode cX5_howManyClassless pc = .ok (i, n) := by
  have h : (pc, i, n) ∈ pmc_39.drop 0 := h
  rcases pm_cut h with h | h
  · exact pm_dcm pm_dc_39_0 h
  exact (pm_end h (by decide +kernel)).elim
theorem pm_dd_40 {pc n : Nat} {i : Instr} (h : (pc, i, n) ∈ pmc_40) : decode cX6_append pc = .ok (i, n) := by
  have h : (pc, i, n) ∈ pmc_40.drop 0 := h
  rcases pm_cut h with h | h
  · exact pm_dcm pm_dc_40_0 h
  exact (pm_end h (by decide +kernel)).elim
theorem pm_dd_41 {pc n : Nat} {i : Instr} (h : (pc, i, n) ∈ pmc_41) : decode cX6_judge pc = .ok (i, n) := by
  have h : (pc, i, n) ∈ pmc_41.drop 0 := h
  rcases pm_cut h with h | h
  · exact pm_dcm pm_dc_41_0 h
  exact (pm_end h (by decide +kernel)).elim
theorem pm_dd_42 {pc n : Nat} {i : Instr} (h : (pc, i, n) ∈ pmc_42) : decode cX6_writeTo pc = .ok (i, n) := by
  have h : (pc, i, n) ∈ pmc_42.drop 0 := h
  rcases pm_cut h with h | h
  · exact pm_dcm pm_dc_42_0 h
  exact (pm_end h (by decide +kernel)).elim
theorem pm_dd_43 {pc n : Nat} {i : Instr} (h : (pc, i, n) ∈ pmc_43) : decode cX6_firstMisfit pc = .ok (i, n) := by
  have h : (pc, i, n) ∈ pmc_43.drop 0 := h
  rcases pm_cut h with h | h
  · exact pm_dcm pm_dc_43_0 h
  exact (pm_end h (by decide +kernel)).elim
theorem pm_dd_44 {pc n : Nat} {i : Instr} (h : (pc, i, n) ∈ pmc_44) : decode cX6_fits pc = .ok (i, n) := by
  have h : (pc, i, n) ∈ pmc_44.drop 0 := h
  rcases pm_cut h with h | h
  · exact pm_dcm pm_dc_44_0 h
  exact (pm_end h (by decide +kernel)).elim
theorem pm_dd_45 {pc n : Nat} {i : Instr} (h : (pc, i, n) ∈ pmc_45) : decode cX6_firstStrangeLetter pc = .ok (i, n) := by
  have h : (pc, i, n) ∈ pmc_45.drop 0 := h
  rcases pm_cut h with h | h
  · exact pm_dcm pm_dc_45_0 h
  exact (pm_end h (by decide +kernel)).elim
theorem pm_dd_46 {pc n : Nat} {i : Instr} (h : (pc, i, n) ∈ pmc_46) : decode cX6_firstRepeatedLetter pc = .ok (i, n) := by
  have h : (pc, i, n) ∈ pmc_46.drop 0 := h
  rcases pm_cut h with h | h
  · exact pm_dcm pm_dc_46_0 h
  exact (pm_end h (by decide +kernel)).elim
theorem pm_dd_47 {pc n : Nat} {i : Instr} (h : (pc, i, n) ∈ pmc_47) : decode cX7_sizeFor pc = .ok (i, n) := by
  have h : (pc, i, n) ∈ pmc_47.drop 0 := h
  rcases pm_cut h with h | h
  · exact pm_dcm pm_dc_47_0 h
  exact (pm_end h (by decide +kernel)).elim
theorem pm_dd_48 {pc n : Nat} {i : Instr} (h : (pc, i, n) ∈ pmc_48) : decode cX7_identity pc = .ok (i, n) := by
  have h : (pc, i, n) ∈ pmc_48.drop 0 := h
  rcases pm_cut h with h | h
  · exact pm_dcm pm_dc_48_0 h
  exact (pm_end h (by decide +kernel)).elim
theorem pm_dd_49 {pc n : Nat} {i : Instr} (h : (pc, i, n) ∈ pmc_49) : decode cX7_turned pc = .ok (i, n) := by
  have h : (pc, i, n) ∈ pmc_49.drop 0 := h
  rcases pm_cut h with h | h
  · exact pm_dcm pm_dc_49_0 h
  exact (pm_end h (by decide +kernel)).elim
theorem pm_dd_50 {pc n : Nat} {i : Instr} (h : (pc, i, n) ∈ pmc_50) : decode cX7_add pc = .ok (i, n) := by
  have h : (pc, i, n) ∈ pmc_50.drop 0 := h
  rcases pm_cut h with h | h
  · exact pm_dcm pm_dc_50_0 h
  exact (pm_end h (by decide +kernel)).elim
theorem pm_dd_51 {pc n : Nat} {i : Instr} (h : (pc, i, n) ∈ pmc_51) : decode cX8_add pc = .ok (i, n) := by
  have h : (pc, i, n) ∈ pmc_51.drop 0 := h
  rcases pm_cut h with h | h
  · exact pm_dcm pm_dc_51_0 h
  exact (pm_end h (by decide +kernel)).elim
theorem pm_dd_52 {pc n : Nat} {i : Instr} (h : (pc, i, n) ∈ pmc_52) : decode cX8_lasts pc = .ok (i, n) := by
  have h : (pc, i, n) ∈ pmc_52.drop 0 := h
  rcases pm_cut h with h | h
  · exact pm_dcm pm_dc_52_0 h
  exact (pm_end h (by decide +kernel)).elim
theorem pm_dd_53 {pc n : Nat} {i : Instr} (h : (pc, i, n) ∈ pmc_53) : decode cX8_partnerOf pc = .ok (i, n) := by
  have h : (pc, i, n) ∈ pmc_53.drop 0 := h
  rcases pm_cut h with h | h
  · exact pm_dcm pm_dc_53_0 h
  exact (pm_end h (by decide +kernel)).elim
theorem pm_dd_54 {pc n : Nat} {i : Instr} (h : (pc, i, n) ∈ pmc_54) : decode cX9_feed pc = .ok (i, n) := by
  have h : (pc, i, n) ∈ pmc_54.drop 0 := h
  rcases pm_cut h with h | h
  · exact pm_dcm pm_dc_54_0 h
  exact (pm_end h (by decide +kernel)).elim
theorem pm_dd_55 {pc n : Nat} {i : Instr} (h : (pc, i, n) ∈ pmc_55) : decode cX9_system pc = .ok (i, n) := by
  have h : (pc, i, n) ∈ pmc_55.drop 0 := h
  rcases pm_cut h with h | h
  · exact pm_dcm pm_dc_55_0 h
  exact (pm_end h (by decide +kernel)).elim
theorem pm_dd_56 {pc n : Nat} {i : Instr} (h : (pc, i, n) ∈ pmc_56) : decode cX9_fault pc = .ok (i, n) := by
  have h : (pc, i, n) ∈ pmc_56.drop 0 := h
  rcases pm_cut h with h | h
  · exact pm_dcm pm_dc_56_0 h
  exact (pm_end h (by decide +kernel)).elim
theorem pm_dd_57 {pc n : Nat} {i : Instr} (h : (pc, i, n) ∈ pmc_57) : decode cX9_table pc = .ok (i, n) := by
  have h : (pc, i, n) ∈ pmc_57.drop 0 := h
  rcases pm_cut h with h | h
  · exact pm_dcm pm_dc_57_0 h
  exact (pm_end h (by decide +kernel)).elim
theorem pm_dd_58 {pc n : Nat} {i : Instr} (h : (pc, i, n) ∈ pmc_58) : decode cX9_kin pc = .ok (i, n) := by
  have h : (pc, i, n) ∈ pmc_58.drop 0 := h
  rcases pm_cut h with h | h
  · exact pm_dcm pm_dc_58_0 h
  exact (pm_end h (by decide +kernel)).elim
theorem pm_dd_59 {pc n : Nat} {i : Instr} (h : (pc, i, n) ∈ pmc_59) : decode cX9_alike pc = .ok (i, n) := by
  have h : (pc, i, n) ∈ pmc_59.drop 0 := h
  rcases pm_cut h with h | h
  · exact pm_dcm pm_dc_59_0 h
  exact (pm_end h (by decide +kernel)).elim
theorem pm_dd_60 {pc n : Nat} {i : Instr} (h : (pc, i, n) ∈ pmc_60) : decode cX9_home pc = .ok (i, n) := by
  have h : (pc, i, n) ∈ pmc_60.drop 0 := h
  rcases pm_cut h with h | h
  · exact pm_dcm pm_dc_60_0 h
  exact (pm_end h (by decide +kernel)).elim
theorem pm_dd_61 {pc n : Nat} {i : Instr} (h : (pc, i, n) ∈ pmc_61) : decode cX9_brides pc = .ok (i, n) := by
  have h : (pc, i, n) ∈ pmc_61.drop 0 := h
  rcases pm_cut h with h | h
  · exact pm_dcm pm_dc_61_0 h
  exact (pm_end h (by decide +kernel)).elim
theorem pm_dd_62 {pc n : Nat} {i : Instr} (h : (pc, i, n) ∈ pmc_62) : decode cX9_group pc = .ok (i, n) := by
  have h : (pc, i, n) ∈ pmc_62.drop 0 := h
  rcases pm_cut h with h | h
  · exact pm_dcm pm_dc_62_0 h
  exact (pm_end h (by decide +kernel)).elim
theorem pm_dd_63 {pc n : Nat} {i : Instr} (h : (pc, i, n) ∈ pmc_63) : decode cX9_half pc = .ok (i, n) := by
  have h : (pc, i, n) ∈ pmc_63.drop 0 := h
  rcases pm_cut h with h | h
  · exact pm_dcm pm_dc_63_0 h
  exact (pm_end h (by decide +kernel)).elim
theorem pm_dd_64 {pc n : Nat} {i : Instr} (h : (pc, i, n) ∈ pmc_64) : decode cX9_halves pc = .ok (i, n) := by
  have h : (pc, i, n) ∈ pmc_64.drop 0 := h
  rcases pm_cut h with h | h
  · exact pm_dcm pm_dc_64_0 h
  exact (pm_end h (by decide +kernel)).elim
theorem pm_dd_65 {pc n : Nat} {i : Instr} (h : (pc, i, n) ∈ pmc_65) : decode cX9_camp pc = .ok (i, n) := by
  have h : (pc, i, n) ∈ pmc_65.drop 0 := h
  rcases pm_cut h with h | h
  · exact pm_dcm pm_dc_65_0 h
  exact (pm_end h (by decide +kernel)).elim
theorem pm_dd_66 {pc n : Nat} {i : Instr} (h : (pc, i, n) ∈ pmc_66) : decode cX9_law pc = .ok (i, n) := by
  have h : (pc, i, n) ∈ pmc_66.drop 0 := h
  rcases pm_cut h with h | h
  · exact pm_dcm pm_dc_66_0 h
  exact (pm_end h (by decide +kernel)).elim
theorem pm_dd_67 {pc n : Nat} {i : Instr} (h : (pc, i, n) ∈ pmc_67) : decode cX9_stranger pc = .ok (i, n) := by
  have h : (pc, i, n) ∈ pmc_67.drop 0 := h
  rcases pm_cut h with h | h
  · exact pm_dcm pm_dc_67_0 h
  exact (pm_end h (by decide +kernel)).elim
theorem pm_dd_68 {pc n : Nat} {i : Instr} (h : (pc, i, n) ∈ pmc_68) : decode cX9_born pc = .ok (i, n) := by
  have h : (pc, i, n) ∈ pmc_68.drop 0 := h
  rcases pm_cut h with h | h
  · exact pm_dcm pm_dc_68_0 h
  exact (pm_end h (by decide +kernel)).elim
theorem pm_dd_69 {pc n : Nat} {i : Instr} (h : (pc, i, n) ∈ pmc_69) : decode cX9_die pc = .ok (i, n) := by
  have h : (pc, i, n) ∈ pmc_69.drop 0 := h
  rcases pm_cut h with h | h
  · exact pm_dcm pm_dc_69_0 h
  exact (pm_end h (by decide +kernel)).elim
theorem pm_dd_70 {pc n : Nat} {i : Instr} (h : (pc, i, n) ∈ pmc_70) : decode cX9_age pc = .ok (i, n) := by
  have h : (pc, i, n) ∈ pmc_70.drop 0 := h
  rcases pm_cut h with h | h
  · exact pm_dcm pm_dc_70_0 h
  exact (pm_end h (by decide +kernel)).elim
theorem pm_dd_71 {pc n : Nat} {i : Instr} (h : (pc, i, n) ∈ pmc_71) : decode cX9_marry pc = .ok (i, n) := by
  have h : (pc, i, n) ∈ pmc_71.drop 0 := h
  rcases pm_cut h with h | h
  · exact pm_dcm pm_dc_71_0 h
  exact (pm_end h (by decide +kernel)).elim
theorem pm_dd_72 {pc n : Nat} {i : Instr} (h : (pc, i, n) ∈ pmc_72) : decode cX9_may pc = .ok (i, n) := by
  have h : (pc, i, n) ∈ pmc_72.drop 0 := h
  rcases pm_cut h with h | h
  · exact pm_dcm pm_dc_72_0 h
  exact (pm_end h (by decide +kernel)).elim
theorem pm_dd_73 {pc n : Nat} {i : Instr} (h : (pc, i, n) ∈ pmc_73) : decode cX9_about pc = .ok (i, n) := by
  have h : (pc, i, n) ∈ pmc_73.drop 0 := h
  rcases pm_cut h with h | h
  · exact pm_dcm pm_dc_73_0 h
  exact (pm_end h (by decide +kernel)).elim
theorem pm_dd_74 {pc n : Nat} {i : Instr} (h : (pc, i, n) ∈ pmc_74) : decode cX9_spouse pc = .ok (i, n) := by
  have h : (pc, i, n) ∈ pmc_74.drop 0 := h
  rcases pm_cut h with h | h
  · exact pm_dcm pm_dc_74_0 h
  exact (pm_end h (by decide +kernel)).elim
theorem pm_dd_75 {pc n : Nat} {i : Instr} (h : (pc, i, n) ∈ pmc_75) : decode cX9_children pc = .ok (i, n) := by
  have h : (pc, i, n) ∈ pmc_75.drop 0 := h
  rcases pm_cut h with h | h
  · exact pm_dcm pm_dc_75_0 h
  exact (pm_end h (by decide +kernel)).elim
theorem pm_dd_76 {pc n : Nat} {i : Instr} (h : (pc, i, n) ∈ pmc_76) : decode cX9_living pc = .ok (i, n) := by
  have h : (pc, i, n) ∈ pmc_76.drop 0 := h
  rcases pm_cut h with h | h
  · exact pm_dcm pm_dc_76_0 h
  exact (pm_end h (by decide +kernel)).elim
theorem pm_dd_77 {pc n : Nat} {i : Instr} (h : (pc, i, n) ∈ pmc_77) : decode cX9_marriages pc = .ok (i, n) := by
  have h : (pc, i, n) ∈ pmc_77.drop 0 := h
  rcases pm_cut h with h | h
  · exact pm_dcm pm_dc_77_0 h
  exact (pm_end h (by decide +kernel)).elim
theorem pm_dd_78 {pc n : Nat} {i : Instr} (h : (pc, i, n) ∈ pmc_78) : decode cX9_match pc = .ok (i, n) := by
  have h : (pc, i, n) ∈ pmc_78.drop 0 := h
  rcases pm_cut h with h | h
  · exact pm_dcm pm_dc_78_0 h
  exact (pm_end h (by decide +kernel)).elim
theorem pm_dd_79 {pc n : Nat} {i : Instr} (h : (pc, i, n) ∈ pmc_79) : decode cX9_matched pc = .ok (i, n) := by
  have h : (pc, i, n) ∈ pmc_79.drop 0 := h
  rcases pm_cut h with h | h
  · exact pm_dcm pm_dc_79_0 h
  exact (pm_end h (by decide +kernel)).elim
theorem pm_dd_80 {pc n : Nat} {i : Instr} (h : (pc, i, n) ∈ pmc_80) : decode cX9_lack pc = .ok (i, n) := by
  have h : (pc, i, n) ∈ pmc_80.drop 0 := h
  rcases pm_cut h with h | h
  · exact pm_dcm pm_dc_80_0 h
  exact (pm_end h (by decide +kernel)).elim
theorem pm_dd_81 {pc n : Nat} {i : Instr} (h : (pc, i, n) ∈ pmc_81) : decode cX9_lay pc = .ok (i, n) := by
  have h : (pc, i, n) ∈ pmc_81.drop 0 := h
  rcases pm_cut h with h | h
  · exact pm_dcm pm_dc_81_0 h
  exact (pm_end h (by decide +kernel)).elim
theorem pm_dd_82 {pc n : Nat} {i : Instr} (h : (pc, i, n) ∈ pmc_82) : decode cX9_lies pc = .ok (i, n) := by
  have h : (pc, i, n) ∈ pmc_82.drop 0 := h
  rcases pm_cut h with h | h
  · exact pm_dcm pm_dc_82_0 h
  exact (pm_end h (by decide +kernel)).elim
theorem pm_dd_83 {pc n : Nat} {i : Instr} (h : (pc, i, n) ∈ pmc_83) : decode cX9_open pc = .ok (i, n) := by
  have h : (pc, i, n) ∈ pmc_83.drop 0 := h
  rcases pm_cut h with h | h
  · exact pm_dcm pm_dc_83_0 h
  exact (pm_end h (by decide +kernel)).elim
theorem pm_dd_84 {pc n : Nat} {i : Instr} (h : (pc, i, n) ∈ pmc_84) : decode cX9_sure pc = .ok (i, n) := by
  have h : (pc, i, n) ∈ pmc_84.drop 0 := h
  rcases pm_cut h with h | h
  · exact pm_dcm pm_dc_84_0 h
  exact (pm_end h (by decide +kernel)).elim
theorem pm_dd_85 {pc n : Nat} {i : Instr} (h : (pc, i, n) ∈ pmc_85) : decode cX9_count pc = .ok (i, n) := by
  have h : (pc, i, n) ∈ pmc_85.drop 0 := h
  rcases pm_cut h with h | h
  · exact pm_dcm pm_dc_85_0 h
  exact (pm_end h (by decide +kernel)).elim
theorem pm_dd_86 {pc n : Nat} {i : Instr} (h : (pc, i, n) ∈ pmc_86) : decode cX9_isSystem pc = .ok (i, n) := by
  have h : (pc, i, n) ∈ pmc_86.drop 0 := h
  rcases pm_cut h with h | h
  · exact pm_dcm pm_dc_86_0 h
  exact (pm_end h (by decide +kernel)).elim
theorem pm_dd_87 {pc n : Nat} {i : Instr} (h : (pc, i, n) ∈ pmc_87) : decode cX9_isClass pc = .ok (i, n) := by
  have h : (pc, i, n) ∈ pmc_87.drop 0 := h
  rcases pm_cut h with h | h
  · exact pm_dcm pm_dc_87_0 h
  exact (pm_end h (by decide +kernel)).elim
theorem pm_dd_88 {pc n : Nat} {i : Instr} (h : (pc, i, n) ∈ pmc_88) : decode cX9_isCamp pc = .ok (i, n) := by
  have h : (pc, i, n) ∈ pmc_88.drop 0 := h
  rcases pm_cut h with h | h
  · exact pm_dcm pm_dc_88_0 h
  exact (pm_end h (by decide +kernel)).elim
theorem pm_dd_89 {pc n : Nat} {i : Instr} (h : (pc, i, n) ∈ pmc_89) : decode cX9_isSex pc = .ok (i, n) := by
  have h : (pc, i, n) ∈ pmc_89.drop 0 := h
  rcases pm_cut h with h | h
  · exact pm_dcm pm_dc_89_0 h
  exact (pm_end h (by decide +kernel)).elim
theorem pm_dd_90 {pc n : Nat} {i : Instr} (h : (pc, i, n) ∈ pmc_90) : decode cX9_isYear pc = .ok (i, n) := by
  have h : (pc, i, n) ∈ pmc_90.drop 0 := h
  rcases pm_cut h with h | h
  · exact pm_dcm pm_dc_90_0 h
  exact (pm_end h (by decide +kernel)).elim
theorem pm_dd_91 {pc n : Nat} {i : Instr} (h : (pc, i, n) ∈ pmc_91) : decode cX9_isWay pc = .ok (i, n) := by
  have h : (pc, i, n) ∈ pmc_91.drop 0 := h
  rcases pm_cut h with h | h
  · exact pm_dcm pm_dc_91_0 h
  exact (pm_end h (by decide +kernel)).elim
theorem pm_dd_92 {pc n : Nat} {i : Instr} (h : (pc, i, n) ∈ pmc_92) : decode cX9_systemAt pc = .ok (i, n) := by
  have h : (pc, i, n) ∈ pmc_92.drop 0 := h
  rcases pm_cut h with h | h
  · exact pm_dcm pm_dc_92_0 h
  exact (pm_end h (by decide +kernel)).elim
theorem pm_dd_93 {pc n : Nat} {i : Instr} (h : (pc, i, n) ∈ pmc_93) : decode cX9_birthSystem pc = .ok (i, n) := by
  have h : (pc, i, n) ∈ pmc_93.drop 0 := h
  rcases pm_cut h with h | h
  · exact pm_dcm pm_dc_93_0 h
  exact (pm_end h (by decide +kernel)).elim
theorem pm_dd_94 {pc n : Nat} {i : Instr} (h : (pc, i, n) ∈ pmc_94) : decode cX9_isByMother pc = .ok (i, n) := by
  have h : (pc, i, n) ∈ pmc_94.drop 0 := h
  rcases pm_cut h with h | h
  · exact pm_dcm pm_dc_94_0 h
  exact (pm_end h (by decide +kernel)).elim
theorem pm_dd_95 {pc n : Nat} {i : Instr} (h : (pc, i, n) ∈ pmc_95) : decode cX9_classify pc = .ok (i, n) := by
  have h : (pc, i, n) ∈ pmc_95.drop 0 := h
  rcases pm_cut h with h | h
  · exact pm_dcm pm_dc_95_0 h
  exact (pm_end h (by decide +kernel)).elim
theorem pm_dd_96 {pc n : Nat} {i : Instr} (h : (pc, i, n) ∈ pmc_96) : decode cX9_canBear pc = .ok (i, n) := by
  have h : (pc, i, n) ∈ pmc_96.drop 0 := h
  rcases pm_cut h with h | h
  · exact pm_dcm pm_dc_96_0 h
  exact (pm_end h (by decide +kernel)).elim
theorem pm_dd_97 {pc n : Nat} {i : Instr} (h : (pc, i, n) ∈ pmc_97) : decode cX9_ownHindrance pc = .ok (i, n) := by
  have h : (pc, i, n) ∈ pmc_97.drop 0 := h
  rcases pm_cut h with h | h
  · exact pm_dcm pm_dc_97_0 h
  exact (pm_end h (by decide +kernel)).elim
theorem pm_dd_98 {pc n : Nat} {i : Instr} (h : (pc, i, n) ∈ pmc_98) : decode cX9_pairHindrance pc = .ok (i, n) := by
  have h : (pc, i, n) ∈ pmc_98.drop 0 := h
  rcases pm_cut h with h | h
  · exact pm_dcm pm_dc_98_0 h
  exact (pm_end h (by decide +kernel)).elim
theorem pm_dd_99 {pc n : Nat} {i : Instr} (h : (pc, i, n) ∈ pmc_99) : decode cX9_isRight pc = .ok (i, n) := by
  have h : (pc, i, n) ∈ pmc_99.drop 0 := h
  rcases pm_cut h with h | h
  · exact pm_dcm pm_dc_99_0 h
  exact (pm_end h (by decide +kernel)).elim
theorem pm_dd_100 {pc n : Nat} {i : Instr} (h : (pc, i, n) ∈ pmc_100) : decode cX9_isReady pc = .ok (i, n) := by
  have h : (pc, i, n) ∈ pmc_100.drop 0 := h
  rcases pm_cut h with h | h
  · exact pm_dcm pm_dc_100_0 h
  exact (pm_end h (by decide +kernel)).elim
theorem pm_dd_101 {pc n : Nat} {i : Instr} (h : (pc, i, n) ∈ pmc_101) : decode cX9_noteBrides pc = .ok (i, n) := by
  have h : (pc, i, n) ∈ pmc_101.drop 0 := h
  rcases pm_cut h with h | h
  · exact pm_dcm pm_dc_101_0 h
  exact (pm_end h (by decide +kernel)).elim
theorem pm_dd_102 {pc n : Nat} {i : Instr} (h : (pc, i, n) ∈ pmc_102) : decode cX9_fillGaps pc = .ok (i, n) := by
  have h : (pc, i, n) ∈ pmc_102.drop 0 := h
  rcases pm_cut h with h | h
  · exact pm_dcm pm_dc_102_0 h
  exact (pm_end h (by decide +kernel)).elim
theorem pm_dd_103 {pc n : Nat} {i : Instr} (h : (pc, i, n) ∈ pmc_103) : decode cX9_mayBeOf pc = .ok (i, n) := by
  have h : (pc, i, n) ∈ pmc_103.drop 0 := h
  rcases pm_cut h with h | h
  · exact pm_dcm pm_dc_103_0 h
  exact (pm_end h (by decide +kernel)).elim
theorem pm_dd_104 {pc n : Nat} {i : Instr} (h : (pc, i, n) ∈ pmc_104) : decode cX9_growChild pc = .ok (i, n) := by
  have h : (pc, i, n) ∈ pmc_104.drop 0 := h
  rcases pm_cut h with h | h
  · exact pm_dcm pm_dc_104_0 h
  exact (pm_end h (by decide +kernel)).elim
theorem pm_dd_105 {pc n : Nat} {i : Instr} (h : (pc, i, n) ∈ pmc_105) : decode cX10_isIn pc = .ok (i, n) := by
  have h : (pc, i, n) ∈ pmc_105.drop 0 := h
  rcases pm_cut h with h | h
  · exact pm_dcm pm_dc_105_0 h
  exact (pm_end h (by decide +kernel)).elim
theorem pm_dd_106 {pc n : Nat} {i : Instr} (h : (pc, i, n) ∈ pmc_106) : decode cX10_isSystem pc = .ok (i, n) := by
  have h : (pc, i, n) ∈ pmc_106.drop 0 := h
  rcases pm_cut h with h | h
  · exact pm_dcm pm_dc_106_0 h
  exact (pm_end h (by decide +kernel)).elim
theorem pm_dd_107 {pc n : Nat} {i : Instr} (h : (pc, i, n) ∈ pmc_107) : decode cX10_isClass pc = .ok (i, n) := by
  have h : (pc, i, n) ∈ pmc_107.drop 0 := h
  rcases pm_cut h with h | h
  · exact pm_dcm pm_dc_107_0 h
  exact (pm_end h (by decide +kernel)).elim
theorem pm_dd_108 {pc n : Nat} {i : Instr} (h : (pc, i, n) ∈ pmc_108) : decode cX10_feed pc = .ok (i, n) := by
  have h : (pc, i, n) ∈ pmc_108.drop 0 := h
  rcases pm_cut h with h | h
  · exact pm_dcm pm_dc_108_0 h
  exact (pm_end h (by decide +kernel)).elim
theorem pm_dd_109 {pc n : Nat} {i : Instr} (h : (pc, i, n) ∈ pmc_109) : decode cX10_isLetter pc = .ok (i, n) := by
  have h : (pc, i, n) ∈ pmc_109.drop 0 := h
  rcases pm_cut h with h | h
  · exact pm_dcm pm_dc_109_0 h
  exact (pm_end h (by decide +kernel)).elim
theorem pm_dd_110 {pc n : Nat} {i : Instr} (h : (pc, i, n) ∈ pmc_110) : decode cX10_broken pc = .ok (i, n) := by
  have h : (pc, i, n) ∈ pmc_110.drop 0 := h
  rcases pm_cut h with h | h
  · exact pm_dcm pm_dc_110_0 h
  exact (pm_end h (by decide +kernel)).elim
theorem pm_dd_111 {pc n : Nat} {i : Instr} (h : (pc, i, n) ∈ pmc_111) : decode cX10_foreign pc = .ok (i, n) := by
  have h : (pc, i, n) ∈ pmc_111.drop 0 := h
  rcases pm_cut h with h | h
  · exact pm_dcm pm_dc_111_0 h
  exact (pm_end h (by decide +kernel)).elim
theorem pm_dd_112 {pc n : Nat} {i : Instr} (h : (pc, i, n) ∈ pmc_112) : decode cX10_again pc = .ok (i, n) := by
  have h : (pc, i, n) ∈ pmc_112.drop 0 := h
  rcases pm_cut h with h | h
  · exact pm_dcm pm_dc_112_0 h
  exact (pm_end h (by decide +kernel)).elim
theorem pm_dd_113 {pc n : Nat} {i : Instr} (h : (pc, i, n) ∈ pmc_113) : decode cX10_system pc = .ok (i, n) := by
  have h : (pc, i, n) ∈ pmc_113.drop 0 := h
  rcases pm_cut h with h | h
  · exact pm_dcm pm_dc_113_0 h
  rcases pm_cut h with h | h
  · exact pm_dcm pm_dc_113_120 h
  exact (pm_end h (by decide +kernel)).elim
theorem pm_dd_114 {pc n : Nat} {i : Instr} (h : (pc, i, n) ∈ pmc_114) : decode cX10_fault pc = .ok (i, n) := by
  have h : (pc, i, n) ∈ pmc_114.drop 0 := h
  rcases pm_cut h with h | h
  · exact pm_dcm pm_dc_114_0 h
  exact (pm_end h (by decide +kernel)).elim
theorem pm_dd_115 {pc n : Nat} {i : Instr} (h : (pc, i, n) ∈ pmc_115) : decode cX10_back pc = .ok (i, n) := by
  have h : (pc, i, n) ∈ pmc_115.drop 0 := h
  rcases pm_cut h with h | h
  · exact pm_dcm pm_dc_115_0 h
  exact (pm_end h (by decide +kernel)).elim
theorem pm_dd_116 {pc n : Nat} {i : Instr} (h : (pc, i, n) ∈ pmc_116) : decode cX10_table pc = .ok (i, n) := by
  have h : (pc, i, n) ∈ pmc_116.drop 0 := h
  rcases pm_cut h with h | h
  · exact pm_dcm pm_dc_116_0 h
  exact (pm_end h (by decide +kernel)).elim
theorem pm_dd_117 {pc n : Nat} {i : Instr} (h : (pc, i, n) ∈ pmc_117) : decode cX10_isWay pc = .ok (i, n) := by
  have h : (pc, i, n) ∈ pmc_117.drop 0 := h
  rcases pm_cut h with h | h
  · exact pm_dcm pm_dc_117_0 h
  exact (pm_end h (by decide +kernel)).elim
theorem pm_dd_118 {pc n : Nat} {i : Instr} (h : (pc, i, n) ∈ pmc_118) : decode cX10_isSex pc = .ok (i, n) := by
  have h : (pc, i, n) ∈ pmc_118.drop 0 := h
  rcases pm_cut h with h | h
  · exact pm_dcm pm_dc_118_0 h
  exact (pm_end h (by decide +kernel)).elim
theorem pm_dd_119 {pc n : Nat} {i : Instr} (h : (pc, i, n) ∈ pmc_119) : decode cX10_sexBehind pc = .ok (i, n) := by
  have h : (pc, i, n) ∈ pmc_119.drop 0 := h
  rcases pm_cut h with h | h
  · exact pm_dcm pm_dc_119_0 h
  exact (pm_end h (by decide +kernel)).elim
theorem pm_dd_120 {pc n : Nat} {i : Instr} (h : (pc, i, n) ∈ pmc_120) : decode cX10_classBehind pc = .ok (i, n) := by
  have h : (pc, i, n) ∈ pmc_120.drop 0 := h
  rcases pm_cut h with h | h
  · exact pm_dcm pm_dc_120_0 h
  exact (pm_end h (by decide +kernel)).elim
theorem pm_dd_121 {pc n : Nat} {i : Instr} (h : (pc, i, n) ∈ pmc_121) : decode cX10_leads pc = .ok (i, n) := by
  have h : (pc, i, n) ∈ pmc_121.drop 0 := h
  rcases pm_cut h with h | h
  · exact pm_dcm pm_dc_121_0 h
  exact (pm_end h (by decide +kernel)).elim
theorem pm_dd_122 {pc n : Nat} {i : Instr} (h : (pc, i, n) ∈ pmc_122) : decode cX10_sexOf pc = .ok (i, n) := by
  have h : (pc, i, n) ∈ pmc_122.drop 0 := h
  rcases pm_cut h with h | h
  · exact pm_dcm pm_dc_122_0 h
  exact (pm_end h (by decide +kernel)).elim
theorem pm_dd_123 {pc n : Nat} {i : Instr} (h : (pc, i, n) ∈ pmc_123) : decode cX10_kin pc = .ok (i, n) := by
  have h : (pc, i, n) ∈ pmc_123.drop 0 := h
  rcases pm_cut h with h | h
  · exact pm_dcm pm_dc_123_0 h
  exact (pm_end h (by decide +kernel)).elim
theorem pm_dd_124 {pc n : Nat} {i : Instr} (h : (pc, i, n) ∈ pmc_124) : decode cX10_alike pc = .ok (i, n) := by
  have h : (pc, i, n) ∈ pmc_124.drop 0 := h
  rcases pm_cut h with h | h
  · exact pm_dcm pm_dc_124_0 h
  exact (pm_end h (by decide +kernel)).elim
theorem pm_dd_125 {pc n : Nat} {i : Instr} (h : (pc, i, n) ∈ pmc_125) : decode cX10_home pc = .ok (i, n) := by
  have h : (pc, i, n) ∈ pmc_125.drop 0 := h
  rcases pm_cut h with h | h
  · exact pm_dcm pm_dc_125_0 h
  exact (pm_end h (by decide +kernel)).elim
theorem pm_dd_126 {pc n : Nat} {i : Instr} (h : (pc, i, n) ∈ pmc_126) : decode cX10_brides pc = .ok (i, n) := by
  have h : (pc, i, n) ∈ pmc_126.drop 0 := h
  rcases pm_cut h with h | h
  · exact pm_dcm pm_dc_126_0 h
  exact (pm_end h (by decide +kernel)).elim
theorem pm_dd_127 {pc n : Nat} {i : Instr} (h : (pc, i, n) ∈ pmc_127) : decode cX10_behind pc = .ok (i, n) := by
  have h : (pc, i, n) ∈ pmc_127.drop 0 := h
  rcases pm_cut h with h | h
  · exact pm_dcm pm_dc_127_0 h
  exact (pm_end h (by decide +kernel)).elim
theorem pm_dd_128 {pc n : Nat} {i : Instr} (h : (pc, i, n) ∈ pmc_128) : decode cX10_isNew pc = .ok (i, n) := by
  have h : (pc, i, n) ∈ pmc_128.drop 0 := h
  rcases pm_cut h with h | h
  · exact pm_dcm pm_dc_128_0 h
  exact (pm_end h (by decide +kernel)).elim
theorem pm_dd_129 {pc n : Nat} {i : Instr} (h : (pc, i, n) ∈ pmc_129) : decode cX10_group pc = .ok (i, n) := by
  have h : (pc, i, n) ∈ pmc_129.drop 0 := h
  rcases pm_cut h with h | h
  · exact pm_dcm pm_dc_129_0 h
  exact (pm_end h (by decide +kernel)).elim
theorem pm_dd_130 {pc n : Nat} {i : Instr} (h : (pc, i, n) ∈ pmc_130) : decode cX10_halfOf pc = .ok (i, n) := by
  have h : (pc, i, n) ∈ pmc_130.drop 0 := h
  rcases pm_cut h with h | h
  · exact pm_dcm pm_dc_130_0 h
  exact (pm_end h (by decide +kernel)).elim
theorem pm_dd_131 {pc n : Nat} {i : Instr} (h : (pc, i, n) ∈ pmc_131) : decode cX10_half pc = .ok (i, n) := by
  have h : (pc, i, n) ∈ pmc_131.drop 0 := h
  rcases pm_cut h with h | h
  · exact pm_dcm pm_dc_131_0 h
  exact (pm_end h (by decide +kernel)).elim
theorem pm_dd_132 {pc n : Nat} {i : Instr} (h : (pc, i, n) ∈ pmc_132) : decode cX10_halves pc = .ok (i, n) := by
  have h : (pc, i, n) ∈ pmc_132.drop 0 := h
  rcases pm_cut h with h | h
  · exact pm_dcm pm_dc_132_0 h
  exact (pm_end h (by decide +kernel)).elim
theorem pm_dd_133 {pc n : Nat} {i : Instr} (h : (pc, i, n) ∈ pmc_133) : decode cX10_isCamp pc = .ok (i, n) := by
  have h : (pc, i, n) ∈ pmc_133.drop 0 := h
  rcases pm_cut h with h | h
  · exact pm_dcm pm_dc_133_0 h
  exact (pm_end h (by decide +kernel)).elim
theorem pm_dd_134 {pc n : Nat} {i : Instr} (h : (pc, i, n) ∈ pmc_134) : decode cX10_isPerson pc = .ok (i, n) := by
  have h : (pc, i, n) ∈ pmc_134.drop 0 := h
  rcases pm_cut h with h | h
  · exact pm_dcm pm_dc_134_0 h
  exact (pm_end h (by decide +kernel)).elim
theorem pm_dd_135 {pc n : Nat} {i : Instr} (h : (pc, i, n) ∈ pmc_135) : decode cX10_camp pc = .ok (i, n) := by
  have h : (pc, i, n) ∈ pmc_135.drop 0 := h
  rcases pm_cut h with h | h
  · exact pm_dcm pm_dc_135_0 h
  exact (pm_end h (by decide +kernel)).elim
theorem pm_dd_136 {pc n : Nat} {i : Instr} (h : (pc, i, n) ∈ pmc_136) : decode cX10_law pc = .ok (i, n) := by
  have h : (pc, i, n) ∈ pmc_136.drop 0 := h
  rcases pm_cut h with h | h
  · exact pm_dcm pm_dc_136_0 h
  exact (pm_end h (by decide +kernel)).elim
theorem pm_dd_137 {pc n : Nat} {i : Instr} (h : (pc, i, n) ∈ pmc_137) : decode cX10_lawOf pc = .ok (i, n) := by
  have h : (pc, i, n) ∈ pmc_137.drop 0 := h
  rcases pm_cut h with h | h
  · exact pm_dcm pm_dc_137_0 h
  exact (pm_end h (by decide +kernel)).elim
theorem pm_dd_138 {pc n : Nat} {i : Instr} (h : (pc, i, n) ∈ pmc_138) : decode cX10_isYear pc = .ok (i, n) := by
  have h : (pc, i, n) ∈ pmc_138.drop 0 := h
  rcases pm_cut h with h | h
  · exact pm_dcm pm_dc_138_0 h
  exact (pm_end h (by decide +kernel)).elim
theorem pm_dd_139 {pc n : Nat} {i : Instr} (h : (pc, i, n) ∈ pmc_139) : decode cX10_comes pc = .ok (i, n) := by
  have h : (pc, i, n) ∈ pmc_139.drop 0 := h
  rcases pm_cut h with h | h
  · exact pm_dcm pm_dc_139_0 h
  exact (pm_end h (by decide +kernel)).elim
theorem pm_dd_140 {pc n : Nat} {i : Instr} (h : (pc, i, n) ∈ pmc_140) : decode cX10_stranger pc = .ok (i, n) := by
  have h : (pc, i, n) ∈ pmc_140.drop 0 := h
  rcases pm_cut h with h | h
  · exact pm_dcm pm_dc_140_0 h
  exact (pm_end h (by decide +kernel)).elim
theorem pm_dd_141 {pc n : Nat} {i : Instr} (h : (pc, i, n) ∈ pmc_141) : decode cX10_lives pc = .ok (i, n) := by
  have h : (pc, i, n) ∈ pmc_141.drop 0 := h
  rcases pm_cut h with h | h
  · exact pm_dcm pm_dc_141_0 h
  exact (pm_end h (by decide +kernel)).elim
theorem pm_dd_142 {pc n : Nat} {i : Instr} (h : (pc, i, n) ∈ pmc_142) : decode cX10_born pc = .ok (i, n) := by
  have h : (pc, i, n) ∈ pmc_142.drop 0 := h
  rcases pm_cut h with h | h
  · exact pm_dcm pm_dc_142_0 h
  exact (pm_end h (by decide +kernel)).elim
theorem pm_dd_143 {pc n : Nat} {i : Instr} (h : (pc, i, n) ∈ pmc_143) : decode cX10_die pc = .ok (i, n) := by
  have h : (pc, i, n) ∈ pmc_143.drop 0 := h
  rcases pm_cut h with h | h
  · exact pm_dcm pm_dc_143_0 h
  exact (pm_end h (by decide +kernel)).elim
theorem pm_dd_144 {pc n : Nat} {i : Instr} (h : (pc, i, n) ∈ pmc_144) : decode cX10_age pc = .ok (i, n) := by
  have h : (pc, i, n) ∈ pmc_144.drop 0 := h
  rcases pm_cut h with h | h
  · exact pm_dcm pm_dc_144_0 h
  exact (pm_end h (by decide +kernel)).elim
theorem pm_dd_145 {pc n : Nat} {i : Instr} (h : (pc, i, n) ∈ pmc_145) : decode cX10_childOf pc = .ok (i, n) := by
  have h : (pc, i, n) ∈ pmc_145.drop 0 := h
  rcases pm_cut h with h | h
  · exact pm_dcm pm_dc_145_0 h
  exact (pm_end h (by decide +kernel)).elim
theorem pm_dd_146 {pc n : Nat} {i : Instr} (h : (pc, i, n) ∈ pmc_146) : decode cX10_findClasses pc = .ok (i, n) := by
  have h : (pc, i, n) ∈ pmc_146.drop 0 := h
  rcases pm_cut h with h | h
  · exact pm_dcm pm_dc_146_0 h
  exact (pm_end h (by decide +kernel)).elim
theorem pm_dd_147 {pc n : Nat} {i : Instr} (h : (pc, i, n) ∈ pmc_147) : decode cX10_quarrels pc = .ok (i, n) := by
  have h : (pc, i, n) ∈ pmc_147.drop 0 := h
  rcases pm_cut h with h | h
  · exact pm_dcm pm_dc_147_0 h
  exact (pm_end h (by decide +kernel)).elim
theorem pm_dd_148 {pc n : Nat} {i : Instr} (h : (pc, i, n) ∈ pmc_148) : decode cX10_isRight pc = .ok (i, n) := by
  have h : (pc, i, n) ∈ pmc_148.drop 0 := h
  rcases pm_cut h with h | h
  · exact pm_dcm pm_dc_148_0 h
  exact (pm_end h (by decide +kernel)).elim
theorem pm_dd_149 {pc n : Nat} {i : Instr} (h : (pc, i, n) ∈ pmc_149) : decode cX10_lasts pc = .ok (i, n) := by
  have h : (pc, i, n) ∈ pmc_149.drop 0 := h
  rcases pm_cut h with h | h
  · exact pm_dcm pm_dc_149_0 h
  exact (pm_end h (by decide +kernel)).elim
theorem pm_dd_150 {pc n : Nat} {i : Instr} (h : (pc, i, n) ∈ pmc_150) : decode cX10_spouseOf pc = .ok (i, n) := by
  have h : (pc, i, n) ∈ pmc_150.drop 0 := h
  rcases pm_cut h with h | h
  · exact pm_dcm pm_dc_150_0 h
  exact (pm_end h (by decide +kernel)).elim
theorem pm_dd_151 {pc n : Nat} {i : Instr} (h : (pc, i, n) ∈ pmc_151) : decode cX10_areNear pc = .ok (i, n) := by
  have h : (pc, i, n) ∈ pmc_151.drop 0 := h
  rcases pm_cut h with h | h
  · exact pm_dcm pm_dc_151_0 h
  exact (pm_end h (by decide +kernel)).elim
theorem pm_dd_152 {pc n : Nat} {i : Instr} (h : (pc, i, n) ∈ pmc_152) : decode cX10_hinders pc = .ok (i, n) := by
  have h : (pc, i, n) ∈ pmc_152.drop 0 := h
  rcases pm_cut h with h | h
  · exact pm_dcm pm_dc_152_0 h
  exact (pm_end h (by decide +kernel)).elim
theorem pm_dd_153 {pc n : Nat} {i : Instr} (h : (pc, i, n) ∈ pmc_153) : decode cX10_marry pc = .ok (i, n) := by
  have h : (pc, i, n) ∈ pmc_153.drop 0 := h
  rcases pm_cut h with h | h
  · exact pm_dcm pm_dc_153_0 h
  exact (pm_end h (by decide +kernel)).elim
theorem pm_dd_154 {pc n : Nat} {i : Instr} (h : (pc, i, n) ∈ pmc_154) : decode cX10_may pc = .ok (i, n) := by
  have h : (pc, i, n) ∈ pmc_154.drop 0 := h
  rcases pm_cut h with h | h
  · exact pm_dcm pm_dc_154_0 h
  exact (pm_end h (by decide +kernel)).elim
theorem pm_dd_155 {pc n : Nat} {i : Instr} (h : (pc, i, n) ∈ pmc_155) : decode cX10_about pc = .ok (i, n) := by
  have h : (pc, i, n) ∈ pmc_155.drop 0 := h
  rcases pm_cut h with h | h
  · exact pm_dcm pm_dc_155_0 h
  exact (pm_end h (by decide +kernel)).elim
theorem pm_dd_156 {pc n : Nat} {i : Instr} (h : (pc, i, n) ∈ pmc_156) : decode cX10_spouse pc = .ok (i, n) := by
  have h : (pc, i, n) ∈ pmc_156.drop 0 := h
  rcases pm_cut h with h | h
  · exact pm_dcm pm_dc_156_0 h
  exact (pm_end h (by decide +kernel)).elim
theorem pm_dd_157 {pc n : Nat} {i : Instr} (h : (pc, i, n) ∈ pmc_157) : decode cX10_children pc = .ok (i, n) := by
  have h : (pc, i, n) ∈ pmc_157.drop 0 := h
  rcases pm_cut h with h | h
  · exact pm_dcm pm_dc_157_0 h
  exact (pm_end h (by decide +kernel)).elim
theorem pm_dd_158 {pc n : Nat} {i : Instr} (h : (pc, i, n) ∈ pmc_158) : decode cX10_living pc = .ok (i, n) := by
  have h : (pc, i, n) ∈ pmc_158.drop 0 := h
  rcases pm_cut h with h | h
  · exact pm_dcm pm_dc_158_0 h
  exact (pm_end h (by decide +kernel)).elim
theorem pm_dd_159 {pc n : Nat} {i : Instr} (h : (pc, i, n) ∈ pmc_159) : decode cX10_marriages pc = .ok (i, n) := by
  have h : (pc, i, n) ∈ pmc_159.drop 0 := h
  rcases pm_cut h with h | h
  · exact pm_dcm pm_dc_159_0 h
  exact (pm_end h (by decide +kernel)).elim
theorem pm_dd_160 {pc n : Nat} {i : Instr} (h : (pc, i, n) ∈ pmc_160) : decode cX10_grows pc = .ok (i, n) := by
  have h : (pc, i, n) ∈ pmc_160.drop 0 := h
  rcases pm_cut h with h | h
  · exact pm_dcm pm_dc_160_0 h
  exact (pm_end h (by decide +kernel)).elim
theorem pm_dd_161 {pc n : Nat} {i : Instr} (h : (pc, i, n) ∈ pmc_161) : decode cX10_changes pc = .ok (i, n) := by
  have h : (pc, i, n) ∈ pmc_161.drop 0 := h
  rcases pm_cut h with h | h
  · exact pm_dcm pm_dc_161_0 h
  exact (pm_end h (by decide +kernel)).elim
theorem pm_dd_162 {pc n : Nat} {i : Instr} (h : (pc, i, n) ∈ pmc_162) : decode cX10_greatest pc = .ok (i, n) := by
  have h : (pc, i, n) ∈ pmc_162.drop 0 := h
  rcases pm_cut h with h | h
  · exact pm_dcm pm_dc_162_0 h
  exact (pm_end h (by decide +kernel)).elim
theorem pm_dd_163 {pc n : Nat} {i : Instr} (h : (pc, i, n) ∈ pmc_163) : decode cX10_findMays pc = .ok (i, n) := by
  have h : (pc, i, n) ∈ pmc_163.drop 0 := h
  rcases pm_cut h with h | h
  · exact pm_dcm pm_dc_163_0 h
  exact (pm_end h (by decide +kernel)).elim
theorem pm_dd_164 {pc n : Nat} {i : Instr} (h : (pc, i, n) ∈ pmc_164) : decode cX10_match pc = .ok (i, n) := by
  have h : (pc, i, n) ∈ pmc_164.drop 0 := h
  rcases pm_cut h with h | h
  · exact pm_dcm pm_dc_164_0 h
  exact (pm_end h (by decide +kernel)).elim
theorem pm_dd_165 {pc n : Nat} {i : Instr} (h : (pc, i, n) ∈ pmc_165) : decode cX10_maySome pc = .ok (i, n) := by
  have h : (pc, i, n) ∈ pmc_165.drop 0 := h
  rcases pm_cut h with h | h
  · exact pm_dcm pm_dc_165_0 h
  exact (pm_end h (by decide +kernel)).elim
theorem pm_dd_166 {pc n : Nat} {i : Instr} (h : (pc, i, n) ∈ pmc_166) : decode cX10_findLack pc = .ok (i, n) := by
  have h : (pc, i, n) ∈ pmc_166.drop 0 := h
  rcases pm_cut h with h | h
  · exact pm_dcm pm_dc_166_0 h
  rcases pm_cut h with h | h
  · exact pm_dcm pm_dc_166_120 h
  exact (pm_end h (by decide +kernel)).elim
theorem pm_dd_167 {pc n : Nat} {i : Instr} (h : (pc, i, n) ∈ pmc_167) : decode cX10_matched pc = .ok (i, n) := by
  have h : (pc, i, n) ∈ pmc_167.drop 0 := h
  rcases pm_cut h with h | h
  · exact pm_dcm pm_dc_167_0 h
  exact (pm_end h (by decide +kernel)).elim
theorem pm_dd_168 {pc n : Nat} {i : Instr} (h : (pc, i, n) ∈ pmc_168) : decode cX10_lack pc = .ok (i, n) := by
  have h : (pc, i, n) ∈ pmc_168.drop 0 := h
  rcases pm_cut h with h | h
  · exact pm_dcm pm_dc_168_0 h
  exact (pm_end h (by decide +kernel)).elim
theorem pm_dd_169 {pc n : Nat} {i : Instr} (h : (pc, i, n) ∈ pmc_169) : decode cX10_agreed pc = .ok (i, n) := by
  have h : (pc, i, n) ∈ pmc_169.drop 0 := h
  rcases pm_cut h with h | h
  · exact pm_dcm pm_dc_169_0 h
  exact (pm_end h (by decide +kernel)).elim
theorem pm_dd_170 {pc n : Nat} {i : Instr} (h : (pc, i, n) ∈ pmc_170) : decode cX10_next pc = .ok (i, n) := by
  have h : (pc, i, n) ∈ pmc_170.drop 0 := h
  rcases pm_cut h with h | h
  · exact pm_dcm pm_dc_170_0 h
  exact (pm_end h (by decide +kernel)).elim
theorem pm_dd_171 {pc n : Nat} {i : Instr} (h : (pc, i, n) ∈ pmc_171) : decode cX10_exchanges pc = .ok (i, n) := by
  have h : (pc, i, n) ∈ pmc_171.drop 0 := h
  rcases pm_cut h with h | h
  · exact pm_dcm pm_dc_171_0 h
  exact (pm_end h (by decide +kernel)).elim
theorem pm_dd_172 {pc n : Nat} {i : Instr} (h : (pc, i, n) ∈ pmc_172) : decode cX10_lay pc = .ok (i, n) := by
  have h : (pc, i, n) ∈ pmc_172.drop 0 := h
  rcases pm_cut h with h | h
  · exact pm_dcm pm_dc_172_0 h
  exact (pm_end h (by decide +kernel)).elim
theorem pm_dd_173 {pc n : Nat} {i : Instr} (h : (pc, i, n) ∈ pmc_173) : decode cX10_lies pc = .ok (i, n) := by
  have h : (pc, i, n) ∈ pmc_173.drop 0 := h
  rcases pm_cut h with h | h
  · exact pm_dcm pm_dc_173_0 h
  exact (pm_end h (by decide +kernel)).elim
theorem pm_dd_174 {pc n : Nat} {i : Instr} (h : (pc, i, n) ∈ pmc_174) : decode cX10_findFillings pc = .ok (i, n) := by
  have h : (pc, i, n) ∈ pmc_174.drop 0 := h
  rcases pm_cut h with h | h
  · exact pm_dcm pm_dc_174_0 h
  rcases pm_cut h with h | h
  · exact pm_dcm pm_dc_174_120 h
  exact (pm_end h (by decide +kernel)).elim
theorem pm_dd_175 {pc n : Nat} {i : Instr} (h : (pc, i, n) ∈ pmc_175) : decode cX10_openTo pc = .ok (i, n) := by
  have h : (pc, i, n) ∈ pmc_175.drop 0 := h
  rcases pm_cut h with h | h
  · exact pm_dcm pm_dc_175_0 h
  exact (pm_end h (by decide +kernel)).elim
theorem pm_dd_176 {pc n : Nat} {i : Instr} (h : (pc, i, n) ∈ pmc_176) : decode cX10_open pc = .ok (i, n) := by
  have h : (pc, i, n) ∈ pmc_176.drop 0 := h
  rcases pm_cut h with h | h
  · exact pm_dcm pm_dc_176_0 h
  exact (pm_end h (by decide +kernel)).elim
theorem pm_dd_177 {pc n : Nat} {i : Instr} (h : (pc, i, n) ∈ pmc_177) : decode cX10_sure pc = .ok (i, n) := by
  have h : (pc, i, n) ∈ pmc_177.drop 0 := h
  rcases pm_cut h with h | h
  · exact pm_dcm pm_dc_177_0 h
  exact (pm_end h (by decide +kernel)).elim
theorem pm_dd_178 {pc n : Nat} {i : Instr} (h : (pc, i, n) ∈ pmc_178) : decode cX10_count pc = .ok (i, n) := by
  have h : (pc, i, n) ∈ pmc_178.drop 0 := h
  rcases pm_cut h with h | h
  · exact pm_dcm pm_dc_178_0 h
  exact (pm_end h (by decide +kernel)).elim
theorem pm_dd_179 {pc n : Nat} {i : Instr} (h : (pc, i, n) ∈ pmc_179) : decode cJ6_bitCount_0f7a4 pc = .ok (i, n) := by
  have h : (pc, i, n) ∈ pmc_179.drop 0 := h
  rcases pm_cut h with h | h
  · exact pm_dcm pm_dc_179_0 h
  exact (pm_end h (by decide +kernel)).elim
theorem pm_dd_180 {pc n : Nat} {i : Instr} (h : (pc, i, n) ∈ pmc_180) : decode cJ13_bitCount_95d88 pc = .ok (i, n) := by
  have h : (pc, i, n) ∈ pmc_180.drop 0 := h
  rcases pm_cut h with h | h
  · exact pm_dcm pm_dc_180_0 h
  exact (pm_end h (by decide +kernel)).elim
theorem pm_dd_181 {pc n : Nat} {i : Instr} (h : (pc, i, n) ∈ pmc_181) : decode cJ7_fill_d0a16 pc = .ok (i, n) := by
  have h : (pc, i, n) ∈ pmc_181.drop 0 := h
  rcases pm_cut h with h | h
  · exact pm_dcm pm_dc_181_0 h
  exact (pm_end h (by decide +kernel)).elim
theorem pm_dd_182 {pc n : Nat} {i : Instr} (h : (pc, i, n) ∈ pmc_182) : decode cJ7_fill_53178 pc = .ok (i, n) := by
  have h : (pc, i, n) ∈ pmc_182.drop 0 := h
  rcases pm_cut h with h | h
  · exact pm_dcm pm_dc_182_0 h
  exact (pm_end h (by decide +kernel)).elim
theorem pm_dd_183 {pc n : Nat} {i : Instr} (h : (pc, i, n) ∈ pmc_183) : decode cL_law pc = .ok (i, n) := by
  have h : (pc, i, n) ∈ pmc_183.drop 0 := h
  rcases pm_cut h with h | h
  · exact pm_dcm pm_dc_183_0 h
  rcases pm_cut h with h | h
  · exact pm_dcm pm_dc_183_120 h
  rcases pm_cut h with h | h
  · exact pm_dcm pm_dc_183_240 h
  rcases pm_cut h with h | h
  · exact pm_dcm pm_dc_183_360 h
  rcases pm_cut h with h | h
  · exact pm_dcm pm_dc_183_480 h
  rcases pm_cut h with h | h
  · exact pm_dcm pm_dc_183_600 h
  rcases pm_cut h with h | h
  · exact pm_dcm pm_dc_183_720 h
  rcases pm_cut h with h | h
  · exact pm_dcm pm_dc_183_840 h
  exact (pm_end h (by decide +kernel)).elim
theorem pm_ins_ok {m pc n : Nat} {i : Instr} (h : pm_ins m pc = some (i, n)) : decode (pm_b m) pc = .ok (i, n) := by
  have h1 := pm_lookup h
  match m, h1 with
  | 0, h => exact pm_dd_0 h
  | 1, h => exact pm_dd_1 h
  | 2, h => exact pm_dd_2 h
  | 3, h => exact pm_dd_3 h
  | 4, h => exact pm_dd_4 h
  | 5, h => exact pm_dd_5 h
  | 6, h => exact pm_dd_6 h
  | 7, h => exact pm_dd_7 h
  | 8, h => exact pm_dd_8 h
  | 9, h => exact pm_dd_9 h
  | 10, h => exact pm_dd_10 h
  | 11, h => exact pm_dd_11 h
  | 12, h => exact pm_dd_12 h
  | 13, h => exact pm_dd_13 h
  | 14, h => exact pm_dd_14 h
  | 15, h => exact pm_dd_15 h
  | 16, h => exact pm_dd_16 h
  | 17, h => exact pm_dd_17 h
  | 18, h => exact pm_dd_18 h
  | 19, h => exact pm_dd_19 h
  | 20, h => exact pm_dd_20 h
  | 21, h => exact pm_dd_21 h
  | 22, h => exact pm_dd_22 h
  | 23, h => exact pm_dd_23 h
  | 24, h => exact pm_dd_24 h
  | 25, h => exact pm_dd_25 h
  | 26, h => exact pm_dd_26 h
  | 27, h => exact pm_dd_27 h
  | 28, h => exact pm_dd_28 h
  | 29, h => exact pm_dd_29 h
  | 30, h => exact pm_dd_30 h
  | 31, h => exact pm_dd_31 h
  | 32, h => exact pm_dd_32 h
  | 33, h => exact pm_dd_33 h
  | 34, h => exact pm_dd_34 h
  | 35, h => exact pm_dd_35 h
  | 36, h => exact pm_dd_36 h
  | 37, h => exact pm_dd_37 h
  | 38, h => exact pm_dd_38 h
  | 39, h => exact pm_dd_39 h
  | 40, h => exact pm_dd_40 h
  | 41, h => exact pm_dd_41 h
  | 42, h => exact pm_dd_42 h
  | 43, h => exact pm_dd_43 h
  | 44, h => exact pm_dd_44 h
  | 45, h => exact pm_dd_45 h
  | 46, h => exact pm_dd_46 h
  | 47, h => exact pm_dd_47 h
  | 48, h => exact pm_dd_48 h
  | 49, h => exact pm_dd_49 h
  | 50, h => exact pm_dd_50 h
  | 51, h => exact pm_dd_51 h
  | 52, h => exact pm_dd_52 h
  | 53, h => exact pm_dd_53 h
  | 54, h => exact pm_dd_54 h
  | 55, h => exact pm_dd_55 h
  | 56, h => exact pm_dd_56 h
  | 57, h => exact pm_dd_57 h
  | 58, h => exact pm_dd_58 h
  | 59, h => exact pm_dd_59 h
  | 60, h => exact pm_dd_60 h
  | 61, h => exact pm_dd_61 h
  | 62, h => exact pm_dd_62 h
  | 63, h => exact pm_dd_63 h
  | 64, h => exact pm_dd_64 h
  | 65, h => exact pm_dd_65 h
  | 66, h => exact pm_dd_66 h
  | 67, h => exact pm_dd_67 h
  | 68, h => exact pm_dd_68 h
  | 69, h => exact pm_dd_69 h
  | 70, h => exact pm_dd_70 h
  | 71, h => exact pm_dd_71 h
  | 72, h => exact pm_dd_72 h
  | 73, h => exact pm_dd_73 h
  | 74, h => exact pm_dd_74 h
  | 75, h => exact pm_dd_75 h
  | 76, h => exact pm_dd_76 h
  | 77, h => exact pm_dd_77 h
  | 78, h => exact pm_dd_78 h
  | 79, h => exact pm_dd_79 h
  | 80, h => exact pm_dd_80 h
  | 81, h => exact pm_dd_81 h
  | 82, h => exact pm_dd_82 h
  | 83, h => exact pm_dd_83 h
  | 84, h => exact pm_dd_84 h
  | 85, h => exact pm_dd_85 h
  | 86, h => exact pm_dd_86 h
  | 87, h => exact pm_dd_87 h
  | 88, h => exact pm_dd_88 h
  | 89, h => exact pm_dd_89 h
  | 90, h => exact pm_dd_90 h
  | 91, h => exact pm_dd_91 h
  | 92, h => exact pm_dd_92 h
  | 93, h => exact pm_dd_93 h
  | 94, h => exact pm_dd_94 h
  | 95, h => exact pm_dd_95 h
  | 96, h => exact pm_dd_96 h
  | 97, h => exact pm_dd_97 h
  | 98, h => exact pm_dd_98 h
  | 99, h => exact pm_dd_99 h
  | 100, h => exact pm_dd_100 h
  | 101, h => exact pm_dd_101 h
  | 102, h => exact pm_dd_102 h
  | 103, h => exact pm_dd_103 h
  | 104, h => exact pm_dd_104 h
  | 105, h => exact pm_dd_105 h
  | 106, h => exact pm_dd_106 h
  | 107, h => exact pm_dd_107 h
  | 108, h => exact pm_dd_108 h
  | 109, h => exact pm_dd_109 h
  | 110, h => exact pm_dd_110 h
  | 111, h => exact pm_dd_111 h
  | 112, h => exact pm_dd_112 h
  | 113, h => exact pm_dd_113 h
  | 114, h => exact pm_dd_114 h
  | 115, h => exact pm_dd_115 h
  | 116, h => exact pm_dd_116 h
  | 117, h => exact pm_dd_117 h
  | 118, h => exact pm_dd_118 h
  | 119, h => exact pm_dd_119 h
  | 120, h => exact pm_dd_120 h
  | 121, h => exact pm_dd_121 h
  | 122, h => exact pm_dd_122 h
  | 123, h => exact pm_dd_123 h
  | 124, h => exact pm_dd_124 h
  | 125, h => exact pm_dd_125 h
  | 126, h => exact pm_dd_126 h
  | 127, h => exact pm_dd_127 h
  | 128, h => exact pm_dd_128 h
  | 129, h => exact pm_dd_129 h
  | 130, h => exact pm_dd_130 h
  | 131, h => exact pm_dd_131 h
  | 132, h => exact pm_dd_132 h
  | 133, h => exact pm_dd_133 h
  | 134, h => exact pm_dd_134 h
  | 135, h => exact pm_dd_135 h
  | 136, h => exact pm_dd_136 h
  | 137, h => exact pm_dd_137 h
  | 138, h => exact pm_dd_138 h
  | 139, h => exact pm_dd_139 h
  | 140, h => exact pm_dd_140 h
  | 141, h => exact pm_dd_141 h
  | 142, h => exact pm_dd_142 h
  | 143, h => exact pm_dd_143 h
  | 144, h => exact pm_dd_144 h
  | 145, h => exact pm_dd_145 h
  | 146, h => exact pm_dd_146 h
  | 147, h => exact pm_dd_147 h
  | 148, h => exact pm_dd_148 h
  | 149, h => exact pm_dd_149 h
  | 150, h => exact pm_dd_150 h
  | 151, h => exact pm_dd_151 h
  | 152, h => exact pm_dd_152 h
  | 153, h => exact pm_dd_153 h
  | 154, h => exact pm_dd_154 h
  | 155, h => exact pm_dd_155 h
  | 156, h => exact pm_dd_156 h
  | 157, h => exact pm_dd_157 h
  | 158, h => exact pm_dd_158 h
  | 159, h => exact pm_dd_159 h
  | 160, h => exact pm_dd_160 h
  | 161, h => exact pm_dd_161 h
  | 162, h => exact pm_dd_162 h
  | 163, h => exact pm_dd_163 h
  | 164, h => exact pm_dd_164 h
  | 165, h => exact pm_dd_165 h
  | 166, h => exact pm_dd_166 h
  | 167, h => exact pm_dd_167 h
  | 168, h => exact pm_dd_168 h
  | 169, h => exact pm_dd_169 h
  | 170, h => exact pm_dd_170 h
  | 171, h => exact pm_dd_171 h
  | 172, h => exact pm_dd_172 h
  | 173, h => exact pm_dd_173 h
  | 174, h => exact pm_dd_174 h
  | 175, h => exact pm_dd_175 h
  | 176, h => exact pm_dd_176 h
  | 177, h => exact pm_dd_177 h
  | 178, h => exact pm_dd_178 h
  | 179, h => exact pm_dd_179 h
  | 180, h => exact pm_dd_180 h
  | 181, h => exact pm_dd_181 h
  | 182, h => exact pm_dd_182 h
  | 183, h => exact pm_dd_183 h
  | k + 184, h =>
    have e : pm_codes.getD (k + 184) [] = [] := by
      rw [List.getD_eq_getElem?_getD, List.getElem?_eq_none (by show 184 ≤ k + 184; omega)]
      rfl
    rw [e] at h
    cases h
theorem pm_cls_w {c : Nat} {r : vw_C} (h : pm_classes[c]? = some r) : (∀ w ∈ u_ws r.1 r.2.1 r.2.2, w ∈ pm_G) ∧ r.2.2 = pm_nf c ∧ r.1 = pm_cn c ∧ (∀ k, k < r.2.2 → pm_fk c k = 0 → (r.2.1 k).2.2.2 = false ∧ parseFieldDescriptor (r.2.1 k).2.2.1 = some .int) ∧ (∀ k, k < r.2.2 → pm_fk c k = 1 → (r.2.1 k).2.2.2 = false ∧ parseFieldDescriptor (r.2.1 k).2.2.1 = some .long) := by
  have hc : c < 11 := (List.getElem?_eq_some_iff.mp h).1
  have h1 := List.all_eq_true.mp pm_okW c (List.mem_range.mpr hc)
  have h2 := List.all_eq_true.mp pm_okT c (List.mem_range.mpr hc)
  unfold pm_okW1 at h1
  unfold pm_okT1 at h2
  rw [h] at h1 h2
  dsimp only at h1 h2
  rw [Bool.and_eq_true, decide_eq_true_eq] at h1
  rw [Bool.and_eq_true, Bool.and_eq_true, decide_eq_true_eq, decide_eq_true_eq] at h2
  obtain ⟨⟨a, b⟩, d⟩ := h2
  refine ⟨fun w hw => ?_, a, b, fun k hk hf => ?_, fun k hk hf => ?_⟩
  · obtain ⟨i, hz⟩ := pm_zip h1.2 hw
    exact pm_in_G (List.all_eq_true.mp h1.1 _ hz)
  · have h3 := List.all_eq_true.mp d k (List.mem_range.mpr hk)
    rw [hf] at h3
    simpa using h3
  · have h3 := List.all_eq_true.mp d k (List.mem_range.mpr hk)
    rw [hf] at h3
    simpa using h3
