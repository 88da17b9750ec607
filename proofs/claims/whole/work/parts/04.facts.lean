/-! what the tables say, decided -/
def pm_cn (own : Nat) : String := pm_cns.getD own ""
def pm_y (m : Nat) : MethodName := pm_ys.getD m ⟨"", "", ""⟩
def pm_b (m : Nat) : ByteArray := pm_bs.getD m ⟨#[]⟩
def pm_nf (c : Nat) : Nat := (pm_fks.getD c []).length
def pm_G : List Cond := lw_tbl.filter goodWord
def pm_w (m : Nat) : List Cond := Cond.code (pm_y m) (pm_b m) (pm_mx m) (pm_ret m) :: pm_G
def pm_in (i : Nat) (w : Cond) : Bool := decide (lw_tbl[i]? = some w) && goodWord w
theorem pm_in_G {i : Nat} {w : Cond} (h : pm_in i w = true) : w ∈ pm_G := by
  unfold pm_in at h
  rw [Bool.and_eq_true, decide_eq_true_eq] at h
  exact List.mem_filter.mpr ⟨List.mem_of_getElem? h.1, h.2⟩
theorem pm_G_tbl {w : Cond} (h : w ∈ pm_G) : w ∈ lw_tbl := (List.mem_filter.mp h).1
theorem pm_G_good {w : Cond} (h : w ∈ pm_G) : (w.onTables && w.keeps) = true ∨ ∃ ty, w = .arrayClass ty := good_of_word (List.mem_filter.mp h).2
def pm_okF1 (q : (Nat × Nat × Nat) × Nat) : Bool := match pm_classes[q.1.2.1]? with
  | none => false
  | some r => decide (q.1.2.2 < r.2.2) && pm_in q.2 (Cond.fieldLink (pm_cn (q.1.1 / 1000)) (q.1.1 % 1000) (r.2.1 q.1.2.2).1 (r.2.1 q.1.2.2).2.1 (r.2.1 q.1.2.2).2.2.1)
set_option maxRecDepth 100000 in
theorem pm_okF : (pm_fls.zip pm_ixF).all pm_okF1 = true := by decide +kernel
theorem pm_okF0 : pm_fls.length ≤ pm_ixF.length := by decide +kernel
def pm_okC1 (q : (Nat × Nat) × Nat) : Bool := decide (q.1.2 < 183) && pm_in q.2 (Cond.methodLink (pm_cn (q.1.1 / 1000)) (q.1.1 % 1000) (pm_y q.1.2))
set_option maxRecDepth 100000 in
theorem pm_okC : (pm_cls.zip pm_ixC).all pm_okC1 = true := by decide +kernel
theorem pm_okC0 : pm_cls.length ≤ pm_ixC.length := by decide +kernel
def pm_okM1 (m : Nat) : Bool := decide ((pm_y m).cls = pm_cn (pm_own m)) && decide ((pm_y m).cls ≠ "java/lang/invoke/MethodHandle" ∧ (pm_y m).cls ≠ "java/lang/invoke/VarHandle") && decide ((parseMethodDescriptor (pm_y m).desc).map (fun d => d.parameters.length) = some (pm_na m - pm_vt m)) && decide (pm_mx m ≤ 40) && decide (pm_vt m ≤ pm_na m) && decide (pm_vt m ≤ 1) && Jvm.plainName (pm_y m).cls
set_option maxRecDepth 100000 in
theorem pm_okM : (List.range 183).all pm_okM1 = true := by decide +kernel
def pm_okN1 (m : Nat) (i : Nat × Nat × Nat × Nat) : Bool := goodWord (Cond.code (pm_y m) (pm_b m) (pm_mx m) (pm_ret m)) && pm_in i.2.1 (Cond.initialized (pm_y m).cls) && (if pm_vt m = 1 then pm_in i.2.2.1 (Cond.instanceMethod (pm_y m)) && pm_in i.2.2.2 (Cond.selects (pm_y m).cls (pm_y m) (pm_y m)) else pm_in i.2.2.1 (Cond.static (pm_y m)))
set_option maxRecDepth 100000 in
theorem pm_okN : (List.range 183).all (fun m => pm_okN1 m (pm_ixM.getD m (0, 0, 0, 0))) = true := by decide +kernel
theorem pm_okK0 : (pm_cis.zip pm_ixK).all (fun q => pm_in q.2 (Cond.constant (pm_cn (q.1.1 / 1000)) (q.1.1 % 1000) q.1.2)) = true := by decide +kernel
theorem pm_okL0 : (pm_cLs.zip pm_ixL).all (fun q => pm_in q.2 (Cond.constantLong (pm_cn (q.1.1 / 1000)) (q.1.1 % 1000) q.1.2)) = true := by decide +kernel
theorem pm_okK9 : pm_cis.length ≤ pm_ixK.length ∧ pm_cLs.length ≤ pm_ixL.length ∧ pm_nats.length ≤ pm_ixP.length ∧ pm_mins.length ≤ pm_ixN.length := by decide +kernel
theorem pm_okP : (pm_nats.zip pm_ixP).all (fun q => pm_in q.2 (Cond.methodLink (pm_cn (q.1 / 1000)) (q.1 % 1000) arraycopyName)) = true := by decide +kernel
theorem pm_okP1 : (pm_in pm_ixA.1 (Cond.native arraycopyName) && pm_in pm_ixA.2.1 (Cond.static arraycopyName) && pm_in pm_ixA.2.2 (Cond.initialized "java/lang/System")) = true := by decide +kernel
theorem pm_okQ : (pm_mins.zip pm_ixN).all (fun q => pm_in q.2 (Cond.methodLink (pm_cn (q.1 / 1000)) (q.1 % 1000) Lib.Math.min.name)) = true := by decide +kernel
theorem pm_okQ1 : (pm_in pm_ixB.1 (Cond.code Lib.Math.min.name Lib.Math.min.code 2 (some .int)) && pm_in pm_ixB.2.1 (Cond.static Lib.Math.min.name) && pm_in pm_ixB.2.2 (Cond.initialized "java/lang/Math")) = true := by decide +kernel
/-! the layout -/
theorem pm_lay_nd : pm_lay.Nodup := by decide +kernel
/-- what stands in the layout: an object of a class, or an array in a field of one -/
def pm_okY1 (x : Nat × Nat × Nat) : Bool := match x with
  | (c, o, 0) => decide (c < 11) && (List.range (pm_nf c)).all (fun k => match pm_fk c k with
      | 2 => decide ((c, o, k + 1) ∈ pm_lay)
      | t + 3 => decide ((t, 0, 0) ∈ pm_lay)
      | _ => true)
  | (c, _, k + 1) => decide (c < 11) && decide (k < pm_nf c) && decide (pm_fk c k = 2) && (match pm_ar c k with
      | some (n, d) => decide (n < 2305) && decide (d < 3 ∨ d = 3 ∨ d = 5) && (if 3 ≤ d then (List.range n).all (fun i => decide ((d - 3, i, 0) ∈ pm_lay)) else true)
      | none => false)
theorem pm_okY : pm_lay.all pm_okY1 = true := by decide +kernel
def pm_okT1 (c : Nat) : Bool := match pm_classes[c]? with
  | none => false
  | some r => decide (r.2.2 = pm_nf c) && decide (r.1 = pm_cn c) && (List.range r.2.2).all (fun k => match pm_fk c k with
      | 0 => !(r.2.1 k).2.2.2 && decide (parseFieldDescriptor (r.2.1 k).2.2.1 = some .int)
      | 1 => !(r.2.1 k).2.2.2 && decide (parseFieldDescriptor (r.2.1 k).2.2.1 = some .long)
      | _ => true)
theorem pm_okT : (List.range 11).all pm_okT1 = true := by decide +kernel
theorem pm_cls_ok : ∀ (c : Nat) (r : vw_C), pm_classes[c]? = some r → (∃ ty : Nat → FieldType, ∀ k, k < r.2.2 → parseFieldDescriptor (r.2.1 k).2.2.1 = some (ty k)) ∧ (∀ a, a < r.2.2 → ∀ b, b < r.2.2 → a ≠ b → (r.2.1 a).2.1 ≠ (r.2.1 b).2.1) := by
  intro c r h
  match c, h with
  | 0, h => cases h; exact ⟨⟨_, tyX0_ok⟩, nmX0⟩
  | 1, h => cases h; exact ⟨⟨_, tyX1_ok⟩, nmX1⟩
  | 2, h => cases h; exact ⟨⟨_, tyX2_ok⟩, nmX2⟩
  | 3, h => cases h; exact ⟨⟨_, tyX3_ok⟩, nmX3⟩
  | 4, h => cases h; exact ⟨⟨_, tyX4_ok⟩, nmX4⟩
  | 5, h => cases h; exact ⟨⟨_, tyX5_ok⟩, nmX5⟩
  | 6, h => cases h; exact ⟨⟨_, tyX6_ok⟩, nmX6⟩
  | 7, h => cases h; exact ⟨⟨_, tyX7_ok⟩, nmX7⟩
  | 8, h => cases h; exact ⟨⟨_, tyX8_ok⟩, nmX8⟩
  | 9, h => cases h; exact ⟨⟨_, tyX9_ok⟩, nmX9⟩
  | 10, h => cases h; exact ⟨⟨_, tyX10_ok⟩, nmX10⟩
  | k + 11, h => simp [pm_classes] at h
def pm_okW1 (c : Nat) : Bool := match pm_classes[c]? with
  | none => false
  | some r => ((u_ws r.1 r.2.1 r.2.2).zip (pm_ixY.getD c [])).all (fun q => pm_in q.2 q.1) && decide ((u_ws r.1 r.2.1 r.2.2).length ≤ (pm_ixY.getD c []).length)
set_option maxRecDepth 100000 in
theorem pm_okW : (List.range 11).all pm_okW1 = true := by decide +kernel
