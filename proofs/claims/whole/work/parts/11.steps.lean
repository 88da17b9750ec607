/-! soundness: what the pure machine does, the machine does -/
def pm_okr (lw : Bool) (x : pmR) : Prop := x ∈ pm_lay ∨ (lw = true ∧ x = (11, 0, 1))
def pm_okv (lw : Bool) (v : pmV) : Prop := match v with
  | .inr (.inr x) => pm_okr lw x
  | _ => True
def pm_okl (lw : Bool) (m : Nat) (ls : pmL) : Prop := ∀ (v : pmV) (j : Nat), ls[j]? = some (some v) → pm_okv lw v ∧ (pm_cat v = 2 → pm_lg m j = true)
def pm_ok (lw : Bool) (fr : pmF) : Prop := fr.2.2.1.length = pm_mx fr.1 ∧ (∀ v ∈ fr.2.2.2.1, pm_okv lw v) ∧ pm_okl lw fr.1 fr.2.2.1
def pm_Cx (p : Program) (s : State) (mm : MethodId) (args : Array Value) (c : Code) (dC : Nat → ClassId) (dI : Nat → Nat → Nat) (a : Nat → ClassId) (q : Nat → Nat → Nat → Nat) (m : Nat) : Prop :=
  p.tables.exec = Jvm.exec ∧ c.code = pm_b m ∧ c.maxLocals = pm_mx m ∧ s.vm.findClass (pm_cn (pm_own m)) = some mm.cls ∧ (∀ w ∈ pm_G, w.before args s = true) ∧ va_K (dC, dI) pm_classes (pm_tys a) s ∧ pm_inj q
def pm_Sx (s : State) (q : Nat → Nat → Nat → Nat) (lw : Bool) (L : Nat) (xs : Nat → Int32) (σ : pmS) : Prop := lw = true → va_X (q 11 0 1) L xs s s.heap ∧ q 11 0 1 < s.heap.size ∧ ¬ pm_A q (q 11 0 1) ∧ L < 2 ^ 31 ∧ (∀ i, σ.1 11 0 0 i = xs i) ∧ σ.1 11 0 1 0 = nI L
def pm_K (p : Program) (l : Launch) (e : Env) (R : Room) (s : State) (mm : MethodId) (args : Array Value) (below : List Frame) (meth : Method) (c : Code) (cells slots : Nat) (Q : State → Prop) (dC : Nat → ClassId) (dI : Nat → Nat → Nat) (a : Nat → ClassId) (q : Nat → Nat → Nat → Nat) (fr : pmF) : Prop :=
  ∀ (H : Heap) (locs : List Loc) (LS : Array Slot), va_P (dC, dI) pm_classes (pm_ws q a fr.2.2.2.2) H → va_S (pm_A q) s.heap H locs → pm_LV q LS fr.2.2.1 → W p l e R s mm args below meth c H locs cells slots Q (F0 mm fr.2.1 LS (fr.2.2.2.1.map (pm_val q)))
def pm_Pc (dC : Nat → ClassId) (dI : Nat → Nat → Nat) (a : Nat → ClassId) (q : Nat → Nat → Nat → Nat) (as : List pmV) (σ : pmS) : Array Value → State → Prop := va_Pc (as.map (pm_val q)) (fun U => va_P (dC, dI) pm_classes (pm_ws q a σ) U.heap ∧ va_K (dC, dI) pm_classes (pm_tys a) U)
def pm_Qc (dC : Nat → ClassId) (dI : Nat → Nat → Nat) (a : Nat → ClassId) (q : Nat → Nat → Nat → Nat) (σ : pmS) (r : Option pmV) (σ' : pmS) : Array Value → State → Outcome → State → Prop := fun _ st oc t => (((∀ v, r = some v → pm_okv false v) ∧ σ'.1 11 = σ.1 11) ∧ oc = .returned (r.map (pm_val q)) ∧ va_P (dC, dI) pm_classes (pm_ws q a σ') t.heap ∧ va_K (dC, dI) pm_classes (pm_tys a) t) ∧ va_F (pm_A q) st t
def pm_rm (d : Nat) : Room := { frames := d, cells := 0, slots := 0, locals := 64 * d }
def pm_CS (l : Launch) (dC : Nat → ClassId) (dI : Nat → Nat → Nat) (a : Nat → ClassId) (q : Nat → Nat → Nat → Nat) (d : Nat) (C : pmC) : Prop := ∀ (cm : Nat) (as : List pmV) (σ : pmS) (r : Option pmV) (σ' : pmS), C cm as σ = some (r, σ') → cm < 183 → (∀ v ∈ as, pm_okv false v) → Met l (pm_y cm) (pm_w cm) (pm_rm d) (pm_Pc dC dI a q as σ) (pm_Qc dC dI a q σ r σ') 0 0 (pm_A q)
theorem pm_okv_push {lw : Bool} {m pc pc' : Nat} {ls : pmL} {st st' : List pmV} {σ σ' : pmS} {v : pmV} (ok : pm_ok lw (m, pc, ls, st, σ)) (hv : pm_okv lw v) (hst : ∀ u ∈ st', u ∈ st) : pm_ok lw (m, pc', ls, v :: st', σ') := ⟨ok.1, fun u hu => (List.mem_cons.mp hu).elim (fun z => z ▸ hv) (fun z => ok.2.1 u (hst u z)), ok.2.2⟩
theorem pm_okv_pop {lw : Bool} {m pc pc' : Nat} {ls : pmL} {st st' : List pmV} {σ σ' : pmS} (ok : pm_ok lw (m, pc, ls, st, σ)) (hst : ∀ u ∈ st', u ∈ st) : pm_ok lw (m, pc', ls, st', σ') := ⟨ok.1, fun u hu => ok.2.1 u (hst u hu), ok.2.2⟩
theorem pm_sub1 {α : Type} {x : α} {l : List α} : ∀ u ∈ l, u ∈ x :: l := fun _ h => List.mem_cons_of_mem _ h
theorem pm_sub2 {α : Type} {x y : α} {l : List α} : ∀ u ∈ l, u ∈ x :: y :: l := fun _ h => List.mem_cons_of_mem _ (List.mem_cons_of_mem _ h)
theorem pm_sub3 {α : Type} {x y z : α} {l : List α} : ∀ u ∈ l, u ∈ x :: y :: z :: l := fun _ h => List.mem_cons_of_mem _ (pm_sub2 _ h)
theorem pm_set_okl {lw : Bool} {m : Nat} {ls : pmL} {k : Nat} {x : Option pmV} (h : pm_okl lw m ls) (hx : ∀ v, x = some v → pm_okv lw v ∧ (pm_cat v = 2 → pm_lg m k = true)) : pm_okl lw m (ls.set k x) := by
  intro v j hj
  by_cases hk : j = k
  · subst hk
    have hl : j < ls.length := by
      have := (List.getElem?_eq_some_iff.mp hj).1
      simpa using this
    rw [List.getElem?_set_self hl] at hj
    exact hx v (Option.some.inj hj)
  · rw [List.getElem?_set_ne (Ne.symm hk)] at hj
    exact h v j hj
theorem pm_nl_ok {lw : Bool} {m : Nat} {ls : pmL} {k : Nat} (h : pm_okl lw m ls) (hn : pm_nl m k = true) : pm_nolong ls k = true := by
  cases k with
  | zero => rfl
  | succ k =>
    unfold pm_nolong
    dsimp only
    split
    next x hx =>
      have h1 := (h _ k hx).2 rfl
      unfold pm_nl at hn
      dsimp only at hn
      rw [h1] at hn
      exact hn
    next => rfl
theorem pm_noscr_ok {lw : Bool} {as : List pmV} (h : pm_noscr as = true) (ho : ∀ v ∈ as, pm_okv lw v) : ∀ v ∈ as, pm_okv false v := by
  intro v hv
  have h1 := List.all_eq_true.mp h v hv
  have h2 := ho v hv
  rcases v with x | x | x
  · trivial
  · trivial
  · rcases h2 with h2 | h2
    · exact Or.inl h2
    · rw [h2.2] at h1
      simp at h1
section PMS
variable {p : Program} {l : Launch} {e : Env} {R : Room} {s : State} {mm : MethodId} {args : Array Value} {below : List Frame} {meth : Method} {c : Code} {cells slots : Nat} {Q : State → Prop}
variable {dC : Nat → ClassId} {dI : Nat → Nat → Nat} {a : Nat → ClassId} {q : Nat → Nat → Nat → Nat}
/-- the step at one instruction -/
def pm_St (p : Program) (l : Launch) (e : Env) (R : Room) (s : State) (mm : MethodId) (args : Array Value) (below : List Frame) (meth : Method) (c : Code) (cells slots : Nat) (Q : State → Prop) (dC : Nat → ClassId) (dI : Nat → Nat → Nat) (a : Nat → ClassId) (q : Nat → Nat → Nat → Nat) (lw : Bool) (fr : pmF) (y : pmO ⊕ pmF) : Prop := ∀ fr' : pmF, y = .inr fr' → ((pm_ok lw fr' ∧ fr'.1 = fr.1 ∧ fr'.2.2.2.2.1 11 = fr.2.2.2.2.1 11) → pm_K p l e R s mm args below meth c cells slots Q dC dI a q fr') → pm_K p l e R s mm args below meth c cells slots Q dC dI a q fr
variable {lw : Bool} {m pc : Nat} {ls : pmL} {st : List pmV} {σ : pmS}
theorem pm_St.mk {pc' : Nat} {ls' : pmL} {st' : List pmV} {σ' : pmS} (h1 : pm_ok lw (m, pc', ls', st', σ')) (h2 : σ'.1 11 = σ.1 11) (h3 : pm_K p l e R s mm args below meth c cells slots Q dC dI a q (m, pc', ls', st', σ') → pm_K p l e R s mm args below meth c cells slots Q dC dI a q (m, pc, ls, st, σ)) : pm_St p l e R s mm args below meth c cells slots Q dC dI a q lw (m, pc, ls, st, σ) (.inr (m, pc', ls', st', σ')) := by
  intro fr' he kk
  cases he
  exact h3 (kk ⟨h1, rfl, h2⟩)

theorem pmS_iconst (hx : pm_Cx p s mm args c dC dI a q m) (ok : pm_ok lw (m, pc, ls, st, σ)) {n : Nat} {k : Int} (hd : decode (pm_b m) pc = .ok (.iconst k, 1)) {y : pmO ⊕ pmF} (h : pm_nx m (pc + 1) ls (.inl (Int32.ofInt k) :: st) σ = some y) : pm_St p l e R s mm args below meth c cells slots Q dC dI a q lw (m, pc, ls, st, σ) y := by
  cases h
  exact pm_St.mk (pm_okv_push ok trivial (fun _ z => z)) rfl (fun kk H locs LS hP hS hL => lv_iconst hx.1 hx.2.1 hd rfl (kk H locs LS hP hS hL))
theorem pmS_bipush (hx : pm_Cx p s mm args c dC dI a q m) (ok : pm_ok lw (m, pc, ls, st, σ)) {n : Nat} {k : Int} (hd : decode (pm_b m) pc = .ok (.bipush k, 2)) {y : pmO ⊕ pmF} (h : pm_nx m (pc + 2) ls (.inl (Int8.ofInt k).toInt32 :: st) σ = some y) : pm_St p l e R s mm args below meth c cells slots Q dC dI a q lw (m, pc, ls, st, σ) y := by
  cases h
  exact pm_St.mk (pm_okv_push ok trivial (fun _ z => z)) rfl (fun kk H locs LS hP hS hL => lv_bipush hx.1 hx.2.1 hd rfl (kk H locs LS hP hS hL))
theorem pmS_sipush (hx : pm_Cx p s mm args c dC dI a q m) (ok : pm_ok lw (m, pc, ls, st, σ)) {n : Nat} {k : Int} (hd : decode (pm_b m) pc = .ok (.sipush k, 3)) {y : pmO ⊕ pmF} (h : pm_nx m (pc + 3) ls (.inl (Int16.ofInt k).toInt32 :: st) σ = some y) : pm_St p l e R s mm args below meth c cells slots Q dC dI a q lw (m, pc, ls, st, σ) y := by
  cases h
  exact pm_St.mk (pm_okv_push ok trivial (fun _ z => z)) rfl (fun kk H locs LS hP hS hL => lv_sipush hx.1 hx.2.1 hd rfl (kk H locs LS hP hS hL))
theorem pmS_lconst (hx : pm_Cx p s mm args c dC dI a q m) (ok : pm_ok lw (m, pc, ls, st, σ)) {n : Nat} {k : Fin 2} (hd : decode (pm_b m) pc = .ok (.lconst k, 1)) {y : pmO ⊕ pmF} (h : pm_nx m (pc + 1) ls (.inr (.inl (Int64.ofNat (k : Nat))) :: st) σ = some y) : pm_St p l e R s mm args below meth c cells slots Q dC dI a q lw (m, pc, ls, st, σ) y := by
  cases h
  exact pm_St.mk (pm_okv_push ok trivial (fun _ z => z)) rfl (fun kk H locs LS hP hS hL => lv_lconst hx.1 hx.2.1 hd rfl (kk H locs LS hP hS hL))
theorem pmS_ldc (hx : pm_Cx p s mm args c dC dI a q m) (ok : pm_ok lw (m, pc, ls, st, σ)) {n : Nat} {k : Nat} {v : Int32} (hv : pm_ci (pm_own m) k = some v) (hd : decode (pm_b m) pc = .ok (.ldc k, 2)) {y : pmO ⊕ pmF} (h : pm_nx m (pc + 2) ls (.inl v :: st) σ = some y) : pm_St p l e R s mm args below meth c cells slots Q dC dI a q lw (m, pc, ls, st, σ) y := by
  cases h
  exact pm_St.mk (pm_okv_push ok trivial (fun _ z => z)) rfl (fun kk H locs LS hP hS hL => lv_ldc hx.1 hx.2.1 hx.2.2.2.1 (hx.2.2.2.2.1 _ (pm_ci_ok hv)) hd (kk H locs LS hP hS hL))
theorem pmS_ldc_w (hx : pm_Cx p s mm args c dC dI a q m) (ok : pm_ok lw (m, pc, ls, st, σ)) {n : Nat} {k : Nat} {v : Int32} (hv : pm_ci (pm_own m) k = some v) (hd : decode (pm_b m) pc = .ok (.ldc_w k, 3)) {y : pmO ⊕ pmF} (h : pm_nx m (pc + 3) ls (.inl v :: st) σ = some y) : pm_St p l e R s mm args below meth c cells slots Q dC dI a q lw (m, pc, ls, st, σ) y := by
  cases h
  exact pm_St.mk (pm_okv_push ok trivial (fun _ z => z)) rfl (fun kk H locs LS hP hS hL => lv_ldcw hx.1 hx.2.1 hx.2.2.2.1 (hx.2.2.2.2.1 _ (pm_ci_ok hv)) hd (kk H locs LS hP hS hL))
theorem pmS_ldc2 (hx : pm_Cx p s mm args c dC dI a q m) (ok : pm_ok lw (m, pc, ls, st, σ)) {n : Nat} {k : Nat} {v : Int64} (hv : pm_cL (pm_own m) k = some v) (hd : decode (pm_b m) pc = .ok (.ldc2_w k, 3)) {y : pmO ⊕ pmF} (h : pm_nx m (pc + 3) ls (.inr (.inl v) :: st) σ = some y) : pm_St p l e R s mm args below meth c cells slots Q dC dI a q lw (m, pc, ls, st, σ) y := by
  cases h
  exact pm_St.mk (pm_okv_push ok trivial (fun _ z => z)) rfl (fun kk H locs LS hP hS hL => lv_ldc2 hx.1 hx.2.1 hx.2.2.2.1 (hx.2.2.2.2.1 _ (pm_cL_ok hv)) hd (kk H locs LS hP hS hL))
theorem pmS_iload_n (hx : pm_Cx p s mm args c dC dI a q m) (ok : pm_ok lw (m, pc, ls, st, σ)) {n : Nat} {k : Fin 4} (hd : decode (pm_b m) pc = .ok (.iload_n k, 1)) {y : pmO ⊕ pmF} (h : pm_ld m (pc + 1) ls st σ 0 k = some y) : pm_St p l e R s mm args below meth c cells slots Q dC dI a q lw (m, pc, ls, st, σ) y := by
  obtain ⟨v, h1, rfl, h2⟩ := pm_ld_inv h
  obtain ⟨x, rfl⟩ := h2.1 rfl
  exact pm_St.mk (pm_okv_push ok ((ok.2.2 _ _ h1).1) (fun _ z => z)) rfl (fun kk H locs LS hP hS hL => lv_iload_n hx.1 hx.2.1 hd rfl (hL.2.2 _ _ h1) (kk H locs LS hP hS hL))
theorem pmS_iload (hx : pm_Cx p s mm args c dC dI a q m) (ok : pm_ok lw (m, pc, ls, st, σ)) {n : Nat} {k : Nat} (hd : decode (pm_b m) pc = .ok (.iload k, 2)) {y : pmO ⊕ pmF} (h : pm_ld m (pc + 2) ls st σ 0 k = some y) : pm_St p l e R s mm args below meth c cells slots Q dC dI a q lw (m, pc, ls, st, σ) y := by
  obtain ⟨v, h1, rfl, h2⟩ := pm_ld_inv h
  obtain ⟨x, rfl⟩ := h2.1 rfl
  exact pm_St.mk (pm_okv_push ok ((ok.2.2 _ _ h1).1) (fun _ z => z)) rfl (fun kk H locs LS hP hS hL => lv_iload hx.1 hx.2.1 hd (hL.2.2 _ _ h1) (kk H locs LS hP hS hL))
theorem pmS_lload_n (hx : pm_Cx p s mm args c dC dI a q m) (ok : pm_ok lw (m, pc, ls, st, σ)) {n : Nat} {k : Fin 4} (hd : decode (pm_b m) pc = .ok (.lload_n k, 1)) {y : pmO ⊕ pmF} (h : pm_ld m (pc + 1) ls st σ 1 k = some y) : pm_St p l e R s mm args below meth c cells slots Q dC dI a q lw (m, pc, ls, st, σ) y := by
  obtain ⟨v, h1, rfl, h2⟩ := pm_ld_inv h
  obtain ⟨x, rfl⟩ := h2.2.1 rfl
  exact pm_St.mk (pm_okv_push ok ((ok.2.2 _ _ h1).1) (fun _ z => z)) rfl (fun kk H locs LS hP hS hL => lv_lload_n hx.1 hx.2.1 hd rfl (hL.2.2 _ _ h1) (kk H locs LS hP hS hL))
theorem pmS_lload (hx : pm_Cx p s mm args c dC dI a q m) (ok : pm_ok lw (m, pc, ls, st, σ)) {n : Nat} {k : Nat} (hd : decode (pm_b m) pc = .ok (.lload k, 2)) {y : pmO ⊕ pmF} (h : pm_ld m (pc + 2) ls st σ 1 k = some y) : pm_St p l e R s mm args below meth c cells slots Q dC dI a q lw (m, pc, ls, st, σ) y := by
  obtain ⟨v, h1, rfl, h2⟩ := pm_ld_inv h
  obtain ⟨x, rfl⟩ := h2.2.1 rfl
  exact pm_St.mk (pm_okv_push ok ((ok.2.2 _ _ h1).1) (fun _ z => z)) rfl (fun kk H locs LS hP hS hL => lv_lload hx.1 hx.2.1 hd (hL.2.2 _ _ h1) (kk H locs LS hP hS hL))
theorem pmS_aload_n (hx : pm_Cx p s mm args c dC dI a q m) (ok : pm_ok lw (m, pc, ls, st, σ)) {n : Nat} {k : Fin 4} (hd : decode (pm_b m) pc = .ok (.aload_n k, 1)) {y : pmO ⊕ pmF} (h : pm_ld m (pc + 1) ls st σ 2 k = some y) : pm_St p l e R s mm args below meth c cells slots Q dC dI a q lw (m, pc, ls, st, σ) y := by
  obtain ⟨v, h1, rfl, h2⟩ := pm_ld_inv h
  obtain ⟨x, rfl⟩ := h2.2.2 rfl
  exact pm_St.mk (pm_okv_push ok ((ok.2.2 _ _ h1).1) (fun _ z => z)) rfl (fun kk H locs LS hP hS hL => lv_aload_n hx.1 hx.2.1 hd rfl (hL.2.2 _ _ h1) (kk H locs LS hP hS hL))
theorem pmS_aload (hx : pm_Cx p s mm args c dC dI a q m) (ok : pm_ok lw (m, pc, ls, st, σ)) {n : Nat} {k : Nat} (hd : decode (pm_b m) pc = .ok (.aload k, 2)) {y : pmO ⊕ pmF} (h : pm_ld m (pc + 2) ls st σ 2 k = some y) : pm_St p l e R s mm args below meth c cells slots Q dC dI a q lw (m, pc, ls, st, σ) y := by
  obtain ⟨v, h1, rfl, h2⟩ := pm_ld_inv h
  obtain ⟨x, rfl⟩ := h2.2.2 rfl
  exact pm_St.mk (pm_okv_push ok ((ok.2.2 _ _ h1).1) (fun _ z => z)) rfl (fun kk H locs LS hP hS hL => lv_aload hx.1 hx.2.1 hd (hL.2.2 _ _ h1) (kk H locs LS hP hS hL))
theorem pmS_istore_n (hx : pm_Cx p s mm args c dC dI a q m) (ok : pm_ok lw (m, pc, ls, st, σ)) {n : Nat} {k : Fin 4} (hd : decode (pm_b m) pc = .ok (.istore_n k, 1)) {y : pmO ⊕ pmF} (h : pm_str m (pc + 1) ls st σ 0 k = some y) : pm_St p l e R s mm args below meth c cells slots Q dC dI a q lw (m, pc, ls, st, σ) y := by
  obtain ⟨v, st2, rfl, h3, hh⟩ := pm_str_inv h
  rcases hh with ⟨-, ⟨x, rfl⟩, h4, rfl⟩ | ⟨h4, -⟩ | ⟨h4, -⟩
  · exact pm_St.mk ⟨(List.length_set).trans ok.1, fun u hu => ok.2.1 u (List.mem_cons_of_mem _ hu), pm_set_okl ok.2.2 (fun v hv => by cases hv; exact ⟨ok.2.1 _ List.mem_cons_self, fun z => by cases z⟩)⟩ rfl (fun kk H locs LS hP hS hL => lv_istore_n hx.1 hx.2.1 hd rfl hL.has h4 rfl (fun LS2 hL2 => kk H locs LS2 hP hS (pm_LV.st1 rfl (pm_nl_ok ok.2.2 h3) hL2)))
  · omega
  · omega
theorem pmS_istore (hx : pm_Cx p s mm args c dC dI a q m) (ok : pm_ok lw (m, pc, ls, st, σ)) {n : Nat} {k : Nat} (hd : decode (pm_b m) pc = .ok (.istore k, 2)) {y : pmO ⊕ pmF} (h : pm_str m (pc + 2) ls st σ 0 k = some y) : pm_St p l e R s mm args below meth c cells slots Q dC dI a q lw (m, pc, ls, st, σ) y := by
  obtain ⟨v, st2, rfl, h3, hh⟩ := pm_str_inv h
  rcases hh with ⟨-, ⟨x, rfl⟩, h4, rfl⟩ | ⟨h4, -⟩ | ⟨h4, -⟩
  · exact pm_St.mk ⟨(List.length_set).trans ok.1, fun u hu => ok.2.1 u (List.mem_cons_of_mem _ hu), pm_set_okl ok.2.2 (fun v hv => by cases hv; exact ⟨ok.2.1 _ List.mem_cons_self, fun z => by cases z⟩)⟩ rfl (fun kk H locs LS hP hS hL => lv_istore hx.1 hx.2.1 hd hL.has h4 rfl (fun LS2 hL2 => kk H locs LS2 hP hS (pm_LV.st1 rfl (pm_nl_ok ok.2.2 h3) hL2)))
  · omega
  · omega
theorem pmS_astore_n (hx : pm_Cx p s mm args c dC dI a q m) (ok : pm_ok lw (m, pc, ls, st, σ)) {n : Nat} {k : Fin 4} (hd : decode (pm_b m) pc = .ok (.astore_n k, 1)) {y : pmO ⊕ pmF} (h : pm_str m (pc + 1) ls st σ 2 k = some y) : pm_St p l e R s mm args below meth c cells slots Q dC dI a q lw (m, pc, ls, st, σ) y := by
  obtain ⟨v, st2, rfl, h3, hh⟩ := pm_str_inv h
  rcases hh with ⟨h4, -⟩ | ⟨h4, -⟩ | ⟨-, ⟨x, rfl⟩, h4, rfl⟩
  · omega
  · omega
  · exact pm_St.mk ⟨(List.length_set).trans ok.1, fun u hu => ok.2.1 u (List.mem_cons_of_mem _ hu), pm_set_okl ok.2.2 (fun v hv => by cases hv; exact ⟨ok.2.1 _ List.mem_cons_self, fun z => by cases z⟩)⟩ rfl (fun kk H locs LS hP hS hL => lv_astore_n hx.1 hx.2.1 hd rfl hL.has h4 rfl (fun LS2 hL2 => kk H locs LS2 hP hS (pm_LV.st1 rfl (pm_nl_ok ok.2.2 h3) hL2)))
theorem pmS_astore (hx : pm_Cx p s mm args c dC dI a q m) (ok : pm_ok lw (m, pc, ls, st, σ)) {n : Nat} {k : Nat} (hd : decode (pm_b m) pc = .ok (.astore k, 2)) {y : pmO ⊕ pmF} (h : pm_str m (pc + 2) ls st σ 2 k = some y) : pm_St p l e R s mm args below meth c cells slots Q dC dI a q lw (m, pc, ls, st, σ) y := by
  obtain ⟨v, st2, rfl, h3, hh⟩ := pm_str_inv h
  rcases hh with ⟨h4, -⟩ | ⟨h4, -⟩ | ⟨-, ⟨x, rfl⟩, h4, rfl⟩
  · omega
  · omega
  · exact pm_St.mk ⟨(List.length_set).trans ok.1, fun u hu => ok.2.1 u (List.mem_cons_of_mem _ hu), pm_set_okl ok.2.2 (fun v hv => by cases hv; exact ⟨ok.2.1 _ List.mem_cons_self, fun z => by cases z⟩)⟩ rfl (fun kk H locs LS hP hS hL => lv_astore hx.1 hx.2.1 hd hL.has h4 rfl (fun LS2 hL2 => kk H locs LS2 hP hS (pm_LV.st1 rfl (pm_nl_ok ok.2.2 h3) hL2)))
theorem pmS_lstore_n (hx : pm_Cx p s mm args c dC dI a q m) (ok : pm_ok lw (m, pc, ls, st, σ)) {n : Nat} {k : Fin 4} (hd : decode (pm_b m) pc = .ok (.lstore_n k, 1)) {y : pmO ⊕ pmF} (h : pm_str m (pc + 1) ls st σ 1 k = some y) : pm_St p l e R s mm args below meth c cells slots Q dC dI a q lw (m, pc, ls, st, σ) y := by
  obtain ⟨v, st2, rfl, h3, hh⟩ := pm_str_inv h
  rcases hh with ⟨h4, -⟩ | ⟨-, ⟨x, rfl⟩, h4, rfl⟩ | ⟨h4, -⟩
  · omega
  · exact pm_St.mk ⟨(List.length_set).trans ((List.length_set).trans ok.1), fun u hu => ok.2.1 u (List.mem_cons_of_mem _ hu), pm_set_okl (pm_set_okl ok.2.2 (fun v hv => by cases hv; exact ⟨ok.2.1 _ List.mem_cons_self, fun _ => h4.2⟩)) (fun v hv => by cases hv)⟩ rfl (fun kk H locs LS hP hS hL => lv_lstore_n hx.1 hx.2.1 hd rfl hL.has h4.1 rfl (fun LS2 hL2 => kk H locs LS2 hP hS (pm_LV.st2 rfl (pm_nl_ok ok.2.2 h3) hL2)))
  · omega
theorem pmS_lstore (hx : pm_Cx p s mm args c dC dI a q m) (ok : pm_ok lw (m, pc, ls, st, σ)) {n : Nat} {k : Nat} (hd : decode (pm_b m) pc = .ok (.lstore k, 2)) {y : pmO ⊕ pmF} (h : pm_str m (pc + 2) ls st σ 1 k = some y) : pm_St p l e R s mm args below meth c cells slots Q dC dI a q lw (m, pc, ls, st, σ) y := by
  obtain ⟨v, st2, rfl, h3, hh⟩ := pm_str_inv h
  rcases hh with ⟨h4, -⟩ | ⟨-, ⟨x, rfl⟩, h4, rfl⟩ | ⟨h4, -⟩
  · omega
  · exact pm_St.mk ⟨(List.length_set).trans ((List.length_set).trans ok.1), fun u hu => ok.2.1 u (List.mem_cons_of_mem _ hu), pm_set_okl (pm_set_okl ok.2.2 (fun v hv => by cases hv; exact ⟨ok.2.1 _ List.mem_cons_self, fun _ => h4.2⟩)) (fun v hv => by cases hv)⟩ rfl (fun kk H locs LS hP hS hL => lv_lstore hx.1 hx.2.1 hd hL.has h4.1 rfl (fun LS2 hL2 => kk H locs LS2 hP hS (pm_LV.st2 rfl (pm_nl_ok ok.2.2 h3) hL2)))
  · omega
theorem pmS_iinc (hx : pm_Cx p s mm args c dC dI a q m) (ok : pm_ok lw (m, pc, ls, st, σ)) {n : Nat} {k : Nat} {d : Int} {x : Int32} (hk : ls[k]? = some (some (.inl x))) (hn : pm_nl m k = true) (hd : decode (pm_b m) pc = .ok (.iinc k d, 3)) {y : pmO ⊕ pmF} (h : pm_nx m (pc + 3) (ls.set k (some (.inl (x + Int32.ofInt d)))) st σ = some y) : pm_St p l e R s mm args below meth c cells slots Q dC dI a q lw (m, pc, ls, st, σ) y := by
  cases h
  have hm := pm_lvs_in (q := q) (i := 0) hk
  rw [Nat.zero_add] at hm
  obtain ⟨j, hj⟩ := List.getElem?_of_mem hm
  exact pm_St.mk ⟨(List.length_set).trans ok.1, ok.2.1, pm_set_okl ok.2.2 (fun v hv => by cases hv; exact ⟨trivial, fun z => by cases z⟩)⟩ rfl (fun kk H locs LS hP hS hL => lv_iinc hx.1 hx.2.1 hd hL.has hj rfl (List.getElem?_eq_some_iff.mp hk).1 rfl (fun LS2 hL2 => kk H locs LS2 hP hS (pm_LV.st1 rfl (pm_nl_ok ok.2.2 hn) hL2)))
theorem pmS_iadd (hx : pm_Cx p s mm args c dC dI a q m) (ok : pm_ok lw (m, pc, ls, st, σ)) {n : Nat}  (hd : decode (pm_b m) pc = .ok (.iadd, 1)) {y : pmO ⊕ pmF} (h : pm_i2 m (pc + 1) ls st σ (fun x y => x + y) = some y) : pm_St p l e R s mm args below meth c cells slots Q dC dI a q lw (m, pc, ls, st, σ) y := by
  obtain ⟨x, y, st2, rfl, rfl⟩ := pm_i2_inv h
  exact pm_St.mk (pm_okv_push ok trivial pm_sub2) rfl (fun kk H locs LS hP hS hL => lv_iadd hx.1 hx.2.1 hd (kk H locs LS hP hS hL))
theorem pmS_isub (hx : pm_Cx p s mm args c dC dI a q m) (ok : pm_ok lw (m, pc, ls, st, σ)) {n : Nat}  (hd : decode (pm_b m) pc = .ok (.isub, 1)) {y : pmO ⊕ pmF} (h : pm_i2 m (pc + 1) ls st σ (fun x y => x - y) = some y) : pm_St p l e R s mm args below meth c cells slots Q dC dI a q lw (m, pc, ls, st, σ) y := by
  obtain ⟨x, y, st2, rfl, rfl⟩ := pm_i2_inv h
  exact pm_St.mk (pm_okv_push ok trivial pm_sub2) rfl (fun kk H locs LS hP hS hL => lv_isub hx.1 hx.2.1 hd (kk H locs LS hP hS hL))
theorem pmS_imul (hx : pm_Cx p s mm args c dC dI a q m) (ok : pm_ok lw (m, pc, ls, st, σ)) {n : Nat}  (hd : decode (pm_b m) pc = .ok (.imul, 1)) {y : pmO ⊕ pmF} (h : pm_i2 m (pc + 1) ls st σ (fun x y => x * y) = some y) : pm_St p l e R s mm args below meth c cells slots Q dC dI a q lw (m, pc, ls, st, σ) y := by
  obtain ⟨x, y, st2, rfl, rfl⟩ := pm_i2_inv h
  exact pm_St.mk (pm_okv_push ok trivial pm_sub2) rfl (fun kk H locs LS hP hS hL => lv_imul hx.1 hx.2.1 hd (kk H locs LS hP hS hL))
theorem pmS_iand (hx : pm_Cx p s mm args c dC dI a q m) (ok : pm_ok lw (m, pc, ls, st, σ)) {n : Nat}  (hd : decode (pm_b m) pc = .ok (.iand, 1)) {y : pmO ⊕ pmF} (h : pm_i2 m (pc + 1) ls st σ (fun x y => x &&& y) = some y) : pm_St p l e R s mm args below meth c cells slots Q dC dI a q lw (m, pc, ls, st, σ) y := by
  obtain ⟨x, y, st2, rfl, rfl⟩ := pm_i2_inv h
  exact pm_St.mk (pm_okv_push ok trivial pm_sub2) rfl (fun kk H locs LS hP hS hL => lv_iand hx.1 hx.2.1 hd (kk H locs LS hP hS hL))
theorem pmS_ior (hx : pm_Cx p s mm args c dC dI a q m) (ok : pm_ok lw (m, pc, ls, st, σ)) {n : Nat}  (hd : decode (pm_b m) pc = .ok (.ior, 1)) {y : pmO ⊕ pmF} (h : pm_i2 m (pc + 1) ls st σ (fun x y => x ||| y) = some y) : pm_St p l e R s mm args below meth c cells slots Q dC dI a q lw (m, pc, ls, st, σ) y := by
  obtain ⟨x, y, st2, rfl, rfl⟩ := pm_i2_inv h
  exact pm_St.mk (pm_okv_push ok trivial pm_sub2) rfl (fun kk H locs LS hP hS hL => lv_ior hx.1 hx.2.1 hd (kk H locs LS hP hS hL))
theorem pmS_ixor (hx : pm_Cx p s mm args c dC dI a q m) (ok : pm_ok lw (m, pc, ls, st, σ)) {n : Nat}  (hd : decode (pm_b m) pc = .ok (.ixor, 1)) {y : pmO ⊕ pmF} (h : pm_i2 m (pc + 1) ls st σ (fun x y => x ^^^ y) = some y) : pm_St p l e R s mm args below meth c cells slots Q dC dI a q lw (m, pc, ls, st, σ) y := by
  obtain ⟨x, y, st2, rfl, rfl⟩ := pm_i2_inv h
  exact pm_St.mk (pm_okv_push ok trivial pm_sub2) rfl (fun kk H locs LS hP hS hL => lv_ixor hx.1 hx.2.1 hd (kk H locs LS hP hS hL))
theorem pmS_ishl (hx : pm_Cx p s mm args c dC dI a q m) (ok : pm_ok lw (m, pc, ls, st, σ)) {n : Nat}  (hd : decode (pm_b m) pc = .ok (.ishl, 1)) {y : pmO ⊕ pmF} (h : pm_i2 m (pc + 1) ls st σ (fun x y => x <<< (y &&& 31)) = some y) : pm_St p l e R s mm args below meth c cells slots Q dC dI a q lw (m, pc, ls, st, σ) y := by
  obtain ⟨x, y, st2, rfl, rfl⟩ := pm_i2_inv h
  exact pm_St.mk (pm_okv_push ok trivial pm_sub2) rfl (fun kk H locs LS hP hS hL => lv_ishl hx.1 hx.2.1 hd (kk H locs LS hP hS hL))
theorem pmS_ishr (hx : pm_Cx p s mm args c dC dI a q m) (ok : pm_ok lw (m, pc, ls, st, σ)) {n : Nat}  (hd : decode (pm_b m) pc = .ok (.ishr, 1)) {y : pmO ⊕ pmF} (h : pm_i2 m (pc + 1) ls st σ (fun x y => x >>> (y &&& 31)) = some y) : pm_St p l e R s mm args below meth c cells slots Q dC dI a q lw (m, pc, ls, st, σ) y := by
  obtain ⟨x, y, st2, rfl, rfl⟩ := pm_i2_inv h
  exact pm_St.mk (pm_okv_push ok trivial pm_sub2) rfl (fun kk H locs LS hP hS hL => lv_ishr hx.1 hx.2.1 hd (kk H locs LS hP hS hL))
theorem pmS_iushr (hx : pm_Cx p s mm args c dC dI a q m) (ok : pm_ok lw (m, pc, ls, st, σ)) {n : Nat}  (hd : decode (pm_b m) pc = .ok (.iushr, 1)) {y : pmO ⊕ pmF} (h : pm_i2 m (pc + 1) ls st σ (fun x y => (x.toUInt32 >>> (y.toUInt32 &&& Int32.toUInt32 31)).toInt32) = some y) : pm_St p l e R s mm args below meth c cells slots Q dC dI a q lw (m, pc, ls, st, σ) y := by
  obtain ⟨x, y, st2, rfl, rfl⟩ := pm_i2_inv h
  exact pm_St.mk (pm_okv_push ok trivial pm_sub2) rfl (fun kk H locs LS hP hS hL => lv_iushr hx.1 hx.2.1 hd rfl (kk H locs LS hP hS hL))
theorem pmS_idiv (hx : pm_Cx p s mm args c dC dI a q m) (ok : pm_ok lw (m, pc, ls, st, σ)) {n : Nat}  (hd : decode (pm_b m) pc = .ok (.idiv, 1)) {y : pmO ⊕ pmF} (h : pm_d2 m (pc + 1) ls st σ (fun x y => x / y) = some y) : pm_St p l e R s mm args below meth c cells slots Q dC dI a q lw (m, pc, ls, st, σ) y := by
  obtain ⟨x, y, st2, rfl, h0, rfl⟩ := pm_d2_inv h
  exact pm_St.mk (pm_okv_push ok trivial pm_sub2) rfl (fun kk H locs LS hP hS hL => lv_idiv hx.1 hx.2.1 hd h0 (kk H locs LS hP hS hL))
theorem pmS_irem (hx : pm_Cx p s mm args c dC dI a q m) (ok : pm_ok lw (m, pc, ls, st, σ)) {n : Nat}  (hd : decode (pm_b m) pc = .ok (.irem, 1)) {y : pmO ⊕ pmF} (h : pm_d2 m (pc + 1) ls st σ (fun x y => x - x / y * y) = some y) : pm_St p l e R s mm args below meth c cells slots Q dC dI a q lw (m, pc, ls, st, σ) y := by
  obtain ⟨x, y, st2, rfl, h0, rfl⟩ := pm_d2_inv h
  exact pm_St.mk (pm_okv_push ok trivial pm_sub2) rfl (fun kk H locs LS hP hS hL => lv_irem hx.1 hx.2.1 hd h0 (kk H locs LS hP hS hL))
theorem pmS_ladd (hx : pm_Cx p s mm args c dC dI a q m) (ok : pm_ok lw (m, pc, ls, st, σ)) {n : Nat}  (hd : decode (pm_b m) pc = .ok (.ladd, 1)) {y : pmO ⊕ pmF} (h : pm_l2 m (pc + 1) ls st σ (fun x y => x + y) = some y) : pm_St p l e R s mm args below meth c cells slots Q dC dI a q lw (m, pc, ls, st, σ) y := by
  obtain ⟨x, y, st2, rfl, rfl⟩ := pm_l2_inv h
  exact pm_St.mk (pm_okv_push ok trivial pm_sub2) rfl (fun kk H locs LS hP hS hL => lv_ladd hx.1 hx.2.1 hd (kk H locs LS hP hS hL))
theorem pmS_lsub (hx : pm_Cx p s mm args c dC dI a q m) (ok : pm_ok lw (m, pc, ls, st, σ)) {n : Nat}  (hd : decode (pm_b m) pc = .ok (.lsub, 1)) {y : pmO ⊕ pmF} (h : pm_l2 m (pc + 1) ls st σ (fun x y => x - y) = some y) : pm_St p l e R s mm args below meth c cells slots Q dC dI a q lw (m, pc, ls, st, σ) y := by
  obtain ⟨x, y, st2, rfl, rfl⟩ := pm_l2_inv h
  exact pm_St.mk (pm_okv_push ok trivial pm_sub2) rfl (fun kk H locs LS hP hS hL => lv_lsub hx.1 hx.2.1 hd (kk H locs LS hP hS hL))
theorem pmS_land (hx : pm_Cx p s mm args c dC dI a q m) (ok : pm_ok lw (m, pc, ls, st, σ)) {n : Nat}  (hd : decode (pm_b m) pc = .ok (.land, 1)) {y : pmO ⊕ pmF} (h : pm_l2 m (pc + 1) ls st σ (fun x y => x &&& y) = some y) : pm_St p l e R s mm args below meth c cells slots Q dC dI a q lw (m, pc, ls, st, σ) y := by
  obtain ⟨x, y, st2, rfl, rfl⟩ := pm_l2_inv h
  exact pm_St.mk (pm_okv_push ok trivial pm_sub2) rfl (fun kk H locs LS hP hS hL => lv_land hx.1 hx.2.1 hd (kk H locs LS hP hS hL))
theorem pmS_lor (hx : pm_Cx p s mm args c dC dI a q m) (ok : pm_ok lw (m, pc, ls, st, σ)) {n : Nat}  (hd : decode (pm_b m) pc = .ok (.lor, 1)) {y : pmO ⊕ pmF} (h : pm_l2 m (pc + 1) ls st σ (fun x y => x ||| y) = some y) : pm_St p l e R s mm args below meth c cells slots Q dC dI a q lw (m, pc, ls, st, σ) y := by
  obtain ⟨x, y, st2, rfl, rfl⟩ := pm_l2_inv h
  exact pm_St.mk (pm_okv_push ok trivial pm_sub2) rfl (fun kk H locs LS hP hS hL => lv_lor hx.1 hx.2.1 hd (kk H locs LS hP hS hL))
theorem pmS_lxor (hx : pm_Cx p s mm args c dC dI a q m) (ok : pm_ok lw (m, pc, ls, st, σ)) {n : Nat}  (hd : decode (pm_b m) pc = .ok (.lxor, 1)) {y : pmO ⊕ pmF} (h : pm_l2 m (pc + 1) ls st σ (fun x y => x ^^^ y) = some y) : pm_St p l e R s mm args below meth c cells slots Q dC dI a q lw (m, pc, ls, st, σ) y := by
  obtain ⟨x, y, st2, rfl, rfl⟩ := pm_l2_inv h
  exact pm_St.mk (pm_okv_push ok trivial pm_sub2) rfl (fun kk H locs LS hP hS hL => lv_lxor hx.1 hx.2.1 hd (kk H locs LS hP hS hL))
theorem pmS_lshl (hx : pm_Cx p s mm args c dC dI a q m) (ok : pm_ok lw (m, pc, ls, st, σ)) {n : Nat}  (hd : decode (pm_b m) pc = .ok (.lshl, 1)) {y : pmO ⊕ pmF} (h : pm_ls2 m (pc + 1) ls st σ (fun x y => x <<< (y.toInt64 &&& 63)) = some y) : pm_St p l e R s mm args below meth c cells slots Q dC dI a q lw (m, pc, ls, st, σ) y := by
  obtain ⟨x, y, st2, rfl, rfl⟩ := pm_ls2_inv h
  exact pm_St.mk (pm_okv_push ok trivial pm_sub2) rfl (fun kk H locs LS hP hS hL => lv_lshl hx.1 hx.2.1 hd rfl (kk H locs LS hP hS hL))
theorem pmS_lshr (hx : pm_Cx p s mm args c dC dI a q m) (ok : pm_ok lw (m, pc, ls, st, σ)) {n : Nat}  (hd : decode (pm_b m) pc = .ok (.lshr, 1)) {y : pmO ⊕ pmF} (h : pm_ls2 m (pc + 1) ls st σ (fun x y => x >>> (y.toInt64 &&& 63)) = some y) : pm_St p l e R s mm args below meth c cells slots Q dC dI a q lw (m, pc, ls, st, σ) y := by
  obtain ⟨x, y, st2, rfl, rfl⟩ := pm_ls2_inv h
  exact pm_St.mk (pm_okv_push ok trivial pm_sub2) rfl (fun kk H locs LS hP hS hL => lv_lshr hx.1 hx.2.1 hd rfl (kk H locs LS hP hS hL))
theorem pmS_lushr (hx : pm_Cx p s mm args c dC dI a q m) (ok : pm_ok lw (m, pc, ls, st, σ)) {n : Nat}  (hd : decode (pm_b m) pc = .ok (.lushr, 1)) {y : pmO ⊕ pmF} (h : pm_ls2 m (pc + 1) ls st σ (fun x y => (x.toUInt64 >>> (y.toInt64.toUInt64 &&& Int64.toUInt64 63)).toInt64) = some y) : pm_St p l e R s mm args below meth c cells slots Q dC dI a q lw (m, pc, ls, st, σ) y := by
  obtain ⟨x, y, st2, rfl, rfl⟩ := pm_ls2_inv h
  exact pm_St.mk (pm_okv_push ok trivial pm_sub2) rfl (fun kk H locs LS hP hS hL => lv_lushr hx.1 hx.2.1 hd rfl (kk H locs LS hP hS hL))
theorem pmS_lcmp (hx : pm_Cx p s mm args c dC dI a q m) {x y : Int64} (ok : pm_ok lw (m, pc, ls, .inr (.inl y) :: .inr (.inl x) :: st, σ)) (hd : decode (pm_b m) pc = .ok (.lcmp, 1)) : pm_St p l e R s mm args below meth c cells slots Q dC dI a q lw (m, pc, ls, .inr (.inl y) :: .inr (.inl x) :: st, σ) (.inr (m, pc + 1, ls, .inl (lg_cmp x y) :: st, σ)) :=
  pm_St.mk (pm_okv_push ok trivial pm_sub2) rfl (fun kk H locs LS hP hS hL => W.lcmp hx.1 hx.2.1 hd (kk H locs LS hP hS hL))
theorem pmS_i2l (hx : pm_Cx p s mm args c dC dI a q m) {x : Int32} (ok : pm_ok lw (m, pc, ls, .inl x :: st, σ)) (hd : decode (pm_b m) pc = .ok (.i2l, 1)) : pm_St p l e R s mm args below meth c cells slots Q dC dI a q lw (m, pc, ls, .inl x :: st, σ) (.inr (m, pc + 1, ls, .inr (.inl x.toInt64) :: st, σ)) :=
  pm_St.mk (pm_okv_push ok trivial pm_sub1) rfl (fun kk H locs LS hP hS hL => lv_i2l hx.1 hx.2.1 hd rfl (kk H locs LS hP hS hL))
theorem pmS_l2i (hx : pm_Cx p s mm args c dC dI a q m) {x : Int64} (ok : pm_ok lw (m, pc, ls, .inr (.inl x) :: st, σ)) (hd : decode (pm_b m) pc = .ok (.l2i, 1)) : pm_St p l e R s mm args below meth c cells slots Q dC dI a q lw (m, pc, ls, .inr (.inl x) :: st, σ) (.inr (m, pc + 1, ls, .inl x.toInt32 :: st, σ)) :=
  pm_St.mk (pm_okv_push ok trivial pm_sub1) rfl (fun kk H locs LS hP hS hL => lv_l2i hx.1 hx.2.1 hd rfl (kk H locs LS hP hS hL))
theorem pmS_dup (hx : pm_Cx p s mm args c dC dI a q m) (ok : pm_ok lw (m, pc, ls, st, σ)) {n : Nat}  (hd : decode (pm_b m) pc = .ok (.dup, 1)) {y : pmO ⊕ pmF} (h : pm_dup m (pc + 1) ls st σ 0 = some y) : pm_St p l e R s mm args below meth c cells slots Q dC dI a q lw (m, pc, ls, st, σ) y := by
  obtain ⟨v, st2, rfl, hv, hh⟩ := pm_dup_inv h
  rcases hh with ⟨-, rfl⟩ | ⟨h0, -⟩ | ⟨h0, -⟩
  · exact pm_St.mk (pm_okv_push ok (ok.2.1 _ List.mem_cons_self) (fun _ z => z)) rfl (fun kk H locs LS hP hS hL => lv_dup hx.1 hx.2.1 hd ((pm_val_cat q v).trans hv) (kk H locs LS hP hS hL))
  · omega
  · omega
theorem pmS_pop (hx : pm_Cx p s mm args c dC dI a q m) (ok : pm_ok lw (m, pc, ls, st, σ)) {n : Nat}  (hd : decode (pm_b m) pc = .ok (.pop, 1)) {y : pmO ⊕ pmF} (h : pm_dup m (pc + 1) ls st σ 1 = some y) : pm_St p l e R s mm args below meth c cells slots Q dC dI a q lw (m, pc, ls, st, σ) y := by
  obtain ⟨v, st2, rfl, hv, hh⟩ := pm_dup_inv h
  rcases hh with ⟨h0, -⟩ | ⟨-, rfl⟩ | ⟨h0, -⟩
  · omega
  · exact pm_St.mk (pm_okv_pop ok pm_sub1) rfl (fun kk H locs LS hP hS hL => lv_pop hx.1 hx.2.1 hd ((pm_val_cat q v).trans hv) (kk H locs LS hP hS hL))
  · omega
theorem pmS_dup2 (hx : pm_Cx p s mm args c dC dI a q m) (ok : pm_ok lw (m, pc, ls, st, σ)) {n : Nat}  (hd : decode (pm_b m) pc = .ok (.dup2, 1)) {y : pmO ⊕ pmF} (h : pm_dup m (pc + 1) ls st σ 2 = some y) : pm_St p l e R s mm args below meth c cells slots Q dC dI a q lw (m, pc, ls, st, σ) y := by
  obtain ⟨v, st2, rfl, hv, hh⟩ := pm_dup_inv h
  rcases hh with ⟨h0, -⟩ | ⟨h0, -⟩ | ⟨-, w, st3, rfl, hw, rfl⟩
  · omega
  · omega
  · refine pm_St.mk ⟨ok.1, fun u hu => ok.2.1 u ?_, ok.2.2⟩ rfl (fun kk H locs LS hP hS hL => lv_dup2_11 hx.1 hx.2.1 hd ((pm_val_cat q v).trans hv) ((pm_val_cat q w).trans hw) (kk H locs LS hP hS hL))
    rcases List.mem_cons.mp hu with rfl | hu
    · exact List.mem_cons_self
    rcases List.mem_cons.mp hu with rfl | hu
    · exact List.mem_cons_of_mem _ List.mem_cons_self
    exact hu
theorem pmS_goto (hx : pm_Cx p s mm args c dC dI a q m) (ok : pm_ok lw (m, pc, ls, st, σ)) {n : Nat} {off : Int} (hd : decode (pm_b m) pc = .ok (.goto off, 3)) {y : pmO ⊕ pmF} (h : pm_go m pc off ls st σ = some y) : pm_St p l e R s mm args below meth c cells slots Q dC dI a q lw (m, pc, ls, st, σ) y := by
  obtain ⟨h1, rfl⟩ := pm_go_inv h
  exact pm_St.mk (pm_okv_pop ok (fun _ z => z)) rfl (fun kk H locs LS hP hS hL => lv_goto hx.1 hx.2.1 hd h1 (kk H locs LS hP hS hL))
theorem pmS_if (hx : pm_Cx p s mm args c dC dI a q m) {x : Int32} (ok : pm_ok lw (m, pc, ls, .inl x :: st, σ)) {cd : ClassFile.Cond} {off : Int} (hd : decode (pm_b m) pc = .ok (.ifCond cd off, 3)) (h0 : 0 ≤ (pc : Int) + off) {z : pmO ⊕ pmF} (h : pm_b1 m pc off ls st σ cd x 0 = some z) : pm_St p l e R s mm args below meth c cells slots Q dC dI a q lw (m, pc, ls, .inl x :: st, σ) z := by
  have h4 : (pc : Int) + off = (((pc : Int) + off).toNat : Int) := (Int.toNat_of_nonneg h0).symm
  obtain ⟨g, hg, h1, h2, h3⟩ := pm_b1_inv h
  cases cd <;> dsimp only at h3
  · rcases hg with g1 | g1
    · obtain ⟨-, rfl⟩ := h1 g1
      exact pm_St.mk (pm_okv_pop ok pm_sub1) rfl (fun kk H locs LS hP hS hL => lv_if_eq hx.1 hx.2.1 hd h4 (fun _ => kk H locs LS hP hS hL) (fun z => absurd (h3.mp g1) z))
    · obtain rfl := h2 g1
      exact pm_St.mk (pm_okv_pop ok pm_sub1) rfl (fun kk H locs LS hP hS hL => lv_if_eq hx.1 hx.2.1 hd h4 (fun z => absurd (h3.mpr z) g1) (fun _ => kk H locs LS hP hS hL))
  · rcases hg with g1 | g1
    · obtain ⟨-, rfl⟩ := h1 g1
      exact pm_St.mk (pm_okv_pop ok pm_sub1) rfl (fun kk H locs LS hP hS hL => lv_if_ne hx.1 hx.2.1 hd h4 (fun _ => kk H locs LS hP hS hL) (fun z => absurd z (h3.mp g1)))
    · obtain rfl := h2 g1
      exact pm_St.mk (pm_okv_pop ok pm_sub1) rfl (fun kk H locs LS hP hS hL => lv_if_ne hx.1 hx.2.1 hd h4 (fun z => absurd (h3.mpr z) g1) (fun _ => kk H locs LS hP hS hL))
  · rcases hg with g1 | g1
    · obtain ⟨-, rfl⟩ := h1 g1
      exact pm_St.mk (pm_okv_pop ok pm_sub1) rfl (fun kk H locs LS hP hS hL => lv_if_lt hx.1 hx.2.1 hd h4 (fun _ => kk H locs LS hP hS hL) (fun z => absurd (h3.mp g1) z))
    · obtain rfl := h2 g1
      exact pm_St.mk (pm_okv_pop ok pm_sub1) rfl (fun kk H locs LS hP hS hL => lv_if_lt hx.1 hx.2.1 hd h4 (fun z => absurd (h3.mpr z) g1) (fun _ => kk H locs LS hP hS hL))
  · rcases hg with g1 | g1
    · obtain ⟨-, rfl⟩ := h1 g1
      exact pm_St.mk (pm_okv_pop ok pm_sub1) rfl (fun kk H locs LS hP hS hL => lv_if_ge hx.1 hx.2.1 hd h4 (fun _ => kk H locs LS hP hS hL) (fun z => absurd (h3.mp g1) z))
    · obtain rfl := h2 g1
      exact pm_St.mk (pm_okv_pop ok pm_sub1) rfl (fun kk H locs LS hP hS hL => lv_if_ge hx.1 hx.2.1 hd h4 (fun z => absurd (h3.mpr z) g1) (fun _ => kk H locs LS hP hS hL))
  · rcases hg with g1 | g1
    · obtain ⟨-, rfl⟩ := h1 g1
      exact pm_St.mk (pm_okv_pop ok pm_sub1) rfl (fun kk H locs LS hP hS hL => lv_if_gt hx.1 hx.2.1 hd h4 (fun _ => kk H locs LS hP hS hL) (fun z => absurd (h3.mp g1) z))
    · obtain rfl := h2 g1
      exact pm_St.mk (pm_okv_pop ok pm_sub1) rfl (fun kk H locs LS hP hS hL => lv_if_gt hx.1 hx.2.1 hd h4 (fun z => absurd (h3.mpr z) g1) (fun _ => kk H locs LS hP hS hL))
  · rcases hg with g1 | g1
    · obtain ⟨-, rfl⟩ := h1 g1
      exact pm_St.mk (pm_okv_pop ok pm_sub1) rfl (fun kk H locs LS hP hS hL => lv_if_le hx.1 hx.2.1 hd h4 (fun _ => kk H locs LS hP hS hL) (fun z => absurd (h3.mp g1) z))
    · obtain rfl := h2 g1
      exact pm_St.mk (pm_okv_pop ok pm_sub1) rfl (fun kk H locs LS hP hS hL => lv_if_le hx.1 hx.2.1 hd h4 (fun z => absurd (h3.mpr z) g1) (fun _ => kk H locs LS hP hS hL))
theorem pmS_icmp (hx : pm_Cx p s mm args c dC dI a q m) {x y : Int32} (ok : pm_ok lw (m, pc, ls, .inl y :: .inl x :: st, σ)) {cd : ClassFile.Cond} {off : Int} (hd : decode (pm_b m) pc = .ok (.if_icmp cd off, 3)) (h0 : 0 ≤ (pc : Int) + off) {z : pmO ⊕ pmF} (h : pm_b1 m pc off ls st σ cd x y = some z) : pm_St p l e R s mm args below meth c cells slots Q dC dI a q lw (m, pc, ls, .inl y :: .inl x :: st, σ) z := by
  have h4 : (pc : Int) + off = (((pc : Int) + off).toNat : Int) := (Int.toNat_of_nonneg h0).symm
  obtain ⟨g, hg, h1, h2, h3⟩ := pm_b1_inv h
  cases cd <;> dsimp only at h3
  · rcases hg with g1 | g1
    · obtain ⟨-, rfl⟩ := h1 g1
      exact pm_St.mk (pm_okv_pop ok pm_sub2) rfl (fun kk H locs LS hP hS hL => lv_icmp_eq hx.1 hx.2.1 hd h4 (fun _ => kk H locs LS hP hS hL) (fun z => absurd (h3.mp g1) z))
    · obtain rfl := h2 g1
      exact pm_St.mk (pm_okv_pop ok pm_sub2) rfl (fun kk H locs LS hP hS hL => lv_icmp_eq hx.1 hx.2.1 hd h4 (fun z => absurd (h3.mpr z) g1) (fun _ => kk H locs LS hP hS hL))
  · rcases hg with g1 | g1
    · obtain ⟨-, rfl⟩ := h1 g1
      exact pm_St.mk (pm_okv_pop ok pm_sub2) rfl (fun kk H locs LS hP hS hL => lv_icmp_ne hx.1 hx.2.1 hd h4 (fun _ => kk H locs LS hP hS hL) (fun z => absurd z (h3.mp g1)))
    · obtain rfl := h2 g1
      exact pm_St.mk (pm_okv_pop ok pm_sub2) rfl (fun kk H locs LS hP hS hL => lv_icmp_ne hx.1 hx.2.1 hd h4 (fun z => absurd (h3.mpr z) g1) (fun _ => kk H locs LS hP hS hL))
  · rcases hg with g1 | g1
    · obtain ⟨-, rfl⟩ := h1 g1
      exact pm_St.mk (pm_okv_pop ok pm_sub2) rfl (fun kk H locs LS hP hS hL => lv_icmp_lt hx.1 hx.2.1 hd h4 (fun _ => kk H locs LS hP hS hL) (fun z => absurd (h3.mp g1) z))
    · obtain rfl := h2 g1
      exact pm_St.mk (pm_okv_pop ok pm_sub2) rfl (fun kk H locs LS hP hS hL => lv_icmp_lt hx.1 hx.2.1 hd h4 (fun z => absurd (h3.mpr z) g1) (fun _ => kk H locs LS hP hS hL))
  · rcases hg with g1 | g1
    · obtain ⟨-, rfl⟩ := h1 g1
      exact pm_St.mk (pm_okv_pop ok pm_sub2) rfl (fun kk H locs LS hP hS hL => lv_icmp_ge hx.1 hx.2.1 hd h4 (fun _ => kk H locs LS hP hS hL) (fun z => absurd (h3.mp g1) z))
    · obtain rfl := h2 g1
      exact pm_St.mk (pm_okv_pop ok pm_sub2) rfl (fun kk H locs LS hP hS hL => lv_icmp_ge hx.1 hx.2.1 hd h4 (fun z => absurd (h3.mpr z) g1) (fun _ => kk H locs LS hP hS hL))
  · rcases hg with g1 | g1
    · obtain ⟨-, rfl⟩ := h1 g1
      exact pm_St.mk (pm_okv_pop ok pm_sub2) rfl (fun kk H locs LS hP hS hL => lv_icmp_gt hx.1 hx.2.1 hd h4 (fun _ => kk H locs LS hP hS hL) (fun z => absurd (h3.mp g1) z))
    · obtain rfl := h2 g1
      exact pm_St.mk (pm_okv_pop ok pm_sub2) rfl (fun kk H locs LS hP hS hL => lv_icmp_gt hx.1 hx.2.1 hd h4 (fun z => absurd (h3.mpr z) g1) (fun _ => kk H locs LS hP hS hL))
  · rcases hg with g1 | g1
    · obtain ⟨-, rfl⟩ := h1 g1
      exact pm_St.mk (pm_okv_pop ok pm_sub2) rfl (fun kk H locs LS hP hS hL => lv_icmp_le hx.1 hx.2.1 hd h4 (fun _ => kk H locs LS hP hS hL) (fun z => absurd (h3.mp g1) z))
    · obtain rfl := h2 g1
      exact pm_St.mk (pm_okv_pop ok pm_sub2) rfl (fun kk H locs LS hP hS hL => lv_icmp_le hx.1 hx.2.1 hd h4 (fun z => absurd (h3.mpr z) g1) (fun _ => kk H locs LS hP hS hL))
theorem pmS_tsw (hx : pm_Cx p s mm args c dC dI a q m) {x : Int32} (ok : pm_ok lw (m, pc, ls, .inl x :: st, σ)) {d lo hi : Int} {offs : Array Int} {n : Nat} (hd : decode (pm_b m) pc = .ok (.tableswitch d lo hi offs, n)) (h0 : hi = lo + (offs.size : Int) - 1 ∧ 0 ≤ lo ∧ hi < 1000) {z : pmO ⊕ pmF} (h : pm_go m pc (pm_sw x lo offs.toList d) ls st σ = some z) : pm_St p l e R s mm args below meth c cells slots Q dC dI a q lw (m, pc, ls, .inl x :: st, σ) z := by
  obtain ⟨h1, rfl⟩ := pm_go_inv h
  have h2 := pm_sw_ok x d offs.toList lo h0.2.1 (by rw [Array.length_toList]; omega)
  rw [Array.length_toList] at h2
  refine pm_St.mk (pm_okv_pop ok pm_sub1) rfl (fun kk H locs LS hP hS hL => ?_)
  by_cases hz : x.toInt < lo ∨ hi < x.toInt
  · have h3 := h2.1 (by omega)
    have k2 := kk H locs LS hP hS hL
    rw [h3] at h1
    refine lv_tableOut hx.1 hx.2.1 hd hz (tgt := ((pc : Int) + pm_sw x lo offs.toList d).toNat) (by rw [h3]; exact h1) k2
  · have h3 := h2.2 (by omega) (by omega)
    rw [Array.getElem?_toList] at h3
    exact lv_tableIn hx.1 hx.2.1 hd (fun z => hz (Or.inl z)) (fun z => hz (Or.inr z)) h3 h1 (kk H locs LS hP hS hL)
theorem pmS_lsw (hx : pm_Cx p s mm args c dC dI a q m) {x : Int32} (ok : pm_ok lw (m, pc, ls, .inl x :: st, σ)) {d : Int} {ps : Array (Int × Int)} {n : Nat} (hd : decode (pm_b m) pc = .ok (.lookupswitch d ps, n)) (h0 : (ps.toList.zip (ps.toList.drop 1)).all (fun (a, next) => a.1 < next.1) = true ∧ ps.toList.all (fun q => decide (0 ≤ q.1 ∧ q.1 < 1000)) = true) {z : pmO ⊕ pmF} (h : pm_go m pc (pm_lk x ps.toList d) ls st σ = some z) : pm_St p l e R s mm args below meth c cells slots Q dC dI a q lw (m, pc, ls, .inl x :: st, σ) z := by
  obtain ⟨h1, rfl⟩ := pm_go_inv h
  exact pm_St.mk (pm_okv_pop ok pm_sub1) rfl (fun kk H locs LS hP hS hL => lv_lookup hx.1 hx.2.1 hd h0.1 (pm_lk_ok x d ps.toList h0.2) h1 (kk H locs LS hP hS hL))
/-- a cell of the world -/
theorem pm_cell (σ : pmS) {x : pmR} (h : x ∈ pm_lay) : ∃ j : Nat, pm_lay[j]? = some x ∧ (pm_ws q a σ)[j]? = some (q x.1 x.2.1 x.2.2, pm_en q a σ x) := by
  obtain ⟨j, hj⟩ := List.getElem?_of_mem h
  exact ⟨j, hj, pm_ws_at hj σ⟩
theorem pm_okr_a {lw : Bool} {c o k : Nat} (h : pm_okr lw (c, o, k)) (hc : c ≠ 11) : (c, o, k) ∈ pm_lay := by
  rcases h with h | h
  · exact h
  · have := h.2
    simp at this
    exact absurd this.1 hc
theorem pm_kd_c {c k : Nat} (h : pm_kd c k < 9) : c ≠ 11 := by
  intro e
  subst e
  unfold pm_kd at h
  rw [if_pos rfl] at h
  omega
theorem pm_kd_9 {c k : Nat} (h : pm_kd c k = 9) (hl : c < 11 → ∃ n d, pm_ar c k = some (n, d) ∧ d < 6) : ¬ c < 11 := by
  intro e
  obtain ⟨n, d, h1, h2⟩ := hl e
  rw [pm_kd_lt e h1] at h
  omega

theorem pmS_iaload (hx : pm_Cx p s mm args c dC dI a q m) {L : Nat} {xs : Nat → Int32} (hsx : pm_Sx s q lw L xs σ) (ok : pm_ok lw (m, pc, ls, st, σ)) (hd : decode (pm_b m) pc = .ok (.iaload, 1)) {y : pmO ⊕ pmF} (h : pm_ald m (pc + 1) ls st σ 0 = some y) : pm_St p l e R s mm args below meth c cells slots Q dC dI a q lw (m, pc, ls, st, σ) y := by
  obtain ⟨i, c0, o, k, st2, rfl, hi, hh⟩ := pm_ald_inv h
  have hr : pm_okr lw (c0, o, k + 1) := ok.2.1 (.inr (.inr (c0, o, k + 1))) (List.mem_cons_of_mem _ List.mem_cons_self)
  rcases hh with ⟨-, hk, rfl⟩ | ⟨-, hk, rfl, rfl, rfl⟩ | ⟨h0, -⟩ | ⟨h0, -⟩ | ⟨h0, -⟩
  · have hl := pm_okr_a hr (pm_kd_c (k := k) (by omega))
    obtain ⟨j, hj, hw⟩ := pm_cell (q := q) (a := a) σ hl
    have he : pm_en q a σ (c0, o, k + 1) = .inl (a 0, pm_len σ c0 k, .inl (σ.1 c0 o k)) := by
      show (Sum.inl (a (pm_kd c0 k), pm_len σ c0 k, pm_ec q σ c0 o k) : va_E) = _
      unfold pm_ec
      rw [hk]
    rw [he] at hw
    exact pm_St.mk (pm_okv_push ok trivial pm_sub2) rfl (fun kk H locs LS hP hS hL => va_iald hx.1 hx.2.1 hx.2.2.2.2.2.1 hP j 0 hw rfl hi hd (kk H locs LS hP hS hL))
  · rcases hr with hr | hr
    · obtain ⟨hc, -, -, n, d, h1, -, h3, -⟩ := pm_lay_a hr
      exact absurd hc (pm_kd_9 hk (fun _ => ⟨n, d, h1, by omega⟩))
    · have e := hr.2
      simp at e
      subst e
      obtain ⟨hX, hb1, hb2, hb3, hb4, hb5⟩ := hsx hr.1
      have hi2 : vp_in i L := by
        have hle : pm_len σ 11 0 = L := by
          unfold pm_len
          rw [if_pos rfl, hb5, nI_clamp hb3]
        rw [← hle]
        exact hi
      refine pm_St.mk (pm_okv_push ok trivial pm_sub2) rfl (fun kk H locs LS hP hS hL => ?_)
      have k2 := kk H locs LS hP hS hL
      rw [hb4] at k2
      exact va_sld hx.1 hx.2.1 hX hb1 hb2 hS hi2 hd k2
  · omega
  · omega
  · omega
theorem pmS_laload (hx : pm_Cx p s mm args c dC dI a q m) {L : Nat} {xs : Nat → Int32} (hsx : pm_Sx s q lw L xs σ) (ok : pm_ok lw (m, pc, ls, st, σ)) (hd : decode (pm_b m) pc = .ok (.laload, 1)) {y : pmO ⊕ pmF} (h : pm_ald m (pc + 1) ls st σ 1 = some y) : pm_St p l e R s mm args below meth c cells slots Q dC dI a q lw (m, pc, ls, st, σ) y := by
  obtain ⟨i, c0, o, k, st2, rfl, hi, hh⟩ := pm_ald_inv h
  have hr : pm_okr lw (c0, o, k + 1) := ok.2.1 (.inr (.inr (c0, o, k + 1))) (List.mem_cons_of_mem _ List.mem_cons_self)
  rcases hh with ⟨h0, -⟩ | ⟨h0, -⟩ | ⟨-, hk, rfl⟩ | ⟨h0, -⟩ | ⟨h0, -⟩
  · omega
  · omega
  · have hl := pm_okr_a hr (pm_kd_c (k := k) (by omega))
    obtain ⟨j, hj, hw⟩ := pm_cell (q := q) (a := a) σ hl
    have he : pm_en q a σ (c0, o, k + 1) = .inl (a 1, pm_len σ c0 k, .inr (.inl (σ.2 c0 o k))) := by
      show (Sum.inl (a (pm_kd c0 k), pm_len σ c0 k, pm_ec q σ c0 o k) : va_E) = _
      unfold pm_ec
      rw [hk]
    rw [he] at hw
    exact pm_St.mk (pm_okv_push ok trivial pm_sub2) rfl (fun kk H locs LS hP hS hL => va_lald hx.1 hx.2.1 hx.2.2.2.2.2.1 hP j 1 hw rfl hi hd (kk H locs LS hP hS hL))
  · omega
  · omega
theorem pmS_baload (hx : pm_Cx p s mm args c dC dI a q m) {L : Nat} {xs : Nat → Int32} (hsx : pm_Sx s q lw L xs σ) (ok : pm_ok lw (m, pc, ls, st, σ)) (hd : decode (pm_b m) pc = .ok (.baload, 1)) {y : pmO ⊕ pmF} (h : pm_ald m (pc + 1) ls st σ 2 = some y) : pm_St p l e R s mm args below meth c cells slots Q dC dI a q lw (m, pc, ls, st, σ) y := by
  obtain ⟨i, c0, o, k, st2, rfl, hi, hh⟩ := pm_ald_inv h
  have hr : pm_okr lw (c0, o, k + 1) := ok.2.1 (.inr (.inr (c0, o, k + 1))) (List.mem_cons_of_mem _ List.mem_cons_self)
  rcases hh with ⟨h0, -⟩ | ⟨h0, -⟩ | ⟨h0, -⟩ | ⟨-, hk, rfl⟩ | ⟨h0, -⟩
  · omega
  · omega
  · omega
  · have hl := pm_okr_a hr (pm_kd_c (k := k) (by omega))
    obtain ⟨j, hj, hw⟩ := pm_cell (q := q) (a := a) σ hl
    have he : pm_en q a σ (c0, o, k + 1) = .inl (a 2, pm_len σ c0 k, .inl (σ.1 c0 o k)) := by
      show (Sum.inl (a (pm_kd c0 k), pm_len σ c0 k, pm_ec q σ c0 o k) : va_E) = _
      unfold pm_ec
      rw [hk]
    rw [he] at hw
    exact pm_St.mk (pm_okv_push ok trivial pm_sub2) rfl (fun kk H locs LS hP hS hL => va_zald hx.1 hx.2.1 hx.2.2.2.2.2.1 hP j 2 hw rfl hi hd (kk H locs LS hP hS hL))
  · omega
theorem pmS_aaload (hx : pm_Cx p s mm args c dC dI a q m) {L : Nat} {xs : Nat → Int32} (hsx : pm_Sx s q lw L xs σ) (ok : pm_ok lw (m, pc, ls, st, σ)) (hd : decode (pm_b m) pc = .ok (.aaload, 1)) {y : pmO ⊕ pmF} (h : pm_ald m (pc + 1) ls st σ 3 = some y) : pm_St p l e R s mm args below meth c cells slots Q dC dI a q lw (m, pc, ls, st, σ) y := by
  obtain ⟨i, c0, o, k, st2, rfl, hi, hh⟩ := pm_ald_inv h
  have hr : pm_okr lw (c0, o, k + 1) := ok.2.1 (.inr (.inr (c0, o, k + 1))) (List.mem_cons_of_mem _ List.mem_cons_self)
  rcases hh with ⟨h0, -⟩ | ⟨h0, -⟩ | ⟨h0, -⟩ | ⟨h0, -⟩ | ⟨-, hk, rfl⟩
  · omega
  · omega
  · omega
  · omega
  · have hl := pm_okr_a hr (pm_kd_c (k := k) (by omega))
    obtain ⟨j, hj, hw⟩ := pm_cell (q := q) (a := a) σ hl
    obtain ⟨hc, -, -, n, d, h1, -, -, h4⟩ := pm_lay_a hl
    have hkd := pm_kd_lt hc h1
    have hin := pm_len_lt (σ := σ) hc h1
    have hlt : i.toNatClampNeg < n := by rw [← hin]; exact Nat.not_le.mp fun z => hi (Or.inr z)
    have hnew : (pm_kd c0 k - 3, i.toNatClampNeg, 0) ∈ pm_lay := by rw [hkd]; exact h4 (by omega) _ hlt
    refine pm_St.mk (pm_okv_push ok (Or.inl hnew) pm_sub2) rfl (fun kk H locs LS hP hS hL => ?_)
    have k2 := kk H locs LS hP hS hL
    rcases hk with hk | hk
    · have he : pm_en q a σ (c0, o, k + 1) = .inl (a 3, pm_len σ c0 k, .inr (.inr (.inr (.inr (fun i => some (q 0 i 0)))))) := by
        show (Sum.inl (a (pm_kd c0 k), pm_len σ c0 k, pm_ec q σ c0 o k) : va_E) = _
        unfold pm_ec
        rw [hk]
      rw [he] at hw
      rw [hk] at k2
      exact va_aldq (C := RX0) hx.1 hx.2.1 hx.2.2.2.2.2.1 hP j 3 hw rfl hi hd k2
    · have he : pm_en q a σ (c0, o, k + 1) = .inl (a 5, pm_len σ c0 k, .inr (.inr (.inr (.inr (fun i => some (q 2 i 0)))))) := by
        show (Sum.inl (a (pm_kd c0 k), pm_len σ c0 k, pm_ec q σ c0 o k) : va_E) = _
        unfold pm_ec
        rw [hk]
      rw [he] at hw
      rw [hk] at k2
      exact va_aldq (C := RX2) hx.1 hx.2.1 hx.2.2.2.2.2.1 hP j 4 hw rfl hi hd k2
theorem pmS_alen (hx : pm_Cx p s mm args c dC dI a q m) {L : Nat} {xs : Nat → Int32} (hsx : pm_Sx s q lw L xs σ) {c0 o k : Nat} (ok : pm_ok lw (m, pc, ls, .inr (.inr (c0, o, k + 1)) :: st, σ)) (hd : decode (pm_b m) pc = .ok (.arraylength, 1)) (hk : pm_kd c0 k < 9 ∨ pm_kd c0 k = 9 ∧ k = 0 ∧ o = 0) : pm_St p l e R s mm args below meth c cells slots Q dC dI a q lw (m, pc, ls, .inr (.inr (c0, o, k + 1)) :: st, σ) (.inr (m, pc + 1, ls, .inl (if c0 = 11 then σ.1 11 0 1 0 else nI (pm_len σ c0 k)) :: st, σ)) := by
  have hr : pm_okr lw (c0, o, k + 1) := ok.2.1 (.inr (.inr (c0, o, k + 1))) List.mem_cons_self
  refine pm_St.mk (pm_okv_push ok trivial pm_sub1) rfl (fun kk H locs LS hP hS hL => ?_)
  have k2 := kk H locs LS hP hS hL
  rcases hr with hr | hr
  · obtain ⟨hc, -, -, n, d, h1, -, h3, -⟩ := pm_lay_a hr
    obtain ⟨j, hj, hw⟩ := pm_cell (q := q) (a := a) σ hr
    rw [if_neg (by omega)] at k2
    have hkd := pm_kd_lt hc h1
    have he : pm_en q a σ (c0, o, k + 1) = .inl (a d, pm_len σ c0 k, pm_ec q σ c0 o k) := by
      show (Sum.inl (a (pm_kd c0 k), pm_len σ c0 k, pm_ec q σ c0 o k) : va_E) = _
      rw [hkd]
    rw [he] at hw
    rcases (show d = 0 ∨ d = 1 ∨ d = 2 ∨ d = 3 ∨ d = 5 by omega) with rfl | rfl | rfl | rfl | rfl
    · exact va_alen hx.1 hx.2.1 hx.2.2.2.2.2.1 hP j 0 hw rfl rfl hd k2
    · exact va_alen hx.1 hx.2.1 hx.2.2.2.2.2.1 hP j 1 hw rfl rfl hd k2
    · exact va_alen hx.1 hx.2.1 hx.2.2.2.2.2.1 hP j 2 hw rfl rfl hd k2
    · exact va_alen hx.1 hx.2.1 hx.2.2.2.2.2.1 hP j 3 hw rfl rfl hd k2
    · exact va_alen hx.1 hx.2.1 hx.2.2.2.2.2.1 hP j 4 hw rfl rfl hd k2
  · have e := hr.2
    simp at e
    obtain ⟨rfl, rfl, rfl⟩ := e
    obtain ⟨hX, hb1, hb2, hb3, hb4, hb5⟩ := hsx hr.1
    rw [if_pos rfl, hb5] at k2
    exact va_slen hx.1 hx.2.1 hX hb1 hb2 hS hd k2

theorem pmS_iastore (hx : pm_Cx p s mm args c dC dI a q m) (ok : pm_ok lw (m, pc, ls, st, σ)) (hd : decode (pm_b m) pc = .ok (.iastore, 1)) {y : pmO ⊕ pmF} (h : pm_ast m (pc + 1) ls st σ 0 = some y) : pm_St p l e R s mm args below meth c cells slots Q dC dI a q lw (m, pc, ls, st, σ) y := by
  rcases pm_ast_inv h with ⟨x, i, c0, o, k, st2, rfl, hi, rfl, hk⟩ | ⟨x, i, c0, o, k, st2, rfl, hi, ht, hk, rfl⟩
  · rcases hk with ⟨-, hk⟩ | ⟨h0, -⟩
    · have hr : pm_okr lw (c0, o, k + 1) := ok.2.1 (.inr (.inr (c0, o, k + 1))) (List.mem_cons_of_mem _ (List.mem_cons_of_mem _ List.mem_cons_self))
      have hl := pm_okr_a hr (pm_kd_c (k := k) (by omega))
      obtain ⟨j, hj, hw⟩ := pm_cell (q := q) (a := a) σ hl
      obtain ⟨hc, -, hf, -⟩ := pm_lay_a hl
      have he : pm_en q a σ (c0, o, k + 1) = .inl (a 0, pm_len σ c0 k, .inl (σ.1 c0 o k)) := by
        show (Sum.inl (a (pm_kd c0 k), pm_len σ c0 k, pm_ec q σ c0 o k) : va_E) = _
        unfold pm_ec
        rw [hk]
      have hu : (pm_wi σ c0 o k i.toNatClampNeg x).1 c0 o k = upd (σ.1 c0 o k) i.toNatClampNeg x := by
        funext z
        simp [pm_wi, pm_u4, upd]
      have he2 : pm_en q a (pm_wi σ c0 o k i.toNatClampNeg x) (c0, o, k + 1) = .inl (a 0, pm_len σ c0 k, .inl (upd (σ.1 c0 o k) i.toNatClampNeg x)) := by
        show (Sum.inl (a (pm_kd c0 k), pm_len (pm_wi σ c0 o k i.toNatClampNeg x) c0 k, pm_ec q (pm_wi σ c0 o k i.toNatClampNeg x) c0 o k) : va_E) = _
        unfold pm_ec
        rw [hk, pm_off_len (pm_off_wi σ c0 o k i.toNatClampNeg x) hc]
        dsimp only
        rw [hu]
      have hset := pm_ws_set (q := q) (a := a) hj (pm_off_a (pm_off_wi σ c0 o k i.toNatClampNeg x) hc hf)
      rw [he2] at hset
      rw [he] at hw
      refine pm_St.mk (pm_okv_pop ok pm_sub3) (funext fun o2 => funext fun k2 => ((pm_off_wi σ c0 o k i.toNatClampNeg x) 11 o2 k2 (by omega)).1) (fun kk H locs LS hP hS hL => ?_)
      refine va_iast hx.1 hx.2.1 hx.2.2.2.2.2.1 hP (pm_D hx.2.2.2.2.2.2 a σ) hS j 0 hw rfl hi hd (fun H1 locs1 hP1 hD1 hS1 => ?_)
      rw [hset] at hP1
      exact kk H1 locs1 LS hP1 hS1 hL
    · omega
  · omega
theorem pmS_lastore (hx : pm_Cx p s mm args c dC dI a q m) (ok : pm_ok lw (m, pc, ls, st, σ)) (hd : decode (pm_b m) pc = .ok (.lastore, 1)) {y : pmO ⊕ pmF} (h : pm_ast m (pc + 1) ls st σ 1 = some y) : pm_St p l e R s mm args below meth c cells slots Q dC dI a q lw (m, pc, ls, st, σ) y := by
  rcases pm_ast_inv h with ⟨x, i, c0, o, k, st2, rfl, hi, rfl, hk⟩ | ⟨x, i, c0, o, k, st2, rfl, hi, ht, hk, rfl⟩
  · omega
  · have hr : pm_okr lw (c0, o, k + 1) := ok.2.1 (.inr (.inr (c0, o, k + 1))) (List.mem_cons_of_mem _ (List.mem_cons_of_mem _ List.mem_cons_self))
    have hl := pm_okr_a hr (pm_kd_c (k := k) (by omega))
    obtain ⟨j, hj, hw⟩ := pm_cell (q := q) (a := a) σ hl
    obtain ⟨hc, -, hf, -⟩ := pm_lay_a hl
    have he : pm_en q a σ (c0, o, k + 1) = .inl (a 1, pm_len σ c0 k, .inr (.inl (σ.2 c0 o k))) := by
      show (Sum.inl (a (pm_kd c0 k), pm_len σ c0 k, pm_ec q σ c0 o k) : va_E) = _
      unfold pm_ec
      rw [hk]
    have hu : (pm_wl σ c0 o k i.toNatClampNeg x).2 c0 o k = vp_updL (σ.2 c0 o k) i.toNatClampNeg x := by
      funext z
      simp [pm_wl, pm_u4, vp_updL]
    have he2 : pm_en q a (pm_wl σ c0 o k i.toNatClampNeg x) (c0, o, k + 1) = .inl (a 1, pm_len σ c0 k, .inr (.inl (vp_updL (σ.2 c0 o k) i.toNatClampNeg x))) := by
      show (Sum.inl (a (pm_kd c0 k), pm_len (pm_wl σ c0 o k i.toNatClampNeg x) c0 k, pm_ec q (pm_wl σ c0 o k i.toNatClampNeg x) c0 o k) : va_E) = _
      unfold pm_ec
      rw [hk, pm_off_len (pm_off_wl σ c0 o k i.toNatClampNeg x) hc]
      dsimp only
      rw [hu]
    have hset := pm_ws_set (q := q) (a := a) hj (pm_off_a (pm_off_wl σ c0 o k i.toNatClampNeg x) hc hf)
    rw [he2] at hset
    rw [he] at hw
    refine pm_St.mk (pm_okv_pop ok pm_sub3) rfl (fun kk H locs LS hP hS hL => ?_)
    refine va_last hx.1 hx.2.1 hx.2.2.2.2.2.1 hP (pm_D hx.2.2.2.2.2.2 a σ) hS j 1 hw rfl hi hd (fun H1 locs1 hP1 hD1 hS1 => ?_)
    exact kk H1 locs1 LS (by show va_P _ _ (pm_ws q a _) H1; rw [← hset]; exact hP1) hS1 hL
theorem pmS_bastore (hx : pm_Cx p s mm args c dC dI a q m) (ok : pm_ok lw (m, pc, ls, st, σ)) (hd : decode (pm_b m) pc = .ok (.bastore, 1)) {y : pmO ⊕ pmF} (h : pm_ast m (pc + 1) ls st σ 2 = some y) : pm_St p l e R s mm args below meth c cells slots Q dC dI a q lw (m, pc, ls, st, σ) y := by
  rcases pm_ast_inv h with ⟨x, i, c0, o, k, st2, rfl, hi, rfl, hk⟩ | ⟨x, i, c0, o, k, st2, rfl, hi, ht, hk, rfl⟩
  · rcases hk with ⟨h0, -⟩ | ⟨-, hk, hx1⟩
    · omega
    · have hr : pm_okr lw (c0, o, k + 1) := ok.2.1 (.inr (.inr (c0, o, k + 1))) (List.mem_cons_of_mem _ (List.mem_cons_of_mem _ List.mem_cons_self))
      have hl := pm_okr_a hr (pm_kd_c (k := k) (by omega))
      obtain ⟨j, hj, hw⟩ := pm_cell (q := q) (a := a) σ hl
      obtain ⟨hc, -, hf, -⟩ := pm_lay_a hl
      have he : pm_en q a σ (c0, o, k + 1) = .inl (a 2, pm_len σ c0 k, .inl (σ.1 c0 o k)) := by
        show (Sum.inl (a (pm_kd c0 k), pm_len σ c0 k, pm_ec q σ c0 o k) : va_E) = _
        unfold pm_ec
        rw [hk]
      have hb : vp_nar .boolean x = x := by
        rcases hx1 with rfl | rfl <;> decide +kernel
      have hu : (pm_wi σ c0 o k i.toNatClampNeg x).1 c0 o k = upd (σ.1 c0 o k) i.toNatClampNeg (vp_nar .boolean x) := by
        rw [hb]
        funext z
        simp [pm_wi, pm_u4, upd]
      have he2 : pm_en q a (pm_wi σ c0 o k i.toNatClampNeg x) (c0, o, k + 1) = .inl (a 2, pm_len σ c0 k, .inl (upd (σ.1 c0 o k) i.toNatClampNeg (vp_nar .boolean x))) := by
        show (Sum.inl (a (pm_kd c0 k), pm_len (pm_wi σ c0 o k i.toNatClampNeg x) c0 k, pm_ec q (pm_wi σ c0 o k i.toNatClampNeg x) c0 o k) : va_E) = _
        unfold pm_ec
        rw [hk, pm_off_len (pm_off_wi σ c0 o k i.toNatClampNeg x) hc]
        dsimp only
        rw [hu]
      have hset := pm_ws_set (q := q) (a := a) hj (pm_off_a (pm_off_wi σ c0 o k i.toNatClampNeg x) hc hf)
      rw [he2] at hset
      rw [he] at hw
      refine pm_St.mk (pm_okv_pop ok pm_sub3) (funext fun o2 => funext fun k2 => ((pm_off_wi σ c0 o k i.toNatClampNeg x) 11 o2 k2 (by omega)).1) (fun kk H locs LS hP hS hL => ?_)
      refine va_zast hx.1 hx.2.1 hx.2.2.2.2.2.1 hP (pm_D hx.2.2.2.2.2.2 a σ) hS j 2 hw rfl hi hd (fun H1 locs1 hP1 hD1 hS1 => ?_)
      rw [hset] at hP1
      exact kk H1 locs1 LS hP1 hS1 hL
  · omega
theorem pmS_get (hx : pm_Cx p s mm args c dC dI a q m) (ok : pm_ok lw (m, pc, ls, st, σ)) {idx : Nat} (hd : decode (pm_b m) pc = .ok (.getfield idx, 3)) {y : pmO ⊕ pmF} (h : pm_get m (pc + 3) ls st σ idx = some y) : pm_St p l e R s mm args below meth c cells slots Q dC dI a q lw (m, pc, ls, st, σ) y := by
  obtain ⟨c0, o, k, st2, rfl, hf, hh⟩ := pm_get_inv h
  have hr : pm_okr lw (c0, o, 0) := ok.2.1 (.inr (.inr (c0, o, 0))) List.mem_cons_self
  obtain ⟨r, hcl, hk, hlink⟩ := pm_fl_ok hf
  have hc11 : c0 < 11 := (List.getElem?_eq_some_iff.mp hcl).1
  have hl := pm_okr_a hr (by omega)
  obtain ⟨j, hj, hw⟩ := pm_cell (q := q) (a := a) σ hl
  obtain ⟨hws, hnf, -⟩ := pm_cls_w hcl
  obtain ⟨-, hla, hlo⟩ := pm_lay_o hl
  have hv : (pm_fs q σ c0 o)[k]? = some (pm_fv q σ c0 o k) := pm_fs_at (by rw [← hnf]; exact hk)
  have row : ∀ (v : pmV), pm_fv q σ c0 o k = pm_val q v → pm_K p l e R s mm args below meth c cells slots Q dC dI a q (m, pc + 3, ls, v :: st2, σ) → pm_K p l e R s mm args below meth c cells slots Q dC dI a q (m, pc, ls, .inr (.inr (c0, o, 0)) :: st2, σ) := by
    intro v hvv kk H locs LS hP hS hL
    have k2 := kk H locs LS hP hS hL
    rw [hvv] at hv
    exact va_get (C := r.1) (T := r.2.1) (N := r.2.2) hx.1 hx.2.1 hx.2.2.2.2.1 hws hx.2.2.2.1 hx.2.2.2.2.2.1 hP j hw hcl k hk (hx.2.2.2.2.1 _ hlink) (fun _ h9 => h9) hv hd k2
  have hk2 : k < pm_nf c0 := by rw [← hnf]; exact hk
  rcases hh with ⟨h0, rfl⟩ | ⟨h0, rfl⟩ | ⟨h0, rfl⟩ | ⟨t, h0, rfl⟩
  · exact pm_St.mk (pm_okv_push ok trivial pm_sub1) rfl (row _ (by unfold pm_fv; rw [h0]; rfl))
  · exact pm_St.mk (pm_okv_push ok trivial pm_sub1) rfl (row _ (by unfold pm_fv; rw [h0]; rfl))
  · exact pm_St.mk (pm_okv_push ok (Or.inl (hla k hk2 h0)) pm_sub1) rfl (row _ (by unfold pm_fv; rw [h0]; rfl))
  · exact pm_St.mk (pm_okv_push ok (Or.inl (hlo k t hk2 h0)) pm_sub1) rfl (row _ (by unfold pm_fv; rw [h0]; rfl))
theorem pmS_put (hx : pm_Cx p s mm args c dC dI a q m) (ok : pm_ok lw (m, pc, ls, st, σ)) {idx : Nat} (hd : decode (pm_b m) pc = .ok (.putfield idx, 3)) {y : pmO ⊕ pmF} (h : pm_put m (pc + 3) ls st σ idx = some y) : pm_St p l e R s mm args below meth c cells slots Q dC dI a q lw (m, pc, ls, st, σ) y := by
  rcases pm_put_inv h with ⟨x, c0, o, k, st2, rfl, hf, h0, rfl⟩ | ⟨x, c0, o, k, st2, rfl, hf, h0, rfl⟩
  · have hr : pm_okr lw (c0, o, 0) := ok.2.1 (.inr (.inr (c0, o, 0))) (List.mem_cons_of_mem _ List.mem_cons_self)
    obtain ⟨r, hcl, hk, hlink⟩ := pm_fl_ok hf
    have hc11 : c0 < 11 := (List.getElem?_eq_some_iff.mp hcl).1
    have hl := pm_okr_a hr (by omega)
    obtain ⟨j, hj, hw⟩ := pm_cell (q := q) (a := a) σ hl
    obtain ⟨hws, hnf, -, hi, -⟩ := pm_cls_w hcl
    obtain ⟨⟨ty0, hty⟩, hnm⟩ := pm_cls_ok c0 r hcl
    have hk2 : k < pm_nf c0 := by rw [← hnf]; exact hk
    have hset := pm_ws_set (q := q) (a := a) hj (pm_off_f (pm_off_wi σ c0 o k 0 x) hc11 (by omega))
    have hfs : pm_en q a (pm_wi σ c0 o k 0 x) (c0, o, 0) = .inr (c0, (pm_fs q σ c0 o).set k (.int x)) := by
      show (Sum.inr (c0, pm_fs q (pm_wi σ c0 o k 0 x) c0 o) : va_E) = _
      rw [pm_fs_set (pm_off_wi σ c0 o k 0 x) hk2 (by unfold pm_fv; rw [h0]; simp [pm_wi, pm_u4])]
    rw [hfs] at hset
    refine pm_St.mk (pm_okv_pop ok pm_sub2) (funext fun o2 => funext fun k2 => ((pm_off_wi σ c0 o k 0 x) 11 o2 k2 (by omega)).1) (fun kk H locs LS hP hS hL => ?_)
    refine va_put (C := r.1) (T := r.2.1) (N := r.2.2) (ty := .int) hx.1 hx.2.1 hx.2.2.2.2.1 hws ty0 hty hnm hx.2.2.2.1 hx.2.2.2.2.2.1 hP (pm_D hx.2.2.2.2.2.2 a σ) hS j hw hcl k hk (hx.2.2.2.2.1 _ hlink) (fun _ h9 => h9) (hi k hk h0).1 (hi k hk h0).2 rfl rfl (by unfold pm_fs; rw [List.length_map, List.length_range]; exact hk2) hd (fun H1 locs1 hP1 hD1 hS1 => ?_)
    exact kk H1 locs1 LS (by show va_P _ _ (pm_ws q a _) H1; rw [← hset]; exact hP1) hS1 hL
  · have hr : pm_okr lw (c0, o, 0) := ok.2.1 (.inr (.inr (c0, o, 0))) (List.mem_cons_of_mem _ List.mem_cons_self)
    obtain ⟨r, hcl, hk, hlink⟩ := pm_fl_ok hf
    have hc11 : c0 < 11 := (List.getElem?_eq_some_iff.mp hcl).1
    have hl := pm_okr_a hr (by omega)
    obtain ⟨j, hj, hw⟩ := pm_cell (q := q) (a := a) σ hl
    obtain ⟨hws, hnf, -, -, hi⟩ := pm_cls_w hcl
    obtain ⟨⟨ty0, hty⟩, hnm⟩ := pm_cls_ok c0 r hcl
    have hk2 : k < pm_nf c0 := by rw [← hnf]; exact hk
    have hset := pm_ws_set (q := q) (a := a) hj (pm_off_f (pm_off_wl σ c0 o k 0 x) hc11 (by omega))
    have hfs : pm_en q a (pm_wl σ c0 o k 0 x) (c0, o, 0) = .inr (c0, (pm_fs q σ c0 o).set k (.long x)) := by
      show (Sum.inr (c0, pm_fs q (pm_wl σ c0 o k 0 x) c0 o) : va_E) = _
      rw [pm_fs_set (pm_off_wl σ c0 o k 0 x) hk2 (by unfold pm_fv; rw [h0]; simp [pm_wl, pm_u4])]
    rw [hfs] at hset
    refine pm_St.mk (pm_okv_pop ok pm_sub2) rfl (fun kk H locs LS hP hS hL => ?_)
    refine va_put (C := r.1) (T := r.2.1) (N := r.2.2) (ty := .long) hx.1 hx.2.1 hx.2.2.2.2.1 hws ty0 hty hnm hx.2.2.2.1 hx.2.2.2.2.2.1 hP (pm_D hx.2.2.2.2.2.2 a σ) hS j hw hcl k hk (hx.2.2.2.2.1 _ hlink) (fun _ h9 => h9) (hi k hk h0).1 (hi k hk h0).2 rfl rfl (by unfold pm_fs; rw [List.length_map, List.length_range]; exact hk2) hd (fun H1 locs1 hP1 hD1 hS1 => ?_)
    exact kk H1 locs1 LS (by show va_P _ _ (pm_ws q a _) H1; rw [← hset]; exact hP1) hS1 hL
end PMS
