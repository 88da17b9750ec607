/-! calls, copies, returns; the whole run -/
theorem pm_okv_up {lw : Bool} {v : pmV} (h : pm_okv false v) : pm_okv lw v := by
  rcases v with x | x | x
  · trivial
  · trivial
  · rcases h with h | h
    · exact Or.inl h
    · exact absurd h.1 (by decide)
theorem pm_blind {dC : Nat → ClassId} {dI : Nat → Nat → Nat} {a : Nat → ClassId} {q : Nat → Nat → Nat → Nat} {as : List pmV} {σ : pmS} : FrameBlind (pm_Pc dC dI a q as σ) := by
  intro v U g mk hq
  obtain ⟨q0, qP, qK⟩ := hq
  exact ⟨q0, qP, va_K.moved (u := U) (U := U.calling g mk v) (Vm.Alike.refl U.vm) qK⟩
theorem pm_goodIn {cm : Nat} (h : cm < 183) : GoodIn pm_G (pm_w cm) := by
  intro w hw
  have h1 : w ∈ pm_G := (List.mem_cons.mp hw).elim (fun z => z ▸ pm_code_in h) (fun z => z)
  exact ⟨h1, pm_G_good h1⟩
section PMT
variable {p : Program} {l : Launch} {e : Env} {R : Room} {s : State} {mm : MethodId} {args : Array Value} {below : List Frame} {meth : Method} {c : Code} {cells slots : Nat} {Q : State → Prop}
variable {dC : Nat → ClassId} {dI : Nat → Nat → Nat} {a : Nat → ClassId} {q : Nat → Nat → Nat → Nat}
variable {lw : Bool} {m pc : Nat} {ls : pmL} {st : List pmV} {σ : pmS}
theorem pm_after {H : Heap} {locs : List Loc} {LS : Array Slot} {st0 rest : List Value} {av : Array Value} {r : Option pmV} {σ' : pmS} (hr : va_Run p l e R s mm args below meth c H locs cells slots 0 0 (F0 mm pc LS st0) rest (pm_Qc dC dI a q σ r σ' av) (pm_A q)) (hS : va_S (pm_A q) s.heap H locs)
    (kk : ∀ (H1 : Heap) (locs1 : List Loc), ((∀ v, r = some v → pm_okv false v) ∧ σ'.1 11 = σ.1 11) → va_P (dC, dI) pm_classes (pm_ws q a σ') H1 → va_S (pm_A q) s.heap H1 locs1 → W p l e R s mm args below meth c H1 locs1 cells slots Q (F0 mm (pc + 3) LS ((r.map (pm_val q)).toList ++ rest))) : W p l e R s mm args below meth c H locs cells slots Q (F0 mm pc LS st0) := by
  intro T hT X
  obtain ⟨v, st₀, t, T', L, h0, X', hL, e1, e2, ⟨⟨hpure, hv, hp, hk⟩, hz, hf⟩, st⟩ := hr T hT X
  cases hv
  rw [h0] at hz hf
  obtain ⟨t2, a1, b1⟩ := kk T'.heap (locs ++ L) hpure (by rw [e1]; exact hp) ⟨Nat.le_trans hS.1 (by rw [e1]; exact hz), fun z h1 h2 => by rw [e1, hf z (Nat.lt_of_lt_of_le h1 hS.1) h2]; exact hS.2.1 z h1 h2, fun z hz2 => by
      rcases List.mem_append.mp hz2 with h | h
      · exact hS.2.2 z h
      · exact hL z h⟩ T' rfl X'
  exact ⟨t2, st t2 a1, b1⟩
theorem pm_cats_ok {rest : List pmV} (h : pm_cats rest ≤ 8) : ((rest.map (pm_val q)).map fun v => v.category).sum ≤ 8 := by
  have e1 : (rest.map (pm_val q)).map (fun v => v.category) = rest.map pm_cat := by
    rw [List.map_map]
    exact List.map_congr_left fun v _ => pm_val_cat q v
  rw [e1]
  exact h
theorem pmS_call {C : pmC} {d : Nat} (hx : pm_Cx p s mm args c dC dI a q m) (hR : d + 1 ≤ R.frames ∧ 64 * (d + 1) ≤ R.locals) (hcs : cells ≤ R.cells ∧ slots ≤ R.slots) (hC : pm_CS l dC dI a q d C) (ok : pm_ok lw (m, pc, ls, st, σ)) {idx vt : Nat} (hd1 : vt = 1 → decode (pm_b m) pc = .ok (.invokevirtual idx, 3)) (hd0 : vt = 0 → decode (pm_b m) pc = .ok (.invokestatic idx, 3)) (hvt : vt = 0 ∨ vt = 1) {y : pmO ⊕ pmF} (h : pm_call C m (pc + 3) ls st σ idx vt = some y) : pm_St p l e R s mm args below meth c cells slots Q dC dI a q lw (m, pc, ls, st, σ) y := by
  obtain ⟨cm, as, rest, r, σ', hcl, rfl, hlen, hvt2, hcat, hns, hrc, hCr, rfl⟩ := pm_call_inv h
  have hok : ∀ v ∈ as, pm_okv lw v := fun v hv => ok.2.1 v (List.mem_append_left _ (List.mem_reverse.mpr hv))
  have hok2 := pm_noscr_ok hns hok
  obtain ⟨hcm, hlink⟩ := pm_cl_ok hcl
  obtain ⟨m1, m2, m3, m4, m5, m6, -⟩ := pm_m_ok hcm
  obtain ⟨-, n2, n3, n4⟩ := pm_n_ok hcm
  have hM := hC cm as σ r σ' hCr hcm hok2
  have hts := hx.2.2.2.2.1
  have hcb : CallB R s args (pm_cn (pm_own m)) idx (pm_y cm) (pm_b cm) (pm_mx cm) (pm_ret cm) (pm_w cm) (pm_rm d) 0 0 (pm_na cm - pm_vt cm) := callB_of _ hts (pm_goodIn hcm) rfl rfl rfl (hts _ n2) (hts _ hlink) ⟨m2.1, m2.2, m3⟩ ⟨hR.1, by show 8 + (pm_mx cm + 11) + 64 * d ≤ R.locals; omega⟩
  have hS4 : CallFix p mm c (pm_b m) (pm_mx m) s args pm_G (pm_cn (pm_own m)) := ⟨hx.1, hx.2.1, hx.2.2.1, hx.2.2.2.1, hts⟩
  intro fr' he kk H locs LS hP hS hL
  cases he
  have hcont : ∀ (H1 : Heap) (locs1 : List Loc), ((∀ v, r = some v → pm_okv false v) ∧ σ'.1 11 = σ.1 11) → va_P (dC, dI) pm_classes (pm_ws q a σ') H1 → va_S (pm_A q) s.heap H1 locs1 → W p l e R s mm args below meth c H1 locs1 cells slots Q (F0 mm (pc + 3) LS ((r.map (pm_val q)).toList ++ rest.map (pm_val q))) := by
    intro H1 locs1 hpure hP1 hS1
    have k2 := kk ⟨⟨ok.1, fun v hv => ?_, ok.2.2⟩, rfl, hpure.2⟩ H1 locs1 LS hP1 hS1 hL
    · have e1 : (r.toList ++ rest).map (pm_val q) = (r.map (pm_val q)).toList ++ rest.map (pm_val q) := by
        rw [List.map_append]
        cases r <;> rfl
      dsimp only at k2
      rw [e1] at k2
      exact k2
    · rcases List.mem_append.mp hv with h1 | h1
      · cases r with
        | none => cases h1
        | some v0 =>
          have : v = v0 := by simpa using h1
          subst this
          exact pm_okv_up (hpure.1 v rfl)
      · exact ok.2.1 v (List.mem_append_right _ h1)
  have hU : ∀ U : State, U.heap = H → s.WarmedH U.vm → pm_Pc dC dI a q as σ (as.map (pm_val q)).toArray U := fun U hU hW => ⟨rfl, by rw [hU]; exact hP, va_K.moved hW.alike hx.2.2.2.2.2.1⟩
  have hcat2 := pm_cats_ok (q := q) hcat
  have hst : ((as.reverse ++ rest).map (pm_val q)) = (as.map (pm_val q)).reverse ++ rest.map (pm_val q) := by
    rw [List.map_append, List.map_reverse]
  rcases hvt with hv | hv
  · have hrun := va_runS (locs := locs) (e := e) (below := below) (meth := meth) (g := F0 mm pc LS ((as.reverse ++ rest).map (pm_val q))) (As := as.map (pm_val q)) (rest := rest.map (pm_val q)) hS4 hM ⟨hcb, hts _ (n4 (by omega))⟩ ⟨pm_blind, hU⟩ rfl (by rw [List.length_map, hlen]; omega) (hL.1.trans ok.1) hst (lv_room hcat2) (hd0 hv) hcs
    exact pm_after hrun hS hcont
  · rcases hrc with h0 | hrc
    · omega
    unfold pm_rcv at hrc
    split at hrc
    next c0 o as' =>
      have hc0 : c0 = pm_own cm := by simpa using hrc
      have hl0 : (c0, o, 0) ∈ pm_lay := by
        have := hok2 (.inr (.inr (c0, o, 0))) List.mem_cons_self
        rcases this with h1 | h1
        · exact h1
        · exact absurd h1.1 (by decide)
      obtain ⟨j, hj, hw⟩ := pm_cell (q := q) (a := a) σ hl0
      have hc11 := (pm_lay_o hl0).1
      obtain ⟨r0, hr0⟩ : ∃ r0, pm_classes[c0]? = some r0 := ⟨_, List.getElem?_eq_getElem (show c0 < pm_classes.length from hc11)⟩
      have hrecv := va_recv hx.2.2.2.2.2.1 hP hr0 hw
      have hnm : r0.1 = (pm_y cm).cls := by rw [(pm_cls_w hr0).2.2.1, m1, hc0]
      rw [hnm] at hrecv
      have n3' := n3 (by omega)
      have hst2 : (((.inr (.inr (c0, o, 0)) :: as').reverse ++ rest).map (pm_val q)) = (as'.map (pm_val q)).reverse ++ .ref (q c0 o 0) :: rest.map (pm_val q) := by
        rw [hst, List.map_cons, List.reverse_cons, List.append_assoc]
        rfl
      have hlen2 : as'.length + 1 = pm_na cm := by rw [← hlen]; rfl
      have hrun := va_runV (locs := locs) (e := e) (below := below) (meth := meth) (C := (pm_y cm).cls) (b := q c0 o 0) (g := F0 mm pc LS (((.inr (.inr (c0, o, 0)) :: as').reverse ++ rest).map (pm_val q))) (As := as'.map (pm_val q)) (rest := rest.map (pm_val q)) hS4 hM ⟨hcb, hts _ n3'.1, hts _ n3'.2⟩ ⟨pm_blind, hrecv, hU⟩ rfl (by rw [List.length_map]; omega) (hL.1.trans ok.1) hst2 (lv_room hcat2) (hd1 hv) hcs
      exact pm_after hrun hS hcont
    next => cases hrc
theorem pmS_copy (hx : pm_Cx p s mm args c dC dI a q m) (hR : 1 ≤ R.frames ∧ 64 ≤ R.locals) (ok : pm_ok lw (m, pc, ls, st, σ)) {idx : Nat} (hd : decode (pm_b m) pc = .ok (.invokestatic idx, 3)) (hn : pm_isnat (pm_own m) idx = true) {y : pmO ⊕ pmF} (h : pm_copy m (pc + 3) ls st σ = some y) : pm_St p l e R s mm args below meth c cells slots Q dC dI a q lw (m, pc, ls, st, σ) y := by
  obtain ⟨n, dp, c1, o1, k1, sp, c0, o0, k0, st2, rfl, ⟨g0, g1, g2, g3, g4, g5, g6, g7⟩, rfl⟩ := pm_copy_inv h
  have hr1 : pm_okr lw (c1, o1, k1 + 1) := ok.2.1 (.inr (.inr (c1, o1, k1 + 1))) (List.mem_cons_of_mem _ (List.mem_cons_of_mem _ List.mem_cons_self))
  have hr0 : pm_okr lw (c0, o0, k0 + 1) := ok.2.1 (.inr (.inr (c0, o0, k0 + 1))) (List.mem_cons_of_mem _ (List.mem_cons_of_mem _ (List.mem_cons_of_mem _ (List.mem_cons_of_mem _ List.mem_cons_self))))
  have hl1 := pm_okr_a hr1 (pm_kd_c (k := k1) (by omega))
  have hl0 := pm_okr_a hr0 (pm_kd_c (k := k0) (by omega))
  obtain ⟨j1, hj1, hw1⟩ := pm_cell (q := q) (a := a) σ hl1
  obtain ⟨j0, hj0, hw0⟩ := pm_cell (q := q) (a := a) σ hl0
  obtain ⟨hc1, -, hf1, -⟩ := pm_lay_a hl1
  have he0 : pm_en q a σ (c0, o0, k0 + 1) = .inl (a 0, pm_len σ c0 k0, .inl (σ.1 c0 o0 k0)) := by
    show (Sum.inl (a (pm_kd c0 k0), pm_len σ c0 k0, pm_ec q σ c0 o0 k0) : va_E) = _
    unfold pm_ec
    rw [g0]
  have he1 : pm_en q a σ (c1, o1, k1 + 1) = .inl (a 0, pm_len σ c1 k1, .inl (σ.1 c1 o1 k1)) := by
    show (Sum.inl (a (pm_kd c1 k1), pm_len σ c1 k1, pm_ec q σ c1 o1 k1) : va_E) = _
    unfold pm_ec
    rw [g1]
  generalize hfe : va_cpy (σ.1 c0 o0 k0) (σ.1 c1 o1 k1) sp.toNatClampNeg dp.toNatClampNeg n.toNatClampNeg = f at h ⊢
  have he2 : pm_en q a (pm_wr σ c1 o1 k1 f) (c1, o1, k1 + 1) = .inl (a 0, pm_len σ c1 k1, .inl f) := by
    show (Sum.inl (a (pm_kd c1 k1), pm_len (pm_wr σ c1 o1 k1 f) c1 k1, pm_ec q (pm_wr σ c1 o1 k1 f) c1 o1 k1) : va_E) = _
    unfold pm_ec
    rw [g1, pm_off_len (pm_off_wr σ c1 o1 k1 f) hc1]
    dsimp only
    have : (pm_wr σ c1 o1 k1 f).1 c1 o1 k1 = f := by
      funext z
      simp [pm_wr]
    rw [this]
  have hset := pm_ws_set (q := q) (a := a) hj1 (pm_off_a (pm_off_wr σ c1 o1 k1 f) hc1 hf1)
  rw [he2] at hset
  rw [he0] at hw0
  rw [he1] at hw1
  have hts := hx.2.2.2.2.1
  have hp1 := pm_okP1
  rw [Bool.and_eq_true, Bool.and_eq_true] at hp1
  refine pm_St.mk ⟨ok.1, fun u hu => ok.2.1 u (pm_sub3 _ (pm_sub2 _ hu)), ok.2.2⟩ (funext fun o2 => funext fun k2 => ((pm_off_wr σ c1 o1 k1 f) 11 o2 k2 (by omega)).1) (fun kk H locs LS hP hS hL => ?_)
  have hcat2 := pm_cats_ok (q := q) g7
  refine va_copyi hx.1 hx.2.1 (hx.2.2.1.trans (ok.1.symm.trans hL.1.symm)) hx.2.2.2.1 (hts _ (pm_nat_ok hn)) (hts _ (pm_in_G hp1.1.1)) (hts _ (pm_in_G hp1.1.2)) (hts _ (pm_in_G hp1.2)) hx.2.2.2.2.2.1 hP (pm_D hx.2.2.2.2.2.2 a σ) hS j0 j1 0 0 hw0 hw1 rfl rfl rfl g2 g3 g4 g5 g6 (fun _ _ => rfl) hR.1 ?_ hd (fun H1 locs1 hP1 hD1 hS1 => ?_)
  · have e9 : nativeFrameWords "java/lang/System" "arraycopy" 5 ≤ 40 := by decide +kernel
    omega
  · exact kk H1 locs1 LS (by show va_P _ _ (pm_ws q a _) H1; rw [← hset, ← hfe]; exact hP1) hS1 hL
theorem pmS_min (hx : pm_Cx p s mm args c dC dI a q m) (hR : 1 ≤ R.frames ∧ 64 ≤ R.locals) (hcs : cells ≤ R.cells ∧ slots ≤ R.slots) (ok : pm_ok lw (m, pc, ls, st, σ)) {idx : Nat} (hd : decode (pm_b m) pc = .ok (.invokestatic idx, 3)) (hn : pm_ismin (pm_own m) idx = true) {y : pmO ⊕ pmF} (h : pm_min m (pc + 3) ls st σ = some y) : pm_St p l e R s mm args below meth c cells slots Q dC dI a q lw (m, pc, ls, st, σ) y := by
  obtain ⟨x, y, st2, rfl, hcat, rfl⟩ := pm_min_inv h
  have hts := hx.2.2.2.2.1
  have hp1 := pm_okQ1
  rw [Bool.and_eq_true, Bool.and_eq_true] at hp1
  have hcat2 := pm_cats_ok (q := q) hcat
  exact pm_St.mk (pm_okv_push ok trivial pm_sub2) rfl (fun kk H locs LS hP hS hL => va_mmin hx.1 hx.2.1 (hx.2.2.1.trans (ok.1.symm.trans hL.1.symm)) hx.2.2.2.1 (hts _ (pm_min_ok hn)) (hts _ (pm_in_G hp1.1.2)) (hts _ (pm_in_G hp1.2)) (hts _ (pm_in_G hp1.1.1)) hR.1 (by omega) hcs.1 hcs.2 hd (kk H locs LS hP hS hL))
/-- the return of a method -/
theorem pm_retn {C : pmC} (hx : pm_Cx p s mm args c dC dI a q m) (hr : meth.sig.returnType = pm_ret m) (hlk : meth.locks = false) (ok : pm_ok false (m, pc, ls, st, σ)) {σ0 : pmS} (h11 : σ.1 11 = σ0.1 11) {r : Option pmV} {σ' : pmS} (h : pm_stp C (m, pc, ls, st, σ) = some (.inl (r, σ'))) : pm_K p l e R s mm args below meth c cells slots (MQ below (pm_Qc dC dI a q σ0 r σ') args s cells slots (pm_A q)) dC dI a q (m, pc, ls, st, σ) := by
  unfold pm_stp at h
  split at h
  next i n hi =>
    have hd := pm_ins_ok hi
    dsimp only at hd h
    split at h
    next hil =>
      have fin : ∀ (H : Heap) (locs : List Loc), va_P (dC, dI) pm_classes (pm_ws q a σ) H → va_S (pm_A q) s.heap H locs → (∀ v, r = some v → pm_okv false v) → σ' = σ → ∀ t : State, t.heap = H → s.WarmedH t.vm → pm_Qc dC dI a q σ0 r σ' args s (.returned (r.map (pm_val q))) t := by
        intro H locs hP hS hv e t ht hW
        subst e
        exact ⟨⟨⟨hv, h11⟩, rfl, by rw [ht]; exact hP, va_K.moved hW.alike hx.2.2.2.2.2.1⟩, hS.F ht⟩
      have bad : ∀ {z : Option (pmO ⊕ pmF)} {fr' : pmF}, z = some (.inr fr') → z = some (.inl (r, σ')) → False := fun h1 h2 => by rw [h1] at h2; cases h2
      have badn : ∀ {pc' : Nat} {ls' : pmL} {st' : List pmV} {τ : pmS}, pm_nx m pc' ls' st' τ = some (.inl (r, σ')) → False := fun h1 => by cases pm_nx_inv h1
      have badg : ∀ {off : Int} {ls' : pmL} {st' : List pmV} {τ : pmS}, pm_go m pc off ls' st' τ = some (.inl (r, σ')) → False := fun h1 => by cases (pm_go_inv h1).2
      have badb : ∀ {off : Int} {ls' : pmL} {st' : List pmV} {τ : pmS} {cd : ClassFile.Cond} {x y : Int32}, pm_b1 m pc off ls' st' τ cd x y = some (.inl (r, σ')) → False := fun h1 => by
        obtain ⟨g, hg, h2, h3, -⟩ := pm_b1_inv h1
        rcases hg with hg | hg
        · cases (h2 hg).2
        · cases h3 hg
      cases i
      case ireturn =>
        have hn : n = 1 := by simpa [pm_il] using hil
        subst hn
        replace h : pm_rt m st σ = some (.inl (r, σ')) := h
        unfold pm_rt at h
        split at h
        next x =>
          split at h
          next ht =>
            cases h
            intro H locs LS hP hS hL
            exact W.iret hx.1 hx.2.1 (hr.trans ht) (fin H locs hP hS (fun v hv => by cases hv; trivial) rfl) hS.2.2 hd hlk
          next =>
            split at h
            next ht =>
              cases h
              intro H locs LS hP hS hL
              refine W.zret hx.1 hx.2.1 (hr.trans ht.1) ?_ (fin H locs hP hS (fun v hv => by cases hv; trivial) rfl) hS.2.2 hd hlk
              rcases ht.2 with rfl | rfl <;> decide +kernel
            next => cases h
        next => cases h
      case areturn =>
        have hn : n = 1 := by simpa [pm_il] using hil
        subst hn
        replace h : pm_art m st σ = some (.inl (r, σ')) := h
        unfold pm_art at h
        split at h
        next x =>
          split at h
          next ht =>
            cases h
            intro H locs LS hP hS hL
            exact W.aret (rt := .object RX2) hx.1 hx.2.1 (hr.trans ht) (Or.inl ⟨_, rfl⟩) (Or.inr ⟨_, rfl⟩) (fin H locs hP hS (fun v hv => by cases hv; exact ok.2.1 _ List.mem_cons_self) rfl) hS.2.2 hd hlk
          next => cases h
        next => cases h
      case return_ =>
        have hn : n = 1 := by simpa [pm_il] using hil
        subst hn
        replace h : pm_vrt m st σ = some (.inl (r, σ')) := h
        unfold pm_vrt at h
        split at h
        next =>
          split at h
          next ht =>
            cases h
            intro H locs LS hP hS hL
            exact W.vret hx.1 hx.2.1 (hr.trans ht) (fin H locs hP hS (fun v hv => by cases hv) rfl) hS.2.2 hd hlk
          next => cases h
        next => cases h
      all_goals exfalso
      all_goals unfold pm_ex at h
      all_goals dsimp only at h
      all_goals first
        | exact badn h
        | exact badg h
        | cases h
        | (obtain ⟨v, h1, h2, -⟩ := pm_ld_inv h; cases h2)
        | (obtain ⟨v, st2, h1, h2, h3⟩ := pm_str_inv h; rcases h3 with ⟨-, -, -, h3⟩ | ⟨-, -, -, h3⟩ | ⟨-, -, -, h3⟩ <;> cases h3)
        | (obtain ⟨x, y, st2, h1, h2⟩ := pm_i2_inv h; cases h2)
        | (obtain ⟨x, y, st2, h1, h2⟩ := pm_l2_inv h; cases h2)
        | (obtain ⟨x, y, st2, h1, h2⟩ := pm_ls2_inv h; cases h2)
        | (obtain ⟨x, y, st2, h1, -, h2⟩ := pm_d2_inv h; cases h2)
        | (obtain ⟨v, st2, h1, h2, h3⟩ := pm_dup_inv h; rcases h3 with ⟨-, h3⟩ | ⟨-, h3⟩ | ⟨-, w, st3, -, -, h3⟩ <;> cases h3)
        | (obtain ⟨i, c0, o, k, st2, h1, h2, h3⟩ := pm_ald_inv h; rcases h3 with ⟨-, -, h3⟩ | ⟨-, -, -, -, h3⟩ | ⟨-, -, h3⟩ | ⟨-, -, h3⟩ | ⟨-, -, h3⟩ <;> cases h3)
        | (rcases pm_ast_inv h with ⟨x, i, c0, o, k, st2, h1, h2, h3, -⟩ | ⟨x, i, c0, o, k, st2, h1, h2, -, -, h3⟩ <;> cases h3)
        | (obtain ⟨c0, o, k, st2, h1, h2, h3⟩ := pm_get_inv h; rcases h3 with ⟨-, h3⟩ | ⟨-, h3⟩ | ⟨-, h3⟩ | ⟨t, -, h3⟩ <;> cases h3)
        | (rcases pm_put_inv h with ⟨x, c0, o, k, st2, h1, h2, -, h3⟩ | ⟨x, c0, o, k, st2, h1, h2, -, h3⟩ <;> cases h3)
        | (obtain ⟨cm, as, rest, r1, s1, -, -, -, -, -, -, -, -, h3⟩ := pm_call_inv h; cases h3)
        | (split at h <;> first | exact badn h | exact badb h | exact badg h | cases h | (split at h <;> first | exact badn h | exact badb h | exact badg h | cases h | (obtain ⟨cm, as, rest, r1, s1, -, -, -, -, -, -, -, -, h3⟩ := pm_call_inv h; cases h3) | (obtain ⟨x, y, st2, -, -, h3⟩ := pm_min_inv h; cases h3)) | (obtain ⟨n, dp, c1, o1, k1, sp, c0, o0, k0, st2, -, -, h3⟩ := pm_copy_inv h; cases h3))
    next => cases h
  next => cases h
end PMT
