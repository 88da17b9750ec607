/-! the law from its entry -/
/-- the end of a method that answers a boolean -/
theorem pm_rt_end {C : pmC} {m pc : Nat} {ls : pmL} {st : List pmV} {σ : pmS} {r : Option pmV} {σ' : pmS} (hr : pm_ret m = some .boolean) (h : pm_stp C (m, pc, ls, st, σ) = some (.inl (r, σ'))) : ∃ x : Int32, st = [.inl x] ∧ r = some (.inl x) ∧ decode (pm_b m) pc = .ok (.ireturn, 1) := by
  unfold pm_stp at h
  split at h
  next i n hi =>
    have hd := pm_ins_ok hi
    dsimp only at hd h
    split at h
    next hil =>
      have badn : ∀ {pc' : Nat} {ls' : pmL} {st' : List pmV} {τ : pmS}, pm_nx m pc' ls' st' τ = some (.inl (r, σ')) → False := fun h1 => by cases pm_nx_inv h1
      have badg : ∀ {off : Int} {ls' : pmL} {st' : List pmV} {τ : pmS}, pm_go m pc off ls' st' τ = some (.inl (r, σ')) → False := fun h1 => by cases (pm_go_inv h1).2
      have badb : ∀ {off : Int} {ls' : pmL} {st' : List pmV} {τ : pmS} {cd : ClassFile.Cond} {x y : Int32}, pm_b1 m pc off ls' st' τ cd x y = some (.inl (r, σ')) → False := fun h1 => by
        obtain ⟨g, hg, h2, h3, -⟩ := pm_b1_inv h1
        rcases hg with hg | hg
        · cases (h2 hg).2
        · cases h3 hg
      cases i
      case ireturn =>
        have hn : n = 1 := by simpa [pm_il] using hil
        subst hn
        replace h : pm_rt m st σ = some (.inl (r, σ')) := h
        unfold pm_rt at h
        split at h
        next x =>
          split at h
          next ht => rw [hr] at ht; cases ht
          next =>
            split at h
            next ht => cases h; exact ⟨x, rfl, rfl, hd⟩
            next => cases h
        next => cases h
      case areturn =>
        replace h : pm_art m st σ = some (.inl (r, σ')) := h
        unfold pm_art at h
        split at h
        next x =>
          split at h
          next ht => rw [hr] at ht; cases ht
          next => cases h
        next => cases h
      case return_ =>
        replace h : pm_vrt m st σ = some (.inl (r, σ')) := h
        unfold pm_vrt at h
        split at h
        next =>
          split at h
          next ht => rw [hr] at ht; cases ht
          next => cases h
        next => cases h
      all_goals exfalso
      all_goals unfold pm_ex at h
      all_goals dsimp only at h
      all_goals first
        | exact badn h
        | exact badg h
        | cases h
        | (obtain ⟨v, h1, h2, -⟩ := pm_ld_inv h; cases h2)
        | (obtain ⟨v, st2, h1, h2, h3⟩ := pm_str_inv h; rcases h3 with ⟨-, -, -, h3⟩ | ⟨-, -, -, h3⟩ | ⟨-, -, -, h3⟩ <;> cases h3)
        | (obtain ⟨x, y, st2, h1, h2⟩ := pm_i2_inv h; cases h2)
        | (obtain ⟨x, y, st2, h1, h2⟩ := pm_l2_inv h; cases h2)
        | (obtain ⟨x, y, st2, h1, h2⟩ := pm_ls2_inv h; cases h2)
        | (obtain ⟨x, y, st2, h1, -, h2⟩ := pm_d2_inv h; cases h2)
        | (obtain ⟨v, st2, h1, h2, h3⟩ := pm_dup_inv h; rcases h3 with ⟨-, h3⟩ | ⟨-, h3⟩ | ⟨-, w, st3, -, -, h3⟩ <;> cases h3)
        | (obtain ⟨i, c0, o, k, st2, h1, h2, h3⟩ := pm_ald_inv h; rcases h3 with ⟨-, -, h3⟩ | ⟨-, -, -, -, h3⟩ | ⟨-, -, h3⟩ | ⟨-, -, h3⟩ | ⟨-, -, h3⟩ <;> cases h3)
        | (rcases pm_ast_inv h with ⟨x, i, c0, o, k, st2, h1, h2, h3, -⟩ | ⟨x, i, c0, o, k, st2, h1, h2, -, -, h3⟩ <;> cases h3)
        | (obtain ⟨c0, o, k, st2, h1, h2, h3⟩ := pm_get_inv h; rcases h3 with ⟨-, h3⟩ | ⟨-, h3⟩ | ⟨-, h3⟩ | ⟨t, -, h3⟩ <;> cases h3)
        | (rcases pm_put_inv h with ⟨x, c0, o, k, st2, h1, h2, -, h3⟩ | ⟨x, c0, o, k, st2, h1, h2, -, h3⟩ <;> cases h3)
        | (obtain ⟨cm, as, rest, r1, s1, -, -, -, -, -, -, -, -, h3⟩ := pm_call_inv h; cases h3)
        | (split at h <;> first | exact badn h | exact badb h | exact badg h | cases h | (split at h <;> first | exact badn h | exact badb h | exact badg h | cases h | (obtain ⟨cm, as, rest, r1, s1, -, -, -, -, -, -, -, -, h3⟩ := pm_call_inv h; cases h3) | (obtain ⟨x, y, st2, -, -, h3⟩ := pm_min_inv h; cases h3)) | (obtain ⟨n, dp, c1, o1, k1, sp, c0, o0, k0, st2, -, -, h3⟩ := pm_copy_inv h; cases h3))
    next => cases h
  next => cases h
/-- at the start the invariant holds -/
theorem k_Inv (L : Nat) (xs : Nat → Int32) : Inv (k_s L xs) := by
  refine ⟨0, 0, 0, ?_, ?_, ?_, ?_, ?_, ?_, ?_⟩
  · exact ⟨0, by omega, rfl, rfl, fun i hi => absurd hi (Nat.not_lt_zero _), rfl, rfl⟩
  · exact ⟨by omega, rfl, rfl, fun s hs => absurd hs (Nat.not_lt_zero _), fun s _ _ => rfl⟩
  · exact ⟨by omega, rfl, rfl, fun s hs => absurd hs (Nat.not_lt_zero _), fun s _ _ => rfl⟩
  · exact ⟨by omega, rfl, rfl, fun s hs => absurd hs (Nat.not_lt_zero _), fun s hs => absurd hs (Nat.not_lt_zero _)⟩
  · exact ⟨0, by omega, rfl, rfl, fun s hs => absurd hs (Nat.not_lt_zero _), rfl⟩
  · exact ⟨fun p _ => rfl, rfl, rfl⟩
  · exact ⟨0, by omega, rfl, rfl, fun s hs => absurd hs (Nat.not_lt_zero _)⟩
/-- all addresses -/
def k_qL (b : Nat) (q9 q10 : Nat → Nat → Nat → Nat) (c o k : Nat) : Nat := match c with
  | 10 => q10 10 o k
  | 11 => b
  | c => q9 c o k
theorem k_e9 (b : Nat) (q9 q10 : Nat → Nat → Nat → Nat) (a : Nat → ClassId) (L : Nat) (xs : Nat → Int32) : k_w k_l9 a L xs q9 = k_w k_l9 a L xs (k_qL b q9 q10) := rfl
theorem k_e10 (b : Nat) (q9 q10 : Nat → Nat → Nat → Nat) (a : Nat → ClassId) (L : Nat) (xs : Nat → Int32) : k_w (k_l10 0) a L xs q10 = k_w (k_l10 0) a L xs (k_qL b q9 q10) := rfl
theorem k_all : ∀ x ∈ pm_lay, x ∈ k_l9 ++ k_l10 0 := by decide +kernel
theorem k_dL (j : Nat) {pc n : Nat} {i : Instr} (h : pmc_183[j]? = some (pc, i, n)) : decode cL_law pc = .ok (i, n) := pm_dd_183 (List.mem_of_getElem? h)
theorem k_inst : ∀ (k : Nat) (q : vw_C), pm_classes[k]? = some q → Cond.instantiable q.1 q.2.2 ∈ pm_G := by
  intro k q h
  match k, h with
  | 0, h => cases h; exact k_it0
  | 1, h => cases h; exact k_it1
  | 2, h => cases h; exact k_it2
  | 3, h => cases h; exact k_it3
  | 4, h => cases h; exact k_it4
  | 5, h => cases h; exact k_it5
  | 6, h => cases h; exact k_it6
  | 7, h => cases h; exact k_it7
  | 8, h => cases h; exact k_it8
  | 9, h => cases h; exact k_it9
  | 10, h => cases h; exact k_it10
  | k + 11, h => simp [pm_classes] at h
set_option maxHeartbeats 8000000 in
set_option maxRecDepth 100000 in
/-- THE LAW behind the constructors -/
theorem k_law {p : Program} {e : Env} {s : State} {m : MethodId} {below : List Frame} {meth : Method} {c : Code} (l : Launch) {b L : Nat} {xs : Nat → Int32} (hL : L ≤ 2560) (C0 : lw_At p s m meth c b L xs) {dC : Nat → ClassId} {dI : Nat → Nat → Nat} {a : Nat → ClassId} (hK : va_K (dC, dI) pm_classes (pm_tys a) s) {q9 q10 : Nat → Nat → Nat → Nat} {H : Heap} {locs : List Loc} {LS : Array Slot} {cells slots : Nat} (hc1 : cells ≤ 600000) (hc2 : slots ≤ 7302250)
    (hP : va_P (dC, dI) pm_classes (k_w k_l9 a L xs q9 ++ k_w (k_l10 0) a L xs q10) H) (hD : va_D (fun q : Nat => s.heap.size ≤ q) (k_w k_l9 a L xs q9 ++ k_w (k_l10 0) a L xs q10)) (hS : va_S (fun q : Nat => s.heap.size ≤ q) s.heap H locs) (hl : lv_has LS 4 [(3, .int 0), (2, .ref (q10 10 0 0)), (1, .ref (q9 9 0 0)), (0, .ref b)]) :
    W p l e room_1 s m #[Value.ref b] below meth c H locs cells slots (lw_Z below #[Value.ref b] s) (F0 m 18 LS []) := by
  obtain ⟨hx, hb, hr, hml, hown, hts, hX, hbl, hlocks, hgv⟩ := id C0
  rw [k_e9 b q9 q10, k_e10 b q9 q10, ← k_w_app] at hP hD
  generalize hq : k_qL b q9 q10 = q at hP hD
  have hP1 := k_w_P k_all hP
  have hD1 := k_w_D k_all pm_lay_nd hD
  have hinj : pm_inj q := fun x hx y hy e => k_w_inj hD1 x hx y hy e
  have hlow : ∀ n, pm_A q n → s.heap.size ≤ n := fun n h => by
    obtain ⟨x, hx, rfl⟩ := h
    exact k_w_A hD1 hx
  have hqb : q 11 0 1 = b := by rw [← hq]; rfl
  have hq9 : q 9 0 0 = q9 9 0 0 := by rw [← hq]; rfl
  have hq10 : q 10 0 0 = q10 10 0 0 := by rw [← hq]; rfl
  have hCx : pm_Cx p s m #[Value.ref b] c dC dI a q 183 := ⟨hx, hb, hml, hown, fun w hw => hts w (pm_G_tbl hw), hK, hinj⟩
  obtain ⟨τ, hτ⟩ := law_rounds hL 512 0 (k_s L xs) (k_Inv L xs) rfl (by omega) (by omega)
  obtain ⟨n, hn⟩ := pq_Rn_some.mp hτ
  have hn2 := pq_sim_itr (pq_sim_RD 60) n _ _ hn
  have hsx : pm_Sx s q true L xs (k_s L xs) := fun _ => ⟨by rw [hqb]; exact hX, by rw [hqb]; exact hbl, fun h => by
    have := hlow _ h
    rw [hqb] at this
    omega, by omega, fun i => rfl, rfl⟩
  have hin9 : ((9, 0, 0) : pmR) ∈ pm_lay := by decide +kernel
  have hin10 : ((10, 0, 0) : pmR) ∈ pm_lay := by decide +kernel
  have ok : pm_ok true (183, 18, [some (vR 11 0 1), some (vR 9 0 0), some (vR 10 0 0), some (vI (nI (5 * 0)))], [], k_s L xs) := by
    refine ⟨rfl, fun v hv => (by cases hv), fun v j hj => ?_⟩
    match j, hj with
    | 0, hj => cases hj; exact ⟨Or.inr ⟨rfl, rfl⟩, fun h => by cases h⟩
    | 1, hj => cases hj; exact ⟨Or.inl hin9, fun h => by cases h⟩
    | 2, hj => cases hj; exact ⟨Or.inl hin10, fun h => by cases h⟩
    | 3, hj => cases hj; exact ⟨trivial, fun h => by cases h⟩
    | j + 4, hj => simp at hj
  have key := pm_run (l := l) (e := e) (below := below) (meth := meth) (R := room_1) (cells := cells) (slots := slots) (Q := lw_Z below #[Value.ref b] s) (lw := true) (L := L) (xs := xs) hCx ⟨Nat.le_of_ble_eq_true rfl, Nat.le_of_ble_eq_true rfl⟩ ⟨hc1, hc2⟩ (pm_sound l dC dI a q hinj 60) (σ0 := k_s L xs) hsx (r := some (vI 1)) (σ' := τ) (fun pc ls st σ h1 h2 h3 => by
    obtain ⟨x, rfl, hrx, hd⟩ := pm_rt_end rfl h1
    have hx1 : x = 1 := by
      have := Option.some.inj hrx
      exact (Sum.inl.inj this).symm
    subst hx1
    intro H2 locs2 LS2 hP2 hS2 hL2
    refine va_forget (fun z hz => hlow _ (hS2.2.2 z hz)) ?_
    refine W.widen hc1 hc2 ?_
    exact lw_ret hx hb hr hlocks hd) n 18 _ _ _ hn2 ok rfl
  refine va_forget (fun z hz => hS.2.2 z hz) ?_
  refine key H [] LS hP1 ⟨hS.1, fun z h1 h2 => hS.2.1 z h1 (by omega), fun z hz => by cases hz⟩ (pm_LV.of hl rfl (fun j v hj => ?_))
  match j, hj with
  | 0, hj => cases hj; show (0, Value.ref (q 11 0 1)) ∈ _; rw [hqb]; simp
  | 1, hj => cases hj; show (1, Value.ref (q 9 0 0)) ∈ _; rw [hq9]; simp
  | 2, hj => cases hj; show (2, Value.ref (q 10 0 0)) ∈ _; rw [hq10]; simp
  | 3, hj => cases hj; show (3, Value.int (nI (5 * 0))) ∈ _; rw [show nI (5 * 0) = 0 from nI_0]; simp
  | j + 4, hj => simp at hj
set_option maxHeartbeats 8000000 in
set_option maxRecDepth 100000 in
/-- THE LAW, from its entry -/
theorem whole_start {p : Program} {e : Env} {s : State} {m : MethodId} {below : List Frame} {meth : Method} {c : Code} (l : Launch) {b L : Nat} {xs : Nat → Int32} (hL : L ≤ 2560) (C0 : lw_At p s m meth c b L xs) : W p l e room_1 s m #[Value.ref b] below meth c s.heap [] 0 0 (lw_Z below #[Value.ref b] s) (entryFrame m ([Value.ref b] : List Value).toArray 4) := by
  obtain ⟨hx, hb, hr, hml, hown, hts, hX, hbl, hlocks, hgv⟩ := id C0
  have hk : ∀ k : Nat, ∃ x : ClassId × (Nat → Nat), ∀ q : vw_C, pm_classes[k]? = some q → u_Kn s q.1 q.2.1 q.2.2 x.1 x.2 := by
    intro k
    cases hq : pm_classes[k]? with
    | none => exact ⟨(m.cls, fun _ => 0), fun q h => by cases h⟩
    | some q =>
      obtain ⟨cC, iS, h⟩ := u_known (C := q.1) (T := q.2.1) (N := q.2.2) (n := q.2.2) hts (fun w hw => pm_G_tbl ((pm_cls_w hq).1 w hw)) (hts _ (pm_G_tbl (k_inst k q hq)))
      exact ⟨(cC, iS), fun q' e => by cases e; exact h⟩
  obtain ⟨dC, hdC⟩ : ∃ dC : Nat → ClassId, ∀ k, dC k = (Classical.choose (hk k)).1 := ⟨fun k => (Classical.choose (hk k)).1, fun _ => rfl⟩
  obtain ⟨dI, hdI⟩ : ∃ dI : Nat → Nat → Nat, ∀ k, dI k = (Classical.choose (hk k)).2 := ⟨fun k => (Classical.choose (hk k)).2, fun _ => rfl⟩
  have hK0 : va_K (dC, dI) pm_classes [] s := ⟨fun k q hq => by
    show u_Kn s q.1 q.2.1 q.2.2 (dC k) (dI k)
    rw [hdC, hdI]
    exact Classical.choose_spec (hk k) q hq, fun k q h => by simp at h⟩
  have hNw := k_Nw.start hts
  obtain ⟨-, -, -, -, -, -, -, -, ao2, ao0⟩ := id hNw
  obtain ⟨a, hK⟩ := k_tys hK0 (hts _ (pm_G_tbl k_ac0)) (hts _ (pm_G_tbl k_ac1)) (hts _ (pm_G_tbl k_ac2)) ao0 ao2
  have hX9 : k_X p s m #[Value.ref b] c (dC, dI) a (fun q : Nat => s.heap.size ≤ q) cL_law 12 := ⟨hx, hb, hown, fun w hw => hts w (pm_G_tbl hw), hK, fun _ h => h⟩
  have hP : va_P (dC, dI) pm_classes [] s.heap := fun k q h => by simp at h
  have hD : va_D (fun q : Nat => s.heap.size ≤ q) [] := ⟨fun i j p q h => by simp at h, fun k q h => by simp at h⟩
  have hS : va_S (fun q : Nat => s.heap.size ≤ q) s.heap s.heap [] := va_S.rf
  have hl := lv_entry ([.ref b]) (n := 4) (Nat.le_of_ble_eq_true rfl)
  rw [lg_entry_eq]
  generalize (lg_sl ([.ref b]) ++ List.replicate (4 - (lg_sl ([.ref b])).length) Slot.unset).toArray = ls at hl ⊢
  have hl : lv_has ls 4 [(0, .ref b)] := hl
  have fix : CallFix p m c cL_law 4 s #[Value.ref b] pm_G (pm_cn 12) := ⟨hx, hb, hml, hown, hX9.2.2.2.1⟩
  refine k_make hX9 k_cl9 hP hD hS k_ck12_7 k_it9 k_in9 (Nat.le_of_ble_eq_true rfl) (Nat.le_of_ble_eq_true rfl) (k_dL 0 rfl) (k_dL 1 rfl) (E := k_Nw) (fun v U g mk h => h.blind) (fun U hW => hNw.warm hW) (lab := k_l9) (o := 0) (L := L) (xs := xs) (mc := 82) (ms := 4519) (fun q H1 hp => va_runI (As := []) (rest := [.ref q]) fix (k_c9 l (dC, dI) a q H1.size L xs) (cwI 0 hX9.2.2.2.1 (k_gi k_cd9) rfl rfl rfl (hX9.2.2.2.1 _ k_in9) (hX9.2.2.2.1 _ k_mk12_9) (hX9.2.2.2.1 _ k_im9) rfl ⟨by decide +kernel, by decide +kernel, by decide +kernel⟩ ⟨Nat.le_of_ble_eq_true rfl, Nat.le_of_ble_eq_true rfl⟩) hp rfl rfl hl.1 rfl (lv_room (Nat.le_of_ble_eq_true rfl)) (k_dL 2 rfl) ⟨Nat.le_of_ble_eq_true rfl, Nat.le_of_ble_eq_true rfl⟩) (fun q9 H locs hP hD hS => ?_)
  have hP : va_P (dC, dI) pm_classes (k_w k_l9 a L xs q9) H := hP
  have hD : va_D (fun q : Nat => s.heap.size ≤ q) (k_w k_l9 a L xs q9) := hD
  refine lv_astore_n (lv' := [(1, .ref (q9 9 0 0)), (0, .ref b)]) hx hb (k_dL 3 rfl) rfl hl (by decide) rfl (fun ls hl => ?_)
  refine k_make hX9 k_cl10 hP hD hS k_ck12_10 k_it10 k_in10 (Nat.le_of_ble_eq_true rfl) (Nat.le_of_ble_eq_true rfl) (k_dL 4 rfl) (k_dL 5 rfl) (E := fun _ => True) (fun _ _ _ _ h => h) (fun _ _ => trivial) (lab := k_l10 0) (o := 0) (L := L) (xs := xs) (mc := 35) (ms := 4856) (fun q H1 hp => va_runI (As := []) (rest := [.ref q]) fix (k_c10 l (dC, dI) a q H1.size 0 L xs) (cwI 0 hX9.2.2.2.1 (k_gi k_cd10) rfl rfl rfl (hX9.2.2.2.1 _ k_in10) (hX9.2.2.2.1 _ k_mk12_12) (hX9.2.2.2.1 _ k_im10) rfl ⟨by decide +kernel, by decide +kernel, by decide +kernel⟩ ⟨Nat.le_of_ble_eq_true rfl, Nat.le_of_ble_eq_true rfl⟩) hp rfl rfl hl.1 rfl (lv_room (Nat.le_of_ble_eq_true rfl)) (k_dL 6 rfl) ⟨Nat.le_of_ble_eq_true rfl, Nat.le_of_ble_eq_true rfl⟩) (fun q10 H locs hP hD hS => ?_)
  refine lv_astore_n (lv' := [(2, .ref (q10 10 0 0)), (1, .ref (q9 9 0 0)), (0, .ref b)]) hx hb (k_dL 7 rfl) rfl hl (by decide) rfl (fun ls hl => ?_)
  refine lv_iconst (v := 0) hx hb (k_dL 8 rfl) (by decide) ?_
  refine lv_istore_n (lv' := [(3, .int 0), (2, .ref (q10 10 0 0)), (1, .ref (q9 9 0 0)), (0, .ref b)]) hx hb (k_dL 9 rfl) rfl hl (by decide) rfl (fun ls hl => ?_)
  exact k_law l hL C0 hK (Nat.le_of_ble_eq_true rfl) (Nat.le_of_ble_eq_true rfl) hP hD hS hl
