/-! the small constructors, by program -/
def k_u (l : List Nat) (k : Nat) : Nat := l.getD k 0
def k_AF (a : Nat → ClassId) (h0 sz : Nat) (f : Nat → Int32) : Nat → Prop := va_A [(h0, .inl (a 0, 48, .inl f))] sz
def k_PF (D : va_G) (a : Nat → ClassId) (h0 sz : Nat) (x : Int32) (f : Nat → Int32) : Array Value → State → Prop := va_Pc [.ref h0, .int x] (fun U => U.heap.size = sz ∧ va_P D pm_classes [(h0, .inl (a 0, 48, .inl f))] U.heap ∧ va_K D pm_classes (pm_tys a) U)
def k_QF (D : va_G) (a : Nat → ClassId) (h0 sz : Nat) (x : Int32) (f : Nat → Int32) : Array Value → State → Outcome → State → Prop := va_Qv (fun _ : Unit => True) (fun _ t => va_P D pm_classes [(h0, .inl (a 0, 48, .inl (fun _ => x)))] t.heap) (k_AF a h0 sz f)
/-- one cell of a world changed by a call -/
theorem k_join1 {D : va_G} {cl : List vw_C} {A : Nat → Prop} {H H1 : Heap} {ws : va_W} {j qa : Nat} {e0 e1 : va_E} (hP : va_P D cl ws H) (hD : va_D A ws) (hj : ws[j]? = some (qa, e0)) (hk : ∀ z : Nat, z < H.size → ¬ va_A [(qa, e0)] H.size z → H1[z]? = H[z]?) (hP1 : va_P D cl [(qa, e1)] H1) : va_P D cl (ws.set j (qa, e1)) H1 ∧ va_D A (ws.set j (qa, e1)) := by
  refine ⟨fun k x hx => ?_, hD.set hj⟩
  by_cases e : k = j
  · subst e
    rw [List.getElem?_set_self (List.getElem?_eq_some_iff.mp hj).1] at hx
    cases hx
    exact hP1 0 _ rfl
  · rw [List.getElem?_set_ne (Ne.symm e)] at hx
    have hlt := (hP k x hx).lt
    refine (hP k x hx).kept (hk x.1 hlt (fun h => ?_))
    rcases h with ⟨i, e', h⟩ | h
    · have h1 : i < 1 := (List.getElem?_eq_some_iff.mp h).1
      rw [show i = 0 by omega] at h
      cases h
      exact e (hD.1 k j x _ hx hj rfl)
    · omega
section KFILL
variable {p : Program} {l : Launch} {e : Env} {R : Room} {s : State} {m : MethodId} {args : Array Value} {below : List Frame} {meth : Method} {c : Code} {cells slots : Nat} {Q : State → Prop} {D : va_G} {A : Nat → Prop} {a : Nat → ClassId} {h0 : Nat} {x : Int32}
theorem k_dF (j : Nat) {pc n : Nat} {i : Instr} (h : pmc_182[j]? = some (pc, i, n)) : decode cJ7_fill_53178 pc = .ok (i, n) := pm_dd_182 (List.mem_of_getElem? h)
set_option maxHeartbeats 4000000 in
theorem k_floop (hx : p.tables.exec = Jvm.exec) (hb : c.code = cJ7_fill_53178) (hK : va_K D pm_classes (pm_tys a) s)
    (kk : ∀ (H : Heap) (locs : List Loc) (ls : Array Slot), va_P D pm_classes [(h0, .inl (a 0, 48, .inl (fun _ => x)))] H → va_S A s.heap H locs → W p l e R s m args below meth c H locs cells slots Q (F0 m 20 ls [])) :
    ∀ (n k : Nat) (g : Nat → Int32) (H : Heap) (locs : List Loc) (ls : Array Slot), n + k = 48 → (∀ i, i < k → g i = x) → va_P D pm_classes [(h0, .inl (a 0, 48, .inl g))] H → va_D A [(h0, .inl (a 0, 48, .inl g))] → va_S A s.heap H locs → lv_has ls 4 [(2, .int (nI k)), (3, .int (nI 48)), (0, .ref h0), (1, .int x)] → W p l e R s m args below meth c H locs cells slots Q (F0 m 5 ls []) := by
  intro n
  induction n with
  | zero =>
    intro k g H locs ls hn hg hP hD hS hl
    have hk : k = 48 := by omega
    subst hk
    refine lv_iload_n hx hb (k_dF 5 rfl) rfl (lv_at hl 0 rfl) ?_
    refine lv_iload_n hx hb (k_dF 6 rfl) rfl (lv_at hl 1 rfl) ?_
    refine lv_icmp_ge (tgt := 20) hx hb (k_dF 7 rfl) (by decide) (fun _ => ?_) (fun h => absurd (nI_le (Nat.le_refl 48) (by decide)) h)
    exact kk H locs ls (k_ints hP (k := 0) rfl (fun _ => x) hg) hS
  | succ n ih =>
    intro k g H locs ls hn hg hP hD hS hl
    have hk : k < 48 := by omega
    refine lv_iload_n hx hb (k_dF 5 rfl) rfl (lv_at hl 0 rfl) ?_
    refine lv_iload_n hx hb (k_dF 6 rfl) rfl (lv_at hl 1 rfl) ?_
    refine lv_icmp_ge (tgt := 20) hx hb (k_dF 7 rfl) (by decide) (fun h => absurd h (nI_ge hk (by decide))) (fun _ => ?_)
    refine lv_aload_n hx hb (k_dF 8 rfl) rfl (lv_at hl 2 rfl) ?_
    refine lv_iload_n hx hb (k_dF 9 rfl) rfl (lv_at hl 0 rfl) ?_
    refine lv_iload_n hx hb (k_dF 10 rfl) rfl (lv_at hl 3 rfl) ?_
    refine va_iast hx hb hK hP hD hS 0 0 rfl rfl (vp_in_nI hk (by decide)) (k_dF 11 rfl) (fun H1 locs1 hP1 hD1 hS1 => ?_)
    rw [nI_clamp (show k < 2 ^ 31 by omega)] at hP1 hD1
    refine lv_iinc (v := nI (k + 1)) (lv' := [(2, .int (nI (k + 1))), (3, .int (nI 48)), (0, .ref h0), (1, .int x)]) hx hb (k_dF 12 rfl) hl (k := 0) rfl (nI_1 k) (by decide) rfl (fun ls1 hl1 => ?_)
    refine lv_goto (tgt := 5) hx hb (k_dF 13 rfl) (by decide) ?_
    refine ih (k + 1) (upd g k x) H1 locs1 ls1 (by omega) (fun i hi => ?_) hP1 hD1 hS1 hl1
    unfold upd
    by_cases e : i = k
    · rw [if_pos e]
    · rw [if_neg e]
      exact hg i (by omega)
end KFILL
set_option maxHeartbeats 4000000 in
/-- Arrays.fill of 48 ints -/
theorem k_fill (l : Launch) (D : va_G) (a : Nat → ClassId) (h0 sz : Nat) (x : Int32) (f : Nat → Int32) : Met l (pm_y 182) (pm_w 182) { frames := 0, cells := 0, slots := 0, locals := 0 } (k_PF D a h0 sz x f) (k_QF D a h0 sz x f) 0 0 (k_AF a h0 sz f) := by
  refine Met.ofW (cc := cJ7_fill_53178) (maxL := 4) (ret := none) (by decide +kernel) rfl ?_
  intro p e s m args below meth c s₁ B hml hv
  obtain ⟨rfl, hsz, hP, hK⟩ := hv
  have hx := B.exec
  have hb := B.bytes
  have hr := B.returns
  have hlk := B.notSynchronized
  subst hsz
  have hD : va_D (k_AF a h0 s.heap.size f) [(h0, .inl (a 0, 48, .inl f))] := ⟨fun i j y z hi hj _ => by
    have h1 : i < 1 := (List.getElem?_eq_some_iff.mp hi).1
    have h2 : j < 1 := (List.getElem?_eq_some_iff.mp hj).1
    omega, fun k z hk => va_A.in hk⟩
  have hl := lv_entry ([.ref h0, .int x]) (n := 4) (Nat.le_of_ble_eq_true rfl)
  rw [lg_entry_eq]
  generalize (lg_sl ([.ref h0, .int x]) ++ List.replicate (4 - (lg_sl ([.ref h0, .int x])).length) Slot.unset).toArray = ls at hl ⊢
  have hl : lv_has ls 4 [(0, .ref h0), (1, .int x)] := hl
  refine lv_iconst (v := nI 0) hx hb (k_dF 0 rfl) (by decide +kernel) ?_
  refine lv_istore_n (lv' := [(2, .int (nI 0)), (0, .ref h0), (1, .int x)]) hx hb (k_dF 1 rfl) rfl hl (by decide) rfl (fun ls hl => ?_)
  refine lv_aload_n hx hb (k_dF 2 rfl) rfl (lv_at hl 1 rfl) ?_
  refine va_alen (v := nI 48) hx hb hK hP 0 0 rfl (ty := .int) rfl rfl (k_dF 3 rfl) ?_
  refine lv_istore_n (lv' := [(3, .int (nI 48)), (2, .int (nI 0)), (0, .ref h0), (1, .int x)]) hx hb (k_dF 4 rfl) rfl hl (by decide) rfl (fun ls hl => ?_)
  refine k_floop hx hb hK (fun H locs ls hP hS => ?_) 48 0 f s.heap [] ls rfl (fun i hi => absurd hi (Nat.not_lt_zero _)) hP hD va_S.rf (lv_sub hl [1, 0, 2, 3] rfl)
  exact W.vret hx hb hr (fun t ht hW => ⟨⟨(), rfl, trivial, by show va_P _ _ _ t.heap; rw [ht]; exact hP⟩, hS.F ht⟩) hS.2.2 (k_dF 14 rfl) hlk
def k_l0 (o : Nat) : List pmR := [(0, o, 0), (0, o, 1), (0, o, 2), (0, o, 3)]
set_option maxHeartbeats 4000000 in
set_option maxRecDepth 100000 in
theorem k_c0 (l : Launch) (D : va_G) (a : Nat → ClassId) (h0 sz o L : Nat) (xs : Nat → Int32) : Met l yX0_init (Cond.code yX0_init cX0_init 1 none :: pm_G) { frames := 1, cells := 3, slots := 15, locals := 12 } (k_P0 D a 0 4 tyX0 (fun _ => True) h0 sz) (k_Q0 D a 0 4 tyX0 (k_l0 o) o L xs h0 sz) 3 15 (k_A0 0 4 tyX0 h0 sz) := by
  refine k_init k_cl0 (by decide +kernel) rfl rfl (by decide) (by decide) (by decide) k_ml0 (kd_0_0 0 rfl) (kd_0_0 1 rfl) ?_
  intro p e s m below meth c A ls hA hx hin hml hr hlk hE hsz hP hD hS hl
  refine k_fi hx k_cl0 hin hP hD hS (lv_at hl 0 rfl) 0 (by decide) (idx := 9) rfl rfl rfl (fun _ => rfl) (fun _ => rfl) (n := 5) 5 6 (fun k => lv_iconst hx.1 hx.2.1 (kd_0_0 3 rfl) (by decide +kernel) k) (kd_0_0 2 rfl) (kd_0_0 4 rfl) (kd_0_0 5 rfl) (by decide) (by decide +kernel) (by decide) (Nat.le_of_ble_eq_true rfl) (Nat.le_of_ble_eq_true rfl) (fun q1 H locs hP hD hS => ?_)
  refine k_fi hx k_cl0 hin hP hD hS (lv_at hl 0 rfl) 1 (by decide) (idx := 15) rfl rfl rfl (fun _ => rfl) (fun _ => rfl) (n := 5) 5 13 (fun k => lv_iconst hx.1 hx.2.1 (kd_0_0 7 rfl) (by decide +kernel) k) (kd_0_0 6 rfl) (kd_0_0 8 rfl) (kd_0_0 9 rfl) (by decide) (by decide +kernel) (by decide) (Nat.le_of_ble_eq_true rfl) (Nat.le_of_ble_eq_true rfl) (fun q2 H locs hP hD hS => ?_)
  refine k_fi hx k_cl0 hin hP hD hS (lv_at hl 0 rfl) 2 (by decide) (idx := 18) rfl rfl rfl (fun _ => rfl) (fun _ => rfl) (n := 5) 5 20 (fun k => lv_iconst hx.1 hx.2.1 (kd_0_0 11 rfl) (by decide +kernel) k) (kd_0_0 10 rfl) (kd_0_0 12 rfl) (kd_0_0 13 rfl) (by decide) (by decide +kernel) (by decide) (Nat.le_of_ble_eq_true rfl) (Nat.le_of_ble_eq_true rfl) (fun q3 H locs hP hD hS => ?_)
  refine k_pc hx k_cl0 hP hD hS (lv_at hl 0 rfl) 3 (by decide) (idx := 21) rfl rfl (x := .int (0)) rfl rfl 27 (fun k => lv_iconst hx.1 hx.2.1 (kd_0_0 15 rfl) (by decide +kernel) k) (kd_0_0 14 rfl) (kd_0_0 16 rfl) (fun H locs hP hD hS => ?_)
  exact k_end hx hr hlk hA hsz (fun _ _ k => k_u [h0, q1, q2, q3] k) rfl hP hD hS rfl (k_lt (k_lt (k_lt (k_lt (k_lt0) rfl) rfl) rfl) rfl) rfl (Nat.le_of_ble_eq_true rfl) (Nat.le_of_ble_eq_true rfl) (kd_0_0 17 rfl)
def k_l1 (o : Nat) : List pmR := [(1, o, 0), (1, o, 1), (1, o, 2), (1, o, 3), (1, o, 4)]
set_option maxHeartbeats 4000000 in
set_option maxRecDepth 100000 in
theorem k_c1 (l : Launch) (D : va_G) (a : Nat → ClassId) (h0 sz o L : Nat) (xs : Nat → Int32) : Met l yX1_init (Cond.code yX1_init cX1_init 1 none :: pm_G) { frames := 1, cells := 4, slots := 192, locals := 12 } (k_P0 D a 1 4 tyX1 (fun _ => True) h0 sz) (k_Q0 D a 1 4 tyX1 (k_l1 o) o L xs h0 sz) 4 192 (k_A0 1 4 tyX1 h0 sz) := by
  refine k_init k_cl1 (by decide +kernel) rfl rfl (by decide) (by decide) (by decide) k_ml1 (kd_1_0 0 rfl) (kd_1_0 1 rfl) ?_
  intro p e s m below meth c A ls hA hx hin hml hr hlk hE hsz hP hD hS hl
  refine k_fi hx k_cl1 hin hP hD hS (lv_at hl 0 rfl) 0 (by decide) (idx := 9) rfl rfl rfl (fun _ => rfl) (fun _ => rfl) (n := 48) 48 7 (fun k => lv_bipush hx.1 hx.2.1 (kd_1_0 3 rfl) (by decide +kernel) k) (kd_1_0 2 rfl) (kd_1_0 4 rfl) (kd_1_0 5 rfl) (by decide) (by decide +kernel) (by decide) (Nat.le_of_ble_eq_true rfl) (Nat.le_of_ble_eq_true rfl) (fun q1 H locs hP hD hS => ?_)
  refine k_fi hx k_cl1 hin hP hD hS (lv_at hl 0 rfl) 1 (by decide) (idx := 15) rfl rfl rfl (fun _ => rfl) (fun _ => rfl) (n := 48) 48 15 (fun k => lv_bipush hx.1 hx.2.1 (kd_1_0 7 rfl) (by decide +kernel) k) (kd_1_0 6 rfl) (kd_1_0 8 rfl) (kd_1_0 9 rfl) (by decide) (by decide +kernel) (by decide) (Nat.le_of_ble_eq_true rfl) (Nat.le_of_ble_eq_true rfl) (fun q2 H locs hP hD hS => ?_)
  refine k_fi hx k_cl1 hin hP hD hS (lv_at hl 0 rfl) 2 (by decide) (idx := 18) rfl rfl rfl (fun _ => rfl) (fun _ => rfl) (n := 48) 48 23 (fun k => lv_bipush hx.1 hx.2.1 (kd_1_0 11 rfl) (by decide +kernel) k) (kd_1_0 10 rfl) (kd_1_0 12 rfl) (kd_1_0 13 rfl) (by decide) (by decide +kernel) (by decide) (Nat.le_of_ble_eq_true rfl) (Nat.le_of_ble_eq_true rfl) (fun q3 H locs hP hD hS => ?_)
  refine k_fz hx k_cl1 hin hP hD hS (lv_at hl 0 rfl) 3 (by decide) (idx := 21) rfl rfl rfl (fun _ => rfl) (fun _ => rfl) (n := 48) 48 31 (fun k => lv_bipush hx.1 hx.2.1 (kd_1_0 15 rfl) (by decide +kernel) k) (kd_1_0 14 rfl) (kd_1_0 16 rfl) (kd_1_0 17 rfl) (by decide) (by decide +kernel) (by decide) (Nat.le_of_ble_eq_true rfl) (Nat.le_of_ble_eq_true rfl) (fun q4 H locs hP hD hS => ?_)
  exact k_end hx hr hlk hA hsz (fun _ _ k => k_u [h0, q1, q2, q3, q4] k) rfl hP hD hS rfl (k_lt (k_lt (k_lt (k_lt (k_lt0) rfl) rfl) rfl) rfl) rfl (Nat.le_of_ble_eq_true rfl) (Nat.le_of_ble_eq_true rfl) (kd_1_0 18 rfl)
def k_l2 (o : Nat) : List pmR := [(2, o, 0), (2, o, 1), (2, o, 2), (2, o, 3), (2, o, 4), (2, o, 5), (2, o, 6), (2, o, 7), (2, o, 8)]
set_option maxHeartbeats 4000000 in
set_option maxRecDepth 100000 in
theorem k_c2 (l : Launch) (D : va_G) (a : Nat → ClassId) (h0 sz o L : Nat) (xs : Nat → Int32) : Met l yX2_init (Cond.code yX2_init cX2_init 1 none :: pm_G) { frames := 1, cells := 8, slots := 80, locals := 12 } (k_P0 D a 2 9 tyX2 (fun _ => True) h0 sz) (k_Q0 D a 2 9 tyX2 (k_l2 o) o L xs h0 sz) 8 80 (k_A0 2 9 tyX2 h0 sz) := by
  refine k_init k_cl2 (by decide +kernel) rfl rfl (by decide) (by decide) (by decide) k_ml2 (kd_2_0 0 rfl) (kd_2_0 1 rfl) ?_
  intro p e s m below meth c A ls hA hx hin hml hr hlk hE hsz hP hD hS hl
  refine k_fi hx k_cl2 hin hP hD hS (lv_at hl 0 rfl) 0 (by decide) (idx := 9) rfl rfl rfl (fun _ => rfl) (fun _ => rfl) (n := 8) 8 7 (fun k => lv_bipush hx.1 hx.2.1 (kd_2_0 3 rfl) (by decide +kernel) k) (kd_2_0 2 rfl) (kd_2_0 4 rfl) (kd_2_0 5 rfl) (by decide) (by decide +kernel) (by decide) (Nat.le_of_ble_eq_true rfl) (Nat.le_of_ble_eq_true rfl) (fun q1 H locs hP hD hS => ?_)
  refine k_fi hx k_cl2 hin hP hD hS (lv_at hl 0 rfl) 1 (by decide) (idx := 15) rfl rfl rfl (fun _ => rfl) (fun _ => rfl) (n := 8) 8 15 (fun k => lv_bipush hx.1 hx.2.1 (kd_2_0 7 rfl) (by decide +kernel) k) (kd_2_0 6 rfl) (kd_2_0 8 rfl) (kd_2_0 9 rfl) (by decide) (by decide +kernel) (by decide) (Nat.le_of_ble_eq_true rfl) (Nat.le_of_ble_eq_true rfl) (fun q2 H locs hP hD hS => ?_)
  refine k_fi hx k_cl2 hin hP hD hS (lv_at hl 0 rfl) 2 (by decide) (idx := 18) rfl rfl rfl (fun _ => rfl) (fun _ => rfl) (n := 8) 8 23 (fun k => lv_bipush hx.1 hx.2.1 (kd_2_0 11 rfl) (by decide +kernel) k) (kd_2_0 10 rfl) (kd_2_0 12 rfl) (kd_2_0 13 rfl) (by decide) (by decide +kernel) (by decide) (Nat.le_of_ble_eq_true rfl) (Nat.le_of_ble_eq_true rfl) (fun q3 H locs hP hD hS => ?_)
  refine k_fi hx k_cl2 hin hP hD hS (lv_at hl 0 rfl) 3 (by decide) (idx := 21) rfl rfl rfl (fun _ => rfl) (fun _ => rfl) (n := 8) 8 31 (fun k => lv_bipush hx.1 hx.2.1 (kd_2_0 15 rfl) (by decide +kernel) k) (kd_2_0 14 rfl) (kd_2_0 16 rfl) (kd_2_0 17 rfl) (by decide) (by decide +kernel) (by decide) (Nat.le_of_ble_eq_true rfl) (Nat.le_of_ble_eq_true rfl) (fun q4 H locs hP hD hS => ?_)
  refine k_fi hx k_cl2 hin hP hD hS (lv_at hl 0 rfl) 4 (by decide) (idx := 24) rfl rfl rfl (fun _ => rfl) (fun _ => rfl) (n := 8) 8 39 (fun k => lv_bipush hx.1 hx.2.1 (kd_2_0 19 rfl) (by decide +kernel) k) (kd_2_0 18 rfl) (kd_2_0 20 rfl) (kd_2_0 21 rfl) (by decide) (by decide +kernel) (by decide) (Nat.le_of_ble_eq_true rfl) (Nat.le_of_ble_eq_true rfl) (fun q5 H locs hP hD hS => ?_)
  refine k_fi hx k_cl2 hin hP hD hS (lv_at hl 0 rfl) 5 (by decide) (idx := 27) rfl rfl rfl (fun _ => rfl) (fun _ => rfl) (n := 8) 8 47 (fun k => lv_bipush hx.1 hx.2.1 (kd_2_0 23 rfl) (by decide +kernel) k) (kd_2_0 22 rfl) (kd_2_0 24 rfl) (kd_2_0 25 rfl) (by decide) (by decide +kernel) (by decide) (Nat.le_of_ble_eq_true rfl) (Nat.le_of_ble_eq_true rfl) (fun q6 H locs hP hD hS => ?_)
  refine k_fi hx k_cl2 hin hP hD hS (lv_at hl 0 rfl) 6 (by decide) (idx := 30) rfl rfl rfl (fun _ => rfl) (fun _ => rfl) (n := 16) 16 55 (fun k => lv_bipush hx.1 hx.2.1 (kd_2_0 27 rfl) (by decide +kernel) k) (kd_2_0 26 rfl) (kd_2_0 28 rfl) (kd_2_0 29 rfl) (by decide) (by decide +kernel) (by decide) (Nat.le_of_ble_eq_true rfl) (Nat.le_of_ble_eq_true rfl) (fun q7 H locs hP hD hS => ?_)
  refine k_fi hx k_cl2 hin hP hD hS (lv_at hl 0 rfl) 7 (by decide) (idx := 33) rfl rfl rfl (fun _ => rfl) (fun _ => rfl) (n := 16) 16 63 (fun k => lv_bipush hx.1 hx.2.1 (kd_2_0 31 rfl) (by decide +kernel) k) (kd_2_0 30 rfl) (kd_2_0 32 rfl) (kd_2_0 33 rfl) (by decide) (by decide +kernel) (by decide) (Nat.le_of_ble_eq_true rfl) (Nat.le_of_ble_eq_true rfl) (fun q8 H locs hP hD hS => ?_)
  refine k_pc hx k_cl2 hP hD hS (lv_at hl 0 rfl) 8 (by decide) (idx := 36) rfl rfl (x := .int (0)) rfl rfl 70 (fun k => lv_iconst hx.1 hx.2.1 (kd_2_0 35 rfl) (by decide +kernel) k) (kd_2_0 34 rfl) (kd_2_0 36 rfl) (fun H locs hP hD hS => ?_)
  exact k_end hx hr hlk hA hsz (fun _ _ k => k_u [h0, q1, q2, q3, q4, q5, q6, q7, q8] k) rfl hP hD hS rfl (k_lt (k_lt (k_lt (k_lt (k_lt (k_lt (k_lt (k_lt (k_lt (k_lt0) rfl) rfl) rfl) rfl) rfl) rfl) rfl) rfl) rfl) rfl (Nat.le_of_ble_eq_true rfl) (Nat.le_of_ble_eq_true rfl) (kd_2_0 37 rfl)
def k_l4 (o : Nat) : List pmR := [(4, o, 0), (4, o, 1), (4, o, 2)]
set_option maxHeartbeats 4000000 in
set_option maxRecDepth 100000 in
theorem k_c4 (l : Launch) (D : va_G) (a : Nat → ClassId) (h0 sz o L : Nat) (xs : Nat → Int32) : Met l yX4_init (Cond.code yX4_init cX4_init 1 none :: pm_G) { frames := 1, cells := 2, slots := 16, locals := 12 } (k_P0 D a 4 5 tyX4 (fun _ => True) h0 sz) (k_Q0 D a 4 5 tyX4 (k_l4 o) o L xs h0 sz) 2 16 (k_A0 4 5 tyX4 h0 sz) := by
  refine k_init k_cl4 (by decide +kernel) rfl rfl (by decide) (by decide) (by decide) k_ml4 (kd_4_0 0 rfl) (kd_4_0 1 rfl) ?_
  intro p e s m below meth c A ls hA hx hin hml hr hlk hE hsz hP hD hS hl
  refine k_fi hx k_cl4 hin hP hD hS (lv_at hl 0 rfl) 0 (by decide) (idx := 9) rfl rfl rfl (fun _ => rfl) (fun _ => rfl) (n := 8) 8 7 (fun k => lv_bipush hx.1 hx.2.1 (kd_4_0 3 rfl) (by decide +kernel) k) (kd_4_0 2 rfl) (kd_4_0 4 rfl) (kd_4_0 5 rfl) (by decide) (by decide +kernel) (by decide) (Nat.le_of_ble_eq_true rfl) (Nat.le_of_ble_eq_true rfl) (fun q1 H locs hP hD hS => ?_)
  refine k_fi hx k_cl4 hin hP hD hS (lv_at hl 0 rfl) 1 (by decide) (idx := 15) rfl rfl rfl (fun _ => rfl) (fun _ => rfl) (n := 8) 8 15 (fun k => lv_bipush hx.1 hx.2.1 (kd_4_0 7 rfl) (by decide +kernel) k) (kd_4_0 6 rfl) (kd_4_0 8 rfl) (kd_4_0 9 rfl) (by decide) (by decide +kernel) (by decide) (Nat.le_of_ble_eq_true rfl) (Nat.le_of_ble_eq_true rfl) (fun q2 H locs hP hD hS => ?_)
  refine k_pc hx k_cl4 hP hD hS (lv_at hl 0 rfl) 2 (by decide) (idx := 18) rfl rfl (x := .int (0)) rfl rfl 22 (fun k => lv_iconst hx.1 hx.2.1 (kd_4_0 11 rfl) (by decide +kernel) k) (kd_4_0 10 rfl) (kd_4_0 12 rfl) (fun H locs hP hD hS => ?_)
  refine k_pc hx k_cl4 hP hD hS (lv_at hl 0 rfl) 3 (by decide) (idx := 22) rfl rfl (x := .int (-1)) rfl rfl 27 (fun k => lv_iconst hx.1 hx.2.1 (kd_4_0 14 rfl) (by decide +kernel) k) (kd_4_0 13 rfl) (kd_4_0 15 rfl) (fun H locs hP hD hS => ?_)
  refine k_pc hx k_cl4 hP hD hS (lv_at hl 0 rfl) 4 (by decide) (idx := 25) rfl rfl (x := .int (0)) rfl rfl 32 (fun k => lv_iconst hx.1 hx.2.1 (kd_4_0 17 rfl) (by decide +kernel) k) (kd_4_0 16 rfl) (kd_4_0 18 rfl) (fun H locs hP hD hS => ?_)
  exact k_end hx hr hlk hA hsz (fun _ _ k => k_u [h0, q1, q2] k) rfl hP hD hS rfl (k_lt (k_lt (k_lt (k_lt (k_lt (k_lt0) rfl) rfl) rfl) rfl) rfl) rfl (Nat.le_of_ble_eq_true rfl) (Nat.le_of_ble_eq_true rfl) (kd_4_0 19 rfl)
def k_l5 (o : Nat) : List pmR := [(5, o, 0), (5, o, 1), (5, o, 2), (5, o, 3), (5, o, 4), (5, o, 5), (5, o, 6), (5, o, 7), (5, o, 8), (5, o, 9)]
set_option maxHeartbeats 4000000 in
set_option maxRecDepth 100000 in
theorem k_c5 (l : Launch) (D : va_G) (a : Nat → ClassId) (h0 sz o L : Nat) (xs : Nat → Int32) : Met l yX5_init (Cond.code yX5_init cX5_init 1 none :: pm_G) { frames := 1, cells := 9, slots := 432, locals := 12 } (k_P0 D a 5 10 tyX5 (fun _ => True) h0 sz) (k_Q0 D a 5 10 tyX5 (k_l5 o) o L xs h0 sz) 9 432 (k_A0 5 10 tyX5 h0 sz) := by
  refine k_init k_cl5 (by decide +kernel) rfl rfl (by decide) (by decide) (by decide) k_ml5 (kd_5_0 0 rfl) (kd_5_0 1 rfl) ?_
  intro p e s m below meth c A ls hA hx hin hml hr hlk hE hsz hP hD hS hl
  refine k_fi hx k_cl5 hin hP hD hS (lv_at hl 0 rfl) 0 (by decide) (idx := 9) rfl rfl rfl (fun _ => rfl) (fun _ => rfl) (n := 48) 48 7 (fun k => lv_bipush hx.1 hx.2.1 (kd_5_0 3 rfl) (by decide +kernel) k) (kd_5_0 2 rfl) (kd_5_0 4 rfl) (kd_5_0 5 rfl) (by decide) (by decide +kernel) (by decide) (Nat.le_of_ble_eq_true rfl) (Nat.le_of_ble_eq_true rfl) (fun q1 H locs hP hD hS => ?_)
  refine k_fi hx k_cl5 hin hP hD hS (lv_at hl 0 rfl) 1 (by decide) (idx := 15) rfl rfl rfl (fun _ => rfl) (fun _ => rfl) (n := 48) 48 15 (fun k => lv_bipush hx.1 hx.2.1 (kd_5_0 7 rfl) (by decide +kernel) k) (kd_5_0 6 rfl) (kd_5_0 8 rfl) (kd_5_0 9 rfl) (by decide) (by decide +kernel) (by decide) (Nat.le_of_ble_eq_true rfl) (Nat.le_of_ble_eq_true rfl) (fun q2 H locs hP hD hS => ?_)
  refine k_fi hx k_cl5 hin hP hD hS (lv_at hl 0 rfl) 2 (by decide) (idx := 18) rfl rfl rfl (fun _ => rfl) (fun _ => rfl) (n := 48) 48 23 (fun k => lv_bipush hx.1 hx.2.1 (kd_5_0 11 rfl) (by decide +kernel) k) (kd_5_0 10 rfl) (kd_5_0 12 rfl) (kd_5_0 13 rfl) (by decide) (by decide +kernel) (by decide) (Nat.le_of_ble_eq_true rfl) (Nat.le_of_ble_eq_true rfl) (fun q3 H locs hP hD hS => ?_)
  refine k_fi hx k_cl5 hin hP hD hS (lv_at hl 0 rfl) 3 (by decide) (idx := 21) rfl rfl rfl (fun _ => rfl) (fun _ => rfl) (n := 48) 48 31 (fun k => lv_bipush hx.1 hx.2.1 (kd_5_0 15 rfl) (by decide +kernel) k) (kd_5_0 14 rfl) (kd_5_0 16 rfl) (kd_5_0 17 rfl) (by decide) (by decide +kernel) (by decide) (Nat.le_of_ble_eq_true rfl) (Nat.le_of_ble_eq_true rfl) (fun q4 H locs hP hD hS => ?_)
  refine k_fi hx k_cl5 hin hP hD hS (lv_at hl 0 rfl) 4 (by decide) (idx := 24) rfl rfl rfl (fun _ => rfl) (fun _ => rfl) (n := 48) 48 39 (fun k => lv_bipush hx.1 hx.2.1 (kd_5_0 19 rfl) (by decide +kernel) k) (kd_5_0 18 rfl) (kd_5_0 20 rfl) (kd_5_0 21 rfl) (by decide) (by decide +kernel) (by decide) (Nat.le_of_ble_eq_true rfl) (Nat.le_of_ble_eq_true rfl) (fun q5 H locs hP hD hS => ?_)
  refine k_fi hx k_cl5 hin hP hD hS (lv_at hl 0 rfl) 5 (by decide) (idx := 27) rfl rfl rfl (fun _ => rfl) (fun _ => rfl) (n := 48) 48 47 (fun k => lv_bipush hx.1 hx.2.1 (kd_5_0 23 rfl) (by decide +kernel) k) (kd_5_0 22 rfl) (kd_5_0 24 rfl) (kd_5_0 25 rfl) (by decide) (by decide +kernel) (by decide) (Nat.le_of_ble_eq_true rfl) (Nat.le_of_ble_eq_true rfl) (fun q6 H locs hP hD hS => ?_)
  refine k_fi hx k_cl5 hin hP hD hS (lv_at hl 0 rfl) 6 (by decide) (idx := 30) rfl rfl rfl (fun _ => rfl) (fun _ => rfl) (n := 48) 48 55 (fun k => lv_bipush hx.1 hx.2.1 (kd_5_0 27 rfl) (by decide +kernel) k) (kd_5_0 26 rfl) (kd_5_0 28 rfl) (kd_5_0 29 rfl) (by decide) (by decide +kernel) (by decide) (Nat.le_of_ble_eq_true rfl) (Nat.le_of_ble_eq_true rfl) (fun q7 H locs hP hD hS => ?_)
  refine k_fi hx k_cl5 hin hP hD hS (lv_at hl 0 rfl) 7 (by decide) (idx := 33) rfl rfl rfl (fun _ => rfl) (fun _ => rfl) (n := 48) 48 63 (fun k => lv_bipush hx.1 hx.2.1 (kd_5_0 31 rfl) (by decide +kernel) k) (kd_5_0 30 rfl) (kd_5_0 32 rfl) (kd_5_0 33 rfl) (by decide) (by decide +kernel) (by decide) (Nat.le_of_ble_eq_true rfl) (Nat.le_of_ble_eq_true rfl) (fun q8 H locs hP hD hS => ?_)
  refine k_fi hx k_cl5 hin hP hD hS (lv_at hl 0 rfl) 8 (by decide) (idx := 36) rfl rfl rfl (fun _ => rfl) (fun _ => rfl) (n := 48) 48 71 (fun k => lv_bipush hx.1 hx.2.1 (kd_5_0 35 rfl) (by decide +kernel) k) (kd_5_0 34 rfl) (kd_5_0 36 rfl) (kd_5_0 37 rfl) (by decide) (by decide +kernel) (by decide) (Nat.le_of_ble_eq_true rfl) (Nat.le_of_ble_eq_true rfl) (fun q9 H locs hP hD hS => ?_)
  refine k_pc hx k_cl5 hP hD hS (lv_at hl 0 rfl) 9 (by decide) (idx := 39) rfl rfl (x := .int (0)) rfl rfl 78 (fun k => lv_iconst hx.1 hx.2.1 (kd_5_0 39 rfl) (by decide +kernel) k) (kd_5_0 38 rfl) (kd_5_0 40 rfl) (fun H locs hP hD hS => ?_)
  exact k_end hx hr hlk hA hsz (fun _ _ k => k_u [h0, q1, q2, q3, q4, q5, q6, q7, q8, q9] k) rfl hP hD hS rfl (k_lt (k_lt (k_lt (k_lt (k_lt (k_lt (k_lt (k_lt (k_lt (k_lt (k_lt0) rfl) rfl) rfl) rfl) rfl) rfl) rfl) rfl) rfl) rfl) rfl (Nat.le_of_ble_eq_true rfl) (Nat.le_of_ble_eq_true rfl) (kd_5_0 41 rfl)
def k_l6 (o : Nat) : List pmR := [(6, o, 0), (6, o, 1)]
set_option maxHeartbeats 4000000 in
set_option maxRecDepth 100000 in
theorem k_c6 (l : Launch) (D : va_G) (a : Nat → ClassId) (h0 sz o L : Nat) (xs : Nat → Int32) : Met l yX6_init (Cond.code yX6_init cX6_init 1 none :: pm_G) { frames := 1, cells := 1, slots := 60, locals := 12 } (k_P0 D a 6 4 tyX6 (fun _ => True) h0 sz) (k_Q0 D a 6 4 tyX6 (k_l6 o) o L xs h0 sz) 1 60 (k_A0 6 4 tyX6 h0 sz) := by
  refine k_init k_cl6 (by decide +kernel) rfl rfl (by decide) (by decide) (by decide) k_ml6 (kd_6_0 0 rfl) (kd_6_0 1 rfl) ?_
  intro p e s m below meth c A ls hA hx hin hml hr hlk hE hsz hP hD hS hl
  refine k_fi hx k_cl6 hin hP hD hS (lv_at hl 0 rfl) 0 (by decide) (idx := 11) rfl rfl rfl (fun _ => rfl) (fun _ => rfl) (n := 60) 60 7 (fun k => lv_bipush hx.1 hx.2.1 (kd_6_0 3 rfl) (by decide +kernel) k) (kd_6_0 2 rfl) (kd_6_0 4 rfl) (kd_6_0 5 rfl) (by decide) (by decide +kernel) (by decide) (Nat.le_of_ble_eq_true rfl) (Nat.le_of_ble_eq_true rfl) (fun q1 H locs hP hD hS => ?_)
  refine k_pc hx k_cl6 hP hD hS (lv_at hl 0 rfl) 1 (by decide) (idx := 15) rfl rfl (x := .int (0)) rfl rfl 14 (fun k => lv_iconst hx.1 hx.2.1 (kd_6_0 7 rfl) (by decide +kernel) k) (kd_6_0 6 rfl) (kd_6_0 8 rfl) (fun H locs hP hD hS => ?_)
  refine k_pc hx k_cl6 hP hD hS (lv_at hl 0 rfl) 2 (by decide) (idx := 19) rfl rfl (x := .int (0)) rfl rfl 19 (fun k => lv_iconst hx.1 hx.2.1 (kd_6_0 10 rfl) (by decide +kernel) k) (kd_6_0 9 rfl) (kd_6_0 11 rfl) (fun H locs hP hD hS => ?_)
  refine k_pc hx k_cl6 hP hD hS (lv_at hl 0 rfl) 3 (by decide) (idx := 22) rfl rfl (x := .int (-1)) rfl rfl 24 (fun k => lv_iconst hx.1 hx.2.1 (kd_6_0 13 rfl) (by decide +kernel) k) (kd_6_0 12 rfl) (kd_6_0 14 rfl) (fun H locs hP hD hS => ?_)
  exact k_end hx hr hlk hA hsz (fun _ _ k => k_u [h0, q1] k) rfl hP hD hS rfl (k_lt (k_lt (k_lt (k_lt (k_lt0) rfl) rfl) rfl) rfl) rfl (Nat.le_of_ble_eq_true rfl) (Nat.le_of_ble_eq_true rfl) (kd_6_0 15 rfl)
def k_l7 (o : Nat) : List pmR := [(7, o, 0), (7, o, 1), (7, o, 2)]
set_option maxHeartbeats 4000000 in
set_option maxRecDepth 100000 in
theorem k_c7 (l : Launch) (D : va_G) (a : Nat → ClassId) (h0 sz o L : Nat) (xs : Nat → Int32) : Met l yX7_init (Cond.code yX7_init cX7_init 1 none :: pm_G) { frames := 1, cells := 2, slots := 3048, locals := 12 } (k_P0 D a 7 3 tyX7 (fun _ => True) h0 sz) (k_Q0 D a 7 3 tyX7 (k_l7 o) o L xs h0 sz) 2 3048 (k_A0 7 3 tyX7 h0 sz) := by
  refine k_init k_cl7 (by decide +kernel) rfl rfl (by decide) (by decide) (by decide) k_ml7 (kd_7_0 0 rfl) (kd_7_0 1 rfl) ?_
  intro p e s m below meth c A ls hA hx hin hml hr hlk hE hsz hP hD hS hl
  refine k_fi hx k_cl7 hin hP hD hS (lv_at hl 0 rfl) 0 (by decide) (idx := 9) rfl rfl rfl (fun _ => rfl) (fun _ => rfl) (n := 1000) 1000 8 (fun k => lv_sipush hx.1 hx.2.1 (kd_7_0 3 rfl) (by decide +kernel) k) (kd_7_0 2 rfl) (kd_7_0 4 rfl) (kd_7_0 5 rfl) (by decide) (by decide +kernel) (by decide) (Nat.le_of_ble_eq_true rfl) (Nat.le_of_ble_eq_true rfl) (fun q1 H locs hP hD hS => ?_)
  refine k_fi hx k_cl7 hin hP hD hS (lv_at hl 0 rfl) 1 (by decide) (idx := 13) rfl rfl rfl (fun _ => rfl) (fun _ => rfl) (n := 2048) 2048 17 (fun k => lv_sipush hx.1 hx.2.1 (kd_7_0 7 rfl) (by decide +kernel) k) (kd_7_0 6 rfl) (kd_7_0 8 rfl) (kd_7_0 9 rfl) (by decide) (by decide +kernel) (by decide) (Nat.le_of_ble_eq_true rfl) (Nat.le_of_ble_eq_true rfl) (fun q2 H locs hP hD hS => ?_)
  refine k_pc hx k_cl7 hP hD hS (lv_at hl 0 rfl) 2 (by decide) (idx := 16) rfl rfl (x := .int (0)) rfl rfl 24 (fun k => lv_iconst hx.1 hx.2.1 (kd_7_0 11 rfl) (by decide +kernel) k) (kd_7_0 10 rfl) (kd_7_0 12 rfl) (fun H locs hP hD hS => ?_)
  exact k_end hx hr hlk hA hsz (fun _ _ k => k_u [h0, q1, q2] k) rfl hP hD hS rfl (k_lt (k_lt (k_lt (k_lt0) rfl) rfl) rfl) rfl (Nat.le_of_ble_eq_true rfl) (Nat.le_of_ble_eq_true rfl) (kd_7_0 13 rfl)
def k_l8 (o : Nat) : List pmR := [(8, o, 0), (8, o, 1), (8, o, 2), (8, o, 3)]
set_option maxHeartbeats 4000000 in
set_option maxRecDepth 100000 in
theorem k_c8 (l : Launch) (D : va_G) (a : Nat → ClassId) (h0 sz o L : Nat) (xs : Nat → Int32) : Met l yX8_init (Cond.code yX8_init cX8_init 1 none :: pm_G) { frames := 1, cells := 3, slots := 120, locals := 12 } (k_P0 D a 8 4 tyX8 (fun _ => True) h0 sz) (k_Q0 D a 8 4 tyX8 (k_l8 o) o L xs h0 sz) 3 120 (k_A0 8 4 tyX8 h0 sz) := by
  refine k_init k_cl8 (by decide +kernel) rfl rfl (by decide) (by decide) (by decide) k_ml8 (kd_8_0 0 rfl) (kd_8_0 1 rfl) ?_
  intro p e s m below meth c A ls hA hx hin hml hr hlk hE hsz hP hD hS hl
  refine k_fi hx k_cl8 hin hP hD hS (lv_at hl 0 rfl) 0 (by decide) (idx := 9) rfl rfl rfl (fun _ => rfl) (fun _ => rfl) (n := 40) 40 7 (fun k => lv_bipush hx.1 hx.2.1 (kd_8_0 3 rfl) (by decide +kernel) k) (kd_8_0 2 rfl) (kd_8_0 4 rfl) (kd_8_0 5 rfl) (by decide) (by decide +kernel) (by decide) (Nat.le_of_ble_eq_true rfl) (Nat.le_of_ble_eq_true rfl) (fun q1 H locs hP hD hS => ?_)
  refine k_fi hx k_cl8 hin hP hD hS (lv_at hl 0 rfl) 1 (by decide) (idx := 15) rfl rfl rfl (fun _ => rfl) (fun _ => rfl) (n := 40) 40 15 (fun k => lv_bipush hx.1 hx.2.1 (kd_8_0 7 rfl) (by decide +kernel) k) (kd_8_0 6 rfl) (kd_8_0 8 rfl) (kd_8_0 9 rfl) (by decide) (by decide +kernel) (by decide) (Nat.le_of_ble_eq_true rfl) (Nat.le_of_ble_eq_true rfl) (fun q2 H locs hP hD hS => ?_)
  refine k_fi hx k_cl8 hin hP hD hS (lv_at hl 0 rfl) 2 (by decide) (idx := 18) rfl rfl rfl (fun _ => rfl) (fun _ => rfl) (n := 40) 40 23 (fun k => lv_bipush hx.1 hx.2.1 (kd_8_0 11 rfl) (by decide +kernel) k) (kd_8_0 10 rfl) (kd_8_0 12 rfl) (kd_8_0 13 rfl) (by decide) (by decide +kernel) (by decide) (Nat.le_of_ble_eq_true rfl) (Nat.le_of_ble_eq_true rfl) (fun q3 H locs hP hD hS => ?_)
  refine k_pc hx k_cl8 hP hD hS (lv_at hl 0 rfl) 3 (by decide) (idx := 21) rfl rfl (x := .int (0)) rfl rfl 30 (fun k => lv_iconst hx.1 hx.2.1 (kd_8_0 15 rfl) (by decide +kernel) k) (kd_8_0 14 rfl) (kd_8_0 16 rfl) (fun H locs hP hD hS => ?_)
  exact k_end hx hr hlk hA hsz (fun _ _ k => k_u [h0, q1, q2, q3] k) rfl hP hD hS rfl (k_lt (k_lt (k_lt (k_lt (k_lt0) rfl) rfl) rfl) rfl) rfl (Nat.le_of_ble_eq_true rfl) (Nat.le_of_ble_eq_true rfl) (kd_8_0 17 rfl)
def k_l3 (o : Nat) : List pmR := [(3, o, 0), (3, o, 1), (3, o, 2), (3, o, 3), (3, o, 4)]
set_option maxHeartbeats 4000000 in
set_option maxRecDepth 100000 in
theorem k_c3 (l : Launch) (D : va_G) (a : Nat → ClassId) (h0 sz o L : Nat) (xs : Nat → Int32) : Met l yX3_init (Cond.code yX3_init cX3_init 1 none :: pm_G) { frames := 1, cells := 4, slots := 192, locals := 23 } (k_P0 D a 3 9 tyX3 (fun _ => True) h0 sz) (k_Q0 D a 3 9 tyX3 (k_l3 o) o L xs h0 sz) 4 192 (k_A0 3 9 tyX3 h0 sz) := by
  refine k_init k_cl3 (by decide +kernel) rfl rfl (by decide) (by decide) (by decide) k_ml3 (kd_3_0 0 rfl) (kd_3_0 1 rfl) ?_
  intro p e s m below meth c A ls hA hx hin hml hr hlk hE hsz hP hD hS hl
  refine k_fl hx k_cl3 hin hP hD hS (lv_at hl 0 rfl) 0 (by decide) (idx := 9) rfl rfl rfl (fun _ => rfl) (fun _ => rfl) (n := 48) 48 7 (fun k => lv_bipush hx.1 hx.2.1 (kd_3_0 3 rfl) (by decide +kernel) k) (kd_3_0 2 rfl) (kd_3_0 4 rfl) (kd_3_0 5 rfl) (by decide) (by decide +kernel) (by decide) (Nat.le_of_ble_eq_true rfl) (Nat.le_of_ble_eq_true rfl) (fun q1 H locs hP hD hS => ?_)
  refine k_fi hx k_cl3 hin hP hD hS (lv_at hl 0 rfl) 1 (by decide) (idx := 15) rfl rfl rfl (fun _ => rfl) (fun _ => rfl) (n := 48) 48 15 (fun k => lv_bipush hx.1 hx.2.1 (kd_3_0 7 rfl) (by decide +kernel) k) (kd_3_0 6 rfl) (kd_3_0 8 rfl) (kd_3_0 9 rfl) (by decide) (by decide +kernel) (by decide) (Nat.le_of_ble_eq_true rfl) (Nat.le_of_ble_eq_true rfl) (fun q2 H locs hP hD hS => ?_)
  refine k_fi hx k_cl3 hin hP hD hS (lv_at hl 0 rfl) 2 (by decide) (idx := 19) rfl rfl rfl (fun _ => rfl) (fun _ => rfl) (n := 48) 48 23 (fun k => lv_bipush hx.1 hx.2.1 (kd_3_0 11 rfl) (by decide +kernel) k) (kd_3_0 10 rfl) (kd_3_0 12 rfl) (kd_3_0 13 rfl) (by decide) (by decide +kernel) (by decide) (Nat.le_of_ble_eq_true rfl) (Nat.le_of_ble_eq_true rfl) (fun q3 H locs hP hD hS => ?_)
  refine k_fi hx k_cl3 hin hP hD hS (lv_at hl 0 rfl) 3 (by decide) (idx := 22) rfl rfl rfl (fun _ => rfl) (fun _ => rfl) (n := 48) 48 31 (fun k => lv_bipush hx.1 hx.2.1 (kd_3_0 15 rfl) (by decide +kernel) k) (kd_3_0 14 rfl) (kd_3_0 16 rfl) (kd_3_0 17 rfl) (by decide) (by decide +kernel) (by decide) (Nat.le_of_ble_eq_true rfl) (Nat.le_of_ble_eq_true rfl) (fun q4 H locs hP hD hS => ?_)
  refine k_pc hx k_cl3 hP hD hS (lv_at hl 0 rfl) 4 (by decide) (idx := 25) rfl rfl (x := .int (0)) rfl rfl 38 (fun k => lv_iconst hx.1 hx.2.1 (kd_3_0 19 rfl) (by decide +kernel) k) (kd_3_0 18 rfl) (kd_3_0 20 rfl) (fun H locs hP hD hS => ?_)
  refine k_pc hx k_cl3 hP hD hS (lv_at hl 0 rfl) 5 (by decide) (idx := 29) rfl rfl (x := .long (0)) rfl rfl 43 (fun k => lv_lconst hx.1 hx.2.1 (kd_3_0 22 rfl) (by decide +kernel) k) (kd_3_0 21 rfl) (kd_3_0 23 rfl) (fun H locs hP hD hS => ?_)
  refine k_pc hx k_cl3 hP hD hS (lv_at hl 0 rfl) 6 (by decide) (idx := 33) rfl rfl (x := .long (0)) rfl rfl 48 (fun k => lv_lconst hx.1 hx.2.1 (kd_3_0 25 rfl) (by decide +kernel) k) (kd_3_0 24 rfl) (kd_3_0 26 rfl) (fun H locs hP hD hS => ?_)
  refine k_pc hx k_cl3 hP hD hS (lv_at hl 0 rfl) 7 (by decide) (idx := 36) rfl rfl (x := .int (0)) rfl rfl 53 (fun k => lv_iconst hx.1 hx.2.1 (kd_3_0 28 rfl) (by decide +kernel) k) (kd_3_0 27 rfl) (kd_3_0 29 rfl) (fun H locs hP hD hS => ?_)
  refine k_pc hx k_cl3 hP hD hS (lv_at hl 0 rfl) 8 (by decide) (idx := 39) rfl rfl (x := .int (0)) rfl rfl 58 (fun k => lv_iconst hx.1 hx.2.1 (kd_3_0 31 rfl) (by decide +kernel) k) (kd_3_0 30 rfl) (kd_3_0 32 rfl) (fun H locs hP hD hS => ?_)
  refine lv_aload_n hx.1 hx.2.1 (kd_3_0 33 rfl) rfl (lv_at hl 0 rfl) ?_
  refine k_get hx k_cl3 hP 1 (by decide) (idx := 15) rfl (kd_3_0 34 rfl) ?_
  refine lv_iconst (v := -1) hx.1 hx.2.1 (kd_3_0 35 rfl) (by decide +kernel) ?_
  have hFc : ∀ z, k_AF a q2 H.size (fun _ => 0) z → A z := va_free (wc := [(q2, .inl (a 0, 48, .inl (fun _ => 0)))]) hD hS hx.2.2.2.2.2 [2] rfl
  have hPc := hP.sub (ws' := [(q2, .inl (a 0, 48, .inl (fun _ => 0)))]) [2] rfl
  obtain ⟨hcm, hlink⟩ := pm_cl_ok (show pm_cl 3 42 = some 182 from rfl)
  obtain ⟨-, m2, m3, -⟩ := pm_m_ok hcm
  obtain ⟨-, n2, -, n4⟩ := pm_n_ok hcm
  have hpre : PreS s H (k_PF D a q2 H.size (-1) (fun _ => 0)) [.ref q2, .int (-1)] := by
    refine ⟨fun v U g mk h => ?_, fun U hU hW => ?_⟩
    · obtain ⟨h1, h2, h3, h4⟩ := h
      exact ⟨h1, h2, h3, va_K.moved (u := U) (U := U.calling g mk v) (Vm.Alike.refl U.vm) h4⟩
    · exact ⟨rfl, by rw [hU], by rw [hU]; exact hPc, va_K.moved hW.alike hx.2.2.2.2.1⟩
  refine va_callv (va_runS (As := [.ref q2, .int (-1)]) (rest := []) ⟨hx.1, hx.2.1, hml, hx.2.2.1, hx.2.2.2.1⟩ (k_fill l D a q2 H.size (-1) (fun _ => 0)) ⟨callB_of _ hx.2.2.2.1 (pm_goodIn hcm) rfl rfl rfl (hx.2.2.2.1 _ n2) (hx.2.2.2.1 _ hlink) ⟨m2.1, m2.2, m3⟩ ⟨Nat.le_of_ble_eq_true rfl, Nat.le_of_ble_eq_true rfl⟩, hx.2.2.2.1 _ (n4 rfl)⟩ hpre rfl rfl hl.1 rfl (lv_room (Nat.le_of_ble_eq_true rfl)) (kd_3_0 36 rfl) ⟨Nat.le_of_ble_eq_true rfl, Nat.le_of_ble_eq_true rfl⟩) hS (fun z _ h => hFc z h) hFc (fun u t H1 locs1 ht hvm hpost hB hz hk hS => ?_)
  rw [ht] at hB
  obtain ⟨hP, hD⟩ := k_join1 (j := 2) hP hD rfl hk hB
  exact k_end hx hr hlk hA hsz (fun _ _ k => k_u [h0, q1, q2, q3, q4] k) rfl hP hD hS rfl (k_lt (k_lt (k_lt (k_lt (k_lt (k_lt (k_lt (k_lt (k_lt (k_lt0) rfl) rfl) rfl) rfl) rfl) rfl) rfl) rfl) rfl) rfl (Nat.le_of_ble_eq_true rfl) (Nat.le_of_ble_eq_true rfl) (kd_3_0 37 rfl)
