/-! rows for constructors: some instructions at once -/
def k_f (N : Nat) (v : Nat → Value) : List Value := (List.range N).map v
theorem k_f_len {N : Nat} {v : Nat → Value} : (k_f N v).length = N := by
  unfold k_f
  rw [List.length_map, List.length_range]
theorem k_f_at {N k : Nat} {v : Nat → Value} (h : k < N) : (k_f N v)[k]? = some (v k) := by
  unfold k_f
  rw [List.getElem?_map, List.getElem?_range h]
  rfl
theorem k_f_set {N k : Nat} {v : Nat → Value} {x : Value} (h : k < N) : (k_f N v).set k x = k_f N (va_up v k x) := by
  apply List.ext_getElem?
  intro i
  by_cases hi : i = k
  · subst hi
    rw [List.getElem?_set_self (by rw [k_f_len]; exact h), k_f_at h, va_up_self]
  · rw [List.getElem?_set_ne (Ne.symm hi)]
    by_cases hN : i < N
    · rw [k_f_at hN, k_f_at hN, va_up_ne _ _ hi]
    · rw [List.getElem?_eq_none (by rw [k_f_len]; omega), List.getElem?_eq_none (by rw [k_f_len]; omega)]
theorem k_f_V {N k : Nat} {v : Nat → Value} (h : k < N) : vp_V (k_f N v) k = v k := by
  unfold vp_V
  rw [List.getD_eq_getElem?_getD, k_f_at h]
  rfl
theorem k_f_fs {N c o : Nat} {v : Nat → Value} {q : Nat → Nat → Nat → Nat} {σ : pmS} (hN : N = pm_nf c) (h : ∀ j, j < N → v j = pm_fv q σ c o j) : k_f N v = pm_fs q σ c o := by
  subst hN
  exact List.map_congr_left fun j hj => h j (List.mem_range.mp hj)
theorem k_lt0 {P : Nat → Prop} : ∀ j, j < 0 → P j := fun _ h => absurd h (Nat.not_lt_zero _)
theorem k_lt {P : Nat → Prop} {n : Nat} (h : ∀ j, j < n → P j) (hn : P n) : ∀ j, j < n + 1 → P j := fun j hj => by
  rcases Nat.lt_or_ge j n with h1 | h1
  · exact h j h1
  · have : j = n := by omega
    subst this
    exact hn
theorem k_nd : ∀ {l : List Nat}, l.Nodup → va_nd l = true
  | [], _ => rfl
  | x :: l, h => by
    rw [List.nodup_cons] at h
    rw [va_nd, Bool.and_eq_true, decide_eq_true_eq]
    exact ⟨h.1, k_nd h.2⟩
theorem k_range {α : Type} (l : List α) (x : α) : (List.range l.length).map (fun i => (l ++ [x])[i]?) = l.map some := by
  apply List.ext_getElem?
  intro i
  rw [List.getElem?_map, List.getElem?_map]
  by_cases h : i < l.length
  · rw [List.getElem?_range h, List.getElem?_eq_getElem h]
    show some ((l ++ [x])[i]?) = some (some l[i])
    rw [List.getElem?_append_left h, List.getElem?_eq_getElem h]
  · rw [List.getElem?_eq_none (by rw [List.length_range]; omega), List.getElem?_eq_none (by omega)]
    rfl
/-- what a constructor's rows need of the place where it runs -/
def k_X (p : Program) (s : State) (m : MethodId) (args : Array Value) (c : Code) (D : va_G) (a : Nat → ClassId) (A : Nat → Prop) (cc : ByteArray) (own : Nat) : Prop := p.tables.exec = Jvm.exec ∧ c.code = cc ∧ s.vm.findClass (pm_cn own) = some m.cls ∧ (∀ w ∈ pm_G, w.before args s = true) ∧ va_K D pm_classes (pm_tys a) s ∧ ∀ q : Nat, s.heap.size ≤ q → A q
/-- a class: its number, name, fields, how many, their types -/
def k_Cl (ci : Nat) (C : String) (T : u_T) (N : Nat) (ty : Nat → FieldType) : Prop := pm_classes[ci]? = some (C, T, N) ∧ ∀ k, k < N → parseFieldDescriptor (T k).2.2.1 = some (ty k)
/-- the object as it is born -/
def k_o (ci N : Nat) (ty : Nat → FieldType) (h0 : Nat) : Nat × va_E := (h0, .inr (ci, k_f N (fun j => defaultValue (ty j))))
def k_A0 (ci N : Nat) (ty : Nat → FieldType) (h0 sz : Nat) : Nat → Prop := va_A [k_o ci N ty h0] sz
def k_P0 (D : va_G) (a : Nat → ClassId) (ci N : Nat) (ty : Nat → FieldType) (E : State → Prop) (h0 sz : Nat) : Array Value → State → Prop := va_Pc [.ref h0] (fun U => U.heap.size = sz ∧ va_P D pm_classes [k_o ci N ty h0] U.heap ∧ va_K D pm_classes (pm_tys a) U ∧ E U)
def k_Q0 (D : va_G) (a : Nat → ClassId) (ci N : Nat) (ty : Nat → FieldType) (lab : List pmR) (o L : Nat) (xs : Nat → Int32) (h0 sz : Nat) : Array Value → State → Outcome → State → Prop := va_Qv (fun q : Nat → Nat → Nat → Nat => q ci o 0 = h0) (fun q t => va_P D pm_classes (k_w lab a L xs q) t.heap ∧ va_K D pm_classes (pm_tys a) t ∧ va_D (k_A0 ci N ty h0 sz) (k_w lab a L xs q)) (k_A0 ci N ty h0 sz)
theorem k_ac0 : Cond.arrayClass .int ∈ pm_G := pm_in_G (i := 116) (by decide +kernel)
theorem k_ac1 : Cond.arrayClass .long ∈ pm_G := pm_in_G (i := 247) (by decide +kernel)
theorem k_ac2 : Cond.arrayClass .boolean ∈ pm_G := pm_in_G (i := 293) (by decide +kernel)
theorem k_oi : Cond.instanceMethod objectInit ∈ pm_G := pm_in_G (i := 92) (by decide +kernel)
theorem k_oc : Cond.code objectInit ⟨#[0xb1]⟩ 1 none ∈ pm_G := List.mem_filter.mpr ⟨List.mem_of_getElem? (i := 93) rfl, rfl⟩
section KROW
variable {p : Program} {l : Launch} {e : Env} {R : Room} {s : State} {m : MethodId} {args : Array Value} {below : List Frame} {meth : Method} {c : Code} {H : Heap} {locs : List Loc} {cells slots : Nat} {Q : State → Prop}
variable {cc : ByteArray} {pc : Nat} {ls : Array Slot} {rest : List Value} {D : va_G} {A : Nat → Prop} {a : Nat → ClassId} {w ws : va_W}
variable {own ci N idx h0 : Nat} {C : String} {T : u_T} {ty : Nat → FieldType} {v : Nat → Value}
/-- a final field -/
theorem k_putF (hx : k_X p s m args c D a A cc ci) (hcl : k_Cl ci C T N ty) (hin : meth.name = "<init>") (hP : va_P D pm_classes ((h0, .inr (ci, k_f N v)) :: w) H) (hD : va_D A ((h0, .inr (ci, k_f N v)) :: w)) (hS : va_S A s.heap H locs) (k : Nat) (hk : k < N) (hf : pm_fl ci idx = some (ci, k)) (hfin : (T k).2.2.2 = true) (hdecl : (T k).1 = pm_cn ci) {x : Value} (hn : narrow (ty k) x = x) (hfit : fits (ty k) x = true) (hdg : decode cc pc = .ok (.putfield idx, 3))
    (kk : ∀ (H1 : Heap) (locs1 : List Loc), va_P D pm_classes ((h0, .inr (ci, k_f N (va_up v k x))) :: w) H1 → va_D A ((h0, .inr (ci, k_f N (va_up v k x))) :: w) → va_S A s.heap H1 locs1 → W p l e R s m args below meth c H1 locs1 cells slots Q (F0 m (pc + 3) ls rest)) : W p l e R s m args below meth c H locs cells slots Q (F0 m pc ls (x :: .ref h0 :: rest)) := by
  obtain ⟨r, hr, -, hlink⟩ := pm_fl_ok hf
  have er : r = (C, T, N) := Option.some.inj (hr.symm.trans hcl.1)
  subst er
  have hnm := (pm_cls_ok ci _ hcl.1).2
  refine va_putF (D := D) (ci := ci) (v := x) (ty := ty k) (C := C) (T := T) (N := N) hx.1 hx.2.1 hx.2.2.2.1 (pm_cls_w hcl.1).1 ty hcl.2 hnm hx.2.2.1 hx.2.2.2.2.1 hP hD hS 0 rfl hcl.1 k hk (hx.2.2.2.1 _ hlink) (fun _ h9 => h9) hfin hin hdecl (hcl.2 k hk) hn hfit (by rw [k_f_len]; exact hk) hdg (fun H1 locs1 hP1 hD1 hS1 => ?_)
  rw [k_f_set hk] at hP1 hD1
  exact kk H1 locs1 hP1 hD1 hS1
/-- a field that isn't final -/
theorem k_put (hx : k_X p s m args c D a A cc ci) (hcl : k_Cl ci C T N ty) (hP : va_P D pm_classes ((h0, .inr (ci, k_f N v)) :: w) H) (hD : va_D A ((h0, .inr (ci, k_f N v)) :: w)) (hS : va_S A s.heap H locs) (k : Nat) (hk : k < N) (hf : pm_fl ci idx = some (ci, k)) (hfin : (T k).2.2.2 = false) {x : Value} (hn : narrow (ty k) x = x) (hfit : fits (ty k) x = true) (hdg : decode cc pc = .ok (.putfield idx, 3))
    (kk : ∀ (H1 : Heap) (locs1 : List Loc), va_P D pm_classes ((h0, .inr (ci, k_f N (va_up v k x))) :: w) H1 → va_D A ((h0, .inr (ci, k_f N (va_up v k x))) :: w) → va_S A s.heap H1 locs1 → W p l e R s m args below meth c H1 locs1 cells slots Q (F0 m (pc + 3) ls rest)) : W p l e R s m args below meth c H locs cells slots Q (F0 m pc ls (x :: .ref h0 :: rest)) := by
  obtain ⟨r, hr, -, hlink⟩ := pm_fl_ok hf
  have er : r = (C, T, N) := Option.some.inj (hr.symm.trans hcl.1)
  subst er
  have hnm := (pm_cls_ok ci _ hcl.1).2
  refine va_put (D := D) (ci := ci) (v := x) (ty := ty k) (C := C) (T := T) (N := N) hx.1 hx.2.1 hx.2.2.2.1 (pm_cls_w hcl.1).1 ty hcl.2 hnm hx.2.2.1 hx.2.2.2.2.1 hP hD hS 0 rfl hcl.1 k hk (hx.2.2.2.1 _ hlink) (fun _ h9 => h9) hfin (hcl.2 k hk) hn hfit (by rw [k_f_len]; exact hk) hdg (fun H1 locs1 hP1 hD1 hS1 => ?_)
  rw [k_f_set hk] at hP1 hD1
  exact kk H1 locs1 hP1 hD1 hS1
/-- a field read -/
theorem k_get (hx : k_X p s m args c D a A cc ci) (hcl : k_Cl ci C T N ty) (hP : va_P D pm_classes ((h0, .inr (ci, k_f N v)) :: w) H) (k : Nat) (hk : k < N) (hf : pm_fl ci idx = some (ci, k)) (hdg : decode cc pc = .ok (.getfield idx, 3))
    (kk : W p l e R s m args below meth c H locs cells slots Q (F0 m (pc + 3) ls (v k :: rest))) : W p l e R s m args below meth c H locs cells slots Q (F0 m pc ls (.ref h0 :: rest)) := by
  obtain ⟨r, hr, -, hlink⟩ := pm_fl_ok hf
  have er : r = (C, T, N) := Option.some.inj (hr.symm.trans hcl.1)
  subst er
  exact va_get (D := D) (ci := ci) (C := C) (T := T) (N := N) hx.1 hx.2.1 hx.2.2.2.1 (pm_cls_w hcl.1).1 hx.2.2.1 hx.2.2.2.2.1 hP 0 rfl hcl.1 k hk (hx.2.2.2.1 _ hlink) (fun _ h9 => h9) (k_f_at hk) hdg kk
/-- this.field = new int[n] -/
theorem k_fi (hx : k_X p s m args c D a A cc ci) (hcl : k_Cl ci C T N ty) (hin : meth.name = "<init>") (hP : va_P D pm_classes ((h0, .inr (ci, k_f N v)) :: w) H) (hD : va_D A ((h0, .inr (ci, k_f N v)) :: w)) (hS : va_S A s.heap H locs) (hl : ls[0]? = some (.val (.ref h0))) (k : Nat) (hk : k < N) (hf : pm_fl ci idx = some (ci, k)) (hfin : (T k).2.2.2 = true) (hdecl : (T k).1 = pm_cn ci) (hn : ∀ q : Nat, narrow (ty k) (.ref q) = .ref q) (hfit : ∀ q : Nat, fits (ty k) (.ref q) = true) {n : Int32} (N' pc2 : Nat)
    (hpush : W p l e R s m args below meth c H locs cells slots Q (F0 m pc2 ls [.int n, .ref h0]) → W p l e R s m args below meth c H locs cells slots Q (F0 m (pc + 1) ls [.ref h0]))
    (d0 : decode cc pc = .ok (.aload_n 0, 1)) (d2 : decode cc pc2 = .ok (.newarray .int, 2)) (d3 : decode cc (pc2 + 2) = .ok (.putfield idx, 3))
    (hn0 : ¬ n < 0) (hN : n.toNatClampNeg = N') (hbytes : N' * 4 ≤ 536870912) (hcells : cells + 1 ≤ R.cells) (hslots : slots + N' ≤ R.slots)
    (kk : ∀ (q : Nat) (H1 : Heap) (locs1 : List Loc), va_P D pm_classes ((h0, .inr (ci, k_f N (va_up v k (.ref q)))) :: (w ++ [(q, .inl (a 0, N', .inl (fun _ => 0)))])) H1 → va_D A ((h0, .inr (ci, k_f N (va_up v k (.ref q)))) :: (w ++ [(q, .inl (a 0, N', .inl (fun _ => 0)))])) → va_S A s.heap H1 locs1 → W p l e R s m args below meth c H1 locs1 (cells + 1) (slots + N') Q (F0 m (pc2 + 5) ls [])) : W p l e R s m args below meth c H locs cells slots Q (F0 m pc ls []) := by
  refine lv_aload_n hx.1 hx.2.1 d0 rfl hl ?_
  refine hpush ?_
  refine k_newi hx.1 hx.2.1 (hx.2.2.2.1 _ k_ac0) hx.2.2.2.2.1 hP hD hS hx.2.2.2.2.2 N' hn0 hN hbytes hcells hslots d2 (fun q H1 hP1 hD1 hS1 => ?_)
  rw [List.cons_append] at hP1 hD1
  exact k_putF hx hcl hin hP1 hD1 hS1 k hk hf hfin hdecl (hn q) (hfit q) d3 (fun H2 locs2 hP2 hD2 hS2 => kk q H2 locs2 hP2 hD2 hS2)
/-- this.field = new long[n] -/
theorem k_fl (hx : k_X p s m args c D a A cc ci) (hcl : k_Cl ci C T N ty) (hin : meth.name = "<init>") (hP : va_P D pm_classes ((h0, .inr (ci, k_f N v)) :: w) H) (hD : va_D A ((h0, .inr (ci, k_f N v)) :: w)) (hS : va_S A s.heap H locs) (hl : ls[0]? = some (.val (.ref h0))) (k : Nat) (hk : k < N) (hf : pm_fl ci idx = some (ci, k)) (hfin : (T k).2.2.2 = true) (hdecl : (T k).1 = pm_cn ci) (hn : ∀ q : Nat, narrow (ty k) (.ref q) = .ref q) (hfit : ∀ q : Nat, fits (ty k) (.ref q) = true) {n : Int32} (N' pc2 : Nat)
    (hpush : W p l e R s m args below meth c H locs cells slots Q (F0 m pc2 ls [.int n, .ref h0]) → W p l e R s m args below meth c H locs cells slots Q (F0 m (pc + 1) ls [.ref h0]))
    (d0 : decode cc pc = .ok (.aload_n 0, 1)) (d2 : decode cc pc2 = .ok (.newarray .long, 2)) (d3 : decode cc (pc2 + 2) = .ok (.putfield idx, 3))
    (hn0 : ¬ n < 0) (hN : n.toNatClampNeg = N') (hbytes : N' * 8 ≤ 536870912) (hcells : cells + 1 ≤ R.cells) (hslots : slots + N' ≤ R.slots)
    (kk : ∀ (q : Nat) (H1 : Heap) (locs1 : List Loc), va_P D pm_classes ((h0, .inr (ci, k_f N (va_up v k (.ref q)))) :: (w ++ [(q, .inl (a 1, N', .inr (.inl (fun _ => 0))))])) H1 → va_D A ((h0, .inr (ci, k_f N (va_up v k (.ref q)))) :: (w ++ [(q, .inl (a 1, N', .inr (.inl (fun _ => 0))))])) → va_S A s.heap H1 locs1 → W p l e R s m args below meth c H1 locs1 (cells + 1) (slots + N') Q (F0 m (pc2 + 5) ls [])) : W p l e R s m args below meth c H locs cells slots Q (F0 m pc ls []) := by
  refine lv_aload_n hx.1 hx.2.1 d0 rfl hl ?_
  refine hpush ?_
  refine k_newl hx.1 hx.2.1 (hx.2.2.2.1 _ k_ac1) hx.2.2.2.2.1 hP hD hS hx.2.2.2.2.2 N' hn0 hN hbytes hcells hslots d2 (fun q H1 hP1 hD1 hS1 => ?_)
  rw [List.cons_append] at hP1 hD1
  exact k_putF hx hcl hin hP1 hD1 hS1 k hk hf hfin hdecl (hn q) (hfit q) d3 (fun H2 locs2 hP2 hD2 hS2 => kk q H2 locs2 hP2 hD2 hS2)
/-- this.field = new boolean[n] -/
theorem k_fz (hx : k_X p s m args c D a A cc ci) (hcl : k_Cl ci C T N ty) (hin : meth.name = "<init>") (hP : va_P D pm_classes ((h0, .inr (ci, k_f N v)) :: w) H) (hD : va_D A ((h0, .inr (ci, k_f N v)) :: w)) (hS : va_S A s.heap H locs) (hl : ls[0]? = some (.val (.ref h0))) (k : Nat) (hk : k < N) (hf : pm_fl ci idx = some (ci, k)) (hfin : (T k).2.2.2 = true) (hdecl : (T k).1 = pm_cn ci) (hn : ∀ q : Nat, narrow (ty k) (.ref q) = .ref q) (hfit : ∀ q : Nat, fits (ty k) (.ref q) = true) {n : Int32} (N' pc2 : Nat)
    (hpush : W p l e R s m args below meth c H locs cells slots Q (F0 m pc2 ls [.int n, .ref h0]) → W p l e R s m args below meth c H locs cells slots Q (F0 m (pc + 1) ls [.ref h0]))
    (d0 : decode cc pc = .ok (.aload_n 0, 1)) (d2 : decode cc pc2 = .ok (.newarray .boolean, 2)) (d3 : decode cc (pc2 + 2) = .ok (.putfield idx, 3))
    (hn0 : ¬ n < 0) (hN : n.toNatClampNeg = N') (hbytes : N' * 1 ≤ 536870912) (hcells : cells + 1 ≤ R.cells) (hslots : slots + N' ≤ R.slots)
    (kk : ∀ (q : Nat) (H1 : Heap) (locs1 : List Loc), va_P D pm_classes ((h0, .inr (ci, k_f N (va_up v k (.ref q)))) :: (w ++ [(q, .inl (a 2, N', .inl (fun _ => 0)))])) H1 → va_D A ((h0, .inr (ci, k_f N (va_up v k (.ref q)))) :: (w ++ [(q, .inl (a 2, N', .inl (fun _ => 0)))])) → va_S A s.heap H1 locs1 → W p l e R s m args below meth c H1 locs1 (cells + 1) (slots + N') Q (F0 m (pc2 + 5) ls [])) : W p l e R s m args below meth c H locs cells slots Q (F0 m pc ls []) := by
  refine lv_aload_n hx.1 hx.2.1 d0 rfl hl ?_
  refine hpush ?_
  refine k_newz hx.1 hx.2.1 (hx.2.2.2.1 _ k_ac2) hx.2.2.2.2.1 hP hD hS hx.2.2.2.2.2 N' hn0 hN hbytes hcells hslots d2 (fun q H1 hP1 hD1 hS1 => ?_)
  rw [List.cons_append] at hP1 hD1
  exact k_putF hx hcl hin hP1 hD1 hS1 k hk hf hfin hdecl (hn q) (hfit q) d3 (fun H2 locs2 hP2 hD2 hS2 => kk q H2 locs2 hP2 hD2 hS2)
/-- this.field = a constant -/
theorem k_pc (hx : k_X p s m args c D a A cc ci) (hcl : k_Cl ci C T N ty) (hP : va_P D pm_classes ((h0, .inr (ci, k_f N v)) :: w) H) (hD : va_D A ((h0, .inr (ci, k_f N v)) :: w)) (hS : va_S A s.heap H locs) (hl : ls[0]? = some (.val (.ref h0))) (k : Nat) (hk : k < N) (hf : pm_fl ci idx = some (ci, k)) (hfin : (T k).2.2.2 = false) {x : Value} (hn : narrow (ty k) x = x) (hfit : fits (ty k) x = true) (pc2 : Nat)
    (hpush : W p l e R s m args below meth c H locs cells slots Q (F0 m pc2 ls [x, .ref h0]) → W p l e R s m args below meth c H locs cells slots Q (F0 m (pc + 1) ls [.ref h0]))
    (d0 : decode cc pc = .ok (.aload_n 0, 1)) (d3 : decode cc pc2 = .ok (.putfield idx, 3))
    (kk : ∀ (H1 : Heap) (locs1 : List Loc), va_P D pm_classes ((h0, .inr (ci, k_f N (va_up v k x))) :: w) H1 → va_D A ((h0, .inr (ci, k_f N (va_up v k x))) :: w) → va_S A s.heap H1 locs1 → W p l e R s m args below meth c H1 locs1 cells slots Q (F0 m (pc2 + 3) ls [])) : W p l e R s m args below meth c H locs cells slots Q (F0 m pc ls []) := by
  refine lv_aload_n hx.1 hx.2.1 d0 rfl hl ?_
  refine hpush ?_
  exact k_put hx hcl hP hD hS k hk hf hfin hn hfit d3 kk
/-- new C; dup; <init> -/
theorem k_make (hx : k_X p s m args c D a A cc own) (hcl : k_Cl ci C T N ty) (hP : va_P D pm_classes ws H) (hD : va_D A ws) (hS : va_S A s.heap H locs) (w1 : Cond.classLink (pm_cn own) idx C ∈ pm_G) (w2 : Cond.instantiable C N ∈ pm_G) (w3 : Cond.initialized C ∈ pm_G) (hcells : cells + 1 ≤ R.cells) (hslots : slots + N ≤ R.slots) (d0 : decode cc pc = .ok (.new idx, 3)) (d1 : decode cc (pc + 3) = .ok (.dup, 1))
    {E : State → Prop} (hE1 : ∀ (v : Array Value) (U : State) (g : JFrame) (mk : MethodId), E U → E (U.calling g mk v)) (hE2 : ∀ U : State, s.WarmedH U.vm → E U) {lab : List pmR} {o L : Nat} {xs : Nat → Int32} {mc ms : Nat}
    (hrun : ∀ (q : Nat) (H1 : Heap), PreS s H1 (k_P0 D a ci N ty E q H1.size) [.ref q] → va_Run p l e R s m args below meth c H1 locs (cells + 1) (slots + N) mc ms (F0 m (pc + 4) ls (.ref q :: .ref q :: rest)) (.ref q :: rest) (k_Q0 D a ci N ty lab o L xs q H1.size #[.ref q]) (k_A0 ci N ty q H1.size))
    (kk : ∀ (q : Nat → Nat → Nat → Nat) (H1 : Heap) (locs1 : List Loc), va_P D pm_classes (ws ++ k_w lab a L xs q) H1 → va_D A (ws ++ k_w lab a L xs q) → va_S A s.heap H1 locs1 → W p l e R s m args below meth c H1 locs1 (cells + 1 + mc) (slots + N + ms) Q (F0 m (pc + 7) ls (.ref (q ci o 0) :: rest))) : W p l e R s m args below meth c H locs cells slots Q (F0 m pc ls rest) := by
  obtain ⟨hex, hb, hown, hts, hK, hA⟩ := hx
  refine va_new (ci := ci) (C := C) (T := T) (N := N) (fs := k_f N (fun j => defaultValue (ty j))) hex hb hts (pm_cls_w hcl.1).1 ty hcl.2 hown (hts _ w1) (hts _ w2) (hts _ w3) hK hP hD hS hA hcl.1 (fun j hj => (k_f_V (v := fun j => defaultValue (ty j)) hj).symm) hcells hslots d0 (fun q H1 hP1 hD1 hS1 => ?_)
  refine lv_dup hex hb d1 rfl ?_
  have hcell : (ws ++ [k_o ci N ty q])[ws.length]? = some (k_o ci N ty q) := by
    rw [List.getElem?_append_right (Nat.le_refl _), Nat.sub_self]
    rfl
  have hP1c : va_P D pm_classes [k_o ci N ty q] H1 := by
    intro j x hj
    have hz : j < 1 := (List.getElem?_eq_some_iff.mp hj).1
    rw [show j = 0 by omega] at hj
    cases hj
    exact hP1 ws.length _ hcell
  have hpre : PreS s H1 (k_P0 D a ci N ty E q H1.size) [.ref q] := by
    refine ⟨fun v U g mk h => ?_, fun U hU hW => ?_⟩
    · obtain ⟨h1, h2, h3, h4, h5⟩ := h
      exact ⟨h1, h2, h3, va_K.moved (u := U) (U := U.calling g mk v) (Vm.Alike.refl U.vm) h4, hE1 v U g mk h5⟩
    · exact ⟨rfl, by rw [hU], by rw [hU]; exact hP1c, va_K.moved hW.alike hK, hE2 U hW⟩
  have hFc : ∀ z, k_A0 ci N ty q H1.size z → A z := va_free (wc := [k_o ci N ty q]) hD1 hS1 hA [ws.length] (by
    show [(ws ++ [k_o ci N ty q])[ws.length]?] = _
    rw [hcell]
    rfl)
  refine va_callv (hrun q H1 hpre) hS1 (fun z _ h => hFc z h) hFc (fun u t H2 locs2 ht hvm hpost hB hz hk hS2 => ?_)
  obtain ⟨hP2, hK2, hD2⟩ := hB
  rw [ht] at hP2
  obtain ⟨hP3, hD3⟩ := va_join (wr := ws) (wc := [k_o ci N ty q]) (w1 := k_w lab a L xs u) hP1 hD1 [ws.length] (List.range ws.length) (by
    show [(ws ++ [k_o ci N ty q])[ws.length]?] = _
    rw [hcell]
    rfl) (k_range ws _) (k_nd List.nodup_range) (fun i hi hi2 => by
      have h1 := List.mem_range.mp hi
      have h2 : i = ws.length := by simpa using hi2
      omega) hk hFc hP2 hD2
  have h9 := kk u H2 locs2 hP3 hD3 hS2
  rw [hpost] at h9
  exact h9
/-- a constructor, from its entry to behind Object's -/
theorem k_init (hcl : k_Cl ci C T N ty) {y : MethodName} {nL : Nat} (hy : plainName y.cls = true) (hyn : y.name = "<init>") (hyc : y.cls = pm_cn ci) {E : State → Prop} {sz : Nat} {lab : List pmR} {o L : Nat} {xs : Nat → Int32} {fr mc ms lo : Nat} (hfr : 1 ≤ fr) (hlo : 12 ≤ lo) (hnL : 1 ≤ nL) (w1 : Cond.methodLink (pm_cn ci) idx objectInit ∈ pm_G) (d0 : decode cc 0 = .ok (.aload_n 0, 1)) (d1 : decode cc 1 = .ok (.invokespecial idx, 3))
    (body : ∀ (p : Program) (e : Env) (s : State) (m : MethodId) (below : List Frame) (meth : Method) (c : Code) (A : Nat → Prop) (ls : Array Slot), A = k_A0 ci N ty h0 s.heap.size → k_X p s m #[.ref h0] c D a A cc ci → meth.name = "<init>" → c.maxLocals = nL → meth.sig.returnType = none → meth.locks = false → E s → s.heap.size = sz → va_P D pm_classes [(h0, .inr (ci, k_f N (fun j => defaultValue (ty j))))] s.heap → va_D A [(h0, .inr (ci, k_f N (fun j => defaultValue (ty j))))] → va_S A s.heap s.heap [] → lv_has ls nL [(0, .ref h0)] →
      W p l e { frames := fr, cells := mc, slots := ms, locals := lo } s m #[.ref h0] below meth c s.heap [] 0 0 (MQ below (k_Q0 D a ci N ty lab o L xs h0 sz) #[.ref h0] s mc ms (k_A0 ci N ty h0 sz)) (F0 m 4 ls [])) :
    Met l y (Cond.code y cc nL none :: pm_G) { frames := fr, cells := mc, slots := ms, locals := lo } (k_P0 D a ci N ty E h0 sz) (k_Q0 D a ci N ty lab o L xs h0 sz) mc ms (k_A0 ci N ty h0 sz) := by
  refine Met.ofW (cc := cc) (maxL := nL) (ret := none) hy rfl ?_
  intro p e s m args below meth c s₁ B hml hv
  obtain ⟨rfl, hsz, hP, hK, hE⟩ := hv
  have hx := B.exec
  have hb := B.bytes
  have hr := B.returns
  have hts0 := atoms_spec (ws := Cond.code y cc nL none :: pm_G) B.pre
  have hts : ∀ w ∈ pm_G, w.before ([.ref h0] : List Value).toArray s = true := fun w hw => hts0 w (List.mem_cons_of_mem _ hw)
  have hown : s.vm.findClass (pm_cn ci) = some m.cls := hyc ▸ findClass_of_methodNamed B.named
  have hlocks := B.notSynchronized
  have hin : meth.name = "<init>" := (name_of_methodNamed B.named B.method).1.trans hyn
  have hD : va_D (k_A0 ci N ty h0 s.heap.size) [k_o ci N ty h0] := by
    refine ⟨fun i j x y hi hj e => ?_, fun k z hk => va_A.in hk⟩
    have h1 : i < 1 := (List.getElem?_eq_some_iff.mp hi).1
    have h2 : j < 1 := (List.getElem?_eq_some_iff.mp hj).1
    omega
  have hl := lv_entry ([.ref h0]) (n := nL) hnL
  rw [lg_entry_eq]
  generalize (lg_sl ([.ref h0]) ++ List.replicate (nL - (lg_sl ([.ref h0])).length) Slot.unset).toArray = ls at hl ⊢
  have hl : lv_has ls nL [(0, .ref h0)] := hl
  refine lv_aload_n hx hb d0 rfl (lv_at hl 0 rfl) ?_
  refine W.objInit hx hb hown (hts _ w1) (hts _ k_oi) (hts _ k_oc) rfl (by rw [hml]; exact hl.1) rfl d1 hfr hlo ?_
  refine W.eq (g2 := F0 m 4 ls []) rfl ?_
  exact body p e s m below meth c _ ls rfl ⟨hx, hb, hown, hts, hK, fun q h => Or.inr h⟩ hin hml hr hlocks hE hsz hP hD va_S.rf hl
/-- the end of a constructor -/
theorem k_end (hx : k_X p s m #[.ref h0] c D a A cc ci) (hr : meth.sig.returnType = none) (hlk : meth.locks = false) (hA : A = k_A0 ci N ty h0 s.heap.size) {sz : Nat} (hsz : s.heap.size = sz) {lab : List pmR} {o L : Nat} {xs : Nat → Int32} (q : Nat → Nat → Nat → Nat) (hq : q ci o 0 = h0) (hP : va_P D pm_classes ((h0, .inr (ci, k_f N v)) :: w) H) (hD : va_D A ((h0, .inr (ci, k_f N v)) :: w)) (hS : va_S A s.heap H locs) (hN : N = pm_nf ci) (he : ∀ j, j < N → v j = pm_fv q (k_s L xs) ci o j) (hw : (h0, .inr (ci, pm_fs q (k_s L xs) ci o)) :: w = k_w lab a L xs q) {mc ms : Nat} (h1 : cells ≤ mc) (h2 : slots ≤ ms) (d : decode cc pc = .ok (.return_, 1)) :
    W p l e R s m #[.ref h0] below meth c H locs cells slots (MQ below (k_Q0 D a ci N ty lab o L xs h0 sz) #[.ref h0] s mc ms (k_A0 ci N ty h0 sz)) (F0 m pc ls []) := by
  subst hsz
  subst hA
  rw [k_f_fs hN he, hw] at hP hD
  refine W.widen h1 h2 ?_
  exact W.vret hx.1 hx.2.1 hr (fun t ht hW => ⟨⟨q, rfl, hq, by rw [ht]; exact hP, va_K.moved hW.alike hx.2.2.2.2.1, hD⟩, hS.F ht⟩) hS.2.2 d hlk
end KROW
