/-! making objects and arrays: rows with the array classes as the layout has them; the store at the start -/
section KNEW
variable {p : Program} {l : Launch} {e : Env} {R : Room} {s : State} {m : MethodId} {args : Array Value} {below : List Frame} {meth : Method} {c : Code} {H : Heap} {locs : List Loc} {cells slots : Nat} {Q : State → Prop}
variable {cc : ByteArray} {pc : Nat} {ls : Array Slot} {rest : List Value} {D : va_G} {cl : List vw_C} {A : Nat → Prop} {a : Nat → ClassId} {ws : va_W} {H0 : Heap}
theorem k_newi (hexec : p.tables.exec = Jvm.exec) (hb : c.code = cc) (harr : (Cond.arrayClass .int).before args s = true) (hK : va_K D cl (pm_tys a) s) (hP : va_P D cl ws H) (hD : va_D A ws) (hS : va_S A H0 H locs) (hA : ∀ q, H0.size ≤ q → A q)
    {n : Int32} (N' : Nat) (hn : ¬ n < 0) (hN : n.toNatClampNeg = N') (hbytes : N' * 4 ≤ 536870912) (hcells : cells + 1 ≤ R.cells) (hslots : slots + N' ≤ R.slots) (hdg : decode cc pc = .ok (.newarray .int, 2))
    (kk : ∀ (q : Nat) (H1 : Heap), va_P D cl (ws ++ [(q, .inl (a 0, N', .inl (fun _ => 0)))]) H1 → va_D A (ws ++ [(q, .inl (a 0, N', .inl (fun _ => 0)))]) → va_S A H0 H1 locs →
      W p l e R s m args below meth c H1 locs (cells + 1) (slots + N') Q (F0 m (pc + 2) ls (.ref q :: rest))) : W p l e R s m args below meth c H locs cells slots Q (F0 m pc ls (.int n :: rest)) := by
  refine va_newa (atype := .int) (ty := .int) (a0 := (N', .inl (fun _ => 0))) hexec hb harr rfl hK hP hD hS hA (fun _ => rfl) hn hN hbytes hcells hslots hdg (fun q cA H1 hK1 hP1 hD1 hS1 => ?_)
  have e1 : s.vm.findClass ("[" ++ (FieldType.int).toString) = some cA := (hK1.2 5 (cA, .int) rfl).2
  have e2 : s.vm.findClass ("[" ++ (FieldType.int).toString) = some (a 0) := (hK.2 0 (a 0, .int) rfl).2
  have e3 : cA = a 0 := Option.some.inj (e1.symm.trans e2)
  subst e3
  exact kk q H1 hP1 hD1 hS1
theorem k_newl (hexec : p.tables.exec = Jvm.exec) (hb : c.code = cc) (harr : (Cond.arrayClass .long).before args s = true) (hK : va_K D cl (pm_tys a) s) (hP : va_P D cl ws H) (hD : va_D A ws) (hS : va_S A H0 H locs) (hA : ∀ q, H0.size ≤ q → A q)
    {n : Int32} (N' : Nat) (hn : ¬ n < 0) (hN : n.toNatClampNeg = N') (hbytes : N' * 8 ≤ 536870912) (hcells : cells + 1 ≤ R.cells) (hslots : slots + N' ≤ R.slots) (hdg : decode cc pc = .ok (.newarray .long, 2))
    (kk : ∀ (q : Nat) (H1 : Heap), va_P D cl (ws ++ [(q, .inl (a 1, N', .inr (.inl (fun _ => 0))))]) H1 → va_D A (ws ++ [(q, .inl (a 1, N', .inr (.inl (fun _ => 0))))]) → va_S A H0 H1 locs →
      W p l e R s m args below meth c H1 locs (cells + 1) (slots + N') Q (F0 m (pc + 2) ls (.ref q :: rest))) : W p l e R s m args below meth c H locs cells slots Q (F0 m pc ls (.int n :: rest)) := by
  refine va_newa (atype := .long) (ty := .long) (a0 := (N', .inr (.inl (fun _ => 0)))) hexec hb harr rfl hK hP hD hS hA (fun _ => rfl) hn hN hbytes hcells hslots hdg (fun q cA H1 hK1 hP1 hD1 hS1 => ?_)
  have e1 : s.vm.findClass ("[" ++ (FieldType.long).toString) = some cA := (hK1.2 5 (cA, .long) rfl).2
  have e2 : s.vm.findClass ("[" ++ (FieldType.long).toString) = some (a 1) := (hK.2 1 (a 1, .long) rfl).2
  have e3 : cA = a 1 := Option.some.inj (e1.symm.trans e2)
  subst e3
  exact kk q H1 hP1 hD1 hS1
theorem k_newz (hexec : p.tables.exec = Jvm.exec) (hb : c.code = cc) (harr : (Cond.arrayClass .boolean).before args s = true) (hK : va_K D cl (pm_tys a) s) (hP : va_P D cl ws H) (hD : va_D A ws) (hS : va_S A H0 H locs) (hA : ∀ q, H0.size ≤ q → A q)
    {n : Int32} (N' : Nat) (hn : ¬ n < 0) (hN : n.toNatClampNeg = N') (hbytes : N' * 1 ≤ 536870912) (hcells : cells + 1 ≤ R.cells) (hslots : slots + N' ≤ R.slots) (hdg : decode cc pc = .ok (.newarray .boolean, 2))
    (kk : ∀ (q : Nat) (H1 : Heap), va_P D cl (ws ++ [(q, .inl (a 2, N', .inl (fun _ => 0)))]) H1 → va_D A (ws ++ [(q, .inl (a 2, N', .inl (fun _ => 0)))]) → va_S A H0 H1 locs →
      W p l e R s m args below meth c H1 locs (cells + 1) (slots + N') Q (F0 m (pc + 2) ls (.ref q :: rest))) : W p l e R s m args below meth c H locs cells slots Q (F0 m pc ls (.int n :: rest)) := by
  refine va_newa (atype := .boolean) (ty := .boolean) (a0 := (N', .inl (fun _ => 0))) hexec hb harr rfl hK hP hD hS hA (fun _ => rfl) hn hN hbytes hcells hslots hdg (fun q cA H1 hK1 hP1 hD1 hS1 => ?_)
  have e1 : s.vm.findClass ("[" ++ (FieldType.boolean).toString) = some cA := (hK1.2 5 (cA, .boolean) rfl).2
  have e2 : s.vm.findClass ("[" ++ (FieldType.boolean).toString) = some (a 2) := (hK.2 2 (a 2, .boolean) rfl).2
  have e3 : cA = a 2 := Option.some.inj (e1.symm.trans e2)
  subst e3
  exact kk q H1 hP1 hD1 hS1
/-- an array of objects of a class: t0 its place among the array classes -/
theorem k_newq (hexec : p.tables.exec = Jvm.exec) (hb : c.code = cc) {own C : String} {index : Nat} (hown : s.vm.findClass own = some m.cls) (hclink : (Cond.classLink own index C).before args s = true) (hover : va_AO C s) (t0 : Nat) {b : ClassId} (ht0 : (pm_tys a)[t0]? = some (b, .object C)) (hK : va_K D cl (pm_tys a) s) (hP : va_P D cl ws H) (hD : va_D A ws) (hS : va_S A H0 H locs) (hA : ∀ q, H0.size ≤ q → A q)
    {n : Int32} (N' : Nat) (hn : ¬ n < 0) (hN : n.toNatClampNeg = N') (hbytes : N' * 4 ≤ 536870912) (hcells : cells + 1 ≤ R.cells) (hslots : slots + N' ≤ R.slots) (hdg : decode cc pc = .ok (.anewarray index, 3))
    (kk : ∀ (q : Nat) (H1 : Heap), va_P D cl (ws ++ [(q, .inl (b, N', .inr (.inr (.inr (.inr (fun _ => none))))))]) H1 → va_D A (ws ++ [(q, .inl (b, N', .inr (.inr (.inr (.inr (fun _ => none))))))]) → va_S A H0 H1 locs →
      W p l e R s m args below meth c H1 locs (cells + 1) (slots + N') Q (F0 m (pc + 3) ls (.ref q :: rest))) : W p l e R s m args below meth c H locs cells slots Q (F0 m pc ls (.int n :: rest)) := by
  refine va_newq hexec hb hown hclink hover hK hP hD hS hA hn hN hbytes hcells hslots hdg (fun q cA H1 hK1 hP1 hD1 hS1 => ?_)
  have e1 : va_RA s cA (.object C) := (hK1.2 5 (cA, .object C) rfl).2
  have e2 : va_RA s b (.object C) := (hK.2 t0 (b, .object C) ht0).2
  obtain ⟨_, _, -, -, -, e1⟩ := e1
  obtain ⟨_, _, -, -, -, e2⟩ := e2
  have e3 : cA = b := Option.some.inj (e1.symm.trans e2)
  subst e3
  exact kk q H1 hP1 hD1 hS1
end KNEW
/-- the contents of an array count below its length alone -/
theorem k_arr {cA : ClassId} {N : Nat} {f g : Nat → Value} (h : ∀ i, i < N → f i = g i) : arrV cA N f = arrV cA N g := by
  unfold arrV
  congr 1
  congr 1
  funext j
  exact h j.val j.isLt
theorem k_ints {D : va_G} {cl : List vw_C} {ws : va_W} {H : Heap} (hP : va_P D cl ws H) {k q N : Nat} {cA : ClassId} {f : Nat → Int32} (hk : ws[k]? = some (q, .inl (cA, N, .inl f))) (g : Nat → Int32) (h : ∀ i, i < N → f i = g i) : va_P D cl (ws.set k (q, .inl (cA, N, .inl g))) H := by
  intro j x hx
  by_cases hj : k = j
  · subst hj
    rw [List.getElem?_set_self (List.getElem?_eq_some_iff.mp hk).1] at hx
    cases hx
    have h1 : H[q]? = some (vp_cell cA (N, .inl f)) := hP k _ hk
    show H[q]? = some (vp_cell cA (N, .inl g))
    rw [h1, vp_cell_i, vp_cell_i, k_arr (g := fun j => .int (g j)) (fun i hi => by rw [h i hi])]
  · rw [List.getElem?_set_ne hj] at hx
    exact hP j x hx
theorem k_refs {D : va_G} {cl : List vw_C} {ws : va_W} {H : Heap} (hP : va_P D cl ws H) {k q N : Nat} {cA : ClassId} {f : Nat → Option Nat} (hk : ws[k]? = some (q, .inl (cA, N, .inr (.inr (.inr (.inr f)))))) (g : Nat → Option Nat) (h : ∀ i, i < N → f i = g i) : va_P D cl (ws.set k (q, .inl (cA, N, .inr (.inr (.inr (.inr g)))))) H := by
  intro j x hx
  by_cases hj : k = j
  · subst hj
    rw [List.getElem?_set_self (List.getElem?_eq_some_iff.mp hk).1] at hx
    cases hx
    have h1 : H[q]? = some (vp_cell cA (N, .inr (.inr (.inr (.inr f))))) := hP k _ hk
    show H[q]? = some (vp_cell cA (N, .inr (.inr (.inr (.inr g)))))
    rw [h1, vp_cell_q, vp_cell_q, k_arr (g := fun j => va_rf (g j)) (fun i hi => by rw [h i hi])]
  · rw [List.getElem?_set_ne hj] at hx
    exact hP j x hx
/-- the store when all is made: L ints xs the script -/
def k_s1 (L : Nat) (xs : Nat → Int32) (c _o k i : Nat) : Int32 := match c with
  | 3 => if k = 1 then -1 else 0
  | 4 => if k = 3 then -1 else 0
  | 6 => if k = 3 then -1 else 0
  | 9 => if k = 11 then 16 else 0
  | 10 => if k = 8 then -1 else if k = 18 then 16 else if k = 38 then -1 else 0
  | 11 => if k = 0 then xs i else if k = 1 then nI L else 0
  | _ => 0
def k_s (L : Nat) (xs : Nat → Int32) : pmS := (k_s1 L xs, fun _ _ _ _ => 0)
/-- the cells of some labels -/
def k_w (lay : List pmR) (a : Nat → ClassId) (L : Nat) (xs : Nat → Int32) (q : Nat → Nat → Nat → Nat) : va_W := lay.map fun x => (q x.1 x.2.1 x.2.2, pm_en q a (k_s L xs) x)
theorem k_w_P {D : va_G} {cl : List vw_C} {lay lay2 : List pmR} {a : Nat → ClassId} {L : Nat} {xs : Nat → Int32} {q : Nat → Nat → Nat → Nat} {H : Heap} (h : ∀ x ∈ lay2, x ∈ lay) (hP : va_P D cl (k_w lay a L xs q) H) : va_P D cl (k_w lay2 a L xs q) H := by
  intro k z hz
  have h1 := List.mem_of_getElem? hz
  obtain ⟨x, hx, rfl⟩ := List.mem_map.mp h1
  obtain ⟨j, hj⟩ := List.getElem?_of_mem (h x hx)
  refine hP j _ ?_
  unfold k_w
  rw [List.getElem?_map, hj]
  rfl
theorem k_w_inj {A : Nat → Prop} {lay : List pmR} {a : Nat → ClassId} {L : Nat} {xs : Nat → Int32} {q : Nat → Nat → Nat → Nat} (hD : va_D A (k_w lay a L xs q)) : ∀ x ∈ lay, ∀ y ∈ lay, q x.1 x.2.1 x.2.2 = q y.1 y.2.1 y.2.2 → x = y := by
  intro x hx y hy e
  obtain ⟨i, hi⟩ := List.getElem?_of_mem hx
  obtain ⟨j, hj⟩ := List.getElem?_of_mem hy
  have h1 : (k_w lay a L xs q)[i]? = some (q x.1 x.2.1 x.2.2, pm_en q a (k_s L xs) x) := by
    unfold k_w
    rw [List.getElem?_map, hi]
    rfl
  have h2 : (k_w lay a L xs q)[j]? = some (q y.1 y.2.1 y.2.2, pm_en q a (k_s L xs) y) := by
    unfold k_w
    rw [List.getElem?_map, hj]
    rfl
  have h3 := hD.1 i j _ _ h1 h2 e
  subst h3
  rw [hi] at hj
  exact Option.some.inj hj
theorem k_w_A {A : Nat → Prop} {lay : List pmR} {a : Nat → ClassId} {L : Nat} {xs : Nat → Int32} {q : Nat → Nat → Nat → Nat} (hD : va_D A (k_w lay a L xs q)) {x : pmR} (hx : x ∈ lay) : A (q x.1 x.2.1 x.2.2) := by
  obtain ⟨i, hi⟩ := List.getElem?_of_mem hx
  have h1 : (k_w lay a L xs q)[i]? = some (q x.1 x.2.1 x.2.2, pm_en q a (k_s L xs) x) := by
    unfold k_w
    rw [List.getElem?_map, hi]
    rfl
  exact hD.2 i _ h1
theorem k_w_D {A : Nat → Prop} {lay lay2 : List pmR} {a : Nat → ClassId} {L : Nat} {xs : Nat → Int32} {q : Nat → Nat → Nat → Nat} (h : ∀ x ∈ lay2, x ∈ lay) (hn : lay2.Nodup) (hD : va_D A (k_w lay a L xs q)) : va_D A (k_w lay2 a L xs q) := by
  have at2 : ∀ (k : Nat) (z : Nat × va_E), (k_w lay2 a L xs q)[k]? = some z → ∃ x, lay2[k]? = some x ∧ z.1 = q x.1 x.2.1 x.2.2 := by
    intro k z hz
    unfold k_w at hz
    rw [List.getElem?_map] at hz
    cases hx : lay2[k]? with
    | none => rw [hx] at hz; cases hz
    | some x =>
      rw [hx] at hz
      exact ⟨x, rfl, by rw [← Option.some.inj hz]⟩
  refine ⟨fun i j y z hi hj e => ?_, fun k z hk => ?_⟩
  · obtain ⟨x1, h1, e1⟩ := at2 i y hi
    obtain ⟨x2, h2, e2⟩ := at2 j z hj
    rw [e1, e2] at e
    have h3 := k_w_inj hD x1 (h _ (List.mem_of_getElem? h1)) x2 (h _ (List.mem_of_getElem? h2)) e
    subst h3
    exact (List.getElem?_inj (List.getElem?_eq_some_iff.mp h1).1 hn).mp (h1.trans h2.symm)
  · obtain ⟨x1, h1, e1⟩ := at2 k z hk
    rw [e1]
    exact k_w_A hD (h _ (List.mem_of_getElem? h1))
/-- the array classes -/
theorem k_tys {s : State} {args : Array Value} {D : va_G} (hK : va_K D pm_classes [] s) (h0 : (Cond.arrayClass .int).before args s = true) (h1 : (Cond.arrayClass .long).before args s = true) (h2 : (Cond.arrayClass .boolean).before args s = true) (h3 : va_AO RX0 s) (h5 : va_AO RX2 s) : ∃ a : Nat → ClassId, va_K D pm_classes (pm_tys a) s := by
  obtain ⟨c0, k0, m0, f0, g0, i0⟩ := Cond.arrayClass_spec h0
  obtain ⟨c1, k1, m1, f1, g1, i1⟩ := Cond.arrayClass_spec h1
  obtain ⟨c2, k2, m2, f2, g2, i2⟩ := Cond.arrayClass_spec h2
  obtain ⟨m3, c3, k3, e3, -, g3, i3, f3⟩ := Cond.arrayOver_spec h3
  obtain ⟨m5, c5, k5, e5, -, g5, i5, f5⟩ := Cond.arrayOver_spec h5
  refine ⟨fun j => if j = 0 then c0 else if j = 1 then c1 else if j = 2 then c2 else if j = 3 then c3 else c5, hK.1, fun k x hx => ?_⟩
  match k, hx with
  | 0, hx => cases hx; exact ⟨fun n z => ⟨(fun k h => by cases h), k0, g0, m0, i0⟩, f0⟩
  | 1, hx => cases hx; exact ⟨fun n z => ⟨(fun k h => by cases h), k1, g1, m1, i1⟩, f1⟩
  | 2, hx => cases hx; exact ⟨fun n z => ⟨(fun k h => by cases h), k2, g2, m2, i2⟩, f2⟩
  | 3, hx => cases hx; exact ⟨fun n z => ⟨(fun k h => by cases h), k3, g3, m3, i3⟩, k3, m3, g3, i3, e3, f3⟩
  | 4, hx => cases hx; exact ⟨fun n z => ⟨(fun k h => by cases h), k5, g5, m5, i5⟩, k5, m5, g5, i5, e5, f5⟩
  | k + 5, hx => simp [pm_tys] at hx
