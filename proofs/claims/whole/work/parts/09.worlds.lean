/-! the store as a world of cells -/
def pm_val (q : Nat → Nat → Nat → Nat) (v : pmV) : Value := match v with
  | .inl x => .int x
  | .inr (.inl x) => .long x
  | .inr (.inr r) => .ref (q r.1 r.2.1 r.2.2)
theorem pm_val_cat (q : Nat → Nat → Nat → Nat) (v : pmV) : (pm_val q v).category = pm_cat v := by
  rcases v with x | x | x <;> rfl
def pm_tys (a : Nat → ClassId) : List (ClassId × FieldType) := [(a 0, .int), (a 1, .long), (a 2, .boolean), (a 3, .object RX0), (a 5, .object RX2)]
def pm_fv (q : Nat → Nat → Nat → Nat) (σ : pmS) (c o k : Nat) : Value := match pm_fk c k with
  | 0 => .int (σ.1 c o k 0)
  | 1 => .long (σ.2 c o k 0)
  | 2 => .ref (q c o (k + 1))
  | t + 3 => .ref (q t 0 0)
def pm_ec (q : Nat → Nat → Nat → Nat) (σ : pmS) (c o k : Nat) : (Nat → Int32) ⊕ (Nat → Int64) ⊕ (Nat → UInt32) ⊕ (Nat → UInt64) ⊕ (Nat → Option Nat) := match pm_kd c k with
  | 0 => .inl (σ.1 c o k)
  | 1 => .inr (.inl (σ.2 c o k))
  | 2 => .inl (σ.1 c o k)
  | t + 3 => .inr (.inr (.inr (.inr (fun i => some (q t i 0)))))
def pm_fs (q : Nat → Nat → Nat → Nat) (σ : pmS) (c o : Nat) : List Value := (List.range (pm_nf c)).map (pm_fv q σ c o)
def pm_en (q : Nat → Nat → Nat → Nat) (a : Nat → ClassId) (σ : pmS) (x : pmR) : va_E := match x with
  | (c, o, 0) => .inr (c, pm_fs q σ c o)
  | (c, o, k + 1) => .inl (a (pm_kd c k), pm_len σ c k, pm_ec q σ c o k)
def pm_ws (q : Nat → Nat → Nat → Nat) (a : Nat → ClassId) (σ : pmS) : va_W := pm_lay.map fun x => (q x.1 x.2.1 x.2.2, pm_en q a σ x)
def pm_inj (q : Nat → Nat → Nat → Nat) : Prop := ∀ x ∈ pm_lay, ∀ y ∈ pm_lay, q x.1 x.2.1 x.2.2 = q y.1 y.2.1 y.2.2 → x = y
def pm_A (q : Nat → Nat → Nat → Nat) : Nat → Prop := fun n => ∃ x ∈ pm_lay, n = q x.1 x.2.1 x.2.2
theorem pm_ws_at {q : Nat → Nat → Nat → Nat} {a : Nat → ClassId} {j : Nat} {x : pmR} (h : pm_lay[j]? = some x) (σ : pmS) : (pm_ws q a σ)[j]? = some (q x.1 x.2.1 x.2.2, pm_en q a σ x) := by
  unfold pm_ws
  rw [List.getElem?_map, h]
  rfl
theorem pm_ws_in {q : Nat → Nat → Nat → Nat} {a : Nat → ClassId} {σ : pmS} {j : Nat} {z : Nat × va_E} (h : (pm_ws q a σ)[j]? = some z) : ∃ x : pmR, pm_lay[j]? = some x ∧ z = (q x.1 x.2.1 x.2.2, pm_en q a σ x) := by
  unfold pm_ws at h
  rw [List.getElem?_map] at h
  cases hx : pm_lay[j]? with
  | none => rw [hx] at h; cases h
  | some x =>
    rw [hx] at h
    exact ⟨x, rfl, (Option.some.inj h).symm⟩
theorem pm_D {q : Nat → Nat → Nat → Nat} (hq : pm_inj q) (a : Nat → ClassId) (σ : pmS) : va_D (pm_A q) (pm_ws q a σ) := by
  refine ⟨fun i j x y hi hj e => ?_, fun k z hk => ?_⟩
  · obtain ⟨x0, h1, rfl⟩ := pm_ws_in hi
    obtain ⟨y0, h2, rfl⟩ := pm_ws_in hj
    have h3 := hq x0 (List.mem_of_getElem? h1) y0 (List.mem_of_getElem? h2) e
    subst h3
    exact (List.getElem?_inj (List.getElem?_eq_some_iff.mp h1).1 pm_lay_nd).mp (h1.trans h2.symm)
  · obtain ⟨x0, h1, rfl⟩ := pm_ws_in hk
    exact ⟨x0, List.mem_of_getElem? h1, rfl⟩
theorem pm_ws_set {q : Nat → Nat → Nat → Nat} {a : Nat → ClassId} {σ σ' : pmS} {j : Nat} {x : pmR} (h : pm_lay[j]? = some x) (ho : ∀ y ∈ pm_lay, y ≠ x → pm_en q a σ' y = pm_en q a σ y) : (pm_ws q a σ).set j (q x.1 x.2.1 x.2.2, pm_en q a σ' x) = pm_ws q a σ' := by
  apply List.ext_getElem?
  intro i
  have hl : j < (pm_ws q a σ).length := by
    unfold pm_ws
    rw [List.length_map]
    exact (List.getElem?_eq_some_iff.mp h).1
  by_cases hi : i = j
  · subst hi
    rw [List.getElem?_set_self hl, pm_ws_at h]
  · rw [List.getElem?_set_ne (Ne.symm hi)]
    cases hx : pm_lay[i]? with
    | none =>
      unfold pm_ws
      rw [List.getElem?_map, List.getElem?_map, hx]
      rfl
    | some y =>
      have hne : y ≠ x := fun e => hi ((List.getElem?_inj (List.getElem?_eq_some_iff.mp hx).1 pm_lay_nd).mp (by rw [hx, h, e]))
      rw [pm_ws_at hx, pm_ws_at hx, ho y (List.mem_of_getElem? hx) hne]
/-! what the layout says -/
theorem pm_lay_o {c o : Nat} (h : (c, o, 0) ∈ pm_lay) : c < 11 ∧ (∀ k, k < pm_nf c → pm_fk c k = 2 → (c, o, k + 1) ∈ pm_lay) ∧ (∀ k t, k < pm_nf c → pm_fk c k = t + 3 → (t, 0, 0) ∈ pm_lay) := by
  have h1 := List.all_eq_true.mp pm_okY _ h
  unfold pm_okY1 at h1
  dsimp only at h1
  rw [Bool.and_eq_true, decide_eq_true_eq] at h1
  refine ⟨h1.1, fun k hk hf => ?_, fun k t hk hf => ?_⟩
  · have h2 := List.all_eq_true.mp h1.2 k (List.mem_range.mpr hk)
    rw [hf] at h2
    simpa using h2
  · have h2 := List.all_eq_true.mp h1.2 k (List.mem_range.mpr hk)
    rw [hf] at h2
    simpa using h2
theorem pm_lay_a {c o k : Nat} (h : (c, o, k + 1) ∈ pm_lay) : c < 11 ∧ k < pm_nf c ∧ pm_fk c k = 2 ∧ ∃ n d, pm_ar c k = some (n, d) ∧ n < 2305 ∧ (d < 3 ∨ d = 3 ∨ d = 5) ∧ (3 ≤ d → ∀ i, i < n → (d - 3, i, 0) ∈ pm_lay) := by
  have h1 := List.all_eq_true.mp pm_okY _ h
  unfold pm_okY1 at h1
  dsimp only at h1
  rw [Bool.and_eq_true, Bool.and_eq_true, Bool.and_eq_true, decide_eq_true_eq, decide_eq_true_eq, decide_eq_true_eq] at h1
  obtain ⟨⟨⟨h2, h3⟩, h4⟩, h5⟩ := h1
  refine ⟨h2, h3, h4, ?_⟩
  split at h5
  next n d he =>
    rw [Bool.and_eq_true, Bool.and_eq_true, decide_eq_true_eq, decide_eq_true_eq] at h5
    refine ⟨n, d, he, h5.1.1, h5.1.2, fun hd i hi => ?_⟩
    have h6 := h5.2
    rw [if_pos hd] at h6
    have h7 := List.all_eq_true.mp h6 i (List.mem_range.mpr hi)
    simpa using h7
  next => cases h5
theorem pm_len_lt {σ : pmS} {c k : Nat} (h : c < 11) {n d : Nat} (hr : pm_ar c k = some (n, d)) : pm_len σ c k = n := by
  unfold pm_len
  rw [if_neg (by omega), hr]
theorem pm_kd_lt {c k : Nat} (h : c < 11) {n d : Nat} (hr : pm_ar c k = some (n, d)) : pm_kd c k = d := by
  unfold pm_kd
  rw [if_neg (by omega), hr]
/-- two stores that differ at most in one field or array -/
def pm_off (σ σ' : pmS) (c o k : Nat) : Prop := ∀ c' o' k', ¬ (c' = c ∧ o' = o ∧ k' = k) → σ'.1 c' o' k' = σ.1 c' o' k' ∧ σ'.2 c' o' k' = σ.2 c' o' k'
theorem pm_off_wi (σ : pmS) (c o k i : Nat) (v : Int32) : pm_off σ (pm_wi σ c o k i v) c o k := by
  intro c' o' k' h
  refine ⟨funext fun j => ?_, rfl⟩
  show (if c' = c ∧ o' = o ∧ k' = k ∧ j = i then v else σ.1 c' o' k' j) = _
  rw [if_neg (fun z => h ⟨z.1, z.2.1, z.2.2.1⟩)]
theorem pm_off_wl (σ : pmS) (c o k i : Nat) (v : Int64) : pm_off σ (pm_wl σ c o k i v) c o k := by
  intro c' o' k' h
  refine ⟨rfl, funext fun j => ?_⟩
  show (if c' = c ∧ o' = o ∧ k' = k ∧ j = i then v else σ.2 c' o' k' j) = _
  rw [if_neg (fun z => h ⟨z.1, z.2.1, z.2.2.1⟩)]
theorem pm_off_wr (σ : pmS) (c o k : Nat) (f : Nat → Int32) : pm_off σ (pm_wr σ c o k f) c o k := by
  intro c' o' k' h
  refine ⟨funext fun j => ?_, rfl⟩
  show (if c' = c ∧ o' = o ∧ k' = k then f j else σ.1 c' o' k' j) = _
  rw [if_neg h]
theorem pm_off_len {σ σ' : pmS} {c o k : Nat} (h : pm_off σ σ' c o k) (hc : c < 11) (c' k' : Nat) : pm_len σ' c' k' = pm_len σ c' k' := by
  unfold pm_len
  rw [(h 11 0 1 (by omega)).1]
theorem pm_off_a {q : Nat → Nat → Nat → Nat} {a : Nat → ClassId} {σ σ' : pmS} {c o k : Nat} (h : pm_off σ σ' c o k) (hc : c < 11) (hk : pm_fk c k = 2) : ∀ y ∈ pm_lay, y ≠ (c, o, k + 1) → pm_en q a σ' y = pm_en q a σ y := by
  intro y hy hne
  obtain ⟨c', o', k'⟩ := y
  cases k' with
  | zero =>
    show (Sum.inr (c', pm_fs q σ' c' o') : va_E) = Sum.inr (c', pm_fs q σ c' o')
    refine congrArg (fun l => (Sum.inr (c', l) : va_E)) ?_
    unfold pm_fs
    refine List.map_congr_left fun j hj => ?_
    unfold pm_fv
    by_cases hj2 : c' = c ∧ o' = o ∧ j = k
    · obtain ⟨rfl, rfl, rfl⟩ := hj2
      rw [hk]
    · rw [(h c' o' j hj2).1, (h c' o' j hj2).2]
  | succ k' =>
    have hj2 : ¬ (c' = c ∧ o' = o ∧ k' = k) := fun z => hne (by rw [z.1, z.2.1, z.2.2])
    show (Sum.inl (a (pm_kd c' k'), pm_len σ' c' k', pm_ec q σ' c' o' k') : va_E) = Sum.inl (a (pm_kd c' k'), pm_len σ c' k', pm_ec q σ c' o' k')
    unfold pm_ec
    rw [pm_off_len h hc, (h c' o' k' hj2).1, (h c' o' k' hj2).2]
theorem pm_off_f {q : Nat → Nat → Nat → Nat} {a : Nat → ClassId} {σ σ' : pmS} {c o k : Nat} (h : pm_off σ σ' c o k) (hc : c < 11) (hk : pm_fk c k < 2) : ∀ y ∈ pm_lay, y ≠ (c, o, 0) → pm_en q a σ' y = pm_en q a σ y := by
  intro y hy hne
  obtain ⟨c', o', k'⟩ := y
  cases k' with
  | zero =>
    show (Sum.inr (c', pm_fs q σ' c' o') : va_E) = Sum.inr (c', pm_fs q σ c' o')
    refine congrArg (fun l => (Sum.inr (c', l) : va_E)) ?_
    unfold pm_fs
    refine List.map_congr_left fun j hj => ?_
    unfold pm_fv
    have hj2 : ¬ (c' = c ∧ o' = o ∧ j = k) := fun z => hne (by rw [z.1, z.2.1])
    rw [(h c' o' j hj2).1, (h c' o' j hj2).2]
  | succ k' =>
    have hj2 : ¬ (c' = c ∧ o' = o ∧ k' = k) := fun z => by
      have h2 := (pm_lay_a hy).2.2.1
      rw [z.1, z.2.2] at h2
      omega
    show (Sum.inl (a (pm_kd c' k'), pm_len σ' c' k', pm_ec q σ' c' o' k') : va_E) = Sum.inl (a (pm_kd c' k'), pm_len σ c' k', pm_ec q σ c' o' k')
    unfold pm_ec
    rw [pm_off_len h hc, (h c' o' k' hj2).1, (h c' o' k' hj2).2]
theorem pm_fs_at {q : Nat → Nat → Nat → Nat} {σ : pmS} {c o k : Nat} (h : k < pm_nf c) : (pm_fs q σ c o)[k]? = some (pm_fv q σ c o k) := by
  unfold pm_fs
  rw [List.getElem?_map, List.getElem?_range h]
  rfl
theorem pm_fs_set {q : Nat → Nat → Nat → Nat} {σ σ' : pmS} {c o k : Nat} {v : Value} (h : pm_off σ σ' c o k) (hk : k < pm_nf c) (hv : pm_fv q σ' c o k = v) : (pm_fs q σ c o).set k v = pm_fs q σ' c o := by
  apply List.ext_getElem?
  intro i
  have hl : (pm_fs q σ c o).length = pm_nf c := by
    unfold pm_fs
    rw [List.length_map, List.length_range]
  by_cases hi : i = k
  · subst hi
    rw [List.getElem?_set_self (by rw [hl]; exact hk), pm_fs_at hk, hv]
  · rw [List.getElem?_set_ne (Ne.symm hi)]
    unfold pm_fs
    rw [List.getElem?_map, List.getElem?_map]
    cases hr : (List.range (pm_nf c))[i]? with
    | none => rfl
    | some j =>
      have hj : j = i := by
        have := (List.getElem?_eq_some_iff.mp hr).2
        rw [List.getElem_range] at this
        exact this.symm
      subst hj
      show some (pm_fv q σ c o j) = some (pm_fv q σ' c o j)
      unfold pm_fv
      rw [(h c o j (fun z => hi z.2.2)).1, (h c o j (fun z => hi z.2.2)).2]
/-! locals -/
def pm_lvs (q : Nat → Nat → Nat → Nat) : Nat → pmL → List (Nat × Value)
  | _, [] => []
  | i, some v :: r => (i, pm_val q v) :: pm_lvs q (i + 1) r
  | i, none :: r => pm_lvs q (i + 1) r
theorem pm_lvs_in {q : Nat → Nat → Nat → Nat} : ∀ {ls : pmL} {i j : Nat} {v : pmV}, ls[j]? = some (some v) → (i + j, pm_val q v) ∈ pm_lvs q i ls
  | [], i, j, v, h => by simp at h
  | x :: r, i, 0, v, h => by
    simp at h
    subst h
    exact List.mem_cons_self
  | x :: r, i, j + 1, v, h => by
    simp at h
    have h1 := pm_lvs_in (q := q) (i := i + 1) h
    rw [show i + 1 + j = i + (j + 1) by omega] at h1
    cases x with
    | none => exact h1
    | some w => exact List.mem_cons_of_mem _ h1
def pm_LV (q : Nat → Nat → Nat → Nat) (LS : Array Slot) (ls : pmL) : Prop := LS.size = ls.length ∧ lv_wf LS ∧ ∀ (j : Nat) (v : pmV), ls[j]? = some (some v) → LS[j]? = some (.val (pm_val q v))
theorem pm_lvs_of {q : Nat → Nat → Nat → Nat} : ∀ {ls : pmL} {i : Nat} {z : Nat × Value}, z ∈ pm_lvs q i ls → ∃ (j : Nat) (v : pmV), ls[j]? = some (some v) ∧ z = (i + j, pm_val q v)
  | [], i, z, h => by cases h
  | none :: r, i, z, h => by
    obtain ⟨j, v, h1, h2⟩ := pm_lvs_of (ls := r) (i := i + 1) h
    exact ⟨j + 1, v, by simpa using h1, by rw [h2, show i + 1 + j = i + (j + 1) by omega]⟩
  | some w :: r, i, z, h => by
    rcases List.mem_cons.mp h with rfl | h
    · exact ⟨0, w, by simp, rfl⟩
    · obtain ⟨j, v, h1, h2⟩ := pm_lvs_of (ls := r) (i := i + 1) h
      exact ⟨j + 1, v, by simpa using h1, by rw [h2, show i + 1 + j = i + (j + 1) by omega]⟩
theorem pm_LV.has {q : Nat → Nat → Nat → Nat} {LS : Array Slot} {ls : pmL} (h : pm_LV q LS ls) : lv_has LS ls.length (pm_lvs q 0 ls) := by
  refine ⟨h.1, h.2.1, fun z hz => ?_⟩
  obtain ⟨j, v, h1, rfl⟩ := pm_lvs_of hz
  have h2 := h.2.2 j v h1
  simpa using h2
theorem pm_LV.of {q : Nat → Nat → Nat → Nat} {LS : Array Slot} {ls : pmL} {n : Nat} {l : List (Nat × Value)} (h : lv_has LS n l) (hn : n = ls.length) (hl : ∀ (j : Nat) (v : pmV), ls[j]? = some (some v) → (j, pm_val q v) ∈ l) : pm_LV q LS ls :=
  ⟨h.1.trans hn, h.2.1, fun j v hj => h.2.2 _ (hl j v hj)⟩
theorem pm_nolong_ok {ls : pmL} {k j : Nat} {v : pmV} (h : pm_nolong ls k = true) (hj : ls[j]? = some (some v)) (e : j + 1 = k) : ¬ pm_cat v = 2 := by
  subst e
  unfold pm_nolong at h
  dsimp only at h
  rw [hj] at h
  rcases v with x | x | x
  · simp [pm_cat]
  · simp at h
  · simp [pm_cat]
theorem pm_LV.st1 {q : Nat → Nat → Nat → Nat} {LS : Array Slot} {ls : pmL} {k : Nat} {v : pmV} {w : Value} (hw : w = pm_val q v) (hnl : pm_nolong ls k = true) (h : lv_has LS ls.length ((k, w) :: (pm_lvs q 0 ls).filter (fun z => !(z.1 == k) && !(z.1 + 1 == k && z.2.category == 2)))) : pm_LV q LS (ls.set k (some v)) := by
  subst hw
  refine pm_LV.of h (by simp) (fun j u hj => ?_)
  by_cases hk : j = k
  · subst hk
    have hl : j < ls.length := by
      have := (List.getElem?_eq_some_iff.mp hj).1
      simpa using this
    rw [List.getElem?_set_self hl] at hj
    cases hj
    exact List.mem_cons_self
  · rw [List.getElem?_set_ne (Ne.symm hk)] at hj
    refine List.mem_cons_of_mem _ (List.mem_filter.mpr ⟨by simpa using pm_lvs_in (q := q) (i := 0) hj, ?_⟩)
    have h1 : (j == k) = false := by simpa using hk
    rw [h1]
    by_cases h2 : j + 1 = k
    · have h3 := pm_nolong_ok hnl hj h2
      have h4 : ((pm_val q u).category == 2) = false := by rw [pm_val_cat]; simpa using h3
      simp [h4]
    · simp [h2]
theorem pm_LV.st2 {q : Nat → Nat → Nat → Nat} {LS : Array Slot} {ls : pmL} {k : Nat} {v : pmV} {w : Value} (hw : w = pm_val q v) (hnl : pm_nolong ls k = true) (h : lv_has LS ls.length ((k, w) :: (pm_lvs q 0 ls).filter (fun z => !(z.1 == k) && (!(z.1 == k + 1) && !(z.1 + 1 == k && z.2.category == 2))))) : pm_LV q LS ((ls.set k (some v)).set (k + 1) none) := by
  subst hw
  refine pm_LV.of h (by simp) (fun j u hj => ?_)
  by_cases hk1 : j = k + 1
  · subst hk1
    have hl : k + 1 < (ls.set k (some v)).length := (by
      have := (List.getElem?_eq_some_iff.mp hj).1
      simpa using this)
    rw [List.getElem?_set_self hl] at hj
    cases hj
  · rw [List.getElem?_set_ne (Ne.symm hk1)] at hj
    by_cases hk : j = k
    · subst hk
      have hl : j < ls.length := by
        have := (List.getElem?_eq_some_iff.mp hj).1
        simpa using this
      rw [List.getElem?_set_self hl] at hj
      cases hj
      exact List.mem_cons_self
    · rw [List.getElem?_set_ne (Ne.symm hk)] at hj
      refine List.mem_cons_of_mem _ (List.mem_filter.mpr ⟨by simpa using pm_lvs_in (q := q) (i := 0) hj, ?_⟩)
      have h1 : (j == k) = false := by simpa using hk
      have h1' : (j == k + 1) = false := by simpa using hk1
      rw [h1, h1']
      by_cases h2 : j + 1 = k
      · have h3 := pm_nolong_ok hnl hj h2
        have h4 : ((pm_val q u).category == 2) = false := by rw [pm_val_cat]; simpa using h3
        simp [h4]
      · simp [h2]
