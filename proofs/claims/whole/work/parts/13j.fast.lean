/-! what the fast machine does, the pure machine does -/
theorem pq_bt {b : Bool} {α : Type} {x : Option α} {y : α} (h : (bif b then x else none) = some y) : b = true ∧ x = some y := by
  cases b with
  | false => cases h
  | true => exact ⟨rfl, h⟩
theorem pq_sim_str {m pc t k : Nat} {ls : pmL} {st : List pmV} {σ : pmS} {y : pmO ⊕ pmF} (hn : pm_nl m k = true) (hg : t = 1 → pm_lg m k = true) (h : pq_str m pc ls st σ t k = some y) : pm_str m pc ls st σ t k = some y := by
  unfold pq_str at h
  unfold pm_str
  split at h
  next x st' =>
    obtain ⟨h1, h2⟩ := pq_bt h
    rw [Bool.and_eq_true] at h1
    have e1 := Nat.eq_of_beq_eq_true h1.1
    have e2 : k < ls.length := by have := Nat.le_of_ble_eq_true h1.2; omega
    dsimp only
    rw [if_pos ⟨e1, e2, hn⟩]
    exact h2
  next x st' =>
    obtain ⟨h1, h2⟩ := pq_bt h
    rw [Bool.and_eq_true] at h1
    have e1 := Nat.eq_of_beq_eq_true h1.1
    have e2 : k + 1 < ls.length := by have := Nat.le_of_ble_eq_true h1.2; omega
    dsimp only
    rw [if_pos ⟨e1, e2, hn, hg e1⟩]
    exact h2
  next x st' =>
    obtain ⟨h1, h2⟩ := pq_bt h
    rw [Bool.and_eq_true] at h1
    have e1 := Nat.eq_of_beq_eq_true h1.1
    have e2 : k < ls.length := by have := Nat.le_of_ble_eq_true h1.2; omega
    dsimp only
    rw [if_pos ⟨e1, e2, hn⟩]
    exact h2
  next => cases h
theorem pq_sim_ald {m pc t : Nat} {ls : pmL} {st : List pmV} {σ : pmS} {y : pmO ⊕ pmF} (h : pq_ald m pc ls st σ t = some y) : pm_ald m pc ls st σ t = some y := by
  unfold pq_ald at h
  unfold pm_ald
  split at h
  next i c o k st' =>
    split at h
    next hi =>
      dsimp only
      have hne : pq_kd c k ≠ 99 := by
        intro e
        rw [e] at h
        split at h <;> cases h
      obtain ⟨e1, e2⟩ := pq_arr (σ := σ) hne
      rw [e2, if_pos hi]
      split at h
      next =>
        split at h
        next hk => rw [e1, hk]; exact h
        next hk =>
          split at h
          next => rw [e1, hk]; exact h
          next => cases h
        next => cases h
      next =>
        split at h
        next hk => rw [e1, hk]; exact h
        next => cases h
      next =>
        split at h
        next hk => rw [e1, hk]; exact h
        next => cases h
      next h0 h1 h2 =>
        rcases t with _ | _ | _ | t
        · exact absurd rfl h0
        · exact absurd rfl h1
        · exact absurd rfl h2
        split at h
        next hk => rw [e1, hk]; exact h
        next hk => rw [e1, hk]; exact h
        next => cases h
    next => cases h
  next => cases h
theorem pq_sim_ast {m pc t : Nat} {ls : pmL} {st : List pmV} {σ : pmS} {y : pmO ⊕ pmF} (h : pq_ast m pc ls st σ t = some y) : pm_ast m pc ls st σ t = some y := by
  unfold pq_ast at h
  unfold pm_ast
  split at h
  next x i c o k st' =>
    split at h
    next hi =>
      dsimp only
      split at h
      next =>
        split at h
        next hk =>
          obtain ⟨e1, e2⟩ := pq_arr (σ := σ) (c := c) (k := k) (by omega)
          rw [e2, if_pos hi, e1, hk]
          exact h
        next => cases h
      next =>
        split at h
        next hk =>
          obtain ⟨e1, e2⟩ := pq_arr (σ := σ) (c := c) (k := k) (by omega)
          rw [e2, if_pos hi, e1, if_pos hk]
          exact h
        next => cases h
      next => cases h
    next => cases h
  next x i c o k st' =>
    split at h
    next hi =>
      dsimp only
      split at h
      next hk =>
        obtain ⟨e1, e2⟩ := pq_arr (σ := σ) (c := c) (k := k) (by omega)
        rw [e2, if_pos hi, e1, if_pos ⟨rfl, hk⟩]
        exact h
      next => cases h
    next => cases h
  next => cases h
theorem pq_sim_get {m pc idx c' k kd : Nat} {ls : pmL} {st : List pmV} {σ : pmS} {y : pmO ⊕ pmF} (hf : pm_fl (pm_own m) idx = some (c', k)) (hk : pm_fk c' k = kd) (h : pq_get m pc ls st σ c' k kd = some y) : pm_get m pc ls st σ idx = some y := by
  unfold pq_get at h
  unfold pm_get
  split at h
  next c o st' =>
    obtain ⟨h1, h2⟩ := pq_bt h
    have e := Nat.eq_of_beq_eq_true h1
    subst e
    simp only [hf, ↓reduceIte, hk]
    exact h2
  next => cases h
theorem pq_sim_put {m pc idx c' k kd : Nat} {ls : pmL} {st : List pmV} {σ : pmS} {y : pmO ⊕ pmF} (hf : pm_fl (pm_own m) idx = some (c', k)) (hk : pm_fk c' k = kd) (h : pq_put m pc ls st σ c' k kd = some y) : pm_put m pc ls st σ idx = some y := by
  unfold pq_put at h
  unfold pm_put
  split at h
  next x c o st' =>
    obtain ⟨h1, h2⟩ := pq_bt h
    have e := Nat.eq_of_beq_eq_true h1
    subst e
    split at h2
    next => simp only [hf, hk, and_self, ↓reduceIte]; exact h2
    next => cases h2
  next x c o st' =>
    obtain ⟨h1, h2⟩ := pq_bt h
    have e := Nat.eq_of_beq_eq_true h1
    subst e
    split at h2
    next => simp only [hf, hk, and_self, ↓reduceIte]; exact h2
    next => cases h2
  next => cases h
theorem pq_sim_call {C C' : pmC} (hC : ∀ cm as σ r, C cm as σ = some r → C' cm as σ = some r) {m pc idx cm na vt : Nat} {ls : pmL} {st : List pmV} {σ : pmS} {rc : List pmV → Bool} {y : pmO ⊕ pmF} (hcl : pm_cl (pm_own m) idx = some cm) (hna : pm_na cm = na) (hvt : pm_vt cm = vt) (hrc : ∀ as, rc as = true → vt = 0 ∨ pm_rcv cm as = true) (h : pq_call C m pc ls st σ cm na rc = some y) : pm_call C' m pc ls st σ idx vt = some y := by
  unfold pq_call at h
  obtain ⟨h1, h2⟩ := pq_bt h
  rw [Bool.and_eq_true, Bool.and_eq_true, Bool.and_eq_true] at h1
  unfold pm_call
  rw [hcl]
  dsimp only
  subst hna
  rw [if_pos ⟨Nat.le_of_ble_eq_true h1.1, hvt, Nat.le_of_ble_eq_true h1.2.1, h1.2.2.1, hrc _ h1.2.2.2⟩]
  cases hc : C cm ((st.take (pm_na cm)).reverse) σ with
  | none => rw [hc] at h2; cases h2
  | some x =>
    rw [hc] at h2
    rw [hC _ _ _ _ hc]
    exact h2
theorem pq_sim_copy {m pc : Nat} {ls : pmL} {st : List pmV} {σ : pmS} {y : pmO ⊕ pmF} (h : pq_copy m pc ls st σ = some y) : pm_copy m pc ls st σ = some y := by
  unfold pq_copy at h
  unfold pm_copy
  split at h
  next n dp c1 o1 k1 sp c0 o0 k0 st' =>
    split at h
    next hc =>
      obtain ⟨g0, g1, g2⟩ := hc
      obtain ⟨e1, e2⟩ := pq_arr (σ := σ) (c := c0) (k := k0) (by omega)
      obtain ⟨e3, e4⟩ := pq_arr (σ := σ) (c := c1) (k := k1) (by omega)
      dsimp only
      rw [if_pos ⟨e1.trans g0, e3.trans g1, by rw [e2, e4]; exact g2⟩]
      exact h
    next => cases h
  next => cases h
theorem pq_sim {C C' : pmC} (hC : ∀ cm as σ r, C cm as σ = some r → C' cm as σ = some r) {fr : pmF} {y : pmO ⊕ pmF} (h : pq_stp C fr = some y) : pm_stp C' fr = some y := by
  obtain ⟨m, pc, ls, st, σ⟩ := fr
  unfold pq_stp at h
  obtain ⟨hl, h⟩ := pq_bt h
  dsimp only at hl h
  split at h
  next i n a b e z hi =>
    have hok := pq_row hl hi
    unfold pq_ok1 at hok
    dsimp only at hok
    rw [Bool.and_eq_true, Bool.and_eq_true, decide_eq_true_eq] at hok
    obtain ⟨⟨h1, h2⟩, h3⟩ := hok
    unfold pm_stp
    dsimp only
    rw [h1]
    dsimp only
    rw [if_pos h2]
    cases i
    case ldc k =>
      have h4 : pm_ci (pm_own m) k = some (Int32.ofInt z) := by simpa using h3
      unfold pm_ex
      dsimp only
      rw [h4]
      exact h
    case ldc_w k =>
      have h4 : pm_ci (pm_own m) k = some (Int32.ofInt z) := by simpa using h3
      unfold pm_ex
      dsimp only
      rw [h4]
      exact h
    case ldc2_w k =>
      have h4 : pm_cL (pm_own m) k = some (Int64.ofInt z) := by simpa using h3
      unfold pm_ex
      dsimp only
      rw [h4]
      exact h
    case istore_n k => exact pq_sim_str h3 (fun w => by cases w) h
    case istore k => exact pq_sim_str h3 (fun w => by cases w) h
    case astore_n k => exact pq_sim_str h3 (fun w => by cases w) h
    case astore k => exact pq_sim_str h3 (fun w => by cases w) h
    case lstore_n k =>
      dsimp only at h3
      rw [Bool.and_eq_true] at h3
      exact pq_sim_str h3.1 (fun _ => h3.2) h
    case lstore k =>
      dsimp only at h3
      rw [Bool.and_eq_true] at h3
      exact pq_sim_str h3.1 (fun _ => h3.2) h
    case iinc k d =>
      unfold pq_ex at h
      unfold pm_ex
      dsimp only at h ⊢
      split at h
      next x hx =>
        rw [hx]
        dsimp only
        rw [if_pos ⟨(List.getElem?_eq_some_iff.mp hx).1, h3⟩]
        exact h
      next => cases h
    case iaload => exact pq_sim_ald (show pq_ald m (pc + n) ls st σ 0 = some y from h)
    case laload => exact pq_sim_ald (show pq_ald m (pc + n) ls st σ 1 = some y from h)
    case baload => exact pq_sim_ald (show pq_ald m (pc + n) ls st σ 2 = some y from h)
    case aaload => exact pq_sim_ald (show pq_ald m (pc + n) ls st σ 3 = some y from h)
    case iastore => exact pq_sim_ast (show pq_ast m (pc + n) ls st σ 0 = some y from h)
    case lastore => exact pq_sim_ast (show pq_ast m (pc + n) ls st σ 1 = some y from h)
    case bastore => exact pq_sim_ast (show pq_ast m (pc + n) ls st σ 2 = some y from h)
    case arraylength =>
      rcases st with _ | ⟨v, st⟩
      · cases h
      rcases v with x | x | ⟨c, o, k⟩
      · cases h
      · cases h
      cases k with
      | zero => cases h
      | succ k =>
        obtain ⟨h4, h5⟩ := pq_bt h
        have h6 : pq_kd c k < 9 ∨ pq_kd c k = 9 ∧ k = 0 ∧ o = 0 := by
          rw [Bool.or_eq_true, Bool.and_eq_true, Bool.and_eq_true] at h4
          rcases h4 with h4 | h4
          · have := Nat.le_of_ble_eq_true h4
            exact Or.inl (by omega)
          · exact Or.inr ⟨Nat.eq_of_beq_eq_true h4.1, Nat.eq_of_beq_eq_true h4.2.1, Nat.eq_of_beq_eq_true h4.2.2⟩
        obtain ⟨e1, e2⟩ := pq_arr (σ := σ) (c := c) (k := k) (by omega)
        show (if pm_kd c k < 9 ∨ pm_kd c k = 9 ∧ k = 0 ∧ o = 0 then pm_nx m (pc + n) ls (.inl (if c = 11 then σ.1 11 0 1 0 else nI (pm_len σ c k)) :: st) σ else none) = some y
        rw [e1, if_pos h6, e2]
        exact h5
    case getfield k =>
      dsimp only at h3
      rw [Bool.and_eq_true, decide_eq_true_eq, decide_eq_true_eq] at h3
      exact pq_sim_get h3.1 h3.2 h
    case putfield k =>
      dsimp only at h3
      rw [Bool.and_eq_true, decide_eq_true_eq, decide_eq_true_eq] at h3
      exact pq_sim_put h3.1 h3.2 h
    case invokevirtual k =>
      dsimp only at h3
      rw [Bool.and_eq_true, Bool.and_eq_true, Bool.and_eq_true, decide_eq_true_eq, decide_eq_true_eq, decide_eq_true_eq, decide_eq_true_eq] at h3
      obtain ⟨⟨⟨g1, g2⟩, g3⟩, g4⟩ := h3
      refine pq_sim_call hC g1 g2 g3 (fun as has => Or.inr ?_) h
      rcases as with _ | ⟨v, r⟩
      · cases has
      rcases v with x | x | ⟨c, o, k⟩
      · cases has
      · cases has
      cases k with
      | zero =>
        show (c == pm_own a) = true
        rw [g4, Nat.eq_of_beq_eq_true has]
        simp
      | succ k => cases has
    case invokestatic k =>
      unfold pq_ex at h
      unfold pm_ex
      dsimp only at h h3 ⊢
      by_cases e97 : e = 97
      · subst e97
        rw [if_pos rfl] at h3
        rw [if_pos h3]
        exact pq_sim_copy h
      · rw [if_neg e97] at h3
        have b97 : Nat.beq e 97 = false := by
          cases hq : Nat.beq e 97 with
          | false => rfl
          | true => exact absurd (Nat.eq_of_beq_eq_true hq) e97
        rw [b97, cond_false] at h
        by_cases e98 : e = 98
        · subst e98
          rw [if_pos rfl, Bool.and_eq_true] at h3
          have hn : ¬ pm_isnat (pm_own m) k = true := by simpa using h3.1
          rw [if_neg hn, if_pos h3.2]
          exact h
        · rw [if_neg e98] at h3
          have b98 : Nat.beq e 98 = false := by
            cases hq : Nat.beq e 98 with
            | false => rfl
            | true => exact absurd (Nat.eq_of_beq_eq_true hq) e98
          rw [b98, cond_false] at h
          rw [Bool.and_eq_true, Bool.and_eq_true, Bool.and_eq_true, Bool.and_eq_true, decide_eq_true_eq, decide_eq_true_eq, decide_eq_true_eq] at h3
          obtain ⟨⟨⟨⟨g1, g2⟩, g3⟩, g4⟩, g5⟩ := h3
          have hn : ¬ pm_isnat (pm_own m) k = true := by simpa using g1
          have hm : ¬ pm_ismin (pm_own m) k = true := by simpa using g2
          rw [if_neg hn, if_neg hm]
          exact pq_sim_call hC g3 g4 g5 (fun _ _ => Or.inl rfl) h
    case ireturn =>
      replace h : pq_rt m st σ e = some y := h
      show pm_rt m st σ = some y
      unfold pq_rt at h
      unfold pm_rt
      dsimp only at h3
      split at h
      next x =>
        dsimp only
        by_cases e1 : e = 1
        · subst e1
          rw [if_pos rfl, decide_eq_true_eq] at h3
          rw [if_pos h3]
          exact h
        · have b1 : Nat.beq e 1 = false := by
            cases hq : Nat.beq e 1 with
            | false => rfl
            | true => exact absurd (Nat.eq_of_beq_eq_true hq) e1
          rw [b1, cond_false] at h
          rw [if_neg e1, decide_eq_true_eq] at h3
          have hne : ¬ pm_ret m = some .int := by rw [h3]; decide
          rw [if_neg hne]
          split at h
          next hc =>
            rw [if_pos ⟨h3, hc.2⟩]
            exact h
          next => cases h
      next => cases h
    case areturn =>
      replace h : pq_art st σ = some y := h
      show pm_art m st σ = some y
      unfold pq_art at h
      unfold pm_art
      have h4 : pm_ret m = some (.object RX2) := by simpa using h3
      split at h
      next x =>
        dsimp only
        rw [if_pos h4]
        exact h
      next => cases h
    case return_ =>
      replace h : pq_vrt st σ = some y := h
      show pm_vrt m st σ = some y
      unfold pq_vrt at h
      unfold pm_vrt
      have h4 : pm_ret m = none := by simpa using h3
      split at h
      next =>
        dsimp only
        rw [if_pos h4]
        exact h
      next => cases h
    all_goals exact h
  next => cases h
def pq_itr (C : pmC) : Nat → pmF → Option pmO
  | 0, _ => none
  | n + 1, fr => match pq_stp C fr with
    | none => none
    | some (.inl r) => some r
    | some (.inr fr') => pq_itr C n fr'
theorem pq_itr_succ {C : pmC} : ∀ {n : Nat} {fr : pmF} {r : pmO}, pq_itr C n fr = some r → pq_itr C (n + 1) fr = some r
  | 0, fr, r, h => by cases h
  | n + 1, fr, r, h => by
    rw [pq_itr] at h ⊢
    cases hs : pq_stp C fr with
    | none => rw [hs] at h; cases h
    | some x =>
      rw [hs] at h
      cases x with
      | inl r' => exact h
      | inr fr' => exact pq_itr_succ h
theorem pq_itr_mono {C : pmC} {n : Nat} {fr : pmF} {r : pmO} (h : pq_itr C n fr = some r) : ∀ k, pq_itr C (n + k) fr = some r
  | 0 => h
  | k + 1 => pq_itr_succ (pq_itr_mono h k)
theorem pq_itr_one {C : pmC} {n k : Nat} {fr : pmF} {r r' : pmO} (h : pq_itr C n fr = some r) (h' : pq_itr C k fr = some r') : r = r' := by
  have h1 := pq_itr_mono h k
  have h2 := pq_itr_mono h' n
  rw [Nat.add_comm k n, h1] at h2
  exact Option.some.inj h2
noncomputable def pq_Rn (C : pmC) (fr : pmF) : Option pmO := @dite _ (∃ (n : Nat) (r : pmO), pq_itr C n fr = some r) (Classical.propDecidable _) (fun h => some (Classical.choose (Classical.choose_spec h))) (fun _ => none)
theorem pq_Rn_some {C : pmC} {fr : pmF} {r : pmO} : pq_Rn C fr = some r ↔ ∃ n, pq_itr C n fr = some r := by
  unfold pq_Rn
  constructor
  · intro h
    split at h
    next hh =>
      have h2 := Classical.choose_spec (Classical.choose_spec hh)
      cases h
      exact ⟨_, h2⟩
    next => cases h
  · intro ⟨n, h⟩
    have hh : ∃ (n : Nat) (r : pmO), pq_itr C n fr = some r := ⟨n, r, h⟩
    rw [dif_pos hh]
    exact congrArg some (pq_itr_one (Classical.choose_spec (Classical.choose_spec hh)) h)
theorem pq_Rn_eq (C : pmC) (fr : pmF) : pq_Rn C fr = match pq_stp C fr with
    | none => none
    | some (.inl r) => some r
    | some (.inr fr') => pq_Rn C fr' := by
  apply Option.ext
  intro r
  rw [pq_Rn_some]
  cases hs : pq_stp C fr with
  | none =>
    constructor
    · intro ⟨n, h⟩
      cases n with
      | zero => cases h
      | succ n => rw [pq_itr, hs] at h; cases h
    · intro h; cases h
  | some x =>
    cases x with
    | inl r' =>
      constructor
      · intro ⟨n, h⟩
        cases n with
        | zero => cases h
        | succ n => rw [pq_itr, hs] at h; exact h
      · intro h
        exact ⟨1, by rw [pq_itr, hs]; exact h⟩
    | inr fr' =>
      show _ ↔ pq_Rn C fr' = some r
      rw [pq_Rn_some]
      constructor
      · intro ⟨n, h⟩
        cases n with
        | zero => cases h
        | succ n => rw [pq_itr, hs] at h; exact ⟨n, h⟩
      · intro ⟨n, h⟩
        exact ⟨n + 1, by rw [pq_itr, hs]; exact h⟩
noncomputable def pq_RD : Nat → pmC
  | 0 => fun _ _ _ => none
  | d + 1 => fun m as σ => if (pm_sl as).length ≤ pm_mx m ∧ pm_lge m 0 (pm_sl as) = true then pq_Rn (pq_RD d) (m, 0, pm_ent (pm_mx m) as, [], σ) else none
theorem pq_sim_itr {C C' : pmC} (hC : ∀ cm as σ r, C cm as σ = some r → C' cm as σ = some r) : ∀ (n : Nat) (fr : pmF) (r : pmO), pq_itr C n fr = some r → pm_itr C' n fr = some r
  | 0, fr, r, h => by cases h
  | n + 1, fr, r, h => by
    rw [pq_itr] at h
    rw [pm_itr]
    cases hs : pq_stp C fr with
    | none => rw [hs] at h; cases h
    | some x =>
      rw [hs] at h
      rw [pq_sim hC hs]
      cases x with
      | inl r' => exact h
      | inr fr' => exact pq_sim_itr hC n fr' r h
/-- what a call of the fast machine answers, the pure machine's does -/
theorem pq_sim_RD : ∀ (d cm : Nat) (as : List pmV) (σ : pmS) (r : pmO), pq_RD d cm as σ = some r → pm_RD d cm as σ = some r
  | 0, cm, as, σ, r, h => by cases h
  | d + 1, cm, as, σ, r, h => by
    rw [pq_RD] at h
    rw [pm_RD]
    dsimp only at h ⊢
    split at h
    next hc =>
      rw [if_pos hc]
      obtain ⟨n, hn⟩ := pq_Rn_some.mp h
      exact pm_Rn_some.mpr ⟨n, pq_sim_itr (pq_sim_RD d) n _ _ hn⟩
    next => cases h
