/-! one step, then the run -/
section PMU
variable {p : Program} {l : Launch} {e : Env} {R : Room} {s : State} {mm : MethodId} {args : Array Value} {below : List Frame} {meth : Method} {c : Code} {cells slots : Nat} {Q : State → Prop}
variable {dC : Nat → ClassId} {dI : Nat → Nat → Nat} {a : Nat → ClassId} {q : Nat → Nat → Nat → Nat}
variable {lw : Bool} {m pc : Nat} {ls : pmL} {st : List pmV} {σ : pmS}
theorem pm_St.ret {fr : pmF} {r : pmO} : pm_St p l e R s mm args below meth c cells slots Q dC dI a q lw fr (.inl r) := fun _ he => by cases he
theorem pm_one {C : pmC} {d : Nat} {L : Nat} {xs : Nat → Int32} (hx : pm_Cx p s mm args c dC dI a q m) (hR : d + 1 ≤ R.frames ∧ 64 * (d + 1) ≤ R.locals) (hcs : cells ≤ R.cells ∧ slots ≤ R.slots) (hC : pm_CS l dC dI a q d C) (ok : pm_ok lw (m, pc, ls, st, σ)) (hsx : pm_Sx s q lw L xs σ) {y : pmO ⊕ pmF} (h : pm_stp C (m, pc, ls, st, σ) = some y) : pm_St p l e R s mm args below meth c cells slots Q dC dI a q lw (m, pc, ls, st, σ) y := by
  have hR1 : 1 ≤ R.frames ∧ 64 ≤ R.locals := ⟨by omega, by omega⟩
  cases y with
  | inl r => exact pm_St.ret
  | inr fr' =>
  unfold pm_stp at h
  split at h
  next i n hi =>
    have hd := pm_ins_ok hi
    dsimp only at hd h
    split at h
    next hil =>
      cases i
      case iconst k =>
        have hn : n = 1 := by simpa [pm_il] using hil
        subst hn
        exact pmS_iconst (n := 0) hx ok hd h
      case bipush k =>
        have hn : n = 2 := by simpa [pm_il] using hil
        subst hn
        exact pmS_bipush (n := 0) hx ok hd h
      case sipush k =>
        have hn : n = 3 := by simpa [pm_il] using hil
        subst hn
        exact pmS_sipush (n := 0) hx ok hd h
      case lconst k =>
        have hn : n = 1 := by simpa [pm_il] using hil
        subst hn
        exact pmS_lconst (n := 0) hx ok hd h
      case ldc k =>
        have hn : n = 2 := by simpa [pm_il] using hil
        subst hn
        unfold pm_ex at h
        dsimp only at h
        split at h
        next v hv => exact pmS_ldc (n := 0) hx ok hv hd h
        next => cases h
      case ldc_w k =>
        have hn : n = 3 := by simpa [pm_il] using hil
        subst hn
        unfold pm_ex at h
        dsimp only at h
        split at h
        next v hv => exact pmS_ldc_w (n := 0) hx ok hv hd h
        next => cases h
      case ldc2_w k =>
        have hn : n = 3 := by simpa [pm_il] using hil
        subst hn
        unfold pm_ex at h
        dsimp only at h
        split at h
        next v hv => exact pmS_ldc2 (n := 0) hx ok hv hd h
        next => cases h
      case iload_n k =>
        have hn : n = 1 := by simpa [pm_il] using hil
        subst hn
        exact pmS_iload_n (n := 0) hx ok hd h
      case iload k =>
        have hn : n = 2 := by simpa [pm_il] using hil
        subst hn
        exact pmS_iload (n := 0) hx ok hd h
      case istore_n k =>
        have hn : n = 1 := by simpa [pm_il] using hil
        subst hn
        exact pmS_istore_n (n := 0) hx ok hd h
      case istore k =>
        have hn : n = 2 := by simpa [pm_il] using hil
        subst hn
        exact pmS_istore (n := 0) hx ok hd h
      case lload_n k =>
        have hn : n = 1 := by simpa [pm_il] using hil
        subst hn
        exact pmS_lload_n (n := 0) hx ok hd h
      case lload k =>
        have hn : n = 2 := by simpa [pm_il] using hil
        subst hn
        exact pmS_lload (n := 0) hx ok hd h
      case lstore_n k =>
        have hn : n = 1 := by simpa [pm_il] using hil
        subst hn
        exact pmS_lstore_n (n := 0) hx ok hd h
      case lstore k =>
        have hn : n = 2 := by simpa [pm_il] using hil
        subst hn
        exact pmS_lstore (n := 0) hx ok hd h
      case aload_n k =>
        have hn : n = 1 := by simpa [pm_il] using hil
        subst hn
        exact pmS_aload_n (n := 0) hx ok hd h
      case aload k =>
        have hn : n = 2 := by simpa [pm_il] using hil
        subst hn
        exact pmS_aload (n := 0) hx ok hd h
      case astore_n k =>
        have hn : n = 1 := by simpa [pm_il] using hil
        subst hn
        exact pmS_astore_n (n := 0) hx ok hd h
      case astore k =>
        have hn : n = 2 := by simpa [pm_il] using hil
        subst hn
        exact pmS_astore (n := 0) hx ok hd h
      case iinc k d =>
        have hn : n = 3 := by simpa [pm_il] using hil
        subst hn
        unfold pm_ex at h
        dsimp only at h
        split at h
        next x hk =>
          split at h
          next hn2 => exact pmS_iinc (n := 0) hx ok hk hn2.2 hd h
          next => cases h
        next => cases h
      case iadd =>
        have hn : n = 1 := by simpa [pm_il] using hil
        subst hn
        exact pmS_iadd (n := 0) hx ok hd h
      case isub =>
        have hn : n = 1 := by simpa [pm_il] using hil
        subst hn
        exact pmS_isub (n := 0) hx ok hd h
      case imul =>
        have hn : n = 1 := by simpa [pm_il] using hil
        subst hn
        exact pmS_imul (n := 0) hx ok hd h
      case iand =>
        have hn : n = 1 := by simpa [pm_il] using hil
        subst hn
        exact pmS_iand (n := 0) hx ok hd h
      case ior =>
        have hn : n = 1 := by simpa [pm_il] using hil
        subst hn
        exact pmS_ior (n := 0) hx ok hd h
      case ixor =>
        have hn : n = 1 := by simpa [pm_il] using hil
        subst hn
        exact pmS_ixor (n := 0) hx ok hd h
      case ishl =>
        have hn : n = 1 := by simpa [pm_il] using hil
        subst hn
        exact pmS_ishl (n := 0) hx ok hd h
      case ishr =>
        have hn : n = 1 := by simpa [pm_il] using hil
        subst hn
        exact pmS_ishr (n := 0) hx ok hd h
      case iushr =>
        have hn : n = 1 := by simpa [pm_il] using hil
        subst hn
        exact pmS_iushr (n := 0) hx ok hd h
      case idiv =>
        have hn : n = 1 := by simpa [pm_il] using hil
        subst hn
        exact pmS_idiv (n := 0) hx ok hd h
      case irem =>
        have hn : n = 1 := by simpa [pm_il] using hil
        subst hn
        exact pmS_irem (n := 0) hx ok hd h
      case ladd =>
        have hn : n = 1 := by simpa [pm_il] using hil
        subst hn
        exact pmS_ladd (n := 0) hx ok hd h
      case lsub =>
        have hn : n = 1 := by simpa [pm_il] using hil
        subst hn
        exact pmS_lsub (n := 0) hx ok hd h
      case land =>
        have hn : n = 1 := by simpa [pm_il] using hil
        subst hn
        exact pmS_land (n := 0) hx ok hd h
      case lor =>
        have hn : n = 1 := by simpa [pm_il] using hil
        subst hn
        exact pmS_lor (n := 0) hx ok hd h
      case lxor =>
        have hn : n = 1 := by simpa [pm_il] using hil
        subst hn
        exact pmS_lxor (n := 0) hx ok hd h
      case lshl =>
        have hn : n = 1 := by simpa [pm_il] using hil
        subst hn
        exact pmS_lshl (n := 0) hx ok hd h
      case lshr =>
        have hn : n = 1 := by simpa [pm_il] using hil
        subst hn
        exact pmS_lshr (n := 0) hx ok hd h
      case lushr =>
        have hn : n = 1 := by simpa [pm_il] using hil
        subst hn
        exact pmS_lushr (n := 0) hx ok hd h
      case dup =>
        have hn : n = 1 := by simpa [pm_il] using hil
        subst hn
        exact pmS_dup (n := 0) hx ok hd h
      case pop =>
        have hn : n = 1 := by simpa [pm_il] using hil
        subst hn
        exact pmS_pop (n := 0) hx ok hd h
      case dup2 =>
        have hn : n = 1 := by simpa [pm_il] using hil
        subst hn
        exact pmS_dup2 (n := 0) hx ok hd h
      case lcmp =>
        have hn : n = 1 := by simpa [pm_il] using hil
        subst hn
        unfold pm_ex at h
        dsimp only at h
        split at h
        next => cases h; exact pmS_lcmp hx ok hd
        next => cases h
      case i2l =>
        have hn : n = 1 := by simpa [pm_il] using hil
        subst hn
        unfold pm_ex at h
        dsimp only at h
        split at h
        next => cases h; exact pmS_i2l hx ok hd
        next => cases h
      case l2i =>
        have hn : n = 1 := by simpa [pm_il] using hil
        subst hn
        unfold pm_ex at h
        dsimp only at h
        split at h
        next => cases h; exact pmS_l2i hx ok hd
        next => cases h
      case goto off =>
        have hn : n = 3 := by simpa [pm_il] using hil
        subst hn
        exact pmS_goto (n := 0) hx ok hd h
      case ifCond cd off =>
        have hn : n = 3 := by simpa [pm_il] using hil
        subst hn
        unfold pm_ex at h
        dsimp only at h
        split at h
        next =>
          split at h
          next h0 => exact pmS_if hx ok hd h0 h
          next => cases h
        next => cases h
      case if_icmp cd off =>
        have hn : n = 3 := by simpa [pm_il] using hil
        subst hn
        unfold pm_ex at h
        dsimp only at h
        split at h
        next =>
          split at h
          next h0 => exact pmS_icmp hx ok hd h0 h
          next => cases h
        next => cases h
      case tableswitch d0 lo hi offs =>
        unfold pm_ex at h
        dsimp only at h
        split at h
        next =>
          split at h
          next h0 => exact pmS_tsw hx ok hd h0 h
          next => cases h
        next => cases h
      case lookupswitch d0 ps =>
        unfold pm_ex at h
        dsimp only at h
        split at h
        next =>
          split at h
          next h0 => exact pmS_lsw hx ok hd h0 h
          next => cases h
        next => cases h
      case iaload =>
        have hn : n = 1 := by simpa [pm_il] using hil
        subst hn
        exact pmS_iaload hx hsx ok hd h
      case laload =>
        have hn : n = 1 := by simpa [pm_il] using hil
        subst hn
        exact pmS_laload hx hsx ok hd h
      case baload =>
        have hn : n = 1 := by simpa [pm_il] using hil
        subst hn
        exact pmS_baload hx hsx ok hd h
      case aaload =>
        have hn : n = 1 := by simpa [pm_il] using hil
        subst hn
        exact pmS_aaload hx hsx ok hd h
      case iastore =>
        have hn : n = 1 := by simpa [pm_il] using hil
        subst hn
        exact pmS_iastore hx ok hd h
      case lastore =>
        have hn : n = 1 := by simpa [pm_il] using hil
        subst hn
        exact pmS_lastore hx ok hd h
      case bastore =>
        have hn : n = 1 := by simpa [pm_il] using hil
        subst hn
        exact pmS_bastore hx ok hd h
      case arraylength =>
        have hn : n = 1 := by simpa [pm_il] using hil
        subst hn
        unfold pm_ex at h
        dsimp only at h
        split at h
        next =>
          split at h
          next h0 => cases h; exact pmS_alen hx hsx ok hd h0
          next => cases h
        next => cases h
      case getfield k =>
        have hn : n = 3 := by simpa [pm_il] using hil
        subst hn
        exact pmS_get hx ok hd h
      case putfield k =>
        have hn : n = 3 := by simpa [pm_il] using hil
        subst hn
        exact pmS_put hx ok hd h
      case invokevirtual k =>
        have hn : n = 3 := by simpa [pm_il] using hil
        subst hn
        exact pmS_call hx hR hcs hC ok (fun _ => hd) (fun z => absurd z (by decide)) (Or.inr rfl) h
      case invokestatic k =>
        have hn : n = 3 := by simpa [pm_il] using hil
        subst hn
        unfold pm_ex at h
        dsimp only at h
        split at h
        next hn2 => exact pmS_copy hx hR1 ok hd hn2 h
        next =>
          split at h
          next hn2 => exact pmS_min hx hR1 hcs ok hd hn2 h
          next => exact pmS_call hx hR hcs hC ok (fun z => absurd z (by decide)) (fun _ => hd) (Or.inl rfl) h
      case ireturn =>
        exfalso
        replace h : pm_rt m st σ = some (.inr fr') := h
        unfold pm_rt at h
        split at h
        next =>
          split at h
          next => cases h
          next =>
            split at h
            next => cases h
            next => cases h
        next => cases h
      case areturn =>
        exfalso
        replace h : pm_art m st σ = some (.inr fr') := h
        unfold pm_art at h
        split at h
        next =>
          split at h
          next => cases h
          next => cases h
        next => cases h
      case return_ =>
        exfalso
        replace h : pm_vrt m st σ = some (.inr fr') := h
        unfold pm_vrt at h
        split at h
        next =>
          split at h
          next => cases h
          next => cases h
        next => cases h
      all_goals (exfalso; unfold pm_ex at h; dsimp only at h; cases h)
    next => cases h
  next => cases h
/-- the run of a method's body up to its end -/
theorem pm_run {C : pmC} {d : Nat} {L : Nat} {xs : Nat → Int32} (hx : pm_Cx p s mm args c dC dI a q m) (hR : d + 1 ≤ R.frames ∧ 64 * (d + 1) ≤ R.locals) (hcs : cells ≤ R.cells ∧ slots ≤ R.slots) (hC : pm_CS l dC dI a q d C) {σ0 : pmS} (hsx : pm_Sx s q lw L xs σ0) {r : Option pmV} {σ' : pmS}
    (hend : ∀ (pc : Nat) (ls : pmL) (st : List pmV) (σ : pmS), pm_stp C (m, pc, ls, st, σ) = some (.inl (r, σ')) → pm_ok lw (m, pc, ls, st, σ) → σ.1 11 = σ0.1 11 → pm_K p l e R s mm args below meth c cells slots Q dC dI a q (m, pc, ls, st, σ)) :
    ∀ (n : Nat) (pc : Nat) (ls : pmL) (st : List pmV) (σ : pmS), pm_itr C n (m, pc, ls, st, σ) = some (r, σ') → pm_ok lw (m, pc, ls, st, σ) → σ.1 11 = σ0.1 11 → pm_K p l e R s mm args below meth c cells slots Q dC dI a q (m, pc, ls, st, σ)
  | 0, pc, ls, st, σ, h, _, _ => by cases h
  | n + 1, pc, ls, st, σ, h, ok, h11 => by
    rw [pm_itr] at h
    cases hs : pm_stp C (m, pc, ls, st, σ) with
    | none => rw [hs] at h; cases h
    | some y =>
      rw [hs] at h
      cases y with
      | inl r' =>
        dsimp only at h
        cases h
        exact hend pc ls st σ hs ok h11
      | inr fr' =>
        dsimp only at h
        have hsx2 : pm_Sx s q lw L xs σ := fun hl => by
          obtain ⟨h1, h2, h3, h4, h5, h6⟩ := hsx hl
          exact ⟨h1, h2, h3, h4, fun i => by rw [h11]; exact h5 i, by rw [h11]; exact h6⟩
        refine pm_one (Q := Q) (below := below) (meth := meth) (e := e) hx hR hcs hC ok hsx2 hs fr' rfl (fun hk => ?_)
        obtain ⟨ok2, hm2, h112⟩ := hk
        obtain ⟨m2, pc2, ls2, st2, σ2⟩ := fr'
        dsimp only at hm2 h112
        subst m2
        exact pm_run hx hR hcs hC hsx hend n pc2 ls2 st2 σ2 h ok2 (h112.trans h11)
end PMU
theorem pm_ent_len {n : Nat} {as : List pmV} (h : (pm_sl as).length ≤ n) : (pm_ent n as).length = n := by
  unfold pm_ent
  rw [List.length_append, List.length_replicate]
  omega
theorem pm_sl_in {as : List pmV} {v : pmV} (h : some v ∈ pm_sl as) : v ∈ as := by
  unfold pm_sl at h
  obtain ⟨u, hu, hv⟩ := List.mem_flatMap.mp h
  split at hv
  · have : v = u := by simpa using hv
    subst this
    exact hu
  · have : v = u := by simpa using hv
    subst this
    exact hu
theorem pm_lge_ok {m : Nat} : ∀ {ls : pmL} {i j : Nat} {v : pmV}, pm_lge m i ls = true → ls[j]? = some (some v) → pm_cat v = 2 → pm_lg m (i + j) = true
  | [], i, j, v, h, hj, hc => by simp at hj
  | u :: r, i, 0, v, h, hj, hc => by
    have e : u = some v := by simpa using hj
    subst e
    rw [pm_lge, Bool.and_eq_true] at h
    rcases v with x | x | x
    · cases hc
    · exact h.1
    · cases hc
  | u :: r, i, j + 1, v, h, hj, hc => by
    rw [pm_lge, Bool.and_eq_true] at h
    have h1 := pm_lge_ok h.2 (show r[j]? = some (some v) by simpa using hj) hc
    rwa [show i + 1 + j = i + (j + 1) by omega] at h1
theorem pm_ent_in {n : Nat} {as : List pmV} {v : pmV} (h : some v ∈ pm_ent n as) : v ∈ as := by
  unfold pm_ent at h
  rcases List.mem_append.mp h with h1 | h1
  · exact pm_sl_in h1
  · have := (List.mem_replicate.mp h1).2
    cases this
theorem pm_ent_okl {lw : Bool} {m n : Nat} {as : List pmV} (h : pm_lge m 0 (pm_sl as) = true) (ho : ∀ v ∈ as, pm_okv lw v) : pm_okl lw m (pm_ent n as) := by
  intro v j hj
  refine ⟨ho v (pm_ent_in (List.mem_of_getElem? hj)), fun hc => ?_⟩
  unfold pm_ent at hj
  rcases Nat.lt_or_ge j (pm_sl as).length with h1 | h1
  · rw [List.getElem?_append_left h1] at hj
    have := pm_lge_ok h hj hc
    rwa [Nat.zero_add] at this
  · rw [List.getElem?_append_right h1, List.getElem?_replicate] at hj
    split at hj <;> cases hj
/-- the locals at the entry -/
theorem pm_sl_lv {q : Nat → Nat → Nat → Nat} : ∀ (as : List pmV) (i j : Nat) (v : pmV), (pm_sl as)[j]? = some (some v) → (i + j, pm_val q v) ∈ lv_args i (as.map (pm_val q))
  | [], i, j, v, h => by simp [pm_sl] at h
  | u :: as, i, j, v, h => by
    have hsl : pm_sl (u :: as) = (if pm_cat u = 2 then [some u, none] else [some u]) ++ pm_sl as := by
      unfold pm_sl
      rw [List.flatMap_cons]
    rw [hsl] at h
    rw [List.map_cons, lv_args, pm_val_cat]
    by_cases hc : pm_cat u = 2
    · rw [if_pos hc] at h ⊢
      match j, h with
      | 0, h =>
        have : u = v := by simpa using h
        subst this
        exact List.mem_cons_self
      | 1, h => simp at h
      | j + 2, h =>
        have h2 : (pm_sl as)[j]? = some (some v) := by simpa using h
        have h3 := pm_sl_lv (q := q) as (i + 2) j v h2
        rw [show i + 2 + j = i + (j + 2) by omega] at h3
        exact List.mem_cons_of_mem _ h3
    · rw [if_neg hc] at h ⊢
      match j, h with
      | 0, h =>
        have : u = v := by simpa using h
        subst this
        exact List.mem_cons_self
      | j + 1, h =>
        have h2 : (pm_sl as)[j]? = some (some v) := by simpa using h
        have h3 := pm_sl_lv (q := q) as (i + 1) j v h2
        rw [show i + 1 + j = i + (j + 1) by omega] at h3
        exact List.mem_cons_of_mem _ h3
theorem pm_sl_len {q : Nat → Nat → Nat → Nat} (as : List pmV) : (lg_sl (as.map (pm_val q))).length = (pm_sl as).length := by
  induction as with
  | nil => rfl
  | cons u as ih =>
    have h1 : pm_sl (u :: as) = (if pm_cat u = 2 then [some u, none] else [some u]) ++ pm_sl as := by
      unfold pm_sl
      rw [List.flatMap_cons]
    have h2 : lg_sl ((u :: as).map (pm_val q)) = (if (pm_val q u).category = 2 then [.val (pm_val q u), .second] else [.val (pm_val q u)]) ++ lg_sl (as.map (pm_val q)) := by
      rw [List.map_cons]
      unfold lg_sl
      rw [List.flatMap_cons]
    rw [h1, h2, List.length_append, List.length_append, ih, pm_val_cat]
    split <;> rfl
theorem pm_entry {q : Nat → Nat → Nat → Nat} {n : Nat} {as : List pmV} (h : (pm_sl as).length ≤ n) : pm_LV q ((lg_sl (as.map (pm_val q)) ++ List.replicate (n - (lg_sl (as.map (pm_val q))).length) Slot.unset).toArray) (pm_ent n as) := by
  refine pm_LV.of (lv_entry (as.map (pm_val q)) (n := n) (by rw [pm_sl_len]; exact h)) (pm_ent_len h).symm (fun j v hj => ?_)
  unfold pm_ent at hj
  have hlt : j < (pm_sl as).length := by
    rcases Nat.lt_or_ge j (pm_sl as).length with h1 | h1
    · exact h1
    · rw [List.getElem?_append_right h1, List.getElem?_replicate] at hj
      split at hj
      · cases hj
      · cases hj
  rw [List.getElem?_append_left hlt] at hj
  have := pm_sl_lv (q := q) as 0 j v hj
  rwa [Nat.zero_add] at this
/-- SOUNDNESS: what the pure machine's calls answer, the machine's do -/
theorem pm_sound (l : Launch) (dC : Nat → ClassId) (dI : Nat → Nat → Nat) (a : Nat → ClassId) (q : Nat → Nat → Nat → Nat) (hq : pm_inj q) : ∀ d, pm_CS l dC dI a q d (pm_RD d)
  | 0 => fun cm as σ r σ' h _ _ => by cases h
  | d + 1 => by
    intro cm as σ r σ' h hcm hok
    have ih := pm_sound l dC dI a q hq d
    rw [pm_RD] at h
    dsimp only at h
    split at h
    next hlen =>
      obtain ⟨n, hn⟩ := pm_Rn_some.mp h
      obtain ⟨m1, -, -, -, -, -, m7⟩ := pm_m_ok hcm
      refine Met.ofW (cc := pm_b cm) (maxL := pm_mx cm) (ret := pm_ret cm) m7 rfl ?_
      intro p e s m args below meth c s₁ B hml hv
      obtain ⟨rfl, hP, hK⟩ := hv
      have hts0 : ∀ w ∈ pm_w cm, w.before (as.map (pm_val q)).toArray s = true := atoms_spec (ws := pm_w cm) B.pre
      have hx : pm_Cx p s m (as.map (pm_val q)).toArray c dC dI a q cm := ⟨B.exec, B.bytes, hml, m1 ▸ findClass_of_methodNamed B.named, fun w hw => hts0 w (List.mem_cons_of_mem _ hw), hK, hq⟩
      have ok : pm_ok false (cm, 0, pm_ent (pm_mx cm) as, [], σ) := ⟨pm_ent_len hlen.1, fun v hv => (by cases hv), pm_ent_okl hlen.2 hok⟩
      have key := pm_run (l := l) (e := e) (below := below) (meth := meth) (R := (headSpec (pm_w cm) (pm_rm (d + 1))).room) (cells := 0) (slots := 0) (Q := MQ below (pm_Qc dC dI a q σ r σ') (as.map (pm_val q)).toArray s 0 0 (pm_A q)) (L := 0) (xs := fun _ => 0) hx ⟨Nat.le_refl _, Nat.le_refl _⟩ ⟨Nat.le_refl _, Nat.le_refl _⟩ ih (σ0 := σ) (lw := false) (fun z => by cases z) (fun pc ls st τ h1 h2 h3 => pm_retn hx B.returns B.notSynchronized h2 h3 h1) n 0 _ _ _ hn ok rfl
      have hS : va_S (pm_A q) s.heap s.heap [] := va_S.rf
      rw [lg_entry_eq]
      exact key s.heap [] _ hP hS (pm_entry hlen.1)
    next => cases h

