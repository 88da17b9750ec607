/-! what a step's parts say when they don't refuse -/
theorem pm_nx_inv {m pc : Nat} {ls : pmL} {st : List pmV} {σ : pmS} {y : pmO ⊕ pmF} (h : pm_nx m pc ls st σ = some y) : y = .inr (m, pc, ls, st, σ) := (Option.some.inj h).symm
theorem pm_go_inv {m pc : Nat} {off : Int} {ls : pmL} {st : List pmV} {σ : pmS} {y : pmO ⊕ pmF} (h : pm_go m pc off ls st σ = some y) : (pc : Int) + off = (((pc : Int) + off).toNat : Int) ∧ y = .inr (m, ((pc : Int) + off).toNat, ls, st, σ) := by
  unfold pm_go at h
  split at h
  next h0 => exact ⟨(Int.toNat_of_nonneg h0).symm, (Option.some.inj h).symm⟩
  next => cases h
theorem pm_ld_inv {m pc t k : Nat} {ls : pmL} {st : List pmV} {σ : pmS} {y : pmO ⊕ pmF} (h : pm_ld m pc ls st σ t k = some y) : ∃ v, ls[k]? = some (some v) ∧ y = .inr (m, pc, ls, v :: st, σ) ∧ (t = 0 → ∃ x, v = .inl x) ∧ (t = 1 → ∃ x, v = .inr (.inl x)) ∧ (t = 2 → ∃ x, v = .inr (.inr x)) := by
  unfold pm_ld at h
  split at h
  next x hx =>
    split at h
    next ht => exact ⟨_, hx, pm_nx_inv h, fun _ => ⟨x, rfl⟩, fun q => by omega, fun q => by omega⟩
    next => cases h
  next x hx =>
    split at h
    next ht => exact ⟨_, hx, pm_nx_inv h, fun q => by omega, fun _ => ⟨x, rfl⟩, fun q => by omega⟩
    next => cases h
  next x hx =>
    split at h
    next ht => exact ⟨_, hx, pm_nx_inv h, fun q => by omega, fun q => by omega, fun _ => ⟨x, rfl⟩⟩
    next => cases h
  next => cases h
theorem pm_str_inv {m pc t k : Nat} {ls : pmL} {st : List pmV} {σ : pmS} {y : pmO ⊕ pmF} (h : pm_str m pc ls st σ t k = some y) : ∃ v st', st = v :: st' ∧ pm_nl m k = true ∧ ((t = 0 ∧ (∃ x, v = .inl x) ∧ k < ls.length ∧ y = .inr (m, pc, ls.set k (some v), st', σ)) ∨ (t = 1 ∧ (∃ x, v = .inr (.inl x)) ∧ (k + 1 < ls.length ∧ pm_lg m k = true) ∧ y = .inr (m, pc, (ls.set k (some v)).set (k + 1) none, st', σ)) ∨ (t = 2 ∧ (∃ x, v = .inr (.inr x)) ∧ k < ls.length ∧ y = .inr (m, pc, ls.set k (some v), st', σ))) := by
  unfold pm_str at h
  split at h
  next x st' =>
    split at h
    next ht => exact ⟨_, _, rfl, ht.2.2, Or.inl ⟨ht.1, ⟨x, rfl⟩, ht.2.1, pm_nx_inv h⟩⟩
    next => cases h
  next x st' =>
    split at h
    next ht => exact ⟨_, _, rfl, ht.2.2.1, Or.inr (Or.inl ⟨ht.1, ⟨x, rfl⟩, ⟨ht.2.1, ht.2.2.2⟩, pm_nx_inv h⟩)⟩
    next => cases h
  next x st' =>
    split at h
    next ht => exact ⟨_, _, rfl, ht.2.2, Or.inr (Or.inr ⟨ht.1, ⟨x, rfl⟩, ht.2.1, pm_nx_inv h⟩)⟩
    next => cases h
  next => cases h
theorem pm_i2_inv {m pc : Nat} {ls : pmL} {st : List pmV} {σ : pmS} {f : Int32 → Int32 → Int32} {y : pmO ⊕ pmF} (h : pm_i2 m pc ls st σ f = some y) : ∃ a b st', st = .inl b :: .inl a :: st' ∧ y = .inr (m, pc, ls, .inl (f a b) :: st', σ) := by
  unfold pm_i2 at h
  split at h
  next b a st' => exact ⟨a, b, st', rfl, pm_nx_inv h⟩
  next => cases h
theorem pm_l2_inv {m pc : Nat} {ls : pmL} {st : List pmV} {σ : pmS} {f : Int64 → Int64 → Int64} {y : pmO ⊕ pmF} (h : pm_l2 m pc ls st σ f = some y) : ∃ a b st', st = .inr (.inl b) :: .inr (.inl a) :: st' ∧ y = .inr (m, pc, ls, .inr (.inl (f a b)) :: st', σ) := by
  unfold pm_l2 at h
  split at h
  next b a st' => exact ⟨a, b, st', rfl, pm_nx_inv h⟩
  next => cases h
theorem pm_ls2_inv {m pc : Nat} {ls : pmL} {st : List pmV} {σ : pmS} {f : Int64 → Int32 → Int64} {y : pmO ⊕ pmF} (h : pm_ls2 m pc ls st σ f = some y) : ∃ a b st', st = .inl b :: .inr (.inl a) :: st' ∧ y = .inr (m, pc, ls, .inr (.inl (f a b)) :: st', σ) := by
  unfold pm_ls2 at h
  split at h
  next b a st' => exact ⟨a, b, st', rfl, pm_nx_inv h⟩
  next => cases h
theorem pm_d2_inv {m pc : Nat} {ls : pmL} {st : List pmV} {σ : pmS} {f : Int32 → Int32 → Int32} {y : pmO ⊕ pmF} (h : pm_d2 m pc ls st σ f = some y) : ∃ a b st', st = .inl b :: .inl a :: st' ∧ ¬ b = 0 ∧ y = .inr (m, pc, ls, .inl (f a b) :: st', σ) := by
  unfold pm_d2 at h
  split at h
  next b a st' =>
    split at h
    next => cases h
    next hb => exact ⟨a, b, st', rfl, hb, pm_nx_inv h⟩
  next => cases h
theorem pm_inb_ok {i : Int32} {n : Nat} (h : pm_inb i n = true) : vp_in i n := by
  unfold pm_inb at h
  intro hz
  rcases hz with hz | hz
  · simp [hz] at h
  · simp [hz] at h
theorem pm_inb_of {i : Int32} {n : Nat} (h : vp_in i n) : pm_inb i n = true := by
  unfold pm_inb
  unfold vp_in at h
  have h1 : ¬ i < 0 := fun z => h (Or.inl z)
  have h2 : ¬ n ≤ i.toNatClampNeg := fun z => h (Or.inr z)
  simp [h1, h2]
theorem pm_ald_inv {m pc t : Nat} {ls : pmL} {st : List pmV} {σ : pmS} {y : pmO ⊕ pmF} (h : pm_ald m pc ls st σ t = some y) : ∃ i c o k st', st = .inl i :: .inr (.inr (c, o, k + 1)) :: st' ∧ vp_in i (pm_len σ c k) ∧ ((t = 0 ∧ pm_kd c k = 0 ∧ y = .inr (m, pc, ls, .inl (σ.1 c o k i.toNatClampNeg) :: st', σ)) ∨ (t = 0 ∧ pm_kd c k = 9 ∧ k = 0 ∧ o = 0 ∧ y = .inr (m, pc, ls, .inl (σ.1 11 0 0 i.toNatClampNeg) :: st', σ)) ∨ (t = 1 ∧ pm_kd c k = 1 ∧ y = .inr (m, pc, ls, .inr (.inl (σ.2 c o k i.toNatClampNeg)) :: st', σ)) ∨ (t = 2 ∧ pm_kd c k = 2 ∧ y = .inr (m, pc, ls, .inl (σ.1 c o k i.toNatClampNeg) :: st', σ)) ∨ (3 ≤ t ∧ (pm_kd c k = 3 ∨ pm_kd c k = 5) ∧ y = .inr (m, pc, ls, .inr (.inr (pm_kd c k - 3, i.toNatClampNeg, 0)) :: st', σ))) := by
  unfold pm_ald at h
  split at h
  next i c o k st' =>
    split at h
    next hi =>
      refine ⟨i, c, o, k, st', rfl, pm_inb_ok hi, ?_⟩
      split at h
      next =>
        split at h
        next hk => exact Or.inl ⟨rfl, hk, pm_nx_inv h⟩
        next =>
          split at h
          next hk => exact Or.inr (Or.inl ⟨rfl, hk.1, hk.2.1, hk.2.2, pm_nx_inv h⟩)
          next => cases h
      next =>
        split at h
        next hk => exact Or.inr (Or.inr (Or.inl ⟨rfl, hk, pm_nx_inv h⟩))
        next => cases h
      next =>
        split at h
        next hk => exact Or.inr (Or.inr (Or.inr (Or.inl ⟨rfl, hk, pm_nx_inv h⟩)))
        next => cases h
      next h0 h1 h2 =>
        split at h
        next hk => exact Or.inr (Or.inr (Or.inr (Or.inr ⟨by
            rcases t with _ | _ | _ | t
            · exact absurd rfl h0
            · exact absurd rfl h1
            · exact absurd rfl h2
            · omega, hk, pm_nx_inv h⟩)))
        next => cases h
    next => cases h
  next => cases h
theorem pm_ast_inv {m pc t : Nat} {ls : pmL} {st : List pmV} {σ : pmS} {y : pmO ⊕ pmF} (h : pm_ast m pc ls st σ t = some y) : (∃ x i c o k st', st = .inl x :: .inl i :: .inr (.inr (c, o, k + 1)) :: st' ∧ vp_in i (pm_len σ c k) ∧ y = .inr (m, pc, ls, st', pm_wi σ c o k i.toNatClampNeg x) ∧ ((t = 0 ∧ pm_kd c k = 0) ∨ (t = 2 ∧ pm_kd c k = 2 ∧ (x = 0 ∨ x = 1)))) ∨ (∃ x i c o k st', st = .inr (.inl x) :: .inl i :: .inr (.inr (c, o, k + 1)) :: st' ∧ vp_in i (pm_len σ c k) ∧ t = 1 ∧ pm_kd c k = 1 ∧ y = .inr (m, pc, ls, st', pm_wl σ c o k i.toNatClampNeg x)) := by
  unfold pm_ast at h
  split at h
  next x i c o k st' =>
    split at h
    next hi =>
      refine Or.inl ⟨x, i, c, o, k, st', rfl, pm_inb_ok hi, ?_⟩
      split at h
      next =>
        split at h
        next hk => exact ⟨pm_nx_inv h, Or.inl ⟨rfl, hk⟩⟩
        next => cases h
      next =>
        split at h
        next hk => exact ⟨pm_nx_inv h, Or.inr ⟨rfl, hk.1, hk.2⟩⟩
        next => cases h
      next => cases h
    next => cases h
  next x i c o k st' =>
    split at h
    next hi =>
      split at h
      next hk => exact Or.inr ⟨x, i, c, o, k, st', rfl, pm_inb_ok hi, hk.1, hk.2, pm_nx_inv h⟩
      next => cases h
    next => cases h
  next => cases h
theorem pm_get_inv {m pc idx : Nat} {ls : pmL} {st : List pmV} {σ : pmS} {y : pmO ⊕ pmF} (h : pm_get m pc ls st σ idx = some y) : ∃ c o k st', st = .inr (.inr (c, o, 0)) :: st' ∧ pm_fl (pm_own m) idx = some (c, k) ∧ ((pm_fk c k = 0 ∧ y = .inr (m, pc, ls, .inl (σ.1 c o k 0) :: st', σ)) ∨ (pm_fk c k = 1 ∧ y = .inr (m, pc, ls, .inr (.inl (σ.2 c o k 0)) :: st', σ)) ∨ (pm_fk c k = 2 ∧ y = .inr (m, pc, ls, .inr (.inr (c, o, k + 1)) :: st', σ)) ∨ (∃ t, pm_fk c k = t + 3 ∧ y = .inr (m, pc, ls, .inr (.inr (t, 0, 0)) :: st', σ))) := by
  unfold pm_get at h
  split at h
  next c o st' =>
    split at h
    next c' k hf =>
      split at h
      next hc =>
        subst hc
        refine ⟨c, o, k, st', rfl, hf, ?_⟩
        split at h
        next hk => exact Or.inl ⟨hk, pm_nx_inv h⟩
        next hk => exact Or.inr (Or.inl ⟨hk, pm_nx_inv h⟩)
        next hk => exact Or.inr (Or.inr (Or.inl ⟨hk, pm_nx_inv h⟩))
        next t hk => exact Or.inr (Or.inr (Or.inr ⟨t, hk, pm_nx_inv h⟩))
      next => cases h
    next => cases h
  next => cases h
theorem pm_put_inv {m pc idx : Nat} {ls : pmL} {st : List pmV} {σ : pmS} {y : pmO ⊕ pmF} (h : pm_put m pc ls st σ idx = some y) : (∃ x c o k st', st = .inl x :: .inr (.inr (c, o, 0)) :: st' ∧ pm_fl (pm_own m) idx = some (c, k) ∧ pm_fk c k = 0 ∧ y = .inr (m, pc, ls, st', pm_wi σ c o k 0 x)) ∨ (∃ x c o k st', st = .inr (.inl x) :: .inr (.inr (c, o, 0)) :: st' ∧ pm_fl (pm_own m) idx = some (c, k) ∧ pm_fk c k = 1 ∧ y = .inr (m, pc, ls, st', pm_wl σ c o k 0 x)) := by
  unfold pm_put at h
  split at h
  next x c o st' =>
    split at h
    next c' k hf =>
      split at h
      next hc =>
        obtain ⟨hc, hk⟩ := hc
        subst hc
        exact Or.inl ⟨x, c, o, k, st', rfl, hf, hk, pm_nx_inv h⟩
      next => cases h
    next => cases h
  next x c o st' =>
    split at h
    next c' k hf =>
      split at h
      next hc =>
        obtain ⟨hc, hk⟩ := hc
        subst hc
        exact Or.inr ⟨x, c, o, k, st', rfl, hf, hk, pm_nx_inv h⟩
      next => cases h
    next => cases h
  next => cases h
theorem pm_call_inv {C : pmC} {m pc idx vt : Nat} {ls : pmL} {st : List pmV} {σ : pmS} {y : pmO ⊕ pmF} (h : pm_call C m pc ls st σ idx vt = some y) : ∃ cm as rest r σ', pm_cl (pm_own m) idx = some cm ∧ st = as.reverse ++ rest ∧ as.length = pm_na cm ∧ pm_vt cm = vt ∧ pm_cats rest ≤ 8 ∧ pm_noscr as = true ∧ (vt = 0 ∨ pm_rcv cm as = true) ∧ C cm as σ = some (r, σ') ∧ y = .inr (m, pc, ls, r.toList ++ rest, σ') := by
  unfold pm_call at h
  split at h
  next cm hcm =>
    split at h
    next hc =>
      obtain ⟨h1, h2, h3, h4, h5⟩ := hc
      cases hr : C cm ((st.take (pm_na cm)).reverse) σ with
      | none => rw [hr] at h; cases h
      | some x =>
        obtain ⟨r, σ'⟩ := x
        rw [hr] at h
        refine ⟨cm, (st.take (pm_na cm)).reverse, st.drop (pm_na cm), r, σ', hcm, ?_, ?_, h2, h3, h4, h5, hr, pm_nx_inv h⟩
        · rw [List.reverse_reverse, List.take_append_drop]
        · rw [List.length_reverse, List.length_take]
          omega
    next => cases h
  next => cases h
theorem pm_copy_inv {m pc : Nat} {ls : pmL} {st : List pmV} {σ : pmS} {y : pmO ⊕ pmF} (h : pm_copy m pc ls st σ = some y) : ∃ n dp c1 o1 k1 sp c0 o0 k0 st', st = .inl n :: .inl dp :: .inr (.inr (c1, o1, k1 + 1)) :: .inl sp :: .inr (.inr (c0, o0, k0 + 1)) :: st' ∧ (pm_kd c0 k0 = 0 ∧ pm_kd c1 k1 = 0 ∧ ¬ sp < 0 ∧ ¬ dp < 0 ∧ ¬ n < 0 ∧ sp.toNatClampNeg + n.toNatClampNeg ≤ pm_len σ c0 k0 ∧ dp.toNatClampNeg + n.toNatClampNeg ≤ pm_len σ c1 k1 ∧ pm_cats st' ≤ 8) ∧ y = .inr (m, pc, ls, st', pm_wr σ c1 o1 k1 (va_cpy (σ.1 c0 o0 k0) (σ.1 c1 o1 k1) sp.toNatClampNeg dp.toNatClampNeg n.toNatClampNeg)) := by
  unfold pm_copy at h
  split at h
  next n dp c1 o1 k1 sp c0 o0 k0 st' =>
    split at h
    next hc => exact ⟨n, dp, c1, o1, k1, sp, c0, o0, k0, st', rfl, hc, pm_nx_inv h⟩
    next => cases h
  next => cases h
theorem pm_min_inv {m pc : Nat} {ls : pmL} {st : List pmV} {σ : pmS} {y : pmO ⊕ pmF} (h : pm_min m pc ls st σ = some y) : ∃ a b st', st = .inl b :: .inl a :: st' ∧ pm_cats st' ≤ 8 ∧ y = .inr (m, pc, ls, .inl (if b < a then b else a) :: st', σ) := by
  unfold pm_min at h
  split at h
  next b a st' =>
    split at h
    next hc => exact ⟨a, b, st', rfl, hc, pm_nx_inv h⟩
    next => cases h
  next => cases h
theorem pm_dup_inv {m pc t : Nat} {ls : pmL} {st : List pmV} {σ : pmS} {y : pmO ⊕ pmF} (h : pm_dup m pc ls st σ t = some y) : ∃ v st', st = v :: st' ∧ pm_cat v = 1 ∧ ((t = 0 ∧ y = .inr (m, pc, ls, v :: v :: st', σ)) ∨ (t = 1 ∧ y = .inr (m, pc, ls, st', σ)) ∨ (2 ≤ t ∧ ∃ w st2, st' = w :: st2 ∧ pm_cat w = 1 ∧ y = .inr (m, pc, ls, v :: w :: v :: w :: st2, σ))) := by
  unfold pm_dup at h
  split at h
  next => cases h
  next v st' =>
    split at h
    next hv =>
      refine ⟨v, st', rfl, hv, ?_⟩
      split at h
      next => exact Or.inl ⟨rfl, pm_nx_inv h⟩
      next => exact Or.inr (Or.inl ⟨rfl, pm_nx_inv h⟩)
      next h0 h1 =>
        split at h
        next => cases h
        next w st2 =>
          split at h
          next hw =>
            refine Or.inr (Or.inr ⟨?_, w, st2, rfl, hw, pm_nx_inv h⟩)
            rcases t with _ | _ | t
            · exact absurd rfl h0
            · exact absurd rfl h1
            · omega
          next => cases h
    next => cases h
theorem pm_b1_inv {m pc : Nat} {off : Int} {ls : pmL} {st : List pmV} {σ : pmS} {cd : ClassFile.Cond} {a b : Int32} {y : pmO ⊕ pmF} (h : pm_b1 m pc off ls st σ cd a b = some y) : ∃ g : Prop, (g ∨ ¬ g) ∧ (g → (pc : Int) + off = (((pc : Int) + off).toNat : Int) ∧ y = .inr (m, ((pc : Int) + off).toNat, ls, st, σ)) ∧ (¬ g → y = .inr (m, pc + 3, ls, st, σ)) ∧ (match cd with
    | .eq => g ↔ a = b
    | .ne => g ↔ ¬ a = b
    | .lt => g ↔ a < b
    | .ge => g ↔ b ≤ a
    | .gt => g ↔ b < a
    | .le => g ↔ a ≤ b) := by
  unfold pm_b1 at h
  cases cd <;> dsimp only at h ⊢
  · refine ⟨a = b, Classical.em _, ?_, ?_, Iff.rfl⟩
    · intro g; rw [if_pos g] at h; exact pm_go_inv h
    · intro g; rw [if_neg g] at h; exact pm_nx_inv h
  · refine ⟨¬ a = b, Classical.em _, ?_, ?_, Iff.rfl⟩
    · intro g; rw [if_neg g] at h; exact pm_go_inv h
    · intro g; rw [if_pos (Classical.not_not.mp g)] at h; exact pm_nx_inv h
  · refine ⟨a < b, Classical.em _, ?_, ?_, Iff.rfl⟩
    · intro g; rw [if_pos g] at h; exact pm_go_inv h
    · intro g; rw [if_neg g] at h; exact pm_nx_inv h
  · refine ⟨b ≤ a, Classical.em _, ?_, ?_, Iff.rfl⟩
    · intro g; rw [if_pos g] at h; exact pm_go_inv h
    · intro g; rw [if_neg g] at h; exact pm_nx_inv h
  · refine ⟨b < a, Classical.em _, ?_, ?_, Iff.rfl⟩
    · intro g; rw [if_pos g] at h; exact pm_go_inv h
    · intro g; rw [if_neg g] at h; exact pm_nx_inv h
  · refine ⟨a ≤ b, Classical.em _, ?_, ?_, Iff.rfl⟩
    · intro g; rw [if_pos g] at h; exact pm_go_inv h
    · intro g; rw [if_neg g] at h; exact pm_nx_inv h
theorem pm_ofI {z : Int} (h1 : 0 ≤ z) (h2 : z < 1000) : (Int32.ofInt z).toInt = z := by
  rw [Int32.toInt_ofInt]
  show z.bmod (2 ^ 32) = z
  rw [Int.bmod_eq_of_le (by omega) (by omega)]
theorem pm_eqI {x : Int32} {z : Int} (h1 : 0 ≤ z) (h2 : z < 1000) : x = Int32.ofInt z ↔ x.toInt = z := by
  rw [← Int32.toInt_inj, pm_ofI h1 h2]
theorem pm_sw_ok (x : Int32) (d : Int) : ∀ (offs : List Int) (lo : Int), 0 ≤ lo → lo + offs.length ≤ 1000 → (x.toInt < lo ∨ lo + offs.length ≤ x.toInt → pm_sw x lo offs d = d) ∧ (lo ≤ x.toInt → x.toInt < lo + offs.length → offs[(x.toInt - lo).toNat]? = some (pm_sw x lo offs d))
  | [], lo, h0, h1 => ⟨fun _ => rfl, fun h2 h3 => by simp at h3; omega⟩
  | o :: r, lo, h0, h1 => by
    have hl : ((o :: r).length : Int) = (r.length : Int) + 1 := by simp
    rw [hl] at h1 ⊢
    have ih := pm_sw_ok x d r (lo + 1) (by omega) (by omega)
    have he := pm_eqI (x := x) h0 (show lo < 1000 by omega)
    constructor
    · intro h2
      rw [pm_sw, if_neg (fun z => by have := he.mp z; omega)]
      exact ih.1 (by omega)
    · intro h2 h3
      rw [pm_sw]
      by_cases hx : x = Int32.ofInt lo
      · rw [if_pos hx, he.mp hx, Int.sub_self]
        rfl
      · have hn : x.toInt ≠ lo := fun z => hx (he.mpr z)
        rw [if_neg hx, ← ih.2 (by omega) (by omega)]
        rw [show (x.toInt - lo).toNat = (x.toInt - (lo + 1)).toNat + 1 by omega, List.getElem?_cons_succ]
theorem pm_lk_ok (x : Int32) (d : Int) : ∀ (ps : List (Int × Int)), ps.all (fun q => decide (0 ≤ q.1 ∧ q.1 < 1000)) = true → Op.lookupswitch.offset ps d x.toInt = pm_lk x ps d
  | [], _ => rfl
  | q :: r, h => by
    rw [List.all_cons, Bool.and_eq_true, decide_eq_true_eq] at h
    rw [pm_lk, ← pm_lk_ok x d r h.2]
    have he := pm_eqI (x := x) h.1.1 h.1.2
    obtain ⟨k, o⟩ := q
    rw [Op.lookupswitch.offset_cons]
    by_cases hx : x = Int32.ofInt k
    · rw [if_pos hx]
      have := he.mp hx
      simp [this]
    · rw [if_neg hx]
      have hn : x.toInt ≠ k := fun z => hx (he.mpr z)
      have hn2 : k ≠ x.toInt := fun z => hn z.symm
      simp [hn, hn2]
