/-! rules for reading the pure machine -/
theorem e_s {C : pmC} {fr fr' : pmF} (h : pq_stp C fr = some (.inr fr')) : pq_Rn C fr = pq_Rn C fr' := by
  rw [pq_Rn_eq, h]
theorem e_r {C : pmC} {fr : pmF} {r : pmO} (h : pq_stp C fr = some (.inl r)) : pq_Rn C fr = some r := by
  rw [pq_Rn_eq, h]
def pq_sn (C : pmC) : Nat → pmF → Option pmF
  | 0, fr => some fr
  | n + 1, fr => match pq_stp C fr with
    | some (.inr fr') => pq_sn C n fr'
    | _ => none
theorem e_n {C : pmC} : ∀ (n : Nat) {fr fr' : pmF}, pq_sn C n fr = some fr' → pq_Rn C fr = pq_Rn C fr'
  | 0, fr, fr', h => by cases h; rfl
  | n + 1, fr, fr', h => by
    rw [pq_sn] at h
    cases hs : pq_stp C fr with
    | none => rw [hs] at h; cases h
    | some y =>
      rw [hs] at h
      cases y with
      | inl r => cases h
      | inr fr2 => exact (e_s hs).trans (e_n n h)
theorem e_t {C : pmC} {fr A : pmF} {B : Option (pmO ⊕ pmF)} {P : Prop} [Decidable P] (h : pq_stp C fr = if P then some (.inr A) else B) (hp : P) : pq_Rn C fr = pq_Rn C A := e_s (by rw [h, if_pos hp])
theorem e_f {C : pmC} {fr B : pmF} {A : Option (pmO ⊕ pmF)} {P : Prop} [Decidable P] (h : pq_stp C fr = if P then A else some (.inr B)) (hp : ¬ P) : pq_Rn C fr = pq_Rn C B := e_s (by rw [h, if_neg hp])
theorem e_a {C : pmC} {fr A : pmF} {B : Option (pmO ⊕ pmF)} {i : Int32} {n : Nat} (h : pq_stp C fr = if pm_inb i n = true then some (.inr A) else B) (hp : vp_in i n) : pq_Rn C fr = pq_Rn C A := e_t h (pm_inb_of hp)
theorem e_c {C : pmC} {fr : pmF} {cm m pc : Nat} {as rest : List pmV} {ls : pmL} {σ σ' : pmS} {r : Option pmV} (h : pq_stp C fr = (C cm as σ).bind fun x => pm_nx m pc ls (x.1.toList ++ rest) x.2) (hc : C cm as σ = some (r, σ')) : pq_Rn C fr = pq_Rn C (m, pc, ls, r.toList ++ rest, σ') := e_s (by rw [h, hc]; rfl)
theorem e_ci {C : pmC} {fr : pmF} {cm m pc : Nat} {as rest : List pmV} {ls : pmL} {σ σ' : pmS} {r : Int32} (h : pq_stp C fr = (C cm as σ).bind fun x => pm_nx m pc ls (x.1.toList ++ rest) x.2) (hc : C cm as σ = some (some (vI r), σ')) : pq_Rn C fr = pq_Rn C (m, pc, ls, vI r :: rest, σ') := e_c h hc
theorem e_cv {C : pmC} {fr : pmF} {cm m pc : Nat} {as rest : List pmV} {ls : pmL} {σ σ' : pmS} (h : pq_stp C fr = (C cm as σ).bind fun x => pm_nx m pc ls (x.1.toList ++ rest) x.2) (hc : C cm as σ = some (none, σ')) : pq_Rn C fr = pq_Rn C (m, pc, ls, rest, σ') := e_c h hc
theorem e_cr {C : pmC} {fr : pmF} {cm m pc : Nat} {as rest : List pmV} {ls : pmL} {σ σ' : pmS} {c o k : Nat} (h : pq_stp C fr = (C cm as σ).bind fun x => pm_nx m pc ls (x.1.toList ++ rest) x.2) (hc : C cm as σ = some (some (vR c o k), σ')) : pq_Rn C fr = pq_Rn C (m, pc, ls, vR c o k :: rest, σ') := e_c h hc
/-- a boolean stored -/
theorem e_z {C : pmC} {fr A : pmF} {B D : Option (pmO ⊕ pmF)} {i x : Int32} {n : Nat} {P : Prop} [Decidable P] (h : pq_stp C fr = if pm_inb i n = true then (if P ∧ (x = 0 ∨ x = 1) then some (.inr A) else B) else D) (h0 : P) (hp : vp_in i n) (hx : x = 0 ∨ x = 1) : pq_Rn C fr = pq_Rn C A := e_s (by rw [h, if_pos (pm_inb_of hp), if_pos ⟨h0, hx⟩])
/-- a boolean returned -/
theorem e_rz {C : pmC} {fr : pmF} {r : pmO} {B : Option (pmO ⊕ pmF)} {x : Int32} {P : Prop} [Decidable P] (h : pq_stp C fr = if P ∧ (x = 0 ∨ x = 1) then some (.inl r) else B) (h0 : P) (hx : x = 0 ∨ x = 1) : pq_Rn C fr = some r := e_r (by rw [h, if_pos ⟨h0, hx⟩])
theorem e_g {C : pmC} {fr A : pmF} {m pc : Nat} {off off' : Int} {ls : pmL} {st : List pmV} {σ : pmS} (h : pq_stp C fr = pm_go m pc off ls st σ) (ho : off = off') (hg : pm_go m pc off' ls st σ = some (.inr A)) : pq_Rn C fr = pq_Rn C A := e_s (by rw [h, ho, hg])
theorem pm_sw_ne {x : Int32} {lo o d : Int} {r : List Int} (h : ¬ x = Int32.ofInt lo) : pm_sw x lo (o :: r) d = pm_sw x (lo + 1) r d := by rw [pm_sw, if_neg h]
theorem pm_lk_ne {x : Int32} {k o d : Int} {r : List (Int × Int)} (h : ¬ x = Int32.ofInt k) : pm_lk x ((k, o) :: r) d = pm_lk x r d := by rw [pm_lk, if_neg h]
theorem e_cp {C : pmC} {fr A : pmF} {B : Option (pmO ⊕ pmF)} {P : Prop} [Decidable P] (h : pq_stp C fr = if P then some (.inr A) else B) (hp : P) : pq_Rn C fr = pq_Rn C A := e_t h hp
/-- a call, from its body -/
theorem e_d {d m : Nat} {as : List pmV} {σ : pmS} (h : (pm_sl as).length ≤ pm_mx m ∧ pm_lge m 0 (pm_sl as) = true) : pq_RD (d + 1) m as σ = pq_Rn (pq_RD d) (m, 0, pm_ent (pm_mx m) as, [], σ) := by
  rw [pq_RD]
  dsimp only
  rw [if_pos h]
