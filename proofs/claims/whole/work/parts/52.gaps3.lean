/-! open, sure: the calls -/
theorem bits0 {a : Nat} (ha : a < 256) : a = 0 ↔ ∀ e, e < 8 → a.testBit e = false := by
  constructor
  · intro h e _
    rw [h]
    exact Nat.zero_testBit e
  · intro h
    refine Nat.eq_of_testBit_eq (fun i => ?_)
    rw [Nat.zero_testBit]
    rcases Nat.lt_or_ge i 8 with q | q
    · exact h i q
    · exact Nat.testBit_lt_two_pow (Nat.lt_of_lt_of_le ha (Nat.le_trans (by decide : 256 ≤ 2 ^ 8) (Nat.pow_le_pow_right (by decide) q)))
theorem gI2_at {σ τ : pmS} {NC NP p : Nat} (hP : iP σ.1 NC NP) (hI : gI2 σ NP τ) (hp : p < NP) : rt σ.1 p < NP ∧ τ.1 10 0 43 p = nI (rt σ.1 p) ∧ ∃ a, a < 256 ∧ τ.1 10 0 45 (rt σ.1 p) = nI a ∧ (∀ c, c < 8 → a.testBit c = gok σ.1 c (rt σ.1 p) NP) ∧ (a = 0 ↔ gob σ.1 NP p 8 = 0) := by
  have rl := rt_le σ.1 (p + 1) p (by omega)
  have rr := rt_root hP (p + 1) p (by omega) hp
  obtain ⟨a, ha, y1, y2⟩ := hI.2.2 (rt σ.1 p) (by omega) rr
  refine ⟨by omega, (hI.2.1 p hp).1, a, ha, y1, y2, ?_⟩
  rw [bits0 ha, gob_0]
  exact ⟨fun h e he => by rw [← y2 e he]; exact h e he, fun h e he => by rw [y2 e he]; exact h e he⟩
theorem c174 (d : Nat) {σ σ' : pmS} {NS NC NP : Nat} (hS : iS σ.1 NS) (hC : iC σ.1 NS NC) (hP : iP σ.1 NC NP) (hO : o2 σ' σ) : ∃ τ, pq_RD (d + 4) 174 [vR 10 0 0] σ' = some (some (vI (bI (hfA (fun p => !decide (gob σ.1 NP p 8 = 0)) NP))), τ) ∧ gI2 σ NP τ := by
  have hN := hP.1
  obtain ⟨⟨τ, l2, l3, l4, l5, l6⟩, hI, hr⟩ := lp_ex (C := pq_RD (d + 3)) (S := pmS × Option pmV × Option pmV × Option pmV × Option pmV × Option pmV) (I := fun P υ => gI2 σ P υ.1) (fr := fun P υ => (174, 2, [some (vR 10 0 0), some (vI (nI P)), υ.2.1, υ.2.2.1, υ.2.2.2.1, υ.2.2.2.2.1, υ.2.2.2.2.2], [], υ.1)) (s0 := (σ', none, none, none, none, none)) ⟨hO, fun q hq => by omega, fun r hr => by omega⟩ (n := NP) (fun P υ hPN hI => by
    obtain ⟨υ, l2, l3, l4, l5, l6⟩ := υ
    obtain ⟨τ', m2, m3, m4, m5, m6, k, hI'⟩ := c174p d hS hC hP hPN hI l2 l3 l4 l5 l6
    exact ⟨(τ', m2, m3, m4, m5, m6), hI', k⟩)
  have hI : gI2 σ NP τ := hI
  have e16 : τ.1 10 0 16 0 = nI NP := by rw [hI.1 10 0 16 (by omega) (by omega)]; exact hP.2.2.1
  have run := lp_n (C := pq_RD (d + 3)) (fr := fun p => (174, 251, [some (vR 10 0 0), some (vI (bI (hfA (fun p => !decide (gob σ.1 NP p 8 = 0)) p))), some (vI (nI p)), l3, l4, l5, l6], [], τ)) (n := NP) (fun p hp => by
    obtain ⟨rl, e43, a, ha, e45, -, a0⟩ := gI2_at hP hI hp
    have hg : ¬ τ.1 10 0 16 0 ≤ nI p := by rw [e16]; exact nI_ge hp (by omega)
    have ep : (nI p).toNatClampNeg = p := nI_clamp (by omega)
    have hv : vp_in (nI p) 48 := vp_in_nI (by omega) (by omega)
    rw [hfA, ← nI_1 p]
    cases hfA (fun p => !decide (gob σ.1 NP p 8 = 0)) p with
    | false => exact (g174_251_1 _ hg rfl).trans ((g174_281_0 _).trans (g174_282_0 _))
    | true =>
      by_cases q : gob σ.1 NP p 8 = 0
      · rw [show (true && !decide (gob σ.1 NP p 8 = 0)) = false by simp [q]]
        exact (g174_251_2 _ hg (by decide) hv (by rw [ep, e43]; exact vp_in_nI (by omega) (by omega)) (by rw [ep, e43, nI_clamp (by omega), e45, nI_is0 (by omega)]; exact a0.mpr q)).trans ((g174_281_0 _).trans (g174_282_0 _))
      · rw [show (true && !decide (gob σ.1 NP p 8 = 0)) = true by simp [q]]
        exact (g174_251_3 _ hg (by decide) hv (by rw [ep, e43]; exact vp_in_nI (by omega) (by omega)) (by rw [ep, e43, nI_clamp (by omega), e45, nI_is0 (by omega)]; exact fun z => q (a0.mp z))).trans (g174_282_0 _))
  exact ⟨τ, (m174 (d + 3)).trans ((g174_0_0 _).trans (Eq.trans hr ((g174_2_0 _ (by rw [e16, fa_le]; omega)).trans (Eq.trans run (g174_251_0 _ (by rw [e16, fa_le]; omega) (bI_01 _)))))), hI⟩
theorem c175 (d : Nat) {σ τ : pmS} {NS NC NP p : Nat} (hS : iS σ.1 NS) (hC : iC σ.1 NS NC) (hP : iP σ.1 NC NP) (hI : gI2 σ NP τ) (hp : p < NP) : pq_RD (d + 1) 175 [vR 10 0 0, vI (nI p)] τ = some (some (vI (nI (gob σ.1 NP p 8))), τ) := by
  have hN := hP.1
  obtain ⟨rl, e43, a, ha, e45, hb, -⟩ := gI2_at hP hI hp
  have ep : (nI p).toNatClampNeg = p := nI_clamp (by omega)
  have hv : vp_in (nI p) 48 := vp_in_nI (by omega) (by omega)
  have vr : vp_in (τ.1 10 0 43 (nI p).toNatClampNeg) 48 := by rw [ep, e43]; exact vp_in_nI (by omega) (by omega)
  have rd : τ.1 10 0 45 (τ.1 10 0 43 (nI p).toNatClampNeg).toNatClampNeg = nI a := by rw [ep, e43, nI_clamp (by omega)]; exact e45
  have run := lp_n (C := pq_RD d) (fr := fun C => (175, 4, [some (vR 10 0 0), some (vI (nI p)), some (vI (nI (gob σ.1 NP p C))), some (vI (nI C))], [], τ)) (n := 8) (fun C hC8 => by
    have hbit := bit8 (u := a) (e := C) (by omega) hC8
    rw [hb C hC8] at hbit
    have eix : (8 : Int32) * nI p + nI C = nI (8 * p + C) := by
      show nI 8 * nI p + nI C = _
      rw [pk_mul, nI_add]
    have h8 : ¬ (8 : Int32) ≤ nI C := nI_ge (b := 8) hC8 (by decide)
    cases hk : gok σ.1 C (rt σ.1 p) NP with
    | true =>
      obtain ⟨-, t, ht, et⟩ := gok_im hS hC hP hC8 hp hk
      rw [hk] at hbit
      have st := g175_4_1 (pq_RD d) (σ := τ) (x1 := nI p) (x2 := nI (gob σ.1 NP p C)) (x3 := nI C) h8 hv vr (by rw [rd]; exact hbit) (by rw [eix]; exact vp_in_nI (by omega) (by omega))
      rw [eix, nI_clamp (by omega), (hI.2.1 p hp).2 C hC8, et, set8 ht, nI_1 C] at st
      have eg : gob σ.1 NP p (C + 1) = gob σ.1 NP p C ||| 2 ^ t := by rw [gob, if_pos hk, et, nI_clamp (by omega)]
      rw [eg]
      exact st
    | false =>
      rw [hk] at hbit
      have st := g175_4_2 (pq_RD d) (σ := τ) (x1 := nI p) (x2 := nI (gob σ.1 NP p C)) (x3 := nI C) h8 hv vr (by rw [rd, hbit]; decide)
      have ez : nI (gob σ.1 NP p C) ||| (0 : Int32) = nI (gob σ.1 NP p C) := (orI _ 0).trans (by rw [Nat.or_zero])
      rw [ez, nI_1 C] at st
      have eg : gob σ.1 NP p (C + 1) = gob σ.1 NP p C := by rw [gob, hk, if_neg (by decide)]
      rw [eg]
      exact st)
  exact (m175 d).trans ((g175_0_0 _).trans (Eq.trans run (g175_4_0 _ (by decide))))
theorem o12 {τ σ : pmS} (h : o1 τ σ) : o2 τ σ := fun c o k h1 _ => h c o k h1
theorem gaps_same {σ τ : pmS} (h : Inv σ) (hO : o2 τ σ) : Inv τ := h.same (mask_eq (fun c o k hk => hO c o k (fun z => by subst z; exact absurd (show false = true from hk) (by decide)) (fun z => by obtain ⟨rfl, z⟩ := z; rcases z with rfl | rfl | rfl <;> exact absurd hk (by decide))))
theorem T_open {σ : pmS} (h : Inv σ) (x : Int32) : Tok 83 176 [vI x] σ := by
  obtain ⟨NS, NC, NP, hh⟩ := id h
  have hh : iAll σ.1 NS NC NP := hh
  obtain ⟨hT, hS, hC, hP, hW, hM, hO⟩ := id hh
  have hN := hP.1
  have a1 := c32 58 (σ := σ) (x1 := x)
  rw [show σ.1 5 0 9 0 = nI NP from hP.2.1] at a1
  have b1 : ∀ {τ : pmS}, o2 τ σ → pq_RD 59 134 [vR 10 0 0, vI x] τ = some (some (vI (bI (sHas (nI NP) x))), τ) := fun {τ} e => by
    have := c134 58 (σ := τ) (x1 := x)
    rwa [e 10 0 16 (by omega) (by omega), show σ.1 10 0 16 0 = nI NP from hP.2.2.1] at this
  cases q1 : sHas (nI NP) x with
  | false =>
    rw [q1] at a1 b1
    exact ⟨_, _, _, (m83 59).trans (g83_0_0 _ a1 rfl), (m176 59).trans (g176_0_0 _ (b1 (τ := σ) (fun _ _ _ _ _ => rfl)) rfl), h⟩
  | true =>
    rw [q1] at a1 b1
    obtain ⟨ex, hx⟩ := in_nI (sHas_in (by omega) q1) (by omega)
    have vx : vp_in x 48 := in_le (sHas_in (by omega) q1) hN (by omega)
    obtain ⟨σ1, k1, p1, p2⟩ := c102 53 (σ := σ) hS hC hP
    obtain ⟨ρ, k2, hI⟩ := c174 55 (σ := σ) (σ' := σ1) hS hC hP (o12 p1)
    cases hb : hfA (fun p => !decide (gob σ.1 NP p 8 = 0)) NP with
    | false =>
      rw [hb] at k1 k2
      exact ⟨_, _, ρ, (m83 59).trans (g83_0_1 _ a1 (by decide) k1 rfl), (m176 59).trans (g176_0_1 _ (b1 (o12 p1)) (by decide) k2 rfl), gaps_same h hI.1⟩
    | true =>
      rw [hb] at k1 k2
      have k3 := c175 58 hS hC hP hI hx
      rw [← ex] at k3
      exact ⟨_, _, ρ, ((m83 59).trans (g83_0_2 _ a1 (by decide) k1 (by decide) vx)).trans (by rw [p2 _ hx]), (m176 59).trans (g176_0_2 _ (b1 (o12 p1)) (by decide) k2 (by decide) k3), gaps_same h hI.1⟩
set_option maxRecDepth 20000 in
theorem c179 (d : Nat) {σ : pmS} {v : Nat} (hv : v < 256) (h0 : v ≠ 0) : ∃ r, pq_RD (d + 1) 179 [vI (nI v)] σ = some (some (vI r), σ) ∧ (r = 1 ↔ nI v &&& (nI v - 1) = 0) := by
  refine ⟨_, (m179 d).trans (g179_0_0 _), ?_⟩
  revert v
  decide +kernel
theorem T_sure {σ : pmS} (h : Inv σ) : Tok 84 177 [] σ := by
  obtain ⟨NS, NC, NP, hh⟩ := id h
  have hh : iAll σ.1 NS NC NP := hh
  obtain ⟨hT, hS, hC, hP, hW, hM, hO⟩ := id hh
  have hN := hP.1
  obtain ⟨σ1, k1, p1, p2⟩ := c102 53 (σ := σ) hS hC hP
  obtain ⟨ρ, k2, hI⟩ := c174 55 (σ := σ) (σ' := σ1) hS hC hP (o12 p1)
  cases hb : hfA (fun p => !decide (gob σ.1 NP p 8 = 0)) NP with
  | false =>
    rw [hb] at k1 k2
    exact ⟨_, _, ρ, (m84 59).trans (g84_0_0 _ k1 rfl), (m177 59).trans (g177_0_0 _ k2 rfl), gaps_same h hI.1⟩
  | true =>
    have hne : ∀ p, p < NP → gob σ.1 NP p 8 ≠ 0 := fun p hp => by
      have := hfA_t.mp hb p hp
      simpa using this
    rw [hb] at k1 k2
    have e9 : σ1.1 5 0 9 0 = nI NP := by rw [p1 5 0 9 (by omega)]; exact hP.2.1
    have e16 : ρ.1 10 0 16 0 = nI NP := by rw [hI.1 10 0 16 (by omega) (by omega)]; exact hP.2.2.1
    have rc := lp_cnt (C := pq_RD 59) (fr := fun a k => (84, 14, [some (vR 9 0 0), some (vI a), some (vI (nI k))], [], σ1)) (p := fun p => decide (nI (gob σ.1 NP p 8) &&& (nI (gob σ.1 NP p 8) - 1) = 0)) (n := NP) (fun k a hk => by
      have hg : ¬ σ1.1 5 0 9 0 ≤ nI k := by rw [e9]; exact nI_ge hk (by omega)
      have ek : (nI k).toNatClampNeg = k := nI_clamp (by omega)
      have hv : vp_in (nI k) 48 := vp_in_nI (by omega) (by omega)
      obtain ⟨r, kr, hr⟩ := c179 58 (σ := σ1) (gob_lt hS hC hP hk 8 (by omega)) (hne k hk)
      rw [← nI_1 k]
      by_cases q : nI (gob σ.1 NP k 8) &&& (nI (gob σ.1 NP k 8) - 1) = 0
      · rw [if_pos (by simpa using q)]
        exact g84_14_1 _ hg hv (by rw [ek, p2 k hk]; exact kr) (hr.mpr q)
      · rw [if_neg (by simpa using q)]
        exact g84_14_2 _ hg hv (by rw [ek, p2 k hk]; exact kr) (fun z => q (hr.mp z)))
    have cls := (m84 59).trans ((g84_0_1 (pq_RD 59) k1 (by decide)).trans (Eq.trans rc (g84_14_0 _ (by rw [e9, fa_le]; omega))))
    obtain ⟨l, -, rm⟩ := lp_ex (C := pq_RD 59) (S := Option pmV) (I := fun _ _ => True) (fr := fun k l => (177, 14, [some (vR 10 0 0), some (vI (nI (fa_cnt (fun p => decide (nI (gob σ.1 NP p 8) &&& (nI (gob σ.1 NP p 8) - 1) = 0)) k))), some (vI (nI k)), l], [], ρ)) (s0 := none) trivial (n := NP) (fun k l hk _ => by
      have hg : ¬ ρ.1 10 0 16 0 ≤ nI k := by rw [e16]; exact nI_ge hk (by omega)
      have k3 := c175 58 hS hC hP hI hk
      refine ⟨some (vI (nI (gob σ.1 NP k 8))), trivial, ?_⟩
      rw [← nI_1 k]
      by_cases q : nI (gob σ.1 NP k 8) &&& (nI (gob σ.1 NP k 8) - 1) = 0
      · rw [fa_cnt_yes (by simpa using q), ← nI_1 (fa_cnt _ k)]
        exact g177_14_1 _ hg k3 q
      · rw [fa_cnt_no (by simpa using q)]
        refine (g177_14_2 _ hg k3 q).trans ?_
        rw [show nI (fa_cnt (fun p => decide (nI (gob σ.1 NP p 8) &&& (nI (gob σ.1 NP p 8) - 1) = 0)) k) + (0 : Int32) = nI (fa_cnt (fun p => decide (nI (gob σ.1 NP p 8) &&& (nI (gob σ.1 NP p 8) - 1) = 0)) k) from nI_add _ 0])
    have mod := (m177 59).trans ((g177_0_1 (pq_RD 59) k2 (by decide)).trans (Eq.trans rm (g177_14_0 _ (by rw [e16, fa_le]; omega))))
    exact ⟨_, _, ρ, cls, mod, gaps_same h hI.1⟩
