/-! open, sure: the model -/
theorem clrX {a C : Nat} (ha : a < 256) (hC : C < 8) : ∃ a', a' < 256 ∧ nI a &&& (((1 : Int32) <<< (nI C &&& 31)) ^^^ (-1 : Int32)) = nI a' ∧ ∀ e, e < 8 → a'.testBit e = (a.testBit e && !decide (e = C)) := by
  have t255 : ∀ i, (255 : Nat).testBit i = decide (i < 8) := fun i => Nat.testBit_two_pow_sub_one (n := 8) (i := i)
  refine ⟨a &&& (255 ^^^ 2 ^ C), Nat.lt_of_le_of_lt Nat.and_le_left ha, ?_, fun e he => ?_⟩
  · rw [one_shl (by omega)]
    apply Int32.toBitVec_inj.1
    show BitVec.ofNat 32 a &&& (BitVec.ofNat 32 (2 ^ C) ^^^ (-1 : Int32).toBitVec) = BitVec.ofNat 32 (a &&& (255 ^^^ 2 ^ C))
    have m1 : (-1 : Int32).toBitVec = BitVec.allOnes 32 := rfl
    rw [m1]
    apply BitVec.eq_of_getLsbD_eq
    intro i hi
    have hp : (2 ^ C).testBit i = decide (C = i) := Nat.testBit_two_pow
    simp only [BitVec.getLsbD_and, BitVec.getLsbD_xor, BitVec.getLsbD_ofNat, BitVec.getLsbD_allOnes, hi, decide_true, Bool.true_and, Nat.testBit_and, Nat.testBit_xor, hp, t255]
    by_cases q : i < 8
    · simp [q, Bool.xor_comm]
    · have : a.testBit i = false := Nat.testBit_lt_two_pow (Nat.lt_of_lt_of_le ha (Nat.le_trans (by decide : 256 ≤ 2 ^ 8) (Nat.pow_le_pow_right (by decide) (by omega))))
      simp [this]
  · rw [Nat.testBit_and, Nat.testBit_xor, t255, Nat.testBit_two_pow]
    by_cases q : e = C
    · subst q
      simp [he]
    · have : ¬ C = e := fun z => q z.symm
      simp [he, q, this]
def o2 (τ σ : pmS) : Prop := ∀ c o k, ¬ c = 1 → ¬ (c = 10 ∧ (k = 43 ∨ k = 44 ∨ k = 45)) → τ.1 c o k = σ.1 c o k
/-- the eight classes at the root, for one person -/
theorem c174in (d : Nat) {σ τ0 : pmS} {NP P : Nat} {x3 x4 x5 : Int32} {l2 l6 : Option pmV} {A0 : Nat → Bool} (hPN : P < NP) (hN : NP ≤ 48) (hrt : rt σ.1 P < NP) (hcl : ∀ c, c < 8 → isCl (im σ.1 c P)) (hA : ∀ c, c < 8 → gok σ.1 c (rt σ.1 P) (P + 1) = (A0 c && !decide (im σ.1 c P = -1))) (hO : o2 τ0 σ) (h43 : τ0.1 10 0 43 P = nI (rt σ.1 P)) (h45 : ∃ a, a < 256 ∧ τ0.1 10 0 45 (rt σ.1 P) = nI a ∧ ∀ c, c < 8 → a.testBit c = A0 c) (step : ∀ (C : Nat) (τ : pmS), C < 8 → o2 τ σ → (∀ i, i < 8 * P → τ.1 10 0 44 i = τ0.1 10 0 44 i) → pq_Rn (pq_RD d) (174, 151, [some (vR 10 0 0), some (vI (nI P)), l2, some (vI x3), some (vI x4), some (vI x5), some (vI (nI C))], [], τ) = pq_Rn (pq_RD d) (174, 199, [some (vR 10 0 0), some (vI (nI P)), l2, some (vI x3), some (vI x4), some (vI x5), some (vI (nI C))], [vI (im σ.1 C P), vI ((8 : Int32) * nI P + nI C), vR 10 0 45], τ)) : ∃ τ, pq_Rn (pq_RD d) (174, 148, [some (vR 10 0 0), some (vI (nI P)), l2, some (vI x3), some (vI x4), some (vI x5), l6], [], τ0) = pq_Rn (pq_RD d) (174, 2, [some (vR 10 0 0), some (vI (nI (P + 1))), l2, some (vI x3), some (vI x4), some (vI x5), some (vI (nI 8))], [], τ) ∧ o2 τ σ ∧ τ.1 10 0 43 = τ0.1 10 0 43 ∧ (∀ i, i < 8 * P → τ.1 10 0 44 i = τ0.1 10 0 44 i) ∧ (∀ c, c < 8 → τ.1 10 0 44 (8 * P + c) = im σ.1 c P) ∧ (∀ r, r ≠ rt σ.1 P → τ.1 10 0 45 r = τ0.1 10 0 45 r) ∧ ∃ a, a < 256 ∧ τ.1 10 0 45 (rt σ.1 P) = nI a ∧ ∀ c, c < 8 → a.testBit c = gok σ.1 c (rt σ.1 P) (P + 1) := by
  obtain ⟨τ, ⟨i1, i2, i3, i4, i5, a, ha, i6, i7⟩, hr⟩ := lp_ex (C := pq_RD d) (S := pmS) (I := fun C τ => o2 τ σ ∧ τ.1 10 0 43 = τ0.1 10 0 43 ∧ (∀ i, i < 8 * P → τ.1 10 0 44 i = τ0.1 10 0 44 i) ∧ (∀ c, c < C → τ.1 10 0 44 (8 * P + c) = im σ.1 c P) ∧ (∀ r, r ≠ rt σ.1 P → τ.1 10 0 45 r = τ0.1 10 0 45 r) ∧ ∃ a, a < 256 ∧ τ.1 10 0 45 (rt σ.1 P) = nI a ∧ ∀ c, c < 8 → a.testBit c = if c < C then gok σ.1 c (rt σ.1 P) (P + 1) else A0 c) (fr := fun C τ => (174, 151, [some (vR 10 0 0), some (vI (nI P)), l2, some (vI x3), some (vI x4), some (vI x5), some (vI (nI C))], [], τ)) (s0 := τ0) (by
    obtain ⟨a, ha, e1, e2⟩ := h45
    exact ⟨hO, rfl, fun _ _ => rfl, fun c hc => by omega, fun _ _ => rfl, a, ha, e1, fun c hc => by rw [if_neg (by omega)]; exact e2 c hc⟩) (n := 8) (fun C τ hC ⟨i1, i2, i3, i4, i5, a, ha, i6, i7⟩ => by
    have st := step C τ hC i1 i3
    have eix : (8 : Int32) * nI P + nI C = nI (8 * P + C) := by
      show nI 8 * nI P + nI C = _
      rw [pk_mul, nI_add]
    have vix : vp_in ((8 : Int32) * nI P + nI C) 384 := by rw [eix]; exact vp_in_nI (by omega) (by omega)
    have cix : ((8 : Int32) * nI P + nI C).toNatClampNeg = 8 * P + C := by rw [eix]; exact nI_clamp (by omega)
    have rd : (pm_wi τ 10 0 44 ((8 : Int32) * nI P + nI C).toNatClampNeg (im σ.1 C P)).1 10 0 44 ((8 : Int32) * nI P + nI C).toNatClampNeg = im σ.1 C P := wi_s _ _ _ _ _ _
    have up : ∀ (b : Bool), (decide (im σ.1 C P = -1) = b) → ∀ a' : Nat, (∀ e, e < 8 → a'.testBit e = (a.testBit e && !(decide (e = C) && b))) → ∀ c, c < 8 → a'.testBit c = if c < C + 1 then gok σ.1 c (rt σ.1 P) (P + 1) else A0 c := fun b hb a' ha' c hc => by
      rw [ha' c hc, i7 c hc]
      rcases (by omega : c < C ∨ c = C ∨ C < c) with q | q | q
      · rw [if_pos q, if_pos (by omega)]
        have : ¬ c = C := by omega
        simp [this]
      · subst q
        rw [if_neg (by omega), if_pos (by omega), hA c hc, hb]
        simp
      · rw [if_neg (by omega), if_neg (by omega)]
        have : ¬ c = C := by omega
        simp [this]
    by_cases hm : im σ.1 C P = -1
    · obtain ⟨a', ha', e1, e2⟩ := clrX ha hC
      have h43' : τ.1 10 0 43 (nI P).toNatClampNeg = nI (rt σ.1 P) := by rw [nI_clamp (by omega), i2]; exact h43
      have fin := g174_199_1 (pq_RD d) (l2 := l2) (σ := τ) (x1 := nI P) (x3 := x3) (x4 := x4) (x5 := x5) (x6 := nI C) (s1 := (8 : Int32) * nI P + nI C) (s2 := im σ.1 C P) vix vix (by rw [rd, hm]; decide) (vp_in_nI (by omega) (by omega)) (by rw [h43']; exact vp_in_nI (by omega) (by omega))
      rw [h43', nI_clamp (by omega : rt σ.1 P < 2 ^ 31), i6, e1, cix] at fin
      have fin := (st.trans fin).trans (g174_235_0 (pq_RD d))
      rw [nI_1] at fin
      refine ⟨_, ⟨fun c o k h1 h2 => ?_, ?_, fun i hi => ?_, fun c hc => ?_, fun r hr => ?_, a', ha', wi_s _ _ _ _ _ _, up true (by simp [hm]) a' (fun e he => by rw [e2 e he, Bool.and_true])⟩, fin⟩
      · rw [wi_k (by omega), wi_k (by omega)]
        exact i1 c o k h1 h2
      · rw [wi_k (by omega), wi_k (by omega)]
        exact i2
      · rw [wi_k (by omega), wi_i (by omega)]
        exact i3 i hi
      · rw [wi_k (by omega)]
        rcases Nat.lt_or_ge c C with q | q
        · rw [wi_i (by omega)]
          exact i4 c q
        · have : c = C := by omega
          subst this
          exact wi_s _ _ _ _ _ _
      · rw [wi_i hr, wi_k (by omega)]
        exact i5 r hr
    · have hpos : 0 ≤ im σ.1 C P := by
        rcases hcl C hC with q | ⟨t, ht, q⟩
        · exact absurd q hm
        · rw [q]
          exact nI_pos' (by omega)
      have fin := g174_199_0 (pq_RD d) (l2 := l2) (σ := τ) (x1 := nI P) (x3 := x3) (x4 := x4) (x5 := x5) (x6 := nI C) (s1 := (8 : Int32) * nI P + nI C) (s2 := im σ.1 C P) vix vix (by rw [rd]; exact hpos)
      rw [cix] at fin
      have fin := (st.trans fin).trans (g174_235_0 (pq_RD d))
      rw [nI_1] at fin
      refine ⟨_, ⟨fun c o k h1 h2 => ?_, ?_, fun i hi => ?_, fun c hc => ?_, fun r hr => ?_, a, ha, ?_, up false (by simp [hm]) a (fun e he => by simp)⟩, fin⟩
      · rw [wi_k (by omega)]
        exact i1 c o k h1 h2
      · rw [wi_k (by omega)]
        exact i2
      · rw [wi_i (by omega)]
        exact i3 i hi
      · rcases Nat.lt_or_ge c C with q | q
        · rw [wi_i (by omega)]
          exact i4 c q
        · have : c = C := by omega
          subst this
          exact wi_s _ _ _ _ _ _
      · rw [wi_k (by omega)]
        exact i5 r hr
      · rw [wi_k (by omega)]
        exact i6)
  exact ⟨τ, (g174_148_0 _).trans (Eq.trans hr ((g174_151_0 _ (by decide)).trans (by rw [nI_1]))), i1, i2, i3, i4, i5, a, ha, i6, fun c hc => by rw [i7 c hc, if_pos hc]⟩
def gI2 (σ : pmS) (P : Nat) (τ : pmS) : Prop := o2 τ σ ∧ (∀ q, q < P → τ.1 10 0 43 q = nI (rt σ.1 q) ∧ ∀ c, c < 8 → τ.1 10 0 44 (8 * q + c) = im σ.1 c q) ∧ ∀ r, r < P → gr σ.1 r = true → ∃ a, a < 256 ∧ τ.1 10 0 45 r = nI a ∧ ∀ c, c < 8 → a.testBit c = gok σ.1 c r P
theorem gfit_bits {f : pmI} {NS NC NP P : Nat} (hS : iS f NS) (hC : iC f NS NC) (hP : iP f NC NP) (hp : P < NP) : (f 5 0 6 P < 0 → ∃ n, n ≤ 8 ∧ f 2 (sSb f P) 8 0 = nI n ∧ ∀ c, c < 8 → (2 ^ n - 1).testBit c = gfit f P c) ∧ (¬ f 5 0 6 P < 0 → ∃ t, t < 8 ∧ f 5 0 6 P = nI t ∧ ∀ c, c < 8 → (2 ^ t).testBit c = gfit f P c) := by
  obtain ⟨n, w, ch, hsy⟩ := hS.2.2.2.1 _ (sSb_lt hC hP hp)
  have z1 := hsy.2.2.2.2.2.1
  have h8 := hsy.2.1
  have hcl : isCl (f 5 0 6 P) := (hP.2.2.2.1 P hp).2.2.2.2.2.2.2.2.2.2.2
  refine ⟨fun hm => ⟨n, h8, z1, fun c hc => ?_⟩, fun hm => ?_⟩
  · have hm := (isCl_neg hcl).mp hm
    unfold gfit
    rw [if_pos hm, z1, Nat.testBit_two_pow_sub_one]
    unfold sHas
    have a1 : ¬ nI c < 0 := nI_pos (by omega)
    have a2 : nI n ≤ nI c ↔ n ≤ c := nI_leI (by omega) (by omega)
    by_cases q : c < n
    · have : ¬ nI n ≤ nI c := fun z => by have := a2.mp z; omega
      simp [a1, this, q]
    · have : nI n ≤ nI c := a2.mpr (by omega)
      simp [this, q]
  · rcases hcl with q | ⟨t, ht, q⟩
    · rw [q] at hm
      exact absurd (by decide) hm
    · refine ⟨t, ht, q, fun c hc => ?_⟩
      unfold gfit
      rw [if_neg (by rw [q]; exact nI_m1 (by omega)), Nat.testBit_two_pow, q]
      by_cases z : t = c
      · subst z
        simp
      · have : ¬ nI t = nI c := fun e => z ((nI_eq (by omega) (by omega)).mp e)
        simp [z, this]
theorem c174p (d : Nat) {σ τ : pmS} {NS NC NP P : Nat} (hS : iS σ.1 NS) (hC : iC σ.1 NS NC) (hP : iP σ.1 NC NP) (hPN : P < NP) (hI : gI2 σ P τ) (l2 l3 l4 l5 l6 : Option pmV) : ∃ τ' l2' l3' l4' l5' l6', pq_Rn (pq_RD (d + 3)) (174, 2, [some (vR 10 0 0), some (vI (nI P)), l2, l3, l4, l5, l6], [], τ) = pq_Rn (pq_RD (d + 3)) (174, 2, [some (vR 10 0 0), some (vI (nI (P + 1))), l2', l3', l4', l5', l6'], [], τ') ∧ gI2 σ (P + 1) τ' := by
  have hN := hP.1
  obtain ⟨hO, h1, h2⟩ := hI
  have hok := iAll_pOk hS hC hP hPN
  obtain ⟨p0, p1, p2, p3, p4, p5, p6, -, -, -, hpar, -⟩ := hP.2.2.2.1 P hPN
  have eP : (nI P).toNatClampNeg = P := nI_clamp (by omega)
  have hv : vp_in (nI P) 48 := vp_in_nI (by omega) (by omega)
  have hg : ¬ τ.1 10 0 16 0 ≤ nI P := by
    rw [hO 10 0 16 (by omega) (by omega), hP.2.2.1]
    exact nI_ge hPN (by omega)
  obtain ⟨c, hc, hcN, e3, ec, h1c⟩ := pOk_c hok
  obtain ⟨nl, n1, n5, n3, n4, hl, -, -, l13, l14, lmod⟩ := lawIx_ok h1c (σ.1 5 0 1 P)
  obtain ⟨s1, s2, -⟩ := pOk_s hok
  have eb : sLb σ.1 P = lawIx σ.1 c (σ.1 5 0 1 P) := by
    unfold sLb lawIx
    rw [ec]
  have ebm : sBm σ.1 P = decide (σ.1 0 c 2 (lawIx σ.1 c (σ.1 5 0 1 P)) = 0) := by
    unfold sBm
    rw [ec, eb]
  rw [ec, eb] at s2
  obtain ⟨n, w, ch, hsy⟩ := hS.2.2.2.1 _ s1
  obtain ⟨-, hn8, -, -, -, z1, z2, z3⟩ := hsy
  have hNS := hS.1
  have k137 := c137 (d + 2) (σ := τ) (c := c) (y := σ.1 5 0 1 P) hc n1 n5 (by rw [hO 10 0 11 (by omega) (by omega)]; exact n4)
  rw [hO 10 0 12 (by omega) (by omega), lmod] at k137
  have er : (nI (5 * c + lawIx σ.1 c (σ.1 5 0 1 P))).toNatClampNeg = 5 * c + lawIx σ.1 c (σ.1 5 0 1 P) := nI_clamp (by omega)
  have hv15 : vp_in (nI (5 * c + lawIx σ.1 c (σ.1 5 0 1 P))) 15 := vp_in_nI (by omega) (by omega)
  have ksy : τ.1 10 0 13 (5 * c + lawIx σ.1 c (σ.1 5 0 1 P)) = nI (sSb σ.1 P) := by rw [hO 10 0 13 (by omega) (by omega), ← l13, s2]
  have kby : τ.1 10 0 14 (5 * c + lawIx σ.1 c (σ.1 5 0 1 P)) = σ.1 0 c 2 (lawIx σ.1 c (σ.1 5 0 1 P)) := by rw [hO 10 0 14 (by omega) (by omega), ← l14]
  have t22 : τ.1 10 0 22 (nI P).toNatClampNeg = nI c := by rw [eP, hO 10 0 22 (by omega) (by omega), ← p3]; exact e3
  have t20 : τ.1 10 0 20 (nI P).toNatClampNeg = σ.1 5 0 1 P := by rw [eP, hO 10 0 20 (by omega) (by omega), p1]
  have st1 : pq_Rn (pq_RD (d + 3)) (174, 2, [some (vR 10 0 0), some (vI (nI P)), l2, l3, l4, l5, l6], [], τ) = pq_Rn (pq_RD (d + 3)) (174, 48, [some (vR 10 0 0), some (vI (nI P)), some (vI (nI (5 * c + lawIx σ.1 c (σ.1 5 0 1 P)))), some (vI (nI (sSb σ.1 P))), l4, l5, l6], [vI (bI (sBm σ.1 P))], τ) := by
    by_cases q : σ.1 0 c 2 (lawIx σ.1 c (σ.1 5 0 1 P)) = 0
    · rw [ebm, show decide (σ.1 0 c 2 (lawIx σ.1 c (σ.1 5 0 1 P)) = 0) = true by simpa using q]
      refine (g174_2_1 _ hg hv (by rw [t22, t20]; exact k137) hv15 (by rw [er, kby]; exact q)).trans ?_
      rw [er, ksy]
      rfl
    · rw [ebm, show decide (σ.1 0 c 2 (lawIx σ.1 c (σ.1 5 0 1 P)) = 0) = false by simpa using q]
      refine (g174_2_2 _ hg hv (by rw [t22, t20]; exact k137) hv15 (by rw [er, kby]; exact q)).trans ?_
      rw [er, ksy]
      rfl
  generalize nI (5 * c + lawIx σ.1 c (σ.1 5 0 1 P)) = X2 at st1
  have t23 : τ.1 10 0 23 (nI P).toNatClampNeg = σ.1 5 0 4 P := by rw [eP, hO 10 0 23 (by omega) (by omega), p4]
  have t24 : τ.1 10 0 24 (nI P).toNatClampNeg = σ.1 5 0 5 P := by rw [eP, hO 10 0 24 (by omega) (by omega), p5]
  have t25 : τ.1 10 0 25 (nI P).toNatClampNeg = σ.1 5 0 6 P := by rw [eP, hO 10 0 25 (by omega) (by omega), p6]
  have rl := rt_le σ.1 (P + 1) P (by omega)
  cases hr : gr σ.1 P with
  | true =>
    have hm : σ.1 5 0 4 P = -1 := of_decide_eq_true hr
    have erP : rt σ.1 P = P := by rw [rt_eq, if_pos hr]
    have eiP : ∀ C, im σ.1 C P = nI C := fun C => by rw [im_eq, if_pos hr]
    have st2 := (st1.trans (g174_48_2 (pq_RD (d + 3)) hv (by rw [t23, hm]; decide))).trans (g174_83_1 (pq_RD (d + 3)) (by decide))
    -- the root's own bits
    have st3 : ∃ a, a < 256 ∧ (∀ C, C < 8 → a.testBit C = gfit σ.1 P C) ∧ pq_Rn (pq_RD (d + 3)) (174, 106, [some (vR 10 0 0), some (vI (nI P)), some (vI X2), some (vI (nI (sSb σ.1 P))), some (vI (bI (sBm σ.1 P))), some (vI (-1)), l6], [vI (nI P), vI (nI P), vR 10 0 44], τ) = pq_Rn (pq_RD (d + 3)) (174, 148, [some (vR 10 0 0), some (vI (nI P)), some (vI X2), some (vI (nI (sSb σ.1 P))), some (vI (bI (sBm σ.1 P))), some (vI (-1)), l6], [], pm_wi (pm_wi τ 10 0 43 P (nI P)) 10 0 45 P (nI a)) := by
      obtain ⟨b1, b2⟩ := gfit_bits hS hC hP hPN
      by_cases q : σ.1 5 0 6 P < 0
      · obtain ⟨n', hn', y1, y2⟩ := b1 q
        have en : n' = n := by
          rw [z1] at y1
          exact ((nI_eq (by omega) (by omega)).mp y1).symm
        subst en
        have p8 : 2 ^ n' ≤ 2 ^ 8 := Nat.pow_le_pow_right (by decide) hn'
        have pp : 0 < 2 ^ n' := Nat.pow_pos (by decide)
        refine ⟨2 ^ n' - 1, by omega, y2, ?_⟩
        have esz : τ.1 10 0 0 (nI (sSb σ.1 P)).toNatClampNeg = nI n' := by rw [nI_clamp (by omega), hO 10 0 0 (by omega) (by omega)]; exact z2
        have ev : (1 : Int32) <<< (nI n' &&& 31) - 1 = nI (2 ^ n' - 1) := by
          rw [one_shl hn']
          exact pk_sub (a := 2 ^ n') (b := 1) pp
        refine ((g174_106_1 _ hv (by decide) hv (by rw [t25]; exact q) (vp_in_nI (by omega) (by omega))).trans (g174_147_0 _ hv)).trans ?_
        rw [esz, ev, eP]
      · obtain ⟨t, ht, y1, y2⟩ := b2 q
        refine ⟨2 ^ t, Nat.lt_of_lt_of_le (Nat.pow_lt_pow_right (by decide) ht) (by decide), y2, ?_⟩
        refine ((g174_106_2 _ hv (by decide) hv (by rw [t25]; exact q)).trans (g174_147_0 _ hv)).trans ?_
        rw [t25, y1, one_shl (by omega), eP]
    obtain ⟨a, ha, hbits, st3⟩ := st3
    obtain ⟨τ', kr, o', f43, f44, g44, f45, a', ha', g45, b45⟩ := c174in (d + 3) (σ := σ) (τ0 := pm_wi (pm_wi τ 10 0 43 P (nI P)) 10 0 45 P (nI a)) (NP := NP) (P := P) (x3 := nI (sSb σ.1 P)) (x4 := bI (sBm σ.1 P)) (x5 := -1) (l2 := some (vI X2)) (l6 := l6) (A0 := gfit σ.1 P) hPN hN (by omega) (fun C hC8 => im_cl hS hC hP hC8 hPN) (fun C hC8 => by
        rw [erP, gok_new hC8 hr, eiP]
        have : ¬ nI C = -1 := nI_m1 (by omega)
        simp [this]) (fun c' o k q1 q2 => by rw [wi_k (by omega), wi_k (by omega)]; exact hO c' o k q1 q2) (by rw [wi_k (by omega), wi_s, erP]) ⟨a, ha, by rw [erP]; exact wi_s _ _ _ _ _ _, hbits⟩ (fun C υ hC8 _ _ => by
        rw [eiP]
        exact g174_151_2 _ (nI_ge (b := 8) hC8 (by decide)) (by decide))
    refine ⟨τ', _, _, _, _, _, st2.trans (st3.trans kr), o', fun q hq => ?_, fun r hrP hrr => ?_⟩
    · rcases Nat.lt_or_ge q P with z | z
      · rw [f43]
        refine ⟨?_, fun C hC8 => ?_⟩
        · rw [wi_k (by omega), wi_i (by omega)]
          exact (h1 q z).1
        · rw [f44 _ (by omega), wi_k (by omega), wi_k (by omega)]
          exact (h1 q z).2 C hC8
      · have : q = P := by omega
        subst this
        refine ⟨?_, fun C hC8 => g44 C hC8⟩
        rw [f43, wi_k (by omega), wi_s, erP]
    · rcases Nat.lt_or_ge r P with z | z
      · obtain ⟨b, hb, y1, y2⟩ := h2 r z hrr
        refine ⟨b, hb, ?_, fun C hC8 => ?_⟩
        · rw [f45 r (by omega), wi_i (by omega), wi_k (by omega)]
          exact y1
        · rw [y2 C hC8, gok_succ, erP]
          have : ¬ P = r := by omega
          simp [this]
      · have : r = P := by omega
        subst this
        rw [erP] at g45 b45
        exact ⟨a', ha', g45, b45⟩
  | false =>
    have hgp := gp_lt hP hPN hr
    have erP : rt σ.1 P = rt σ.1 (gp σ.1 P) := by rw [rt_eq, hr, if_neg (by decide), if_pos hgp]
    have eiP : ∀ C, im σ.1 C P = gst σ.1 P (im σ.1 C (gp σ.1 P)) := fun C => by rw [im_eq, hr, if_neg (by decide), if_pos hgp]
    have rlg := rt_le σ.1 (gp σ.1 P + 1) (gp σ.1 P) (by omega)
    have rr := rt_root hP (P + 1) P (by omega) hPN
    have hne : ¬ σ.1 5 0 4 P = -1 := of_decide_eq_false hr
    obtain ⟨mo, fa, hmo, hfa, em, ef⟩ : ∃ mo fa, mo < P ∧ fa < P ∧ σ.1 5 0 4 P = nI mo ∧ σ.1 5 0 5 P = nI fa := by
      rcases hpar with ⟨z, -⟩ | z
      · exact absurd z hne
      · exact z
    have h0 : 0 ≤ τ.1 10 0 23 (nI P).toNatClampNeg := by rw [t23, em]; exact nI_pos' (by omega)
    have st2 : pq_Rn (pq_RD (d + 3)) (174, 2, [some (vR 10 0 0), some (vI (nI P)), l2, l3, l4, l5, l6], [], τ) = pq_Rn (pq_RD (d + 3)) (174, 83, [some (vR 10 0 0), some (vI (nI P)), some (vI X2), some (vI (nI (sSb σ.1 P))), some (vI (bI (sBm σ.1 P))), l5, l6], [vI (nI (gp σ.1 P))], τ) := by
      refine st1.trans ?_
      cases hb : sBm σ.1 P with
      | true =>
        have egp : gp σ.1 P = mo := by
          unfold gp
          rw [hb, if_pos rfl, em, nI_clamp (by omega)]
        refine (g174_48_1 _ hv h0 (by decide)).trans ?_
        rw [t23, em, egp]
      | false =>
        have egp : gp σ.1 P = fa := by
          unfold gp
          rw [hb, if_neg (by decide), ef, nI_clamp (by omega)]
        refine (g174_48_0 _ (s0 := bI false) hv h0 rfl).trans ?_
        rw [t24, ef, egp]
    have eg : (nI (gp σ.1 P)).toNatClampNeg = gp σ.1 P := nI_clamp (by omega)
    have st3 := (st2.trans (g174_83_0 (pq_RD (d + 3)) (nI_pos' (by omega)) (vp_in_nI (by omega) (by omega)))).trans (g174_106_0 (pq_RD (d + 3)) hv (nI_pos' (by omega)))
    rw [eg, (h1 _ hgp).1, ← erP, eP] at st3
    obtain ⟨a, ha, ya, yb⟩ := h2 (rt σ.1 P) (by omega) rr
    obtain ⟨τ', kr, o', f43, f44, g44, f45, a', ha', g45, b45⟩ := c174in (d + 3) (σ := σ) (τ0 := pm_wi τ 10 0 43 P (nI (rt σ.1 P))) (NP := NP) (P := P) (x3 := nI (sSb σ.1 P)) (x4 := bI (sBm σ.1 P)) (x5 := nI (gp σ.1 P)) (l2 := some (vI X2)) (l6 := l6) (A0 := fun C => gok σ.1 C (rt σ.1 P) P) hPN hN (by omega) (fun C hC8 => im_cl hS hC hP hC8 hPN) (fun C hC8 => by
        rw [gok_succ]
        simp) (fun c' o k q1 q2 => by rw [wi_k (by omega)]; exact hO c' o k q1 q2) (wi_s _ _ _ _ _ _) ⟨a, ha, by rw [wi_k (by omega)]; exact ya, yb⟩ (fun C υ hC8 oυ pυ => by
        have eix : (8 : Int32) * nI (gp σ.1 P) + nI C = nI (8 * gp σ.1 P + C) := by
          show nI 8 * nI (gp σ.1 P) + nI C = _
          rw [pk_mul, nI_add]
        have k145 := c145 d (σ := υ) (x2 := im σ.1 C (gp σ.1 P)) (x3 := bI (sBm σ.1 P)) hS.1 (by rw [oυ 10 0 4 (by omega) (by omega)]; exact hS.2.2.1) s1 hn8 (by rw [oυ 10 0 0 (by omega) (by omega)]; exact z2)
        have e145 : sCh (nI n) (fun c => υ.1 10 0 (if bI (sBm σ.1 P) = 0 then 3 else 2) (8 * sSb σ.1 P + c)) (im σ.1 C (gp σ.1 P)) = im σ.1 C P := by
          rw [eiP]
          unfold gst
          rw [z1]
          cases sBm σ.1 P with
          | true => exact sCh_cong (by omega) (fun c' hc' => by
              show υ.1 10 0 2 (8 * sSb σ.1 P + c') = σ.1 2 (sSb σ.1 P) 2 c'
              rw [oυ 10 0 2 (by omega) (by omega), (z3 c' hc').2.2.1, (z3 c' hc').2.2.2.2.2.2.2.1])
          | false => exact sCh_cong (by omega) (fun c' hc' => by
              show υ.1 10 0 3 (8 * sSb σ.1 P + c') = σ.1 2 (sSb σ.1 P) 3 c'
              rw [oυ 10 0 3 (by omega) (by omega), (z3 c' hc').2.2.2.1, (z3 c' hc').2.2.2.2.2.2.2.2])
        rw [e145] at k145
        refine g174_151_1 _ (nI_ge (b := 8) hC8 (by decide)) (nI_pos' (by omega)) (by rw [eix]; exact vp_in_nI (by omega) (by omega)) ?_
        rw [eix, nI_clamp (by omega), pυ _ (by omega), wi_k (by omega), (h1 _ hgp).2 C hC8]
        exact k145)
    refine ⟨τ', _, _, _, _, _, st3.trans kr, o', fun q hq => ?_, fun r hrP hrr => ?_⟩
    · rcases Nat.lt_or_ge q P with z | z
      · rw [f43]
        refine ⟨?_, fun C hC8 => ?_⟩
        · rw [wi_i (by omega)]
          exact (h1 q z).1
        · rw [f44 _ (by omega), wi_k (by omega)]
          exact (h1 q z).2 C hC8
      · have : q = P := by omega
        subst this
        refine ⟨?_, fun C hC8 => g44 C hC8⟩
        rw [f43, wi_s]
    · have hne : r ≠ P := fun z => by
        rw [z, hr] at hrr
        cases hrr
      by_cases z : r = rt σ.1 P
      · subst z
        exact ⟨a', ha', g45, b45⟩
      · obtain ⟨b, hb, y1, y2⟩ := h2 r (by omega) hrr
        refine ⟨b, hb, ?_, fun C hC8 => ?_⟩
        · rw [f45 r z, wi_k (by omega)]
          exact y1
        · rw [y2 C hC8, gok_succ]
          have : ¬ rt σ.1 P = r := fun e => z e.symm
          simp [this]
