/-! match: settle, solve -/
theorem c25 (d : Nat) {E : Nat → Nat → Bool} {M : Nat → Bool} {ν m : Nat} {S h : Nat → Nat} {σ : pmS} (hG : mG E M) (hν : mNu E M ν) (hm : m < 48) (hS : mT E S) (hSk : ∀ p, M p = true → S p < 48 → p < m) (hF : mFam E M S m h) (hz : mS M h = ν) (hZ : mZ E (sMs m) (sWs M S) h σ) : ∃ τ h2, pq_RD (d + 5) 25 [vR 3 0 0, vI (nI m)] σ = some (none, τ) ∧ oN τ σ ∧ mZ E (sMs (m + 1)) (sWs M (mNx E M ν m S)) h2 τ ∧ mFam E M (mNx E M ν m S) (m + 1) h2 ∧ mS M h2 = ν := by
  obtain ⟨z1, z2, z3, z4⟩ := id hZ
  have em : (nI m).toNatClampNeg = m := nI_clamp (by omega)
  have st := (m25 (d + 4)).trans (g25_0_0 (pq_RD (d + 4)) (l2 := none) (l3 := none) (l4 := none) (σ := σ) (x1 := nI m) (vp_in_nI hm (by omega)))
  rw [em, z2 m hm, z3, z4, ls_dif, ls_or1 _ hm] at st
  have e5 : ls (fun i => sMs m i || decide (i = m)) = ls (sMs (m + 1)) := ls_cong (fun i _ => by
    unfold sMs
    rcases (by omega : i < m ∨ i = m ∨ m < i) with k | k | k
    · have : i < m + 1 := by omega
      simp [k, this]
    · subst k
      simp
    · have a : ¬ i < m + 1 := by omega
      have b : ¬ i < m := by omega
      have c : ¬ i = m := by omega
      simp [a, b, c])
  rw [e5] at st
  generalize eA : pm_wl σ 3 0 5 0 (ls (sMs (m + 1))) = σ1 at st
  have o1 : oN σ1 σ := by rw [← eA]; exact oN_wl (by omega)
  have Z1 : mZ E (sMs (m + 1)) (sWs M S) h σ1 := by
    refine ⟨fun p hp => by rw [← eA]; exact z1 p hp, fun p hp => by rw [o1.2.1]; exact z2 p hp, ?_, ?_⟩
    · rw [← eA, wl_2, if_pos ⟨rfl, rfl, rfl, rfl⟩]
    · rw [← eA, wl_2, if_neg (by simp)]
      exact z4
  -- nothing of the choice is left
  have stop : ∀ (wl : Nat) (τ : pmS), oN τ σ → mZ E (sMs (m + 1)) (sWs M S) h τ → (∀ v, v < wl → ¬ mOk E M ν m S v) → (∀ i, wl ≤ i → i < 48 → (E m i && !sWs M S i) = false) → ∃ h2, mZ E (sMs (m + 1)) (sWs M (mNx E M ν m S)) h2 τ ∧ mFam E M (mNx E M ν m S) (m + 1) h2 ∧ mS M h2 = ν := fun wl τ _ Z hno hend => by
    have none_ : ∀ w, w < 48 → ¬ mOk E M ν m S w := fun w hw hk => by
      rcases Nat.lt_or_ge w wl with k | k
      · exact hno w k hk
      · have h1 := hend w k hw
        have h2 : sWs M S w = false := by
          unfold sWs
          simp [hk.2.1]
        rw [hk.1, h2] at h1
        cases h1
    obtain ⟨h', f1, f2, f3⟩ := mFam_fix hG hS hSk hm hF hz none_
    rw [mSel_no none_]
    exact ⟨h', ⟨fun p hp => by rw [f3 p hp]; exact Z.1 p hp, Z.2⟩, f1, f2⟩
  have main : ∀ (n wl : Nat), n + wl = 48 → ∀ (τ : pmS), oN τ σ → mZ E (sMs (m + 1)) (sWs M S) h τ → (∀ v, v < wl → ¬ mOk E M ν m S v) → ∃ τ' h2, pq_Rn (pq_RD (d + 4)) (25, 31, [some (vR 3 0 0), some (vI (nI m)), some (vL (ls (fun i => E m i && !sWs M S i))), none, some (vI (nI wl))], [], τ) = some (none, τ') ∧ oN τ' σ ∧ mZ E (sMs (m + 1)) (sWs M (mNx E M ν m S)) h2 τ' ∧ mFam E M (mNx E M ν m S) (m + 1) h2 ∧ mS M h2 = ν := by
    intro n
    induction n with
    | zero =>
      intro wl hn τ o Z hno
      have hend : ∀ i, wl ≤ i → i < 48 → (E m i && !sWs M S i) = false := fun i h1 h2 => by omega
      obtain ⟨h2, r⟩ := stop wl τ o Z hno hend
      exact ⟨τ, h2, g25_31_0 _ ((ls_shr _ (by omega)).mpr hend), o, r⟩
    | succ n ih =>
      intro wl hn τ o Z hno
      have hw : wl < 48 := by omega
      by_cases hend : ∀ i, wl ≤ i → i < 48 → (E m i && !sWs M S i) = false
      · obtain ⟨h2, r⟩ := stop wl τ o Z hno hend
        exact ⟨τ, h2, g25_31_0 _ ((ls_shr _ (by omega)).mpr hend), o, r⟩
      · have hne : ¬ lg_cmp (((ls (fun i => E m i && !sWs M S i)).toUInt64 >>> ((nI wl).toInt64.toUInt64 &&& Int64.toUInt64 63)).toInt64) 0 = 0 := fun y => hend ((ls_shr _ (by omega)).mp y)
        have h48 : ¬ (48 : Int32) ≤ nI wl := nI_ge (b := 48) hw (by decide)
        have k19 : pq_RD (d + 4) 19 [vL (ls (fun i => E m i && !sWs M S i)), vI (nI wl)] τ = some (some (vI (bI (E m wl && !sWs M S wl))), τ) := c19 (d + 3) (P := fun i => E m i && !sWs M S i) hw
        have more : ∀ (τ' : pmS), oN τ' σ → mZ E (sMs (m + 1)) (sWs M S) h τ' → ¬ mOk E M ν m S wl → pq_Rn (pq_RD (d + 4)) (25, 31, [some (vR 3 0 0), some (vI (nI m)), some (vL (ls (fun i => E m i && !sWs M S i))), none, some (vI (nI wl))], [], τ) = pq_Rn (pq_RD (d + 4)) (25, 31, [some (vR 3 0 0), some (vI (nI m)), some (vL (ls (fun i => E m i && !sWs M S i))), none, some (vI (nI wl + 1))], [], τ') → ∃ τ' h2, pq_Rn (pq_RD (d + 4)) (25, 31, [some (vR 3 0 0), some (vI (nI m)), some (vL (ls (fun i => E m i && !sWs M S i))), none, some (vI (nI wl))], [], τ) = some (none, τ') ∧ oN τ' σ ∧ mZ E (sMs (m + 1)) (sWs M (mNx E M ν m S)) h2 τ' ∧ mFam E M (mNx E M ν m S) (m + 1) h2 ∧ mS M h2 = ν := fun τ' o' Z' hnk hst => by
          rw [nI_1 wl] at hst
          have r := ih (wl + 1) (by omega) τ' o' Z' (fun v hv => by
            rcases Nat.lt_or_ge v wl with k | k
            · exact hno v k
            · have : v = wl := by omega
              rw [this]
              exact hnk)
          rw [← hst] at r
          exact r
        cases hc : (E m wl && !sWs M S wl) with
        | false =>
          rw [hc] at k19
          refine more τ o Z (fun hk => ?_) (g25_31_2 _ hne h48 k19 rfl)
          have h2 : sWs M S wl = false := by
            unfold sWs
            simp [hk.2.1]
          rw [hk.1, h2] at hc
          cases hc
        | true =>
          rw [hc] at k19
          obtain ⟨he, hs0⟩ : E m wl = true ∧ sWs M S wl = false := by simpa using hc
          have wM := (hG _ _ he).2.2.2
          have hSw : ¬ S wl < 48 := fun y => by
            unfold sWs at hs0
            rw [wM] at hs0
            simp [y] at hs0
          rcases c26 d hG hν hS hSk hF hz he hSw Z with ⟨τ', h2, k26, o26, Z2, F2, s2⟩ | ⟨τ', k26, o26, Z2, ng⟩
          · have eN : mNx E M ν m S = hC S m wl := mSel_is hw ⟨he, hSw, h2, F2, s2⟩ hno
            rw [eN]
            exact ⟨τ', h2, g25_31_4 _ hne h48 k19 (by decide) k26 (by decide), oN_t o26 o, Z2, F2, s2⟩
          · exact more τ' (oN_t o26 o) Z2 (fun hk => ng hk.2.2) (g25_31_3 _ hne h48 k19 (by decide) k26 rfl)
  obtain ⟨τ, h2, k, r⟩ := main 48 0 (by omega) σ1 o1 Z1 (fun v hv => by omega)
  exact ⟨τ, h2, st.trans k, r⟩
theorem mS_lt {E : Nat → Nat → Bool} {M : Nat → Bool} {h : Nat → Nat} (hG : mG E M) (hT : mT E h) : mS M h < 48 := by
  have hle : mS M h ≤ 48 := fb_ct_le _ 48
  rcases Nat.lt_or_ge (mS M h) 48 with q | q
  · exact q
  · exfalso
    have e : fb_ct (fun p => M p && decide (h p < 48)) 48 = 48 := by
      have : mS M h = 48 := by omega
      exact this
    have all := fb_ct_all.mp e
    have a0 : M 0 = true ∧ h 0 < 48 := by simpa using all 0 (by omega)
    have w := (mT_m hG hT (by omega) a0.1 a0.2).2.2
    have a1 : M (h 0) = true ∧ h (h 0) < 48 := by simpa using all (h 0) a0.2
    rw [w] at a1
    exact absurd a1.1 (by decide)
theorem c18a (d : Nat) {E : Nat → Nat → Bool} {M : Nat → Bool} (hG : mG E M) {l2 : Option pmV} : ∀ (n : Nat) (h : Nat → Nat) (σ : pmS), 48 - mS M h ≤ n → mT E h → mZ E (fun _ => false) (fun _ => false) h σ → ∃ τ h', pq_Rn (pq_RD (d + 3)) (18, 2, [some (vR 3 0 0), some (vI (nI (mS M h))), l2], [], σ) = pq_Rn (pq_RD (d + 3)) (18, 23, [some (vR 3 0 0), some (vI (nI (mS M h'))), some (vI 0)], [], τ) ∧ oN τ σ ∧ mZ E (fun _ => false) (fun _ => false) h' τ ∧ mT E h' ∧ mNu E M (mS M h') := by
  intro n
  induction n with
  | zero =>
    intro h σ hn hT _
    have := mS_lt hG hT
    omega
  | succ n ih =>
    intro h σ hn hT hZ
    have hl := mS_lt hG hT
    have h48 : ¬ (48 : Int32) ≤ nI (mS M h) := nI_ge (b := 48) hl (by decide)
    have dF : ∀ p, dD M (fun _ => false) (fun _ => false) p = false := fun p => by
      unfold dD
      split <;> rfl
    rcases c21 d hG hT hZ (fun w _ _ _ => dF _) with ⟨τ, h', k21, o21, Z', T', -, sz⟩ | ⟨τ, k21, o21, Z', mx⟩
    · have st := g18_2_2 (pq_RD (d + 3)) (l2 := l2) h48 k21 (by decide)
      rw [nI_1, ← sz] at st
      obtain ⟨τ2, h2, k, o, Z2, T2, N2⟩ := ih h' τ (by omega) T' Z'
      exact ⟨τ2, h2, st.trans k, oN_t o (oM_N o21), Z2, T2, N2⟩
    · exact ⟨τ, h, g18_2_1 _ h48 k21 rfl, oM_N o21, Z', hT, ⟨h, hT, rfl⟩, fun h' T' => mx h' T' (fun p _ hd => by rw [dF] at hd; cases hd)⟩
theorem mSq_hi {E : Nat → Nat → Bool} {M : Nat → Bool} {ν : Nat} : ∀ m, m ≤ 48 → ∀ p, 48 ≤ p → mSq E M ν m p = 48
  | 0, _, _, _ => rfl
  | m + 1, hm, p, hp => by
    show mNx E M ν m (mSq E M ν m) p = 48
    rcases mNx_cases E M ν m (mSq E M ν m) with ⟨w, hw, -, -, e⟩ | ⟨-, e⟩
    · rw [e]
      unfold hC
      rw [if_neg (by omega), if_neg (by omega)]
      exact mSq_hi m (by omega) p hp
    · rw [e]
      exact mSq_hi m (by omega) p hp
/-- all men settled: the couples are those settled -/
theorem mFam_all {E : Nat → Nat → Bool} {M : Nat → Bool} {S h : Nat → Nat} (hG : mG E M) (hS : mT E S) (hF : mFam E M S 48 h) : ∀ p, p < 48 → enc (h p) = enc (S p) := fun p hp => by
  cases hd : mD M S 48 p with
  | true => rw [hF.2 p hp hd]
  | false =>
    unfold mD at hd
    obtain ⟨h1, h2⟩ : ¬ S p < 48 ∧ ¬ (M p = true) := by
      rcases Classical.em (S p < 48) with k | k
      · simp [k] at hd
      · refine ⟨k, fun y => ?_⟩
        simp [y, hp] at hd
    have wM : M p = false := by
      cases y : M p with
      | false => rfl
      | true => exact absurd y h2
    rw [enc_n h1, enc_m1]
    intro hh
    obtain ⟨t1, t2, t3⟩ := mT_w hG hF.1 hp wM hh
    have e := hF.2 (h p) hh (by unfold mD; simp [t3, hh])
    rw [t1] at e
    have := (hS (h p) hh (by omega)).1
    rw [← e] at this
    exact h1 (by omega)
theorem c18b (d : Nat) {E : Nat → Nat → Bool} {M : Nat → Bool} {ν : Nat} {h : Nat → Nat} {σ : pmS} (hG : mG E M) (hν : mNu E M ν) (hT : mT E h) (hz : mS M h = ν) (hZ : mZ E (fun _ => false) (fun _ => false) h σ) {x1 : Int32} : ∃ τ h', pq_Rn (pq_RD (d + 5)) (18, 23, [some (vR 3 0 0), some (vI x1), some (vI 0)], [], σ) = pq_Rn (pq_RD (d + 5)) (18, 23, [some (vR 3 0 0), some (vI x1), some (vI (nI 48))], [], τ) ∧ oN τ σ ∧ (∃ SM SW, mZ E SM SW h' τ) ∧ mT E h' ∧ ∀ p, p < 48 → enc (h' p) = enc (mSq E M ν 48 p) := by
  obtain ⟨⟨τ, h'⟩, ⟨i1, i2, i3, i4⟩, hr⟩ := lp_ex (C := pq_RD (d + 5)) (S := pmS × (Nat → Nat)) (I := fun m s => oN s.1 σ ∧ mZ E (sMs m) (sWs M (mSq E M ν m)) s.2 s.1 ∧ mFam E M (mSq E M ν m) m s.2 ∧ mS M s.2 = ν) (fr := fun m s => (18, 23, [some (vR 3 0 0), some (vI x1), some (vI (nI m))], [], s.1)) (s0 := (σ, h)) ⟨⟨fun _ _ _ _ => rfl, fun _ => rfl, fun _ _ => rfl⟩, ⟨hZ.1, hZ.2.1, by rw [hZ.2.2.1]; exact ls_cong (fun i _ => by simp [sMs]), by rw [hZ.2.2.2]; exact ls_cong (fun i _ => by simp [sWs, mSq])⟩, ⟨hT, fun p _ hd => by
      unfold mD at hd
      simp [mSq] at hd⟩, hz⟩ (n := 48) (fun m s hm ⟨i1, i2, i3, i4⟩ => by
    obtain ⟨υ, g⟩ := s
    have i1 : oN υ σ := i1
    have i2 : mZ E (sMs m) (sWs M (mSq E M ν m)) g υ := i2
    have i3 : mFam E M (mSq E M ν m) m g := i3
    have i4 : mS M g = ν := i4
    obtain ⟨q1, q2, -⟩ := mSq_ok hG hν m (by omega)
    obtain ⟨υ', g', k, o, Z', F', s'⟩ := c25 d hG hν hm q1 (fun p hM hh => by
      rcases Nat.lt_or_ge p m with y | y
      · exact y
      · rcases Nat.lt_or_ge p 48 with y2 | y2
        · exact absurd hh (q2 p y2 hM y)
        · rw [mSq_hi m (by omega) p y2] at hh
          omega) i3 i4 i2
    exact ⟨(υ', g'), ⟨oN_t o i1, Z', F', s'⟩, (g18_23_1 _ (nI_ge (b := 48) hm (by decide)) k).trans (by rw [nI_1])⟩)
  have i3 : mFam E M (mSq E M ν 48) 48 h' := i3
  exact ⟨τ, h', hr, i1, ⟨_, _, i2⟩, i3.1, mFam_all hG (mSq_ok hG hν 48 (Nat.le_refl _)).1 i3⟩
