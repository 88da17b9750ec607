/-! match: give, settle, solve -/
theorem hC_k {M : Nat → Bool} {S : Nat → Nat} {m w : Nat} (wM : M w = false) (hSk : ∀ p, M p = true → S p < 48 → p < m) : ∀ p, M p = true → hC S m w p < 48 → p < m + 1 := fun p hM hh => by
  unfold hC at hh
  rw [if_neg (fun z => by rw [z, wM] at hM; cases hM)] at hh
  by_cases q : p = m
  · omega
  · rw [if_neg q] at hh
    have := hSk p hM hh
    omega
theorem c26 (d : Nat) {E : Nat → Nat → Bool} {M : Nat → Bool} {ν m w : Nat} {S h : Nat → Nat} {σ : pmS} (hG : mG E M) (hν : mNu E M ν) (hS : mT E S) (hSk : ∀ p, M p = true → S p < 48 → p < m) (hF : mFam E M S m h) (hz : mS M h = ν) (he : E m w = true) (hSw : ¬ S w < 48) (hZ : mZ E (sMs (m + 1)) (sWs M S) h σ) : (∃ τ h2, pq_RD (d + 4) 26 [vR 3 0 0, vI (nI m), vI (nI w)] σ = some (some (vI 1), τ) ∧ oN τ σ ∧ mZ E (sMs (m + 1)) (sWs M (hC S m w)) h2 τ ∧ mFam E M (hC S m w) (m + 1) h2 ∧ mS M h2 = ν) ∨ ∃ τ, pq_RD (d + 4) 26 [vR 3 0 0, vI (nI m), vI (nI w)] σ = some (some (vI 0), τ) ∧ oN τ σ ∧ mZ E (sMs (m + 1)) (sWs M S) h τ ∧ ¬ mGood E M ν (m + 1) (hC S m w) := by
  obtain ⟨hm, hw, mM, wM⟩ := hG _ _ he
  obtain ⟨z1, z2, z3, z4⟩ := id hZ
  have hSm : ¬ S m < 48 := fun z => by
    have := hSk m mM z
    omega
  have mw : m ≠ w := fun z => by
    rw [z, wM] at mM
    cases mM
  have em : (nI m).toNatClampNeg = m := nI_clamp (by omega)
  have ew : (nI w).toNatClampNeg = w := nI_clamp (by omega)
  have vm : vp_in (nI m) 48 := vp_in_nI hm (by omega)
  have vw : vp_in (nI w) 48 := vp_in_nI hw (by omega)
  have e1m : σ.1 3 0 1 (nI m).toNatClampNeg = enc (h m) := by rw [em]; exact z1 m hm
  have e1w : σ.1 3 0 1 (nI w).toNatClampNeg = enc (h w) := by rw [ew]; exact z1 w hw
  have e6 : σ.2 3 0 6 0 ||| ((1 : Int64) <<< ((nI w).toInt64 &&& 63)) = ls (sWs M (hC S m w)) := by rw [z4, ls_or1 _ hw, sWs_put mM wM hm]
  generalize eA : pm_wl σ 3 0 6 0 (ls (sWs M (hC S m w))) = σa
  have oa : oN σa σ := by rw [← eA]; exact oN_wl (by omega)
  have a1 : σa.1 = σ.1 := by rw [← eA]; rfl
  have a0 : ∀ p, p < 48 → σa.2 3 0 0 p = ls (E p) := fun p hp => by rw [oa.2.1]; exact z2 p hp
  have a5 : σa.2 3 0 5 0 = ls (sMs (m + 1)) := by
    rw [← eA, wl_2, if_neg (by simp)]
    exact z3
  have a6 : σa.2 3 0 6 0 = ls (sWs M (hC S m w)) := by
    rw [← eA, wl_2, if_pos ⟨rfl, rfl, rfl, rfl⟩]
  by_cases hr : h w = m
  · left
    have st := (m26 (d + 3)).trans (g26_0_0 (pq_RD (d + 3)) (l3 := none) (l4 := none) (σ := σ) (x1 := nI m) (x2 := nI w) vm vw (by rw [e1w, hr, enc_y hm]))
    rw [e6, eA] at st
    have t := (mT_w hG hF.1 hw wM (by omega)).1
    rw [hr] at t
    exact ⟨σa, h, st, oa, ⟨fun p hp => by rw [a1]; exact z1 p hp, a0, a5, a6⟩, mFam_put hF t hr, hz⟩
  · -- both leave whom they have
    have st1 : ∃ σb, pq_RD (d + 4) 26 [vR 3 0 0, vI (nI m), vI (nI w)] σ = pq_Rn (pq_RD (d + 3)) (26, 47, [some (vR 3 0 0), some (vI (nI m)), some (vI (nI w)), some (vI (enc (h m))), some (vI (enc (h w)))], [], σb) ∧ oN σb σa ∧ σb.2 = σa.2 ∧ ∀ p, p < 48 → σb.1 3 0 1 p = enc (if p = h m then 48 else h p) := by
      have hne : ¬ σ.1 3 0 1 (nI w).toNatClampNeg = nI m := by
        rw [e1w, ← enc_y hm]
        intro z
        by_cases q : h w < 48
        · exact hr ((enc_inj (by omega) (by omega)).mp z)
        · rw [enc_n q, enc_y hm] at z
          exact nI_m1 (by omega) z.symm
      rcases Classical.em (h m < 48) with q | q
      · have st := (m26 (d + 3)).trans (g26_0_2 (pq_RD (d + 3)) (l3 := none) (l4 := none) (σ := σ) (x1 := nI m) (x2 := nI w) vm vw hne (by rw [e1m, enc_m1]; exact fun z => z q) (by rw [e1m, enc_y q]; exact vp_in_nI q (by omega)))
        rw [e6, eA, e1m, e1w] at st
        have e : (enc (h m)).toNatClampNeg = h m := by rw [enc_y q]; exact nI_clamp (by omega)
        rw [e] at st
        refine ⟨_, st, oN_w1, wi_2 _ _ _ _ _ _, fun p hp => ?_⟩
        by_cases y : p = h m
        · rw [if_pos y, y, wi_s]
          rfl
        · rw [if_neg y, wi_i y, a1]
          exact z1 p hp
      · have st := (m26 (d + 3)).trans (g26_0_1 (pq_RD (d + 3)) (l3 := none) (l4 := none) (σ := σ) (x1 := nI m) (x2 := nI w) vm vw hne (by rw [e1m, enc_m1]; exact q))
        rw [e6, eA, e1m, e1w] at st
        refine ⟨σa, st, ⟨fun _ _ _ _ => rfl, fun _ => rfl, fun _ _ => rfl⟩, rfl, fun p hp => ?_⟩
        rw [if_neg (by omega), a1]
        exact z1 p hp
    obtain ⟨σb, st1, ob, tb2, sb⟩ := st1
    have st2 : ∃ σc, pq_Rn (pq_RD (d + 3)) (26, 47, [some (vR 3 0 0), some (vI (nI m)), some (vI (nI w)), some (vI (enc (h m))), some (vI (enc (h w)))], [], σb) = pq_Rn (pq_RD (d + 3)) (26, 61, [some (vR 3 0 0), some (vI (nI m)), some (vI (nI w)), some (vI (enc (h m))), some (vI (enc (h w)))], [], σc) ∧ oN σc σb ∧ σc.2 = σb.2 ∧ ∀ p, p < 48 → σc.1 3 0 1 p = enc (if p = h m ∨ p = h w then 48 else h p) := by
      rcases Classical.em (h w < 48) with q | q
      · have st := g26_47_1 (pq_RD (d + 3)) (σ := σb) (x1 := nI m) (x2 := nI w) (x3 := enc (h m)) (x4 := enc (h w)) (by rw [enc_m1]; exact fun z => z q) (by rw [enc_y q]; exact vp_in_nI q (by omega))
        have e : (enc (h w)).toNatClampNeg = h w := by rw [enc_y q]; exact nI_clamp (by omega)
        rw [e] at st
        refine ⟨_, st, oN_w1, wi_2 _ _ _ _ _ _, fun p hp => ?_⟩
        by_cases y : p = h w
        · rw [if_pos (Or.inr y), y, wi_s]
          rfl
        · rw [wi_i y, sb p hp]
          by_cases y2 : p = h m
          · rw [if_pos y2, if_pos (Or.inl y2)]
          · rw [if_neg y2, if_neg (fun z => by rcases z with z | z; exact y2 z; exact y z)]
      · refine ⟨σb, g26_47_0 _ (by rw [enc_m1]; exact q), ⟨fun _ _ _ _ => rfl, fun _ => rfl, fun _ _ => rfl⟩, rfl, fun p hp => ?_⟩
        rw [sb p hp]
        by_cases y2 : p = h m
        · rw [if_pos y2, if_pos (Or.inl y2)]
        · rw [if_neg y2, if_neg (fun z => by rcases z with z | z; exact y2 z; omega)]
    obtain ⟨σc, st2, oc, tc2, sc⟩ := st2
    obtain ⟨σd, k24, od, td2, sd'⟩ := c24 (d + 2) (σ := σc) (h := fun p => if p = h m ∨ p = h w then 48 else h p) hm hw mw sc
    have sd : ∀ p, p < 48 → σd.1 3 0 1 p = enc (hG2 h m w p) := fun p hp => by
      rw [sd' p hp]
      rfl
    have ON : oN σd σ := oN_t ⟨fun c o k hk => od c o k (by omega), fun m => by rw [td2], fun k hk => od 3 0 k (by omega)⟩ (oN_t oc (oN_t ob oa))
    have T2 : σd.2 = σa.2 := by rw [td2, tc2, tb2]
    have hF2 := hG2_F hG hS hF he hSm hSw
    obtain ⟨s1, s2, s3, s4⟩ := hG2_S hG hF.1 he hr
    have ZD : mZ E (sMs (m + 1)) (sWs M (hC S m w)) (hG2 h m w) σd := ⟨sd, fun p hp => by rw [T2]; exact a0 p hp, by rw [T2]; exact a5, by rw [T2]; exact a6⟩
    have st := st1.trans st2
    rcases Classical.em (h m < 48) with qm | qm
    · rcases Classical.em (h w < 48) with qw | qw
      · have hD : ∀ p, dD M (sMs (m + 1)) (sWs M (hC S m w)) p = mD M (hC S m w) (m + 1) p := dD_mD (hC_k wM hSk)
        have hS2 := hC_T hG hS he hSm hSw
        rcases c21 d hG hF2.1 ZD (fun u hu hd hh => by
          rw [hD] at hd ⊢
          exact mFam_Dp hS2 hF2 u hu hd hh) with ⟨τ, h2, k21, o21, Z2, T2', keep, sz⟩ | ⟨τ, k21, o21, Z2, mx⟩
        · left
          refine ⟨τ, h2, st.trans ((g26_61_3 _ k24 (by rw [enc_m1]; exact fun z => z qm) (by rw [enc_m1]; exact fun z => z qw) k21 (by decide)).trans (g26_85_0 _)), oN_t (oM_N o21) ON, Z2, ⟨T2', fun p hp hd => ?_⟩, by rw [sz, s1 qw qm]; exact hz⟩
          rw [keep p hp (by rw [hD]; exact hd)]
          exact hF2.2 p hp hd
        · right
          have hwm : h m ≠ m := fun z => by
            have := (mT_m hG hF.1 hm mM qm).2.2
            rw [z, mM] at this
            cases this
          have hww : h w ≠ w := fun z => by
            have := (mT_w hG hF.1 hw wM qw).2.2
            rw [z, wM] at this
            cases this
          have hM1 := (mT_m hG hF.1 hm mM qm).2.2
          have hM2 := (mT_w hG hF.1 hw wM qw).2.2
          obtain ⟨τ1, k1, o1, t1, sh1⟩ := c24 (d + 2) (σ := τ) (h := hG2 h m w) hm qm (fun z => hwm z.symm) Z2.1
          obtain ⟨τ2, k2, o2, t2, sh2⟩ := c24 (d + 2) (σ := τ1) (h := hC (hG2 h m w) m (h m)) qw hw hww sh1
          have fin := g26_61_2 (pq_RD (d + 3)) (x1 := nI m) (x2 := nI w) (x3 := enc (h m)) (x4 := enc (h w)) k24 (by rw [enc_m1]; exact fun z => z qm) (by rw [enc_m1]; exact fun z => z qw) k21 rfl (by rw [enc_y qm]; exact k1) (by rw [enc_y qw]; exact k2)
          have e6' : τ2.2 3 0 6 0 &&& (((1 : Int64) <<< ((nI w).toInt64 &&& 63)) ^^^ (-1 : Int64)) = ls (sWs M S) := by
            rw [t2, t1, Z2.2.2.2, ls_clr1 _ hw]
            refine ls_cong (fun i _ => ?_)
            unfold sWs hC
            by_cases q1 : i = w
            · subst q1
              simp [hSw]
            · by_cases q2 : i = m
              · subst q2
                simp [mM]
              · rw [if_neg q1, if_neg q2]
                simp [q1]
          rw [e6'] at fin
          refine ⟨_, st.trans fin, oN_t (oN_wl (by omega)) (oN_t ⟨fun c o k hk => by rw [o2 c o k (by omega), o1 c o k (by omega)], fun m => by rw [t2, t1], fun k hk => by rw [o2 3 0 k (by omega), o1 3 0 k (by omega)]⟩ (oN_t (oM_N o21) ON)), ⟨fun p hp => ?_, fun p hp => ?_, ?_, ?_⟩, fun hg => ?_⟩
          · show τ2.1 3 0 1 p = _
            rw [sh2 p hp]
            congr 1
            unfold hC hG2
            have n1 : h m ≠ h w := fun z => by
              rw [z, hM2] at hM1
              cases hM1
            by_cases q1 : p = w
            · rw [if_pos q1, q1]
            · rw [if_neg q1]
              by_cases q2 : p = h w
              · rw [if_pos q2, q2]
                exact ((mT_w hG hF.1 hw wM qw).1).symm
              · rw [if_neg q2]
                by_cases q3 : p = h m
                · rw [if_pos q3, q3]
                  exact ((mT_m hG hF.1 hm mM qm).1).symm
                · rw [if_neg q3]
                  by_cases q4 : p = m
                  · rw [if_pos q4, q4]
                  · rw [if_neg q4, if_neg q1, if_neg q4, if_neg (fun y => by
                      rcases y with y | y
                      · exact q3 y
                      · exact q2 y)]
          · show (pm_wl τ2 3 0 6 0 _).2 3 0 0 p = _
            rw [wl_2, if_neg (by simp), t2, t1]
            exact Z2.2.1 p hp
          · show (pm_wl τ2 3 0 6 0 _).2 3 0 5 0 = _
            rw [wl_2, if_neg (by simp), t2, t1]
            exact Z2.2.2.1
          · show (pm_wl τ2 3 0 6 0 _).2 3 0 6 0 = _
            rw [wl_2, if_pos ⟨rfl, rfl, rfl, rfl⟩]
          · obtain ⟨h', hF', hz'⟩ := hg
            have := mx h' hF'.1 (fun p hp hd => by
              rw [hD] at hd
              rw [hF'.2 p hp hd, hF2.2 p hp hd])
            have := s1 qw qm
            omega
      · left
        exact ⟨σd, hG2 h m w, st.trans ((g26_61_1 _ k24 (by rw [enc_m1]; exact fun z => z qm) (by rw [enc_m1]; exact qw)).trans (g26_85_0 _)), ON, ZD, hF2, by rw [s3 qw qm]; exact hz⟩
    · rcases Classical.em (h w < 48) with qw | qw
      · left
        exact ⟨σd, hG2 h m w, st.trans ((g26_61_0 _ k24 (by rw [enc_m1]; exact qm)).trans (g26_85_0 _)), ON, ZD, hF2, by rw [s2 qw qm]; exact hz⟩
      · exfalso
        have := hν.2 _ hF2.1
        rw [s4 qw qm] at this
        omega
theorem mFam_fix {E : Nat → Nat → Bool} {M : Nat → Bool} {ν m : Nat} {S h : Nat → Nat} (hG : mG E M) (hS : mT E S) (hSk : ∀ p, M p = true → S p < 48 → p < m) (hm : m < 48) (hF : mFam E M S m h) (hz : mS M h = ν) (hno : ∀ w, w < 48 → ¬ mOk E M ν m S w) : ∃ h', mFam E M S (m + 1) h' ∧ mS M h' = ν ∧ ∀ p, p < 48 → enc (h' p) = enc (h p) := by
  cases hM : M m with
  | false => exact ⟨h, mFam_skip hF (fun z => by rw [hM] at z; cases z), hz, fun _ _ => rfl⟩
  | true =>
    have hSm : ¬ S m < 48 := fun z => by have := hSk m hM z; omega
    have hl := mNo_lone hG hS (fun _ => hSm) hm hF hz hno hM
    have off : ∀ p, p < 48 → h p < 48 → h p ≠ m := fun p hp hh z => by
      have := (hF.1 p hp hh).1
      rw [z] at this
      exact hl (by omega)
    refine ⟨fun p => if p = m then S m else h p, mFam_skip (m := m) ⟨fun p hp hh => ?_, fun p hp hd => ?_⟩ (fun _ => by simp), ?_, fun p hp => ?_⟩
    · have hh : (if p = m then S m else h p) < 48 := hh
      by_cases q : p = m
      · rw [if_pos q] at hh
        exact absurd hh hSm
      · rw [if_neg q] at hh
        show (if (if p = m then S m else h p) = m then S m else h (if p = m then S m else h p)) = p ∧ (E p (if p = m then S m else h p) = true ∨ E (if p = m then S m else h p) p = true)
        rw [if_neg q, if_neg (off p hp hh)]
        exact hF.1 p hp hh
    · show (if p = m then S m else h p) = S p
      by_cases q : p = m
      · rw [if_pos q, q]
      · rw [if_neg q]
        exact hF.2 p hp hd
    · rw [← hz]
      unfold mS
      refine fb_ct_cong (fun p hp => ?_)
      show (M p && decide ((if p = m then S m else h p) < 48)) = (M p && decide (h p < 48))
      by_cases q : p = m
      · subst q
        rw [if_pos rfl]
        simp [hl, hSm]
      · rw [if_neg q]
    · show enc (if p = m then S m else h p) = enc (h p)
      by_cases q : p = m
      · subst q
        rw [if_pos rfl, enc_n hSm, enc_n hl]
      · rw [if_neg q]
