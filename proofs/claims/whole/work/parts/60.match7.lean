/-! match: one couple more, or none -/
/-- the store in the class's search -/
def mYc (q : Nat → Nat) (z : Nat) (fr : Nat → Nat) (V : Nat → Bool) (σ τ : pmS) : Prop := (∀ c o k, ¬ (c = 3 ∧ (k = 2 ∨ k = 3 ∨ k = 4)) → τ.1 c o k = σ.1 c o k) ∧ τ.2 = σ.2 ∧ τ.1 3 0 4 0 = nI z ∧ (∀ i, i < z → τ.1 3 0 2 i = nI (q i)) ∧ ∀ u, u < 48 → V u = true → τ.1 3 0 3 u = nI (fr u)
theorem c22 (d : Nat) {σ : pmS} {z : Nat} {x : Int32} (hz : z < 48) (h : σ.1 3 0 4 0 = nI z) : pq_RD (d + 1) 22 [vR 3 0 0, vI x] σ = some (none, pm_wi (pm_wi σ 3 0 2 z x) 3 0 4 0 (nI (z + 1))) := by
  have st := (m22 d).trans (g22_0_1 (pq_RD d) (σ := σ) (x1 := x) (by rw [h]; exact nI_ge (b := 48) hz (by decide)) (by rw [h]; exact vp_in_nI hz (by omega)))
  rw [h, nI_clamp (by omega), nI_1] at st
  exact st
theorem c21in (d : Nat) {E : Nat → Nat → Bool} {M SM SW : Nat → Bool} {h : Nat → Nat} {σ : pmS} (hG : mG E M) (hT : mT E h) (hZ : mZ E SM SW h σ) (hDp : ∀ w, w < 48 → dD M SM SW w = false → h w < 48 → dD M SM SW (h w) = false) {a : Nat} {q0 : Nat → Nat} {z0 : Nat} {V0 : Nat → Bool} (ha0 : a < z0) : ∀ (n wl : Nat), n + wl = 48 → ∀ (q : Nat → Nat) (z : Nat) (fr : Nat → Nat) (V : Nat → Bool) (qi : Nat → Nat) (τ : pmS), z0 ≤ z → q a = q0 a → (∀ u, V u = (V0 u || ((E (q0 a) u && !(SW u || V0 u)) && decide (u < wl)))) → mB E M (dD M SM SW) h q z fr V qi a wl → (∀ p, p < 48 → lnM E SM h p → ∃ i, i < z ∧ q i = p) → mYc q z fr V σ τ → (∃ τ' h' s, pq_Rn (pq_RD (d + 2)) (21, 52, [some (vR 3 0 0), some (vL (ls (fun u => (SW u || V0 u) || (E (q0 a) u && !(SW u || V0 u))))), none, some (vI (nI a)), some (vL (ls (fun u => E (q0 a) u && !(SW u || V0 u)))), none, some (vI (nI wl))], [], τ) = some (some (vI 1), τ') ∧ oM τ' σ ∧ mZ E SM SW h' τ' ∧ mT E h' ∧ (∀ p, p < 48 → dD M SM SW p = true → h' p = h p) ∧ s < 48 ∧ M s = true ∧ ¬ h s < 48 ∧ ∀ p, p < 48 → M p = true → (h' p < 48 ↔ h p < 48 ∨ p = s)) ∨ ∃ q' z' fr' V' qi' τ' l6, pq_Rn (pq_RD (d + 2)) (21, 52, [some (vR 3 0 0), some (vL (ls (fun u => (SW u || V0 u) || (E (q0 a) u && !(SW u || V0 u))))), none, some (vI (nI a)), some (vL (ls (fun u => E (q0 a) u && !(SW u || V0 u)))), none, some (vI (nI wl))], [], τ) = pq_Rn (pq_RD (d + 2)) (21, 11, [some (vR 3 0 0), some (vL (ls (fun u => SW u || V' u))), none, some (vI (nI (a + 1))), some (vL (ls (fun u => E (q0 a) u && !(SW u || V0 u)))), none, l6], [], τ') ∧ z0 ≤ z' ∧ mB E M (dD M SM SW) h q' z' fr' V' qi' (a + 1) 0 ∧ (∀ p, p < 48 → lnM E SM h p → ∃ i, i < z' ∧ q' i = p) ∧ mYc q' z' fr' V' σ τ' := by
  obtain ⟨zz1, zz2, zz3, zz4⟩ := id hZ
  have wD : ∀ u, M u = false → dD M SM SW u = SW u := fun u hu => by
    unfold dD
    rw [hu, if_neg (by decide)]
  -- the end of one man's women
  have close : ∀ (wl : Nat) (q : Nat → Nat) (z : Nat) (fr : Nat → Nat) (V : Nat → Bool) (qi : Nat → Nat) (τ : pmS), wl < 64 → z0 ≤ z → q a = q0 a → (∀ u, V u = (V0 u || ((E (q0 a) u && !(SW u || V0 u)) && decide (u < wl)))) → mB E M (dD M SM SW) h q z fr V qi a wl → (∀ p, p < 48 → lnM E SM h p → ∃ i, i < z ∧ q i = p) → mYc q z fr V σ τ → (∀ i, wl ≤ i → i < 48 → (E (q0 a) i && !(SW i || V0 i)) = false) → ∃ q' z' fr' V' qi' τ' l6, pq_Rn (pq_RD (d + 2)) (21, 52, [some (vR 3 0 0), some (vL (ls (fun u => (SW u || V0 u) || (E (q0 a) u && !(SW u || V0 u))))), none, some (vI (nI a)), some (vL (ls (fun u => E (q0 a) u && !(SW u || V0 u)))), none, some (vI (nI wl))], [], τ) = pq_Rn (pq_RD (d + 2)) (21, 11, [some (vR 3 0 0), some (vL (ls (fun u => SW u || V' u))), none, some (vI (nI (a + 1))), some (vL (ls (fun u => E (q0 a) u && !(SW u || V0 u)))), none, l6], [], τ') ∧ z0 ≤ z' ∧ mB E M (dD M SM SW) h q' z' fr' V' qi' (a + 1) 0 ∧ (∀ p, p < 48 → lnM E SM h p → ∃ i, i < z' ∧ q' i = p) ∧ mYc q' z' fr' V' σ τ' := fun wl q z fr V qi τ hwl hz ea hV hB hl hY hno => by
    have st := g21_52_0 (pq_RD (d + 2)) (σ := τ) (w1 := ls (fun u => (SW u || V0 u) || (E (q0 a) u && !(SW u || V0 u)))) (x3 := nI a) (w4 := ls (fun u => E (q0 a) u && !(SW u || V0 u))) (x6 := nI wl) ((ls_shr _ hwl).mpr hno)
    have eL : ls (fun u => (SW u || V0 u) || (E (q0 a) u && !(SW u || V0 u))) = ls (fun u => SW u || V u) := ls_cong (fun u hu => by
      rw [hV u]
      rcases Nat.lt_or_ge u wl with k | k
      · cases SW u <;> cases V0 u <;> cases E (q0 a) u <;> simp [k]
      · have := hno u k hu
        rw [this]
        simp)
    rw [nI_1 a] at st
    refine ⟨q, z, fr, V, qi, τ, some (vI (nI wl)), st.trans (by rw [eL]), hz, mB_next (fun w hw he hd => ?_) hB, hl, hY⟩
    rw [ea] at he
    obtain ⟨-, w48, -, wM⟩ := hG _ _ he
    have h1 := hno w hw w48
    rw [wD w wM] at hd
    rw [hV w]
    rw [he, hd] at h1
    cases hv : V0 w with
    | true => simp
    | false => rw [hv] at h1; simp at h1
  intro n
  induction n with
  | zero =>
    intro wl hn q z fr V qi τ hz ea hV hB hl hY
    right
    exact close wl q z fr V qi τ (by omega) hz ea hV hB hl hY (fun i h1 h2 => by omega)
  | succ n ih =>
    intro wl hn q z fr V qi τ hz ea hV hB hl hY
    have hw48 : wl < 48 := by omega
    by_cases hno : ∀ i, wl ≤ i → i < 48 → (E (q0 a) i && !(SW i || V0 i)) = false
    · right
      exact close wl q z fr V qi τ (by omega) hz ea hV hB hl hY hno
    · obtain ⟨y1, y2, y3, y4, y5⟩ := id hY
      have hne : ¬ lg_cmp (((ls (fun u => E (q0 a) u && !(SW u || V0 u))).toUInt64 >>> ((nI wl).toInt64.toUInt64 &&& Int64.toUInt64 63)).toInt64) 0 = 0 := fun z => hno ((ls_shr _ (by omega)).mp z)
      have h48 : ¬ (48 : Int32) ≤ nI wl := nI_ge (b := 48) hw48 (by decide)
      have k19 := c19 (d + 1) (σ := τ) (P := fun u => E (q0 a) u && !(SW u || V0 u)) hw48
      have ew : (nI wl).toNatClampNeg = wl := nI_clamp (by omega)
      have vw : vp_in (nI wl) 48 := vp_in_nI (by omega) (by omega)
      have ha : a < z := by omega
      have hz48 := hB.1
      have eaC : (nI a).toNatClampNeg = a := nI_clamp (by omega)
      have va : vp_in (nI a) 48 := vp_in_nI (by omega) (by omega)
      cases hf : (E (q0 a) wl && !(SW wl || V0 wl)) with
      | false =>
        have k19 : pq_RD (d + 2) 19 [vL (ls (fun u => E (q0 a) u && !(SW u || V0 u))), vI (nI wl)] τ = some (some (vI (bI (E (q0 a) wl && !(SW wl || V0 wl)))), τ) := k19
        rw [hf] at k19
        have st := g21_52_2 (pq_RD (d + 2)) (σ := τ) (w1 := ls (fun u => (SW u || V0 u) || (E (q0 a) u && !(SW u || V0 u)))) (x3 := nI a) (w4 := ls (fun u => E (q0 a) u && !(SW u || V0 u))) (x6 := nI wl) hne h48 k19 rfl
        rw [nI_1 wl] at st
        have r := ih (wl + 1) (by omega) q z fr V qi τ hz ea (fun u => by
          rw [hV u]
          by_cases k : u = wl
          · subst k
            rw [hf]
            simp
          · have : decide (u < wl + 1) = decide (u < wl) := by
              by_cases k2 : u < wl
              · simp [k2, Nat.lt_succ_of_lt k2]
              · have : ¬ u < wl + 1 := by omega
                simp [k2, this]
            rw [this]) (mB_skip hB (fun he hd => by
          rw [ea] at he
          obtain ⟨-, -, -, wM⟩ := hG _ _ he
          rw [wD wl wM] at hd
          rw [hV wl]
          rw [he, hd] at hf
          cases hv : V0 wl with
          | true => simp
          | false => rw [hv] at hf; simp at hf)) hl hY
        rw [← st] at r
        exact r
      | true =>
        obtain ⟨hE, hS0, hV0⟩ : E (q0 a) wl = true ∧ SW wl = false ∧ V0 wl = false := by simpa using hf
        have k19 : pq_RD (d + 2) 19 [vL (ls (fun u => E (q0 a) u && !(SW u || V0 u))), vI (nI wl)] τ = some (some (vI (bI (E (q0 a) wl && !(SW wl || V0 wl)))), τ) := k19
        rw [hf] at k19
        have hEq : E (q a) wl = true := by rw [ea]; exact hE
        obtain ⟨-, -, -, wM⟩ := hG _ _ hE
        have hD : dD M SM SW wl = false := by rw [wD wl wM]; exact hS0
        have hVw : V wl = false := by
          rw [hV wl, hV0]
          simp
        have e2 : τ.1 3 0 2 (nI a).toNatClampNeg = nI (q a) := by rw [eaC]; exact y4 a ha
        have e1 : τ.1 3 0 1 (nI wl).toNatClampNeg = enc (h wl) := by rw [ew, y1 3 0 1 (by omega)]; exact zz1 wl hw48
        rcases Classical.em (h wl < 48) with hh | hh
        · obtain ⟨z48, hB'⟩ := mB_add hG hT hDp hB ha hEq hD hVw hh
          have k22 := c22 (d + 1) (σ := pm_wi τ 3 0 3 wl (nI (q a))) (x := nI (h wl)) z48 (by rw [wi_k (by omega)]; exact y3)
          have st := g21_52_4 (pq_RD (d + 2)) (σ := τ) (w1 := ls (fun u => (SW u || V0 u) || (E (q0 a) u && !(SW u || V0 u)))) (x3 := nI a) (w4 := ls (fun u => E (q0 a) u && !(SW u || V0 u))) (x6 := nI wl) hne h48 k19 (by decide) va vw (by rw [e1, enc_m1]; exact fun z => z hh) (by rw [e2, e1, enc_y hh, ew]; exact k22)
          rw [nI_1 wl] at st
          have r := ih (wl + 1) (by omega) _ (z + 1) _ _ _ (pm_wi (pm_wi (pm_wi τ 3 0 3 wl (nI (q a))) 3 0 2 z (nI (h wl))) 3 0 4 0 (nI (z + 1))) (by omega) (by show (if a = z then h wl else q a) = q0 a; rw [if_neg (by omega)]; exact ea) (fun u => by
            show (if u = wl then true else V u) = _
            by_cases k : u = wl
            · subst k
              rw [if_pos rfl, hf]
              simp
            · rw [if_neg k, hV u]
              have : decide (u < wl + 1) = decide (u < wl) := by
                by_cases k2 : u < wl
                · simp [k2, Nat.lt_succ_of_lt k2]
                · have : ¬ u < wl + 1 := by omega
                  simp [k2, this]
              rw [this]) hB' (fun p hp hlp => by
            obtain ⟨i, hi, e⟩ := hl p hp hlp
            exact ⟨i, by omega, by show (if i = z then h wl else q i) = p; rw [if_neg (by omega)]; exact e⟩) ⟨fun c o k hk => by rw [wi_k (by omega), wi_k (by omega), wi_k (by omega)]; exact y1 c o k hk, by rw [wi_2, wi_2, wi_2]; exact y2, wi_s _ _ _ _ _ _, fun i hi => by
            show _ = nI (if i = z then h wl else q i)
            rw [wi_k (by omega)]
            by_cases q1 : i = z
            · rw [if_pos q1, q1]
              exact wi_s _ _ _ _ _ _
            · rw [if_neg q1, wi_i q1, wi_k (by omega)]
              exact y4 i (by omega), fun u hu hvu => by
            show _ = nI (if u = wl then q a else fr u)
            rw [wi_k (by omega), wi_k (by omega)]
            by_cases q1 : u = wl
            · rw [if_pos q1, q1]
              exact wi_s _ _ _ _ _ _
            · have hvu : V u = true := by
                have : (if u = wl then true else V u) = true := hvu
                rwa [if_neg q1] at this
              rw [if_neg q1, wi_i q1]
              exact y5 u hu hvu⟩
          rw [← st] at r
          exact r
        · left
          have hF := mB_hit (R := fun _ => false) (W := fun _ => false) hG hT (fun w _ hv => by cases hv) hB ha hEq hD hh
          obtain ⟨τ', h', u, kr, o, t2, t1, tT, tk, uu, uV, uM, uf, tm, tn⟩ := c23l d hG 48 wl 0 h (pm_wi τ 3 0 3 wl (nI (q a))) (some (vI (nI wl))) none none (by show (if wl = wl then a else qi wl) ≤ 48; rw [if_pos rfl]; omega) (by show 0 + (if wl = wl then a else qi wl) < 48; rw [if_pos rfl]; omega) hF (fun p hp => by rw [wi_k (by omega), y1 3 0 1 (by omega)]; exact zz1 p hp) (fun u hu hv => by
            show _ = nI (if u = wl then q a else fr u)
            by_cases q1 : u = wl
            · rw [if_pos q1, q1]
              exact wi_s _ _ _ _ _ _
            · have hv : V u = true := by
                have : (if u = wl then true else V u) = true := hv
                rwa [if_neg q1] at this
              rw [if_neg q1, wi_i q1]
              exact y5 u hu hv)
          have k23 := (m23 (d + 1)).trans ((g23_0_0 (pq_RD (d + 1)) (l2 := none) (l3 := none) (l4 := none) (l5 := none) (x1 := nI wl)).trans kr)
          have oo : oM τ' σ := ⟨fun c o2 k hk => by rw [o c o2 k (by omega), wi_k (by omega)]; exact y1 c o2 k (by omega), by rw [t2, wi_2]; exact y2⟩
          exact ⟨τ', h', _, g21_52_3 _ hne h48 k19 (by decide) va vw (by rw [e1, enc_m1]; exact hh) (by rw [e2, ew]; exact k23), oo, ⟨t1, fun m hm => by rw [oo.2]; exact zz2 m hm, by rw [oo.2]; exact zz3, by rw [oo.2]; exact zz4⟩, tT, tk, uf, uM, tn, tm⟩
theorem c21 (d : Nat) {E : Nat → Nat → Bool} {M SM SW : Nat → Bool} {h : Nat → Nat} {σ : pmS} (hG : mG E M) (hT : mT E h) (hZ : mZ E SM SW h σ) (hDp : ∀ w, w < 48 → dD M SM SW w = false → h w < 48 → dD M SM SW (h w) = false) : (∃ τ h', pq_RD (d + 3) 21 [vR 3 0 0] σ = some (some (vI 1), τ) ∧ oM τ σ ∧ mZ E SM SW h' τ ∧ mT E h' ∧ (∀ p, p < 48 → dD M SM SW p = true → h' p = h p) ∧ mS M h' = mS M h + 1) ∨ ∃ τ, pq_RD (d + 3) 21 [vR 3 0 0] σ = some (some (vI 0), τ) ∧ oM τ σ ∧ mZ E SM SW h τ ∧ ∀ h', mT E h' → (∀ p, p < 48 → dD M SM SW p = true → h' p = h p) → mS M h' ≤ mS M h := by
  obtain ⟨zz1, zz2, zz3, zz4⟩ := id hZ
  obtain ⟨τ0, q0, z0, k20, o20, t20, hz48, r4, r2, rq, rd, rall⟩ := c20 d hZ
  have st := (m21 (d + 2)).trans (g21_0_0 (pq_RD (d + 2)) (l1 := none) (l2 := none) (l3 := none) (l4 := none) (l5 := none) (l6 := none) k20)
  rw [t20, zz4] at st
  have lM : ∀ p, lnM E SM h p → M p = true ∧ dD M SM SW p = false := fun p hp => by
    obtain ⟨⟨w, -, e⟩, -, hs⟩ := hp
    have := (hG _ _ e).2.2.1
    refine ⟨this, ?_⟩
    unfold dD
    rw [if_pos this]
    exact hs
  have key : ∀ (n : Nat) (q : Nat → Nat) (z : Nat) (fr : Nat → Nat) (V : Nat → Bool) (qi : Nat → Nat) (a : Nat) (τ : pmS) (l4 l5 l6 : Option pmV), 48 - a ≤ n → a ≤ z → mB E M (dD M SM SW) h q z fr V qi a 0 → (∀ p, p < 48 → lnM E SM h p → ∃ i, i < z ∧ q i = p) → mYc q z fr V σ τ → (∃ τ' h', pq_Rn (pq_RD (d + 2)) (21, 11, [some (vR 3 0 0), some (vL (ls (fun u => SW u || V u))), none, some (vI (nI a)), l4, l5, l6], [], τ) = some (some (vI 1), τ') ∧ oM τ' σ ∧ mZ E SM SW h' τ' ∧ mT E h' ∧ (∀ p, p < 48 → dD M SM SW p = true → h' p = h p) ∧ mS M h' = mS M h + 1) ∨ ∃ τ', pq_Rn (pq_RD (d + 2)) (21, 11, [some (vR 3 0 0), some (vL (ls (fun u => SW u || V u))), none, some (vI (nI a)), l4, l5, l6], [], τ) = some (some (vI 0), τ') ∧ oM τ' σ ∧ mZ E SM SW h τ' ∧ ∀ h', mT E h' → (∀ p, p < 48 → dD M SM SW p = true → h' p = h p) → mS M h' ≤ mS M h := by
    have fin : ∀ (q : Nat → Nat) (z : Nat) (fr : Nat → Nat) (V : Nat → Bool) (qi : Nat → Nat) (a : Nat) (τ : pmS) (l4 l5 l6 : Option pmV), z ≤ a → a ≤ z → mB E M (dD M SM SW) h q z fr V qi a 0 → (∀ p, p < 48 → lnM E SM h p → ∃ i, i < z ∧ q i = p) → mYc q z fr V σ τ → ∃ τ', pq_Rn (pq_RD (d + 2)) (21, 11, [some (vR 3 0 0), some (vL (ls (fun u => SW u || V u))), none, some (vI (nI a)), l4, l5, l6], [], τ) = some (some (vI 0), τ') ∧ oM τ' σ ∧ mZ E SM SW h τ' ∧ ∀ h', mT E h' → (∀ p, p < 48 → dD M SM SW p = true → h' p = h p) → mS M h' ≤ mS M h := fun q z fr V qi a τ l4 l5 l6 h1 h2 hB hl hY => by
      have hz := hB.1
      obtain ⟨y1, y2, y3, y4, y5⟩ := id hY
      obtain ⟨c2, c3, c4, c5⟩ := mB_end hG hB h1
      refine ⟨τ, g21_11_0 _ (by rw [y3]; exact nI_le h1 (by omega)), ⟨fun c o k hk => y1 c o k (by omega), y2⟩, ⟨fun p hp => by rw [y1 3 0 1 (by omega)]; exact zz1 p hp, by rw [y2]; exact ⟨zz2, zz3, zz4⟩⟩, fun h' hT' hD' => ?_⟩
      refine mC_max hG hT (R := mQ q z) (W := V) (D := dD M SM SW) ⟨fun p hp _ hM hD hR hh w => ?_, c2, c3, c4, c5⟩ hT' hD'
      cases he : E p w with
      | false => rfl
      | true =>
        have hsm : SM p = false := by
          unfold dD at hD
          rwa [if_pos hM] at hD
        obtain ⟨i, hi, e⟩ := hl p hp ⟨⟨w, (hG _ _ he).2.1, he⟩, hh, hsm⟩
        rw [mQ_t.mpr ⟨i, hi, e⟩] at hR
        cases hR
    intro n
    induction n with
    | zero =>
      intro q z fr V qi a τ l4 l5 l6 hn haz hB hl hY
      have hz := hB.1
      exact Or.inr (fin q z fr V qi a τ l4 l5 l6 (by omega) haz hB hl hY)
    | succ n ih =>
      intro q z fr V qi a τ l4 l5 l6 hn haz hB hl hY
      have hz := hB.1
      rcases Nat.lt_or_ge a z with ha | ha
      · obtain ⟨y1, y2, y3, y4, y5⟩ := id hY
        have eaC : (nI a).toNatClampNeg = a := nI_clamp (by omega)
        have e2 : τ.1 3 0 2 (nI a).toNatClampNeg = nI (q a) := by rw [eaC]; exact y4 a ha
        have q48 := (hB.2.1 a ha).1
        have st := g21_11_2 (pq_RD (d + 2)) (l4 := l4) (l5 := l5) (l6 := l6) (σ := τ) (w1 := ls (fun u => SW u || V u)) (x3 := nI a) (by rw [y3]; exact nI_ge ha (by omega)) (nI_ge (b := 48) (by omega) (by decide)) (vp_in_nI (by omega) (by omega)) (by rw [e2]; exact vp_in_nI q48 (by omega))
        rw [e2, nI_clamp (by omega), y2, zz2 _ q48, ls_dif, ls_or] at st
        rcases c21in d hG hT hZ hDp (V0 := V) (q0 := q) ha 48 0 (by omega) q z fr V qi τ (Nat.le_refl _) rfl (fun u => by simp) hB hl hY with ⟨τ', h', s, r, oo, zz, tT, tk, s1, s2, s3, s4⟩ | ⟨q', z', fr', V', qi', τ', l6', r, hz', hB', hl', hY'⟩
        · exact Or.inl ⟨τ', h', st.trans r, oo, zz, tT, tk, mS_more s1 s2 s3 s4⟩
        · have hn' : 48 - (a + 1) ≤ n := by omega
          have ha' : a + 1 ≤ z' := by omega
          rcases ih q' z' fr' V' qi' (a + 1) τ' _ none l6' hn' ha' hB' hl' hY' with ⟨τ2, h', r2, rest⟩ | ⟨τ2, r2, rest⟩
          · exact Or.inl ⟨τ2, h', st.trans (r.trans r2), rest⟩
          · exact Or.inr ⟨τ2, st.trans (r.trans r2), rest⟩
      · exact Or.inr (fin q z fr V qi a τ l4 l5 l6 ha haz hB hl hY)
  have r := key 48 q0 z0 (fun _ => 0) (fun _ => false) (fun _ => 0) 0 τ0 none none none (by omega) (by omega) ⟨hz48, fun i hi => ⟨(rq i hi).1, lM _ (rq i hi).2⟩, rd, fun u _ hv => (by cases hv), fun j hj hh => absurd hh (rq j hj).2.2.1, fun i w h1 => by omega, fun w hw => by omega⟩ rall ⟨fun c o k hk => o20 c o k (by omega), t20, r4, r2, fun u _ hv => (by cases hv)⟩
  rw [ls_cong (P := fun u => SW u || (fun _ => false) u) (Q := SW) (fun u _ => by simp)] at r
  rcases r with ⟨τ', h', r, rest⟩ | ⟨τ', r, rest⟩
  · exact Or.inl ⟨τ', h', st.trans r, rest⟩
  · exact Or.inr ⟨τ', st.trans r, rest⟩
