/-! match: findLack of the class -/
def mYl (q : Nat → Nat) (z : Nat) (σ τ : pmS) : Prop := (∀ c o k, ¬ (c = 3 ∧ (k = 2 ∨ k = 4)) → τ.1 c o k = σ.1 c o k) ∧ τ.2 = σ.2 ∧ τ.1 3 0 4 0 = nI z ∧ ∀ i, i < z → τ.1 3 0 2 i = nI (q i)
theorem c27in (d : Nat) {E : Nat → Nat → Bool} {M : Nat → Bool} {h : Nat → Nat} {σ : pmS} (hG : mG E M) (hT : mT E h) (hs : ∀ p, p < 48 → σ.1 3 0 1 p = enc (h p)) {a : Nat} {q0 : Nat → Nat} {z0 : Nat} {V0 : Nat → Bool} (ha0 : a < z0) : ∀ (n wl : Nat), n + wl = 48 → ∀ (q : Nat → Nat) (z : Nat) (V : Nat → Bool) (τ : pmS), z0 ≤ z → q a = q0 a → (∀ u, V u = (V0 u || ((E (q0 a) u && !V0 u) && decide (u < wl)))) → mL E M h q z V a wl → (∀ p, p < 48 → lnM E (fun _ => false) h p → ∃ i, i < z ∧ q i = p) → mYl q z σ τ → ∃ q' z' V' τ' l6, pq_Rn (pq_RD (d + 2)) (27, 54, [some (vR 3 0 0), some (vL (ls (fun u => V0 u || (E (q0 a) u && !V0 u)))), none, some (vI (nI a)), some (vL (ls (fun u => E (q0 a) u && !V0 u))), none, some (vI (nI wl))], [], τ) = pq_Rn (pq_RD (d + 2)) (27, 13, [some (vR 3 0 0), some (vL (ls V')), none, some (vI (nI (a + 1))), some (vL (ls (fun u => E (q0 a) u && !V0 u))), none, l6], [], τ') ∧ z0 ≤ z' ∧ mL E M h q' z' V' (a + 1) 0 ∧ (∀ p, p < 48 → lnM E (fun _ => false) h p → ∃ i, i < z' ∧ q' i = p) ∧ mYl q' z' σ τ' := by
  have close : ∀ (wl : Nat) (q : Nat → Nat) (z : Nat) (V : Nat → Bool) (τ : pmS), wl < 64 → z0 ≤ z → q a = q0 a → (∀ u, V u = (V0 u || ((E (q0 a) u && !V0 u) && decide (u < wl)))) → mL E M h q z V a wl → (∀ p, p < 48 → lnM E (fun _ => false) h p → ∃ i, i < z ∧ q i = p) → mYl q z σ τ → (∀ i, wl ≤ i → i < 48 → (E (q0 a) i && !V0 i) = false) → ∃ q' z' V' τ' l6, pq_Rn (pq_RD (d + 2)) (27, 54, [some (vR 3 0 0), some (vL (ls (fun u => V0 u || (E (q0 a) u && !V0 u)))), none, some (vI (nI a)), some (vL (ls (fun u => E (q0 a) u && !V0 u))), none, some (vI (nI wl))], [], τ) = pq_Rn (pq_RD (d + 2)) (27, 13, [some (vR 3 0 0), some (vL (ls V')), none, some (vI (nI (a + 1))), some (vL (ls (fun u => E (q0 a) u && !V0 u))), none, l6], [], τ') ∧ z0 ≤ z' ∧ mL E M h q' z' V' (a + 1) 0 ∧ (∀ p, p < 48 → lnM E (fun _ => false) h p → ∃ i, i < z' ∧ q' i = p) ∧ mYl q' z' σ τ' := fun wl q z V τ hwl hz ea hV hB hl hY hno => by
    have st := g27_54_0 (pq_RD (d + 2)) (σ := τ) (w1 := ls (fun u => V0 u || (E (q0 a) u && !V0 u))) (x3 := nI a) (w4 := ls (fun u => E (q0 a) u && !V0 u)) (x6 := nI wl) ((ls_shr _ hwl).mpr hno)
    have eL : ls (fun u => V0 u || (E (q0 a) u && !V0 u)) = ls V := ls_cong (fun u hu => by
      rw [hV u]
      rcases Nat.lt_or_ge u wl with k | k
      · cases V0 u <;> cases E (q0 a) u <;> simp [k]
      · have := hno u k hu
        rw [this]
        simp)
    rw [nI_1 a] at st
    refine ⟨q, z, V, τ, some (vI (nI wl)), st.trans (by rw [eL]), hz, mL_next (fun w hw he => ?_) hB, hl, hY⟩
    rw [ea] at he
    have h1 := hno w hw (hG _ _ he).2.1
    rw [hV w]
    rw [he] at h1
    cases hv : V0 w with
    | true => simp
    | false => rw [hv] at h1; simp at h1
  intro n
  induction n with
  | zero =>
    intro wl hn q z V τ hz ea hV hB hl hY
    exact close wl q z V τ (by omega) hz ea hV hB hl hY (fun i h1 h2 => by omega)
  | succ n ih =>
    intro wl hn q z V τ hz ea hV hB hl hY
    have hw48 : wl < 48 := by omega
    by_cases hno : ∀ i, wl ≤ i → i < 48 → (E (q0 a) i && !V0 i) = false
    · exact close wl q z V τ (by omega) hz ea hV hB hl hY hno
    · obtain ⟨y1, y2, y3, y4⟩ := id hY
      have hne : ¬ lg_cmp (((ls (fun u => E (q0 a) u && !V0 u)).toUInt64 >>> ((nI wl).toInt64.toUInt64 &&& Int64.toUInt64 63)).toInt64) 0 = 0 := fun y => hno ((ls_shr _ (by omega)).mp y)
      have h48 : ¬ (48 : Int32) ≤ nI wl := nI_ge (b := 48) hw48 (by decide)
      have k19 : pq_RD (d + 2) 19 [vL (ls (fun u => E (q0 a) u && !V0 u)), vI (nI wl)] τ = some (some (vI (bI (E (q0 a) wl && !V0 wl))), τ) := c19 (d + 1) (σ := τ) (P := fun u => E (q0 a) u && !V0 u) hw48
      have ew : (nI wl).toNatClampNeg = wl := nI_clamp (by omega)
      have vw : vp_in (nI wl) 48 := vp_in_nI (by omega) (by omega)
      have ha : a < z := by omega
      have hz48 := hB.1
      have dec : ∀ u, u ≠ wl → decide (u < wl + 1) = decide (u < wl) := fun u k => by
        by_cases k2 : u < wl
        · simp [k2, Nat.lt_succ_of_lt k2]
        · have : ¬ u < wl + 1 := by omega
          simp [k2, this]
      cases hf : (E (q0 a) wl && !V0 wl) with
      | false =>
        rw [hf] at k19
        have st := g27_54_2 (pq_RD (d + 2)) (σ := τ) (w1 := ls (fun u => V0 u || (E (q0 a) u && !V0 u))) (x3 := nI a) (w4 := ls (fun u => E (q0 a) u && !V0 u)) (x6 := nI wl) hne h48 k19 rfl
        rw [nI_1 wl] at st
        have r := ih (wl + 1) (by omega) q z V τ hz ea (fun u => by
          rw [hV u]
          by_cases k : u = wl
          · subst k
            rw [hf]
            simp
          · rw [dec u k]) (mL_skip hB (fun he => by
          rw [ea] at he
          rw [hV wl]
          rw [he] at hf
          cases hv : V0 wl with
          | true => simp
          | false => rw [hv] at hf; simp at hf)) hl hY
        rw [← st] at r
        exact r
      | true =>
        obtain ⟨hE, hV0⟩ : E (q0 a) wl = true ∧ V0 wl = false := by simpa using hf
        rw [hf] at k19
        have hEq : E (q a) wl = true := by rw [ea]; exact hE
        have hVw : V wl = false := by
          rw [hV wl, hV0]
          simp
        have hV2 : ∀ u, (if u = wl then true else V u) = (V0 u || ((E (q0 a) u && !V0 u) && decide (u < wl + 1))) := fun u => by
          by_cases k : u = wl
          · subst k
            rw [if_pos rfl, hf]
            simp
          · rw [if_neg k, hV u, dec u k]
        have e1 : τ.1 3 0 1 (nI wl).toNatClampNeg = enc (h wl) := by rw [ew, y1 3 0 1 (by omega)]; exact hs wl hw48
        rcases Classical.em (h wl < 48) with hh | hh
        · obtain ⟨z48, hB'⟩ := mL_add hG hT hB ha hEq hVw hh
          have k22 := c22 (d + 1) (σ := τ) (x := nI (h wl)) z48 y3
          have st := g27_54_4 (pq_RD (d + 2)) (σ := τ) (w1 := ls (fun u => V0 u || (E (q0 a) u && !V0 u))) (x3 := nI a) (w4 := ls (fun u => E (q0 a) u && !V0 u)) (x6 := nI wl) hne h48 k19 (by decide) vw (by rw [e1, enc_m1]; exact fun y => y hh) (by rw [e1, enc_y hh]; exact k22)
          rw [nI_1 wl] at st
          have r := ih (wl + 1) (by omega) _ (z + 1) _ (pm_wi (pm_wi τ 3 0 2 z (nI (h wl))) 3 0 4 0 (nI (z + 1))) (by omega) (by show (if a = z then h wl else q a) = q0 a; rw [if_neg (by omega)]; exact ea) hV2 hB' (fun p hp hlp => by
            obtain ⟨i, hi, e⟩ := hl p hp hlp
            exact ⟨i, by omega, by show (if i = z then h wl else q i) = p; rw [if_neg (by omega)]; exact e⟩) ⟨fun c o k hk => by rw [wi_k (by omega), wi_k (by omega)]; exact y1 c o k hk, by rw [wi_2, wi_2]; exact y2, wi_s _ _ _ _ _ _, fun i hi => by
            show _ = nI (if i = z then h wl else q i)
            rw [wi_k (by omega)]
            by_cases q1 : i = z
            · rw [if_pos q1, q1]
              exact wi_s _ _ _ _ _ _
            · rw [if_neg q1, wi_i q1]
              exact y4 i (by omega)⟩
          rw [← st] at r
          exact r
        · have st := g27_54_3 (pq_RD (d + 2)) (σ := τ) (w1 := ls (fun u => V0 u || (E (q0 a) u && !V0 u))) (x3 := nI a) (w4 := ls (fun u => E (q0 a) u && !V0 u)) (x6 := nI wl) hne h48 k19 (by decide) vw (by rw [e1, enc_m1]; exact hh)
          rw [nI_1 wl] at st
          have r := ih (wl + 1) (by omega) q z _ τ hz ea hV2 (mL_lone hB ha hEq hh) hl hY
          rw [← st] at r
          exact r
theorem c27 (d : Nat) {E : Nat → Nat → Bool} {M SM SW : Nat → Bool} {h : Nat → Nat} {σ : pmS} (hG : mG E M) (hT : mT E h) (hZ : mZ E SM SW h σ) : ∃ τ F, pq_RD (d + 3) 27 [vR 3 0 0] σ = some (none, τ) ∧ (∀ c o k, ¬ c = 3 → τ.1 c o k = σ.1 c o k) ∧ (∀ p, p < 48 → τ.1 3 0 1 p = enc (h p)) ∧ lkM E M h F ∧ τ.1 3 0 7 0 = nI (fb_ct F 48) ∧ τ.1 3 0 8 0 = nI (fb_ct (fun w => mWant E F w 48) 48) := by
  obtain ⟨zz1, zz2, zz3, zz4⟩ := id hZ
  generalize eA : pm_wl σ 3 0 5 0 0 = σ1
  have a1 : σ1.1 = σ.1 := by rw [← eA]; rfl
  have Z1 : mZ E (fun _ => false) SW h σ1 := by
    refine ⟨fun p hp => by rw [a1]; exact zz1 p hp, fun p hp => ?_, ?_, ?_⟩
    · rw [← eA, wl_2, if_neg (by simp)]
      exact zz2 p hp
    · rw [← eA, wl_2, if_pos ⟨rfl, rfl, rfl, rfl⟩]
      exact ls_0
    · rw [← eA, wl_2, if_neg (by simp)]
      exact zz4
  obtain ⟨τ0, q0, z0, k20, o20, t20, hz48, r4, r2, rq, rd, rall⟩ := c20 d Z1
  have st := (m27 (d + 2)).trans (g27_0_0 (pq_RD (d + 2)) (l1 := none) (l2 := none) (l3 := none) (l4 := none) (l5 := none) (l6 := none) (σ := σ) (by rw [eA]; exact k20))
  rw [ls_0] at st
  have s1 : ∀ p, p < 48 → σ1.1 3 0 1 p = enc (h p) := fun p hp => by rw [a1]; exact zz1 p hp
  have key : ∀ (n : Nat) (q : Nat → Nat) (z : Nat) (V : Nat → Bool) (a : Nat) (τ : pmS) (l4 l5 l6 : Option pmV), 48 - a ≤ n → a ≤ z → mL E M h q z V a 0 → (∀ p, p < 48 → lnM E (fun _ => false) h p → ∃ i, i < z ∧ q i = p) → mYl q z σ1 τ → ∃ τ' F, pq_Rn (pq_RD (d + 2)) (27, 13, [some (vR 3 0 0), some (vL (ls V)), none, some (vI (nI a)), l4, l5, l6], [], τ) = some (none, τ') ∧ (∀ c o k, ¬ c = 3 → τ'.1 c o k = σ1.1 c o k) ∧ (∀ p, p < 48 → τ'.1 3 0 1 p = enc (h p)) ∧ lkM E M h F ∧ τ'.1 3 0 7 0 = nI (fb_ct F 48) ∧ τ'.1 3 0 8 0 = nI (fb_ct (fun w => mWant E F w 48) 48) := by
    have fin : ∀ (q : Nat → Nat) (z : Nat) (V : Nat → Bool) (a : Nat) (τ : pmS) (l4 l5 l6 : Option pmV), z ≤ a → a ≤ z → mL E M h q z V a 0 → (∀ p, p < 48 → lnM E (fun _ => false) h p → ∃ i, i < z ∧ q i = p) → mYl q z σ1 τ → ∃ τ' F, pq_Rn (pq_RD (d + 2)) (27, 13, [some (vR 3 0 0), some (vL (ls V)), none, some (vI (nI a)), l4, l5, l6], [], τ) = some (none, τ') ∧ (∀ c o k, ¬ c = 3 → τ'.1 c o k = σ1.1 c o k) ∧ (∀ p, p < 48 → τ'.1 3 0 1 p = enc (h p)) ∧ lkM E M h F ∧ τ'.1 3 0 7 0 = nI (fb_ct F 48) ∧ τ'.1 3 0 8 0 = nI (fb_ct (fun w => mWant E F w 48) 48) := fun q z V a τ l4 l5 l6 h1 h2 hB hl hY => by
      obtain ⟨b0, b1, b2, b3, b4, b5, b6, b7⟩ := id hB
      obtain ⟨y1, y2, y3, y4⟩ := id hY
      have k180 := c180 (d + 1) (σ := pm_wi τ 3 0 7 0 (nI z)) (P := V)
      have st := g27_13_0 (pq_RD (d + 2)) (l4 := l4) (l5 := l5) (l6 := l6) (σ := τ) (w1 := ls V) (x3 := nI a) (by rw [y3]; exact nI_le h1 (by omega)) (by rw [y3]; exact k180)
      refine ⟨_, mQ q z, st, fun c o k hk => ?_, fun p hp => ?_, ⟨⟨fun p w hm hh he => ?_, fun p w hp he hh => ?_⟩, fun F' hF' p hp => ?_⟩, ?_, ?_⟩
      · rw [wi_k (by omega), wi_k (by omega), y1 c o k (by omega)]
      · rw [wi_k (by omega), wi_k (by omega), y1 3 0 1 (by omega)]
        exact s1 p hp
      · obtain ⟨p48, w48, -, -⟩ := hG _ _ he
        exact mQ_t.mpr (hl p p48 ⟨⟨w, w48, he⟩, hh, rfl⟩)
      · obtain ⟨i, hi, e⟩ := mQ_t.mp hp
        rw [← e] at he
        exact mQ_t.mpr ((b5 w (b6 i w (by omega) hi he)).2 hh)
      · obtain ⟨i, hi, e⟩ := mQ_t.mp hp
        rw [← e]
        exact b3 F' hF' i hi
      · rw [wi_k (by omega), wi_s, mQ_ct b1 b2]
      · rw [wi_s]
        refine congrArg nI (fb_ct_cong (fun w hw => ?_))
        show V w = mWant E (mQ q z) w 48
        cases hv : V w with
        | true =>
          obtain ⟨i, hi, e⟩ := (b5 w hv).1
          exact (mWant_t.mpr ⟨q i, b1 i hi, mQ_t.mpr ⟨i, hi, rfl⟩, e⟩).symm
        | false =>
          cases hx : mWant E (mQ q z) w 48 with
          | false => rfl
          | true =>
            obtain ⟨m, -, hm, he⟩ := mWant_t.mp hx
            obtain ⟨i, hi, e⟩ := mQ_t.mp hm
            rw [← e] at he
            have := b6 i w (by omega) hi he
            rw [hv] at this
            cases this
    intro n
    induction n with
    | zero =>
      intro q z V a τ l4 l5 l6 hn haz hB hl hY
      have hz := hB.1
      exact fin q z V a τ l4 l5 l6 (by omega) haz hB hl hY
    | succ n ih =>
      intro q z V a τ l4 l5 l6 hn haz hB hl hY
      have hz := hB.1
      rcases Nat.lt_or_ge a z with ha | ha
      · obtain ⟨y1, y2, y3, y4⟩ := id hY
        have eaC : (nI a).toNatClampNeg = a := nI_clamp (by omega)
        have e2 : τ.1 3 0 2 (nI a).toNatClampNeg = nI (q a) := by rw [eaC]; exact y4 a ha
        have q48 := hB.2.1 a ha
        have st := g27_13_2 (pq_RD (d + 2)) (l4 := l4) (l5 := l5) (l6 := l6) (σ := τ) (w1 := ls V) (x3 := nI a) (by rw [y3]; exact nI_ge ha (by omega)) (nI_ge (b := 48) (by omega) (by decide)) (vp_in_nI (by omega) (by omega)) (by rw [e2]; exact vp_in_nI q48 (by omega))
        rw [e2, nI_clamp (by omega), y2, Z1.2.1 _ q48, ls_dif, ls_or] at st
        obtain ⟨q', z', V', τ', l6', r, hz', hB', hl', hY'⟩ := c27in d hG hT s1 (V0 := V) (q0 := q) ha 48 0 (by omega) q z V τ (Nat.le_refl _) rfl (fun u => by simp) hB hl hY
        have hn' : 48 - (a + 1) ≤ n := by omega
        have ha' : a + 1 ≤ z' := by omega
        obtain ⟨τ2, F, r2, rest⟩ := ih q' z' V' (a + 1) τ' _ none l6' hn' ha' hB' hl' hY'
        exact ⟨τ2, F, st.trans (r.trans r2), rest⟩
      · exact fin q z V a τ l4 l5 l6 ha haz hB hl hY
  obtain ⟨τ, F, r, o, rest⟩ := key 48 q0 z0 (fun _ => false) 0 τ0 none none none (by omega) (by omega) ⟨hz48, fun i hi => (rq i hi).1, rd, fun F' hF' i hi => by
      obtain ⟨⟨w, -, e⟩, hl, -⟩ := (rq i hi).2
      exact hF'.1 _ w (hG _ _ e).2.2.1 hl e, fun j hj hh => absurd hh (rq j hj).2.2.1, fun u hv => (by cases hv), fun i w h1 => by omega, fun w hw => by omega⟩ rall ⟨o20, t20, r4, r2⟩
  exact ⟨τ, F, st.trans r, fun c o' k hk => by rw [o c o' k hk, a1], rest⟩
