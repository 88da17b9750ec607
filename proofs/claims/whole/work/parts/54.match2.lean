/-! match: the model's search -/
def enc (x : Nat) : Int32 := if x < 48 then nI x else -1
theorem enc_y {x : Nat} (h : x < 48) : enc x = nI x := if_pos h
theorem enc_n {x : Nat} (h : ¬ x < 48) : enc x = -1 := if_neg h
theorem enc_lt (x : Nat) : enc x < 0 ↔ ¬ x < 48 := by
  by_cases h : x < 48
  · rw [enc_y h]
    exact ⟨fun z => absurd z (nI_pos (by omega)), fun z => absurd h z⟩
  · rw [enc_n h]
    exact ⟨fun _ => h, fun _ => by decide⟩
theorem enc_le (x : Nat) : 0 ≤ enc x ↔ x < 48 := by
  by_cases h : x < 48
  · rw [enc_y h]
    exact ⟨fun _ => h, fun _ => nI_pos' (by omega)⟩
  · rw [enc_n h]
    exact ⟨fun z => absurd z (by decide), fun z => absurd z h⟩
theorem enc_m1 (x : Nat) : enc x = -1 ↔ ¬ x < 48 := by
  by_cases h : x < 48
  · rw [enc_y h]
    exact ⟨fun z => absurd z (nI_m1 (by omega)), fun z => absurd h z⟩
  · rw [enc_n h]
    exact ⟨fun _ => h, fun _ => rfl⟩
theorem enc_inj {x y : Nat} (hx : x ≤ 48) (hy : y ≤ 48) : enc x = enc y ↔ x = y := by
  by_cases h1 : x < 48
  · by_cases h2 : y < 48
    · rw [enc_y h1, enc_y h2]
      exact nI_eq (by omega) (by omega)
    · rw [enc_y h1, enc_n h2]
      exact ⟨fun z => absurd z (nI_m1 (by omega)), fun z => by omega⟩
  · by_cases h2 : y < 48
    · rw [enc_n h1, enc_y h2]
      exact ⟨fun z => absurd z.symm (nI_m1 (by omega)), fun z => by omega⟩
    · rw [enc_n h1, enc_n h2]
      exact ⟨fun _ => by omega, fun _ => rfl⟩
def mX (NP : Nat) (E : Nat → Nat → Bool) (M : Nat → Bool) (f : pmI) : Prop := NP ≤ 48 ∧ f 10 0 16 0 = nI NP ∧ (∀ p, p < NP → (f 10 0 19 p = 0 ↔ M p = true)) ∧ (∀ m w, m < NP → w < NP → f 10 0 31 (48 * m + w) = bI (E m w)) ∧ (∀ p q, E p q = true → p < NP ∧ q < NP) ∧ mG E M
theorem mX_o {NP : Nat} {E : Nat → Nat → Bool} {M : Nat → Bool} {f g : pmI} (e : ∀ k, k = 16 ∨ k = 19 ∨ k = 31 → g 10 0 k = f 10 0 k) (h : mX NP E M f) : mX NP E M g := by
  obtain ⟨x1, x2, x3, x4, x5, x6⟩ := h
  exact ⟨x1, by rw [e 16 (by omega)]; exact x2, fun p hp => by rw [e 19 (by omega)]; exact x3 p hp, fun m w hm hw => by rw [e 31 (by omega)]; exact x4 m w hm hw, x5, x6⟩
theorem mT_NP {NP : Nat} {E : Nat → Nat → Bool} {h : Nat → Nat} (x5 : ∀ p q, E p q = true → p < NP ∧ q < NP) (hT : mT E h) {p : Nat} (hp : p < 48) (hh : h p < 48) : p < NP ∧ h p < NP := by
  rcases (hT p hp hh).2 with q | q
  · exact x5 _ _ q
  · exact ⟨(x5 _ _ q).2, (x5 _ _ q).1⟩
theorem c161 {NP : Nat} {E : Nat → Nat → Bool} {M D R W : Nat → Bool} {fr : Nat → Nat} {V : Nat → Bool} {rk h0 : Nat → Nat} (hN : NP ≤ 48) (hG : mG E M) (x5 : ∀ p q, E p q = true → p < NP ∧ q < NP) (hRW : (∀ p w, R p = true → E p w = true → D w = false → W w = true) ∧ (∀ w, w < 48 → W w = true → h0 w < 48 ∧ R (h0 w) = true ∧ D w = false ∧ M w = false) ∧ ∀ p, R p = true → M p = true) (C : pmC) : ∀ (n w : Nat) (h : Nat → Nat) (σ : pmS) (l1 l3 l4 : Option pmV), rk w ≤ n → mF E M D R W fr V rk h0 h w → (∀ p, p < NP → σ.1 10 0 32 p = enc (h p)) → (∀ u, u < NP → V u = true → σ.1 10 0 33 u = nI (fr u)) → ∃ τ h' u, pq_Rn C (161, 2, [some (vR 10 0 0), l1, some (vI (nI w)), l3, l4], [], σ) = some (none, τ) ∧ (∀ c o k, ¬ (c = 10 ∧ k = 32) → τ.1 c o k = σ.1 c o k) ∧ (∀ p, p < NP → τ.1 10 0 32 p = enc (h' p)) ∧ mT E h' ∧ (∀ p, p < 48 → D p = true ∨ R p = true ∨ W p = true → h' p = h0 p) ∧ u < 48 ∧ V u = true ∧ M (fr u) = true ∧ fr u < 48 ∧ (∀ p, p < 48 → M p = true → (h' p < 48 ↔ h0 p < 48 ∨ p = fr u)) ∧ ¬ h0 (fr u) < 48 := by
  intro n
  induction n with
  | zero =>
    intro w h σ l1 l3 l4 hn hF hs1 hs2
    obtain ⟨m1, m2, m3, m4, m5⟩ := mF_step hG hRW hF
    have hw := hF.1
    have hv := hF.2.1
    have hE := (hF.2.2.2.2.2.2.1 w hw hv (Nat.le_refl _)).1
    obtain ⟨pN, wN⟩ := x5 _ _ hE
    have ew : (nI w).toNatClampNeg = w := nI_clamp (by omega)
    have em : (nI (fr w)).toNatClampNeg = fr w := nI_clamp (by omega)
    have s33 : σ.1 10 0 33 (nI w).toNatClampNeg = nI (fr w) := by rw [ew]; exact hs2 w wN hv
    have st := g161_2_1 C (l1 := l1) (l3 := l3) (l4 := l4) (σ := σ) (x2 := nI w) (nI_pos (by omega)) (vp_in_nI (by omega) (by omega)) (by rw [s33]; exact vp_in_nI (by omega) (by omega))
    rw [s33, em, ew, hs1 _ pN] at st
    have sto : ∀ p, p < NP → (pm_wi (pm_wi σ 10 0 32 w (nI (fr w))) 10 0 32 (fr w) (nI w)).1 10 0 32 p = enc (hC h (fr w) w p) := fun p hp => by
      have mw : fr w ≠ w := fun z => by
        have := (hG _ _ hE).2.2.1
        have q := hF.2.2.2.2.1
        rw [z, q] at this
        cases this
      unfold hC
      by_cases q1 : p = w
      · rw [if_pos q1, q1, wi_i (fun z => mw z.symm), wi_s, enc_y m1]
      · by_cases q2 : p = fr w
        · rw [if_neg q1, if_pos q2, q2, wi_s, enc_y hw]
        · rw [if_neg q1, if_neg q2, wi_i q2, wi_i q1]
          exact hs1 p hp
    rcases Classical.em (h (fr w) < 48) with q | q
    · obtain ⟨-, q2⟩ := m5 q
      omega
    · obtain ⟨a1, a2, a3, a4⟩ := m4 q
      rw [enc_n q] at st
      exact ⟨_, hC h (fr w) w, w, st.trans (g161_2_0 _ (by decide)), fun c o k hk => by rw [wi_k hk, wi_k hk], sto, a1, a2, hw, hv, m2, m1, a3, a4⟩
  | succ n ih =>
    intro w h σ l1 l3 l4 hn hF hs1 hs2
    obtain ⟨m1, m2, m3, m4, m5⟩ := mF_step hG hRW hF
    have hw := hF.1
    have hv := hF.2.1
    have hE := (hF.2.2.2.2.2.2.1 w hw hv (Nat.le_refl _)).1
    obtain ⟨pN, wN⟩ := x5 _ _ hE
    have ew : (nI w).toNatClampNeg = w := nI_clamp (by omega)
    have em : (nI (fr w)).toNatClampNeg = fr w := nI_clamp (by omega)
    have s33 : σ.1 10 0 33 (nI w).toNatClampNeg = nI (fr w) := by rw [ew]; exact hs2 w wN hv
    have st := g161_2_1 C (l1 := l1) (l3 := l3) (l4 := l4) (σ := σ) (x2 := nI w) (nI_pos (by omega)) (vp_in_nI (by omega) (by omega)) (by rw [s33]; exact vp_in_nI (by omega) (by omega))
    rw [s33, em, ew, hs1 _ pN] at st
    have sto : ∀ p, p < NP → (pm_wi (pm_wi σ 10 0 32 w (nI (fr w))) 10 0 32 (fr w) (nI w)).1 10 0 32 p = enc (hC h (fr w) w p) := fun p hp => by
      have mw : fr w ≠ w := fun z => by
        have := (hG _ _ hE).2.2.1
        have q := hF.2.2.2.2.1
        rw [z, q] at this
        cases this
      unfold hC
      by_cases q1 : p = w
      · rw [if_pos q1, q1, wi_i (fun z => mw z.symm), wi_s, enc_y m1]
      · by_cases q2 : p = fr w
        · rw [if_neg q1, if_pos q2, q2, wi_s, enc_y hw]
        · rw [if_neg q1, if_neg q2, wi_i q2, wi_i q1]
          exact hs1 p hp
    rcases Classical.em (h (fr w) < 48) with q | q
    · obtain ⟨q1, q2⟩ := m5 q
      rw [enc_y q] at st
      obtain ⟨τ, h', u, kr, o, r⟩ := ih (h (fr w)) (hC h (fr w) w) _ l1 (some (vI (nI (fr w)))) (some (vI (nI (h (fr w))))) (by omega) q1 sto (fun u hu hvu => by rw [wi_k (by omega), wi_k (by omega)]; exact hs2 u hu hvu)
      exact ⟨τ, h', u, st.trans kr, fun c o' k hk => by rw [o c o' k hk, wi_k hk, wi_k hk], r⟩
    · obtain ⟨a1, a2, a3, a4⟩ := m4 q
      rw [enc_n q] at st
      exact ⟨_, hC h (fr w) w, w, st.trans (g161_2_0 _ (by decide)), fun c o k hk => by rw [wi_k hk, wi_k hk], sto, a1, a2, hw, hv, m2, m1, a3, a4⟩
/-- the store in the model's search -/
def mY (NP : Nat) (h q : Nat → Nat) (z : Nat) (fr : Nat → Nat) (V : Nat → Bool) (σ τ : pmS) : Prop := (∀ c o k, ¬ (c = 10 ∧ (k = 33 ∨ k = 34)) → τ.1 c o k = σ.1 c o k) ∧ (∀ i, i < z → τ.1 10 0 34 i = nI (q i)) ∧ ∀ u, u < NP → τ.1 10 0 33 u = if V u = true then nI (fr u) else -1
theorem c160l (d : Nat) {NP : Nat} {E : Nat → Nat → Bool} {M D R W : Nat → Bool} {h : Nat → Nat} {m : Nat} {σ : pmS} {l1 : Option pmV} (hX : mX NP E M σ.1) (hmN : m < NP) (hT : mT E h) (hDs : ∀ w, w < NP → M w = false → (0 ≤ σ.1 10 0 35 w ↔ D w = true)) (hDp : ∀ w, w < 48 → D w = false → h w < 48 → D (h w) = false) (hRW : (∀ p w, R p = true → E p w = true → D w = false → W w = true) ∧ (∀ w, w < 48 → W w = true → h w < 48 ∧ R (h w) = true ∧ D w = false ∧ M w = false) ∧ ∀ p, R p = true → M p = true) (hs : ∀ p, p < NP → σ.1 10 0 32 p = enc (h p)) : ∀ (n wl : Nat), n + wl = NP → ∀ (q : Nat → Nat) (z : Nat) (fr : Nat → Nat) (V : Nat → Bool) (qi : Nat → Nat) (a : Nat) (τ : pmS), a < z → mB E M D h q z fr V qi a wl → (∀ j, j < z → ¬ h (q j) < 48 → q j = m) → (∃ j, j < z ∧ q j = m) → mY NP h q z fr V σ τ → (∃ τ' h', pq_Rn (pq_RD (d + 1)) (160, 42, [some (vR 10 0 0), l1, some (vI (nI z)), some (vI (nI a)), some (vI (nI wl))], [], τ) = some (some (vI 1), τ') ∧ (∀ c o k, ¬ (c = 10 ∧ (k = 32 ∨ k = 33 ∨ k = 34)) → τ'.1 c o k = σ.1 c o k) ∧ (∀ p, p < NP → τ'.1 10 0 32 p = enc (h' p)) ∧ mT E h' ∧ (∀ p, p < 48 → D p = true ∨ R p = true ∨ W p = true → h' p = h p) ∧ ∀ p, p < 48 → M p = true → (h' p < 48 ↔ h p < 48 ∨ p = m)) ∨ ∃ q' z' fr' V' qi' τ', pq_Rn (pq_RD (d + 1)) (160, 42, [some (vR 10 0 0), l1, some (vI (nI z)), some (vI (nI a)), some (vI (nI wl))], [], τ) = pq_Rn (pq_RD (d + 1)) (160, 34, [some (vR 10 0 0), l1, some (vI (nI z')), some (vI (nI (a + 1))), some (vI (nI NP))], [], τ') ∧ z ≤ z' ∧ mB E M D h q' z' fr' V' qi' (a + 1) 0 ∧ (∀ j, j < z' → ¬ h (q' j) < 48 → q' j = m) ∧ (∃ j, j < z' ∧ q' j = m) ∧ mY NP h q' z' fr' V' σ τ' := by
  obtain ⟨hN, x2, x3, x4, x5, hG⟩ := hX
  intro n
  induction n with
  | zero =>
    intro wl hn q z fr V qi a τ ha hB hl hq hY
    have e : wl = NP := by omega
    subst e
    right
    exact ⟨q, z, fr, V, qi, τ, (g160_42_0 _ (by rw [hY.1 10 0 16 (by omega), x2, fa_le]; omega)).trans (by rw [nI_1]), Nat.le_refl _, mB_next (fun w hw he hd => by have := (x5 _ _ he).2; omega) hB, hl, hq, hY⟩
  | succ n ih =>
    intro wl hn q z fr V qi a τ ha hB hl hq hY
    have hw : wl < NP := by omega
    obtain ⟨y1, y2, y3⟩ := id hY
    have b0 := hB.1
    have b1 := hB.2.1 a ha
    have hg : ¬ τ.1 10 0 16 0 ≤ nI wl := by rw [y1 10 0 16 (by omega), x2]; exact nI_ge hw (by omega)
    have ea : (nI a).toNatClampNeg = a := nI_clamp (by omega)
    have ew : (nI wl).toNatClampNeg = wl := nI_clamp (by omega)
    have va : vp_in (nI a) 48 := vp_in_nI (by omega) (by omega)
    have vw : vp_in (nI wl) 48 := vp_in_nI (by omega) (by omega)
    have eq : τ.1 10 0 34 (nI a).toNatClampNeg = nI (q a) := by rw [ea]; exact y2 a ha
    have eix : (48 : Int32) * τ.1 10 0 34 (nI a).toNatClampNeg + nI wl = nI (48 * q a + wl) := by
      rw [eq]
      show nI 48 * nI (q a) + nI wl = _
      rw [pk_mul, nI_add]
    have vix : vp_in ((48 : Int32) * τ.1 10 0 34 (nI a).toNatClampNeg + nI wl) 2304 := by rw [eix]; exact vp_in_nI (by omega) (by omega)
    have rd : τ.1 10 0 31 ((48 : Int32) * τ.1 10 0 34 (nI a).toNatClampNeg + nI wl).toNatClampNeg = σ.1 10 0 31 (48 * q a + wl) := by rw [eix, nI_clamp (by omega), y1 10 0 31 (by omega)]
    -- going on with the next woman
    have go : (E (q a) wl = true → D wl = false → V wl = true) → pq_Rn (pq_RD (d + 1)) (160, 42, [some (vR 10 0 0), l1, some (vI (nI z)), some (vI (nI a)), some (vI (nI wl))], [], τ) = pq_Rn (pq_RD (d + 1)) (160, 42, [some (vR 10 0 0), l1, some (vI (nI z)), some (vI (nI a)), some (vI (nI wl + 1))], [], τ) → _ := fun hsk hst => by
      rw [nI_1 wl] at hst
      have := ih (wl + 1) (by omega) q z fr V qi a τ ha (mB_skip hB hsk) hl hq hY
      rw [← hst] at this
      exact this
    have qN : q a < NP := by
      rcases Classical.em (h (q a) < 48) with k | k
      · exact (mT_NP x5 hT b1.1 k).1
      · rw [hl a ha k]
        exact hmN
    · have e31 := x4 (q a) wl qN hw
      rw [e31] at rd
      cases hE : E (q a) wl with
      | false =>
        rw [hE] at rd
        exact go (fun z => by rw [hE] at z; cases z) (g160_42_1 _ hg va vix rd)
      | true =>
        rw [hE] at rd
        have rd1 : ¬ τ.1 10 0 31 ((48 : Int32) * τ.1 10 0 34 (nI a).toNatClampNeg + nI wl).toNatClampNeg = 0 := by rw [rd]; decide
        have wM := (hG _ _ hE).2.2.2
        have e33 := y3 wl hw
        cases hV : V wl with
        | true =>
          rw [hV, if_pos rfl] at e33
          exact go (fun _ _ => hV) (g160_42_2 _ hg va vix rd1 vw (by rw [ew, e33]; exact nI_pos' (by have := (hB.2.2.2.1 wl (by omega) hV).2.2.1; have k := (hB.2.1 _ (hB.2.2.2.1 wl (by omega) hV).1).1; omega)))
        | false =>
          rw [hV, if_neg (by decide)] at e33
          have n33 : ¬ 0 ≤ τ.1 10 0 33 (nI wl).toNatClampNeg := by rw [ew, e33]; decide
          have e35 : 0 ≤ τ.1 10 0 35 (nI wl).toNatClampNeg ↔ D wl = true := by rw [ew, y1 10 0 35 (by omega)]; exact hDs wl hw wM
          cases hD : D wl with
          | true =>
            have : ¬ τ.1 10 0 35 (nI wl).toNatClampNeg < 0 := i_nlt.mpr (e35.mpr hD)
            exact go (fun _ z => by rw [hD] at z; cases z) (g160_42_5 _ hg va vix rd1 vw n33 this)
          | false =>
            have s35 : τ.1 10 0 35 (nI wl).toNatClampNeg < 0 := by
              rw [← i_nle]
              intro z
              rw [e35.mp z] at hD
              cases hD
            have e32 : τ.1 10 0 32 (nI wl).toNatClampNeg = enc (h wl) := by rw [ew, y1 10 0 32 (by omega)]; exact hs wl hw
            rcases Classical.em (h wl < 48) with hh | hh
            · obtain ⟨z48, hB'⟩ := mB_add hG hT hDp hB ha hE hD hV hh
              have st := g160_42_4 (pq_RD (d + 1)) (l1 := l1) (σ := τ) (x2 := nI z) (x3 := nI a) (x4 := nI wl) hg va vix rd1 vw n33 s35 (by rw [e32, enc_lt]; exact fun z => z hh) (vp_in_nI (by omega) (by omega))
              rw [eq, e32, enc_y hh, ew, nI_clamp (by omega : z < 2 ^ 31), nI_1 z, nI_1 wl] at st
              have t1 := (mT_w hG hT (by omega) wM hh).1
              have r := ih (wl + 1) (by omega) _ (z + 1) _ _ _ a (pm_wi (pm_wi τ 10 0 33 wl (nI (q a))) 10 0 34 z (nI (h wl))) (by omega) hB' (fun j hj hn => by
                by_cases q1 : j = z
                · subst q1
                  have : ¬ h (h wl) < 48 := by simpa using hn
                  rw [t1] at this
                  omega
                · have hn : ¬ h (q j) < 48 := by simpa [q1] using hn
                  show (if j = z then h wl else q j) = m
                  rw [if_neg q1]
                  exact hl j (by omega) hn) (by
                obtain ⟨j, hj, ej⟩ := hq
                exact ⟨j, by omega, by show (if j = z then h wl else q j) = m; rw [if_neg (by omega)]; exact ej⟩) ⟨fun c o k hk => by rw [wi_k (by omega), wi_k (by omega)]; exact y1 c o k hk, fun i hi => by
                show _ = nI (if i = z then h wl else q i)
                by_cases q1 : i = z
                · rw [if_pos q1, q1]
                  exact wi_s _ _ _ _ _ _
                · rw [if_neg q1, wi_i q1, wi_k (by omega)]
                  exact y2 i (by omega), fun u hu => by
                show _ = if (if u = wl then true else V u) = true then nI (if u = wl then q a else fr u) else -1
                rw [wi_k (by omega)]
                by_cases q1 : u = wl
                · rw [if_pos q1, if_pos q1, if_pos rfl, q1]
                  exact wi_s _ _ _ _ _ _
                · rw [if_neg q1, if_neg q1, wi_i q1]
                  exact y3 u hu⟩
              rw [← st] at r
              rcases r with r | ⟨q', z', fr', V', qi', τ', r1, r2, r3⟩
              · exact Or.inl r
              · exact Or.inr ⟨q', z', fr', V', qi', τ', r1, by omega, r3⟩
            · left
              have hF := mB_hit (R := R) (W := W) hG hT (fun w hw hv => (hRW.2.1 w hw hv).1) hB ha hE hD hh
              obtain ⟨τ', h', u, kr, o, t32, tT, tk, uu, uV, -, uf, tm, tn⟩ := c161 hN hG x5 hRW (pq_RD d) 48 wl h (pm_wi τ 10 0 33 wl (nI (q a))) (some (vI (nI wl))) none none (by show (if wl = wl then a else qi wl) ≤ 48; rw [if_pos rfl]; omega) hF (fun p hp => by rw [wi_k (by omega), y1 10 0 32 (by omega)]; exact hs p hp) (fun u hu hv => by
                show _ = nI (if u = wl then q a else fr u)
                by_cases q1 : u = wl
                · rw [if_pos q1, q1]
                  exact wi_s _ _ _ _ _ _
                · have hv : V u = true := by
                    have : (if u = wl then true else V u) = true := hv
                    rwa [if_neg q1] at this
                  rw [if_neg q1, wi_i q1, y3 u hu, if_pos hv])
              have k161 := (m161 d).trans ((g161_0_0 (pq_RD d) (l2 := none) (l3 := none) (l4 := none) (x1 := nI wl)).trans kr)
              have es : (if u = wl then q a else fr u) = m := by
                by_cases q1 : u = wl
                · rw [if_pos q1] at tn ⊢
                  exact hl a ha tn
                · have hv : V u = true := by
                    rwa [if_neg q1] at uV
                  obtain ⟨j1, j2, j3, -⟩ := hB.2.2.2.1 u uu hv
                  rw [if_neg q1, j3] at tn ⊢
                  exact hl _ j1 tn
              rw [es] at tm
              exact ⟨τ', h', g160_42_3 _ hg va vix rd1 vw n33 s35 (by rw [e32, enc_lt]; exact hh) (by rw [eq, ew]; exact k161), fun c o' k hk => by rw [o c o' k (by omega), wi_k (by omega)]; exact y1 c o' k (by omega), t32, tT, tk, tm⟩
theorem c160 (d : Nat) {NP : Nat} {E : Nat → Nat → Bool} {M D R W : Nat → Bool} {h : Nat → Nat} {m : Nat} {σ : pmS} (hX : mX NP E M σ.1) (hmN : m < NP) (hmM : M m = true) (hmD : D m = false) (hml : ¬ h m < 48) (hT : mT E h) (hDs : ∀ w, w < NP → M w = false → (0 ≤ σ.1 10 0 35 w ↔ D w = true)) (hDp : ∀ w, w < 48 → D w = false → h w < 48 → D (h w) = false) (hRW : (∀ p w, R p = true → E p w = true → D w = false → W w = true) ∧ (∀ w, w < 48 → W w = true → h w < 48 ∧ R (h w) = true ∧ D w = false ∧ M w = false) ∧ ∀ p, R p = true → M p = true) (hs : ∀ p, p < NP → σ.1 10 0 32 p = enc (h p)) : (∃ τ h', pq_RD (d + 2) 160 [vR 10 0 0, vI (nI m)] σ = some (some (vI 1), τ) ∧ (∀ c o k, ¬ (c = 10 ∧ (k = 32 ∨ k = 33 ∨ k = 34)) → τ.1 c o k = σ.1 c o k) ∧ (∀ p, p < NP → τ.1 10 0 32 p = enc (h' p)) ∧ mT E h' ∧ (∀ p, p < 48 → D p = true ∨ R p = true ∨ W p = true → h' p = h p) ∧ ∀ p, p < 48 → M p = true → (h' p < 48 ↔ h p < 48 ∨ p = m)) ∨ ∃ (τ : pmS) (Q V : Nat → Bool), pq_RD (d + 2) 160 [vR 10 0 0, vI (nI m)] σ = some (some (vI 0), τ) ∧ (∀ c o k, ¬ (c = 10 ∧ (k = 33 ∨ k = 34)) → τ.1 c o k = σ.1 c o k) ∧ Q m = true ∧ (∀ p w, Q p = true → E p w = true → D w = false → V w = true) ∧ (∀ w, w < 48 → V w = true → h w < 48 ∧ Q (h w) = true ∧ D w = false ∧ M w = false) ∧ (∀ p, p < 48 → Q p = true → h p < 48 → V (h p) = true) ∧ ∀ p, Q p = true → M p = true ∧ D p = false := by
  obtain ⟨hN, x2, x3, x4, x5, hG⟩ := id hX
  obtain ⟨τ1, ⟨i1, i2⟩, hr⟩ := lp_ex (C := pq_RD (d + 1)) (S := pmS) (I := fun T τ => (∀ c o k, ¬ (c = 10 ∧ k = 33) → τ.1 c o k = σ.1 c o k) ∧ ∀ u, u < T → τ.1 10 0 33 u = -1) (fr := fun T τ => (160, 2, [some (vR 10 0 0), some (vI (nI m)), some (vI (nI T)), none, none], [], τ)) (s0 := σ) ⟨fun _ _ _ _ => rfl, fun u hu => by omega⟩ (n := NP) (fun T τ hT' ⟨i1, i2⟩ => by
    refine ⟨pm_wi τ 10 0 33 T (-1), ⟨fun c o k hk => ?_, fun u hu => ?_⟩, ?_⟩
    · rw [wi_k hk, i1 c o k hk]
    · rcases Nat.lt_or_ge u T with k | k
      · rw [wi_i (by omega)]
        exact i2 u k
      · have : u = T := by omega
        subst this
        exact wi_s _ _ _ _ _ _
    · refine (g160_2_1 _ (by rw [i1 10 0 16 (by omega), x2]; exact nI_ge hT' (by omega)) (vp_in_nI (by omega) (by omega))).trans ?_
      rw [nI_1, nI_clamp (by omega)])
  have st := ((m160 (d + 1)).trans (g160_0_0 (pq_RD (d + 1)) (l2 := none) (l3 := none) (l4 := none) (σ := σ) (x1 := nI m))).trans (Eq.trans hr (g160_2_0 (pq_RD (d + 1)) (by rw [i1 10 0 16 (by omega), x2, fa_le]; omega)))
  have e0 : (0 : Int32).toNatClampNeg = 0 := rfl
  rw [e0] at st
  have key : ∀ (n : Nat) (q : Nat → Nat) (z : Nat) (fr : Nat → Nat) (V : Nat → Bool) (qi : Nat → Nat) (a : Nat) (τ : pmS) (l4 : Option pmV), 48 - a ≤ n → a ≤ z → mB E M D h q z fr V qi a 0 → (∀ j, j < z → ¬ h (q j) < 48 → q j = m) → (∃ j, j < z ∧ q j = m) → mY NP h q z fr V σ τ → (∃ τ' h', pq_Rn (pq_RD (d + 1)) (160, 34, [some (vR 10 0 0), some (vI (nI m)), some (vI (nI z)), some (vI (nI a)), l4], [], τ) = some (some (vI 1), τ') ∧ (∀ c o k, ¬ (c = 10 ∧ (k = 32 ∨ k = 33 ∨ k = 34)) → τ'.1 c o k = σ.1 c o k) ∧ (∀ p, p < NP → τ'.1 10 0 32 p = enc (h' p)) ∧ mT E h' ∧ (∀ p, p < 48 → D p = true ∨ R p = true ∨ W p = true → h' p = h p) ∧ ∀ p, p < 48 → M p = true → (h' p < 48 ↔ h p < 48 ∨ p = m)) ∨ ∃ (τ' : pmS) (Q V : Nat → Bool), pq_Rn (pq_RD (d + 1)) (160, 34, [some (vR 10 0 0), some (vI (nI m)), some (vI (nI z)), some (vI (nI a)), l4], [], τ) = some (some (vI 0), τ') ∧ (∀ c o k, ¬ (c = 10 ∧ (k = 33 ∨ k = 34)) → τ'.1 c o k = σ.1 c o k) ∧ Q m = true ∧ (∀ p w, Q p = true → E p w = true → D w = false → V w = true) ∧ (∀ w, w < 48 → V w = true → h w < 48 ∧ Q (h w) = true ∧ D w = false ∧ M w = false) ∧ (∀ p, p < 48 → Q p = true → h p < 48 → V (h p) = true) ∧ ∀ p, Q p = true → M p = true ∧ D p = false := by
    have fin : ∀ (q : Nat → Nat) (z : Nat) (fr : Nat → Nat) (V : Nat → Bool) (qi : Nat → Nat) (a : Nat) (τ : pmS) (l4 : Option pmV), z ≤ a → a ≤ z → mB E M D h q z fr V qi a 0 → (∃ j, j < z ∧ q j = m) → mY NP h q z fr V σ τ → ∃ (τ' : pmS) (Q V : Nat → Bool), pq_Rn (pq_RD (d + 1)) (160, 34, [some (vR 10 0 0), some (vI (nI m)), some (vI (nI z)), some (vI (nI a)), l4], [], τ) = some (some (vI 0), τ') ∧ (∀ c o k, ¬ (c = 10 ∧ (k = 33 ∨ k = 34)) → τ'.1 c o k = σ.1 c o k) ∧ Q m = true ∧ (∀ p w, Q p = true → E p w = true → D w = false → V w = true) ∧ (∀ w, w < 48 → V w = true → h w < 48 ∧ Q (h w) = true ∧ D w = false ∧ M w = false) ∧ (∀ p, p < 48 → Q p = true → h p < 48 → V (h p) = true) ∧ ∀ p, Q p = true → M p = true ∧ D p = false := fun q z fr V qi a τ l4 h1 h2 hB hq hY => by
      have hz := hB.1
      obtain ⟨c2, c3, c4, c5⟩ := mB_end hG hB h1
      exact ⟨τ, mQ q z, V, g160_34_0 _ (nI_le h1 (by omega)), hY.1, mQ_t.mpr hq, c2, c3, c4, c5⟩
    intro n
    induction n with
    | zero =>
      intro q z fr V qi a τ l4 hn haz hB hl hq hY
      have hz := hB.1
      exact Or.inr (fin q z fr V qi a τ l4 (by omega) haz hB hq hY)
    | succ n ih =>
      intro q z fr V qi a τ l4 hn haz hB hl hq hY
      have hz := hB.1
      rcases Nat.lt_or_ge a z with ha | ha
      · have st := g160_34_1 (pq_RD (d + 1)) (l1 := some (vI (nI m))) (l4 := l4) (σ := τ) (x2 := nI z) (x3 := nI a) (nI_ge ha (by omega))
        rcases c160l d (l1 := some (vI (nI m))) hX hmN hT hDs hDp hRW hs NP 0 (by omega) q z fr V qi a τ ha hB hl hq hY with ⟨τ', h', r, rest⟩ | ⟨q', z', fr', V', qi', τ', r, hz', hB', hl', hq', hY'⟩
        · exact Or.inl ⟨τ', h', st.trans r, rest⟩
        · have e : n + 1 = n + 1 := rfl
          have hn' : 48 - (a + 1) ≤ n := by omega
          have ha' : a + 1 ≤ z' := by omega
          rcases ih q' z' fr' V' qi' (a + 1) τ' (some (vI (nI NP))) hn' ha' hB' hl' hq' hY' with ⟨τ2, h', r2, rest⟩ | ⟨τ2, Q, V2, r2, rest⟩
          · exact Or.inl ⟨τ2, h', st.trans (r.trans r2), rest⟩
          · exact Or.inr ⟨τ2, Q, V2, st.trans (r.trans r2), rest⟩
      · exact Or.inr (fin q z fr V qi a τ l4 ha haz hB hq hY)
  have r := key 48 (fun _ => m) 1 (fun _ => 0) (fun _ => false) (fun _ => 0) 0 (pm_wi τ1 10 0 34 0 (nI m)) none (by omega) (by omega) ⟨by omega, fun i _ => ⟨by show m < 48; omega, hmM, hmD⟩, fun i j h1 h2 => by omega, fun u _ hv => (by cases hv), fun j _ hh => absurd hh hml, fun i w h1 => by omega, fun w hw => by omega⟩ (fun j _ _ => rfl) ⟨0, by omega, rfl⟩ ⟨fun c o k hk => by rw [wi_k (by omega), i1 c o k (by omega)], fun i hi => by
    have : i = 0 := by omega
    subst this
    exact wi_s _ _ _ _ _ _, fun u hu => by
    rw [wi_k (by omega), i2 u hu]
    rfl⟩
  rcases r with ⟨τ', h', r, rest⟩ | ⟨τ', Q, V, r, rest⟩
  · exact Or.inl ⟨τ', h', st.trans r, rest⟩
  · exact Or.inr ⟨τ', Q, V, st.trans r, rest⟩
/-! greatest -/
/-- who is settled: S, and of the men those below k -/
def mD (M : Nat → Bool) (S : Nat → Nat) (k p : Nat) : Bool := decide (S p < 48) || (M p && decide (p < k))
def mFam (E : Nat → Nat → Bool) (M : Nat → Bool) (S : Nat → Nat) (k : Nat) (h : Nat → Nat) : Prop := mT E h ∧ ∀ p, p < 48 → mD M S k p = true → h p = S p
theorem mFam_Dp {E : Nat → Nat → Bool} {M : Nat → Bool} {S h : Nat → Nat} {k : Nat} (hS : mT E S) (hF : mFam E M S k h) : ∀ w, w < 48 → mD M S k w = false → h w < 48 → mD M S k (h w) = false := fun w hw hd hh => by
  cases hq : mD M S k (h w) with
  | false => rfl
  | true =>
    have e := hF.2 _ hh hq
    rw [(hF.1 w hw hh).1] at e
    have e2 := (hS (h w) hh (by omega)).1
    rw [← e] at e2
    have : S w < 48 := by omega
    unfold mD at hd
    simp [this] at hd
theorem ct_ext {p : Nat → Bool} {a b : Nat} (hab : a ≤ b) (h : ∀ k, a ≤ k → k < b → p k = false) : fb_ct p a = fb_ct p b := by
  obtain ⟨m, rfl⟩ : ∃ m, b = a + m := ⟨b - a, by omega⟩
  rw [fb_ct_split, (fb_ct_zero (n := m)).mpr (fun k hk => h (a + k) (by omega) (by omega)), Nat.add_zero]
theorem c162 (d : Nat) {NP k0 : Nat} {E : Nat → Nat → Bool} {M : Nat → Bool} {S : Nat → Nat} {σ : pmS} (hX : mX NP E M σ.1) (hk0 : k0 ≤ NP) (hS : mT E S) (hs : ∀ p, p < NP → σ.1 10 0 35 p = enc (S p)) : ∃ τ h, pq_RD (d + 3) 162 [vR 10 0 0, vI (nI k0)] σ = some (some (vI (nI (mS M h))), τ) ∧ (∀ c o k, ¬ (c = 10 ∧ (k = 32 ∨ k = 33 ∨ k = 34)) → τ.1 c o k = σ.1 c o k) ∧ mFam E M S k0 h ∧ ∀ h', mFam E M S k0 h' → mS M h' ≤ mS M h := by
  obtain ⟨hN, x2, x3, x4, x5, hG⟩ := id hX
  obtain ⟨τ1, ⟨i1, i2⟩, hr⟩ := lp_ex (C := pq_RD (d + 2)) (S := pmS) (I := fun T τ => (∀ c o k, ¬ (c = 10 ∧ k = 32) → τ.1 c o k = σ.1 c o k) ∧ ∀ u, u < T → τ.1 10 0 32 u = enc (S u)) (fr := fun T τ => (162, 4, [some (vR 10 0 0), some (vI (nI k0)), some (vI (nI (fb_ct (fun p => M p && decide (S p < 48)) T))), some (vI (nI T))], [], τ)) (s0 := σ) ⟨fun _ _ _ _ => rfl, fun u hu => by omega⟩ (n := NP) (fun T τ hT ⟨i1, i2⟩ => by
    have eT : (nI T).toNatClampNeg = T := nI_clamp (by omega)
    have vT : vp_in (nI T) 48 := vp_in_nI (by omega) (by omega)
    have hg : ¬ τ.1 10 0 16 0 ≤ nI T := by rw [i1 10 0 16 (by omega), x2]; exact nI_ge hT (by omega)
    have e19 : τ.1 10 0 19 (nI T).toNatClampNeg = 0 ↔ M T = true := by rw [eT, i1 10 0 19 (by omega)]; exact x3 T hT
    have e35 : τ.1 10 0 35 (nI T).toNatClampNeg = enc (S T) := by rw [eT, i1 10 0 35 (by omega)]; exact hs T hT
    refine ⟨pm_wi τ 10 0 32 T (enc (S T)), ⟨fun c o k hk => ?_, fun u hu => ?_⟩, ?_⟩
    · rw [wi_k hk, i1 c o k hk]
    · rcases Nat.lt_or_ge u T with k | k
      · rw [wi_i (by omega)]
        exact i2 u k
      · have : u = T := by omega
        subst this
        exact wi_s _ _ _ _ _ _
    · have eS : ∀ b : Bool, (M T && decide (S T < 48)) = b → nI (fb_ct (fun p => M p && decide (S p < 48)) (T + 1)) = nI (fb_ct (fun p => M p && decide (S p < 48)) T) + bI b := fun b hb => by
        rw [fb_ct_succ, ← nI_add]
        show _ + nI (if (M T && decide (S T < 48)) = true then 1 else 0) = _
        rw [hb]
        cases b <;> rfl
      rw [← nI_1 T]
      cases hM : M T with
      | false =>
        have := g162_4_3 (pq_RD (d + 2)) (σ := τ) (x1 := nI k0) (x2 := nI (fb_ct (fun p => M p && decide (S p < 48)) T)) (x3 := nI T) hg vT (by rw [e19, hM]; decide)
        rw [e35, eT] at this
        rw [eS false (by rw [hM]; rfl)]
        exact this
      | true =>
        by_cases q : S T < 48
        · have := g162_4_2 (pq_RD (d + 2)) (σ := τ) (x1 := nI k0) (x2 := nI (fb_ct (fun p => M p && decide (S p < 48)) T)) (x3 := nI T) hg vT (e19.mpr hM) (by rw [e35, enc_lt]; exact fun z => z q)
          rw [e35, eT] at this
          rw [eS true (by simp [hM, q])]
          exact this
        · have := g162_4_1 (pq_RD (d + 2)) (σ := τ) (x1 := nI k0) (x2 := nI (fb_ct (fun p => M p && decide (S p < 48)) T)) (x3 := nI T) hg vT (e19.mpr hM) (by rw [e35, enc_lt]; exact q)
          rw [e35, eT] at this
          rw [eS false (by simp [q])]
          exact this)
  have e16 : ∀ {τ : pmS}, (∀ c o k, ¬ (c = 10 ∧ (k = 32 ∨ k = 33 ∨ k = 34)) → τ.1 c o k = σ.1 c o k) → τ.1 10 0 16 0 = nI NP := fun o => by rw [o 10 0 16 (by omega)]; exact x2
  have i1' : ∀ c o k, ¬ (c = 10 ∧ (k = 32 ∨ k = 33 ∨ k = 34)) → τ1.1 c o k = σ.1 c o k := fun c o k hk => i1 c o k (by omega)
  have ec : fb_ct (fun p => M p && decide (S p < 48)) NP = mS M S := ct_ext hN (fun k h1 h2 => by
    cases hq : (M k && decide (S k < 48)) with
    | false => rfl
    | true =>
      obtain ⟨-, hSk⟩ : M k = true ∧ S k < 48 := by simpa using hq
      have := (mT_NP x5 hS h2 hSk).1
      omega)
  have st := ((m162 (d + 2)).trans (g162_0_0 (pq_RD (d + 2)) (l2 := none) (l3 := none) (σ := σ) (x1 := nI k0))).trans (Eq.trans hr (g162_4_0 (pq_RD (d + 2)) (by rw [e16 i1', fa_le]; omega)))
  rw [ec] at st
  have Dl : ∀ p, p < 48 → mD M S k0 p = false → ¬ S p < 48 := fun p _ hd z => by
    unfold mD at hd
    simp [z] at hd
  obtain ⟨τ, h, R, W, ⟨o, sh, hF, hC, hlone⟩, hr2⟩ : ∃ (τ : pmS) (h : Nat → Nat) (R W : Nat → Bool), ((∀ c o k, ¬ (c = 10 ∧ (k = 32 ∨ k = 33 ∨ k = 34)) → τ.1 c o k = σ.1 c o k) ∧ (∀ p, p < NP → τ.1 10 0 32 p = enc (h p)) ∧ mFam E M S k0 h ∧ mC E M (mD M S k0) h R W NP ∧ True) ∧ pq_Rn (pq_RD (d + 2)) (162, 58, [some (vR 10 0 0), some (vI (nI k0)), some (vI (nI (mS M S))), some (vI (nI k0))], [], τ1) = pq_Rn (pq_RD (d + 2)) (162, 58, [some (vR 10 0 0), some (vI (nI k0)), some (vI (nI (mS M h))), some (vI (nI NP))], [], τ) := by
    have main : ∀ n k, k + n = NP → k0 ≤ k → ∀ (τ : pmS) (h : Nat → Nat) (R W : Nat → Bool), (∀ c o k, ¬ (c = 10 ∧ (k = 32 ∨ k = 33 ∨ k = 34)) → τ.1 c o k = σ.1 c o k) → (∀ p, p < NP → τ.1 10 0 32 p = enc (h p)) → mFam E M S k0 h → mC E M (mD M S k0) h R W k → (∀ p, p < 48 → k ≤ p → M p = true → mD M S k0 p = false → ¬ h p < 48) → ∃ (τ' : pmS) (h' : Nat → Nat) (R' W' : Nat → Bool), ((∀ c o k, ¬ (c = 10 ∧ (k = 32 ∨ k = 33 ∨ k = 34)) → τ'.1 c o k = σ.1 c o k) ∧ (∀ p, p < NP → τ'.1 10 0 32 p = enc (h' p)) ∧ mFam E M S k0 h' ∧ mC E M (mD M S k0) h' R' W' NP ∧ True) ∧ pq_Rn (pq_RD (d + 2)) (162, 58, [some (vR 10 0 0), some (vI (nI k0)), some (vI (nI (mS M h))), some (vI (nI k))], [], τ) = pq_Rn (pq_RD (d + 2)) (162, 58, [some (vR 10 0 0), some (vI (nI k0)), some (vI (nI (mS M h'))), some (vI (nI NP))], [], τ') := by
      intro n
      induction n with
      | zero =>
        intro k hk _ τ h R W o sh hF hC _
        have e : k = NP := by omega
        subst e
        exact ⟨τ, h, R, W, ⟨o, sh, hF, hC, trivial⟩, rfl⟩
      | succ n ih =>
        intro k hk hk0' τ h R W o sh hF hC hlone
        have hkN : k < NP := by omega
        have ek : (nI k).toNatClampNeg = k := nI_clamp (by omega)
        have vk : vp_in (nI k) 48 := vp_in_nI (by omega) (by omega)
        have hg : ¬ τ.1 10 0 16 0 ≤ nI k := by rw [e16 o]; exact nI_ge hkN (by omega)
        have e19 : τ.1 10 0 19 (nI k).toNatClampNeg = 0 ↔ M k = true := by rw [ek, o 10 0 19 (by omega)]; exact x3 k hkN
        have e35 : τ.1 10 0 35 (nI k).toNatClampNeg = enc (S k) := by rw [ek, o 10 0 35 (by omega)]; exact hs k hkN
        have up : mC E M (mD M S k0) h R W k → (M k = true → mD M S k0 k = false → R k = false → ¬ h k < 48 → ∀ w, E k w = false) → mC E M (mD M S k0) h R W (k + 1) := fun ⟨c1, c2⟩ hk1 => ⟨fun p hp hpk hM hD hR hh => by
          rcases Nat.lt_or_ge p k with z | z
          · exact c1 p hp z hM hD hR hh
          · have : p = k := by omega
            subst this
            exact hk1 hM hD hR hh, c2⟩
        have skip : pq_Rn (pq_RD (d + 2)) (162, 58, [some (vR 10 0 0), some (vI (nI k0)), some (vI (nI (mS M h))), some (vI (nI k))], [], τ) = pq_Rn (pq_RD (d + 2)) (162, 58, [some (vR 10 0 0), some (vI (nI k0)), some (vI (nI (mS M h))), some (vI (nI (k + 1)))], [], τ) → (M k = true → mD M S k0 k = false → R k = false → ¬ h k < 48 → ∀ w, E k w = false) → _ := fun hst hk1 => by
          have := ih (k + 1) (by omega) (by omega) τ h R W o sh hF (up hC hk1) (fun p hp hpk hM hD => hlone p hp (by omega) hM hD)
          rw [← hst] at this
          exact this
        cases hM : M k with
        | false =>
          refine skip ((g162_58_4 _ hg vk (by rw [e19, hM]; decide)).trans (by rw [nI_1])) (fun z => ?_)
          rw [hM] at z
          cases z
        | true =>
          by_cases q : S k < 48
          · refine skip ((g162_58_1 _ hg vk (e19.mpr hM) (by rw [e35, enc_le]; exact q)).trans (by rw [nI_1])) (fun _ z => ?_)
            exact absurd q (Dl k (by omega) z)
          · have hDk : mD M S k0 k = false := by
              unfold mD
              have : ¬ k < k0 := by omega
              simp [q, this]
            have hkl := hlone k (by omega) (Nat.le_refl _) hM hDk
            obtain ⟨c1, c2, c3, c4, c5⟩ := id hC
            have hX' : mX NP E M τ.1 := mX_o (fun k hk => o 10 0 k (by omega)) hX
            rcases c160 d (D := mD M S k0) (R := R) (W := W) hX' hkN hM hDk hkl hF.1 (fun w hw hwM => by
              rw [o 10 0 35 (by omega), hs w hw, enc_le]
              unfold mD
              simp [hwM]) (mFam_Dp hS hF) ⟨c2, c3, fun p hp => (c5 p hp).1⟩ sh with ⟨τ', h', kg, o', sh', hT', keep, mm⟩ | ⟨τ', Q, V, kg, o', q1, q2, q3, q4, q5⟩
            · have more := mS_more (s := k) (by omega) hM hkl mm
              have st := g162_58_3 (pq_RD (d + 2)) (l1 := some (vI (nI k0))) (σ := τ) (x2 := nI (mS M h)) (x3 := nI k) hg vk (e19.mpr hM) (by rw [e35, enc_le]; exact q) kg (by decide)
              rw [nI_1 k, nI_1 (mS M h), ← more] at st
              have r := ih (k + 1) (by omega) (by omega) τ' h' R W (fun c o2 k hk => by rw [o' c o2 k (by omega), o c o2 k (by omega)]) sh' ⟨hT', fun p hp hd => by rw [keep p hp (Or.inl hd)]; exact hF.2 p hp hd⟩ ⟨fun p hp hpk hM' hD hR hh => by
                rcases Nat.lt_or_ge p k with z | z
                · refine c1 p hp z hM' hD hR (fun y => hh ((mm p hp hM').mpr (Or.inl y)))
                · have : p = k := by omega
                  subst this
                  exact absurd ((mm p hp hM').mpr (Or.inr rfl)) hh, c2, fun w hw hww => by rw [keep w hw (Or.inr (Or.inr hww))]; exact c3 w hw hww, fun p hp hr hh => by
                rw [keep p hp (Or.inr (Or.inl hr))] at hh ⊢
                exact c4 p hp hr hh, c5⟩ (fun p hp hpk hM' hD hh => by
                rcases (mm p hp hM').mp hh with z | z
                · exact hlone p hp (by omega) hM' hD z
                · omega)
              rw [← st] at r
              exact r
            · have st := g162_58_2 (pq_RD (d + 2)) (l1 := some (vI (nI k0))) (σ := τ) (x2 := nI (mS M h)) (x3 := nI k) hg vk (e19.mpr hM) (by rw [e35, enc_le]; exact q) kg rfl
              rw [nI_1 k] at st
              have hC2 : mC E M (mD M S k0) h (fun p => R p || Q p) (fun w => W w || V w) (k + 1) := by
                refine ⟨fun p hp hpk hM' hD hR hh => ?_, fun p w hp he hd => ?_, fun w hw hww => ?_, fun p hp hr hh => ?_, fun p hp => ?_⟩
                · obtain ⟨r1, r2⟩ : R p = false ∧ Q p = false := by simpa using hR
                  rcases Nat.lt_or_ge p k with z | z
                  · exact c1 p hp z hM' hD r1 hh
                  · have e : p = k := by omega
                    rw [e, q1] at r2
                    cases r2
                · have hp : R p = true ∨ Q p = true := by simpa using hp
                  show (W w || V w) = true
                  rcases hp with z | z
                  · simp [c2 p w z he hd]
                  · simp [q2 p w z he hd]
                · have hww : W w = true ∨ V w = true := by simpa using hww
                  show h w < 48 ∧ (R (h w) || Q (h w)) = true ∧ mD M S k0 w = false ∧ M w = false
                  rcases hww with z | z
                  · obtain ⟨k1, k2, k3⟩ := c3 w hw z
                    exact ⟨k1, by simp [k2], k3⟩
                  · obtain ⟨k1, k2, k3⟩ := q3 w hw z
                    exact ⟨k1, by simp [k2], k3⟩
                · have hr : R p = true ∨ Q p = true := by simpa using hr
                  show (W (h p) || V (h p)) = true
                  rcases hr with z | z
                  · simp [c4 p hp z hh]
                  · simp [q4 p hp z hh]
                · have hp : R p = true ∨ Q p = true := by simpa using hp
                  rcases hp with z | z
                  · exact c5 p z
                  · exact q5 p z
              have r := ih (k + 1) (by omega) (by omega) τ' h (fun p => R p || Q p) (fun w => W w || V w) (fun c o2 k hk => by rw [o' c o2 k (by omega), o c o2 k (by omega)]) (fun p hp => by rw [o' 10 0 32 (by omega)]; exact sh p hp) hF hC2 (fun p hp hpk hM' hD => hlone p hp (by omega) hM' hD)
              rw [← st] at r
              exact r
    exact main (NP - k0) k0 (by omega) (Nat.le_refl _) τ1 S (fun _ => false) (fun _ => false) i1' i2 ⟨hS, fun _ _ _ => rfl⟩ ⟨fun p hp hpk hM hD _ _ => by
      exfalso
      unfold mD at hD
      simp [hM, hpk] at hD, fun p w hp => (by cases hp), fun w _ hw => (by cases hw), fun p _ hp => (by cases hp), fun p hp => (by cases hp)⟩ (fun p hp _ _ hD => Dl p hp hD)
  refine ⟨τ, h, st.trans (Eq.trans hr2 (g162_58_0 _ (by rw [e16 o, fa_le]; omega))), o, hF, fun h' hF' => ?_⟩
  obtain ⟨c1, c2⟩ := hC
  refine mC_max hG hF.1 (R := R) (W := W) ⟨fun p hp _ hM hD hR hh w => ?_, c2⟩ hF'.1 (fun p hp hd => by rw [hF'.2 p hp hd, hF.2 p hp hd])
  rcases Nat.lt_or_ge p NP with z | z
  · exact c1 p hp z hM hD hR hh w
  · cases he : E p w with
    | false => rfl
    | true =>
      have := (x5 _ _ he).1
      omega
