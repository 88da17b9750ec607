/-! match: the ring that lacks -/
def lk (E : Nat → Nat → Bool) (M : Nat → Bool) (h : Nat → Nat) (F : Nat → Bool) : Prop := (∀ p w, M p = true → ¬ h p < 48 → E p w = true → F p = true) ∧ ∀ p w, F p = true → E p w = true → h w < 48 → F (h w) = true
/-- what both have found: closed, and no more than that -/
def lkM (E : Nat → Nat → Bool) (M : Nat → Bool) (h : Nat → Nat) (F : Nat → Bool) : Prop := lk E M h F ∧ ∀ F', lk E M h F' → ∀ p, F p = true → F' p = true
theorem lk_eq {E : Nat → Nat → Bool} {M : Nat → Bool} {h : Nat → Nat} {F G : Nat → Bool} (hF : lkM E M h F) (hG : lkM E M h G) (p : Nat) : F p = G p := by
  cases h1 : F p with
  | true => exact (hF.2 G hG.1 p h1).symm
  | false =>
    cases h2 : G p with
    | false => rfl
    | true =>
      have := hG.2 F hF.1 p h2
      rw [h1] at this
      cases this
theorem lk_men {E : Nat → Nat → Bool} {M : Nat → Bool} {h : Nat → Nat} {F : Nat → Bool} (hG : mG E M) (hT : mT E h) (hF : ∀ F', lk E M h F' → ∀ p, F p = true → F' p = true) {p : Nat} (hp : F p = true) : M p = true ∧ p < 48 := by
  have := hF (fun p => M p && decide (p < 48)) ⟨fun p w hm _ he => by
    show (M p && decide (p < 48)) = true
    have := (hG _ _ he).1
    simp [hm, this], fun p w _ he hh => by
    show (M (h w) && decide (h w < 48)) = true
    obtain ⟨-, hw, -, wM⟩ := hG _ _ he
    have := (mT_w hG hT hw wM hh).2.2
    simp [this, hh]⟩ p hp
  simpa using this
/-- some woman whom m may marry -/
def mAny (E : Nat → Nat → Bool) (m : Nat) : Nat → Bool
  | 0 => false
  | k + 1 => mAny E m k || E m k
theorem mAny_t {E : Nat → Nat → Bool} {m : Nat} : ∀ {n : Nat}, mAny E m n = true ↔ ∃ w, w < n ∧ E m w = true
  | 0 => ⟨fun h => (by cases h), fun ⟨w, hw, _⟩ => by omega⟩
  | n + 1 => by
    rw [mAny, Bool.or_eq_true, mAny_t]
    constructor
    · rintro (⟨w, hw, e⟩ | e)
      · exact ⟨w, by omega, e⟩
      · exact ⟨n, by omega, e⟩
    · rintro ⟨w, hw, e⟩
      rcases Nat.lt_or_ge w n with q | q
      · exact Or.inl ⟨w, q, e⟩
      · have : w = n := by omega
        subst this
        exact Or.inr e
/-- some man of F who may marry w -/
def mWant (E : Nat → Nat → Bool) (F : Nat → Bool) (w : Nat) : Nat → Bool
  | 0 => false
  | k + 1 => mWant E F w k || (F k && E k w)
theorem mWant_t {E : Nat → Nat → Bool} {F : Nat → Bool} {w : Nat} : ∀ {n : Nat}, mWant E F w n = true ↔ ∃ m, m < n ∧ F m = true ∧ E m w = true
  | 0 => ⟨fun h => (by cases h), fun ⟨w, hw, _⟩ => by omega⟩
  | n + 1 => by
    rw [mWant, Bool.or_eq_true, mWant_t, Bool.and_eq_true]
    constructor
    · rintro (⟨w, hw, e⟩ | e)
      · exact ⟨w, by omega, e⟩
      · exact ⟨n, by omega, e⟩
    · rintro ⟨w, hw, e⟩
      rcases Nat.lt_or_ge w n with q | q
      · exact Or.inl ⟨w, q, e⟩
      · have : w = n := by omega
        subst this
        exact Or.inr e
theorem mays_rd {NP : Nat} {E : Nat → Nat → Bool} {M : Nat → Bool} {f : pmI} (hX : mX NP E M f) {m w : Nat} (hm : m < NP) (hw : w < NP) : vp_in ((48 : Int32) * nI m + nI w) 2304 ∧ f 10 0 31 ((48 : Int32) * nI m + nI w).toNatClampNeg = bI (E m w) := by
  have hN := hX.1
  have eix : (48 : Int32) * nI m + nI w = nI (48 * m + w) := by
    show nI 48 * nI m + nI w = _
    rw [pk_mul, nI_add]
  rw [eix, nI_clamp (by omega)]
  exact ⟨vp_in_nI (by omega) (by omega), hX.2.2.2.1 m w hm hw⟩
theorem c165 (d : Nat) {NP m : Nat} {E : Nat → Nat → Bool} {M : Nat → Bool} {σ : pmS} (hX : mX NP E M σ.1) (hm : m < NP) : pq_RD (d + 1) 165 [vR 10 0 0, vI (nI m)] σ = some (some (vI (bI (mAny E m NP))), σ) := by
  have hN := hX.1
  have x2 := hX.2.1
  refine (m165 d).trans ((g165_0_0 _).trans ?_)
  refine (lp_n (C := pq_RD d) (fr := fun k => (165, 4, [some (vR 10 0 0), some (vI (nI m)), some (vI (bI (mAny E m k))), some (vI (nI k))], [], σ)) (n := NP) (fun k hk => ?_)).trans ?_
  · obtain ⟨v, e⟩ := mays_rd hX hm hk
    have hg : ¬ σ.1 10 0 16 0 ≤ nI k := by rw [x2]; exact nI_ge hk (by omega)
    rw [mAny, ← nI_1 k]
    cases hA : mAny E m k with
    | true => exact g165_4_3 _ hg (by decide)
    | false =>
      cases hE : E m k with
      | false =>
        rw [hE] at e
        exact g165_4_1 _ hg rfl v e
      | true =>
        rw [hE] at e
        exact g165_4_2 _ hg rfl v (by rw [e]; decide)
  · exact g165_4_0 _ (by rw [x2, fa_le]; omega) (bI_01 _)
/-- the store in findLack -/
def lY (NP : Nat) (F : Nat → Bool) (σ τ : pmS) : Prop := (∀ c o k, ¬ (c = 10 ∧ k = 39) → τ.1 c o k = σ.1 c o k) ∧ ∀ p, p < NP → τ.1 10 0 39 p = bI (F p)
def lSnd (NP : Nat) (E : Nat → Nat → Bool) (M : Nat → Bool) (h : Nat → Nat) (F : Nat → Bool) : Prop := (∀ F', lk E M h F' → ∀ p, F p = true → F' p = true) ∧ (∀ p w, M p = true → ¬ h p < 48 → E p w = true → F p = true) ∧ ∀ p, F p = true → p < NP
theorem c166p (C : pmC) {NP : Nat} {E : Nat → Nat → Bool} {M : Nat → Bool} {h : Nat → Nat} {σ : pmS} (hX : mX NP E M σ.1) (hT : mT E h) (hs : ∀ p, p < 48 → σ.1 10 0 38 p = enc (h p)) {F0 : Nat → Bool} (h0 : lSnd NP E M h F0) {l4 : Option pmV} {τ0 : pmS} (hY0 : lY NP F0 σ τ0) {l3 : Option pmV} : ∃ (τ : pmS) (F : Nat → Bool) (b : Bool) (l3' : Option pmV), pq_Rn C (166, 63, [some (vR 10 0 0), some (vI 0), some (vI 0), l3, l4], [], τ0) = pq_Rn C (166, 55, [some (vR 10 0 0), some (vI (bI b)), some (vI (nI NP)), l3', l4], [], τ) ∧ lY NP F σ τ ∧ lSnd NP E M h F ∧ (b = false → F = F0 ∧ ∀ m w, F0 m = true → E m w = true → h w < 48 → F0 (h w) = true) ∧ (b = true → fb_ct F0 48 < fb_ct F 48) := by
  obtain ⟨hN, x2, x3, x4, x5, hG⟩ := id hX
  have e16 : ∀ {τ : pmS} {F : Nat → Bool}, lY NP F σ τ → τ.1 10 0 16 0 = nI NP := fun hY => by rw [hY.1 10 0 16 (by omega)]; exact x2
  -- one woman
  have one : ∀ (m w : Nat) (τ : pmS) (F : Nat → Bool) (b : Bool), m < NP → w < NP → lY NP F σ τ → lSnd NP E M h F → ∃ (τ' : pmS) (F' : Nat → Bool) (b' : Bool), pq_Rn C (166, 73, [some (vR 10 0 0), some (vI (bI b)), some (vI (nI m)), some (vI (nI w)), l4], [], τ) = pq_Rn C (166, 73, [some (vR 10 0 0), some (vI (bI b')), some (vI (nI m)), some (vI (nI (w + 1))), l4], [], τ') ∧ lY NP F' σ τ' ∧ lSnd NP E M h F' ∧ ((b' = b ∧ F' = F ∧ (F m = true → E m w = true → h w < 48 → F (h w) = true)) ∨ (b' = true ∧ fb_ct F' 48 = fb_ct F 48 + 1)) := fun m w τ F b hm hw hY hF => by
    have hg : ¬ τ.1 10 0 16 0 ≤ nI w := by rw [e16 hY]; exact nI_ge hw (by omega)
    have em : (nI m).toNatClampNeg = m := nI_clamp (by omega)
    have ew : (nI w).toNatClampNeg = w := nI_clamp (by omega)
    have vm : vp_in (nI m) 48 := vp_in_nI (by omega) (by omega)
    have vw : vp_in (nI w) 48 := vp_in_nI (by omega) (by omega)
    have e39 : τ.1 10 0 39 (nI m).toNatClampNeg = bI (F m) := by rw [em]; exact hY.2 m hm
    have e19 : τ.1 10 0 19 (nI m).toNatClampNeg = 0 ↔ M m = true := by rw [em, hY.1 10 0 19 (by omega)]; exact x3 m hm
    obtain ⟨vix, rd⟩ := mays_rd (mX_o (g := τ.1) (fun k hk => hY.1 10 0 k (by omega)) hX) hm hw
    rw [← nI_1 w]
    cases hFm : F m with
    | false =>
      rw [hFm] at e39
      exact ⟨τ, F, b, g166_73_1 _ hg vm e39, hY, hF, Or.inl ⟨rfl, rfl, fun z => (by cases z)⟩⟩
    | true =>
      rw [hFm] at e39
      have f39 : ¬ τ.1 10 0 39 (nI m).toNatClampNeg = 0 := by rw [e39]; decide
      cases hM : M m with
      | false =>
        refine ⟨τ, F, b, g166_73_6 _ hg vm f39 (by rw [e19, hM]; decide), hY, hF, Or.inl ⟨rfl, rfl, fun _ z => ?_⟩⟩
        have := (hG _ _ z).2.2.1
        rw [hM] at this
        cases this
      | true =>
        cases hE : E m w with
        | false =>
          rw [hE] at rd
          exact ⟨τ, F, b, g166_73_2 _ hg vm f39 (e19.mpr hM) vix rd, hY, hF, Or.inl ⟨rfl, rfl, fun _ z => (by cases z)⟩⟩
        | true =>
          rw [hE] at rd
          have rd1 : ¬ τ.1 10 0 31 ((48 : Int32) * nI m + nI w).toNatClampNeg = 0 := by rw [rd]; decide
          have e38 : τ.1 10 0 38 (nI w).toNatClampNeg = enc (h w) := by rw [ew, hY.1 10 0 38 (by omega)]; exact hs w (by omega)
          rcases Classical.em (h w < 48) with hh | hh
          · have hwM := (hG _ _ hE).2.2.2
            have hhN : h w < NP := (mT_NP x5 hT (by omega) hh).2
            have n38 : ¬ τ.1 10 0 38 (nI w).toNatClampNeg < 0 := by rw [e38, enc_lt]; exact fun z => z hh
            have v38 : vp_in (τ.1 10 0 38 (nI w).toNatClampNeg) 48 := by rw [e38, enc_y hh]; exact vp_in_nI hh (by omega)
            have e39w : τ.1 10 0 39 (τ.1 10 0 38 (nI w).toNatClampNeg).toNatClampNeg = bI (F (h w)) := by rw [e38, enc_y hh, nI_clamp (by omega)]; exact hY.2 _ hhN
            cases hFw : F (h w) with
            | true =>
              rw [hFw] at e39w
              exact ⟨τ, F, b, g166_73_5 _ hg vm f39 (e19.mpr hM) vix rd1 vw n38 v38 (by rw [e39w]; decide), hY, hF, Or.inl ⟨rfl, rfl, fun _ _ _ => rfl⟩⟩
            | false =>
              rw [hFw] at e39w
              have st := g166_73_4 C (l4 := l4) (σ := τ) (x1 := bI b) (x2 := nI m) (x3 := nI w) hg vm f39 (e19.mpr hM) vix rd1 vw n38 v38 e39w
              rw [e38, enc_y hh, nI_clamp (by omega : h w < 2 ^ 31)] at st
              refine ⟨_, fun p => if p = h w then true else F p, true, st, ⟨fun c o k hk => by rw [wi_k hk]; exact hY.1 c o k hk, fun p hp => ?_⟩, ⟨fun F' hF' p hp => ?_, fun p w' h1 h2 h3 => ?_, fun p hp => ?_⟩, Or.inr ⟨rfl, ?_⟩⟩
              · show _ = bI (if p = h w then true else F p)
                by_cases q : p = h w
                · rw [if_pos q, q, wi_s]
                  rfl
                · rw [if_neg q, wi_i q]
                  exact hY.2 p hp
              · have hp : (if p = h w then true else F p) = true := hp
                by_cases q : p = h w
                · rw [q]
                  exact hF'.2 m w (hF.1 F' hF' m hFm) hE hh
                · rw [if_neg q] at hp
                  exact hF.1 F' hF' p hp
              · show (if p = h w then true else F p) = true
                by_cases q : p = h w
                · rw [if_pos q]
                · rw [if_neg q]
                  exact hF.2.1 p w' h1 h2 h3
              · have hp : (if p = h w then true else F p) = true := hp
                by_cases q : p = h w
                · rw [q]
                  exact hhN
                · rw [if_neg q] at hp
                  exact hF.2.2 p hp
              · have u := fb_ct_upd F true (i := h w) (n := 48) hh
                rw [hFw] at u
                simpa using u
          · exact ⟨τ, F, b, g166_73_3 _ hg vm f39 (e19.mpr hM) vix rd1 vw (by rw [e38, enc_lt]; exact hh), hY, hF, Or.inl ⟨rfl, rfl, fun _ _ z => absurd z hh⟩⟩
  -- one man
  have row : ∀ (m : Nat) (τ : pmS) (F : Nat → Bool) (b : Bool) (l3 : Option pmV), m < NP → lY NP F σ τ → lSnd NP E M h F → ∃ (τ' : pmS) (F' : Nat → Bool) (b' : Bool) (l3' : Option pmV), pq_Rn C (166, 63, [some (vR 10 0 0), some (vI (bI b)), some (vI (nI m)), l3, l4], [], τ) = pq_Rn C (166, 63, [some (vR 10 0 0), some (vI (bI b')), some (vI (nI (m + 1))), l3', l4], [], τ') ∧ lY NP F' σ τ' ∧ lSnd NP E M h F' ∧ ((b' = b ∧ F' = F ∧ ∀ w, F m = true → E m w = true → h w < 48 → F (h w) = true) ∨ (b' = true ∧ fb_ct F 48 < fb_ct F' 48)) := fun m τ F b l3 hm hY hF => by
    obtain ⟨⟨τ', F', b'⟩, ⟨r1, r2, r3⟩, hr⟩ := lp_ex (C := C) (S := pmS × (Nat → Bool) × Bool) (I := fun w s => lY NP s.2.1 σ s.1 ∧ lSnd NP E M h s.2.1 ∧ ((s.2.2 = b ∧ s.2.1 = F ∧ ∀ v, v < w → F m = true → E m v = true → h v < 48 → F (h v) = true) ∨ (s.2.2 = true ∧ fb_ct F 48 < fb_ct s.2.1 48))) (fr := fun w s => (166, 73, [some (vR 10 0 0), some (vI (bI s.2.2)), some (vI (nI m)), some (vI (nI w)), l4], [], s.1)) (s0 := (τ, F, b)) ⟨hY, hF, Or.inl ⟨rfl, rfl, fun v hv => by omega⟩⟩ (n := NP) (fun w s hw ⟨r1, r2, r3⟩ => by
      obtain ⟨τ1, F1, b1⟩ := s
      obtain ⟨τ2, F2, b2, k, y, sn, cs⟩ := one m w τ1 F1 b1 hm hw r1 r2
      refine ⟨(τ2, F2, b2), ⟨y, sn, ?_⟩, k⟩
      rcases r3 with ⟨e1, e2, e3⟩ | ⟨e1, e2⟩
      · have e1 : b1 = b := e1
        have e2 : F1 = F := e2
        subst e1 e2
        rcases cs with ⟨d1, d2, d3⟩ | ⟨d1, d2⟩
        · refine Or.inl ⟨d1, d2, fun v hv => ?_⟩
          rcases Nat.lt_or_ge v w with z | z
          · exact e3 v z
          · have : v = w := by omega
            subst this
            exact d3
        · exact Or.inr ⟨d1, by show fb_ct F1 48 < fb_ct F2 48; omega⟩
      · have e1 : b1 = true := e1
        have e2 : fb_ct F 48 < fb_ct F1 48 := e2
        rcases cs with ⟨d1, d2, d3⟩ | ⟨d1, d2⟩
        · exact Or.inr ⟨d1.trans e1, by show fb_ct F 48 < fb_ct F2 48; rw [d2]; exact e2⟩
        · exact Or.inr ⟨d1, by show fb_ct F 48 < fb_ct F2 48; omega⟩)
    have r1 : lY NP F' σ τ' := r1
    refine ⟨τ', F', b', some (vI (nI NP)), (g166_63_1 _ (by rw [e16 hY]; exact nI_ge hm (by omega))).trans (Eq.trans hr ((g166_73_0 _ (by rw [e16 r1, fa_le]; omega)).trans (by rw [nI_1]))), r1, r2, ?_⟩
    rcases r3 with ⟨e1, e2, e3⟩ | e
    · exact Or.inl ⟨e1, e2, fun w h1 h2 h3 => e3 w (x5 _ _ h2).2 h1 h2 h3⟩
    · exact Or.inr e
  obtain ⟨⟨τ, F, b, l3'⟩, ⟨r1, r2, r3⟩, hr⟩ := lp_ex (C := C) (S := pmS × (Nat → Bool) × Bool × Option pmV) (I := fun m s => lY NP s.2.1 σ s.1 ∧ lSnd NP E M h s.2.1 ∧ ((s.2.2.1 = false ∧ s.2.1 = F0 ∧ ∀ v w, v < m → F0 v = true → E v w = true → h w < 48 → F0 (h w) = true) ∨ (s.2.2.1 = true ∧ fb_ct F0 48 < fb_ct s.2.1 48))) (fr := fun m s => (166, 63, [some (vR 10 0 0), some (vI (bI s.2.2.1)), some (vI (nI m)), s.2.2.2, l4], [], s.1)) (s0 := (τ0, F0, false, l3)) ⟨hY0, h0, Or.inl ⟨rfl, rfl, fun v w hv => by omega⟩⟩ (n := NP) (fun m s hm ⟨r1, r2, r3⟩ => by
    obtain ⟨τ1, F1, b1, l⟩ := s
    obtain ⟨τ2, F2, b2, l', k, y, sn, cs⟩ := row m τ1 F1 b1 l hm r1 r2
    refine ⟨(τ2, F2, b2, l'), ⟨y, sn, ?_⟩, k⟩
    rcases r3 with ⟨e1, e2, e3⟩ | ⟨e1, e2⟩
    · have e1 : b1 = false := e1
      have e2 : F1 = F0 := e2
      subst e1 e2
      rcases cs with ⟨d1, d2, d3⟩ | ⟨d1, d2⟩
      · refine Or.inl ⟨d1, d2, fun v w hv => ?_⟩
        rcases Nat.lt_or_ge v m with z | z
        · exact e3 v w z
        · have : v = m := by omega
          subst this
          exact d3 w
      · exact Or.inr ⟨d1, d2⟩
    · have e1 : b1 = true := e1
      have e2 : fb_ct F0 48 < fb_ct F1 48 := e2
      rcases cs with ⟨d1, d2, d3⟩ | ⟨d1, d2⟩
      · exact Or.inr ⟨d1.trans e1, by show fb_ct F0 48 < fb_ct F2 48; rw [d2]; exact e2⟩
      · exact Or.inr ⟨d1, by show fb_ct F0 48 < fb_ct F2 48; omega⟩)
  have r1 : lY NP F σ τ := r1
  refine ⟨τ, F, b, l3', Eq.trans hr (g166_63_0 _ (by rw [e16 r1, fa_le]; omega)), r1, r2, fun hb => ?_, fun hb => ?_⟩
  · rcases r3 with ⟨e1, e2, e3⟩ | ⟨e1, e2⟩
    · exact ⟨e2, fun m w h1 h2 h3 => e3 m w (x5 _ _ h2).1 h1 h2 h3⟩
    · have e1 : b = true := e1
      rw [hb] at e1
      cases e1
  · rcases r3 with ⟨e1, e2, e3⟩ | ⟨e1, e2⟩
    · have e1 : b = false := e1
      rw [hb] at e1
      cases e1
    · exact e2
theorem c166f (C : pmC) {NP : Nat} {E : Nat → Nat → Bool} {M : Nat → Bool} {h : Nat → Nat} {σ : pmS} (hX : mX NP E M σ.1) (hT : mT E h) (hs : ∀ p, p < 48 → σ.1 10 0 38 p = enc (h p)) {l4 : Option pmV} : ∀ (n : Nat) (F0 : Nat → Bool) (τ0 : pmS) (l2 l3 : Option pmV), 48 - fb_ct F0 48 ≤ n → lSnd NP E M h F0 → lY NP F0 σ τ0 → ∃ (τ : pmS) (F : Nat → Bool) (l2' l3' : Option pmV), pq_Rn C (166, 55, [some (vR 10 0 0), some (vI 1), l2, l3, l4], [], τ0) = pq_Rn C (166, 55, [some (vR 10 0 0), some (vI 0), l2', l3', l4], [], τ) ∧ lY NP F σ τ ∧ lkM E M h F := by
  have last : ∀ {F0 : Nat → Bool}, lSnd NP E M h F0 → (∀ m w, F0 m = true → E m w = true → h w < 48 → F0 (h w) = true) → lkM E M h F0 := fun h0 hc => ⟨⟨h0.2.1, hc⟩, h0.1⟩
  intro n
  induction n with
  | zero =>
    intro F0 τ0 l2 l3 hn h0 hY0
    have h48 := fb_ct_le F0 48
    obtain ⟨τ, F, b, l3', k, y, sn, c1, c2⟩ := c166p C hX hT hs h0 (l4 := l4) hY0 (l3 := l3)
    have st := (g166_55_1 C (l2 := l2) (by decide : ¬ (1 : Int32) = 0)).trans k
    cases b with
    | false =>
      obtain ⟨e, hc⟩ := c1 rfl
      subst e
      exact ⟨τ, F, _, _, st, y, last h0 hc⟩
    | true =>
      have := c2 rfl
      have := fb_ct_le F 48
      omega
  | succ n ih =>
    intro F0 τ0 l2 l3 hn h0 hY0
    have h48 := fb_ct_le F0 48
    obtain ⟨τ, F, b, l3', k, y, sn, c1, c2⟩ := c166p C hX hT hs h0 (l4 := l4) hY0 (l3 := l3)
    have st := (g166_55_1 C (l2 := l2) (by decide : ¬ (1 : Int32) = 0)).trans k
    cases b with
    | false =>
      obtain ⟨e, hc⟩ := c1 rfl
      subst e
      exact ⟨τ, F, _, _, st, y, last h0 hc⟩
    | true =>
      have h1 := c2 rfl
      have h2 := fb_ct_le F 48
      obtain ⟨τ', F', a, b, k', r⟩ := ih F τ (some (vI (nI NP))) l3' (by omega) sn y
      exact ⟨τ', F', a, b, st.trans k', r⟩
theorem c166 (d : Nat) {NP : Nat} {E : Nat → Nat → Bool} {M : Nat → Bool} {h : Nat → Nat} {σ : pmS} (hX : mX NP E M σ.1) (hT : mT E h) (hs : ∀ p, p < 48 → σ.1 10 0 38 p = enc (h p)) : ∃ τ F, pq_RD (d + 2) 166 [vR 10 0 0] σ = some (none, τ) ∧ (∀ c o k, ¬ (c = 10 ∧ (k = 36 ∨ k = 37 ∨ k = 39)) → τ.1 c o k = σ.1 c o k) ∧ lkM E M h F ∧ τ.1 10 0 36 0 = nI (fb_ct F 48) ∧ τ.1 10 0 37 0 = nI (fb_ct (fun w => mWant E F w 48) 48) := by
  obtain ⟨hN, x2, x3, x4, x5, hG⟩ := id hX
  -- the lone men
  obtain ⟨τ1, ⟨i1, i2⟩, hr⟩ := lp_ex (C := pq_RD (d + 1)) (S := pmS) (I := fun T τ => (∀ c o k, ¬ (c = 10 ∧ k = 39) → τ.1 c o k = σ.1 c o k) ∧ ∀ p, p < T → τ.1 10 0 39 p = bI (M p && (!decide (h p < 48) && mAny E p NP))) (fr := fun T τ => (166, 2, [some (vR 10 0 0), some (vI (nI T)), none, none, none], [], τ)) (s0 := σ) ⟨fun _ _ _ _ => rfl, fun u hu => by omega⟩ (n := NP) (fun T τ hT' ⟨i1, i2⟩ => by
    have eT : (nI T).toNatClampNeg = T := nI_clamp (by omega)
    have vT : vp_in (nI T) 48 := vp_in_nI (by omega) (by omega)
    have hg : ¬ τ.1 10 0 16 0 ≤ nI T := by rw [i1 10 0 16 (by omega), x2]; exact nI_ge hT' (by omega)
    have e19 : τ.1 10 0 19 (nI T).toNatClampNeg = 0 ↔ M T = true := by rw [eT, i1 10 0 19 (by omega)]; exact x3 T hT'
    have e38 : τ.1 10 0 38 (nI T).toNatClampNeg = enc (h T) := by rw [eT, i1 10 0 38 (by omega)]; exact hs T (by omega)
    have put : ∀ b : Bool, (M T && (!decide (h T < 48) && mAny E T NP)) = b → pq_Rn (pq_RD (d + 1)) (166, 2, [some (vR 10 0 0), some (vI (nI T)), none, none, none], [], τ) = pq_Rn (pq_RD (d + 1)) (166, 2, [some (vR 10 0 0), some (vI (nI T + 1)), none, none, none], [], pm_wi τ 10 0 39 (nI T).toNatClampNeg (bI b)) → ∃ s', ((∀ c o k, ¬ (c = 10 ∧ k = 39) → s'.1 c o k = σ.1 c o k) ∧ ∀ p, p < T + 1 → s'.1 10 0 39 p = bI (M p && (!decide (h p < 48) && mAny E p NP))) ∧ pq_Rn (pq_RD (d + 1)) (166, 2, [some (vR 10 0 0), some (vI (nI T)), none, none, none], [], τ) = pq_Rn (pq_RD (d + 1)) (166, 2, [some (vR 10 0 0), some (vI (nI (T + 1))), none, none, none], [], s') := fun b hb hst => by
      rw [eT, nI_1] at hst
      refine ⟨_, ⟨fun c o k hk => by rw [wi_k hk, i1 c o k hk], fun p hp => ?_⟩, hst⟩
      rcases Nat.lt_or_ge p T with z | z
      · rw [wi_i (by omega)]
        exact i2 p z
      · have : p = T := by omega
        subst this
        rw [wi_s, hb]
    cases hM : M T with
    | false => exact put false (by rw [hM]; rfl) (g166_2_4 _ hg vT (by rw [e19, hM]; decide))
    | true =>
      rcases Classical.em (h T < 48) with hh | hh
      · exact put false (by simp [hh]) (g166_2_1 _ hg vT (e19.mpr hM) (by rw [e38, enc_le]; exact hh))
      · have k165 := c165 d (m := T) (mX_o (g := τ.1) (fun k hk => i1 10 0 k (by omega)) hX) hT'
        cases hA : mAny E T NP with
        | false =>
          rw [hA] at k165
          exact put false (by simp [hA]) (g166_2_2 _ hg vT (e19.mpr hM) (by rw [e38, enc_le]; exact hh) k165 rfl)
        | true =>
          rw [hA] at k165
          exact put true (by simp [hM, hh, hA]) (g166_2_3 _ hg vT (e19.mpr hM) (by rw [e38, enc_le]; exact hh) k165 (by decide)))
  have st := ((m166 (d + 1)).trans (g166_0_0 (pq_RD (d + 1)) (l1 := none) (l2 := none) (l3 := none) (l4 := none) (σ := σ))).trans (Eq.trans hr (g166_2_0 (pq_RD (d + 1)) (by rw [i1 10 0 16 (by omega), x2, fa_le]; omega)))
  obtain ⟨τ2, F, l2, l3, kf, hY, hL⟩ := c166f (pq_RD (d + 1)) hX hT hs (l4 := none) 48 (fun p => M p && (!decide (h p < 48) && mAny E p NP)) τ1 none none (by omega) ⟨fun F' hF' p hp => by
      have hp : M p = true ∧ ¬ h p < 48 ∧ mAny E p NP = true := by simpa using hp
      obtain ⟨w, -, he⟩ := mAny_t.mp hp.2.2
      exact hF'.1 p w hp.1 hp.2.1 he, fun p w h1 h2 h3 => by
      show (M p && (!decide (h p < 48) && mAny E p NP)) = true
      have : mAny E p NP = true := mAny_t.mpr ⟨w, (x5 _ _ h3).2, h3⟩
      simp [h1, h2, this], fun p hp => by
      have hp : M p = true ∧ ¬ h p < 48 ∧ mAny E p NP = true := by simpa using hp
      obtain ⟨w, -, he⟩ := mAny_t.mp hp.2.2
      exact (x5 _ _ he).1⟩ ⟨i1, i2⟩
  have st := st.trans (kf.trans (g166_55_0 (pq_RD (d + 1)) rfl))
  have FN : ∀ p, F p = true → p < NP := fun p hp => by
    have := hL.2 (fun p => M p && decide (p < NP)) ⟨fun p w hm _ he => by
      show (M p && decide (p < NP)) = true
      have := (x5 _ _ he).1
      simp [hm, this], fun p w _ he hh => by
      show (M (h w) && decide (h w < NP)) = true
      obtain ⟨-, hw, -, wM⟩ := hG _ _ he
      have a1 := (mT_w hG hT hw wM hh).2.2
      have a2 := (mT_NP x5 hT hw hh).2
      simp [a1, a2]⟩ p hp
    have : M p = true ∧ p < NP := by simpa using this
    exact this.2
  generalize e3 : pm_wi (pm_wi τ2 10 0 36 0 0) 10 0 37 0 0 = τ3 at st
  have o3 : ∀ c o k, ¬ (c = 10 ∧ (k = 36 ∨ k = 37)) → τ3.1 c o k = τ2.1 c o k := fun c o k hk => by rw [← e3, wi_k (by omega), wi_k (by omega)]
  obtain ⟨⟨τ, l3', l4'⟩, ⟨j1, j2, j3⟩, hr2⟩ := lp_ex (C := pq_RD (d + 1)) (S := pmS × Option pmV × Option pmV) (I := fun T s => (∀ c o k, ¬ (c = 10 ∧ (k = 36 ∨ k = 37)) → s.1.1 c o k = τ2.1 c o k) ∧ s.1.1 10 0 36 0 = nI (fb_ct (fun p => M p && F p) T) ∧ s.1.1 10 0 37 0 = nI (fb_ct (fun w => mWant E F w NP) T)) (fr := fun T s => (166, 180, [some (vR 10 0 0), some (vI 0), some (vI (nI T)), s.2.1, s.2.2], [], s.1)) (s0 := (τ3, l3, none)) ⟨o3, by rw [← e3, wi_k (by omega)]; exact wi_s _ _ _ _ _ _, by rw [← e3]; exact wi_s _ _ _ _ _ _⟩ (n := NP) (fun T s hT' ⟨j1, j2, j3⟩ => by
    obtain ⟨τ, a3, a4⟩ := s
    have j1 : ∀ c o k, ¬ (c = 10 ∧ (k = 36 ∨ k = 37)) → τ.1 c o k = τ2.1 c o k := j1
    have j2 : τ.1 10 0 36 0 = nI (fb_ct (fun p => M p && F p) T) := j2
    have j3 : τ.1 10 0 37 0 = nI (fb_ct (fun w => mWant E F w NP) T) := j3
    have eT : (nI T).toNatClampNeg = T := nI_clamp (by omega)
    have vT : vp_in (nI T) 48 := vp_in_nI (by omega) (by omega)
    have ob : ∀ c o k, ¬ (c = 10 ∧ (k = 36 ∨ k = 37 ∨ k = 39)) → τ.1 c o k = σ.1 c o k := fun c o k hk => by rw [j1 c o k (by omega), hY.1 c o k (by omega)]
    have hg : ¬ τ.1 10 0 16 0 ≤ nI T := by rw [ob 10 0 16 (by omega), x2]; exact nI_ge hT' (by omega)
    have e19 : τ.1 10 0 19 (nI T).toNatClampNeg = 0 ↔ M T = true := by rw [eT, ob 10 0 19 (by omega)]; exact x3 T hT'
    have e39 : τ.1 10 0 39 (nI T).toNatClampNeg = bI (F T) := by rw [eT, j1 10 0 39 (by omega)]; exact hY.2 T hT'
    have s1 : pq_Rn (pq_RD (d + 1)) (166, 180, [some (vR 10 0 0), some (vI 0), some (vI (nI T)), a3, a4], [], τ) = pq_Rn (pq_RD (d + 1)) (166, 225, [some (vR 10 0 0), some (vI 0), some (vI (nI T)), some (vI 0), some (vI 0)], [], pm_wi τ 10 0 36 0 (nI (fb_ct (fun p => M p && F p) (T + 1)))) := by
      have eS : ∀ b : Bool, (M T && F T) = b → nI (fb_ct (fun p => M p && F p) (T + 1)) = nI (fb_ct (fun p => M p && F p) T) + bI b := fun b hb => by
        rw [fb_ct_succ, ← nI_add]
        show _ + nI (if (M T && F T) = true then 1 else 0) = _
        rw [hb]
        cases b <;> rfl
      cases hM : M T with
      | false =>
        rw [eS false (by rw [hM]; rfl), ← j2]
        exact g166_180_3 _ hg vT (by rw [e19, hM]; decide)
      | true =>
        cases hFT : F T with
        | false =>
          rw [hFT] at e39
          rw [eS false (by rw [hFT, Bool.and_false]), ← j2]
          exact g166_180_1 _ hg vT (e19.mpr hM) e39
        | true =>
          rw [hFT] at e39
          rw [eS true (by rw [hM, hFT]; rfl), ← j2]
          exact g166_180_2 _ hg vT (e19.mpr hM) (by rw [e39]; decide)
    generalize e5 : pm_wi τ 10 0 36 0 (nI (fb_ct (fun p => M p && F p) (T + 1))) = τ5 at s1
    have o5 : ∀ c o k, ¬ (c = 10 ∧ k = 36) → τ5.1 c o k = τ.1 c o k := fun c o k hk => by rw [← e5, wi_k hk]
    have run := lp_n (C := pq_RD (d + 1)) (fr := fun k => (166, 225, [some (vR 10 0 0), some (vI 0), some (vI (nI T)), some (vI (bI (mWant E F T k))), some (vI (nI k))], [], τ5)) (n := NP) (fun k hk => by
      have hg5 : ¬ τ5.1 10 0 16 0 ≤ nI k := by rw [o5 10 0 16 (by omega), ob 10 0 16 (by omega), x2]; exact nI_ge hk (by omega)
      have ek : (nI k).toNatClampNeg = k := nI_clamp (by omega)
      have vk : vp_in (nI k) 48 := vp_in_nI (by omega) (by omega)
      have e39k : τ5.1 10 0 39 (nI k).toNatClampNeg = bI (F k) := by rw [ek, o5 10 0 39 (by omega), j1 10 0 39 (by omega)]; exact hY.2 k hk
      obtain ⟨vix, rd⟩ := mays_rd (mX_o (g := τ5.1) (fun j hj => by rw [o5 10 0 j (by omega), ob 10 0 j (by omega)]) hX) hk hT'
      rw [mWant, ← nI_1 k]
      cases hW : mWant E F T k with
      | true => exact g166_225_5 _ hg5 (by decide)
      | false =>
        cases hFk : F k with
        | false =>
          rw [hFk] at e39k
          exact g166_225_2 _ hg5 rfl vk e39k
        | true =>
          rw [hFk] at e39k
          cases hE : E k T with
          | false =>
            rw [hE] at rd
            exact g166_225_3 _ hg5 rfl vk (by rw [e39k]; decide) vix rd
          | true =>
            rw [hE] at rd
            exact g166_225_4 _ hg5 rfl vk (by rw [e39k]; decide) vix (by rw [rd]; decide))
    have s3 : pq_Rn (pq_RD (d + 1)) (166, 225, [some (vR 10 0 0), some (vI 0), some (vI (nI T)), some (vI (bI (mWant E F T NP))), some (vI (nI NP))], [], τ5) = pq_Rn (pq_RD (d + 1)) (166, 180, [some (vR 10 0 0), some (vI 0), some (vI (nI (T + 1))), some (vI (bI (mWant E F T NP))), some (vI (nI NP))], [], pm_wi τ5 10 0 37 0 (nI (fb_ct (fun w => mWant E F w NP) (T + 1)))) := by
      have hg5 : τ5.1 10 0 16 0 ≤ nI NP := by rw [o5 10 0 16 (by omega), ob 10 0 16 (by omega), x2, fa_le]; omega
      have j37 : τ5.1 10 0 37 0 = nI (fb_ct (fun w => mWant E F w NP) T) := by rw [o5 10 0 37 (by omega)]; exact j3
      have eS : ∀ b : Bool, mWant E F T NP = b → nI (fb_ct (fun w => mWant E F w NP) (T + 1)) = nI (fb_ct (fun w => mWant E F w NP) T) + bI b := fun b hb => by
        rw [fb_ct_succ, ← nI_add]
        show _ + nI (if mWant E F T NP = true then 1 else 0) = _
        rw [hb]
        cases b <;> rfl
      rw [← nI_1 T]
      cases hW : mWant E F T NP with
      | false =>
        rw [eS false hW, ← j37]
        exact g166_225_0 _ hg5 rfl
      | true =>
        rw [eS true hW, ← j37]
        exact g166_225_1 _ hg5 (by decide)
    refine ⟨(pm_wi τ5 10 0 37 0 (nI (fb_ct (fun w => mWant E F w NP) (T + 1))), _, _), ⟨fun c o k hk => ?_, ?_, wi_s _ _ _ _ _ _⟩, s1.trans (Eq.trans run s3)⟩
    · rw [wi_k (by omega), o5 c o k (by omega)]
      exact j1 c o k hk
    · show (pm_wi τ5 10 0 37 0 _).1 10 0 36 0 = _
      rw [wi_k (by omega), ← e5]
      exact wi_s _ _ _ _ _ _)
  have j1 : ∀ c o k, ¬ (c = 10 ∧ (k = 36 ∨ k = 37)) → τ.1 c o k = τ2.1 c o k := j1
  have j2 : τ.1 10 0 36 0 = nI (fb_ct (fun p => M p && F p) NP) := j2
  have j3 : τ.1 10 0 37 0 = nI (fb_ct (fun w => mWant E F w NP) NP) := j3
  refine ⟨τ, F, st.trans (Eq.trans hr2 (g166_180_0 _ (by rw [j1 10 0 16 (by omega), hY.1 10 0 16 (by omega), x2, fa_le]; omega))), fun c o k hk => by rw [j1 c o k (by omega), hY.1 c o k (by omega)], hL, ?_, ?_⟩
  · rw [j2]
    congr 1
    rw [ct_ext hN (fun k h1 h2 => by
      cases hq : F k with
      | false => rw [Bool.and_false]
      | true =>
        have := FN k hq
        omega)]
    refine fb_ct_cong (fun k hk => ?_)
    cases hq : F k with
    | false => rw [Bool.and_false]
    | true => rw [(lk_men hG hT hL.2 hq).1, Bool.true_and]
  · rw [j3]
    congr 1
    have e : ∀ w, mWant E F w NP = mWant E F w 48 := fun w => by
      cases hq : mWant E F w 48 with
      | true =>
        obtain ⟨m, hm, h1, h2⟩ := mWant_t.mp hq
        exact mWant_t.mpr ⟨m, FN m h1, h1, h2⟩
      | false =>
        cases hq2 : mWant E F w NP with
        | false => rfl
        | true =>
          obtain ⟨m, hm, h1, h2⟩ := mWant_t.mp hq2
          have := (mWant_t (n := 48)).mpr ⟨m, by omega, h1, h2⟩
          rw [hq] at this
          cases this
    rw [ct_ext hN (fun k h1 h2 => by
      cases hq : mWant E F k NP with
      | false => rfl
      | true =>
        obtain ⟨m, -, -, he⟩ := mWant_t.mp hq
        have := (x5 _ _ he).2
        omega)]
    exact fb_ct_cong (fun k _ => e k)
