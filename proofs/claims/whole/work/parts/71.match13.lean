/-! match: solve, and the call -/
theorem lk_cong {E : Nat → Nat → Bool} {M : Nat → Bool} {h g : Nat → Nat} (hG : mG E M) (e : ∀ p, p < 48 → enc (h p) = enc (g p)) {F : Nat → Bool} (H : lk E M h F) : lk E M g F := by
  have lt : ∀ p, p < 48 → (h p < 48 ↔ g p < 48) := fun p hp => by
    have := e p hp
    rcases Classical.em (h p < 48) with a | a
    · refine ⟨fun _ => ?_, fun _ => a⟩
      rcases Classical.em (g p < 48) with b | b
      · exact b
      · rw [enc_y a, enc_n b] at this
        exact absurd this (nI_m1 (by omega))
    · refine ⟨fun y => absurd y a, fun b => ?_⟩
      rw [enc_n a, enc_y b] at this
      exact absurd this.symm (nI_m1 (by omega))
  refine ⟨fun p w hm hh he => H.1 p w hm (fun y => hh ((lt p (hG _ _ he).1).mp y)) he, fun p w hp he hh => ?_⟩
  have hw := (hG _ _ he).2.1
  have hh' := (lt w hw).mpr hh
  have := e w hw
  rw [enc_y hh', enc_y hh, nI_eq (by omega) (by omega)] at this
  rw [← this]
  exact H.2 p w hp he hh'
theorem c18 (d : Nat) {E : Nat → Nat → Bool} {M : Nat → Bool} {σ : pmS} (hG : mG E M) (hZ : mZ E (fun _ => false) (fun _ => false) (fun _ => 48) σ) : ∃ τ ν F, pq_RD (d + 6) 18 [vR 3 0 0] σ = some (some (vI (nI ν)), τ) ∧ (∀ c o k, ¬ c = 3 → τ.1 c o k = σ.1 c o k) ∧ mNu E M ν ∧ (∀ p, p < 48 → τ.1 3 0 1 p = enc (mSq E M ν 48 p)) ∧ lkM E M (mSq E M ν 48) F ∧ τ.1 3 0 7 0 = nI (fb_ct F 48) ∧ τ.1 3 0 8 0 = nI (fb_ct (fun w => mWant E F w 48) 48) := by
  have hT : mT E (fun _ => 48) := fun p _ hh => absurd hh (by show ¬ 48 < 48; omega)
  have m0 : mS M (fun _ => 48) = 0 := fb_ct_zero.mpr (fun k _ => by simp)
  have st := (m18 (d + 5)).trans (g18_0_0 (pq_RD (d + 5)) (l1 := none) (l2 := none) (σ := σ))
  obtain ⟨τ1, h1, k1, o1, Z1, T1, N1⟩ := c18a (d + 2) hG (l2 := none) 48 (fun _ => 48) σ (by omega) hT hZ
  rw [m0] at k1
  obtain ⟨τ2, h2, k2, o2, ⟨SM, SW, Z2⟩, T2, e2⟩ := c18b d hG N1 T1 rfl Z1 (x1 := nI (mS M h1))
  obtain ⟨τ3, F, k3, o3, p3, L3, r7, r8⟩ := c27 (d + 2) hG T2 Z2
  have e2' : ∀ p, p < 48 → enc (mSq E M (mS M h1) 48 p) = enc (h2 p) := fun p hp => (e2 p hp).symm
  refine ⟨τ3, mS M h1, F, st.trans (k1.trans (k2.trans (g18_23_0 _ (by decide) k3))), fun c o k hk => by rw [o3 c o k hk, o2.1 c o k hk, o1.1 c o k hk], N1, fun p hp => by rw [p3 p hp]; exact e2 p hp, ⟨lk_cong hG e2 L3.1, fun F' hF' => L3.2 F' (lk_cong hG e2' hF')⟩, r7, r8⟩
theorem c181a (d : Nat) {σ : pmS} : ∃ τ, pq_RD (d + 1) 181 [vR 3 0 1, vL 0] σ = some (none, τ) ∧ τ.1 = σ.1 ∧ ∀ i, i < 48 → τ.2 3 0 0 i = 0 := by
  obtain ⟨τ, ⟨i1, i2⟩, hr⟩ := lp_ex (C := pq_RD d) (S := pmS) (I := fun T τ => τ.1 = σ.1 ∧ ∀ i, i < T → τ.2 3 0 0 i = 0) (fr := fun T τ => (181, 6, [some (vR 3 0 1), some (vL 0), none, some (vI (nI T)), some (vI (nI 48))], [], τ)) (s0 := σ) ⟨rfl, fun i hi => by omega⟩ (n := 48) (fun T τ hT ⟨i1, i2⟩ => by
    refine ⟨pm_wl τ 3 0 0 T 0, ⟨i1, fun i hi => ?_⟩, ?_⟩
    · rw [wl_2]
      by_cases e : i = T
      · rw [if_pos ⟨rfl, rfl, rfl, e⟩]
      · rw [if_neg (fun y => e y.2.2.2)]
        exact i2 i (by omega)
    · refine (g181a_6_1 _ (nI_ge hT (by omega)) (vp_in_nI hT (by omega))).trans ?_
      rw [nI_1, nI_clamp (by omega)])
  exact ⟨τ, (m181a d).trans ((g181a_0_0 _).trans (Eq.trans hr (g181a_6_0 _ (by decide)))), i1, i2⟩
theorem c182d (d : Nat) {σ : pmS} : ∃ τ, pq_RD (d + 1) 182 [vR 3 0 2, vI (-1)] σ = some (none, τ) ∧ (∀ c o k, ¬ (c = 3 ∧ k = 1) → τ.1 c o k = σ.1 c o k) ∧ τ.2 = σ.2 ∧ ∀ i, i < 48 → τ.1 3 0 1 i = -1 := by
  obtain ⟨τ, ⟨i1, i2, i3⟩, hr⟩ := lp_ex (C := pq_RD d) (S := pmS) (I := fun T τ => (∀ c o k, ¬ (c = 3 ∧ k = 1) → τ.1 c o k = σ.1 c o k) ∧ τ.2 = σ.2 ∧ ∀ i, i < T → τ.1 3 0 1 i = -1) (fr := fun T τ => (182, 5, [some (vR 3 0 2), some (vI (-1)), some (vI (nI T)), some (vI (nI 48))], [], τ)) (s0 := σ) ⟨fun _ _ _ _ => rfl, rfl, fun i hi => by omega⟩ (n := 48) (fun T τ hT ⟨i1, i2, i3⟩ => by
    refine ⟨pm_wi τ 3 0 1 T (-1), ⟨fun c o k hk => ?_, by rw [wi_2]; exact i2, fun i hi => ?_⟩, ?_⟩
    · rw [wi_k hk, i1 c o k hk]
    · rcases Nat.lt_or_ge i T with h | h
      · rw [wi_i (by omega)]
        exact i3 i h
      · have : i = T := by omega
        subst this
        exact wi_s _ _ _ _ _ _
    · refine (g182d_5_1 _ (nI_ge hT (by omega)) (vp_in_nI hT (by omega))).trans ?_
      rw [nI_1, nI_clamp (by omega)])
  exact ⟨τ, (m182d d).trans ((g182d_0_0 _).trans (Eq.trans hr (g182d_5_0 _ (by decide)))), i1, i2, i3⟩
theorem c16 (d : Nat) {σ : pmS} : ∃ τ, pq_RD (d + 2) 16 [vR 3 0 0] σ = some (none, τ) ∧ (∀ c o k, ¬ c = 3 → τ.1 c o k = σ.1 c o k) ∧ (∀ p, p < 48 → τ.1 3 0 1 p = -1) ∧ (∀ p, p < 48 → τ.2 3 0 0 p = ls (fun _ => false)) ∧ τ.2 3 0 5 0 = ls (fun _ => false) ∧ τ.2 3 0 6 0 = ls (fun _ => false) := by
  obtain ⟨σ1, k1, a1, a2⟩ := c181a d (σ := σ)
  obtain ⟨σ2, k2, b1, b2, b3⟩ := c182d d (σ := σ1)
  refine ⟨_, (m16 (d + 1)).trans (g16_0_0 _ k1 k2), fun c o k hk => ?_, b3, fun p hp => ?_, ?_, ?_⟩
  · show σ2.1 c o k = _
    rw [b1 c o k (by omega), a1]
  · rw [wl_2, if_neg (by simp), wl_2, if_neg (by simp), b2, a2 p hp]
    exact ls_0
  · rw [wl_2, if_neg (by simp), wl_2, if_pos ⟨rfl, rfl, rfl, rfl⟩]
    exact ls_0
  · rw [wl_2, if_pos ⟨rfl, rfl, rfl, rfl⟩]
    exact ls_0
def mRd (f : pmI) (NM : Nat) (c y : Int32) (s : Int32) (p : Nat) : Bool := decide (f 5 0 0 p = s) && (decide (f 5 0 3 p = c) && decide (hOwn (hLv f p y) (hAg f p y) (hSp f NM p y) = 0))
theorem sHind0 (lm lw am aw sm sw nr rt : Bool) : sHind lm lw am aw sm sw nr rt = 0 ↔ hOwn lm am sm = 0 ∧ hOwn lw aw sw = 0 ∧ hPair nr rt = 0 := by
  cases lm <;> cases lw <;> cases am <;> cases aw <;> cases sm <;> cases sw <;> cases nr <;> cases rt <;> decide
theorem mE_cl {f : pmI} {NP NM : Nat} {c y : Int32} {m w : Nat} (hm : m < NP) (hw : w < NP) : mE f NP NM c y m w = (mRd f NM c y 0 m && (mRd f NM c y 1 w && decide (hPair (hNr f m w) (sRight f m w y) = 0))) := by
  rw [Bool.eq_iff_iff, mE_t]
  unfold mRd sH
  rw [sHind0]
  simp only [Bool.and_eq_true, decide_eq_true_iff]
  constructor
  · rintro ⟨-, -, h1, h2, h3, h4, h5, h6, h7⟩
    exact ⟨⟨h1, h3, h5⟩, ⟨h2, h4, h6⟩, h7⟩
  · rintro ⟨⟨h1, h3, h5⟩, ⟨h2, h4, h6⟩, h7⟩
    exact ⟨hm, hw, h1, h2, h3, h4, h5, h6, h7⟩
theorem c100 (d : Nat) {σ : pmS} {NP NM p : Nat} {c y s : Int32} (hp : p < 48) (hw : wOk σ.1 NP NM) : pq_RD (d + 5) 100 [vR 9 0 0, vI (nI p), vI s, vI c, vI y] σ = some (some (vI (bI (mRd σ.1 NM c y s p))), σ) := by
  have ep : (nI p).toNatClampNeg = p := nI_clamp (by omega)
  have vp : vp_in (nI p) 48 := vp_in_nI hp (by omega)
  have k97 := c97 d (σ := σ) (p := p) (y := y) hp hw
  unfold mRd
  by_cases h1 : σ.1 5 0 0 p = s
  · by_cases h2 : σ.1 5 0 3 p = c
    · by_cases h3 : hOwn (hLv σ.1 p y) (hAg σ.1 p y) (hSp σ.1 NM p y) = 0
      · exact ((m100 (d + 4)).trans (g100_0_0 _ vp (by rw [ep]; exact h1) (by rw [ep]; exact h2) k97 h3)).trans (by simp [h1, h2, h3, bI])
      · exact ((m100 (d + 4)).trans (g100_0_1 _ vp (by rw [ep]; exact h1) (by rw [ep]; exact h2) k97 h3)).trans (by simp [h3, bI])
    · exact ((m100 (d + 4)).trans (g100_0_2 _ vp (by rw [ep]; exact h1) (by rw [ep]; exact h2))).trans (by simp [h2, bI])
  · exact ((m100 (d + 4)).trans (g100_0_3 _ vp (by rw [ep]; exact h1))).trans (by simp [h1, bI])
