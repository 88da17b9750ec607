/-! system -/
def jK (b : Nat → Int32) (n : Nat) : Int32 := if sMis b n = -1 then if sStr b n = -1 then if sRep b n = -1 then 0 else 3 else 2 else 1
def jP (b : Nat → Int32) (n : Nat) : Int32 := if sMis b n = -1 then if sStr b n = -1 then sRep b n else sStr b n else sMis b n
theorem jK_cong {b b' : Nat → Int32} {n : Nat} (h : ∀ i, i < n → b i = b' i) : jK b n = jK b' n := by
  unfold jK
  rw [sMis_cong h, sStr_cong h, sRep_cong h]
theorem jP_cong {b b' : Nat → Int32} {n : Nat} (h : ∀ i, i < n → b i = b' i) : jP b n = jP b' n := by
  unfold jP
  rw [sMis_cong h, sStr_cong h, sRep_cong h]
theorem sMis_v (b : Nat → Int32) {n : Nat} (hn : n ≤ 60) : sMis b n = -1 ∨ ∃ k, k ≤ 60 ∧ sMis b n = nI k := by
  unfold sMis
  have := fa_first_le (fun i => !sFit b i) n
  split
  · exact Or.inr ⟨_, by omega, rfl⟩
  · split
    · exact Or.inl rfl
    · exact Or.inr ⟨_, hn, rfl⟩
theorem sStr_v (b : Nat → Int32) {n : Nat} (hn : n ≤ 60) : sStr b n = -1 ∨ ∃ k, k ≤ 60 ∧ sStr b n = nI k := by
  unfold sStr
  split
  · exact Or.inr ⟨_, by omega, rfl⟩
  · exact Or.inl rfl
theorem sRep_v (b : Nat → Int32) {n : Nat} (hn : n ≤ 60) : sRep b n = -1 ∨ ∃ k, k ≤ 60 ∧ sRep b n = nI k := by
  unfold sRep
  split
  · exact Or.inr ⟨_, by omega, rfl⟩
  · exact Or.inl rfl
theorem c41 (d : Nat) {σ : pmS} {n : Nat} (hn : n ≤ 60) (h : σ.1 6 0 1 0 = nI n) : ∃ τ, pq_RD (d + 3) 41 [vR 6 0 0] σ = some (none, τ) ∧ (∀ c o k, ¬ (c = 6 ∧ (k = 2 ∨ k = 3)) → τ.1 c o k = σ.1 c o k) ∧ τ.1 6 0 2 0 = jK (σ.1 6 0 0) n ∧ τ.1 6 0 3 0 = jP (σ.1 6 0 0) n := by
  have k1 : ∀ {τ : pmS}, (∀ k, k ≤ 1 → τ.1 6 0 k = σ.1 6 0 k) → pq_RD (d + 2) 43 [vR 6 0 0] τ = some (some (vI (sMis (σ.1 6 0 0) n)), τ) := fun {τ} e => by
    have := c43 d (σ := τ) hn (by rw [e 1 (by omega)]; exact h)
    rwa [e 0 (by omega)] at this
  have k2 : ∀ {τ : pmS}, (∀ k, k ≤ 1 → τ.1 6 0 k = σ.1 6 0 k) → pq_RD (d + 2) 45 [vR 6 0 0] τ = some (some (vI (sStr (σ.1 6 0 0) n)), τ) := fun {τ} e => by
    have := c45 (d + 1) (σ := τ) hn (by rw [e 1 (by omega)]; exact h)
    rwa [e 0 (by omega)] at this
  have k3 : ∀ {τ : pmS}, (∀ k, k ≤ 1 → τ.1 6 0 k = σ.1 6 0 k) → pq_RD (d + 2) 46 [vR 6 0 0] τ = some (some (vI (sRep (σ.1 6 0 0) n)), τ) := fun {τ} e => by
    have := c46 (d + 1) (σ := τ) hn (by rw [e 1 (by omega)]; exact h)
    rwa [e 0 (by omega)] at this
  unfold jK jP
  by_cases q1 : sMis (σ.1 6 0 0) n = -1
  · rw [if_pos q1, if_pos q1]
    by_cases q2 : sStr (σ.1 6 0 0) n = -1
    · rw [if_pos q2, if_pos q2]
      by_cases q3 : sRep (σ.1 6 0 0) n = -1
      · rw [if_pos q3]
        refine ⟨_, (m41 (d + 2)).trans (g41_0_0 _ (k1 (fun k hk => wi_k (by omega))) q1 (k2 (fun k hk => by rw [wi_k (by omega), wi_k (by omega), wi_k (by omega)])) q2 (k3 (fun k hk => by rw [wi_k (by omega), wi_k (by omega), wi_k (by omega), wi_k (by omega), wi_k (by omega)])) q3), fun c o k hk => ?_, wi_s _ _ _ _ _ _, ?_⟩
        · rw [wi_k (by omega), wi_k (by omega), wi_k (by omega), wi_k (by omega), wi_k (by omega), wi_k (by omega), wi_k (by omega)]
        · rw [wi_k (by omega)]
          exact wi_s _ _ _ _ _ _
      · rw [if_neg q3]
        refine ⟨_, (m41 (d + 2)).trans (g41_0_1 _ (k1 (fun k hk => wi_k (by omega))) q1 (k2 (fun k hk => by rw [wi_k (by omega), wi_k (by omega), wi_k (by omega)])) q2 (k3 (fun k hk => by rw [wi_k (by omega), wi_k (by omega), wi_k (by omega), wi_k (by omega), wi_k (by omega)])) q3), fun c o k hk => ?_, ?_, wi_s _ _ _ _ _ _⟩
        · rw [wi_k (by omega), wi_k (by omega), wi_k (by omega), wi_k (by omega), wi_k (by omega), wi_k (by omega)]
        · rw [wi_k (by omega)]
          exact wi_s _ _ _ _ _ _
    · rw [if_neg q2, if_neg q2]
      refine ⟨_, (m41 (d + 2)).trans (g41_0_3 _ (k1 (fun k hk => wi_k (by omega))) q1 (k2 (fun k hk => by rw [wi_k (by omega), wi_k (by omega), wi_k (by omega)])) q2 q2), fun c o k hk => ?_, ?_, wi_s _ _ _ _ _ _⟩
      · rw [wi_k (by omega), wi_k (by omega), wi_k (by omega), wi_k (by omega)]
      · rw [wi_k (by omega)]
        exact wi_s _ _ _ _ _ _
  · rw [if_neg q1, if_neg q1]
    refine ⟨_, (m41 (d + 2)).trans (g41_0_7 _ (k1 (fun k hk => wi_k (by omega))) q1 q1 q1), fun c o k hk => ?_, ?_, wi_s _ _ _ _ _ _⟩
    · rw [wi_k (by omega), wi_k (by omega)]
    · rw [wi_k (by omega)]
      exact wi_s _ _ _ _ _ _
/-- a text without fault: n rules of three letters, each letter once at each place -/
theorem txt {b : Nat → Int32} {n : Nat} (hn : n ≤ 60) (h : jK b n = 0) : ∃ (N : Nat) (L : Nat → Nat → Nat), 2 ≤ N ∧ N ≤ 8 ∧ n + 1 = 6 * N ∧ (∀ r t, r < 3 → t < N → b (6 * t + 2 * r) = nI (97 + L r t) ∧ L r t < N) ∧ ∀ r t t', r < 3 → t < t' → t' < N → L r t ≠ L r t' := by
  have h1 : sMis b n = -1 := by
    rcases Classical.em (sMis b n = -1) with q | q
    · exact q
    · unfold jK at h
      rw [if_neg q] at h
      exact absurd h (by decide)
  unfold jK at h
  rw [if_pos h1] at h
  have h2 : sStr b n = -1 := by
    rcases Classical.em (sStr b n = -1) with q | q
    · exact q
    · rw [if_neg q] at h
      exact absurd h (by decide)
  rw [if_pos h2] at h
  have h3 : sRep b n = -1 := by
    rcases Classical.em (sRep b n = -1) with q | q
    · exact q
    · rw [if_neg q] at h
      exact absurd h (by decide)
  have hno := fa_first_no (fun i => !sFit b i) n
  have hle := fa_first_le (fun i => !sFit b i) n
  unfold sMis at h1
  have k1 : fa_first (fun i => !sFit b i) n = n := by
    rcases Nat.lt_or_ge (fa_first (fun i => !sFit b i) n) n with q | q
    · rw [if_pos q] at h1
      exact absurd h1 (nI_m1 (by omega))
    · omega
  rw [k1, if_neg (by omega)] at h1
  have k2 : 11 ≤ n ∧ n % 6 = 5 := by
    rcases Classical.em (11 ≤ n ∧ n % 6 = 5) with q | q
    · exact q
    · rw [if_neg q] at h1
      exact absurd h1 (nI_m1 (by omega))
  have fit : ∀ i, i < n → sFit b i = true := fun i hi => by
    have := hno i (by omega)
    simpa using this
  have n47 : n ≤ 47 := by
    have := fit (n - 1) (by omega)
    unfold sFit at this
    have := (Bool.and_eq_true _ _ ▸ this : _ ∧ _).1
    have := of_decide_eq_true this
    omega
  have fs := fa_first_no (fun k => !decide (b (2 * k) - 97 < nI ((n + 1) / 6))) ((n + 1) / 2)
  unfold sStr at h2
  have k3 : ¬ fa_first (fun k => !decide (b (2 * k) - 97 < nI ((n + 1) / 6))) ((n + 1) / 2) < (n + 1) / 2 := fun q => by
    rw [if_pos q] at h2
    exact absurd h2 (nI_m1 (by omega))
  have fr := fa_first_no (fun k => rp b (2 * k)) ((n + 1) / 2)
  unfold sRep at h3
  have k4 : ¬ fa_first (fun k => rp b (2 * k)) ((n + 1) / 2) < (n + 1) / 2 := fun q => by
    rw [if_pos q] at h3
    exact absurd h3 (nI_m1 (by omega))
  have let1 : ∀ i, i < n → i % 2 = 0 → ∃ l, l < (n + 1) / 6 ∧ b i = nI (97 + l) := fun i hi he => by
    have f := fit i hi
    unfold sFit at f
    rw [if_neg (by omega), if_neg (by omega), if_neg (by omega)] at f
    have f : i < 47 ∧ ¬ b i < 97 ∧ ¬ 104 < b i := by simpa using f
    have g : b i - 97 < nI ((n + 1) / 6) := by
      have := fs (i / 2) (by omega)
      rw [show 2 * (i / 2) = i by omega] at this
      simpa using this
    have l97 : (97 : Int32).toInt = 97 := rfl
    have l104 : (104 : Int32).toInt = 104 := rfl
    rw [fa_lt, fa_lt] at f
    rw [fa_lt, fb_subI (by omega) (by omega), nI_toInt (by omega)] at g
    refine ⟨((b i).toInt - 97).toNat, by omega, ?_⟩
    rw [fa_eq, nI_toInt (by omega)]
    omega
  have hL : ∀ i, ∃ l, i < n → i % 2 = 0 → l < (n + 1) / 6 ∧ b i = nI (97 + l) := fun i => by
    by_cases q : i < n ∧ i % 2 = 0
    · obtain ⟨l, h⟩ := let1 i q.1 q.2
      exact ⟨l, fun _ _ => h⟩
    · exact ⟨0, fun h1 h2 => absurd ⟨h1, h2⟩ q⟩
  obtain ⟨L, hL⟩ := Classical.axiomOfChoice hL
  refine ⟨(n + 1) / 6, fun r t => L (6 * t + 2 * r), by omega, by omega, by omega, fun r t hr ht => ?_, fun r t t' hr h1 h2 e => ?_⟩
  · obtain ⟨a1, a2⟩ := hL (6 * t + 2 * r) (by omega) (by omega)
    exact ⟨a2, a1⟩
  · obtain ⟨a1, a2⟩ := hL (6 * t + 2 * r) (by omega) (by omega)
    obtain ⟨b1, b2⟩ := hL (6 * t' + 2 * r) (by omega) (by omega)
    have e : L (6 * t + 2 * r) = L (6 * t' + 2 * r) := e
    have q := fr (3 * t' + r) (by omega)
    rw [show 2 * (3 * t' + r) = 6 * t' + 2 * r by omega] at q
    unfold rp rpF at q
    have q := of_decide_eq_false q
    have q2 := fa_first_no (fun m => decide (b (6 * t' + 2 * r - 6 * (m + 1)) = b (6 * t' + 2 * r))) ((6 * t' + 2 * r) / 6) (t' - t - 1) (by omega)
    have q2 := of_decide_eq_false q2
    rw [show 6 * t' + 2 * r - 6 * (t' - t - 1 + 1) = 6 * t + 2 * r by omega] at q2
    exact q2 (by rw [a2, b2, e])
theorem nI97 (l : Nat) (h : l < 8) : nI (97 + l) - 97 = nI l := (pk_sub (a := 97 + l) (b := 97) (by omega)).trans (congrArg nI (by omega))
/-- the six tables, rule by rule -/
def six (f : pmI) (s : Nat) (L : Nat → Nat → Nat) (t : Nat) : Prop := f 2 s 0 (L 0 t) = nI (L 1 t) ∧ f 2 s 1 (L 1 t) = nI (L 0 t) ∧ f 2 s 2 (L 1 t) = nI (L 2 t) ∧ f 2 s 3 (L 0 t) = nI (L 2 t) ∧ f 2 s 4 (L 2 t) = nI (L 1 t) ∧ f 2 s 5 (L 2 t) = nI (L 0 t)
theorem c42 (d : Nat) {σ : pmS} {s n N : Nat} {L : Nat → Nat → Nat} (h8 : N ≤ 8) (hn : n + 1 = 6 * N) (hs : σ.1 6 0 1 0 = nI n) (h0 : σ.1 2 s 8 0 = 0) (hL : ∀ r t, r < 3 → t < N → σ.1 6 0 0 (6 * t + 2 * r) = nI (97 + L r t) ∧ L r t < N) (hI : ∀ r t t', r < 3 → t < t' → t' < N → L r t ≠ L r t') : ∃ τ, pq_RD (d + 2) 42 [vR 6 0 0, vR 2 s 0] σ = some (none, τ) ∧ (∀ c o k, ¬ (c = 2 ∧ o = s) → τ.1 c o k = σ.1 c o k) ∧ τ.1 2 s 8 0 = nI N ∧ ∀ t, t < N → six τ.1 s L t := by
  obtain ⟨τ, ⟨i1, i2, i3⟩, hr⟩ := lp_ex (C := pq_RD (d + 1)) (S := pmS) (I := fun T τ => (∀ c o k, ¬ (c = 2 ∧ o = s) → τ.1 c o k = σ.1 c o k) ∧ τ.1 2 s 8 0 = nI T ∧ ∀ t, t < T → six τ.1 s L t) (fr := fun T τ => (42, 2, [some (vR 6 0 0), some (vR 2 s 0), some (vI (nI (6 * T)))], [], τ)) (s0 := σ) ⟨fun _ _ _ _ => rfl, h0, fun t ht => by omega⟩ (n := N) (fun T τ hT ⟨i1, i2, i3⟩ => by
    obtain ⟨a0, l0⟩ := hL 0 T (by omega) hT
    obtain ⟨a1, l1⟩ := hL 1 T (by omega) hT
    obtain ⟨a2, l2⟩ := hL 2 T (by omega) hT
    have e2 : nI (6 * T) + 2 = nI (6 * T + 2) := nI_add (6 * T) 2
    have e4 : nI (6 * T) + 4 = nI (6 * T + 4) := nI_add (6 * T) 4
    have e6 : nI (6 * T) + 6 = nI (6 * (T + 1)) := nI_add (6 * T) 6
    have k8 := (m8 d).trans (g8_0_0 (pq_RD d) (σ := τ) (o0 := s) (vp_in_nI (by omega : L 0 T < 8) (by omega)) (vp_in_nI (by omega : L 1 T < 8) (by omega)) (vp_in_nI (by omega : L 2 T < 8) (by omega)))
    rw [nI_clamp (by omega : L 0 T < 2 ^ 31), nI_clamp (by omega : L 1 T < 2 ^ 31), nI_clamp (by omega : L 2 T < 2 ^ 31)] at k8
    have k8 := k8.trans (by
      rw [show (pm_wi (pm_wi (pm_wi (pm_wi (pm_wi (pm_wi τ 2 s 0 (L 0 T) (nI (L 1 T))) 2 s 1 (L 1 T) (nI (L 0 T))) 2 s 2 (L 1 T) (nI (L 2 T))) 2 s 3 (L 0 T) (nI (L 2 T))) 2 s 4 (L 2 T) (nI (L 1 T))) 2 s 5 (L 2 T) (nI (L 0 T))).1 2 s 8 0 + 1 = nI (T + 1) by rw [wi_k (by omega), wi_k (by omega), wi_k (by omega), wi_k (by omega), wi_k (by omega), wi_k (by omega), i2, nI_1]])
    refine ⟨_, ⟨fun c o k hc => ?_, wi_s _ _ _ _ _ _, fun t ht => ?_⟩, (g42_2_1 _ (by rw [i1 6 0 1 (by omega), hs, e4]; exact nI_ge (by omega) (by omega)) (vp_in_nI (by omega) (by omega)) (by rw [e2]; exact vp_in_nI (by omega) (by omega)) (by rw [e4]; exact vp_in_nI (by omega) (by omega)) (by
      rw [i1 6 0 0 (by omega), e2, e4, nI_clamp (by omega), nI_clamp (by omega), nI_clamp (by omega), show 6 * T = 6 * T + 2 * 0 by omega, a0, show 6 * T + 2 * 0 + 2 = 6 * T + 2 * 1 by omega, a1, show 6 * T + 2 * 0 + 4 = 6 * T + 2 * 2 by omega, a2, nI97 _ (by omega), nI97 _ (by omega), nI97 _ (by omega)]
      exact k8)).trans (by rw [e6])⟩
    · rw [wi_o hc, wi_o hc, wi_o hc, wi_o hc, wi_o hc, wi_o hc, wi_o hc]
      exact i1 c o k hc
    · unfold six
      rcases Nat.lt_or_ge t T with h | h
      · have n0 := hI 0 t T (by omega) h hT
        have n1 := hI 1 t T (by omega) h hT
        have n2 := hI 2 t T (by omega) h hT
        simp only [wi_1, true_and, n0, n1, n2, and_false, if_false, false_and, Nat.reduceEqDiff]
        exact i3 t h
      · have : t = T := by omega
        subst this
        simp [wi_1])
  refine ⟨τ, (m42 (d + 1)).trans ((g42_0_0 _).trans (Eq.trans hr ?_)), i1, i2, i3⟩
  have e4 : nI (6 * N) + 4 = nI (6 * N + 4) := nI_add (6 * N) 4
  exact g42_2_0 _ (by rw [i1 6 0 1 (by omega), hs, e4]; exact nI_le (by omega) (by omega))
/-- the model's three tables -/
def three (f : pmI) (s : Nat) (L : Nat → Nat → Nat) (t : Nat) : Prop := f 10 0 1 (8 * s + L 0 t) = nI (L 1 t) ∧ f 10 0 2 (8 * s + L 1 t) = nI (L 2 t) ∧ f 10 0 3 (8 * s + L 0 t) = nI (L 2 t)
theorem c113l (C : pmC) {σ : pmS} {l1 : Option pmV} {s n N : Nat} {L : Nat → Nat → Nat} (hs4 : s < 4) (h8 : N ≤ 8) (hn : n + 1 = 6 * N) (hs : σ.1 10 0 6 0 = nI n) (hL : ∀ r t, r < 3 → t < N → σ.1 10 0 5 (6 * t + 2 * r) = nI (97 + L r t) ∧ L r t < N) (hI : ∀ r t t', r < 3 → t < t' → t' < N → L r t ≠ L r t') : ∃ τ, pq_Rn C (113, 129, [some (vR 10 0 0), l1, some (vI (nI s)), some (vI 0)], [], σ) = some (some (vI (nI s)), τ) ∧ (∀ c o k, ¬ (c = 10 ∧ (k = 1 ∨ k = 2 ∨ k = 3 ∨ k = 6)) → τ.1 c o k = σ.1 c o k) ∧ τ.1 10 0 6 0 = 0 ∧ (∀ k i, k ≤ 3 → i < 8 * s → τ.1 10 0 k i = σ.1 10 0 k i) ∧ ∀ t, t < N → three τ.1 s L t := by
  obtain ⟨τ, ⟨i1, i2, i3⟩, hr⟩ := lp_ex (C := C) (S := pmS) (I := fun T τ => (∀ c o k, ¬ (c = 10 ∧ (k = 1 ∨ k = 2 ∨ k = 3)) → τ.1 c o k = σ.1 c o k) ∧ (∀ k i, k ≤ 3 → i < 8 * s → τ.1 10 0 k i = σ.1 10 0 k i) ∧ ∀ t, t < T → three τ.1 s L t) (fr := fun T τ => (113, 129, [some (vR 10 0 0), l1, some (vI (nI s)), some (vI (nI (6 * T)))], [], τ)) (s0 := σ) ⟨fun _ _ _ _ => rfl, fun _ _ _ _ => rfl, fun t ht => by omega⟩ (n := N) (fun T τ hT ⟨i1, i2, i3⟩ => by
    obtain ⟨a0, y0⟩ := hL 0 T (by omega) hT
    obtain ⟨a1, y1⟩ := hL 1 T (by omega) hT
    obtain ⟨a2, y2⟩ := hL 2 T (by omega) hT
    have e2 : nI (6 * T) + 2 = nI (6 * T + 2) := nI_add (6 * T) 2
    have e4 : nI (6 * T) + 4 = nI (6 * T + 4) := nI_add (6 * T) 4
    have e6 : nI (6 * T) + 6 = nI (6 * (T + 1)) := nI_add (6 * T) 6
    have ix : ∀ l, l < 8 → (8 : Int32) * nI s + nI (97 + l) - 97 = nI (8 * s + l) := fun l hl => by
      have : (8 : Int32) * nI s + nI (97 + l) = nI (8 * s + (97 + l)) := by
        show nI 8 * nI s + nI (97 + l) = _
        rw [pk_mul, nI_add]
      rw [this]
      exact (pk_sub (a := 8 * s + (97 + l)) (b := 97) (by omega)).trans (congrArg nI (by omega))
    have b0 : τ.1 10 0 5 (nI (6 * T)).toNatClampNeg = nI (97 + L 0 T) := by rw [i1 10 0 5 (by omega), nI_clamp (by omega)]; exact a0
    have b1 : τ.1 10 0 5 (nI (6 * T) + 2).toNatClampNeg = nI (97 + L 1 T) := by rw [i1 10 0 5 (by omega), e2, nI_clamp (by omega)]; exact a1
    have b2 : τ.1 10 0 5 (nI (6 * T) + 4).toNatClampNeg = nI (97 + L 2 T) := by rw [i1 10 0 5 (by omega), e4, nI_clamp (by omega)]; exact a2
    have st := g113_129_1 C (l1 := l1) (σ := τ) (x2 := nI s) (x3 := nI (6 * T)) (by rw [i1 10 0 6 (by omega), hs]; exact nI_ge (by omega) (by omega)) (vp_in_nI (by omega) (by omega)) (by rw [e2]; exact vp_in_nI (by omega) (by omega)) (by rw [b0, ix _ (by omega)]; exact vp_in_nI (by omega) (by omega)) (by rw [e4]; exact vp_in_nI (by omega) (by omega)) (by rw [b1, ix _ (by omega)]; exact vp_in_nI (by omega) (by omega))
    rw [b0, b1, b2, ix _ (by omega), ix _ (by omega), nI97 _ (by omega), nI97 _ (by omega), nI_clamp (by omega), nI_clamp (by omega), e6] at st
    refine ⟨_, ⟨fun c o k hc => ?_, fun k i hk hi => ?_, fun t ht => ?_⟩, st⟩
    · rw [wi_k (by omega), wi_k (by omega), wi_k (by omega)]
      exact i1 c o k hc
    · have x0 : i ≠ 8 * s + L 0 T := by omega
      have x1 : i ≠ 8 * s + L 1 T := by omega
      simp only [wi_1, x0, x1, and_false, if_false]
      exact i2 k i hk hi
    · unfold three
      rcases Nat.lt_or_ge t T with h | h
      · have n0 := hI 0 t T (by omega) h hT
        have n1 := hI 1 t T (by omega) h hT
        have y0 : ¬ 8 * s + L 0 t = 8 * s + L 0 T := by omega
        have y1 : ¬ 8 * s + L 1 t = 8 * s + L 1 T := by omega
        simp only [wi_1, true_and, y0, y1, and_false, if_false, false_and, Nat.reduceEqDiff]
        exact i3 t h
      · have : t = T := by omega
        subst this
        simp [wi_1])
  refine ⟨_, Eq.trans hr (g113_129_0 _ (by rw [i1 10 0 6 (by omega), hs]; exact nI_le (by omega) (by omega))), fun c o k hc => ?_, wi_s _ _ _ _ _ _, fun k i hk hi => ?_, fun t ht => ?_⟩
  · rw [wi_k (by omega)]
    exact i1 c o k (by omega)
  · rw [wi_k (by omega)]
    exact i2 k i hk hi
  · unfold three
    rw [wi_k (by omega), wi_k (by omega), wi_k (by omega)]
    exact i3 t ht
theorem iSy_new {f : pmI} {s N : Nat} {L : Nat → Nat → Nat} (h2 : 2 ≤ N) (h8 : N ≤ 8) (z1 : f 2 s 8 0 = nI N) (z2 : f 10 0 0 s = nI N) (hL : ∀ r t, r < 3 → t < N → L r t < N) (hI : ∀ r t t', r < 3 → t < t' → t' < N → L r t ≠ L r t') (h6 : ∀ t, t < N → six f s L t) (h3 : ∀ t, t < N → three f s L t) : ∃ w ch, iSy f s N w ch := by
  have inj : ∀ r t t', r < 3 → t < N → t' < N → L r t = L r t' → t = t' := fun r t t' hr h1 h2 e => by
    rcases (by omega : t < t' ∨ t' < t ∨ t = t') with q | q | q
    · exact absurd e (hI r t t' hr q h2)
    · exact absurd e.symm (hI r t' t hr q h1)
    · exact q
  have onto : ∀ r, r < 3 → ∃ v : Nat → Nat, ∀ a, a < N → v a < N ∧ L r (v a) = a := fun r hr => by
    have : ∀ a, ∃ t, a < N → t < N ∧ L r t = a := fun a => by
      by_cases ha : a < N
      · obtain ⟨t, h1, h2⟩ := fb_onto (n := N) (f := L r) (fun i hi => hL r i hr hi) (fun i j h1 h2 => hI r i j hr h1 h2) ha
        exact ⟨t, fun _ => ⟨h1, h2⟩⟩
      · exact ⟨0, fun h => absurd h ha⟩
    exact Classical.axiomOfChoice this
  obtain ⟨v0, hv0⟩ := onto 0 (by omega)
  obtain ⟨v1, hv1⟩ := onto 1 (by omega)
  have back : ∀ t, t < N → v1 (L 1 t) = t := fun t ht => inj 1 _ _ (by omega) (hv1 _ (hL 1 t (by omega) ht)).1 ht (hv1 _ (hL 1 t (by omega) ht)).2
  refine ⟨fun a => L 1 (v0 a), fun b => L 2 (v1 b), h2, h8, fun c hc => ⟨hL 1 _ (by omega) (hv0 c hc).1, hL 2 _ (by omega) (hv1 c hc).1⟩, fun a b ha hb e => ?_, fun a b ha hb e => ?_, z1, z2, fun c hc => ?_⟩
  · have := inj 1 _ _ (by omega) (hv0 a ha).1 (hv0 b hb).1 e
    rw [← (hv0 a ha).2, this, (hv0 b hb).2]
  · have := inj 2 _ _ (by omega) (hv1 a ha).1 (hv1 b hb).1 e
    rw [← (hv1 a ha).2, this, (hv1 b hb).2]
  · obtain ⟨t0, e0⟩ := hv0 c hc
    obtain ⟨t1, e1⟩ := hv1 c hc
    have s0 := h6 _ t0
    have s1 := h6 _ t1
    have m0 := h3 _ t0
    have m1 := h3 _ t1
    unfold six at s0 s1
    unfold three at m0 m1
    rw [e0] at s0 m0
    rw [e1] at s1 m1
    show f 2 s 0 c = nI (L 1 (v0 c)) ∧ f 2 s 1 (L 1 (v0 c)) = nI c ∧ f 2 s 2 c = nI (L 2 (v1 c)) ∧ f 2 s 3 c = nI (L 2 (v1 (L 1 (v0 c)))) ∧ f 2 s 4 (L 2 (v1 c)) = nI c ∧ f 2 s 5 (L 2 (v1 (L 1 (v0 c)))) = nI c ∧ f 10 0 1 (8 * s + c) = nI (L 1 (v0 c)) ∧ f 10 0 2 (8 * s + c) = nI (L 2 (v1 c)) ∧ f 10 0 3 (8 * s + c) = nI (L 2 (v1 (L 1 (v0 c))))
    rw [back _ t0]
    exact ⟨s0.1, s0.2.1, s1.2.2.1, s0.2.2.2.1, s1.2.2.2.2.1, s0.2.2.2.2.2, m0.1, m1.2.1, m0.2.2⟩
theorem iSy_o2 {f g : pmI} {s n : Nat} {w ch : Nat → Nat} (h2 : ∀ k, g 2 s k = f 2 s k) (h0 : g 10 0 0 s = f 10 0 0 s) (h10 : ∀ k c, c < 8 → 1 ≤ k → k ≤ 3 → g 10 0 k (8 * s + c) = f 10 0 k (8 * s + c)) (H : iSy f s n w ch) : iSy g s n w ch := by
  obtain ⟨q1, q2, q3, q4, q5, q6, q7, q8⟩ := H
  refine ⟨q1, q2, q3, q4, q5, by rw [h2]; exact q6, by rw [h0]; exact q7, fun c hc => ?_⟩
  rw [h2, h2, h2, h2, h2, h2, h10 1 c (by omega) (by omega) (by omega), h10 2 c (by omega) (by omega) (by omega), h10 3 c (by omega) (by omega) (by omega)]
  exact q8 c hc
theorem sOwn_cong3 {f g : pmI} {p : Nat} (h0 : ∀ o k, g 0 o k = f 0 o k) (h2 : ∀ k, g 2 (sSb f p) k = f 2 (sSb f p) k) (h5 : ∀ k, g 5 0 k = f 5 0 k) : sOwn g (g 5 0 7) p = sOwn f (f 5 0 7) p ∧ sOth g (g 5 0 7) p = sOth f (f 5 0 7) p := by
  have eb : sLb g p = sLb f p := by
    unfold sLb
    rw [h5 3, h5 1, h0, h0]
  have es : sSb g p = sSb f p := by
    unfold sSb
    rw [eb, h5 3, h0]
  have em : sBm g p = sBm f p := by
    unfold sBm
    rw [eb, h5 3, h0]
  unfold sOwn sOth
  rw [h5 4, h5 5, h5 6, h5 7, em, es, h2 8, h2 2, h2 3]
  exact ⟨rfl, rfl⟩
theorem neg1_lt : ¬ (0 : Int32) ≤ -1 := by decide
theorem c113k (d : Nat) {σ τ : pmS} {n : Nat} (hn : n ≤ 60) (h6 : σ.1 10 0 6 0 = nI n) (e : ∀ k, k = 5 ∨ k = 6 → τ.1 10 0 k = σ.1 10 0 k) : pq_RD (d + 2) 110 [vR 10 0 0] τ = some (some (vI (sMis (σ.1 10 0 5) n)), τ) ∧ pq_RD (d + 2) 111 [vR 10 0 0, vI ((σ.1 10 0 6 0 + 1) / 6)] τ = some (some (vI (sStr (σ.1 10 0 5) n)), τ) ∧ pq_RD (d + 2) 112 [vR 10 0 0] τ = some (some (vI (sRep (σ.1 10 0 5) n)), τ) := by
  have t6 : τ.1 10 0 6 0 = nI n := by rw [e 6 (by omega)]; exact h6
  have k1 := c110 d (σ := τ) hn t6
  have k2 := c111 (d + 1) (σ := τ) hn t6
  have k3 := c112 (d + 1) (σ := τ) hn t6
  rw [e 5 (by omega)] at k1 k2 k3
  rw [h6, quo6 hn]
  exact ⟨k1, k2, k3⟩
theorem c113e (d : Nat) {σ : pmS} {n : Nat} (hn : n ≤ 60) (h6 : σ.1 10 0 6 0 = nI n) (hS : ¬ σ.1 10 0 4 0 = 4) (hj : ¬ jK (σ.1 10 0 5) n = 0) : ∃ τ, pq_RD (d + 3) 113 [vR 10 0 0] σ = some (some (vI (-10 - jK (σ.1 10 0 5) n)), τ) ∧ (∀ c o k, ¬ (c = 10 ∧ (k = 6 ∨ k = 7 ∨ k = 8)) → τ.1 c o k = σ.1 c o k) ∧ τ.1 10 0 6 0 = 0 ∧ τ.1 10 0 7 0 = jK (σ.1 10 0 5) n ∧ τ.1 10 0 8 0 = jP (σ.1 10 0 5) n := by
  have k1 := (c113k d (σ := σ) (τ := pm_wi σ 10 0 7 0 1) hn h6 (fun k hk => wi_k (by omega))).1
  revert hj
  unfold jK jP
  rcases sMis_v (σ.1 10 0 5) hn with q1 | ⟨j1, l1, q1⟩
  · have k2 := (c113k d (σ := σ) (τ := pm_wi (pm_wi (pm_wi σ 10 0 7 0 1) 10 0 8 0 (sMis (σ.1 10 0 5) n)) 10 0 7 0 2) hn h6 (fun k hk => by rw [wi_k (by omega), wi_k (by omega), wi_k (by omega)])).2.1
    rw [if_pos q1, if_pos q1]
    rcases sStr_v (σ.1 10 0 5) hn with q2 | ⟨j2, l2, q2⟩
    · have k3 := (c113k d (σ := σ) (τ := pm_wi (pm_wi (pm_wi (pm_wi (pm_wi σ 10 0 7 0 1) 10 0 8 0 (sMis (σ.1 10 0 5) n)) 10 0 7 0 2) 10 0 8 0 (sStr (σ.1 10 0 5) n)) 10 0 7 0 3) hn h6 (fun k hk => by rw [wi_k (by omega), wi_k (by omega), wi_k (by omega), wi_k (by omega), wi_k (by omega)])).2.2
      rw [if_pos q2, if_pos q2]
      rcases sRep_v (σ.1 10 0 5) hn with q3 | ⟨j3, l3, q3⟩
      · rw [if_pos q3]
        intro hj
        exact absurd rfl hj
      · have q3' : ¬ sRep (σ.1 10 0 5) n = -1 := by rw [q3]; exact nI_m1 (by omega)
        rw [if_neg q3']
        intro _
        have st := (m113 (d + 2)).trans (g113_0_8 (pq_RD (d + 2)) (l1 := none) (l2 := none) (l3 := none) hS k1 (by rw [q1]; decide) k2 (by rw [q2]; decide) k3 (by rw [q3]; exact nI_pos (by omega)))
        rw [wi_s] at st
        refine ⟨_, st, fun c o k hk => ?_, wi_s _ _ _ _ _ _, ?_, ?_⟩
        · rw [wi_k (by omega), wi_k (by omega), wi_k (by omega), wi_k (by omega), wi_k (by omega), wi_k (by omega), wi_k (by omega)]
        · rw [wi_k (by omega), wi_k (by omega)]
          exact wi_s _ _ _ _ _ _
        · rw [wi_k (by omega)]
          exact wi_s _ _ _ _ _ _
    · have q2' : ¬ sStr (σ.1 10 0 5) n = -1 := by rw [q2]; exact nI_m1 (by omega)
      rw [if_neg q2', if_neg q2']
      intro _
      have st := (m113 (d + 2)).trans (g113_0_6 (pq_RD (d + 2)) (l1 := none) (l2 := none) (l3 := none) hS k1 (by rw [q1]; decide) k2 (by rw [q2]; exact nI_pos' (by omega)) (by rw [q2]; exact nI_pos (by omega)))
      rw [wi_s] at st
      refine ⟨_, st, fun c o k hk => ?_, wi_s _ _ _ _ _ _, ?_, ?_⟩
      · rw [wi_k (by omega), wi_k (by omega), wi_k (by omega), wi_k (by omega), wi_k (by omega)]
      · rw [wi_k (by omega), wi_k (by omega)]
        exact wi_s _ _ _ _ _ _
      · rw [wi_k (by omega)]
        exact wi_s _ _ _ _ _ _
  · have q1' : ¬ sMis (σ.1 10 0 5) n = -1 := by rw [q1]; exact nI_m1 (by omega)
    rw [if_neg q1', if_neg q1']
    intro _
    have st := (m113 (d + 2)).trans (g113_0_2 (pq_RD (d + 2)) (l1 := none) (l2 := none) (l3 := none) hS k1 (by rw [q1]; exact nI_pos' (by omega)) (by rw [q1]; exact nI_pos' (by omega)) (by rw [q1]; exact nI_pos (by omega)))
    rw [wi_s] at st
    refine ⟨_, st, fun c o k hk => ?_, wi_s _ _ _ _ _ _, ?_, ?_⟩
    · rw [wi_k (by omega), wi_k (by omega), wi_k (by omega)]
    · rw [wi_k (by omega), wi_k (by omega)]
      exact wi_s _ _ _ _ _ _
    · rw [wi_k (by omega)]
      exact wi_s _ _ _ _ _ _
theorem jK0 {b : Nat → Int32} {n : Nat} (h : jK b n = 0) : sMis b n = -1 ∧ sStr b n = -1 ∧ sRep b n = -1 := by
  unfold jK at h
  by_cases q1 : sMis b n = -1
  · rw [if_pos q1] at h
    by_cases q2 : sStr b n = -1
    · rw [if_pos q2] at h
      by_cases q3 : sRep b n = -1
      · exact ⟨q1, q2, q3⟩
      · rw [if_neg q3] at h
        exact absurd h (by decide)
    · rw [if_neg q2] at h
      exact absurd h (by decide)
  · rw [if_neg q1] at h
    exact absurd h (by decide)
theorem c113s (d : Nat) {σ : pmS} {n s : Nat} (hn : n ≤ 60) (hs : s < 4) (h6 : σ.1 10 0 6 0 = nI n) (hS : σ.1 10 0 4 0 = nI s) (hj : jK (σ.1 10 0 5) n = 0) : ∃ τ, pq_RD (d + 3) 113 [vR 10 0 0] σ = pq_Rn (pq_RD (d + 2)) (113, 129, [some (vR 10 0 0), some (vI (nI ((n + 1) / 6))), some (vI (nI s)), some (vI 0)], [], τ) ∧ (∀ c o k, ¬ (c = 10 ∧ (k = 0 ∨ k = 4 ∨ k = 7 ∨ k = 8)) → τ.1 c o k = σ.1 c o k) ∧ τ.1 10 0 4 0 = nI (s + 1) ∧ τ.1 10 0 7 0 = 0 ∧ τ.1 10 0 8 0 = -1 ∧ τ.1 10 0 0 s = nI ((n + 1) / 6) ∧ ∀ i, i ≠ s → τ.1 10 0 0 i = σ.1 10 0 0 i := by
  obtain ⟨q1, q2, q3⟩ := jK0 hj
  have k1 := (c113k d (σ := σ) (τ := pm_wi σ 10 0 7 0 1) hn h6 (fun k hk => wi_k (by omega))).1
  have k2 := (c113k d (σ := σ) (τ := pm_wi (pm_wi (pm_wi σ 10 0 7 0 1) 10 0 8 0 (sMis (σ.1 10 0 5) n)) 10 0 7 0 2) hn h6 (fun k hk => by rw [wi_k (by omega), wi_k (by omega), wi_k (by omega)])).2.1
  have k3 := (c113k d (σ := σ) (τ := pm_wi (pm_wi (pm_wi (pm_wi (pm_wi σ 10 0 7 0 1) 10 0 8 0 (sMis (σ.1 10 0 5) n)) 10 0 7 0 2) 10 0 8 0 (sStr (σ.1 10 0 5) n)) 10 0 7 0 3) hn h6 (fun k hk => by rw [wi_k (by omega), wi_k (by omega), wi_k (by omega), wi_k (by omega), wi_k (by omega)])).2.2
  have e4 : (pm_wi (pm_wi (pm_wi (pm_wi (pm_wi σ 10 0 7 0 1) 10 0 8 0 (sMis (σ.1 10 0 5) n)) 10 0 7 0 2) 10 0 8 0 (sStr (σ.1 10 0 5) n)) 10 0 7 0 3).1 10 0 4 0 = nI s := by
    rw [wi_k (by omega), wi_k (by omega), wi_k (by omega), wi_k (by omega), wi_k (by omega)]
    exact hS
  have st := (m113 (d + 2)).trans (g113_0_7 _ (l1 := none) (l2 := none) (l3 := none) (by rw [hS]; intro e; have := (nI_eq (a := s) (b := 4) (by omega) (by omega)).mp e; omega) k1 (by rw [q1]; decide) k2 (by rw [q2]; decide) k3 (by rw [q3]; decide) (by rw [e4]; exact vp_in_nI hs (by omega)))
  rw [e4, h6, quo6 hn, nI_1 s, nI_clamp (by omega)] at st
  refine ⟨_, st, fun c o k hk => ?_, ?_, ?_, ?_, wi_s _ _ _ _ _ _, fun i hi => ?_⟩
  · rw [wi_k (by omega), wi_k (by omega), wi_k (by omega), wi_k (by omega), wi_k (by omega), wi_k (by omega), wi_k (by omega), wi_k (by omega), wi_k (by omega), wi_k (by omega)]
  · rw [wi_k (by omega)]
    exact wi_s _ _ _ _ _ _
  · rw [wi_k (by omega), wi_k (by omega), wi_k (by omega)]
    exact wi_s _ _ _ _ _ _
  · rw [wi_k (by omega), wi_k (by omega)]
    exact wi_s _ _ _ _ _ _
  · rw [wi_i hi]
    rw [wi_k (by omega), wi_k (by omega), wi_k (by omega), wi_k (by omega), wi_k (by omega), wi_k (by omega), wi_k (by omega), wi_k (by omega), wi_k (by omega)]
theorem sSb_lt {f : pmI} {NS NC NP p : Nat} (hC : iC f NS NC) (hP : iP f NC NP) (hp : p < NP) : sSb f p < NS := by
  obtain ⟨cc, hcc, ecc⟩ := (hP.2.2.2.1 p hp).2.2.2.2.2.2.2.2.2.1
  have hC3 := hC.1
  have ecl : (f 5 0 3 p).toNatClampNeg = cc := by rw [ecc]; exact nI_clamp (by omega)
  obtain ⟨nl, l1, l5, l3, l4, l6⟩ := hC.2.2.2.1 cc hcc
  unfold sSb
  have hl : sLb f p < nl := by
    unfold sLb
    rw [ecl, l3, nI_clamp (by omega)]
    have : ∀ k, 1 ≤ k → sLaw (f 0 cc 0) (f 5 0 1 p) k < k := fun k => by
      induction k with
      | zero => intro h; omega
      | succ k ih =>
        intro _
        unfold sLaw
        split
        · omega
        · rcases Nat.eq_zero_or_pos k with e | e
          · subst e
            show 0 < 1
            omega
          · have := ih e
            omega
    exact this nl l1
  obtain ⟨s, hs, es⟩ := (l6 _ hl).2.2.2
  rw [ecl, es]
  have : s < 2 ^ 31 ∨ 2 ^ 31 ≤ s := by omega
  rcases this with h | h
  · rw [nI_clamp h]
    exact hs
  · have : (nI s).toNatClampNeg < 2 ^ 31 := by
      have := (fb_rng (nI s)).2
      show (nI s).toInt.toNat < _
      omega
    omega
theorem T_system {σ : pmS} (h : Inv σ) : Tok 55 113 [] σ := by
  obtain ⟨NS, NC, NP, hh⟩ := id h
  have hh : iAll σ.1 NS NC NP := hh
  obtain ⟨⟨n, hn, t1, t2, t3, t4, t5⟩, hS, hC, hP, hW, hM, hO⟩ := id hh
  have hNS := hS.1
  have s9 : σ.1 9 0 9 0 = nI NS := hS.2.1
  have s4 : σ.1 10 0 4 0 = nI NS := hS.2.2.1
  rcases Nat.lt_or_ge NS 4 with h4 | h4
  · obtain ⟨τ, kj, o1, o2, o3⟩ := c41 56 (σ := σ) hn t1
    have jc : jK (σ.1 6 0 0) n = jK (σ.1 10 0 5) n := jK_cong t3
    have pc : jP (σ.1 6 0 0) n = jP (σ.1 10 0 5) n := jP_cong t3
    have u9 : τ.1 9 0 9 0 = nI NS := by rw [o1 9 0 9 (by omega)]; exact s9
    have lt4 : σ.1 9 0 9 0 < 4 := by rw [s9]; exact nI_lt (b := 4) h4 (by decide)
    by_cases hj : jK (σ.1 6 0 0) n = 0
    · obtain ⟨N, L, N2, N8, nN, hL, hI⟩ := txt hn hj
      have hq : (n + 1) / 6 = N := by omega
      have z0 : τ.1 2 NS 8 0 = 0 := by rw [o1 2 NS 8 (by omega)]; exact hS.2.2.2.2 NS (by omega) h4
      obtain ⟨σ2, kw, w1, w2, w3⟩ := c42 57 (σ := τ) (s := NS) (n := n) (N := N) (L := L) N8 nN (by rw [o1 6 0 1 (by omega)]; exact t1) z0 (by rw [o1 6 0 0 (by omega)]; exact hL) hI
      have v9 : σ2.1 9 0 9 0 = nI NS := by rw [w1 9 0 9 (by omega)]; exact u9
      have cls := (m55 59).trans (g55_0_0 (pq_RD 59) lt4 kj (by rw [o2]; exact hj) (by rw [u9]; exact vp_in_nI h4 (by omega)) (by rw [u9, nI_clamp (by omega)]; exact kw) (by rw [w1 6 0 2 (by omega), o2]; exact hj))
      rw [v9, nI_1 NS, nI_pred] at cls
      generalize e1 : pm_wi (pm_wi σ2 6 0 1 0 0) 9 0 9 0 (nI (NS + 1)) = σ1 at cls
      have f1 : ∀ c o k, ¬ (c = 2 ∧ o = NS) → ¬ (c = 6 ∧ (k = 1 ∨ k = 2 ∨ k = 3)) → ¬ (c = 9 ∧ k = 9) → σ1.1 c o k = σ.1 c o k := fun c o k h1 h2 h3 => by rw [← e1, wi_k (by omega), wi_k (by omega), w1 c o k h1, o1 c o k (by omega)]
      have f2 : ∀ k, σ1.1 2 NS k = σ2.1 2 NS k := fun k => by rw [← e1, wi_k (by omega), wi_k (by omega)]
      have hL' : ∀ r t, r < 3 → t < N → σ.1 10 0 5 (6 * t + 2 * r) = nI (97 + L r t) ∧ L r t < N := fun r t hr ht => by
        rw [← t3 (6 * t + 2 * r) (by omega)]
        exact hL r t hr ht
      obtain ⟨τ', kd, p1, p2, p3, p4, p5, p6⟩ := c113s 57 (σ := σ1) (n := n) (s := NS) hn h4 (by rw [f1 10 0 6 (by omega) (by omega) (by omega)]; exact t2) (by rw [f1 10 0 4 (by omega) (by omega) (by omega)]; exact s4) (by rw [f1 10 0 5 (by omega) (by omega) (by omega), ← jc]; exact hj)
      obtain ⟨ρ, kl, r1, r2, r3, r4⟩ := c113l (pq_RD 59) (σ := τ') (l1 := some (vI (nI ((n + 1) / 6)))) (s := NS) (n := n) (N := N) (L := L) h4 N8 nN (by rw [p1 10 0 6 (by omega), f1 10 0 6 (by omega) (by omega) (by omega)]; exact t2) (by rw [p1 10 0 5 (by omega), f1 10 0 5 (by omega) (by omega) (by omega)]; exact hL') hI
      refine ⟨_, _, ρ, cls, kd.trans kl, ?_⟩
      have q1 : ∀ c o k, ¬ (c = 10 ∧ (k = 0 ∨ k = 1 ∨ k = 2 ∨ k = 3 ∨ k = 4 ∨ k = 6 ∨ k = 7 ∨ k = 8)) → ρ.1 c o k = σ1.1 c o k := fun c o k hk => by rw [r1 c o k (by omega), p1 c o k (by omega)]
      have off : ∀ c o k, ¬ (c = 2 ∧ o = NS) → ¬ (c = 6 ∧ (k = 1 ∨ k = 2 ∨ k = 3)) → ¬ (c = 9 ∧ k = 9) → ¬ (c = 10 ∧ (k = 0 ∨ k = 1 ∨ k = 2 ∨ k = 3 ∨ k = 4 ∨ k = 6 ∨ k = 7 ∨ k = 8)) → ρ.1 c o k = σ.1 c o k := fun c o k h1 h2 h3 h4 => by rw [q1 c o k h4, f1 c o k h1 h2 h3]
      have g6 : ρ.1 6 0 1 0 = 0 := by
        rw [q1 6 0 1 (by omega), ← e1, wi_k (by omega)]
        exact wi_s _ _ _ _ _ _
      have g62 : ρ.1 6 0 2 0 = 0 := by
        rw [q1 6 0 2 (by omega), ← e1, wi_k (by omega), wi_k (by omega), w1 6 0 2 (by omega), o2]
        exact hj
      have g63 : ρ.1 6 0 3 0 = -1 := by
        rw [q1 6 0 3 (by omega), ← e1, wi_k (by omega), wi_k (by omega), w1 6 0 3 (by omega), o3]
        unfold jP
        obtain ⟨y1, y2, y3⟩ := jK0 hj
        rw [if_pos y1, if_pos y2, y3]
      have hT2 : iT ρ.1 := ⟨0, by omega, g6, r2, fun i hi => by omega, by rw [g62, r1 10 0 7 (by omega), p3], by rw [g63, r1 10 0 8 (by omega), p4]⟩
      have s2 : ∀ k, ρ.1 2 NS k = σ2.1 2 NS k := fun k => by rw [q1 2 NS k (by omega), f2]
      have g0 : ρ.1 10 0 0 NS = nI N := by rw [r1 10 0 0 (by omega), p5, hq]
      obtain ⟨wN, chN, hN⟩ := iSy_new (f := ρ.1) (s := NS) (N := N) (L := L) N2 N8 (by rw [s2]; exact w2) g0 (fun r t hr ht => (hL r t hr ht).2) hI (fun t ht => by
        have := w3 t ht
        unfold six at this ⊢
        rw [s2, s2, s2, s2, s2, s2]
        exact this) r4
      have hS2 : iS ρ.1 (NS + 1) := by
        refine ⟨by omega, ?_, by rw [r1 10 0 4 (by omega), p2], fun s hs => ?_, fun s h1 h2 => ?_⟩
        · rw [q1 9 0 9 (by omega), ← e1]
          exact wi_s _ _ _ _ _ _
        · rcases Nat.lt_or_ge s NS with hsN | hsN
          · obtain ⟨nn, w, ch, hsy⟩ := hS.2.2.2.1 s hsN
            refine ⟨nn, w, ch, iSy_o2 (fun k => off 2 s k (by omega) (by omega) (by omega) (by omega)) ?_ (fun k c hc hk1 hk => ?_) hsy⟩
            · rw [r1 10 0 0 (by omega), p6 s (by omega), f1 10 0 0 (by omega) (by omega) (by omega)]
            · rw [r3 k _ hk (by omega), p1 10 0 k (by omega), f1 10 0 k (by omega) (by omega) (by omega)]
          · have : s = NS := by omega
            subst this
            exact ⟨N, wN, chN, hN⟩
        · rw [off 2 s 8 (by omega) (by omega) (by omega) (by omega)]
          exact hS.2.2.2.2 s (by omega) h2
      have hC2 : iC ρ.1 (NS + 1) NC := by
        refine ⟨hC.1, by rw [off 9 0 10 (by omega) (by omega) (by omega) (by omega)]; exact hC.2.1, by rw [off 10 0 15 (by omega) (by omega) (by omega) (by omega)]; exact hC.2.2.1, fun c hc => ?_, fun c h1 h2 => by rw [off 0 c 3 (by omega) (by omega) (by omega) (by omega)]; exact hC.2.2.2.2 c h1 h2⟩
        obtain ⟨nl, l1, l5, l3, l4, l6⟩ := hC.2.2.2.1 c hc
        refine ⟨nl, l1, l5, by rw [off 0 c 3 (by omega) (by omega) (by omega) (by omega)]; exact l3, by rw [off 10 0 11 (by omega) (by omega) (by omega) (by omega)]; exact l4, fun i hi => ?_⟩
        rw [off 0 c 0 (by omega) (by omega) (by omega) (by omega), off 0 c 1 (by omega) (by omega) (by omega) (by omega), off 0 c 2 (by omega) (by omega) (by omega) (by omega), off 10 0 12 (by omega) (by omega) (by omega) (by omega), off 10 0 13 (by omega) (by omega) (by omega) (by omega), off 10 0 14 (by omega) (by omega) (by omega) (by omega)]
        obtain ⟨y1, y2, y3, s, hs, es⟩ := l6 i hi
        exact ⟨y1, y2, y3, s, by omega, es⟩
      have hP2 : iP ρ.1 NC NP := by
        refine ⟨hP.1, by rw [off 5 0 9 (by omega) (by omega) (by omega) (by omega)]; exact hP.2.1, by rw [off 10 0 16 (by omega) (by omega) (by omega) (by omega)]; exact hP.2.2.1, fun p hp => ?_, fun p hp => ?_⟩
        · exact iP1_cong (fun k hk => by rw [off 5 0 k (by omega) (by omega) (by omega) (by omega)]) (fun k k1 k2 => by rw [off 10 0 k (by omega) (by omega) (by omega) (by omega)]) (hP.2.2.2.1 p hp)
        · have hlt := sSb_lt hC hP hp
          obtain ⟨x1, x2⟩ := sOwn_cong3 (f := σ.1) (g := ρ.1) (p := p) (fun o k => off 0 o k (by omega) (by omega) (by omega) (by omega)) (fun k => off 2 _ k (by omega) (by omega) (by omega) (by omega)) (fun k => off 5 0 k (by omega) (by omega) (by omega) (by omega))
          rw [x1, x2, off 5 0 7 (by omega) (by omega) (by omega) (by omega), off 5 0 8 (by omega) (by omega) (by omega) (by omega)]
          exact hP.2.2.2.2 p hp
      refine ⟨NS + 1, NC, NP, (⟨hT2, hS2, hC2, hP2, iW_c ?_ hW, iM_c ?_ hM, iO_c ?_ hO⟩ : iAll ρ.1 (NS + 1) NC NP)⟩
      all_goals intro c o k hk
      all_goals refine off c o k (fun e => ?_) (fun e => ?_) (fun e => ?_) (fun e => ?_)
      all_goals first
        | (obtain ⟨rfl, e⟩ := e; exact absurd (show false = true from hk) (by decide))
        | (obtain ⟨rfl, e⟩ := e; have hk' := of_decide_eq_true hk; omega)
    · have cls := (m55 59).trans (g55_0_3 (pq_RD 59) lt4 kj (by rw [o2]; exact hj) (by rw [o2]; exact hj))
      rw [o2] at cls
      generalize e1 : pm_wi τ 6 0 1 0 0 = σ1 at cls
      have f1 : ∀ c o k, ¬ (c = 6 ∧ (k = 1 ∨ k = 2 ∨ k = 3)) → σ1.1 c o k = σ.1 c o k := fun c o k h2 => by rw [← e1, wi_k (by omega), o1 c o k (by omega)]
      have b5 : σ1.1 10 0 5 = σ.1 10 0 5 := f1 10 0 5 (by omega)
      obtain ⟨ρ, km, r1, r2, r3, r4⟩ := c113e 57 (σ := σ1) (n := n) hn (by rw [f1 10 0 6 (by omega)]; exact t2) (by rw [f1 10 0 4 (by omega), s4]; intro e; have := (nI_eq (a := NS) (b := 4) (by omega) (by omega)).mp e; omega) (by rw [b5, ← jc]; exact hj)
      rw [b5, ← jc] at km r3
      rw [b5, ← pc] at r4
      refine ⟨_, _, ρ, cls, km, ?_⟩
      have off : ∀ c o k, ¬ (c = 6 ∧ (k = 1 ∨ k = 2 ∨ k = 3)) → ¬ (c = 10 ∧ (k = 6 ∨ k = 7 ∨ k = 8)) → ρ.1 c o k = σ.1 c o k := fun c o k h1 h2 => by rw [r1 c o k h2, f1 c o k h1]
      have g6 : ρ.1 6 0 1 0 = 0 := by
        rw [r1 6 0 1 (by omega), ← e1]
        exact wi_s _ _ _ _ _ _
      have g62 : ρ.1 6 0 2 0 = jK (σ.1 6 0 0) n := by
        rw [r1 6 0 2 (by omega), ← e1, wi_k (by omega), o2]
      have g63 : ρ.1 6 0 3 0 = jP (σ.1 6 0 0) n := by
        rw [r1 6 0 3 (by omega), ← e1, wi_k (by omega), o3]
      have hT2 : iT ρ.1 := ⟨0, by omega, g6, r2, fun i hi => by omega, by rw [g62, r3], by rw [g63, r4]⟩
      refine ⟨NS, NC, NP, (⟨hT2, iS_c ?_ hS, iC_c ?_ hC, iP_c ?_ hP, iW_c ?_ hW, iM_c ?_ hM, iO_c ?_ hO⟩ : iAll ρ.1 NS NC NP)⟩
      all_goals intro c o k hk
      all_goals refine off c o k (fun e => ?_) (fun e => ?_)
      all_goals (obtain ⟨rfl, rfl | rfl | rfl⟩ := e <;> exact absurd hk (by decide))
  · have e4 : NS = 4 := by omega
    subst e4
    exact ⟨_, _, _, (m55 59).trans (g55_0_4 _ (by rw [s9]; decide)), (m113 59).trans (g113_0_0 _ s4), h⟩
