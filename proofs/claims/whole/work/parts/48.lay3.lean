/-! lay: the model, one arrangement after another -/
theorem lAg_cong {n : Nat} {t u t2 u2 π ρ : Nat → Nat} (h1 : ∀ c, c < n → t c < n ∧ u c < n) (e : ∀ c, c < n → π c = ρ c) : lAg n t u t2 u2 π = lAg n t u t2 u2 ρ := fb_sm_cong (fun c hc => by
  show ib (decide (π (t c) = t2 (π c))) + ib (decide (π (u c) = u2 (π c))) = ib (decide (ρ (t c) = t2 (ρ c))) + ib (decide (ρ (u c) = u2 (ρ c)))
  rw [e _ (h1 c hc).1, e _ (h1 c hc).2, e c hc])
theorem lAg_le (n : Nat) (t u t2 u2 π : Nat → Nat) : lAg n t u t2 u2 π ≤ n * 2 := fb_sm_bound (fun c _ => by
  show ib (decide (π (t c) = t2 (π c))) + ib (decide (π (u c) = u2 (π c))) ≤ 2
  unfold ib
  split <;> split <;> omega)
theorem c169 (d : Nat) {σ : pmS} {s1 s2 n : Nat} {w1 ch1 w2 ch2 : Nat → Nat} (hs1 : s1 < 4) (hs2 : s2 < 4) (hy1 : iSy σ.1 s1 n w1 ch1) (hy2 : iSy σ.1 s2 n w2 ch2) {ρ : Nat → Nat} (hl : ∀ c, c < n → σ.1 10 0 40 c = nI (ρ c) ∧ ρ c < n) : pq_RD (d + 1) 169 [vR 10 0 0, vI (nI s1), vI (nI s2)] σ = some (some (vI (nI (lAg n (tb σ.1 s1 0) (tb σ.1 s1 2) (tb σ.1 s2 0) (tb σ.1 s2 2) ρ))), σ) := by
  have h8 := hy1.2.1
  have es : (nI s1).toNatClampNeg = s1 := nI_clamp (by omega)
  have vs : vp_in (nI s1) 4 := vp_in_nI hs1 (by omega)
  have z2 := hy1.2.2.2.2.2.2.1
  have W1 : ∀ c, c < n → σ.1 10 0 1 (8 * s1 + c) = nI (tb σ.1 s1 0 c) ∧ σ.1 10 0 2 (8 * s1 + c) = nI (tb σ.1 s1 2 c) := fun c hc => by
    rw [(tb_inv hy1 hc).1, (tb_inv hy1 hc).2.1]
    exact ⟨(hy1.2.2.2.2.2.2.2 c hc).2.2.2.2.2.2.1, (hy1.2.2.2.2.2.2.2 c hc).2.2.2.2.2.2.2.1⟩
  have W2 : ∀ c, c < n → σ.1 10 0 1 (8 * s2 + c) = nI (tb σ.1 s2 0 c) ∧ σ.1 10 0 2 (8 * s2 + c) = nI (tb σ.1 s2 2 c) := fun c hc => by
    rw [(tb_inv hy2 hc).1, (tb_inv hy2 hc).2.1]
    exact ⟨(hy2.2.2.2.2.2.2.2 c hc).2.2.2.2.2.2.1, (hy2.2.2.2.2.2.2.2 c hc).2.2.2.2.2.2.2.1⟩
  refine (m169 d).trans ((g169_0_0 _).trans ?_)
  refine (lp_n (C := pq_RD d) (fr := fun k => (169, 5, [some (vR 10 0 0), some (vI (nI s1)), some (vI (nI s2)), some (vI (nI (lAg k (tb σ.1 s1 0) (tb σ.1 s1 2) (tb σ.1 s2 0) (tb σ.1 s2 2) ρ))), some (vI (nI k))], [], σ)) (n := n) (fun k hk => ?_)).trans ?_
  · have hg : ¬ σ.1 10 0 0 (nI s1).toNatClampNeg ≤ nI k := by rw [es, z2]; exact nI_ge hk (by omega)
    obtain ⟨-, v1, e1⟩ := ix8 hs1 (by omega : k < 8)
    obtain ⟨y0, l0⟩ := tb_ok hy1 (k := 0) (by omega) hk
    obtain ⟨y2, l2⟩ := tb_ok hy1 (k := 2) (by omega) hk
    obtain ⟨lk, rk⟩ := hl k hk
    obtain ⟨r0, q0⟩ := tb_ok hy2 (k := 0) (by omega) rk
    obtain ⟨r2, q2⟩ := tb_ok hy2 (k := 2) (by omega) rk
    obtain ⟨-, v2, e2⟩ := ix8 hs2 (by omega : ρ k < 8)
    have ek : (nI k).toNatClampNeg = k := nI_clamp (by omega)
    have vk : vp_in (nI k) 8 := vp_in_nI (by omega) (by omega)
    have a0 : σ.1 10 0 1 ((8 : Int32) * nI s1 + nI k).toNatClampNeg = nI (tb σ.1 s1 0 k) := by rw [e1]; exact (W1 k hk).1
    have a2 : σ.1 10 0 2 ((8 : Int32) * nI s1 + nI k).toNatClampNeg = nI (tb σ.1 s1 2 k) := by rw [e1]; exact (W1 k hk).2
    have lk' : σ.1 10 0 40 (nI k).toNatClampNeg = nI (ρ k) := by rw [ek]; exact lk
    have b0 : σ.1 10 0 1 ((8 : Int32) * nI s2 + σ.1 10 0 40 (nI k).toNatClampNeg).toNatClampNeg = nI (tb σ.1 s2 0 (ρ k)) := by rw [lk', e2]; exact (W2 _ rk).1
    have b2 : σ.1 10 0 2 ((8 : Int32) * nI s2 + σ.1 10 0 40 (nI k).toNatClampNeg).toNatClampNeg = nI (tb σ.1 s2 2 (ρ k)) := by rw [lk', e2]; exact (W2 _ rk).2
    have c0 : σ.1 10 0 40 (σ.1 10 0 1 ((8 : Int32) * nI s1 + nI k).toNatClampNeg).toNatClampNeg = nI (ρ (tb σ.1 s1 0 k)) := by rw [a0, nI_clamp (by omega)]; exact (hl _ l0).1
    have c2 : σ.1 10 0 40 (σ.1 10 0 2 ((8 : Int32) * nI s1 + nI k).toNatClampNeg).toNatClampNeg = nI (ρ (tb σ.1 s1 2 k)) := by rw [a2, nI_clamp (by omega)]; exact (hl _ l2).1
    have va0 : vp_in (σ.1 10 0 1 ((8 : Int32) * nI s1 + nI k).toNatClampNeg) 8 := by rw [a0]; exact vp_in_nI (by omega) (by omega)
    have va2 : vp_in (σ.1 10 0 2 ((8 : Int32) * nI s1 + nI k).toNatClampNeg) 8 := by rw [a2]; exact vp_in_nI (by omega) (by omega)
    have vb : vp_in ((8 : Int32) * nI s2 + σ.1 10 0 40 (nI k).toNatClampNeg) 32 := by rw [lk']; exact v2
    have E0 : (σ.1 10 0 40 (σ.1 10 0 1 ((8 : Int32) * nI s1 + nI k).toNatClampNeg).toNatClampNeg = σ.1 10 0 1 ((8 : Int32) * nI s2 + σ.1 10 0 40 (nI k).toNatClampNeg).toNatClampNeg) ↔ ρ (tb σ.1 s1 0 k) = tb σ.1 s2 0 (ρ k) := by
      rw [c0, b0]
      exact nI_eq (by have := (hl _ l0).2; omega) (by omega)
    have E2 : (σ.1 10 0 40 (σ.1 10 0 2 ((8 : Int32) * nI s1 + nI k).toNatClampNeg).toNatClampNeg = σ.1 10 0 2 ((8 : Int32) * nI s2 + σ.1 10 0 40 (nI k).toNatClampNeg).toNatClampNeg) ↔ ρ (tb σ.1 s1 2 k) = tb σ.1 s2 2 (ρ k) := by
      rw [c2, b2]
      exact nI_eq (by have := (hl _ l2).2; omega) (by omega)
    have eS : nI (lAg (k + 1) (tb σ.1 s1 0) (tb σ.1 s1 2) (tb σ.1 s2 0) (tb σ.1 s2 2) ρ) = nI (lAg k (tb σ.1 s1 0) (tb σ.1 s1 2) (tb σ.1 s2 0) (tb σ.1 s2 2) ρ) + nI (ib (decide (ρ (tb σ.1 s1 0 k) = tb σ.1 s2 0 (ρ k)))) + nI (ib (decide (ρ (tb σ.1 s1 2 k) = tb σ.1 s2 2 (ρ k)))) := by
      rw [nI_add, nI_add, Nat.add_assoc]
      rfl
    rw [eS, ← nI_1 k]
    by_cases x0 : ρ (tb σ.1 s1 0 k) = tb σ.1 s2 0 (ρ k)
    · by_cases x2 : ρ (tb σ.1 s1 2 k) = tb σ.1 s2 2 (ρ k)
      · rw [show decide (ρ (tb σ.1 s1 0 k) = tb σ.1 s2 0 (ρ k)) = true by simpa using x0, show decide (ρ (tb σ.1 s1 2 k) = tb σ.1 s2 2 (ρ k)) = true by simpa using x2]
        exact g169_5_1 _ vs hg v1 va0 vk vb (E0.mpr x0) va2 (E2.mpr x2)
      · rw [show decide (ρ (tb σ.1 s1 0 k) = tb σ.1 s2 0 (ρ k)) = true by simpa using x0, show decide (ρ (tb σ.1 s1 2 k) = tb σ.1 s2 2 (ρ k)) = false by simpa using x2]
        exact g169_5_2 _ vs hg v1 va0 vk vb (E0.mpr x0) va2 (fun z => x2 (E2.mp z))
    · by_cases x2 : ρ (tb σ.1 s1 2 k) = tb σ.1 s2 2 (ρ k)
      · rw [show decide (ρ (tb σ.1 s1 0 k) = tb σ.1 s2 0 (ρ k)) = false by simpa using x0, show decide (ρ (tb σ.1 s1 2 k) = tb σ.1 s2 2 (ρ k)) = true by simpa using x2]
        exact g169_5_3 _ vs hg v1 va0 vk vb (fun z => x0 (E0.mp z)) va2 (E2.mpr x2)
      · rw [show decide (ρ (tb σ.1 s1 0 k) = tb σ.1 s2 0 (ρ k)) = false by simpa using x0, show decide (ρ (tb σ.1 s1 2 k) = tb σ.1 s2 2 (ρ k)) = false by simpa using x2]
        exact g169_5_4 _ vs hg v1 va0 vk vb (fun z => x0 (E0.mp z)) va2 (fun z => x2 (E2.mp z))
  · exact g169_5_0 _ vs (by rw [es, z2, fa_le]; omega)
/-! exchanging two -/
def sw (g : Nat → Nat) (a b j : Nat) : Nat := if j = b then g a else if j = a then g b else g j
theorem sw_lP {n a b : Nat} {g : Nat → Nat} (h : lP n g) (ha : a < n) (hb : b < n) : lP n (sw g a b) := by
  have inj := fun x y (hx : x < n) (hy : y < n) (e : g x = g y) => lP_inj h hx hy e
  refine ⟨fun c hc => ?_, fun x y hxy hy e => ?_⟩
  · unfold sw
    split
    · exact h.1 a ha
    · split
      · exact h.1 b hb
      · exact h.1 c hc
  · unfold sw at e
    have i1 := inj a b ha hb
    have i2 := inj x y (by omega) hy
    have i3 := inj a y ha hy
    have i4 := inj b y hb hy
    have i5 := inj x a (by omega) ha
    have i6 := inj x b (by omega) hb
    split at e <;> (try split at e) <;> (try split at e) <;> (try split at e) <;> omega
theorem c171 (d : Nat) {σ : pmS} {n a b : Nat} {g : Nat → Nat} (h8 : n ≤ 8) (ha : a < n) (hb : b < n) (hl : ∀ c, c < n → σ.1 10 0 40 c = nI (g c)) : ∃ τ, pq_RD (d + 1) 171 [vR 10 0 0, vI (nI a), vI (nI b)] σ = some (none, τ) ∧ (∀ c o k, ¬ (c = 10 ∧ k = 40) → τ.1 c o k = σ.1 c o k) ∧ ∀ c, c < n → τ.1 10 0 40 c = nI (sw g a b c) := by
  have st := (m171 d).trans (g171_0_0 (pq_RD d) (l3 := none) (σ := σ) (x1 := nI a) (x2 := nI b) (vp_in_nI (by omega) (by omega)) (vp_in_nI (by omega) (by omega)))
  rw [nI_clamp (by omega), nI_clamp (by omega), hl a ha, hl b hb] at st
  refine ⟨_, st, fun c o k hk => ?_, fun c hc => ?_⟩
  · rw [wi_k hk, wi_k hk]
  · unfold sw
    by_cases q1 : c = b
    · rw [if_pos q1, q1]
      exact wi_s _ _ _ _ _ _
    · rw [if_neg q1, wi_i q1]
      by_cases q2 : c = a
      · rw [if_pos q2, q2]
        exact wi_s _ _ _ _ _ _
      · rw [if_neg q2, wi_i q2]
        exact hl c hc
theorem fall_adj {n i : Nat} {g : Nat → Nat} (h : ∀ j, i < j → j + 1 < n → g (j + 1) < g j) : ∀ b a, i < a → a < b → b < n → g b < g a
  | 0, a, _, h2, _ => by omega
  | b + 1, a, h1, h2, h3 => by
    have hb := h b (by omega) h3
    rcases Nat.lt_or_ge a b with q | q
    · have := fall_adj h b a h1 q (by omega)
      omega
    · have : a = b := by omega
      subst this
      exact hb
/-- the end turned round, t of its pairs -/
def rv (g : Nat → Nat) (n i t j : Nat) : Nat := if (i < j ∧ j < i + 1 + t) ∨ (n - 1 - t < j ∧ j < n) then g (n + i - j) else g j
theorem c170 (d : Nat) {σ : pmS} {n : Nat} {g : Nat → Nat} (h2 : 2 ≤ n) (h8 : n ≤ 8) (hp : lP n g) (hl : ∀ c, c < n → σ.1 10 0 40 c = nI (g c)) : (∃ τ, pq_RD (d + 2) 170 [vR 10 0 0, vI (nI n)] σ = some (some (vI 0), τ) ∧ (∀ c o k, ¬ (c = 10 ∧ k = 40) → τ.1 c o k = σ.1 c o k) ∧ ∀ a b, a < b → b < n → g b < g a) ∨ ∃ τ g', pq_RD (d + 2) 170 [vR 10 0 0, vI (nI n)] σ = some (some (vI 1), τ) ∧ (∀ c o k, ¬ (c = 10 ∧ k = 40) → τ.1 c o k = σ.1 c o k) ∧ (∀ c, c < n → τ.1 10 0 40 c = nI (g' c)) ∧ lP n g' ∧ lV g n < lV g' n ∧ ∀ π, lP n π → (lV π n < lV g' n ↔ lV π n < lV g n ∨ ∀ c, c < n → π c = g c) := by
  have lt31 : ∀ c, c < n → g c < 2 ^ 31 := fun c hc => by have := hp.1 c hc; omega
  have e2 : nI n - 2 = nI (n - 1) - 1 := by
    have h1 : nI n - 2 = nI (n - 2) := pk_sub (a := n) (b := 2) h2
    have h3 : nI (n - 1) - 1 = nI (n - 1 - 1) := pk_sub (a := n - 1) (b := 1) (by omega)
    rw [h1, h3]
    congr 1
  have st := (m170 (d + 1)).trans (g170_0_0 (pq_RD (d + 1)) (l2 := none) (l3 := none) (l4 := none) (l5 := none) (σ := σ) (x1 := nI n))
  rw [e2] at st
  have run := lp_first (C := pq_RD (d + 1)) (fr := fun k => (170, 4, [some (vR 10 0 0), some (vI (nI n)), some (vI (nI (n - 1 - k) - 1)), none, none, none], [], σ)) (p := fun k => decide (g (n - 1 - (k + 1)) < g (n - 1 - (k + 1) + 1))) (n := n - 1) (fun k hk hq => by
    obtain ⟨d1, d2⟩ := nI_dn (n := n - 1) (k := k) hk
    have hq := of_decide_eq_false hq
    have q1 := hl (n - 1 - (k + 1)) (by omega)
    have q2 := hl (n - 1 - (k + 1) + 1) (by omega)
    have ne := hp.2 (n - 1 - (k + 1)) (n - 1 - (k + 1) + 1) (by omega) (by omega)
    have st := g170_4_4 (pq_RD (d + 1)) (l3 := none) (l4 := none) (l5 := none) (σ := σ) (x1 := nI n) (x2 := nI (n - 1 - k) - 1) (by rw [d2]; exact nI_pos (by omega)) (by rw [d2]; exact vp_in_nI (by omega) (by omega)) (by rw [d2, nI_1]; exact vp_in_nI (by omega) (by omega)) (by rw [d2, nI_1, nI_clamp (by omega), nI_clamp (by omega), q1, q2]; exact nI_ge (by omega) (lt31 _ (by omega)))
    rw [d1] at st
    exact st)
  have st := st.trans run
  have hle := fa_first_le (fun k => decide (g (n - 1 - (k + 1)) < g (n - 1 - (k + 1) + 1))) (n - 1)
  have hno := fa_first_no (fun k => decide (g (n - 1 - (k + 1)) < g (n - 1 - (k + 1) + 1))) (n - 1)
  have hyes := fa_first_yes (fun k => decide (g (n - 1 - (k + 1)) < g (n - 1 - (k + 1) + 1))) (n - 1)
  generalize fa_first (fun k => decide (g (n - 1 - (k + 1)) < g (n - 1 - (k + 1) + 1))) (n - 1) = K at hle hno hyes st
  have adj : ∀ j, n - 1 - K ≤ j → j + 1 < n → g (j + 1) < g j := fun j h1 h3 => by
    have hq := of_decide_eq_false (hno (n - 2 - j) (by omega))
    rw [show n - 1 - (n - 2 - j + 1) = j by omega] at hq
    have ne := hp.2 j (j + 1) (by omega) h3
    omega
  rcases Nat.lt_or_ge K (n - 1) with hK | hK
  · right
    obtain ⟨i, hi⟩ : ∃ i, i = n - 1 - (K + 1) := ⟨_, rfl⟩
    have hy := of_decide_eq_true (hyes hK)
    rw [← hi] at hy
    obtain ⟨-, d2⟩ := nI_dn (n := n - 1) (k := K) hK
    rw [← hi] at d2
    rw [d2] at st
    have hin : i + 1 < n := by omega
    have hf : ∀ a b, i < a → a < b → b < n → g b < g a := fun a b h1 h3 h4 => fall_adj (i := i) (fun j h5 h6 => adj j (by omega) h6) b a h1 h3 h4
    have ei : (nI i).toNatClampNeg = i := nI_clamp (by omega)
    have vi : vp_in (nI i) 8 := vp_in_nI (by omega) (by omega)
    have st := st.trans (g170_4_2 (pq_RD (d + 1)) (nI_pos (by omega)) vi (by rw [nI_1]; exact vp_in_nI (by omega) (by omega)) (by rw [nI_1, ei, nI_clamp (by omega), hl i (by omega), hl (i + 1) hin]; exact nI_le (by omega) (lt31 _ hin)) (nI_pos' (by omega)))
    have run2 := lp_first (C := pq_RD (d + 1)) (fr := fun k => (170, 41, [some (vR 10 0 0), some (vI (nI n)), some (vI (nI i)), some (vI (nI (n - k) - 1)), none, none], [], σ)) (p := fun k => decide (g i < g (n - (k + 1)))) (n := n - 1 - i) (fun k hk hq => by
      obtain ⟨d1, d2⟩ := nI_dn (n := n) (k := k) (by omega)
      have hq := of_decide_eq_false hq
      have ne := hp.2 i (n - (k + 1)) (by omega) (by omega)
      have st := g170_41_1 (pq_RD (d + 1)) (l4 := none) (l5 := none) (σ := σ) (x1 := nI n) (x2 := nI i) (x3 := nI (n - k) - 1) (by rw [d2]; exact vp_in_nI (by omega) (by omega)) vi (by rw [d2, ei, nI_clamp (by omega), hl i (by omega), hl (n - (k + 1)) (by omega)]; exact nI_ge (by omega) (lt31 _ (by omega)))
      rw [d1] at st
      exact st)
    have st := st.trans run2
    have hle2 := fa_first_le (fun k => decide (g i < g (n - (k + 1)))) (n - 1 - i)
    have hno2 := fa_first_no (fun k => decide (g i < g (n - (k + 1)))) (n - 1 - i)
    have hyes2 := fa_first_yes (fun k => decide (g i < g (n - (k + 1)))) (n - 1 - i)
    generalize fa_first (fun k => decide (g i < g (n - (k + 1)))) (n - 1 - i) = T at hle2 hno2 hyes2 st
    have hT : T < n - 1 - i := by
      rcases Nat.lt_or_ge T (n - 1 - i) with q | q
      · exact q
      · have := of_decide_eq_false (hno2 (n - 2 - i) (by omega))
        rw [show n - (n - 2 - i + 1) = i + 1 by omega] at this
        exact absurd hy this
    obtain ⟨k, hk⟩ : ∃ k, k = n - (T + 1) := ⟨_, rfl⟩
    have hyk := of_decide_eq_true (hyes2 hT)
    rw [← hk] at hyk
    have hlst : ∀ j, k < j → j < n → g j < g i := fun j h1 h3 => by
      have := of_decide_eq_false (hno2 (n - 1 - j) (by omega))
      rw [show n - (n - 1 - j + 1) = j by omega] at this
      have ne := hp.2 i j (by omega) h3
      omega
    obtain ⟨-, d3⟩ := nI_dn (n := n) (k := T) (by omega)
    rw [← hk] at d3
    rw [d3] at st
    have ek : (nI k).toNatClampNeg = k := nI_clamp (by omega)
    obtain ⟨σ1, ks, o1, l1⟩ := c171 d (σ := σ) (n := n) (a := i) (b := k) (g := g) h8 (by omega) (by omega) hl
    have st := st.trans (g170_41_0 (pq_RD (d + 1)) (vp_in_nI (by omega) (by omega)) vi (by rw [ei, ek, hl i (by omega), hl k (by omega)]; exact nI_le (by omega) (lt31 _ (by omega))) ks)
    rw [nI_1 i] at st
    have hpm := sw_lP hp (a := i) (b := k) (by omega) (by omega)
    generalize eμ : sw g i k = μ at l1 hpm
    have μi : μ i = g k := by
      rw [← eμ]
      unfold sw
      rw [if_neg (by omega), if_pos rfl]
    have μk : μ k = g i := by
      rw [← eμ]
      unfold sw
      rw [if_pos rfl]
    have μj : ∀ j, j ≠ i → j ≠ k → μ j = g j := fun j h1 h3 => by
      rw [← eμ]
      unfold sw
      rw [if_neg h3, if_neg h1]
    obtain ⟨τ, ⟨t1, t2⟩, hr⟩ := lp_ex (C := pq_RD (d + 1)) (S := pmS) (I := fun t τ => (∀ c o k, ¬ (c = 10 ∧ k = 40) → τ.1 c o k = σ.1 c o k) ∧ ∀ c, c < n → τ.1 10 0 40 c = nI (rv μ n i t c)) (fr := fun t τ => (170, 78, [some (vR 10 0 0), some (vI (nI n)), some (vI (nI i)), some (vI (nI k)), some (vI (nI (i + 1 + t))), some (vI (nI (n - t) - 1))], [], τ)) (s0 := σ1) ⟨o1, fun c hc => by
      rw [l1 c hc]
      unfold rv
      rw [if_neg (by omega)]⟩ (n := (n - 1 - i) / 2) (fun t τ ht ⟨t1, t2⟩ => by
      obtain ⟨d4, d5⟩ := nI_dn (n := n) (k := t) (by omega)
      obtain ⟨τ', ks', o', l'⟩ := c171 d (σ := τ) (n := n) (a := i + 1 + t) (b := n - (t + 1)) (g := rv μ n i t) h8 (by omega) (by omega) t2
      refine ⟨τ', ⟨fun c o k hk => by rw [o' c o k hk, t1 c o k hk], fun c hc => ?_⟩, ?_⟩
      · rw [l' c hc]
        congr 1
        unfold sw rv
        by_cases q1 : c = n - (t + 1)
        · rw [if_pos q1, if_neg (by omega), if_pos (by omega)]
          congr 1
          omega
        · rw [if_neg q1]
          by_cases q2 : c = i + 1 + t
          · rw [if_pos q2, if_neg (by omega), if_pos (by omega)]
            congr 1
            omega
          · rw [if_neg q2]
            by_cases q3 : (i < c ∧ c < i + 1 + t) ∨ (n - 1 - t < c ∧ c < n)
            · rw [if_pos q3, if_pos (by omega)]
            · rw [if_neg q3, if_neg (by omega)]
      · have st := g170_78_1 (pq_RD (d + 1)) (l1 := some (vI (nI n))) (l2 := some (vI (nI i))) (l3 := some (vI (nI k))) (σ := τ) (x4 := nI (i + 1 + t)) (x5 := nI (n - t) - 1) (by rw [d5]; exact nI_ge (by omega) (by omega)) (by rw [d5]; exact ks')
        rw [d4, nI_1 (i + 1 + t)] at st
        exact st)
    refine ⟨τ, fun j => if i < j then μ (n + i - j) else μ j, st.trans (Eq.trans hr (g170_78_0 _ ?_)), t1, fun c hc => ?_, ?_, ?_⟩
    · have : nI (n - (n - 1 - i) / 2) - 1 = nI (n - (n - 1 - i) / 2 - 1) := pk_sub (a := n - (n - 1 - i) / 2) (b := 1) (by omega)
      rw [this]
      exact nI_le (by omega) (by omega)
    · rw [t2 c hc]
      congr 1
      unfold rv
      show _ = if i < c then μ (n + i - c) else μ c
      by_cases q : i < c
      · rw [if_pos q]
        by_cases q2 : (i < c ∧ c < i + 1 + (n - 1 - i) / 2) ∨ (n - 1 - (n - 1 - i) / 2 < c ∧ c < n)
        · rw [if_pos q2]
        · rw [if_neg q2]
          congr 1
          omega
      · rw [if_neg q, if_neg (by omega)]
    · refine ⟨fun c hc => ?_, fun a b hab hb e => ?_⟩
      · show (if i < c then μ (n + i - c) else μ c) < n
        split
        · exact hpm.1 _ (by omega)
        · exact hpm.1 _ hc
      · have e : (if i < a then μ (n + i - a) else μ a) = if i < b then μ (n + i - b) else μ b := e
        split at e <;> split at e
        · have := lP_inj hpm (by omega) (by omega) e
          omega
        · omega
        · have := lP_inj hpm (by omega) (by omega) e
          omega
        · have := lP_inj hpm (by omega) (by omega) e
          omega
    · have mf : ∀ a b, i < a → a < b → b < n → μ b < μ a := fun a b h1 h3 h4 => by
        by_cases q1 : a = k
        · rw [q1, μk, μj b (by omega) (by omega)]
          exact hlst b (by omega) h4
        · by_cases q3 : b = k
          · rw [q3, μk, μj a (by omega) q1]
            have := hf a k h1 (by omega) (by omega)
            omega
          · rw [μj a (by omega) q1, μj b (by omega) q3]
            exact hf a b h1 h3 h4
      have lP' : lP n (fun j => if i < j then μ (n + i - j) else μ j) := by
        refine ⟨fun c hc => ?_, fun a b hab hb e => ?_⟩
        · show (if i < c then μ (n + i - c) else μ c) < n
          split
          · exact hpm.1 _ (by omega)
          · exact hpm.1 _ hc
        · have e : (if i < a then μ (n + i - a) else μ a) = if i < b then μ (n + i - b) else μ b := e
          split at e <;> split at e
          · have := lP_inj hpm (by omega) (by omega) e
            omega
          · omega
          · have := lP_inj hpm (by omega) (by omega) e
            omega
          · have := lP_inj hpm (by omega) (by omega) e
            omega
      refine l_next (i := i) (k := k) h8 hp lP' (by omega) hf (by omega) (by omega) hyk hlst (fun j hj => ?_) ?_ (fun a b h1 h3 h4 => ?_)
      · show (if i < j then μ (n + i - j) else μ j) = g j
        rw [if_neg (by omega)]
        exact μj j (by omega) (by omega)
      · show (if i < i then μ (n + i - i) else μ i) = g k
        rw [if_neg (by omega)]
        exact μi
      · show (if i < a then μ (n + i - a) else μ a) < if i < b then μ (n + i - b) else μ b
        rw [if_pos h1, if_pos (by omega)]
        exact mf _ _ (by omega) (by omega) (by omega)
  · left
    have e : K = n - 1 := by omega
    subst e
    have st := st.trans (g170_4_1 (pq_RD (d + 1)) (by rw [Nat.sub_self]; decide) (by rw [Nat.sub_self]; decide))
    refine ⟨σ, st, fun _ _ _ _ => rfl, fun a b h1 h3 => ?_⟩
    rcases Nat.eq_zero_or_pos a with q | q
    · subst q
      have h01 := adj 0 (by omega) (by omega)
      rcases Nat.eq_or_lt_of_le h1 with z | z
      · rw [← z]
        exact h01
      · have := fall_adj (i := 0) (fun j h5 h6 => adj j (by omega) h6) b 1 (by omega) (by omega) h3
        have h01 : g 1 < g 0 := h01
        omega
    · exact fall_adj (i := 0) (fun j h5 h6 => adj j (by omega) h6) b a q h1 h3
