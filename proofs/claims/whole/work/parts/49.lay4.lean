/-! lay: the model's loop, and the call -/
def kL (τ σ : pmS) : Prop := ∀ c o k, ¬ (c = 10 ∧ (k = 40 ∨ k = 41)) → τ.1 c o k = σ.1 c o k
theorem c172b (C : pmC) {σ : pmS} {n : Nat} {g : Nat → Nat} {x1 x2 x4 : Int32} {l5 l6 : Option pmV} (h8 : n ≤ 8) (hl : ∀ c, c < n → σ.1 10 0 40 c = nI (g c)) : ∃ τ, pq_Rn C (172, 95, [some (vR 10 0 0), some (vI x1), some (vI x2), some (vI (nI n)), some (vI x4), l5, l6, some (vI 0)], [], σ) = pq_Rn C (172, 95, [some (vR 10 0 0), some (vI x1), some (vI x2), some (vI (nI n)), some (vI x4), l5, l6, some (vI (nI n))], [], τ) ∧ (∀ c o k, ¬ (c = 10 ∧ k = 41) → τ.1 c o k = σ.1 c o k) ∧ ∀ c, c < n → τ.1 10 0 41 c = nI (g c) := by
  obtain ⟨τ, ⟨i1, i2⟩, hr⟩ := lp_ex (C := C) (S := pmS) (I := fun T τ => (∀ c o k, ¬ (c = 10 ∧ k = 41) → τ.1 c o k = σ.1 c o k) ∧ ∀ c, c < T → τ.1 10 0 41 c = nI (g c)) (fr := fun T τ => (172, 95, [some (vR 10 0 0), some (vI x1), some (vI x2), some (vI (nI n)), some (vI x4), l5, l6, some (vI (nI T))], [], τ)) (s0 := σ) ⟨fun _ _ _ _ => rfl, fun c hc => by omega⟩ (n := n) (fun T τ hT ⟨i1, i2⟩ => by
    refine ⟨pm_wi τ 10 0 41 T (nI (g T)), ⟨fun c o k hk => ?_, fun c hc => ?_⟩, ?_⟩
    · rw [wi_k hk, i1 c o k hk]
    · rcases Nat.lt_or_ge c T with h | h
      · rw [wi_i (by omega)]
        exact i2 c h
      · have : c = T := by omega
        subst this
        exact wi_s _ _ _ _ _ _
    · refine (g172_95_1 _ (nI_ge hT (by omega)) (vp_in_nI (by omega) (by omega))).trans ?_
      rw [nI_1, nI_clamp (by omega), i1 10 0 40 (by omega), hl T hT])
  exact ⟨τ, hr, i1, i2⟩
theorem c172l {s1 s2 n : Nat} {w1 ch1 w2 ch2 : Nat → Nat} {σ0 : pmS} (hs1 : s1 < 4) (hs2 : s2 < 4) (hy1 : iSy σ0.1 s1 n w1 ch1) (hy2 : iSy σ0.1 s2 n w2 ch2) {b0 : Nat → Int32} (d : Nat) : ∀ (F : Nat) (g : Nat → Nat) (σ : pmS) (m : Nat) (l6 l7 : Option pmV), 8 ^ n - lV g n ≤ F → lP n g → kL σ σ0 → (∀ c, c < n → σ.1 10 0 40 c = nI (g c)) → m ≤ 17 → lU n (fun π => lAg n (tb σ0.1 s1 0) (tb σ0.1 s1 2) (tb σ0.1 s2 0) (tb σ0.1 s2 2) π + 1) (fun π => lV π n < lV g n) 0 b0 m (σ.1 10 0 41) → ∃ τ m', pq_Rn (pq_RD (d + 2)) (172, 68, [some (vR 10 0 0), some (vI (nI s1)), some (vI (nI s2)), some (vI (nI n)), some (vI (nI m - 1)), some (vI 1), l6, l7], [], σ) = some (some (vI (nI m' - 1)), pm_wi τ 10 0 42 0 (nI n)) ∧ kL τ σ0 ∧ lU n (fun π => lAg n (tb σ0.1 s1 0) (tb σ0.1 s1 2) (tb σ0.1 s2 0) (tb σ0.1 s2 2) π + 1) (fun _ => True) 0 b0 m' (τ.1 10 0 41) := by
  have h2 := hy1.1
  have h8 := hy1.2.1
  have T0 := fun c (hc : c < n) => tb_ok hy1 (k := 0) (by omega) hc
  have T2 := fun c (hc : c < n) => tb_ok hy1 (k := 2) (by omega) hc
  -- one arrangement looked at, the next one made
  have one : ∀ (g : Nat → Nat) (σ : pmS) (m : Nat) (l6 l7 : Option pmV), lP n g → kL σ σ0 → (∀ c, c < n → σ.1 10 0 40 c = nI (g c)) → m ≤ 17 → lU n (fun π => lAg n (tb σ0.1 s1 0) (tb σ0.1 s1 2) (tb σ0.1 s2 0) (tb σ0.1 s2 2) π + 1) (fun π => lV π n < lV g n) 0 b0 m (σ.1 10 0 41) → ∃ τ m' l6' l7', kL τ σ0 ∧ (∀ c, c < n → τ.1 10 0 40 c = nI (g c)) ∧ m' ≤ 17 ∧ lU n (fun π => lAg n (tb σ0.1 s1 0) (tb σ0.1 s1 2) (tb σ0.1 s2 0) (tb σ0.1 s2 2) π + 1) (fun π => lV π n < lV g n ∨ ∀ c, c < n → π c = g c) 0 b0 m' (τ.1 10 0 41) ∧ ∀ (r : Int32) (ρ : pmS), pq_RD (d + 2) 170 [vR 10 0 0, vI (nI n)] τ = some (some (vI r), ρ) → pq_Rn (pq_RD (d + 2)) (172, 68, [some (vR 10 0 0), some (vI (nI s1)), some (vI (nI s2)), some (vI (nI n)), some (vI (nI m - 1)), some (vI 1), l6, l7], [], σ) = pq_Rn (pq_RD (d + 2)) (172, 68, [some (vR 10 0 0), some (vI (nI s1)), some (vI (nI s2)), some (vI (nI n)), some (vI (nI m' - 1)), some (vI r), l6', l7'], [], ρ) := fun g σ m l6 l7 hp hk hl hm hu => by
    have e2 : ∀ o k, σ.1 2 o k = σ0.1 2 o k := fun o k => hk 2 o k (by omega)
    have et : ∀ s k, tb σ.1 s k = tb σ0.1 s k := fun s k => by
      funext c
      unfold tb
      rw [e2]
    have k169 := c169 (d + 1) (σ := σ) hs1 hs2 (iSy_o (fun k _ _ => e2 s1 k) (fun k hk4 => hk 10 0 k (by omega)) hy1) (iSy_o (fun k _ _ => e2 s2 k) (fun k hk4 => hk 10 0 k (by omega)) hy2) (ρ := g) (fun c hc => ⟨hl c hc, hp.1 c hc⟩)
    rw [et, et, et, et] at k169
    have hA := lAg_le n (tb σ0.1 s1 0) (tb σ0.1 s1 2) (tb σ0.1 s2 0) (tb σ0.1 s2 2) g
    have lag : ∀ π, lP n π → (∀ c, c < n → π c = g c) → lAg n (tb σ0.1 s1 0) (tb σ0.1 s1 2) (tb σ0.1 s2 0) (tb σ0.1 s2 2) π = lAg n (tb σ0.1 s1 0) (tb σ0.1 s1 2) (tb σ0.1 s2 0) (tb σ0.1 s2 2) g := fun π _ e => lAg_cong (fun c hc => ⟨(T0 c hc).2, (T2 c hc).2⟩) e
    generalize hag : lAg n (tb σ0.1 s1 0) (tb σ0.1 s1 2) (tb σ0.1 s2 0) (tb σ0.1 s2 2) = ag at hu k169 hA lag ⊢
    have cmp : nI (ag g) ≤ nI m - 1 ↔ ag g + 1 ≤ m := by
      rw [fa_le, show nI m - 1 = nI m - nI 1 from rfl, pk_sub_toInt (by omega) (by omega), nI_toInt (by omega)]
      omega
    have bef : ∀ π ρ, lP n π → lP n ρ → lV π n < lV g n → (∀ c, c < n → ρ c = g c) → lV π n < lV ρ n := fun π ρ _ _ h1 h3 => by
      rw [lV_cong h3]
      exact h1
    by_cases q : ag g + 1 ≤ m
    · refine ⟨σ, m, _, _, hk, hl, hm, lU_or bef hu (lU_none (fun π h1 h3 => ?_) (fun _ _ => rfl)), fun r ρ k170 => g172_68_1 _ (by decide) k169 (cmp.mpr q) k170⟩
      show ag π + 1 ≤ m
      rw [lag π h1 h3]
      exact q
    · obtain ⟨τ, kb, o1, b1⟩ := c172b (pq_RD (d + 2)) (σ := σ) (n := n) (g := g) (x1 := nI s1) (x2 := nI s2) (x4 := nI (ag g)) (l5 := some (vI 1)) (l6 := some (vI (nI (ag g)))) h8 hl
      refine ⟨τ, ag g + 1, some (vI (nI (ag g))), some (vI (nI n)), fun c o k hk' => by rw [o1 c o k (by omega), hk c o k hk'], fun c hc => by rw [o1 10 0 40 (by omega)]; exact hl c hc, by omega, lU_or bef hu ⟨fun π h1 h3 => ?_, Or.inr ⟨by omega, g, hp, b1, fun _ _ => rfl, rfl, fun π h1 h3 h4 => ?_⟩⟩, fun r ρ k170 => ?_⟩
      · show ag π + 1 ≤ ag g + 1
        rw [lag π h1 h3]
        omega
      · rw [lV_cong h3] at h4
        omega
      · rw [nI_pred]
        exact (g172_68_2 _ (by decide) k169 (fun z => q (cmp.mp z))).trans (kb.trans (g172_95_0 _ (by rw [fa_le]; omega) k170))
  have fin : ∀ (g : Nat → Nat) (τ : pmS) (m' : Nat), kL τ σ0 → lP n g → (∀ a b, a < b → b < n → g b < g a) → lU n (fun π => lAg n (tb σ0.1 s1 0) (tb σ0.1 s1 2) (tb σ0.1 s2 0) (tb σ0.1 s2 2) π + 1) (fun π => lV π n < lV g n ∨ ∀ c, c < n → π c = g c) 0 b0 m' (τ.1 10 0 41) → lU n (fun π => lAg n (tb σ0.1 s1 0) (tb σ0.1 s1 2) (tb σ0.1 s2 0) (tb σ0.1 s2 2) π + 1) (fun _ => True) 0 b0 m' (τ.1 10 0 41) := fun g τ m' _ hp hf hu => lU_set (fun π h1 => ⟨fun _ => l_last h8 hp hf h1, fun _ => trivial⟩) hu
  intro F
  induction F with
  | zero =>
    intro g σ m l6 l7 hF hp hk hl hm hu
    have := lV_bd (π := g) (n := n) (fun c hc => by have := hp.1 c hc; omega)
    omega
  | succ F ih =>
    intro g σ m l6 l7 hF hp hk hl hm hu
    obtain ⟨τ, m', l6', l7', k1, l1, hm1, u1, go⟩ := one g σ m l6 l7 hp hk hl hm hu
    rcases c170 d (σ := τ) h2 h8 hp l1 with ⟨ρ, k170, o1, hf⟩ | ⟨ρ, g', k170, o1, l2, hp', hlt, hiff⟩
    · refine ⟨ρ, m', (go 0 ρ k170).trans (g172_68_0 _ rfl), fun c o k hk' => by rw [o1 c o k (by omega), k1 c o k hk'], ?_⟩
      rw [o1 10 0 41 (by omega)]
      exact fin g τ m' k1 hp hf u1
    · have hb := lV_bd (π := g') (n := n) (fun c hc => by have := hp'.1 c hc; omega)
      obtain ⟨τ', m'', kr, k2, u2⟩ := ih g' ρ m' l6' l7' (by omega) hp' (fun c o k hk' => by rw [o1 c o k (by omega), k1 c o k hk']) l2 hm1 (by
        rw [o1 10 0 41 (by omega)]
        exact lU_set hiff u1)
      exact ⟨τ', m'', (go 1 ρ k170).trans kr, k2, u2⟩
theorem T_lay {σ : pmS} (h : Inv σ) (x y : Int32) : Tok 81 172 [vI x, vI y] σ := by
  obtain ⟨NS, NC, NP, hh⟩ := id h
  have hh : iAll σ.1 NS NC NP := hh
  obtain ⟨hT, hS, hC, hP, hW, hM, hO⟩ := id hh
  have hNS := hS.1
  have a1 := c86 58 (σ := σ) (x1 := x)
  have a2 := c86 58 (σ := σ) (x1 := y)
  rw [hS.2.1] at a1 a2
  have b1 := c106 58 (σ := σ) (x1 := x)
  have b2 := c106 58 (σ := σ) (x1 := y)
  rw [hS.2.2.1] at b1 b2
  cases q1 : sHas (nI NS) x with
  | false =>
    rw [q1] at a1 b1
    exact ⟨_, _, _, (m81 59).trans (g81_0_0 _ a1 rfl), (m172 59).trans (g172_0_0 _ b1 rfl), h⟩
  | true =>
    have hq1 := q1
    rw [q1] at a1 b1
    cases q2 : sHas (nI NS) y with
    | false =>
      rw [q2] at a2 b2
      exact ⟨_, _, _, (m81 59).trans (g81_0_1 _ a1 (by decide) a2 rfl), (m172 59).trans (g172_0_1 _ b1 (by decide) b2 rfl), h⟩
    | true =>
      have hq2 := q2
      rw [q2] at a2 b2
      obtain ⟨ex, hx⟩ := in_nI (sHas_in (by omega) q1) (by omega)
      obtain ⟨ey, hy⟩ := in_nI (sHas_in (by omega) q2) (by omega)
      have vx : vp_in x 4 := in_le (sHas_in (by omega) q1) hNS (by omega)
      have vy : vp_in y 4 := in_le (sHas_in (by omega) q2) hNS (by omega)
      obtain ⟨n, w1, ch1, hy1⟩ := hS.2.2.2.1 _ hx
      obtain ⟨n2, w2, ch2, hy2⟩ := hS.2.2.2.1 _ hy
      have h8 := hy1.2.1
      have h82 := hy2.2.1
      have z1 := hy1.2.2.2.2.2.1
      have z2 := hy2.2.2.2.2.2.1
      have y1 := hy1.2.2.2.2.2.2.1
      have y2 := hy2.2.2.2.2.2.2.1
      by_cases en : n = n2
      · subst en
        generalize e0 : pm_wi (pm_wi (pm_wi σ 4 0 4 0 (σ.1 2 x.toNatClampNeg 8 0)) 4 0 2 0 0) 4 0 3 0 (-1) = σ0
        have o0 : ∀ c o k, ¬ (c = 4 ∧ (k = 2 ∨ k = 3 ∨ k = 4)) → σ0.1 c o k = σ.1 c o k := fun c o k hk => by rw [← e0, wi_k (by omega), wi_k (by omega), wi_k (by omega)]
        have hN : σ0.1 4 0 4 0 = nI n := by
          rw [← e0, wi_k (by omega), wi_k (by omega), wi_s]
          exact z1
        have hy1' : iSy σ0.1 x.toNatClampNeg n w1 ch1 := iSy_o (fun k _ _ => o0 2 _ k (by omega)) (fun k hk => o0 10 0 k (by omega)) hy1
        have hy2' : iSy σ0.1 y.toNatClampNeg n w2 ch2 := iSy_o (fun k _ _ => o0 2 _ k (by omega)) (fun k hk => o0 10 0 k (by omega)) hy2
        obtain ⟨τ, m, k29, oτ, -, -, bτ, m17, uτ⟩ := c29 hy1' hy2' hN (56 - n) n 0 (by omega) σ0 (fun j => j) 0 0 (fun _ _ _ _ => rfl) (fun j hj => by omega) (fun a b _ hb => by omega) (by rw [← e0, wi_k (by omega)]; exact wi_s _ _ _ _ _ _) (by omega) (fun e he => by simp) (by rw [← e0]; exact wi_s _ _ _ _ _ _) (by omega)
        rw [show 56 - n + n + 2 = 58 by omega] at k29
        have k28 : pq_RD 59 28 [vR 4 0 0, vR 2 x.toNatClampNeg 0, vR 2 y.toNatClampNeg 0] σ = some (some (vI (nI m - 1)), τ) := by
          refine ((m28 58).trans (g28_0_0 (pq_RD 58) (σ := σ) (by rw [e0]; exact k29))).trans ?_
          rw [bτ]
        have cls := (m81 59).trans (g81_0_2 (pq_RD 59) a1 (by decide) a2 (by decide) vx vy (z1.trans z2.symm) k28)
        have oc : ∀ c o k, ¬ (c = 4) → τ.1 c o k = σ.1 c o k := fun c o k hk => by rw [oτ c o k (by omega), o0 c o k (by omega)]
        have d1 := c106 58 (σ := τ) (x1 := x)
        have d2 := c106 58 (σ := τ) (x1 := y)
        rw [oc 10 0 4 (by omega), hS.2.2.1] at d1 d2
        rw [hq1] at d1
        rw [hq2] at d2
        have st := (m172 59).trans (g172_0_2 (pq_RD 59) (l3 := none) (l4 := none) (l5 := none) (l6 := none) (l7 := none) d1 (by decide) d2 (by decide) vx vy (by rw [oc 10 0 0 (by omega), y1, y2]))
        rw [oc 10 0 0 (by omega), y1] at st
        obtain ⟨τ1, ⟨i1, i2⟩, hr⟩ := lp_ex (C := pq_RD 59) (S := pmS) (I := fun T υ => kL υ τ ∧ (υ.1 10 0 41 = τ.1 10 0 41 ∧ ∀ c, c < T → υ.1 10 0 40 c = nI c)) (fr := fun T υ => (172, 41, [some (vR 10 0 0), some (vI x), some (vI y), some (vI (nI n)), some (vI (nI T)), none, none, none], [], υ)) (s0 := τ) ⟨fun _ _ _ _ => rfl, rfl, fun c hc => by omega⟩ (n := n) (fun T υ hT ⟨i1, i3, i2⟩ => by
          refine ⟨pm_wi υ 10 0 40 T (nI T), ⟨fun c o k hk => ?_, ?_, fun c hc => ?_⟩, ?_⟩
          · rw [wi_k (by omega), i1 c o k hk]
          · rw [wi_k (by omega)]
            exact i3
          · rcases Nat.lt_or_ge c T with q | q
            · rw [wi_i (by omega)]
              exact i2 c q
            · have : c = T := by omega
              subst this
              exact wi_s _ _ _ _ _ _
          · refine (g172_41_1 _ (nI_ge hT (by omega)) (vp_in_nI (by omega) (by omega))).trans ?_
            rw [nI_1, nI_clamp (by omega)])
        have st := st.trans (Eq.trans hr (g172_41_0 _ (by rw [fa_le]; omega)))
        have idp : lP n (fun c => c) := ⟨fun c hc => hc, fun a b hab _ => by show a ≠ b; omega⟩
        have hyt : ∀ {s : Nat} {w ch : Nat → Nat}, iSy σ.1 s n w ch → iSy τ.1 s n w ch := fun H => iSy_o (fun k _ _ => oc 2 _ k (by omega)) (fun k hk => oc 10 0 k (by omega)) H
        obtain ⟨ρ, m', kl, kρ, uρ⟩ := c172l (σ0 := τ) (s1 := x.toNatClampNeg) (s2 := y.toNatClampNeg) (by omega) (by omega) (hyt hy1) (hyt hy2) (b0 := τ.1 10 0 41) 57 (8 ^ n) (fun c => c) τ1 0 none none (Nat.sub_le _ _) idp i1 i2.2 (by omega) (by
          rw [i2.1]
          refine lU_none (fun π h1 h3 => ?_) (fun _ _ => rfl)
          exfalso
          rcases l_cmp π (fun c => c) n with q | ⟨e, he, ha, hne⟩
          · have h3 : lV π n < lV (fun c => c) n := h3
            rw [lV_cong (π := fun c => c) (ρ := π) q] at h3
            omega
          · have := l_rise (i := 0) h1 idp (fun a b _ h4 _ => h4) he (by omega) ha
            have h5 : lV (fun c => c) n < lV π n := lV_lt (fun c hc => by show c < 8; omega) he (fun j hj => (ha j hj).symm) (by show e < π e; have hne : π e ≠ e := hne; have this : ¬ π e < e := this; omega)
            have h3 : lV π n < lV (fun c => c) n := h3
            omega)
        rw [← ex, ← ey] at kl
        have et : ∀ s k, tb τ.1 s k = tb σ0.1 s k := fun s k => by
          funext c
          unfold tb
          rw [oc 2 s k (by omega), o0 2 s k (by omega)]
        rw [et, et, et, et] at uρ
        obtain ⟨em, hm1, eb⟩ := lU_eq h8 (fun π => by show 1 ≤ _ + 1; omega) (lU_set (fun π _ => ⟨fun _ j hj => by omega, fun _ => trivial⟩) uτ) uρ
        subst em
        refine ⟨_, _, _, cls, st.trans kl, ?_⟩
        generalize e9 : pm_wi ρ 10 0 42 0 (nI n) = υ
        have f1 : ∀ c o k, ¬ (c = 10 ∧ k = 42) → υ.1 c o k = ρ.1 c o k := fun c o k hk => by rw [← e9, wi_k hk]
        have off : ∀ c o k, ¬ (c = 4) → ¬ (c = 10 ∧ (k = 40 ∨ k = 41 ∨ k = 42)) → υ.1 c o k = σ.1 c o k := fun c o k h1 h2 => by rw [f1 c o k (by omega), kρ c o k (by omega), oc c o k h1]
        have f4 : ∀ k, υ.1 4 0 k = τ.1 4 0 k := fun k => by rw [f1 4 0 k (by omega), kρ 4 0 k (by omega)]
        have hO2 : iO υ.1 := ⟨n, h8, by rw [f4, oτ 4 0 4 (by omega)]; exact hN, by rw [← e9]; exact wi_s _ _ _ _ _ _, fun c hc => by rw [f4, f1 10 0 41 (by omega)]; exact eb c hc⟩
        refine ⟨NS, NC, NP, (⟨iT_c ?_ hT, iS_c ?_ hS, iC_c ?_ hC, iP_c ?_ hP, iW_c ?_ hW, iM_c ?_ hM, hO2⟩ : iAll υ.1 NS NC NP)⟩
        all_goals intro c o k hk
        all_goals refine off c o k (fun e => ?_) (fun e => ?_)
        all_goals first
          | (subst e; exact absurd (show false = true from hk) (by decide))
          | (obtain ⟨rfl, e⟩ := e; have hk' := of_decide_eq_true hk; omega)
      · exact ⟨_, _, _, (m81 59).trans (g81_0_3 _ a1 (by decide) a2 (by decide) vx vy (by rw [z1, z2]; exact fun e => en ((nI_eq (by omega) (by omega)).mp e))), (m172 59).trans (g172_0_3 _ b1 (by decide) b2 (by decide) vx vy (by rw [y1, y2]; exact fun e => en ((nI_eq (by omega) (by omega)).mp e).symm)), h⟩
