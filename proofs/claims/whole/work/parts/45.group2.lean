/-! group: the model's loops -/
/-- what of the store the model's loop leaves alone -/
def gO (τ σ : pmS) : Prop := ∀ c o k, ¬ (c = 10 ∧ k = 10) → τ.1 c o k = σ.1 c o k
theorem gO_n {τ σ : pmS} (h : gO τ σ) {s : Nat} {v : Int32} (e : σ.1 10 0 0 s = v) : τ.1 10 0 0 s = v := by
  rw [h 10 0 0 (by omega)]
  exact e
theorem iSy_g {τ σ : pmS} {s n : Nat} {w ch : Nat → Nat} (h : gO τ σ) (H : iSy σ.1 s n w ch) : iSy τ.1 s n w ch := iSy_o (fun k _ _ => h 2 s k (by omega)) (fun k hk => h 10 0 k (by omega)) H
/-- the three turnings that come of one -/
def gX (A B : Int32 → Int32) (x : Int32) (t : Nat) : Int32 := if t = 0 then A x else if t = 1 then B x else B (A x)
theorem gX_R {n : Nat} {A B : Int32 → Int32} {x : Int32} (h : gR n A B x) (t : Nat) : gR n A B (gX A B x t) := by
  unfold gX
  split
  · exact (gR_s h).1
  · split
    · exact (gR_s h).2
    · exact (gR_s (gR_s h).1).2
theorem c129s (d : Nat) {s n : Nat} {w ch : Nat → Nat} (hs : s < 4) {σ : pmS} (hsy : iSy σ.1 s n w ch) {z k t : Nat} (hz : z < 1000) (hk : k < z) (ht : t < 3) (hg : gL n (fun x => trn (σ.1 2 s 0) x n) (fun x => trn (σ.1 2 s 2) x n) (σ.1 10 0 10) z) (l : Option pmV) : ∃ τ z' l', pq_Rn (pq_RD (d + 1)) (129, 61, [some (vR 10 0 0), some (vI (nI s)), some (vI (nI z)), some (vI (nI k)), some (vI (nI t)), l], [], σ) = pq_Rn (pq_RD (d + 1)) (129, 61, [some (vR 10 0 0), some (vI (nI s)), some (vI (nI z')), some (vI (nI k)), some (vI (nI (t + 1))), l'], [], τ) ∧ gO τ σ ∧ gL n (fun x => trn (σ.1 2 s 0) x n) (fun x => trn (σ.1 2 s 2) x n) (τ.1 10 0 10) z' ∧ z ≤ z' ∧ (∀ i, i < z → τ.1 10 0 10 i = σ.1 10 0 10 i) ∧ ∃ j, j < z' ∧ τ.1 10 0 10 j = gX (fun x => trn (σ.1 2 s 0) x n) (fun x => trn (σ.1 2 s 2) x n) (σ.1 10 0 10 k) t := by
  have h8 := hsy.2.1
  have z2 := hsy.2.2.2.2.2.2.1
  have ek : (nI k).toNatClampNeg = k := nI_clamp (by omega)
  have ez : (nI z).toNatClampNeg = z := nI_clamp (by omega)
  have rx := hg.2.2.2.2 k hk
  have vx := gR_V hsy rx
  obtain ⟨tA, tB, tM⟩ := gTab hsy vx
  have rX := gX_R rx t
  have g3 : ¬ (3 : Int32) ≤ nI t := nI_ge (b := 3) ht (by decide)
  have gk : ¬ (1000 : Int32) ≤ nI z := nI_ge (b := 1000) hz (by decide)
  have vk : vp_in (nI k) 1000 := vp_in_nI (by omega) (by omega)
  have vz : vp_in (nI z) 1000 := vp_in_nI (by omega) (by omega)
  have k1 := c127a d (σ := σ) (s := s) (n := n) (x := σ.1 10 0 10 k) hs h8 z2
  have k2 := c127b d (σ := σ) (s := s) (n := n) (x := σ.1 10 0 10 k) hs h8 z2
  have k3 := c127c d (σ := σ) (s := s) (n := n) (x := σ.1 10 0 10 k) hs h8 z2
  rw [tA] at k1
  rw [tB] at k2
  rw [tM] at k3
  generalize eX : gX (fun x => trn (σ.1 2 s 0) x n) (fun x => trn (σ.1 2 s 2) x n) (σ.1 10 0 10 k) t = X at rX
  have kn := c128 d (σ := σ) (z := z) (x := X) (by omega)
  have old : ∀ r2 : Int32, pq_RD (d + 1) 128 [vR 10 0 0, vI X, vI (nI z)] σ = some (some (vI r2), σ) → (r2 = 0 → pq_Rn (pq_RD (d + 1)) (129, 61, [some (vR 10 0 0), some (vI (nI s)), some (vI (nI z)), some (vI (nI k)), some (vI (nI t)), l], [], σ) = pq_Rn (pq_RD (d + 1)) (129, 61, [some (vR 10 0 0), some (vI (nI s)), some (vI (nI z)), some (vI (nI k)), some (vI (nI (t + 1))), some (vI X)], [], σ)) ∧ (¬ r2 = 0 → pq_Rn (pq_RD (d + 1)) (129, 61, [some (vR 10 0 0), some (vI (nI s)), some (vI (nI z)), some (vI (nI k)), some (vI (nI t)), l], [], σ) = pq_Rn (pq_RD (d + 1)) (129, 61, [some (vR 10 0 0), some (vI (nI s)), some (vI (nI (z + 1))), some (vI (nI k)), some (vI (nI (t + 1))), some (vI X)], [], pm_wi σ 10 0 10 z X)) := fun r2 h128 => by
    rw [← nI_1 t, ← nI_1 z]
    rcases (by omega : t = 0 ∨ t = 1 ∨ t = 2) with rfl | rfl | rfl
    · have e : trn (σ.1 2 s 0) (σ.1 10 0 10 k) n = X := eX
      rw [e] at k1
      refine ⟨fun h0 => g129_61_2 _ g3 gk vk rfl (by rw [ek]; exact k1) h128 h0, fun h0 => (g129_61_3 _ g3 gk vk rfl (by rw [ek]; exact k1) h128 h0 vz).trans (by rw [ez])⟩
    · have e : trn (σ.1 2 s 2) (σ.1 10 0 10 k) n = X := eX
      rw [e] at k2
      refine ⟨fun h0 => g129_61_4 _ g3 gk vk (by decide) rfl (by rw [ek]; exact k2) h128 h0, fun h0 => (g129_61_5 _ g3 gk vk (by decide) rfl (by rw [ek]; exact k2) h128 h0 vz).trans (by rw [ez])⟩
    · have e : trn (σ.1 2 s 2) (trn (σ.1 2 s 0) (σ.1 10 0 10 k) n) n = X := eX
      rw [e] at k3
      refine ⟨fun h0 => g129_61_6 _ g3 gk vk (by decide) (by decide) (by rw [ek]; exact k3) h128 h0, fun h0 => (g129_61_7 _ g3 gk vk (by decide) (by decide) (by rw [ek]; exact k3) h128 h0 vz).trans (by rw [ez])⟩
  rcases kn with ⟨⟨j, hj, ej⟩, k128⟩ | ⟨hn, k128⟩
  · exact ⟨σ, z, _, (old 0 k128).1 rfl, fun _ _ _ _ => rfl, hg, Nat.le_refl _, fun _ _ => rfl, j, hj, ej⟩
  · refine ⟨pm_wi σ 10 0 10 z X, z + 1, _, (old 1 k128).2 (by decide), fun c o k' hk' => wi_k hk', ?_, by omega, fun i hi => wi_i (by omega), z, by omega, wi_s _ _ _ _ _ _⟩
    exact gL_add hz (fun i hi => wi_i (by omega)) hg (by rw [wi_s]; exact rX) (fun i hi => by rw [wi_s]; exact hn i hi)
theorem c129u (d : Nat) {s n : Nat} {w ch : Nat → Nat} (hs : s < 4) {σ0 : pmS} (hsy : iSy σ0.1 s n w ch) {k : Nat} {x : Int32} : ∀ (r t z : Nat) (σ : pmS) (l : Option pmV), t + r = 3 → gO σ σ0 → k < z → σ.1 10 0 10 k = x → gL n (fun x => trn (σ0.1 2 s 0) x n) (fun x => trn (σ0.1 2 s 2) x n) (σ.1 10 0 10) z → (∀ u, u < t → ∃ j, j < z ∧ σ.1 10 0 10 j = gX (fun x => trn (σ0.1 2 s 0) x n) (fun x => trn (σ0.1 2 s 2) x n) x u) → ∃ τ z' l4 l5, pq_Rn (pq_RD (d + 1)) (129, 61, [some (vR 10 0 0), some (vI (nI s)), some (vI (nI z)), some (vI (nI k)), some (vI (nI t)), l], [], σ) = pq_Rn (pq_RD (d + 1)) (129, 53, [some (vR 10 0 0), some (vI (nI s)), some (vI (nI z')), some (vI (nI (k + 1))), l4, l5], [], τ) ∧ gO τ σ0 ∧ gL n (fun x => trn (σ0.1 2 s 0) x n) (fun x => trn (σ0.1 2 s 2) x n) (τ.1 10 0 10) z' ∧ z ≤ z' ∧ (∀ i, i < z → τ.1 10 0 10 i = σ.1 10 0 10 i) ∧ (z' = 1000 ∨ ∀ u, u < 3 → ∃ j, j < z' ∧ τ.1 10 0 10 j = gX (fun x => trn (σ0.1 2 s 0) x n) (fun x => trn (σ0.1 2 s 2) x n) x u) := by
  intro r
  induction r with
  | zero =>
    intro t z σ l ht hO hk ex hg hu
    have e : t = 3 := by omega
    subst e
    exact ⟨σ, z, _, _, (g129_61_0 _ (by decide)).trans (by rw [nI_1]), hO, hg, Nat.le_refl _, fun _ _ => rfl, Or.inr hu⟩
  | succ r ih =>
    intro t z σ l ht hO hk ex hg hu
    have hz := hg.1
    rcases Nat.lt_or_ge z 1000 with h1 | h1
    · have e0 : σ.1 2 s 0 = σ0.1 2 s 0 := hO 2 s 0 (by omega)
      have e2 : σ.1 2 s 2 = σ0.1 2 s 2 := hO 2 s 2 (by omega)
      obtain ⟨τ, z1, l1, k1, o1, g1, le1, p1, j, hj, ej⟩ := c129s d hs (iSy_g hO hsy) (t := t) h1 hk (by omega) (by rw [e0, e2]; exact hg) l
      rw [e0, e2] at g1 ej
      rw [ex] at ej
      have hO2 : gO τ σ0 := fun c o k hk => by rw [o1 c o k hk, hO c o k hk]
      obtain ⟨τ', z', l4, l5, k2, o2, g2, le2, p2, c2⟩ := ih (t + 1) z1 τ l1 (by omega) hO2 (by omega) (by rw [p1 k hk]; exact ex) g1 (fun u hu2 => by
        rcases Nat.lt_or_ge u t with q | q
        · obtain ⟨i, hi, ei⟩ := hu u q
          exact ⟨i, by omega, by rw [p1 i hi]; exact ei⟩
        · have : u = t := by omega
          subst this
          exact ⟨j, hj, ej⟩)
      exact ⟨τ', z', l4, l5, k1.trans k2, o2, g2, Nat.le_trans le1 le2, fun i hi => by rw [p2 i (by omega), p1 i hi], c2⟩
    · have e : z = 1000 := by omega
      exact ⟨σ, z, _, _, (g129_61_1 _ (nI_ge (b := 3) (by omega) (by decide)) (by rw [e]; decide)).trans (by rw [nI_1]), hO, hg, Nat.le_refl _, fun _ _ => rfl, Or.inl e⟩
theorem c129l (d : Nat) {s n : Nat} {w ch : Nat → Nat} (hs : s < 4) {σ0 : pmS} (hsy : iSy σ0.1 s n w ch) : ∀ (m k z : Nat) (σ : pmS) (l4 l5 : Option pmV), 1000 - k ≤ m → gO σ σ0 → k ≤ z → gL n (fun x => trn (σ0.1 2 s 0) x n) (fun x => trn (σ0.1 2 s 2) x n) (σ.1 10 0 10) z → gC (fun x => trn (σ0.1 2 s 0) x n) (fun x => trn (σ0.1 2 s 2) x n) (σ.1 10 0 10) z k → ∃ τ z', pq_Rn (pq_RD (d + 1)) (129, 53, [some (vR 10 0 0), some (vI (nI s)), some (vI (nI z)), some (vI (nI k)), l4, l5], [], σ) = some (some (vI (nI z')), τ) ∧ gO τ σ0 ∧ gL n (fun x => trn (σ0.1 2 s 0) x n) (fun x => trn (σ0.1 2 s 2) x n) (τ.1 10 0 10) z' ∧ gC (fun x => trn (σ0.1 2 s 0) x n) (fun x => trn (σ0.1 2 s 2) x n) (τ.1 10 0 10) z' z' := by
  intro m
  induction m with
  | zero =>
    intro k z σ l4 l5 hm hO hk hg hC
    have hz := hg.1
    have e : k = z := by omega
    subst e
    exact ⟨σ, k, g129_53_0 _ (by rw [fa_le]; omega), hO, hg, hC⟩
  | succ m ih =>
    intro k z σ l4 l5 hm hO hk hg hC
    have hz := hg.1
    rcases Nat.lt_or_ge k z with h1 | h1
    · have st := g129_53_1 (pq_RD (d + 1)) (l4 := l4) (l5 := l5) (σ := σ) (x1 := nI s) (x2 := nI z) (x3 := nI k) (nI_ge h1 (by omega))
      obtain ⟨τ, z', l4', l5', k1, o1, g1, le1, p1, c1⟩ := c129u d hs hsy (k := k) 3 0 z σ l5 (by omega) hO h1 rfl hg (fun u hu => by omega)
      have hz' := g1.1
      have hC' : gC (fun x => trn (σ0.1 2 s 0) x n) (fun x => trn (σ0.1 2 s 2) x n) (τ.1 10 0 10) z' (k + 1) := by
        rcases gC_up (z' := z') (g' := τ.1 10 0 10) le1 hz' hk p1 hC with q | q
        · exact Or.inl q
        · rcases c1 with c1 | c1
          · exact Or.inl c1
          · refine Or.inr (fun j hj => ?_)
            rcases Nat.lt_or_ge j k with q1 | q1
            · exact q j q1
            · have : j = k := by omega
              subst this
              rw [p1 j h1]
              exact ⟨c1 0 (by omega), c1 1 (by omega)⟩
      have hm' : 1000 - (k + 1) ≤ m := sub1 hm
      have hk' : k + 1 ≤ z' := Nat.le_trans h1 le1
      obtain ⟨τ', z'', k2, o2, g2, c2⟩ := ih (k + 1) z' τ l4' l5' hm' o1 hk' g1 hC'
      exact ⟨τ', z'', st.trans (k1.trans k2), o2, g2, c2⟩
    · have e : k = z := by omega
      subst e
      exact ⟨σ, k, g129_53_0 _ (by rw [fa_le]; omega), hO, hg, hC⟩
theorem T_group {σ : pmS} (h : Inv σ) (s : Int32) : Tok 62 129 [vI s] σ := by
  obtain ⟨NS, NC, NP, hh⟩ := id h
  have hh : iAll σ.1 NS NC NP := hh
  obtain ⟨hT, hS, hC, hP, hW, hM, hO⟩ := id hh
  have hNS := hS.1
  have a1 := c86 58 (σ := σ) (x1 := s)
  rw [hS.2.1] at a1
  cases q1 : sHas (nI NS) s with
  | false =>
    have b1 := c106 58 (σ := σ) (x1 := s)
    rw [hS.2.2.1, q1] at b1
    rw [q1] at a1
    exact ⟨_, _, _, (m62 59).trans (g62_0_0 _ a1 rfl), (m129 59).trans (g129_0_0 _ b1 rfl), h⟩
  | true =>
    rw [q1] at a1
    obtain ⟨es, hs⟩ := in_nI (sHas_in (by omega) q1) (by omega)
    have vs : vp_in s 4 := in_le (sHas_in (by omega) q1) hNS (by omega)
    obtain ⟨n, w, ch, hsy⟩ := hS.2.2.2.1 _ hs
    have h8 := hsy.2.1
    obtain ⟨σ1, z, k47, o1, g, gl, gc⟩ := c47 57 (N := 2048) rfl (σ := σ) (s := s.toNatClampNeg) (n := n) h8 (fun x hx => gV_1 h8 (gR_V hsy hx)) hsy.2.2.2.2.2.1 rfl rfl
    have hsy1 : iSy σ1.1 s.toNatClampNeg n w ch := iSy_o (fun k _ _ => o1 2 _ k (by omega)) (fun k hk => o1 10 0 k (by omega)) hsy
    have b1 := c106 58 (σ := σ1) (x1 := s)
    rw [o1 10 0 4 (by omega), hS.2.2.1, q1] at b1
    have z2 := hsy1.2.2.2.2.2.2.1
    have st := (m129 59).trans (g129_0_1 (pq_RD 59) (l2 := none) (l3 := none) (l4 := none) (l5 := none) b1 (by decide))
    have e0 : (0 : Int32).toNatClampNeg = 0 := rfl
    rw [e0] at st
    obtain ⟨τ, ⟨i1, i2⟩, hr⟩ := lp_ex (C := pq_RD 59) (S := pmS) (I := fun k τ => gO τ σ1 ∧ τ.1 10 0 10 0 = gI k) (fr := fun k τ => (129, 21, [some (vR 10 0 0), some (vI s), some (vI 1), some (vI (nI k)), none, none], [], τ)) (s0 := pm_wi σ1 10 0 10 0 0) ⟨fun c o k hk => wi_k hk, wi_s _ _ _ _ _ _⟩ (n := n) (fun k τ hk ⟨i1, i2⟩ => by
      refine ⟨pm_wi τ 10 0 10 0 (gI (k + 1)), ⟨fun c o j hj => ?_, wi_s _ _ _ _ _ _⟩, ?_⟩
      · rw [wi_k hj, i1 c o j hj]
      · refine (g129_21_1 _ vs (by rw [i1 10 0 0 (by omega), z2]; exact nI_ge hk (by omega))).trans ?_
        rw [e0, i2, nI_1]
        rfl)
    have st2 := st.trans (Eq.trans hr (g129_21_0 _ vs (by rw [i1 10 0 0 (by omega), z2, fa_le]; omega)))
    have e20 : σ1.1 2 s.toNatClampNeg 0 = σ.1 2 s.toNatClampNeg 0 := o1 2 _ 0 (by omega)
    have e22 : σ1.1 2 s.toNatClampNeg 2 = σ.1 2 s.toNatClampNeg 2 := o1 2 _ 2 (by omega)
    have gl0 : gL n (fun x => trn (σ1.1 2 s.toNatClampNeg 0) x n) (fun x => trn (σ1.1 2 s.toNatClampNeg 2) x n) (τ.1 10 0 10) 1 := by
      refine ⟨by omega, by omega, i2, fun i j h1 h2 => by omega, fun i hi => ?_⟩
      have : i = 0 := by omega
      subst this
      rw [i2]
      exact gR_0 n _ _
    obtain ⟨ρ, z', kl, o2, gl', gc'⟩ := c129l 58 (by omega) hsy1 1000 0 1 τ none none (by omega) i1 (by omega) gl0 (Or.inr (fun j hj => by omega))
    rw [← es] at kl
    rw [e20, e22] at gl' gc'
    have ez : z = z' := gL_eq gl gc gl' gc'
    subst ez
    refine ⟨_, _, ρ, (m62 59).trans (g62_0_1 _ a1 (by decide) vs k47), st2.trans kl, h.same ?_⟩
    refine mask_eq (fun c o k hk => ?_)
    rw [o2 c o k (fun z => by obtain ⟨rfl, rfl⟩ := z; exact absurd hk (by decide)), o1 c o k (fun z => by subst z; exact absurd (show false = true from hk) (by decide))]
