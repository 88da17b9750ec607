/-! the class alone: laws, systems in force, classify -/
def iD1 (f : pmI) (NS c : Nat) : Prop := ∃ nl : Nat, 1 ≤ nl ∧ nl ≤ 5 ∧ f 0 c 3 0 = nI nl ∧ ∀ i, i < nl → ∃ s, s < NS ∧ f 0 c 1 i = nI s
theorem iC1.d {f : pmI} {NS c : Nat} (h : iC1 f NS c) : iD1 f NS c := by
  obtain ⟨nl, h1, h5, h3, h4, h6⟩ := h
  exact ⟨nl, h1, h5, h3, fun i hi => (h6 i hi).2.2.2⟩
theorem lawIx_okD {f : pmI} {NS c : Nat} (h : iD1 f NS c) (y : Int32) : ∃ nl, 1 ≤ nl ∧ nl ≤ 5 ∧ f 0 c 3 0 = nI nl ∧ lawIx f c y < nl ∧ lawIx f c y = sLaw (f 0 c 0) y nl ∧ ∃ s, s < NS ∧ f 0 c 1 (lawIx f c y) = nI s := by
  obtain ⟨nl, h1, h5, h3, h6⟩ := h
  have e : lawIx f c y = sLaw (f 0 c 0) y nl := by
    unfold lawIx
    rw [h3, nI_clamp (by omega)]
  have hl : lawIx f c y < nl := by
    rw [e]
    obtain ⟨j, rfl⟩ : ∃ j, nl = j + 1 := ⟨nl - 1, by omega⟩
    exact sLaw_lt _ _ j
  exact ⟨nl, h1, h5, h3, hl, e, h6 _ hl⟩
theorem c92D (d : Nat) {σ : pmS} {NS c : Nat} {y : Int32} (hc : c < 3) (h : iD1 σ.1 NS c) : pq_RD (d + 2) 92 [vR 9 0 0, vI (nI c), vI y] σ = some (some (vI (σ.1 0 c 1 (lawIx σ.1 c y))), σ) := by
  obtain ⟨nl, h1, h5, h3, hl, e, -⟩ := lawIx_okD h y
  have ec : (nI c).toNatClampNeg = c := nI_clamp (by omega)
  have k := c2 d (σ := σ) (o := c) (y := y) h1 h5 h3
  rw [← e] at k
  refine (m92 (d + 1)).trans ((t92_0 _ (vp_in_nI hc (by omega)) (by rw [ec]; exact k) (vp_in_nI (by omega) (by omega))).trans ?_)
  rw [ec, nI_clamp (by omega)]
def pD (f : pmI) (NS NC p : Nat) : Prop := p < 48 ∧ (∃ c, c < NC ∧ f 5 0 3 p = nI c) ∧ NC ≤ 3 ∧ (∀ c, c < NC → iD1 f NS c) ∧ NS ≤ 4 ∧ (∀ s, s < NS → ∃ n, n ≤ 8 ∧ f 2 s 8 0 = nI n) ∧ ((f 5 0 4 p = -1 ∧ f 5 0 5 p = -1) ∨ ∃ m fa, m < p ∧ fa < p ∧ f 5 0 4 p = nI m ∧ f 5 0 5 p = nI fa)
theorem pD_c {f : pmI} {NS NC p : Nat} (h : pD f NS NC p) : ∃ c, c < 3 ∧ f 5 0 3 p = nI c ∧ (f 5 0 3 p).toNatClampNeg = c ∧ iD1 f NS c := by
  obtain ⟨-, ⟨c, hc, e⟩, h3, h4, -⟩ := h
  exact ⟨c, by omega, e, by rw [e]; exact nI_clamp (by omega), h4 c hc⟩
theorem pD_s {f : pmI} {NS NC p : Nat} (h : pD f NS NC p) : sSb f p < NS ∧ f 0 (f 5 0 3 p).toNatClampNeg 1 (sLb f p) = nI (sSb f p) ∧ ∃ n, n ≤ 8 ∧ f 2 (sSb f p) 8 0 = nI n := by
  obtain ⟨c, hc, -, ec, h1⟩ := pD_c h
  obtain ⟨nl, -, -, -, -, -, s, hs, es⟩ := lawIx_okD h1 (f 5 0 1 p)
  have e : sLb f p = lawIx f c (f 5 0 1 p) := by
    unfold sLb lawIx
    rw [ec]
  have e2 : sSb f p = s := by
    unfold sSb
    rw [e, ec, es, nI_clamp (by have := h.2.2.2.2.1; omega)]
  refine ⟨by omega, ?_, ?_⟩
  · rw [ec, e, es, e2]
  · rw [e2]
    exact h.2.2.2.2.2.1 s hs
theorem c93D (d : Nat) {σ : pmS} {NS NC p : Nat} (h : pD σ.1 NS NC p) : pq_RD (d + 3) 93 [vR 9 0 0, vI (nI p)] σ = some (some (vR 2 (sSb σ.1 p) 0), σ) := by
  obtain ⟨c, hc, e3, ec, h1⟩ := pD_c h
  have hp := h.1
  have ep : (nI p).toNatClampNeg = p := nI_clamp (by omega)
  obtain ⟨s1, s2, -⟩ := pD_s h
  have hNS := h.2.2.2.2.1
  have e : sLb σ.1 p = lawIx σ.1 c (σ.1 5 0 1 p) := by
    unfold sLb lawIx
    rw [ec]
  have k := c92D d (σ := σ) (y := σ.1 5 0 1 p) hc h1
  rw [← e] at k
  rw [ec] at s2
  rw [s2] at k
  refine (m93 (d + 2)).trans ((t93_0 _ (vp_in_nI hp (by omega)) (by rw [ep, e3]; exact k) (vp_in_nI (by omega) (by omega))).trans ?_)
  rw [nI_clamp (by omega)]
theorem c94D (d : Nat) {σ : pmS} {NS NC p : Nat} (h : pD σ.1 NS NC p) : pq_RD (d + 2) 94 [vR 9 0 0, vI (nI p)] σ = some (some (vI (bI (sBm σ.1 p))), σ) := by
  obtain ⟨c, hc, e3, ec, h1⟩ := pD_c h
  have hp := h.1
  have ep : (nI p).toNatClampNeg = p := nI_clamp (by omega)
  obtain ⟨nl, n1, n5, n3, hl, e, -⟩ := lawIx_okD h1 (σ.1 5 0 1 p)
  have eb : sLb σ.1 p = lawIx σ.1 c (σ.1 5 0 1 p) := by
    unfold sLb lawIx
    rw [ec]
  have k := c2 d (σ := σ) (o := c) (y := σ.1 5 0 1 p) n1 n5 n3
  rw [← e] at k
  refine (m94 (d + 1)).trans ((t94_0 _ (vp_in_nI hp (by omega)) (by rw [ep, e3]; exact vp_in_nI hc (by omega)) (by rw [ep, ec]; exact k) (vp_in_nI (by omega) (by omega))).trans ?_)
  unfold sBm
  rw [eb, ep, ec, nI_clamp (show lawIx σ.1 c (σ.1 5 0 1 p) < 2 ^ 31 by omega)]
  by_cases a : σ.1 0 c 2 (lawIx σ.1 c (σ.1 5 0 1 p)) = 0 <;> simp [a, bI]
theorem c95D (d : Nat) {σ : pmS} {NS NC p : Nat} (h : pD σ.1 NS NC p) : pq_RD (d + 4) 95 [vR 9 0 0, vI (nI p)] σ = some (none, pm_wi (pm_wi σ 5 0 7 p (sOwn σ.1 (σ.1 5 0 7) p)) 5 0 8 p (sOth σ.1 (σ.1 5 0 7) p)) := by
  have hp := h.1
  have ep : (nI p).toNatClampNeg = p := nI_clamp (by omega)
  have hv : vp_in (nI p) 48 := vp_in_nI hp (by omega)
  obtain ⟨s1, s2, n, hn, s3⟩ := pD_s h
  have k1 := c33 (d + 2) (σ := σ) hv
  rw [ep] at k1
  by_cases a : σ.1 5 0 4 p = -1
  · rw [show decide (σ.1 5 0 4 p = -1) = true by simp [a]] at k1
    refine (m95 (d + 3)).trans ((g95_0_4 _ k1 (by decide) hv).trans ?_)
    rw [ep]
    unfold sOwn sOth
    rw [if_pos a, if_pos a]
  · rw [show decide (σ.1 5 0 4 p = -1) = false by simp [a]] at k1
    obtain ⟨-, -, -, -, -, -, hpar⟩ := id h
    obtain ⟨mo, fa, h1, h2, e1, e2⟩ : ∃ m fa, m < p ∧ fa < p ∧ σ.1 5 0 4 p = nI m ∧ σ.1 5 0 5 p = nI fa := by
      rcases hpar with hpar | hpar
      · exact absurd hpar.1 a
      · exact hpar
    have k2 := c93D d h
    have k3 := c10 (d + 1) (σ := σ) (o := sSb σ.1 p) (x1 := σ.1 5 0 7 mo) (x2 := 1) hn s3
    have k4 := c10 (d + 1) (σ := σ) (o := sSb σ.1 p) (x1 := σ.1 5 0 7 fa) (x2 := 0) hn s3
    have k5 := c94D (d + 1) h
    have em : (σ.1 5 0 4 p).toNatClampNeg = mo := by rw [e1]; exact nI_clamp (by omega)
    have ef : (σ.1 5 0 5 p).toNatClampNeg = fa := by rw [e2]; exact nI_clamp (by omega)
    have v1 : vp_in (σ.1 5 0 4 (nI p).toNatClampNeg) 48 := by rw [ep, e1]; exact vp_in_nI (by omega) (by omega)
    have v2 : vp_in (σ.1 5 0 5 (nI p).toNatClampNeg) 48 := by rw [ep, e2]; exact vp_in_nI (by omega) (by omega)
    rw [if_pos rfl] at k3
    rw [if_neg (by decide)] at k4
    unfold sOwn sOth
    rw [if_neg a, if_neg a, em, ef]
    cases hb : sBm σ.1 p with
    | true =>
      rw [hb] at k5
      refine (m95 (d + 3)).trans ((g95_0_3 _ k1 rfl k2 hv v1 (by rw [ep, em]; exact k3) v2 (by rw [ep, ef]; exact k4) k5 (by decide) (by decide)).trans ?_)
      rw [ep]
      simp
    | false =>
      rw [hb] at k5
      refine (m95 (d + 3)).trans ((g95_0_0 _ k1 rfl k2 hv v1 (by rw [ep, em]; exact k3) v2 (by rw [ep, ef]; exact k4) k5 rfl rfl).trans ?_)
      rw [ep]
      simp
/-! one more of the people -/
theorem iP_add {f g : pmI} {NC NP : Nat} (hP : iP f NC NP) (h48 : NP < 48) (h0 : ∀ o k, g 0 o k = f 0 o k) (h2 : ∀ o k, k ≤ 8 → g 2 o k = f 2 o k) (o5 : ∀ k p, k ≤ 8 → p < NP → g 5 0 k p = f 5 0 k p) (o10 : ∀ k p, 19 ≤ k → k ≤ 25 → p < NP → g 10 0 k p = f 10 0 k p) (n1 : g 5 0 9 0 = nI (NP + 1)) (n2 : g 10 0 16 0 = nI (NP + 1)) (new : iP1 g NC NP) (hown : g 5 0 7 NP = sOwn g (g 5 0 7) NP ∧ g 5 0 8 NP = sOth g (g 5 0 7) NP) : iP g NC (NP + 1) := by
  refine ⟨by omega, n1, n2, fun p hp => ?_, fun p hp => ?_⟩
  · rcases Nat.lt_or_ge p NP with h | h
    · exact iP1_cong (fun k hk => o5 k p (by omega) h) (fun k k1 k2 => o10 k p k1 k2 h) (hP.2.2.2.1 p h)
    · have : p = NP := by omega
      subst this
      exact new
  · rcases Nat.lt_or_ge p NP with h | h
    · obtain ⟨s1, s2⟩ := sOwn_cong (f := f) (g := g) (p := p) h0 h2 (fun k hk _ => o5 k p (by omega) h) (iP1_par (hP.2.2.2.1 p h) (by omega)) (fun q hq => o5 7 q (by omega) (by omega))
      rw [s1, s2, o5 7 p (by omega) h, o5 8 p (by omega) h]
      exact hP.2.2.2.2 p h
    · have : p = NP := by omega
      subst this
      exact hown
theorem iW_up {f : pmI} {NP : Nat} (h : iW f NP) : iW f (NP + 1) := by
  obtain ⟨NM, w1, w2, w3, w4, w5⟩ := h
  refine ⟨NM, w1, w2, w3, fun k hk => ?_, w5⟩
  obtain ⟨a, b, c, ⟨m, hm, em⟩, w, hw, ew⟩ := w4 k hk
  exact ⟨a, b, c, ⟨m, by omega, em⟩, w, by omega, ew⟩
/-- the class's part -/
theorem c31 (d : Nat) {σ : pmS} {NP : Nat} {s y c : Int32} (h48 : NP < 48) (h : σ.1 5 0 9 0 = nI NP) : ∃ τ, pq_RD (d + 1) 31 [vR 5 0 0, vI s, vI y, vI c] σ = some (some (vI (nI NP)), τ) ∧ (∀ c o k, ¬ (c = 5) → τ.1 c o k = σ.1 c o k) ∧ (∀ k p, k ≤ 8 → p ≠ NP → τ.1 5 0 k p = σ.1 5 0 k p) ∧ τ.1 5 0 0 NP = s ∧ τ.1 5 0 1 NP = y ∧ τ.1 5 0 2 NP = -1 ∧ τ.1 5 0 3 NP = c ∧ τ.1 5 0 4 NP = -1 ∧ τ.1 5 0 5 NP = -1 ∧ τ.1 5 0 6 NP = -1 ∧ τ.1 5 0 9 0 = nI (NP + 1) := by
  have e := (m31 d).trans (g31_0_0 (pq_RD d) (l4 := none) (σ := σ) (x1 := s) (x2 := y) (x3 := c) (by rw [h]; exact vp_in_nI h48 (by omega)))
  rw [h, nI_clamp (by omega), nI_1] at e
  refine ⟨_, e, fun c o k hc => ?_, fun k p hk hp => ?_, ?_⟩
  · iterate 10 rw [wi_k (fun z => hc z.1)]
  · have h9 : ¬ k = 9 := by omega
    simp [wi_1, hp, h9]
  · simp [wi_1]
theorem c139 (d : Nat) {σ : pmS} {NP : Nat} {s y c m f t : Int32} (h48 : NP < 48) (h : σ.1 10 0 16 0 = nI NP) : ∃ τ, pq_RD (d + 1) 139 [vR 10 0 0, vI s, vI y, vI c, vI m, vI f, vI t] σ = some (some (vI (nI NP)), τ) ∧ (∀ c o k, ¬ (c = 10 ∧ (k = 16 ∨ (19 ≤ k ∧ k ≤ 25))) → τ.1 c o k = σ.1 c o k) ∧ (∀ k p, 19 ≤ k → k ≤ 25 → p ≠ NP → τ.1 10 0 k p = σ.1 10 0 k p) ∧ τ.1 10 0 19 NP = s ∧ τ.1 10 0 20 NP = y ∧ τ.1 10 0 21 NP = -1 ∧ τ.1 10 0 22 NP = c ∧ τ.1 10 0 23 NP = m ∧ τ.1 10 0 24 NP = f ∧ τ.1 10 0 25 NP = t ∧ τ.1 10 0 16 0 = nI (NP + 1) := by
  have e := (m139 d).trans (g139_0_0 (pq_RD d) (l7 := none) (σ := σ) (x1 := s) (x2 := y) (x3 := c) (x4 := m) (x5 := f) (x6 := t) (by rw [h]; exact vp_in_nI h48 (by omega)))
  rw [h, nI_clamp (by omega), nI_1] at e
  refine ⟨_, e, fun c o k hc => ?_, fun k p hk hk2 hp => ?_, ?_⟩
  · iterate 8 rw [wi_k (by omega)]
  · have h9 : ¬ k = 16 := by omega
    simp [wi_1, hp, h9]
  · simp [wi_1]
/-- both parts: the newcomer is taken up -/
theorem comes {σ σ2 : pmS} {NS NC NP : Nat} {s y c m f t : Int32} (hA : iAll σ.1 NS NC NP) (h48 : NP < 48)
    (a1 : ∀ c o k, ¬ (c = 5) → σ2.1 c o k = σ.1 c o k) (a2 : ∀ k p, k ≤ 8 → p ≠ NP → σ2.1 5 0 k p = σ.1 5 0 k p) (b0 : σ2.1 5 0 0 NP = s) (b1 : σ2.1 5 0 1 NP = y) (b2 : σ2.1 5 0 2 NP = -1) (b3 : σ2.1 5 0 3 NP = c) (b4 : σ2.1 5 0 4 NP = m) (b5 : σ2.1 5 0 5 NP = f) (b6 : σ2.1 5 0 6 NP = t) (b9 : σ2.1 5 0 9 0 = nI (NP + 1))
    (hs : s = 0 ∨ s = 1) (hy : 0 ≤ y ∧ y ≤ 999) (hc : ∃ k, k < NC ∧ c = nI k) (hp : (m = -1 ∧ f = -1) ∨ ∃ m' f', m' < NP ∧ f' < NP ∧ m = nI m' ∧ f = nI f') (ht : t = -1 ∨ ∃ k, k < 8 ∧ t = nI k) :
    ∃ σ3, pq_RD 59 95 [vR 9 0 0, vI (nI NP)] σ2 = some (none, σ3) ∧ (∀ c o k, ¬ (c = 5) → σ3.1 c o k = σ.1 c o k) ∧ ∃ ρ, pq_RD 59 139 [vR 10 0 0, vI s, vI y, vI c, vI m, vI f, vI t] σ3 = some (some (vI (nI NP)), ρ) ∧ Inv ρ := by
  obtain ⟨hT, hS, hC, hP, hW, hM, hO⟩ := hA
  have hD : pD σ2.1 NS NC NP := by
    refine ⟨h48, by rw [b3]; exact hc, hC.1, fun k hk => ?_, hS.1, fun k hk => ?_, by rw [b4, b5]; exact hp⟩
    · have := (hC.2.2.2.1 k hk).d
      unfold iD1 at this ⊢
      rw [a1 0 k 3 (by omega), a1 0 k 1 (by omega)]
      exact this
    · obtain ⟨n, w, ch, hh⟩ := hS.2.2.2.1 k hk
      rw [a1 2 k 8 (by omega)]
      exact ⟨n, hh.2.1, hh.2.2.2.2.2.1⟩
  have k95 := c95D 55 hD
  generalize e3 : pm_wi (pm_wi σ2 5 0 7 NP (sOwn σ2.1 (σ2.1 5 0 7) NP)) 5 0 8 NP (sOth σ2.1 (σ2.1 5 0 7) NP) = σ3 at k95
  have o3 : ∀ c o k, ¬ (c = 5) → σ3.1 c o k = σ.1 c o k := fun c o k hc => by
    rw [← e3, wi_k (by omega), wi_k (by omega), a1 c o k hc]
  have o35 : ∀ k p, k ≤ 8 → p ≠ NP → σ3.1 5 0 k p = σ.1 5 0 k p := fun k p hk hp => by
    rw [← a2 k p hk hp, ← e3]
    simp [wi_1, hp]
  have n3 : ∀ k, k ≤ 6 → σ3.1 5 0 k NP = σ2.1 5 0 k NP := fun k hk => by
    have h7 : ¬ k = 7 := by omega
    have h8 : ¬ k = 8 := by omega
    rw [← e3]
    simp [wi_1, h7, h8]
  have n9 : σ3.1 5 0 9 0 = nI (NP + 1) := by
    rw [← b9, ← e3]
    simp [wi_1]
  have n7 : σ3.1 5 0 7 NP = sOwn σ2.1 (σ2.1 5 0 7) NP ∧ σ3.1 5 0 8 NP = sOth σ2.1 (σ2.1 5 0 7) NP := by
    rw [← e3]
    simp [wi_1]
  refine ⟨σ3, k95, o3, ?_⟩
  obtain ⟨ρ, k139, q1, q2, r0, r1, r2, r3, r4, r5, r6, r9⟩ := c139 58 (σ := σ3) (s := s) (y := y) (c := c) (m := m) (f := f) (t := t) h48 (by rw [o3 10 0 16 (by omega)]; exact hP.2.2.1)
  refine ⟨ρ, k139, ?_⟩
  have off : ∀ c o k, ¬ (c = 5) → ¬ (c = 10 ∧ (k = 16 ∨ (19 ≤ k ∧ k ≤ 25))) → ρ.1 c o k = σ.1 c o k := fun c o k h1 h2 => by
    rw [q1 c o k h2, o3 c o k h1]
  have r5' : ∀ k, ρ.1 5 0 k = σ3.1 5 0 k := fun k => q1 5 0 k (by omega)
  have new : iP1 ρ.1 NC NP := by
    unfold iP1
    rw [r5', r5', r5', r5', r5', r5', r5', n3 0 (by omega), n3 1 (by omega), n3 2 (by omega), n3 3 (by omega), n3 4 (by omega), n3 5 (by omega), n3 6 (by omega), b0, b1, b2, b3, b4, b5, b6, r0, r1, r2, r3, r4, r5, r6]
    exact ⟨rfl, rfl, rfl, rfl, rfl, rfl, rfl, hs, hy, hc, hp, ht⟩
  have hP2 : iP ρ.1 NC (NP + 1) := by
    refine iP_add hP h48 (fun o k => off 0 o k (by omega) (by omega)) (fun o k _ => off 2 o k (by omega) (by omega)) (fun k p hk hp => ?_) (fun k p k1 k2 hp => ?_) (by rw [r5']; exact n9) r9 new ?_
    · rw [r5']
      exact o35 k p hk (by omega)
    · rw [q2 k p k1 k2 (by omega), o3 10 0 k (by omega)]
    · obtain ⟨s1, s2⟩ := sOwn_cong (f := σ2.1) (g := ρ.1) (p := NP) (fun o k => by rw [off 0 o k (by omega) (by omega), a1 0 o k (by omega)]) (fun o k _ => by rw [off 2 o k (by omega) (by omega), a1 2 o k (by omega)]) (fun k hk _ => by rw [r5', n3 k hk]) (by
        rw [b4, b5]
        rcases hp with hp | ⟨m', f', h1, h2, e1, e2⟩
        · exact Or.inl hp.1
        · rw [e1, e2, nI_clamp (by omega), nI_clamp (by omega)]
          exact Or.inr ⟨h1, h2⟩) (fun q hq => by rw [r5', o35 7 q (by omega) (by omega), a2 7 q (by omega) (by omega)])
      rw [s1, s2, r5', r5']
      exact n7
  refine ⟨NS, NC, NP + 1, (⟨iT_c ?_ hT, iS_c ?_ hS, iC_c ?_ hC, hP2, iW_c ?_ (iW_up hW), iM_c ?_ hM, iO_c ?_ hO⟩ : iAll ρ.1 NS NC (NP + 1))⟩
  all_goals intro c o k hk
  all_goals refine off c o k (fun e => ?_) (fun e => ?_)
  all_goals first
    | (subst e; exact absurd (show false = true from hk) (by decide))
    | (obtain ⟨rfl, e⟩ := e
       rcases e with rfl | ⟨e1, e2⟩
       · exact absurd hk (by decide)
       · have hk' := of_decide_eq_true hk
         omega)
