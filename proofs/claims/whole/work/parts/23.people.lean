/-! people: systems in force, classes, hindrances -/
def lawIx (f : pmI) (c : Nat) (y : Int32) : Nat := sLaw (f 0 c 0) y (f 0 c 3 0).toNatClampNeg
theorem lawIx_ok {f : pmI} {NS c : Nat} (h : iC1 f NS c) (y : Int32) : ∃ nl, 1 ≤ nl ∧ nl ≤ 5 ∧ f 0 c 3 0 = nI nl ∧ f 10 0 11 c = nI nl ∧ lawIx f c y < nl ∧ lawIx f c y = sLaw (f 0 c 0) y nl ∧ (∃ s, s < NS ∧ f 0 c 1 (lawIx f c y) = nI s) ∧ f 0 c 1 (lawIx f c y) = f 10 0 13 (5 * c + lawIx f c y) ∧ f 0 c 2 (lawIx f c y) = f 10 0 14 (5 * c + lawIx f c y) ∧ sLaw (fun i => f 10 0 12 (5 * c + i)) y nl = lawIx f c y := by
  obtain ⟨nl, h1, h5, h3, h4, h6⟩ := h
  have e : lawIx f c y = sLaw (f 0 c 0) y nl := by
    unfold lawIx
    rw [h3, nI_clamp (by omega)]
  have hl : lawIx f c y < nl := by
    rw [e]
    obtain ⟨j, rfl⟩ : ∃ j, nl = j + 1 := ⟨nl - 1, by omega⟩
    exact sLaw_lt _ _ j
  obtain ⟨a1, a2, a3, a4⟩ := h6 _ hl
  refine ⟨nl, h1, h5, h3, h4, hl, e, a4, a2, a3, ?_⟩
  rw [e]
  exact sLaw_cong y nl (fun i hi => (h6 i hi).1.symm)
theorem c92 (d : Nat) {σ : pmS} {NS c : Nat} {y : Int32} (hc : c < 3) (h : iC1 σ.1 NS c) : pq_RD (d + 2) 92 [vR 9 0 0, vI (nI c), vI y] σ = some (some (vI (σ.1 0 c 1 (lawIx σ.1 c y))), σ) := by
  obtain ⟨nl, h1, h5, h3, -, hl, e, -⟩ := lawIx_ok h y
  have ec : (nI c).toNatClampNeg = c := nI_clamp (by omega)
  have k := c2 d (σ := σ) (o := c) (y := y) h1 h5 h3
  rw [← e] at k
  refine (m92 (d + 1)).trans ((t92_0 _ (vp_in_nI hc (by omega)) (by rw [ec]; exact k) (vp_in_nI (by omega) (by omega))).trans ?_)
  rw [ec, nI_clamp (by omega)]
/-- what is known of one of the people and of the laws and systems around -/
def pOk (f : pmI) (NS NC p : Nat) : Prop := p < 48 ∧ iP1 f NC p ∧ NC ≤ 3 ∧ (∀ c, c < NC → iC1 f NS c) ∧ NS ≤ 4 ∧ ∀ s, s < NS → ∃ n, n ≤ 8 ∧ f 2 s 8 0 = nI n
theorem pOk_c {f : pmI} {NS NC p : Nat} (h : pOk f NS NC p) : ∃ c, c < 3 ∧ c < NC ∧ f 5 0 3 p = nI c ∧ (f 5 0 3 p).toNatClampNeg = c ∧ iC1 f NS c := by
  obtain ⟨-, ⟨-, -, -, -, -, -, -, -, -, ⟨c, hc, e⟩, -⟩, h3, h4, -⟩ := h
  exact ⟨c, by omega, hc, e, by rw [e]; exact nI_clamp (by omega), h4 c hc⟩
theorem pOk_s {f : pmI} {NS NC p : Nat} (h : pOk f NS NC p) : sSb f p < NS ∧ f 0 (f 5 0 3 p).toNatClampNeg 1 (sLb f p) = nI (sSb f p) ∧ ∃ n, n ≤ 8 ∧ f 2 (sSb f p) 8 0 = nI n := by
  obtain ⟨c, hc, -, -, ec, h1⟩ := pOk_c h
  obtain ⟨nl, -, -, -, -, -, -, ⟨s, hs, es⟩, -⟩ := lawIx_ok h1 (f 5 0 1 p)
  have e : sLb f p = lawIx f c (f 5 0 1 p) := by
    unfold sLb lawIx
    rw [ec]
  have e2 : sSb f p = s := by
    unfold sSb
    rw [e, ec, es, nI_clamp (by have := h.2.2.2.2.1; omega)]
  refine ⟨by omega, ?_, ?_⟩
  · rw [ec, e, es, e2]
  · rw [e2]
    exact h.2.2.2.2.2 s hs
theorem c93 (d : Nat) {σ : pmS} {NS NC p : Nat} (h : pOk σ.1 NS NC p) : pq_RD (d + 3) 93 [vR 9 0 0, vI (nI p)] σ = some (some (vR 2 (sSb σ.1 p) 0), σ) := by
  obtain ⟨c, hc, -, e3, ec, h1⟩ := pOk_c h
  have hp := h.1
  have ep : (nI p).toNatClampNeg = p := nI_clamp (by omega)
  obtain ⟨s1, s2, -⟩ := pOk_s h
  have hNS := h.2.2.2.2.1
  have e : sLb σ.1 p = lawIx σ.1 c (σ.1 5 0 1 p) := by
    unfold sLb lawIx
    rw [ec]
  have k := c92 d (σ := σ) (y := σ.1 5 0 1 p) hc h1
  rw [← e] at k
  rw [ec] at s2
  rw [s2] at k
  refine (m93 (d + 2)).trans ((t93_0 _ (vp_in_nI hp (by omega)) (by rw [ep, e3]; exact k) (vp_in_nI (by omega) (by omega))).trans ?_)
  rw [nI_clamp (by omega)]
theorem c94 (d : Nat) {σ : pmS} {NS NC p : Nat} (h : pOk σ.1 NS NC p) : pq_RD (d + 2) 94 [vR 9 0 0, vI (nI p)] σ = some (some (vI (bI (sBm σ.1 p))), σ) := by
  obtain ⟨c, hc, -, e3, ec, h1⟩ := pOk_c h
  have hp := h.1
  have ep : (nI p).toNatClampNeg = p := nI_clamp (by omega)
  obtain ⟨nl, n1, n5, n3, -, hl, e, -⟩ := lawIx_ok h1 (σ.1 5 0 1 p)
  have eb : sLb σ.1 p = lawIx σ.1 c (σ.1 5 0 1 p) := by
    unfold sLb lawIx
    rw [ec]
  have k := c2 d (σ := σ) (o := c) (y := σ.1 5 0 1 p) n1 n5 n3
  rw [← e] at k
  refine (m94 (d + 1)).trans ((t94_0 _ (vp_in_nI hp (by omega)) (by rw [ep, e3]; exact vp_in_nI hc (by omega)) (by rw [ep, ec]; exact k) (vp_in_nI (by omega) (by omega))).trans ?_)
  unfold sBm
  rw [eb, ep, ec, nI_clamp (show lawIx σ.1 c (σ.1 5 0 1 p) < 2 ^ 31 by omega)]
  by_cases a : σ.1 0 c 2 (lawIx σ.1 c (σ.1 5 0 1 p)) = 0 <;> simp [a, bI]
theorem c10 (d : Nat) {σ : pmS} {o n : Nat} {x1 x2 : Int32} (hn : n ≤ 8) (h : σ.1 2 o 8 0 = nI n) : pq_RD (d + 2) 10 [vR 2 o 0, vI x1, vI x2] σ = some (some (vI (sCh (σ.1 2 o 8 0) (if x2 = 1 then σ.1 2 o 2 else σ.1 2 o 3) x1)), σ) := by
  have hv : ¬ bI (sHas (σ.1 2 o 8 0) x1) = 0 → vp_in x1 8 := fun z => in_le (sHas_in (by omega) (by rw [← h]; exact bI_n0.mp z)) hn (by omega)
  refine (m10 (d + 1)).trans ((t10_0 _ (c9 d) (fun z _ => hv z) (fun z _ => hv z)).trans ?_)
  unfold sCh
  cases sHas (σ.1 2 o 8 0) x1
  · simp [bI]
  · by_cases b : x2 = 1 <;> simp [b, bI]
theorem c95 (d : Nat) {σ : pmS} {NS NC p : Nat} (h : pOk σ.1 NS NC p) : pq_RD (d + 4) 95 [vR 9 0 0, vI (nI p)] σ = some (none, pm_wi (pm_wi σ 5 0 7 p (sOwn σ.1 (σ.1 5 0 7) p)) 5 0 8 p (sOth σ.1 (σ.1 5 0 7) p)) := by
  have hp := h.1
  have ep : (nI p).toNatClampNeg = p := nI_clamp (by omega)
  have hv : vp_in (nI p) 48 := vp_in_nI hp (by omega)
  obtain ⟨s1, s2, n, hn, s3⟩ := pOk_s h
  have k1 := c33 (d + 2) (σ := σ) hv
  rw [ep] at k1
  by_cases a : σ.1 5 0 4 p = -1
  · rw [show decide (σ.1 5 0 4 p = -1) = true by simp [a]] at k1
    refine (m95 (d + 3)).trans ((g95_0_4 _ k1 (by decide) hv).trans ?_)
    rw [ep]
    unfold sOwn sOth
    rw [if_pos a, if_pos a]
  · rw [show decide (σ.1 5 0 4 p = -1) = false by simp [a]] at k1
    obtain ⟨-, ⟨-, -, -, -, -, -, -, -, -, -, hpar, -⟩, -⟩ := id h
    obtain ⟨mo, fa, h1, h2, e1, e2⟩ : ∃ m fa, m < p ∧ fa < p ∧ σ.1 5 0 4 p = nI m ∧ σ.1 5 0 5 p = nI fa := by
      rcases hpar with hpar | hpar
      · exact absurd hpar.1 a
      · exact hpar
    have k2 := c93 d h
    have k3 := c10 (d + 1) (σ := σ) (o := sSb σ.1 p) (x1 := σ.1 5 0 7 mo) (x2 := 1) hn s3
    have k4 := c10 (d + 1) (σ := σ) (o := sSb σ.1 p) (x1 := σ.1 5 0 7 fa) (x2 := 0) hn s3
    have k5 := c94 (d + 1) h
    have em : (σ.1 5 0 4 p).toNatClampNeg = mo := by rw [e1]; exact nI_clamp (by omega)
    have ef : (σ.1 5 0 5 p).toNatClampNeg = fa := by rw [e2]; exact nI_clamp (by omega)
    have v1 : vp_in (σ.1 5 0 4 (nI p).toNatClampNeg) 48 := by rw [ep, e1]; exact vp_in_nI (by omega) (by omega)
    have v2 : vp_in (σ.1 5 0 5 (nI p).toNatClampNeg) 48 := by rw [ep, e2]; exact vp_in_nI (by omega) (by omega)
    rw [if_pos rfl] at k3
    rw [if_neg (by decide)] at k4
    unfold sOwn sOth
    rw [if_neg a, if_neg a, em, ef]
    cases hb : sBm σ.1 p with
    | true =>
      rw [hb] at k5
      refine (m95 (d + 3)).trans ((g95_0_3 _ k1 rfl k2 hv v1 (by rw [ep, em]; exact k3) v2 (by rw [ep, ef]; exact k4) k5 (by decide) (by decide)).trans ?_)
      rw [ep]
      simp
    | false =>
      rw [hb] at k5
      refine (m95 (d + 3)).trans ((g95_0_0 _ k1 rfl k2 hv v1 (by rw [ep, em]; exact k3) v2 (by rw [ep, ef]; exact k4) k5 rfl rfl).trans ?_)
      rw [ep]
      simp
/-! the model's -/
theorem c107 (d : Nat) {σ : pmS} {NS : Nat} {x1 x2 : Int32} (hN : NS ≤ 4) (h : σ.1 10 0 4 0 = nI NS) : pq_RD (d + 2) 107 [vR 10 0 0, vI x1, vI x2] σ = some (some (vI (bI (sHas (nI NS) x1 && sHas (σ.1 10 0 0 x1.toNatClampNeg) x2))), σ) := by
  have k := c106 d (σ := σ) (x1 := x1)
  rw [h] at k
  refine (m107 (d + 1)).trans ((t107_0 _ k (fun z _ => in_le (sHas_in (by omega) (bI_n0.mp z)) hN (by omega))).trans ?_)
  cases sHas (nI NS) x1
  · simp [bI]
  · by_cases a : x2 < 0 <;> by_cases b : σ.1 10 0 0 x1.toNatClampNeg ≤ x2 <;> simp [a, b, bI, sHas]
theorem c145 (d : Nat) {σ : pmS} {NS s n : Nat} {x2 x3 : Int32} (hN : NS ≤ 4) (h : σ.1 10 0 4 0 = nI NS) (hs : s < NS) (hn : n ≤ 8) (hz : σ.1 10 0 0 s = nI n) : pq_RD (d + 3) 145 [vR 10 0 0, vI (nI s), vI x2, vI x3] σ = some (some (vI (sCh (nI n) (fun c => σ.1 10 0 (if x3 = 0 then 3 else 2) (8 * s + c)) x2)), σ) := by
  have es : (nI s).toNatClampNeg = s := nI_clamp (by omega)
  have k := c107 d (σ := σ) (x1 := nI s) (x2 := x2) hN h
  rw [sHas_nI (by omega) hs, es, hz, Bool.true_and] at k
  unfold sCh
  cases hb : sHas (nI n) x2 with
  | false =>
    rw [hb] at k
    refine (m145 (d + 2)).trans ((g145_0_0 _ k rfl).trans ?_)
    simp
  | true =>
    rw [hb] at k
    have hv := sHas_in (by omega) hb
    obtain ⟨ex, hx⟩ := in_nI hv (by omega)
    have e8 : (8 : Int32) * nI s + x2 = nI (8 * s + x2.toNatClampNeg) := by
      rw [ex]
      show nI 8 * nI s + nI _ = _
      rw [pk_mul, nI_add, nI_clamp (by omega)]
    have hv2 : vp_in ((8 : Int32) * nI s + x2) 32 := by
      rw [e8]
      exact vp_in_nI (by omega) (by omega)
    have e9 : ((8 : Int32) * nI s + x2).toNatClampNeg = 8 * s + x2.toNatClampNeg := by
      rw [e8]
      exact nI_clamp (by omega)
    by_cases b : x3 = 0
    · refine (m145 (d + 2)).trans ((g145_0_1 _ k (by decide) b hv2).trans ?_)
      rw [e9]
      simp [b]
    · refine (m145 (d + 2)).trans ((g145_0_2 _ k (by decide) b hv2).trans ?_)
      rw [e9]
      simp [b]
