/-! findClasses of the model makes what the class keeps -/
theorem sCh_cong {n : Nat} {t t' : Nat → Int32} {x : Int32} (hn : n < 2 ^ 31) (h : ∀ c, c < n → t c = t' c) : sCh (nI n) t x = sCh (nI n) t' x := by
  unfold sCh
  cases hb : sHas (nI n) x with
  | false => rfl
  | true =>
    have := (in_nI (sHas_in hn hb) hn).2
    simp only [if_true]
    exact h _ this
/-- the store but for the model's own and others, of which the first k are right -/
def fcI (σ : pmS) (k : Nat) (τ : pmS) : Prop := (∀ c o j, ¬ (c = 10 ∧ (j = 29 ∨ j = 30)) → τ.1 c o j = σ.1 c o j) ∧ τ.2 = σ.2 ∧ ∀ p, p < k → τ.1 10 0 29 p = σ.1 5 0 7 p ∧ τ.1 10 0 30 p = σ.1 5 0 8 p
theorem fcI_off {σ τ : pmS} {k i : Nat} {a b : Int32} (h : fcI σ k τ) : ∀ c o j, ¬ (c = 10 ∧ (j = 29 ∨ j = 30)) → (pm_wi (pm_wi τ 10 0 29 i a) 10 0 30 i b).1 c o j = σ.1 c o j := by
  intro c o j hn
  rw [← h.1 c o j hn]
  funext z
  rw [wi_1, if_neg (fun w => hn ⟨w.1, Or.inr w.2.2.1⟩), wi_1, if_neg (fun w => hn ⟨w.1, Or.inl w.2.2.1⟩)]
theorem fcI_old {σ τ : pmS} {k p : Nat} {a b : Int32} (h : fcI σ k τ) (hp : p < k) : (pm_wi (pm_wi τ 10 0 29 k a) 10 0 30 k b).1 10 0 29 p = σ.1 5 0 7 p ∧ (pm_wi (pm_wi τ 10 0 29 k a) 10 0 30 k b).1 10 0 30 p = σ.1 5 0 8 p := by
  have h1 := h.2.2 p hp
  constructor
  · rw [wi_1, if_neg (by simp), wi_1, if_neg (by simp; omega)]
    exact h1.1
  · rw [wi_1, if_neg (by simp; omega), wi_1, if_neg (by simp)]
    exact h1.2
theorem fcI_put {σ τ : pmS} {k : Nat} {a b : Int32} (h : fcI σ k τ) (ha : a = σ.1 5 0 7 k) (hb : b = σ.1 5 0 8 k) : fcI σ (k + 1) (pm_wi (pm_wi τ 10 0 29 k a) 10 0 30 k b) := by
  refine ⟨fcI_off h, h.2.1, fun p hp => ?_⟩
  rcases Nat.lt_or_ge p k with h1 | h1
  · exact fcI_old h h1
  · have : p = k := by omega
    subst this
    constructor
    · rw [wi_1, if_neg (by simp), wi_1, if_pos ⟨rfl, rfl, rfl, rfl⟩, ha]
    · rw [wi_1, if_pos ⟨rfl, rfl, rfl, rfl⟩, hb]
theorem fcI_put2 {σ τ : pmS} {k : Nat} {a b a' b' : Int32} (h : fcI σ k τ) (ha : a = σ.1 5 0 7 k) (hb : b = σ.1 5 0 8 k) : fcI σ (k + 1) (pm_wi (pm_wi (pm_wi (pm_wi τ 10 0 29 k a') 10 0 30 k b') 10 0 29 k a) 10 0 30 k b) := by
  have h2 : fcI σ k (pm_wi (pm_wi τ 10 0 29 k a') 10 0 30 k b') := ⟨fcI_off h, h.2.1, fun p hp => fcI_old h hp⟩
  exact fcI_put h2 ha hb
theorem iAll_pOk {f : pmI} {NS NC NP p : Nat} (hS : iS f NS) (hC : iC f NS NC) (hP : iP f NC NP) (hp : p < NP) : pOk f NS NC p := by
  refine ⟨by have := hP.1; omega, hP.2.2.2.1 p hp, hC.1, hC.2.2.2.1, hS.1, fun s hs => ?_⟩
  obtain ⟨n, w, ch, hh⟩ := hS.2.2.2.1 s hs
  exact ⟨n, hh.2.1, hh.2.2.2.2.2.1⟩
theorem c146 (d : Nat) {σ : pmS} {NS NC NP : Nat} (hS : iS σ.1 NS) (hC : iC σ.1 NS NC) (hP : iP σ.1 NC NP) : ∃ τ, pq_RD (d + 4) 146 [vR 10 0 0] σ = some (none, τ) ∧ fcI σ NP τ := by
  have hNP := hP.1
  have h0 : fcI σ 0 σ := ⟨fun _ _ _ _ => rfl, rfl, fun p hp => by omega⟩
  have key := lp_ex (C := pq_RD (d + 3)) (S := pmS × Option pmV × Option pmV × Option pmV × Option pmV) (I := fun k s => fcI σ k s.1) (fr := fun k s => (146, 2, [some (vR 10 0 0), some (vI (nI k)), s.2.1, s.2.2.1, s.2.2.2.1, s.2.2.2.2], [], s.1)) (s0 := (σ, none, none, none, none)) h0 (n := NP) (fun k s hk hI => by
    obtain ⟨τ, l2, l3, l4, l5⟩ := s
    have hI : fcI σ k τ := hI
    have hok := iAll_pOk hS hC hP hk
    obtain ⟨p0, p1, p2, p3, p4, p5, p6, -, -, -, hpar, -⟩ := hP.2.2.2.1 k hk
    obtain ⟨hown, hoth⟩ := hP.2.2.2.2 k hk
    have ek : (nI k).toNatClampNeg = k := nI_clamp (by omega)
    have hv : vp_in (nI k) 48 := vp_in_nI (by omega) (by omega)
    have g : ∀ c o j, ¬ (c = 10 ∧ (j = 29 ∨ j = 30)) → τ.1 c o j = σ.1 c o j := hI.1
    have hg : ¬ τ.1 10 0 16 0 ≤ nI k := by
      rw [g 10 0 16 (by omega), hP.2.2.1]
      exact nI_ge hk (by omega)
    have t23 : τ.1 10 0 23 k = σ.1 5 0 4 k := by rw [g 10 0 23 (by omega), p4]
    have t24 : τ.1 10 0 24 k = σ.1 5 0 5 k := by rw [g 10 0 24 (by omega), p5]
    have t25 : τ.1 10 0 25 k = σ.1 5 0 6 k := by rw [g 10 0 25 (by omega), p6]
    have t22 : τ.1 10 0 22 k = σ.1 5 0 3 k := by rw [g 10 0 22 (by omega), p3]
    have t20 : τ.1 10 0 20 k = σ.1 5 0 1 k := by rw [g 10 0 20 (by omega), p1]
    rcases hpar with ⟨hm, hf⟩ | ⟨mo, fa, hmo, hfa, em, ef⟩
    · refine ⟨(pm_wi (pm_wi τ 10 0 29 k (σ.1 5 0 6 k)) 10 0 30 k (-1), l2, l3, l4, l5), fcI_put hI ?_ ?_, ?_⟩
      · rw [hown]
        unfold sOwn
        rw [if_pos hm]
      · rw [hoth]
        unfold sOth
        rw [if_pos hm]
      · refine (g146_2_3 _ hg hv (by rw [ek, t23, hm]; decide)).trans ?_
        rw [ek, t25, nI_1]
    · obtain ⟨c, hc, hcN, e3, ec, h1⟩ := pOk_c hok
      obtain ⟨nl, n1, n5, n3, n4, hl, -, -, l13, l14, lmod⟩ := lawIx_ok h1 (σ.1 5 0 1 k)
      obtain ⟨s1, s2, n, hn, s3⟩ := pOk_s hok
      have eb : sLb σ.1 k = lawIx σ.1 c (σ.1 5 0 1 k) := by
        unfold sLb lawIx
        rw [ec]
      rw [ec, eb] at s2
      obtain ⟨n', w, ch, hsy⟩ := hS.2.2.2.1 _ s1
      obtain ⟨-, hn8, -, -, -, z1, z2, z3⟩ := hsy
      have en : n' = n := by
        rw [z1] at s3
        exact (nI_eq (by omega) (by omega)).mp s3
      subst en
      generalize hσ' : pm_wi (pm_wi τ 10 0 29 k (σ.1 5 0 6 k)) 10 0 30 k (-1) = σ'
      have g' : ∀ c o j, ¬ (c = 10 ∧ (j = 29 ∨ j = 30)) → σ'.1 c o j = σ.1 c o j := by
        rw [← hσ']
        exact fcI_off hI
      have go : ∀ p, p < k → σ'.1 10 0 29 p = σ.1 5 0 7 p := fun p hp => by
        rw [← hσ']
        exact (fcI_old hI hp).1
      have k1 := c137 (d + 2) (σ := σ') (c := c) (y := σ.1 5 0 1 k) hc n1 n5 (by rw [g' 10 0 11 (by omega)]; exact n4)
      rw [g' 10 0 12 (by omega), lmod] at k1
      have er : (nI (5 * c + lawIx σ.1 c (σ.1 5 0 1 k))).toNatClampNeg = 5 * c + lawIx σ.1 c (σ.1 5 0 1 k) := nI_clamp (by omega)
      have hv15 : vp_in (nI (5 * c + lawIx σ.1 c (σ.1 5 0 1 k))) 15 := vp_in_nI (by omega) (by omega)
      have ksy : σ'.1 10 0 13 (5 * c + lawIx σ.1 c (σ.1 5 0 1 k)) = nI (sSb σ.1 k) := by rw [g' 10 0 13 (by omega), ← l13, s2]
      have kby : σ'.1 10 0 14 (5 * c + lawIx σ.1 c (σ.1 5 0 1 k)) = σ.1 0 c 2 (lawIx σ.1 c (σ.1 5 0 1 k)) := by rw [g' 10 0 14 (by omega), ← l14]
      have hN4 : σ'.1 10 0 4 0 = nI NS := by rw [g' 10 0 4 (by omega)]; exact hS.2.2.1
      have hz : σ'.1 10 0 0 (sSb σ.1 k) = nI n' := by rw [g' 10 0 0 (by omega)]; exact z2
      have k2 := c145 d (σ := σ') (x2 := σ.1 5 0 7 mo) (x3 := 1) hS.1 hN4 s1 hn8 hz
      have k3 := c145 d (σ := σ') (x2 := σ.1 5 0 7 fa) (x3 := 0) hS.1 hN4 s1 hn8 hz
      rw [if_neg (by decide), sCh_cong (t' := σ.1 2 (sSb σ.1 k) 2) (by omega) (fun c' hc' => by rw [g' 10 0 2 (by omega), (z3 c' hc').2.2.1, (z3 c' hc').2.2.2.2.2.2.2.1])] at k2
      rw [if_pos rfl, sCh_cong (t' := σ.1 2 (sSb σ.1 k) 3) (by omega) (fun c' hc' => by rw [g' 10 0 3 (by omega), (z3 c' hc').2.2.2.1, (z3 c' hc').2.2.2.2.2.2.2.2])] at k3
      have v23 : σ'.1 10 0 23 k = nI mo := by rw [g' 10 0 23 (by omega), ← p4, em]
      have v24 : σ'.1 10 0 24 k = nI fa := by rw [g' 10 0 24 (by omega), ← p5, ef]
      have emo : (nI mo).toNatClampNeg = mo := nI_clamp (by omega)
      have efa : (nI fa).toNatClampNeg = fa := nI_clamp (by omega)
      have h4 : pq_RD (d + 3) 137 [vR 10 0 0, vI (τ.1 10 0 22 (nI k).toNatClampNeg), vI (τ.1 10 0 20 (nI k).toNatClampNeg)] (pm_wi (pm_wi τ 10 0 29 (nI k).toNatClampNeg (τ.1 10 0 25 (nI k).toNatClampNeg)) 10 0 30 (nI k).toNatClampNeg (-1)) = some (some (vI (nI (5 * c + lawIx σ.1 c (σ.1 5 0 1 k)))), σ') := by
        rw [ek, t25, t22, t20, hσ', e3]
        exact k1
      have h8 : pq_RD (d + 3) 145 [vR 10 0 0, vI (σ'.1 10 0 13 (nI (5 * c + lawIx σ.1 c (σ.1 5 0 1 k))).toNatClampNeg), vI (σ'.1 10 0 29 (σ'.1 10 0 23 (nI k).toNatClampNeg).toNatClampNeg), vI (1 : Int32)] σ' = some (some (vI (sCh (nI n') (σ.1 2 (sSb σ.1 k) 2) (σ.1 5 0 7 mo))), σ') := by
        rw [er, ksy, ek, v23, emo, go mo hmo]
        exact k2
      have h10 : pq_RD (d + 3) 145 [vR 10 0 0, vI (σ'.1 10 0 13 (nI (5 * c + lawIx σ.1 c (σ.1 5 0 1 k))).toNatClampNeg), vI (σ'.1 10 0 29 (σ'.1 10 0 24 (nI k).toNatClampNeg).toNatClampNeg), vI (0 : Int32)] σ' = some (some (vI (sCh (nI n') (σ.1 2 (sSb σ.1 k) 3) (σ.1 5 0 7 fa))), σ') := by
        rw [er, ksy, ek, v24, efa, go fa hfa]
        exact k3
      have h3 : 0 ≤ τ.1 10 0 23 (nI k).toNatClampNeg := by rw [ek, t23, em]; exact nI_pos' (by omega)
      have h7 : vp_in (σ'.1 10 0 23 (nI k).toNatClampNeg) 48 := by rw [ek, v23]; exact vp_in_nI (by omega) (by omega)
      have h9 : vp_in (σ'.1 10 0 24 (nI k).toNatClampNeg) 48 := by rw [ek, v24]; exact vp_in_nI (by omega) (by omega)
      have hm1 : ¬ σ.1 5 0 4 k = -1 := by rw [em]; exact nI_m1 (by omega)
      have eM : (σ.1 5 0 4 k).toNatClampNeg = mo := by rw [em]; exact emo
      have eF : (σ.1 5 0 5 k).toNatClampNeg = fa := by rw [ef]; exact efa
      have sb : sBm σ.1 k = decide (σ.1 0 c 2 (lawIx σ.1 c (σ.1 5 0 1 k)) = 0) := by
        unfold sBm
        rw [eb, ec]
      by_cases hb : σ.1 0 c 2 (lawIx σ.1 c (σ.1 5 0 1 k)) = 0
      · have sb1 : sBm σ.1 k = true := by rw [sb]; simp [hb]
        refine ⟨(pm_wi (pm_wi σ' 10 0 29 k (sCh (nI n') (σ.1 2 (sSb σ.1 k) 2) (σ.1 5 0 7 mo))) 10 0 30 k (sCh (nI n') (σ.1 2 (sSb σ.1 k) 3) (σ.1 5 0 7 fa)), some (vI (nI (5 * c + lawIx σ.1 c (σ.1 5 0 1 k)))), some (vI 1), some (vI (sCh (nI n') (σ.1 2 (sSb σ.1 k) 2) (σ.1 5 0 7 mo))), some (vI (sCh (nI n') (σ.1 2 (sSb σ.1 k) 3) (σ.1 5 0 7 fa)))), ?_, ?_⟩
        · rw [← hσ']
          refine fcI_put2 hI ?_ ?_
          · rw [hown]
            unfold sOwn
            rw [if_neg hm1, if_pos sb1, z1, eM]
          · rw [hoth]
            unfold sOth
            rw [if_neg hm1, if_pos sb1, z1, eF]
        · refine (g146_2_1 _ hg hv h3 h4 hv15 (by rw [er, kby]; exact hb) h7 h8 h9 h10).trans ?_
          rw [ek, nI_1]
      · have sb1 : ¬ sBm σ.1 k = true := by rw [sb]; simp [hb]
        refine ⟨(pm_wi (pm_wi σ' 10 0 29 k (sCh (nI n') (σ.1 2 (sSb σ.1 k) 3) (σ.1 5 0 7 fa))) 10 0 30 k (sCh (nI n') (σ.1 2 (sSb σ.1 k) 2) (σ.1 5 0 7 mo)), some (vI (nI (5 * c + lawIx σ.1 c (σ.1 5 0 1 k)))), some (vI 0), some (vI (sCh (nI n') (σ.1 2 (sSb σ.1 k) 2) (σ.1 5 0 7 mo))), some (vI (sCh (nI n') (σ.1 2 (sSb σ.1 k) 3) (σ.1 5 0 7 fa)))), ?_, ?_⟩
        · rw [← hσ']
          refine fcI_put2 hI ?_ ?_
          · rw [hown]
            unfold sOwn
            rw [if_neg hm1, if_neg sb1, z1, eF]
          · rw [hoth]
            unfold sOth
            rw [if_neg hm1, if_neg sb1, z1, eM]
        · refine (g146_2_2 _ hg hv h3 h4 hv15 (by rw [er, kby]; exact hb) h7 h8 h9 h10).trans ?_
          rw [ek, nI_1])
  obtain ⟨⟨τ, l2, l3, l4, l5⟩, hI, hr⟩ := key
  refine ⟨τ, ?_, hI⟩
  refine (m146 (d + 3)).trans ((g146_0_0 _).trans ?_)
  refine Eq.trans hr ?_
  exact g146_2_0 _ (by rw [hI.1 10 0 16 (by omega), hP.2.2.1, fa_le]; omega)
