/-! kin, alike, home -/
def wf (f : pmI) (s v c x : Nat) : Nat → Nat × Nat
  | 0 => (c, x)
  | k + 1 => (stC f s (wf f s v c x k).1 (wf f s v c x k).2 (v / 8 ^ k % 8), stX (wf f s v c x k).2 (v / 8 ^ k % 8))
def sx (v x : Nat) : Nat → Nat
  | 0 => x
  | k + 1 => stX (sx v x k) (v / 8 ^ k % 8)
theorem wf_2 (f : pmI) (s v c x : Nat) : ∀ k, (wf f s v c x k).2 = sx v x k
  | 0 => rfl
  | k + 1 => by rw [wf, sx, wf_2 f s v c x k]
theorem sx_lt {v x : Nat} (hx : x < 2) : ∀ k, sx v x k < 2
  | 0 => hx
  | k + 1 => stX_lt (sx_lt hx k)
theorem wf_lt {f : pmI} {s n : Nat} {w ch : Nat → Nat} (h : iSy f s n w ch) {v c x : Nat} (hc : c < n) : ∀ k, (wf f s v c x k).1 < n
  | 0 => hc
  | k + 1 => stC_lt h (wf_lt h hc k)
def wK (v : Nat) : Nat := fa_first (fun k => decide (v / 8 ^ k = 0)) 6
def okW (v : Nat) : Prop := v < 8 ^ 6 ∧ wK v ≤ 6 ∧ v / 8 ^ wK v = 0 ∧ ∀ k, k < wK v → v / 8 ^ k ≠ 0 ∧ 1 ≤ v / 8 ^ k % 8 ∧ v / 8 ^ k % 8 ≤ 5
theorem sWay_v {x : Int32} (h : sWay x = true) : ∃ v, x = nI v ∧ okW v := by
  unfold sWay at h
  rw [Bool.and_eq_true, decide_eq_true_eq] at h
  obtain ⟨⟨h0, h1⟩, h2⟩ := h
  have l0 : (0 : Int32).toInt = 0 := rfl
  obtain ⟨v, hv, rfl⟩ := nI_of (x := x) (by rw [fa_lt]; omega)
  rw [nI_clamp hv] at h2
  rw [nI_toInt hv] at h0 h1
  have e6 : (8 : Nat) ^ 6 = 262144 := by decide
  have hv6 : v < 8 ^ 6 := by omega
  have hle := fa_first_le (fun k => decide (v / 8 ^ k = 0)) 6
  refine ⟨v, rfl, hv6, hle, ?_, fun k hk => ?_⟩
  · rcases Nat.lt_or_ge (wK v) 6 with h | h
    · exact of_decide_eq_true (fa_first_yes (fun k => decide (v / 8 ^ k = 0)) 6 h)
    · exact zero_up (Nat.div_eq_of_lt hv6) h
  · have nz := of_decide_eq_false (fa_first_no (fun k => decide (v / 8 ^ k = 0)) 6 k hk)
    have hk6 : k < 6 := Nat.lt_of_lt_of_le hk hle
    have q := hfA_t.mp h2 k hk6
    unfold wq at q
    exact ⟨nz, by simpa [nz] using q⟩
theorem okW_31 {v : Nat} (h : okW v) : v < 2 ^ 31 := by
  have := h.1
  have e6 : (8 : Nat) ^ 6 = 262144 := by decide
  omega
theorem c12 (d : Nat) {σ : pmS} {s n : Nat} {w ch : Nat → Nat} (h : iSy σ.1 s n w ch) {c x v : Nat} (hc : c < n) (hx : x < 2) (hv : okW v) : pq_RD (d + 4) 12 [vR 2 s 0, vI (nI c), vI (nI x), vI (nI v)] σ = some (some (vI (nI (2 * (wf σ.1 s v c x (wK v)).1 + (wf σ.1 s v c x (wK v)).2))), σ) := by
  have hv31 := okW_31 hv
  obtain ⟨hv6, hK, hz, hd⟩ := hv
  have small : ∀ k, v / 8 ^ k < 2 ^ 31 := fun k => Nat.lt_of_le_of_lt (Nat.div_le_self _ _) hv31
  refine (m12 (d + 3)).trans ((g12_0_0 _).trans ?_)
  rw [two_mul_nI]
  refine (lp_n (C := pq_RD (d + 3)) (fr := fun k => (12, 10, [some (vR 2 s 0), some (vI (nI c)), some (vI (nI x)), some (vI (nI v)), some (vI (nI (2 * (wf σ.1 s v c x k).1 + (wf σ.1 s v c x k).2))), some (vI (nI (3 * k)))], [], σ)) (n := wK v) (fun k hk => ?_)).trans ?_
  · obtain ⟨d0, d1, d5⟩ := hd k hk
    have e3 := shr3 hv31 (by omega : k < 6)
    have e7 := and7 (small k)
    have hx2 : (wf σ.1 s v c x k).2 < 2 := by rw [wf_2]; exact sx_lt hx k
    have r := c11 d h (c := (wf σ.1 s v c x k).1) (x := (wf σ.1 s v c x k).2) (e := v / 8 ^ k % 8) (wf_lt h hc k) hx2 d1 d5
    have en : nI (3 * k) + 3 = nI (3 * (k + 1)) := nI_add (3 * k) 3
    rw [← en]
    exact g12_10_2 _ (nI_ge (b := 18) (by omega) (by decide)) (by rw [e3, nI_is0 (small k)]; exact d0) (by rw [e3, e7]; exact r)
  · rcases Nat.lt_or_ge (wK v) 6 with h6 | h6
    · exact g12_10_1 _ (nI_ge (b := 18) (by omega) (by decide)) (by rw [shr3 hv31 h6, nI_is0 (small _)]; exact hz)
    · have : wK v = 6 := by omega
      rw [this]
      exact g12_10_0 _ (by decide)
/-! the model -/
theorem c115b (d : Nat) {σ : pmS} {s k c : Nat} (hs : s < 4) (hk : k < 8) (h1 : σ.1 10 0 2 (8 * s + k) = nI c) (h2 : ∀ j, j < k → ¬ σ.1 10 0 2 (8 * s + j) = nI c) : pq_RD (d + 1) 115 [vR 10 0 0, vR 10 0 3, vI (nI s), vI (nI c)] σ = some (some (vI (nI k)), σ) := by
  refine (m115b d).trans ((g115b_0_0 _).trans ?_)
  refine (lp_n (C := pq_RD d) (fr := fun j => (115, 3, [some (vR 10 0 0), some (vR 10 0 3), some (vI (nI s)), some (vI (nI c)), some (vI (nI j))], [], σ)) (n := k) (fun j hj => ?_)).trans ?_
  · obtain ⟨-, v, e⟩ := ix8 hs (by omega : j < 8)
    rw [← nI_1]
    exact g115b_3_1 _ v (by rw [e]; exact h2 j hj)
  · obtain ⟨-, v, e⟩ := ix8 hs hk
    exact g115b_3_0 _ v (by rw [e]; exact h1)
theorem c115c (d : Nat) {σ : pmS} {s k c : Nat} (hs : s < 4) (hk : k < 8) (h1 : σ.1 10 0 3 (8 * s + k) = nI c) (h2 : ∀ j, j < k → ¬ σ.1 10 0 3 (8 * s + j) = nI c) : pq_RD (d + 1) 115 [vR 10 0 0, vR 10 0 4, vI (nI s), vI (nI c)] σ = some (some (vI (nI k)), σ) := by
  refine (m115c d).trans ((g115c_0_0 _).trans ?_)
  refine (lp_n (C := pq_RD d) (fr := fun j => (115, 3, [some (vR 10 0 0), some (vR 10 0 4), some (vI (nI s)), some (vI (nI c)), some (vI (nI j))], [], σ)) (n := k) (fun j hj => ?_)).trans ?_
  · obtain ⟨-, v, e⟩ := ix8 hs (by omega : j < 8)
    rw [← nI_1]
    exact g115c_3_1 _ v (by rw [e]; exact h2 j hj)
  · obtain ⟨-, v, e⟩ := ix8 hs hk
    exact g115c_3_0 _ v (by rw [e]; exact h1)
theorem c119 (d : Nat) {σ : pmS} {x e : Nat} (hx : x < 2) (he5 : e ≤ 5) : pq_RD (d + 1) 119 [vI (nI x), vI (nI e)] σ = some (some (vI (nI (stX x e))), σ) := by
  unfold stX
  by_cases e3 : e = 3
  · rw [if_pos e3]
    refine (m119 d).trans ((g119_0_0 _ (by rw [e3]; rfl)).trans ?_)
    exact congrArg (fun q => some (some (vI q), σ)) (pk_sub (a := 1) (b := x) (by omega))
  · have n3 : ¬ nI e = 3 := fun z => e3 ((nI_eq (b := 3) (by omega) (by decide)).mp z)
    rw [if_neg e3]
    by_cases e2 : e = 2
    · rw [if_pos e2]
      exact (m119 d).trans (g119_0_1 _ n3 (by rw [e2]; rfl))
    · have n2 : ¬ nI e = 2 := fun z => e2 ((nI_eq (b := 2) (by omega) (by decide)).mp z)
      rw [if_neg e2]
      by_cases e5 : e = 5
      · rw [if_pos e5]
        exact (m119 d).trans (g119_0_2 _ n3 n2 (by rw [e5]; rfl))
      · have n5 : ¬ nI e = 5 := fun z => e5 ((nI_eq (b := 5) (by omega) (by decide)).mp z)
        rw [if_neg e5]
        exact (m119 d).trans (g119_0_3 _ n3 n2 n5)
theorem c120 (d : Nat) {σ : pmS} {s n : Nat} {w ch : Nat → Nat} (hs : s < 4) (h : iSy σ.1 s n w ch) {c x e : Nat} (hc : c < n) (hx : x < 2) (he1 : 1 ≤ e) (he5 : e ≤ 5) : pq_RD (d + 2) 120 [vR 10 0 0, vI (nI s), vI (nI c), vI (nI x), vI (nI e)] σ = some (some (vI (nI (stC σ.1 s c x e))), σ) := by
  obtain ⟨u0, u2, u3, u1, u4, u5⟩ := tb_inv h hc
  have b5 := (tb_ok h (k := 5) (by omega) hc).2
  have b4 := (tb_ok h (k := 4) (by omega) hc).2
  have b1 := (tb_ok h (k := 1) (by omega) hc).2
  obtain ⟨h2, h8, hwc, wi, ci, z1, z2, z3⟩ := h
  obtain ⟨-, v32, e32⟩ := ix8 hs (by omega : c < 8)
  rcases (by omega : e = 1 ∨ e = 2 ∨ e = 3 ∨ e = 4 ∨ e = 5) with rfl | rfl | rfl | rfl | rfl
  · exact (m120 (d + 1)).trans (g120_0_0 _ rfl (c115c d (k := tb σ.1 s 5 c) hs (by omega) (by rw [(z3 _ b5).2.2.2.2.2.2.2.2, u5]) (fun j hj e => by
      rw [(z3 j (by omega)).2.2.2.2.2.2.2.2] at e
      have hj1 := hwc j (by omega)
      have := (nI_eq (by have := (hwc _ hj1.1).2; omega) (by omega)).mp e
      have := wi j _ (by omega) b5 (ci _ _ hj1.1 (hwc _ b5).1 (this.trans u5.symm))
      omega)))
  · exact (m120 (d + 1)).trans (g120_0_1 _ rfl (c115b d (k := tb σ.1 s 4 c) hs (by omega) (by rw [(z3 _ b4).2.2.2.2.2.2.2.1, u4]) (fun j hj e => by
      rw [(z3 j (by omega)).2.2.2.2.2.2.2.1] at e
      have := (nI_eq (by have := (hwc j (by omega)).2; omega) (by omega)).mp e
      have := ci j _ (by omega) b4 (this.trans u4.symm)
      omega)))
  · rcases (by omega : x = 0 ∨ x = 1) with rfl | rfl
    · refine (m120 (d + 1)).trans ((g120_0_2 _ rfl rfl v32).trans ?_)
      rw [e32, (z3 c hc).2.2.2.2.2.2.1, ← u0]
      rfl
    · exact (m120 (d + 1)).trans (g120_0_3 _ rfl (by decide) (c115a d (k := tb σ.1 s 1 c) hs (by omega) rfl (by rw [(z3 _ b1).2.2.2.2.2.2.1, u1]) (fun j hj e => by
        rw [(z3 j (by omega)).2.2.2.2.2.2.1] at e
        have := (nI_eq (by have := (hwc j (by omega)).1; omega) (by omega)).mp e
        have := wi j _ (by omega) b1 (this.trans u1.symm)
        omega)))
  · rcases (by omega : x = 0 ∨ x = 1) with rfl | rfl
    · refine (m120 (d + 1)).trans ((g120_0_4 _ (by decide) (by decide) (by decide) rfl v32).trans ?_)
      rw [e32, (z3 c hc).2.2.2.2.2.2.2.2, ← u3]
      rfl
    · refine (m120 (d + 1)).trans ((g120_0_5 _ (by decide) (by decide) (by decide) (by decide) v32).trans ?_)
      rw [e32, (z3 c hc).2.2.2.2.2.2.2.1, ← u2]
      rfl
  · rcases (by omega : x = 0 ∨ x = 1) with rfl | rfl
    · refine (m120 (d + 1)).trans ((g120_0_4 _ (by decide) (by decide) (by decide) rfl v32).trans ?_)
      rw [e32, (z3 c hc).2.2.2.2.2.2.2.2, ← u3]
      rfl
    · refine (m120 (d + 1)).trans ((g120_0_5 _ (by decide) (by decide) (by decide) (by decide) v32).trans ?_)
      rw [e32, (z3 c hc).2.2.2.2.2.2.2.1, ← u2]
      rfl
theorem c121 (d : Nat) {σ : pmS} {s n : Nat} {w ch : Nat → Nat} (hs : s < 4) (h : iSy σ.1 s n w ch) {c x v : Nat} (hc : c < n) (hx : x < 2) (hv : okW v) : pq_RD (d + 3) 121 [vR 10 0 0, vI (nI s), vI (nI c), vI (nI x), vI (nI v)] σ = some (some (vI (nI (wf σ.1 s v c x (wK v)).1)), σ) := by
  have hv31 := okW_31 hv
  obtain ⟨hv6, hK, hz, hd⟩ := hv
  have small : ∀ k, v / 8 ^ k < 2 ^ 31 := fun k => Nat.lt_of_le_of_lt (Nat.div_le_self _ _) hv31
  have run := lp_n (C := pq_RD (d + 2)) (fr := fun k => (121, 10, [some (vR 10 0 0), some (vI (nI s)), some (vI (nI c)), some (vI (nI x)), some (vI (nI v)), some (vI (nI (wf σ.1 s v c x k).1)), some (vI (nI (wf σ.1 s v c x k).2)), some (vI (nI (v / 8 ^ k)))], [], σ)) (n := wK v) (fun k hk => by
    obtain ⟨d0, d1, d5⟩ := hd k hk
    have hx2 : (wf σ.1 s v c x k).2 < 2 := by rw [wf_2]; exact sx_lt hx k
    have r1 := c120 d hs h (c := (wf σ.1 s v c x k).1) (x := (wf σ.1 s v c x k).2) (e := v / 8 ^ k % 8) (wf_lt h hc k) hx2 d1 d5
    have r2 := c119 (d + 1) (σ := σ) (x := (wf σ.1 s v c x k).2) (e := v / 8 ^ k % 8) hx2 d5
    refine (g121_10_1 _ (by rw [nI_le0 (small k)]; exact d0) (by rw [rem8 (small k)]; exact r1) (by rw [rem8 (small k)]; exact r2)).trans ?_
    rw [quo8 (small k), div8]
    rfl)
  have e0 : v / 8 ^ 0 = v := by simp
  rw [e0] at run
  refine (m121 (d + 2)).trans ((g121_0_0 _).trans (Eq.trans run ?_))
  exact g121_10_0 _ (by rw [nI_le0 (small _)]; exact hz)
theorem c122 (d : Nat) {σ : pmS} {x v : Nat} (hx : x < 2) (hv : okW v) : pq_RD (d + 2) 122 [vR 10 0 0, vI (nI x), vI (nI v)] σ = some (some (vI (nI (sx v x (wK v)))), σ) := by
  have hv31 := okW_31 hv
  obtain ⟨hv6, hK, hz, hd⟩ := hv
  have small : ∀ k, v / 8 ^ k < 2 ^ 31 := fun k => Nat.lt_of_le_of_lt (Nat.div_le_self _ _) hv31
  have run := lp_n (C := pq_RD (d + 1)) (fr := fun k => (122, 5, [some (vR 10 0 0), some (vI (nI x)), some (vI (nI v)), some (vI (nI (sx v x k))), some (vI (nI (v / 8 ^ k)))], [], σ)) (n := wK v) (fun k hk => by
    obtain ⟨d0, d1, d5⟩ := hd k hk
    have r2 := c119 d (σ := σ) (x := sx v x k) (e := v / 8 ^ k % 8) (sx_lt hx k) d5
    refine (g122_5_1 _ (by rw [nI_le0 (small k)]; exact d0) (by rw [rem8 (small k)]; exact r2)).trans ?_
    rw [quo8 (small k), div8]
    rfl)
  have e0 : v / 8 ^ 0 = v := by simp
  rw [e0] at run
  refine (m122 (d + 1)).trans ((g122_0_0 _).trans (Eq.trans run ?_))
  exact g122_5_0 _ (by rw [nI_le0 (small _)]; exact hz)
theorem sSex_n {x : Int32} (h : sSex x = true) : ∃ a, a < 2 ∧ x = nI a := by
  rcases sSex_01 h with rfl | rfl
  · exact ⟨0, by omega, rfl⟩
  · exact ⟨1, by omega, rfl⟩
theorem T_kin {σ : pmS} (h : Inv σ) (s c x v : Int32) : Tok 58 123 [vI s, vI c, vI x, vI v] σ := by
  obtain ⟨NS, NC, NP, hh⟩ := id h
  have hh : iAll σ.1 NS NC NP := hh
  obtain ⟨hT, hS, hC, hP, hW, hM, hO⟩ := id hh
  have hNS := hS.1
  have a1 := c87 57 (σ := σ) (x1 := s) (x2 := c) hNS hS.2.1
  have b1 := c107 57 (σ := σ) (x1 := s) (x2 := c) hNS hS.2.2.1
  have a2 := c89 58 (σ := σ) (x0 := x)
  have b2 := c118 58 (σ := σ) (x0 := x)
  have a3 := c91 58 (σ := σ) (x := v)
  have b3 := c117 58 (σ := σ) (x := v)
  cases q1 : sHas (nI NS) s with
  | false =>
    rw [q1, Bool.false_and] at a1 b1
    exact ⟨_, _, _, (m58 59).trans (g58_0_0 _ a1 rfl), (m123 59).trans (g123_0_0 _ b1 rfl), h⟩
  | true =>
    obtain ⟨es, hs⟩ := in_nI (sHas_in (by omega) q1) (by omega)
    obtain ⟨n, w, ch, hsy⟩ := hS.2.2.2.1 _ hs
    have hn8 := hsy.2.1
    rw [q1, Bool.true_and, hsy.2.2.2.2.2.1] at a1
    rw [q1, Bool.true_and, hsy.2.2.2.2.2.2.1] at b1
    cases q2 : sHas (nI n) c with
    | false =>
      rw [q2] at a1 b1
      exact ⟨_, _, _, (m58 59).trans (g58_0_0 _ a1 rfl), (m123 59).trans (g123_0_0 _ b1 rfl), h⟩
    | true =>
      rw [q2] at a1 b1
      obtain ⟨ec, hc⟩ := in_nI (sHas_in (by omega) q2) (by omega)
      have vs : vp_in s 4 := in_le (sHas_in (by omega) q1) hNS (by omega)
      cases q3 : sSex x with
      | false =>
        rw [q3] at a2 b2
        exact ⟨_, _, _, (m58 59).trans (g58_0_1 _ a1 (by decide) a2 rfl), (m123 59).trans (g123_0_1 _ b1 (by decide) b2 rfl), h⟩
      | true =>
        rw [q3] at a2 b2
        obtain ⟨xn, hx, ex⟩ := sSex_n q3
        cases q4 : sWay v with
        | false =>
          rw [q4] at a3 b3
          exact ⟨_, _, _, (m58 59).trans (g58_0_2 _ a1 (by decide) a2 (by decide) a3 rfl), (m123 59).trans (g123_0_2 _ b1 (by decide) b2 (by decide) b3 rfl), h⟩
        | true =>
          rw [q4] at a3 b3
          obtain ⟨vn, ev, hv⟩ := sWay_v q4
          have r1 := c12 55 hsy hc hx hv
          have r2 := c121 56 (by omega) hsy hc hx hv
          have hx2 : (wf σ.1 s.toNatClampNeg vn c.toNatClampNeg xn (wK vn)).2 < 2 := by rw [wf_2]; exact sx_lt hx _
          have hlt := wf_lt hsy (v := vn) (x := xn) hc (wK vn)
          rw [← ec, ← ex, ← ev] at r1
          rw [← es, ← ec, ← ex, ← ev] at r2
          exact ⟨_, _, _, ((m58 59).trans (g58_0_3 _ a1 (by decide) a2 (by decide) a3 (by decide) vs r1)).trans (by rw [place_c (by omega) hx2]), (m123 59).trans (g123_0_3 _ b1 (by decide) b2 (by decide) b3 (by decide) r2), h⟩
theorem T_alike {σ : pmS} (h : Inv σ) (s x v u : Int32) : Tok 59 124 [vI s, vI x, vI v, vI u] σ := by
  obtain ⟨NS, NC, NP, hh⟩ := id h
  have hh : iAll σ.1 NS NC NP := hh
  obtain ⟨hT, hS, hC, hP, hW, hM, hO⟩ := id hh
  have hNS := hS.1
  have a1 := c86 58 (σ := σ) (x1 := s)
  have b1 := c106 58 (σ := σ) (x1 := s)
  rw [hS.2.1] at a1
  rw [hS.2.2.1] at b1
  have a2 := c89 58 (σ := σ) (x0 := x)
  have b2 := c118 58 (σ := σ) (x0 := x)
  have a3 := c91 58 (σ := σ) (x := v)
  have b3 := c117 58 (σ := σ) (x := v)
  have a4 := c91 58 (σ := σ) (x := u)
  have b4 := c117 58 (σ := σ) (x := u)
  cases q1 : sHas (nI NS) s with
  | false =>
    rw [q1] at a1 b1
    exact ⟨_, _, _, (m59 59).trans (g59_0_0 _ a1 rfl), (m124 59).trans (g124_0_0 _ b1 rfl), h⟩
  | true =>
    rw [q1] at a1 b1
    obtain ⟨es, hs⟩ := in_nI (sHas_in (by omega) q1) (by omega)
    have vs : vp_in s 4 := in_le (sHas_in (by omega) q1) hNS (by omega)
    obtain ⟨n, w, ch, hsy⟩ := hS.2.2.2.1 _ hs
    have hn8 := hsy.2.1
    have z1 := hsy.2.2.2.2.2.1
    have z2 := hsy.2.2.2.2.2.2.1
    cases q3 : sSex x with
    | false =>
      rw [q3] at a2 b2
      exact ⟨_, _, _, (m59 59).trans (g59_0_1 _ a1 (by decide) a2 rfl), (m124 59).trans (g124_0_1 _ b1 (by decide) b2 rfl), h⟩
    | true =>
      rw [q3] at a2 b2
      obtain ⟨xn, hx, ex⟩ := sSex_n q3
      cases q4 : sWay v with
      | false =>
        rw [q4] at a3 b3
        exact ⟨_, _, _, (m59 59).trans (g59_0_2 _ a1 (by decide) a2 (by decide) a3 rfl), (m124 59).trans (g124_0_2 _ b1 (by decide) b2 (by decide) b3 rfl), h⟩
      | true =>
        rw [q4] at a3 b3
        obtain ⟨vn, ev, hv⟩ := sWay_v q4
        cases q5 : sWay u with
        | false =>
          rw [q5] at a4 b4
          exact ⟨_, _, _, (m59 59).trans (g59_0_3 _ a1 (by decide) a2 (by decide) a3 (by decide) a4 rfl), (m124 59).trans (g124_0_3 _ b1 (by decide) b2 (by decide) b3 (by decide) b4 rfl), h⟩
        | true =>
          rw [q5] at a4 b4
          obtain ⟨un, eu, hu⟩ := sWay_v q5
          generalize eA : (fun c => (wf σ.1 s.toNatClampNeg vn c xn (wK vn)).1) = A
          generalize eB : (fun c => (wf σ.1 s.toNatClampNeg un c xn (wK un)).1) = B
          have A8 : ∀ c, c < n → A c < 8 := fun c hc => by rw [← eA]; have := wf_lt hsy (v := vn) (x := xn) hc (wK vn); exact Nat.lt_of_lt_of_le this hn8
          have B8 : ∀ c, c < n → B c < 8 := fun c hc => by rw [← eB]; have := wf_lt hsy (v := un) (x := xn) hc (wK un); exact Nat.lt_of_lt_of_le this hn8
          have cA : ∀ c, c < n → ∃ y, y < 2 ∧ pq_RD 59 12 [vR 2 s.toNatClampNeg 0, vI (nI c), vI x, vI v] σ = some (some (vI (nI (2 * A c + y))), σ) := fun c hc => ⟨(wf σ.1 s.toNatClampNeg vn c xn (wK vn)).2, by rw [wf_2]; exact sx_lt hx _, by rw [← eA, ex, ev]; exact c12 55 hsy hc hx hv⟩
          have cB : ∀ c, c < n → ∃ y, y < 2 ∧ pq_RD 59 12 [vR 2 s.toNatClampNeg 0, vI (nI c), vI x, vI u] σ = some (some (vI (nI (2 * B c + y))), σ) := fun c hc => ⟨(wf σ.1 s.toNatClampNeg un c xn (wK un)).2, by rw [wf_2]; exact sx_lt hx _, by rw [← eB, ex, eu]; exact c12 55 hsy hc hx hu⟩
          have dA : ∀ c, c < n → pq_RD 59 121 [vR 10 0 0, vI s, vI (nI c), vI x, vI v] σ = some (some (vI (nI (A c))), σ) := fun c hc => by
            have := c121 56 (by omega) hsy hc hx hv
            rw [← es, ← ex, ← ev] at this
            rw [← eA]
            exact this
          have dB : ∀ c, c < n → pq_RD 59 121 [vR 10 0 0, vI s, vI (nI c), vI x, vI u] σ = some (some (vI (nI (B c))), σ) := fun c hc => by
            have := c121 56 (by omega) hsy hc hx hu
            rw [← es, ← ex, ← eu] at this
            rw [← eB]
            exact this
          refine ⟨bI (hfA (fun c => decide (A c = B c)) n), σ, σ, ?_, ?_, h⟩
          · refine (m59 59).trans ((g59_0_4 _ a1 (by decide) a2 (by decide) a3 (by decide) a4 (by decide) vs).trans ?_)
            refine (lp_first (C := pq_RD 59) (fr := fun k => (59, 43, [some (vR 9 0 0), some (vI s), some (vI x), some (vI v), some (vI u), some (vR 2 s.toNatClampNeg 0), some (vI (nI k))], [], σ)) (p := fun c => !decide (A c = B c)) (n := n) (fun k hk hq => ?_)).trans ?_
            · have e : A k = B k := by simpa using hq
              obtain ⟨y1, h1, r1⟩ := cA k hk
              obtain ⟨y2, h2, r2⟩ := cB k hk
              rw [← nI_1]
              exact g59_43_1 _ (by rw [z1]; exact nI_ge hk (by omega)) r1 r2 (by rw [place_c (A8 k hk) h1, place_c (B8 k hk) h2, e])
            · have hle := fa_first_le (fun c => !decide (A c = B c)) n
              have hno := fa_first_no (fun c => !decide (A c = B c)) n
              have hyes := fa_first_yes (fun c => !decide (A c = B c)) n
              generalize fa_first (fun c => !decide (A c = B c)) n = K at hle hno hyes
              rcases Nat.lt_or_ge K n with hK | hK
              · have e : ¬ A K = B K := by simpa using hyes hK
                rw [show hfA (fun c => decide (A c = B c)) n = false by
                  cases hc : hfA (fun c => decide (A c = B c)) n with
                  | false => rfl
                  | true => exact absurd (of_decide_eq_true (hfA_t.mp hc K hK)) e]
                obtain ⟨y1, h1, r1⟩ := cA K hK
                obtain ⟨y2, h2, r2⟩ := cB K hK
                exact g59_43_2 _ (by rw [z1]; exact nI_ge hK (by omega)) r1 r2 (by rw [place_c (A8 K hK) h1, place_c (B8 K hK) h2]; intro z; exact e ((nI_eq (by have := A8 K hK; omega) (by have := B8 K hK; omega)).mp z))
              · have : K = n := by omega
                subst this
                rw [hfA_t.mpr (fun k hk => by simpa using hno k hk)]
                exact g59_43_0 _ (by rw [z1, fa_le]; omega)
          · refine (m124 59).trans ((g124_0_4 _ b1 (by decide) b2 (by decide) b3 (by decide) b4 (by decide)).trans ?_)
            refine (lp_n (C := pq_RD 59) (fr := fun k => (124, 38, [some (vR 10 0 0), some (vI s), some (vI x), some (vI v), some (vI u), some (vI (bI (hfA (fun c => decide (A c = B c)) k))), some (vI (nI k))], [], σ)) (n := n) (fun k hk => ?_)).trans ?_
            · have hg : ¬ σ.1 10 0 0 s.toNatClampNeg ≤ nI k := by rw [z2]; exact nI_ge hk (by omega)
              rw [← nI_1, hfA]
              cases hfA (fun c => decide (A c = B c)) k with
              | false => exact g124_38_2 _ vs hg rfl
              | true =>
                by_cases e : A k = B k
                · rw [show (true && decide (A k = B k)) = true by simp [e]]
                  exact g124_38_3 _ vs hg (by decide) (dA k hk) (dB k hk) (by rw [e])
                · rw [show (true && decide (A k = B k)) = false by simp [e]]
                  exact g124_38_4 _ vs hg (by decide) (dA k hk) (dB k hk) (fun z => e ((nI_eq (by have := A8 k hk; omega) (by have := B8 k hk; omega)).mp z))
            · have hg : σ.1 10 0 0 s.toNatClampNeg ≤ nI n := by rw [z2, fa_le]; omega
              cases hfA (fun c => decide (A c = B c)) n with
              | false => exact g124_38_0 _ vs hg rfl
              | true => exact g124_38_1 _ vs hg (by decide)
