/-! who is married to whom, children, who lives -/
theorem lp_cntE {C : pmC} {fr : Int32 → Nat → Option pmV → pmF} {p : Nat → Bool} {n : Nat} {l : Option pmV} (h : ∀ k a l, k < n → ∃ l', pq_Rn C (fr a k l) = pq_Rn C (fr (if p k = true then a + 1 else a) (k + 1) l')) : ∃ l', pq_Rn C (fr 0 0 l) = pq_Rn C (fr (nI (fa_cnt p n)) n l') := by
  obtain ⟨l', -, h2⟩ := lp_ex (C := C) (S := Option pmV) (I := fun _ _ => True) (fr := fun k l => fr (nI (fa_cnt p k)) k l) (s0 := l) trivial (n := n) (fun k l hk _ => by
    obtain ⟨l', h1⟩ := h k (nI (fa_cnt p k)) l hk
    refine ⟨l', trivial, h1.trans ?_⟩
    cases hp : p k with
    | true => rw [if_pos rfl, fa_cnt_yes hp, nI_1]
    | false => rw [if_neg (by decide), fa_cnt_no hp])
  exact ⟨l', h2⟩
def sLast (yr mb me wb we y : Int32) : Bool := !decide (y < yr) && sLives mb me y && sLives wb we y
/-- the class's k-th marriage in a year -/
def lastC (f : pmI) (k : Nat) (y : Int32) : Bool := sLast (f 8 0 2 k) (f 5 0 1 (f 8 0 0 k).toNatClampNeg) (f 5 0 2 (f 8 0 0 k).toNatClampNeg) (f 5 0 1 (f 8 0 1 k).toNatClampNeg) (f 5 0 2 (f 8 0 1 k).toNatClampNeg) y
theorem c52 (d : Nat) {σ : pmS} {k : Nat} {y : Int32} (hk : k < 40) (ha : vp_in (σ.1 8 0 0 k) 48) (hb : vp_in (σ.1 8 0 1 k) 48) : pq_RD (d + 2) 52 [vR 8 0 0, vR 5 0 0, vI (nI k), vI y] σ = some (some (vI (bI (lastC σ.1 k y))), σ) := by
  have ek : (nI k).toNatClampNeg = k := nI_clamp (by omega)
  have k1 := c34 d (σ := σ) (x2 := y) ha
  have k2 := c34 d (σ := σ) (x2 := y) hb
  refine (m52 (d + 1)).trans ((t52_0 _ (vp_in_nI hk (by omega)) (fun _ => by rw [ek]; exact k1) (fun _ _ => by rw [ek]; exact k2)).trans ?_)
  rw [ek]
  simp only [bI_0]
  unfold lastC sLast
  generalize sLives (σ.1 5 0 1 (σ.1 8 0 0 k).toNatClampNeg) (σ.1 5 0 2 (σ.1 8 0 0 k).toNatClampNeg) y = A
  generalize sLives (σ.1 5 0 1 (σ.1 8 0 1 k).toNatClampNeg) (σ.1 5 0 2 (σ.1 8 0 1 k).toNatClampNeg) y = B
  by_cases a : y < σ.1 8 0 2 k <;> cases A <;> cases B <;> simp [a, bI]
theorem c149 (d : Nat) {σ : pmS} {k : Nat} {y : Int32} (hk : k < 40) (ha : vp_in (σ.1 10 0 26 k) 48) (hb : vp_in (σ.1 10 0 27 k) 48) : pq_RD (d + 2) 149 [vR 10 0 0, vI (nI k), vI y] σ = some (some (vI (bI (sLast (σ.1 10 0 28 k) (σ.1 10 0 20 (σ.1 10 0 26 k).toNatClampNeg) (σ.1 10 0 21 (σ.1 10 0 26 k).toNatClampNeg) (σ.1 10 0 20 (σ.1 10 0 27 k).toNatClampNeg) (σ.1 10 0 21 (σ.1 10 0 27 k).toNatClampNeg) y))), σ) := by
  have ek : (nI k).toNatClampNeg = k := nI_clamp (by omega)
  have k1 := c141 d (σ := σ) (x2 := y) ha
  have k2 := c141 d (σ := σ) (x2 := y) hb
  refine (m149 (d + 1)).trans ((t149_0 _ (vp_in_nI hk (by omega)) (fun _ => by rw [ek]; exact k1) (fun _ _ => by rw [ek]; exact k2)).trans ?_)
  rw [ek]
  simp only [bI_0]
  unfold sLast
  generalize sLives (σ.1 10 0 20 (σ.1 10 0 26 k).toNatClampNeg) (σ.1 10 0 21 (σ.1 10 0 26 k).toNatClampNeg) y = A
  generalize sLives (σ.1 10 0 20 (σ.1 10 0 27 k).toNatClampNeg) (σ.1 10 0 21 (σ.1 10 0 27 k).toNatClampNeg) y = B
  by_cases a : y < σ.1 10 0 28 k <;> cases A <;> cases B <;> simp [a, bI]
/-- the marriages as both sides hold them -/
def wOk (f : pmI) (NP NM : Nat) : Prop := NP ≤ 48 ∧ NM ≤ 40 ∧ f 8 0 3 0 = nI NM ∧ f 10 0 17 0 = nI NM ∧ (∀ k, k < NM → f 8 0 0 k = f 10 0 26 k ∧ f 8 0 1 k = f 10 0 27 k ∧ f 8 0 2 k = f 10 0 28 k ∧ (∃ a, a < NP ∧ f 8 0 0 k = nI a) ∧ ∃ b, b < NP ∧ f 8 0 1 k = nI b) ∧ ∀ p, p < NP → f 5 0 1 p = f 10 0 20 p ∧ f 5 0 2 p = f 10 0 21 p
/-- the same, but for the class's own count -/
def wOkM (f : pmI) (NP NM : Nat) : Prop := NP ≤ 48 ∧ NM ≤ 40 ∧ True ∧ f 10 0 17 0 = nI NM ∧ (∀ k, k < NM → f 8 0 0 k = f 10 0 26 k ∧ f 8 0 1 k = f 10 0 27 k ∧ f 8 0 2 k = f 10 0 28 k ∧ (∃ a, a < NP ∧ f 8 0 0 k = nI a) ∧ ∃ b, b < NP ∧ f 8 0 1 k = nI b) ∧ ∀ p, p < NP → f 5 0 1 p = f 10 0 20 p ∧ f 5 0 2 p = f 10 0 21 p
theorem wOk.m {f : pmI} {NP NM : Nat} (h : wOk f NP NM) : wOkM f NP NM := ⟨h.1, h.2.1, trivial, h.2.2.2⟩
theorem wOk_of {f : pmI} {NC NP : Nat} (hP : iP f NC NP) (hW : iW f NP) : ∃ NM, wOk f NP NM := by
  obtain ⟨NM, w1, w2, w3, w4, -⟩ := hW
  exact ⟨NM, hP.1, w1, w2, w3, w4, fun p hp => ⟨(hP.2.2.2.1 p hp).2.1, (hP.2.2.2.1 p hp).2.2.1⟩⟩
theorem wOk_in {f : pmI} {NP NM k : Nat} (h : wOkM f NP NM) (hk : k < NM) : vp_in (f 8 0 0 k) 48 ∧ vp_in (f 8 0 1 k) 48 := by
  obtain ⟨h1, -, -, -, h5, -⟩ := h
  obtain ⟨-, -, -, ⟨a, ha, ea⟩, b, hb, eb⟩ := h5 k hk
  rw [ea, eb]
  exact ⟨vp_in_nI (by omega) (by omega), vp_in_nI (by omega) (by omega)⟩
theorem wOk_last {f : pmI} {NP NM k : Nat} (h : wOkM f NP NM) (hk : k < NM) (y : Int32) : sLast (f 10 0 28 k) (f 10 0 20 (f 10 0 26 k).toNatClampNeg) (f 10 0 21 (f 10 0 26 k).toNatClampNeg) (f 10 0 20 (f 10 0 27 k).toNatClampNeg) (f 10 0 21 (f 10 0 27 k).toNatClampNeg) y = lastC f k y := by
  obtain ⟨h1, -, -, -, h5, h6⟩ := h
  obtain ⟨e0, e1, e2, ⟨a, ha, ea⟩, b, hb, eb⟩ := h5 k hk
  unfold lastC
  rw [← e0, ← e1, ← e2, ea, eb, nI_clamp (by omega), nI_clamp (by omega), (h6 a ha).1, (h6 a ha).2, (h6 b hb).1, (h6 b hb).2]
/-- whom p is married to in a year -/
def spQ (f : pmI) (p y : Int32) (k : Nat) : Bool := (decide (f 8 0 0 k = p) || decide (f 8 0 1 k = p)) && lastC f k y
def sSp (f : pmI) (p y : Int32) (NM : Nat) : Int32 := if fa_first (spQ f p y) NM < NM then (if f 8 0 0 (fa_first (spQ f p y) NM) = p then f 8 0 1 (fa_first (spQ f p y) NM) else f 8 0 0 (fa_first (spQ f p y) NM)) else -1
theorem c53 (d : Nat) {σ : pmS} {NP NM : Nat} {p y : Int32} (h : wOk σ.1 NP NM) : pq_RD (d + 3) 53 [vR 8 0 0, vR 5 0 0, vI p, vI y] σ = some (some (vI (sSp σ.1 p y NM)), σ) := by
  have hM := h.2.1
  refine (m53 (d + 2)).trans ((g53_0_0 _).trans ?_)
  refine (lp_first (C := pq_RD (d + 2)) (fr := fun k => (53, 3, [some (vR 8 0 0), some (vR 5 0 0), some (vI p), some (vI y), some (vI (nI k))], [], σ)) (p := spQ σ.1 p y) (n := NM) (fun k hk hq => ?_)).trans ?_
  · have ek : (nI k).toNatClampNeg = k := nI_clamp (by omega)
    have hv : vp_in (nI k) 40 := vp_in_nI (by omega) (by omega)
    have hg : ¬ σ.1 8 0 3 0 ≤ nI k := by rw [h.2.2.1]; exact nI_ge hk (by omega)
    have hr := c52 d (σ := σ) (y := y) (by omega : k < 40) (wOk_in h.m hk).1 (wOk_in h.m hk).2
    unfold spQ at hq
    rw [← nI_1]
    by_cases a : σ.1 8 0 0 k = p
    · have hl : lastC σ.1 k y = false := by simpa [a] using hq
      rw [hl] at hr
      exact g53_3_1 _ hg hv (by rw [ek]; exact a) hr rfl
    · by_cases b : σ.1 8 0 1 k = p
      · have hl : lastC σ.1 k y = false := by simpa [b] using hq
        rw [hl] at hr
        exact g53_3_4 _ hg hv (by rw [ek]; exact a) (by rw [ek]; exact b) hr rfl
      · exact g53_3_7 _ hg hv (by rw [ek]; exact a) (by rw [ek]; exact b)
  · unfold sSp
    by_cases hi : fa_first (spQ σ.1 p y) NM < NM
    · have hq := fa_first_yes (spQ σ.1 p y) NM hi
      rw [if_pos hi]
      generalize fa_first (spQ σ.1 p y) NM = k at hi hq
      have ek : (nI k).toNatClampNeg = k := nI_clamp (by omega)
      have hv : vp_in (nI k) 40 := vp_in_nI (by omega) (by omega)
      have hg : ¬ σ.1 8 0 3 0 ≤ nI k := by rw [h.2.2.1]; exact nI_ge hi (by omega)
      have hr := c52 d (σ := σ) (y := y) (by omega : k < 40) (wOk_in h.m hi).1 (wOk_in h.m hi).2
      unfold spQ at hq
      rw [Bool.and_eq_true] at hq
      rw [hq.2] at hr
      by_cases a : σ.1 8 0 0 k = p
      · rw [if_pos a]
        refine (g53_3_2 _ hg hv (by rw [ek]; exact a) hr (by decide) (by rw [ek]; exact a)).trans ?_
        rw [ek]
      · have b : σ.1 8 0 1 k = p := by simpa [a] using hq.1
        rw [if_neg a]
        refine (g53_3_6 _ hg hv (by rw [ek]; exact a) (by rw [ek]; exact b) hr (by decide) (by rw [ek]; exact a)).trans ?_
        rw [ek]
    · rw [if_neg hi]
      have e : fa_first (spQ σ.1 p y) NM = NM := by have := fa_first_le (spQ σ.1 p y) NM; omega
      rw [e]
      exact g53_3_0 _ (by rw [h.2.2.1, fa_le]; omega)
theorem c150 (d : Nat) {σ : pmS} {NP NM : Nat} {p y : Int32} (h : wOkM σ.1 NP NM) : pq_RD (d + 3) 150 [vR 10 0 0, vI p, vI y] σ = some (some (vI (sSp σ.1 p y NM)), σ) := by
  have hM := h.2.1
  have lst : ∀ k, k < NM → pq_RD (d + 2) 149 [vR 10 0 0, vI (nI k), vI y] σ = some (some (vI (bI (lastC σ.1 k y))), σ) := fun k hk => by
    obtain ⟨v1, v2⟩ := wOk_in h hk
    obtain ⟨e0, e1, -⟩ := h.2.2.2.2.1 k hk
    have := c149 d (σ := σ) (y := y) (by omega : k < 40) (by rw [← e0]; exact v1) (by rw [← e1]; exact v2)
    rw [wOk_last h hk] at this
    exact this
  refine (m150 (d + 2)).trans ((g150_0_0 _).trans ?_)
  refine (lp_first (C := pq_RD (d + 2)) (fr := fun k => (150, 2, [some (vR 10 0 0), some (vI p), some (vI y), some (vI (nI k))], [], σ)) (p := spQ σ.1 p y) (n := NM) (fun k hk hq => ?_)).trans ?_
  · have ek : (nI k).toNatClampNeg = k := nI_clamp (by omega)
    have hv : vp_in (nI k) 40 := vp_in_nI (by omega) (by omega)
    have hg : ¬ σ.1 10 0 17 0 ≤ nI k := by rw [h.2.2.2.1]; exact nI_ge hk (by omega)
    obtain ⟨e0, e1, -⟩ := h.2.2.2.2.1 k hk
    have hr := lst k hk
    unfold spQ at hq
    rw [← nI_1]
    cases hl : lastC σ.1 k y with
    | false =>
      rw [hl] at hr
      exact g150_2_1 _ hg hr rfl
    | true =>
      rw [hl] at hr hq
      have hq2 : ¬ σ.1 8 0 0 k = p ∧ ¬ σ.1 8 0 1 k = p := by simpa using hq
      exact g150_2_6 _ hg hr (by decide) hv (by rw [ek, ← e0]; exact hq2.1) (by rw [ek, ← e1]; exact hq2.2)
  · unfold sSp
    by_cases hi : fa_first (spQ σ.1 p y) NM < NM
    · have hq := fa_first_yes (spQ σ.1 p y) NM hi
      rw [if_pos hi]
      generalize fa_first (spQ σ.1 p y) NM = k at hi hq
      have ek : (nI k).toNatClampNeg = k := nI_clamp (by omega)
      have hv : vp_in (nI k) 40 := vp_in_nI (by omega) (by omega)
      have hg : ¬ σ.1 10 0 17 0 ≤ nI k := by rw [h.2.2.2.1]; exact nI_ge hi (by omega)
      obtain ⟨e0, e1, -⟩ := h.2.2.2.2.1 k hi
      have hr := lst k hi
      unfold spQ at hq
      rw [Bool.and_eq_true] at hq
      rw [hq.2] at hr
      by_cases a : σ.1 8 0 0 k = p
      · rw [if_pos a]
        refine (g150_2_2 _ hg hr (by decide) hv (by rw [ek, ← e0]; exact a) (by rw [ek, ← e0]; exact a)).trans ?_
        rw [ek, e1]
      · have b : σ.1 8 0 1 k = p := by simpa [a] using hq.1
        rw [if_neg a]
        refine (g150_2_5 _ hg hr (by decide) hv (by rw [ek, ← e0]; exact a) (by rw [ek, ← e1]; exact b) (by rw [ek, ← e0]; exact a)).trans ?_
        rw [ek, e0]
    · rw [if_neg hi]
      have e : fa_first (spQ σ.1 p y) NM = NM := by have := fa_first_le (spQ σ.1 p y) NM; omega
      rw [e]
      exact g150_2_0 _ (by rw [h.2.2.2.1, fa_le]; omega)
theorem T_spouse {σ : pmS} (h : Inv σ) (x y : Int32) : Tok 74 156 [vI x, vI y] σ := by
  obtain ⟨NS, NC, NP, hh⟩ := id h
  have hh : iAll σ.1 NS NC NP := hh
  obtain ⟨-, hS, hC, hP, hW, -⟩ := hh
  obtain ⟨NM, hw⟩ := wOk_of hP hW
  have c1 := c32 58 (σ := σ) (x1 := x)
  have c2 := c134 58 (σ := σ) (x1 := x)
  rw [hP.2.1] at c1
  rw [hP.2.2.1] at c2
  cases hb : sHas (nI NP) x with
  | false =>
    rw [hb] at c1 c2
    exact ⟨_, _, _, (m74 59).trans (g74_0_0 _ c1 rfl), (m156 59).trans (g156_0_0 _ c2 rfl), h⟩
  | true =>
    rw [hb] at c1 c2
    exact ⟨_, _, _, (m74 59).trans (g74_0_1 _ c1 (by decide) (c53 56 hw)), (m156 59).trans (g156_0_1 _ c2 (by decide) (c150 56 hw.m)), h⟩
theorem T_children {σ : pmS} (h : Inv σ) (x y : Int32) : Tok 75 157 [vI x, vI y] σ := by
  obtain ⟨NS, NC, NP, hh⟩ := id h
  have hh : iAll σ.1 NS NC NP := hh
  obtain ⟨-, hS, hC, hP, -⟩ := hh
  have hNP := hP.1
  have c1 := c32 58 (σ := σ) (x1 := x)
  have c2 := c134 58 (σ := σ) (x1 := x)
  rw [hP.2.1] at c1
  rw [hP.2.2.1] at c2
  cases hb : sHas (nI NP) x with
  | false =>
    rw [hb] at c1 c2
    exact ⟨_, _, _, (m75 59).trans (g75_0_0 _ c1 rfl), (m157 59).trans (g157_0_0 _ c2 rfl), h⟩
  | true =>
    rw [hb] at c1 c2
    refine ⟨nI (fa_cnt (fun p => sPar (σ.1 5 0 4 p) (σ.1 5 0 5 p) x && !decide (y < σ.1 5 0 1 p)) NP), σ, σ, ?_, ?_, h⟩
    · refine (m75 59).trans ((g75_0_1 _ c1 (by decide)).trans ?_)
      refine (lp_cnt (C := pq_RD 59) (fr := fun a k => (75, 18, [some (vR 9 0 0), some (vI x), some (vI y), some (vI a), some (vI (nI k))], [], σ)) (p := fun p => sPar (σ.1 5 0 4 p) (σ.1 5 0 5 p) x && !decide (y < σ.1 5 0 1 p)) (n := NP) (fun k a hk => ?_)).trans ?_
      · have ek : (nI k).toNatClampNeg = k := nI_clamp (by omega)
        have hv : vp_in (nI k) 48 := vp_in_nI (by omega) (by omega)
        have hg : ¬ σ.1 5 0 9 0 ≤ nI k := by rw [hP.2.1]; exact nI_ge hk (by omega)
        have r := c35 58 (σ := σ) (x1 := x) hv
        rw [ek] at r
        rw [← nI_1]
        cases hq : sPar (σ.1 5 0 4 k) (σ.1 5 0 5 k) x with
        | false =>
          rw [hq] at r
          rw [if_neg (by simp)]
          exact g75_18_1 _ hg r rfl
        | true =>
          rw [hq] at r
          by_cases b : y < σ.1 5 0 1 k
          · rw [if_neg (by simp [b])]
            exact g75_18_2 _ hg r (by decide) hv (by rw [ek]; exact b)
          · rw [if_pos (by simp [b])]
            exact g75_18_3 _ hg r (by decide) hv (by rw [ek]; exact b)
      · exact g75_18_0 _ (by rw [hP.2.1, fa_le]; omega)
    · refine (m157 59).trans ((g157_0_1 _ c2 (by decide)).trans ?_)
      refine (lp_cnt (C := pq_RD 59) (fr := fun a k => (157, 15, [some (vR 10 0 0), some (vI x), some (vI y), some (vI a), some (vI (nI k))], [], σ)) (p := fun p => sPar (σ.1 5 0 4 p) (σ.1 5 0 5 p) x && !decide (y < σ.1 5 0 1 p)) (n := NP) (fun k a hk => ?_)).trans ?_
      · have ek : (nI k).toNatClampNeg = k := nI_clamp (by omega)
        have hv : vp_in (nI k) 48 := vp_in_nI (by omega) (by omega)
        have hg : ¬ σ.1 10 0 16 0 ≤ nI k := by rw [hP.2.2.1]; exact nI_ge hk (by omega)
        obtain ⟨p0, p1, p2, p3, p4, p5, -⟩ := hP.2.2.2.1 k hk
        rw [p4, p5, p1, ← nI_1]
        by_cases m1 : σ.1 10 0 23 k = x
        · by_cases b : y < σ.1 10 0 20 k
          · rw [if_neg (by simp [b])]
            refine (g157_15_1 _ hg hv (by rw [ek]; exact m1) (by rw [ek]; exact b)).trans ?_
            rw [Int32.add_zero]
          · rw [if_pos (by simp [b, m1, sPar])]
            exact g157_15_2 _ hg hv (by rw [ek]; exact m1) (by rw [ek]; exact b)
        · by_cases m2 : σ.1 10 0 24 k = x
          · by_cases b : y < σ.1 10 0 20 k
            · rw [if_neg (by simp [b])]
              refine (g157_15_3 _ hg hv (by rw [ek]; exact m1) (by rw [ek]; exact m2) (by rw [ek]; exact b)).trans ?_
              rw [Int32.add_zero]
            · rw [if_pos (by simp [b, m2, sPar])]
              exact g157_15_4 _ hg hv (by rw [ek]; exact m1) (by rw [ek]; exact m2) (by rw [ek]; exact b)
          · rw [if_neg (by simp [m1, m2, sPar])]
            refine (g157_15_5 _ hg hv (by rw [ek]; exact m1) (by rw [ek]; exact m2)).trans ?_
            rw [Int32.add_zero]
      · exact g157_15_0 _ (by rw [hP.2.2.1, fa_le]; omega)
