/-! brides: ways counted forward, and one by one -/
def bF (f : pmI) (s p e : Nat) : Nat := 2 * stC f s (p / 2) (p % 2) e + stX (p % 2) e
def bD (f : pmI) (s : Nat) (g : Nat → Nat) (p : Nat) : Nat := fb_sm (fun e => g (bF f s p (e + 1))) 5
def bDn (f : pmI) (s : Nat) : Nat → (Nat → Nat) → Nat → Nat
  | 0, g => g
  | i + 1, g => bDn f s i (bD f s g)
theorem bDn_out (f : pmI) (s : Nat) : ∀ (i : Nat) (g : Nat → Nat), bDn f s (i + 1) g = bD f s (bDn f s i g)
  | 0, _ => rfl
  | i + 1, g => by
    show bDn f s (i + 1) (bD f s g) = bD f s (bDn f s i (bD f s g))
    exact bDn_out f s i (bD f s g)
theorem bF_lt {f : pmI} {s n : Nat} {w ch : Nat → Nat} (h : iSy f s n w ch) {p e : Nat} (hp : p < 2 * n) : bF f s p e < 2 * n := by
  unfold bF
  have h1 := stC_lt h (c := p / 2) (x := p % 2) (d := e) (by omega)
  have h2 := stX_lt (x := p % 2) (d := e) (by omega)
  omega
theorem stC_o {f g : pmI} {s : Nat} (h2 : ∀ k, k ≠ 6 → k ≠ 7 → g 2 s k = f 2 s k) (c x d : Nat) : stC g s c x d = stC f s c x d := by
  have t : ∀ j, j ≤ 5 → ∀ c, tb g s j c = tb f s j c := fun j hj c => by
    unfold tb
    rw [h2 j (by omega) (by omega)]
  unfold stC
  rw [t 5 (by omega), t 4 (by omega), t 0 (by omega), t 1 (by omega), t 3 (by omega), t 2 (by omega)]
def dl (t q : Nat) : Nat := if q = t then 1 else 0
theorem sm_delta {f : Nat → Nat} {t : Nat} : ∀ {n : Nat}, t < n → fb_sm (fun q => f q * dl t q) n = f t
  | 0, h => by omega
  | n + 1, h => by
    rw [fb_sm_succ]
    rcases Nat.lt_or_ge t n with h1 | h1
    · rw [sm_delta h1, dl, if_neg (by omega)]
      omega
    · have : t = n := by omega
      subst this
      have : fb_sm (fun q => f q * dl t q) t = fb_sm (fun _ => 0) t := fb_sm_cong (fun k hk => by
        show f k * (if k = t then 1 else 0) = 0
        rw [if_neg (by omega)]
        omega)
      rw [this, fb_sm_const, dl, if_pos rfl]
      omega
theorem sm_zero (n : Nat) : fb_sm (fun _ => 0) n = 0 := by
  rw [fb_sm_const]
  omega
theorem c182a (d : Nat) {σ : pmS} {s : Nat} : ∃ τ, pq_RD (d + 1) 182 [vR 2 s 7, vI 0] σ = some (none, τ) ∧ (∀ c o k, ¬ (c = 2 ∧ o = s ∧ k = 6) → τ.1 c o k = σ.1 c o k) ∧ ∀ i, i < 16 → τ.1 2 s 6 i = 0 := by
  obtain ⟨τ, ⟨i1, i2⟩, hr⟩ := lp_ex (C := pq_RD d) (S := pmS) (I := fun T τ => (∀ c o k, ¬ (c = 2 ∧ o = s ∧ k = 6) → τ.1 c o k = σ.1 c o k) ∧ ∀ i, i < T → τ.1 2 s 6 i = 0) (fr := fun T τ => (182, 5, [some (vR 2 s 7), some (vI 0), some (vI (nI T)), some (vI (nI 16))], [], τ)) (s0 := σ) ⟨fun _ _ _ _ => rfl, fun i hi => by omega⟩ (n := 16) (fun T τ hT ⟨i1, i2⟩ => by
    refine ⟨pm_wi τ 2 s 6 T 0, ⟨fun c o k hk => ?_, fun i hi => ?_⟩, ?_⟩
    · have : ∀ i, (pm_wi τ 2 s 6 T 0).1 c o k i = τ.1 c o k i := fun i => by rw [wi_1, if_neg (fun z => hk ⟨z.1, z.2.1, z.2.2.1⟩)]
      rw [← i1 c o k hk]
      exact funext this
    · rcases Nat.lt_or_ge i T with h | h
      · rw [wi_i (by omega)]
        exact i2 i h
      · have : i = T := by omega
        subst this
        exact wi_s _ _ _ _ _ _
    · refine (g182a_5_1 _ (nI_ge hT (by omega)) (vp_in_nI hT (by omega))).trans ?_
      rw [nI_1, nI_clamp (by omega)])
  exact ⟨τ, (m182a d).trans ((g182a_0_0 _).trans (Eq.trans hr (g182a_5_0 _ (by decide)))), i1, i2⟩
theorem c182b (d : Nat) {σ : pmS} {s : Nat} : ∃ τ, pq_RD (d + 1) 182 [vR 2 s 8, vI 0] σ = some (none, τ) ∧ (∀ c o k, ¬ (c = 2 ∧ o = s ∧ k = 7) → τ.1 c o k = σ.1 c o k) ∧ ∀ i, i < 16 → τ.1 2 s 7 i = 0 := by
  obtain ⟨τ, ⟨i1, i2⟩, hr⟩ := lp_ex (C := pq_RD d) (S := pmS) (I := fun T τ => (∀ c o k, ¬ (c = 2 ∧ o = s ∧ k = 7) → τ.1 c o k = σ.1 c o k) ∧ ∀ i, i < T → τ.1 2 s 7 i = 0) (fr := fun T τ => (182, 5, [some (vR 2 s 8), some (vI 0), some (vI (nI T)), some (vI (nI 16))], [], τ)) (s0 := σ) ⟨fun _ _ _ _ => rfl, fun i hi => by omega⟩ (n := 16) (fun T τ hT ⟨i1, i2⟩ => by
    refine ⟨pm_wi τ 2 s 7 T 0, ⟨fun c o k hk => ?_, fun i hi => ?_⟩, ?_⟩
    · have : ∀ i, (pm_wi τ 2 s 7 T 0).1 c o k i = τ.1 c o k i := fun i => by rw [wi_1, if_neg (fun z => hk ⟨z.1, z.2.1, z.2.2.1⟩)]
      rw [← i1 c o k hk]
      exact funext this
    · rcases Nat.lt_or_ge i T with h | h
      · rw [wi_i (by omega)]
        exact i2 i h
      · have : i = T := by omega
        subst this
        exact wi_s _ _ _ _ _ _
    · refine (g182b_5_1 _ (nI_ge hT (by omega)) (vp_in_nI hT (by omega))).trans ?_
      rw [nI_1, nI_clamp (by omega)])
  exact ⟨τ, (m182b d).trans ((g182b_0_0 _).trans (Eq.trans hr (g182b_5_0 _ (by decide)))), i1, i2⟩
theorem sm_bump (nx g : Nat → Nat) {F a n : Nat} (hF : F < n) : fb_sm (fun q => (if q = F then nx F + a else nx q) * g q) n = fb_sm (fun q => nx q * g q) n + a * g F := by
  have e : fb_sm (fun q => (if q = F then nx F + a else nx q) * g q) n = fb_sm (fun q => if q = F then (nx F + a) * g F else nx q * g q) n := fb_sm_cong (fun k _ => by
    show (if k = F then nx F + a else nx k) * g k = if k = F then (nx F + a) * g F else nx k * g k
    by_cases h : k = F
    · rw [if_pos h, if_pos h, h]
    · rw [if_neg h, if_neg h])
  have u := fb_sm_upd (fun q => nx q * g q) ((nx F + a) * g F) hF
  rw [Nat.add_mul] at u e
  rw [e]
  have u : fb_sm (fun k => if k = F then nx F * g F + a * g F else nx k * g k) n + nx F * g F = fb_sm (fun q => nx q * g q) n + (nx F * g F + a * g F) := u
  omega
/-- the inner sums of one round of steps -/
theorem c14in (d : Nat) {σ : pmS} {s n : Nat} {w ch : Nat → Nat} (h : iSy σ.1 s n w ch) (x1 x2 x3 : Int32) {now nx : Nat → Nat} {P : Nat} (hP : P < 2 * n) {τ : pmS} (l5 : Option pmV) (o1 : ∀ c o k, ¬ (c = 2 ∧ o = s ∧ (k = 6 ∨ k = 7)) → τ.1 c o k = σ.1 c o k) (hnow : ∀ q, q < 2 * n → τ.1 2 s 6 q = nI (now q)) (hnx : ∀ q, q < 2 * n → τ.1 2 s 7 q = nI (nx q)) : ∃ (τ' : pmS) (nx' : Nat → Nat) (l : Option pmV), pq_Rn (pq_RD (d + 3)) (14, 37, [some (vR 2 s 0), some (vI x1), some (vI x2), some (vI x3), some (vI (nI P)), l5], [], τ) = pq_Rn (pq_RD (d + 3)) (14, 37, [some (vR 2 s 0), some (vI x1), some (vI x2), some (vI x3), some (vI (nI (P + 1))), l], [], τ') ∧ (∀ c o k, ¬ (c = 2 ∧ o = s ∧ k = 7) → τ'.1 c o k = τ.1 c o k) ∧ (∀ q, q < 2 * n → τ'.1 2 s 7 q = nI (nx' q)) ∧ ∀ g, fb_sm (fun q => nx' q * g q) (2 * n) = fb_sm (fun q => nx q * g q) (2 * n) + now P * bD σ.1 s g P := by
  have hn8 := h.2.1
  have t8 : τ.1 2 s 8 0 = nI n := by rw [o1 2 s 8 (by omega)]; exact h.2.2.2.2.2.1
  have e2 : (2 : Int32) * nI n = nI (2 * n) := by
    show nI 2 * nI n = _
    rw [pk_mul]
  have st := g14_37_1 (pq_RD (d + 3)) (l5 := l5) (σ := τ) (o0 := s) (x1 := x1) (x2 := x2) (x3 := x3) (x4 := nI P) (by rw [t8, e2]; exact nI_ge hP (by omega))
  obtain ⟨⟨τ', nx'⟩, ⟨i1, i2, i3⟩, hr⟩ := lp_ex (C := pq_RD (d + 3)) (S := pmS × (Nat → Nat)) (I := fun E u => (∀ c o k, ¬ (c = 2 ∧ o = s ∧ k = 7) → u.1.1 c o k = τ.1 c o k) ∧ (∀ q, q < 2 * n → u.1.1 2 s 7 q = nI (u.2 q)) ∧ ∀ g : Nat → Nat, fb_sm (fun q => u.2 q * g q) (2 * n) = fb_sm (fun q => nx q * g q) (2 * n) + now P * fb_sm (fun e => g (bF σ.1 s P (e + 1))) E) (fr := fun E u => (14, 51, [some (vR 2 s 0), some (vI x1), some (vI x2), some (vI x3), some (vI (nI P)), some (vI (nI (E + 1)))], [], u.1)) (s0 := (τ, nx)) ⟨fun _ _ _ _ => rfl, hnx, fun g => rfl⟩ (n := 5) (fun E u hE ⟨i1, i2, i3⟩ => by
    obtain ⟨υ, ny⟩ := u
    have i1 : ∀ c o k, ¬ (c = 2 ∧ o = s ∧ k = 7) → υ.1 c o k = τ.1 c o k := i1
    have i2 : ∀ q, q < 2 * n → υ.1 2 s 7 q = nI (ny q) := i2
    have i3 : ∀ g : Nat → Nat, fb_sm (fun q => ny q * g q) (2 * n) = fb_sm (fun q => nx q * g q) (2 * n) + now P * fb_sm (fun e => g (bF σ.1 s P (e + 1))) E := i3
    have hsy : iSy υ.1 s n w ch := iSy_o (fun k k6 k7 => by rw [i1 2 s k (by omega), o1 2 s k (by omega)]) (fun k hk => by rw [i1 10 0 k (by omega), o1 10 0 k (by omega)]) h
    have k11 := c11 d hsy (c := P / 2) (x := P % 2) (e := E + 1) (by omega) (by omega) (by omega) (by omega)
    rw [show 2 * (P / 2) + P % 2 = P by omega, stC_o (f := σ.1) (g := υ.1) (fun k k6 k7 => by rw [i1 2 s k (by omega), o1 2 s k (by omega)])] at k11
    have k11 : pq_RD (d + 3) 11 [vR 2 s 0, vI (nI P), vI (nI (E + 1))] υ = some (some (vI (nI (bF σ.1 s P (E + 1)))), υ) := k11
    have hF := bF_lt h (p := P) (e := E + 1) hP
    refine ⟨(pm_wi υ 2 s 7 (bF σ.1 s P (E + 1)) (nI (ny (bF σ.1 s P (E + 1)) + now P)), fun q => if q = bF σ.1 s P (E + 1) then ny (bF σ.1 s P (E + 1)) + now P else ny q), ⟨fun c o k hk => ?_, fun q hq => ?_, fun g => ?_⟩, ?_⟩
    · rw [← i1 c o k hk]
      funext i
      show (pm_wi υ 2 s 7 _ _).1 c o k i = _
      rw [wi_1, if_neg (fun z => hk ⟨z.1, z.2.1, z.2.2.1⟩)]
    · show (pm_wi υ 2 s 7 _ _).1 2 s 7 q = nI (if q = _ then _ else _)
      by_cases hqF : q = bF σ.1 s P (E + 1)
      · rw [if_pos hqF, hqF]
        exact wi_s _ _ _ _ _ _
      · rw [if_neg hqF, wi_i hqF]
        exact i2 q hq
    · show fb_sm (fun q => (if q = bF σ.1 s P (E + 1) then ny (bF σ.1 s P (E + 1)) + now P else ny q) * g q) (2 * n) = _
      rw [sm_bump ny g hF, i3 g, fb_sm_succ, Nat.mul_add]
      omega
    · refine (g14_51_1 _ (nI_nlt (a := 5) (b := E + 1) (by omega) (by omega)) k11 (vp_in_nI (by omega) (by omega)) (vp_in_nI (by omega) (by omega))).trans ?_
      rw [nI_1, nI_clamp (by omega), nI_clamp (by omega), i2 _ hF, i1 2 s 6 (by omega), hnow P hP, nI_add])
  exact ⟨τ', nx', _, st.trans (Eq.trans hr ((g14_51_0 _ (by decide)).trans (by rw [nI_1]))), i1, i2, fun g => i3 g⟩
theorem c14 (d : Nat) {σ : pmS} {s n S c : Nat} {w ch : Nat → Nat} (h : iSy σ.1 s n w ch) (hc : c < n) (hS : S ≤ 4) : ∃ τ, pq_RD (d + 4) 14 [vR 2 s 0, vI (nI c), vI (nI S)] σ = some (some (vI (nI (bDn σ.1 s S (dl (2 * tb σ.1 s 0 c + 1)) (2 * c)))), τ) ∧ ∀ c o k, ¬ (c = 2 ∧ o = s ∧ (k = 6 ∨ k = 7)) → τ.1 c o k = σ.1 c o k := by
  have hn8 := h.2.1
  obtain ⟨σ1, kf, f1, f2⟩ := c182a (d + 2) (σ := σ) (s := s)
  have e0 : (2 : Int32) * nI c + 0 = nI (2 * c) := two_mul_nI c 0
  have e2 : (2 : Int32) * nI n = nI (2 * n) := by
    show nI 2 * nI n = _
    rw [pk_mul]
  have st := (m14 (d + 3)).trans (g14_0_0 (pq_RD (d + 3)) (l3 := none) (l4 := none) (l5 := none) (x1 := nI c) (x2 := nI S) kf (by rw [e0]; exact vp_in_nI (by omega) (by omega)))
  rw [e0, nI_clamp (by omega)] at st
  obtain ⟨⟨τ, l4, l5⟩, ⟨i1, now, i2, i3⟩, hr⟩ := lp_ex (C := pq_RD (d + 3)) (S := pmS × Option pmV × Option pmV) (I := fun i u => (∀ c o k, ¬ (c = 2 ∧ o = s ∧ (k = 6 ∨ k = 7)) → u.1.1 c o k = σ.1 c o k) ∧ ∃ now : Nat → Nat, (∀ q, q < 2 * n → u.1.1 2 s 6 q = nI (now q)) ∧ ∀ g, fb_sm (fun q => now q * g q) (2 * n) = bDn σ.1 s i g (2 * c)) (fr := fun i u => (14, 21, [some (vR 2 s 0), some (vI (nI c)), some (vI (nI S)), some (vI (nI i)), u.2.1, u.2.2], [], u.1)) (s0 := (pm_wi σ1 2 s 6 (2 * c) 1, none, none)) (by
    refine ⟨fun c' o k hk => ?_, dl (2 * c), fun q hq => ?_, fun g => ?_⟩
    · rw [← f1 c' o k (by omega)]
      funext i
      show (pm_wi σ1 2 s 6 (2 * c) 1).1 c' o k i = _
      rw [wi_1, if_neg (fun z => hk ⟨z.1, z.2.1, Or.inl z.2.2.1⟩)]
    · show (pm_wi σ1 2 s 6 (2 * c) 1).1 2 s 6 q = nI (if q = 2 * c then 1 else 0)
      by_cases hq2 : q = 2 * c
      · rw [if_pos hq2, hq2]
        exact wi_s _ _ _ _ _ _
      · rw [if_neg hq2, wi_i hq2]
        exact f2 q (by omega)
    · have : fb_sm (fun q => dl (2 * c) q * g q) (2 * n) = fb_sm (fun q => g q * dl (2 * c) q) (2 * n) := fb_sm_cong (fun k _ => Nat.mul_comm _ _)
      show fb_sm (fun q => dl (2 * c) q * g q) (2 * n) = g (2 * c)
      rw [this, sm_delta (by omega)]) (n := S) (fun i u hi ⟨i1, now, i2, i3⟩ => by
    obtain ⟨τ, l4, l5⟩ := u
    have i1 : ∀ c o k, ¬ (c = 2 ∧ o = s ∧ (k = 6 ∨ k = 7)) → τ.1 c o k = σ.1 c o k := i1
    have i2 : ∀ q, q < 2 * n → τ.1 2 s 6 q = nI (now q) := i2
    obtain ⟨τ1, kg, p1, p2⟩ := c182b (d + 2) (σ := τ) (s := s)
    have st1 := g14_21_1 (pq_RD (d + 3)) (l4 := l4) (l5 := l5) (o0 := s) (x1 := nI c) (x2 := nI S) (x3 := nI i) (nI_ge hi (by omega)) kg
    obtain ⟨⟨τ2, l⟩, ⟨j1, nx, j2, j3⟩, hr2⟩ := lp_ex (C := pq_RD (d + 3)) (S := pmS × Option pmV) (I := fun P u => (∀ c o k, ¬ (c = 2 ∧ o = s ∧ k = 7) → u.1.1 c o k = τ1.1 c o k) ∧ ∃ nx : Nat → Nat, (∀ q, q < 2 * n → u.1.1 2 s 7 q = nI (nx q)) ∧ ∀ g, fb_sm (fun q => nx q * g q) (2 * n) = fb_sm (fun p => now p * bD σ.1 s g p) P) (fr := fun P u => (14, 37, [some (vR 2 s 0), some (vI (nI c)), some (vI (nI S)), some (vI (nI i)), some (vI (nI P)), u.2], [], u.1)) (s0 := (τ1, l5)) ⟨fun _ _ _ _ => rfl, fun _ => 0, fun q hq => p2 q (by omega), fun g => by
      show fb_sm (fun q => 0 * g q) (2 * n) = 0
      rw [show (fun q => 0 * g q) = fun _ => 0 from funext fun q => Nat.zero_mul _]
      exact sm_zero _⟩ (n := 2 * n) (fun P u hP ⟨j1, nx, j2, j3⟩ => by
      obtain ⟨τ2, l⟩ := u
      have j1 : ∀ c o k, ¬ (c = 2 ∧ o = s ∧ k = 7) → τ2.1 c o k = τ1.1 c o k := j1
      have j2 : ∀ q, q < 2 * n → τ2.1 2 s 7 q = nI (nx q) := j2
      obtain ⟨τ3, nx', l', kr, q1, q2, q3⟩ := c14in d h (nI c) (nI S) (nI i) (now := now) (nx := nx) hP (τ := τ2) l (fun c o k hk => by rw [j1 c o k (by omega), p1 c o k (by omega), i1 c o k hk]) (fun q hq => by rw [j1 2 s 6 (by omega), p1 2 s 6 (by omega)]; exact i2 q hq) j2
      exact ⟨(τ3, l'), ⟨fun c o k hk => by rw [← j1 c o k hk]; exact q1 c o k hk, nx', q2, fun g => by rw [q3 g, j3 g, fb_sm_succ]⟩, kr⟩)
    have j1 : ∀ c o k, ¬ (c = 2 ∧ o = s ∧ k = 7) → τ2.1 c o k = τ1.1 c o k := j1
    have j2 : ∀ q, q < 2 * n → τ2.1 2 s 7 q = nI (nx q) := j2
    have t8 : τ2.1 2 s 8 0 = nI n := by rw [j1 2 s 8 (by omega), p1 2 s 8 (by omega), i1 2 s 8 (by omega)]; exact h.2.2.2.2.2.1
    have st2 := g14_37_0 (pq_RD (d + 3)) (l5 := l) (σ := τ2) (o0 := s) (x1 := nI c) (x2 := nI S) (x3 := nI i) (x4 := nI (2 * n)) (by rw [t8, e2, fa_le]; omega) (by rw [t8, e2]; exact nI_pos (by omega)) (by rw [t8, e2, nI_clamp (by omega)]; omega) (by rw [t8, e2, nI_clamp (by omega)]; omega)
    rw [t8, e2, nI_clamp (by omega), nI_1] at st2
    refine ⟨(pm_wr τ2 2 s 6 (va_cpy (τ2.1 2 s 7) (τ2.1 2 s 6) 0 0 (2 * n)), some (vI (nI (2 * n))), l), ⟨fun c' o k hk => ?_, nx, fun q hq => ?_, fun g => ?_⟩, st1.trans (Eq.trans hr2 st2)⟩
    · rw [← i1 c' o k hk, ← p1 c' o k (by omega), ← j1 c' o k (by omega)]
      funext i'
      show (pm_wr τ2 2 s 6 _).1 c' o k i' = _
      rw [wr_1, if_neg (fun z => hk ⟨z.1, z.2.1, Or.inl z.2.2⟩)]
    · show (pm_wr τ2 2 s 6 _).1 2 s 6 q = _
      rw [wr_1, if_pos ⟨rfl, rfl, rfl⟩, pk_cpy_in (by omega) (by omega), Nat.zero_add, Nat.sub_zero]
      exact j2 q hq
    · rw [j3 g]
      exact i3 (bD σ.1 s g))
  have i1 : ∀ c o k, ¬ (c = 2 ∧ o = s ∧ (k = 6 ∨ k = 7)) → τ.1 c o k = σ.1 c o k := i1
  have i2 : ∀ q, q < 2 * n → τ.1 2 s 6 q = nI (now q) := i2
  obtain ⟨tw, tl⟩ := tb_ok h (k := 0) (by omega) hc
  have fin := g14_21_0 (pq_RD (d + 3)) (l4 := l4) (l5 := l5) (σ := τ) (o0 := s) (x1 := nI c) (x2 := nI S) (x3 := nI S) (by rw [fa_le]; omega) (vp_in_nI (by omega) (by omega)) (by rw [nI_clamp (by omega), i1 2 s 0 (by omega), tw]; show vp_in ((2 : Int32) * nI _ + nI 1) 16; rw [two_mul_nI]; exact vp_in_nI (by omega) (by omega))
  rw [nI_clamp (by omega), i1 2 s 0 (by omega), tw, show (2 : Int32) * nI (tb σ.1 s 0 c) + 1 = nI (2 * tb σ.1 s 0 c + 1) from two_mul_nI _ 1, nI_clamp (by omega), i2 _ (by omega)] at fin
  refine ⟨τ, st.trans (Eq.trans hr (fin.trans ?_)), i1⟩
  rw [← i3, sm_delta (by omega)]
/-! the model: each way as a number -/
def wy (v : Nat) : Nat → Nat
  | 0 => 0
  | k + 1 => 8 * wy v k + 1 + v / 5 ^ k % 5
theorem wy_lt (v : Nat) : ∀ k, wy v k < 8 ^ k
  | 0 => Nat.zero_lt_one
  | k + 1 => by
    have := wy_lt v k
    have h5 := Nat.mod_lt (v / 5 ^ k) (by decide : 0 < 5)
    rw [wy, Nat.pow_succ]
    omega
theorem div8s (W e j : Nat) (he : e < 8) : (8 * W + e) / 8 ^ (j + 1) = W / 8 ^ j := by
  rw [Nat.pow_succ, Nat.mul_comm (8 ^ j) 8, ← Nat.div_div_eq_div_mul]
  congr 1
  omega
theorem wy_dig (v : Nat) : ∀ k j, j < k → wy v k / 8 ^ j ≠ 0 ∧ 1 ≤ wy v k / 8 ^ j % 8 ∧ wy v k / 8 ^ j % 8 ≤ 5
  | 0, j, h => by omega
  | k + 1, 0, _ => by
    have h5 := Nat.mod_lt (v / 5 ^ k) (by decide : 0 < 5)
    rw [wy, Nat.pow_zero, Nat.div_one]
    omega
  | k + 1, j + 1, h => by
    have h5 := Nat.mod_lt (v / 5 ^ k) (by decide : 0 < 5)
    rw [wy, Nat.add_assoc, div8s _ _ _ (by omega)]
    exact wy_dig v k j (by omega)
theorem wy_K {v k : Nat} (hk : k ≤ 6) : wK (wy v k) = k := by
  unfold wK
  have hle := fa_first_le (fun j => decide (wy v k / 8 ^ j = 0)) 6
  have hno := fa_first_no (fun j => decide (wy v k / 8 ^ j = 0)) 6
  have hyes := fa_first_yes (fun j => decide (wy v k / 8 ^ j = 0)) 6
  generalize fa_first (fun j => decide (wy v k / 8 ^ j = 0)) 6 = K at hle hno hyes
  have z : wy v k / 8 ^ k = 0 := Nat.div_eq_of_lt (wy_lt v k)
  rcases (by omega : K < k ∨ k < K ∨ K = k) with q | q | q
  · exact absurd (of_decide_eq_true (hyes (by omega))) (wy_dig v k K q).1
  · exact absurd z (of_decide_eq_false (hno k q))
  · exact q
theorem wy_ok {v k : Nat} (hk : k ≤ 6) : okW (wy v k) := by
  refine ⟨Nat.lt_of_lt_of_le (wy_lt v k) (Nat.pow_le_pow_right (by decide) hk), ?_, ?_, fun j hj => ?_⟩
  · rw [wy_K hk]
    exact hk
  · rw [wy_K hk]
    exact Nat.div_eq_of_lt (wy_lt v k)
  · rw [wy_K hk] at hj
    exact wy_dig v k j hj
theorem wf_first (f : pmI) (s W e c x : Nat) (he : e < 8) : ∀ k, wf f s (8 * W + e) c x (k + 1) = wf f s W (stC f s c x e) (stX x e) k
  | 0 => by
    show (stC f s c x ((8 * W + e) / 8 ^ 0 % 8), stX x ((8 * W + e) / 8 ^ 0 % 8)) = (stC f s c x e, stX x e)
    rw [Nat.pow_zero, Nat.div_one, show (8 * W + e) % 8 = e by omega]
  | k + 1 => by
    rw [wf, wf_first f s W e c x he k, div8s _ _ _ he]
    rfl
def wend (f : pmI) (s v p k : Nat) : Nat := 2 * (wf f s (wy v k) (p / 2) (p % 2) k).1 + (wf f s (wy v k) (p / 2) (p % 2) k).2
theorem wend_succ (f : pmI) (s v p k : Nat) : wend f s v p (k + 1) = wend f s v (bF f s p (v / 5 ^ k % 5 + 1)) k := by
  have h5 := Nat.mod_lt (v / 5 ^ k) (by decide : 0 < 5)
  have hx := stX_lt (x := p % 2) (d := v / 5 ^ k % 5 + 1) (by omega)
  unfold wend
  rw [wy, Nat.add_assoc, wf_first f s (wy v k) (1 + v / 5 ^ k % 5) _ _ (by omega) k, Nat.add_comm 1]
  unfold bF
  rw [show (2 * stC f s (p / 2) (p % 2) (v / 5 ^ k % 5 + 1) + stX (p % 2) (v / 5 ^ k % 5 + 1)) / 2 = stC f s (p / 2) (p % 2) (v / 5 ^ k % 5 + 1) by omega, show (2 * stC f s (p / 2) (p % 2) (v / 5 ^ k % 5 + 1) + stX (p % 2) (v / 5 ^ k % 5 + 1)) % 2 = stX (p % 2) (v / 5 ^ k % 5 + 1) by omega]
theorem dig5 {a u j k : Nat} (h : j < k) : (a * 5 ^ k + u) / 5 ^ j % 5 = u / 5 ^ j % 5 := by
  obtain ⟨m, rfl⟩ : ∃ m, k = j + 1 + m := ⟨k - j - 1, by omega⟩
  have e : a * 5 ^ (j + 1 + m) = 5 ^ j * (5 * (a * 5 ^ m)) := by
    rw [Nat.pow_add, Nat.pow_succ]
    simp only [Nat.mul_assoc, Nat.mul_left_comm, Nat.mul_comm]
  rw [e, Nat.mul_add_div (Nat.pow_pos (by decide)), Nat.mul_add_mod]
theorem wy_low {a u : Nat} : ∀ {k K : Nat}, k ≤ K → wy (a * 5 ^ K + u) k = wy u k
  | 0, _, _ => rfl
  | k + 1, K, h => by rw [wy, wy, wy_low (by omega), dig5 (by omega)]
theorem sm_block (f : Nat → Nat) (m : Nat) : ∀ a, fb_sm f (a * m) = fb_sm (fun d => fb_sm (fun u => f (d * m + u)) m) a
  | 0 => by rw [Nat.zero_mul]; rfl
  | a + 1 => by rw [Nat.succ_mul, fb_sm_split, sm_block f m a, fb_sm_succ]
theorem wsum (f : pmI) (s : Nat) (g : Nat → Nat) : ∀ (k p : Nat), fb_sm (fun v => g (wend f s v p k)) (5 ^ k) = bDn f s k g p
  | 0, p => by
    show 0 + g (wend f s 0 p 0) = g p
    have : wend f s 0 p 0 = p := by
      show 2 * (p / 2) + p % 2 = p
      omega
    rw [this, Nat.zero_add]
  | k + 1, p => by
    rw [bDn_out, Nat.pow_succ, Nat.mul_comm, sm_block]
    unfold bD
    refine fb_sm_cong (fun d hd => ?_)
    show fb_sm (fun u => g (wend f s (d * 5 ^ k + u) p (k + 1))) (5 ^ k) = bDn f s k g (bF f s p (d + 1))
    rw [← wsum f s g k (bF f s p (d + 1))]
    refine fb_sm_cong (fun u hu => ?_)
    show g (wend f s (d * 5 ^ k + u) p (k + 1)) = g (wend f s u (bF f s p (d + 1)) k)
    have e : (d * 5 ^ k + u) / 5 ^ k % 5 = d := by
      rw [Nat.mul_comm d, Nat.mul_add_div (Nat.pow_pos (by decide)), Nat.div_eq_of_lt hu, Nat.add_zero]
      exact Nat.mod_eq_of_lt hd
    rw [wend_succ, e]
    unfold wend
    rw [wy_low (Nat.le_refl k)]
theorem rem5 {m : Nat} (h : m < 2 ^ 31) : nI m - nI m / (5 : Int32) * (5 : Int32) = nI (m % 5) := pk_rem (d := 5) h (by decide) (by decide)
theorem quo5 {m : Nat} (h : m < 2 ^ 31) : nI m / (5 : Int32) = nI (m / 5) := pk_div (d := 5) h (by decide) (by decide)
theorem c126 (d : Nat) {σ : pmS} {s n S c : Nat} {w ch : Nat → Nat} (hs : s < 4) (h : iSy σ.1 s n w ch) (hc : c < n) (hS : S ≤ 4) : pq_Rn (pq_RD (d + 3)) (126, 32, [some (vR 10 0 0), some (vI (nI s)), some (vI (nI c)), some (vI (nI S)), some (vI 1), some (vI 0), none, none, none, none], [], σ) = some (some (vI (nI (bDn σ.1 s S (dl (2 * tb σ.1 s 0 c + 1)) (2 * c)))), σ) := by
  have hn8 := h.2.1
  have p5 : (5 : Nat) ^ S ≤ 5 ^ 4 := Nat.pow_le_pow_right (by decide) hS
  have p4 : (5 : Nat) ^ 4 = 625 := by decide
  have run1 := lp_n (C := pq_RD (d + 3)) (fr := fun k => (126, 32, [some (vR 10 0 0), some (vI (nI s)), some (vI (nI c)), some (vI (nI S)), some (vI (nI (5 ^ k))), some (vI (nI k)), none, none, none, none], [], σ)) (n := S) (fun k hk => by
    refine (g126_32_1 _ (nI_ge hk (by omega))).trans ?_
    rw [nI_1, show nI (5 ^ k) * 5 = nI (5 ^ (k + 1)) by show nI (5 ^ k) * nI 5 = _; rw [pk_mul, Nat.pow_succ]])
  refine Eq.trans run1 ((g126_32_0 _ (by rw [fa_le]; omega)).trans ?_)
  have y0 := (h.2.2.2.2.2.2.2 c hc).2.2.2.2.2.2.1
  obtain ⟨tw, tl⟩ := tb_ok h (k := 0) (by omega) hc
  have u0 := (tb_inv h hc).1
  obtain ⟨-, v32, e32⟩ := ix8 hs (by omega : c < 8)
  obtain ⟨l, -, hr⟩ := lp_ex (C := pq_RD (d + 3)) (S := Option pmV × Option pmV × Option pmV) (I := fun _ _ => True) (fr := fun v l => (126, 56, [some (vR 10 0 0), some (vI (nI s)), some (vI (nI c)), some (vI (nI S)), some (vI (nI (5 ^ S))), some (vI (nI (fb_sm (fun v => dl (2 * tb σ.1 s 0 c + 1) (wend σ.1 s v (2 * c) S)) v))), some (vI (nI v)), l.1, l.2.1, l.2.2], [], σ)) (s0 := (none, none, none)) trivial (n := 5 ^ S) (fun v l hv _ => by
    have small : ∀ k, v / 5 ^ k < 2 ^ 31 := fun k => Nat.lt_of_le_of_lt (Nat.div_le_self _ _) (by omega)
    have st := g126_56_1 (pq_RD (d + 3)) (l7 := l.1) (l8 := l.2.1) (l9 := l.2.2) (σ := σ) (x1 := nI s) (x2 := nI c) (x3 := nI S) (x4 := nI (5 ^ S)) (x5 := nI (fb_sm (fun v => dl (2 * tb σ.1 s 0 c + 1) (wend σ.1 s v (2 * c) S)) v)) (x6 := nI v) (nI_ge hv (by omega))
    generalize eX : nI (fb_sm (fun v => dl (2 * tb σ.1 s 0 c + 1) (wend σ.1 s v (2 * c) S)) v) = X at st
    have run2 := lp_n (C := pq_RD (d + 3)) (fr := fun k => (126, 73, [some (vR 10 0 0), some (vI (nI s)), some (vI (nI c)), some (vI (nI S)), some (vI (nI (5 ^ S))), some (vI X), some (vI (nI v)), some (vI (nI (wy v k))), some (vI (nI (v / 5 ^ k))), some (vI (nI k))], [], σ)) (n := S) (fun k hk => by
      refine (g126_73_3 _ (nI_ge hk (by omega))).trans ?_
      rw [rem5 (small k), quo5 (small k), nI_1 k, Nat.div_div_eq_div_mul, ← Nat.pow_succ, show (8 : Int32) * nI (wy v k) + 1 + nI (v / 5 ^ k % 5) = nI (wy v (k + 1)) by show nI 8 * nI (wy v k) + nI 1 + nI _ = _; rw [pk_mul, nI_add, nI_add]; rfl])
    have e0 : v / 5 ^ 0 = v := by simp
    rw [e0] at run2
    have k122 := c122 (d + 1) (σ := σ) (x := 0) (v := wy v S) (by omega) (wy_ok (by omega))
    have k121 := c121 d hs h (c := c) (x := 0) (v := wy v S) hc (by omega) (wy_ok (by omega))
    rw [wy_K (by omega)] at k121 k122
    have ew : wend σ.1 s v (2 * c) S = 2 * (wf σ.1 s (wy v S) c 0 S).1 + sx (wy v S) 0 S := by
      unfold wend
      rw [show 2 * c / 2 = c by omega, show 2 * c % 2 = 0 by omega, wf_2]
    have hx2 := sx_lt (v := wy v S) (x := 0) (by omega) S
    have hl := wf_lt h (v := wy v S) (x := 0) hc S
    generalize (wf σ.1 s (wy v S) c 0 S).1 = A at k121 ew hl
    generalize sx (wy v S) 0 S = X2 at k122 ew hx2
    by_cases q1 : X2 = 1
    · by_cases q2 : A = tb σ.1 s 0 c
      · refine ⟨(some (vI (nI (wy v S))), some (vI (nI (v / 5 ^ S))), some (vI (nI S))), trivial, st.trans (Eq.trans run2 ((g126_73_0 _ (by rw [fa_le]; omega) k122 (by rw [q1]; rfl) k121 v32 (by rw [e32, y0, ← u0, q2])).trans ?_))⟩
        rw [fb_sm_succ, ← nI_add, ← nI_1 v, eX]
        have : dl (2 * tb σ.1 s 0 c + 1) (wend σ.1 s v (2 * c) S) = 1 := if_pos (by omega)
        rw [this]
        rfl
      · refine ⟨(some (vI (nI (wy v S))), some (vI (nI (v / 5 ^ S))), some (vI (nI S))), trivial, st.trans (Eq.trans run2 ((g126_73_1 _ (by rw [fa_le]; omega) k122 (by rw [q1]; rfl) k121 v32 (by rw [e32, y0, ← u0]; intro z; exact q2 ((nI_eq (by omega) (by omega)).mp z))).trans ?_))⟩
        rw [fb_sm_succ, ← nI_add, ← nI_1 v, eX]
        have : dl (2 * tb σ.1 s 0 c + 1) (wend σ.1 s v (2 * c) S) = 0 := if_neg (by omega)
        rw [this]
        rfl
    · refine ⟨(some (vI (nI (wy v S))), some (vI (nI (v / 5 ^ S))), some (vI (nI S))), trivial, st.trans (Eq.trans run2 ((g126_73_2 _ (by rw [fa_le]; omega) k122 (by intro z; exact q1 ((nI_eq (b := 1) (by omega) (by omega)).mp z))).trans ?_))⟩
      rw [fb_sm_succ, ← nI_add, ← nI_1 v, eX]
      have : dl (2 * tb σ.1 s 0 c + 1) (wend σ.1 s v (2 * c) S) = 0 := if_neg (by omega)
      rw [this]
      rfl)
  refine Eq.trans hr ((g126_56_0 _ (by rw [fa_le]; omega)).trans ?_)
  rw [wsum]
theorem T_brides {σ : pmS} (h : Inv σ) (s c x : Int32) : Tok 61 126 [vI s, vI c, vI x] σ := by
  obtain ⟨NS, NC, NP, hh⟩ := id h
  have hh : iAll σ.1 NS NC NP := hh
  obtain ⟨hT, hS, hC, hP, hW, hM, hO⟩ := id hh
  have hNS := hS.1
  have a1 := c87 57 (σ := σ) (x1 := s) (x2 := c) hNS hS.2.1
  have b1 : ∀ {τ : pmS}, (∀ k, k ≤ 4 → τ.1 10 0 k = σ.1 10 0 k) → pq_RD 59 107 [vR 10 0 0, vI s, vI c] τ = some (some (vI (bI (sHas (nI NS) s && sHas (σ.1 10 0 0 s.toNatClampNeg) c))), τ) := fun {τ} e => by
    have := c107 57 (σ := τ) (x1 := s) (x2 := c) hNS (by rw [e 4 (by omega)]; exact hS.2.2.1)
    rwa [e 0 (by omega)] at this
  cases q1 : sHas (nI NS) s with
  | false =>
    rw [q1, Bool.false_and] at a1
    have b1 := b1 (τ := σ) (fun _ _ => rfl)
    rw [q1, Bool.false_and] at b1
    exact ⟨_, _, _, (m61 59).trans (g61_0_0 _ a1 rfl), (m126 59).trans (g126_0_0 _ b1 rfl), h⟩
  | true =>
    obtain ⟨es, hs⟩ := in_nI (sHas_in (by omega) q1) (by omega)
    obtain ⟨n, w, ch, hsy⟩ := hS.2.2.2.1 _ hs
    have hn8 := hsy.2.1
    rw [q1, Bool.true_and, hsy.2.2.2.2.2.1] at a1
    rw [q1, Bool.true_and, hsy.2.2.2.2.2.2.1] at b1
    cases q2 : sHas (nI n) c with
    | false =>
      rw [q2] at a1 b1
      exact ⟨_, _, _, (m61 59).trans (g61_0_0 _ a1 rfl), (m126 59).trans (g126_0_0 _ (b1 (τ := σ) (fun _ _ => rfl)) rfl), h⟩
    | true =>
      rw [q2] at a1 b1
      obtain ⟨ec, hc⟩ := in_nI (sHas_in (by omega) q2) (by omega)
      have vs : vp_in s 4 := in_le (sHas_in (by omega) q1) hNS (by omega)
      have b2 := fun τ : pmS => c105 58 (σ := τ) (v := x) (a := 1) (b := 4) (A := 1) (B := 4) rfl rfl
      by_cases x1 : x < 1
      · rw [show sIn x 1 4 = false by simp [sIn, x1]] at b2
        exact ⟨_, _, _, (m61 59).trans (g61_0_1 _ a1 (by decide) x1), (m126 59).trans (g126_0_1 _ (b1 (τ := σ) (fun _ _ => rfl)) (by decide) (b2 σ) rfl), h⟩
      by_cases x4 : x ≤ 4
      · have hin : sIn x 1 4 = true := by
          have : ¬ (4 : Int32) < x := i_nlt.mpr x4
          simp [sIn, x1, this]
        rw [hin] at b2
        obtain ⟨S, hS4, eS⟩ := nI_of2 (M := 4) (n := 4) rfl (x := x) (fun z => x1 (by rw [fa_lt] at z ⊢; have l0 : (0 : Int32).toInt = 0 := rfl; have l1 : (1 : Int32).toInt = 1 := rfl; omega)) x4
        obtain ⟨σ1, k14, o1⟩ := c14 55 (σ := σ) hsy hc hS4
        have k126 := c126 56 (σ := σ1) (S := S) (c := c.toNatClampNeg) (s := s.toNatClampNeg) (n := n) (w := w) (ch := ch) (by omega) (iSy_o (fun k k6 k7 => o1 2 _ k (by omega)) (fun k hk => o1 10 0 k (by omega)) hsy) hc hS4
        have eD : bDn σ1.1 s.toNatClampNeg S (dl (2 * tb σ1.1 s.toNatClampNeg 0 c.toNatClampNeg + 1)) (2 * c.toNatClampNeg) = bDn σ.1 s.toNatClampNeg S (dl (2 * tb σ.1 s.toNatClampNeg 0 c.toNatClampNeg + 1)) (2 * c.toNatClampNeg) := by
          have et : tb σ1.1 s.toNatClampNeg 0 c.toNatClampNeg = tb σ.1 s.toNatClampNeg 0 c.toNatClampNeg := by
            unfold tb
            rw [o1 2 _ 0 (by omega)]
          have eF : ∀ p e, bF σ1.1 s.toNatClampNeg p e = bF σ.1 s.toNatClampNeg p e := fun p e => by
            unfold bF
            rw [stC_o (fun k k6 k7 => o1 2 _ k (by omega))]
          have eDD : bD σ1.1 s.toNatClampNeg = bD σ.1 s.toNatClampNeg := by
            funext g p
            unfold bD
            exact fb_sm_cong (fun k _ => by show g (bF σ1.1 _ p (k + 1)) = g (bF σ.1 _ p (k + 1)); rw [eF])
          have eDn : ∀ i g, bDn σ1.1 s.toNatClampNeg i g = bDn σ.1 s.toNatClampNeg i g := fun i => by
            induction i with
            | zero => intro g; rfl
            | succ i ih => intro g; rw [bDn, bDn, eDD, ih]
          rw [et, eDn]
        rw [eD, ← es, ← ec, ← eS] at k126
        rw [← ec, ← eS] at k14
        refine ⟨_, _, σ1, (m61 59).trans (g61_0_2 _ a1 (by decide) x1 x4 vs k14), (m126 59).trans ((g126_0_2 _ (b1 (τ := σ1) (fun k hk => o1 10 0 k (by omega))) (by decide) (b2 σ1) (by decide)).trans k126), h.same ?_⟩
        refine mask_eq (fun c o k hk => o1 c o k (fun z => ?_))
        obtain ⟨rfl, -, z⟩ := z
        rcases z with rfl | rfl <;> exact absurd hk (by decide)
      · rw [show sIn x 1 4 = false by simp [sIn, i_nle.mp x4]] at b2
        exact ⟨_, _, _, (m61 59).trans (g61_0_3 _ a1 (by decide) x1 x4), (m126 59).trans (g126_0_1 _ (b1 (τ := σ) (fun _ _ => rfl)) (by decide) (b2 σ) rfl), h⟩
