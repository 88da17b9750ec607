/-! brides: ways counted forward, and one by one -/
def pF (f : pmI) (s p e : Nat) : Nat := 2 * stC f s (p / 2) (p % 2) e + stX (p % 2) e
def pD (f : pmI) (s : Nat) (g : Nat → Nat) (p : Nat) : Nat := fb_sm (fun e => g (pF f s p (e + 1))) 5
def pDn (f : pmI) (s : Nat) : Nat → (Nat → Nat) → Nat → Nat
  | 0, g => g
  | i + 1, g => pDn f s i (pD f s g)
theorem pDn_out (f : pmI) (s : Nat) : ∀ (i : Nat) (g : Nat → Nat), pDn f s (i + 1) g = pD f s (pDn f s i g)
  | 0, _ => rfl
  | i + 1, g => by
    show pDn f s (i + 1) (pD f s g) = pD f s (pDn f s i (pD f s g))
    exact pDn_out f s i (pD f s g)
theorem pF_lt {f : pmI} {s n : Nat} {w ch : Nat → Nat} (h : iSy f s n w ch) {p e : Nat} (hp : p < 2 * n) : pF f s p e < 2 * n := by
  unfold pF
  have h1 := stC_lt h (c := p / 2) (x := p % 2) (d := e) (by omega)
  have h2 := stX_lt (x := p % 2) (d := e) (by omega)
  omega
theorem stC_o {f g : pmI} {s : Nat} (h2 : ∀ k, k ≠ 6 → k ≠ 7 → g 2 s k = f 2 s k) (c x d : Nat) : stC g s c x d = stC f s c x d := by
  have t : ∀ j, j ≤ 5 → ∀ c, tb g s j c = tb f s j c := fun j hj c => by
    unfold tb
    rw [h2 j (by omega) (by omega)]
  unfold stC
  rw [t 5 (by omega), t 4 (by omega), t 0 (by omega), t 1 (by omega), t 3 (by omega), t 2 (by omega)]
theorem sm_delta {f : Nat → Nat} {t : Nat} : ∀ {n : Nat}, t < n → fb_sm (fun q => f q * (if q = t then 1 else 0)) n = f t
  | 0, h => by omega
  | n + 1, h => by
    rw [fb_sm_succ]
    rcases Nat.lt_or_ge t n with h1 | h1
    · rw [sm_delta h1, if_neg (by omega)]
      omega
    · have : t = n := by omega
      subst this
      rw [if_pos rfl]
      have : fb_sm (fun q => f q * (if q = t then 1 else 0)) t = fb_sm (fun _ => 0) t := fb_sm_cong (fun k hk => by
        show f k * (if k = t then 1 else 0) = 0
        rw [if_neg (by omega)]
        omega)
      rw [this, fb_sm_const]
      omega
theorem sm_zero (n : Nat) : fb_sm (fun _ => 0) n = 0 := by
  rw [fb_sm_const]
  omega
theorem c182a (d : Nat) {σ : pmS} {s : Nat} : ∃ τ, pq_RD (d + 1) 182 [vR 2 s 7, vI 0] σ = some (none, τ) ∧ (∀ c o k, ¬ (c = 2 ∧ o = s ∧ k = 6) → τ.1 c o k = σ.1 c o k) ∧ ∀ i, i < 16 → τ.1 2 s 6 i = 0 := by
  obtain ⟨τ, ⟨i1, i2⟩, hr⟩ := lp_ex (C := pq_RD d) (S := pmS) (I := fun T τ => (∀ c o k, ¬ (c = 2 ∧ o = s ∧ k = 6) → τ.1 c o k = σ.1 c o k) ∧ ∀ i, i < T → τ.1 2 s 6 i = 0) (fr := fun T τ => (182, 5, [some (vR 2 s 7), some (vI 0), some (vI (nI T)), some (vI (nI 16))], [], τ)) (s0 := σ) ⟨fun _ _ _ _ => rfl, fun i hi => by omega⟩ (n := 16) (fun T τ hT ⟨i1, i2⟩ => by
    refine ⟨pm_wi τ 2 s 6 T 0, ⟨fun c o k hk => ?_, fun i hi => ?_⟩, ?_⟩
    · have : ∀ i, (pm_wi τ 2 s 6 T 0).1 c o k i = τ.1 c o k i := fun i => by rw [wi_1, if_neg (fun z => hk ⟨z.1, z.2.1, z.2.2.1⟩)]
      rw [← i1 c o k hk]
      exact funext this
    · rcases Nat.lt_or_ge i T with h | h
      · rw [wi_i (by omega)]
        exact i2 i h
      · have : i = T := by omega
        subst this
        exact wi_s _ _ _ _ _ _
    · refine (g182a_5_1 _ (nI_ge hT (by omega)) (vp_in_nI hT (by omega))).trans ?_
      rw [nI_1, nI_clamp (by omega)])
  exact ⟨τ, (m182a d).trans ((g182a_0_0 _).trans (Eq.trans hr (g182a_5_0 _ (by decide)))), i1, i2⟩
theorem c182b (d : Nat) {σ : pmS} {s : Nat} : ∃ τ, pq_RD (d + 1) 182 [vR 2 s 8, vI 0] σ = some (none, τ) ∧ (∀ c o k, ¬ (c = 2 ∧ o = s ∧ k = 7) → τ.1 c o k = σ.1 c o k) ∧ ∀ i, i < 16 → τ.1 2 s 7 i = 0 := by
  obtain ⟨τ, ⟨i1, i2⟩, hr⟩ := lp_ex (C := pq_RD d) (S := pmS) (I := fun T τ => (∀ c o k, ¬ (c = 2 ∧ o = s ∧ k = 7) → τ.1 c o k = σ.1 c o k) ∧ ∀ i, i < T → τ.1 2 s 7 i = 0) (fr := fun T τ => (182, 5, [some (vR 2 s 8), some (vI 0), some (vI (nI T)), some (vI (nI 16))], [], τ)) (s0 := σ) ⟨fun _ _ _ _ => rfl, fun i hi => by omega⟩ (n := 16) (fun T τ hT ⟨i1, i2⟩ => by
    refine ⟨pm_wi τ 2 s 7 T 0, ⟨fun c o k hk => ?_, fun i hi => ?_⟩, ?_⟩
    · have : ∀ i, (pm_wi τ 2 s 7 T 0).1 c o k i = τ.1 c o k i := fun i => by rw [wi_1, if_neg (fun z => hk ⟨z.1, z.2.1, z.2.2.1⟩)]
      rw [← i1 c o k hk]
      exact funext this
    · rcases Nat.lt_or_ge i T with h | h
      · rw [wi_i (by omega)]
        exact i2 i h
      · have : i = T := by omega
        subst this
        exact wi_s _ _ _ _ _ _
    · refine (g182b_5_1 _ (nI_ge hT (by omega)) (vp_in_nI hT (by omega))).trans ?_
      rw [nI_1, nI_clamp (by omega)])
  exact ⟨τ, (m182b d).trans ((g182b_0_0 _).trans (Eq.trans hr (g182b_5_0 _ (by decide)))), i1, i2⟩
theorem sm_bump (nx g : Nat → Nat) {F a n : Nat} (hF : F < n) : fb_sm (fun q => (if q = F then nx F + a else nx q) * g q) n = fb_sm (fun q => nx q * g q) n + a * g F := by
  have e : fb_sm (fun q => (if q = F then nx F + a else nx q) * g q) n = fb_sm (fun q => if q = F then (nx F + a) * g F else nx q * g q) n := fb_sm_cong (fun k _ => by
    show (if k = F then nx F + a else nx k) * g k = if k = F then (nx F + a) * g F else nx k * g k
    by_cases h : k = F
    · rw [if_pos h, if_pos h, h]
    · rw [if_neg h, if_neg h])
  have u := fb_sm_upd (fun q => nx q * g q) ((nx F + a) * g F) hF
  rw [Nat.add_mul] at u e
  rw [e]
  have u : fb_sm (fun k => if k = F then nx F * g F + a * g F else nx k * g k) n + nx F * g F = fb_sm (fun q => nx q * g q) n + (nx F * g F + a * g F) := u
  omega
/-- the inner sums of one round of steps -/
theorem c14in (d : Nat) {σ : pmS} {s n : Nat} {w ch : Nat → Nat} (h : iSy σ.1 s n w ch) (x1 x2 x3 : Int32) {now nx : Nat → Nat} {P : Nat} (hP : P < 2 * n) {τ : pmS} (l5 : Option pmV) (o1 : ∀ c o k, ¬ (c = 2 ∧ o = s ∧ (k = 6 ∨ k = 7)) → τ.1 c o k = σ.1 c o k) (hnow : ∀ q, q < 2 * n → τ.1 2 s 6 q = nI (now q)) (hnx : ∀ q, q < 2 * n → τ.1 2 s 7 q = nI (nx q)) : ∃ (τ' : pmS) (nx' : Nat → Nat) (l : Option pmV), pq_Rn (pq_RD (d + 3)) (14, 37, [some (vR 2 s 0), some (vI x1), some (vI x2), some (vI x3), some (vI (nI P)), l5], [], τ) = pq_Rn (pq_RD (d + 3)) (14, 37, [some (vR 2 s 0), some (vI x1), some (vI x2), some (vI x3), some (vI (nI (P + 1))), l], [], τ') ∧ (∀ c o k, ¬ (c = 2 ∧ o = s ∧ k = 7) → τ'.1 c o k = τ.1 c o k) ∧ (∀ q, q < 2 * n → τ'.1 2 s 7 q = nI (nx' q)) ∧ ∀ g, fb_sm (fun q => nx' q * g q) (2 * n) = fb_sm (fun q => nx q * g q) (2 * n) + now P * pD σ.1 s g P := by
  have hn8 := h.2.1
  have t8 : τ.1 2 s 8 0 = nI n := by rw [o1 2 s 8 (by omega)]; exact h.2.2.2.2.2.1
  have e2 : (2 : Int32) * nI n = nI (2 * n) := by
    show nI 2 * nI n = _
    rw [pk_mul]
  have st := g14_37_1 (pq_RD (d + 3)) (l5 := l5) (σ := τ) (o0 := s) (x1 := x1) (x2 := x2) (x3 := x3) (x4 := nI P) (by rw [t8, e2]; exact nI_ge hP (by omega))
  obtain ⟨⟨τ', nx'⟩, ⟨i1, i2, i3⟩, hr⟩ := lp_ex (C := pq_RD (d + 3)) (S := pmS × (Nat → Nat)) (I := fun E u => (∀ c o k, ¬ (c = 2 ∧ o = s ∧ k = 7) → u.1.1 c o k = τ.1 c o k) ∧ (∀ q, q < 2 * n → u.1.1 2 s 7 q = nI (u.2 q)) ∧ ∀ g, fb_sm (fun q => u.2 q * g q) (2 * n) = fb_sm (fun q => nx q * g q) (2 * n) + now P * fb_sm (fun e => g (pF σ.1 s P (e + 1))) E) (fr := fun E u => (14, 51, [some (vR 2 s 0), some (vI x1), some (vI x2), some (vI x3), some (vI (nI P)), some (vI (nI (E + 1)))], [], u.1)) (s0 := (τ, nx)) ⟨fun _ _ _ _ => rfl, hnx, fun g => rfl⟩ (n := 5) (fun E u hE ⟨i1, i2, i3⟩ => by
    obtain ⟨υ, ny⟩ := u
    have i1 : ∀ c o k, ¬ (c = 2 ∧ o = s ∧ k = 7) → υ.1 c o k = τ.1 c o k := i1
    have i2 : ∀ q, q < 2 * n → υ.1 2 s 7 q = nI (ny q) := i2
    have i3 : ∀ g : Nat → Nat, fb_sm (fun q => ny q * g q) (2 * n) = fb_sm (fun q => nx q * g q) (2 * n) + now P * fb_sm (fun e => g (pF σ.1 s P (e + 1))) E := i3
    have hsy : iSy υ.1 s n w ch := iSy_o (fun k k6 k7 => by rw [i1 2 s k (by omega), o1 2 s k (by omega)]) (fun k hk => by rw [i1 10 0 k (by omega), o1 10 0 k (by omega)]) h
    have k11 := c11 d hsy (c := P / 2) (x := P % 2) (e := E + 1) (by omega) (by omega) (by omega) (by omega)
    rw [show 2 * (P / 2) + P % 2 = P by omega, stC_o (f := σ.1) (g := υ.1) (fun k k6 k7 => by rw [i1 2 s k (by omega), o1 2 s k (by omega)])] at k11
    have k11 : pq_RD (d + 3) 11 [vR 2 s 0, vI (nI P), vI (nI (E + 1))] υ = some (some (vI (nI (pF σ.1 s P (E + 1)))), υ) := k11
    have hF := pF_lt h (p := P) (e := E + 1) hP
    refine ⟨(pm_wi υ 2 s 7 (pF σ.1 s P (E + 1)) (nI (ny (pF σ.1 s P (E + 1)) + now P)), fun q => if q = pF σ.1 s P (E + 1) then ny (pF σ.1 s P (E + 1)) + now P else ny q), ⟨fun c o k hk => ?_, fun q hq => ?_, fun g => ?_⟩, ?_⟩
    · rw [← i1 c o k hk]
      funext i
      show (pm_wi υ 2 s 7 _ _).1 c o k i = _
      rw [wi_1, if_neg (fun z => hk ⟨z.1, z.2.1, z.2.2.1⟩)]
    · show (pm_wi υ 2 s 7 _ _).1 2 s 7 q = nI (if q = _ then _ else _)
      by_cases hqF : q = pF σ.1 s P (E + 1)
      · rw [if_pos hqF, hqF]
        exact wi_s _ _ _ _ _ _
      · rw [if_neg hqF, wi_i hqF]
        exact i2 q hq
    · show fb_sm (fun q => (if q = pF σ.1 s P (E + 1) then ny (pF σ.1 s P (E + 1)) + now P else ny q) * g q) (2 * n) = _
      rw [sm_bump ny g hF, i3 g, fb_sm_succ, Nat.mul_add]
      omega
    · refine (g14_51_1 _ (nI_nlt (a := 5) (b := E + 1) (by omega) (by omega)) k11 (vp_in_nI (by omega) (by omega)) (vp_in_nI (by omega) (by omega))).trans ?_
      rw [nI_1, nI_clamp (by omega), nI_clamp (by omega), i2 _ hF, i1 2 s 6 (by omega), hnow P hP, nI_add])
  exact ⟨τ', nx', _, st.trans (Eq.trans hr ((g14_51_0 _ (by decide)).trans (by rw [nI_1]))), i1, i2, fun g => i3 g⟩
theorem c14 (d : Nat) {σ : pmS} {s n S c : Nat} {w ch : Nat → Nat} (h : iSy σ.1 s n w ch) (hc : c < n) (hS : S ≤ 4) : ∃ τ, pq_RD (d + 4) 14 [vR 2 s 0, vI (nI c), vI (nI S)] σ = some (some (vI (nI (pDn σ.1 s S (fun q => if q = 2 * tb σ.1 s 0 c + 1 then 1 else 0) (2 * c)))), τ) ∧ ∀ c o k, ¬ (c = 2 ∧ o = s ∧ (k = 6 ∨ k = 7)) → τ.1 c o k = σ.1 c o k := by
  have hn8 := h.2.1
  obtain ⟨σ1, kf, f1, f2⟩ := c182a (d + 2) (σ := σ) (s := s)
  have e0 : (2 : Int32) * nI c + 0 = nI (2 * c) := two_mul_nI c 0
  have e2 : (2 : Int32) * nI n = nI (2 * n) := by
    show nI 2 * nI n = _
    rw [pk_mul]
  have st := (m14 (d + 3)).trans (g14_0_0 (pq_RD (d + 3)) (l3 := none) (l4 := none) (l5 := none) (x1 := nI c) (x2 := nI S) kf (by rw [e0]; exact vp_in_nI (by omega) (by omega)))
  rw [e0, nI_clamp (by omega)] at st
  obtain ⟨⟨τ, l4, l5⟩, ⟨i1, now, i2, i3⟩, hr⟩ := lp_ex (C := pq_RD (d + 3)) (S := pmS × Option pmV × Option pmV) (I := fun i u => (∀ c o k, ¬ (c = 2 ∧ o = s ∧ (k = 6 ∨ k = 7)) → u.1.1 c o k = σ.1 c o k) ∧ ∃ now : Nat → Nat, (∀ q, q < 2 * n → u.1.1 2 s 6 q = nI (now q)) ∧ ∀ g, fb_sm (fun q => now q * g q) (2 * n) = pDn σ.1 s i g (2 * c)) (fr := fun i u => (14, 21, [some (vR 2 s 0), some (vI (nI c)), some (vI (nI S)), some (vI (nI i)), u.2.1, u.2.2], [], u.1)) (s0 := (pm_wi σ1 2 s 6 (2 * c) 1, none, none)) (by
    refine ⟨fun c' o k hk => ?_, fun q => if q = 2 * c then 1 else 0, fun q hq => ?_, fun g => ?_⟩
    · rw [← f1 c' o k (by omega)]
      funext i
      show (pm_wi σ1 2 s 6 (2 * c) 1).1 c' o k i = _
      rw [wi_1, if_neg (fun z => hk ⟨z.1, z.2.1, Or.inl z.2.2.1⟩)]
    · show (pm_wi σ1 2 s 6 (2 * c) 1).1 2 s 6 q = nI (if q = 2 * c then 1 else 0)
      by_cases hq2 : q = 2 * c
      · rw [if_pos hq2, hq2]
        exact wi_s _ _ _ _ _ _
      · rw [if_neg hq2, wi_i hq2]
        exact f2 q (by omega)
    · have : fb_sm (fun q => (if q = 2 * c then 1 else 0) * g q) (2 * n) = fb_sm (fun q => g q * (if q = 2 * c then 1 else 0)) (2 * n) := fb_sm_cong (fun k _ => Nat.mul_comm _ _)
      show fb_sm (fun q => (if q = 2 * c then 1 else 0) * g q) (2 * n) = g (2 * c)
      rw [this, sm_delta (by omega)]) (n := S) (fun i u hi ⟨i1, now, i2, i3⟩ => by
    obtain ⟨τ, l4, l5⟩ := u
    have i1 : ∀ c o k, ¬ (c = 2 ∧ o = s ∧ (k = 6 ∨ k = 7)) → τ.1 c o k = σ.1 c o k := i1
    have i2 : ∀ q, q < 2 * n → τ.1 2 s 6 q = nI (now q) := i2
    obtain ⟨τ1, kg, p1, p2⟩ := c182b (d + 2) (σ := τ) (s := s)
    have st1 := g14_21_1 (pq_RD (d + 3)) (l4 := l4) (l5 := l5) (o0 := s) (x1 := nI c) (x2 := nI S) (x3 := nI i) (nI_ge hi (by omega)) kg
    obtain ⟨⟨τ2, l⟩, ⟨j1, nx, j2, j3⟩, hr2⟩ := lp_ex (C := pq_RD (d + 3)) (S := pmS × Option pmV) (I := fun P u => (∀ c o k, ¬ (c = 2 ∧ o = s ∧ k = 7) → u.1.1 c o k = τ1.1 c o k) ∧ ∃ nx : Nat → Nat, (∀ q, q < 2 * n → u.1.1 2 s 7 q = nI (nx q)) ∧ ∀ g, fb_sm (fun q => nx q * g q) (2 * n) = fb_sm (fun p => now p * pD σ.1 s g p) P) (fr := fun P u => (14, 37, [some (vR 2 s 0), some (vI (nI c)), some (vI (nI S)), some (vI (nI i)), some (vI (nI P)), u.2], [], u.1)) (s0 := (τ1, l5)) ⟨fun _ _ _ _ => rfl, fun _ => 0, fun q hq => p2 q (by omega), fun g => by
      show fb_sm (fun q => 0 * g q) (2 * n) = 0
      rw [show (fun q => 0 * g q) = fun _ => 0 from funext fun q => Nat.zero_mul _]
      exact sm_zero _⟩ (n := 2 * n) (fun P u hP ⟨j1, nx, j2, j3⟩ => by
      obtain ⟨τ2, l⟩ := u
      have j1 : ∀ c o k, ¬ (c = 2 ∧ o = s ∧ k = 7) → τ2.1 c o k = τ1.1 c o k := j1
      have j2 : ∀ q, q < 2 * n → τ2.1 2 s 7 q = nI (nx q) := j2
      obtain ⟨τ3, nx', l', kr, q1, q2, q3⟩ := c14in d h (nI c) (nI S) (nI i) (now := now) (nx := nx) hP (τ := τ2) l (fun c o k hk => by rw [j1 c o k (by omega), p1 c o k (by omega), i1 c o k hk]) (fun q hq => by rw [j1 2 s 6 (by omega), p1 2 s 6 (by omega)]; exact i2 q hq) j2
      exact ⟨(τ3, l'), ⟨fun c o k hk => by rw [← j1 c o k hk]; exact q1 c o k hk, nx', q2, fun g => by rw [q3 g, j3 g, fb_sm_succ]⟩, kr⟩)
    have j1 : ∀ c o k, ¬ (c = 2 ∧ o = s ∧ k = 7) → τ2.1 c o k = τ1.1 c o k := j1
    have j2 : ∀ q, q < 2 * n → τ2.1 2 s 7 q = nI (nx q) := j2
    have t8 : τ2.1 2 s 8 0 = nI n := by rw [j1 2 s 8 (by omega), p1 2 s 8 (by omega), i1 2 s 8 (by omega)]; exact h.2.2.2.2.2.1
    have st2 := g14_37_0 (pq_RD (d + 3)) (l5 := l) (σ := τ2) (o0 := s) (x1 := nI c) (x2 := nI S) (x3 := nI i) (x4 := nI (2 * n)) (by rw [t8, e2, fa_le]; omega) (by rw [t8, e2]; exact nI_pos (by omega)) (by rw [t8, e2, nI_clamp (by omega)]; omega) (by rw [t8, e2, nI_clamp (by omega)]; omega)
    rw [t8, e2, nI_clamp (by omega), nI_1] at st2
    refine ⟨(pm_wr τ2 2 s 6 (va_cpy (τ2.1 2 s 7) (τ2.1 2 s 6) 0 0 (2 * n)), some (vI (nI (2 * n))), l), ⟨fun c' o k hk => ?_, nx, fun q hq => ?_, fun g => ?_⟩, st1.trans (Eq.trans hr2 st2)⟩
    · rw [← i1 c' o k hk, ← p1 c' o k (by omega), ← j1 c' o k (by omega)]
      funext i'
      show (pm_wr τ2 2 s 6 _).1 c' o k i' = _
      rw [wr_1, if_neg (fun z => hk ⟨z.1, z.2.1, Or.inl z.2.2⟩)]
    · show (pm_wr τ2 2 s 6 _).1 2 s 6 q = _
      rw [wr_1, if_pos ⟨rfl, rfl, rfl⟩, pk_cpy_in (by omega) (by omega), Nat.zero_add, Nat.sub_zero]
      exact j2 q hq
    · rw [j3 g]
      exact i3 (pD σ.1 s g))
  have i1 : ∀ c o k, ¬ (c = 2 ∧ o = s ∧ (k = 6 ∨ k = 7)) → τ.1 c o k = σ.1 c o k := i1
  have i2 : ∀ q, q < 2 * n → τ.1 2 s 6 q = nI (now q) := i2
  obtain ⟨tw, tl⟩ := tb_ok h (k := 0) (by omega) hc
  have fin := g14_21_0 (pq_RD (d + 3)) (l4 := l4) (l5 := l5) (σ := τ) (o0 := s) (x1 := nI c) (x2 := nI S) (x3 := nI S) (by rw [fa_le]; omega) (vp_in_nI (by omega) (by omega)) (by rw [nI_clamp (by omega), i1 2 s 0 (by omega), tw]; show vp_in ((2 : Int32) * nI _ + nI 1) 16; rw [two_mul_nI]; exact vp_in_nI (by omega) (by omega))
  rw [nI_clamp (by omega), i1 2 s 0 (by omega), tw, show (2 : Int32) * nI (tb σ.1 s 0 c) + 1 = nI (2 * tb σ.1 s 0 c + 1) from two_mul_nI _ 1, nI_clamp (by omega), i2 _ (by omega)] at fin
  refine ⟨τ, st.trans (Eq.trans hr (fin.trans ?_)), i1⟩
  rw [← i3, sm_delta (by omega)]
/-! the model: each way as a number -/
def wy (v : Nat) : Nat → Nat
  | 0 => 0
  | k + 1 => 8 * wy v k + 1 + v / 5 ^ k % 5
theorem wy_lt (v : Nat) : ∀ k, wy v k < 8 ^ k
  | 0 => by decide
  | k + 1 => by
    have := wy_lt v k
    have h5 := Nat.mod_lt (v / 5 ^ k) (by decide : 0 < 5)
    rw [wy, Nat.pow_succ]
    omega
theorem div8s (W e j : Nat) (he : e < 8) : (8 * W + e) / 8 ^ (j + 1) = W / 8 ^ j := by
  rw [Nat.pow_succ, Nat.mul_comm (8 ^ j) 8, ← Nat.div_div_eq_div_mul]
  congr 1
  omega
theorem wy_dig (v : Nat) : ∀ k j, j < k → wy v k / 8 ^ j ≠ 0 ∧ 1 ≤ wy v k / 8 ^ j % 8 ∧ wy v k / 8 ^ j % 8 ≤ 5
  | 0, j, h => by omega
  | k + 1, 0, _ => by
    have h5 := Nat.mod_lt (v / 5 ^ k) (by decide : 0 < 5)
    rw [wy, Nat.pow_zero, Nat.div_one]
    omega
  | k + 1, j + 1, h => by
    have h5 := Nat.mod_lt (v / 5 ^ k) (by decide : 0 < 5)
    rw [wy, Nat.add_assoc, div8s _ _ _ (by omega)]
    exact wy_dig v k j (by omega)
theorem wy_K {v k : Nat} (hk : k ≤ 6) : wK (wy v k) = k := by
  unfold wK
  have hle := fa_first_le (fun j => decide (wy v k / 8 ^ j = 0)) 6
  have hno := fa_first_no (fun j => decide (wy v k / 8 ^ j = 0)) 6
  have hyes := fa_first_yes (fun j => decide (wy v k / 8 ^ j = 0)) 6
  generalize fa_first (fun j => decide (wy v k / 8 ^ j = 0)) 6 = K at hle hno hyes
  have z : wy v k / 8 ^ k = 0 := Nat.div_eq_of_lt (wy_lt v k)
  rcases (by omega : K < k ∨ k < K ∨ K = k) with q | q | q
  · exact absurd (of_decide_eq_true (hyes (by omega))) (wy_dig v k K q).1
  · exact absurd z (of_decide_eq_false (hno k q))
  · exact q
theorem wy_ok {v k : Nat} (hk : k ≤ 6) : okW (wy v k) := by
  refine ⟨Nat.lt_of_lt_of_le (wy_lt v k) (Nat.pow_le_pow_right (by decide) hk), ?_, ?_, fun j hj => ?_⟩
  · rw [wy_K hk]
    exact hk
  · rw [wy_K hk]
    exact Nat.div_eq_of_lt (wy_lt v k)
  · rw [wy_K hk] at hj
    exact wy_dig v k j hj
theorem wf_first (f : pmI) (s W e c x : Nat) (he : e < 8) : ∀ k, wf f s (8 * W + e) c x (k + 1) = wf f s W (stC f s c x e) (stX x e) k
  | 0 => by
    show (stC f s c x ((8 * W + e) / 8 ^ 0 % 8), stX x ((8 * W + e) / 8 ^ 0 % 8)) = (stC f s c x e, stX x e)
    rw [Nat.pow_zero, Nat.div_one, show (8 * W + e) % 8 = e by omega]
  | k + 1 => by
    rw [wf, wf_first f s W e c x he k, div8s _ _ _ he]
    rfl
def wend (f : pmI) (s v p k : Nat) : Nat := 2 * (wf f s (wy v k) (p / 2) (p % 2) k).1 + (wf f s (wy v k) (p / 2) (p % 2) k).2
theorem wend_succ (f : pmI) (s v p k : Nat) : wend f s v p (k + 1) = wend f s v (pF f s p (v / 5 ^ k % 5 + 1)) k := by
  have h5 := Nat.mod_lt (v / 5 ^ k) (by decide : 0 < 5)
  have hx := stX_lt (x := p % 2) (d := v / 5 ^ k % 5 + 1) (by omega)
  unfold wend
  rw [wy, Nat.add_assoc, wf_first f s (wy v k) (1 + v / 5 ^ k % 5) _ _ (by omega) k, Nat.add_comm 1]
  unfold pF
  rw [show (2 * stC f s (p / 2) (p % 2) (v / 5 ^ k % 5 + 1) + stX (p % 2) (v / 5 ^ k % 5 + 1)) / 2 = stC f s (p / 2) (p % 2) (v / 5 ^ k % 5 + 1) by omega, show (2 * stC f s (p / 2) (p % 2) (v / 5 ^ k % 5 + 1) + stX (p % 2) (v / 5 ^ k % 5 + 1)) % 2 = stX (p % 2) (v / 5 ^ k % 5 + 1) by omega]
theorem dig5 {a u j k : Nat} (h : j < k) : (a * 5 ^ k + u) / 5 ^ j % 5 = u / 5 ^ j % 5 := by
  obtain ⟨m, rfl⟩ : ∃ m, k = j + 1 + m := ⟨k - j - 1, by omega⟩
  have e : a * 5 ^ (j + 1 + m) = 5 ^ j * (5 * (a * 5 ^ m)) := by
    rw [Nat.pow_add, Nat.pow_succ]
    simp only [Nat.mul_assoc, Nat.mul_left_comm, Nat.mul_comm]
  rw [e, Nat.mul_add_div (Nat.pow_pos (by decide)), Nat.mul_add_mod]
theorem wy_low {a u : Nat} : ∀ {k K : Nat}, k ≤ K → wy (a * 5 ^ K + u) k = wy u k
  | 0, _, _ => rfl
  | k + 1, K, h => by rw [wy, wy, wy_low (by omega), dig5 (by omega)]
theorem sm_block (f : Nat → Nat) (m : Nat) : ∀ a, fb_sm f (a * m) = fb_sm (fun d => fb_sm (fun u => f (d * m + u)) m) a
  | 0 => by rw [Nat.zero_mul]; rfl
  | a + 1 => by rw [Nat.succ_mul, fb_sm_split, sm_block f m a, fb_sm_succ]
theorem wsum (f : pmI) (s : Nat) (g : Nat → Nat) : ∀ (k p : Nat), fb_sm (fun v => g (wend f s v p k)) (5 ^ k) = pDn f s k g p
  | 0, p => by
    show 0 + g (wend f s 0 p 0) = g p
    have : wend f s 0 p 0 = p := by
      show 2 * (p / 2) + p % 2 = p
      omega
    rw [this, Nat.zero_add]
  | k + 1, p => by
    rw [pDn_out, Nat.pow_succ, Nat.mul_comm, sm_block]
    unfold pD
    refine fb_sm_cong (fun d hd => ?_)
    show fb_sm (fun u => g (wend f s (d * 5 ^ k + u) p (k + 1))) (5 ^ k) = pDn f s k g (pF f s p (d + 1))
    rw [← wsum f s g k (pF f s p (d + 1))]
    refine fb_sm_cong (fun u hu => ?_)
    show g (wend f s (d * 5 ^ k + u) p (k + 1)) = g (wend f s u (pF f s p (d + 1)) k)
    have e : (d * 5 ^ k + u) / 5 ^ k % 5 = d := by
      rw [Nat.mul_comm d, Nat.mul_add_div (Nat.pow_pos (by decide)), Nat.div_eq_of_lt hu, Nat.add_zero]
      exact Nat.mod_eq_of_lt hd
    rw [wend_succ, e]
    unfold wend
    rw [wy_low (Nat.le_refl k)]
theorem rem5 {m : Nat} (h : m < 2 ^ 31) : nI m - nI m / (5 : Int32) * (5 : Int32) = nI (m % 5) := pk_rem (d := 5) h (by decide) (by decide)
theorem quo5 {m : Nat} (h : m < 2 ^ 31) : nI m / (5 : Int32) = nI (m / 5) := pk_div (d := 5) h (by decide) (by decide)
theorem c126 (d : Nat) {σ : pmS} {s n S c : Nat} {w ch : Nat → Nat} (hs : s < 4) (h : iSy σ.1 s n w ch) (hc : c < n) (hS : S ≤ 4) : pq_Rn (pq_RD (d + 3)) (126, 32, [some (vR 10 0 0), some (vI (nI s)), some (vI (nI c)), some (vI (nI S)), some (vI 1), some (vI 0), none, none, none, none], [], σ) = some (some (vI (nI (pDn σ.1 s S (fun q => if q = 2 * tb σ.1 s 0 c + 1 then 1 else 0) (2 * c)))), σ) := by
  have hn8 := h.2.1
  have p5 : (5 : Nat) ^ S ≤ 5 ^ 4 := Nat.pow_le_pow_right (by decide) hS
  have p4 : (5 : Nat) ^ 4 = 625 := by decide
  have run1 := lp_n (C := pq_RD (d + 3)) (fr := fun k => (126, 32, [some (vR 10 0 0), some (vI (nI s)), some (vI (nI c)), some (vI (nI S)), some (vI (nI (5 ^ k))), some (vI (nI k)), none, none, none, none], [], σ)) (n := S) (fun k hk => by
    refine (g126_32_1 _ (nI_ge hk (by omega))).trans ?_
    rw [nI_1, show nI (5 ^ k) * 5 = nI (5 ^ (k + 1)) by show nI (5 ^ k) * nI 5 = _; rw [pk_mul, Nat.pow_succ]])
  refine Eq.trans run1 ((g126_32_0 _ (by rw [fa_le]; omega)).trans ?_)
  have y0 := (h.2.2.2.2.2.2.2 c hc).2.2.2.2.2.2.1
  obtain ⟨tw, tl⟩ := tb_ok h (k := 0) (by omega) hc
  have u0 := (tb_inv h hc).1
  obtain ⟨-, v32, e32⟩ := ix8 hs (by omega : c < 8)
  obtain ⟨l, -, hr⟩ := lp_ex (C := pq_RD (d + 3)) (S := Option pmV × Option pmV × Option pmV) (I := fun _ _ => True) (fr := fun v l => (126, 56, [some (vR 10 0 0), some (vI (nI s)), some (vI (nI c)), some (vI (nI S)), some (vI (nI (5 ^ S))), some (vI (nI (fb_sm (fun v => (fun q => if q = 2 * tb σ.1 s 0 c + 1 then 1 else 0) (wend σ.1 s v (2 * c) S)) v))), some (vI (nI v)), l.1, l.2.1, l.2.2], [], σ)) (s0 := (none, none, none)) trivial (n := 5 ^ S) (fun v l hv _ => by
    have small : ∀ k, v / 5 ^ k < 2 ^ 31 := fun k => Nat.lt_of_le_of_lt (Nat.div_le_self _ _) (by omega)
    have st := g126_56_1 (pq_RD (d + 3)) (l7 := l.1) (l8 := l.2.1) (l9 := l.2.2) (σ := σ) (x1 := nI s) (x2 := nI c) (x3 := nI S) (x4 := nI (5 ^ S)) (x5 := nI (fb_sm (fun v => (fun q => if q = 2 * tb σ.1 s 0 c + 1 then 1 else 0) (wend σ.1 s v (2 * c) S)) v)) (x6 := nI v) (nI_ge hv (by omega))
    generalize nI (fb_sm (fun v => (fun q => if q = 2 * tb σ.1 s 0 c + 1 then 1 else 0) (wend σ.1 s v (2 * c) S)) v) = X at st
    have run2 := lp_n (C := pq_RD (d + 3)) (fr := fun k => (126, 73, [some (vR 10 0 0), some (vI (nI s)), some (vI (nI c)), some (vI (nI S)), some (vI (nI (5 ^ S))), some (vI X), some (vI (nI v)), some (vI (nI (wy v k))), some (vI (nI (v / 5 ^ k))), some (vI (nI k))], [], σ)) (n := S) (fun k hk => by
      refine (g126_73_3 _ (nI_ge hk (by omega))).trans ?_
      rw [rem5 (small k), quo5 (small k), nI_1 k, Nat.div_div_eq_div_mul, ← Nat.pow_succ, show (8 : Int32) * nI (wy v k) + 1 + nI (v / 5 ^ k % 5) = nI (wy v (k + 1)) by show nI 8 * nI (wy v k) + nI 1 + nI _ = _; rw [pk_mul, nI_add, nI_add]; rfl])
    have e0 : v / 5 ^ 0 = v := by simp
    rw [e0] at run2
    sorry)
  refine Eq.trans hr ((g126_56_0 _ (by rw [fa_le]; omega)).trans ?_)
  rw [wsum]
