/-! group: turnings found by a hash, and by a list -/
theorem nI_bv (y : Int32) : y = nI y.toBitVec.toNat := by
  apply Int32.toBitVec_inj.1
  show y.toBitVec = BitVec.ofNat 32 y.toBitVec.toNat
  simp
theorem hs_ex (x : Int32) : ∃ h : Nat, h < 2048 ∧ (((x * (-1640531535 : Int32))).toUInt32 >>> (((21 : Int32)).toUInt32 &&& Int32.toUInt32 31)).toInt32 = nI h := by
  refine ⟨((((x * (-1640531535 : Int32))).toUInt32 >>> (((21 : Int32)).toUInt32 &&& Int32.toUInt32 31)).toInt32).toBitVec.toNat, ?_, nI_bv _⟩
  rw [pk_ushr _ _ 21 rfl]
  have : (x * (-1640531535 : Int32)).toBitVec.toNat < 2 ^ 32 := BitVec.isLt _
  omega
noncomputable def hs (x : Int32) : Nat := Classical.choose (hs_ex x)
theorem hs_v (x : Int32) : (((x * (-1640531535 : Int32))).toUInt32 >>> (((21 : Int32)).toUInt32 &&& Int32.toUInt32 31)).toInt32 = nI (hs x) := (Classical.choose_spec (hs_ex x)).2
theorem hs_lt (x : Int32) : hs x < 2048 := (Classical.choose_spec (hs_ex x)).1
theorem sub1 {i m : Nat} (h : 1000 - i ≤ m + 1) : 1000 - (i + 1) ≤ m := by omega
def gS (N : Nat) (f : pmI) (z : Nat) : Prop := f 7 0 2 0 = nI z ∧ (∀ i, i < z → ¬ f 7 0 0 i + 1 = 0) ∧ (∀ q, q < 2048 → ¬ f 7 0 1 q = 0 → ∃ i, i < z ∧ f 7 0 1 q = f 7 0 0 i + 1) ∧ (∀ i, i < z → ∃ t, t < 2048 ∧ f 7 0 1 ((hs (f 7 0 0 i) + t) % 2048) = f 7 0 0 i + 1 ∧ ∀ u, u < t → ¬ f 7 0 1 ((hs (f 7 0 0 i) + u) % 2048) = 0) ∧ fb_ct (fun q => !decide (f 7 0 1 q = 0)) N = z
theorem inj1 {x y : Int32} (h : x + 1 = y + 1) : x = y := by
  have := congrArg (fun v : Int32 => v - 1) h
  simpa using this
theorem c50h (d : Nat) {σ : pmS} {x : Int32} : pq_RD (d + 1) 50 [vR 7 0 0, vI x] σ = pq_Rn (pq_RD d) (50, 10, [some (vR 7 0 0), some (vI x), some (vI (nI ((hs x + 0) % 2048))), some (vI (nI 0))], [], σ) := by
  have hl := hs_lt x
  have st := (m50 d).trans (g50_0_0 (pq_RD d) (l2 := none) (l3 := none) (σ := σ) (x1 := x))
  have e00 : (hs x + 0) % 2048 = hs x := by
    rw [Nat.add_zero]
    exact Nat.mod_eq_of_lt hl
  rw [hs_v] at st
  rw [e00]
  exact st
theorem c50i {m : Nat} (hm : m < 2048) : nI m + 1 - (nI m + 1) / (2048 : Int32) * (2048 : Int32) = nI ((m + 1) % 2048) := by
  rw [nI_1]
  exact pk_rem (d := 2048) (by omega) (by decide) (by decide)
theorem c50s (C : pmC) {σ : pmS} {x : Int32} {t : Nat} (ht : t < 2048) (h1 : ¬ σ.1 7 0 1 ((hs x + t) % 2048) = 0) (h2 : ¬ σ.1 7 0 1 ((hs x + t) % 2048) = x + 1) : pq_Rn C (50, 10, [some (vR 7 0 0), some (vI x), some (vI (nI ((hs x + t) % 2048))), some (vI (nI t))], [], σ) = pq_Rn C (50, 10, [some (vR 7 0 0), some (vI x), some (vI (nI ((hs x + (t + 1)) % 2048))), some (vI (nI (t + 1)))], [], σ) := by
  have e1 : ((hs x + t) % 2048 + 1) % 2048 = (hs x + (t + 1)) % 2048 := by omega
  rw [← e1]
  have hm : (hs x + t) % 2048 < 2048 := Nat.mod_lt _ (by decide)
  generalize (hs x + t) % 2048 = S at hm h1 h2
  have ec : (nI S).toNatClampNeg = S := nI_clamp (by omega)
  rw [← c50i hm, ← nI_1 t]
  exact g50_10_5 _ (nI_ge (b := 2048) ht (by decide)) (vp_in_nI hm (by omega)) (by rw [ec]; exact h1) (by rw [ec]; exact h2)
theorem c50r (d : Nat) {N : Nat} (hN : N = 2048) {σ : pmS} {z : Nat} {x : Int32} (hz : z ≤ 1000) (s5 : fb_ct (fun q => !decide (σ.1 7 0 1 q = 0)) N = z) : ∃ T, T < 2048 ∧ pq_RD (d + 1) 50 [vR 7 0 0, vI x] σ = pq_Rn (pq_RD d) (50, 10, [some (vR 7 0 0), some (vI x), some (vI (nI ((hs x + T) % 2048))), some (vI (nI T))], [], σ) ∧ (∀ k, k < T → ¬ σ.1 7 0 1 ((hs x + k) % 2048) = 0 ∧ ¬ σ.1 7 0 1 ((hs x + k) % 2048) = x + 1) ∧ (σ.1 7 0 1 ((hs x + T) % 2048) = 0 ∨ σ.1 7 0 1 ((hs x + T) % 2048) = x + 1) := by
  have hl := hs_lt x
  have run := lp_first (C := pq_RD d) (fr := fun t => (50, 10, [some (vR 7 0 0), some (vI x), some (vI (nI ((hs x + t) % 2048))), some (vI (nI t))], [], σ)) (p := fun t => decide (σ.1 7 0 1 ((hs x + t) % 2048) = 0) || decide (σ.1 7 0 1 ((hs x + t) % 2048) = x + 1)) (n := N) (fun t ht hq => by
    have hq : ¬ σ.1 7 0 1 ((hs x + t) % 2048) = 0 ∧ ¬ σ.1 7 0 1 ((hs x + t) % 2048) = x + 1 := by simpa using hq
    exact c50s _ (by omega) hq.1 hq.2)
  have st := (c50h d (σ := σ) (x := x)).trans run
  have hle := fa_first_le (fun t => decide (σ.1 7 0 1 ((hs x + t) % 2048) = 0) || decide (σ.1 7 0 1 ((hs x + t) % 2048) = x + 1)) N
  have hno := fa_first_no (fun t => decide (σ.1 7 0 1 ((hs x + t) % 2048) = 0) || decide (σ.1 7 0 1 ((hs x + t) % 2048) = x + 1)) N
  have hyes := fa_first_yes (fun t => decide (σ.1 7 0 1 ((hs x + t) % 2048) = 0) || decide (σ.1 7 0 1 ((hs x + t) % 2048) = x + 1)) N
  generalize fa_first (fun t => decide (σ.1 7 0 1 ((hs x + t) % 2048) = 0) || decide (σ.1 7 0 1 ((hs x + t) % 2048) = x + 1)) N = T at hle hno hyes st
  have hno : ∀ k, k < T → ¬ σ.1 7 0 1 ((hs x + k) % 2048) = 0 ∧ ¬ σ.1 7 0 1 ((hs x + k) % 2048) = x + 1 := fun k hk => by simpa using hno k hk
  have hT : T < 2048 := by
    rcases Nat.lt_or_ge T 2048 with q | q
    · exact q
    · exfalso
      have : fb_ct (fun q => !decide (σ.1 7 0 1 q = 0)) N = N := fb_ct_all.mpr (fun q hq => by
        have := (hno ((q + 2048 - hs x) % 2048) (by have := Nat.mod_lt (q + 2048 - hs x) (by decide : 0 < 2048); omega)).1
        rw [show (hs x + (q + 2048 - hs x) % 2048) % 2048 = q by omega] at this
        simpa using this)
      omega
  have hyes : σ.1 7 0 1 ((hs x + T) % 2048) = 0 ∨ σ.1 7 0 1 ((hs x + T) % 2048) = x + 1 := by simpa using hyes (by omega)
  exact ⟨T, hT, st, hno, hyes⟩
theorem c50 (d : Nat) {N : Nat} (hN : N = 2048) {σ : pmS} {z : Nat} {x : Int32} (hz : z ≤ 1000) (h : gS N σ.1 z) (hx : ¬ x + 1 = 0) : ∃ τ z', pq_RD (d + 1) 50 [vR 7 0 0, vI x] σ = some (none, τ) ∧ (∀ c o k, ¬ c = 7 → τ.1 c o k = σ.1 c o k) ∧ gS N τ.1 z' ∧ (∀ i, i < z → τ.1 7 0 0 i = σ.1 7 0 0 i) ∧ ((z' = z ∧ ((∃ i, i < z ∧ σ.1 7 0 0 i = x) ∨ z = 1000)) ∨ (z < 1000 ∧ z' = z + 1 ∧ τ.1 7 0 0 z = x ∧ ∀ i, i < z → σ.1 7 0 0 i ≠ x)) := by
  obtain ⟨s1, s2, s3, s4, s5⟩ := id h
  obtain ⟨T, hT, st, hno, hyes⟩ := c50r d hN (x := x) hz s5
  have hm : (hs x + T) % 2048 < 2048 := Nat.mod_lt _ (by decide)
  generalize e0 : (hs x + T) % 2048 = S at hyes hm st
  have ec : (nI S).toNatClampNeg = S := nI_clamp (by omega)
  have g0 : ¬ (2048 : Int32) ≤ nI T := nI_ge (b := 2048) hT (by decide)
  by_cases q0 : σ.1 7 0 1 S = 0
  · rcases Nat.lt_or_ge z 1000 with hz2 | hz2
    · have fin := g50_10_3 (pq_RD d) (σ := σ) (x1 := x) g0 (vp_in_nI hm (by omega)) (by rw [ec]; exact q0) (by rw [s1]; exact nI_ge (b := 1000) hz2 (by decide)) (by rw [s1]; exact vp_in_nI hz2 (by omega))
      rw [ec, s1, nI_clamp (by omega), nI_1] at fin
      have fin := st.trans fin
      generalize e2 : pm_wi (pm_wi (pm_wi σ 7 0 1 S (x + 1)) 7 0 0 z x) 7 0 2 0 (nI (z + 1)) = τ at fin
      have t2 : τ.1 7 0 2 0 = nI (z + 1) := by rw [← e2]; exact wi_s _ _ _ _ _ _
      have t0 : ∀ i, i ≠ z → τ.1 7 0 0 i = σ.1 7 0 0 i := fun i hi => by rw [← e2, wi_k (by omega), wi_i hi, wi_k (by omega)]
      have t0z : τ.1 7 0 0 z = x := by rw [← e2, wi_k (by omega)]; exact wi_s _ _ _ _ _ _
      have t1 : ∀ q, q ≠ S → τ.1 7 0 1 q = σ.1 7 0 1 q := fun q hq => by rw [← e2, wi_k (by omega), wi_k (by omega), wi_i hq]
      have t1S : τ.1 7 0 1 S = x + 1 := by rw [← e2, wi_k (by omega), wi_k (by omega)]; exact wi_s _ _ _ _ _ _
      have off : ∀ c o k, ¬ c = 7 → τ.1 c o k = σ.1 c o k := fun c o k hc => by rw [← e2, wi_k (by omega), wi_k (by omega), wi_k (by omega)]
      have up : ∀ q, ¬ σ.1 7 0 1 q = 0 → ¬ τ.1 7 0 1 q = 0 := fun q hq => by
        by_cases e : q = S
        · rw [e, t1S]
          exact hx
        · rw [t1 q e]
          exact hq
      refine ⟨τ, z + 1, fin, off, ⟨t2, fun i hi => ?_, fun q hq hn => ?_, fun i hi => ?_, ?_⟩, fun i hi => t0 i (by omega), Or.inr ⟨hz2, rfl, t0z, fun i hi e => ?_⟩⟩
      · rcases Nat.lt_or_ge i z with hi2 | hi2
        · rw [t0 i (by omega)]
          exact s2 i hi2
        · have : i = z := by omega
          subst this
          rw [t0z]
          exact hx
      · by_cases e : q = S
        · exact ⟨z, by omega, by rw [e, t1S, t0z]⟩
        · rw [t1 q e] at hn ⊢
          obtain ⟨i, hi, ei⟩ := s3 q hq hn
          exact ⟨i, by omega, by rw [t0 i (by omega)]; exact ei⟩
      · rcases Nat.lt_or_ge i z with hi2 | hi2
        · obtain ⟨t, ht, e1, e2⟩ := s4 i hi2
          rw [t0 i (by omega)]
          refine ⟨t, ht, ?_, fun u hu => up _ (e2 u hu)⟩
          rw [t1 _ (fun e => s2 i hi2 (by rw [← e1, e]; exact q0))]
          exact e1
        · have : i = z := by omega
          subst this
          rw [t0z]
          exact ⟨T, hT, by rw [e0]; exact t1S, fun u hu => up _ (hno u hu).1⟩
      · have u := fb_ct_upd (fun q => !decide (σ.1 7 0 1 q = 0)) true (i := S) (n := N) (by omega)
        rw [s5, q0] at u
        have : fb_ct (fun q => !decide (τ.1 7 0 1 q = 0)) N = fb_ct (fun k => if k = S then true else !decide (σ.1 7 0 1 k = 0)) N := fb_ct_cong (fun k hk => by
          show (!decide (τ.1 7 0 1 k = 0)) = if k = S then true else !decide (σ.1 7 0 1 k = 0)
          by_cases e : k = S
          · rw [if_pos e, e, t1S]
            simpa using hx
          · rw [if_neg e, t1 k e])
        rw [this]
        simpa using u
      · obtain ⟨t, ht, e1, e2⟩ := s4 i hi
        rw [e] at e1 e2
        rcases (by omega : T < t ∨ t < T ∨ t = T) with q | q | q
        · exact e2 T q (by rw [e0]; exact q0)
        · exact (hno t q).2 e1
        · rw [q, e0, q0] at e1
          exact hx e1.symm
    · have e1000 : z = 1000 := by omega
      refine ⟨σ, z, st.trans (g50_10_2 _ g0 (vp_in_nI hm (by omega)) (by rw [ec]; exact q0) (by rw [s1, e1000]; decide)), fun _ _ _ _ => rfl, h, fun _ _ => rfl, Or.inl ⟨rfl, Or.inr e1000⟩⟩
  · have q1 : σ.1 7 0 1 S = x + 1 := by
      rcases hyes with q | q
      · exact absurd q q0
      · exact q
    refine ⟨σ, z, st.trans (g50_10_4 _ g0 (vp_in_nI hm (by omega)) (by rw [ec]; exact q0) (by rw [ec]; exact q1)), fun _ _ _ _ => rfl, h, fun _ _ => rfl, Or.inl ⟨rfl, Or.inl ?_⟩⟩
    obtain ⟨i, hi, ei⟩ := s3 S hm q0
    exact ⟨i, hi, inj1 (ei.symm.trans q1)⟩
theorem c50g (d : Nat) {N : Nat} (hN : N = 2048) {n : Nat} {A B : Int32 → Int32} (hV : ∀ x, gR n A B x → ¬ x + 1 = 0) {σ : pmS} {z : Nat} {x : Int32} (h : gS N σ.1 z) (hg : gL n A B (σ.1 7 0 0) z) (hr : gR n A B x) : ∃ τ z', pq_RD (d + 1) 50 [vR 7 0 0, vI x] σ = some (none, τ) ∧ (∀ c o k, ¬ c = 7 → τ.1 c o k = σ.1 c o k) ∧ gS N τ.1 z' ∧ gL n A B (τ.1 7 0 0) z' ∧ z ≤ z' ∧ (∀ i, i < z → τ.1 7 0 0 i = σ.1 7 0 0 i) ∧ (z' = 1000 ∨ ∃ k, k < z' ∧ τ.1 7 0 0 k = x) := by
  obtain ⟨τ, z', k, o1, s', pre, cs⟩ := c50 d hN hg.1 h (hV x hr)
  rcases cs with ⟨rfl, e⟩ | ⟨hz, rfl, e1, e2⟩
  · refine ⟨τ, z', k, o1, s', gL_cong pre hg, Nat.le_refl _, pre, ?_⟩
    rcases e with ⟨i, hi, ei⟩ | e
    · exact Or.inr ⟨i, hi, by rw [pre i hi]; exact ei⟩
    · exact Or.inl e
  · exact ⟨τ, z + 1, k, o1, s', gL_add hz pre hg (by rw [e1]; exact hr) (fun i hi => by rw [e1]; exact e2 i hi), by omega, pre, Or.inr ⟨z, by omega, e1⟩⟩
theorem c47l (d : Nat) {N : Nat} (hN : N = 2048) {s n : Nat} {t0 t2 : Nat → Int32} (h8 : n ≤ 8) (hV : ∀ x, gR n (fun x => trn t0 x n) (fun x => trn t2 x n) x → ¬ x + 1 = 0) : ∀ (m i : Nat) (σ : pmS) (z : Nat), 1000 - i ≤ m → σ.1 2 s 8 0 = nI n → σ.1 2 s 0 = t0 → σ.1 2 s 2 = t2 → gS N σ.1 z → gL n (fun x => trn t0 x n) (fun x => trn t2 x n) (σ.1 7 0 0) z → gC (fun x => trn t0 x n) (fun x => trn t2 x n) (σ.1 7 0 0) z i → i ≤ z → ∃ τ z', pq_Rn (pq_RD (d + 1)) (47, 26, [some (vR 7 0 0), some (vR 2 s 0), some (vI (nI i))], [], σ) = some (some (vI (nI z')), τ) ∧ (∀ c o k, ¬ c = 7 → τ.1 c o k = σ.1 c o k) ∧ gL n (fun x => trn t0 x n) (fun x => trn t2 x n) (τ.1 7 0 0) z' ∧ gC (fun x => trn t0 x n) (fun x => trn t2 x n) (τ.1 7 0 0) z' z' := by
  intro m
  induction m with
  | zero =>
    intro i σ z hm hn e0 e2 hS hL hC hi
    have hz := hL.1
    have s1 := hS.1
    have e : i = z := by omega
    subst e
    exact ⟨σ, i, (g47_26_0 _ (by rw [s1, fa_le]; omega)).trans (by rw [s1]), fun _ _ _ _ => rfl, hL, hC⟩
  | succ m ih =>
    intro i σ z hm hn e0 e2 hS hL hC hi
    have hz := hL.1
    have s1 := hS.1
    rcases Nat.lt_or_ge i z with h1 | h1
    · rcases Nat.lt_or_ge z 1000 with h2 | h2
      · have ec : (nI i).toNatClampNeg = i := nI_clamp (by omega)
        have rx := hL.2.2.2.2 i h1
        obtain ⟨σ2, z2, ka, oa, sa, la, za, pa, ca⟩ := c50g d hN hV hS hL (gR_s rx).1
        obtain ⟨σ4, z4, kb, ob, sb, lb, zb, pb, cb⟩ := c50g d hN hV sa la (x := trn t2 (σ.1 7 0 0 i) n) (gR_s rx).2
        have k1 := c49a d (σ := σ) (s := s) (n := n) (x := σ.1 7 0 0 i) h8
        rw [e0, ← hn] at k1
        have k2 := c49b d (σ := σ2) (s := s) (n := n) (x := σ.1 7 0 0 i) h8
        rw [oa 2 s 2 (by omega), e2, ← hn, ← oa 2 s 8 (by omega), ← pa i h1] at k2
        rw [← pa i h1] at kb
        have st := g47_26_2 (pq_RD (d + 1)) (σ := σ) (o1 := s) (x2 := nI i) (by rw [s1]; exact nI_ge h1 (by omega)) (by rw [s1]; exact nI_ge (b := 1000) h2 (by decide)) (vp_in_nI (by omega) (by omega)) (by rw [ec]; exact k1) ka (by rw [ec]; exact k2) kb
        rw [nI_1] at st
        have hz4 := lb.1
        have pre : ∀ j, j < z → σ4.1 7 0 0 j = σ.1 7 0 0 j := fun j hj => by rw [pb j (by omega), pa j hj]
        have hC4 : gC (fun x => trn t0 x n) (fun x => trn t2 x n) (σ4.1 7 0 0) z4 (i + 1) := by
          rcases gC_up (z' := z4) (g' := σ4.1 7 0 0) (by omega) hz4 (by omega) pre hC with q | q
          · exact Or.inl q
          · rcases cb with cb | cb
            · exact Or.inl cb
            · rcases ca with ca | ⟨a, ha, ea⟩
              · exact Or.inl (by omega)
              · refine Or.inr (fun j hj => ?_)
                rcases Nat.lt_or_ge j i with hji | hji
                · exact q j hji
                · have : j = i := by omega
                  subst this
                  rw [pre j h1]
                  exact ⟨⟨a, by omega, by rw [pb a ha]; exact ea⟩, cb⟩
        have hm' : 1000 - (i + 1) ≤ m := sub1 hm
        have hi' : i + 1 ≤ z4 := Nat.le_trans h1 (Nat.le_trans za zb)
        · obtain ⟨τ, z', kr, o, l, c⟩ := ih (i + 1) σ4 z4 hm' (by rw [ob 2 s 8 (by omega), oa 2 s 8 (by omega)]; exact hn) (by rw [ob 2 s 0 (by omega), oa 2 s 0 (by omega)]; exact e0) (by rw [ob 2 s 2 (by omega), oa 2 s 2 (by omega)]; exact e2) sb lb hC4 hi'
          exact ⟨τ, z', st.trans kr, fun c o' k hc => by rw [o c o' k hc, ob c o' k hc, oa c o' k hc], l, c⟩
      · have e : z = 1000 := by omega
        refine ⟨σ, z, (g47_26_1 _ (by rw [s1]; exact nI_ge h1 (by omega)) (by rw [s1, e]; decide)).trans (by rw [s1]), fun _ _ _ _ => rfl, hL, Or.inl e⟩
    · have e : i = z := by omega
      subst e
      exact ⟨σ, i, (g47_26_0 _ (by rw [s1, fa_le]; omega)).trans (by rw [s1]), fun _ _ _ _ => rfl, hL, hC⟩
theorem c182c (d : Nat) {N : Nat} (hN : N = 2048) {σ : pmS} : ∃ τ, pq_RD (d + 1) 182 [vR 7 0 2, vI 0] σ = some (none, τ) ∧ (∀ c o k, ¬ (c = 7 ∧ k = 1) → τ.1 c o k = σ.1 c o k) ∧ ∀ i, i < N → τ.1 7 0 1 i = 0 := by
  obtain ⟨τ, ⟨i1, i2⟩, hr⟩ := lp_ex (C := pq_RD d) (S := pmS) (I := fun T τ => (∀ c o k, ¬ (c = 7 ∧ k = 1) → τ.1 c o k = σ.1 c o k) ∧ ∀ i, i < T → τ.1 7 0 1 i = 0) (fr := fun T τ => (182, 5, [some (vR 7 0 2), some (vI 0), some (vI (nI T)), some (vI (nI 2048))], [], τ)) (s0 := σ) ⟨fun _ _ _ _ => rfl, fun i hi => by omega⟩ (n := N) (fun T τ hT ⟨i1, i2⟩ => by
    have hT : T < 2048 := by omega
    refine ⟨pm_wi τ 7 0 1 T 0, ⟨fun c o k hk => ?_, fun i hi => ?_⟩, ?_⟩
    · rw [wi_k hk, i1 c o k hk]
    · rcases Nat.lt_or_ge i T with h | h
      · rw [wi_i (by omega)]
        exact i2 i h
      · have : i = T := by omega
        subst this
        exact wi_s _ _ _ _ _ _
    · refine (g182c_5_1 _ (nI_ge hT (by omega)) (vp_in_nI hT (by omega))).trans ?_
      rw [nI_1, nI_clamp (by omega)])
  exact ⟨τ, (m182c d).trans ((g182c_0_0 _).trans (Eq.trans hr (g182c_5_0 _ (by rw [hN, fa_le]; omega)))), i1, i2⟩
theorem c47 (d : Nat) {N : Nat} (hN : N = 2048) {σ : pmS} {s n : Nat} {t0 t2 : Nat → Int32} (h8 : n ≤ 8) (hV : ∀ x, gR n (fun x => trn t0 x n) (fun x => trn t2 x n) x → ¬ x + 1 = 0) (hn : σ.1 2 s 8 0 = nI n) (e0 : σ.1 2 s 0 = t0) (e2 : σ.1 2 s 2 = t2) : ∃ τ z, pq_RD (d + 2) 47 [vR 7 0 0, vR 2 s 0] σ = some (some (vI (nI z)), τ) ∧ (∀ c o k, ¬ c = 7 → τ.1 c o k = σ.1 c o k) ∧ ∃ g, gL n (fun x => trn t0 x n) (fun x => trn t2 x n) g z ∧ gC (fun x => trn t0 x n) (fun x => trn t2 x n) g z z := by
  obtain ⟨σ1, k1, o1, f1⟩ := c182c d hN (σ := σ)
  have k48 := c48 d (σ := pm_wi σ1 7 0 2 0 0) (n := n) h8
  rw [← hn, ← o1 2 s 8 (by omega)] at k48
  have hS0 : gS N (pm_wi σ1 7 0 2 0 0).1 0 := by
    refine ⟨wi_s _ _ _ _ _ _, fun i hi => by omega, fun q hq hn => ?_, fun i hi => by omega, ?_⟩
    · rw [wi_k (by omega)] at hn
      exact absurd (f1 q (by omega)) hn
    · rw [fb_ct_zero]
      intro k hk
      rw [wi_k (by omega)]
      simp [f1 k hk]
  obtain ⟨σ3, z', k50, o3, s3, p3, c3⟩ := c50 d hN (by omega) hS0 (hV _ (gR_0 n _ _))
  rcases c3 with ⟨-, ⟨i, hi, -⟩ | e⟩ | ⟨-, rfl, e1, -⟩
  · omega
  · omega
  · have hL : gL n (fun x => trn t0 x n) (fun x => trn t2 x n) (σ3.1 7 0 0) 1 := by
      refine ⟨by omega, by omega, e1, fun i j h1 h2 => by omega, fun i hi => ?_⟩
      have : i = 0 := by omega
      subst this
      rw [e1]
      exact gR_0 n _ _
    have st := (m47 (d + 1)).trans (g47_0_0 (pq_RD (d + 1)) (l2 := none) (o1 := s) k1 k48 k50)
    have ob : ∀ c o k, ¬ c = 7 → σ3.1 c o k = σ.1 c o k := fun c o k hc => by rw [o3 c o k hc, wi_k (by omega), o1 c o k (by omega)]
    obtain ⟨τ, z, kr, o, l, c⟩ := c47l d hN h8 hV 1000 0 σ3 1 (by omega) (by rw [ob 2 s 8 (by omega)]; exact hn) (by rw [ob 2 s 0 (by omega)]; exact e0) (by rw [ob 2 s 2 (by omega)]; exact e2) s3 hL (Or.inr (fun j hj => by omega)) (by omega)
    exact ⟨τ, z, st.trans kr, fun c o' k hc => by rw [o c o' k hc, ob c o' k hc], _, l, c⟩
/-! the model's list -/
theorem c128 (d : Nat) {σ : pmS} {z : Nat} {x : Int32} (hz : z ≤ 1000) : ((∃ k, k < z ∧ σ.1 10 0 10 k = x) ∧ pq_RD (d + 1) 128 [vR 10 0 0, vI x, vI (nI z)] σ = some (some (vI 0), σ)) ∨ ((∀ k, k < z → σ.1 10 0 10 k ≠ x) ∧ pq_RD (d + 1) 128 [vR 10 0 0, vI x, vI (nI z)] σ = some (some (vI 1), σ)) := by
  have run := lp_first (C := pq_RD d) (fr := fun k => (128, 2, [some (vR 10 0 0), some (vI x), some (vI (nI z)), some (vI (nI k))], [], σ)) (p := fun k => decide (σ.1 10 0 10 k = x)) (n := z) (fun k hk hq => by
    rw [← nI_1]
    exact g128_2_2 _ (nI_ge hk (by omega)) (vp_in_nI (by omega) (by omega)) (by rw [nI_clamp (by omega)]; exact of_decide_eq_false hq))
  have st := ((m128 d).trans (g128_0_0 (pq_RD d) (l3 := none) (σ := σ) (x1 := x) (x2 := nI z))).trans run
  have hle := fa_first_le (fun k => decide (σ.1 10 0 10 k = x)) z
  have hno := fa_first_no (fun k => decide (σ.1 10 0 10 k = x)) z
  have hyes := fa_first_yes (fun k => decide (σ.1 10 0 10 k = x)) z
  generalize fa_first (fun k => decide (σ.1 10 0 10 k = x)) z = K at hle hno hyes st
  rcases Nat.lt_or_ge K z with hK | hK
  · have := of_decide_eq_true (hyes hK)
    exact Or.inl ⟨⟨K, hK, this⟩, st.trans (g128_2_1 _ (nI_ge hK (by omega)) (vp_in_nI (by omega) (by omega)) (by rw [nI_clamp (by omega)]; exact this))⟩
  · have e : K = z := by omega
    subst e
    exact Or.inr ⟨fun k hk => of_decide_eq_false (hno k hk), st.trans (g128_2_0 _ (by rw [fa_le]; omega))⟩
/-- what the tables of a system make of a turning, on both sides -/
theorem gTab {f : pmI} {s n : Nat} {w ch : Nat → Nat} (h : iSy f s n w ch) {x : Int32} (hx : gV n x) : trn (fun c => f 10 0 1 (8 * s + c)) x n = trn (f 2 s 0) x n ∧ trn (fun c => f 10 0 2 (8 * s + c)) x n = trn (f 2 s 2) x n ∧ trn (fun c => f 10 0 3 (8 * s + c)) x n = trn (f 2 s 2) (trn (f 2 s 0) x n) n := by
  obtain ⟨h2, h8, hwc, wi, ci, z1, z2, z3⟩ := h
  have dig : ∀ k, k < n → (dg x k).toNatClampNeg < n := fun k hk => by
    obtain ⟨b, hb, rfl⟩ := hx
    have h1 := hb k hk
    rw [dg_pkk h8 (fun j hj => by have := hb j hj; omega) hk, nI_clamp (by omega)]
    exact h1
  refine ⟨trn_cong (fun k hk => ?_), trn_cong (fun k hk => ?_), ?_⟩
  · obtain ⟨y0, y1, y2, y3, y4, y5, y6, y7, y8⟩ := z3 _ (dig k hk)
    show f 10 0 1 (8 * s + (dg x k).toNatClampNeg) = f 2 s 0 (dg x k).toNatClampNeg
    rw [y0, y6]
  · obtain ⟨y0, y1, y2, y3, y4, y5, y6, y7, y8⟩ := z3 _ (dig k hk)
    show f 10 0 2 (8 * s + (dg x k).toNatClampNeg) = f 2 s 2 (dg x k).toNatClampNeg
    rw [y2, y7]
  · exact (trn_trn (t := f 2 s 0) (u := f 2 s 2) (tt := w) (uu := ch) h8 (fun c hc => ⟨(z3 c hc).1, (hwc c hc).1⟩) (fun c hc => ⟨(z3 c hc).2.2.1, (hwc c hc).2⟩) (fun c hc => (z3 c hc).2.2.2.2.2.2.2.2) hx).symm
theorem gR_V {f : pmI} {s n : Nat} {w ch : Nat → Nat} (h : iSy f s n w ch) {x : Int32} (hx : gR n (fun x => trn (f 2 s 0) x n) (fun x => trn (f 2 s 2) x n) x) : gV n x := by
  obtain ⟨h2, h8, hwc, wi, ci, z1, z2, z3⟩ := h
  refine hx (gV n) ⟨fun k => k, fun k hk => hk, gI_v h8⟩ (fun y hy => ⟨?_, ?_⟩)
  · exact gV_trn (tt := w) h8 (fun c hc => ⟨(z3 c hc).1, (hwc c hc).1⟩) hy
  · exact gV_trn (tt := ch) h8 (fun c hc => ⟨(z3 c hc).2.2.1, (hwc c hc).2⟩) hy
