/-! match: settled one man after another -/
def mNu (E : Nat → Nat → Bool) (M : Nat → Bool) (ν : Nat) : Prop := (∃ h, mT E h ∧ mS M h = ν) ∧ ∀ h, mT E h → mS M h ≤ ν
def mGood (E : Nat → Nat → Bool) (M : Nat → Bool) (ν k : Nat) (S : Nat → Nat) : Prop := ∃ h, mFam E M S k h ∧ mS M h = ν
def mOk (E : Nat → Nat → Bool) (M : Nat → Bool) (ν m : Nat) (S : Nat → Nat) (w : Nat) : Prop := E m w = true ∧ ¬ S w < 48 ∧ mGood E M ν (m + 1) (hC S m w)
noncomputable def mSel (E : Nat → Nat → Bool) (M : Nat → Bool) (ν m : Nat) (S : Nat → Nat) : Nat := fa_first (fun w => @decide (mOk E M ν m S w) (Classical.propDecidable _)) 48
noncomputable def mNx (E : Nat → Nat → Bool) (M : Nat → Bool) (ν m : Nat) (S : Nat → Nat) : Nat → Nat := if mSel E M ν m S < 48 then hC S m (mSel E M ν m S) else S
noncomputable def mSq (E : Nat → Nat → Bool) (M : Nat → Bool) (ν : Nat) : Nat → Nat → Nat
  | 0 => fun _ => 48
  | m + 1 => mNx E M ν m (mSq E M ν m)
theorem mSel_is {E : Nat → Nat → Bool} {M : Nat → Bool} {ν m w : Nat} {S : Nat → Nat} (hw : w < 48) (h1 : mOk E M ν m S w) (h2 : ∀ v, v < w → ¬ mOk E M ν m S v) : mNx E M ν m S = hC S m w := by
  have e : mSel E M ν m S = w := by
    unfold mSel
    have hle := fa_first_le (fun w => @decide (mOk E M ν m S w) (Classical.propDecidable _)) 48
    have hno := fa_first_no (fun w => @decide (mOk E M ν m S w) (Classical.propDecidable _)) 48
    have hyes := fa_first_yes (fun w => @decide (mOk E M ν m S w) (Classical.propDecidable _)) 48
    generalize fa_first (fun w => @decide (mOk E M ν m S w) (Classical.propDecidable _)) 48 = K at hle hno hyes
    rcases (by omega : K < w ∨ w < K ∨ K = w) with q | q | q
    · exact absurd (@of_decide_eq_true _ (Classical.propDecidable _) (hyes (by omega))) (h2 K q)
    · exact absurd h1 (@of_decide_eq_false _ (Classical.propDecidable _) (hno w q))
    · exact q
  unfold mNx
  rw [e, if_pos hw]
theorem mSel_no {E : Nat → Nat → Bool} {M : Nat → Bool} {ν m : Nat} {S : Nat → Nat} (h : ∀ w, w < 48 → ¬ mOk E M ν m S w) : mNx E M ν m S = S := by
  have e : ¬ mSel E M ν m S < 48 := fun hl => by
    have hyes := fa_first_yes (fun w => @decide (mOk E M ν m S w) (Classical.propDecidable _)) 48 hl
    exact h _ hl (@of_decide_eq_true _ (Classical.propDecidable _) hyes)
  unfold mNx
  rw [if_neg e]
theorem mNx_cases (E : Nat → Nat → Bool) (M : Nat → Bool) (ν m : Nat) (S : Nat → Nat) : (∃ w, w < 48 ∧ mOk E M ν m S w ∧ (∀ v, v < w → ¬ mOk E M ν m S v) ∧ mNx E M ν m S = hC S m w) ∨ ((∀ w, w < 48 → ¬ mOk E M ν m S w) ∧ mNx E M ν m S = S) := by
  have hno := fa_first_no (fun w => @decide (mOk E M ν m S w) (Classical.propDecidable _)) 48
  have hyes := fa_first_yes (fun w => @decide (mOk E M ν m S w) (Classical.propDecidable _)) 48
  rcases Classical.em (∃ w, w < 48 ∧ mOk E M ν m S w ∧ ∀ v, v < w → ¬ mOk E M ν m S v) with ⟨w, h1, h2, h3⟩ | hn
  · exact Or.inl ⟨w, h1, h2, h3, mSel_is h1 h2 h3⟩
  · refine Or.inr ⟨?_, ?_⟩
    · intro w
      induction w using Nat.strongRecOn with
      | _ w ih =>
        intro hw hk
        exact hn ⟨w, hw, hk, fun v hv => ih v hv (by omega)⟩
    · refine mSel_no ?_
      intro w
      induction w using Nat.strongRecOn with
      | _ w ih =>
        intro hw hk
        exact hn ⟨w, hw, hk, fun v hv => ih v hv (by omega)⟩
theorem hC_T {E : Nat → Nat → Bool} {M : Nat → Bool} {S : Nat → Nat} {m w : Nat} (hG : mG E M) (hS : mT E S) (he : E m w = true) (h1 : ¬ S m < 48) (h2 : ¬ S w < 48) : mT E (hC S m w) := by
  obtain ⟨hm, hw, mM, wM⟩ := hG _ _ he
  have mw : m ≠ w := fun z => by
    rw [z, wM] at mM
    cases mM
  intro p hp hh
  unfold hC at hh ⊢
  by_cases q1 : p = w
  · rw [if_pos q1, if_neg mw, if_pos rfl]
    exact ⟨q1.symm, Or.inr (by rw [q1]; exact he)⟩
  · rw [if_neg q1] at hh ⊢
    by_cases q2 : p = m
    · rw [if_pos q2, if_pos rfl]
      exact ⟨q2.symm, Or.inl (by rw [q2]; exact he)⟩
    · rw [if_neg q2] at hh ⊢
      obtain ⟨t1, t2⟩ := hS p hp hh
      have n1 : S p ≠ w := fun z => by
        rw [z] at t1
        exact h2 (by omega)
      have n2 : S p ≠ m := fun z => by
        rw [z] at t1
        exact h1 (by omega)
      rw [if_neg n1, if_neg n2]
      exact ⟨t1, t2⟩
/-- the couple m, w in h: then h is of those in which they are settled -/
theorem mFam_put {E : Nat → Nat → Bool} {M : Nat → Bool} {S h : Nat → Nat} {m w : Nat} (hF : mFam E M S m h) (h1 : h m = w) (h2 : h w = m) : mFam E M (hC S m w) (m + 1) h := by
  refine ⟨hF.1, fun p hp hd => ?_⟩
  unfold hC
  by_cases q1 : p = w
  · rw [if_pos q1, q1]
    exact h2
  · by_cases q2 : p = m
    · rw [if_neg q1, if_pos q2, q2]
      exact h1
    · rw [if_neg q1, if_neg q2]
      refine hF.2 p hp ?_
      unfold mD hC at hd
      rw [if_neg q1, if_neg q2] at hd
      unfold mD
      have : decide (p < m + 1) = decide (p < m) := by
        by_cases z : p < m
        · simp [z, Nat.lt_succ_of_lt z]
        · have : ¬ p < m + 1 := by omega
          simp [z, this]
      rw [this] at hd
      exact hd
theorem mFam_skip {E : Nat → Nat → Bool} {M : Nat → Bool} {S h : Nat → Nat} {m : Nat} (hF : mFam E M S m h) (h1 : M m = true → h m = S m) : mFam E M S (m + 1) h := by
  refine ⟨hF.1, fun p hp hd => ?_⟩
  by_cases q2 : p = m
  · subst q2
    unfold mD at hd
    have : S p < 48 ∨ M p = true := by
      rcases Classical.em (S p < 48) with z | z
      · exact Or.inl z
      · right
        simp [z] at hd
        exact hd
    rcases this with z | z
    · refine hF.2 p hp ?_
      unfold mD
      simp [z]
    · exact h1 z
  · refine hF.2 p hp ?_
    unfold mD at hd ⊢
    have : decide (p < m + 1) = decide (p < m) := by
      by_cases z : p < m
      · simp [z, Nat.lt_succ_of_lt z]
      · have : ¬ p < m + 1 := by omega
        simp [z, this]
    rw [this] at hd
    exact hd
/-- a man whom none may be given to: alone in every greatest one -/
theorem mNo_lone {E : Nat → Nat → Bool} {M : Nat → Bool} {ν m : Nat} {S h : Nat → Nat} (hG : mG E M) (hS : mT E S) (hSm : M m = true → ¬ S m < 48) (hm : m < 48) (hF : mFam E M S m h) (hz : mS M h = ν) (hno : ∀ w, w < 48 → ¬ mOk E M ν m S w) (hM : M m = true) : ¬ h m < 48 := fun hh => by
  obtain ⟨t1, t2, t3⟩ := mT_m hG hF.1 hm hM hh
  refine hno (h m) hh ⟨t2, fun z => ?_, h, mFam_put hF rfl t1, hz⟩
  have e := hF.2 (h m) hh (by unfold mD; simp [z])
  rw [t1] at e
  have := (hS (h m) hh z).1
  rw [← e] at this
  exact hSm hM (by omega)
theorem mSq_ok {E : Nat → Nat → Bool} {M : Nat → Bool} {ν : Nat} (hG : mG E M) (hν : mNu E M ν) : ∀ m, m ≤ 48 → mT E (mSq E M ν m) ∧ (∀ p, p < 48 → M p = true → m ≤ p → ¬ mSq E M ν m p < 48) ∧ mGood E M ν m (mSq E M ν m)
  | 0, _ => by
    refine ⟨fun p hp hh => absurd hh (by show ¬ 48 < 48; omega), fun p _ _ _ => by show ¬ 48 < 48; omega, ?_⟩
    obtain ⟨⟨h, h1, h2⟩, -⟩ := hν
    refine ⟨h, ⟨h1, fun p _ hd => ?_⟩, h2⟩
    unfold mD at hd
    have : ¬ (mSq E M ν 0 p < 48) := by show ¬ 48 < 48; omega
    simp [this] at hd
  | m + 1, hm => by
    obtain ⟨i1, i2, i3⟩ := mSq_ok hG hν m (by omega)
    have e : mSq E M ν (m + 1) = mNx E M ν m (mSq E M ν m) := rfl
    rw [e]
    generalize mSq E M ν m = S at i1 i2 i3
    rcases mNx_cases E M ν m S with ⟨w, hw, hk, -, e2⟩ | ⟨hno, e2⟩
    · rw [e2]
      obtain ⟨k1, k2, k3⟩ := hk
      obtain ⟨-, -, mM, wM⟩ := hG _ _ k1
      refine ⟨hC_T hG i1 k1 (i2 m (by omega) mM (Nat.le_refl _)) k2, fun p hp hM hpm => ?_, k3⟩
      unfold hC
      rw [if_neg (fun z => by rw [z, wM] at hM; cases hM), if_neg (by omega)]
      exact i2 p hp hM (by omega)
    · rw [e2]
      refine ⟨i1, fun p hp hM hpm => i2 p hp hM (by omega), ?_⟩
      obtain ⟨h, hF, hz⟩ := i3
      cases hM : M m with
      | false => exact ⟨h, mFam_skip hF (fun z => by rw [hM] at z; cases z), hz⟩
      | true =>
        have hl := mNo_lone hG i1 (fun _ => i2 m (by omega) hM (Nat.le_refl _)) (by omega) hF hz hno hM
        have hSm := i2 m (by omega) hM (Nat.le_refl _)
        have off : ∀ p, p < 48 → h p < 48 → h p ≠ m := fun p hp hh z => by
          have := (hF.1 p hp hh).1
          rw [z] at this
          exact hl (by omega)
        refine ⟨fun p => if p = m then S m else h p, mFam_skip (m := m) ⟨fun p hp hh => ?_, fun p hp hd => ?_⟩ (fun _ => by simp), ?_⟩
        · have hh : (if p = m then S m else h p) < 48 := hh
          by_cases q : p = m
          · rw [if_pos q] at hh
            exact absurd hh hSm
          · rw [if_neg q] at hh
            show (if (if p = m then S m else h p) = m then S m else h (if p = m then S m else h p)) = p ∧ (E p (if p = m then S m else h p) = true ∨ E (if p = m then S m else h p) p = true)
            rw [if_neg q, if_neg (off p hp hh)]
            exact hF.1 p hp hh
        · show (if p = m then S m else h p) = S p
          by_cases q : p = m
          · rw [if_pos q, q]
          · rw [if_neg q]
            exact hF.2 p hp hd
        · rw [← hz]
          unfold mS
          refine fb_ct_cong (fun p hp => ?_)
          show (M p && decide ((if p = m then S m else h p) < 48)) = (M p && decide (h p < 48))
          by_cases q : p = m
          · subst q
            rw [if_pos rfl]
            simp [hl, hSm]
          · rw [if_neg q]
/-! the model's loop -/
theorem c164w (d : Nat) {NP ν m : Nat} {E : Nat → Nat → Bool} {M : Nat → Bool} {S : Nat → Nat} {σ : pmS} {l1 l2 : Option pmV} (hX : mX NP E M σ.1) (hν : mNu E M ν) (hm : m < NP) (hν31 : ν ≤ 48) (hS : mT E S) (hSm : M m = true → ¬ S m < 48) (hs0 : ∀ p, p < NP → σ.1 10 0 35 p = enc (S p)) : ∃ (τ : pmS) (l5 : Option pmV), pq_Rn (pq_RD (d + 3)) (164, 51, [some (vR 10 0 0), l1, l2, some (vI (nI ν)), some (vI (nI m)), some (vI 0)], [], σ) = pq_Rn (pq_RD (d + 3)) (164, 39, [some (vR 10 0 0), l1, l2, some (vI (nI ν)), some (vI (nI (m + 1))), l5], [], τ) ∧ (∀ c o k, ¬ (c = 10 ∧ (k = 32 ∨ k = 33 ∨ k = 34 ∨ k = 35)) → τ.1 c o k = σ.1 c o k) ∧ ∀ p, p < NP → τ.1 10 0 35 p = enc (mNx E M ν m S p) := by
  obtain ⟨hN, x2, x3, x4, x5, hG⟩ := id hX
  have em : (nI m).toNatClampNeg = m := nI_clamp (by omega)
  have vm : vp_in (nI m) 48 := vp_in_nI (by omega) (by omega)
  have main : ∀ n wl, wl + n = NP → ∀ (τ : pmS), (∀ c o k, ¬ (c = 10 ∧ (k = 32 ∨ k = 33 ∨ k = 34 ∨ k = 35)) → τ.1 c o k = σ.1 c o k) → (∀ p, p < NP → τ.1 10 0 35 p = enc (S p)) → (∀ v, v < wl → ¬ mOk E M ν m S v) → ∃ (τ' : pmS) (l5 : Option pmV), pq_Rn (pq_RD (d + 3)) (164, 51, [some (vR 10 0 0), l1, l2, some (vI (nI ν)), some (vI (nI m)), some (vI (nI wl))], [], τ) = pq_Rn (pq_RD (d + 3)) (164, 39, [some (vR 10 0 0), l1, l2, some (vI (nI ν)), some (vI (nI (m + 1))), l5], [], τ') ∧ (∀ c o k, ¬ (c = 10 ∧ (k = 32 ∨ k = 33 ∨ k = 34 ∨ k = 35)) → τ'.1 c o k = σ.1 c o k) ∧ ∀ p, p < NP → τ'.1 10 0 35 p = enc (mNx E M ν m S p) := by
    intro n
    induction n with
    | zero =>
      intro wl hwl τ o sh hno
      have e : wl = NP := by omega
      subst e
      refine ⟨τ, _, (g164_51_0 _ (by rw [o 10 0 16 (by omega), x2, fa_le]; omega)).trans (by rw [nI_1]), o, ?_⟩
      rw [mSel_no (fun w _ hk => by
        have := (x5 _ _ hk.1).2
        exact hno w this hk)]
      exact sh
    | succ n ih =>
      intro wl hwl τ o sh hno
      have hw : wl < NP := by omega
      have ew : (nI wl).toNatClampNeg = wl := nI_clamp (by omega)
      have vw : vp_in (nI wl) 48 := vp_in_nI (by omega) (by omega)
      have hg : ¬ τ.1 10 0 16 0 ≤ nI wl := by rw [o 10 0 16 (by omega), x2]; exact nI_ge hw (by omega)
      have e35 : τ.1 10 0 35 (nI m).toNatClampNeg = enc (S m) := by rw [em]; exact sh m hm
      rcases Classical.em (S m < 48) with qS | qS
      · -- a woman who is settled
        have nM : M m = false := by
          cases hM : M m with
          | false => rfl
          | true => exact absurd qS (hSm hM)
        refine ⟨τ, _, (g164_51_1 _ hg vm (by rw [e35, enc_le]; exact qS)).trans (by rw [nI_1]), o, ?_⟩
        rw [mSel_no (fun w _ hk => by
          have := (hG _ _ hk.1).2.2.1
          rw [nM] at this
          cases this)]
        exact sh
      · have n35 : ¬ 0 ≤ τ.1 10 0 35 (nI m).toNatClampNeg := by rw [e35, enc_le]; exact qS
        have eix : (48 : Int32) * nI m + nI wl = nI (48 * m + wl) := by
          show nI 48 * nI m + nI wl = _
          rw [pk_mul, nI_add]
        have vix : vp_in ((48 : Int32) * nI m + nI wl) 2304 := by rw [eix]; exact vp_in_nI (by omega) (by omega)
        have rd : τ.1 10 0 31 ((48 : Int32) * nI m + nI wl).toNatClampNeg = bI (E m wl) := by rw [eix, nI_clamp (by omega), o 10 0 31 (by omega)]; exact x4 m wl hm hw
        have e35w : τ.1 10 0 35 (nI wl).toNatClampNeg = enc (S wl) := by rw [ew]; exact sh wl hw
        have go : ¬ mOk E M ν m S wl → pq_Rn (pq_RD (d + 3)) (164, 51, [some (vR 10 0 0), l1, l2, some (vI (nI ν)), some (vI (nI m)), some (vI (nI wl))], [], τ) = pq_Rn (pq_RD (d + 3)) (164, 51, [some (vR 10 0 0), l1, l2, some (vI (nI ν)), some (vI (nI m)), some (vI (nI wl + 1))], [], τ) → _ := fun hnk hst => by
          rw [nI_1 wl] at hst
          have := ih (wl + 1) (by omega) τ o sh (fun v hv => by
            rcases Nat.lt_or_ge v wl with z | z
            · exact hno v z
            · have : v = wl := by omega
              rw [this]
              exact hnk)
          rw [← hst] at this
          exact this
        cases hE : E m wl with
        | false =>
          rw [hE] at rd
          exact go (fun hk => by have := hk.1; rw [hE] at this; cases this) (g164_51_2 _ hg vm n35 vix rd)
        | true =>
          rw [hE] at rd
          have rd1 : ¬ τ.1 10 0 31 ((48 : Int32) * nI m + nI wl).toNatClampNeg = 0 := by rw [rd]; decide
          rcases Classical.em (S wl < 48) with qw | qw
          · exact go (fun hk => hk.2.1 qw) (g164_51_5 _ hg vm n35 vix rd1 vw (by rw [e35w, enc_lt]; exact fun z => z qw))
          · -- the couple tried
            have hT2 := hC_T hG hS hE qS qw
            have mw : m ≠ wl := fun z => by
              have a1 := (hG _ _ hE).2.2.1
              have a2 := (hG _ _ hE).2.2.2
              rw [← z, a1] at a2
              cases a2
            generalize e1 : pm_wi (pm_wi τ 10 0 35 m (nI wl)) 10 0 35 wl (nI m) = τ1
            have o1 : ∀ c o' k, ¬ (c = 10 ∧ k = 35) → τ1.1 c o' k = τ.1 c o' k := fun c o' k hk => by rw [← e1, wi_k hk, wi_k hk]
            have sh1 : ∀ p, p < NP → τ1.1 10 0 35 p = enc (hC S m wl p) := fun p hp => by
              rw [← e1]
              unfold hC
              by_cases q1 : p = wl
              · rw [if_pos q1, q1, wi_s, enc_y (by omega)]
              · rw [if_neg q1, wi_i q1]
                by_cases q2 : p = m
                · rw [if_pos q2, q2, wi_s, enc_y (by omega)]
                · rw [if_neg q2, wi_i q2]
                  exact sh p hp
            obtain ⟨τ2, h, kg, o2, hF, hmx⟩ := c162 d (σ := τ1) (k0 := m + 1) (S := hC S m wl) (mX_o (fun k hk => by rw [o1 10 0 k (by omega), o 10 0 k (by omega)]) hX) (by omega) hT2 sh1
            have le := hν.2 h hF.1
            have good : mS M h = ν ↔ mGood E M ν (m + 1) (hC S m wl) := ⟨fun z => ⟨h, hF, z⟩, fun ⟨h', g1, g2⟩ => by
              have := hmx h' g1
              omega⟩
            have kg' : pq_RD (d + 3) 162 [vR 10 0 0, vI (nI m + 1)] (pm_wi (pm_wi τ 10 0 35 (nI m).toNatClampNeg (nI wl)) 10 0 35 (nI wl).toNatClampNeg (nI m)) = some (some (vI (nI (mS M h))), τ2) := by
              rw [em, ew, e1, nI_1]
              exact kg
            have nn : nI wl < 0 ∨ True := Or.inr trivial
            rcases Classical.em (mS M h = ν) with qz | qz
            · have hk : mOk E M ν m S wl := ⟨hE, qw, good.mp qz⟩
              have st := g164_51_3 (pq_RD (d + 3)) (l1 := l1) (l2 := l2) (σ := τ) (x3 := nI ν) (x4 := nI m) (x5 := nI wl) hg vm n35 vix rd1 vw (by rw [e35w, enc_lt]; exact qw) kg' (by rw [qz])
              rw [nI_1 wl] at st
              have eN : mNx E M ν m S = hC S m wl := mSel_is (by omega) hk hno
              have s35 : τ2.1 10 0 35 (nI m).toNatClampNeg = nI wl := by
                rw [em, o2 10 0 35 (by omega), sh1 m hm]
                unfold hC
                rw [if_neg mw, if_pos rfl, enc_y (by omega)]
              have fin : ∃ l5, pq_Rn (pq_RD (d + 3)) (164, 51, [some (vR 10 0 0), l1, l2, some (vI (nI ν)), some (vI (nI m)), some (vI (nI (wl + 1)))], [], τ2) = pq_Rn (pq_RD (d + 3)) (164, 39, [some (vR 10 0 0), l1, l2, some (vI (nI ν)), some (vI (nI (m + 1))), l5], [], τ2) := by
                have e16 : τ2.1 10 0 16 0 = nI NP := by rw [o2 10 0 16 (by omega), o1 10 0 16 (by omega), o 10 0 16 (by omega)]; exact x2
                rcases Nat.lt_or_ge (wl + 1) NP with z | z
                · exact ⟨_, (g164_51_1 _ (by rw [e16]; exact nI_ge z (by omega)) vm (by rw [s35]; exact nI_pos' (by omega))).trans (by rw [nI_1])⟩
                · exact ⟨_, (g164_51_0 _ (by rw [e16]; exact nI_le z (by omega))).trans (by rw [nI_1])⟩
              obtain ⟨l5, fin⟩ := fin
              refine ⟨τ2, l5, st.trans fin, fun c o' k hk' => by rw [o2 c o' k (by omega), o1 c o' k (by omega), o c o' k hk'], ?_⟩
              rw [eN]
              exact fun p hp => by rw [o2 10 0 35 (by omega)]; exact sh1 p hp
            · have hnk : ¬ mOk E M ν m S wl := fun hk => qz (good.mpr hk.2.2)
              have st := g164_51_4 (pq_RD (d + 3)) (l1 := l1) (l2 := l2) (σ := τ) (x3 := nI ν) (x4 := nI m) (x5 := nI wl) hg vm n35 vix rd1 vw (by rw [e35w, enc_lt]; exact qw) kg' (fun z => qz ((nI_eq (by omega) (by omega)).mp z))
              rw [nI_1 wl, em, ew] at st
              have r := ih (wl + 1) (by omega) (pm_wi (pm_wi τ2 10 0 35 m (-1)) 10 0 35 wl (-1)) (fun c o' k hk' => by rw [wi_k (by omega), wi_k (by omega), o2 c o' k (by omega), o1 c o' k (by omega), o c o' k hk']) (fun p hp => by
                by_cases q1 : p = wl
                · rw [q1, wi_s, enc_n qw]
                · rw [wi_i q1]
                  by_cases q2 : p = m
                  · rw [q2, wi_s, enc_n qS]
                  · rw [wi_i q2, o2 10 0 35 (by omega), ← e1, wi_i q1, wi_i q2]
                    exact sh p hp) (fun v hv => by
                rcases Nat.lt_or_ge v wl with z | z
                · exact hno v z
                · have : v = wl := by omega
                  rw [this]
                  exact hnk)
              rw [← st] at r
              exact r
  exact main NP 0 (by omega) σ (fun _ _ _ _ => rfl) hs0 (fun v hv => by omega)
