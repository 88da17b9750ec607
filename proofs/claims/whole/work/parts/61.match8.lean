/-! match: giving and settling -/
def sWs (M : Nat → Bool) (S : Nat → Nat) (u : Nat) : Bool := !M u && decide (S u < 48)
def sMs (k p : Nat) : Bool := decide (p < k)
theorem dD_mD {M : Nat → Bool} {S : Nat → Nat} {k : Nat} (hS : ∀ p, M p = true → S p < 48 → p < k) (p : Nat) : dD M (sMs k) (sWs M S) p = mD M S k p := by
  unfold dD mD sMs sWs
  cases hM : M p with
  | true =>
    rw [if_pos rfl]
    by_cases q : S p < 48
    · simp [q, hS p hM q]
    · simp [q]
  | false =>
    rw [if_neg (by decide)]
    simp
/-- the couples but for those of m and w, and these two one couple -/
def hG2 (h : Nat → Nat) (m w p : Nat) : Nat := if p = w then m else if p = m then w else if p = h m ∨ p = h w then 48 else h p
theorem hG2_T {E : Nat → Nat → Bool} {M : Nat → Bool} {h : Nat → Nat} {m w : Nat} (hG : mG E M) (hT : mT E h) (he : E m w = true) : mT E (hG2 h m w) := by
  obtain ⟨hm, hw, mM, wM⟩ := hG _ _ he
  have mw : m ≠ w := fun z => by
    rw [z, wM] at mM
    cases mM
  intro p hp hh
  unfold hG2 at hh ⊢
  by_cases q1 : p = w
  · rw [if_pos q1, if_neg mw, if_pos rfl]
    exact ⟨q1.symm, Or.inr (by rw [q1]; exact he)⟩
  · rw [if_neg q1] at hh ⊢
    by_cases q2 : p = m
    · rw [if_pos q2, if_pos rfl]
      exact ⟨q2.symm, Or.inl (by rw [q2]; exact he)⟩
    · rw [if_neg q2] at hh ⊢
      by_cases q3 : p = h m ∨ p = h w
      · rw [if_pos q3] at hh
        omega
      · rw [if_neg q3] at hh ⊢
        obtain ⟨t1, t2⟩ := hT p hp hh
        have n1 : h p ≠ w := fun z => q3 (Or.inr (by rw [← z]; exact t1.symm))
        have n2 : h p ≠ m := fun z => q3 (Or.inl (by rw [← z]; exact t1.symm))
        have n3 : ¬ (h p = h m ∨ h p = h w) := fun z => by
          rcases z with z | z
          · rw [z] at t1 hh
            have := (hT m hm hh).1
            exact q2 (by rw [← t1, this])
          · rw [z] at t1 hh
            have := (hT w hw hh).1
            exact q1 (by rw [← t1, this])
        rw [if_neg n1, if_neg n2, if_neg n3]
        exact ⟨t1, t2⟩
theorem hG2_F {E : Nat → Nat → Bool} {M : Nat → Bool} {S h : Nat → Nat} {m w : Nat} (hG : mG E M) (hS : mT E S) (hF : mFam E M S m h) (he : E m w = true) (hSm : ¬ S m < 48) (hSw : ¬ S w < 48) : mFam E M (hC S m w) (m + 1) (hG2 h m w) := by
  obtain ⟨hm, hw, mM, wM⟩ := hG _ _ he
  refine ⟨hG2_T hG hF.1 he, fun p hp hd => ?_⟩
  unfold hC hG2
  by_cases q1 : p = w
  · rw [if_pos q1, if_pos q1]
  · rw [if_neg q1, if_neg q1]
    by_cases q2 : p = m
    · rw [if_pos q2, if_pos q2]
    · rw [if_neg q2, if_neg q2]
      have hd0 : mD M S m p = true := by
        unfold mD hC at hd
        rw [if_neg q1, if_neg q2] at hd
        unfold mD
        have : decide (p < m + 1) = decide (p < m) := by
          by_cases z : p < m
          · simp [z, Nat.lt_succ_of_lt z]
          · have : ¬ p < m + 1 := by omega
            simp [z, this]
        rw [this] at hd
        exact hd
      have e := hF.2 p hp hd0
      rw [if_neg ?_]
      · exact e
      · rintro (z | z)
        · have hh : h m < 48 := by omega
          have t := (hF.1 m hm hh).1
          rw [← z, e] at t
          have := (hS p hp (by omega)).1
          rw [t] at this
          exact hSm (by omega)
        · have hh : h w < 48 := by omega
          have t := (hF.1 w hw hh).1
          rw [← z, e] at t
          have := (hS p hp (by omega)).1
          rw [t] at this
          exact hSw (by omega)
/-- how many couples that leaves -/
theorem hG2_S {E : Nat → Nat → Bool} {M : Nat → Bool} {h : Nat → Nat} {m w : Nat} (hG : mG E M) (hT : mT E h) (he : E m w = true) (hne : h w ≠ m) : (h w < 48 → h m < 48 → mS M (hG2 h m w) + 1 = mS M h) ∧ (h w < 48 → ¬ h m < 48 → mS M (hG2 h m w) = mS M h) ∧ (¬ h w < 48 → h m < 48 → mS M (hG2 h m w) = mS M h) ∧ (¬ h w < 48 → ¬ h m < 48 → mS M (hG2 h m w) = mS M h + 1) := by
  obtain ⟨hm, hw, mM, wM⟩ := hG _ _ he
  have at_ : ∀ p, p < 48 → M p = true → (hG2 h m w p < 48 ↔ p = m ∨ (h p < 48 ∧ p ≠ h w)) := fun p hp hM => by
    unfold hG2
    have q1 : p ≠ w := fun z => by
      rw [z, wM] at hM
      cases hM
    rw [if_neg q1]
    by_cases q2 : p = m
    · rw [if_pos q2]
      exact ⟨fun _ => Or.inl q2, fun _ => hw⟩
    · rw [if_neg q2]
      have q3 : p ≠ h m := fun z => by
        have hh : h m < 48 := by omega
        have := (mT_m hG hT hm mM hh).2.2
        rw [← z, hM] at this
        cases this
      by_cases q4 : p = h w
      · rw [if_pos (Or.inr q4)]
        exact ⟨fun z => by omega, fun z => by
          rcases z with z | z
          · exact absurd z q2
          · exact absurd q4 z.2⟩
      · rw [if_neg (fun z => by rcases z with z | z; exact q3 z; exact q4 z)]
        exact ⟨fun z => Or.inr ⟨z, q4⟩, fun z => by
          rcases z with z | z
          · exact absurd z q2
          · exact z.1⟩
  have same : ∀ (g : Nat → Nat), (∀ p, p < 48 → M p = true → (hG2 h m w p < 48 ↔ g p < 48)) → mS M (hG2 h m w) = mS M g := fun g hg => by
    unfold mS
    refine fb_ct_cong (fun p hp => ?_)
    show (M p && decide (hG2 h m w p < 48)) = (M p && decide (g p < 48))
    cases hM : M p with
    | false => rfl
    | true => simp [hg p hp hM]
  have rM : h w < 48 → M (h w) = true ∧ h (h w) = w := fun hh => ⟨(mT_w hG hT hw wM hh).2.2, (mT_w hG hT hw wM hh).1⟩
  have less : h w < 48 → mS M h = mS M (fun p => if p = h w then 48 else h p) + 1 := fun hh => by
    refine mS_more (s := h w) hh (rM hh).1 (by show ¬ (if h w = h w then 48 else h (h w)) < 48; rw [if_pos rfl]; omega) (fun p hp hM => ?_)
    show h p < 48 ↔ (if p = h w then 48 else h p) < 48 ∨ p = h w
    by_cases q : p = h w
    · rw [if_pos q]
      exact ⟨fun _ => Or.inr q, fun _ => by rw [q, (rM hh).2]; exact hw⟩
    · rw [if_neg q]
      exact ⟨fun z => Or.inl z, fun z => by rcases z with z | z; exact z; exact absurd z q⟩
  refine ⟨fun h1 h2 => ?_, fun h1 h2 => ?_, fun h1 h2 => ?_, fun h1 h2 => ?_⟩
  · rw [less h1, same (fun p => if p = h w then 48 else h p) (fun p hp hM => ?_)]
    rw [at_ p hp hM]
    show _ ↔ (if p = h w then 48 else h p) < 48
    by_cases q : p = h w
    · rw [if_pos q]
      exact ⟨fun z => by
        rcases z with z | z
        · exact absurd (q ▸ z) hne
        · exact absurd q z.2, fun z => by omega⟩
    · rw [if_neg q]
      exact ⟨fun z => by
        rcases z with z | z
        · rw [z]; exact h2
        · exact z.1, fun z => Or.inr ⟨z, q⟩⟩
  · rw [less h1]
    refine mS_more (s := m) hm mM (by show ¬ (if m = h w then 48 else h m) < 48; rw [if_neg (fun z => hne z.symm)]; exact h2) (fun p hp hM => ?_)
    rw [at_ p hp hM]
    show _ ↔ (if p = h w then 48 else h p) < 48 ∨ p = m
    by_cases q : p = h w
    · rw [if_pos q]
      exact ⟨fun z => by
        rcases z with z | z
        · exact Or.inr z
        · exact absurd q z.2, fun z => by
        rcases z with z | z
        · omega
        · exact Or.inl z⟩
    · rw [if_neg q]
      exact ⟨fun z => by
        rcases z with z | z
        · exact Or.inr z
        · exact Or.inl z.1, fun z => by
        rcases z with z | z
        · exact Or.inr ⟨z, q⟩
        · exact Or.inl z⟩
  · refine same h (fun p hp hM => ?_)
    rw [at_ p hp hM]
    exact ⟨fun z => by
      rcases z with z | z
      · rw [z]; exact h2
      · exact z.1, fun z => Or.inr ⟨z, fun y => by omega⟩⟩
  · refine mS_more (s := m) hm mM h2 (fun p hp hM => ?_)
    rw [at_ p hp hM]
    exact ⟨fun z => by
      rcases z with z | z
      · exact Or.inr z
      · exact Or.inl z.1, fun z => by
      rcases z with z | z
      · exact Or.inr ⟨z, fun y => by omega⟩
      · exact Or.inl z⟩
theorem sWs_put {M : Nat → Bool} {S : Nat → Nat} {m w : Nat} (mM : M m = true) (wM : M w = false) (hm : m < 48) : ls (fun i => sWs M S i || decide (i = w)) = ls (sWs M (hC S m w)) := ls_cong (fun i _ => by
  unfold sWs hC
  by_cases q1 : i = w
  · subst q1
    rw [if_pos rfl, wM]
    simp [hm]
  · rw [if_neg q1]
    by_cases q2 : i = m
    · subst q2
      rw [mM]
      simp [q1]
    · rw [if_neg q2]
      simp [q1])
/-- what is kept of the store but for the matching -/
def oN (τ σ : pmS) : Prop := (∀ c o k, ¬ c = 3 → τ.1 c o k = σ.1 c o k) ∧ (∀ m, τ.2 3 0 0 m = σ.2 3 0 0 m) ∧ ∀ k, k = 7 ∨ k = 8 → τ.1 3 0 k = σ.1 3 0 k
theorem oM_N {τ σ : pmS} (h : oM τ σ) : oN τ σ := ⟨fun c o k hk => h.1 c o k (by omega), fun m => by rw [h.2], fun k hk => h.1 3 0 k (by omega)⟩
theorem oN_t {a b c : pmS} (h1 : oN a b) (h2 : oN b c) : oN a c := ⟨fun x o k hk => by rw [h1.1 x o k hk, h2.1 x o k hk], fun m => by rw [h1.2.1, h2.2.1], fun k hk => by rw [h1.2.2 k hk, h2.2.2 k hk]⟩
theorem oN_wl {σ : pmS} {k : Nat} {v : Int64} (hk : k ≠ 0) : oN (pm_wl σ 3 0 k 0 v) σ := ⟨fun _ _ _ _ => rfl, fun m => by rw [wl_2, if_neg (fun z => hk z.2.2.1.symm)], fun _ _ => rfl⟩
theorem oN_w1 {σ : pmS} {i : Nat} {v : Int32} : oN (pm_wi σ 3 0 1 i v) σ := ⟨fun c o k hk => wi_k (by omega), fun m => rfl, fun k hk => wi_k (by omega)⟩
