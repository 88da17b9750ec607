/-! match: the ring that lacks, in the class -/
def mL (E : Nat → Nat → Bool) (M : Nat → Bool) (h q : Nat → Nat) (z : Nat) (V : Nat → Bool) (a wl : Nat) : Prop := z ≤ 48 ∧ (∀ i, i < z → q i < 48) ∧ (∀ i j, i < j → j < z → q i ≠ q j) ∧ (∀ F', lk E M h F' → ∀ i, i < z → F' (q i) = true) ∧ (∀ j, j < z → h (q j) < 48 → V (h (q j)) = true) ∧ (∀ u, V u = true → (∃ i, i < z ∧ E (q i) u = true) ∧ (h u < 48 → ∃ j, j < z ∧ q j = h u)) ∧ (∀ i w, i < a → i < z → E (q i) w = true → V w = true) ∧ ∀ w, w < wl → a < z → E (q a) w = true → V w = true
theorem mL_next {E : Nat → Nat → Bool} {M : Nat → Bool} {h q : Nat → Nat} {z : Nat} {V : Nat → Bool} {a wl : Nat} (hw : ∀ w, wl ≤ w → E (q a) w = true → V w = true) (hB : mL E M h q z V a wl) : mL E M h q z V (a + 1) 0 := by
  obtain ⟨b0, b1, b2, b3, b4, b5, b6, b7⟩ := hB
  refine ⟨b0, b1, b2, b3, b4, b5, fun i w hi hz he => ?_, fun w hw0 => by omega⟩
  rcases Nat.lt_or_ge i a with k | k
  · exact b6 i w k hz he
  · have : i = a := by omega
    subst this
    rcases Nat.lt_or_ge w wl with k2 | k2
    · exact b7 w k2 hz he
    · exact hw w k2 he
theorem mL_skip {E : Nat → Nat → Bool} {M : Nat → Bool} {h q : Nat → Nat} {z : Nat} {V : Nat → Bool} {a wl : Nat} (hB : mL E M h q z V a wl) (hs : E (q a) wl = true → V wl = true) : mL E M h q z V a (wl + 1) := by
  obtain ⟨b0, b1, b2, b3, b4, b5, b6, b7⟩ := hB
  refine ⟨b0, b1, b2, b3, b4, b5, b6, fun w hw ha he => ?_⟩
  rcases Nat.lt_or_ge w wl with k | k
  · exact b7 w k ha he
  · have : w = wl := by omega
    subst this
    exact hs he
theorem mL_lone {E : Nat → Nat → Bool} {M : Nat → Bool} {h q : Nat → Nat} {z : Nat} {V : Nat → Bool} {a wl : Nat} (hB : mL E M h q z V a wl) (ha : a < z) (he : E (q a) wl = true) (hh : ¬ h wl < 48) : mL E M h q z (fun u => if u = wl then true else V u) a (wl + 1) := by
  obtain ⟨b0, b1, b2, b3, b4, b5, b6, b7⟩ := hB
  have Vi : ∀ u, V u = true → (if u = wl then true else V u) = true := fun u hu => by
    by_cases e : u = wl
    · rw [if_pos e]
    · rw [if_neg e]
      exact hu
  refine ⟨b0, b1, b2, b3, fun j hj hhj => Vi _ (b4 j hj hhj), fun u hu => ?_, fun i w hi hz he => Vi _ (b6 i w hi hz he), fun w hw ha' he' => ?_⟩
  · have hu : (if u = wl then true else V u) = true := hu
    by_cases e : u = wl
    · subst e
      exact ⟨⟨a, ha, he⟩, fun y => absurd y hh⟩
    · rw [if_neg e] at hu
      exact b5 u hu
  · show (if w = wl then true else V w) = true
    by_cases e : w = wl
    · rw [if_pos e]
    · rw [if_neg e]
      exact b7 w (by omega) ha' he'
theorem mL_add {E : Nat → Nat → Bool} {M : Nat → Bool} {h q : Nat → Nat} {z : Nat} {V : Nat → Bool} {a wl : Nat} (hG : mG E M) (hT : mT E h) (hB : mL E M h q z V a wl) (ha : a < z) (he : E (q a) wl = true) (hv : V wl = false) (hh : h wl < 48) : z < 48 ∧ mL E M h (fun j => if j = z then h wl else q j) (z + 1) (fun u => if u = wl then true else V u) a (wl + 1) := by
  obtain ⟨b0, b1, b2, b3, b4, b5, b6, b7⟩ := hB
  obtain ⟨-, hwl, -, hwm⟩ := hG _ _ he
  obtain ⟨t1, t2, t3⟩ := mT_w hG hT hwl hwm hh
  have fresh : ∀ j, j < z → q j ≠ h wl := fun j hj e => by
    have e2 : h (q j) = wl := by rw [e]; exact t1
    have := b4 j hj (by omega)
    rw [e2, hv] at this
    cases this
  have hz : z < 48 := by
    rcases Nat.lt_or_ge z 48 with k | k
    · exact k
    · have e : z = 48 := by omega
      subst e
      obtain ⟨j, hj, ej⟩ := fb_onto b1 b2 hh
      exact absurd ej (fresh j hj)
  have Q : ∀ j, j < z → (if j = z then h wl else q j) = q j := fun j hj => if_neg (by omega)
  have Vi : ∀ u, V u = true → (if u = wl then true else V u) = true := fun u hu => by
    by_cases e : u = wl
    · rw [if_pos e]
    · rw [if_neg e]
      exact hu
  refine ⟨hz, by omega, fun i hi => ?_, fun i j hij hj => ?_, fun F' hF' i hi => ?_, fun j hj hhj => ?_, fun u hu => ?_, fun i w hi hz2 hE => ?_, fun w hw ha2 hE => ?_⟩
  · show (if i = z then h wl else q i) < 48
    by_cases e : i = z
    · rw [if_pos e]
      exact hh
    · rw [if_neg e]
      exact b1 i (by omega)
  · show (if i = z then h wl else q i) ≠ if j = z then h wl else q j
    rw [Q i (by omega)]
    by_cases e : j = z
    · rw [if_pos e]
      exact fresh i (by omega)
    · rw [if_neg e]
      exact b2 i j hij (by omega)
  · show F' (if i = z then h wl else q i) = true
    by_cases e : i = z
    · rw [if_pos e]
      exact hF'.2 (q a) wl (b3 F' hF' a ha) he hh
    · rw [if_neg e]
      exact b3 F' hF' i (by omega)
  · have hhj : h (if j = z then h wl else q j) < 48 := hhj
    show (if h (if j = z then h wl else q j) = wl then true else V (h (if j = z then h wl else q j))) = true
    by_cases e : j = z
    · rw [if_pos e, t1, if_pos rfl]
    · rw [if_neg e] at hhj ⊢
      exact Vi _ (b4 j (by omega) hhj)
  · have hu : (if u = wl then true else V u) = true := hu
    show (∃ i, i < z + 1 ∧ E (if i = z then h wl else q i) u = true) ∧ (h u < 48 → ∃ j, j < z + 1 ∧ (if j = z then h wl else q j) = h u)
    by_cases e : u = wl
    · subst e
      exact ⟨⟨a, by omega, by rw [Q a ha]; exact he⟩, fun _ => ⟨z, by omega, if_pos rfl⟩⟩
    · rw [if_neg e] at hu
      obtain ⟨⟨i, hi, ei⟩, k2⟩ := b5 u hu
      refine ⟨⟨i, by omega, by rw [Q i hi]; exact ei⟩, fun y => ?_⟩
      obtain ⟨j, hj, ej⟩ := k2 y
      exact ⟨j, by omega, by rw [Q j hj]; exact ej⟩
  · have hE : E (if i = z then h wl else q i) w = true := hE
    rw [Q i (by omega)] at hE
    exact Vi _ (b6 i w hi (by omega) hE)
  · have hE : E (if a = z then h wl else q a) w = true := hE
    rw [Q a ha] at hE
    show (if w = wl then true else V w) = true
    by_cases e : w = wl
    · rw [if_pos e]
    · rw [if_neg e]
      exact b7 w (by omega) ha hE
/-- a queue of men, each once, has as many as it is long -/
theorem mQ_ct {q : Nat → Nat} : ∀ {z : Nat}, (∀ i, i < z → q i < 48) → (∀ i j, i < j → j < z → q i ≠ q j) → fb_ct (mQ q z) 48 = z
  | 0, _, _ => fb_ct_zero.mpr (fun k _ => by
    cases y : mQ q 0 k with
    | false => rfl
    | true =>
      obtain ⟨i, hi, -⟩ := mQ_t.mp y
      omega)
  | z + 1, h1, h2 => by
    have ih := mQ_ct (q := q) (z := z) (fun i hi => h1 i (by omega)) (fun i j hij hj => h2 i j hij (by omega))
    have u := fb_ct_upd (mQ q z) true (i := q z) (n := 48) (h1 z (by omega))
    have nz : mQ q z (q z) = false := by
      cases y : mQ q z (q z) with
      | false => rfl
      | true =>
        obtain ⟨i, hi, e⟩ := mQ_t.mp y
        exact absurd e (h2 i z hi (by omega))
    rw [nz, ih] at u
    have e : fb_ct (mQ q (z + 1)) 48 = fb_ct (fun k => if k = q z then true else mQ q z k) 48 := fb_ct_cong (fun k _ => by
      show mQ q (z + 1) k = if k = q z then true else mQ q z k
      by_cases y : k = q z
      · rw [if_pos y]
        exact mQ_t.mpr ⟨z, by omega, y.symm⟩
      · rw [if_neg y]
        cases w : mQ q z k with
        | true =>
          obtain ⟨i, hi, ei⟩ := mQ_t.mp w
          exact mQ_t.mpr ⟨i, by omega, ei⟩
        | false =>
          cases v : mQ q (z + 1) k with
          | false => rfl
          | true =>
            obtain ⟨i, hi, ei⟩ := mQ_t.mp v
            rcases Nat.lt_or_ge i z with t | t
            · rw [mQ_t.mpr ⟨i, t, ei⟩] at w
              cases w
            · have : i = z := by omega
              rw [this] at ei
              exact absurd ei.symm y)
    rw [e]
    simpa using u
