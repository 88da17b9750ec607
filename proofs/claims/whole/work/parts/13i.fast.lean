/-! the pure machine follows the fast one -/
theorem pq_in_e {pc : Nat} (h : pc < pq_lims.getD 183 0) : ∀ x, pq_ins 183 pc = some x → pq_ok1 183 pc x = true := by
  have key : ∀ a, pq_okr 183 a 120 = true → a ≤ pc → pc < a + 120 → ∀ x, pq_ins 183 pc = some x → pq_ok1 183 pc x = true := by
    intro a ha h1 h2 x hx
    unfold pq_okr at ha
    have hm : pc ∈ ((List.range (pq_lims.getD 183 0)).drop a).take 120 := by
      refine List.mem_of_getElem? (i := pc - a) ?_
      rw [List.getElem?_take_of_lt (by omega), List.getElem?_drop, List.getElem?_range (by omega)]
      exact congrArg some (by omega)
    have h3 := List.all_eq_true.mp ha pc hm
    rw [hx] at h3
    exact h3
  have hl : pq_lims.getD 183 0 ≤ 1320 := by decide +kernel
  by_cases h0 : pc < 120
  · exact key 0 pq_ok_e0 (by omega) (by omega)
  by_cases h120 : pc < 240
  · exact key 120 pq_ok_e120 (by omega) (by omega)
  by_cases h240 : pc < 360
  · exact key 240 pq_ok_e240 (by omega) (by omega)
  by_cases h360 : pc < 480
  · exact key 360 pq_ok_e360 (by omega) (by omega)
  by_cases h480 : pc < 600
  · exact key 480 pq_ok_e480 (by omega) (by omega)
  by_cases h600 : pc < 720
  · exact key 600 pq_ok_e600 (by omega) (by omega)
  by_cases h720 : pc < 840
  · exact key 720 pq_ok_e720 (by omega) (by omega)
  by_cases h840 : pc < 960
  · exact key 840 pq_ok_e840 (by omega) (by omega)
  by_cases h960 : pc < 1080
  · exact key 960 pq_ok_e960 (by omega) (by omega)
  by_cases h1080 : pc < 1200
  · exact key 1080 pq_ok_e1080 (by omega) (by omega)
  exact key 1200 pq_ok_e1200 (by omega) (by omega)
theorem pq_in_m {m pc : Nat} (hm : m < 183) (h : pc < pq_lims.getD m 0) : ∀ x, pq_ins m pc = some x → pq_ok1 m pc x = true := by
  intro x hx
  have h1 : pq_okm m = true := by
    have key : ∀ a n, (((List.range 184).drop a).take n).all pq_okm = true → a ≤ m → m < a + n → pq_okm m = true := by
      intro a n ha h2 h3
      refine List.all_eq_true.mp ha m ?_
      refine List.mem_of_getElem? (i := m - a) ?_
      rw [List.getElem?_take_of_lt (by omega), List.getElem?_drop, List.getElem?_range (by omega)]
      exact congrArg some (by omega)
    by_cases h60 : m < 60
    · exact key 0 60 pq_ok_a (by omega) (by omega)
    by_cases h110 : m < 110
    · exact key 60 50 pq_ok_b (by omega) (by omega)
    by_cases h150 : m < 150
    · exact key 110 40 pq_ok_c (by omega) (by omega)
    exact key 150 33 pq_ok_d (by omega) (by omega)
  unfold pq_okm at h1
  have h3 := List.all_eq_true.mp h1 pc (List.mem_range.mpr h)
  rw [hx] at h3
  exact h3
theorem pq_row {m pc : Nat} {x : pqX} (hl : Nat.blt pc (pq_lim m) = true) (h : pq_ins m pc = some x) : pq_ok1 m pc x = true := by
  have hl2 : pc < pq_lim m := by
    have := Nat.le_of_ble_eq_true hl
    omega
  by_cases hm : m < 184
  · have he := List.all_eq_true.mp pq_lim_ok m (List.mem_range.mpr hm)
    have he2 : pq_lim m = pq_lims.getD m 0 := by simpa using he
    rw [he2] at hl2
    by_cases hm2 : m < 183
    · exact pq_in_m hm2 hl2 x h
    · have : m = 183 := by omega
      subst this
      exact pq_in_e hl2 x h
  · exfalso
    have : pq_lim m = 0 := by
      unfold pq_lim
      have hb : Nat.blt m 184 = false := by
        cases hq : Nat.blt m 184 with
        | false => rfl
        | true =>
          have := Nat.le_of_ble_eq_true hq
          omega
      rw [hb]
      rfl
    omega
theorem pq_arr {σ : pmS} {c k : Nat} (h : pq_kd c k ≠ 99) : pm_kd c k = pq_kd c k ∧ pm_len σ c k = pq_len σ c k := by
  have hc : c < 12 := by
    rcases Nat.lt_or_ge c 12 with h1 | h1
    · exact h1
    · exfalso
      apply h
      unfold pq_kd
      have hb : Nat.blt c 12 = false := by
        cases hq : Nat.blt c 12 with
        | false => rfl
        | true =>
          have := Nat.le_of_ble_eq_true hq
          omega
      rw [hb]
      rfl
  have hk : k < 50 := by
    rcases Nat.lt_or_ge k 50 with h1 | h1
    · exact h1
    · exfalso
      apply h
      have hf : ∀ n, n < 50 → Nat.ble k n = false := fun n hn => by
        cases hq : Nat.ble k n with
        | false => rfl
        | true =>
          have := Nat.le_of_ble_eq_true hq
          omega
      have all : ∀ c, c < 12 → pq_kd c k = 99 := by
        intro c hc
        rcases (show c = 0 ∨ c = 1 ∨ c = 2 ∨ c = 3 ∨ c = 4 ∨ c = 5 ∨ c = 6 ∨ c = 7 ∨ c = 8 ∨ c = 9 ∨ c = 10 ∨ c = 11 by omega) with rfl | rfl | rfl | rfl | rfl | rfl | rfl | rfl | rfl | rfl | rfl | rfl <;>
          (unfold pq_kd
           simp only [Nat.blt, Nat.ble, cond_true, cond_false]
           first
             | (rw [hf 45 (by omega)]; rfl)
             | (rw [hf 11 (by omega)]; rfl)
             | (rw [hf 9 (by omega)]; rfl)
             | (rw [hf 8 (by omega)]; rfl)
             | (rw [hf 4 (by omega)]; rfl)
             | (rw [hf 3 (by omega)]; rfl)
             | (rw [hf 2 (by omega)]; rfl)
             | (rw [hf 0 (by omega)]; rfl))
      exact all c hc
  have h1 := List.all_eq_true.mp (List.all_eq_true.mp pq_ok_arr c (List.mem_range.mpr hc)) k (List.mem_range.mpr hk)
  have h99 : (pq_kd c k == 99) = false := by simpa using h
  rw [h99, Bool.false_or, Bool.and_eq_true] at h1
  refine ⟨(by simpa using h1.1 : pq_kd c k = pm_kd c k).symm, ?_⟩
  unfold pm_len pq_len
  by_cases h11 : c = 11
  · subst h11
    rfl
  · rw [if_neg h11]
    have hb : Nat.beq c 11 = false := by
      cases hq : Nat.beq c 11 with
      | false => rfl
      | true => exact absurd (Nat.eq_of_beq_eq_true hq) h11
    rw [hb, cond_false]
    have h2 := h1.2
    have h3 : (c == 11) = false := by simpa using h11
    rw [h3, Bool.false_or] at h2
    split at h2
    next n d hn =>
      rw [hn]
      simpa using h2
    next => cases h2
