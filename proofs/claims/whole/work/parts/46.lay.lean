/-! lay: arrangements in order, the first of the best -/
def lP (n : Nat) (π : Nat → Nat) : Prop := (∀ c, c < n → π c < n) ∧ ∀ a b, a < b → b < n → π a ≠ π b
theorem lP_inj {n : Nat} {π : Nat → Nat} (h : lP n π) {a b : Nat} (ha : a < n) (hb : b < n) (e : π a = π b) : a = b := by
  rcases (by omega : a < b ∨ b < a ∨ a = b) with q | q | q
  · exact absurd e (h.2 a b q hb)
  · exact absurd e.symm (h.2 b a q ha)
  · exact q
theorem lP_onto {n : Nat} {π : Nat → Nat} (h : lP n π) {y : Nat} (hy : y < n) : ∃ i, i < n ∧ π i = y := fb_onto h.1 h.2 hy
theorem lP_cong {n : Nat} {π ρ : Nat → Nat} (e : ∀ c, c < n → ρ c = π c) (h : lP n π) : lP n ρ := ⟨fun c hc => by rw [e c hc]; exact h.1 c hc, fun a b hab hb => by rw [e a (by omega), e b hb]; exact h.2 a b hab hb⟩
/-- the place of an arrangement in the order -/
def lV (π : Nat → Nat) : Nat → Nat
  | 0 => 0
  | k + 1 => 8 * lV π k + π k
theorem lV_cong {π ρ : Nat → Nat} : ∀ {n : Nat}, (∀ c, c < n → ρ c = π c) → lV ρ n = lV π n
  | 0, _ => rfl
  | n + 1, h => by rw [lV, lV, lV_cong (fun c hc => h c (by omega)), h n (by omega)]
theorem lV_lt {π ρ : Nat → Nat} {d : Nat} : ∀ {n : Nat}, (∀ c, c < n → π c < 8) → d < n → (∀ j, j < d → π j = ρ j) → π d < ρ d → lV π n < lV ρ n
  | 0, _, h, _, _ => by omega
  | n + 1, h8, hd, ha, hl => by
    rw [lV, lV]
    have h1 := h8 n (by omega)
    rcases Nat.lt_or_ge d n with h2 | h2
    · have := lV_lt (n := n) (fun c hc => h8 c (by omega)) h2 ha hl
      omega
    · have : d = n := by omega
      subst this
      rw [lV_cong (π := ρ) (ρ := π) (fun c hc => ha c hc)]
      omega
theorem lV_bd {π : Nat → Nat} : ∀ {n : Nat}, (∀ c, c < n → π c < 8) → lV π n < 8 ^ n
  | 0, _ => Nat.zero_lt_one
  | n + 1, h => by
    have := lV_bd (n := n) (fun c hc => h c (by omega))
    have := h n (by omega)
    rw [lV, Nat.pow_succ]
    omega
/-- two arrangements: alike, or one comes first at a place -/
theorem l_cmp (π ρ : Nat → Nat) (n : Nat) : (∀ c, c < n → π c = ρ c) ∨ ∃ d, d < n ∧ (∀ j, j < d → π j = ρ j) ∧ π d ≠ ρ d := by
  have hle := fa_first_le (fun c => !decide (π c = ρ c)) n
  have hno := fa_first_no (fun c => !decide (π c = ρ c)) n
  have hyes := fa_first_yes (fun c => !decide (π c = ρ c)) n
  generalize fa_first (fun c => !decide (π c = ρ c)) n = K at hle hno hyes
  rcases Nat.lt_or_ge K n with h | h
  · exact Or.inr ⟨K, h, fun j hj => by simpa using hno j hj, by simpa using hyes h⟩
  · exact Or.inl (fun c hc => by simpa using hno c (by omega))
theorem lV_inj {n : Nat} {π ρ : Nat → Nat} (h8 : n ≤ 8) (h1 : lP n π) (h2 : lP n ρ) (e : lV π n = lV ρ n) : ∀ c, c < n → π c = ρ c := by
  rcases l_cmp π ρ n with h | ⟨d, hd, ha, hn⟩
  · exact h
  · rcases Nat.lt_or_ge (π d) (ρ d) with q | q
    · have := lV_lt (n := n) (fun c hc => by have := h1.1 c hc; omega) hd ha q
      omega
    · have := lV_lt (n := n) (π := ρ) (ρ := π) (fun c hc => by have := h2.1 c hc; omega) hd (fun j hj => (ha j hj).symm) (by omega)
      omega
/-- what a search has found among the arrangements of E -/
def lU (n : Nat) (sc : (Nat → Nat) → Nat) (E : (Nat → Nat) → Prop) (m : Nat) (b : Nat → Int32) (m' : Nat) (b' : Nat → Int32) : Prop := (∀ π, lP n π → E π → sc π ≤ m') ∧ ((m' = m ∧ ∀ c, c < n → b' c = b c) ∨ (m < m' ∧ ∃ β, lP n β ∧ (∀ c, c < n → b' c = nI (β c)) ∧ E β ∧ sc β = m' ∧ ∀ π, lP n π → E π → lV π n < lV β n → sc π < m'))
theorem lU_none {n : Nat} {sc : (Nat → Nat) → Nat} {E : (Nat → Nat) → Prop} {m : Nat} {b b' : Nat → Int32} (h : ∀ π, lP n π → E π → sc π ≤ m) (e : ∀ c, c < n → b' c = b c) : lU n sc E m b m b' := ⟨h, Or.inl ⟨rfl, e⟩⟩
theorem lU_set {n : Nat} {sc : (Nat → Nat) → Nat} {E E' : (Nat → Nat) → Prop} {m m' : Nat} {b b' : Nat → Int32} (he : ∀ π, lP n π → (E' π ↔ E π)) (h : lU n sc E m b m' b') : lU n sc E' m b m' b' := by
  refine ⟨fun π hp hE => h.1 π hp ((he π hp).mp hE), ?_⟩
  rcases h.2 with q | ⟨q1, β, q2, q3, q4, q5, q6⟩
  · exact Or.inl q
  · exact Or.inr ⟨q1, β, q2, q3, (he β q2).mpr q4, q5, fun π hp hE hl => q6 π hp ((he π hp).mp hE) hl⟩
theorem lU_or {n : Nat} {sc : (Nat → Nat) → Nat} {E1 E2 : (Nat → Nat) → Prop} {m m1 m2 : Nat} {b b1 b2 : Nat → Int32} (hb : ∀ π ρ, lP n π → lP n ρ → E1 π → E2 ρ → lV π n < lV ρ n) (h1 : lU n sc E1 m b m1 b1) (h2 : lU n sc E2 m1 b1 m2 b2) : lU n sc (fun π => E1 π ∨ E2 π) m b m2 b2 := by
  have le : m1 ≤ m2 := by
    rcases h2.2 with ⟨q, -⟩ | ⟨q, -⟩ <;> omega
  refine ⟨fun π hp hE => ?_, ?_⟩
  · rcases hE with q | q
    · exact Nat.le_trans (h1.1 π hp q) le
    · exact h2.1 π hp q
  · rcases h2.2 with ⟨e2, k2⟩ | ⟨q1, β, q2, q3, q4, q5, q6⟩
    · rcases h1.2 with ⟨e1, k1⟩ | ⟨p1, β, p2, p3, p4, p5, p6⟩
      · exact Or.inl ⟨by omega, fun c hc => by rw [k2 c hc, k1 c hc]⟩
      · refine Or.inr ⟨by omega, β, p2, fun c hc => by rw [k2 c hc, p3 c hc], Or.inl p4, by omega, fun π hp hE hl => ?_⟩
        rcases hE with q | q
        · have := p6 π hp q hl
          omega
        · have := hb β π p2 hp p4 q
          omega
    · refine Or.inr ⟨by rcases h1.2 with ⟨e1, -⟩ | ⟨p1, -⟩ <;> omega, β, q2, q3, Or.inr q4, q5, fun π hp hE hl => ?_⟩
      rcases hE with q | q
      · have := h1.1 π hp q
        omega
      · exact q6 π hp q hl
/-- two searches of all arrangements find the same -/
theorem lU_eq {n : Nat} {sc : (Nat → Nat) → Nat} {b c m m' : _} {b1 b2 : Nat → Int32} (h8 : n ≤ 8) (hsc : ∀ π, 1 ≤ sc π) (h1 : lU n sc (fun _ => True) 0 b m b1) (h2 : lU n sc (fun _ => True) 0 c m' b2) : m = m' ∧ 1 ≤ m ∧ ∀ c, c < n → b1 c = b2 c := by
  have idp : lP n (fun c => c) := ⟨fun c hc => hc, fun a b hab _ => by show a ≠ b; omega⟩
  have z1 := h1.1 _ idp trivial
  have z2 := h2.1 _ idp trivial
  have z0 := hsc (fun c => c)
  rcases h1.2 with ⟨e1, -⟩ | ⟨p1, β, p2, p3, p4, p5, p6⟩
  · omega
  · rcases h2.2 with ⟨e2, -⟩ | ⟨q1, γ, q2, q3, q4, q5, q6⟩
    · omega
    · have y1 := h1.1 γ q2 trivial
      have y2 := h2.1 β p2 trivial
      have em : m = m' := by omega
      subst em
      refine ⟨rfl, by omega, fun c hc => ?_⟩
      rw [p3 c hc, q3 c hc]
      congr 1
      refine lV_inj h8 p2 q2 ?_ c hc
      rcases (by omega : lV β n < lV γ n ∨ lV γ n < lV β n ∨ lV β n = lV γ n) with q | q | q
      · have := q6 β p2 trivial q
        omega
      · have := p6 γ q2 trivial q
        omega
      · exact q
/-! the next arrangement -/
theorem l_rest {n d : Nat} {π ρ : Nat → Nat} (h1 : lP n π) (h2 : lP n ρ) (hd : d < n) (ha : ∀ j, j < d → π j = ρ j) : ∃ j, d ≤ j ∧ j < n ∧ ρ j = π d := by
  obtain ⟨j, hj, e⟩ := lP_onto h2 (h1.1 d hd)
  refine ⟨j, ?_, hj, e⟩
  rcases Nat.lt_or_ge j d with q | q
  · have := lP_inj h1 (by omega) hd ((ha j q).trans e)
    omega
  · exact q
/-- a falling end has nothing behind it -/
theorem l_fall {n i : Nat} {π ρ : Nat → Nat} (h1 : lP n π) (h2 : lP n ρ) (hf : ∀ a b, i ≤ a → a < b → b < n → ρ b < ρ a) {d : Nat} (hd : d < n) (hi : i ≤ d) (ha : ∀ j, j < d → π j = ρ j) : ¬ ρ d < π d := fun hl => by
  obtain ⟨j, j1, j2, e⟩ := l_rest h1 h2 hd ha
  rcases Nat.eq_or_lt_of_le j1 with q | q
  · subst q
    omega
  · have := hf d j hi q j2
    omega
theorem l_rise {n i : Nat} {π ρ : Nat → Nat} (h1 : lP n π) (h2 : lP n ρ) (hf : ∀ a b, i ≤ a → a < b → b < n → ρ a < ρ b) {d : Nat} (hd : d < n) (hi : i ≤ d) (ha : ∀ j, j < d → π j = ρ j) : ¬ π d < ρ d := fun hl => by
  obtain ⟨j, j1, j2, e⟩ := l_rest h1 h2 hd ha
  rcases Nat.eq_or_lt_of_le j1 with q | q
  · subst q
    omega
  · have := hf d j hi q j2
    omega
theorem l_last {n : Nat} {ρ : Nat → Nat} (h8 : n ≤ 8) (h2 : lP n ρ) (hf : ∀ a b, a < b → b < n → ρ b < ρ a) {π : Nat → Nat} (h1 : lP n π) : lV π n < lV ρ n ∨ ∀ c, c < n → π c = ρ c := by
  rcases l_cmp π ρ n with h | ⟨d, hd, ha, hn⟩
  · exact Or.inr h
  · have := l_fall (i := 0) h1 h2 (fun a b _ h3 h4 => hf a b h3 h4) hd (by omega) ha
    exact Or.inl (lV_lt (fun c hc => by have := h1.1 c hc; omega) hd ha (by omega))
/-- ρ', the one behind ρ: alike below i, at i the least greater of the falling end, then rising -/
theorem l_next {n i k : Nat} {ρ ρ' : Nat → Nat} (h8 : n ≤ 8) (h : lP n ρ) (h' : lP n ρ') (hi : i < n) (hf : ∀ a b, i < a → a < b → b < n → ρ b < ρ a) (hk : i < k) (hkn : k < n) (hg : ρ i < ρ k) (hlst : ∀ j, k < j → j < n → ρ j < ρ i) (e1 : ∀ j, j < i → ρ' j = ρ j) (e2 : ρ' i = ρ k) (hr : ∀ a b, i < a → a < b → b < n → ρ' a < ρ' b) : lV ρ n < lV ρ' n ∧ ∀ π, lP n π → (lV π n < lV ρ' n ↔ lV π n < lV ρ n ∨ ∀ c, c < n → π c = ρ c) := by
  have lt : lV ρ n < lV ρ' n := lV_lt (fun c hc => by have := h.1 c hc; omega) hi (fun j hj => (e1 j hj).symm) (by omega)
  refine ⟨lt, fun π hp => ⟨fun hl => ?_, fun hl => ?_⟩⟩
  · rcases l_cmp π ρ n with q | ⟨d, hd, ha, hn⟩
    · exact Or.inr q
    · rcases Nat.lt_or_ge (π d) (ρ d) with q | q
      · exact Or.inl (lV_lt (fun c hc => by have := hp.1 c hc; omega) hd ha q)
      · exfalso
        have hgt : ρ d < π d := by omega
        have notle : ∀ {e : Nat}, e < n → (∀ j, j < e → ρ' j = π j) → ¬ ρ' e < π e := fun {e} he hae hle => by
          have := lV_lt (n := n) (fun c hc => by have := h'.1 c hc; omega) he hae hle
          omega
        rcases (by omega : d < i ∨ d = i ∨ i < d) with c | c | c
        · exact notle hd (fun j hj => by rw [e1 j (by omega), ha j hj]) (by rw [e1 d c]; exact hgt)
        · subst c
          obtain ⟨j, j1, j2, ej⟩ := l_rest hp h hd ha
          have j3 : d < j := by
            rcases Nat.eq_or_lt_of_le j1 with z | z
            · subst z
              omega
            · exact z
          have j4 : j ≤ k := by
            rcases Nat.lt_or_ge k j with z | z
            · have := hlst j z j2
              omega
            · exact z
          have j5 : ρ k ≤ π d := by
            rw [← ej]
            rcases Nat.eq_or_lt_of_le j4 with z | z
            · rw [z]
              exact Nat.le_refl _
            · exact Nat.le_of_lt (hf j k j3 z hkn)
          rcases Nat.eq_or_lt_of_le j5 with z | z
          · rcases l_cmp π ρ' n with y | ⟨e, he, hae, hne⟩
            · rw [lV_cong (π := ρ') (ρ := π) y] at hl
              omega
            · have he2 : d < e := by
                rcases (by omega : e < d ∨ e = d ∨ d < e) with v | v | v
                · exact absurd (by rw [e1 e v, ha e v]) hne
                · subst v
                  exact absurd (by rw [e2, z]) hne
                · exact v
              have := l_rise (i := d + 1) hp h' (fun a b h3 h4 h5 => hr a b (by omega) h4 h5) he (by omega) hae
              exact notle he (fun j hj => (hae j hj).symm) (by omega)
          · exact notle hd (fun j hj => by rw [e1 j hj, ha j hj]) (by rw [e2]; exact z)
        · exact l_fall (i := i + 1) hp h (fun a b h3 h4 h5 => hf a b (by omega) h4 h5) hd (by omega) ha hgt
  · rcases hl with q | q
    · omega
    · rw [lV_cong (π := ρ) (ρ := π) q]
      exact lt
/-! what agrees, and what was missed by c -/
def ib (b : Bool) : Nat := if b = true then 1 else 0
def lAg (n : Nat) (t u t2 u2 : Nat → Nat) (π : Nat → Nat) : Nat := fb_sm (fun c => ib (decide (π (t c) = t2 (π c))) + ib (decide (π (u c) = u2 (π c)))) n
def lMs (t bk t2 : Nat → Nat) (π : Nat → Nat) (c : Nat) : Nat := ib (decide (t c ≤ c) && !decide (π (t c) = t2 (π c))) + ib (decide (bk c < c) && !decide (π c = t2 (π (bk c))))
theorem sm_swap (F : Nat → Nat → Nat) (m : Nat) : ∀ n, fb_sm (fun a => fb_sm (fun b => F a b) m) n = fb_sm (fun b => fb_sm (fun a => F a b) n) m
  | 0 => by
    show 0 = fb_sm (fun _ => 0) m
    rw [sm_zero]
  | n + 1 => by
    rw [fb_sm_succ, sm_swap F m n, ← fb_sm_add]
    rfl
theorem sm_perm {n : Nat} {t bk : Nat → Nat} (h1 : ∀ c, c < n → t c < n ∧ bk c < n) (h2 : ∀ c, c < n → t (bk c) = c) (h3 : ∀ c, c < n → bk (t c) = c) (F : Nat → Nat) : fb_sm (fun c => F (bk c)) n = fb_sm F n := by
  have e1 : fb_sm (fun c => F (bk c)) n = fb_sm (fun c => fb_sm (fun x => F x * dl (bk c) x) n) n := fb_sm_cong (fun c hc => (sm_delta (h1 c hc).2).symm)
  rw [e1, sm_swap]
  refine fb_sm_cong (fun x hx => ?_)
  have e2 : fb_sm (fun c => F x * dl (bk c) x) n = fb_sm (fun c => F x * dl (t x) c) n := fb_sm_cong (fun c hc => by
    show F x * dl (bk c) x = F x * dl (t x) c
    unfold dl
    congr 1
    by_cases q : x = bk c
    · rw [if_pos q, if_pos (by rw [q, h2 c hc])]
    · rw [if_neg q, if_neg (fun e => q (by rw [e, h3 x hx]))])
  rw [e2]
  exact sm_delta (f := fun _ => F x) (h1 x hx).1
theorem lMs_sum {n : Nat} {t bk t2 : Nat → Nat} (h1 : ∀ c, c < n → t c < n ∧ bk c < n) (h2 : ∀ c, c < n → t (bk c) = c) (h3 : ∀ c, c < n → bk (t c) = c) (π : Nat → Nat) : fb_sm (lMs t bk t2 π) n = fb_sm (fun c => ib (!decide (π (t c) = t2 (π c)))) n := by
  have e0 : fb_sm (lMs t bk t2 π) n = fb_sm (fun c => ib (decide (t c ≤ c) && !decide (π (t c) = t2 (π c)))) n + fb_sm (fun c => ib (decide (bk c < c) && !decide (π c = t2 (π (bk c))))) n := fb_sm_add _ _ n
  have e1 : fb_sm (fun c => ib (decide (bk c < c) && !decide (π c = t2 (π (bk c))))) n = fb_sm (fun c => (fun x => ib (decide (x < t x) && !decide (π (t x) = t2 (π x)))) (bk c)) n := fb_sm_cong (fun c hc => by
    show _ = ib (decide (bk c < t (bk c)) && !decide (π (t (bk c)) = t2 (π (bk c))))
    rw [h2 c hc])
  rw [e0, e1.trans (sm_perm h1 h2 h3 (fun x => ib (decide (x < t x) && !decide (π (t x) = t2 (π x))))), ← fb_sm_add]
  refine fb_sm_cong (fun c _ => ?_)
  show ib (decide (t c ≤ c) && !decide (π (t c) = t2 (π c))) + ib (decide (c < t c) && !decide (π (t c) = t2 (π c))) = ib (!decide (π (t c) = t2 (π c)))
  by_cases q : t c ≤ c
  · have q2 : ¬ c < t c := by omega
    simp [q, q2, ib]
  · have q2 : c < t c := by omega
    simp [q, q2, ib]
theorem lMs_cong {t bk t2 : Nat → Nat} {π ρ : Nat → Nat} {c : Nat} (h : ∀ j, j ≤ c → π j = ρ j) : lMs t bk t2 π c = lMs t bk t2 ρ c := by
  unfold lMs
  rw [h c (by omega)]
  congr 1
  · by_cases q : t c ≤ c
    · rw [h _ q]
    · simp [q]
  · by_cases q : bk c < c
    · rw [h (bk c) (by omega)]
    · simp [q]
/-- all missed below c -/
def lM (t bk t2 u bu u2 : Nat → Nat) (π : Nat → Nat) (c : Nat) : Nat := fb_sm (fun j => lMs t bk t2 π j + lMs u bu u2 π j) c
theorem lM_cong {t bk t2 u bu u2 : Nat → Nat} {π ρ : Nat → Nat} {c : Nat} (h : ∀ j, j < c → π j = ρ j) : lM t bk t2 u bu u2 π c = lM t bk t2 u bu u2 ρ c := fb_sm_cong (fun j hj => by
  show lMs t bk t2 π j + lMs u bu u2 π j = lMs t bk t2 ρ j + lMs u bu u2 ρ j
  rw [lMs_cong (fun i hi => h i (by omega)), lMs_cong (fun i hi => h i (by omega))])
theorem lM_all {n : Nat} {t bk t2 u bu u2 : Nat → Nat} (h1 : ∀ c, c < n → t c < n ∧ bk c < n) (h2 : ∀ c, c < n → t (bk c) = c) (h3 : ∀ c, c < n → bk (t c) = c) (g1 : ∀ c, c < n → u c < n ∧ bu c < n) (g2 : ∀ c, c < n → u (bu c) = c) (g3 : ∀ c, c < n → bu (u c) = c) (π : Nat → Nat) : lAg n t u t2 u2 π + lM t bk t2 u bu u2 π n = 2 * n := by
  have e1 : lM t bk t2 u bu u2 π n = fb_sm (lMs t bk t2 π) n + fb_sm (lMs u bu u2 π) n := fb_sm_add _ _ n
  rw [e1, lMs_sum h1 h2 h3, lMs_sum g1 g2 g3, ← fb_sm_add]
  unfold lAg
  rw [← fb_sm_add]
  have : fb_sm (fun c => ib (decide (π (t c) = t2 (π c))) + ib (decide (π (u c) = u2 (π c))) + (ib (!decide (π (t c) = t2 (π c))) + ib (!decide (π (u c) = u2 (π c))))) n = fb_sm (fun _ => 2) n := fb_sm_cong (fun c _ => by
    show ib (decide (π (t c) = t2 (π c))) + ib (decide (π (u c) = u2 (π c))) + (ib (!decide (π (t c) = t2 (π c))) + ib (!decide (π (u c) = u2 (π c)))) = 2
    by_cases q1 : π (t c) = t2 (π c) <;> by_cases q2 : π (u c) = u2 (π c) <;> simp [q1, q2, ib])
  rw [this, fb_sm_const]
  omega
theorem lM_mono {t bk t2 u bu u2 : Nat → Nat} (π : Nat → Nat) {c n : Nat} (h : c ≤ n) : lM t bk t2 u bu u2 π c ≤ lM t bk t2 u bu u2 π n := by
  obtain ⟨m, rfl⟩ : ∃ m, n = c + m := ⟨n - c, by omega⟩
  exact fb_sm_mono _ _ _
