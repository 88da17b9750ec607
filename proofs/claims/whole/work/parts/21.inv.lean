/-! the invariant between the class and the model, over the part of the store that later calls can see -/
/-- the tape -/
def iT (f : pmI) : Prop := ∃ n : Nat, n ≤ 60 ∧ f 6 0 1 0 = nI n ∧ f 10 0 6 0 = nI n ∧ (∀ i, i < n → f 6 0 0 i = f 10 0 5 i) ∧ f 6 0 2 0 = f 10 0 7 0 ∧ f 6 0 3 0 = f 10 0 8 0
/-- a system: n classes, wives w, children of women ch -/
def iSy (f : pmI) (s n : Nat) (w ch : Nat → Nat) : Prop := 2 ≤ n ∧ n ≤ 8 ∧ (∀ c, c < n → w c < n ∧ ch c < n) ∧ (∀ a b, a < n → b < n → w a = w b → a = b) ∧ (∀ a b, a < n → b < n → ch a = ch b → a = b) ∧ f 2 s 8 0 = nI n ∧ f 10 0 0 s = nI n ∧ ∀ c, c < n → f 2 s 0 c = nI (w c) ∧ f 2 s 1 (w c) = nI c ∧ f 2 s 2 c = nI (ch c) ∧ f 2 s 3 c = nI (ch (w c)) ∧ f 2 s 4 (ch c) = nI c ∧ f 2 s 5 (ch (w c)) = nI c ∧ f 10 0 1 (8 * s + c) = nI (w c) ∧ f 10 0 2 (8 * s + c) = nI (ch c) ∧ f 10 0 3 (8 * s + c) = nI (ch (w c))
def iS (f : pmI) (NS : Nat) : Prop := NS ≤ 4 ∧ f 9 0 9 0 = nI NS ∧ f 10 0 4 0 = nI NS ∧ (∀ s, s < NS → ∃ n w ch, iSy f s n w ch) ∧ ∀ s, NS ≤ s → s < 4 → f 2 s 8 0 = 0
/-- a camp's laws -/
def iC1 (f : pmI) (NS c : Nat) : Prop := ∃ nl : Nat, 1 ≤ nl ∧ nl ≤ 5 ∧ f 0 c 3 0 = nI nl ∧ f 10 0 11 c = nI nl ∧ ∀ i, i < nl → f 0 c 0 i = f 10 0 12 (5 * c + i) ∧ f 0 c 1 i = f 10 0 13 (5 * c + i) ∧ f 0 c 2 i = f 10 0 14 (5 * c + i) ∧ ∃ s, s < NS ∧ f 0 c 1 i = nI s
def iC (f : pmI) (NS NC : Nat) : Prop := NC ≤ 3 ∧ f 9 0 10 0 = nI NC ∧ f 10 0 15 0 = nI NC ∧ (∀ c, c < NC → iC1 f NS c) ∧ ∀ c, NC ≤ c → c < 3 → f 0 c 3 0 = 0
/-- one of the people, as both hold it -/
def iP1 (f : pmI) (NC p : Nat) : Prop := f 5 0 0 p = f 10 0 19 p ∧ f 5 0 1 p = f 10 0 20 p ∧ f 5 0 2 p = f 10 0 21 p ∧ f 5 0 3 p = f 10 0 22 p ∧ f 5 0 4 p = f 10 0 23 p ∧ f 5 0 5 p = f 10 0 24 p ∧ f 5 0 6 p = f 10 0 25 p ∧ (f 5 0 0 p = 0 ∨ f 5 0 0 p = 1) ∧ (0 ≤ f 5 0 1 p ∧ f 5 0 1 p ≤ 999) ∧ (∃ c, c < NC ∧ f 5 0 3 p = nI c) ∧ ((f 5 0 4 p = -1 ∧ f 5 0 5 p = -1) ∨ ∃ m fa, m < p ∧ fa < p ∧ f 5 0 4 p = nI m ∧ f 5 0 5 p = nI fa) ∧ (f 5 0 6 p = -1 ∨ ∃ t, t < 8 ∧ f 5 0 6 p = nI t)
/-- the place of the law of a year among nl laws from the first on -/
def sLaw (yr : Nat → Int32) (y : Int32) : Nat → Nat
  | 0 => 0
  | k + 1 => if ¬ y < yr k ∧ ¬ yr k ≤ yr (sLaw yr y k) then k else sLaw yr y k
/-- the child's class, or none: n classes, table t, the parent's class x -/
def sCh (n : Int32) (t : Nat → Int32) (x : Int32) : Int32 := if sHas n x = true then t x.toNatClampNeg else -1
/-- the law's place at the birth of p, in its camp -/
def sLb (f : pmI) (p : Nat) : Nat := sLaw (f 0 (f 5 0 3 p).toNatClampNeg 0) (f 5 0 1 p) (f 0 (f 5 0 3 p).toNatClampNeg 3 0).toNatClampNeg
def sSb (f : pmI) (p : Nat) : Nat := (f 0 (f 5 0 3 p).toNatClampNeg 1 (sLb f p)).toNatClampNeg
def sBm (f : pmI) (p : Nat) : Bool := decide (f 0 (f 5 0 3 p).toNatClampNeg 2 (sLb f p) = 0)
/-- own and other class of p, from those of lower numbers -/
def sOwn (f : pmI) (own : Nat → Int32) (p : Nat) : Int32 := if f 5 0 4 p = -1 then f 5 0 6 p else if sBm f p = true then sCh (f 2 (sSb f p) 8 0) (f 2 (sSb f p) 2) (own (f 5 0 4 p).toNatClampNeg) else sCh (f 2 (sSb f p) 8 0) (f 2 (sSb f p) 3) (own (f 5 0 5 p).toNatClampNeg)
def sOth (f : pmI) (own : Nat → Int32) (p : Nat) : Int32 := if f 5 0 4 p = -1 then -1 else if sBm f p = true then sCh (f 2 (sSb f p) 8 0) (f 2 (sSb f p) 3) (own (f 5 0 5 p).toNatClampNeg) else sCh (f 2 (sSb f p) 8 0) (f 2 (sSb f p) 2) (own (f 5 0 4 p).toNatClampNeg)
def iP (f : pmI) (NC NP : Nat) : Prop := NP ≤ 48 ∧ f 5 0 9 0 = nI NP ∧ f 10 0 16 0 = nI NP ∧ (∀ p, p < NP → iP1 f NC p) ∧ ∀ p, p < NP → f 5 0 7 p = sOwn f (f 5 0 7) p ∧ f 5 0 8 p = sOth f (f 5 0 7) p
/-- the marriages, and AGE -/
def iW (f : pmI) (NP : Nat) : Prop := ∃ NM : Nat, NM ≤ 40 ∧ f 8 0 3 0 = nI NM ∧ f 10 0 17 0 = nI NM ∧ (∀ k, k < NM → f 8 0 0 k = f 10 0 26 k ∧ f 8 0 1 k = f 10 0 27 k ∧ f 8 0 2 k = f 10 0 28 k ∧ (∃ a, a < NP ∧ f 8 0 0 k = nI a) ∧ ∃ b, b < NP ∧ f 8 0 1 k = nI b) ∧ f 9 0 11 0 = f 10 0 18 0
/-- the latest matching -/
def iM (f : pmI) : Prop := (∀ p, p < 48 → f 3 0 1 p = f 10 0 38 p) ∧ f 3 0 7 0 = f 10 0 36 0 ∧ f 3 0 8 0 = f 10 0 37 0
/-- the latest laying -/
def iO (f : pmI) : Prop := ∃ n : Nat, n ≤ 8 ∧ f 4 0 4 0 = nI n ∧ f 10 0 42 0 = nI n ∧ ∀ c, c < n → f 4 0 0 c = f 10 0 41 c
/-! each part looks at its own fields -/
def mk (K : Nat → Nat → Bool) (f : pmI) : pmI := fun c o k i => if K c k = true then f c o k i else 0
theorem mk_eq {K : Nat → Nat → Bool} {f g : pmI} (h : ∀ c o k, K c k = true → g c o k = f c o k) : mk K g = mk K f := by
  funext c o k i
  show (if K c k = true then g c o k i else 0) = if K c k = true then f c o k i else 0
  by_cases hk : K c k = true
  · rw [if_pos hk, if_pos hk, h c o k hk]
  · rw [if_neg hk, if_neg hk]
def kT (c k : Nat) : Bool := match c with
  | 6 => true
  | 10 => decide (5 ≤ k ∧ k ≤ 8)
  | _ => false
def kS (c k : Nat) : Bool := match c with
  | 2 => true
  | 9 => decide (k = 9)
  | 10 => decide (k ≤ 4)
  | _ => false
def kC (c k : Nat) : Bool := match c with
  | 0 => true
  | 9 => decide (k = 10)
  | 10 => decide (11 ≤ k ∧ k ≤ 15)
  | _ => false
def kP (c k : Nat) : Bool := match c with
  | 0 => true
  | 2 => true
  | 5 => true
  | 10 => decide (k = 16 ∨ (19 ≤ k ∧ k ≤ 25))
  | _ => false
def kW (c k : Nat) : Bool := match c with
  | 8 => true
  | 9 => decide (k = 11)
  | 10 => decide (k = 17 ∨ k = 18 ∨ (26 ≤ k ∧ k ≤ 28))
  | _ => false
def kM (c k : Nat) : Bool := match c with
  | 3 => true
  | 10 => decide (36 ≤ k ∧ k ≤ 38)
  | _ => false
def kO (c k : Nat) : Bool := match c with
  | 4 => true
  | 10 => decide (k = 41 ∨ k = 42)
  | _ => false
theorem iT_c {f g : pmI} (h : ∀ c o k, kT c k = true → g c o k = f c o k) (H : iT f) : iT g := by
  have e := mk_eq h
  have H2 : iT (mk kT f) := H
  rw [← e] at H2
  exact H2
theorem iS_c {f g : pmI} {NS : Nat} (h : ∀ c o k, kS c k = true → g c o k = f c o k) (H : iS f NS) : iS g NS := by
  have e := mk_eq h
  have H2 : iS (mk kS f) NS := H
  rw [← e] at H2
  exact H2
theorem iC_c {f g : pmI} {NS NC : Nat} (h : ∀ c o k, kC c k = true → g c o k = f c o k) (H : iC f NS NC) : iC g NS NC := by
  have e := mk_eq h
  have H2 : iC (mk kC f) NS NC := H
  rw [← e] at H2
  exact H2
theorem iP_c {f g : pmI} {NC NP : Nat} (h : ∀ c o k, kP c k = true → g c o k = f c o k) (H : iP f NC NP) : iP g NC NP := by
  have e := mk_eq h
  have H2 : iP (mk kP f) NC NP := H
  rw [← e] at H2
  exact H2
theorem iW_c {f g : pmI} {NP : Nat} (h : ∀ c o k, kW c k = true → g c o k = f c o k) (H : iW f NP) : iW g NP := by
  have e := mk_eq h
  have H2 : iW (mk kW f) NP := H
  rw [← e] at H2
  exact H2
theorem iM_c {f g : pmI} (h : ∀ c o k, kM c k = true → g c o k = f c o k) (H : iM f) : iM g := by
  have e := mk_eq h
  have H2 : iM (mk kM f) := H
  rw [← e] at H2
  exact H2
theorem iO_c {f g : pmI} (h : ∀ c o k, kO c k = true → g c o k = f c o k) (H : iO f) : iO g := by
  have e := mk_eq h
  have H2 : iO (mk kO f) := H
  rw [← e] at H2
  exact H2
/-- a write seen through the mask, at another field -/
theorem mask_o {σ : pmS} {c0 o0 k0 i0 : Nat} {v : Int32} {c o k : Nat} (h : ¬ (c = c0 ∧ k = k0)) : mask (pm_wi σ c0 o0 k0 i0 v).1 c o k = mask σ.1 c o k := by
  funext i
  show (if kept c k = true then (pm_wi σ c0 o0 k0 i0 v).1 c o k i else 0) = if kept c k = true then σ.1 c o k i else 0
  by_cases hk : kept c k = true
  · rw [if_pos hk, if_pos hk, wi_1, if_neg (fun z => h ⟨z.1, z.2.2.1⟩)]
  · rw [if_neg hk, if_neg hk]
def iAll (f : pmI) (NS NC NP : Nat) : Prop := iT f ∧ iS f NS ∧ iC f NS NC ∧ iP f NC NP ∧ iW f NP ∧ iM f ∧ iO f
def Inv (σ : pmS) : Prop := ∃ NS NC NP, iAll (mask σ.1) NS NC NP
theorem Inv.same {σ σ' : pmS} (h : Inv σ) (e : mask σ'.1 = mask σ.1) : Inv σ' := by
  unfold Inv
  rw [e]
  exact h
/-- the two sides answer alike, and go on alike -/
def Tok (cm mm : Nat) (as : List pmV) (σ : pmS) : Prop := ∃ (r : Int32) (σ1 σ2 : pmS), pq_RD 60 cm (vR 9 0 0 :: as) σ = some (some (vI r), σ1) ∧ pq_RD 60 mm (vR 10 0 0 :: as) σ1 = some (some (vI r), σ2) ∧ Inv σ2
/-! the calls that only look at the latest answers -/
theorem T_fault {σ : pmS} (h : Inv σ) (x : Int32) : Tok 56 114 [vI x] σ := by
  obtain ⟨NS, NC, NP, ⟨n, -, -, -, -, h1, h2⟩, -⟩ := id h
  have h1 : σ.1 6 0 2 0 = σ.1 10 0 7 0 := h1
  have h2 : σ.1 6 0 3 0 = σ.1 10 0 8 0 := h2
  by_cases a : x = 0
  · exact ⟨_, _, _, (m56 59).trans (g56_0_0 _ a), ((m114 59).trans (g114_0_0 _ a)).trans (by rw [h1]), h⟩
  · by_cases b : x = 1
    · exact ⟨_, _, _, (m56 59).trans (g56_0_1 _ b), ((m114 59).trans (g114_0_1 _ a b)).trans (by rw [h2]), h⟩
    · exact ⟨_, _, _, (m56 59).trans (g56_0_2 _ a b), (m114 59).trans (g114_0_2 _ a b), h⟩
theorem T_lack {σ : pmS} (h : Inv σ) (x : Int32) : Tok 80 168 [vI x] σ := by
  obtain ⟨NS, NC, NP, -, -, -, -, -, ⟨-, h1, h2⟩, -⟩ := id h
  have h1 : σ.1 3 0 7 0 = σ.1 10 0 36 0 := h1
  have h2 : σ.1 3 0 8 0 = σ.1 10 0 37 0 := h2
  by_cases a : x = 0
  · exact ⟨_, _, _, (m80 59).trans (g80_0_0 _ a), ((m168 59).trans (g168_0_0 _ a)).trans (by rw [h1]), h⟩
  · by_cases b : x = 1
    · exact ⟨_, _, _, (m80 59).trans (g80_0_1 _ b), ((m168 59).trans (g168_0_1 _ a b)).trans (by rw [h2]), h⟩
    · exact ⟨_, _, _, (m80 59).trans (g80_0_2 _ a b), (m168 59).trans (g168_0_2 _ a b), h⟩
theorem T_matched {σ : pmS} (h : Inv σ) (x : Int32) : Tok 79 167 [vI x] σ := by
  obtain ⟨NS, NC, NP, -, -, -, ⟨hNP, p1, p2, -⟩, -, ⟨h1, -⟩, -⟩ := id h
  have p1 : σ.1 5 0 9 0 = nI NP := p1
  have p2 : σ.1 10 0 16 0 = nI NP := p2
  have c1 := c32 58 (σ := σ) (x1 := x)
  have c2 := c134 58 (σ := σ) (x1 := x)
  rw [p1] at c1
  rw [p2] at c2
  cases hb : sHas (nI NP) x with
  | false =>
    rw [hb] at c1 c2
    exact ⟨_, _, _, (m79 59).trans (g79_0_0 _ c1 rfl), (m167 59).trans (g167_0_0 _ c2 rfl), h⟩
  | true =>
    rw [hb] at c1 c2
    have hv : vp_in x 48 := in_le (sHas_in (by omega) hb) hNP (by omega)
    have hl := (in_nI hv (by omega)).2
    have e : σ.1 3 0 1 x.toNatClampNeg = σ.1 10 0 38 x.toNatClampNeg := h1 _ hl
    exact ⟨_, _, _, (m79 59).trans (g79_0_1 _ c1 (by decide) hv), ((m167 59).trans (g167_0_1 _ c2 (by decide) hv)).trans (by rw [e]), h⟩
theorem T_lies {σ : pmS} (h : Inv σ) (x : Int32) : Tok 82 173 [vI x] σ := by
  obtain ⟨NS, NC, NP, -, -, -, -, -, -, n, hn, h1, h2, h3⟩ := id h
  have h1 : σ.1 4 0 4 0 = nI n := h1
  have h2 : σ.1 10 0 42 0 = nI n := h2
  have hs : (nI n - 1).toInt = (n : Int) - 1 := by
    rw [fb_subI (by rw [nI_toInt (by omega)]; show _ ≤ _ - (1 : Int); omega) (by rw [nI_toInt (by omega)]; show _ - (1 : Int) < _; omega), nI_toInt (by omega)]
    rfl
  have c1 := c105 58 (σ := σ) (v := x) (a := 0) (b := σ.1 10 0 42 0 - 1) (A := 0) rfl rfl
  by_cases a : x < 0
  · have hb : sIn x 0 (σ.1 10 0 42 0 - 1) = false := by simp [sIn, a]
    rw [hb] at c1
    exact ⟨_, _, _, (m82 59).trans (g82_0_0 _ a), (m173 59).trans (g173_0_0 _ c1 rfl), h⟩
  · by_cases b : σ.1 4 0 4 0 ≤ x
    · have hb : sIn x 0 (σ.1 10 0 42 0 - 1) = false := by
        have : σ.1 10 0 42 0 - 1 < x := by
          rw [h2, fa_lt, hs]
          rw [h1, fa_le, nI_toInt (by omega)] at b
          omega
        simp [sIn, this]
      rw [hb] at c1
      exact ⟨_, _, _, (m82 59).trans (g82_0_1 _ a b), (m173 59).trans (g173_0_0 _ c1 rfl), h⟩
    · have hb : sIn x 0 (σ.1 10 0 42 0 - 1) = true := by
        have : ¬ σ.1 10 0 42 0 - 1 < x := by
          rw [h2, fa_lt, hs]
          rw [h1, fa_le, nI_toInt (by omega)] at b
          omega
        simp [sIn, this, a]
      rw [hb] at c1
      rw [h1] at b
      have hv0 : vp_in x n := in_of a (i_nle.mp b) (by omega)
      have hv : vp_in x 8 := in_le hv0 hn (by omega)
      have e : σ.1 4 0 0 x.toNatClampNeg = σ.1 10 0 41 x.toNatClampNeg := h3 _ (in_nI hv0 (by omega)).2
      exact ⟨_, _, _, (m82 59).trans (g82_0_2 _ a (by rw [h1]; exact b) hv), ((m173 59).trans (g173_0_1 _ c1 (by decide) hv)).trans (by rw [e]), h⟩
theorem T_age {σ : pmS} (h : Inv σ) (x : Int32) : Tok 70 144 [vI x] σ := by
  obtain ⟨NS, NC, NP, hT, hS, hC, hP, ⟨NM, w1, w2, w3, w4, w5⟩, hM, hO⟩ := id h
  have w5' : σ.1 9 0 11 0 = σ.1 10 0 18 0 := w5
  by_cases a : x < 0
  · have c1 := c105 58 (σ := σ) (v := x) (a := 0) (b := 40) (A := 0) (B := 40) rfl rfl
    have hb : sIn x 0 40 = false := by simp [sIn, a]
    rw [hb] at c1
    exact ⟨_, _, _, (m70 59).trans (g70_0_0 _ a), (m144 59).trans (g144_0_0 _ c1 rfl), h⟩
  · by_cases b : x ≤ 40
    · have c1 := c105 58 (σ := pm_wi σ 9 0 11 0 x) (v := x) (a := 0) (b := 40) (A := 0) (B := 40) rfl rfl
      have hb : sIn x 0 40 = true := by
        have : ¬ (40 : Int32) < x := i_nlt.mpr b
        simp [sIn, a, this]
      rw [hb] at c1
      refine ⟨_, _, pm_wi (pm_wi σ 9 0 11 0 x) 10 0 18 0 x, (m70 59).trans (g70_0_1 _ a b), ((m144 59).trans (g144_0_1 _ c1 (by decide))).trans (by rw [w5']; rfl), NS, NC, NP, iT_c ?_ hT, iS_c ?_ hS, iC_c ?_ hC, iP_c ?_ hP, ⟨NM, w1, w2, w3, w4, rfl⟩, iM_c ?_ hM, iO_c ?_ hO⟩
      all_goals intro c o k hk
      all_goals rw [mask_o, mask_o]
      all_goals (intro z; obtain ⟨rfl, rfl⟩ := z; revert hk; decide)
    · have c1 := c105 58 (σ := σ) (v := x) (a := 0) (b := 40) (A := 0) (B := 40) rfl rfl
      have hb : sIn x 0 40 = false := by
        have : (40 : Int32) < x := i_nle.mp b
        simp [sIn, this]
      rw [hb] at c1
      exact ⟨_, _, _, (m70 59).trans (g70_0_2 _ a b), (m144 59).trans (g144_0_0 _ c1 rfl), h⟩
