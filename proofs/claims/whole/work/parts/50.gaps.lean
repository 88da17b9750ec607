/-! open, sure: the gaps filled -/
def cvT {α : Type} (F : Nat → (Nat → α) → α) (d : α) : Nat → Nat → α
  | 0 => fun _ => d
  | k + 1 => fun q => if q = k then F k (cvT F d k) else cvT F d k q
def cv {α : Type} (F : Nat → (Nat → α) → α) (d : α) (p : Nat) : α := cvT F d (p + 1) p
theorem cvT_eq {α : Type} (F : Nat → (Nat → α) → α) (d : α) : ∀ k q, q < k → cvT F d k q = cv F d q
  | 0, q, h => by omega
  | k + 1, q, h => by
    rcases Nat.lt_or_ge q k with h1 | h1
    · show (if q = k then F k (cvT F d k) else cvT F d k q) = _
      rw [if_neg (by omega)]
      exact cvT_eq F d k q h1
    · have : q = k := by omega
      subst this
      rfl
theorem cv_eq {α : Type} {F : Nat → (Nat → α) → α} {d : α} (hF : ∀ p g h, (∀ q, q < p → g q = h q) → F p g = F p h) (p : Nat) : cv F d p = F p (cv F d) := by
  show (if p = p then F p (cvT F d p) else cvT F d p p) = _
  rw [if_pos rfl]
  exact hF p _ _ (fun q hq => cvT_eq F d p q hq)
def gr (f : pmI) (p : Nat) : Bool := decide (f 5 0 4 p = -1)
def gp (f : pmI) (p : Nat) : Nat := if sBm f p = true then (f 5 0 4 p).toNatClampNeg else (f 5 0 5 p).toNatClampNeg
def gst (f : pmI) (p : Nat) (x : Int32) : Int32 := sCh (f 2 (sSb f p) 8 0) (if sBm f p = true then f 2 (sSb f p) 2 else f 2 (sSb f p) 3) x
def gfit (f : pmI) (p c : Nat) : Bool := if f 5 0 6 p = -1 then sHas (f 2 (sSb f p) 8 0) (nI c) else decide (f 5 0 6 p = nI c)
def rt (f : pmI) (p : Nat) : Nat := cv (fun p g => if gr f p = true then p else if gp f p < p then g (gp f p) else p) 0 p
def im (f : pmI) (c p : Nat) : Int32 := cv (fun p g => if gr f p = true then nI c else if gp f p < p then gst f p (g (gp f p)) else -1) (-1) p
theorem rt_eq (f : pmI) (p : Nat) : rt f p = if gr f p = true then p else if gp f p < p then rt f (gp f p) else p := by
  unfold rt
  exact cv_eq (F := fun p g => if gr f p = true then p else if gp f p < p then g (gp f p) else p) (fun p g h e => by
    show (if gr f p = true then p else if gp f p < p then g (gp f p) else p) = if gr f p = true then p else if gp f p < p then h (gp f p) else p
    by_cases q : gp f p < p
    · rw [e _ q]
    · rw [if_neg q, if_neg q]) p
theorem im_eq (f : pmI) (c p : Nat) : im f c p = if gr f p = true then nI c else if gp f p < p then gst f p (im f c (gp f p)) else -1 := by
  unfold im
  exact cv_eq (F := fun p g => if gr f p = true then nI c else if gp f p < p then gst f p (g (gp f p)) else -1) (fun p g h e => by
    show (if gr f p = true then nI c else if gp f p < p then gst f p (g (gp f p)) else -1) = if gr f p = true then nI c else if gp f p < p then gst f p (h (gp f p)) else -1
    by_cases q : gp f p < p
    · rw [e _ q]
    · rw [if_neg q, if_neg q]) p
theorem gp_lt {f : pmI} {NC NP p : Nat} (hP : iP f NC NP) (hp : p < NP) (h : gr f p = false) : gp f p < p := by
  have hN := hP.1
  rcases iP1_par (hP.2.2.2.1 p hp) (by omega) with q | ⟨q1, q2⟩
  · unfold gr at h
    rw [q] at h
    exact absurd h (by decide)
  · unfold gp
    split
    · exact q1
    · exact q2
theorem rt_le (f : pmI) : ∀ n p, p < n → rt f p ≤ p
  | 0, p, h => by omega
  | n + 1, p, h => by
    rw [rt_eq]
    split
    · omega
    · split
      · have := rt_le f n (gp f p) (by omega)
        omega
      · omega
theorem rt_root {f : pmI} {NC NP : Nat} (hP : iP f NC NP) : ∀ n p, p < n → p < NP → gr f (rt f p) = true
  | 0, p, h, _ => by omega
  | n + 1, p, h, hp => by
    rw [rt_eq]
    cases q : gr f p with
    | true =>
      rw [if_pos rfl]
      exact q
    | false =>
      have := gp_lt hP hp q
      rw [if_neg (by decide), if_pos this]
      exact rt_root hP n _ (by omega) (by omega)
theorem gst_cl {f : pmI} {NS NC NP p : Nat} (hS : iS f NS) (hC : iC f NS NC) (hP : iP f NC NP) (hp : p < NP) (x : Int32) : isCl (gst f p x) := by
  obtain ⟨n, w, ch, h2, h8, hwc, wi, ci, z1, z2, z3⟩ := hS.2.2.2.1 _ (sSb_lt hC hP hp)
  unfold gst
  rw [z1]
  refine sCh_cl (by omega) (fun c hc => ?_)
  split
  · rw [(z3 c hc).2.2.1]
    exact Or.inr ⟨_, by have := (hwc c hc).2; omega, rfl⟩
  · rw [(z3 c hc).2.2.2.1]
    exact Or.inr ⟨_, by have := (hwc _ (hwc c hc).1).2; omega, rfl⟩
theorem gst_m1 (f : pmI) (p : Nat) : gst f p (-1) = -1 := by
  unfold gst sCh
  have : sHas (f 2 (sSb f p) 8 0) (-1) = false := by
    unfold sHas
    have : (-1 : Int32) < 0 := by decide
    simp [this]
  rw [this]
  rfl
theorem im_cl {f : pmI} {NS NC NP c p : Nat} (hS : iS f NS) (hC : iC f NS NC) (hP : iP f NC NP) (hc : c < 8) (hp : p < NP) : isCl (im f c p) := by
  rw [im_eq]
  split
  · exact Or.inr ⟨c, hc, rfl⟩
  · split
    · exact gst_cl hS hC hP hp _
    · exact Or.inl rfl
/-- c at the root r goes through for the first P of the people -/
def gok (f : pmI) (c r P : Nat) : Bool := gfit f r c && hfA (fun q => !(decide (rt f q = r) && decide (im f c q = -1))) P
theorem gok_succ (f : pmI) (c r P : Nat) : gok f c r (P + 1) = (gok f c r P && !(decide (rt f P = r) && decide (im f c P = -1))) := by
  unfold gok
  rw [hfA, Bool.and_assoc]
theorem gok_new {f : pmI} {c p : Nat} (hc : c < 8) (h : gr f p = true) : gok f c p (p + 1) = gfit f p c := by
  unfold gok
  rw [hfA_t.mpr (fun q hq => ?_), Bool.and_true]
  rcases Nat.lt_or_ge q p with h1 | h1
  · have := rt_le f (q + 1) q (by omega)
    have : ¬ rt f q = p := by omega
    simp [this]
  · have : q = p := by omega
    subst this
    have : ¬ im f c q = -1 := by
      rw [im_eq, if_pos h]
      exact nI_m1 (by omega)
    simp [this]
def gob (f : pmI) (NP p : Nat) : Nat → Nat
  | 0 => 0
  | c + 1 => if gok f c (rt f p) NP = true then gob f NP p c ||| 2 ^ (im f c p).toNatClampNeg else gob f NP p c
theorem gok_im {f : pmI} {NS NC NP c p : Nat} (hS : iS f NS) (hC : iC f NS NC) (hP : iP f NC NP) (hc : c < 8) (hp : p < NP) (h : gok f c (rt f p) NP = true) : gfit f (rt f p) c = true ∧ ∃ t, t < 8 ∧ im f c p = nI t := by
  unfold gok at h
  rw [Bool.and_eq_true] at h
  refine ⟨h.1, ?_⟩
  have := hfA_t.mp h.2 p hp
  rcases im_cl hS hC hP hc hp with q | q
  · rw [q] at this
    simp at this
  · exact q
theorem gob_lt {f : pmI} {NS NC NP p : Nat} (hS : iS f NS) (hC : iC f NS NC) (hP : iP f NC NP) (hp : p < NP) : ∀ c, c ≤ 8 → gob f NP p c < 256
  | 0, _ => by
    show 0 < 256
    omega
  | c + 1, hc => by
    have ih := gob_lt hS hC hP hp c (by omega)
    rw [gob]
    split
    · rename_i h
      obtain ⟨-, t, ht, e⟩ := gok_im hS hC hP (by omega) hp h
      rw [e, nI_clamp (by omega)]
      exact or8 ih ht
    · exact ih
theorem or_pos (a t : Nat) : a ||| 2 ^ t ≠ 0 := fun h => by
  have := congrArg (fun x => x.testBit t) h
  simp [Nat.testBit_or, Nat.testBit_two_pow_self] at this
theorem gob_0 {f : pmI} {NP p : Nat} : ∀ c, gob f NP p c = 0 ↔ ∀ e, e < c → gok f e (rt f p) NP = false
  | 0 => ⟨fun _ e he => by omega, fun _ => rfl⟩
  | c + 1 => by
    rw [gob]
    cases h : gok f c (rt f p) NP with
    | true =>
      rw [if_pos rfl]
      constructor
      · intro z
        exact absurd z (or_pos _ _)
      · intro z
        have := z c (by omega)
        rw [h] at this
        cases this
    | false =>
      rw [if_neg (by decide), gob_0 c]
      constructor
      · intro z e he
        rcases Nat.lt_or_ge e c with q | q
        · exact z e q
        · have : e = c := by omega
          subst this
          exact h
      · intro z e he
        exact z e (by omega)
/-! the class -/
def o1 (τ σ : pmS) : Prop := ∀ c o k, ¬ c = 1 → τ.1 c o k = σ.1 c o k
theorem o1_S {τ σ : pmS} {NS NC NP : Nat} (h : o1 τ σ) (hS : iS σ.1 NS) (hC : iC σ.1 NS NC) (hP : iP σ.1 NC NP) : iS τ.1 NS ∧ iC τ.1 NS NC ∧ iP τ.1 NC NP := by
  refine ⟨iS_c (fun c o k hk => h c o k (fun e => ?_)) hS, iC_c (fun c o k hk => h c o k (fun e => ?_)) hC, iP_c (fun c o k hk => h c o k (fun e => ?_)) hP⟩
  all_goals (subst e; exact absurd (show false = true from hk) (by decide))
theorem o1_sb {τ σ : pmS} (h : o1 τ σ) (p : Nat) : sSb τ.1 p = sSb σ.1 p ∧ sBm τ.1 p = sBm σ.1 p := by
  have eb : sLb τ.1 p = sLb σ.1 p := by
    unfold sLb
    rw [h 5 0 3 (by omega), h 5 0 1 (by omega), h 0 _ 0 (by omega), h 0 _ 3 (by omega)]
  constructor
  · unfold sSb
    rw [eb, h 5 0 3 (by omega), h 0 _ 1 (by omega)]
  · unfold sBm
    rw [eb, h 5 0 3 (by omega), h 0 _ 2 (by omega)]
theorem c103 (d : Nat) {σ τ : pmS} {NS NC NP p c : Nat} (hO : o1 τ σ) (hS : iS σ.1 NS) (hC : iC σ.1 NS NC) (hP : iP σ.1 NC NP) (hp : p < NP) : pq_RD (d + 4) 103 [vR 9 0 0, vI (nI p), vI (nI c)] τ = some (some (vI (bI (gfit σ.1 p c))), τ) := by
  have hN := hP.1
  obtain ⟨hS', hC', hP'⟩ := o1_S hO hS hC hP
  have ep : (nI p).toNatClampNeg = p := nI_clamp (by omega)
  have hv : vp_in (nI p) 48 := vp_in_nI (by omega) (by omega)
  have e6 : τ.1 5 0 6 p = σ.1 5 0 6 p := by rw [hO 5 0 6 (by omega)]
  unfold gfit
  by_cases q : σ.1 5 0 6 p = -1
  · rw [if_pos q]
    have k93 := c93 d (iAll_pOk hS' hC' hP' hp)
    have k9 := c9 (d + 2) (σ := τ) (o0 := sSb τ.1 p) (x1 := nI c)
    rw [(o1_sb hO p).1] at k93 k9
    rw [hO 2 _ 8 (by omega)] at k9
    exact (m103 (d + 3)).trans (g103_0_0 _ hv (by rw [ep, e6]; exact q) k93 k9 (bI_01 _))
  · rw [if_neg q]
    by_cases q2 : σ.1 5 0 6 p = nI c
    · rw [show decide (σ.1 5 0 6 p = nI c) = true by simpa using q2]
      exact (m103 (d + 3)).trans (g103_0_1 _ hv (by rw [ep, e6]; exact q) (by rw [ep, e6]; exact q2))
    · rw [show decide (σ.1 5 0 6 p = nI c) = false by simpa using q2]
      exact (m103 (d + 3)).trans (g103_0_2 _ hv (by rw [ep, e6]; exact q) (by rw [ep, e6]; exact q2))
/-- what is tried at p -/
def gtd (f : pmI) (c p : Nat) : Int32 := if gfit f (rt f p) c = true then im f c p else -1
def gI1 (σ : pmS) (c P : Nat) (τ : pmS) : Prop := o1 τ σ ∧ (∀ q, q < P → τ.1 1 0 2 q = nI (rt σ.1 q) ∧ τ.1 1 0 0 q = gtd σ.1 c q) ∧ ∀ r, r < P → gr σ.1 r = true → τ.1 1 0 3 r = bI (!gok σ.1 c r P)
theorem c102in (d : Nat) {σ τ : pmS} {NS NC NP c P : Nat} (hS : iS σ.1 NS) (hC : iC σ.1 NS NC) (hP : iP σ.1 NC NP) (hc : c < 8) (hPN : P < NP) (hI : gI1 σ c P τ) {x1 : Int32} (ex : x1 = nI c) : ∃ τ', pq_Rn (pq_RD (d + 5)) (102, 24, [some (vR 9 0 0), some (vI x1), some (vI (nI P))], [], τ) = pq_Rn (pq_RD (d + 5)) (102, 24, [some (vR 9 0 0), some (vI x1), some (vI (nI (P + 1)))], [], τ') ∧ gI1 σ c (P + 1) τ' ∧ τ'.1 1 0 1 = τ.1 1 0 1 := by
  subst ex
  have hN := hP.1
  obtain ⟨hO, h1, h2⟩ := hI
  have eP : (nI P).toNatClampNeg = P := nI_clamp (by omega)
  have hv : vp_in (nI P) 48 := vp_in_nI (by omega) (by omega)
  have hg : ¬ τ.1 5 0 9 0 ≤ nI P := by
    rw [hO 5 0 9 (by omega), hP.2.1]
    exact nI_ge hPN (by omega)
  have k33 := c33 (d + 4) (σ := τ) (x1 := nI P) hv
  rw [eP, hO 5 0 4 (by omega)] at k33
  have k33 : pq_RD (d + 5) 33 [vR 5 0 0, vI (nI P)] τ = some (some (vI (bI (gr σ.1 P))), τ) := k33
  cases hr : gr σ.1 P with
  | true =>
    rw [hr] at k33
    have erP : rt σ.1 P = P := by rw [rt_eq, if_pos hr]
    have eiP : im σ.1 c P = nI c := by rw [im_eq, if_pos hr]
    have k103 := c103 (d + 1) hO hS hC hP (c := c) hPN
    have k4 : ∃ τ', pq_RD (d + 5) 4 [vR 1 0 0, vI (nI P), vI (nI c), vI (bI (gfit σ.1 P c))] τ = some (none, τ') ∧ o1 τ' σ ∧ τ'.1 1 0 1 = τ.1 1 0 1 ∧ (∀ k, k = 0 ∨ k = 2 ∨ k = 3 → ∀ q, q ≠ P → τ'.1 1 0 k q = τ.1 1 0 k q) ∧ τ'.1 1 0 2 P = nI P ∧ τ'.1 1 0 0 P = (if gfit σ.1 P c = true then nI c else -1) ∧ τ'.1 1 0 3 P = bI (!gfit σ.1 P c) := by
      cases hf : gfit σ.1 P c with
      | true =>
        have st := (m4 (d + 4)).trans (g4_0_3 (pq_RD (d + 4)) (σ := τ) (x1 := nI P) (x2 := nI c) (x3 := bI true) hv (by decide) (by decide))
        rw [eP] at st
        refine ⟨_, st, fun c' o k hk => ?_, ?_, fun k hk q hq => ?_, ?_, ?_, ?_⟩
        · rw [wi_k (by omega), wi_k (by omega), wi_k (by omega)]
          exact hO c' o k hk
        · rw [wi_k (by omega), wi_k (by omega), wi_k (by omega)]
        · simp [wi_1, hq]
        · simp [wi_1]
        · simp [wi_1]
        · simp [wi_1, bI]
      | false =>
        have st := (m4 (d + 4)).trans (g4_0_0 (pq_RD (d + 4)) (σ := τ) (x1 := nI P) (x2 := nI c) (x3 := bI false) hv rfl rfl)
        rw [eP] at st
        refine ⟨_, st, fun c' o k hk => ?_, ?_, fun k hk q hq => ?_, ?_, ?_, ?_⟩
        · rw [wi_k (by omega), wi_k (by omega), wi_k (by omega)]
          exact hO c' o k hk
        · rw [wi_k (by omega), wi_k (by omega), wi_k (by omega)]
        · simp [wi_1, hq]
        · simp [wi_1]
        · simp [wi_1]
        · simp [wi_1, bI]
    obtain ⟨τ', k4, y1, y2, y3, y4, y5, y6⟩ := k4
    refine ⟨τ', (g102_24_2 _ hg k33 (by decide) k103 k4).trans (by rw [nI_1]), ⟨y1, fun q hq => ?_, fun r hrP hrr => ?_⟩, y2⟩
    · rcases Nat.lt_or_ge q P with z | z
      · rw [y3 2 (by omega) q (by omega), y3 0 (by omega) q (by omega)]
        exact h1 q z
      · have : q = P := by omega
        subst this
        rw [y4, y5, erP]
        unfold gtd
        rw [erP, eiP]
        exact ⟨rfl, rfl⟩
    · rcases Nat.lt_or_ge r P with z | z
      · rw [y3 3 (by omega) r (by omega), h2 r z hrr, gok_succ, erP]
        have : ¬ P = r := by omega
        simp [this]
      · have : r = P := by omega
        subst this
        rw [y6, gok_new hc hr]
  | false =>
    rw [hr] at k33
    have hgp := gp_lt hP hPN hr
    have erP : rt σ.1 P = rt σ.1 (gp σ.1 P) := by rw [rt_eq, hr, if_neg (by decide), if_pos hgp]
    have eiP : im σ.1 c P = gst σ.1 P (im σ.1 c (gp σ.1 P)) := by rw [im_eq, hr, if_neg (by decide), if_pos hgp]
    have etP : gst σ.1 P (gtd σ.1 c (gp σ.1 P)) = gtd σ.1 c P := by
      unfold gtd
      rw [erP]
      cases gfit σ.1 (rt σ.1 (gp σ.1 P)) c with
      | true => rw [if_pos rfl, if_pos rfl, eiP]
      | false =>
        rw [if_neg (by decide), if_neg (by decide)]
        exact gst_m1 _ _
    have rl := rt_le σ.1 (P + 1) P (by omega)
    have rr := rt_root hP (P + 1) P (by omega) hPN
    obtain ⟨q1, q2⟩ := h1 _ hgp
    obtain ⟨hS', hC', hP'⟩ := o1_S hO hS hC hP
    have k94 := c94 (d + 2) (iAll_pOk hS' hC' hP' hPN)
    have k93 := c93 (d + 1) (iAll_pOk hS' hC' hP' hPN)
    rw [(o1_sb hO P).2] at k94
    rw [(o1_sb hO P).1] at k93
    obtain ⟨n, w, ch, hsy⟩ := hS.2.2.2.1 _ (sSb_lt hC hP hPN)
    have z1 := hsy.2.2.2.2.2.1
    have h8 := hsy.2.1
    have k10 : ∀ x2 : Int32, pq_RD (d + 4) 10 [vR 2 (sSb σ.1 P) 0, vI (gtd σ.1 c (gp σ.1 P)), vI x2] τ = some (some (vI (sCh (σ.1 2 (sSb σ.1 P) 8 0) (if x2 = 1 then σ.1 2 (sSb σ.1 P) 2 else σ.1 2 (sSb σ.1 P) 3) (gtd σ.1 c (gp σ.1 P)))), τ) := fun x2 => by
      have := c10 (d + 2) (σ := τ) (o := sSb σ.1 P) (x1 := gtd σ.1 c (gp σ.1 P)) (x2 := x2) h8 (by rw [hO 2 _ 8 (by omega)]; exact z1)
      rw [hO 2 _ 8 (by omega), hO 2 _ 2 (by omega), hO 2 _ 3 (by omega)] at this
      exact this
    -- the branch
    have k5 : ∃ τ', pq_RD (d + 4) 5 [vR 1 0 0, vI (nI P), vI (nI (gp σ.1 P)), vI (gtd σ.1 c P)] τ = some (none, τ') ∧ o1 τ' σ ∧ τ'.1 1 0 1 = τ.1 1 0 1 ∧ (∀ k, k = 0 ∨ k = 2 → ∀ q, q ≠ P → τ'.1 1 0 k q = τ.1 1 0 k q) ∧ τ'.1 1 0 2 P = nI (rt σ.1 P) ∧ τ'.1 1 0 0 P = gtd σ.1 c P ∧ (∀ r, r ≠ rt σ.1 P → τ'.1 1 0 3 r = τ.1 1 0 3 r) ∧ τ'.1 1 0 3 (rt σ.1 P) = if gtd σ.1 c P = -1 then 1 else τ.1 1 0 3 (rt σ.1 P) := by
      have eg : (nI (gp σ.1 P)).toNatClampNeg = gp σ.1 P := nI_clamp (by omega)
      have hvg : vp_in (nI (gp σ.1 P)) 48 := vp_in_nI (by omega) (by omega)
      by_cases hm : gtd σ.1 c P = -1
      · have ein : (pm_wi τ 1 0 2 (nI P).toNatClampNeg (τ.1 1 0 2 (nI (gp σ.1 P)).toNatClampNeg)).1 1 0 2 (nI P).toNatClampNeg = nI (rt σ.1 P) := by rw [wi_s, eg, q1, ← erP]
        have st := (m5 (d + 3)).trans (g5_0_0 (pq_RD (d + 3)) (σ := τ) (x1 := nI P) (x2 := nI (gp σ.1 P)) (x3 := gtd σ.1 c P) hvg hv hm (by rw [ein]; exact vp_in_nI (by omega) (by omega)))
        rw [ein, eP, eg, q1, ← erP, nI_clamp (by omega)] at st
        refine ⟨_, st, fun c' o k hk => ?_, ?_, fun k hk q hq => ?_, ?_, ?_, fun r hr' => ?_, ?_⟩
        · rw [wi_k (by omega), wi_k (by omega), wi_k (by omega)]
          exact hO c' o k hk
        · rw [wi_k (by omega), wi_k (by omega), wi_k (by omega)]
        · have : ¬ k = 3 := by omega
          simp [wi_1, hq, this]
        · simp [wi_1]
        · simp [wi_1]
        · simp [wi_1, hr']
        · rw [if_pos hm]
          exact wi_s _ _ _ _ _ _
      · have st := (m5 (d + 3)).trans (g5_0_1 (pq_RD (d + 3)) (σ := τ) (x1 := nI P) (x2 := nI (gp σ.1 P)) (x3 := gtd σ.1 c P) hvg hv hm)
        rw [eP, eg, q1, ← erP] at st
        refine ⟨_, st, fun c' o k hk => ?_, ?_, fun k hk q hq => ?_, ?_, ?_, fun r hr' => ?_, ?_⟩
        · rw [wi_k (by omega), wi_k (by omega)]
          exact hO c' o k hk
        · rw [wi_k (by omega), wi_k (by omega)]
        · simp [wi_1, hq]
        · simp [wi_1]
        · simp [wi_1]
        · rw [wi_k (by omega), wi_k (by omega)]
        · rw [if_neg hm, wi_k (by omega), wi_k (by omega)]
    obtain ⟨τ', k5, y1, y2, y3, y4, y5, y6, y7⟩ := k5
    have k104 : pq_RD (d + 5) 104 [vR 9 0 0, vI (nI P)] τ = some (none, τ') := by
      have hpar := iP1_par (hP.2.2.2.1 P hPN) (by omega)
      have hne : ¬ σ.1 5 0 4 P = -1 := by
        intro z
        unfold gr at hr
        rw [z] at hr
        exact absurd hr (by decide)
      obtain ⟨mo, fa, hmo, hfa, em, ef⟩ : ∃ mo fa, mo < P ∧ fa < P ∧ σ.1 5 0 4 P = nI mo ∧ σ.1 5 0 5 P = nI fa := by
        rcases (hP.2.2.2.1 P hPN).2.2.2.2.2.2.2.2.2.2.1 with ⟨z, -⟩ | z
        · exact absurd z hne
        · exact z
      cases hb : sBm σ.1 P with
      | true =>
        have egp : gp σ.1 P = mo := by
          unfold gp
          rw [hb, if_pos rfl, em, nI_clamp (by omega)]
        have e4 : τ.1 5 0 4 (nI P).toNatClampNeg = nI mo := by rw [eP, hO 5 0 4 (by omega)]; exact em
        rw [hb] at k94
        have kk := k10 1
        rw [if_pos rfl] at kk
        have : sCh (σ.1 2 (sSb σ.1 P) 8 0) (σ.1 2 (sSb σ.1 P) 2) (gtd σ.1 c (gp σ.1 P)) = gtd σ.1 c P := by
          rw [← etP]
          unfold gst
          rw [hb, if_pos rfl]
        rw [this] at kk
        rw [egp] at kk k5 q2
        exact (m104 (d + 4)).trans (g104_0_3 _ k94 (by decide) hv k93 (by rw [e4]; exact vp_in_nI (by omega) (by omega)) (by decide) (by rw [e4, nI_clamp (by omega), q2]; exact kk) (by rw [e4]; exact k5))
      | false =>
        have egp : gp σ.1 P = fa := by
          unfold gp
          rw [hb, if_neg (by decide), ef, nI_clamp (by omega)]
        have e5 : τ.1 5 0 5 (nI P).toNatClampNeg = nI fa := by rw [eP, hO 5 0 5 (by omega)]; exact ef
        rw [hb] at k94
        have kk := k10 0
        rw [if_neg (by decide)] at kk
        have : sCh (σ.1 2 (sSb σ.1 P) 8 0) (σ.1 2 (sSb σ.1 P) 3) (gtd σ.1 c (gp σ.1 P)) = gtd σ.1 c P := by
          rw [← etP]
          unfold gst
          rw [hb, if_neg (by decide)]
        rw [this] at kk
        rw [egp] at kk k5 q2
        exact (m104 (d + 4)).trans (g104_0_0 _ k94 rfl hv k93 (by rw [e5]; exact vp_in_nI (by omega) (by omega)) rfl (by rw [e5, nI_clamp (by omega), q2]; exact kk) (by rw [e5]; exact k5))
    refine ⟨τ', (g102_24_1 _ hg k33 rfl k104).trans (by rw [nI_1]), ⟨y1, fun q hq => ?_, fun r hrP hrr => ?_⟩, y2⟩
    · rcases Nat.lt_or_ge q P with z | z
      · rw [y3 2 (by omega) q (by omega), y3 0 (by omega) q (by omega)]
        exact h1 q z
      · have : q = P := by omega
        subst this
        exact ⟨y4, y5⟩
    · have hne : r ≠ P := fun z => by
        rw [z, hr] at hrr
        cases hrr
      rw [gok_succ]
      by_cases z : r = rt σ.1 P
      · subst z
        rw [y7, h2 _ (by omega) hrr]
        unfold gtd
        cases hf : gfit σ.1 (rt σ.1 P) c with
        | true =>
          rw [if_pos rfl]
          by_cases hm : im σ.1 c P = -1
          · rw [if_pos hm]
            simp [hm, bI]
          · rw [if_neg hm]
            simp [hm]
        | false =>
          simp [gok, hf, bI]
      · rw [y6 r z, h2 r (by omega) hrr]
        have : ¬ rt σ.1 P = r := fun e => z e.symm
        simp [this]
theorem c3 (d : Nat) {σ : pmS} {NP : Nat} (hN : NP ≤ 48) : ∃ τ, pq_RD (d + 1) 3 [vR 1 0 0, vI (nI NP)] σ = some (none, τ) ∧ (∀ c o k, ¬ (c = 1 ∧ k = 1) → τ.1 c o k = σ.1 c o k) ∧ ∀ p, p < NP → τ.1 1 0 1 p = 0 := by
  obtain ⟨τ, ⟨i1, i2⟩, hr⟩ := lp_ex (C := pq_RD d) (S := pmS) (I := fun T τ => (∀ c o k, ¬ (c = 1 ∧ k = 1) → τ.1 c o k = σ.1 c o k) ∧ ∀ i, i < T → τ.1 1 0 1 i = 0) (fr := fun T τ => (3, 2, [some (vR 1 0 0), some (vI (nI NP)), some (vI (nI T))], [], τ)) (s0 := σ) ⟨fun _ _ _ _ => rfl, fun i hi => by omega⟩ (n := NP) (fun T τ hT ⟨i1, i2⟩ => by
    refine ⟨pm_wi τ 1 0 1 T 0, ⟨fun c o k hk => ?_, fun i hi => ?_⟩, ?_⟩
    · rw [wi_k hk, i1 c o k hk]
    · rcases Nat.lt_or_ge i T with h | h
      · rw [wi_i (by omega)]
        exact i2 i h
      · have : i = T := by omega
        subst this
        exact wi_s _ _ _ _ _ _
    · refine (g3_2_1 _ (nI_ge hT (by omega)) (vp_in_nI (by omega) (by omega))).trans ?_
      rw [nI_1, nI_clamp (by omega)])
  exact ⟨τ, (m3 d).trans ((g3_0_0 _).trans (Eq.trans hr (g3_2_0 _ (by rw [fa_le]; omega)))), i1, i2⟩
theorem c6 (d : Nat) {σ τ : pmS} {NS NC NP c : Nat} (hS : iS σ.1 NS) (hC : iC σ.1 NS NC) (hP : iP σ.1 NC NP) (hc : c < 8) (hI : gI1 σ c NP τ) (hb : ∀ p, p < NP → τ.1 1 0 1 p = nI (gob σ.1 NP p c)) : ∃ τ', pq_RD (d + 1) 6 [vR 1 0 0, vI (nI NP)] τ = some (none, τ') ∧ o1 τ' σ ∧ ∀ p, p < NP → τ'.1 1 0 1 p = nI (gob σ.1 NP p (c + 1)) := by
  have hN := hP.1
  obtain ⟨hO, h1, h2⟩ := hI
  obtain ⟨τ', ⟨i1, i2, i3⟩, hr⟩ := lp_ex (C := pq_RD d) (S := pmS) (I := fun T υ => (∀ c o k, ¬ (c = 1 ∧ k = 1) → υ.1 c o k = τ.1 c o k) ∧ (∀ p, p < T → υ.1 1 0 1 p = nI (gob σ.1 NP p (c + 1))) ∧ ∀ p, T ≤ p → p < NP → υ.1 1 0 1 p = nI (gob σ.1 NP p c)) (fr := fun T υ => (6, 2, [some (vR 1 0 0), some (vI (nI NP)), some (vI (nI T))], [], υ)) (s0 := τ) ⟨fun _ _ _ _ => rfl, fun i hi => by omega, fun p _ hp => hb p hp⟩ (n := NP) (fun T υ hT ⟨i1, i2, i3⟩ => by
    have eT : (nI T).toNatClampNeg = T := nI_clamp (by omega)
    have hv : vp_in (nI T) 48 := vp_in_nI (by omega) (by omega)
    have rl := rt_le σ.1 (T + 1) T (by omega)
    have rr := rt_root hP (T + 1) T (by omega) hT
    have e2 : υ.1 1 0 2 (nI T).toNatClampNeg = nI (rt σ.1 T) := by rw [eT, i1 1 0 2 (by omega)]; exact (h1 T hT).1
    have e0 : υ.1 1 0 0 (nI T).toNatClampNeg = gtd σ.1 c T := by rw [eT, i1 1 0 0 (by omega)]; exact (h1 T hT).2
    have vr : vp_in (υ.1 1 0 2 (nI T).toNatClampNeg) 48 := by rw [e2]; exact vp_in_nI (by omega) (by omega)
    have e3 : υ.1 1 0 3 (υ.1 1 0 2 (nI T).toNatClampNeg).toNatClampNeg = bI (!gok σ.1 c (rt σ.1 T) NP) := by
      rw [e2, nI_clamp (by omega), i1 1 0 3 (by omega)]
      exact h2 _ (by omega) rr
    have eb := i3 T (by omega) hT
    cases hk : gok σ.1 c (rt σ.1 T) NP with
    | true =>
      obtain ⟨f1, t, ht, et⟩ := gok_im hS hC hP hc hT hk
      rw [hk] at e3
      have st := g6_2_1 (pq_RD d) (σ := υ) (x1 := nI NP) (x2 := nI T) (nI_ge hT (by omega)) hv vr e3
      have etd : gtd σ.1 c T = nI t := by
        unfold gtd
        rw [if_pos f1]
        exact et
      rw [e0, etd, eT, eb, set8 ht, nI_1] at st
      have eg : gob σ.1 NP T (c + 1) = gob σ.1 NP T c ||| 2 ^ t := by rw [gob, if_pos hk, et, nI_clamp (by omega)]
      refine ⟨_, ⟨fun c' o k hk' => ?_, fun p hp => ?_, fun p hp1 hp2 => ?_⟩, st⟩
      · rw [wi_k hk', i1 c' o k hk']
      · rcases Nat.lt_or_ge p T with z | z
        · rw [wi_i (by omega)]
          exact i2 p z
        · have : p = T := by omega
          subst this
          rw [wi_s, eg]
      · rw [wi_i (by omega)]
        exact i3 p (by omega) hp2
    | false =>
      rw [hk] at e3
      have st := g6_2_2 (pq_RD d) (σ := υ) (x1 := nI NP) (x2 := nI T) (nI_ge hT (by omega)) hv vr (by rw [e3]; decide)
      rw [nI_1] at st
      have eg : gob σ.1 NP T (c + 1) = gob σ.1 NP T c := by rw [gob, hk, if_neg (by decide)]
      refine ⟨υ, ⟨i1, fun p hp => ?_, fun p hp1 hp2 => i3 p (by omega) hp2⟩, st⟩
      rcases Nat.lt_or_ge p T with z | z
      · exact i2 p z
      · have : p = T := by omega
        subst this
        rw [eg]
        exact eb)
  exact ⟨τ', (m6 d).trans ((g6_0_0 _).trans (Eq.trans hr (g6_2_0 _ (by rw [fa_le]; omega)))), fun c' o k hk => by rw [i1 c' o k (by omega), hO c' o k hk], i2⟩
theorem c7 (d : Nat) {τ : pmS} {NP : Nat} {b : Nat → Nat} (hN : NP ≤ 48) (hb : ∀ p, p < NP → τ.1 1 0 1 p = nI (b p) ∧ b p < 256) : pq_RD (d + 1) 7 [vR 1 0 0, vI (nI NP)] τ = some (some (vI (bI (hfA (fun p => !decide (b p = 0)) NP))), τ) := by
  have is0 : ∀ p, p < NP → (τ.1 1 0 1 p = 0 ↔ b p = 0) := fun p hp => by
    rw [(hb p hp).1]
    exact nI_is0 (by have := (hb p hp).2; omega)
  have run := lp_first (C := pq_RD d) (fr := fun k => (7, 2, [some (vR 1 0 0), some (vI (nI NP)), some (vI (nI k))], [], τ)) (p := fun p => decide (b p = 0)) (n := NP) (fun k hk hq => by
    rw [← nI_1]
    exact g7_2_2 _ (nI_ge hk (by omega)) (vp_in_nI (by omega) (by omega)) (by rw [nI_clamp (by omega), is0 k hk]; exact of_decide_eq_false hq))
  refine (m7 d).trans ((g7_0_0 _).trans (Eq.trans run ?_))
  have hle := fa_first_le (fun p => decide (b p = 0)) NP
  have hno := fa_first_no (fun p => decide (b p = 0)) NP
  have hyes := fa_first_yes (fun p => decide (b p = 0)) NP
  generalize fa_first (fun p => decide (b p = 0)) NP = K at hle hno hyes
  rcases Nat.lt_or_ge K NP with hK | hK
  · have := of_decide_eq_true (hyes hK)
    rw [show hfA (fun p => !decide (b p = 0)) NP = false by
      cases hc : hfA (fun p => !decide (b p = 0)) NP with
      | false => rfl
      | true =>
        have := hfA_t.mp hc K hK
        simp [‹b K = 0›] at this]
    exact g7_2_1 _ (nI_ge hK (by omega)) (vp_in_nI (by omega) (by omega)) (by rw [nI_clamp (by omega), is0 K hK]; exact this)
  · have e : K = NP := by omega
    subst e
    rw [hfA_t.mpr (fun k hk => by have := hno k hk; simp only [decide_eq_false_iff_not] at this; simp [this])]
    exact g7_2_0 _ (by rw [fa_le]; omega)
theorem c102 (d : Nat) {σ : pmS} {NS NC NP : Nat} (hS : iS σ.1 NS) (hC : iC σ.1 NS NC) (hP : iP σ.1 NC NP) : ∃ τ, pq_RD (d + 6) 102 [vR 9 0 0] σ = some (some (vI (bI (hfA (fun p => !decide (gob σ.1 NP p 8 = 0)) NP))), τ) ∧ o1 τ σ ∧ ∀ p, p < NP → τ.1 1 0 1 p = nI (gob σ.1 NP p 8) := by
  have hN := hP.1
  have e9 : ∀ {τ : pmS}, o1 τ σ → τ.1 5 0 9 0 = nI NP := fun h => by rw [h 5 0 9 (by omega)]; exact hP.2.1
  obtain ⟨σ1, k3, p1, p2⟩ := c3 (d + 4) (σ := σ) hN
  have hp1 : σ.1 5 0 9 0 = nI NP := hP.2.1
  have st := (m102 (d + 5)).trans (g102_0_0 (pq_RD (d + 5)) (l1 := none) (l2 := none) (σ := σ) (by rw [hp1]; exact k3))
  obtain ⟨⟨τ, l⟩, ⟨i1, i2⟩, hr⟩ := lp_ex (C := pq_RD (d + 5)) (S := pmS × Option pmV) (I := fun C υ => o1 υ.1 σ ∧ ∀ p, p < NP → υ.1.1 1 0 1 p = nI (gob σ.1 NP p C)) (fr := fun C υ => (102, 16, [some (vR 9 0 0), some (vI (nI C)), υ.2], [], υ.1)) (s0 := (σ1, none)) ⟨fun c o k hk => p1 c o k (by omega), fun p hp => p2 p hp⟩ (n := 8) (fun C υ hC8 ⟨i1, i2⟩ => by
    obtain ⟨υ, l⟩ := υ
    have i1 : o1 υ σ := i1
    have i2 : ∀ p, p < NP → υ.1 1 0 1 p = nI (gob σ.1 NP p C) := i2
    have st1 := g102_16_1 (pq_RD (d + 5)) (l2 := l) (σ := υ) (x1 := nI C) (nI_ge (b := 8) hC8 (by decide))
    obtain ⟨υ', ⟨j1, j2⟩, hr2⟩ := lp_ex (C := pq_RD (d + 5)) (S := pmS) (I := fun P ω => gI1 σ C P ω ∧ ω.1 1 0 1 = υ.1 1 0 1) (fr := fun P ω => (102, 24, [some (vR 9 0 0), some (vI (nI C)), some (vI (nI P))], [], ω)) (s0 := υ) ⟨⟨i1, fun q hq => by omega, fun r hr => by omega⟩, rfl⟩ (n := NP) (fun P ω hPN ⟨j1, j2⟩ => by
      obtain ⟨ω', k, y1, y2⟩ := c102in d hS hC hP hC8 hPN j1 rfl
      exact ⟨ω', ⟨y1, by rw [y2, j2]⟩, k⟩)
    obtain ⟨υ2, k6, y1, y2⟩ := c6 (d + 4) hS hC hP hC8 j1 (fun p hp => by rw [j2]; exact i2 p hp)
    refine ⟨(υ2, some (vI (nI NP))), ⟨y1, y2⟩, st1.trans (Eq.trans hr2 ((g102_24_0 _ (by rw [e9 j1.1, fa_le]; omega) (by rw [e9 j1.1]; exact k6)).trans (by rw [nI_1])))⟩)
  have i1 : o1 τ σ := i1
  have i2 : ∀ p, p < NP → τ.1 1 0 1 p = nI (gob σ.1 NP p 8) := i2
  have k7 := c7 (d + 4) (τ := τ) (b := fun p => gob σ.1 NP p 8) hN (fun p hp => ⟨i2 p hp, gob_lt hS hC hP hp 8 (by omega)⟩)
  exact ⟨τ, st.trans (Eq.trans hr (g102_16_0 _ (by decide) (by rw [e9 i1]; exact k7) (bI_01 _))), i1, i2⟩
