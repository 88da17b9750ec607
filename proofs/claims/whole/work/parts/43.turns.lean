/-! turnings: eight classes of three bits in one number -/
theorem orI (a b : Nat) : nI a ||| nI b = nI (a ||| b) := by
  apply Int32.toBitVec_inj.1
  show BitVec.ofNat 32 a ||| BitVec.ofNat 32 b = BitVec.ofNat 32 (a ||| b)
  apply BitVec.eq_of_getLsbD_eq
  intro i hi
  simp [hi]
theorem sh24 {k : Nat} (h : k < 8) : (((3 : Int32) * nI k &&& 31).toBitVec.smod 32).toNat = 3 * k := by
  rcases (by omega : k = 0 ∨ k = 1 ∨ k = 2 ∨ k = 3 ∨ k = 4 ∨ k = 5 ∨ k = 6 ∨ k = 7) with rfl | rfl | rfl | rfl | rfl | rfl | rfl | rfl <;> rfl
def pkk (b : Nat → Nat) : Nat → Nat
  | 0 => 0
  | k + 1 => pkk b k + b k * 8 ^ k
theorem p8 (k : Nat) : (2 : Nat) ^ (3 * k) = 8 ^ k := by rw [Nat.pow_mul]
theorem pkk_lt {b : Nat → Nat} : ∀ {n : Nat}, (∀ k, k < n → b k < 8) → pkk b n < 8 ^ n
  | 0, _ => Nat.zero_lt_one
  | n + 1, h => by
    have h1 := pkk_lt (n := n) (fun k hk => h k (by omega))
    have h2 := h n (by omega)
    rw [pkk, Nat.pow_succ]
    have h3 : b n * 8 ^ n ≤ 7 * 8 ^ n := Nat.mul_le_mul_right _ (by omega)
    omega
theorem pkk_dig {b : Nat → Nat} : ∀ {n : Nat}, (∀ k, k < n → b k < 8) → ∀ {k}, k < n → pkk b n / 8 ^ k % 8 = b k
  | 0, _, k, hk => by omega
  | n + 1, h, k, hk => by
    rw [pkk]
    rcases Nat.lt_or_ge k n with h1 | h1
    · obtain ⟨m, rfl⟩ : ∃ m, n = k + 1 + m := ⟨n - k - 1, by omega⟩
      have e : b (k + 1 + m) * 8 ^ (k + 1 + m) = 8 ^ k * (8 * (b (k + 1 + m) * 8 ^ m)) := by
        rw [Nat.pow_add, Nat.pow_succ]
        simp only [Nat.mul_assoc, Nat.mul_left_comm, Nat.mul_comm]
      rw [Nat.add_comm, e, Nat.mul_add_div (Nat.pow_pos (by decide)), Nat.mul_add_mod]
      exact pkk_dig (fun j hj => h j (by omega)) h1
    · have : k = n := by omega
      subst this
      have h2 := pkk_lt (n := k) (fun j hj => h j (by omega))
      rw [Nat.mul_comm (b k), Nat.add_comm, Nat.mul_add_div (Nat.pow_pos (by decide)), Nat.div_eq_of_lt h2, Nat.add_zero]
      exact Nat.mod_eq_of_lt (h k (by omega))
theorem pkk_cong {a b : Nat → Nat} : ∀ {n : Nat}, (∀ k, k < n → a k = b k) → pkk a n = pkk b n
  | 0, _ => rfl
  | n + 1, h => by rw [pkk, pkk, pkk_cong (fun k hk => h k (by omega)), h n (by omega)]
theorem pkk_or {b : Nat → Nat} {k : Nat} (h : ∀ j, j < k → b j < 8) : pkk b k ||| b k * 8 ^ k = pkk b (k + 1) := by
  have h1 := pkk_lt h
  rw [← p8] at h1
  have := Nat.two_pow_add_eq_or_of_lt h1 (b k)
  rw [pkk, Nat.or_comm, ← p8, Nat.mul_comm, ← this, Nat.add_comm]
theorem p8_24 {n : Nat} (h : n ≤ 8) : (8 : Nat) ^ n ≤ 16777216 := Nat.le_trans (Nat.pow_le_pow_right (by decide) h) (by decide)
/-- a digit of a turning -/
def dg (x : Int32) (k : Nat) : Int32 := (x >>> (((3 : Int32) * nI k) &&& 31)) &&& (7 : Int32)
theorem dg_in (x : Int32) (k : Nat) : vp_in (dg x k) 8 := pk_andIn _ 3 rfl (by omega)
theorem dg_pkk {b : Nat → Nat} {n k : Nat} (h8 : n ≤ 8) (h : ∀ k, k < n → b k < 8) (hk : k < n) : dg (nI (pkk b n)) k = nI (b k) := by
  have h1 := pkk_lt h
  have h2 := p8_24 h8
  unfold dg
  rw [pk_shrN (by omega) _ (3 * k) (sh24 (by omega)), p8]
  have h3 : pkk b n / 8 ^ k ≤ pkk b n := Nat.div_le_self _ _
  rw [and7 (by omega), pkk_dig h hk]
/-- the digits of x, each through a table -/
def trn (t : Nat → Int32) (x : Int32) : Nat → Int32
  | 0 => 0
  | k + 1 => trn t x k ||| (t (dg x k).toNatClampNeg <<< (((3 : Int32) * nI k) &&& 31))
theorem trn_cong {t t' : Nat → Int32} {x : Int32} : ∀ {n : Nat}, (∀ k, k < n → t (dg x k).toNatClampNeg = t' (dg x k).toNatClampNeg) → trn t x n = trn t' x n
  | 0, _ => rfl
  | n + 1, h => by rw [trn, trn, trn_cong (fun k hk => h k (by omega)), h n (by omega)]
theorem trn_v {t : Nat → Int32} {x : Int32} {b : Nat → Nat} : ∀ {n : Nat}, n ≤ 8 → (∀ k, k < n → t (dg x k).toNatClampNeg = nI (b k) ∧ b k < 8) → trn t x n = nI (pkk b n)
  | 0, _, _ => rfl
  | n + 1, h8, h => by
    have p := p8_24 (n := n) (by omega)
    have hb := (h n (by omega)).2
    rw [trn, trn_v (by omega) (fun k hk => h k (by omega)), (h n (by omega)).1, pk_shlN _ (3 * n) (sh24 (by omega)) (by
      rw [p8]
      have : b n * 8 ^ n ≤ 7 * 8 ^ n := Nat.mul_le_mul_right _ (by omega)
      omega), p8, orI, pkk_or (fun j hj => (h j (by omega)).2)]
def gI : Nat → Int32
  | 0 => 0
  | k + 1 => gI k ||| (nI k <<< (((3 : Int32) * nI k) &&& 31))
theorem gI_v : ∀ {n : Nat}, n ≤ 8 → gI n = nI (pkk (fun k => k) n)
  | 0, _ => rfl
  | n + 1, h8 => by
    have p := p8_24 (n := n) (by omega)
    rw [gI, gI_v (by omega), pk_shlN _ (3 * n) (sh24 (by omega)) (by
      rw [p8]
      have : n * 8 ^ n ≤ 7 * 8 ^ n := Nat.mul_le_mul_right _ (by omega)
      omega), p8, orI]
    exact congrArg nI (pkk_or (b := fun k => k) (fun j hj => by show j < 8; omega))
/-- a turning of n classes -/
def gV (n : Nat) (x : Int32) : Prop := ∃ b : Nat → Nat, (∀ k, k < n → b k < n) ∧ x = nI (pkk b n)
theorem gV_1 {n : Nat} {x : Int32} (h8 : n ≤ 8) (h : gV n x) : ¬ x + 1 = 0 := by
  obtain ⟨b, hb, rfl⟩ := h
  have h1 := pkk_lt (b := b) (n := n) (fun k hk => by have := hb k hk; omega)
  have h2 := p8_24 h8
  rw [nI_1]
  exact fun z => by
    have := (nI_eq (b := 0) (by omega) (by decide)).mp z
    omega
theorem gV_trn {t : Nat → Int32} {tt : Nat → Nat} {n : Nat} {x : Int32} (h8 : n ≤ 8) (ht : ∀ c, c < n → t c = nI (tt c) ∧ tt c < n) (h : gV n x) : gV n (trn t x n) := by
  obtain ⟨b, hb, rfl⟩ := h
  refine ⟨fun k => tt (b k), fun k hk => (ht _ (hb k hk)).2, trn_v h8 (fun k hk => ?_)⟩
  have h1 := hb k hk
  rw [dg_pkk h8 (fun j hj => by have := hb j hj; omega) hk, nI_clamp (by omega)]
  have := ht _ h1
  exact ⟨this.1, by have := this.2; omega⟩
/-- two tables, one behind the other -/
theorem trn_trn {t u v : Nat → Int32} {tt uu : Nat → Nat} {n : Nat} {x : Int32} (h8 : n ≤ 8) (ht : ∀ c, c < n → t c = nI (tt c) ∧ tt c < n) (hu : ∀ c, c < n → u c = nI (uu c) ∧ uu c < n) (hv : ∀ c, c < n → v c = nI (uu (tt c))) (h : gV n x) : trn u (trn t x n) n = trn v x n := by
  obtain ⟨b, hb, rfl⟩ := h
  have e1 : trn t (nI (pkk b n)) n = nI (pkk (fun k => tt (b k)) n) := trn_v h8 (fun k hk => by
    have h1 := hb k hk
    rw [dg_pkk h8 (fun j hj => by have := hb j hj; omega) hk, nI_clamp (by omega)]
    have := ht _ h1
    exact ⟨this.1, by have := this.2; omega⟩)
  have e2 : trn v (nI (pkk b n)) n = nI (pkk (fun k => uu (tt (b k))) n) := trn_v h8 (fun k hk => by
    have h1 := hb k hk
    rw [dg_pkk h8 (fun j hj => by have := hb j hj; omega) hk, nI_clamp (by omega)]
    have := hu _ (ht _ h1).2
    exact ⟨hv _ h1, by omega⟩)
  rw [e1, e2]
  exact trn_v h8 (fun k hk => by
    have h1 := (ht _ (hb k hk)).2
    rw [dg_pkk (b := fun k => tt (b k)) h8 (fun j hj => by have := (ht _ (hb j hj)).2; show tt (b j) < 8; omega) hk, nI_clamp (by omega)]
    have := hu _ h1
    exact ⟨this.1, by have := this.2; show uu (tt (b k)) < 8; omega⟩)
theorem c48 (d : Nat) {σ : pmS} {n : Nat} (h8 : n ≤ 8) : pq_RD (d + 1) 48 [vI (nI n)] σ = some (some (vI (gI n)), σ) := by
  refine (m48 d).trans ((g48_0_0 _).trans ?_)
  refine (lp_n (C := pq_RD d) (fr := fun k => (48, 4, [some (vI (nI n)), some (vI (gI k)), some (vI (nI k))], [], σ)) (n := n) (fun k hk => ?_)).trans ?_
  · refine (g48_4_1 _ (nI_ge hk (by omega))).trans ?_
    rw [nI_1]
    rfl
  · exact g48_4_0 _ (by rw [fa_le]; omega)
theorem c49a (d : Nat) {σ : pmS} {s n : Nat} {x : Int32} (h8 : n ≤ 8) : pq_RD (d + 1) 49 [vI x, vR 2 s 1, vI (nI n)] σ = some (some (vI (trn (σ.1 2 s 0) x n)), σ) := by
  refine (m49a d).trans ((g49a_0_0 _).trans ?_)
  refine (lp_n (C := pq_RD d) (fr := fun k => (49, 5, [some (vI x), some (vR 2 s 1), some (vI (nI n)), some (vI (trn (σ.1 2 s 0) x k)), some (vI (nI k))], [], σ)) (n := n) (fun k hk => ?_)).trans ?_
  · refine (g49a_5_1 _ (nI_ge hk (by omega)) (dg_in x k)).trans ?_
    rw [nI_1]
    rfl
  · exact g49a_5_0 _ (by rw [fa_le]; omega)
theorem c49b (d : Nat) {σ : pmS} {s n : Nat} {x : Int32} (h8 : n ≤ 8) : pq_RD (d + 1) 49 [vI x, vR 2 s 3, vI (nI n)] σ = some (some (vI (trn (σ.1 2 s 2) x n)), σ) := by
  refine (m49b d).trans ((g49b_0_0 _).trans ?_)
  refine (lp_n (C := pq_RD d) (fr := fun k => (49, 5, [some (vI x), some (vR 2 s 3), some (vI (nI n)), some (vI (trn (σ.1 2 s 2) x k)), some (vI (nI k))], [], σ)) (n := n) (fun k hk => ?_)).trans ?_
  · refine (g49b_5_1 _ (nI_ge hk (by omega)) (dg_in x k)).trans ?_
    rw [nI_1]
    rfl
  · exact g49b_5_0 _ (by rw [fa_le]; omega)
theorem dg8 (s : Nat) (x : Int32) (k : Nat) (hs : s < 4) : vp_in ((8 : Int32) * nI s + dg x k) 32 ∧ ((8 : Int32) * nI s + dg x k).toNatClampNeg = 8 * s + (dg x k).toNatClampNeg := by
  obtain ⟨e, h⟩ := in_nI (dg_in x k) (by omega)
  obtain ⟨-, v, w⟩ := ix8 hs h
  rw [← e] at v w
  exact ⟨v, w⟩
theorem c127a (d : Nat) {σ : pmS} {s n : Nat} {x : Int32} (hs : s < 4) (h8 : n ≤ 8) (hz : σ.1 10 0 0 s = nI n) : pq_RD (d + 1) 127 [vR 10 0 0, vI (nI s), vI x, vR 10 0 2] σ = some (some (vI (trn (fun c => σ.1 10 0 1 (8 * s + c)) x n)), σ) := by
  have es : (nI s).toNatClampNeg = s := nI_clamp (by omega)
  refine (m127a d).trans ((g127a_0_0 _).trans ?_)
  refine (lp_n (C := pq_RD d) (fr := fun k => (127, 6, [some (vR 10 0 0), some (vI (nI s)), some (vI x), some (vR 10 0 2), some (vI (trn (fun c => σ.1 10 0 1 (8 * s + c)) x k)), some (vI (nI k))], [], σ)) (n := n) (fun k hk => ?_)).trans ?_
  · obtain ⟨v, w⟩ := dg8 s x k hs
    refine (g127a_6_1 _ (vp_in_nI hs (by omega)) (by rw [es, hz]; exact nI_ge hk (by omega)) v).trans ?_
    rw [nI_1]
    have w : ((8 : Int32) * nI s + ((x >>> (((3 : Int32) * nI k) &&& 31)) &&& (7 : Int32))).toNatClampNeg = 8 * s + (dg x k).toNatClampNeg := w
    rw [w]
    rfl
  · exact g127a_6_0 _ (vp_in_nI hs (by omega)) (by rw [es, hz, fa_le]; omega)
theorem c127b (d : Nat) {σ : pmS} {s n : Nat} {x : Int32} (hs : s < 4) (h8 : n ≤ 8) (hz : σ.1 10 0 0 s = nI n) : pq_RD (d + 1) 127 [vR 10 0 0, vI (nI s), vI x, vR 10 0 3] σ = some (some (vI (trn (fun c => σ.1 10 0 2 (8 * s + c)) x n)), σ) := by
  have es : (nI s).toNatClampNeg = s := nI_clamp (by omega)
  refine (m127b d).trans ((g127b_0_0 _).trans ?_)
  refine (lp_n (C := pq_RD d) (fr := fun k => (127, 6, [some (vR 10 0 0), some (vI (nI s)), some (vI x), some (vR 10 0 3), some (vI (trn (fun c => σ.1 10 0 2 (8 * s + c)) x k)), some (vI (nI k))], [], σ)) (n := n) (fun k hk => ?_)).trans ?_
  · obtain ⟨v, w⟩ := dg8 s x k hs
    refine (g127b_6_1 _ (vp_in_nI hs (by omega)) (by rw [es, hz]; exact nI_ge hk (by omega)) v).trans ?_
    rw [nI_1]
    have w : ((8 : Int32) * nI s + ((x >>> (((3 : Int32) * nI k) &&& 31)) &&& (7 : Int32))).toNatClampNeg = 8 * s + (dg x k).toNatClampNeg := w
    rw [w]
    rfl
  · exact g127b_6_0 _ (vp_in_nI hs (by omega)) (by rw [es, hz, fa_le]; omega)
theorem c127c (d : Nat) {σ : pmS} {s n : Nat} {x : Int32} (hs : s < 4) (h8 : n ≤ 8) (hz : σ.1 10 0 0 s = nI n) : pq_RD (d + 1) 127 [vR 10 0 0, vI (nI s), vI x, vR 10 0 4] σ = some (some (vI (trn (fun c => σ.1 10 0 3 (8 * s + c)) x n)), σ) := by
  have es : (nI s).toNatClampNeg = s := nI_clamp (by omega)
  refine (m127c d).trans ((g127c_0_0 _).trans ?_)
  refine (lp_n (C := pq_RD d) (fr := fun k => (127, 6, [some (vR 10 0 0), some (vI (nI s)), some (vI x), some (vR 10 0 4), some (vI (trn (fun c => σ.1 10 0 3 (8 * s + c)) x k)), some (vI (nI k))], [], σ)) (n := n) (fun k hk => ?_)).trans ?_
  · obtain ⟨v, w⟩ := dg8 s x k hs
    refine (g127c_6_1 _ (vp_in_nI hs (by omega)) (by rw [es, hz]; exact nI_ge hk (by omega)) v).trans ?_
    rw [nI_1]
    have w : ((8 : Int32) * nI s + ((x >>> (((3 : Int32) * nI k) &&& 31)) &&& (7 : Int32))).toNatClampNeg = 8 * s + (dg x k).toNatClampNeg := w
    rw [w]
    rfl
  · exact g127c_6_0 _ (vp_in_nI hs (by omega)) (by rw [es, hz, fa_le]; omega)
/-! all turnings that come of the first by two tables -/
def gR (n : Nat) (A B : Int32 → Int32) (x : Int32) : Prop := ∀ Q : Int32 → Prop, Q (gI n) → (∀ y, Q y → Q (A y) ∧ Q (B y)) → Q x
theorem gR_0 (n : Nat) (A B : Int32 → Int32) : gR n A B (gI n) := fun _ h _ => h
theorem gR_s {n : Nat} {A B : Int32 → Int32} {x : Int32} (h : gR n A B x) : gR n A B (A x) ∧ gR n A B (B x) := ⟨fun Q h0 h1 => (h1 _ (h Q h0 h1)).1, fun Q h0 h1 => (h1 _ (h Q h0 h1)).2⟩
/-- a list of such turnings, each once, the first at 0 -/
def gL (n : Nat) (A B : Int32 → Int32) (g : Nat → Int32) (z : Nat) : Prop := z ≤ 1000 ∧ 1 ≤ z ∧ g 0 = gI n ∧ (∀ i j, i < j → j < z → g i ≠ g j) ∧ ∀ i, i < z → gR n A B (g i)
def gC (A B : Int32 → Int32) (g : Nat → Int32) (z i : Nat) : Prop := z = 1000 ∨ ∀ j, j < i → (∃ k, k < z ∧ g k = A (g j)) ∧ ∃ k, k < z ∧ g k = B (g j)
theorem gL_le {n : Nat} {A B : Int32 → Int32} {g g' : Nat → Int32} {z z' : Nat} (h : gL n A B g z) (hc : gC A B g z z) (hz : z < 1000) (h' : gL n A B g' z') : z' ≤ z := by
  have cl : ∀ j, j < z → (∃ k, k < z ∧ g k = A (g j)) ∧ ∃ k, k < z ∧ g k = B (g j) := by
    rcases hc with e | e
    · omega
    · exact e
  have all : ∀ x, gR n A B x → ∃ k, k < z ∧ g k = x := fun x hx => hx (fun x => ∃ k, k < z ∧ g k = x) ⟨0, h.2.1, h.2.2.1⟩ (fun y ⟨k, hk, e⟩ => by
    have := cl k hk
    rw [e] at this
    exact this)
  have : ∀ i, ∃ k, i < z' → k < z ∧ g k = g' i := fun i => by
    by_cases hi : i < z'
    · obtain ⟨k, hk⟩ := all _ (h'.2.2.2.2 i hi)
      exact ⟨k, fun _ => hk⟩
    · exact ⟨0, fun h => absurd h hi⟩
  obtain ⟨f, hf⟩ := Classical.axiomOfChoice this
  exact fb_holes z z' f (fun i hi => (hf i hi).1) (fun i j hij hj e => h'.2.2.2.1 i j hij hj (by rw [← (hf i (by omega)).2, ← (hf j hj).2, e]))
theorem gL_eq {n : Nat} {A B : Int32 → Int32} {g g' : Nat → Int32} {z z' : Nat} (h : gL n A B g z) (hc : gC A B g z z) (h' : gL n A B g' z') (hc' : gC A B g' z' z') : z = z' := by
  have a := h.1
  have b := h'.1
  rcases Nat.lt_or_ge z 1000 with h1 | h1
  · have := gL_le h hc h1 h'
    have := gL_le h' hc' (by omega) h
    omega
  · rcases Nat.lt_or_ge z' 1000 with h2 | h2
    · have := gL_le h' hc' h2 h
      omega
    · omega
theorem gL_cong {n : Nat} {A B : Int32 → Int32} {g g' : Nat → Int32} {z : Nat} (e : ∀ i, i < z → g' i = g i) (h : gL n A B g z) : gL n A B g' z := by
  refine ⟨h.1, h.2.1, by rw [e 0 h.2.1]; exact h.2.2.1, fun i j hij hj => ?_, fun i hi => by rw [e i hi]; exact h.2.2.2.2 i hi⟩
  rw [e i (by omega), e j hj]
  exact h.2.2.2.1 i j hij hj
/-- one more turning -/
theorem gL_add {n : Nat} {A B : Int32 → Int32} {g g' : Nat → Int32} {z : Nat} (hz : z < 1000) (e : ∀ i, i < z → g' i = g i) (h : gL n A B g z) (hr : gR n A B (g' z)) (hn : ∀ i, i < z → g i ≠ g' z) : gL n A B g' (z + 1) := by
  refine ⟨by omega, by omega, by rw [e 0 h.2.1]; exact h.2.2.1, fun i j hij hj => ?_, fun i hi => ?_⟩
  · rcases Nat.lt_or_ge j z with h1 | h1
    · rw [e i (by omega), e j h1]
      exact h.2.2.2.1 i j hij h1
    · have : j = z := by omega
      subst this
      rw [e i hij]
      exact hn i hij
  · rcases Nat.lt_or_ge i z with h1 | h1
    · rw [e i h1]
      exact h.2.2.2.2 i h1
    · have : i = z := by omega
      subst this
      exact hr
/-- closed for i of them still, when the list has grown -/
theorem gC_up {A B : Int32 → Int32} {g g' : Nat → Int32} {z z' i : Nat} (hz : z ≤ z') (hz' : z' ≤ 1000) (hi : i ≤ z) (e : ∀ i, i < z → g' i = g i) (h : gC A B g z i) : gC A B g' z' i := by
  rcases h with h | h
  · exact Or.inl (by omega)
  · refine Or.inr (fun j hj => ?_)
    obtain ⟨⟨a, ha, ea⟩, b, hb, eb⟩ := h j hj
    rw [e j (by omega)]
    exact ⟨⟨a, by omega, by rw [e a ha]; exact ea⟩, b, by omega, by rw [e b hb]; exact eb⟩
