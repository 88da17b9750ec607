/-! home: how often a way must be gone -/
def git (g : Nat → Nat) : Nat → Nat → Nat
  | 0, c => c
  | t + 1, c => g (git g t c)
theorem git_add (g : Nat → Nat) (c : Nat) (b : Nat) : ∀ a, git g (a + b) c = git g a (git g b c)
  | 0 => by rw [Nat.zero_add]; rfl
  | a + 1 => by
    rw [Nat.add_right_comm, git, git_add g c b a]
    rfl
theorem git_lt {g : Nat → Nat} {n : Nat} (h : ∀ c, c < n → g c < n) {c : Nat} (hc : c < n) : ∀ t, git g t c < n
  | 0 => hc
  | t + 1 => h _ (git_lt h hc t)
theorem git_inj {g : Nat → Nat} {n : Nat} (h : ∀ c, c < n → g c < n) (hi : ∀ a b, a < n → b < n → g a = g b → a = b) {a b : Nat} (ha : a < n) (hb : b < n) : ∀ t, git g t a = git g t b → a = b
  | 0, e => e
  | t + 1, e => git_inj h hi ha hb t (hi _ _ (git_lt h ha t) (git_lt h hb t) e)
theorem git_per {g : Nat → Nat} {m c : Nat} (h : git g m c = c) : ∀ j, git g (m * j) c = c
  | 0 => rfl
  | j + 1 => by rw [Nat.mul_succ, git_add, h, git_per h j]
theorem git840 {g : Nat → Nat} {n : Nat} (h8 : n ≤ 8) (h : ∀ c, c < n → g c < n) (hi : ∀ a b, a < n → b < n → g a = g b → a = b) {c : Nat} (hc : c < n) : git g 840 c = c := by
  obtain ⟨i, j, hij, hj, e⟩ := fb_twice (m := n) (n := n + 1) (f := fun t => git g t c) (fun t _ => git_lt h hc t) (by omega)
  have e : git g i c = git g j c := e
  have ej : j = (j - i) + i := by omega
  have e2 : git g j c = git g i (git g (j - i) c) := by rw [← git_add]; congr 1; omega
  have e3 : git g (j - i) c = c := (git_inj h hi hc (git_lt h hc _) i (e.trans e2)).symm
  have hd : ∃ q, 840 = (j - i) * q := by
    rcases (by omega : j - i = 1 ∨ j - i = 2 ∨ j - i = 3 ∨ j - i = 4 ∨ j - i = 5 ∨ j - i = 6 ∨ j - i = 7 ∨ j - i = 8) with z | z | z | z | z | z | z | z <;> rw [z]
    · exact ⟨840, rfl⟩
    · exact ⟨420, rfl⟩
    · exact ⟨280, rfl⟩
    · exact ⟨210, rfl⟩
    · exact ⟨168, rfl⟩
    · exact ⟨140, rfl⟩
    · exact ⟨120, rfl⟩
    · exact ⟨105, rfl⟩
  obtain ⟨q, eq⟩ := hd
  rw [eq]
  exact git_per e3 q
theorem tb_inj {f : pmI} {s n : Nat} {w ch : Nat → Nat} (h : iSy f s n w ch) {k a b : Nat} (hk : k ≤ 5) (ha : a < n) (hb : b < n) (e : tb f s k a = tb f s k b) : a = b := by
  obtain ⟨a0, a2, a3, a1, a4, a5⟩ := tb_inv h ha
  obtain ⟨b0, b2, b3, b1, b4, b5⟩ := tb_inv h hb
  obtain ⟨h2, h8, hwc, wi, ci, -⟩ := h
  rcases (by omega : k = 0 ∨ k = 1 ∨ k = 2 ∨ k = 3 ∨ k = 4 ∨ k = 5) with rfl | rfl | rfl | rfl | rfl | rfl
  · exact wi a b ha hb (by rw [← a0, ← b0, e])
  · rw [← a1, ← b1, e]
  · exact ci a b ha hb (by rw [← a2, ← b2, e])
  · exact wi a b ha hb (ci _ _ (hwc a ha).1 (hwc b hb).1 (by rw [← a3, ← b3, e]))
  · rw [← a4, ← b4, e]
  · rw [← a5, ← b5, e]
theorem stC_inj {f : pmI} {s n : Nat} {w ch : Nat → Nat} (h : iSy f s n w ch) {a b x d : Nat} (ha : a < n) (hb : b < n) (e : stC f s a x d = stC f s b x d) : a = b := by
  unfold stC at e
  by_cases d1 : d = 1
  · rw [if_pos d1, if_pos d1] at e
    exact tb_inj h (by omega) ha hb e
  by_cases d2 : d = 2
  · rw [if_neg d1, if_neg d1, if_pos d2, if_pos d2] at e
    exact tb_inj h (by omega) ha hb e
  by_cases d3 : d = 3
  · rw [if_neg d1, if_neg d1, if_neg d2, if_neg d2, if_pos d3, if_pos d3] at e
    by_cases x0 : x = 0
    · rw [if_pos x0, if_pos x0] at e
      exact tb_inj h (by omega) ha hb e
    · rw [if_neg x0, if_neg x0] at e
      exact tb_inj h (by omega) ha hb e
  · rw [if_neg d1, if_neg d1, if_neg d2, if_neg d2, if_neg d3, if_neg d3] at e
    by_cases x0 : x = 0
    · rw [if_pos x0, if_pos x0] at e
      exact tb_inj h (by omega) ha hb e
    · rw [if_neg x0, if_neg x0] at e
      exact tb_inj h (by omega) ha hb e
theorem wf_inj {f : pmI} {s n : Nat} {w ch : Nat → Nat} (h : iSy f s n w ch) {a b v x : Nat} (ha : a < n) (hb : b < n) : ∀ k, (wf f s v a x k).1 = (wf f s v b x k).1 → a = b
  | 0, e => e
  | k + 1, e => by
    have e : stC f s (wf f s v a x k).1 (wf f s v a x k).2 (v / 8 ^ k % 8) = stC f s (wf f s v b x k).1 (wf f s v b x k).2 (v / 8 ^ k % 8) := e
    rw [wf_2, wf_2] at e
    exact wf_inj h ha hb k (stC_inj h (wf_lt h ha k) (wf_lt h hb k) e)
theorem iSy_o {f g : pmI} {s n : Nat} {w ch : Nat → Nat} (h2 : ∀ k, k ≠ 6 → k ≠ 7 → g 2 s k = f 2 s k) (h10 : ∀ k, k ≤ 4 → g 10 0 k = f 10 0 k) (H : iSy f s n w ch) : iSy g s n w ch := by
  unfold iSy
  rw [h2 8 (by omega) (by omega), h2 0 (by omega) (by omega), h2 1 (by omega) (by omega), h2 2 (by omega) (by omega), h2 3 (by omega) (by omega), h2 4 (by omega) (by omega), h2 5 (by omega) (by omega), h10 0 (by omega), h10 1 (by omega), h10 2 (by omega), h10 3 (by omega)]
  exact H
theorem wf_o {f g : pmI} {s : Nat} (h2 : ∀ k, k ≠ 6 → k ≠ 7 → g 2 s k = f 2 s k) (v c x : Nat) : ∀ k, wf g s v c x k = wf f s v c x k
  | 0 => rfl
  | k + 1 => by
    have t : ∀ j, j ≤ 5 → ∀ c, tb g s j c = tb f s j c := fun j hj c => by
      unfold tb
      rw [h2 j (by omega) (by omega)]
    rw [wf, wf, wf_o h2 v c x k]
    unfold stC
    rw [t 5 (by omega), t 4 (by omega), t 0 (by omega), t 1 (by omega), t 3 (by omega), t 2 (by omega)]
def gW (f : pmI) (s v x c : Nat) : Nat := (wf f s v c x (wK v)).1
def hm (g : Nat → Nat) (n t : Nat) : Bool := hfA (fun c => decide (git g t c = c)) n
/-- the store but for one row, which holds a -/
def rowI (σ : pmS) (c0 o0 k0 n : Nat) (a : Nat → Nat) (τ : pmS) : Prop := (∀ c o k, ¬ (c = c0 ∧ k = k0) → τ.1 c o k = σ.1 c o k) ∧ ∀ c, c < n → τ.1 c0 o0 k0 c = nI (a c)
theorem rowI_put {σ τ : pmS} {c0 o0 k0 n k m : Nat} {a b : Nat → Nat} (h : rowI σ c0 o0 k0 n a τ) (hm : b k = m) (hb : ∀ c, c < n → c ≠ k → a c = b c) : rowI σ c0 o0 k0 n b (pm_wi τ c0 o0 k0 k (nI m)) := by
  refine ⟨fun c o j hj => by rw [wi_k hj, h.1 c o j hj], fun c hc => ?_⟩
  by_cases e : c = k
  · subst e
    rw [wi_s, hm]
  · rw [wi_i e, h.2 c hc, hb c hc e]
theorem hm_in {σ : pmS} {s n : Nat} {w ch : Nat → Nat} (h : iSy σ.1 s n w ch) {x v t : Nat} (hx : x < 2) (hv : okW v) {τ : pmS} (hI : rowI σ 2 s 6 n (git (gW σ.1 s v x) t) τ) {l4 l5 : Option pmV} : ∃ τ', rowI σ 2 s 6 n (git (gW σ.1 s v x) (t + 1)) τ' ∧ pq_Rn (pq_RD 58) (13, 38, [some (vR 2 s 0), some (vI (nI x)), some (vI (nI v)), some (vI (nI (t + 1))), some (vI 1), some (vI 0)], [], τ) = pq_Rn (pq_RD 58) (13, 38, [some (vR 2 s 0), some (vI (nI x)), some (vI (nI v)), some (vI (nI (t + 1))), some (vI (bI (hm (gW σ.1 s v x) n (t + 1)))), some (vI (nI n))], [], τ') := by
  have h8 := h.2.1
  have glt : ∀ c, c < n → gW σ.1 s v x c < n := fun c hc => wf_lt h hc _
  obtain ⟨τ', hI', hr⟩ := lp_ex (C := pq_RD 58) (S := pmS) (I := fun k τ => rowI σ 2 s 6 n (fun c => if c < k then git (gW σ.1 s v x) (t + 1) c else git (gW σ.1 s v x) t c) τ) (fr := fun k τ => (13, 38, [some (vR 2 s 0), some (vI (nI x)), some (vI (nI v)), some (vI (nI (t + 1))), some (vI (bI (hfA (fun c => decide (git (gW σ.1 s v x) (t + 1) c = c)) k))), some (vI (nI k))], [], τ)) (s0 := τ) (by
    refine ⟨hI.1, fun c hc => ?_⟩
    simpa using hI.2 c hc) (n := n) (fun k τ hk hI => by
    have ek : (nI k).toNatClampNeg = k := nI_clamp (by omega)
    have o2 : ∀ j, j ≠ 6 → j ≠ 7 → τ.1 2 s j = σ.1 2 s j := fun j h6 _ => hI.1 2 s j (by omega)
    have hsy : iSy τ.1 s n w ch := iSy_o o2 (fun j _ => hI.1 10 0 j (by omega)) h
    have tk : τ.1 2 s 6 k = nI (git (gW σ.1 s v x) t k) := by
      simpa using hI.2 k hk
    have lt1 := git_lt glt hk t
    have r := c12 54 hsy (c := git (gW σ.1 s v x) t k) lt1 hx hv
    rw [wf_o o2] at r
    have hx2 : (wf σ.1 s v (git (gW σ.1 s v x) t k) x (wK v)).2 < 2 := by rw [wf_2]; exact sx_lt hx _
    have lt2 := wf_lt h (v := v) (x := x) lt1 (wK v)
    have pc := place_c (c := (wf σ.1 s v (git (gW σ.1 s v x) t k) x (wK v)).1) (x := (wf σ.1 s v (git (gW σ.1 s v x) t k) x (wK v)).2) (by omega) hx2
    have r : pq_RD 58 12 [vR 2 s 0, vI (τ.1 2 s 6 (nI k).toNatClampNeg), vI (nI x), vI (nI v)] τ = some (some (vI (nI (2 * (wf σ.1 s v (git (gW σ.1 s v x) t k) x (wK v)).1 + (wf σ.1 s v (git (gW σ.1 s v x) t k) x (wK v)).2))), τ) := by rw [ek, tk]; exact r
    have hg : ¬ τ.1 2 s 8 0 ≤ nI k := by rw [o2 8 (by omega) (by omega), h.2.2.2.2.2.1]; exact nI_ge hk (by omega)
    have hv16 : vp_in (nI k) 16 := vp_in_nI (by omega) (by omega)
    refine ⟨pm_wi τ 2 s 6 k (nI (git (gW σ.1 s v x) (t + 1) k)), rowI_put hI (by simp) (fun c hc hck => ?_), ?_⟩
    · show (if c < k then git (gW σ.1 s v x) (t + 1) c else git (gW σ.1 s v x) t c) = if c < k + 1 then git (gW σ.1 s v x) (t + 1) c else git (gW σ.1 s v x) t c
      by_cases hck2 : c < k
      · rw [if_pos hck2, if_pos (by omega)]
      · rw [if_neg hck2, if_neg (by omega)]
    · rw [hfA, ← nI_1 k]
      have eg : (wf σ.1 s v (git (gW σ.1 s v x) t k) x (wK v)).1 = git (gW σ.1 s v x) (t + 1) k := rfl
      cases hfA (fun c => decide (git (gW σ.1 s v x) (t + 1) c = c)) k with
      | false =>
        refine (g13_38_2 _ hg hv16 r rfl).trans ?_
        rw [pc, ek, eg]
        rfl
      | true =>
        by_cases e : git (gW σ.1 s v x) (t + 1) k = k
        · refine (g13_38_3 _ hg hv16 r (by decide) (by rw [wi_s, pc, eg, e])).trans ?_
          rw [pc, ek, eg, show (true && decide (git (gW σ.1 s v x) (t + 1) k = k)) = true by simp [e]]
          rfl
        · refine (g13_38_4 _ hg hv16 r (by decide) (by rw [wi_s, pc, eg]; intro z; exact e ((nI_eq (by have := git_lt glt hk (t + 1); omega) (by omega)).mp z))).trans ?_
          rw [pc, ek, eg, show (true && decide (git (gW σ.1 s v x) (t + 1) k = k)) = false by simp [e]]
          rfl)
  refine ⟨τ', ⟨hI'.1, fun c hc => ?_⟩, hr⟩
  simpa [hc] using hI'.2 c hc
theorem hm_inM {σ : pmS} {s n : Nat} {w ch : Nat → Nat} (hs : s < 4) (h : iSy σ.1 s n w ch) {x v t : Nat} (hx : x < 2) (hv : okW v) {τ : pmS} (hI : rowI σ 10 0 9 n (git (gW σ.1 s v x) t) τ) : ∃ τ', rowI σ 10 0 9 n (git (gW σ.1 s v x) (t + 1)) τ' ∧ pq_Rn (pq_RD 59) (125, 86, [some (vR 10 0 0), some (vI (nI s)), some (vI (nI x)), some (vI (nI v)), some (vI (nI (t + 1))), some (vI 1), some (vI 0)], [], τ) = pq_Rn (pq_RD 59) (125, 72, [some (vR 10 0 0), some (vI (nI s)), some (vI (nI x)), some (vI (nI v)), some (vI (nI (t + 1))), some (vI (bI (hm (gW σ.1 s v x) n (t + 1)))), some (vI (nI n))], [], τ') := by
  have h8 := h.2.1
  have es : (nI s).toNatClampNeg = s := nI_clamp (by omega)
  have vs : vp_in (nI s) 4 := vp_in_nI hs (by omega)
  have glt : ∀ c, c < n → gW σ.1 s v x c < n := fun c hc => wf_lt h hc _
  obtain ⟨τ', hI', hr⟩ := lp_ex (C := pq_RD 59) (S := pmS) (I := fun k τ => rowI σ 10 0 9 n (fun c => if c < k then git (gW σ.1 s v x) (t + 1) c else git (gW σ.1 s v x) t c) τ) (fr := fun k τ => (125, 86, [some (vR 10 0 0), some (vI (nI s)), some (vI (nI x)), some (vI (nI v)), some (vI (nI (t + 1))), some (vI (bI (hfA (fun c => decide (git (gW σ.1 s v x) (t + 1) c = c)) k))), some (vI (nI k))], [], τ)) (s0 := τ) (by
    refine ⟨hI.1, fun c hc => ?_⟩
    simpa using hI.2 c hc) (n := n) (fun k τ hk hI => by
    have ek : (nI k).toNatClampNeg = k := nI_clamp (by omega)
    have o2 : ∀ j, j ≠ 6 → j ≠ 7 → τ.1 2 s j = σ.1 2 s j := fun j h6 _ => hI.1 2 s j (by omega)
    have hsy : iSy τ.1 s n w ch := iSy_o o2 (fun j _ => hI.1 10 0 j (by omega)) h
    have tk : τ.1 10 0 9 k = nI (git (gW σ.1 s v x) t k) := by
      simpa using hI.2 k hk
    have lt1 := git_lt glt hk t
    have r := c121 56 hs hsy (c := git (gW σ.1 s v x) t k) lt1 hx hv
    rw [wf_o o2] at r
    have r : pq_RD 59 121 [vR 10 0 0, vI (nI s), vI (τ.1 10 0 9 (nI k).toNatClampNeg), vI (nI x), vI (nI v)] τ = some (some (vI (nI (git (gW σ.1 s v x) (t + 1) k))), τ) := by rw [ek, tk]; exact r
    have hg : ¬ τ.1 10 0 0 (nI s).toNatClampNeg ≤ nI k := by rw [es, hI.1 10 0 0 (by omega), h.2.2.2.2.2.2.1]; exact nI_ge hk (by omega)
    have hv8 : vp_in (nI k) 8 := vp_in_nI (by omega) (by omega)
    refine ⟨pm_wi τ 10 0 9 k (nI (git (gW σ.1 s v x) (t + 1) k)), rowI_put hI (by simp) (fun c hc hck => ?_), ?_⟩
    · show (if c < k then git (gW σ.1 s v x) (t + 1) c else git (gW σ.1 s v x) t c) = if c < k + 1 then git (gW σ.1 s v x) (t + 1) c else git (gW σ.1 s v x) t c
      by_cases hck2 : c < k
      · rw [if_pos hck2, if_pos (by omega)]
      · rw [if_neg hck2, if_neg (by omega)]
    · rw [hfA, ← nI_1 k]
      cases hfA (fun c => decide (git (gW σ.1 s v x) (t + 1) c = c)) k with
      | false =>
        refine (g125_86_1 _ vs hg hv8 r rfl).trans ?_
        rw [ek]
        rfl
      | true =>
        by_cases e : git (gW σ.1 s v x) (t + 1) k = k
        · refine (g125_86_2 _ vs hg hv8 r (by decide) (by rw [wi_s, e])).trans ?_
          rw [ek, show (true && decide (git (gW σ.1 s v x) (t + 1) k = k)) = true by simp [e]]
          rfl
        · refine (g125_86_3 _ vs hg hv8 r (by decide) (by rw [wi_s]; intro z; exact e ((nI_eq (by have := git_lt glt hk (t + 1); omega) (by omega)).mp z))).trans ?_
          rw [ek, show (true && decide (git (gW σ.1 s v x) (t + 1) k = k)) = false by simp [e]]
          rfl)
  refine ⟨τ', ⟨hI'.1, fun c hc => ?_⟩, Eq.trans hr ?_⟩
  · simpa [hc] using hI'.2 c hc
  · exact g125_86_0 _ vs (by rw [es, hI'.1 10 0 0 (by omega), h.2.2.2.2.2.2.1, fa_le]; omega)
theorem hm_ex {f : pmI} {s n : Nat} {w ch : Nat → Nat} (h : iSy f s n w ch) (v x : Nat) : ∃ F, F < 840 ∧ hm (gW f s v x) n (F + 1) = true ∧ ∀ j, j < F → hm (gW f s v x) n (j + 1) = false := by
  have h8 := h.2.1
  have last : hm (gW f s v x) n (839 + 1) = true := hfA_t.mpr (fun c hc => by
    rw [decide_eq_true_eq]
    exact git840 h8 (fun c hc => wf_lt h hc _) (fun a b ha hb e => wf_inj h ha hb _ e) hc)
  have hno := fa_first_no (fun j => hm (gW f s v x) n (j + 1)) 840
  have hyes := fa_first_yes (fun j => hm (gW f s v x) n (j + 1)) 840
  generalize fa_first (fun j => hm (gW f s v x) n (j + 1)) 840 = F at hno hyes
  have hlt : F < 840 := by
    rcases Nat.lt_or_ge 839 F with h | h
    · have := hno 839 h
      rw [last] at this
      cases this
    · omega
  exact ⟨F, hlt, hyes hlt, hno⟩
theorem c13 {σ : pmS} {s n : Nat} {w ch : Nat → Nat} (h : iSy σ.1 s n w ch) {x v F : Nat} (hx : x < 2) (hv : okW v) (hF : F < 840) (hy : hm (gW σ.1 s v x) n (F + 1) = true) (hno : ∀ j, j < F → hm (gW σ.1 s v x) n (j + 1) = false) : ∃ τ, (∀ c o k, ¬ (c = 2 ∧ k = 6) → τ.1 c o k = σ.1 c o k) ∧ pq_RD 59 13 [vR 2 s 0, vI (nI x), vI (nI v)] σ = some (some (vI (nI (F + 1))), τ) := by
  have h8 := h.2.1
  obtain ⟨τ0, i0, r0⟩ := lp_ex (C := pq_RD 58) (S := pmS) (I := fun k τ => rowI σ 2 s 6 k (git (gW σ.1 s v x) 0) τ) (fr := fun k τ => (13, 2, [some (vR 2 s 0), some (vI (nI x)), some (vI (nI v)), some (vI (nI k)), none, none], [], τ)) (s0 := σ) ⟨fun _ _ _ _ => rfl, fun c hc => by omega⟩ (n := n) (fun k τ hk hI => by
    have ek : (nI k).toNatClampNeg = k := nI_clamp (by omega)
    refine ⟨pm_wi τ 2 s 6 k (nI k), ⟨fun c o j hj => by rw [wi_k hj, hI.1 c o j hj], fun c hc => ?_⟩, ?_⟩
    · by_cases e : c = k
      · subst e
        exact wi_s _ _ _ _ _ _
      · rw [wi_i e]
        exact hI.2 c (by omega)
    · refine (g13_2_1 _ (by rw [hI.1 2 s 8 (by omega), h.2.2.2.2.2.1]; exact nI_ge hk (by omega)) (vp_in_nI (by omega) (by omega))).trans ?_
      rw [ek, nI_1])
  have st : pq_RD 59 13 [vR 2 s 0, vI (nI x), vI (nI v)] σ = pq_Rn (pq_RD 58) (13, 25, [some (vR 2 s 0), some (vI (nI x)), some (vI (nI v)), some (vI (nI 1)), none, none], [], τ0) := by
    refine (m13 58).trans ((g13_0_0 _).trans (Eq.trans r0 ?_))
    exact g13_2_0 _ (by rw [i0.1 2 s 8 (by omega), h.2.2.2.2.2.1, fa_le]; omega)
  obtain ⟨⟨τ1, l4, l5⟩, i1, r1⟩ := lp_ex (C := pq_RD 58) (S := pmS × Option pmV × Option pmV) (I := fun j τ => rowI σ 2 s 6 n (git (gW σ.1 s v x) j) τ.1) (fr := fun j τ => (13, 25, [some (vR 2 s 0), some (vI (nI x)), some (vI (nI v)), some (vI (nI (j + 1))), τ.2.1, τ.2.2], [], τ.1)) (s0 := (τ0, none, none)) i0 (n := F) (fun j τ hj hI => by
    obtain ⟨τ', i', r'⟩ := hm_in h hx hv hI (l4 := none) (l5 := none)
    rw [hno j hj] at r'
    refine ⟨(τ', some (vI 0), some (vI (nI n))), i', ?_⟩
    refine (g13_25_1 _ (nI_ge (b := 840) (by omega) (by decide))).trans (r'.trans ?_)
    refine (g13_38_0 _ (by rw [i'.1 2 s 8 (by omega), h.2.2.2.2.2.1, fa_le]; omega) rfl).trans ?_
    rw [nI_1])
  have st2 := st.trans r1
  rcases Nat.lt_or_ge (F + 1) 840 with hl | hl
  · obtain ⟨τ', i', r'⟩ := hm_in h hx hv i1 (l4 := none) (l5 := none)
    rw [hy] at r'
    refine ⟨τ', i'.1, st2.trans ?_⟩
    refine (g13_25_1 _ (nI_ge (b := 840) hl (by decide))).trans (r'.trans ?_)
    exact g13_38_1 _ (by rw [i'.1 2 s 8 (by omega), h.2.2.2.2.2.1, fa_le]; omega) (by decide)
  · have e : F + 1 = 840 := by omega
    refine ⟨τ1, i1.1, st2.trans ?_⟩
    rw [e]
    exact g13_25_0 _ (by decide)
theorem c125r {σ : pmS} {s n : Nat} {w ch : Nat → Nat} (hs : s < 4) (h : iSy σ.1 s n w ch) {x v F : Nat} (hx : x < 2) (hv : okW v) (hF : F < 840) (hy : hm (gW σ.1 s v x) n (F + 1) = true) (hno : ∀ j, j < F → hm (gW σ.1 s v x) n (j + 1) = false) : ∃ τ, (∀ c o k, ¬ (c = 10 ∧ k = 9) → τ.1 c o k = σ.1 c o k) ∧ pq_Rn (pq_RD 59) (125, 40, [some (vR 10 0 0), some (vI (nI s)), some (vI (nI x)), some (vI (nI v)), some (vI 0), none, none], [], σ) = some (some (vI (nI (F + 1))), τ) := by
  have h8 := h.2.1
  have es : (nI s).toNatClampNeg = s := nI_clamp (by omega)
  have vs : vp_in (nI s) 4 := vp_in_nI hs (by omega)
  obtain ⟨τ0, i0, r0⟩ := lp_ex (C := pq_RD 59) (S := pmS) (I := fun k τ => rowI σ 10 0 9 k (git (gW σ.1 s v x) 0) τ) (fr := fun k τ => (125, 40, [some (vR 10 0 0), some (vI (nI s)), some (vI (nI x)), some (vI (nI v)), some (vI (nI k)), none, none], [], τ)) (s0 := σ) ⟨fun _ _ _ _ => rfl, fun c hc => by omega⟩ (n := n) (fun k τ hk hI => by
    have ek : (nI k).toNatClampNeg = k := nI_clamp (by omega)
    refine ⟨pm_wi τ 10 0 9 k (nI k), ⟨fun c o j hj => by rw [wi_k hj, hI.1 c o j hj], fun c hc => ?_⟩, ?_⟩
    · by_cases e : c = k
      · subst e
        exact wi_s _ _ _ _ _ _
      · rw [wi_i e]
        exact hI.2 c (by omega)
    · refine (g125_40_1 _ vs (by rw [es, hI.1 10 0 0 (by omega), h.2.2.2.2.2.2.1]; exact nI_ge hk (by omega)) (vp_in_nI (by omega) (by omega))).trans ?_
      rw [ek, nI_1])
  have st : pq_Rn (pq_RD 59) (125, 40, [some (vR 10 0 0), some (vI (nI s)), some (vI (nI x)), some (vI (nI v)), some (vI 0), none, none], [], σ) = pq_Rn (pq_RD 59) (125, 72, [some (vR 10 0 0), some (vI (nI s)), some (vI (nI x)), some (vI (nI v)), some (vI (nI 0)), some (vI 0), none], [], τ0) := by
    refine Eq.trans r0 ?_
    exact g125_40_0 _ vs (by rw [es, i0.1 10 0 0 (by omega), h.2.2.2.2.2.2.1, fa_le]; omega)
  have one : ∀ (j : Nat) (τ : pmS) (l : Option pmV), rowI σ 10 0 9 n (git (gW σ.1 s v x) j) τ → ∃ τ', rowI σ 10 0 9 n (git (gW σ.1 s v x) (j + 1)) τ' ∧ pq_Rn (pq_RD 59) (125, 72, [some (vR 10 0 0), some (vI (nI s)), some (vI (nI x)), some (vI (nI v)), some (vI (nI j)), some (vI 0), l], [], τ) = pq_Rn (pq_RD 59) (125, 72, [some (vR 10 0 0), some (vI (nI s)), some (vI (nI x)), some (vI (nI v)), some (vI (nI (j + 1))), some (vI (bI (hm (gW σ.1 s v x) n (j + 1)))), some (vI (nI n))], [], τ') := fun j τ l hI => by
    obtain ⟨τ', i', r'⟩ := hm_inM hs h hx hv hI
    refine ⟨τ', i', (g125_72_0 _ rfl).trans ?_⟩
    rw [nI_1]
    exact r'
  obtain ⟨⟨τ1, l⟩, i1, r1⟩ := lp_ex (C := pq_RD 59) (S := pmS × Option pmV) (I := fun j τ => rowI σ 10 0 9 n (git (gW σ.1 s v x) j) τ.1) (fr := fun j τ => (125, 72, [some (vR 10 0 0), some (vI (nI s)), some (vI (nI x)), some (vI (nI v)), some (vI (nI j)), some (vI 0), τ.2], [], τ.1)) (s0 := (τ0, none)) i0 (n := F) (fun j τ hj hI => by
    obtain ⟨τ', i', r'⟩ := one j τ.1 τ.2 hI
    rw [hno j hj] at r'
    exact ⟨(τ', some (vI (nI n))), i', r'⟩)
  obtain ⟨τ', i', r'⟩ := one F τ1 l i1
  rw [hy] at r'
  exact ⟨τ', i'.1, st.trans (Eq.trans r1 (r'.trans (g125_72_1 _ (by decide))))⟩
theorem T_home {σ : pmS} (h : Inv σ) (s x v : Int32) : Tok 60 125 [vI s, vI x, vI v] σ := by
  obtain ⟨NS, NC, NP, hh⟩ := id h
  have hh : iAll σ.1 NS NC NP := hh
  obtain ⟨hT, hS, hC, hP, hW, hM, hO⟩ := id hh
  have hNS := hS.1
  have a1 := c86 58 (σ := σ) (x1 := s)
  have b1 := c106 58 (σ := σ) (x1 := s)
  rw [hS.2.1] at a1
  rw [hS.2.2.1] at b1
  have a2 := c89 58 (σ := σ) (x0 := x)
  have b2 := c118 58 (σ := σ) (x0 := x)
  have a3 := c91 58 (σ := σ) (x := v)
  have b3 := c117 58 (σ := σ) (x := v)
  cases q1 : sHas (nI NS) s with
  | false =>
    rw [q1] at a1 b1
    exact ⟨_, _, _, (m60 59).trans (g60_0_0 _ a1 rfl), (m125 59).trans (g125_0_0 _ b1 rfl), h⟩
  | true =>
    have hq1 := q1
    rw [q1] at a1 b1
    obtain ⟨es, hs⟩ := in_nI (sHas_in (by omega) q1) (by omega)
    have vs : vp_in s 4 := in_le (sHas_in (by omega) q1) hNS (by omega)
    obtain ⟨n, w, ch, hsy⟩ := hS.2.2.2.1 _ hs
    have hn2 := hsy.1
    have hn8 := hsy.2.1
    cases q3 : sSex x with
    | false =>
      rw [q3] at a2 b2
      exact ⟨_, _, _, (m60 59).trans (g60_0_1 _ a1 (by decide) a2 rfl), (m125 59).trans (g125_0_1 _ b1 (by decide) b2 rfl), h⟩
    | true =>
      rw [q3] at a2 b2
      obtain ⟨xn, hx, ex⟩ := sSex_n q3
      cases q4 : sWay v with
      | false =>
        rw [q4] at a3 b3
        exact ⟨_, _, _, (m60 59).trans (g60_0_2 _ a1 (by decide) a2 (by decide) a3 rfl), (m125 59).trans (g125_0_2 _ b1 (by decide) b2 (by decide) b3 rfl), h⟩
      | true =>
        rw [q4] at a3 b3
        obtain ⟨vn, ev, hv⟩ := sWay_v q4
        have r1 := c12 55 hsy (c := 0) (by omega) hx hv
        rw [← ex, ← ev] at r1
        have hx2 : (wf σ.1 s.toNatClampNeg vn 0 xn (wK vn)).2 < 2 := by rw [wf_2]; exact sx_lt hx _
        have lt2 := wf_lt hsy (v := vn) (x := xn) (c := 0) (by omega) (wK vn)
        have px := place_x (c := (wf σ.1 s.toNatClampNeg vn 0 xn (wK vn)).1) (x := (wf σ.1 s.toNatClampNeg vn 0 xn (wK vn)).2) (by omega) hx2
        have e2 : (wf σ.1 s.toNatClampNeg vn 0 xn (wK vn)).2 = sx vn xn (wK vn) := wf_2 _ _ _ _ _ _
        have sl := sx_lt (v := vn) hx (wK vn)
        have r2 := c122 57 (σ := σ) hx hv
        rw [← ex, ← ev] at r2
        by_cases e : sx vn xn (wK vn) = xn
        · obtain ⟨F, hF, hy, hno⟩ := hm_ex hsy vn xn
          obtain ⟨τ, o1, k13⟩ := c13 hsy hx hv hF hy hno
          rw [← ex, ← ev] at k13
          have o2 : ∀ j, j ≠ 6 → j ≠ 7 → τ.1 2 s.toNatClampNeg j = σ.1 2 s.toNatClampNeg j := fun j h6 _ => o1 2 _ j (by omega)
          have hsy2 : iSy τ.1 s.toNatClampNeg n w ch := iSy_o o2 (fun j _ => o1 10 0 j (by omega)) hsy
          have eg : gW τ.1 s.toNatClampNeg vn xn = gW σ.1 s.toNatClampNeg vn xn := by
            funext c
            unfold gW
            rw [wf_o o2]
          obtain ⟨ρ, o3, kr⟩ := c125r (by omega) hsy2 hx hv hF (by rw [eg]; exact hy) (by rw [eg]; exact hno)
          rw [← ex, ← ev, ← es] at kr
          have d1 := c106 58 (σ := τ) (x1 := s)
          rw [o1 10 0 4 (by omega), hS.2.2.1, hq1] at d1
          have d2 := c118 58 (σ := τ) (x0 := x)
          rw [q3] at d2
          have d3 := c117 58 (σ := τ) (x := v)
          rw [q4] at d3
          have d4 := c122 57 (σ := τ) hx hv
          rw [← ex, ← ev] at d4
          refine ⟨_, _, ρ, (m60 59).trans (g60_0_3 _ a1 (by decide) a2 (by decide) a3 (by decide) vs r1 (by rw [px, e2, e, ex]) k13), (m125 59).trans ((g125_0_3 _ d1 (by decide) d2 (by decide) d3 (by decide) d4 (by rw [e, ex])).trans kr), h.same (mask_eq (fun c o k hk => ?_))⟩
          rw [o3 c o k (fun z => by obtain ⟨rfl, rfl⟩ := z; exact absurd hk (by decide)), o1 c o k (fun z => by obtain ⟨rfl, rfl⟩ := z; exact absurd hk (by decide))]
        · have ne : ¬ nI (sx vn xn (wK vn)) = x := by
            rw [ex]
            intro z
            exact e ((nI_eq (by omega) (by omega)).mp z)
          exact ⟨_, _, _, (m60 59).trans (g60_0_4 _ a1 (by decide) a2 (by decide) a3 (by decide) vs r1 (by rw [px, e2]; exact ne)), (m125 59).trans (g125_0_4 _ b1 (by decide) b2 (by decide) b3 (by decide) r2 ne), h⟩
