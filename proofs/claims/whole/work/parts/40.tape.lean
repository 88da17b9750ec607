/-! the text of a system: where it is broken, where a letter is foreign, where one comes again -/
def sFit (b : Nat → Int32) (i : Nat) : Bool := decide (i < 47) && (if i % 6 = 1 then decide (b i = 43) else if i % 6 = 3 then decide (b i = 61) else if i % 6 = 5 then decide (b i = 59) else (!decide (b i < 97) && !decide (104 < b i)))
def sMis (b : Nat → Int32) (n : Nat) : Int32 := if fa_first (fun i => !sFit b i) n < n then nI (fa_first (fun i => !sFit b i) n) else if 11 ≤ n ∧ n % 6 = 5 then -1 else nI n
def sStr (b : Nat → Int32) (n : Nat) : Int32 := if fa_first (fun k => !decide (b (2 * k) - 97 < nI ((n + 1) / 6))) ((n + 1) / 2) < (n + 1) / 2 then nI (2 * fa_first (fun k => !decide (b (2 * k) - 97 < nI ((n + 1) / 6))) ((n + 1) / 2)) else -1
def rpF (b : Nat → Int32) (i : Nat) : Nat := fa_first (fun m => decide (b (i - 6 * (m + 1)) = b i)) (i / 6)
def rp (b : Nat → Int32) (i : Nat) : Bool := decide (rpF b i < i / 6)
def sRep (b : Nat → Int32) (n : Nat) : Int32 := if fa_first (fun k => rp b (2 * k)) ((n + 1) / 2) < (n + 1) / 2 then nI (2 * fa_first (fun k => rp b (2 * k)) ((n + 1) / 2)) else -1
theorem sFit_cong {b b' : Nat → Int32} {i : Nat} (h : b i = b' i) : sFit b i = sFit b' i := by
  unfold sFit
  rw [h]
theorem sMis_cong {b b' : Nat → Int32} {n : Nat} (h : ∀ i, i < n → b i = b' i) : sMis b n = sMis b' n := by
  unfold sMis
  rw [fa_first_cong (p := fun i => !sFit b i) (q := fun i => !sFit b' i) (fun k hk => by rw [sFit_cong (h k hk)])]
theorem sStr_cong {b b' : Nat → Int32} {n : Nat} (h : ∀ i, i < n → b i = b' i) : sStr b n = sStr b' n := by
  unfold sStr
  rw [fa_first_cong (p := fun k => !decide (b (2 * k) - 97 < nI ((n + 1) / 6))) (q := fun k => !decide (b' (2 * k) - 97 < nI ((n + 1) / 6))) (fun k hk => by rw [h (2 * k) (by omega)])]
theorem rp_cong {b b' : Nat → Int32} {i : Nat} (h : ∀ j, j ≤ i → b j = b' j) : rp b i = rp b' i := by
  unfold rp rpF
  rw [fa_first_cong (p := fun m => decide (b (i - 6 * (m + 1)) = b i)) (q := fun m => decide (b' (i - 6 * (m + 1)) = b' i)) (fun k hk => by rw [h i (by omega), h (i - 6 * (k + 1)) (by omega)])]
theorem sRep_cong {b b' : Nat → Int32} {n : Nat} (h : ∀ i, i < n → b i = b' i) : sRep b n = sRep b' n := by
  unfold sRep
  rw [fa_first_cong (p := fun k => rp b (2 * k)) (q := fun k => rp b' (2 * k)) (fun k hk => rp_cong (fun j hj => h j (by omega)))]
theorem rem6 {m : Nat} (h : m < 2 ^ 31) : nI m - nI m / (6 : Int32) * (6 : Int32) = nI (m % 6) := pk_rem (d := 6) h (by decide) (by decide)
theorem c44 (d : Nat) {σ : pmS} {i : Nat} (hi : i < 60) : pq_RD (d + 1) 44 [vR 6 0 0, vI (nI i)] σ = some (some (vI (bI (sFit (σ.1 6 0 0) i))), σ) := by
  have ei : (nI i).toNatClampNeg = i := nI_clamp (by omega)
  have hv : vp_in (nI i) 60 := vp_in_nI hi (by omega)
  have r6 := rem6 (m := i) (by omega)
  unfold sFit
  rcases Nat.lt_or_ge i 47 with h | h
  · have g : nI i < 47 := nI_lt (b := 47) h (by decide)
    have ne : ∀ a b : Nat, a < 6 → b < 6 → a ≠ b → ¬ nI a = nI b := fun a b ha hb hab z => hab ((nI_eq (by omega) (by omega)).mp z)
    rw [show decide (i < 47) = true by simp [h], Bool.true_and]
    have fin : ∀ b : Bool, pq_Rn (pq_RD d) (44, 126, [some (vR 6 0 0), some (vI (nI i))], [vI (bI b)], σ) = some (some (vI (bI b)), σ) := fun b => g44_126_0 _ (bI_01 b)
    rcases (by omega : i % 6 = 0 ∨ i % 6 = 1 ∨ i % 6 = 2 ∨ i % 6 = 3 ∨ i % 6 = 4 ∨ i % 6 = 5) with e | e | e | e | e | e
    · rw [e] at r6
      rw [e, if_neg (by decide), if_neg (by decide), if_neg (by decide)]
      by_cases y1 : σ.1 6 0 0 i < 97
      · rw [show (!decide (σ.1 6 0 0 i < 97) && !decide (104 < σ.1 6 0 0 i)) = false by simp [y1]]
        exact (m44 d).trans ((g44_0_12 _ g (by rw [r6]; decide) (by rw [r6]; decide) (by rw [r6]; decide) (by rw [r6]; decide) (by rw [r6]; decide) hv (by rw [ei]; exact y1)).trans ((g44_125_0 _).trans (fin false)))
      · by_cases y2 : 104 < σ.1 6 0 0 i
        · rw [show (!decide (σ.1 6 0 0 i < 97) && !decide (104 < σ.1 6 0 0 i)) = false by simp [y2]]
          exact (m44 d).trans ((g44_0_13 _ g (by rw [r6]; decide) (by rw [r6]; decide) (by rw [r6]; decide) (by rw [r6]; decide) (by rw [r6]; decide) hv (by rw [ei]; exact y1) (by rw [ei]; exact y2)).trans ((g44_125_0 _).trans (fin false)))
        · rw [show (!decide (σ.1 6 0 0 i < 97) && !decide (104 < σ.1 6 0 0 i)) = true by simp [y1, y2]]
          exact (m44 d).trans ((g44_0_14 _ g (by rw [r6]; decide) (by rw [r6]; decide) (by rw [r6]; decide) (by rw [r6]; decide) (by rw [r6]; decide) hv (by rw [ei]; exact y1) (by rw [ei]; exact y2)).trans (fin true))
    · rw [e] at r6
      rw [e, if_pos rfl]
      by_cases y : σ.1 6 0 0 i = 43
      · rw [show decide (σ.1 6 0 0 i = 43) = true by simp [y]]
        exact (m44 d).trans ((g44_0_0 _ g r6 hv (by rw [ei]; exact y)).trans (g44_64_0 _ (Or.inr rfl)))
      · rw [show decide (σ.1 6 0 0 i = 43) = false by simp [y]]
        exact (m44 d).trans ((g44_0_1 _ g r6 hv (by rw [ei]; exact y)).trans (g44_64_0 _ (Or.inl rfl)))
    · rw [e] at r6
      rw [e, if_neg (by decide), if_neg (by decide), if_neg (by decide)]
      by_cases y1 : σ.1 6 0 0 i < 97
      · rw [show (!decide (σ.1 6 0 0 i < 97) && !decide (104 < σ.1 6 0 0 i)) = false by simp [y1]]
        exact (m44 d).trans ((g44_0_2 _ g r6 hv (by rw [ei]; exact y1)).trans ((g44_125_0 _).trans (fin false)))
      · by_cases y2 : 104 < σ.1 6 0 0 i
        · rw [show (!decide (σ.1 6 0 0 i < 97) && !decide (104 < σ.1 6 0 0 i)) = false by simp [y2]]
          exact (m44 d).trans ((g44_0_3 _ g r6 hv (by rw [ei]; exact y1) (by rw [ei]; exact y2)).trans ((g44_125_0 _).trans (fin false)))
        · rw [show (!decide (σ.1 6 0 0 i < 97) && !decide (104 < σ.1 6 0 0 i)) = true by simp [y1, y2]]
          exact (m44 d).trans ((g44_0_4 _ g r6 hv (by rw [ei]; exact y1) (by rw [ei]; exact y2)).trans (fin true))
    · rw [e] at r6
      rw [e, if_neg (by decide), if_pos rfl]
      by_cases y : σ.1 6 0 0 i = 61
      · rw [show decide (σ.1 6 0 0 i = 61) = true by simp [y]]
        exact (m44 d).trans ((g44_0_5 _ g r6 hv (by rw [ei]; exact y)).trans (g44_81_0 _ (Or.inr rfl)))
      · rw [show decide (σ.1 6 0 0 i = 61) = false by simp [y]]
        exact (m44 d).trans ((g44_0_6 _ g r6 hv (by rw [ei]; exact y)).trans (g44_81_0 _ (Or.inl rfl)))
    · rw [e] at r6
      rw [e, if_neg (by decide), if_neg (by decide), if_neg (by decide)]
      by_cases y1 : σ.1 6 0 0 i < 97
      · rw [show (!decide (σ.1 6 0 0 i < 97) && !decide (104 < σ.1 6 0 0 i)) = false by simp [y1]]
        exact (m44 d).trans ((g44_0_7 _ g r6 hv (by rw [ei]; exact y1)).trans ((g44_125_0 _).trans (fin false)))
      · by_cases y2 : 104 < σ.1 6 0 0 i
        · rw [show (!decide (σ.1 6 0 0 i < 97) && !decide (104 < σ.1 6 0 0 i)) = false by simp [y2]]
          exact (m44 d).trans ((g44_0_8 _ g r6 hv (by rw [ei]; exact y1) (by rw [ei]; exact y2)).trans ((g44_125_0 _).trans (fin false)))
        · rw [show (!decide (σ.1 6 0 0 i < 97) && !decide (104 < σ.1 6 0 0 i)) = true by simp [y1, y2]]
          exact (m44 d).trans ((g44_0_9 _ g r6 hv (by rw [ei]; exact y1) (by rw [ei]; exact y2)).trans (fin true))
    · rw [e] at r6
      rw [e, if_neg (by decide), if_neg (by decide), if_pos rfl]
      by_cases y : σ.1 6 0 0 i = 59
      · rw [show decide (σ.1 6 0 0 i = 59) = true by simp [y]]
        exact (m44 d).trans ((g44_0_10 _ g r6 hv (by rw [ei]; exact y)).trans (g44_98_0 _ (Or.inr rfl)))
      · rw [show decide (σ.1 6 0 0 i = 59) = false by simp [y]]
        exact (m44 d).trans ((g44_0_11 _ g r6 hv (by rw [ei]; exact y)).trans (g44_98_0 _ (Or.inl rfl)))
  · rw [show decide (i < 47) = false by simp; omega, Bool.false_and]
    exact (m44 d).trans (g44_0_15 _ (nI_nlt (b := 47) h (by omega)))
theorem c43 (d : Nat) {σ : pmS} {n : Nat} (hn : n ≤ 60) (h : σ.1 6 0 1 0 = nI n) : pq_RD (d + 2) 43 [vR 6 0 0] σ = some (some (vI (sMis (σ.1 6 0 0) n)), σ) := by
  refine (m43 (d + 1)).trans ((g43_0_0 _).trans ?_)
  refine (lp_first (C := pq_RD (d + 1)) (fr := fun k => (43, 2, [some (vR 6 0 0), some (vI (nI k))], [], σ)) (p := fun i => !sFit (σ.1 6 0 0) i) (n := n) (fun k hk hq => ?_)).trans ?_
  · have r := c44 d (σ := σ) (i := k) (by omega)
    rw [show sFit (σ.1 6 0 0) k = true by simpa using hq] at r
    rw [← nI_1]
    exact g43_2_4 _ (by rw [h]; exact nI_ge hk (by omega)) r (by decide)
  · unfold sMis
    have hle := fa_first_le (fun i => !sFit (σ.1 6 0 0) i) n
    have hyes := fa_first_yes (fun i => !sFit (σ.1 6 0 0) i) n
    generalize fa_first (fun i => !sFit (σ.1 6 0 0) i) n = K at hle hyes
    rcases Nat.lt_or_ge K n with hK | hK
    · rw [if_pos hK]
      have r := c44 d (σ := σ) (i := K) (by omega)
      rw [show sFit (σ.1 6 0 0) K = false by simpa using hyes hK] at r
      exact g43_2_3 _ (by rw [h]; exact nI_ge hK (by omega)) r rfl
    · have : K = n := by omega
      subst this
      rw [if_neg (by omega)]
      have hg : σ.1 6 0 1 0 ≤ nI K := by rw [h, fa_le]; omega
      have r6 := rem6 (m := K) (by omega)
      rcases Nat.lt_or_ge K 11 with h1 | h1
      · rw [if_neg (by omega)]
        refine (g43_2_0 _ hg (by rw [h]; exact nI_lt (b := 11) h1 (by decide))).trans ?_
        rw [h]
      · by_cases h2 : K % 6 = 5
        · rw [if_pos ⟨h1, h2⟩]
          exact g43_2_1 _ hg (by rw [h]; exact nI_nlt (b := 11) h1 (by omega)) (by rw [h, r6, h2]; rfl)
        · rw [if_neg (fun z => h2 z.2)]
          refine (g43_2_2 _ hg (by rw [h]; exact nI_nlt (b := 11) h1 (by omega)) (by rw [h, r6]; intro z; exact h2 ((nI_eq (b := 5) (by omega) (by decide)).mp z))).trans ?_
          rw [h]
theorem c109 (d : Nat) {σ : pmS} {x : Int32} : pq_RD (d + 1) 109 [vI x] σ = some (some (vI (bI (!decide (x < 97) && !decide (104 < x)))), σ) := by
  by_cases y1 : x < 97
  · exact (m109 d).trans ((g109_0_0 _ y1).trans (by simp [y1, bI]))
  · by_cases y2 : 104 < x
    · exact (m109 d).trans ((g109_0_1 _ y1 y2).trans (by simp [y2, bI]))
    · exact (m109 d).trans ((g109_0_2 _ y1 y2).trans (by simp [y1, y2, bI]))
theorem c110 (d : Nat) {σ : pmS} {n : Nat} (hn : n ≤ 60) (h : σ.1 10 0 6 0 = nI n) : pq_RD (d + 2) 110 [vR 10 0 0] σ = some (some (vI (sMis (σ.1 10 0 5) n)), σ) := by
  -- to the check of the byte at k
  have at96 : ∀ k l2 l3, k < n → ∃ l2' b, pq_Rn (pq_RD (d + 1)) (110, 2, [some (vR 10 0 0), some (vI (nI k)), l2, l3], [], σ) = pq_Rn (pq_RD (d + 1)) (110, 96, [some (vR 10 0 0), some (vI (nI k)), l2', l3], [vI (bI b)], σ) ∧ sFit (σ.1 10 0 5) k = (decide (k < 47) && b) := fun k l2 l3 hk => by
    have ek : (nI k).toNatClampNeg = k := nI_clamp (by omega)
    have hv : vp_in (nI k) 60 := vp_in_nI (by omega) (by omega)
    have hg : ¬ σ.1 10 0 6 0 ≤ nI k := by rw [h]; exact nI_ge hk (by omega)
    have r6 := rem6 (m := k) (by omega)
    unfold sFit
    rcases (by omega : k % 6 = 0 ∨ k % 6 = 1 ∨ k % 6 = 2 ∨ k % 6 = 3 ∨ k % 6 = 4 ∨ k % 6 = 5) with e | e | e | e | e | e <;> rw [e] at r6
    · rw [e, if_neg (by decide), if_neg (by decide), if_neg (by decide)]
      exact ⟨_, _, g110_2_9 _ hg (by rw [r6]; decide) (by rw [r6]; decide) (by rw [r6]; decide) hv (by rw [ek]; exact c109 d), rfl⟩
    · rw [e, if_pos rfl]
      by_cases y : σ.1 10 0 5 k = 43
      · exact ⟨_, true, g110_2_3 _ hg r6 hv (by rw [ek]; exact y), by simp [y]⟩
      · exact ⟨_, false, g110_2_4 _ hg r6 hv (by rw [ek]; exact y), by simp [y]⟩
    · rw [e, if_neg (by decide), if_neg (by decide), if_neg (by decide)]
      exact ⟨_, _, g110_2_9 _ hg (by rw [r6]; decide) (by rw [r6]; decide) (by rw [r6]; decide) hv (by rw [ek]; exact c109 d), rfl⟩
    · rw [e, if_neg (by decide), if_pos rfl]
      by_cases y : σ.1 10 0 5 k = 61
      · exact ⟨_, true, g110_2_5 _ hg (by rw [r6]; decide) r6 hv (by rw [ek]; exact y), by simp [y]⟩
      · exact ⟨_, false, g110_2_6 _ hg (by rw [r6]; decide) r6 hv (by rw [ek]; exact y), by simp [y]⟩
    · rw [e, if_neg (by decide), if_neg (by decide), if_neg (by decide)]
      exact ⟨_, _, g110_2_9 _ hg (by rw [r6]; decide) (by rw [r6]; decide) (by rw [r6]; decide) hv (by rw [ek]; exact c109 d), rfl⟩
    · rw [e, if_neg (by decide), if_neg (by decide), if_pos rfl]
      by_cases y : σ.1 10 0 5 k = 59
      · exact ⟨_, true, g110_2_7 _ hg (by rw [r6]; decide) (by rw [r6]; decide) r6 hv (by rw [ek]; exact y), by simp [y]⟩
      · exact ⟨_, false, g110_2_8 _ hg (by rw [r6]; decide) (by rw [r6]; decide) r6 hv (by rw [ek]; exact y), by simp [y]⟩
  obtain ⟨⟨l2, l3⟩, -, hr⟩ := lp_ex (C := pq_RD (d + 1)) (S := Option pmV × Option pmV) (I := fun _ _ => True) (fr := fun k l => (110, 2, [some (vR 10 0 0), some (vI (nI k)), l.1, l.2], [], σ)) (s0 := (none, none)) trivial (n := fa_first (fun i => !sFit (σ.1 10 0 5) i) n) (fun k l hk _ => by
    have hkn : k < n := Nat.lt_of_lt_of_le hk (fa_first_le _ n)
    have hq := fa_first_no _ n k hk
    have hf : sFit (σ.1 10 0 5) k = true := by simpa using hq
    obtain ⟨l2', b, e1, e2⟩ := at96 k l.1 l.2 hkn
    rw [hf] at e2
    have h2 : k < 47 ∧ b = true := by simpa using e2.symm
    rw [h2.2] at e1
    refine ⟨(l2', some (vI 1)), trivial, e1.trans ?_⟩
    rw [← nI_1]
    exact g110_96_1 _ (by decide) (nI_lt (b := 47) h2.1 (by decide)))
  refine (m110 (d + 1)).trans ((g110_0_0 _).trans (Eq.trans hr ?_))
  unfold sMis
  have hle := fa_first_le (fun i => !sFit (σ.1 10 0 5) i) n
  have hyes := fa_first_yes (fun i => !sFit (σ.1 10 0 5) i) n
  generalize fa_first (fun i => !sFit (σ.1 10 0 5) i) n = K at hle hyes
  rcases Nat.lt_or_ge K n with hK | hK
  · rw [if_pos hK]
    have hf : sFit (σ.1 10 0 5) K = false := by simpa using hyes hK
    obtain ⟨l2', b, e1, e2⟩ := at96 K l2 l3 hK
    rw [hf] at e2
    refine e1.trans ?_
    cases b with
    | false => exact (g110_96_0 _ rfl).trans (g110_107_0 _)
    | true =>
      have h47 : ¬ K < 47 := by simpa using e2.symm
      exact (g110_96_2 _ (by decide) (nI_nlt (b := 47) (by omega) (by omega))).trans (g110_107_0 _)
  · have : K = n := by omega
    subst this
    rw [if_neg (by omega)]
    have hg : σ.1 10 0 6 0 ≤ nI K := by rw [h, fa_le]; omega
    have r6 := rem6 (m := K) (by omega)
    by_cases h2 : K % 6 = 5
    · rcases Nat.lt_or_ge K 11 with h1 | h1
      · rw [if_neg (by omega)]
        refine ((g110_2_0 _ hg (by rw [h, r6, h2]; rfl) (by rw [h]; exact nI_lt (b := 11) h1 (by decide))).trans (g110_139_0 _)).trans ?_
        rw [h]
        exact g110_143_0 _
      · rw [if_pos ⟨h1, h2⟩]
        exact (g110_2_1 _ hg (by rw [h, r6, h2]; rfl) (by rw [h]; exact nI_nlt (b := 11) h1 (by omega))).trans (g110_143_0 _)
    · rw [if_neg (fun z => h2 z.2)]
      refine ((g110_2_2 _ hg (by rw [h, r6]; intro z; exact h2 ((nI_eq (b := 5) (by omega) (by decide)).mp z))).trans (g110_139_0 _)).trans ?_
      rw [h]
      exact g110_143_0 _
theorem quo6 {n : Nat} (h : n ≤ 60) : (nI n + 1) / (6 : Int32) = nI ((n + 1) / 6) := by
  rw [nI_1]
  exact pk_div (d := 6) (by omega) (by decide) (by decide)
theorem c45 (d : Nat) {σ : pmS} {n : Nat} (hn : n ≤ 60) (h : σ.1 6 0 1 0 = nI n) : pq_RD (d + 1) 45 [vR 6 0 0] σ = some (some (vI (sStr (σ.1 6 0 0) n)), σ) := by
  refine (m45 d).trans ((g45_0_0 _).trans ?_)
  rw [h, quo6 hn]
  refine (lp_first (C := pq_RD d) (fr := fun k => (45, 12, [some (vR 6 0 0), some (vI (nI ((n + 1) / 6))), some (vI (nI (2 * k)))], [], σ)) (p := fun k => !decide (σ.1 6 0 0 (2 * k) - 97 < nI ((n + 1) / 6))) (n := (n + 1) / 2) (fun k hk hq => ?_)).trans ?_
  · have ek : (nI (2 * k)).toNatClampNeg = 2 * k := nI_clamp (by omega)
    have en : nI (2 * k) + 2 = nI (2 * (k + 1)) := nI_add (2 * k) 2
    rw [← en]
    exact g45_12_1 _ (by rw [h]; exact nI_ge (by omega) (by omega)) (vp_in_nI (by omega) (by omega)) (by rw [ek]; simpa using hq)
  · unfold sStr
    have hle := fa_first_le (fun k => !decide (σ.1 6 0 0 (2 * k) - 97 < nI ((n + 1) / 6))) ((n + 1) / 2)
    have hyes := fa_first_yes (fun k => !decide (σ.1 6 0 0 (2 * k) - 97 < nI ((n + 1) / 6))) ((n + 1) / 2)
    generalize fa_first (fun k => !decide (σ.1 6 0 0 (2 * k) - 97 < nI ((n + 1) / 6))) ((n + 1) / 2) = K at hle hyes
    rcases Nat.lt_or_ge K ((n + 1) / 2) with hK | hK
    · have ek : (nI (2 * K)).toNatClampNeg = 2 * K := nI_clamp (by omega)
      rw [if_pos hK]
      exact g45_12_2 _ (by rw [h]; exact nI_ge (by omega) (by omega)) (vp_in_nI (by omega) (by omega)) (by rw [ek]; simpa using hyes hK)
    · rw [if_neg (by omega)]
      exact g45_12_0 _ (by rw [h]; exact nI_le (by omega) (by omega))
theorem c111 (d : Nat) {σ : pmS} {n : Nat} (hn : n ≤ 60) (h : σ.1 10 0 6 0 = nI n) : pq_RD (d + 1) 111 [vR 10 0 0, vI (nI ((n + 1) / 6))] σ = some (some (vI (sStr (σ.1 10 0 5) n)), σ) := by
  refine (m111 d).trans ((g111_0_0 _).trans ?_)
  refine (lp_first (C := pq_RD d) (fr := fun k => (111, 2, [some (vR 10 0 0), some (vI (nI ((n + 1) / 6))), some (vI (nI (2 * k)))], [], σ)) (p := fun k => !decide (σ.1 10 0 5 (2 * k) - 97 < nI ((n + 1) / 6))) (n := (n + 1) / 2) (fun k hk hq => ?_)).trans ?_
  · have ek : (nI (2 * k)).toNatClampNeg = 2 * k := nI_clamp (by omega)
    have en : nI (2 * k) + 2 = nI (2 * (k + 1)) := nI_add (2 * k) 2
    rw [← en]
    exact g111_2_1 _ (by rw [h]; exact nI_ge (by omega) (by omega)) (vp_in_nI (by omega) (by omega)) (by rw [ek]; simpa using hq)
  · unfold sStr
    have hle := fa_first_le (fun k => !decide (σ.1 10 0 5 (2 * k) - 97 < nI ((n + 1) / 6))) ((n + 1) / 2)
    have hyes := fa_first_yes (fun k => !decide (σ.1 10 0 5 (2 * k) - 97 < nI ((n + 1) / 6))) ((n + 1) / 2)
    generalize fa_first (fun k => !decide (σ.1 10 0 5 (2 * k) - 97 < nI ((n + 1) / 6))) ((n + 1) / 2) = K at hle hyes
    rcases Nat.lt_or_ge K ((n + 1) / 2) with hK | hK
    · have ek : (nI (2 * K)).toNatClampNeg = 2 * K := nI_clamp (by omega)
      rw [if_pos hK]
      exact g111_2_2 _ (by rw [h]; exact nI_ge (by omega) (by omega)) (vp_in_nI (by omega) (by omega)) (by rw [ek]; simpa using hyes hK)
    · rw [if_neg (by omega)]
      exact g111_2_0 _ (by rw [h]; exact nI_le (by omega) (by omega))
/-- the way back by sixes -/
theorem by6 {i m : Nat} (h : m < i / 6) : nI (i - 6 * m) - 6 = nI (i - 6 * (m + 1)) ∧ nI (i - 6 * m) - 6 + (-6) = nI (i - 6 * (m + 1)) - 6 := by
  have e : nI (i - 6 * m) - 6 = nI (i - 6 * (m + 1)) := (pk_sub (a := i - 6 * m) (b := 6) (by omega)).trans (congrArg nI (by omega))
  exact ⟨e, by rw [e]; exact (Int32.sub_eq_add_neg _ 6).symm⟩
theorem by6_end {i : Nat} (h : i < 60) : nI (i - 6 * (i / 6)) - 6 < 0 := pk_sneg (a := i - 6 * (i / 6)) (b := 6) (by omega) (by omega)
theorem rep_in (C : pmC) {σ : pmS} {i : Nat} (hi : i < 60) : (rp (σ.1 6 0 0) i = true → pq_Rn C (46, 16, [some (vR 6 0 0), some (vI (nI i)), some (vI (nI i - 6))], [], σ) = some (some (vI (nI i)), σ)) ∧ (rp (σ.1 6 0 0) i = false → ∃ l, pq_Rn C (46, 16, [some (vR 6 0 0), some (vI (nI i)), some (vI (nI i - 6))], [], σ) = pq_Rn C (46, 3, [some (vR 6 0 0), some (vI (nI i + 2)), l], [], σ)) := by
  have ei : (nI i).toNatClampNeg = i := nI_clamp (by omega)
  have hv : vp_in (nI i) 60 := vp_in_nI hi (by omega)
  have run := lp_first (C := C) (fr := fun m => (46, 16, [some (vR 6 0 0), some (vI (nI i)), some (vI (nI (i - 6 * m) - 6))], [], σ)) (p := fun m => decide (σ.1 6 0 0 (i - 6 * (m + 1)) = σ.1 6 0 0 i)) (n := i / 6) (fun m hm hq => by
    obtain ⟨e1, e2⟩ := by6 hm
    have em : (nI (i - 6 * (m + 1))).toNatClampNeg = i - 6 * (m + 1) := nI_clamp (by omega)
    refine (g46_16_2 _ (by rw [e1]; exact nI_pos (by omega)) (by rw [e1]; exact vp_in_nI (by omega) (by omega)) hv (by rw [e1, em, ei]; exact of_decide_eq_false hq)).trans ?_
    rw [e2])
  have run : pq_Rn C (46, 16, [some (vR 6 0 0), some (vI (nI i)), some (vI (nI i - 6))], [], σ) = pq_Rn C (46, 16, [some (vR 6 0 0), some (vI (nI i)), some (vI (nI (i - 6 * rpF (σ.1 6 0 0) i) - 6))], [], σ) := run
  have hle : rpF (σ.1 6 0 0) i ≤ i / 6 := fa_first_le _ _
  have hyes := fa_first_yes (fun m => decide (σ.1 6 0 0 (i - 6 * (m + 1)) = σ.1 6 0 0 i)) (i / 6)
  unfold rp
  constructor
  · intro hr
    have hK : rpF (σ.1 6 0 0) i < i / 6 := of_decide_eq_true hr
    obtain ⟨e1, e2⟩ := by6 hK
    have em : (nI (i - 6 * (rpF (σ.1 6 0 0) i + 1))).toNatClampNeg = i - 6 * (rpF (σ.1 6 0 0) i + 1) := nI_clamp (by omega)
    exact run.trans (g46_16_1 _ (by rw [e1]; exact nI_pos (by omega)) (by rw [e1]; exact vp_in_nI (by omega) (by omega)) hv (by rw [e1, em, ei]; exact of_decide_eq_true (hyes hK)))
  · intro hr
    have hK : ¬ rpF (σ.1 6 0 0) i < i / 6 := of_decide_eq_false hr
    have e : rpF (σ.1 6 0 0) i = i / 6 := by omega
    exact ⟨_, run.trans (g46_16_0 _ (by rw [e]; exact by6_end hi))⟩
theorem rep_inM (C : pmC) {σ : pmS} {i : Nat} (hi : i < 60) : (rp (σ.1 10 0 5) i = true → pq_Rn C (112, 15, [some (vR 10 0 0), some (vI (nI i)), some (vI (nI i - 6))], [], σ) = some (some (vI (nI i)), σ)) ∧ (rp (σ.1 10 0 5) i = false → ∃ l, pq_Rn C (112, 15, [some (vR 10 0 0), some (vI (nI i)), some (vI (nI i - 6))], [], σ) = pq_Rn C (112, 2, [some (vR 10 0 0), some (vI (nI i + 2)), l], [], σ)) := by
  have ei : (nI i).toNatClampNeg = i := nI_clamp (by omega)
  have hv : vp_in (nI i) 60 := vp_in_nI hi (by omega)
  have run := lp_first (C := C) (fr := fun m => (112, 15, [some (vR 10 0 0), some (vI (nI i)), some (vI (nI (i - 6 * m) - 6))], [], σ)) (p := fun m => decide (σ.1 10 0 5 (i - 6 * (m + 1)) = σ.1 10 0 5 i)) (n := i / 6) (fun m hm hq => by
    obtain ⟨e1, e2⟩ := by6 hm
    have em : (nI (i - 6 * (m + 1))).toNatClampNeg = i - 6 * (m + 1) := nI_clamp (by omega)
    refine (g112_15_2 _ (by rw [e1]; exact nI_pos (by omega)) (by rw [e1]; exact vp_in_nI (by omega) (by omega)) hv (by rw [e1, em, ei]; exact of_decide_eq_false hq)).trans ?_
    rw [e2])
  have run : pq_Rn C (112, 15, [some (vR 10 0 0), some (vI (nI i)), some (vI (nI i - 6))], [], σ) = pq_Rn C (112, 15, [some (vR 10 0 0), some (vI (nI i)), some (vI (nI (i - 6 * rpF (σ.1 10 0 5) i) - 6))], [], σ) := run
  have hle : rpF (σ.1 10 0 5) i ≤ i / 6 := fa_first_le _ _
  have hyes := fa_first_yes (fun m => decide (σ.1 10 0 5 (i - 6 * (m + 1)) = σ.1 10 0 5 i)) (i / 6)
  unfold rp
  constructor
  · intro hr
    have hK : rpF (σ.1 10 0 5) i < i / 6 := of_decide_eq_true hr
    obtain ⟨e1, e2⟩ := by6 hK
    have em : (nI (i - 6 * (rpF (σ.1 10 0 5) i + 1))).toNatClampNeg = i - 6 * (rpF (σ.1 10 0 5) i + 1) := nI_clamp (by omega)
    exact run.trans (g112_15_1 _ (by rw [e1]; exact nI_pos (by omega)) (by rw [e1]; exact vp_in_nI (by omega) (by omega)) hv (by rw [e1, em, ei]; exact of_decide_eq_true (hyes hK)))
  · intro hr
    have hK : ¬ rpF (σ.1 10 0 5) i < i / 6 := of_decide_eq_false hr
    have e : rpF (σ.1 10 0 5) i = i / 6 := by omega
    exact ⟨_, run.trans (g112_15_0 _ (by rw [e]; exact by6_end hi))⟩
theorem rp_low {b : Nat → Int32} {i : Nat} (h : i < 6) : rp b i = false := by
  unfold rp
  rw [decide_eq_false_iff_not]
  omega
theorem c46 (d : Nat) {σ : pmS} {n : Nat} (hn : n ≤ 60) (h : σ.1 6 0 1 0 = nI n) : pq_RD (d + 1) 46 [vR 6 0 0] σ = some (some (vI (sRep (σ.1 6 0 0) n)), σ) := by
  refine (m46 d).trans ((g46_0_0 _).trans ?_)
  unfold sRep
  have hle := fa_first_le (fun k => rp (σ.1 6 0 0) (2 * k)) ((n + 1) / 2)
  have hyes := fa_first_yes (fun k => rp (σ.1 6 0 0) (2 * k)) ((n + 1) / 2)
  have hno := fa_first_no (fun k => rp (σ.1 6 0 0) (2 * k)) ((n + 1) / 2)
  generalize fa_first (fun k => rp (σ.1 6 0 0) (2 * k)) ((n + 1) / 2) = K at hle hyes hno
  rcases Nat.lt_or_ge K 3 with h3 | h3
  · have hK : ¬ K < (n + 1) / 2 := fun hK => by
      have := hyes hK
      rw [rp_low (by omega)] at this
      cases this
    rw [if_neg hK]
    exact g46_3_0 _ (by rw [h]; exact nI_le (b := 6) (by omega) (by decide))
  · obtain ⟨l, -, hr⟩ := lp_ex (C := pq_RD d) (S := Option pmV) (I := fun _ _ => True) (fr := fun j l => (46, 3, [some (vR 6 0 0), some (vI (nI (6 + 2 * j))), l], [], σ)) (s0 := none) trivial (n := K - 3) (fun j l hj _ => by
      have hq := hno (j + 3) (by omega)
      have e2 : 2 * (j + 3) = 6 + 2 * j := by omega
      rw [e2] at hq
      obtain ⟨l', e⟩ := (rep_in (pq_RD d) (σ := σ) (i := 6 + 2 * j) (by omega)).2 hq
      refine ⟨l', trivial, (g46_3_1 _ (by rw [h]; exact nI_ge (by omega) (by omega))).trans (e.trans ?_)⟩
      have en : nI (6 + 2 * j) + 2 = nI (6 + 2 * (j + 1)) := nI_add (6 + 2 * j) 2
      rw [en])
    have e3 : 6 + 2 * (K - 3) = 2 * K := by omega
    rw [e3] at hr
    refine Eq.trans hr ?_
    rcases Nat.lt_or_ge K ((n + 1) / 2) with hK | hK
    · rw [if_pos hK]
      exact (g46_3_1 _ (by rw [h]; exact nI_ge (by omega) (by omega))).trans ((rep_in (pq_RD d) (σ := σ) (i := 2 * K) (by omega)).1 (hyes hK))
    · rw [if_neg (by omega)]
      exact g46_3_0 _ (by rw [h]; exact nI_le (by omega) (by omega))
theorem c112 (d : Nat) {σ : pmS} {n : Nat} (hn : n ≤ 60) (h : σ.1 10 0 6 0 = nI n) : pq_RD (d + 1) 112 [vR 10 0 0] σ = some (some (vI (sRep (σ.1 10 0 5) n)), σ) := by
  refine (m112 d).trans ((g112_0_0 _).trans ?_)
  unfold sRep
  have hle := fa_first_le (fun k => rp (σ.1 10 0 5) (2 * k)) ((n + 1) / 2)
  have hyes := fa_first_yes (fun k => rp (σ.1 10 0 5) (2 * k)) ((n + 1) / 2)
  have hno := fa_first_no (fun k => rp (σ.1 10 0 5) (2 * k)) ((n + 1) / 2)
  generalize fa_first (fun k => rp (σ.1 10 0 5) (2 * k)) ((n + 1) / 2) = K at hle hyes hno
  obtain ⟨l, -, hr⟩ := lp_ex (C := pq_RD d) (S := Option pmV) (I := fun _ _ => True) (fr := fun j l => (112, 2, [some (vR 10 0 0), some (vI (nI (2 * j))), l], [], σ)) (s0 := none) trivial (n := K) (fun j l hj _ => by
    have hq := hno j hj
    obtain ⟨l', e⟩ := (rep_inM (pq_RD d) (σ := σ) (i := 2 * j) (by omega)).2 hq
    refine ⟨l', trivial, (g112_2_1 _ (by rw [h]; exact nI_ge (by omega) (by omega))).trans (e.trans ?_)⟩
    have en : nI (2 * j) + 2 = nI (2 * (j + 1)) := nI_add (2 * j) 2
    rw [en])
  refine Eq.trans hr ?_
  rcases Nat.lt_or_ge K ((n + 1) / 2) with hK | hK
  · rw [if_pos hK]
    exact (g112_2_1 _ (by rw [h]; exact nI_ge (by omega) (by omega))).trans ((rep_inM (pq_RD d) (σ := σ) (i := 2 * K) (by omega)).1 (hyes hK))
  · rw [if_neg (by omega)]
    exact g112_2_0 _ (by rw [h]; exact nI_le (by omega) (by omega))
