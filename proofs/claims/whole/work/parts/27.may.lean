/-! who may marry whom -/
def sSy (f : pmI) (p : Nat) (y : Int32) : Nat := (f 0 (f 5 0 3 p).toNatClampNeg 1 (lawIx f (f 5 0 3 p).toNatClampNeg y)).toNatClampNeg
def sRight (f : pmI) (m w : Nat) (y : Int32) : Bool := sHas (f 2 (sSy f w y) 8 0) (f 5 0 7 m) && decide (f 2 (sSy f w y) 0 (f 5 0 7 m).toNatClampNeg = f 5 0 7 w)
theorem pOk_y {f : pmI} {NS NC p : Nat} (h : pOk f NS NC p) (y : Int32) : ∃ c, c < 3 ∧ c < NC ∧ f 5 0 3 p = nI c ∧ iC1 f NS c ∧ sSy f p y < NS ∧ f 0 c 1 (lawIx f c y) = nI (sSy f p y) ∧ ∃ n, n ≤ 8 ∧ f 2 (sSy f p y) 8 0 = nI n := by
  obtain ⟨c, hc, hcN, e3, ec, h1⟩ := pOk_c h
  obtain ⟨nl, -, -, -, -, -, -, ⟨s, hs, es⟩, -⟩ := lawIx_ok h1 y
  have hNS := h.2.2.2.2.1
  have e2 : sSy f p y = s := by
    unfold sSy
    rw [ec, es, nI_clamp (by omega)]
  refine ⟨c, hc, hcN, e3, h1, by omega, by rw [es, e2], ?_⟩
  rw [e2]
  exact h.2.2.2.2.2 s hs
theorem c99 (d : Nat) {σ : pmS} {NS NC m w : Nat} {y : Int32} (hm : m < 48) (hw : pOk σ.1 NS NC w) : pq_RD (d + 3) 99 [vR 9 0 0, vI (nI m), vI (nI w), vI y] σ = some (some (vI (bI (sRight σ.1 m w y))), σ) := by
  obtain ⟨c, hc, -, e3, h1, s1, s2, n, hn, s3⟩ := pOk_y hw y
  have hNS := hw.2.2.2.2.1
  have hw48 := hw.1
  have ew : (nI w).toNatClampNeg = w := nI_clamp (by omega)
  have em : (nI m).toNatClampNeg = m := nI_clamp (by omega)
  have es : (nI (sSy σ.1 w y)).toNatClampNeg = sSy σ.1 w y := nI_clamp (by omega)
  have k1 := c92 d (σ := σ) (y := y) hc h1
  rw [s2] at k1
  have k2 := c9 (d + 1) (σ := σ) (o0 := sSy σ.1 w y) (x1 := σ.1 5 0 7 m)
  refine (m99 (d + 2)).trans ((t99_0 _ (vp_in_nI hw48 (by omega)) (by rw [ew, e3]; exact k1) (vp_in_nI (by omega) (by omega)) (vp_in_nI hm (by omega)) (by rw [em, es]; exact k2) (fun z => by rw [em]; exact in_le (sHas_in (N := n) (by omega) (by rw [← s3]; exact bI_n0.mp z)) hn (by omega))).trans ?_)
  rw [em, ew, es]
  simp only [bI_0]
  unfold sRight
  generalize sHas (σ.1 2 (sSy σ.1 w y) 8 0) (σ.1 5 0 7 m) = A
  cases A
  · simp [bI]
  · by_cases b : σ.1 2 (sSy σ.1 w y) 0 (σ.1 5 0 7 m).toNatClampNeg = σ.1 5 0 7 w <;> simp [b, bI]
theorem c148 (d : Nat) {σ τ : pmS} {NS NC NP m w : Nat} {y : Int32} (hS : iS σ.1 NS) (hC : iC σ.1 NS NC) (hP : iP σ.1 NC NP) (hI : fcI σ NP τ) (hm : m < NP) (hw : w < NP) : pq_RD (d + 3) 148 [vR 10 0 0, vI (nI m), vI (nI w), vI y] τ = some (some (vI (bI (sRight σ.1 m w y))), τ) := by
  have hNP := hP.1
  obtain ⟨c, hc, -, e3, h1, s1, s2, n, hn, s3⟩ := pOk_y (iAll_pOk hS hC hP hw) y
  obtain ⟨nl, n1, n5, -, n4, hl, -, -, l13, -, lmod⟩ := lawIx_ok h1 y
  obtain ⟨n', wi, ch, -, hn8, hwc, -, -, z1, z2, z3⟩ := hS.2.2.2.1 _ s1
  have en : n' = n := by
    rw [z1] at s3
    exact (nI_eq (by omega) (by omega)).mp s3
  subst en
  have g := hI.1
  have hNS := hS.1
  have ew : (nI w).toNatClampNeg = w := nI_clamp (by omega)
  have em : (nI m).toNatClampNeg = m := nI_clamp (by omega)
  have es : (nI (sSy σ.1 w y)).toNatClampNeg = sSy σ.1 w y := nI_clamp (by omega)
  have k1 := c137 (d + 1) (σ := τ) (c := c) (y := y) hc n1 n5 (by rw [g 10 0 11 (by omega)]; exact n4)
  rw [g 10 0 12 (by omega), lmod] at k1
  have er : (nI (5 * c + lawIx σ.1 c y)).toNatClampNeg = 5 * c + lawIx σ.1 c y := nI_clamp (by omega)
  have ksy : τ.1 10 0 13 (5 * c + lawIx σ.1 c y) = nI (sSy σ.1 w y) := by rw [g 10 0 13 (by omega), ← l13, s2]
  have t22 : τ.1 10 0 22 w = nI c := by rw [g 10 0 22 (by omega), ← (hP.2.2.2.1 w hw).2.2.2.1, e3]
  have om : τ.1 10 0 29 m = σ.1 5 0 7 m := (hI.2.2 m hm).1
  have ow : τ.1 10 0 29 w = σ.1 5 0 7 w := (hI.2.2 w hw).1
  have clw := (own_cl hS hC hP hw).1
  have hN4 : τ.1 10 0 4 0 = nI NS := by rw [g 10 0 4 (by omega)]; exact hS.2.2.1
  have k2 := c107 d (σ := τ) (x1 := nI (sSy σ.1 w y)) (x2 := σ.1 5 0 7 m) hNS hN4
  rw [sHas_nI (by omega) s1, es, g 10 0 0 (by omega), z2, Bool.true_and] at k2
  unfold sRight
  rw [z1]
  have u2 : pq_RD (d + 2) 137 [vR 10 0 0, vI (τ.1 10 0 22 (nI w).toNatClampNeg), vI y] τ = some (some (vI (nI (5 * c + lawIx σ.1 c y))), τ) := by
    rw [ew, t22]
    exact k1
  have hv15 : vp_in (nI (5 * c + lawIx σ.1 c y)) 15 := vp_in_nI (by omega) (by omega)
  have u5 : pq_RD (d + 2) 107 [vR 10 0 0, vI (τ.1 10 0 13 (nI (5 * c + lawIx σ.1 c y)).toNatClampNeg), vI (τ.1 10 0 29 (nI m).toNatClampNeg)] τ = some (some (vI (bI (sHas (nI n') (σ.1 5 0 7 m)))), τ) := by
    rw [er, ksy, em, om]
    exact k2
  cases hb : sHas (nI n') (σ.1 5 0 7 m) with
  | false =>
    rw [hb] at u5
    exact (m148 (d + 2)).trans (g148_0_0 _ (vp_in_nI (by omega) (by omega)) u2 hv15 (vp_in_nI (by omega) (by omega)) u5 rfl)
  | true =>
    rw [hb] at u5
    obtain ⟨ex, hx⟩ := in_nI (sHas_in (by omega) hb) (by omega)
    have e8 : (8 : Int32) * τ.1 10 0 13 (nI (5 * c + lawIx σ.1 c y)).toNatClampNeg + τ.1 10 0 29 (nI m).toNatClampNeg = nI (8 * sSy σ.1 w y + (σ.1 5 0 7 m).toNatClampNeg) := by
      rw [er, ksy, em, om, ex]
      show nI 8 * nI _ + nI _ = _
      rw [pk_mul, nI_add, nI_clamp (by omega)]
    have hv2 : vp_in ((8 : Int32) * τ.1 10 0 13 (nI (5 * c + lawIx σ.1 c y)).toNatClampNeg + τ.1 10 0 29 (nI m).toNatClampNeg) 32 := by
      rw [e8]
      exact vp_in_nI (by omega) (by omega)
    have e9 : τ.1 10 0 1 (8 * sSy σ.1 w y + (σ.1 5 0 7 m).toNatClampNeg) = σ.1 2 (sSy σ.1 w y) 0 (σ.1 5 0 7 m).toNatClampNeg := by
      rw [g 10 0 1 (by omega), (z3 _ hx).1, (z3 _ hx).2.2.2.2.2.2.1]
    have e10 : ((8 : Int32) * τ.1 10 0 13 (nI (5 * c + lawIx σ.1 c y)).toNatClampNeg + τ.1 10 0 29 (nI m).toNatClampNeg).toNatClampNeg = 8 * sSy σ.1 w y + (σ.1 5 0 7 m).toNatClampNeg := by
      rw [e8]
      exact nI_clamp (by omega)
    by_cases nw : σ.1 5 0 7 w < 0
    · have hne : ¬ σ.1 2 (sSy σ.1 w y) 0 (σ.1 5 0 7 m).toNatClampNeg = σ.1 5 0 7 w := by
        rw [(isCl_neg clw).mp nw, (z3 _ hx).1]
        exact nI_m1 (by have := (hwc _ hx).1; omega)
      refine (m148 (d + 2)).trans ((g148_0_1 _ (vp_in_nI (by omega) (by omega)) u2 hv15 (vp_in_nI (by omega) (by omega)) u5 (by decide) (by rw [ew, ow]; exact nw)).trans ?_)
      simp [hne, bI]
    · by_cases eq : σ.1 2 (sSy σ.1 w y) 0 (σ.1 5 0 7 m).toNatClampNeg = σ.1 5 0 7 w
      · refine (m148 (d + 2)).trans ((g148_0_2 _ (vp_in_nI (by omega) (by omega)) u2 hv15 (vp_in_nI (by omega) (by omega)) u5 (by decide) (by rw [ew, ow]; exact nw) hv2 (by rw [e10, e9, ew, ow]; exact eq)).trans ?_)
        simp [eq, bI]
      · refine (m148 (d + 2)).trans ((g148_0_3 _ (vp_in_nI (by omega) (by omega)) u2 hv15 (vp_in_nI (by omega) (by omega)) u5 (by decide) (by rw [ew, ow]; exact nw) hv2 (by rw [e10, e9, ew, ow]; exact eq)).trans ?_)
        simp [eq, bI]
/-! hindrances -/
def hOwn (lv ag sp : Bool) : Int32 := if lv = false then 1 else if ag = true then 2 else if sp = true then 3 else 0
def hPair (nr rt : Bool) : Int32 := if nr = true then 4 else if rt = true then 0 else 5
def sHind (lm lw am aw sm sw nr rt : Bool) : Int32 := if lm = false then 1 else if lw = false then 1 else if am = true then 2 else if aw = true then 2 else if sm = true then 3 else if sw = true then 3 else hPair nr rt
def hLv (f : pmI) (p : Nat) (y : Int32) : Bool := sLives (f 5 0 1 p) (f 5 0 2 p) y
def hAg (f : pmI) (p : Nat) (y : Int32) : Bool := !decide (f 9 0 11 0 ≤ y - f 5 0 1 p)
def hSp (f : pmI) (NM p : Nat) (y : Int32) : Bool := !decide (sSp f (nI p) y NM = -1)
def hNr (f : pmI) (m w : Nat) : Bool := sNear (f 5 0 4 m) (f 5 0 5 m) (f 5 0 4 w) (f 5 0 5 w) (nI m) (nI w)
def sH (f : pmI) (NM m w : Nat) (y : Int32) : Int32 := sHind (hLv f m y) (hLv f w y) (hAg f m y) (hAg f w y) (hSp f NM m y) (hSp f NM w y) (hNr f m w) (sRight f m w y)
theorem c97 (d : Nat) {σ : pmS} {NP NM p : Nat} {y : Int32} (hp : p < 48) (hw : wOk σ.1 NP NM) : pq_RD (d + 4) 97 [vR 9 0 0, vI (nI p), vI y] σ = some (some (vI (hOwn (hLv σ.1 p y) (hAg σ.1 p y) (hSp σ.1 NM p y))), σ) := by
  have ep : (nI p).toNatClampNeg = p := nI_clamp (by omega)
  have hv : vp_in (nI p) 48 := vp_in_nI hp (by omega)
  have k1 := c34 (d + 2) (σ := σ) (x2 := y) hv
  rw [ep] at k1
  refine (m97 (d + 3)).trans ((t97_0 _ k1 (fun _ => hv) (fun _ _ => c53 d (p := nI p) (y := y) hw)).trans ?_)
  rw [ep]
  simp only [bI_0]
  unfold hOwn hLv hAg hSp
  generalize sLives (σ.1 5 0 1 p) (σ.1 5 0 2 p) y = A
  cases A
  · simp
  · by_cases b : σ.1 9 0 11 0 ≤ y - σ.1 5 0 1 p <;> by_cases c : sSp σ.1 (nI p) y NM = -1 <;> simp [b, c]
theorem c98 (d : Nat) {σ : pmS} {NS NC m w : Nat} {y : Int32} (hm : m < 48) (hw : pOk σ.1 NS NC w) : pq_RD (d + 4) 98 [vR 9 0 0, vI (nI m), vI (nI w), vI y] σ = some (some (vI (hPair (hNr σ.1 m w) (sRight σ.1 m w y))), σ) := by
  have hw48 := hw.1
  have ew : (nI w).toNatClampNeg = w := nI_clamp (by omega)
  have em : (nI m).toNatClampNeg = m := nI_clamp (by omega)
  have k1 := c36 (d + 1) (σ := σ) (x1 := nI m) (x2 := nI w) (vp_in_nI hm (by omega)) (vp_in_nI hw48 (by omega))
  rw [ew, em] at k1
  refine (m98 (d + 3)).trans ((t98_0 _ k1 (fun _ => c99 d hm hw)).trans ?_)
  simp only [bI_0]
  unfold hPair hNr
  generalize sNear (σ.1 5 0 4 m) (σ.1 5 0 5 m) (σ.1 5 0 4 w) (σ.1 5 0 5 w) (nI m) (nI w) = A
  generalize sRight σ.1 m w y = B
  cases A <;> cases B <;> simp
theorem sHind_own (lm lw am aw sm sw nr rt : Bool) : (if hOwn lm am sm = 0 then (if hOwn lm am sm + hOwn lw aw sw = 0 then hPair nr rt else hOwn lm am sm + hOwn lw aw sw) else (if hOwn lw aw sw = 0 then (if hOwn lm am sm + hOwn lw aw sw = 0 then hPair nr rt else hOwn lm am sm + hOwn lw aw sw) else (if hOwn lw aw sw < hOwn lm am sm then hOwn lw aw sw else hOwn lm am sm))) = sHind lm lw am aw sm sw nr rt := by
  cases lm <;> cases lw <;> cases am <;> cases aw <;> cases sm <;> cases sw <;> cases nr <;> cases rt <;> decide
/-- may(), of two who are there, a man and a woman, in a YEAR -/
theorem c72 (d : Nat) {σ : pmS} {NS NC NP NM m w : Nat} {y : Int32} (hS : iS σ.1 NS) (hC : iC σ.1 NS NC) (hP : iP σ.1 NC NP) (hw : wOk σ.1 NP NM) (hm : m < NP) (hwo : w < NP) (hy : sYear y = true) (h0 : σ.1 5 0 0 m = 0) (h1 : σ.1 5 0 0 w = 1) : pq_RD (d + 5) 72 [vR 9 0 0, vI (nI m), vI (nI w), vI y] σ = some (some (vI (sH σ.1 NM m w y)), σ) := by
  have hNP := hP.1
  have ew : (nI w).toNatClampNeg = w := nI_clamp (by omega)
  have em : (nI m).toNatClampNeg = m := nI_clamp (by omega)
  have k1 := c32 (d + 3) (σ := σ) (x1 := nI m)
  have k2 := c32 (d + 3) (σ := σ) (x1 := nI w)
  have k3 := c90 (d + 3) (σ := σ) (x0 := y)
  rw [hP.2.1, sHas_nI (by omega) hm] at k1
  rw [hP.2.1, sHas_nI (by omega) hwo] at k2
  rw [hy] at k3
  have k4 := c97 d (σ := σ) (p := m) (y := y) (by omega) hw
  have k5 := c97 d (σ := σ) (p := w) (y := y) (by omega) hw
  have k6 := c98 d (σ := σ) (m := m) (w := w) (y := y) (by omega) (iAll_pOk hS hC hP hwo)
  have t := t72_0 (pq_RD (d + 4)) (l4 := none) (l5 := none) k1 (fun _ => k2) (fun _ _ => k3) (fun _ _ _ => vp_in_nI (by omega) (by omega)) (fun _ _ _ _ => vp_in_nI (by omega) (by omega)) (fun _ _ _ _ _ => k4) (fun _ _ _ _ _ => k5) (fun _ _ _ _ _ _ _ => k6) (fun _ _ _ _ _ _ _ _ => k6)
  refine (m72 (d + 4)).trans (t.trans ?_)
  rw [em, ew, if_neg (by decide), if_neg (by decide), if_neg (by decide), if_pos h0, if_pos h1]
  unfold sH
  rw [← sHind_own]
  generalize hOwn (hLv σ.1 m y) (hAg σ.1 m y) (hSp σ.1 NM m y) = A
  generalize hOwn (hLv σ.1 w y) (hAg σ.1 w y) (hSp σ.1 NM w y) = B
  by_cases a : A = 0 <;> by_cases b : B = 0 <;> by_cases c : A + B = 0 <;> simp [a, b, c]
