theorem kA {T a0 t1 : Nat} (h : T = a0 + 256 * t1) (h0 : a0 ≤ 8) : T / 256 = t1 := dv (by decide) h (by omega)
theorem kB {T a0 a1 a2 t1 t2 t3 : Nat} (h : T = a0 + 256 * t1) (e1 : t1 = a1 + 256 * t2) (e2 : t2 = a2 + 256 * t3) (h0 : a0 ≤ 8) (h1 : a1 ≤ 8) (h2 : a2 ≤ 8) : (T + t1) / 65536 = t2 + t3 := dv (c := a0 + a1 + 256 * (a1 + a2)) (by decide) (by omega) (by omega)
theorem kC1 {T a0 a1 a2 t1 t2 t3 : Nat} (h : T = a0 + 256 * t1) (e1 : t1 = a1 + 256 * t2) (e2 : t2 = a2 + 256 * t3) : T + t1 + (t2 + t3) = a0 + a1 + a2 + t3 + 256 * (t1 + t2 + t3) := by omega
theorem kC2 {a1 a2 a3 t1 t2 t3 t4 : Nat} (e1 : t1 = a1 + 256 * t2) (e2 : t2 = a2 + 256 * t3) (e3 : t3 = a3 + 256 * t4) : t1 + t2 + t3 = a1 + a2 + a3 + 256 * (t2 + t3 + t4) := by omega
theorem kCC {T a0 a1 a2 a3 a4 a5 a6 t1 t2 t3 t4 t5 t6 t7 : Nat} (h : T = a0 + 256 * t1) (e1 : t1 = a1 + 256 * t2) (e2 : t2 = a2 + 256 * t3) (e3 : t3 = a3 + 256 * t4) (e4 : t4 = a4 + 256 * t5) (e5 : t5 = a5 + 256 * t6) (e6 : t6 = a6 + 256 * t7) (h0 : a0 ≤ 8) (h1 : a1 ≤ 8) (h2 : a2 ≤ 8) (h3 : a3 ≤ 8) (h4 : a4 ≤ 8) (h5 : a5 ≤ 8) (h6 : a6 ≤ 8) : (T + t1 + (t2 + t3)) / 4294967296 = t4 + t5 + t6 + t7 := by
  have s1 : T + t1 + (t2 + t3) = a0 + a1 + a2 + a3 + 256 * (t1 + t2 + t3 + t4) := by
    have := kC1 h e1 e2
    clear h e1 e2 e4 e5 e6
    omega
  have s2 : t1 + t2 + t3 + t4 = a1 + a2 + a3 + a4 + 256 * (t2 + t3 + t4 + t5) := by
    have := kC2 e1 e2 e3
    clear h s1 e1 e2 e3 e5 e6
    omega
  have s3 : t2 + t3 + t4 + t5 = a2 + a3 + a4 + a5 + 256 * (t3 + t4 + t5 + t6) := by
    have := kC2 e2 e3 e4
    clear h s1 s2 e1 e2 e3 e4 e6
    omega
  have s4 : t3 + t4 + t5 + t6 = a3 + a4 + a5 + a6 + 256 * (t4 + t5 + t6 + t7) := by
    have := kC2 e3 e4 e5
    clear h s1 s2 s3 e1 e2 e3 e4 e5
    omega
  clear h e1 e2 e3 e4 e5 e6
  generalize t1 + t2 + t3 + t4 = x1 at s1 s2
  generalize t2 + t3 + t4 + t5 = x2 at s2 s3
  generalize t3 + t4 + t5 + t6 = x3 at s3 s4
  exact dv (c := a0 + a1 + a2 + a3 + 256 * (a1 + a2 + a3 + a4) + 65536 * (a2 + a3 + a4 + a5) + 16777216 * (a3 + a4 + a5 + a6)) (by decide) (by omega) (by omega)
/-- the bytes added up -/
theorem bn_s4 {c : Nat → Nat} (h : ∀ j, c j ≤ 8) : (bn c 8 + bn c 8 / 256 + (bn c 8 + bn c 8 / 256) / 65536 + (bn c 8 + bn c 8 / 256 + (bn c 8 + bn c 8 / 256) / 65536) / 4294967296) % 128 = c 0 + c 1 + c 2 + c 3 + c 4 + c 5 + c 6 + c 7 := by
  have h0 := h 0
  have h1 := h 1
  have h2 := h 2
  have h3 := h 3
  have h4 := h 4
  have h5 := h 5
  have h6 := h 6
  have h7 := h 7
  have e0 := bn8 c
  generalize bn c 8 = T at e0 ⊢
  generalize c 0 = a0 at *
  generalize c 1 = a1 at *
  generalize c 2 = a2 at *
  generalize c 3 = a3 at *
  generalize c 4 = a4 at *
  generalize c 5 = a5 at *
  generalize c 6 = a6 at *
  generalize c 7 = a7 at *
  obtain ⟨t6, e6⟩ : ∃ t, t = a6 + 256 * a7 := ⟨_, rfl⟩
  obtain ⟨t5, e5⟩ : ∃ t, t = a5 + 256 * t6 := ⟨_, rfl⟩
  obtain ⟨t4, e4⟩ : ∃ t, t = a4 + 256 * t5 := ⟨_, rfl⟩
  obtain ⟨t3, e3⟩ : ∃ t, t = a3 + 256 * t4 := ⟨_, rfl⟩
  obtain ⟨t2, e2⟩ : ∃ t, t = a2 + 256 * t3 := ⟨_, rfl⟩
  obtain ⟨t1, e1⟩ : ∃ t, t = a1 + 256 * t2 := ⟨_, rfl⟩
  rw [← e6, ← e5, ← e4, ← e3, ← e2, ← e1] at e0
  rw [kA e0 h0, kB e0 e1 e2 h0 h1 h2, kCC e0 e1 e2 e3 e4 e5 e6 h0 h1 h2 h3 h4 h5 h6]
  have fin : T + t1 + (t2 + t3) + (t4 + t5 + t6 + a7) = (a0 + a1 + a2 + a3 + a4 + a5 + a6 + a7) + 128 * (2 * (t1 + t2 + t3 + t4 + t5 + t6 + a7)) := by
    rw [e0]
    clear e0
    omega
  rw [fin, Nat.add_mul_mod_self_left]
  clear fin e0 e1 e2 e3 e4 e5 e6
  exact Nat.mod_eq_of_lt (by omega)
