/-! no step writes the script -/
def pm_y11 (y : pmO ⊕ pmF) : Nat → Nat → Nat → Int32 := match y with
  | .inl r => r.2.1 11
  | .inr f => f.2.2.2.2.1 11
theorem n11_kd (k : Nat) : pm_kd 11 k = 9 := by
  unfold pm_kd
  rw [if_pos rfl]
theorem n11_fk (k : Nat) : pm_fk 11 k = 99 := rfl
theorem n11_wi {σ : pmS} {c o k i : Nat} {x : Int32} (h : c ≠ 11) : (pm_wi σ c o k i x).1 11 = σ.1 11 := by
  funext o' k' i'
  show (if 11 = c ∧ _ then _ else _) = _
  rw [if_neg (fun e => h e.1.symm)]
theorem n11_wr {σ : pmS} {c o k : Nat} {f : Nat → Int32} (h : c ≠ 11) : (pm_wr σ c o k f).1 11 = σ.1 11 := by
  funext o' k' i'
  show (if 11 = c ∧ _ then _ else _) = _
  rw [if_neg (fun e => h e.1.symm)]
section N11
variable {C : pmC} {m pc t k idx vt : Nat} {off : Int} {ls : pmL} {st : List pmV} {σ : pmS} {y : pmO ⊕ pmF}
theorem n11_nx (h : pm_nx m pc ls st σ = some y) : pm_y11 y = σ.1 11 := by rw [pm_nx_inv h]; rfl
theorem n11_go (h : pm_go m pc off ls st σ = some y) : pm_y11 y = σ.1 11 := by rw [(pm_go_inv h).2]; rfl
theorem n11_ld (h : pm_ld m pc ls st σ t k = some y) : pm_y11 y = σ.1 11 := by
  obtain ⟨v, -, e, -⟩ := pm_ld_inv h
  rw [e]; rfl
theorem n11_str (h : pm_str m pc ls st σ t k = some y) : pm_y11 y = σ.1 11 := by
  obtain ⟨v, st', -, -, (⟨-, -, -, e⟩ | ⟨-, -, -, e⟩ | ⟨-, -, -, e⟩)⟩ := pm_str_inv h <;> (rw [e]; rfl)
theorem n11_i2 {f : Int32 → Int32 → Int32} (h : pm_i2 m pc ls st σ f = some y) : pm_y11 y = σ.1 11 := by
  obtain ⟨v, w, st', -, e⟩ := pm_i2_inv h
  rw [e]; rfl
theorem n11_l2 {f : Int64 → Int64 → Int64} (h : pm_l2 m pc ls st σ f = some y) : pm_y11 y = σ.1 11 := by
  obtain ⟨v, w, st', -, e⟩ := pm_l2_inv h
  rw [e]; rfl
theorem n11_ls2 {f : Int64 → Int32 → Int64} (h : pm_ls2 m pc ls st σ f = some y) : pm_y11 y = σ.1 11 := by
  obtain ⟨v, w, st', -, e⟩ := pm_ls2_inv h
  rw [e]; rfl
theorem n11_d2 {f : Int32 → Int32 → Int32} (h : pm_d2 m pc ls st σ f = some y) : pm_y11 y = σ.1 11 := by
  obtain ⟨v, w, st', -, -, e⟩ := pm_d2_inv h
  rw [e]; rfl
theorem n11_ald (h : pm_ald m pc ls st σ t = some y) : pm_y11 y = σ.1 11 := by
  obtain ⟨i, c, o, k, st', -, -, (⟨-, -, e⟩ | ⟨-, -, -, -, e⟩ | ⟨-, -, e⟩ | ⟨-, -, e⟩ | ⟨-, -, e⟩)⟩ := pm_ald_inv h <;> (rw [e]; rfl)
theorem n11_ast (h : pm_ast m pc ls st σ t = some y) : pm_y11 y = σ.1 11 := by
  rcases pm_ast_inv h with ⟨x, i, c, o, k, st', -, -, e, hk⟩ | ⟨x, i, c, o, k, st', -, -, -, -, e⟩
  · have hc : c ≠ 11 := by
      intro hc
      subst hc
      rcases hk with ⟨-, hk⟩ | ⟨-, hk, -⟩ <;> (rw [n11_kd] at hk; cases hk)
    rw [e]
    exact n11_wi hc
  · rw [e]; rfl
theorem n11_get (h : pm_get m pc ls st σ idx = some y) : pm_y11 y = σ.1 11 := by
  obtain ⟨c, o, k, st', -, -, (⟨-, e⟩ | ⟨-, e⟩ | ⟨-, e⟩ | ⟨_, -, e⟩)⟩ := pm_get_inv h <;> (rw [e]; rfl)
theorem n11_put (h : pm_put m pc ls st σ idx = some y) : pm_y11 y = σ.1 11 := by
  rcases pm_put_inv h with ⟨x, c, o, k, st', -, -, hk, e⟩ | ⟨x, c, o, k, st', -, -, -, e⟩
  · have hc : c ≠ 11 := by
      intro hc
      subst hc
      rw [n11_fk] at hk
      cases hk
    rw [e]
    exact n11_wi hc
  · rw [e]; rfl
theorem n11_copy (h : pm_copy m pc ls st σ = some y) : pm_y11 y = σ.1 11 := by
  obtain ⟨n, dp, c1, o1, k1, sp, c0, o0, k0, st', -, ⟨-, hk, -⟩, e⟩ := pm_copy_inv h
  have hc : c1 ≠ 11 := by
    intro hc
    subst hc
    rw [n11_kd] at hk
    cases hk
  rw [e]
  exact n11_wr hc
theorem n11_min (h : pm_min m pc ls st σ = some y) : pm_y11 y = σ.1 11 := by
  obtain ⟨a, b, st', -, -, e⟩ := pm_min_inv h
  rw [e]; rfl
theorem n11_dup (h : pm_dup m pc ls st σ t = some y) : pm_y11 y = σ.1 11 := by
  obtain ⟨v, st', -, -, (⟨-, e⟩ | ⟨-, e⟩ | ⟨-, _, _, -, -, e⟩)⟩ := pm_dup_inv h <;> (rw [e]; rfl)
theorem n11_b1 {cd : ClassFile.Cond} {a b : Int32} (h : pm_b1 m pc off ls st σ cd a b = some y) : pm_y11 y = σ.1 11 := by
  obtain ⟨g, hg, h1, h2, -⟩ := pm_b1_inv h
  rcases hg with hg | hg
  · rw [(h1 hg).2]; rfl
  · rw [h2 hg]; rfl
theorem n11_call (hC : ∀ (cm : Nat) (as : List pmV) (σ : pmS) (r : Option pmV) (σ' : pmS), C cm as σ = some (r, σ') → σ'.1 11 = σ.1 11) (h : pm_call C m pc ls st σ idx vt = some y) : pm_y11 y = σ.1 11 := by
  obtain ⟨cm, as, rest, r, σ', -, -, -, -, -, -, -, hc, e⟩ := pm_call_inv h
  rw [e]
  exact hC _ _ _ _ _ hc
theorem n11_rt (h : pm_rt m st σ = some y) : pm_y11 y = σ.1 11 := by
  unfold pm_rt at h
  split at h
  · split at h
    · cases h; rfl
    · split at h
      · cases h; rfl
      · cases h
  · cases h
theorem n11_art (h : pm_art m st σ = some y) : pm_y11 y = σ.1 11 := by
  unfold pm_art at h
  split at h
  · split at h
    · cases h; rfl
    · cases h
  · cases h
theorem n11_vrt (h : pm_vrt m st σ = some y) : pm_y11 y = σ.1 11 := by
  unfold pm_vrt at h
  split at h
  · split at h
    · cases h; rfl
    · cases h
  · cases h
theorem n11_ex {n : Nat} {i : Instr} (hC : ∀ (cm : Nat) (as : List pmV) (σ : pmS) (r : Option pmV) (σ' : pmS), C cm as σ = some (r, σ') → σ'.1 11 = σ.1 11) (h : pm_ex C m pc n ls st σ i = some y) : pm_y11 y = σ.1 11 := by
  unfold pm_ex at h
  split at h
  all_goals first
    | exact n11_nx h
    | exact n11_ld h
    | exact n11_str h
    | exact n11_i2 h
    | exact n11_l2 h
    | exact n11_ls2 h
    | exact n11_d2 h
    | exact n11_dup h
    | exact n11_go h
    | exact n11_ald h
    | exact n11_ast h
    | exact n11_get h
    | exact n11_put h
    | exact n11_call hC h
    | exact n11_rt h
    | exact n11_art h
    | exact n11_vrt h
    | (cases h; done)
    | (split at h
       · split at h
         all_goals first
           | exact n11_b1 h
           | exact n11_go h
           | exact n11_nx h
           | (cases h; done)
       · cases h)
    | (split at h
       · exact n11_nx h
       · cases h)
    | (split at h
       · exact n11_copy h
       · split at h
         · exact n11_min h
         · exact n11_call hC h)
theorem n11_stp {fr : pmF} (hC : ∀ (cm : Nat) (as : List pmV) (σ : pmS) (r : Option pmV) (σ' : pmS), C cm as σ = some (r, σ') → σ'.1 11 = σ.1 11) (h : pm_stp C fr = some y) : pm_y11 y = fr.2.2.2.2.1 11 := by
  unfold pm_stp at h
  split at h
  · split at h
    · exact n11_ex hC h
    · cases h
  · cases h
theorem n11_itr (hC : ∀ (cm : Nat) (as : List pmV) (σ : pmS) (r : Option pmV) (σ' : pmS), C cm as σ = some (r, σ') → σ'.1 11 = σ.1 11) : ∀ (n : Nat) (fr : pmF) (r : pmO), pm_itr C n fr = some r → r.2.1 11 = fr.2.2.2.2.1 11
  | 0, _, _, h => by cases h
  | n + 1, fr, r, h => by
    rw [pm_itr] at h
    cases hs : pm_stp C fr with
    | none => rw [hs] at h; cases h
    | some x =>
      rw [hs] at h
      have h1 := n11_stp hC hs
      cases x with
      | inl r' =>
        cases h
        exact h1
      | inr fr' => exact (n11_itr hC n fr' r h).trans h1
end N11
theorem n11_RD : ∀ (d cm : Nat) (as : List pmV) (σ : pmS) (r : Option pmV) (σ' : pmS), pm_RD d cm as σ = some (r, σ') → σ'.1 11 = σ.1 11
  | 0, _, _, _, _, _, h => by cases h
  | d + 1, cm, as, σ, r, σ', h => by
    rw [pm_RD] at h
    dsimp only at h
    split at h
    · obtain ⟨n, hn⟩ := pm_Rn_some.mp h
      exact n11_itr (n11_RD d) n _ _ hn
    · cases h
/-- a call leaves the script as it was -/
theorem pq_no11 {d cm : Nat} {as : List pmV} {σ : pmS} {r : Option pmV} {σ' : pmS} (h : pq_RD d cm as σ = some (r, σ')) : σ'.1 11 = σ.1 11 := n11_RD d cm as σ r σ' (pq_sim_RD d cm as σ _ h)
