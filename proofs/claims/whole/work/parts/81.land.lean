/-! the class's own constructor -/
section KLAND
variable {p : Program} {l : Launch} {e : Env} {R : Room} {s : State} {m : MethodId} {args : Array Value} {below : List Frame} {meth : Method} {c : Code} {H : Heap} {locs : List Loc} {cells slots : Nat} {Q : State → Prop}
variable {pc : Nat} {ls : Array Slot} {D : va_G} {A : Nat → Prop} {a : Nat → ClassId} {w : va_W}
variable {ci N idx h0 : Nat} {C : String} {T : u_T} {ty : Nat → FieldType} {v : Nat → Value}
/-- this.field = new C() -/
theorem k_mf (hx : k_X p s m args c D a A cX9_init 9) (hin : meth.name = "<init>") (hcl : k_Cl ci C T N ty) (hP : va_P D pm_classes ((h0, .inr (9, k_f 12 v)) :: w) H) (hD : va_D A ((h0, .inr (9, k_f 12 v)) :: w)) (hS : va_S A s.heap H locs) (hl : ls[0]? = some (.val (.ref h0))) (w1 : Cond.classLink (pm_cn 9) idx C ∈ pm_G) (w2 : Cond.instantiable C N ∈ pm_G) (w3 : Cond.initialized C ∈ pm_G) (hcells : cells + 1 ≤ R.cells) (hslots : slots + N ≤ R.slots) (dA : decode cX9_init pc = .ok (.aload_n 0, 1)) (d0 : decode cX9_init (pc + 1) = .ok (.new idx, 3)) (d1 : decode cX9_init (pc + 4) = .ok (.dup, 1)) {lab : List pmR} {o L : Nat} {xs : Nat → Int32} {mc ms : Nat}
    (hrun : ∀ (q : Nat) (H1 : Heap), PreS s H1 (k_P0 D a ci N ty (fun _ => True) q H1.size) [.ref q] → va_Run p l e R s m args below meth c H1 locs (cells + 1) (slots + N) mc ms (F0 m (pc + 5) ls [.ref q, .ref q, .ref h0]) [.ref q, .ref h0] (k_Q0 D a ci N ty lab o L xs q H1.size #[.ref q]) (k_A0 ci N ty q H1.size))
    (k : Nat) (hk : k < 12) {fx : Nat} (hf : pm_fl 9 fx = some (9, k)) (hfin : (TX9 k).2.2.2 = true) (hdecl : (TX9 k).1 = pm_cn 9) (hn : ∀ q : Nat, narrow (tyX9 k) (.ref q) = .ref q) (hfit : ∀ q : Nat, fits (tyX9 k) (.ref q) = true) (d3 : decode cX9_init (pc + 8) = .ok (.putfield fx, 3))
    (kk : ∀ (q : Nat → Nat → Nat → Nat) (H1 : Heap) (locs1 : List Loc), va_P D pm_classes ((h0, .inr (9, k_f 12 (va_up v k (.ref (q ci o 0))))) :: (w ++ k_w lab a L xs q)) H1 → va_D A ((h0, .inr (9, k_f 12 (va_up v k (.ref (q ci o 0))))) :: (w ++ k_w lab a L xs q)) → va_S A s.heap H1 locs1 → W p l e R s m args below meth c H1 locs1 (cells + 1 + mc) (slots + N + ms) Q (F0 m (pc + 11) ls [])) : W p l e R s m args below meth c H locs cells slots Q (F0 m pc ls []) := by
  refine lv_aload_n hx.1 hx.2.1 dA rfl hl ?_
  refine k_make hx hcl hP hD hS w1 w2 w3 hcells hslots d0 d1 (E := fun _ => True) (fun _ _ _ _ h => h) (fun _ _ => trivial) (lab := lab) (o := o) (L := L) (xs := xs) (mc := mc) (ms := ms) hrun (fun q H1 locs1 hP1 hD1 hS1 => ?_)
  rw [List.cons_append] at hP1 hD1
  exact k_putF hx k_cl9 hin hP1 hD1 hS1 k hk hf hfin hdecl (hn _) (hfit _) d3 (fun H2 locs2 hP2 hD2 hS2 => kk q H2 locs2 hP2 hD2 hS2)
/-- this.field = new C[n] -/
theorem k_fq (hx : k_X p s m args c D a A cX9_init 9) (hin : meth.name = "<init>") (hP : va_P D pm_classes ((h0, .inr (9, k_f 12 v)) :: w) H) (hD : va_D A ((h0, .inr (9, k_f 12 v)) :: w)) (hS : va_S A s.heap H locs) (hl : ls[0]? = some (.val (.ref h0))) (w1 : Cond.classLink (pm_cn 9) idx C ∈ pm_G) (hover : va_AO C s) (t0 : Nat) {b : ClassId} (ht0 : (pm_tys a)[t0]? = some (b, .object C)) {n : Int32} (N' : Nat) {nn : Int} (hv0 : Int32.ofInt nn = n) (hn0 : ¬ n < 0) (hN : n.toNatClampNeg = N') (hbytes : N' * 4 ≤ 536870912) (hcells : cells + 1 ≤ R.cells) (hslots : slots + N' ≤ R.slots)
    (dA : decode cX9_init pc = .ok (.aload_n 0, 1)) (d0 : decode cX9_init (pc + 1) = .ok (.iconst nn, 1)) (d1 : decode cX9_init (pc + 2) = .ok (.anewarray idx, 3))
    (k : Nat) (hk : k < 12) {fx : Nat} (hf : pm_fl 9 fx = some (9, k)) (hfin : (TX9 k).2.2.2 = true) (hdecl : (TX9 k).1 = pm_cn 9) (hn : ∀ q : Nat, narrow (tyX9 k) (.ref q) = .ref q) (hfit : ∀ q : Nat, fits (tyX9 k) (.ref q) = true) (d3 : decode cX9_init (pc + 5) = .ok (.putfield fx, 3))
    (kk : ∀ (q : Nat) (H1 : Heap) (locs1 : List Loc), va_P D pm_classes ((h0, .inr (9, k_f 12 (va_up v k (.ref q)))) :: (w ++ [(q, .inl (b, N', .inr (.inr (.inr (.inr (fun _ => none))))))])) H1 → va_D A ((h0, .inr (9, k_f 12 (va_up v k (.ref q)))) :: (w ++ [(q, .inl (b, N', .inr (.inr (.inr (.inr (fun _ => none))))))])) → va_S A s.heap H1 locs1 → W p l e R s m args below meth c H1 locs1 (cells + 1) (slots + N') Q (F0 m (pc + 8) ls [])) : W p l e R s m args below meth c H locs cells slots Q (F0 m pc ls []) := by
  refine lv_aload_n hx.1 hx.2.1 dA rfl hl ?_
  refine lv_iconst hx.1 hx.2.1 d0 hv0 ?_
  refine k_newq hx.1 hx.2.1 hx.2.2.1 (hx.2.2.2.1 _ w1) hover t0 ht0 hx.2.2.2.2.1 hP hD hS hx.2.2.2.2.2 N' hn0 hN hbytes hcells hslots d1 (fun q H1 hP1 hD1 hS1 => ?_)
  rw [List.cons_append] at hP1 hD1
  exact k_putF hx k_cl9 hin hP1 hD1 hS1 k hk hf hfin hdecl (hn _) (hfit _) d3 (fun H2 locs2 hP2 hD2 hS2 => kk q H2 locs2 hP2 hD2 hS2)
/-- one round of the loop over the systems -/
theorem k_sysit {o : Nat} (ho : o < 4) (hx : k_X p s m args c D a A cX9_init 9) (hml : c.maxLocals = 2) (hE : va_Nw (.methodLinkNest RX9 80 yX2_init RX9) s) {sa : Nat} (hv : v 1 = .ref sa) {x1 x2 : Nat × va_E} {f : Nat → Option Nat} (hP : va_P D pm_classes ((h0, .inr (9, k_f 12 v)) :: x1 :: x2 :: (sa, .inl (a 5, 4, .inr (.inr (.inr (.inr f))))) :: w) H) (hD : va_D A ((h0, .inr (9, k_f 12 v)) :: x1 :: x2 :: (sa, .inl (a 5, 4, .inr (.inr (.inr (.inr f))))) :: w)) (hS : va_S A s.heap H locs) (hl : lv_has ls 2 [(1, .int (nI o)), (0, .ref h0)]) (L : Nat) (xs : Nat → Int32) (h1 : cells + 9 ≤ R.cells) (h2 : slots + 89 ≤ R.slots) (h3 : 2 ≤ R.frames) (h4 : 32 ≤ R.locals)
    (kk : ∀ (q : Nat → Nat → Nat → Nat) (H1 : Heap) (locs1 : List Loc) (ls1 : Array Slot), va_P D pm_classes ((h0, .inr (9, k_f 12 v)) :: x1 :: x2 :: (sa, .inl (a 5, 4, .inr (.inr (.inr (.inr (va_up f o (some (q 2 o 0)))))))) :: (w ++ k_w (k_l2 o) a L xs q)) H1 → va_D A ((h0, .inr (9, k_f 12 v)) :: x1 :: x2 :: (sa, .inl (a 5, 4, .inr (.inr (.inr (.inr (va_up f o (some (q 2 o 0)))))))) :: (w ++ k_w (k_l2 o) a L xs q)) → va_S A s.heap H1 locs1 → lv_has ls1 2 [(1, .int (nI (o + 1))), (0, .ref h0)] → W p l e R s m args below meth c H1 locs1 (cells + 9) (slots + 89) Q (F0 m 115 ls1 [])) : W p l e R s m args below meth c H locs cells slots Q (F0 m 115 ls []) := by
  refine lv_iload_n hx.1 hx.2.1 (kd_9_0 56 rfl) rfl (lv_at hl 0 rfl) ?_
  refine lv_iconst (v := nI 4) hx.1 hx.2.1 (kd_9_0 57 rfl) (by decide +kernel) ?_
  refine lv_icmp_ge (tgt := 139) hx.1 hx.2.1 (kd_9_0 58 rfl) (by decide) (fun h => absurd h (nI_ge ho (by decide))) (fun _ => ?_)
  refine lv_aload_n hx.1 hx.2.1 (kd_9_0 59 rfl) rfl (lv_at hl 1 rfl) ?_
  refine k_get hx k_cl9 hP 1 (by decide) (idx := 18) rfl (kd_9_0 60 rfl) ?_
  rw [hv]
  refine lv_iload_n hx.1 hx.2.1 (kd_9_0 61 rfl) rfl (lv_at hl 0 rfl) ?_
  refine k_make hx k_cl2 hP hD hS k_ck9_16 k_it2 k_in2 (by omega) (by omega) (kd_9_0 62 rfl) (kd_9_0 63 rfl) (E := fun _ => True) (fun _ _ _ _ h => h) (fun _ _ => trivial) (lab := k_l2 o) (o := o) (L := L) (xs := xs) (mc := 8) (ms := 80) (fun q H1 hp => va_runIN (As := []) (rest := [.ref q, .int (nI o), .ref sa]) ⟨hx.1, hx.2.1, hml, hx.2.2.1, hx.2.2.2.1⟩ (k_c2 l D a q H1.size o L xs) ⟨va_cnB 0 hx.2.2.2.1 (k_gi k_cd2) rfl rfl rfl hE (hx.2.2.2.1 _ k_in2) ⟨by decide +kernel, by decide +kernel, by decide +kernel⟩ ⟨h3, h4⟩, rfl, hx.2.2.2.1 _ k_im2⟩ hp rfl rfl hl.1 rfl (lv_room (Nat.le_of_ble_eq_true rfl)) (kd_9_0 64 rfl) ⟨by omega, by omega⟩) (fun q H1 locs1 hP1 hD1 hS1 => ?_)
  have hnew : ((h0, .inr (9, k_f 12 v)) :: x1 :: x2 :: (sa, .inl (a 5, 4, .inr (.inr (.inr (.inr f))))) :: w ++ k_w (k_l2 o) a L xs q : va_W)[w.length + 4]? = some (q 2 o 0, .inr (2, pm_fs q (k_s L xs) 2 o)) := by
    rw [List.cons_append, List.cons_append, List.cons_append, List.cons_append, show w.length + 4 = w.length + 1 + 1 + 1 + 1 from rfl, List.getElem?_cons_succ, List.getElem?_cons_succ, List.getElem?_cons_succ, List.getElem?_cons_succ, List.getElem?_append_right (Nat.le_refl _), Nat.sub_self]
    rfl
  refine va_astq hx.1 hx.2.1 hx.2.2.2.2.1 hP1 hD1 hS1 3 4 (w.length + 4) 2 rfl rfl hnew rfl (vp_in_nI ho (by decide)) (kd_9_0 65 rfl) (fun H2 locs2 hP2 hD2 hS2 => ?_)
  rw [nI_clamp (show o < 2 ^ 31 by omega)] at hP2 hD2
  refine lv_iinc (v := nI (o + 1)) (lv' := [(1, .int (nI (o + 1))), (0, .ref h0)]) hx.1 hx.2.1 (kd_9_0 66 rfl) hl (k := 0) rfl (nI_1 o) (by decide) rfl (fun ls1 hl1 => ?_)
  refine lv_goto (tgt := 115) hx.1 hx.2.1 (kd_9_0 67 rfl) (by decide) ?_
  exact kk q H2 locs2 ls1 hP2 hD2 hS2 hl1
/-- one round of the loop over the camps -/
theorem k_campit {o : Nat} (ho : o < 3) (hx : k_X p s m args c D a A cX9_init 9) (hml : c.maxLocals = 2) (hE : va_Nw (.methodLinkNest RX9 81 yX0_init RX9) s) {sa : Nat} (hv : v 2 = .ref sa) {x1 x2 x3 : Nat × va_E} {f : Nat → Option Nat} (hP : va_P D pm_classes ((h0, .inr (9, k_f 12 v)) :: x1 :: x2 :: x3 :: (sa, .inl (a 3, 3, .inr (.inr (.inr (.inr f))))) :: w) H) (hD : va_D A ((h0, .inr (9, k_f 12 v)) :: x1 :: x2 :: x3 :: (sa, .inl (a 3, 3, .inr (.inr (.inr (.inr f))))) :: w)) (hS : va_S A s.heap H locs) (hl : lv_has ls 2 [(1, .int (nI o)), (0, .ref h0)]) (L : Nat) (xs : Nat → Int32) (h1 : cells + 4 ≤ R.cells) (h2 : slots + 19 ≤ R.slots) (h3 : 2 ≤ R.frames) (h4 : 32 ≤ R.locals)
    (kk : ∀ (q : Nat → Nat → Nat → Nat) (H1 : Heap) (locs1 : List Loc) (ls1 : Array Slot), va_P D pm_classes ((h0, .inr (9, k_f 12 v)) :: x1 :: x2 :: x3 :: (sa, .inl (a 3, 3, .inr (.inr (.inr (.inr (va_up f o (some (q 0 o 0)))))))) :: (w ++ k_w (k_l0 o) a L xs q)) H1 → va_D A ((h0, .inr (9, k_f 12 v)) :: x1 :: x2 :: x3 :: (sa, .inl (a 3, 3, .inr (.inr (.inr (.inr (va_up f o (some (q 0 o 0)))))))) :: (w ++ k_w (k_l0 o) a L xs q)) → va_S A s.heap H1 locs1 → lv_has ls1 2 [(1, .int (nI (o + 1))), (0, .ref h0)] → W p l e R s m args below meth c H1 locs1 (cells + 4) (slots + 19) Q (F0 m 141 ls1 [])) : W p l e R s m args below meth c H locs cells slots Q (F0 m 141 ls []) := by
  refine lv_iload_n hx.1 hx.2.1 (kd_9_0 70 rfl) rfl (lv_at hl 0 rfl) ?_
  refine lv_iconst (v := nI 3) hx.1 hx.2.1 (kd_9_0 71 rfl) (by decide +kernel) ?_
  refine lv_icmp_ge (tgt := 165) hx.1 hx.2.1 (kd_9_0 72 rfl) (by decide) (fun h => absurd h (nI_ge ho (by decide))) (fun _ => ?_)
  refine lv_aload_n hx.1 hx.2.1 (kd_9_0 73 rfl) rfl (lv_at hl 1 rfl) ?_
  refine k_get hx k_cl9 hP 2 (by decide) (idx := 24) rfl (kd_9_0 74 rfl) ?_
  rw [hv]
  refine lv_iload_n hx.1 hx.2.1 (kd_9_0 75 rfl) rfl (lv_at hl 0 rfl) ?_
  refine k_make hx k_cl0 hP hD hS k_ck9_22 k_it0 k_in0 (by omega) (by omega) (kd_9_0 76 rfl) (kd_9_0 77 rfl) (E := fun _ => True) (fun _ _ _ _ h => h) (fun _ _ => trivial) (lab := k_l0 o) (o := o) (L := L) (xs := xs) (mc := 3) (ms := 15) (fun q H1 hp => va_runIN (As := []) (rest := [.ref q, .int (nI o), .ref sa]) ⟨hx.1, hx.2.1, hml, hx.2.2.1, hx.2.2.2.1⟩ (k_c0 l D a q H1.size o L xs) ⟨va_cnB 0 hx.2.2.2.1 (k_gi k_cd0) rfl rfl rfl hE (hx.2.2.2.1 _ k_in0) ⟨by decide +kernel, by decide +kernel, by decide +kernel⟩ ⟨h3, h4⟩, rfl, hx.2.2.2.1 _ k_im0⟩ hp rfl rfl hl.1 rfl (lv_room (Nat.le_of_ble_eq_true rfl)) (kd_9_0 78 rfl) ⟨by omega, by omega⟩) (fun q H1 locs1 hP1 hD1 hS1 => ?_)
  have hnew : ((h0, .inr (9, k_f 12 v)) :: x1 :: x2 :: x3 :: (sa, .inl (a 3, 3, .inr (.inr (.inr (.inr f))))) :: w ++ k_w (k_l0 o) a L xs q : va_W)[w.length + 5]? = some (q 0 o 0, .inr (0, pm_fs q (k_s L xs) 0 o)) := by
    rw [List.cons_append, List.cons_append, List.cons_append, List.cons_append, List.cons_append, show w.length + 5 = w.length + 1 + 1 + 1 + 1 + 1 from rfl, List.getElem?_cons_succ, List.getElem?_cons_succ, List.getElem?_cons_succ, List.getElem?_cons_succ, List.getElem?_cons_succ, List.getElem?_append_right (Nat.le_refl _), Nat.sub_self]
    rfl
  refine va_astq hx.1 hx.2.1 hx.2.2.2.2.1 hP1 hD1 hS1 4 3 (w.length + 5) 0 rfl rfl hnew rfl (vp_in_nI ho (by decide)) (kd_9_0 79 rfl) (fun H2 locs2 hP2 hD2 hS2 => ?_)
  rw [nI_clamp (show o < 2 ^ 31 by omega)] at hP2 hD2
  refine lv_iinc (v := nI (o + 1)) (lv' := [(1, .int (nI (o + 1))), (0, .ref h0)]) hx.1 hx.2.1 (kd_9_1 0 rfl) hl (k := 0) rfl (nI_1 o) (by decide) rfl (fun ls1 hl1 => ?_)
  refine lv_goto (tgt := 141) hx.1 hx.2.1 (kd_9_1 1 rfl) (by decide) ?_
  exact kk q H2 locs2 ls1 hP2 hD2 hS2 hl1
end KLAND
/-- the addresses of all that the class's constructor makes -/
def k_q9 (h0 sa ca : Nat) (c0 c1 c2 s0 s1 s2 s3 t1 t3 t4 t5 t6 t7 t8 : Nat → Nat → Nat → Nat) (c o k : Nat) : Nat := match c with
  | 0 => (match o with
    | 0 => c0 0 0 k
    | 1 => c1 0 1 k
    | _ => c2 0 2 k)
  | 1 => t1 1 0 k
  | 2 => (match o with
    | 0 => s0 2 0 k
    | 1 => s1 2 1 k
    | 2 => s2 2 2 k
    | _ => s3 2 3 k)
  | 3 => t3 3 0 k
  | 4 => t4 4 0 k
  | 5 => t5 5 0 k
  | 6 => t6 6 0 k
  | 7 => t7 7 0 k
  | 8 => t8 8 0 k
  | _ => k_u [h0, 0, sa, ca] k
def k_l9 : List pmR := (9, 0, 0) :: (6, 0, 0) :: (6, 0, 1) :: (9, 0, 2) :: (9, 0, 3) :: ((((((((((((k_l5 0 ++ k_l8 0) ++ k_l7 0) ++ k_l3 0) ++ k_l4 0) ++ k_l1 0) ++ k_l2 0) ++ k_l2 1) ++ k_l2 2) ++ k_l2 3) ++ k_l0 0) ++ k_l0 1) ++ k_l0 2)
section KLABS
variable (h0 sa ca : Nat) (c0 c1 c2 s0 s1 s2 s3 t1 t3 t4 t5 t6 t7 t8 : Nat → Nat → Nat → Nat) (a : Nat → ClassId) (L : Nat) (xs : Nat → Int32)
theorem k_e_c0 : k_w (k_l0 0) a L xs c0 = k_w (k_l0 0) a L xs (k_q9 h0 sa ca c0 c1 c2 s0 s1 s2 s3 t1 t3 t4 t5 t6 t7 t8) := rfl
theorem k_e_c1 : k_w (k_l0 1) a L xs c1 = k_w (k_l0 1) a L xs (k_q9 h0 sa ca c0 c1 c2 s0 s1 s2 s3 t1 t3 t4 t5 t6 t7 t8) := rfl
theorem k_e_c2 : k_w (k_l0 2) a L xs c2 = k_w (k_l0 2) a L xs (k_q9 h0 sa ca c0 c1 c2 s0 s1 s2 s3 t1 t3 t4 t5 t6 t7 t8) := rfl
theorem k_e_s0 : k_w (k_l2 0) a L xs s0 = k_w (k_l2 0) a L xs (k_q9 h0 sa ca c0 c1 c2 s0 s1 s2 s3 t1 t3 t4 t5 t6 t7 t8) := rfl
theorem k_e_s1 : k_w (k_l2 1) a L xs s1 = k_w (k_l2 1) a L xs (k_q9 h0 sa ca c0 c1 c2 s0 s1 s2 s3 t1 t3 t4 t5 t6 t7 t8) := rfl
theorem k_e_s2 : k_w (k_l2 2) a L xs s2 = k_w (k_l2 2) a L xs (k_q9 h0 sa ca c0 c1 c2 s0 s1 s2 s3 t1 t3 t4 t5 t6 t7 t8) := rfl
theorem k_e_s3 : k_w (k_l2 3) a L xs s3 = k_w (k_l2 3) a L xs (k_q9 h0 sa ca c0 c1 c2 s0 s1 s2 s3 t1 t3 t4 t5 t6 t7 t8) := rfl
theorem k_e_t1 : k_w (k_l1 0) a L xs t1 = k_w (k_l1 0) a L xs (k_q9 h0 sa ca c0 c1 c2 s0 s1 s2 s3 t1 t3 t4 t5 t6 t7 t8) := rfl
theorem k_e_t3 : k_w (k_l3 0) a L xs t3 = k_w (k_l3 0) a L xs (k_q9 h0 sa ca c0 c1 c2 s0 s1 s2 s3 t1 t3 t4 t5 t6 t7 t8) := rfl
theorem k_e_t4 : k_w (k_l4 0) a L xs t4 = k_w (k_l4 0) a L xs (k_q9 h0 sa ca c0 c1 c2 s0 s1 s2 s3 t1 t3 t4 t5 t6 t7 t8) := rfl
theorem k_e_t5 : k_w (k_l5 0) a L xs t5 = k_w (k_l5 0) a L xs (k_q9 h0 sa ca c0 c1 c2 s0 s1 s2 s3 t1 t3 t4 t5 t6 t7 t8) := rfl
theorem k_e_t6 : k_w (k_l6 0) a L xs t6 = k_w (k_l6 0) a L xs (k_q9 h0 sa ca c0 c1 c2 s0 s1 s2 s3 t1 t3 t4 t5 t6 t7 t8) := rfl
theorem k_e_t7 : k_w (k_l7 0) a L xs t7 = k_w (k_l7 0) a L xs (k_q9 h0 sa ca c0 c1 c2 s0 s1 s2 s3 t1 t3 t4 t5 t6 t7 t8) := rfl
theorem k_e_t8 : k_w (k_l8 0) a L xs t8 = k_w (k_l8 0) a L xs (k_q9 h0 sa ca c0 c1 c2 s0 s1 s2 s3 t1 t3 t4 t5 t6 t7 t8) := rfl
theorem k_w_app (l1 l2 : List pmR) (q : Nat → Nat → Nat → Nat) : k_w (l1 ++ l2) a L xs q = k_w l1 a L xs q ++ k_w l2 a L xs q := by
  unfold k_w
  rw [List.map_append]
end KLABS
