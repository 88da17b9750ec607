/-! the fast tables agree with the others -/
theorem pq_ok_a : ((List.range 184).take 60).all pq_okm = true := by decide +kernel
theorem pq_ok_b : (((List.range 184).drop 60).take 50).all pq_okm = true := by decide +kernel
theorem pq_ok_c : (((List.range 184).drop 110).take 40).all pq_okm = true := by decide +kernel
theorem pq_ok_d : (((List.range 184).drop 150).take 33).all pq_okm = true := by decide +kernel
def pq_okr (m a b : Nat) : Bool := (((List.range (pq_lims.getD m 0)).drop a).take b).all (fun pc => match pq_ins m pc with
  | some x => pq_ok1 m pc x
  | none => true)
theorem pq_ok_e0 : pq_okr 183 0 120 = true := by decide +kernel
theorem pq_ok_e120 : pq_okr 183 120 120 = true := by decide +kernel
theorem pq_ok_e240 : pq_okr 183 240 120 = true := by decide +kernel
theorem pq_ok_e360 : pq_okr 183 360 120 = true := by decide +kernel
theorem pq_ok_e480 : pq_okr 183 480 120 = true := by decide +kernel
theorem pq_ok_e600 : pq_okr 183 600 120 = true := by decide +kernel
theorem pq_ok_e720 : pq_okr 183 720 120 = true := by decide +kernel
theorem pq_ok_e840 : pq_okr 183 840 120 = true := by decide +kernel
theorem pq_ok_e960 : pq_okr 183 960 120 = true := by decide +kernel
theorem pq_ok_e1080 : pq_okr 183 1080 120 = true := by decide +kernel
theorem pq_ok_e1200 : pq_okr 183 1200 120 = true := by decide +kernel
theorem pq_ok_arr : (List.range 12).all (fun c => (List.range 50).all (fun k => pq_kd c k == 99 || (pq_kd c k == pm_kd c k && (c == 11 || (match pm_ar c k with
  | some (n, _) => n == pq_ln c k
  | none => false))))) = true := by decide +kernel
