/-! decode rows, a method at a time -/
theorem pm_dc_175_0 : ((pmc_175.drop 0).take 120).all (fun e => decide (decode cX10_openTo e.1 = .ok (e.2.1, e.2.2))) = true := by decide +kernel
theorem pm_dc_176_0 : ((pmc_176.drop 0).take 120).all (fun e => decide (decode cX10_open e.1 = .ok (e.2.1, e.2.2))) = true := by decide +kernel
theorem pm_dc_177_0 : ((pmc_177.drop 0).take 120).all (fun e => decide (decode cX10_sure e.1 = .ok (e.2.1, e.2.2))) = true := by decide +kernel
theorem pm_dc_178_0 : ((pmc_178.drop 0).take 120).all (fun e => decide (decode cX10_count e.1 = .ok (e.2.1, e.2.2))) = true := by decide +kernel
theorem pm_dc_179_0 : ((pmc_179.drop 0).take 120).all (fun e => decide (decode cJ6_bitCount_0f7a4 e.1 = .ok (e.2.1, e.2.2))) = true := by decide +kernel
theorem pm_dc_180_0 : ((pmc_180.drop 0).take 120).all (fun e => decide (decode cJ13_bitCount_95d88 e.1 = .ok (e.2.1, e.2.2))) = true := by decide +kernel
theorem pm_dc_181_0 : ((pmc_181.drop 0).take 120).all (fun e => decide (decode cJ7_fill_d0a16 e.1 = .ok (e.2.1, e.2.2))) = true := by decide +kernel
theorem pm_dc_182_0 : ((pmc_182.drop 0).take 120).all (fun e => decide (decode cJ7_fill_53178 e.1 = .ok (e.2.1, e.2.2))) = true := by decide +kernel
theorem pm_dc_183_0 : ((pmc_183.drop 0).take 120).all (fun e => decide (decode cL_law e.1 = .ok (e.2.1, e.2.2))) = true := by decide +kernel
theorem pm_dc_183_120 : ((pmc_183.drop 120).take 120).all (fun e => decide (decode cL_law e.1 = .ok (e.2.1, e.2.2))) = true := by decide +kernel
theorem pm_dc_183_240 : ((pmc_183.drop 240).take 120).all (fun e => decide (decode cL_law e.1 = .ok (e.2.1, e.2.2))) = true := by decide +kernel
theorem pm_dc_183_360 : ((pmc_183.drop 360).take 120).all (fun e => decide (decode cL_law e.1 = .ok (e.2.1, e.2.2))) = true := by decide +kernel
theorem pm_dc_183_480 : ((pmc_183.drop 480).take 120).all (fun e => decide (decode cL_law e.1 = .ok (e.2.1, e.2.2))) = true := by decide +kernel
theorem pm_dc_183_600 : ((pmc_183.drop 600).take 120).all (fun e => decide (decode cL_law e.1 = .ok (e.2.1, e.2.2))) = true := by decide +kernel
theorem pm_dc_183_720 : ((pmc_183.drop 720).take 120).all (fun e => decide (decode cL_law e.1 = .ok (e.2.1, e.2.2))) = true := by decide +kernel
theorem pm_dc_183_840 : ((pmc_183.drop 840).take 120).all (fun e => decide (decode cL_law e.1 = .ok (e.2.1, e.2.2))) = true := by decide +kernel
