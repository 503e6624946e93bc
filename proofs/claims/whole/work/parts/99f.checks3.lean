/-! ===== the checks themselves, part 3: the law, 2200 to 2403 ===== -/
theorem ab_chkL_2200 : ab_chkp 252 2200 2250 = true := by decide +kernel
theorem ab_chkL_2250 : ab_chkp 252 2250 2300 = true := by decide +kernel
theorem ab_chkL_2300 : ab_chkp 252 2300 2350 = true := by decide +kernel
theorem ab_chkL_2350 : ab_chkp 252 2350 2400 = true := by decide +kernel
theorem ab_chkL_2400 : ab_chkp 252 2400 2403 = true := by decide +kernel
