/-! ===== the checks themselves, part 3: the law, 1900 to 2200 ===== -/
theorem ab_chkL_1900 : ab_chkp 252 1900 1950 = true := by decide +kernel
theorem ab_chkL_1950 : ab_chkp 252 1950 2000 = true := by decide +kernel
theorem ab_chkL_2000 : ab_chkp 252 2000 2050 = true := by decide +kernel
theorem ab_chkL_2050 : ab_chkp 252 2050 2100 = true := by decide +kernel
theorem ab_chkL_2100 : ab_chkp 252 2100 2150 = true := by decide +kernel
theorem ab_chkL_2150 : ab_chkp 252 2150 2200 = true := by decide +kernel
