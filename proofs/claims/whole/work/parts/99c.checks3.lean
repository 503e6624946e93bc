/-! ===== the checks themselves, part 3: the law, 1150 to 1550 ===== -/
theorem ab_chkL_1150 : ab_chkp 252 1150 1200 = true := by decide +kernel
theorem ab_chkL_1200 : ab_chkp 252 1200 1250 = true := by decide +kernel
theorem ab_chkL_1250 : ab_chkp 252 1250 1300 = true := by decide +kernel
theorem ab_chkL_1300 : ab_chkp 252 1300 1350 = true := by decide +kernel
theorem ab_chkL_1350 : ab_chkp 252 1350 1400 = true := by decide +kernel
theorem ab_chkL_1400 : ab_chkp 252 1400 1450 = true := by decide +kernel
theorem ab_chkL_1450 : ab_chkp 252 1450 1500 = true := by decide +kernel
theorem ab_chkL_1500 : ab_chkp 252 1500 1550 = true := by decide +kernel
