/-! ===== the checks themselves, part 3: the law, 1550 to 1900 ===== -/
theorem ab_chkL_1550 : ab_chkp 252 1550 1600 = true := by decide +kernel
theorem ab_chkL_1600 : ab_chkp 252 1600 1650 = true := by decide +kernel
theorem ab_chkL_1650 : ab_chkp 252 1650 1700 = true := by decide +kernel
theorem ab_chkL_1700 : ab_chkp 252 1700 1750 = true := by decide +kernel
theorem ab_chkL_1750 : ab_chkp 252 1750 1800 = true := by decide +kernel
theorem ab_chkL_1800 : ab_chkp 252 1800 1850 = true := by decide +kernel
theorem ab_chkL_1850 : ab_chkp 252 1850 1900 = true := by decide +kernel
