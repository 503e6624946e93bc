/-! ===== the checks themselves, part 3: the law, 700 to 1150 ===== -/
theorem ab_chkL_700 : ab_chkp 252 700 750 = true := by decide +kernel
theorem ab_chkL_750 : ab_chkp 252 750 800 = true := by decide +kernel
theorem ab_chkL_800 : ab_chkp 252 800 850 = true := by decide +kernel
theorem ab_chkL_850 : ab_chkp 252 850 900 = true := by decide +kernel
theorem ab_chkL_900 : ab_chkp 252 900 950 = true := by decide +kernel
theorem ab_chkL_950 : ab_chkp 252 950 1000 = true := by decide +kernel
theorem ab_chkL_1000 : ab_chkp 252 1000 1050 = true := by decide +kernel
theorem ab_chkL_1050 : ab_chkp 252 1050 1100 = true := by decide +kernel
theorem ab_chkL_1100 : ab_chkp 252 1100 1150 = true := by decide +kernel
