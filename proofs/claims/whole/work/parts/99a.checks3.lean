/-! ===== the checks themselves, part 3: the law, 0 to 700 ===== -/
def ab_chkp (k a b : Nat) : Bool := ((List.range b).drop a).all fun pc => ab_chk k pc
theorem ab_chkL_0 : ab_chkp 252 0 50 = true := by decide +kernel
theorem ab_chkL_50 : ab_chkp 252 50 100 = true := by decide +kernel
theorem ab_chkL_100 : ab_chkp 252 100 150 = true := by decide +kernel
theorem ab_chkL_150 : ab_chkp 252 150 200 = true := by decide +kernel
theorem ab_chkL_200 : ab_chkp 252 200 250 = true := by decide +kernel
theorem ab_chkL_250 : ab_chkp 252 250 300 = true := by decide +kernel
theorem ab_chkL_300 : ab_chkp 252 300 350 = true := by decide +kernel
theorem ab_chkL_350 : ab_chkp 252 350 400 = true := by decide +kernel
theorem ab_chkL_400 : ab_chkp 252 400 450 = true := by decide +kernel
theorem ab_chkL_450 : ab_chkp 252 450 500 = true := by decide +kernel
theorem ab_chkL_500 : ab_chkp 252 500 550 = true := by decide +kernel
theorem ab_chkL_550 : ab_chkp 252 550 600 = true := by decide +kernel
theorem ab_chkL_600 : ab_chkp 252 600 650 = true := by decide +kernel
theorem ab_chkL_650 : ab_chkp 252 650 700 = true := by decide +kernel
