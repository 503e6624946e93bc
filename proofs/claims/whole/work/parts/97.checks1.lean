/-! ===== the checks themselves, part 1 ===== -/
theorem ab_chk_0 : ab_chks 0 32 = true := by decide +kernel
theorem ab_chk_32 : ab_chks 32 64 = true := by decide +kernel
theorem ab_chk_64 : ab_chks 64 96 = true := by decide +kernel
theorem ab_chk_96 : ab_chks 96 128 = true := by decide +kernel
theorem ab_chk_128 : ab_chks 128 160 = true := by decide +kernel
theorem ab_chk_160 : ab_chks 160 192 = true := by decide +kernel
theorem ab_chk_192 : ab_chks 192 224 = true := by decide +kernel
