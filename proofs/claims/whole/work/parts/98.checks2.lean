/-! ===== the checks themselves, part 2 ===== -/
theorem ab_chk_224 : ab_chks 224 238 = true := by decide +kernel
theorem ab_chk_238 : ab_chks 238 252 = true := by decide +kernel
theorem ab_mchk_0 : ((List.range 32).drop 0).all ab_mchk = true := by decide +kernel
theorem ab_mchk_32 : ((List.range 64).drop 32).all ab_mchk = true := by decide +kernel
theorem ab_mchk_64 : ((List.range 96).drop 64).all ab_mchk = true := by decide +kernel
theorem ab_mchk_96 : ((List.range 128).drop 96).all ab_mchk = true := by decide +kernel
theorem ab_mchk_128 : ((List.range 160).drop 128).all ab_mchk = true := by decide +kernel
theorem ab_mchk_160 : ((List.range 192).drop 160).all ab_mchk = true := by decide +kernel
theorem ab_mchk_192 : ((List.range 224).drop 192).all ab_mchk = true := by decide +kernel
theorem ab_mchk_224 : ((List.range 252).drop 224).all ab_mchk = true := by decide +kernel
