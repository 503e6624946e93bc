/-! ===== all checks together ===== -/
theorem ab_dr_mem {a b k : Nat} (h1 : a ≤ k) (h2 : k < b) : k ∈ (List.range b).drop a := by
  refine List.mem_of_getElem? (i := k - a) ?_
  rw [List.getElem?_drop, List.getElem?_range (by omega)]
  congr 1
  omega
theorem ab_chk_hi {k pc : Nat} (h : ab_sz k ≤ pc) : ab_chk k pc = true := by
  have h1 : ab_cd k pc = ab_e0 := by
    unfold ab_cd
    have : Nat.blt pc (ab_sz k) = false := by
      cases hb : Nat.blt pc (ab_sz k) with
      | false => rfl
      | true =>
        have : pc < ab_sz k := Nat.le_of_ble_eq_true hb
        omega
    rw [this]
    rfl
  unfold ab_chk
  rw [h1]
  rfl
theorem ab_chk_of {a b k : Nat} (h : ab_chks a b = true) (h1 : a ≤ k) (h2 : k < b) (pc : Nat) : ab_chk k pc = true := by
  rcases Nat.lt_or_ge pc (ab_sz k) with q | q
  · exact List.all_eq_true.mp (List.all_eq_true.mp h k (ab_dr_mem h1 h2)) pc (List.mem_range.mpr q)
  · exact ab_chk_hi q
theorem ab_mchk_of {a b k : Nat} (h : ((List.range b).drop a).all ab_mchk = true) (h1 : a ≤ k) (h2 : k < b) : ab_mchk k = true := List.all_eq_true.mp h k (ab_dr_mem h1 h2)
theorem ab_chkp_of {k a b pc : Nat} (h : ab_chkp k a b = true) (h1 : a ≤ pc) (h2 : pc < b) : ab_chk k pc = true := List.all_eq_true.mp h pc (ab_dr_mem h1 h2)
theorem ab_law_all (pc : Nat) : ab_chk 252 pc = true := by
  rcases Nat.lt_or_ge pc 50 with q50 | q50
  · exact ab_chkp_of ab_chkL_0 (by omega) q50
  rcases Nat.lt_or_ge pc 100 with q100 | q100
  · exact ab_chkp_of ab_chkL_50 (by omega) q100
  rcases Nat.lt_or_ge pc 150 with q150 | q150
  · exact ab_chkp_of ab_chkL_100 (by omega) q150
  rcases Nat.lt_or_ge pc 200 with q200 | q200
  · exact ab_chkp_of ab_chkL_150 (by omega) q200
  rcases Nat.lt_or_ge pc 250 with q250 | q250
  · exact ab_chkp_of ab_chkL_200 (by omega) q250
  rcases Nat.lt_or_ge pc 300 with q300 | q300
  · exact ab_chkp_of ab_chkL_250 (by omega) q300
  rcases Nat.lt_or_ge pc 350 with q350 | q350
  · exact ab_chkp_of ab_chkL_300 (by omega) q350
  rcases Nat.lt_or_ge pc 400 with q400 | q400
  · exact ab_chkp_of ab_chkL_350 (by omega) q400
  rcases Nat.lt_or_ge pc 450 with q450 | q450
  · exact ab_chkp_of ab_chkL_400 (by omega) q450
  rcases Nat.lt_or_ge pc 500 with q500 | q500
  · exact ab_chkp_of ab_chkL_450 (by omega) q500
  rcases Nat.lt_or_ge pc 550 with q550 | q550
  · exact ab_chkp_of ab_chkL_500 (by omega) q550
  rcases Nat.lt_or_ge pc 600 with q600 | q600
  · exact ab_chkp_of ab_chkL_550 (by omega) q600
  rcases Nat.lt_or_ge pc 650 with q650 | q650
  · exact ab_chkp_of ab_chkL_600 (by omega) q650
  rcases Nat.lt_or_ge pc 700 with q700 | q700
  · exact ab_chkp_of ab_chkL_650 (by omega) q700
  rcases Nat.lt_or_ge pc 750 with q750 | q750
  · exact ab_chkp_of ab_chkL_700 (by omega) q750
  rcases Nat.lt_or_ge pc 800 with q800 | q800
  · exact ab_chkp_of ab_chkL_750 (by omega) q800
  rcases Nat.lt_or_ge pc 850 with q850 | q850
  · exact ab_chkp_of ab_chkL_800 (by omega) q850
  rcases Nat.lt_or_ge pc 900 with q900 | q900
  · exact ab_chkp_of ab_chkL_850 (by omega) q900
  rcases Nat.lt_or_ge pc 950 with q950 | q950
  · exact ab_chkp_of ab_chkL_900 (by omega) q950
  rcases Nat.lt_or_ge pc 1000 with q1000 | q1000
  · exact ab_chkp_of ab_chkL_950 (by omega) q1000
  rcases Nat.lt_or_ge pc 1050 with q1050 | q1050
  · exact ab_chkp_of ab_chkL_1000 (by omega) q1050
  rcases Nat.lt_or_ge pc 1100 with q1100 | q1100
  · exact ab_chkp_of ab_chkL_1050 (by omega) q1100
  rcases Nat.lt_or_ge pc 1150 with q1150 | q1150
  · exact ab_chkp_of ab_chkL_1100 (by omega) q1150
  rcases Nat.lt_or_ge pc 1200 with q1200 | q1200
  · exact ab_chkp_of ab_chkL_1150 (by omega) q1200
  rcases Nat.lt_or_ge pc 1250 with q1250 | q1250
  · exact ab_chkp_of ab_chkL_1200 (by omega) q1250
  rcases Nat.lt_or_ge pc 1300 with q1300 | q1300
  · exact ab_chkp_of ab_chkL_1250 (by omega) q1300
  rcases Nat.lt_or_ge pc 1350 with q1350 | q1350
  · exact ab_chkp_of ab_chkL_1300 (by omega) q1350
  rcases Nat.lt_or_ge pc 1400 with q1400 | q1400
  · exact ab_chkp_of ab_chkL_1350 (by omega) q1400
  rcases Nat.lt_or_ge pc 1450 with q1450 | q1450
  · exact ab_chkp_of ab_chkL_1400 (by omega) q1450
  rcases Nat.lt_or_ge pc 1500 with q1500 | q1500
  · exact ab_chkp_of ab_chkL_1450 (by omega) q1500
  rcases Nat.lt_or_ge pc 1550 with q1550 | q1550
  · exact ab_chkp_of ab_chkL_1500 (by omega) q1550
  rcases Nat.lt_or_ge pc 1600 with q1600 | q1600
  · exact ab_chkp_of ab_chkL_1550 (by omega) q1600
  rcases Nat.lt_or_ge pc 1650 with q1650 | q1650
  · exact ab_chkp_of ab_chkL_1600 (by omega) q1650
  rcases Nat.lt_or_ge pc 1700 with q1700 | q1700
  · exact ab_chkp_of ab_chkL_1650 (by omega) q1700
  rcases Nat.lt_or_ge pc 1750 with q1750 | q1750
  · exact ab_chkp_of ab_chkL_1700 (by omega) q1750
  rcases Nat.lt_or_ge pc 1800 with q1800 | q1800
  · exact ab_chkp_of ab_chkL_1750 (by omega) q1800
  rcases Nat.lt_or_ge pc 1850 with q1850 | q1850
  · exact ab_chkp_of ab_chkL_1800 (by omega) q1850
  rcases Nat.lt_or_ge pc 1900 with q1900 | q1900
  · exact ab_chkp_of ab_chkL_1850 (by omega) q1900
  rcases Nat.lt_or_ge pc 1950 with q1950 | q1950
  · exact ab_chkp_of ab_chkL_1900 (by omega) q1950
  rcases Nat.lt_or_ge pc 2000 with q2000 | q2000
  · exact ab_chkp_of ab_chkL_1950 (by omega) q2000
  rcases Nat.lt_or_ge pc 2050 with q2050 | q2050
  · exact ab_chkp_of ab_chkL_2000 (by omega) q2050
  rcases Nat.lt_or_ge pc 2100 with q2100 | q2100
  · exact ab_chkp_of ab_chkL_2050 (by omega) q2100
  rcases Nat.lt_or_ge pc 2150 with q2150 | q2150
  · exact ab_chkp_of ab_chkL_2100 (by omega) q2150
  rcases Nat.lt_or_ge pc 2200 with q2200 | q2200
  · exact ab_chkp_of ab_chkL_2150 (by omega) q2200
  rcases Nat.lt_or_ge pc 2250 with q2250 | q2250
  · exact ab_chkp_of ab_chkL_2200 (by omega) q2250
  rcases Nat.lt_or_ge pc 2300 with q2300 | q2300
  · exact ab_chkp_of ab_chkL_2250 (by omega) q2300
  rcases Nat.lt_or_ge pc 2350 with q2350 | q2350
  · exact ab_chkp_of ab_chkL_2300 (by omega) q2350
  rcases Nat.lt_or_ge pc 2400 with q2400 | q2400
  · exact ab_chkp_of ab_chkL_2350 (by omega) q2400
  rcases Nat.lt_or_ge pc 2403 with q2403 | q2403
  · exact ab_chkp_of ab_chkL_2400 (by omega) q2403
  exact ab_chk_hi (Nat.le_trans (by decide +kernel) q2403)
theorem ab_chk_all : ∀ k, k < 253 → ∀ pc, ab_chk k pc = true := by
  intro k hk pc
  rcases Nat.lt_or_ge k 32 with q32 | q32
  · exact ab_chk_of ab_chk_0 (by omega) q32 pc
  rcases Nat.lt_or_ge k 64 with q64 | q64
  · exact ab_chk_of ab_chk_32 (by omega) q64 pc
  rcases Nat.lt_or_ge k 96 with q96 | q96
  · exact ab_chk_of ab_chk_64 (by omega) q96 pc
  rcases Nat.lt_or_ge k 128 with q128 | q128
  · exact ab_chk_of ab_chk_96 (by omega) q128 pc
  rcases Nat.lt_or_ge k 160 with q160 | q160
  · exact ab_chk_of ab_chk_128 (by omega) q160 pc
  rcases Nat.lt_or_ge k 192 with q192 | q192
  · exact ab_chk_of ab_chk_160 (by omega) q192 pc
  rcases Nat.lt_or_ge k 224 with q224 | q224
  · exact ab_chk_of ab_chk_192 (by omega) q224 pc
  rcases Nat.lt_or_ge k 238 with q238 | q238
  · exact ab_chk_of ab_chk_224 (by omega) q238 pc
  rcases Nat.lt_or_ge k 252 with q252 | q252
  · exact ab_chk_of ab_chk_238 (by omega) q252 pc
  have : k = 252 := by omega
  subst this
  exact ab_law_all pc
theorem ab_mchk_all : ∀ k, k < 252 → ab_mchk k = true := by
  intro k hk
  rcases Nat.lt_or_ge k 32 with q32 | q32
  · exact ab_mchk_of ab_mchk_0 (by omega) q32
  rcases Nat.lt_or_ge k 64 with q64 | q64
  · exact ab_mchk_of ab_mchk_32 (by omega) q64
  rcases Nat.lt_or_ge k 96 with q96 | q96
  · exact ab_mchk_of ab_mchk_64 (by omega) q96
  rcases Nat.lt_or_ge k 128 with q128 | q128
  · exact ab_mchk_of ab_mchk_96 (by omega) q128
  rcases Nat.lt_or_ge k 160 with q160 | q160
  · exact ab_mchk_of ab_mchk_128 (by omega) q160
  rcases Nat.lt_or_ge k 192 with q192 | q192
  · exact ab_mchk_of ab_mchk_160 (by omega) q192
  rcases Nat.lt_or_ge k 224 with q224 | q224
  · exact ab_mchk_of ab_mchk_192 (by omega) q224
  rcases Nat.lt_or_ge k 252 with q252 | q252
  · exact ab_mchk_of ab_mchk_224 (by omega) q252
  omega
