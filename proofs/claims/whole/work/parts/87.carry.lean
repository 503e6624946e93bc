/-! ===== PURE: an item is carried out ===== -/
theorem c_number {Y : ab_XX} {k j : Nat} (hk : k < 12) (hj : j < 5) : F_T_number Y (nI k) (nI j) = some (Y 9 (5 * k + j)) := by
  unfold F_T_number
  rw [p_mul, nI_add, if_neg (nI_nlt (Nat.zero_le _) (by omega)), if_neg (nI_ge (by omega) (by decide)), if_pos (p_in (by omega) (by decide)), Option.bind_some, nI_clamp (by omega), Nat.mul_comm]
theorem c_kind {Y : ab_XX} {k : Nat} (hk : k < 12) : F_T_kind Y (nI k) = some (Y 8 k) := by
  unfold F_T_kind
  rw [if_neg (nI_nlt (Nat.zero_le _) (by omega)), if_neg (nI_ge (by omega) (by decide)), if_pos (p_in (by omega) (by decide)), Option.bind_some, nI_clamp (by omega)]
theorem n01 : ¬ nI 0 = nI 1 := by decide
theorem n20 : ¬ nI 2 = nI 0 := by decide
theorem n21 : ¬ nI 2 = nI 1 := by decide
theorem m_done_w {Z : ab_XX} {k : Nat} (hk : k < 12) (h0 : Z 16 (6 * k) = nI 0) : F_M_isDone Z (nI k) = (F_M_workerThrown Z (Z 16 (6 * k + 1)) (Z 16 (6 * k + 2)) (Z 16 (6 * k + 3)) (Z 16 (6 * k + 4)) (Z 16 (6 * k + 5))).bind fun v846 => if v846 = nI 0 then ab_b3 (F_M_opensWorker Z (Z 16 (6 * k + 1)) (Z 16 (6 * k + 2)) (Z 16 (6 * k + 3)) (Z 16 (6 * k + 4)) (Z 16 (6 * k + 5))) (fun v866 X867 => if v866 < nI 0 then some (nI 0, X867) else some (nI 1, X867)) else some (nI 0, Z) := by
  have b0 : ab_in (nI (6 * k)) 480 = true := p_in (by omega) (by decide)
  have b1 : ab_in (nI (6 * k + 1)) 480 = true := p_in (by omega) (by decide)
  have b2 : ab_in (nI (6 * k + 2)) 480 = true := p_in (by omega) (by decide)
  have b3 : ab_in (nI (6 * k + 3)) 480 = true := p_in (by omega) (by decide)
  have b4 : ab_in (nI (6 * k + 4)) 480 = true := p_in (by omega) (by decide)
  have b5 : ab_in (nI (6 * k + 5)) 480 = true := p_in (by omega) (by decide)
  have c0 : (nI (6 * k)).toNatClampNeg = 6 * k := nI_clamp (by omega)
  have c1 : (nI (6 * k + 1)).toNatClampNeg = 6 * k + 1 := nI_clamp (by omega)
  have c2 : (nI (6 * k + 2)).toNatClampNeg = 6 * k + 2 := nI_clamp (by omega)
  have c3 : (nI (6 * k + 3)).toNatClampNeg = 6 * k + 3 := nI_clamp (by omega)
  have c4 : (nI (6 * k + 4)).toNatClampNeg = 6 * k + 4 := nI_clamp (by omega)
  have c5 : (nI (6 * k + 5)).toNatClampNeg = 6 * k + 5 := nI_clamp (by omega)
  unfold F_M_isDone
  simp only [p_mul, nI_add, b0, b1, b2, b3, b4, b5, if_true, Option.bind_some, c0, c1, c2, c3, c4, c5, h0, eq_self]
theorem m_done_s {Z : ab_XX} {k : Nat} (hk : k < 12) (h0 : Z 16 (6 * k) = nI 1) : F_M_isDone Z (nI k) = (F_M_shiftThrown Z (Z 16 (6 * k + 1)) (Z 16 (6 * k + 2)) (Z 16 (6 * k + 3)) (Z 16 (6 * k + 4)) (Z 16 (6 * k + 5))).bind fun v846 => if v846 = nI 0 then ab_b3 (F_M_opensShift Z (Z 16 (6 * k + 1)) (Z 16 (6 * k + 2)) (Z 16 (6 * k + 3)) (Z 16 (6 * k + 4)) (Z 16 (6 * k + 5))) (fun v866 X867 => if v866 < nI 0 then some (nI 0, X867) else some (nI 1, X867)) else some (nI 0, Z) := by
  have b0 : ab_in (nI (6 * k)) 480 = true := p_in (by omega) (by decide)
  have b1 : ab_in (nI (6 * k + 1)) 480 = true := p_in (by omega) (by decide)
  have b2 : ab_in (nI (6 * k + 2)) 480 = true := p_in (by omega) (by decide)
  have b3 : ab_in (nI (6 * k + 3)) 480 = true := p_in (by omega) (by decide)
  have b4 : ab_in (nI (6 * k + 4)) 480 = true := p_in (by omega) (by decide)
  have b5 : ab_in (nI (6 * k + 5)) 480 = true := p_in (by omega) (by decide)
  have c0 : (nI (6 * k)).toNatClampNeg = 6 * k := nI_clamp (by omega)
  have c1 : (nI (6 * k + 1)).toNatClampNeg = 6 * k + 1 := nI_clamp (by omega)
  have c2 : (nI (6 * k + 2)).toNatClampNeg = 6 * k + 2 := nI_clamp (by omega)
  have c3 : (nI (6 * k + 3)).toNatClampNeg = 6 * k + 3 := nI_clamp (by omega)
  have c4 : (nI (6 * k + 4)).toNatClampNeg = 6 * k + 4 := nI_clamp (by omega)
  have c5 : (nI (6 * k + 5)).toNatClampNeg = 6 * k + 5 := nI_clamp (by omega)
  unfold F_M_isDone
  simp only [p_mul, nI_add, b0, b1, b2, b3, b4, b5, if_true, Option.bind_some, c0, c1, c2, c3, c4, c5, h0, eq_self, if_neg n10]
theorem m_done_b {Z : ab_XX} {k : Nat} (hk : k < 12) (h0 : Z 16 (6 * k) = nI 2) : F_M_isDone Z (nI k) = (F_M_bidThrown Z (Z 16 (6 * k + 1)) (Z 16 (6 * k + 2)) (Z 16 (6 * k + 3))).bind fun v846 => if v846 = nI 0 then ab_b3 (F_M_laysBid Z (Z 16 (6 * k + 1)) (Z 16 (6 * k + 2)) (Z 16 (6 * k + 3))) (fun v866 X867 => if v866 < nI 0 then some (nI 0, X867) else some (nI 1, X867)) else some (nI 0, Z) := by
  have b0 : ab_in (nI (6 * k)) 480 = true := p_in (by omega) (by decide)
  have b1 : ab_in (nI (6 * k + 1)) 480 = true := p_in (by omega) (by decide)
  have b2 : ab_in (nI (6 * k + 2)) 480 = true := p_in (by omega) (by decide)
  have b3 : ab_in (nI (6 * k + 3)) 480 = true := p_in (by omega) (by decide)
  have c0 : (nI (6 * k)).toNatClampNeg = 6 * k := nI_clamp (by omega)
  have c1 : (nI (6 * k + 1)).toNatClampNeg = 6 * k + 1 := nI_clamp (by omega)
  have c2 : (nI (6 * k + 2)).toNatClampNeg = 6 * k + 2 := nI_clamp (by omega)
  have c3 : (nI (6 * k + 3)).toNatClampNeg = 6 * k + 3 := nI_clamp (by omega)
  unfold F_M_isDone
  simp only [p_mul, nI_add, b0, b1, b2, b3, if_true, Option.bind_some, c0, c1, c2, c3, h0, eq_self, if_neg n20, if_neg n21]
/-- the room for a bid -/
theorem c_bidRoom {X : ab_XX} {v : Nat → Nat} (hV : VV v) (h : RC (X 3) v) (h8 : ∀ w, w < v 0 → bt v w ≤ 8) {w s p : Nat} (hw : w < v 0) (hs : s < v 1) (hp : p ≤ 9) : F_K_hasRoomForBid X (nI w) (nI s) (nI p) = some (nI (if p = 0 ∨ bd v w s ≠ 0 ∨ bt v w < 8 then 1 else 0)) := by
  have hB := hV.1
  have h8w := h8 w hw
  have h9 := (hV.2.2.2.1 w s (by omega) (by omega)).1
  unfold F_K_hasRoomForBid
  rw [c_pointsFor h (by omega) (by omega), c_bidTotal h hV hw]
  simp only [Option.bind_some, nI_eq (by omega : p < 2 ^ 31) (by decide : 0 < 2 ^ 31), nI_eq (by omega : bd v w s < 2 ^ 31) (by decide : 0 < 2 ^ 31), nI_leI (by decide : 8 < 2 ^ 31) (by omega : bt v w < 2 ^ 31)]
  by_cases q1 : p = 0
  · simp [q1]
  · by_cases q2 : bd v w s = 0
    · by_cases q3 : 8 ≤ bt v w
      · have q4 : ¬ bt v w < 8 := by omega
        simp [q1, q2, q3, q4]
      · have q4 : bt v w < 8 := by omega
        simp [q1, q2, q3, q4]
    · simp [q1, q2]
theorem m_bidThr {Y : ab_XX} {v : Nat → Nat} (hV : VV v) (gY : RM (Y 14) v) (h8 : ∀ w, w < v 0 → bt v w ≤ 8) {w s p : Nat} (hw : w < v 0) (hs : s < v 1) (hp : p ≤ 9) (e2 : F_M_isWorker Y (nI w) = some (nI 1)) (f2 : F_M_isShift Y (nI s) = some (nI 1)) (g1 : F_M_in (nI p) (nI 0) (nI 9) = some (nI 1)) : F_M_bidThrown Y (nI w) (nI s) (nI p) = some (nI (if p = 0 ∨ bd v w s ≠ 0 ∨ bt v w < 8 then 0 else 3)) := by
  have hB := hV.1
  have h8w := h8 w hw
  have h9 := (hV.2.2.2.1 w s (by omega) (by omega)).1
  unfold F_M_bidThrown
  rw [e2, Option.bind_some, if_neg n10, f2, Option.bind_some, if_neg n10, g1, Option.bind_some, if_neg n10, m_bidOf gY hw hB.1 (by omega), m_bidsOf gY hV hw]
  simp only [Option.bind_some, nI_leI (by omega : p < 2 ^ 31) (by decide : 0 < 2 ^ 31), nI_eq (by omega : bd v w s < 2 ^ 31) (by decide : 0 < 2 ^ 31), nI_eq (by omega : bt v w < 2 ^ 31) (by decide : 8 < 2 ^ 31), Nat.le_zero_eq]
  by_cases q1 : p = 0
  · simp [q1]
  · by_cases q2 : bd v w s = 0
    · by_cases q3 : bt v w = 8
      · simp [q1, q2, q3]
      · have q4 : bt v w < 8 := by omega
        simp [q1, q2, q3, q4]
    · simp [q1, q2]
