/-! ===== PURE: save; the questions that cannot throw ===== -/
theorem op_save {X : ab_XX} (hI : Inv X) : ∃ a X1 Z, F_C_save X = some (a, X1) ∧ F_M_save X1 = some (a, Z) ∧ Inv Z ∧ Z 13 0 = nI 0 := by
  obtain ⟨g, ⟨nx, n, hx, hn, a3, a4, a5, a6⟩, ⟨b1, b2⟩, ⟨⟨L, c1, c2, c3, c4⟩, c5, c6⟩, d1, d2, d3⟩ := hI
  obtain ⟨m, m1, m2⟩ := GR_v g
  unfold F_C_save
  rw [h_312, b3_s, Option.bind_some]
  generalize hX1 : ab_up (ab_cpy X 3 12 0 0 453) 0 7 (nI 1) = X1
  have xo : ∀ o, o ≠ 0 → o ≠ 12 → X1 o = X o := fun o h0 h12 => by rw [← hX1, p_up_ne _ _ _ _ _ h0, h_cpy_o _ _ _ _ _ _ _ h12]
  have x0 : ∀ j, j ≠ 7 → X1 0 j = X 0 j := fun j hj => by rw [← hX1, p_up_df _ _ _ _ _ hj, h_cpy_o _ _ _ _ _ _ _ (by decide)]
  have x07 : X1 0 7 = nI 1 := by rw [← hX1, p_up_sm]
  have x12 : ∀ j, j < 453 → X1 12 j = X 3 j := fun j hj => by
    have e := h_cpy_in X 3 12 0 0 j hj
    rw [Nat.zero_add] at e
    rw [← hX1, p_up_ne _ _ _ _ _ (by decide), e]
  have eA : F_K_awardTotal X1 = some (nI m) := congrArg some (by rw [xo 3 (by decide) (by decide)]; exact m1)
  rw [eA, Option.bind_some]
  generalize hZ : cpM (ab_up (ab_up X1 13 0 (nI 0)) 13 3 (nI 1)) 0 9 405 = Z
  have zo : ∀ o, o ≠ 13 → o ≠ 14 → Z o = X1 o := fun o h13 h14 => by rw [← hZ, cpM_o _ _ _ _ _ h14, p_up_ne _ _ _ _ _ h13, p_up_ne _ _ _ _ _ h13]
  have z13 : ∀ j, j ≠ 0 → j ≠ 3 → Z 13 j = X 13 j := fun j h0 h3 => by rw [← hZ, cpM_o _ _ _ _ _ (by decide), p_up_df _ _ _ _ _ h3, p_up_df _ _ _ _ _ h0, xo 13 (by decide) (by decide)]
  have zr : ∀ i j, j < 405 → rwM Z i j = if i = 9 then rwM X 0 j else rwM X i j := fun i j hj => by
    have e : ∀ r, rwM (ab_up (ab_up X1 13 0 (nI 0)) 13 3 (nI 1)) r j = rwM X r j := fun r => by rw [rwM_up, rwM_up]; unfold rwM; rw [xo 14 (by decide) (by decide)]
    rw [← hZ, cpM_r _ _ _ _ _ hj, e, e]
  have z14 : ∀ j, j < 405 → Z 14 j = X 14 j := fun j hj => by rw [← rwM_0 Z j, zr 0 j hj, if_neg (by decide), rwM_0]
  refine ⟨nI m, X1, Z, rfl, ?_, ?_, by rw [← hZ, cpM_o _ _ _ _ _ (by decide), p_up_df _ _ _ _ _ (by decide), p_up_sm]⟩
  · unfold F_M_save
    rw [Option.bind_some, Option.bind_some, m_copies _ (by decide) (by decide) (by decide), b3_s, hZ]
    have e : F_M_awards Z = some (nI m) := congrArg some ((z14 308 (by decide)).trans m2)
    rw [e]
    rfl
  · have zx : ∀ o, o ≠ 0 → o ≠ 12 → o ≠ 13 → o ≠ 14 → Z o = X o := fun o h0 h12 h13 h14 => by rw [zo o h13 h14, xo o h0 h12]
    refine ⟨GR_congr g (fun j _ => by rw [zx 3 (by decide) (by decide) (by decide) (by decide)]) z14, ⟨nx, n, hx, hn, by rw [zx 4 (by decide) (by decide) (by decide) (by decide)]; exact a3, by rw [zx 4 (by decide) (by decide) (by decide) (by decide)]; exact a4, by rw [z13 2 (by decide) (by decide)]; exact a5, fun i h1 h2 => ?_⟩, ⟨?_, fun _ => ?_⟩, ⟨⟨L, c1, ?_, ?_, ?_⟩, ?_, ?_⟩, ?_, ?_, ?_⟩
    · refine GR_congr (a6 i h1 h2) (fun j hj => ?_) (fun j hj => by rw [zr i j hj, if_neg (by omega)])
      unfold rwC
      rw [zx 5 (by decide) (by decide) (by decide) (by decide)]
    · rw [zo 0 (by decide) (by decide), x07, ← hZ, cpM_o _ _ _ _ _ (by decide), p_up_sm]
    · exact GR_congr g (fun j hj => by rw [zo 12 (by decide) (by decide)]; exact x12 j hj) (fun j hj => by rw [zr 9 j hj, if_pos rfl, rwM_0])
    · rw [zx 6 (by decide) (by decide) (by decide) (by decide)]; exact c2
    · rw [z13 5 (by decide) (by decide)]; exact c3
    · rw [zx 7 (by decide) (by decide) (by decide) (by decide), zx 15 (by decide) (by decide) (by decide) (by decide)]; exact c4
    · rw [z13 7 (by decide) (by decide), zo 0 (by decide) (by decide), x0 8 (by decide)]; exact c5
    · rw [z13 8 (by decide) (by decide), zo 0 (by decide) (by decide), x0 9 (by decide)]; exact c6
    · rw [z13 12 (by decide) (by decide), zx 10 (by decide) (by decide) (by decide) (by decide)]; exact d1
    · rw [z13 13 (by decide) (by decide), zx 10 (by decide) (by decide) (by decide) (by decide)]; exact d2
    · rw [z13 14 (by decide) (by decide), zx 10 (by decide) (by decide) (by decide) (by decide)]; exact d3
/-- a question that cannot throw: both answers -/
def Q0 (C : Option Int32) (M : Option (Int32 × ab_XX)) : Prop := ∃ a Z, C = some a ∧ M = some (a, Z) ∧ Inv Z ∧ Z 13 0 = nI 0
theorem q0_of {X Z : ab_XX} (hI : Inv X) {C : Option Int32} {M : Option (Int32 × ab_XX)} (a : Int32) (h1 : C = some a) (h2 : M = some (a, Z)) (h3 : sm X Z) (h4 : Z 13 0 = nI 0) : Q0 C M := ⟨a, Z, h1, h2, inv_sm h3 hI, h4⟩
theorem q0_workerCount {X : ab_XX} (hI : Inv X) : Q0 (F_C_workerCount X) (F_M_workerCount X) := by
  have hI2 := hI
  obtain ⟨⟨v, hV, _, h, g⟩, _⟩ := hI2
  refine q0_of hI (nI (v 0)) (congrArg some (h 0 (by decide))) ?_ (sm_0 X (nI 0)) (p_up_sm X 13 0 _)
  unfold F_M_workerCount
  rw [Option.bind_some, m_workers (m13 g _ _)]
  rfl
theorem q0_shiftCount {X : ab_XX} (hI : Inv X) : Q0 (F_C_shiftCount X) (F_M_shiftCount X) := by
  have hI2 := hI
  obtain ⟨⟨v, hV, _, h, g⟩, _⟩ := hI2
  refine q0_of hI (nI (v 1)) (congrArg some (h 1 (by decide))) ?_ (sm_0 X (nI 0)) (p_up_sm X 13 0 _)
  unfold F_M_shiftCount
  rw [Option.bind_some, m_shifts (m13 g _ _)]
  rfl
theorem q0_awardCount {X : ab_XX} (hI : Inv X) : Q0 (F_C_awardCount X) (F_M_awardCount X) := by
  have hI2 := hI
  obtain ⟨⟨v, hV, _, h, g⟩, _⟩ := hI2
  refine q0_of hI (nI (v 2)) (congrArg some (h 2 (by decide))) ?_ (sm_0 X (nI 0)) (p_up_sm X 13 0 _)
  unfold F_M_awardCount
  rw [Option.bind_some, m_awards (m13 g _ _)]
  rfl
theorem q0_faultPosition {X : ab_XX} (hI : Inv X) : Q0 (F_C_faultPosition X) (F_M_faultPosition X) := by
  have e := hI.2.2.2.1.2.1
  refine q0_of hI (X 0 8) rfl ?_ (sm_0 X (nI 0)) (p_up_sm X 13 0 _)
  unfold F_M_faultPosition
  rw [Option.bind_some, p_up_df _ _ _ _ _ (by decide), e]
theorem q0_failedItem {X : ab_XX} (hI : Inv X) : Q0 (F_C_failedItem X) (F_M_failedItem X) := by
  have e := hI.2.2.2.1.2.2
  refine q0_of hI (X 0 9) rfl ?_ (sm_0 X (nI 0)) (p_up_sm X 13 0 _)
  unfold F_M_failedItem
  rw [Option.bind_some, p_up_df _ _ _ _ _ (by decide), e]
theorem q0_openShifts {X : ab_XX} (hI : Inv X) : Q0 (F_C_openShifts X) (F_M_openShifts X) := by
  have hI2 := hI
  obtain ⟨⟨v, hV, _, h, g⟩, _⟩ := hI2
  exact q0_of hI (nI (opn v)) (c_openShifts h hV) (m_openShifts g hV) (sm_0 X (nI 0)) (p_up_sm X 13 0 _)
theorem q0_isLegal {X : ab_XX} (hI : Inv X) : Q0 (F_C_isLegal X) (F_M_isLegal X) := by
  have hI2 := hI
  obtain ⟨⟨v, hV, _, h, g⟩, _⟩ := hI2
  obtain ⟨Z, hZ, e⟩ := m_isLegal g hV
  exact q0_of hI (nI (lgl v).toNat) (c_isLegal h hV) e (s11_sm hZ).1 (s11_sm hZ).2
