/-! ===== PURE: addItems ===== -/
theorem inv_fin {X W : ab_XX} (hI : Inv X) (hg : GR (W 3) (W 14)) (hH : ∃ nx n, HI W nx n) (h07 : W 0 7 = X 0 7) (h133 : W 13 3 = X 13 3) (h12 : W 12 = X 12) (h9 : ∀ j, j < 405 → rwM W 9 j = rwM X 9 j) (h6 : W 6 1 = nI 0) (h135 : W 13 5 = nI 0) (h08 : W 0 8 = W 13 7) (h09 : W 0 9 = W 13 8) (h10 : W 10 = X 10) (hr : ∀ j, j = 12 ∨ j = 13 ∨ j = 14 → W 13 j = X 13 j) : Inv W := by
  obtain ⟨_, _, ⟨b1, b2⟩, _, d1, d2, d3⟩ := hI
  refine ⟨hg, hH, ⟨by rw [h133, h07]; exact b1, fun hn => ?_⟩, ⟨⟨0, Nat.zero_le _, h6, h135, fun j hj => by omega⟩, h08, h09⟩, by rw [h10, hr 12 (.inl rfl)]; exact d1, by rw [h10, hr 13 (.inr (.inl rfl))]; exact d2, by rw [h10, hr 14 (.inr (.inr rfl))]; exact d3⟩
  rw [h07] at hn
  rw [h12]
  exact GR_congr (b2 hn) (fun _ _ => rfl) h9
theorem op_addItems {X : ab_XX} (hI : Inv X) : OP (F_C_addItems X) [(0, 1), (1, 2)] F_M_addItems := by
  have hI2 := hI
  obtain ⟨⟨v, hV, hb8, h, g⟩, ⟨nx, n, hH⟩, _, ⟨⟨L, hL, t1, t2, t3⟩, _, _⟩, _⟩ := hI2
  have hB := hV.1
  have hH0 := hH
  obtain ⟨hx, hn, a3, a4, a5, a6⟩ := hH
  obtain ⟨Y3, y1, y2, y3, y4, y5⟩ := c_start hL t1
  -- the reference, started where the class ended
  have ms : ∀ X1 : ab_XX, (∀ o, o = 13 ∨ o = 15 → X1 o = X o) → _ := fun X1 e => m_start (X := X1) (f := X 7) hL (by rw [e 13 (.inl rfl)]; exact t2) (fun j hj => by rw [e 15 (.inr rfl)]; exact (t3 j hj).symm)
  cases hr : ptx (tx (X 7) L) L 12 0 0 E0 with
  | inl q =>
    rw [hr] at y5
    obtain ⟨e1, e2, e3⟩ := y5
    obtain ⟨Z3, z1, z2, z3, z4, z5⟩ := ms Y3 (fun o ho => y1 o (by omega) (by omega) (by omega) (by omega))
    rw [hr] at z5
    obtain ⟨z5, z6, z7⟩ := z5
    have zo : ∀ o, o ≠ 0 → o ≠ 6 → o ≠ 8 → o ≠ 9 → o ≠ 13 → o ≠ 16 → Z3 o = X o := fun o b0 b6 b8 b9 b13 b16 => by rw [z1 o b13 b16, y1 o b0 b6 b8 b9]
    have zr : ∀ i, rwM Z3 i = rwM X i := fun i => by unfold rwM; rw [zo 14 (by decide) (by decide) (by decide) (by decide) (by decide) (by decide)]
    have zc : ∀ a, rwC Z3 5 a = rwC X 5 a := fun a => by unfold rwC; rw [zo 5 (by decide) (by decide) (by decide) (by decide) (by decide) (by decide)]
    have z13 : ∀ j, j = 2 ∨ j = 3 ∨ j = 12 ∨ j = 13 ∨ j = 14 → Z3 13 j = X 13 j := fun j hj => by rw [z2 j hj, y1 13 (by decide) (by decide) (by decide) (by decide)]
    have z0 : Z3 0 = Y3 0 := z1 0 (by decide) (by decide)
    have hZ : Inv Z3 := by
      refine inv_fin hI ?_ ⟨nx, n, hx, hn, ?_, ?_, ?_, fun i h1 h2 => ?_⟩ (by rw [z0, y2]) (z13 3 (by omega)) (zo 12 (by decide) (by decide) (by decide) (by decide) (by decide) (by decide)) (fun j _ => by rw [zr]) (by rw [z1 6 (by decide) (by decide)]; exact y4) z4 (by rw [z0, e2, z5]) (by rw [z0, y3, z3]) (zo 10 (by decide) (by decide) (by decide) (by decide) (by decide) (by decide)) (fun j hj => z13 j (by omega))
      · rw [zo 3 (by decide) (by decide) (by decide) (by decide) (by decide) (by decide), zo 14 (by decide) (by decide) (by decide) (by decide) (by decide) (by decide)]
        exact hI.1
      · rw [zo 4 (by decide) (by decide) (by decide) (by decide) (by decide) (by decide)]; exact a3
      · rw [zo 4 (by decide) (by decide) (by decide) (by decide) (by decide) (by decide)]; exact a4
      · rw [z13 2 (by omega)]; exact a5
      · rw [zr, zc]; exact a6 i h1 h2
    exact ⟨.inr 0, Y3, nI 0, Z3, e1, z7, hZ, .inr ⟨0, 1, .head _, rfl, z6⟩⟩
  | inr r =>
    have hgood := ptx_good (tx (X 7) L) L 12 0 0 E0 (fun k hk => by omega) r hr
    rw [hr] at y5
    obtain ⟨e1, e2, e3, e4, e5⟩ := y5
    obtain ⟨w, g1, g2, g3, g4⟩ := run_ls e4 hgood r.1 0 v hV hb8 (Nat.zero_add _)
    -- the class carries out
    generalize hX2 : ab_cpy Y3 3 11 0 0 453 = X2 at *
    have x2o : ∀ o, o ≠ 11 → X2 o = Y3 o := fun o ho => by rw [← hX2]; exact h_cpy_o _ _ _ _ _ _ _ ho
    have x2r : ∀ j, j < 453 → X2 11 j = X 3 j := fun j hj => by
      have := h_cpy_in Y3 3 11 0 0 j hj
      rw [Nat.zero_add, hX2] at this
      rw [this, y1 3 (by decide) (by decide) (by decide) (by decide)]
    have gc := g3 X2 ab_fu (by unfold ab_fu; omega) (by rw [x2o 3 (by decide), y1 3 (by decide) (by decide) (by decide) (by decide)]; exact h) (fun k hk => by
      rw [x2o 8 (by decide), x2o 9 (by decide)]
      exact e3 k hk) (by rw [x2o 6 (by decide)]; exact e2)
    have ec : F_C_addItems X = ab_b3 (L_C_carryOutItems_2 ab_fu X2 (nI 0)) (fun v294 X295 => (some (ab_up X295 0 9 v294)).bind fun X296 => if X296 0 9 = (-1 : Int32) then ab_b3 (F_H_remember_11 X296) (fun _ X303 => (F_T_itemTotal X303).bind fun v304 => some (.inl v304, X303)) else ab_b3 (F_K_copyFrom_11 X296) (fun _ X309 => some (.inr 1, X309))) := by
      rw [e5, h_311, b3_s, hX2]
      rfl
    -- the reference carries out
    have mc : ∀ X1 : ab_XX, (∀ o, o = 10 ∨ o = 12 ∨ o = 13 ∨ o = 14 ∨ o = 15 → X1 o = X o) → ∃ Z4 : ab_XX, (∀ o, o ≠ 13 → o ≠ 14 → o ≠ 16 → Z4 o = X1 o) ∧ (∀ j, j = 2 ∨ j = 3 ∨ j = 12 ∨ j = 13 ∨ j = 14 → Z4 13 j = X 13 j) ∧ Z4 13 8 = -1 ∧ Z4 13 5 = nI 0 ∧ Z4 13 7 = -1 ∧ Z4 13 10 = nI r.1 ∧ Z4 13 0 = nI 0 ∧ MI Z4 r.2 r.1 ∧ (∀ i j, j < 405 → rwM Z4 i j = if i = 10 then X 14 j else rwM X i j) ∧ F_M_addItems X1 = L_M_addItems_122 ab_fu Z4 (nI 0) := fun X1 hx1 => by
      obtain ⟨Z3, z1, z2, z3, z4, z5⟩ := ms X1 (fun o ho => hx1 o (by omega))
      rw [hr] at z5
      obtain ⟨z5, z6, z7, z8, z9⟩ := z5
      rw [m_copies Z3 (a := 0) (b := 10) (by decide) (by decide) (by decide), b3_s] at z9
      have c13 : cpM Z3 0 10 405 13 = Z3 13 := cpM_o _ _ _ _ _ (by decide)
      refine ⟨cpM Z3 0 10 405, fun o h13 h14 h16 => by rw [cpM_o _ _ _ _ _ h14, z1 o h13 h16], fun j hj => by rw [c13, z2 j hj, hx1 13 (by omega)], by rw [c13]; exact z3, by rw [c13]; exact z4, by rw [c13]; exact z5, by rw [c13]; exact z6, by rw [c13]; exact z8, fun k hk => by rw [cpM_o _ _ _ _ _ (by decide)]; exact z7 k hk, fun i j hj => ?_, z9⟩
      rw [cpM_r _ _ _ _ _ hj]
      have e14 : Z3 14 = X 14 := by rw [z1 14 (by decide) (by decide), hx1 14 (by omega)]
      have er : ∀ i, rwM Z3 i = rwM X i := fun i => by unfold rwM; rw [e14]
      by_cases hi : i = 10
      · rw [if_pos hi, if_pos hi, er, rwM_0]
      · rw [if_neg hi, if_neg hi, er]
    cases w with
    | inl j =>
      have hj := g2 j rfl
      obtain ⟨f, e6⟩ := gc
      have n9 : ¬ nI j = (-1 : Int32) := fun z => by
        have := (cI_neg (some j) (fun w hw => by cases hw; omega)).mp z
        cases this
      generalize hX5 : (fun o => if o = 3 then f else X2 o : ab_XX) = X5 at e6
      have x5 : ∀ o, o ≠ 3 → X5 o = X2 o := fun o ho => by rw [← hX5]; exact if_neg ho
      have e7 : F_C_addItems X = some (.inr 1, ab_cpy (ab_up X5 0 9 (nI j)) 11 3 0 0 453) := by
        rw [ec, e6, b3_s, Option.bind_some, p_up_sm, if_neg n9, h_113, b3_s]
      generalize hX1 : ab_cpy (ab_up X5 0 9 (nI j)) 11 3 0 0 453 = X1 at e7
      have x1o : ∀ o, o ≠ 0 → o ≠ 3 → o ≠ 11 → X1 o = Y3 o := fun o h0 h3 h11 => by rw [← hX1, h_cpy_o _ _ _ _ _ _ _ h3, p_up_ne _ _ _ _ _ h0, x5 o h3, x2o o h11]
      have x10 : ∀ i, i ≠ 9 → X1 0 i = Y3 0 i := fun i hi => by rw [← hX1, h_cpy_o _ _ _ _ _ _ _ (by decide), p_up_df _ _ _ _ _ hi, x5 0 (by decide), x2o 0 (by decide)]
      have x109 : X1 0 9 = nI j := by rw [← hX1, h_cpy_o _ _ _ _ _ _ _ (by decide), p_up_sm]
      have x13 : ∀ i, i < 453 → X1 3 i = X 3 i := fun i hi => by
        have := h_cpy_in (ab_up X5 0 9 (nI j)) 11 3 0 0 i hi
        rw [Nat.zero_add, hX1] at this
        rw [this, p_up_ne _ _ _ _ _ (by decide), x5 11 (by decide), x2r i hi]
      have x1x : ∀ o, o ≠ 0 → o ≠ 3 → o ≠ 6 → o ≠ 8 → o ≠ 9 → o ≠ 11 → X1 o = X o := fun o h0 h3 h6 h8 h9 h11 => by rw [x1o o h0 h3 h11, y1 o h0 h6 h8 h9]
      obtain ⟨Z4, z1, z2, z3, z4, z5, z6, z7, z8, z9, z10⟩ := mc X1 (fun o ho => x1x o (by omega) (by omega) (by omega) (by omega) (by omega) (by omega))
      have g14 : RM (Z4 14) v := RM_congr hV (fun j hj => by
        have := z9 0 j hj
        rw [if_neg (by decide), rwM_0, rwM_0] at this
        exact this) g
      obtain ⟨Z5, ⟨w1, w2, w3⟩, w4, w5⟩ := g4 Z4 ab_fu (by unfold ab_fu; omega) g14 z8 z6 z3
      rw [m_copies Z5 (a := 10) (b := 0) (by decide) (by decide) (by decide), b3_s, Option.bind_some] at w5
      have r5 : ∀ i j, 1 ≤ i → rwM Z5 i j = rwM Z4 i j := fun i j hi => w3 _ (by omega)
      generalize hZ : ab_up (cpM Z5 10 0 405) 13 0 (nI 2) = Z at w5
      have zo : ∀ o, o ≠ 13 → o ≠ 14 → o ≠ 16 → Z o = X1 o := fun o h13 h14 h16 => by rw [← hZ, p_up_ne _ _ _ _ _ h13, cpM_o _ _ _ _ _ h14, w1 o h13 h14, z1 o h13 h14 h16]
      have z13 : ∀ j, j ≠ 0 → j ≠ 8 → Z 13 j = Z4 13 j := fun j h0 h8 => by rw [← hZ, p_up_df _ _ _ _ _ h0, cpM_o _ _ _ _ _ (by decide), w2 j h8]
      have z138 : Z 13 8 = nI j := by rw [← hZ, p_up_df _ _ _ _ _ (by decide), cpM_o _ _ _ _ _ (by decide)]; exact w4
      have zr : ∀ i j, j < 405 → i ≤ 9 → rwM Z i j = rwM X i j := fun i j hj hi => by
        have e : rwM Z i j = rwM (cpM Z5 10 0 405) i j := by rw [← hZ, rwM_up]
        rw [e, cpM_r _ _ _ _ _ hj]
        by_cases h0 : i = 0
        · rw [if_pos h0, r5 10 j (by decide), z9 10 j hj, if_pos rfl, h0, rwM_0]
        · rw [if_neg h0, r5 i j (by omega), z9 i j hj, if_neg (by omega)]
      have hZI : Inv Z := by
        refine inv_fin hI ?_ ⟨nx, n, hx, hn, ?_, ?_, ?_, fun i h1 h2 => ?_⟩ ?_ (by rw [z13 3 (by decide) (by decide), z2 3 (by omega)]) (by rw [zo 12 (by decide) (by decide) (by decide), x1x 12 (by decide) (by decide) (by decide) (by decide) (by decide) (by decide)]) (fun j hj => zr 9 j hj (Nat.le_refl _)) (by rw [zo 6 (by decide) (by decide) (by decide), x1o 6 (by decide) (by decide) (by decide)]; exact y4) (by rw [z13 5 (by decide) (by decide)]; exact z4) ?_ ?_ (by rw [zo 10 (by decide) (by decide) (by decide), x1x 10 (by decide) (by decide) (by decide) (by decide) (by decide) (by decide)]) (fun j hj => by rw [z13 j (by omega) (by omega), z2 j (by omega)])
        · refine GR_congr hI.1 (fun j hj => ?_) (fun j hj => ?_)
          · rw [zo 3 (by decide) (by decide) (by decide), x13 j hj]
          · have := zr 0 j hj (by decide)
            rw [rwM_0, rwM_0] at this
            exact this
        · rw [zo 4 (by decide) (by decide) (by decide), x1x 4 (by decide) (by decide) (by decide) (by decide) (by decide) (by decide)]; exact a3
        · rw [zo 4 (by decide) (by decide) (by decide), x1x 4 (by decide) (by decide) (by decide) (by decide) (by decide) (by decide)]; exact a4
        · rw [z13 2 (by decide) (by decide), z2 2 (by omega)]; exact a5
        · refine GR_congr (a6 i h1 h2) (fun j hj => ?_) (fun j hj => zr i j hj (by omega))
          unfold rwC
          rw [zo 5 (by decide) (by decide) (by decide), x1x 5 (by decide) (by decide) (by decide) (by decide) (by decide) (by decide)]
        · rw [zo 0 (by decide) (by decide) (by decide), x10 7 (by decide), y2]
        · rw [zo 0 (by decide) (by decide) (by decide), x10 8 (by decide), e1, z13 7 (by decide) (by decide), z5]
        · rw [zo 0 (by decide) (by decide) (by decide), x109, z138]
      exact ⟨.inr 1, X1, nI 0, Z, e7, by rw [z10, w5], hZI, .inr ⟨1, 2, .tail _ (.head _), rfl, by rw [← hZ, p_up_sm]⟩⟩
    | inr u =>
      obtain ⟨hV2, h82⟩ := g1 u rfl
      obtain ⟨f, e6, hf⟩ := gc
      generalize hX5 : (fun o => if o = 3 then f else X2 o : ab_XX) = X5 at e6
      have x5 : ∀ o, o ≠ 3 → X5 o = X2 o := fun o ho => by rw [← hX5]; exact if_neg ho
      have x53 : X5 3 = f := by rw [← hX5]; rfl
      have x6o : ∀ o, o ≠ 0 → o ≠ 3 → o ≠ 11 → ab_up X5 0 9 (-1) o = Y3 o := fun o h0 h3 h11 => by rw [p_up_ne _ _ _ _ _ h0, x5 o h3, x2o o h11]
      have e7 : F_C_addItems X = some (.inl (nI r.1), rmb (ab_up X5 0 9 (-1)) 11 nx n) := by
        rw [ec, e6, b3_s, Option.bind_some, p_up_sm, if_pos rfl, h_remember_11 (nx := nx) (n := n) (by rw [x6o 4 (by decide) (by decide) (by decide), y1 4 (by decide) (by decide) (by decide) (by decide)]; exact a3) (by rw [x6o 4 (by decide) (by decide) (by decide), y1 4 (by decide) (by decide) (by decide) (by decide)]; exact a4) hx hn, b3_s]
        unfold F_T_itemTotal
        rw [rmb_o _ _ _ _ _ (by decide) (by decide), x6o 6 (by decide) (by decide) (by decide), e2, Option.bind_some]
      generalize hX1 : rmb (ab_up X5 0 9 (-1)) 11 nx n = X1 at e7
      have x1o : ∀ o, o ≠ 4 → o ≠ 5 → X1 o = ab_up X5 0 9 (-1) o := fun o h4 h5 => by rw [← hX1, rmb_o _ _ _ _ _ h4 h5]
      have x1x : ∀ o, o ≠ 0 → o ≠ 3 → o ≠ 4 → o ≠ 5 → o ≠ 6 → o ≠ 8 → o ≠ 9 → o ≠ 11 → X1 o = X o := fun o h0 h3 h4 h5 h6 h8 h9 h11 => by rw [x1o o h4 h5, x6o o h0 h3 h11, y1 o h0 h6 h8 h9]
      have x13 : X1 3 = f := by rw [x1o 3 (by decide) (by decide), p_up_ne _ _ _ _ _ (by decide), x53]
      have x10 : ∀ i, i ≠ 9 → X1 0 i = Y3 0 i := fun i hi => by rw [x1o 0 (by decide) (by decide), p_up_df _ _ _ _ _ hi, x5 0 (by decide), x2o 0 (by decide)]
      have x109 : X1 0 9 = -1 := by rw [x1o 0 (by decide) (by decide), p_up_sm]
      have x141 : X1 4 1 = nI ((nx + 1) % 8) := by rw [← hX1, rmb_41]
      have x142 : X1 4 2 = nI (min (n + 1) 8) := by rw [← hX1, rmb_42]
      have x15 : ∀ i, X1 5 i = if 453 * nx ≤ i ∧ i < 453 * nx + 453 then X 3 (i - 453 * nx) else X 5 i := fun i => by
        rw [← hX1, rmb_5]
        by_cases hi : 453 * nx ≤ i ∧ i < 453 * nx + 453
        · rw [if_pos hi, if_pos hi, p_up_ne _ _ _ _ _ (by decide), x5 11 (by decide), x2r _ (by omega)]
        · rw [if_neg hi, if_neg hi, x6o 5 (by decide) (by decide) (by decide), y1 5 (by decide) (by decide) (by decide) (by decide)]
      obtain ⟨Z4, z1, z2, z3, z4, z5, z6, z7, z8, z9, z10⟩ := mc X1 (fun o ho => x1x o (by omega) (by omega) (by omega) (by omega) (by omega) (by omega) (by omega) (by omega))
      have g14 : RM (Z4 14) v := RM_congr hV (fun j hj => by
        have := z9 0 j hj
        rw [if_neg (by decide), rwM_0, rwM_0] at this
        exact this) g
      obtain ⟨Z5, ⟨w1, w2, w3⟩, w4, w5, w6⟩ := g4 Z4 ab_fu (by unfold ab_fu; omega) g14 z8 z6 z3
      have r5 : ∀ i j, 1 ≤ i → rwM Z5 i j = rwM Z4 i j := fun i j hi => w3 _ (by omega)
      obtain ⟨Z6, eZ6, k1, k2, k3, k4, k5⟩ := m_keeps (X := Z5) hn (by rw [w2 2 (by decide), z2 2 (by omega)]; exact a5)
      rw [eZ6, b3_s, k3, m_copies Z6 (a := 10) (b := min (n + 1) 8) (by decide) (by omega) (by omega), b3_s] at w6
      generalize hZ : cpM Z6 10 (min (n + 1) 8) 405 = Z at w6
      have zo : ∀ o, o ≠ 13 → o ≠ 14 → o ≠ 16 → Z o = X1 o := fun o h13 h14 h16 => by rw [← hZ, cpM_o _ _ _ _ _ h14, k1 o h13 h14, w1 o h13 h14, z1 o h13 h14 h16]
      have z13 : ∀ j, j ≠ 2 → j ≠ 8 → Z 13 j = Z4 13 j := fun j h2 h8 => by rw [← hZ, cpM_o _ _ _ _ _ (by decide), k2 j h2, w2 j h8]
      have z138 : Z 13 8 = -1 := by rw [← hZ, cpM_o _ _ _ _ _ (by decide), k2 8 (by decide)]; exact w4
      have z132 : Z 13 2 = nI (min (n + 1) 8) := by rw [← hZ, cpM_o _ _ _ _ _ (by decide)]; exact k3
      have zr : ∀ i j, j < 405 → rwM Z i j = if i = min (n + 1) 8 then rwM Z6 10 j else rwM Z6 i j := fun i j hj => by rw [← hZ, cpM_r _ _ _ _ _ hj]
      have r10 : ∀ j, j < 405 → rwM Z6 10 j = X 14 j := fun j hj => by rw [k4 10 j hj (.inr (by decide)), r5 10 j (by decide), z9 10 j hj, if_pos rfl]
      have gZ : RM (Z 14) u := RM_congr hV2 (fun j hj => by
        have e := zr 0 j hj
        rw [if_neg (by omega), k4 0 j hj (.inl rfl), rwM_0, rwM_0] at e
        exact e) w5
      have hZI : Inv Z := by
        refine inv_fin hI ⟨u, hV2, h82, by rw [zo 3 (by decide) (by decide) (by decide), x13]; exact hf, gZ⟩ ⟨(nx + 1) % 8, min (n + 1) 8, HI_keep (X1 := X1) hH0 hI.1 x141 x142 x15 (zo 4 (by decide) (by decide) (by decide)) (zo 5 (by decide) (by decide) (by decide)) z132 (fun i j hj h1 h2 => ?_)⟩ ?_ (by rw [z13 3 (by decide) (by decide), z2 3 (by omega)]) (by rw [zo 12 (by decide) (by decide) (by decide), x1x 12 (by decide) (by decide) (by decide) (by decide) (by decide) (by decide) (by decide) (by decide)]) (fun j hj => ?_) (by rw [zo 6 (by decide) (by decide) (by decide), x1o 6 (by decide) (by decide), x6o 6 (by decide) (by decide) (by decide)]; exact y4) (by rw [z13 5 (by decide) (by decide)]; exact z4) ?_ ?_ (by rw [zo 10 (by decide) (by decide) (by decide), x1x 10 (by decide) (by decide) (by decide) (by decide) (by decide) (by decide) (by decide) (by decide)]) (fun j hj => by rw [z13 j (by omega) (by omega), z2 j (by omega)])
        · rw [zr i j hj]
          by_cases hi : i = min (n + 1) 8
          · rw [if_pos hi, if_pos hi, r10 j hj, rwM_0]
          · rw [if_neg hi, if_neg hi, k5 i j hj h1 h2, if_neg hi]
            by_cases h8 : n = 8
            · rw [if_pos h8, if_pos h8, r5 _ j (by omega), z9 _ j hj, if_neg (by omega)]
            · rw [if_neg h8, if_neg h8, r5 _ j (by omega), z9 _ j hj, if_neg (by omega)]
        · rw [zo 0 (by decide) (by decide) (by decide), x10 7 (by decide), y2]
        · rw [zr 9 j hj, if_neg (by omega), k4 9 j hj (.inr (by decide)), r5 9 j (by decide), z9 9 j hj, if_neg (by decide)]
        · rw [zo 0 (by decide) (by decide) (by decide), x10 8 (by decide), e1, z13 7 (by decide) (by decide), z5]
        · rw [zo 0 (by decide) (by decide) (by decide), x109, z138]
      have h1310 : Z 13 10 = nI r.1 := by rw [z13 10 (by decide) (by decide)]; exact z6
      have h130 : Z 13 0 = nI 0 := by rw [z13 0 (by decide) (by decide)]; exact z7
      exact ⟨.inl (nI r.1), X1, nI r.1, Z, e7, by rw [z10, w6, h1310], hZI, .inl ⟨nI r.1, rfl, h130, rfl⟩⟩
