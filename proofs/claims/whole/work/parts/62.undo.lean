/-! ===== PURE: undo, save, restore ===== -/
theorem GR_v {f g : Nat → Int32} (h : GR f g) : ∃ n, f 2 = nI n ∧ g 308 = nI n := by
  obtain ⟨v, _, _, c, d⟩ := h
  exact ⟨v 2, c 2 (by decide), d.2.2.1⟩
theorem op_restore {X : ab_XX} (hI : Inv X) : OP (F_C_restore X) [(1, 1)] F_M_restore := by
  have hI2 := hI
  obtain ⟨_, ⟨nx, n, hH⟩, ⟨b1, b2⟩, _⟩ := hI2
  unfold F_C_restore
  by_cases h0 : X 0 7 = nI 0
  · rw [if_pos h0]
    refine op_x hI 1 1 (.head _) rfl ?_
    unfold F_M_restore
    rw [if_pos (b1.trans h0), th_k X _ _ (by decide) (by decide)]
  · rw [if_neg h0]
    have hg := b2 h0
    obtain ⟨m, m1, m2⟩ := GR_v hg
    have hH0 := hH
    obtain ⟨hx, hn, a3, a4, _⟩ := hH
    rw [h_remember_3 a3 a4 hx hn, b3_s, h_123, b3_s]
    have e3 : ∀ j, j < 453 → ab_cpy (rmb X 3 nx n) 12 3 0 0 453 3 j = X 12 j := fun j hj => by
      have e := h_cpy_in (rmb X 3 nx n) 12 3 0 0 j hj
      rw [Nat.zero_add] at e
      rw [e, rmb_o _ _ _ _ _ (by decide) (by decide)]
    have eo : ∀ o, o ≠ 3 → ab_cpy (rmb X 3 nx n) 12 3 0 0 453 o = rmb X 3 nx n o := fun o ho => h_cpy_o _ _ _ _ _ _ _ ho
    have eA : F_K_awardTotal (ab_cpy (rmb X 3 nx n) 12 3 0 0 453) = some (nI m) := congrArg some ((e3 2 (by decide)).trans m1)
    rw [eA, Option.bind_some]
    obtain ⟨Z, eZ, hZ, hZ0⟩ := op_change hI hH0 (X1 := ab_cpy (rmb X 3 nx n) 12 3 0 0 453) eo (k := fun Y => ab_b3 (F_M_copies Y (nI 9) (nI 0)) (fun _ X567 => (F_M_awards X567).bind fun v568 => some (v568, X567))) (b := nI m) (fun Y hY14 _ h9 => by
      have r0 : ∀ j, j < 405 → cpM Y 9 0 405 14 j = rwM X 9 j := fun j hj => by
        rw [← rwM_0 (cpM Y 9 0 405) j, cpM_r _ _ _ _ _ hj, if_pos rfl, h9 j hj]
      refine ⟨cpM Y 9 0 405, ?_, fun o ho => cpM_o _ _ _ _ _ ho, fun i hi => ?_, GR_congr hg e3 r0⟩
      · rw [m_copies _ (by decide) (by decide) (by decide), b3_s]
        have e : F_M_awards (cpM Y 9 0 405) = some (nI m) := congrArg some ((r0 308 (by decide)).trans m2)
        rw [e]
        rfl
      · unfold cpM
        rw [if_pos rfl, if_neg (by omega)])
    refine op_k (nI m) _ Z rfl ?_ hZ hZ0
    unfold F_M_restore
    rw [if_neg (show ¬ ab_cpy (rmb X 3 nx n) 12 3 0 0 453 13 3 = nI 0 by rw [eo 13 (by decide), rmb_o _ _ _ _ _ (by decide) (by decide), b1]; exact h0), th_0]
    exact eZ
theorem op_undo {X : ab_XX} (hI : Inv X) : OP (F_C_undo X) [(1, 1)] F_M_undo := by
  have hI2 := hI
  obtain ⟨g, ⟨nx, n, hx, hn, a3, a4, a5, a6⟩, ⟨b1, b2⟩, ⟨⟨L, c1, c2, c3, c4⟩, c5, c6⟩, d1, d2, d3⟩ := hI2
  unfold F_C_undo F_H_kept
  rw [a4, Option.bind_some]
  by_cases h0 : n = 0
  · subst h0
    rw [if_pos rfl]
    refine op_x hI 1 1 (.head _) rfl ?_
    unfold F_M_undo
    rw [a5, if_pos rfl, th_k X _ _ (by decide) (by decide)]
  · have hn0 : ¬ nI n = nI 0 := fun z => h0 ((nI_eq (by omega) (by decide)).mp z)
    rw [if_neg hn0]
    have hg := a6 n (by omega) (Nat.le_refl _)
    rw [show (nx + 7 + n - n) % 8 = (nx + 7) % 8 by omega] at hg
    have eT : F_H_takeBack_3 X = some ((), ab_cpy (ab_up (ab_up X 4 1 (nI ((nx + 7) % 8))) 4 2 (nI (n - 1))) 5 3 (453 * ((nx + 7) % 8)) 0 453) := by
      unfold F_H_takeBack_3
      rw [a4, if_neg hn0, Option.bind_some, Option.bind_some, p_up_df _ _ _ _ _ (by decide), p_up_df _ _ _ _ _ (by decide), p_up_sm, a3, a4, nI_add, p_sub (by omega), h_mod8 _ (by omega), p_sub (by omega), show nx + 8 - 1 = nx + 7 by omega, p_mul, Nat.mul_comm ((nx + 7) % 8) 453, h_53 _ (by omega), b3_s]
    rw [eT, b3_s]
    generalize hX1 : ab_cpy (ab_up (ab_up X 4 1 (nI ((nx + 7) % 8))) 4 2 (nI (n - 1))) 5 3 (453 * ((nx + 7) % 8)) 0 453 = X1
    have xo : ∀ o, o ≠ 3 → o ≠ 4 → X1 o = X o := fun o h3 h4 => by rw [← hX1, h_cpy_o _ _ _ _ _ _ _ h3, p_up_ne _ _ _ _ _ h4, p_up_ne _ _ _ _ _ h4]
    have x41 : X1 4 1 = nI ((nx + 7) % 8) := by rw [← hX1, h_cpy_o _ _ _ _ _ _ _ (by decide), p_up_df _ _ _ _ _ (by decide), p_up_sm]
    have x42 : X1 4 2 = nI (n - 1) := by rw [← hX1, h_cpy_o _ _ _ _ _ _ _ (by decide), p_up_sm]
    have x3 : ∀ j, j < 453 → X1 3 j = rwC X 5 (453 * ((nx + 7) % 8)) j := fun j hj => by
      have e := h_cpy_in (ab_up (ab_up X 4 1 (nI ((nx + 7) % 8))) 4 2 (nI (n - 1))) 5 3 (453 * ((nx + 7) % 8)) 0 j hj
      rw [Nat.zero_add] at e
      rw [← hX1, e, p_up_ne _ _ _ _ _ (by decide), p_up_ne _ _ _ _ _ (by decide)]
      rfl
    have eM : F_M_undo X1 = some (nI (n - 1), ab_up (cpM (ab_up X1 13 0 (nI 0)) n 0 405) 13 2 (nI (n - 1))) := by
      have e13 : X1 13 2 = nI n := by rw [xo 13 (by decide) (by decide)]; exact a5
      unfold F_M_undo
      rw [e13, if_neg hn0, th_0, p_up_df _ _ _ _ _ (by decide), e13, m_copies _ (by omega) (by decide) h0, b3_s, Option.bind_some, p_up_sm, cpM_o _ _ _ _ _ (by decide), p_up_df _ _ _ _ _ (by decide), e13, p_sub (by omega)]
    refine op_k (nI (n - 1)) X1 _ (by rw [x42]; rfl) eM ?_ (by rw [p_up_df _ _ _ _ _ (by decide), cpM_o _ _ _ _ _ (by decide), p_up_sm])
    generalize hZ : ab_up (cpM (ab_up X1 13 0 (nI 0)) n 0 405) 13 2 (nI (n - 1)) = Z
    have zo : ∀ o, o ≠ 13 → o ≠ 14 → Z o = X1 o := fun o h13 h14 => by rw [← hZ, p_up_ne _ _ _ _ _ h13, cpM_o _ _ _ _ _ h14, p_up_ne _ _ _ _ _ h13]
    have z13 : ∀ j, j ≠ 0 → j ≠ 2 → Z 13 j = X 13 j := fun j h0 h2 => by rw [← hZ, p_up_df _ _ _ _ _ h2, cpM_o _ _ _ _ _ (by decide), p_up_df _ _ _ _ _ h0, xo 13 (by decide) (by decide)]
    have zr : ∀ i j, j < 405 → rwM Z i j = if i = 0 then rwM X n j else rwM X i j := fun i j hj => by
      have e : ∀ r, rwM (ab_up X1 13 0 (nI 0)) r j = rwM X r j := fun r => by rw [rwM_up]; unfold rwM; rw [xo 14 (by decide) (by decide)]
      rw [← hZ, rwM_up, cpM_r _ _ _ _ _ hj, e, e]
    have zx : ∀ o, o ≠ 3 → o ≠ 4 → o ≠ 13 → o ≠ 14 → Z o = X o := fun o h3 h4 h13 h14 => by rw [zo o h13 h14, xo o h3 h4]
    refine ⟨GR_congr hg (fun j hj => by rw [zo 3 (by decide) (by decide)]; exact x3 j hj) (fun j hj => by rw [← rwM_0 Z j, zr 0 j hj, if_pos rfl]), ⟨(nx + 7) % 8, n - 1, Nat.mod_lt _ (by decide), by omega, by rw [zo 4 (by decide) (by decide)]; exact x41, by rw [zo 4 (by decide) (by decide)]; exact x42, by rw [← hZ, p_up_sm], fun i h1 h2 => ?_⟩, ⟨?_, ?_⟩, ⟨⟨L, c1, ?_, ?_, ?_⟩, ?_, ?_⟩, ?_, ?_, ?_⟩
    · refine GR_congr (a6 i h1 (by omega)) (fun j hj => ?_) (fun j hj => by rw [zr i j hj, if_neg (by omega)])
      unfold rwC
      rw [zx 5 (by decide) (by decide) (by decide) (by decide), show ((nx + 7) % 8 + 7 + i - (n - 1)) % 8 = (nx + 7 + i - n) % 8 by omega]
    · rw [z13 3 (by decide) (by decide), zx 0 (by decide) (by decide) (by decide) (by decide)]; exact b1
    · rw [zx 0 (by decide) (by decide) (by decide) (by decide), zx 12 (by decide) (by decide) (by decide) (by decide)]
      exact fun hh => GR_congr (b2 hh) (fun _ _ => rfl) (fun j hj => by rw [zr 9 j hj, if_neg (by decide)])
    · rw [zx 6 (by decide) (by decide) (by decide) (by decide)]; exact c2
    · rw [z13 5 (by decide) (by decide)]; exact c3
    · rw [zx 7 (by decide) (by decide) (by decide) (by decide), zx 15 (by decide) (by decide) (by decide) (by decide)]; exact c4
    · rw [z13 7 (by decide) (by decide), zx 0 (by decide) (by decide) (by decide) (by decide)]; exact c5
    · rw [z13 8 (by decide) (by decide), zx 0 (by decide) (by decide) (by decide) (by decide)]; exact c6
    · rw [z13 12 (by decide) (by decide), zx 10 (by decide) (by decide) (by decide) (by decide)]; exact d1
    · rw [z13 13 (by decide) (by decide), zx 10 (by decide) (by decide) (by decide) (by decide)]; exact d2
    · rw [z13 14 (by decide) (by decide), zx 10 (by decide) (by decide) (by decide) (by decide)]; exact d3
