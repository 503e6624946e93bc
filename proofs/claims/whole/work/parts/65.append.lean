/-! ===== PURE: appendCharacter ===== -/
theorem op_appendCharacter {X : ab_XX} (hI : Inv X) (a : Int32) : OP (F_C_appendCharacter X a) [(0, 1), (1, 2)] (fun X1 => F_M_appendCharacter X1 a) := by
  have hI2 := hI
  obtain ⟨g, ⟨nx, n, hx, hn, a3, a4, a5, a6⟩, ⟨b1, b2⟩, ⟨⟨L, c1, c2, c3, c4⟩, c5, c6⟩, d1, d2, d3⟩ := hI2
  unfold F_C_appendCharacter
  rcases in_cs a 33 126 (by decide) (by decide) with ⟨p, _, hp, rfl, g1, g2⟩ | ⟨g1, g2⟩
  · rw [g2, Option.bind_some, if_neg n10]
    unfold F_T_isFull
    rw [c2]
    by_cases hL : L = 80
    · subst hL
      rw [if_neg (nI_nlt (Nat.le_refl _) (by decide)), Option.bind_some, if_neg n10]
      refine op_x hI 1 2 (.tail _ (.head _)) rfl ?_
      show F_M_appendCharacter _ _ = _
      unfold F_M_appendCharacter
      rw [g1, Option.bind_some, if_neg n10, c3, if_pos rfl, th_k X _ _ (by decide) (by decide)]
    · have hL2 : L < 80 := by omega
      have hLn : ¬ nI L = nI 80 := fun z => hL ((nI_eq (by omega) (by decide)).mp z)
      rw [if_pos (nI_lt hL2 (by decide)), Option.bind_some, if_pos rfl]
      generalize hX1 : ab_up (ab_up X 7 L (nI p)) 6 1 (nI (L + 1)) = X1
      have eC : F_T_append X (nI p) = some (nI (L + 1), X1) := by
        have e6 : ab_up X 7 L (nI p) 6 1 = nI L := by rw [p_up_ne _ _ _ _ _ (by decide)]; exact c2
        unfold F_T_append
        rw [c2, if_neg (nI_nlt (Nat.zero_le _) (by omega)), if_neg (nI_ge hL2 (by decide)), if_pos (p_in hL2 (by decide)), nI_clamp (by omega), Option.bind_some, Option.bind_some, p_up_sm, e6, nI_add, hX1]
      rw [eC, b3_s]
      have xo : ∀ o, o ≠ 6 → o ≠ 7 → X1 o = X o := fun o h6 h7 => by rw [← hX1, p_up_ne _ _ _ _ _ h6, p_up_ne _ _ _ _ _ h7]
      generalize hZ : ab_up (ab_up (ab_up X1 13 0 (nI 0)) 15 L (nI p)) 13 5 (nI (L + 1)) = Z
      have z13 : ∀ j, j ≠ 0 → j ≠ 5 → Z 13 j = X 13 j := fun j h0 h5 => by rw [← hZ, p_up_df _ _ _ _ _ h5, p_up_ne _ _ _ _ _ (by decide), p_up_df _ _ _ _ _ h0, xo 13 (by decide) (by decide)]
      have z15 : Z 15 = upd (X 15) L (nI p) := by rw [← hZ, p_up_ne _ _ _ _ _ (by decide), p_up_eq, p_up_ne _ _ _ _ _ (by decide), xo 15 (by decide) (by decide)]
      have zo : ∀ o, o ≠ 13 → o ≠ 15 → Z o = X1 o := fun o h13 h15 => by rw [← hZ, p_up_ne _ _ _ _ _ h13, p_up_ne _ _ _ _ _ h15, p_up_ne _ _ _ _ _ h13]
      have zx : ∀ o, o ≠ 6 → o ≠ 7 → o ≠ 13 → o ≠ 15 → Z o = X o := fun o h6 h7 h13 h15 => by rw [zo o h13 h15, xo o h6 h7]
      have zr : ∀ r, rwM Z r = rwM X r := fun r => by unfold rwM; rw [zx 14 (by decide) (by decide) (by decide) (by decide)]
      have z7 : Z 7 = upd (X 7) L (nI p) := by rw [zo 7 (by decide) (by decide), ← hX1, p_up_ne _ _ _ _ _ (by decide), p_up_eq]
      refine op_k (nI (L + 1)) X1 Z rfl ?_ ?_ (by rw [← hZ, p_up_df _ _ _ _ _ (by decide), p_up_ne _ _ _ _ _ (by decide), p_up_sm])
      · show F_M_appendCharacter _ _ = _
        have e5 : X1 13 5 = nI L := by rw [xo 13 (by decide) (by decide)]; exact c3
        have e5b : ab_up (ab_up X1 13 0 (nI 0)) 15 L (nI p) 13 5 = nI L := by rw [p_up_ne _ _ _ _ _ (by decide), p_up_df _ _ _ _ _ (by decide)]; exact e5
        unfold F_M_appendCharacter
        rw [g1, Option.bind_some, if_neg n10, e5, if_neg hLn, th_0, p_up_df _ _ _ _ _ (by decide), e5, if_pos (p_in hL2 (by decide)), nI_clamp (by omega), Option.bind_some, Option.bind_some, p_up_sm, e5b, nI_add, hZ]
      · refine ⟨?_, ⟨nx, n, hx, hn, ?_, ?_, ?_, fun i h1 h2 => ?_⟩, ⟨?_, ?_⟩, ⟨⟨L + 1, by omega, ?_, ?_, fun j hj => ?_⟩, ?_, ?_⟩, ?_, ?_, ?_⟩
        · rw [zx 3 (by decide) (by decide) (by decide) (by decide), zx 14 (by decide) (by decide) (by decide) (by decide)]; exact g
        · rw [zx 4 (by decide) (by decide) (by decide) (by decide)]; exact a3
        · rw [zx 4 (by decide) (by decide) (by decide) (by decide)]; exact a4
        · rw [z13 2 (by decide) (by decide)]; exact a5
        · rw [zr]
          have e : rwC Z 5 (453 * ((nx + 7 + i - n) % 8)) = rwC X 5 (453 * ((nx + 7 + i - n) % 8)) := by unfold rwC; rw [zx 5 (by decide) (by decide) (by decide) (by decide)]
          rw [e]
          exact a6 i h1 h2
        · rw [z13 3 (by decide) (by decide), zx 0 (by decide) (by decide) (by decide) (by decide)]; exact b1
        · rw [zx 0 (by decide) (by decide) (by decide) (by decide), zx 12 (by decide) (by decide) (by decide) (by decide), zr]; exact b2
        · rw [zo 6 (by decide) (by decide), ← hX1, p_up_sm]
        · rw [← hZ, p_up_sm]
        · rw [z7, z15]
          unfold upd
          by_cases hjL : j = L
          · rw [if_pos hjL, if_pos hjL]
          · rw [if_neg hjL, if_neg hjL]
            exact c4 j (by omega)
        · rw [z13 7 (by decide) (by decide), zx 0 (by decide) (by decide) (by decide) (by decide)]; exact c5
        · rw [z13 8 (by decide) (by decide), zx 0 (by decide) (by decide) (by decide) (by decide)]; exact c6
        · rw [z13 12 (by decide) (by decide), zx 10 (by decide) (by decide) (by decide) (by decide)]; exact d1
        · rw [z13 13 (by decide) (by decide), zx 10 (by decide) (by decide) (by decide) (by decide)]; exact d2
        · rw [z13 14 (by decide) (by decide), zx 10 (by decide) (by decide) (by decide) (by decide)]; exact d3
  · rw [g2, Option.bind_some, if_pos rfl]
    refine op_x hI 0 1 (.head _) rfl ?_
    show F_M_appendCharacter _ _ = _
    unfold F_M_appendCharacter
    rw [g1, Option.bind_some, if_pos rfl, th_k X _ _ (by decide) (by decide)]
