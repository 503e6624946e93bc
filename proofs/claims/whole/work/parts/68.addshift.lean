/-! ===== PURE: addShift, the call ===== -/
theorem sr_cs (a1 a2 a3 a4 a5 : Int32) : (∃ d h l k ne, d ≤ 27 ∧ h ≤ 23 ∧ 1 ≤ l ∧ l ≤ 12 ∧ k ≤ 3 ∧ 1 ≤ ne ∧ ne ≤ 3 ∧ a1 = nI d ∧ a2 = nI h ∧ a3 = nI l ∧ a4 = nI k ∧ a5 = nI ne ∧ F_K_isShiftInRange a1 a2 a3 a4 a5 = some (nI 1) ∧ ∀ Y, F_M_shiftThrown Y a1 a2 a3 a4 a5 = (F_M_shifts Y).bind fun v480 => if v480 = nI 16 then some (nI 2) else some (nI 0)) ∨ (F_K_isShiftInRange a1 a2 a3 a4 a5 = some (nI 0) ∧ ∀ Y, F_M_shiftThrown Y a1 a2 a3 a4 a5 = some (nI 1)) := by
  unfold F_K_isShiftInRange F_M_shiftThrown
  rcases in_cs a1 0 27 (by decide) (by decide) with ⟨d, _, hd, rfl, g1, g2⟩ | ⟨g1, g2⟩
  · rcases in_cs a2 0 23 (by decide) (by decide) with ⟨h, _, hh, rfl, g3, g4⟩ | ⟨g3, g4⟩
    · rcases in_cs a3 1 12 (by decide) (by decide) with ⟨l, hl1, hl, rfl, g5, g6⟩ | ⟨g5, g6⟩
      · rcases in_cs a4 0 3 (by decide) (by decide) with ⟨k, _, hk, rfl, g7, g8⟩ | ⟨g7, g8⟩
        · rcases in_cs a5 1 3 (by decide) (by decide) with ⟨ne, hn1, hn, rfl, g9, g10⟩ | ⟨g9, g10⟩
          · refine .inl ⟨d, h, l, k, ne, hd, hh, hl1, hl, hk, hn1, hn, rfl, rfl, rfl, rfl, rfl, ?_, fun Y => ?_⟩
            · simp only [g2, g4, g6, g8, g10, Option.bind_some, if_neg n10]
            · simp only [g1, g3, g5, g7, g9, Option.bind_some, if_neg n10]
          · refine .inr ⟨?_, fun Y => ?_⟩
            · simp only [g2, g4, g6, g8, g10, Option.bind_some, if_neg n10, if_true]
            · simp only [g1, g3, g5, g7, g9, Option.bind_some, if_neg n10, if_true]
        · refine .inr ⟨?_, fun Y => ?_⟩
          · simp only [g2, g4, g6, g8, Option.bind_some, if_neg n10, if_true]
          · simp only [g1, g3, g5, g7, Option.bind_some, if_neg n10, if_true]
      · refine .inr ⟨?_, fun Y => ?_⟩
        · simp only [g2, g4, g6, Option.bind_some, if_neg n10, if_true]
        · simp only [g1, g3, g5, Option.bind_some, if_neg n10, if_true]
    · refine .inr ⟨?_, fun Y => ?_⟩
      · simp only [g2, g4, Option.bind_some, if_neg n10, if_true]
      · simp only [g1, g3, Option.bind_some, if_neg n10, if_true]
  · refine .inr ⟨?_, fun Y => ?_⟩
    · simp only [g2, Option.bind_some, if_true]
    · simp only [g1, Option.bind_some, if_true]
theorem op_addShift {X : ab_XX} (hI : Inv X) (a1 a2 a3 a4 a5 : Int32) : OP (F_C_addShift X a1 a2 a3 a4 a5) [(0, 1), (1, 2)] (fun X1 => F_M_addShift X1 a1 a2 a3 a4 a5) := by
  have hI2 := hI
  obtain ⟨⟨v, hV, hb8, h, g⟩, ⟨nx, n, hH⟩, _⟩ := hI2
  have hB := hV.1
  have thr : ∀ (Y : ab_XX) (k : Nat), 0 < k → k < 2 ^ 31 → F_M_shiftThrown Y a1 a2 a3 a4 a5 = some (nI k) → F_M_addShift Y a1 a2 a3 a4 a5 = some (nI 0, ab_up Y 13 0 (nI k)) := fun Y k h0 hk e => by
    unfold F_M_addShift
    rw [e, Option.bind_some, th_k Y _ _ h0 hk]
  unfold F_C_addShift F_K_hasRoomForShift
  rcases sr_cs a1 a2 a3 a4 a5 with ⟨d, hh, l, k, ne, hd, hh2, hl1, hl, hk, hn1, hn3, rfl, rfl, rfl, rfl, rfl, e1, e2⟩ | ⟨e1, e2⟩
  · rw [e1, Option.bind_some, if_neg n10, c_1 h]
    by_cases h16 : v 1 = 16
    · rw [h16, if_pos (nI_le (Nat.le_refl _) (by decide)), Option.bind_some, if_pos rfl]
      refine op_x hI 1 2 (.tail _ (.head _)) rfl (thr X 2 (by decide) (by decide) ?_)
      rw [e2, m_shifts g, h16, Option.bind_some, if_pos rfl]
    · have hlt : v 1 < 16 := by omega
      rw [if_neg (nI_ge hlt (by decide)), Option.bind_some, if_neg n10]
      have hH0 := hH
      obtain ⟨hx, hn, b3, b4, _⟩ := hH
      rw [h_remember_3 b3 b4 hx hn, b3_s]
      have hR : RC (rmb X 3 nx n 3) v := by rw [rmb_o _ _ _ _ _ (by decide) (by decide)]; exact h
      obtain ⟨f, eE, hf⟩ := c_enterShift (h := hh) (l := l) (k := k) (ne := ne) hR hlt (by omega : d < 28)
      rw [eE, b3_s]
      have hV2 := VV_ns hV hlt hd hh2 hl1 hl hk hn1 hn3
      obtain ⟨Z, eZ, hZ, hZ0⟩ := op_change hI hH0 (X1 := fun o => if o = 3 then f else rmb X 3 nx n o) (fun o ho => if_neg ho) (k := fun Y => ab_b3 (F_M_opensShift Y (nI d) (nI hh) (nI l) (nI k) (nI ne)) (fun v498 X499 => some (v498, X499))) (b := nI (v 1)) (fun Y hY14 _ _ => by
        have gY : RM (Y 14) v := RM_congr hV hY14 g
        refine ⟨fun o => if o = 14 then gns (Y 14) (v 1) d hh l k ne else Y o, ?_, fun o ho => if_neg ho, fun i hi => ?_, ⟨vns v d hh l k ne, hV2, VB_ns hV hlt hb8 hV2, hf, RM_ns hV gY hlt d hh l k ne⟩⟩
        · rw [m_opensShift gY hlt, b3_s]
        · show gns (Y 14) (v 1) d hh l k ne i = Y 14 i
          exact gns_o (by omega) (by omega))
      refine op_k (nI (v 1)) _ Z rfl ?_ hZ hZ0
      show F_M_addShift _ _ _ _ _ _ = _
      have gX1 : RM ((fun o => if o = 3 then f else rmb X 3 nx n o : ab_XX) 14) v := by
        show RM (rmb X 3 nx n 14) v
        rw [rmb_o _ _ _ _ _ (by decide) (by decide)]
        exact g
      unfold F_M_addShift
      rw [e2, m_shifts (X := fun o => if o = 3 then f else rmb X 3 nx n o) gX1, Option.bind_some, if_neg (fun z => h16 ((nI_eq (by omega) (by decide)).mp z)), Option.bind_some, th_0]
      exact eZ
  · rw [e1, Option.bind_some, if_pos rfl]
    exact op_x hI 0 1 (.head _) rfl (thr X 1 (by decide) (by decide) (e2 X))
