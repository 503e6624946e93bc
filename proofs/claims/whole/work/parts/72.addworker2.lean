/-! ===== PURE: addWorker, the call ===== -/
theorem wr_cs (a1 a2 a3 a4 a5 : Int32) : (∃ a b c d e, a ≤ 99 ∧ b ≤ 24 ∧ c ≤ 168 ∧ d ≤ 28 ∧ e ≤ 15 ∧ a1 = nI a ∧ a2 = nI b ∧ a3 = nI c ∧ a4 = nI d ∧ a5 = nI e ∧ F_K_isWorkerInRange a1 a2 a3 a4 a5 = some (nI 1) ∧ ∀ Y, F_M_workerThrown Y a1 a2 a3 a4 a5 = (F_M_workers Y).bind fun v505 => if v505 = nI 10 then some (nI 2) else some (nI 0)) ∨ (F_K_isWorkerInRange a1 a2 a3 a4 a5 = some (nI 0) ∧ ∀ Y, F_M_workerThrown Y a1 a2 a3 a4 a5 = some (nI 1)) := by
  unfold F_K_isWorkerInRange F_M_workerThrown
  rcases in_cs a1 0 99 (by decide) (by decide) with ⟨d, _, hd, rfl, g1, g2⟩ | ⟨g1, g2⟩
  · rcases in_cs a2 0 24 (by decide) (by decide) with ⟨h, _, hh, rfl, g3, g4⟩ | ⟨g3, g4⟩
    · rcases in_cs a3 1 168 (by decide) (by decide) with ⟨l, hl1, hl, rfl, g5, g6⟩ | ⟨g5, g6⟩
      · rcases in_cs a4 1 28 (by decide) (by decide) with ⟨k, _, hk, rfl, g7, g8⟩ | ⟨g7, g8⟩
        · rcases in_cs a5 0 15 (by decide) (by decide) with ⟨ne, hn1, hn, rfl, g9, g10⟩ | ⟨g9, g10⟩
          · refine .inl ⟨d, h, l, k, ne, hd, hh, hl, hk, hn, rfl, rfl, rfl, rfl, rfl, ?_, fun Y => ?_⟩
            · simp only [g2, g4, g6, g8, g10, Option.bind_some, if_neg n10]
            · simp only [g1, g3, g5, g7, g9, Option.bind_some, if_neg n10]
          · refine .inr ⟨?_, fun Y => ?_⟩
            · simp only [g2, g4, g6, g8, g10, Option.bind_some, if_neg n10, if_true]
            · simp only [g1, g3, g5, g7, g9, Option.bind_some, if_neg n10, if_true]
        · refine .inr ⟨?_, fun Y => ?_⟩
          · simp only [g2, g4, g6, g8, Option.bind_some, if_neg n10, if_true]
          · simp only [g1, g3, g5, g7, Option.bind_some, if_neg n10, if_true]
      · refine .inr ⟨?_, fun Y => ?_⟩
        · simp only [g2, g4, g6, Option.bind_some, if_neg n10, if_true]
        · simp only [g1, g3, g5, Option.bind_some, if_neg n10, if_true]
    · refine .inr ⟨?_, fun Y => ?_⟩
      · simp only [g2, g4, Option.bind_some, if_neg n10, if_true]
      · simp only [g1, g3, Option.bind_some, if_neg n10, if_true]
  · refine .inr ⟨?_, fun Y => ?_⟩
    · simp only [g2, Option.bind_some, if_true]
    · simp only [g1, Option.bind_some, if_true]
theorem op_addWorker {X : ab_XX} (hI : Inv X) (a1 a2 a3 a4 a5 : Int32) : OP (F_C_addWorker X a1 a2 a3 a4 a5) [(0, 1), (1, 2)] (fun X1 => F_M_addWorker X1 a1 a2 a3 a4 a5) := by
  have hI2 := hI
  obtain ⟨⟨v, hV, hb8, h, g⟩, ⟨nx, n, hH⟩, _⟩ := hI2
  have hB := hV.1
  have thr : ∀ (Y : ab_XX) (k : Nat), 0 < k → k < 2 ^ 31 → F_M_workerThrown Y a1 a2 a3 a4 a5 = some (nI k) → F_M_addWorker Y a1 a2 a3 a4 a5 = some (nI 0, ab_up Y 13 0 (nI k)) := fun Y k h0 hk e => by
    unfold F_M_addWorker
    rw [e, Option.bind_some, th_k Y _ _ h0 hk]
  unfold F_C_addWorker F_K_hasRoomForWorker
  rcases wr_cs a1 a2 a3 a4 a5 with ⟨d, hh, l, k, ne, hd, hh2, hl, hk, hn3, rfl, rfl, rfl, rfl, rfl, e1, e2⟩ | ⟨e1, e2⟩
  · rw [e1, Option.bind_some, if_neg n10, c_0 h]
    by_cases h16 : v 0 = 10
    · rw [h16, if_pos (nI_le (Nat.le_refl _) (by decide)), Option.bind_some, if_pos rfl]
      refine op_x hI 1 2 (.tail _ (.head _)) rfl (thr X 2 (by decide) (by decide) ?_)
      rw [e2, m_workers g, h16, Option.bind_some, if_pos rfl]
    · have hlt : v 0 < 10 := by omega
      rw [if_neg (nI_ge hlt (by decide)), Option.bind_some, if_neg n10]
      have hH0 := hH
      obtain ⟨hx, hn, b3, b4, _⟩ := hH
      rw [h_remember_3 b3 b4 hx hn, b3_s]
      have hR : RC (rmb X 3 nx n 3) v := by rw [rmb_o _ _ _ _ _ (by decide) (by decide)]; exact h
      obtain ⟨f, eE, hf⟩ := c_enterWorker hR hlt d hh l k ne
      rw [eE, b3_s]
      have hV2 := VV_nw hV hlt hd hh2 hl hk hn3
      obtain ⟨Z, eZ, hZ, hZ0⟩ := op_change hI hH0 (X1 := fun o => if o = 3 then f else rmb X 3 nx n o) (fun o ho => if_neg ho) (k := fun Y => ab_b3 (F_M_opensWorker Y (nI d) (nI hh) (nI l) (nI k) (nI ne)) (fun v498 X499 => some (v498, X499))) (b := nI (v 0)) (fun Y hY14 _ _ => by
        have gY : RM (Y 14) v := RM_congr hV hY14 g
        refine ⟨fun o => if o = 14 then gnw (Y 14) (v 0) d hh l k ne 16 else Y o, ?_, fun o ho => if_neg ho, fun i hi => ?_, ⟨vnw v d hh l k ne, hV2, VB_nw hV hlt hb8 hV2, hf, RM_nw hV gY hlt d hh l k ne⟩⟩
        · rw [m_opensWorker gY hlt, b3_s]
        · show gnw (Y 14) (v 0) d hh l k ne 16 i = Y 14 i
          exact gnw_o (by omega) (by omega) (by omega))
      refine op_k (nI (v 0)) _ Z rfl ?_ hZ hZ0
      show F_M_addWorker _ _ _ _ _ _ = _
      have gX1 : RM ((fun o => if o = 3 then f else rmb X 3 nx n o : ab_XX) 14) v := by
        show RM (rmb X 3 nx n 14) v
        rw [rmb_o _ _ _ _ _ (by decide) (by decide)]
        exact g
      unfold F_M_addWorker
      rw [e2, m_workers (X := fun o => if o = 3 then f else rmb X 3 nx n o) gX1, Option.bind_some, if_neg (fun z => h16 ((nI_eq (by omega) (by decide)).mp z)), Option.bind_some, th_0]
      exact eZ
  · rw [e1, Option.bind_some, if_pos rfl]
    exact op_x hI 0 1 (.head _) rfl (thr X 1 (by decide) (by decide) (e2 X))
