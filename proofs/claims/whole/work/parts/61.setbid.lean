/-! ===== PURE: setBid, the call ===== -/
theorem op_x {X : ab_XX} (hI : Inv X) {C : Option ((Int32 ⊕ Nat) × ab_XX)} {l : List (Nat × Nat)} {M : ab_XX → Option (Int32 × ab_XX)} (x c : Nat) (hm : (x, c) ∈ l) (h1 : C = some (.inr x, X)) (h2 : M X = some (nI 0, ab_up X 13 0 (nI c))) : OP C l M :=
  ⟨.inr x, X, nI 0, _, h1, h2, inv_sm (sm_0 X _) hI, .inr ⟨x, c, hm, rfl, p_up_sm X 13 0 _⟩⟩
theorem op_k {C : Option ((Int32 ⊕ Nat) × ab_XX)} {l : List (Nat × Nat)} {M : ab_XX → Option (Int32 × ab_XX)} (a : Int32) (X1 Z : ab_XX) (h1 : C = some (.inl a, X1)) (h2 : M X1 = some (a, Z)) (hI : Inv Z) (h0 : Z 13 0 = nI 0) : OP C l M :=
  ⟨.inl a, X1, a, Z, h1, h2, hI, .inl ⟨a, rfl, h0, rfl⟩⟩
theorem RM_bid {g : Nat → Int32} {v : Nat → Nat} (hV : VV v) (h : RM g v) {w s x : Nat} (hw : w < v 0) (hs : s < v 1) : RM (upd g (148 + 16 * w + s) (nI x)) (uv v (197 + w * 16 + s) x) := by
  have hB := hV.1
  obtain ⟨h0, h1, h2, h3, h4, h5, h6⟩ := h
  have e0 : uv v (197 + w * 16 + s) x 0 = v 0 := uv_ne v (by omega)
  have e1 : uv v (197 + w * 16 + s) x 1 = v 1 := uv_ne v (by omega)
  have e2 : uv v (197 + w * 16 + s) x 2 = v 2 := uv_ne v (by omega)
  have un : ∀ j, j ≠ 148 + 16 * w + s → upd g (148 + 16 * w + s) (nI x) j = g j := fun j hj => if_neg hj
  refine ⟨?_, ?_, ?_, fun w2 p a b => ?_, fun s2 p a b => ?_, fun w2 s2 a b => ?_, fun i p a b => ?_⟩
  · rw [un _ (by omega), e0]; exact h0
  · rw [un _ (by omega), e1]; exact h1
  · rw [un _ (by omega), e2]; exact h2
  · rw [e0] at a
    rw [un _ (by omega), h3 w2 p a b]
    exact congrArg nI (uv_ne v (by omega)).symm
  · rw [e1] at a
    rw [un _ (by omega), h4 s2 p a b]
    exact congrArg nI (uv_ne v (by omega)).symm
  · rw [e0] at a
    rw [bd_uv (by omega) b]
    by_cases hc : w2 = w ∧ s2 = s
    · rw [if_pos hc, hc.1, hc.2]
      exact if_pos rfl
    · rw [if_neg hc, un _ (by omega)]
      exact h5 w2 s2 a b
  · rw [e2] at a
    rw [un _ (by omega), h6 i p a b]
    exact congrArg nI (uv_ne v (by omega)).symm
theorem RC_upd {f : Nat → Int32} {v : Nat → Nat} (h : RC f v) (j x : Nat) : RC (upd f j (nI x)) (uv v j x) := fun i hi => by
  by_cases hij : i = j
  · subst hij
    rw [uv_eq]
    exact if_pos rfl
  · rw [uv_ne v hij]
    exact (if_neg hij).trans (h i hi)
theorem op_setBid {X : ab_XX} (hI : Inv X) (a b c : Int32) : OP (F_C_setBid X a b c) [(2, 1), (0, 2), (1, 3)] (fun X1 => F_M_setBid X1 a b c) := by
  have hI2 := hI
  obtain ⟨⟨v, hV, hb8, h, g⟩, ⟨nx, n, hH⟩, _⟩ := hI2
  have hB := hV.1
  unfold F_C_setBid F_C_requirePair
  have thr : ∀ (Y : ab_XX) (k : Nat), 0 < k → k < 2 ^ 31 → F_M_bidThrown Y a b c = some (nI k) → F_M_setBid Y a b c = some (nI 0, ab_up Y 13 0 (nI k)) := fun Y k h0 hk e => by
    unfold F_M_setBid
    rw [e, Option.bind_some, th_k Y _ _ h0 hk]
  rcases wk_cs h hV a with ⟨w, hw, rfl, _, e1, e2⟩ | ⟨_, e1, e2⟩
  · rcases sh_cs h hV b with ⟨s, hs, rfl, _, f1, f2⟩ | ⟨_, f1, f2⟩
    · have h8 := bt_bd hV hb8 hw
      have h9 := (hV.2.2.2.1 w s (by omega) (by omega)).1
      rcases in_cs c 0 9 (by decide) (by decide) with ⟨p, _, hp, rfl, g1, g2⟩ | ⟨g1, g2⟩
      · have eR : F_K_isBidInRange (nI p) = some (nI 1) := by
          unfold F_K_isBidInRange
          rw [g2]
          rfl
        have eC : F_K_hasRoomForBid X (nI w) (nI s) (nI p) = some (nI (if p = 0 ∨ bd v w s ≠ 0 ∨ bt v w < 8 then 1 else 0)) := by
          unfold F_K_hasRoomForBid
          rw [c_pointsFor h (by omega) (by omega), c_bidTotal h hV hw]
          simp only [Option.bind_some, nI_eq (by omega : p < 2 ^ 31) (by decide : 0 < 2 ^ 31), nI_eq (by omega : bd v w s < 2 ^ 31) (by decide : 0 < 2 ^ 31), nI_leI (by decide : 8 < 2 ^ 31) (by omega : bt v w < 2 ^ 31)]
          by_cases q1 : p = 0
          · simp [q1]
          · by_cases q2 : bd v w s = 0
            · by_cases q3 : 8 ≤ bt v w
              · have q4 : ¬ bt v w < 8 := by omega
                simp [q1, q2, q3, q4]
              · have q4 : bt v w < 8 := by omega
                simp [q1, q2, q3, q4]
            · simp [q1, q2]
        have eM : ∀ Y : ab_XX, RM (Y 14) v → F_M_bidThrown Y (nI w) (nI s) (nI p) = some (nI (if p = 0 ∨ bd v w s ≠ 0 ∨ bt v w < 8 then 0 else 3)) := fun Y gY => by
          unfold F_M_bidThrown
          rw [e2 Y gY, Option.bind_some, if_neg n10, f2 Y gY, Option.bind_some, if_neg n10, g1, Option.bind_some, if_neg n10, m_bidOf gY hw hB.1 (by omega), m_bidsOf gY hV hw]
          simp only [Option.bind_some, nI_leI (by omega : p < 2 ^ 31) (by decide : 0 < 2 ^ 31), nI_eq (by omega : bd v w s < 2 ^ 31) (by decide : 0 < 2 ^ 31), nI_eq (by omega : bt v w < 2 ^ 31) (by decide : 8 < 2 ^ 31), Nat.le_zero_eq]
          by_cases q1 : p = 0
          · simp [q1]
          · by_cases q2 : bd v w s = 0
            · by_cases q3 : bt v w = 8
              · simp [q1, q2, q3]
              · have q4 : bt v w < 8 := by omega
                simp [q1, q2, q3, q4]
            · simp [q1, q2]
        rw [e1, b2_l, f1, b2_l, b2_l, eR, Option.bind_some, if_neg n10, eC, Option.bind_some]
        by_cases q : p = 0 ∨ bd v w s ≠ 0 ∨ bt v w < 8
        · have eM2 : ∀ Y : ab_XX, RM (Y 14) v → F_M_bidThrown Y (nI w) (nI s) (nI p) = some (nI 0) := fun Y gY => by rw [eM Y gY, if_pos q]
          rw [if_pos q, if_neg n10]
          obtain ⟨hx, hn, a3, a4, _⟩ := hH
          rw [h_remember_3 a3 a4 hx hn, b3_s]
          have hR : RC (rmb X 3 nx n 3) v := by rw [rmb_o _ _ _ _ _ (by decide) (by decide)]; exact h
          have eE : F_K_enterBid (rmb X 3 nx n) (nI w) (nI s) (nI p) = some (nI (bd v w s), ab_up (rmb X 3 nx n) 3 (197 + w * 16 + s) (nI p)) := by
            unfold F_K_enterBid
            rw [c_pointsFor hR (by omega) (by omega), Option.bind_some, p_mul, nI_add, nI_add, c_put _ (by omega), b3_s]
          rw [eE, b3_s]
          have hX14 : (ab_up (rmb X 3 nx n) 3 (197 + w * 16 + s) (nI p)) 14 = X 14 := by
            rw [p_up_ne _ _ _ _ _ (by decide), rmb_o _ _ _ _ _ (by decide) (by decide)]
          have gX1 : RM ((ab_up (rmb X 3 nx n) 3 (197 + w * 16 + s) (nI p)) 14) v := by rw [hX14]; exact g
          obtain ⟨nx2, n2, hH2⟩ := hI.2.1
          have hH0 : HI X nx n := ⟨hx, hn, a3, a4, by assumption⟩
          obtain ⟨Z, eZ, hZ, hZ0⟩ := op_change hI hH0 (X1 := ab_up (rmb X 3 nx n) 3 (197 + w * 16 + s) (nI p)) (fun o ho => p_up_ne _ _ _ _ _ ho) (k := fun Y => ab_b3 (F_M_laysBid Y (nI w) (nI s) (nI p)) (fun v705 X706 => some (v705, X706))) (b := nI (bd v w s)) (fun Y hY14 _ _ => by
            have gY : RM (Y 14) v := RM_congr hV hY14 g
            refine ⟨ab_up Y 14 (148 + 16 * w + s) (nI p), ?_, fun o ho => p_up_ne _ _ _ _ _ ho, fun i hi => p_up_df _ _ _ _ _ (by omega), ?_⟩
            · unfold F_M_laysBid
              rw [m_bidOf gY hw hB.1 (by omega), Option.bind_some, p_mul, nI_add, nI_add, if_pos (p_in (by omega) (by decide)), nI_clamp (by omega), Option.bind_some, b3_s]
            · refine ⟨uv v (197 + w * 16 + s) p, VV_bid hV hw hs hp, VB_bid hV hb8 hw hs hp q, ?_, ?_⟩
              · rw [p_up_eq]
                exact RC_upd hR _ _
              · rw [p_up_eq]
                exact RM_bid hV gY hw hs)
          refine op_k (nI (bd v w s)) _ Z rfl ?_ hZ hZ0
          show F_M_setBid _ _ _ _ = _
          unfold F_M_setBid
          rw [eM2 _ gX1, Option.bind_some, th_0]
          exact eZ
        · rw [if_neg q, if_pos rfl]
          exact op_x hI 1 3 (.tail _ (.tail _ (.head _))) rfl (thr X 3 (by decide) (by decide) (by rw [eM X g, if_neg q]))
      · have eR : F_K_isBidInRange c = some (nI 0) := by
          unfold F_K_isBidInRange
          rw [g2]
          rfl
        rw [e1, b2_l, f1, b2_l, b2_l, eR, Option.bind_some, if_pos rfl]
        refine op_x hI 0 2 (.tail _ (.head _)) rfl (thr X 2 (by decide) (by decide) ?_)
        unfold F_M_bidThrown
        rw [e2 X g, Option.bind_some, if_neg n10, f2 X g, Option.bind_some, if_neg n10, g1, Option.bind_some, if_pos rfl]
    · rw [e1, b2_l, f1, b2_r, b2_r]
      refine op_x hI 2 1 (.head _) rfl (thr X 1 (by decide) (by decide) ?_)
      unfold F_M_bidThrown
      rw [e2 X g, Option.bind_some, if_neg n10, f2 X g, Option.bind_some, if_pos rfl]
  · rw [e1, b2_r, b2_r]
    refine op_x hI 2 1 (.head _) rfl (thr X 1 (by decide) (by decide) ?_)
    unfold F_M_bidThrown
    rw [e2 X g, Option.bind_some, if_pos rfl]
