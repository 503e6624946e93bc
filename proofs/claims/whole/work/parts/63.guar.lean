/-! ===== PURE: setGuarantee, save ===== -/
theorem sh_uv {v : Nat → Nat} {s x s2 q : Nat} (hq : q < 9) : sh (uv v (53 + s * 9 + 5) x) s2 q = if s2 = s ∧ q = 5 then x else sh v s2 q := by
  unfold sh
  by_cases h : s2 = s ∧ q = 5
  · rw [if_pos h, h.1, h.2, uv_eq]
  · rw [if_neg h, uv_ne]
    omega
theorem VV_gua {v : Nat → Nat} (hV : VV v) {s x : Nat} (hs : s < v 1) (hx : x ≤ 3) : VV (uv v (53 + s * 9 + 5) x) := by
  obtain ⟨hB, h1, h2, h3, h4, h5, h6⟩ := hV
  have e0 : uv v (53 + s * 9 + 5) x 0 = v 0 := uv_ne v (by omega)
  have e1 : uv v (53 + s * 9 + 5) x 1 = v 1 := uv_ne v (by omega)
  have e2 : uv v (53 + s * 9 + 5) x 2 = v 2 := uv_ne v (by omega)
  have ew : ∀ w2 p, w2 < v 0 → p < 5 → wk (uv v (53 + s * 9 + 5) x) w2 p = wk v w2 p := fun w2 p a b => uv_ne v (by omega)
  have es : ∀ s2 p, p < 9 → p ≠ 5 → sh (uv v (53 + s * 9 + 5) x) s2 p = sh v s2 p := fun s2 p a b => by rw [sh_uv a, if_neg (fun z => b z.2)]
  have eb : ∀ w2 s2, w2 < 10 → s2 < 16 → bd (uv v (53 + s * 9 + 5) x) w2 s2 = bd v w2 s2 := fun w2 s2 a b => uv_ne v (by omega)
  have ea : ∀ i p, i < v 2 → p < 2 → aw (uv v (53 + s * 9 + 5) x) i p = aw v i p := fun i p a b => uv_ne v (by omega)
  have ec : ∀ s2, cov (uv v (53 + s * 9 + 5) x) s2 = cov v s2 := fun s2 => by
    unfold cov
    rw [e2]
    exact cn_congr (v 2) (fun i hi => by rw [ea i 1 hi (by decide)])
  unfold VV
  rw [e0, e1, e2]
  refine ⟨hB, fun w2 a => ?_, fun s2 a => ?_, fun w2 s2 a b => ?_, fun i a => ?_, fun s2 a => ?_, fun i j a b => ?_⟩
  · rw [ew w2 0 a (by decide), ew w2 1 a (by decide), ew w2 2 a (by decide), ew w2 3 a (by decide), ew w2 4 a (by decide)]
    exact h1 w2 a
  · have hh := h2 s2 a
    rw [es s2 0 (by decide) (by decide), es s2 1 (by decide) (by decide), es s2 2 (by decide) (by decide), es s2 3 (by decide) (by decide), es s2 4 (by decide) (by decide), es s2 6 (by decide) (by decide), es s2 7 (by decide) (by decide), es s2 8 (by decide) (by decide)]
    refine ⟨hh.1, hh.2.1, hh.2.2.1, hh.2.2.2.1, hh.2.2.2.2.1, hh.2.2.2.2.2.1, hh.2.2.2.2.2.2.1, ?_, hh.2.2.2.2.2.2.2.2⟩
    rw [sh_uv (by decide)]
    split
    · exact hx
    · exact hh.2.2.2.2.2.2.2.1
  · rw [eb w2 s2 a b]
    exact h3 w2 s2 a b
  · rw [ea i 0 a (by decide), ea i 1 a (by decide)]
    exact h4 i a
  · rw [ec, es s2 4 (by decide) (by decide)]
    exact h5 s2 a
  · rw [ea i 0 (by omega) (by decide), ea j 0 b (by decide), ea i 1 (by omega) (by decide), ea j 1 b (by decide), es _ 7 (by decide) (by decide), es _ 6 (by decide) (by decide), es _ 7 (by decide) (by decide), es _ 6 (by decide) (by decide)]
    exact h6 i j a b
/-- the same bids, the same number of shifts: at most eight bids again -/
theorem VB_same {v v2 : Nat → Nat} (hV : VV v) (hV2 : VV v2) (h8 : VB v) (h0 : v2 0 = v 0) (h1 : v2 1 = v 1) (hb0 : ∀ w s, w < v 0 → s < v 1 → bd v2 w s = bd v w s) : VB v2 := by
  intro w hw
  rw [bm_pc hV2, bt_cn, h1]
  rw [h0] at hw
  have h := bt_bd hV h8 hw
  rw [bt_cn] at h
  rw [cn_congr (q := bdp v w) (v 1) (fun i hi => by unfold bdp; rw [hb0 w i hw hi])]
  exact h
theorem RM_gua {g : Nat → Int32} {v : Nat → Nat} (hV : VV v) (h : RM g v) {s x : Nat} (hs : s < v 1) : RM (upd g (52 + 6 * s + 5) (nI x)) (uv v (53 + s * 9 + 5) x) := by
  have hB := hV.1
  obtain ⟨h0, h1, h2, h3, h4, h5, h6⟩ := h
  have e0 : uv v (53 + s * 9 + 5) x 0 = v 0 := uv_ne v (by omega)
  have e1 : uv v (53 + s * 9 + 5) x 1 = v 1 := uv_ne v (by omega)
  have e2 : uv v (53 + s * 9 + 5) x 2 = v 2 := uv_ne v (by omega)
  have un : ∀ j, j ≠ 52 + 6 * s + 5 → upd g (52 + 6 * s + 5) (nI x) j = g j := fun j hj => if_neg hj
  refine ⟨?_, ?_, ?_, fun w2 p a b => ?_, fun s2 p a b => ?_, fun w2 s2 a b => ?_, fun i p a b => ?_⟩
  · rw [un _ (by omega), e0]; exact h0
  · rw [un _ (by omega), e1]; exact h1
  · rw [un _ (by omega), e2]; exact h2
  · rw [e0] at a
    rw [un _ (by omega), h3 w2 p a b]
    exact congrArg nI (uv_ne v (by omega)).symm
  · rw [e1] at a
    rw [sh_uv (by omega)]
    by_cases hc : s2 = s ∧ p = 5
    · rw [if_pos hc, hc.1, hc.2]
      exact if_pos rfl
    · rw [if_neg hc, un _ (by omega)]
      exact h4 s2 p a b
  · rw [e0] at a
    rw [un _ (by omega), h5 w2 s2 a b]
    exact congrArg nI (uv_ne v (by omega)).symm
  · rw [e2] at a
    rw [un _ (by omega), h6 i p a b]
    exact congrArg nI (uv_ne v (by omega)).symm
theorem op_setGuarantee {X : ab_XX} (hI : Inv X) (a c : Int32) : OP (F_C_setGuarantee X a c) [(2, 1), (0, 2), (1, 3)] (fun X1 => F_M_setGuarantee X1 a c) := by
  have hI2 := hI
  obtain ⟨⟨v, hV, hb8, h, g⟩, ⟨nx, n, hH⟩, _⟩ := hI2
  have hB := hV.1
  unfold F_C_setGuarantee
  rcases sh_cs h hV a with ⟨s, hs, rfl, _, f1, f2⟩ | ⟨_, f1, f2⟩
  · have h3 := hV.2.2.1 s hs
    have hcv := hV.2.2.2.2.2.1 s hs
    rw [f1, b2_l, c_shiftPart h (by omega) (by decide), Option.bind_some, c_coverage h hV (by omega)]
    rcases in_cs c 0 (sh v s 4) (by omega) (by decide) with ⟨p, _, hp, rfl, g1, g2⟩ | ⟨g1, g2⟩
    · rw [g2, Option.bind_some, if_neg n10, Option.bind_some]
      by_cases q : p ≤ cov v s
      · rw [if_pos (nI_le q (by omega))]
        have hH0 := hH
        obtain ⟨hx, hn, a3, a4, _⟩ := hH
        rw [h_remember_3 a3 a4 hx hn, b3_s]
        have hR : RC (rmb X 3 nx n 3) v := by rw [rmb_o _ _ _ _ _ (by decide) (by decide)]; exact h
        have eE : F_K_enterGuarantee (rmb X 3 nx n) (nI s) (nI p) = some (nI (sh v s 5), ab_up (rmb X 3 nx n) 3 (53 + s * 9 + 5) (nI p)) := by
          unfold F_K_enterGuarantee
          rw [c_shiftPart hR (by omega) (by decide), Option.bind_some, p_mul, nI_add, nI_add, c_put _ (by omega), b3_s]
        rw [eE, b3_s]
        have gX1 : RM ((ab_up (rmb X 3 nx n) 3 (53 + s * 9 + 5) (nI p)) 14) v := by
          rw [p_up_ne _ _ _ _ _ (by decide), rmb_o _ _ _ _ _ (by decide) (by decide)]
          exact g
        have hV2 := VV_gua hV hs (by omega : p ≤ 3)
        obtain ⟨Z, eZ, hZ, hZ0⟩ := op_change hI hH0 (X1 := ab_up (rmb X 3 nx n) 3 (53 + s * 9 + 5) (nI p)) (fun o ho => p_up_ne _ _ _ _ _ ho) (k := fun Y => (F_M_ofShift Y (nI s) (nI 5)).bind fun v627 => if ab_in (((nI 52) + ((nI 6) * (nI s))) + (nI 5)) 4455 = true then (some (ab_up Y 14 ((((nI 52) + ((nI 6) * (nI s))) + (nI 5)).toNatClampNeg) (nI p))).bind fun X628 => some (v627, X628) else none) (b := nI (sh v s 5)) (fun Y hY14 _ _ => by
          have gY : RM (Y 14) v := RM_congr hV hY14 g
          refine ⟨ab_up Y 14 (52 + 6 * s + 5) (nI p), ?_, fun o ho => p_up_ne _ _ _ _ _ ho, fun i hi => p_up_df _ _ _ _ _ (by omega), ?_⟩
          · rw [m_ofShift gY hs hB.2.1 (by decide), Option.bind_some, p_mul, nI_add, nI_add, if_pos (p_in (by omega) (by decide)), nI_clamp (by omega), Option.bind_some]
          · refine ⟨uv v (53 + s * 9 + 5) p, hV2, VB_same hV hV2 hb8 (uv_ne v (by omega)) (uv_ne v (by omega)) (fun w s2 a b => uv_ne v (by omega)), ?_, ?_⟩
            · rw [p_up_eq]
              exact RC_upd hR _ _
            · rw [p_up_eq]
              exact RM_gua hV gY hs)
        refine op_k (nI (sh v s 5)) _ Z rfl ?_ hZ hZ0
        show F_M_setGuarantee _ _ _ = _
        unfold F_M_setGuarantee
        rw [f2 _ gX1, Option.bind_some, if_neg n10, m_ofShift gX1 hs hB.2.1 (by decide), Option.bind_some, g1, Option.bind_some, if_neg n10, m_coverage gX1 hV (by omega), Option.bind_some, if_pos (nI_le q (by omega)), th_0]
        exact eZ
      · rw [if_neg (nI_ge (by omega) (by omega))]
        refine op_x hI 1 3 (.tail _ (.tail _ (.head _))) rfl ?_
        show F_M_setGuarantee _ _ _ = _
        unfold F_M_setGuarantee
        rw [f2 _ g, Option.bind_some, if_neg n10, m_ofShift g hs hB.2.1 (by decide), Option.bind_some, g1, Option.bind_some, if_neg n10, m_coverage g hV (by omega), Option.bind_some, if_neg (nI_ge (by omega) (by omega)), th_k X _ _ (by decide) (by decide)]
    · rw [g2, Option.bind_some, if_pos rfl]
      refine op_x hI 0 2 (.tail _ (.head _)) rfl ?_
      show F_M_setGuarantee _ _ _ = _
      unfold F_M_setGuarantee
      rw [f2 _ g, Option.bind_some, if_neg n10, m_ofShift g hs hB.2.1 (by decide), Option.bind_some, g1, Option.bind_some, if_pos rfl, th_k X _ _ (by decide) (by decide)]
  · rw [f1, b2_r]
    refine op_x hI 2 1 (.head _) rfl ?_
    show F_M_setGuarantee _ _ _ = _
    unfold F_M_setGuarantee
    rw [f2 _ g, Option.bind_some, if_pos rfl, th_k X _ _ (by decide) (by decide)]
