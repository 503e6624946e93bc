/-! ===== PURE: an award goes, in the reference; revoke ===== -/
theorem RM_a {g : Nat → Int32} {v : Nat → Nat} (hB : v 0 ≤ 10 ∧ v 1 ≤ 16) (hg : RM g v) {k p : Nat} (x : Nat) (hp : p < 2) : RM (upd g (309 + 2 * k + p) (nI x)) (uv v (357 + k * 2 + p) x) := by
  have e2 : uv v (357 + k * 2 + p) x 2 = v 2 := uv_ne _ (by omega)
  refine RM_aws hB hg (fun j h1 h2 => uv_ne _ (by omega)) (fun j hj => upd_ne _ (by omega)) (by rw [upd_ne _ (by omega), e2]; exact hg.2.2.1) (fun i q hi hq => ?_)
  rw [e2] at hi
  by_cases h : i = k ∧ q = p
  · rw [h.1, h.2, upd_eq]
    exact congrArg nI (uv_eq _ _ _).symm
  · rw [upd_ne _ (by omega), hg.2.2.2.2.2.2 i q hi hq]
    exact congrArg nI (show aw (uv v (357 + k * 2 + p) x) i q = aw v i q from uv_ne _ (by omega)).symm
theorem RM_dec {g : Nat → Int32} {v : Nat → Nat} (hB : v 0 ≤ 10 ∧ v 1 ≤ 16) (hg : RM g v) {m : Nat} (hm : m ≤ v 2) : RM (upd g 308 (nI m)) (uv v 2 m) := by
  refine RM_aws hB hg (fun j h1 h2 => uv_ne _ h2) (fun j hj => upd_ne _ (by omega)) (by rw [upd_eq, uv_eq]) (fun i q hi hq => ?_)
  rw [uv_eq] at hi
  rw [upd_ne _ (by omega), hg.2.2.2.2.2.2 i q (by omega) hq]
  exact congrArg nI (show aw (uv v 2 m) i q = aw v i q from uv_ne _ (by omega)).symm
theorem m_rmLoop {Y0 : ab_XX} {v : Nat → Nat} (hV : VV v) {d : Nat} (hd : d < v 2) {s : Nat} (hs : s < v 1) : ∀ (m k : Nat) (Y : ab_XX) (c : Nat), k + m = v 2 - 1 → d ≤ k → m < c → (∀ o, o ≠ 14 → Y o = Y0 o) → (∀ i, 405 ≤ i → Y 14 i = Y0 14 i) → RM (Y 14) (vsf v d k) →
    ∃ Z, L_M_revoke_101 c Y (nI s) (nI k) = some (nI (cov (vrm v d) s), Z) ∧ (∀ o, o ≠ 14 → Z o = Y0 o) ∧ (∀ i, 405 ≤ i → Z 14 i = Y0 14 i) ∧ RM (Z 14) (vrm v d) := by
  have hB := hV.1
  have hV2 := VV_rm hV hd
  intro m
  induction m with
  | zero =>
    intro k Y c hk hdk hc hY hY2 hR
    have e2 : vsf v d k 2 = v 2 := vsf_lo (by omega)
    have hB2 : vsf v d k 0 ≤ 10 ∧ vsf v d k 1 ≤ 16 := by rw [vsf_lo (by omega), vsf_lo (by omega)]; exact ⟨hB.1, hB.2.1⟩
    cases c with
    | zero => omega
    | succ c =>
      have hk2 : k = v 2 - 1 := by omega
      have e308 : Y 14 308 = nI (v 2) := by rw [← e2]; exact hR.2.2.1
      have hZ : RM (ab_up Y 14 308 (nI (v 2 - 1)) 14) (vrm v d) := by
        rw [p_up_eq]
        have := RM_dec hB2 hR (m := v 2 - 1) (by omega)
        rw [hk2] at this
        exact this
      rw [L_M_revoke_101, m_awards hR, Option.bind_some, e2, p_sub (by omega), if_pos (nI_le (by omega) (by omega)), e308, p_sub (by omega), Option.bind_some, nI_clamp (by decide), m_coverage hZ hV2 (by omega), Option.bind_some]
      refine ⟨_, rfl, fun o ho => by rw [p_up_ne _ _ _ _ _ ho, hY o ho], fun i hi => by rw [p_up_df _ _ _ _ _ (by omega), hY2 i hi], hZ⟩
  | succ m ih =>
    intro k Y c hk hdk hc hY hY2 hR
    have e2 : vsf v d k 2 = v 2 := vsf_lo (by omega)
    have hB2 : vsf v d k 0 ≤ 10 ∧ vsf v d k 1 ≤ 16 := by rw [vsf_lo (by omega), vsf_lo (by omega)]; exact ⟨hB.1, hB.2.1⟩
    cases c with
    | zero => omega
    | succ c =>
      have hR1 : RM (ab_up Y 14 (309 + 2 * k) (nI (aw (vsf v d k) (k + 1) 0)) 14) (uv (vsf v d k) (357 + k * 2 + 0) (aw (vsf v d k) (k + 1) 0)) := by
        rw [p_up_eq]
        exact RM_a hB2 hR (p := 0) _ (by decide)
      have hB3 : uv (vsf v d k) (357 + k * 2 + 0) (aw (vsf v d k) (k + 1) 0) 0 ≤ 10 ∧ uv (vsf v d k) (357 + k * 2 + 0) (aw (vsf v d k) (k + 1) 0) 1 ≤ 16 := by rw [uv_ne _ (by omega), uv_ne _ (by omega)]; exact hB2
      have e3 : uv (vsf v d k) (357 + k * 2 + 0) (aw (vsf v d k) (k + 1) 0) 2 = v 2 := by rw [uv_ne _ (by omega), e2]
      have ea : aw (uv (vsf v d k) (357 + k * 2 + 0) (aw (vsf v d k) (k + 1) 0)) (k + 1) 1 = aw (vsf v d k) (k + 1) 1 := uv_ne _ (by omega)
      rw [L_M_revoke_101, m_awards hR, Option.bind_some, e2, p_sub (by omega), if_neg (nI_ge (by omega) (by omega)), nI_add, m_awardWorker hR (by omega) (by omega), Option.bind_some]
      simp only [p_mul, nI_add]
      rw [if_pos (p_in (by omega) (by decide)), Option.bind_some, nI_clamp (by omega), m_awardShift hR1 (by omega) (by omega), Option.bind_some, if_pos (p_in (by omega) (by decide)), Option.bind_some, nI_clamp (by omega), ea]
      refine ih (k + 1) _ c (by omega) (by omega) (by omega) (fun o ho => ?_) (fun i hi => ?_) ?_
      · rw [p_up_ne _ _ _ _ _ ho, p_up_ne _ _ _ _ _ ho, hY o ho]
      · rw [p_up_df _ _ _ _ _ (by omega), p_up_df _ _ _ _ _ (by omega), hY2 i hi]
      · rw [← vsf_s v hdk, p_up_eq]
        exact RM_a hB3 hR1 (p := 1) _ (by decide)
theorem c_holds {X : ab_XX} {v : Nat → Nat} (h : RC (X 3) v) (hV : VV v) {w s : Nat} (hw : w < v 0) (hs : s < v 1) : F_K_holds X (nI w) (nI s) = some (nI (hld v w s).toNat) := by
  have hB := hV.1
  unfold F_K_holds
  rw [c_awardIndex h hV (by omega) (by omega), Option.bind_some]
  simp only [(hld_ai v w s hV).2.2]
  cases hld v w s <;> rfl
theorem cd_code (k d : Nat) : F_U_code (nI k) (nI d) = some (nI (cd (k, d))) := by
  unfold F_U_code cd
  simp only [p_mul, nI_add]
theorem op_revoke {X : ab_XX} (hI : Inv X) (a b : Int32) : OP (F_C_revoke X a b) [(2, 1), (4, 2), (3, 3)] (fun X1 => F_M_revoke X1 a b) := by
  have hI2 := hI
  obtain ⟨⟨v, hV, hb8, h, g⟩, ⟨nx, n, hH⟩, _⟩ := hI2
  have hB := hV.1
  unfold F_C_revoke
  rcases wk_cs h hV a with ⟨w, hw, rfl, _, f1, f2⟩ | ⟨_, f1, f2⟩
  · rcases sh_cs h hV b with ⟨s, hs, rfl, _, f3, f4⟩ | ⟨_, f3, f4⟩
    · have h3 := hV.2.2.1 s hs
      rw [rp_l f1 f3, b2_l, c_holds h hV hw hs, Option.bind_some]
      by_cases hh : hld v w s = true
      · obtain ⟨d, hd⟩ : ∃ d, ai v w s 0 (v 2) = some d := by
          unfold hld at hh
          cases q : ai v w s 0 (v 2) with
          | none => rw [q] at hh; cases hh
          | some d => exact ⟨d, rfl⟩
        have hd2 := ai_some hd
        have hdv : d < v 2 := by omega
        have hnn : nI 0 ≤ aiI (ai v w s 0 (v 2)) := by rw [(hld_ai v w s hV).1]; exact hh
        rw [hh, if_neg (by decide : ¬ nI true.toNat = nI 0)]
        unfold F_U_obstacleToRevoke
        rw [c_shiftPart h (by omega) (by decide), Option.bind_some, c_coverage h hV (by omega), Option.bind_some]
        by_cases hc : nI (sh v s 5) ≤ nI (cov v s) - nI 1
        · have hcs := c_Rset X (p := (0, 0)) (by decide) (by decide) (nI w)
          rw [show cd (0, 0) = 0 from rfl, if_pos rfl] at hcs
          rw [if_pos hc, Option.bind_some, hcs, b3_s, if_pos rfl]
          have hH0 := hH
          obtain ⟨hx, hn, a3, a4, _⟩ := hH
          have hR0 : RC (rmb (rsC X (nI 0) (nI 0) (-1)) 3 nx n 3) v := by rw [rmb_o _ _ _ _ _ (by decide) (by decide), rsC_o _ _ _ (by decide)]; exact h
          rw [h_remember_3 (X := rsC X (nI 0) (nI 0) (-1)) (by rw [rsC_o _ _ _ (by decide)]; exact a3) (by rw [rsC_o _ _ _ (by decide)]; exact a4) hx hn, b3_s, c_awardIndex hR0 hV (by omega) (by omega), Option.bind_some, hd]
          obtain ⟨f, eE, hf⟩ := c_removeAward hR0 hB.2.2 hdv
          rw [show aiI (some d) = nI d from rfl, eE, b3_s]
          have hV2 := VV_rm hV hdv
          have hcov : F_K_coverage (fun o => if o = 3 then f else rmb (rsC X (nI 0) (nI 0) (-1)) 3 nx n o) (nI s) = some (nI (cov (vrm v d) s)) := c_coverage (X := fun o => if o = 3 then f else rmb (rsC X (nI 0) (nI 0) (-1)) 3 nx n o) hf hV2 (by omega)
          rw [hcov, Option.bind_some]
          have gX1 : RM ((fun o => if o = 3 then f else rmb (rsC X (nI 0) (nI 0) (-1)) 3 nx n o : ab_XX) 14) v := by
            show RM (rmb (rsC X (nI 0) (nI 0) (-1)) 3 nx n 14) v
            rw [rmb_o _ _ _ _ _ (by decide) (by decide), rsC_o _ _ _ (by decide)]
            exact g
          generalize hX1 : (fun o => if o = 3 then f else rmb (rsC X (nI 0) (nI 0) (-1)) 3 nx n o : ab_XX) = X1 at gX1 hcov ⊢
          have x3 : X1 3 = f := by rw [← hX1]; rfl
          have xo : ∀ o, o ≠ 3 → X1 o = rmb (rsC X (nI 0) (nI 0) (-1)) 3 nx n o := fun o ho => by rw [← hX1]; exact if_neg ho
          have x10 : X1 10 = rsC X (nI 0) (nI 0) (-1) 10 := by rw [xo 10 (by decide), rmb_o _ _ _ _ _ (by decide) (by decide)]
          obtain ⟨Z, eZ, hZ, hZ0⟩ := op_change_r hI hH0 (X1 := X1) (W := rsM (ab_up X1 13 0 (nI 0)) (nI 0) (nI 0) (-1)) (fun o h3 h10 => by
              rw [xo o h3]
              exact rmb_cg (X := X) (Y := rsC X (nI 0) (nI 0) (-1)) (rsC_o _ _ _ (by decide)) (rsC_o _ _ _ (by decide)) (rsC_o _ _ _ (by decide)) (rsC_o _ _ _ h10)) (fun o ho => by rw [rsM_o _ _ _ ho, p_up_ne _ _ _ _ _ ho]) (by
              rw [rsM_j _ _ _ (by decide) (by decide) (by decide), p_up_sm]) (fun j hj => by
              rw [rsM_j _ _ _ (by omega) (by omega) (by omega), p_up_df _ _ _ _ _ (by omega)]) (by
              unfold RS
              rw [rsM_o _ _ _ (by decide), p_up_ne _ _ _ _ _ (by decide), x10, rsC_0, rsC_1, rsC_2, rsM_0, rsM_1, rsM_2]
              exact ⟨rfl, rfl, rfl⟩) (k := fun Y => (F_M_awardOf Y (nI w) (nI s)).bind fun v581 => L_M_revoke_101 ab_fu Y (nI s) v581) (b := nI (cov (vrm v d) s)) (fun Y hY14 _ => by
            have gY : RM (Y 14) v := RM_congr hV hY14 g
            obtain ⟨Z, z1, z2, z3, z4⟩ := m_rmLoop (Y0 := Y) hV hdv hs (v 2 - 1 - d) d Y ab_fu (by omega) (Nat.le_refl _) (by unfold ab_fu; omega) (fun _ _ => rfl) (fun _ _ => rfl) (by rw [vsf_0]; exact gY)
            refine ⟨Z, ?_, z2, z3, ⟨vrm v d, hV2, VB_aws hV hV2 hb8 (fun j h1 h2 => vrm_lo h1 h2), by rw [x3]; exact hf, z4⟩⟩
            rw [m_awardOf gY hV (by omega) (by omega), Option.bind_some, hd]
            exact z1)
          refine op_k _ X1 Z rfl ?_ hZ hZ0
          show F_M_revoke _ _ _ = _
          have g2 : RM (ab_up X1 13 0 (nI 0) 14) v := m13 gX1 0 _
          unfold F_M_revoke
          rw [f2 _ gX1, Option.bind_some, if_neg n10, f4 _ gX1, Option.bind_some, if_neg n10, m_awardOf gX1 hV (by omega) (by omega), Option.bind_some, if_pos hnn, th_0, m_coverage g2 hV (by omega), Option.bind_some, m_ofShift g2 hs hB.2.1 (by decide), Option.bind_some, if_pos hc, m_reasons, b3_s]
          exact eZ
        · have hcs := c_Rset X (p := (8, sh v s 5)) (by show sh v s 5 < 100; omega) (by show 8 < 9; decide) (nI w)
          have hcd : ¬ cd (8, sh v s 5) = 0 := by unfold cd; omega
          rw [if_neg hcd] at hcs
          rw [if_neg hc, cd_code, Option.bind_some, Option.bind_some, hcs, b3_s]
          simp only [cd_0 (p := (8, sh v s 5)) (by show sh v s 5 < 100; omega) (by show 8 < 9; decide), if_neg hcd]
          have g1 : RM (rsC X (nI 8) (nI (sh v s 5)) (nI w) 14) v := by rw [rsC_o _ _ _ (by decide)]; exact g
          have g2 : RM (ab_up (rsC X (nI 8) (nI (sh v s 5)) (nI w)) 13 0 (nI 0) 14) v := m13 g1 0 _
          refine ⟨.inr 3, _, nI 0, ab_up (rsM (ab_up (rsC X (nI 8) (nI (sh v s 5)) (nI w)) 13 0 (nI 0)) (nI 8) (nI (sh v s 5)) (nI w)) 13 0 (nI 3), rfl, ?_, ?_, .inr ⟨3, 3, .tail _ (.tail _ (.head _)), rfl, p_up_sm _ _ _ _⟩⟩
          · show F_M_revoke _ _ _ = _
            unfold F_M_revoke
            rw [f2 _ g1, Option.bind_some, if_neg n10, f4 _ g1, Option.bind_some, if_neg n10, m_awardOf g1 hV (by omega) (by omega), Option.bind_some, if_pos hnn, th_0, m_coverage g2 hV (by omega), Option.bind_some, m_ofShift g2 hs hB.2.1 (by decide), Option.bind_some, if_neg hc, Option.bind_some, m_reasons, b3_s, Option.bind_some]
          · refine inv_rs hI (fun o h10 h13 => ?_) (fun j hj => ?_) ?_
            · rw [p_up_ne _ _ _ _ _ h13, rsM_o _ _ _ h13, p_up_ne _ _ _ _ _ h13, rsC_o _ _ _ h10]
            · rw [p_up_df _ _ _ _ _ (by omega), rsM_j _ _ _ (by omega) (by omega) (by omega), p_up_df _ _ _ _ _ (by omega), rsC_o _ _ _ (by decide)]
            · unfold RS
              rw [p_up_ne _ _ _ _ _ (by decide), rsM_o _ _ _ (by decide), p_up_ne _ _ _ _ _ (by decide), rsC_0, rsC_1, rsC_2, p_up_df _ _ _ _ _ (by decide), p_up_df _ _ _ _ _ (by decide), p_up_df _ _ _ _ _ (by decide), rsM_0, rsM_1, rsM_2]
              exact ⟨rfl, rfl, rfl⟩
      · have hn : ¬ nI 0 ≤ aiI (ai v w s 0 (v 2)) := by rw [(hld_ai v w s hV).1]; exact hh
        rw [Bool.not_eq_true] at hh
        rw [hh, if_pos (show nI false.toNat = nI 0 from rfl)]
        refine op_x hI 4 2 (.tail _ (.head _)) rfl ?_
        show F_M_revoke _ _ _ = _
        unfold F_M_revoke
        rw [f2 _ g, Option.bind_some, if_neg n10, f4 _ g, Option.bind_some, if_neg n10, m_awardOf g hV (by omega) (by omega), Option.bind_some, if_neg hn, th_k X _ _ (by decide) (by decide)]
    · rw [rp_s f1 f3, b2_r]
      refine op_x hI 2 1 (.head _) rfl ?_
      show F_M_revoke _ _ _ = _
      unfold F_M_revoke
      rw [f2 _ g, Option.bind_some, if_neg n10, f4 _ g, Option.bind_some, if_pos rfl, th_k X _ _ (by decide) (by decide)]
  · rw [rp_w f1, b2_r]
    refine op_x hI 2 1 (.head _) rfl ?_
    show F_M_revoke _ _ _ = _
    unfold F_M_revoke
    rw [f2 _ g, Option.bind_some, if_pos rfl, th_k X _ _ (by decide) (by decide)]
