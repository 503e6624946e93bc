/-! ===== PURE: a reason and a change ===== -/
def rsC (X : ab_XX) (a b c : Int32) : ab_XX := ab_up (ab_up (ab_up X 10 0 a) 10 1 b) 10 2 c
theorem rsC_o {X : ab_XX} (a b c : Int32) {o : Nat} (h : o ≠ 10) : rsC X a b c o = X o := by
  unfold rsC
  rw [p_up_ne _ _ _ _ _ h, p_up_ne _ _ _ _ _ h, p_up_ne _ _ _ _ _ h]
theorem rsC_0 (X : ab_XX) (a b c : Int32) : rsC X a b c 10 0 = a := by
  unfold rsC
  rw [p_up_df _ _ _ _ _ (by decide), p_up_df _ _ _ _ _ (by decide), p_up_sm]
theorem rsC_1 (X : ab_XX) (a b c : Int32) : rsC X a b c 10 1 = b := by
  unfold rsC
  rw [p_up_df _ _ _ _ _ (by decide), p_up_sm]
theorem rsC_2 (X : ab_XX) (a b c : Int32) : rsC X a b c 10 2 = c := p_up_sm _ _ _ _
def rsM (X : ab_XX) (a b c : Int32) : ab_XX := ab_up (ab_up (ab_up X 13 12 a) 13 13 b) 13 14 c
theorem rsM_o {X : ab_XX} (a b c : Int32) {o : Nat} (h : o ≠ 13) : rsM X a b c o = X o := by
  unfold rsM
  rw [p_up_ne _ _ _ _ _ h, p_up_ne _ _ _ _ _ h, p_up_ne _ _ _ _ _ h]
theorem rsM_j {X : ab_XX} (a b c : Int32) {j : Nat} (h1 : j ≠ 12) (h2 : j ≠ 13) (h3 : j ≠ 14) : rsM X a b c 13 j = X 13 j := by
  unfold rsM
  rw [p_up_df _ _ _ _ _ h3, p_up_df _ _ _ _ _ h2, p_up_df _ _ _ _ _ h1]
theorem rsM_0 (X : ab_XX) (a b c : Int32) : rsM X a b c 13 12 = a := by
  unfold rsM
  rw [p_up_df _ _ _ _ _ (by decide), p_up_df _ _ _ _ _ (by decide), p_up_sm]
theorem rsM_1 (X : ab_XX) (a b c : Int32) : rsM X a b c 13 13 = b := by
  unfold rsM
  rw [p_up_df _ _ _ _ _ (by decide), p_up_sm]
theorem rsM_2 (X : ab_XX) (a b c : Int32) : rsM X a b c 13 14 = c := p_up_sm _ _ _ _
theorem m_reasons (X : ab_XX) (a b c : Int32) : F_M_reasons X a b c = some ((), rsM X a b c) := rfl
theorem c_Rset (X : ab_XX) {p : Nat × Nat} (h2 : p.2 < 100) (h1 : p.1 < 9) (w : Int32) : F_R_set X (nI (cd p)) w = some ((), rsC X (nI p.1) (nI p.2) (if cd p = 0 then -1 else w)) := by
  unfold F_R_set
  rw [c_numberOf h2 h1, Option.bind_some, Option.bind_some, c_detailOf h2 h1, Option.bind_some, Option.bind_some]
  simp only [cd_0 h2 h1]
  split <;> rfl
/-- another reason, the model's scratch fields changed -/
theorem inv_rs {X Z : ab_XX} (hI : Inv X) (ho : ∀ o, o ≠ 10 → o ≠ 13 → Z o = X o) (h13 : ∀ j, j = 2 ∨ j = 3 ∨ j = 5 ∨ j = 7 ∨ j = 8 → Z 13 j = X 13 j) (hRS : RS Z) : Inv Z := by
  have hr : ∀ i, rwM Z i = rwM X i := fun i => by unfold rwM; rw [ho 14 (by decide) (by decide)]
  have hc : ∀ a, rwC Z 5 a = rwC X 5 a := fun a => by unfold rwC; rw [ho 5 (by decide) (by decide)]
  obtain ⟨g, ⟨nx, n, a1, a2, a3, a4, a5, a6⟩, ⟨b1, b2⟩, ⟨⟨L, c1, c2, c3, c4⟩, c5, c6⟩, _⟩ := hI
  refine ⟨by rw [ho 3 (by decide) (by decide), ho 14 (by decide) (by decide)]; exact g, ⟨nx, n, a1, a2, by rw [ho 4 (by decide) (by decide)]; exact a3, by rw [ho 4 (by decide) (by decide)]; exact a4, by rw [h13 2 (by decide)]; exact a5, fun i h1 h2 => by rw [hc, hr]; exact a6 i h1 h2⟩, ⟨by rw [ho 0 (by decide) (by decide), h13 3 (by decide)]; exact b1, by rw [ho 0 (by decide) (by decide), ho 12 (by decide) (by decide), hr]; exact b2⟩, ⟨⟨L, c1, by rw [ho 6 (by decide) (by decide)]; exact c2, by rw [h13 5 (by decide)]; exact c3, by rw [ho 7 (by decide) (by decide), ho 15 (by decide) (by decide)]; exact c4⟩, by rw [ho 0 (by decide) (by decide), h13 7 (by decide)]; exact c5, by rw [ho 0 (by decide) (by decide), h13 8 (by decide)]; exact c6⟩, hRS⟩
theorem rmb_cg {X Y : ab_XX} {nx n : Nat} (h3 : Y 3 = X 3) (h4 : Y 4 = X 4) (h5 : Y 5 = X 5) {o : Nat} (ho : Y o = X o) : rmb Y 3 nx n o = rmb X 3 nx n o := by
  by_cases q4 : o = 4
  · subst q4
    funext i
    by_cases i2 : i = 2
    · subst i2; rw [rmb_42, rmb_42]
    · by_cases i1 : i = 1
      · subst i1; rw [rmb_41, rmb_41]
      · unfold rmb
        rw [p_up_df _ _ _ _ _ i2, p_up_df _ _ _ _ _ i2, p_up_df _ _ _ _ _ i1, p_up_df _ _ _ _ _ i1, h_cpy_o _ _ _ _ _ _ _ (by decide), h_cpy_o _ _ _ _ _ _ _ (by decide), h4]
  · by_cases q5 : o = 5
    · subst q5
      funext i
      rw [rmb_5, rmb_5, h3, h5]
    · rw [rmb_o _ _ _ _ _ q4 q5, rmb_o _ _ _ _ _ q4 q5, ho]
/-- a call that changes the present row and the reason -/
theorem op_change_r {X : ab_XX} (hI : Inv X) {nx n : Nat} (hH : HI X nx n) {X1 W : ab_XX} (hX1 : ∀ o, o ≠ 3 → o ≠ 10 → X1 o = rmb X 3 nx n o) (hW : ∀ o, o ≠ 13 → W o = X1 o) (hW0 : W 13 0 = nI 0) (hWj : ∀ j, j = 2 ∨ j = 3 ∨ j = 5 ∨ j = 7 ∨ j = 8 → W 13 j = X1 13 j) (hR : RS W) {k : ab_XX → Option (Int32 × ab_XX)} {b : Int32}
    (hk : ∀ Y : ab_XX, (∀ j, j < 405 → Y 14 j = X 14 j) → (∀ o, o ≠ 13 → o ≠ 14 → Y o = X1 o) → ∃ Z, k Y = some (b, Z) ∧ (∀ o, o ≠ 14 → Z o = Y o) ∧ (∀ i, 405 ≤ i → Z 14 i = Y 14 i) ∧ GR (X1 3) (Z 14)) :
    ∃ Z, (ab_b3 (F_M_keeps W) (fun _ Y => k Y)) = some (b, Z) ∧ Inv Z ∧ Z 13 0 = nI 0 := by
  let X2 : ab_XX := fun o => if o = 10 then X1 10 else if o = 13 then W 13 else X o
  have e2 : ∀ o, o ≠ 10 → o ≠ 13 → X2 o = X o := fun o h10 h13 => by show (if o = 10 then X1 10 else if o = 13 then W 13 else X o) = X o; rw [if_neg h10, if_neg h13]
  have e10 : X2 10 = X1 10 := rfl
  have e13 : X2 13 = W 13 := rfl
  have x13 : X1 13 = X 13 := by rw [hX1 13 (by decide) (by decide), rmb_o _ _ _ _ _ (by decide) (by decide)]
  have hI2 : Inv X2 := by
    refine inv_rs hI e2 (fun j hj => by rw [e13, hWj j hj, x13]) ?_
    obtain ⟨r1, r2, r3⟩ := hR
    rw [hW 10 (by decide)] at r1 r2 r3
    exact ⟨r1, r2, r3⟩
  have hH2 : HI X2 nx n := by
    obtain ⟨a1, a2, a3, a4, a5, a6⟩ := hH
    refine ⟨a1, a2, a3, a4, ?_, a6⟩
    rw [e13, hWj 2 (.inl rfl), x13]
    exact a5
  have hW2 : ∀ o, o ≠ 3 → W o = rmb X2 3 nx n o := fun o h3 => by
    by_cases h13 : o = 13
    · subst h13
      rw [rmb_o _ _ _ _ _ (by decide) (by decide), e13]
    · rw [hW o h13]
      by_cases h10 : o = 10
      · subst h10
        rw [rmb_o _ _ _ _ _ (by decide) (by decide), e10]
      · rw [hX1 o h3 h10]
        exact (rmb_cg (X := X) (Y := X2) rfl rfl rfl (e2 o h10 h13)).symm
  have eW : ab_up W 13 0 (nI 0) = W := by
    funext o i
    by_cases h : o = 13
    · subst h
      by_cases hi : i = 0
      · subst hi
        rw [p_up_sm, hW0]
      · rw [p_up_df _ _ _ _ _ hi]
    · rw [p_up_ne _ _ _ _ _ h]
  have h := op_change hI2 hH2 (X1 := W) hW2 (k := k) (b := b) (fun Y y1 y2 _ => by
    obtain ⟨Z, z1, z2, z3, z4⟩ := hk Y y1 (fun o h13 h14 => by rw [y2 o h13 h14, hW o h13])
    exact ⟨Z, z1, z2, z3, by rw [hW 3 (by decide)]; exact z4⟩)
  rw [eW] at h
  exact h
theorem rp_l {X : ab_XX} {a b : Int32} (h1 : F_C_requireWorker X a = some (.inl ())) (h2 : F_C_requireShift X b = some (.inl ())) : F_C_requirePair X a b = some (.inl ()) := by
  unfold F_C_requirePair
  rw [h1, b2_l, h2, b2_l]
theorem rp_s {X : ab_XX} {a b : Int32} (h1 : F_C_requireWorker X a = some (.inl ())) (h2 : F_C_requireShift X b = some (.inr 2)) : F_C_requirePair X a b = some (.inr 2) := by
  unfold F_C_requirePair
  rw [h1, b2_l, h2, b2_r]
theorem rp_w {X : ab_XX} {a b : Int32} (h1 : F_C_requireWorker X a = some (.inr 2)) : F_C_requirePair X a b = some (.inr 2) := by
  unfold F_C_requirePair
  rw [h1, b2_r]
theorem op_award {X : ab_XX} (hI : Inv X) (a b : Int32) : OP (F_C_award X a b) [(2, 1), (3, 2)] (fun X1 => F_M_award X1 a b) := by
  have hI2 := hI
  obtain ⟨⟨v, hV, hb8, h, g⟩, ⟨nx, n, hH⟩, _⟩ := hI2
  have hB := hV.1
  unfold F_C_award
  rcases wk_cs h hV a with ⟨w, hw, rfl, _, f1, f2⟩ | ⟨_, f1, f2⟩
  · rcases sh_cs h hV b with ⟨s, hs, rfl, _, f3, f4⟩ | ⟨_, f3, f4⟩
    · have hset := hb16 hV w
      have hlt := ob_lt hV hw hs (hb v 0 1 w (v 2)) false
      rw [rp_l f1 f3, b2_l, c_obstacleToAward h hV hw hs, Option.bind_some, c_Rset X hlt.1 (by omega), b3_s]
      simp only [cd_0 hlt.1 (by omega)]
      by_cases h0 : (ob v w s (hb v 0 1 w (v 2)) false).1 = 0
      · have e0 := ob_0 hV hw hs _ _ h0
        obtain ⟨n1, n2, n3⟩ := ob_none h0
        have hc : cov v s < sh v s 4 := by
          have := n2 rfl
          have := hV.2.2.2.2.2.1 s hs
          omega
        have h48 := room_award hV hs hc
        rw [e0]
        have c00 : (cd (0, 0) = 0) = True := eq_true rfl
        simp only [c00, if_true]
        have hH0 := hH
        obtain ⟨hx, hn, a3, a4, _⟩ := hH
        rw [h_remember_3 (X := rsC X (nI 0) (nI 0) (-1)) (by rw [rsC_o _ _ _ (by decide)]; exact a3) (by rw [rsC_o _ _ _ (by decide)]; exact a4) hx hn, b3_s]
        have hR : RC (rmb (rsC X (nI 0) (nI 0) (-1)) 3 nx n 3) v := by rw [rmb_o _ _ _ _ _ (by decide) (by decide), rsC_o _ _ _ (by decide)]; exact h
        obtain ⟨f, eE, hf⟩ := c_enterAward hR h48 w s
        rw [eE, b3_s]
        have hV2 := VV_na hV hw hs n3 hc
        have hcov : F_K_coverage (fun o => if o = 3 then f else rmb (rsC X (nI 0) (nI 0) (-1)) 3 nx n o) (nI s) = some (nI (cov (vna v w s) s)) := c_coverage (X := fun o => if o = 3 then f else rmb (rsC X (nI 0) (nI 0) (-1)) 3 nx n o) hf hV2 (by omega)
        rw [hcov, Option.bind_some]
        have gX1 : RM ((fun o => if o = 3 then f else rmb (rsC X (nI 0) (nI 0) (-1)) 3 nx n o : ab_XX) 14) v := by
          show RM (rmb (rsC X (nI 0) (nI 0) (-1)) 3 nx n 14) v
          rw [rmb_o _ _ _ _ _ (by decide) (by decide), rsC_o _ _ _ (by decide)]
          exact g
        generalize hX1 : (fun o => if o = 3 then f else rmb (rsC X (nI 0) (nI 0) (-1)) 3 nx n o : ab_XX) = X1 at gX1 hcov ⊢
        have x3 : X1 3 = f := by rw [← hX1]; rfl
        have xo : ∀ o, o ≠ 3 → X1 o = rmb (rsC X (nI 0) (nI 0) (-1)) 3 nx n o := fun o ho => by rw [← hX1]; exact if_neg ho
        have x10 : X1 10 = rsC X (nI 0) (nI 0) (-1) 10 := by rw [xo 10 (by decide), rmb_o _ _ _ _ _ (by decide) (by decide)]
        obtain ⟨Z, eZ, hZ, hZ0⟩ := op_change_r hI hH0 (X1 := X1) (W := rsM (ab_up (ab_up X1 13 0 (nI 0)) 13 11 (nI 0)) (nI 0) (nI 0) (-1)) (fun o h3 h10 => by
            rw [xo o h3]
            exact rmb_cg (X := X) (Y := rsC X (nI 0) (nI 0) (-1)) (rsC_o _ _ _ (by decide)) (rsC_o _ _ _ (by decide)) (rsC_o _ _ _ (by decide)) (rsC_o _ _ _ h10)) (fun o ho => by rw [rsM_o _ _ _ ho, p_up_ne _ _ _ _ _ ho, p_up_ne _ _ _ _ _ ho]) (by
            rw [rsM_j _ _ _ (by decide) (by decide) (by decide), p_up_df _ _ _ _ _ (by decide), p_up_sm]) (fun j hj => by
            rw [rsM_j _ _ _ (by omega) (by omega) (by omega), p_up_df _ _ _ _ _ (by omega), p_up_df _ _ _ _ _ (by omega)]) (by
            unfold RS
            rw [rsM_o _ _ _ (by decide), p_up_ne _ _ _ _ _ (by decide), p_up_ne _ _ _ _ _ (by decide), x10, rsC_0, rsC_1, rsC_2, rsM_0, rsM_1, rsM_2]
            exact ⟨rfl, rfl, rfl⟩) (k := fun Y => ab_b3 (F_M_gives Y (nI w) (nI s)) (fun _ X956 => (F_M_coverage X956 (nI s)).bind fun v957 => some (v957, X956))) (b := nI (cov (vna v w s) s)) (fun Y hY14 _ => by
          have gY : RM (Y 14) v := RM_congr hV hY14 g
          have gna2 := RM_na hV gY h48 w s
          refine ⟨fun o => if o = 14 then gna (Y 14) (v 2) w s else Y o, ?_, fun o ho => if_neg ho, fun i hi => ?_, ⟨vna v w s, hV2, VB_na hV h48 hb8 hV2, by rw [x3]; exact hf, gna2⟩⟩
          · rw [m_gives gY h48, b3_s, m_coverage (X := fun o => if o = 14 then gna (Y 14) (v 2) w s else Y o) gna2 hV2 (by omega), Option.bind_some]
          · show gna (Y 14) (v 2) w s i = Y 14 i
            exact gna_o (by omega) (by omega))
        refine op_k _ X1 Z rfl ?_ hZ hZ0
        show F_M_award _ _ _ = _
        unfold F_M_award
        rw [f2 _ gX1, Option.bind_some, if_neg n10, f4 _ gX1, Option.bind_some, if_neg n10, th_0, m_heldBy (m13 gX1 0 (nI 0)) hV (by omega), Option.bind_some]
        have ho := m_obstacleOf (X := ab_up X1 13 0 (nI 0)) (m13 gX1 0 _) hV hw hs hset false
        rw [e0] at ho
        have ho2 : F_M_obstacleOf (ab_up X1 13 0 (nI 0)) (nI w) (nI s) (nI (hb v 0 1 w (v 2))) (nI 0) = some (nI 0, ab_up (ab_up X1 13 0 (nI 0)) 13 11 (nI 0)) := ho
        rw [ho2, b3_s, if_pos rfl, m_reasons, b3_s]
        exact eZ
      · have hcd : ¬ cd (ob v w s (hb v 0 1 w (v 2)) false) = 0 := fun z => h0 (by unfold cd at z; omega)
        rw [if_neg hcd, if_neg hcd]
        have ho := m_obstacleOf (X := ab_up (rsC X (nI (ob v w s (hb v 0 1 w (v 2)) false).1) (nI (ob v w s (hb v 0 1 w (v 2)) false).2) (nI w)) 13 0 (nI 0)) (v := v) (m13 (by rw [rsC_o _ _ _ (by decide)]; exact g) 0 _) hV hw hs hset false
        generalize ob v w s (hb v 0 1 w (v 2)) false = p at h0 hlt ho ⊢
        have g1 : RM (rsC X (nI p.1) (nI p.2) (nI w) 14) v := by rw [rsC_o _ _ _ (by decide)]; exact g
        refine ⟨.inr 3, _, nI 0, ab_up (rsM (ab_up (ab_up (rsC X (nI p.1) (nI p.2) (nI w)) 13 0 (nI 0)) 13 11 (nI p.2)) (nI p.1) (nI p.2) (nI w)) 13 0 (nI 2), rfl, ?_, ?_, .inr ⟨3, 2, .tail _ (.head _), rfl, p_up_sm _ _ _ _⟩⟩
        · show F_M_award _ _ _ = _
          unfold F_M_award
          rw [f2 _ g1, Option.bind_some, if_neg n10, f4 _ g1, Option.bind_some, if_neg n10, th_0, m_heldBy (m13 g1 0 (nI 0)) hV (by omega), Option.bind_some]
          have ho2 : F_M_obstacleOf (ab_up (rsC X (nI p.1) (nI p.2) (nI w)) 13 0 (nI 0)) (nI w) (nI s) (nI (hb v 0 1 w (v 2))) (nI 0) = some (nI p.1, ab_up (ab_up (rsC X (nI p.1) (nI p.2) (nI w)) 13 0 (nI 0)) 13 11 (nI p.2)) := ho
          rw [ho2, b3_s, if_neg (fun z => h0 ((nI_eq (by omega) (by decide)).mp z)), p_up_sm, m_reasons, b3_s, Option.bind_some]
        · refine inv_rs hI (fun o h10 h13 => ?_) (fun j hj => ?_) ?_
          · rw [p_up_ne _ _ _ _ _ h13, rsM_o _ _ _ h13, p_up_ne _ _ _ _ _ h13, p_up_ne _ _ _ _ _ h13, rsC_o _ _ _ h10]
          · rw [p_up_df _ _ _ _ _ (by omega), rsM_j _ _ _ (by omega) (by omega) (by omega), p_up_df _ _ _ _ _ (by omega), p_up_df _ _ _ _ _ (by omega), rsC_o _ _ _ (by decide)]
          · unfold RS
            rw [p_up_ne _ _ _ _ _ (by decide), rsM_o _ _ _ (by decide), p_up_ne _ _ _ _ _ (by decide), p_up_ne _ _ _ _ _ (by decide), rsC_0, rsC_1, rsC_2, p_up_df _ _ _ _ _ (by decide), p_up_df _ _ _ _ _ (by decide), p_up_df _ _ _ _ _ (by decide), rsM_0, rsM_1, rsM_2]
            exact ⟨rfl, rfl, rfl⟩
    · rw [rp_s f1 f3, b2_r]
      refine op_x hI 2 1 (.head _) rfl ?_
      show F_M_award _ _ _ = _
      unfold F_M_award
      rw [f2 _ g, Option.bind_some, if_neg n10, f4 _ g, Option.bind_some, if_pos rfl, th_k X _ _ (by decide) (by decide)]
  · rw [rp_w f1, b2_r]
    refine op_x hI 2 1 (.head _) rfl ?_
    show F_M_award _ _ _ = _
    unfold F_M_award
    rw [f2 _ g, Option.bind_some, if_pos rfl, th_k X _ _ (by decide) (by decide)]
