/-! ===== PURE: exchange ===== -/
theorem hld_d {v : Nat → Nat} {w s : Nat} (h : hld v w s = true) : ∃ d, ai v w s 0 (v 2) = some d ∧ d < v 2 ∧ aw v d 0 = w ∧ aw v d 1 = s := by
  unfold hld at h
  cases q : ai v w s 0 (v 2) with
  | none => rw [q] at h; cases h
  | some d =>
    have := ai_some q
    exact ⟨d, rfl, by omega, this.2.2⟩
theorem nI_neq {a b : Nat} (ha : a < 2 ^ 31) (hb0 : b < 2 ^ 31) (h : a ≠ b) : ¬ nI a = nI b := fun z => h ((nI_eq ha hb0).mp z)
def vx2 (v : Nat → Nat) (d1 x1 d2 x2 : Nat) : Nat → Nat := uv (uv v (357 + d1 * 2 + 0) x1) (357 + d2 * 2 + 0) x2
theorem VV_x2 {v : Nat → Nat} (hV : VV v) {d1 d2 w1 w2 s1 s2 : Nat} (h1 : d1 < v 2) (h2 : d2 < v 2) (a1 : aw v d1 0 = w1) (b1 : aw v d1 1 = s1) (a2 : aw v d2 0 = w2) (b2 : aw v d2 1 = s2) (hw1 : w1 < v 0) (hw2 : w2 < v 0) (hne : w1 ≠ w2) (o1 : (xob v w1 s1 s2).1 = 0) (o2 : (xob v w2 s2 s1).1 = 0) : VV (vx2 v d1 w2 d2 w1) := by
  have hd : d1 ≠ d2 := fun z => hne (by rw [← a1, ← a2, z])
  have e1 : aw (vx2 v d1 w2 d2 w1) d1 0 = w2 := by unfold vx2 aw; rw [uv_ne _ (by omega), uv_eq]
  have e2 : aw (vx2 v d1 w2 d2 w1) d2 0 = w1 := by unfold vx2 aw; rw [uv_eq]
  refine VV_sw hV (fun i => decide (i = d1 ∨ i = d2)) (fun i => if i = d1 then d2 else d1) (fun j hj => by unfold vx2; rw [uv_ne _ (by omega), uv_ne _ (by omega)]) (fun i hi => by unfold vx2 aw; rw [uv_ne _ (by omega), uv_ne _ (by omega)]) (fun i hi hC => ?_) (fun i hi hC => ?_) (fun i j hCi hCj hi hj hw => ?_)
  · have := of_decide_eq_false hC
    unfold vx2 aw
    rw [uv_ne _ (by omega), uv_ne _ (by omega)]
  · rcases of_decide_eq_true hC with rfl | rfl
    · rw [e1, if_pos rfl, b2, b1]
      exact ⟨hw2, h2, decide_eq_true (.inr rfl), a2, o2⟩
    · rw [e2, if_neg (fun z => hd z.symm), b1, b2]
      exact ⟨hw1, h1, decide_eq_true (.inl rfl), a1, o1⟩
  · rcases of_decide_eq_true hCi with rfl | rfl <;> rcases of_decide_eq_true hCj with rfl | rfl
    · rfl
    · rw [e1, e2] at hw; omega
    · rw [e1, e2] at hw; omega
    · rfl
theorem op_exchange {X : ab_XX} (hI : Inv X) (a b c d : Int32) : OPU (F_C_exchange X a b c d) [(2, 1), (0, 2), (4, 3), (3, 4)] (fun X1 => F_M_exchange X1 a b c d) := by
  have hI2 := hI
  obtain ⟨⟨v, hV, hb8, h, g⟩, ⟨nx, n, hH⟩, _⟩ := hI2
  have hB := hV.1
  unfold F_C_exchange
  rcases wk_cs h hV a with ⟨w, hw, rfl, _, f1, f2⟩ | ⟨_, f1, f2⟩
  case inr =>
    rw [rp_w f1, b2_r]
    refine opu_x hI 2 1 (.head _) rfl ?_
    show F_M_exchange _ _ _ _ _ = _
    unfold F_M_exchange
    rw [f2 _ g, Option.bind_some, if_pos rfl, th_k X _ _ (by decide) (by decide)]
  rcases sh_cs h hV b with ⟨s, hs, rfl, _, f3, f4⟩ | ⟨_, f3, f4⟩
  case inr =>
    rw [rp_s f1 f3, b2_r]
    refine opu_x hI 2 1 (.head _) rfl ?_
    show F_M_exchange _ _ _ _ _ = _
    unfold F_M_exchange
    rw [f2 _ g, Option.bind_some, if_neg n10, f4 _ g, Option.bind_some, if_pos rfl, th_k X _ _ (by decide) (by decide)]
  rw [rp_l f1 f3, b2_l]
  rcases wk_cs h hV c with ⟨w2, hw2, rfl, _, k1, k2⟩ | ⟨_, k1, k2⟩
  case inr =>
    rw [rp_w k1, b2_r]
    refine opu_x hI 2 1 (.head _) rfl ?_
    show F_M_exchange _ _ _ _ _ = _
    unfold F_M_exchange
    rw [f2 _ g, Option.bind_some, if_neg n10, f4 _ g, Option.bind_some, if_neg n10, k2 _ g, Option.bind_some, if_pos rfl, th_k X _ _ (by decide) (by decide)]
  rcases sh_cs h hV d with ⟨s2, hs2, rfl, _, k3, k4⟩ | ⟨_, k3, k4⟩
  case inr =>
    rw [rp_s k1 k3, b2_r]
    refine opu_x hI 2 1 (.head _) rfl ?_
    show F_M_exchange _ _ _ _ _ = _
    unfold F_M_exchange
    rw [f2 _ g, Option.bind_some, if_neg n10, f4 _ g, Option.bind_some, if_neg n10, k2 _ g, Option.bind_some, if_neg n10, k4 _ g, Option.bind_some, if_pos rfl, th_k X _ _ (by decide) (by decide)]
  rw [rp_l k1 k3, b2_l]
  by_cases hne : w = w2
  · rw [if_pos (congrArg nI hne)]
    refine opu_x hI 0 2 (.tail _ (.head _)) rfl ?_
    show F_M_exchange _ _ _ _ _ = _
    unfold F_M_exchange
    rw [f2 _ g, Option.bind_some, if_neg n10, f4 _ g, Option.bind_some, if_neg n10, k2 _ g, Option.bind_some, if_neg n10, k4 _ g, Option.bind_some, if_neg n10, if_pos (congrArg nI hne), th_k X _ _ (by decide) (by decide)]
  have hni : ¬ nI w = nI w2 := nI_neq (by omega) (by omega) hne
  rw [if_neg hni, c_holds h hV hw hs, Option.bind_some]
  cases hh : hld v w s with
  | false =>
    rw [if_pos (show nI false.toNat = nI 0 from rfl)]
    refine opu_x hI 4 3 (.tail _ (.tail _ (.head _))) rfl ?_
    show F_M_exchange _ _ _ _ _ = _
    unfold F_M_exchange
    rw [f2 _ g, Option.bind_some, if_neg n10, f4 _ g, Option.bind_some, if_neg n10, k2 _ g, Option.bind_some, if_neg n10, k4 _ g, Option.bind_some, if_neg n10, if_neg hni, m_awardOf g hV (by omega) (by omega), Option.bind_some, if_pos (by rw [(hld_ai v w s hV).2.1]; exact hh), th_k X _ _ (by decide) (by decide)]
  | true =>
  have q1 : ¬ aiI (ai v w s 0 (v 2)) < nI 0 := by rw [(hld_ai v w s hV).2.1, hh]; decide
  rw [if_neg (by decide : ¬ nI true.toNat = nI 0), c_holds h hV hw2 hs2, Option.bind_some]
  cases hh2 : hld v w2 s2 with
  | false =>
    rw [if_pos (show nI false.toNat = nI 0 from rfl)]
    refine opu_x hI 4 3 (.tail _ (.tail _ (.head _))) rfl ?_
    show F_M_exchange _ _ _ _ _ = _
    unfold F_M_exchange
    rw [f2 _ g, Option.bind_some, if_neg n10, f4 _ g, Option.bind_some, if_neg n10, k2 _ g, Option.bind_some, if_neg n10, k4 _ g, Option.bind_some, if_neg n10, if_neg hni, m_awardOf g hV (by omega) (by omega), Option.bind_some, if_neg q1, m_awardOf g hV (by omega) (by omega), Option.bind_some, if_neg (by rw [(hld_ai v w2 s2 hV).1, hh2]; decide), th_k X _ _ (by decide) (by decide)]
  | true =>
  have q2 : nI 0 ≤ aiI (ai v w2 s2 0 (v 2)) := by rw [(hld_ai v w2 s2 hV).1, hh2]
  rw [if_neg (by decide : ¬ nI true.toNat = nI 0)]
  have mx : ∀ Y : ab_XX, RM (Y 14) v → F_M_exchange Y (nI w) (nI s) (nI w2) (nI s2) = ab_b3 (F_M_mayGet (ab_up Y 13 0 (nI 0)) (nI w) (nI s) (nI s2) (nI 1)) (fun v1098 X1099 =>
      if v1098 = nI 0 then
        (some (ab_up X1099 13 0 (nI 4))).bind fun X1100 =>
        some ((), X1100)
      else
        ab_b3 (F_M_mayGet X1099 (nI w2) (nI s2) (nI s) (nI 1)) (fun v1101 X1102 =>
          if v1101 = nI 0 then
            (some (ab_up X1102 13 0 (nI 4))).bind fun X1109 =>
            some ((), X1109)
          else
            ab_b3 (F_M_reasons X1102 (nI 0) (nI 0) (-1 : Int32)) (fun _ X1103 =>
              ab_b3 (F_M_keeps X1103) (fun _ X1104 =>
                (F_M_awardOf X1104 (nI w) (nI s)).bind fun v1105 =>
                (F_M_awardOf X1104 (nI w2) (nI s2)).bind fun v1106 =>
                if ab_in ((nI 309) + ((nI 2) * v1105)) 4455 = true then
                  (some (ab_up X1104 14 (((nI 309) + ((nI 2) * v1105)).toNatClampNeg) (nI w2))).bind fun X1107 =>
                  if ab_in ((nI 309) + ((nI 2) * v1106)) 4455 = true then
                    (some (ab_up X1107 14 (((nI 309) + ((nI 2) * v1106)).toNatClampNeg) (nI w))).bind fun X1108 =>
                    some ((), X1108)
                  else none
                else none)))) := fun Y gY => by
    unfold F_M_exchange
    rw [f2 _ gY, Option.bind_some, if_neg n10, f4 _ gY, Option.bind_some, if_neg n10, k2 _ gY, Option.bind_some, if_neg n10, k4 _ gY, Option.bind_some, if_neg n10, if_neg hni, m_awardOf gY hV (by omega) (by omega), Option.bind_some, if_neg q1, m_awardOf gY hV (by omega) (by omega), Option.bind_some, if_pos q2, th_0]
  by_cases o1 : (xob v w s s2).1 = 0
  · have h1R : RC (rsC X (nI 0) (nI 0) (-1) 3) v := by rw [rsC_o _ _ _ (by decide)]; exact h
    rw [c_ref0 h hV hw hs hs2 o1, b3_s, if_pos rfl]
    by_cases o2 : (xob v w2 s2 s).1 = 0
    · rw [c_ref0 h1R hV hw2 hs2 hs o2, b3_s, if_pos rfl, rsC_rsC]
      obtain ⟨d1, e1, l1, p1, p2⟩ := hld_d hh
      obtain ⟨d2, e2, l2, p3, p4⟩ := hld_d hh2
      have hH0 := hH
      obtain ⟨hx, hn, a3, a4, _⟩ := hH
      have hR0 : RC (rmb (rsC X (nI 0) (nI 0) (-1)) 3 nx n 3) v := by rw [rmb_o _ _ _ _ _ (by decide) (by decide)]; exact h1R
      rw [h_remember_3 (X := rsC X (nI 0) (nI 0) (-1)) (by rw [rsC_o _ _ _ (by decide)]; exact a3) (by rw [rsC_o _ _ _ (by decide)]; exact a4) hx hn, b3_s, c_awardIndex hR0 hV (by omega) (by omega), Option.bind_some, c_awardIndex hR0 hV (by omega) (by omega), Option.bind_some, e1, e2]
      have hR1 : RC (ab_up (rmb (rsC X (nI 0) (nI 0) (-1)) 3 nx n) 3 (357 + d1 * 2 + 0) (nI w2) 3) (uv v (357 + d1 * 2 + 0) w2) := by
        rw [p_up_eq]
        exact RC_upd hR0 _ _
      have e3 : uv v (357 + d1 * 2 + 0) w2 2 = v 2 := uv_ne _ (by omega)
      rw [show aiI (some d1) = nI d1 from rfl, show aiI (some d2) = nI d2 from rfl, c_reassign hR0 hB.2.2 l1, b3_s, c_reassign hR1 (by omega) (by omega), b3_s]
      have hR2 : RC (ab_up (ab_up (rmb (rsC X (nI 0) (nI 0) (-1)) 3 nx n) 3 (357 + d1 * 2 + 0) (nI w2)) 3 (357 + d2 * 2 + 0) (nI w) 3) (vx2 v d1 w2 d2 w) := by
        rw [p_up_eq]
        exact RC_upd hR1 _ _
      have xo : ∀ o, o ≠ 3 → ab_up (ab_up (rmb (rsC X (nI 0) (nI 0) (-1)) 3 nx n) 3 (357 + d1 * 2 + 0) (nI w2)) 3 (357 + d2 * 2 + 0) (nI w) o = rmb (rsC X (nI 0) (nI 0) (-1)) 3 nx n o := fun o ho => by rw [p_up_ne _ _ _ _ _ ho, p_up_ne _ _ _ _ _ ho]
      generalize ab_up (ab_up (rmb (rsC X (nI 0) (nI 0) (-1)) 3 nx n) 3 (357 + d1 * 2 + 0) (nI w2)) 3 (357 + d2 * 2 + 0) (nI w) = X1 at hR2 xo ⊢
      have gX1 : RM (X1 14) v := by rw [xo 14 (by decide), rmb_o _ _ _ _ _ (by decide) (by decide), rsC_o _ _ _ (by decide)]; exact g
      have g2 : RM (ab_up X1 13 0 (nI 0) 14) v := m13 gX1 0 _
      have g3 : RM (ab_up (ab_up X1 13 0 (nI 0)) 13 11 (nI 0) 14) v := m13 g2 11 _
      have hV2 := VV_x2 hV l1 l2 p1 p2 p3 p4 hw hw2 hne o1 o2
      obtain ⟨Z, eZ, hZ, hZ0⟩ := opu_change hI hH0 (X1 := X1) (Y := ab_up (ab_up (ab_up X1 13 0 (nI 0)) 13 11 (nI 0)) 13 11 (nI 0)) xo (sm_tr (sm_11 _ _ _) (sm_up _ _ (.inr rfl))) (by rw [p_up_df _ _ _ _ _ (by decide), p_up_df _ _ _ _ _ (by decide), p_up_sm]) (k := fun X1104 => (F_M_awardOf X1104 (nI w) (nI s)).bind fun v1105 => (F_M_awardOf X1104 (nI w2) (nI s2)).bind fun v1106 => if ab_in ((nI 309) + ((nI 2) * v1105)) 4455 = true then (some (ab_up X1104 14 (((nI 309) + ((nI 2) * v1105)).toNatClampNeg) (nI w2))).bind fun X1107 => if ab_in ((nI 309) + ((nI 2) * v1106)) 4455 = true then (some (ab_up X1107 14 (((nI 309) + ((nI 2) * v1106)).toNatClampNeg) (nI w))).bind fun X1108 => some ((), X1108) else none else none) (fun Y hY14 => by
        have gY : RM (Y 14) v := RM_congr hV hY14 g
        refine ⟨ab_up (ab_up Y 14 (309 + 2 * d1) (nI w2)) 14 (309 + 2 * d2) (nI w), ?_, fun o ho => by rw [p_up_ne _ _ _ _ _ ho, p_up_ne _ _ _ _ _ ho], fun i hi => by rw [p_up_df _ _ _ _ _ (by omega), p_up_df _ _ _ _ _ (by omega)], ⟨vx2 v d1 w2 d2 w, hV2, VB_aws hV hV2 hb8 (fun j h1 h2 => by unfold vx2; rw [uv_ne _ (by omega), uv_ne _ (by omega)]), hR2, ?_⟩⟩
        · rw [m_awardOf gY hV (by omega) (by omega), Option.bind_some, m_awardOf gY hV (by omega) (by omega), Option.bind_some, e1, e2, show aiI (some d1) = nI d1 from rfl, show aiI (some d2) = nI d2 from rfl]
          simp only [p_mul, nI_add]
          rw [if_pos (p_in (by omega) (by decide)), Option.bind_some, if_pos (p_in (by omega) (by decide)), Option.bind_some, nI_clamp (by omega), nI_clamp (by omega)]
        · have r1 := RM_a ⟨hB.1, hB.2.1⟩ gY (k := d1) (p := 0) w2 (by decide)
          have r2 := RM_a (v := uv v (357 + d1 * 2 + 0) w2) (by rw [uv_ne _ (by omega), uv_ne _ (by omega)]; exact ⟨hB.1, hB.2.1⟩) r1 (k := d2) (p := 0) w (by decide)
          rw [p_up_eq, p_up_eq]
          exact r2)
      refine opu_k X1 Z rfl ?_ hZ hZ0
      show F_M_exchange _ _ _ _ _ = _
      rw [mx X1 gX1, m_get0 g2 hV hw hs hs2 o1, b3_s, if_neg n10, m_get0 g3 hV hw2 hs2 hs o2, b3_s, if_neg n10, m_reasons, b3_s]
      exact eZ
    · rw [c_ref1 h1R hV hw2 hs2 hs o2, b3_s, if_neg n10, rsC_rsC]
      refine opu_r hI 4 (.tail _ (.tail _ (.tail _ (.head _)))) (nI (xob v w2 s2 s).1) (nI (xob v w2 s2 s).2) (nI w2) (ab_up (ab_up (ab_up (rsC X (nI (xob v w2 s2 s).1) (nI (xob v w2 s2 s).2) (nI w2)) 13 0 (nI 0)) 13 11 (nI 0)) 13 11 (nI (xob v w2 s2 s).2)) rfl (sm_tr (sm_11 _ _ _) (sm_up _ _ (.inr rfl))) ?_
      have g1 : RM (rsC X (nI (xob v w2 s2 s).1) (nI (xob v w2 s2 s).2) (nI w2) 14) v := by rw [rsC_o _ _ _ (by decide)]; exact g
      show F_M_exchange _ _ _ _ _ = _
      rw [mx _ g1, m_get0 (m13 g1 0 _) hV hw hs hs2 o1, b3_s, if_neg n10, m_get1 (m13 (m13 g1 0 _) 11 _) hV hw2 hs2 hs o2, b3_s, if_pos rfl, Option.bind_some]
  · rw [c_ref1 h hV hw hs hs2 o1, b3_s, if_neg n10]
    refine opu_r hI 4 (.tail _ (.tail _ (.tail _ (.head _)))) (nI (xob v w s s2).1) (nI (xob v w s s2).2) (nI w) (ab_up (ab_up (rsC X (nI (xob v w s s2).1) (nI (xob v w s s2).2) (nI w)) 13 0 (nI 0)) 13 11 (nI (xob v w s s2).2)) rfl (sm_11 _ _ _) ?_
    have g1 : RM (rsC X (nI (xob v w s s2).1) (nI (xob v w s s2).2) (nI w) 14) v := by rw [rsC_o _ _ _ (by decide)]; exact g
    show F_M_exchange _ _ _ _ _ = _
    rw [mx _ g1, m_get1 (m13 g1 0 _) hV hw hs hs2 o1, b3_s, if_pos rfl, Option.bind_some]
