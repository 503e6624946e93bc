/-! ===== PURE: more questions ===== -/
def bt (v : Nat → Nat) (w : Nat) : Nat := fo (fun s a => if bd v w s = 0 then a else a + 1) 0 0 (v 1)
def ah (v : Nat → Nat) (o w : Nat) : Bool := decide (wk v w 0 < wk v o 0) || (decide (wk v o 0 = wk v w 0) && decide (o < w))
def rk (v : Nat → Nat) (w : Nat) : Nat := fo (fun o a => if ah v o w = true then a + 1 else a) 0 0 (v 0)
def atr (v : Nat → Nat) (r : Nat) : Option Nat := lo (fun w => decide (rk v w = r)) 0 (v 0)
def opn (v : Nat → Nat) : Nat := fo (fun s m => if sh v s 4 ≤ cov v s then m else m ||| 2 ^ s) 0 0 (v 1)
theorem p_div100 : ∀ a, a < 900 → nI a / nI 100 = nI (a / 100) := by decide +kernel
theorem p_div16 : ∀ a, a < 256 → nI a / nI 16 = nI (a / 16) := by decide +kernel
section Q2
variable {X : ab_XX} {v : Nat → Nat}
theorem c_bidTotal (h : RC (X 3) v) (hV : VV v) {w : Nat} (hw : w < v 0) : F_K_bidTotal X (nI w) = some (nI (bt v w)) := by
  have hB := hV.1
  refine p_lp (fun n a k => L_K_bidTotal_4 X n (nI w) (nI a) k) (fun s a => if bd v w s = 0 then a else a + 1) (fun m => some (nI m)) (v 1) (fun _ => True) (fun _ _ _ _ => trivial) (fun n a _ => ?_) (fun n a k hk _ => ?_) (v 1) 0 0 ab_fu trivial (by omega) (by unfold ab_fu; omega)
  · rw [L_K_bidTotal_4, c_1 h, if_pos (nI_le (Nat.le_refl _) (by omega))]
  · have hb9 := (hV.2.2.2.1 w k (by omega) (by omega)).1
    rw [L_K_bidTotal_4, c_1 h, if_neg (nI_ge hk (by omega)), c_pointsFor h (by omega) (by omega)]
    simp only [Option.bind_some, nI_add, nI_eq (by omega : bd v w k < 2 ^ 31) (by decide : 0 < 2 ^ 31)]
    split <;> rfl
theorem m_bidsOf (h : RM (X 14) v) (hV : VV v) {w : Nat} (hw : w < v 0) : F_M_bidsOf X (nI w) = some (nI (bt v w)) := by
  have hB := hV.1
  refine p_lp (fun n a k => L_M_bidsOf_4 X n (nI w) (nI a) k) (fun s a => if bd v w s = 0 then a else a + 1) (fun m => some (nI m)) (v 1) (fun _ => True) (fun _ _ _ _ => trivial) (fun n a _ => ?_) (fun n a k hk _ => ?_) (v 1) 0 0 ab_fu trivial (by omega) (by unfold ab_fu; omega)
  · rw [L_M_bidsOf_4, m_shifts h, Option.bind_some, if_pos (nI_le (Nat.le_refl _) (by omega))]
  · have hb9 := (hV.2.2.2.1 w k (by omega) (by omega)).1
    rw [L_M_bidsOf_4, m_shifts h, Option.bind_some, if_neg (nI_ge hk (by omega)), m_bidOf h hw hB.1 (by omega)]
    simp only [Option.bind_some, nI_add, nI_leI (by omega : bd v w k < 2 ^ 31) (by decide : 0 < 2 ^ 31), Nat.le_zero_eq, Nat.add_zero]
    split <;> rfl
theorem q_worker (h : RC (X 3) v) (g : RM (X 14) v) (hV : VV v) (a b : Int32) : QR (F_C_worker X a b) [(2, 1), (0, 2)] (F_M_worker X a b) X := by
  have hB := hV.1
  unfold F_C_worker F_M_worker
  rcases wk_cs h hV a with ⟨w, hw, rfl, _, e1, e2⟩ | ⟨_, e1, e2⟩
  · rcases rp_cs b 5 (by decide) with ⟨p, hp, rfl, f1, f2⟩ | ⟨f1, f2⟩
    · by_cases hp5 : p = 5
      · subst hp5
        refine qr_k (nI (bt v w)) ?_ ?_
        · rw [e1, b2_l, f2, b2_l, if_pos rfl, c_bidTotal h hV hw]; rfl
        · rw [e2 X g, Option.bind_some, if_neg n10, f1, Option.bind_some, if_neg n10, th_0, if_pos rfl, m_bidsOf (m13 g _ _) hV hw]; rfl
      · have hn : ¬ nI p = nI 5 := fun z => hp5 ((nI_eq (by omega) (by omega)).mp z)
        refine qr_k (nI (wk v w p)) ?_ ?_
        · rw [e1, b2_l, f2, b2_l, if_neg hn, c_workerPart h (by omega) (by omega)]; rfl
        · rw [e2 X g, Option.bind_some, if_neg n10, f1, Option.bind_some, if_neg n10, th_0, if_neg hn, m_of (m13 g _ _) hw hB.1 (by omega)]; rfl
    · refine qr_x 0 2 (.tail _ (.head _)) ?_ ?_
      · rw [e1, b2_l, f2, b2_r]
      · rw [e2 X g, Option.bind_some, if_neg n10, f1, Option.bind_some, if_pos rfl, th_k X _ _ (by decide) (by decide)]
  · refine qr_x 2 1 (.head _) ?_ ?_
    · rw [e1, b2_r]
    · rw [e2 X g, Option.bind_some, if_pos rfl, th_k X _ _ (by decide) (by decide)]
theorem q_shift (h : RC (X 3) v) (g : RM (X 14) v) (hV : VV v) (a b : Int32) : QR (F_C_shift X a b) [(2, 1), (0, 2)] (F_M_shift X a b) X := by
  have hB := hV.1
  unfold F_C_shift F_M_shift
  rcases sh_cs h hV a with ⟨s, hs, rfl, _, e1, e2⟩ | ⟨_, e1, e2⟩
  · rcases rp_cs b 7 (by decide) with ⟨p, hp, rfl, f1, f2⟩ | ⟨f1, f2⟩
    · by_cases hp6 : p = 6
      · subst hp6
        refine qr_k (nI (cov v s)) ?_ ?_
        · rw [e1, b2_l, f2, b2_l, if_pos rfl, c_coverage h hV (by omega)]; rfl
        · rw [e2 X g, Option.bind_some, if_neg n10, f1, Option.bind_some, if_neg n10, th_0, if_pos rfl, m_coverage (m13 g _ _) hV (by omega)]; rfl
      · have hn : ¬ nI p = nI 6 := fun z => hp6 ((nI_eq (by omega) (by omega)).mp z)
        by_cases hp7 : p = 7
        · subst hp7
          refine qr_k (nI (sh v s 7)) ?_ ?_
          · rw [e1, b2_l, f2, b2_l, if_neg hn, if_pos rfl, c_shiftPart h (by omega) (by decide)]; rfl
          · rw [e2 X g, Option.bind_some, if_neg n10, f1, Option.bind_some, if_neg n10, th_0, if_neg hn, if_pos rfl, m_end (m13 g _ _) hV hs]; rfl
        · have hn2 : ¬ nI p = nI 7 := fun z => hp7 ((nI_eq (by omega) (by omega)).mp z)
          refine qr_k (nI (sh v s p)) ?_ ?_
          · rw [e1, b2_l, f2, b2_l, if_neg hn, if_neg hn2, c_shiftPart h (by omega) (by omega)]; rfl
          · rw [e2 X g, Option.bind_some, if_neg n10, f1, Option.bind_some, if_neg n10, th_0, if_neg hn, if_neg hn2, m_ofShift (m13 g _ _) hs hB.2.1 (by omega)]; rfl
    · refine qr_x 0 2 (.tail _ (.head _)) ?_ ?_
      · rw [e1, b2_l, f2, b2_r]
      · rw [e2 X g, Option.bind_some, if_neg n10, f1, Option.bind_some, if_pos rfl, th_k X _ _ (by decide) (by decide)]
  · refine qr_x 2 1 (.head _) ?_ ?_
    · rw [e1, b2_r]
    · rw [e2 X g, Option.bind_some, if_pos rfl, th_k X _ _ (by decide) (by decide)]
theorem q_awardAt (h : RC (X 3) v) (g : RM (X 14) v) (hV : VV v) (a b : Int32) : QR (F_C_awardAt X a b) [(2, 1), (0, 2)] (F_M_awardAt X a b) X := by
  have hB := hV.1
  unfold F_C_awardAt F_M_awardAt
  rw [m_awards g, Option.bind_some]
  rcases inN_cs a (v 2) (by omega) with ⟨w, hw, rfl, e⟩ | ⟨hc, e⟩
  · have e1 : F_K_isAward X (nI w) = some (nI 1) := by
      unfold F_K_isAward
      rw [c_2 h, if_neg (nI_nlt (Nat.zero_le _) (by omega : w < 2 ^ 31)), if_neg (nI_ge hw (by omega))]
    rw [e1, e, Option.bind_some, Option.bind_some, if_neg n10, if_neg n10]
    rcases rp_cs b 1 (by decide) with ⟨p, hp, rfl, f1, f2⟩ | ⟨f1, f2⟩
    · by_cases hp0 : p = 0
      · subst hp0
        refine qr_k (nI (aw v w 0)) ?_ ?_
        · rw [f2, b2_l, if_pos rfl, c_awardPart h (by omega) (by decide)]; rfl
        · rw [f1, Option.bind_some, if_neg n10, th_0, if_pos rfl, m_awardWorker (m13 g _ _) hw hB.2.2]; rfl
      · have hp1 : p = 1 := by omega
        subst hp1
        refine qr_k (nI (aw v w 1)) ?_ ?_
        · rw [f2, b2_l, if_neg n10, c_awardPart h (by omega) (by decide)]; rfl
        · rw [f1, Option.bind_some, if_neg n10, th_0, if_neg n10, m_awardShift (m13 g _ _) hw hB.2.2]; rfl
    · refine qr_x 0 2 (.tail _ (.head _)) ?_ ?_
      · rw [f2, b2_r]
      · rw [f1, Option.bind_some, if_pos rfl, th_k X _ _ (by decide) (by decide)]
  · have e1 : F_K_isAward X a = some (nI 0) := by
      unfold F_K_isAward
      rw [c_2 h]
      rcases hc with hc | ⟨hc1, hc2⟩
      · rw [if_pos hc]
      · rw [if_neg hc1, if_pos hc2]
    refine qr_x 2 1 (.head _) ?_ ?_
    · rw [e1]; rfl
    · rw [e, Option.bind_some, if_pos rfl, th_k X _ _ (by decide) (by decide)]
theorem ob_lt (hV : VV v) {w s : Nat} (hw : w < v 0) (hs : s < v 1) (set : Nat) (ex : Bool) : (ob v w s set ex).2 < 100 ∧ (ob v w s set ex).1 < 8 := by
  have hB := hV.1
  have hsh := hV.2.2.1 s hs
  have hq := sq_le (dy v (set ||| 2 ^ s)) (by omega : sh v s 0 < 28)
  unfold ob
  split
  · exact ⟨by dsimp only; omega, by dsimp only; omega⟩
  · split
    · split
      · exact ⟨by dsimp only; omega, by dsimp only; omega⟩
      · unfold ot
        cases h1 : lwi v 0 s set with
        | some o =>
          have := lwi_lt h1
          exact ⟨by dsimp only; omega, by dsimp only; omega⟩
        | none =>
          dsimp only
          cases h2 : lwi v (wk v w 1) s set with
          | some o =>
            have := lwi_lt h2
            exact ⟨by dsimp only; omega, by dsimp only; omega⟩
          | none =>
            dsimp only
            split
            · split
              · exact ⟨by decide, by decide⟩
              · exact ⟨by dsimp only; omega, by dsimp only; omega⟩
            · exact ⟨by dsimp only; omega, by dsimp only; omega⟩
    · exact ⟨by dsimp only; omega, by dsimp only; omega⟩
theorem c_numberOf {p : Nat × Nat} (h2 : p.2 < 100) (h1 : p.1 < 9) : F_U_numberOf (nI (cd p)) = some (nI p.1) := by
  unfold F_U_numberOf cd
  rw [p_div100 _ (by omega), show (p.1 * 100 + p.2) / 100 = p.1 by omega]
theorem c_detailOf {p : Nat × Nat} (h2 : p.2 < 100) (h1 : p.1 < 9) : F_U_detailOf (nI (cd p)) = some (nI p.2) := by
  unfold F_U_detailOf cd
  rw [p_div100 _ (by omega), p_mul, p_sub (by omega), show p.1 * 100 + p.2 - (p.1 * 100 + p.2) / 100 * 100 = p.2 by omega]
theorem cd_0 {p : Nat × Nat} (h2 : p.2 < 100) (h1 : p.1 < 9) : (nI (cd p) = nI 0) = (cd p = 0) := propext (nI_eq (by unfold cd; omega) (by decide))
theorem ob_0 (hV : VV v) {w s : Nat} (hw : w < v 0) (hs : s < v 1) (set : Nat) (ex : Bool) : (ob v w s set ex).1 = 0 → ob v w s set ex = (0, 0) := by
  unfold ob
  split
  · intro z; cases z
  · split
    · split
      · intro z; cases z
      · unfold ot
        split
        · intro z; cases z
        · split
          · intro z; cases z
          · split
            · split
              · intro _; rfl
              · intro z; cases z
            · intro z; cases z
    · intro z; cases z
theorem c_obstacleToAward (h : RC (X 3) v) (hV : VV v) {w s : Nat} (hw : w < v 0) (hs : s < v 1) : F_U_obstacleToAward X (nI w) (nI s) = some (nI (cd (ob v w s (hb v 0 1 w (v 2)) false))) := by
  have hB := hV.1
  unfold F_U_obstacleToAward
  rw [c_heldBy h hV (by omega), Option.bind_some]
  have e := c_firstObstacle h hV hw hs (hb16 hV w) false
  rw [show (nI (!false).toNat) = nI 1 from rfl] at e
  rw [e]
  rfl
theorem q_obstacle (h : RC (X 3) v) (g : RM (X 14) v) (hV : VV v) (a b c : Int32) : QR (F_C_obstacle X a b c) [(2, 1), (0, 2)] (F_M_obstacle X a b c) X := by
  have hB := hV.1
  unfold F_C_obstacle F_M_obstacle F_C_requirePair
  rcases wk_cs h hV a with ⟨w, hw, rfl, _, e1, e2⟩ | ⟨_, e1, e2⟩
  · rcases sh_cs h hV b with ⟨s, hs, rfl, _, f1, f2⟩ | ⟨_, f1, f2⟩
    · have hol := ob_lt hV hw hs (hb v 0 1 w (v 2)) false
      rcases rp_cs c 1 (by decide) with ⟨p, hp, rfl, g1, g2⟩ | ⟨g1, g2⟩
      · have em := m_obstacleOf (X := ab_up X 13 0 (nI 0)) (m13 g _ _) hV hw hs (hb16 hV w) false
        rw [show (nI (false).toNat) = nI 0 from rfl] at em
        by_cases hp0 : p = 0
        · subst hp0
          refine qr_ok (nI (ob v w s (hb v 0 1 w (v 2)) false).1) (ab_up (ab_up X 13 0 (nI 0)) 13 11 (nI (ob v w s (hb v 0 1 w (v 2)) false).2)) ?_ ?_ (sm_11 X _ _) ?_
          · rw [e1, b2_l, f1, b2_l, b2_l, g2, b2_l, c_obstacleToAward h hV hw hs, Option.bind_some, if_pos rfl, c_numberOf hol.1 (by omega)]; rfl
          · rw [e2 X g, Option.bind_some, if_neg n10, f2 X g, Option.bind_some, if_neg n10, g1, Option.bind_some, if_neg n10, th_0, m_heldBy (m13 g _ _) hV (by omega), Option.bind_some, em, b3_s, if_pos rfl]
          · rw [p_up_df _ _ _ _ _ (by decide), p_up_sm]
        · have hp1 : p = 1 := by omega
          subst hp1
          refine qr_ok (nI (ob v w s (hb v 0 1 w (v 2)) false).2) (ab_up (ab_up X 13 0 (nI 0)) 13 11 (nI (ob v w s (hb v 0 1 w (v 2)) false).2)) ?_ ?_ (sm_11 X _ _) ?_
          · rw [e1, b2_l, f1, b2_l, b2_l, g2, b2_l, c_obstacleToAward h hV hw hs, Option.bind_some, if_neg n10, c_detailOf hol.1 (by omega)]; rfl
          · rw [e2 X g, Option.bind_some, if_neg n10, f2 X g, Option.bind_some, if_neg n10, g1, Option.bind_some, if_neg n10, th_0, m_heldBy (m13 g _ _) hV (by omega), Option.bind_some, em, b3_s, if_neg n10, p_up_sm]
          · rw [p_up_df _ _ _ _ _ (by decide), p_up_sm]
      · refine qr_x 0 2 (.tail _ (.head _)) ?_ ?_
        · rw [e1, b2_l, f1, b2_l, b2_l, g2, b2_r]
        · rw [e2 X g, Option.bind_some, if_neg n10, f2 X g, Option.bind_some, if_neg n10, g1, Option.bind_some, if_pos rfl, th_k X _ _ (by decide) (by decide)]
    · refine qr_x 2 1 (.head _) ?_ ?_
      · rw [e1, b2_l, f1, b2_r, b2_r]
      · rw [e2 X g, Option.bind_some, if_neg n10, f2 X g, Option.bind_some, if_pos rfl, th_k X _ _ (by decide) (by decide)]
  · refine qr_x 2 1 (.head _) ?_ ?_
    · rw [e1, b2_r, b2_r]
    · rw [e2 X g, Option.bind_some, if_pos rfl, th_k X _ _ (by decide) (by decide)]
theorem c_openShifts (h : RC (X 3) v) (hV : VV v) : F_C_openShifts X = some (nI (opn v)) := by
  have hB := hV.1
  refine p_lp (fun n a k => L_C_openShifts_4 X n (nI a) k) (fun s m => if sh v s 4 ≤ cov v s then m else m ||| 2 ^ s) (fun m => some (nI m)) (v 1) (fun _ => True) (fun _ _ _ _ => trivial) (fun n a _ => ?_) (fun n a k hk _ => ?_) (v 1) 0 0 ab_fu trivial (by omega) (by unfold ab_fu; omega)
  · rw [L_C_openShifts_4, c_shiftTotal h, Option.bind_some, if_pos (nI_le (Nat.le_refl _) (by omega))]
  · have hsh := hV.2.2.1 k hk
    have hcv := hV.2.2.2.2.2.1 k hk
    rw [L_C_openShifts_4, c_shiftTotal h, Option.bind_some, if_neg (nI_ge hk (by omega)), c_coverage h hV (by omega), Option.bind_some, c_shiftPart h (by omega) (by decide)]
    simp only [Option.bind_some, F_K_bit, p_bit k (by omega), p_or, nI_add, nI_leI (by omega : sh v k 4 < 2 ^ 31) (by omega : cov v k < 2 ^ 31)]
    split <;> rfl
theorem m_openShifts (h : RM (X 14) v) (hV : VV v) : F_M_openShifts X = some (nI (opn v), ab_up X 13 0 (nI 0)) := by
  have hB := hV.1
  unfold F_M_openShifts
  rw [Option.bind_some]
  have h := m13 h 0 (nI 0)
  generalize ab_up X 13 0 (nI 0) = X at h
  refine p_lp (fun n a k => L_M_openShifts_9 n X (nI a) k) (fun s m => if sh v s 4 ≤ cov v s then m else m ||| 2 ^ s) (fun m => some (nI m, X)) (v 1) (fun _ => True) (fun _ _ _ _ => trivial) (fun n a _ => ?_) (fun n a k hk _ => ?_) (v 1) 0 0 ab_fu trivial (by omega) (by unfold ab_fu; omega)
  · rw [L_M_openShifts_9, m_shifts h, Option.bind_some, if_pos (nI_le (Nat.le_refl _) (by omega))]
  · have hsh := hV.2.2.1 k hk
    have hcv := hV.2.2.2.2.2.1 k hk
    rw [L_M_openShifts_9, m_shifts h, Option.bind_some, if_neg (nI_ge hk (by omega)), m_coverage h hV (by omega), Option.bind_some, m_ofShift h hk hB.2.1 (by decide)]
    simp only [Option.bind_some, p_bit k (by omega), p_or, nI_add, Nat.or_zero, nI_leI (by omega : sh v k 4 < 2 ^ 31) (by omega : cov v k < 2 ^ 31)]
    split <;> rfl
theorem c_comesBefore (h : RC (X 3) v) (hV : VV v) {o w : Nat} (ho : o < v 0) (hw : w < v 0) : F_K_comesBefore X (nI o) (nI w) = some (nI (ah v o w).toNat) := by
  have hB := hV.1
  have h1 := hV.2.1 o ho
  have h2 := hV.2.1 w hw
  unfold F_K_comesBefore ah
  rw [c_workerPart h (by omega) (by decide), c_workerPart h (by omega) (by decide)]
  simp only [Option.bind_some, nI_ltI (by omega : wk v w 0 < 2 ^ 31) (by omega : wk v o 0 < 2 ^ 31), nI_eq (by omega : wk v o 0 < 2 ^ 31) (by omega : wk v w 0 < 2 ^ 31), nI_leI (by omega : w < 2 ^ 31) (by omega : o < 2 ^ 31)]
  by_cases q1 : wk v w 0 < wk v o 0
  · simp [q1]
  · by_cases q2 : wk v o 0 = wk v w 0
    · by_cases q3 : w ≤ o
      · have q4 : ¬ o < w := by omega
        simp [q2, q3, q4]
      · have q4 : o < w := by omega
        simp [q2, q3, q4]
    · simp [q1, q2]
theorem c_rankOf (h : RC (X 3) v) (hV : VV v) {w : Nat} (hw : w < v 0) : F_K_rankOf X (nI w) = some (nI (rk v w)) := by
  have hB := hV.1
  refine p_lp (fun n a k => L_K_rankOf_4 X n (nI w) (nI a) k) (fun o a => if ah v o w = true then a + 1 else a) (fun m => some (nI m)) (v 0) (fun _ => True) (fun _ _ _ _ => trivial) (fun n a _ => ?_) (fun n a k hk _ => ?_) (v 0) 0 0 ab_fu trivial (by omega) (by unfold ab_fu; omega)
  · rw [L_K_rankOf_4, c_0 h, if_pos (nI_le (Nat.le_refl _) (by omega))]
  · rw [L_K_rankOf_4, c_0 h, if_neg (nI_ge hk (by omega)), c_comesBefore h hV hk hw]
    simp only [Option.bind_some, p_b0, nI_add]
    cases ah v k w <;> simp
theorem rk_le (v : Nat → Nat) (w : Nat) : rk v w ≤ v 0 := by
  unfold rk
  have key : ∀ n, fo (fun o a => if ah v o w = true then a + 1 else a) 0 0 n ≤ n := by
    intro n
    induction n with
    | zero => exact Nat.le_refl _
    | succ n ih =>
      rw [fo_snoc, Nat.zero_add]
      split <;> omega
  exact key (v 0)
theorem c_workerAtRank (h : RC (X 3) v) (hV : VV v) {r : Nat} (hr : r < 2 ^ 31) : F_K_workerAtRank X (nI r) = some (cI (atr v r)) := by
  have hB := hV.1
  have key := p_lo (fun n k => L_K_workerAtRank_2 X n (nI r) k) (fun w => decide (rk v w = r)) (fun k => some (nI k)) (some (-1)) (v 0) (fun n => ?_) (fun n k hk => ?_) (v 0) 0 ab_fu (by omega) (by unfold ab_fu; omega)
  · refine key.trans ?_
    unfold atr
    cases lo (fun w => decide (rk v w = r)) 0 (v 0) <;> rfl
  · rw [L_K_workerAtRank_2, c_0 h, if_pos (nI_le (Nat.le_refl _) (by omega))]
  · have := rk_le v k
    rw [L_K_workerAtRank_2, c_0 h, if_neg (nI_ge hk (by omega)), c_rankOf h hV hk]
    simp only [Option.bind_some, nI_add, nI_eq (by omega : rk v k < 2 ^ 31) hr]
    by_cases q : rk v k = r <;> simp [q]
theorem m_isAhead (h : RM (X 14) v) (hV : VV v) {o w : Nat} (ho : o < v 0) (hw : w < v 0) : F_M_isAhead X (nI o) (nI w) = some (nI (ah v o w).toNat) := by
  have hB := hV.1
  have h1 := hV.2.1 o ho
  have h2 := hV.2.1 w hw
  unfold F_M_isAhead ah
  rw [m_of h ho hB.1 (by decide), m_of h hw hB.1 (by decide)]
  simp only [Option.bind_some, nI_ltI (by omega : wk v w 0 < 2 ^ 31) (by omega : wk v o 0 < 2 ^ 31), nI_eq (by omega : wk v o 0 < 2 ^ 31) (by omega : wk v w 0 < 2 ^ 31), nI_leI (by omega : w < 2 ^ 31) (by omega : o < 2 ^ 31)]
  by_cases q1 : wk v w 0 < wk v o 0
  · simp [q1]
  · by_cases q2 : wk v o 0 = wk v w 0
    · by_cases q3 : w ≤ o
      · have q4 : ¬ o < w := by omega
        simp [q2, q3, q4]
      · have q4 : o < w := by omega
        simp [q2, q3, q4]
    · simp [q1, q2]
theorem ah_self (v : Nat → Nat) (w : Nat) : ah v w w = false := by
  unfold ah
  simp
theorem m_atRank (h : RM (X 14) v) (hV : VV v) {r : Nat} (hr : r < 2 ^ 31) : F_M_atRank X (nI r) = some (cI (atr v r)) := by
  have hB := hV.1
  have key := p_lo (fun n k => L_M_atRank_2 X n (nI r) k) (fun w => decide (rk v w = r)) (fun k => some (nI k)) (some (-1)) (v 0) (fun n => ?_) (fun n k hk => ?_) (v 0) 0 ab_fu (by omega) (by unfold ab_fu; omega)
  · refine key.trans ?_
    unfold atr
    cases lo (fun w => decide (rk v w = r)) 0 (v 0) <;> rfl
  · rw [L_M_atRank_2, m_workers h, Option.bind_some, if_pos (nI_le (Nat.le_refl _) (by omega))]
  · have hrk := rk_le v k
    rw [L_M_atRank_2, m_workers h, Option.bind_some, if_neg (nI_ge hk (by omega))]
    generalize hK : (fun b1 b2 => L_M_atRank_2 X n b1 b2) = K2
    have inner := p_lp (fun n a j => L_M_atRank_15 X K2 n (nI r) (nI k) (nI a) j) (fun o a => if ah v o k = true then a + 1 else a) (fun a => if nI a = nI r then some (nI k) else K2 (nI r) (nI k + nI 1)) (v 0) (fun _ => True) (fun _ _ _ _ => trivial) (fun n a _ => ?_) (fun n a j hj _ => ?_) (v 0) 0 0 ab_fu trivial (by omega) (by unfold ab_fu; omega)
    · refine inner.trans ?_
      rw [← hK]
      show (if nI (rk v k) = nI r then some (nI k) else L_M_atRank_2 X n (nI r) (nI k + nI 1)) = _
      simp only [nI_add, nI_eq (by omega : rk v k < 2 ^ 31) hr]
      by_cases q : rk v k = r <;> simp [q]
    · rw [L_M_atRank_15, m_workers h, Option.bind_some, if_pos (nI_le (Nat.le_refl _) (by omega))]
    · rw [L_M_atRank_15, m_workers h, Option.bind_some, if_neg (nI_ge hj (by omega))]
      simp only [nI_eq (by omega : j < 2 ^ 31) (by omega : k < 2 ^ 31), nI_add]
      by_cases hjk : j = k
      · subst hjk
        rw [if_pos rfl, ah_self, if_neg (by decide), Nat.add_zero]
      · rw [if_neg hjk, m_isAhead h hV hj hk]
        simp only [Option.bind_some, p_b0, Nat.add_zero]
        cases ah v j k <;> simp
theorem q_order (h : RC (X 3) v) (g : RM (X 14) v) (hV : VV v) (a : Int32) : QR (F_C_order X a) [(2, 1)] (F_M_order X a) X := by
  have hB := hV.1
  unfold F_C_order F_M_order
  rw [m_workers g, Option.bind_some]
  rcases inN_cs a (v 0) (by omega) with ⟨w, hw, rfl, e⟩ | ⟨hc, e⟩
  · have e1 : F_K_isWorker X (nI w) = some (nI 1) := by
      unfold F_K_isWorker
      rw [c_0 h, if_neg (nI_nlt (Nat.zero_le _) (by omega : w < 2 ^ 31)), if_neg (nI_ge hw (by omega))]
    refine qr_k (cI (atr v w)) ?_ ?_
    · rw [e1, Option.bind_some, if_neg n10, c_workerAtRank h hV (by omega)]; rfl
    · rw [e, Option.bind_some, if_neg n10, th_0, m_atRank (m13 g _ _) hV (by omega)]; rfl
  · have e1 : F_K_isWorker X a = some (nI 0) := by
      unfold F_K_isWorker
      rw [c_0 h]
      rcases hc with hc | ⟨hc1, hc2⟩
      · rw [if_pos hc]
      · rw [if_neg hc1, if_pos hc2]
    refine qr_x 2 1 (.head _) ?_ ?_
    · rw [e1]; rfl
    · rw [e, Option.bind_some, if_pos rfl, th_k X _ _ (by decide) (by decide)]
theorem q_reason (h0 : X 10 0 = X 13 12) (h1 : X 10 1 = X 13 13) (h2 : X 10 2 = X 13 14) (a : Int32) : QR (F_C_reason X a) [(0, 1)] (F_M_reason X a) X := by
  unfold F_C_reason F_M_reason
  rcases rp_cs a 2 (by decide) with ⟨p, hp, rfl, g1, g2⟩ | ⟨g1, g2⟩
  · rw [g2, b2_l, g1, Option.bind_some, if_neg n10, th_0]
    have hd : ∀ j, j ≠ 0 → ab_up X 13 0 (nI 0) 13 j = X 13 j := fun j hj => p_up_df _ _ _ _ _ hj
    rw [hd 12 (by decide), hd 13 (by decide), hd 14 (by decide), h0, h1, h2]
    match p, hp with
    | 0, _ => exact qr_k (X 13 12) rfl rfl
    | 1, _ => exact qr_k (X 13 13) rfl rfl
    | 2, _ => exact qr_k (X 13 14) rfl rfl
  · refine qr_x 0 1 (.head _) ?_ ?_
    · rw [g2, b2_r]
    · rw [g1, Option.bind_some, if_pos rfl, th_k X _ _ (by decide) (by decide)]
end Q2
