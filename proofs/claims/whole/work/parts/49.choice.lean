/-! ===== PURE: choices, sets that can be held, partners ===== -/
theorem p_ls {A R : Type} (L : Nat → ab_XX → A → Int32 → Option (R × ab_XX)) (st : Nat → A → A) (fin : A → R) (N : Nat) (W : ab_XX → Prop) (I : A → Prop) (hI : ∀ a k, k < N → I a → I (st k a)) (hend : ∀ n Y a, W Y → I a → L (n + 1) Y a (nI N) = some (fin a, Y))
    (hst : ∀ n Y a k, k < N → W Y → I a → ∃ Z, W Z ∧ L (n + 1) Y a (nI k) = L n Z (st k a) (nI (k + 1))) : ∀ m k a Y n, I a → W Y → k + m = N → m < n → ∃ Z, W Z ∧ L n Y a (nI k) = some (fin (fo st a k m), Z) := by
  intro m
  induction m with
  | zero =>
    intro k a Y n ha hY hk hn
    cases n with
    | zero => omega
    | succ n =>
      rw [show k = N by omega]
      exact ⟨Y, hY, hend n Y a hY ha⟩
  | succ m ih =>
    intro k a Y n ha hY hk hn
    cases n with
    | zero => omega
    | succ n =>
      obtain ⟨Z, hZ, e⟩ := hst n Y a k (by omega) hY ha
      rw [e]
      exact ih (k + 1) _ Z n (hI a k (by omega) ha) hZ (by omega) (by omega)
/-- a search by a loop with a hidden state -/
theorem p_los {R : Type} (L : Nat → ab_XX → Int32 → Option (R × ab_XX)) (p : Nat → Bool) (hit : Nat → R) (miss : R) (N : Nat) (W : ab_XX → Prop) (hend : ∀ n Y, W Y → ∃ Z, W Z ∧ L (n + 1) Y (nI N) = some (miss, Z)) (hst : ∀ n Y k, k < N → W Y → ∃ Z, W Z ∧ L (n + 1) Y (nI k) = bif p k then some (hit k, Z) else L n Z (nI (k + 1))) :
    ∀ m k Y n, W Y → k + m = N → m < n → ∃ Z, W Z ∧ L n Y (nI k) = some ((match lo p k m with
      | none => miss
      | some i => hit i), Z) := by
  intro m
  induction m with
  | zero =>
    intro k Y n hY hk hn
    cases n with
    | zero => omega
    | succ n => rw [show k = N by omega]; exact hend n Y hY
  | succ m ih =>
    intro k Y n hY hk hn
    cases n with
    | zero => omega
    | succ n =>
      obtain ⟨Z, hZ, e⟩ := hst n Y k (by omega) hY
      rw [e]
      unfold lo
      cases hp : p k with
      | true => exact ⟨Z, hZ, rfl⟩
      | false => exact ih (k + 1) Z n hZ (by omega) (by omega)
def s11 (X Y : ab_XX) : Prop := ∃ d, Y = ab_up X 13 11 d
theorem s11_rf (X : ab_XX) : s11 X X := ⟨X 13 11, by
  funext o i
  unfold ab_up
  split
  · rename_i h
    subst h
    unfold upd
    split
    · rename_i h2; rw [h2]
    · rfl
  · rfl⟩
theorem s11_up {X Y : ab_XX} (h : s11 X Y) (d : Int32) : s11 X (ab_up Y 13 11 d) := by
  obtain ⟨e, rfl⟩ := h
  exact ⟨d, p_up_up _ _ _ _ _⟩
theorem s11_RM {X Y : ab_XX} {v : Nat → Nat} (h : s11 X Y) (g : RM (X 14) v) : RM (Y 14) v := by
  obtain ⟨e, rfl⟩ := h
  exact m13 g _ _
theorem s11_sm {X Y : ab_XX} {y : Int32} (h : s11 (ab_up X 13 0 y) Y) : sm X Y ∧ Y 13 0 = y := by
  obtain ⟨e, rfl⟩ := h
  exact ⟨sm_11 X _ _, by rw [p_up_df _ _ _ _ _ (by decide), p_up_sm]⟩
def prf (v : Nat → Nat) (w s b : Nat) : Bool := decide (bd v w b < bd v w s) || (decide (bd v w s = bd v w b) && decide (sh v s 6 < sh v b 6))
def cst2 (v : Nat → Nat) (w set s : Nat) (o : Option Nat) : Option Nat := if bd v w s = 0 then o else match o with
  | none => if (ob v w s set false).1 = 0 then some s else none
  | some b => if prf v w s b = true ∧ (ob v w s set false).1 = 0 then some s else some b
def chs (v : Nat → Nat) (w : Nat) : Option Nat := fo (cst2 v w (hb v 0 1 w (v 2))) none 0 (v 1)
theorem cst2_lt {v : Nat → Nat} {w set s N : Nat} {o : Option Nat} (hs : s < N) (ho : ∀ b, o = some b → b < N) : ∀ b, cst2 v w set s o = some b → b < N := by
  intro b
  unfold cst2
  split
  · exact ho b
  · cases o with
    | none =>
      dsimp only
      split
      · intro z; cases z; exact hs
      · intro z; cases z
    | some c =>
      dsimp only
      split
      · intro z; cases z; exact hs
      · exact ho b
section CH
variable {X : ab_XX} {v : Nat → Nat}
theorem c_ob0 (hV : VV v) {w s : Nat} (hw : w < v 0) (hs : s < v 1) (set : Nat) (ex : Bool) : (nI (cd (ob v w s set ex)) = nI 0) = ((ob v w s set ex).1 = 0) := by
  have h1 := ob_lt hV hw hs set ex
  rw [cd_0 h1.1 (by omega)]
  apply propext
  constructor
  · intro z; unfold cd at z; omega
  · intro z
    rw [ob_0 hV hw hs set ex z]
    rfl
theorem m_ob0 (hV : VV v) {w s : Nat} (hw : w < v 0) (hs : s < v 1) (set : Nat) (ex : Bool) : (nI (ob v w s set ex).1 = nI 0) = ((ob v w s set ex).1 = 0) := by
  have h1 := ob_lt hV hw hs set ex
  exact propext (nI_eq (by omega) (by decide))
theorem c_isPreferred (h : RC (X 3) v) (hV : VV v) {w s b : Nat} (hw : w < v 0) (hs : s < v 1) (hb : b < v 1) : F_U_isPreferred X (nI w) (nI s) (nI b) = some (nI (prf v w s b).toNat) := by
  have hB := hV.1
  have h1 := (hV.2.2.2.1 w s (by omega) (by omega)).1
  have h2 := (hV.2.2.2.1 w b (by omega) (by omega)).1
  have h3 := hV.2.2.1 s hs
  have h4 := hV.2.2.1 b hb
  unfold F_U_isPreferred prf
  rw [c_pointsFor h (by omega) (by omega), c_pointsFor h (by omega) (by omega), c_shiftPart h (by omega) (by decide), c_shiftPart h (by omega) (by decide)]
  simp only [Option.bind_some, nI_ltI (by omega : bd v w b < 2 ^ 31) (by omega : bd v w s < 2 ^ 31), nI_eq (by omega : bd v w s < 2 ^ 31) (by omega : bd v w b < 2 ^ 31), nI_leI (by omega : sh v b 6 < 2 ^ 31) (by omega : sh v s 6 < 2 ^ 31)]
  by_cases q1 : bd v w b < bd v w s
  · simp [q1]
  · by_cases q2 : bd v w s = bd v w b
    · by_cases q3 : sh v b 6 ≤ sh v s 6
      · have q4 : ¬ sh v s 6 < sh v b 6 := by omega
        simp [q2, q3, q4]
      · have q4 : sh v s 6 < sh v b 6 := by omega
        simp [q2, q3, q4]
    · simp [q1, q2]
theorem c_choiceOf (h : RC (X 3) v) (hV : VV v) {w : Nat} (hw : w < v 0) : F_U_choiceOf X (nI w) = some (cI (chs v w)) := by
  have hB := hV.1
  unfold F_U_choiceOf
  rw [c_heldBy h hV (by omega), Option.bind_some]
  refine p_lp (fun n o k => L_U_choiceOf_14 X n (nI w) (nI (hb v 0 1 w (v 2))) (cI o) k) (cst2 v w (hb v 0 1 w (v 2))) (fun o => some (cI o)) (v 1) (fun o => ∀ b, o = some b → b < v 1) (fun o k hk ho => cst2_lt hk ho) (fun n a _ => ?_) (fun n o k hk ho => ?_) (v 1) 0 none ab_fu (fun b z => by cases z) (by omega) (by unfold ab_fu; omega)
  · rw [L_U_choiceOf_14, c_shiftTotal h, Option.bind_some, if_pos (nI_le (Nat.le_refl _) (by omega))]
  · have h1 := (hV.2.2.2.1 w k (by omega) (by omega)).1
    have e := c_firstObstacle h hV hw hk (hb16 hV w) false
    rw [show (nI (!false).toNat) = nI 1 from rfl] at e
    rw [L_U_choiceOf_14, c_shiftTotal h, Option.bind_some, if_neg (nI_ge hk (by omega)), c_pointsFor h (by omega) (by omega), e]
    simp only [Option.bind_some, nI_add, c_ob0 hV hw hk, nI_leI (by omega : bd v w k < 2 ^ 31) (by decide : 0 < 2 ^ 31), Nat.le_zero_eq]
    unfold cst2
    by_cases q0 : bd v w k = 0
    · rw [if_pos q0, if_pos q0]
    · rw [if_neg q0, if_neg q0]
      cases o with
      | none =>
        rw [if_pos (show cI none = -1 from rfl)]
        dsimp only
        split <;> rfl
      | some b =>
        have hbv := ho b rfl
        rw [if_neg (fun z => by have := (cI_neg (some b) (fun w hw => by cases hw; omega)).mp z; cases this), show cI (some b) = nI b from rfl, c_isPreferred h hV hw hk hbv]
        simp only [Option.bind_some, p_b0]
        cases prf v w k b with
        | false => simp [cI]
        | true =>
          by_cases q : (ob v w k (hb v 0 1 w (v 2)) false).1 = 0 <;> simp [q, cI]
theorem m_choice (h : RM (X 14) v) (hV : VV v) {w : Nat} (hw : w < v 0) : ∃ Z, s11 X Z ∧ F_M_choice X (nI w) = some (cI (chs v w), Z) := by
  have hB := hV.1
  unfold F_M_choice
  rw [m_heldBy h hV (by omega), Option.bind_some]
  refine p_ls (fun n Y o k => L_M_choice_11 n Y (nI w) (cI o) (nI (hb v 0 1 w (v 2))) k) (cst2 v w (hb v 0 1 w (v 2))) (fun o => cI o) (v 1) (s11 X) (fun o => ∀ b, o = some b → b < v 1) (fun o k hk ho => cst2_lt hk ho) (fun n Y a hY _ => ?_) (fun n Y o k hk hY ho => ?_) (v 1) 0 none X ab_fu (fun b z => by cases z) (s11_rf X) (by omega) (by unfold ab_fu; omega)
  · rw [L_M_choice_11, m_shifts (s11_RM hY h), Option.bind_some, if_pos (nI_le (Nat.le_refl _) (by omega))]
  · have g := s11_RM hY h
    have h1 := (hV.2.2.2.1 w k (by omega) (by omega)).1
    have e := m_obstacleOf g hV hw hk (hb16 hV w) false
    rw [show (nI (false).toNat) = nI 0 from rfl] at e
    rw [L_M_choice_11, m_shifts g, Option.bind_some, if_neg (nI_ge hk (by omega)), m_bidOf g hw hB.1 (by omega), Option.bind_some, e, b3_s]
    simp only [nI_add, m_ob0 hV hw hk, nI_eq (by omega : bd v w k < 2 ^ 31) (by decide : 0 < 2 ^ 31)]
    unfold cst2
    by_cases q0 : bd v w k = 0
    · rw [if_pos q0, if_pos q0]
      exact ⟨Y, hY, rfl⟩
    · rw [if_neg q0, if_neg q0]
      refine ⟨_, s11_up hY (nI (ob v w k (hb v 0 1 w (v 2)) false).2), ?_⟩
      have g2 := s11_RM (s11_up hY (nI (ob v w k (hb v 0 1 w (v 2)) false).2)) h
      generalize ab_up Y 13 11 (nI (ob v w k (hb v 0 1 w (v 2)) false).2) = Z at g2
      by_cases q : (ob v w k (hb v 0 1 w (v 2)) false).1 = 0
      · rw [if_pos q]
        cases o with
        | none =>
          rw [if_pos (show cI none < nI 0 by decide)]
          dsimp only
          rw [if_pos q]
          rfl
        | some b =>
          have hbv := ho b rfl
          have h2 := (hV.2.2.2.1 w b (by omega) (by omega)).1
          have h3 := hV.2.2.1 k hk
          have h4 := hV.2.2.1 b hbv
          rw [if_neg (show ¬ cI (some b) < nI 0 from nI_nlt (Nat.zero_le _) (by omega)), show cI (some b) = nI b from rfl, m_bidOf g2 hw hB.1 (by omega), m_bidOf g2 hw hB.1 (by omega), m_begin g2 hV hk, m_begin g2 hV hbv]
          simp only [Option.bind_some, nI_ltI (by omega : bd v w b < 2 ^ 31) (by omega : bd v w k < 2 ^ 31), nI_eq (by omega : bd v w k < 2 ^ 31) (by omega : bd v w b < 2 ^ 31), nI_leI (by omega : sh v b 6 < 2 ^ 31) (by omega : sh v k 6 < 2 ^ 31)]
          unfold prf
          by_cases q1 : bd v w b < bd v w k
          · simp [q1, q, cI]
          · by_cases q2 : bd v w k = bd v w b
            · by_cases q3 : sh v b 6 ≤ sh v k 6
              · have q4 : ¬ sh v k 6 < sh v b 6 := by omega
                simp [q2, q3, q4, cI]
              · have q4 : sh v k 6 < sh v b 6 := by omega
                simp [q2, q3, q4, q, cI]
            · simp [q1, q2, cI]
      · rw [if_neg q]
        cases o with
        | none => dsimp only; rw [if_neg q]
        | some b => dsimp only; rw [if_neg (fun z => q z.2)]
theorem chs_lt (v : Nat → Nat) (w : Nat) : ∀ b, chs v w = some b → b < v 1 := by
  have key : ∀ n, n ≤ v 1 → ∀ b, fo (cst2 v w (hb v 0 1 w (v 2))) none 0 n = some b → b < v 1 := by
    intro n
    induction n with
    | zero => intro _ b z; cases z
    | succ n ih =>
      intro hn
      rw [fo_snoc, Nat.zero_add]
      exact cst2_lt (by omega) (ih (by omega))
  exact key (v 1) (Nat.le_refl _)
theorem q_nextChoice (h : RC (X 3) v) (g : RM (X 14) v) (hV : VV v) (a : Int32) : QR (F_C_nextChoice X a) [(2, 1), (4, 2)] (F_M_nextChoice X a) X := by
  have hB := hV.1
  unfold F_C_nextChoice F_M_nextChoice
  rcases wk_cs h hV a with ⟨w, hw, rfl, _, e1, e2⟩ | ⟨_, e1, e2⟩
  · obtain ⟨Z, hZ, eZ⟩ := m_choice (m13 g 0 (nI 0)) hV hw
    have hl := chs_lt v w
    rw [e1, b2_l, c_choiceOf h hV hw, e2 X g, Option.bind_some, Option.bind_some, if_neg n10, th_0, eZ, b3_s]
    cases hc : chs v w with
    | none =>
      refine qr_ex 4 2 (nI 0) (ab_up Z 13 0 (nI 2)) (.tail _ (.head _)) ?_ ?_ (sm_tr (s11_sm hZ).1 (sm_0 Z _)) (p_up_sm Z 13 0 _)
      · rw [if_pos (show cI none = -1 from rfl)]
      · rw [if_neg (show ¬ nI 0 ≤ cI none by decide), th_k Z _ _ (by decide) (by decide)]
    | some b =>
      have := hl b hc
      refine qr_ok (nI b) (ab_up Z 13 0 (nI 0)) ?_ ?_ (sm_tr (s11_sm hZ).1 (sm_0 Z _)) (p_up_sm Z 13 0 _)
      · rw [if_neg (fun z => by have := (cI_neg (some b) (fun w hw => by cases hw; omega)).mp z; cases this)]; rfl
      · rw [if_pos (show nI 0 ≤ cI (some b) from nI_le (Nat.zero_le _) (by omega)), th_0]; rfl
  · refine qr_x 2 1 (.head _) ?_ ?_
    · rw [e1, b2_r]
    · rw [e2 X g, Option.bind_some, if_pos rfl, th_k X _ _ (by decide) (by decide)]
/-- a worker cannot hold the set because of this shift -/
def bad (v : Nat → Nat) (w set s : Nat) : Bool := set.testBit s && (!skl v w s || decide ((ot v w s (p_clr set s)).1 ≠ 0))
def chd (v : Nat → Nat) (w set : Nat) : Bool := (lo (bad v w set) 0 (v 1)).isNone
theorem ot_lt (hV : VV v) {w s : Nat} (hw : w < v 0) (hs : s < v 1) (set : Nat) : (ot v w s set).2 < 100 ∧ (ot v w s set).1 < 8 ∧ ((ot v w s set).1 = 0 → ot v w s set = (0, 0)) := by
  have hB := hV.1
  have hsh := hV.2.2.1 s hs
  have hq := sq_le (dy v (set ||| 2 ^ s)) (by omega : sh v s 0 < 28)
  unfold ot
  cases h1 : lwi v 0 s set with
  | some o =>
    have := lwi_lt h1
    exact ⟨by dsimp only; omega, by dsimp only; omega, fun z => by cases z⟩
  | none =>
    dsimp only
    cases h2 : lwi v (wk v w 1) s set with
    | some o =>
      have := lwi_lt h2
      exact ⟨by dsimp only; omega, by dsimp only; omega, fun z => by cases z⟩
    | none =>
      dsimp only
      split
      · split
        · exact ⟨by decide, by decide, fun _ => rfl⟩
        · exact ⟨by dsimp only; omega, by dsimp only; omega, fun z => by cases z⟩
      · exact ⟨by dsimp only; omega, by dsimp only; omega, fun z => by cases z⟩
theorem c_canHold (h : RC (X 3) v) (hV : VV v) {w set : Nat} (hw : w < v 0) (hs : set < 2 ^ 16) : F_U_canHold X (nI w) (nI set) = some (nI (chd v w set).toNat) := by
  have hB := hV.1
  have key := p_lo (fun n k => L_U_canHold_2 X n (nI w) (nI set) k) (bad v w set) (fun k => some (nI 0)) (some (nI 1)) (v 1) (fun n => ?_) (fun n k hk => ?_) (v 1) 0 ab_fu (by omega) (by unfold ab_fu; omega)
  · refine key.trans ?_
    unfold chd
    cases lo (bad v w set) 0 (v 1) <;> rfl
  · rw [L_U_canHold_2, c_shiftTotal h, Option.bind_some, if_pos (nI_le (Nat.le_refl _) (by omega))]
  · have hol := ot_lt hV hw hk (p_clr set k)
    rw [L_U_canHold_2, c_shiftTotal h, Option.bind_some, if_neg (nI_ge hk (by omega)), c_isIn (Nat.lt_trans hs (by decide)) (by omega), c_hasSkillFor h hV hw hk]
    simp only [Option.bind_some, F_K_bit, p_bit k (by omega), p_clr_eq set k (by omega), c_obstacleOfTime h hV hw hk (p_clr_lt hs), p_b0, nI_add, cd_0 hol.1 (by omega)]
    unfold bad
    cases set.testBit k with
    | false => simp
    | true =>
      cases skl v w k with
      | false => simp
      | true =>
        by_cases q : (ot v w k (p_clr set k)).1 = 0
        · rw [hol.2.2 q]
          simp [cd]
        · have q2 : ¬ cd (ot v w k (p_clr set k)) = 0 := by unfold cd; omega
          simp [q, q2]
theorem m_suits (h : RM (X 14) v) (hV : VV v) {w set : Nat} (hw : w < v 0) (hs : set < 2 ^ 16) : ∃ Z, s11 X Z ∧ F_M_suits X (nI w) (nI set) = some (nI (chd v w set).toNat, Z) := by
  have hB := hV.1
  have key := p_los (fun n Y k => L_M_suits_2 n Y (nI w) (nI set) k) (bad v w set) (fun _ => nI 0) (nI 1) (v 1) (s11 X) (fun n Y hY => ?_) (fun n Y k hk hY => ?_) (v 1) 0 X ab_fu (s11_rf X) (by omega) (by unfold ab_fu; omega)
  · obtain ⟨Z, hZ, e⟩ := key
    refine ⟨Z, hZ, e.trans ?_⟩
    unfold chd
    cases lo (bad v w set) 0 (v 1) <;> rfl
  · refine ⟨Y, hY, ?_⟩
    rw [L_M_suits_2, m_shifts (s11_RM hY h), Option.bind_some, if_pos (nI_le (Nat.le_refl _) (by omega))]
  · have g := s11_RM hY h
    have hol := ot_lt hV hw hk (p_clr set k)
    rw [L_M_suits_2, m_shifts g, Option.bind_some, if_neg (nI_ge hk (by omega)), p_tst set k (Nat.lt_trans hs (by decide)) (by omega), m_hasSkill g hV hw hk, Option.bind_some, p_bit k (by omega), p_clr_eq set k (by omega), m_clash g hV hw hk (p_clr_lt hs) (by rw [p_clr_t]; simp), b3_s]
    simp only [p_b0, p_b1, nI_add, nI_eq (by omega : (ot v w k (p_clr set k)).1 < 2 ^ 31) (by decide : 0 < 2 ^ 31)]
    unfold bad
    cases set.testBit k with
    | false => exact ⟨Y, hY, by simp⟩
    | true =>
      cases skl v w k with
      | false => exact ⟨Y, hY, by simp⟩
      | true =>
        refine ⟨_, s11_up hY (nI (ot v w k (p_clr set k)).2), ?_⟩
        by_cases q : (ot v w k (p_clr set k)).1 = 0 <;> simp [q]
end CH
