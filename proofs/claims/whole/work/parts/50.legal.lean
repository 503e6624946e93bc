/-! ===== PURE: legality, partners, days in a row ===== -/
def lg1 (v : Nat → Nat) (w : Nat) : Bool := !chd v w (hb v 0 1 w (v 2))
def lg2 (v : Nat → Nat) (s : Nat) : Bool := decide (cov v s < sh v s 5) || decide (sh v s 4 < cov v s)
def lgl (v : Nat → Nat) : Bool := (lo (lg1 v) 0 (v 0)).isNone && (lo (lg2 v) 0 (v 1)).isNone
def hld (v : Nat → Nat) (w s : Nat) : Bool := (ai v w s 0 (v 2)).isSome
theorem hld_t (v : Nat → Nat) (w s : Nat) : hld v w s = true ↔ ∃ i, i < v 2 ∧ aw v i 0 = w ∧ aw v i 1 = s := by
  unfold hld
  cases h : ai v w s 0 (v 2) with
  | none => exact ⟨fun z => (by cases z), fun ⟨i, h1, h2⟩ => absurd h2 (ai_none h i (Nat.zero_le _) (by omega))⟩
  | some i =>
    have := ai_some h
    exact ⟨fun _ => ⟨i, by omega, this.2.2⟩, fun _ => rfl⟩
theorem hb_w (v : Nat → Nat) (w s : Nat) : (hb v 0 1 w (v 2)).testBit s = hld v w s := Bool.eq_iff_iff.mpr ((hb_t v 0 1 w s (v 2)).trans (hld_t v w s).symm)
theorem hb_s (v : Nat → Nat) (w s : Nat) : (hb v 1 0 s (v 2)).testBit w = hld v w s := Bool.eq_iff_iff.mpr ((hb_t v 1 0 s w (v 2)).trans ⟨fun ⟨i, a, b, c⟩ => (hld_t v w s).mpr ⟨i, a, c, b⟩, fun z => by
  obtain ⟨i, a, b, c⟩ := (hld_t v w s).mp z
  exact ⟨i, a, c, b⟩⟩)
def xob (v : Nat → Nat) (w given got : Nat) : Nat × Nat := ob v w got (p_clr (hb v 0 1 w (v 2)) given) true
def pcd (v : Nat → Nat) (w s o gv : Nat) : Bool := decide (o ≠ w) && hld v o s && hld v w gv && decide ((xob v w gv s).1 = 0) && decide ((xob v o s gv).1 = 0)
def fpt (v : Nat → Nat) (w s : Nat) : Nat → Nat → Option (Nat × Nat)
  | _, 0 => none
  | k, m + 1 => match lo (pcd v w s k) 0 (v 1) with
    | some gv => some (k, gv)
    | none => fpt v w s (k + 1) m
theorem lo_false (p : Nat → Bool) : ∀ (m k : Nat), (∀ i, k ≤ i → i < k + m → p i = false) → lo p k m = none := by
  intro m
  induction m with
  | zero => intro k _; rfl
  | succ m ih =>
    intro k h
    unfold lo
    rw [h k (Nat.le_refl _) (by omega)]
    exact ih (k + 1) (fun i h1 h2 => h i (by omega) (by omega))
section LG
variable {X : ab_XX} {v : Nat → Nat}
theorem c_isLegal (h : RC (X 3) v) (hV : VV v) : F_C_isLegal X = some (nI (lgl v).toNat) := by
  have hB := hV.1
  have k2 := p_lo (fun n k => L_C_isLegal_42 X n k) (lg2 v) (fun k => some (nI 0)) (some (nI 1)) (v 1) (fun n => ?_) (fun n k hk => ?_) (v 1) 0 ab_fu (by omega) (by unfold ab_fu; omega)
  · have k1 := p_lo (fun n k => L_C_isLegal_2 X n k) (lg1 v) (fun k => some (nI 0)) (some (nI ((lo (lg2 v) 0 (v 1)).isNone).toNat)) (v 0) (fun n => ?_) (fun n k hk => ?_) (v 0) 0 ab_fu (by omega) (by unfold ab_fu; omega)
    · refine k1.trans ?_
      unfold lgl
      cases lo (lg1 v) 0 (v 0) <;> rfl
    · rw [L_C_isLegal_2, c_workerTotal h, Option.bind_some, if_pos (nI_le (Nat.le_refl _) (by omega))]
      refine k2.trans ?_
      cases lo (lg2 v) 0 (v 1) <;> rfl
    · rw [L_C_isLegal_2, c_workerTotal h, Option.bind_some, if_neg (nI_ge hk (by omega)), c_heldBy h hV (by omega), Option.bind_some, c_canHold h hV hk (hb16 hV k)]
      simp only [Option.bind_some, p_b0, nI_add]
      unfold lg1
      cases chd v k (hb v 0 1 k (v 2)) <;> rfl
  · rw [L_C_isLegal_42, c_shiftTotal h, Option.bind_some, if_pos (nI_le (Nat.le_refl _) (by omega))]
  · have hsh := hV.2.2.1 k hk
    have hcv := hV.2.2.2.2.2.1 k hk
    rw [L_C_isLegal_42, c_shiftTotal h, Option.bind_some, if_neg (nI_ge hk (by omega)), c_coverage h hV (by omega), c_shiftPart h (by omega) (by decide), c_shiftPart h (by omega) (by decide)]
    simp only [Option.bind_some, nI_add, F_K_isWithin, nI_ltI (by omega : cov v k < 2 ^ 31) (by omega : sh v k 5 < 2 ^ 31), nI_ltI (by omega : sh v k 4 < 2 ^ 31) (by omega : cov v k < 2 ^ 31)]
    unfold lg2
    by_cases q1 : cov v k < sh v k 5
    · simp [q1]
    · by_cases q2 : sh v k 4 < cov v k
      · simp [q2]
      · simp [q1, q2, n10]
theorem m_isLegal (h : RM (X 14) v) (hV : VV v) : ∃ Z, s11 (ab_up X 13 0 (nI 0)) Z ∧ F_M_isLegal X = some (nI (lgl v).toNat, Z) := by
  have hB := hV.1
  unfold F_M_isLegal
  rw [Option.bind_some]
  have h := m13 h 0 (nI 0)
  generalize ab_up X 13 0 (nI 0) = X at h
  have k2 : ∀ Y, s11 X Y → L_M_isLegal_38 ab_fu Y (nI 0) = some (nI ((lo (lg2 v) 0 (v 1)).isNone).toNat, Y) := by
    intro Y hY
    have g := s11_RM hY h
    have k2 := p_lo (fun n k => L_M_isLegal_38 n Y k) (lg2 v) (fun k => some (nI 0, Y)) (some (nI 1, Y)) (v 1) (fun n => ?_) (fun n k hk => ?_) (v 1) 0 ab_fu (by omega) (by unfold ab_fu; omega)
    · refine k2.trans ?_
      cases lo (lg2 v) 0 (v 1) <;> rfl
    · rw [L_M_isLegal_38, m_shifts g, Option.bind_some, if_pos (nI_le (Nat.le_refl _) (by omega))]
    · have hsh := hV.2.2.1 k hk
      have hcv := hV.2.2.2.2.2.1 k hk
      rw [L_M_isLegal_38, m_shifts g, Option.bind_some, if_neg (nI_ge hk (by omega)), m_coverage g hV (by omega), m_ofShift g hk hB.2.1 (by decide), m_ofShift g hk hB.2.1 (by decide)]
      simp only [Option.bind_some, nI_add, nI_leI (by omega : sh v k 5 < 2 ^ 31) (by omega : cov v k < 2 ^ 31), nI_ltI (by omega : sh v k 4 < 2 ^ 31) (by omega : cov v k < 2 ^ 31)]
      unfold lg2
      by_cases q2 : sh v k 4 < cov v k
      · simp [q2]
      · by_cases q1 : sh v k 5 ≤ cov v k
        · have q3 : ¬ cov v k < sh v k 5 := by omega
          simp [q1, q2, q3]
        · have q3 : cov v k < sh v k 5 := by omega
          simp [q1, q2, q3]
  have key := p_los (fun n Y k => L_M_isLegal_7 n Y k) (lg1 v) (fun _ => nI 0) (nI ((lo (lg2 v) 0 (v 1)).isNone).toNat) (v 0) (s11 X) (fun n Y hY => ?_) (fun n Y k hk hY => ?_) (v 0) 0 X ab_fu (s11_rf X) (by omega) (by unfold ab_fu; omega)
  · obtain ⟨Z, hZ, e⟩ := key
    refine ⟨Z, hZ, e.trans ?_⟩
    unfold lgl
    cases lo (lg1 v) 0 (v 0) <;> rfl
  · refine ⟨Y, hY, ?_⟩
    rw [L_M_isLegal_7, m_workers (s11_RM hY h), Option.bind_some, if_pos (nI_le (Nat.le_refl _) (by omega)), k2 Y hY]
  · have g := s11_RM hY h
    obtain ⟨Z, hZ, e⟩ := m_suits g hV hk (hb16 hV k)
    refine ⟨Z, ?_, ?_⟩
    · obtain ⟨d, rfl⟩ := hY
      obtain ⟨d2, rfl⟩ := hZ
      exact ⟨d2, p_up_up _ _ _ _ _⟩
    · rw [L_M_isLegal_7, m_workers g, Option.bind_some, if_neg (nI_ge hk (by omega)), m_heldBy g hV (by omega), Option.bind_some, e, b3_s]
      simp only [p_b0, nI_add]
      unfold lg1
      cases chd v k (hb v 0 1 k (v 2)) <;> rfl
theorem c_obstacleToExchange (h : RC (X 3) v) (hV : VV v) {w a b : Nat} (hw : w < v 0) (ha : a < v 1) (hb0 : b < v 1) : F_U_obstacleToExchange X (nI w) (nI a) (nI b) = some (nI (cd (xob v w a b))) := by
  have hB := hV.1
  unfold F_U_obstacleToExchange
  rw [c_heldBy h hV (by omega), Option.bind_some, F_K_bit, Option.bind_some, p_bit a (by omega), p_clr_eq _ a (by omega)]
  have e := c_firstObstacle h hV hw hb0 (p_clr_lt (g := a) (hb16 hV w)) true
  rw [show (nI (!true).toNat) = nI 0 from rfl] at e
  rw [e]
  rfl
theorem m_mayGet (h : RM (X 14) v) (hV : VV v) {w a b : Nat} (hw : w < v 0) (ha : a < v 1) (hb0 : b < v 1) : F_M_mayGet X (nI w) (nI a) (nI b) (nI 0) = some (nI (decide ((xob v w a b).1 = 0)).toNat, ab_up X 13 11 (nI (xob v w a b).2)) := by
  have hB := hV.1
  unfold F_M_mayGet
  have e := m_obstacleOf h hV hw hb0 (p_clr_lt (g := a) (hb16 hV w)) true
  rw [show (nI (true).toNat) = nI 1 from rfl] at e
  rw [m_heldBy h hV (by omega), Option.bind_some, p_bit a (by omega), p_clr_eq _ a (by omega), e, b3_s]
  simp only [m_ob0 hV hw hb0]
  unfold xob
  by_cases q : (ob v w b (p_clr (hb v 0 1 w (v 2)) a) true).1 = 0 <;> simp [q]
theorem hld_ai (v : Nat → Nat) (w s : Nat) (hV : VV v) : (nI 0 ≤ aiI (ai v w s 0 (v 2))) = (hld v w s = true) ∧ (aiI (ai v w s 0 (v 2)) < nI 0) = (hld v w s = false) ∧ (aiI (ai v w s 0 (v 2)) = -1) = (hld v w s = false) := by
  have hB := hV.1
  unfold hld
  cases h : ai v w s 0 (v 2) with
  | none => refine ⟨?_, ?_, ?_⟩ <;> decide
  | some i =>
    have := ai_some h
    refine ⟨propext ⟨fun _ => rfl, fun _ => nI_le (Nat.zero_le _) (by omega)⟩, propext ⟨fun z => absurd z (nI_nlt (Nat.zero_le _) (by omega)), fun z => by cases z⟩, propext ⟨fun z => ?_, fun z => by cases z⟩⟩
    have h1 := nI_pos' (by omega : i < 2 ^ 31)
    rw [show nI i = -1 from z] at h1
    exact absurd h1 (by decide)
theorem fpt_lt {w s : Nat} : ∀ {m k : Nat} {o gv : Nat}, fpt v w s k m = some (o, gv) → o < k + m ∧ gv < v 1 := by
  intro m
  induction m with
  | zero => intro k o gv h; cases h
  | succ m ih =>
    intro k o gv h
    unfold fpt at h
    cases hl : lo (pcd v w s k) 0 (v 1) with
    | some g2 =>
      rw [hl] at h
      cases h
      have := lo_some hl
      exact ⟨by omega, by omega⟩
    | none =>
      rw [hl] at h
      have := ih h
      exact ⟨by omega, this.2⟩
def fI (o : Option (Nat × Nat)) : Int32 := match o with
  | none => -1
  | some p => nI (p.1 * 16 + p.2)
theorem c_findPartner (h : RC (X 3) v) (hV : VV v) {w s : Nat} (hw : w < v 0) (hs : s < v 1) : F_U_findPartner X (nI w) (nI s) = some (fI (fpt v w s 0 (v 0))) := by
  have hB := hV.1
  have hs31 : hb v 1 0 s (v 2) < 2 ^ 31 := Nat.lt_trans (hb_lt hV (fun i hi => by have := hV.2.2.2.2.1 i hi; omega : ∀ i, i < v 2 → aw v i 0 < 10) _ (Nat.le_refl _)) (by decide)
  unfold F_U_findPartner
  rw [c_heldBy h hV (by omega), Option.bind_some, c_holdersOf h hV (by omega), Option.bind_some]
  have inner : ∀ (K : Int32 → Int32 → Int32 → Int32 → Int32 → Option Int32) (o : Nat), o < v 0 → ∀ (m k n : Nat), k + m = v 1 → m < n → L_U_findPartner_37 X K n (nI w) (nI s) (nI (hb v 0 1 w (v 2))) (nI (hb v 1 0 s (v 2))) (nI o) (nI k) = match lo (pcd v w s o) k m with
      | none => K (nI w) (nI s) (nI (hb v 0 1 w (v 2))) (nI (hb v 1 0 s (v 2))) (nI (o + 1))
      | some gv => some (nI (o * 16 + gv)) := by
    intro K o ho
    refine p_lo (fun n k => L_U_findPartner_37 X K n (nI w) (nI s) (nI (hb v 0 1 w (v 2))) (nI (hb v 1 0 s (v 2))) (nI o) k) (pcd v w s o) (fun gv => some (nI (o * 16 + gv))) _ (v 1) (fun n => ?_) (fun n k hk => ?_)
    · rw [L_U_findPartner_37, c_shiftTotal h, Option.bind_some, if_pos (nI_le (Nat.le_refl _) (by omega)), nI_add]
    · rw [L_U_findPartner_37, c_shiftTotal h, Option.bind_some, if_neg (nI_ge hk (by omega)), c_isIn hs31 (by omega), c_isIn (hb31 hV w) (by omega), hb_w, hb_s, c_obstacleToExchange h hV hw hk hs, c_obstacleToExchange h hV ho hs hk]
      unfold xob
      simp only [Option.bind_some, p_b0, nI_eq (by omega : o < 2 ^ 31) (by omega : w < 2 ^ 31), nI_add, p_mul, c_ob0 hV hw hs, c_ob0 hV ho hk]
      unfold pcd xob
      by_cases q1 : o = w
      · simp [q1]
      · cases hld v o s with
        | false => simp [q1]
        | true =>
          cases hld v w k with
          | false => simp [q1]
          | true =>
            by_cases q2 : (ob v w s (p_clr (hb v 0 1 w (v 2)) k) true).1 = 0
            · by_cases q3 : (ob v o k (p_clr (hb v 0 1 o (v 2)) s) true).1 = 0
              · simp [q1, q2, q3]
              · simp [q1, q2, q3]
            · simp [q1, q2]
  have outer : ∀ (m k n : Nat), k + m = v 0 → m < n → L_U_findPartner_22 X n (nI w) (nI s) (nI (hb v 0 1 w (v 2))) (nI (hb v 1 0 s (v 2))) (nI k) = some (fI (fpt v w s k m)) := by
    intro m
    induction m with
    | zero =>
      intro k n hk hn
      cases n with
      | zero => omega
      | succ n => rw [L_U_findPartner_22, c_workerTotal h, Option.bind_some, if_pos (nI_le (by omega) (by omega))]; rfl
    | succ m ih =>
      intro k n hk hn
      cases n with
      | zero => omega
      | succ n =>
        rw [L_U_findPartner_22, c_workerTotal h, Option.bind_some, if_neg (nI_ge (by omega) (by omega)), inner _ k (by omega) (v 1) 0 ab_fu (by omega) (by unfold ab_fu; omega)]
        unfold fpt
        cases lo (pcd v w s k) 0 (v 1) with
        | none => exact ih (k + 1) n (by omega) (by omega)
        | some gv => rfl
  exact outer (v 0) 0 ab_fu (by omega) (by unfold ab_fu; omega)
theorem m_partner_50 (h : RM (X 14) v) (hV : VV v) {w s p : Nat} (hw : w < v 0) (hs : s < v 1) (hp : p < 2) : ∃ Z, s11 X Z ∧ L_M_partner_50 ab_fu X (nI w) (nI s) (nI p) (nI 0) = match fpt v w s 0 (v 0) with
      | none => some (nI 0, ab_up Z 13 0 (nI 3))
      | some q => some (nI (if p = 0 then q.1 else q.2), Z) := by
  have hB := hV.1
  have inner : ∀ (K : ab_XX → Int32 → Int32 → Int32 → Int32 → Option (Int32 × ab_XX)) (o : Nat), o < v 0 → o ≠ w → hld v o s = true → ∀ (m k : Nat) (Y : ab_XX) (n : Nat), s11 X Y → k + m = v 1 → m < n → ∃ Z, s11 X Z ∧ L_M_partner_81 K n Y (nI w) (nI s) (nI p) (nI o) (nI k) = match lo (pcd v w s o) k m with
      | none => K Z (nI w) (nI s) (nI p) (nI (o + 1))
      | some gv => some (nI (if p = 0 then o else gv), Z) := by
    intro K o ho how hos m
    induction m with
    | zero =>
      intro k Y n hY hk hn
      cases n with
      | zero => omega
      | succ n =>
        refine ⟨Y, hY, ?_⟩
        rw [L_M_partner_81, m_shifts (s11_RM hY h), Option.bind_some, if_pos (nI_le (by omega) (by omega)), nI_add]
        rfl
    | succ m ih =>
      intro k Y n hY hk hn
      cases n with
      | zero => omega
      | succ n =>
        have hkv : k < v 1 := by omega
        have g := s11_RM hY h
        have hY2 := s11_up hY (nI (xob v w k s).2)
        have hY3 := s11_up hY2 (nI (xob v o s k).2)
        rw [L_M_partner_81, m_shifts g, Option.bind_some, if_neg (nI_ge hkv (by omega)), m_awardOf g hV (by omega) (by omega), Option.bind_some, m_mayGet g hV hw hkv hs, b3_s, m_mayGet (s11_RM hY2 h) hV ho hs hkv, b3_s]
        simp only [(hld_ai v w k hV).2.1, p_b0, nI_add]
        unfold lo
        have e0 : pcd v w s o k = (hld v w k && decide ((xob v w k s).1 = 0) && decide ((xob v o s k).1 = 0)) := by
          unfold pcd
          rw [hos, decide_eq_true how, Bool.true_and, Bool.true_and]
        rw [e0]
        cases hld v w k with
        | false =>
          rw [if_pos rfl]
          exact ih (k + 1) Y n hY (by omega) (by omega)
        | true =>
          rw [if_neg (by decide)]
          by_cases q2 : (xob v w k s).1 = 0
          · rw [decide_eq_true q2, if_neg (by decide)]
            by_cases q3 : (xob v o s k).1 = 0
            · rw [decide_eq_true q3, if_neg (by decide)]
              refine ⟨_, hY3, ?_⟩
              match p, hp with
              | 0, _ => rfl
              | 1, _ => rfl
            · rw [decide_eq_false q3, if_pos rfl]
              exact ih (k + 1) _ n hY3 (by omega) (by omega)
          · rw [decide_eq_false q2, if_pos rfl]
            exact ih (k + 1) _ n hY2 (by omega) (by omega)
  have outer : ∀ (m k : Nat) (Y : ab_XX) (n : Nat), s11 X Y → k + m = v 0 → m < n → ∃ Z, s11 X Z ∧ L_M_partner_50 n Y (nI w) (nI s) (nI p) (nI k) = match fpt v w s k m with
      | none => some (nI 0, ab_up Z 13 0 (nI 3))
      | some q => some (nI (if p = 0 then q.1 else q.2), Z) := by
    intro m
    induction m with
    | zero =>
      intro k Y n hY hk hn
      cases n with
      | zero => omega
      | succ n =>
        refine ⟨Y, hY, ?_⟩
        rw [L_M_partner_50, m_workers (s11_RM hY h), Option.bind_some, if_pos (nI_le (by omega) (by omega))]
        rfl
    | succ m ih =>
      intro k Y n hY hk hn
      cases n with
      | zero => omega
      | succ n =>
        have g := s11_RM hY h
        rw [L_M_partner_50, m_workers g, Option.bind_some, if_neg (nI_ge (by omega) (by omega)), m_awardOf g hV (by omega) (by omega), Option.bind_some]
        simp only [nI_eq (by omega : k < 2 ^ 31) (by omega : w < 2 ^ 31), (hld_ai v k s hV).1, nI_add]
        unfold fpt
        by_cases q1 : k = w
        · rw [if_pos q1, lo_false (pcd v w s k) (v 1) 0 (fun i _ _ => by unfold pcd; simp [q1])]
          exact ih (k + 1) Y n hY (by omega) (by omega)
        · rw [if_neg q1]
          cases hh : hld v k s with
          | false =>
            rw [if_neg (by decide), lo_false (pcd v w s k) (v 1) 0 (fun i _ _ => by unfold pcd; simp [hh])]
            exact ih (k + 1) Y n hY (by omega) (by omega)
          | true =>
            rw [if_pos rfl]
            obtain ⟨Z, hZ, e⟩ := inner (fun X9 b1 b2 b3 b4 => L_M_partner_50 n X9 b1 b2 b3 b4) k (by omega) q1 hh (v 1) 0 Y ab_fu hY (by omega) (by unfold ab_fu; omega)
            rw [e]
            cases lo (pcd v w s k) 0 (v 1) with
            | none => exact ih (k + 1) Z n hZ (by omega) (by omega)
            | some gv => exact ⟨Z, hZ, rfl⟩
  exact outer (v 0) 0 X ab_fu (s11_rf X) (by omega) (by unfold ab_fu; omega)
theorem q_partner (h : RC (X 3) v) (g : RM (X 14) v) (hV : VV v) (a b c : Int32) : QR (F_C_partner X a b c) [(2, 1), (0, 2), (4, 3)] (F_M_partner X a b c) X := by
  have hB := hV.1
  unfold F_C_partner F_M_partner F_C_requirePair
  rcases wk_cs h hV a with ⟨w, hw, rfl, _, e1, e2⟩ | ⟨_, e1, e2⟩
  · rcases sh_cs h hV b with ⟨s, hs, rfl, _, f1, f2⟩ | ⟨_, f1, f2⟩
    · rcases rp_cs c 1 (by decide) with ⟨p, hp, rfl, g1, g2⟩ | ⟨g1, g2⟩
      · rw [e1, b2_l, f1, b2_l, b2_l, g2, b2_l, c_findPartner h hV hw hs, e2 X g, Option.bind_some, Option.bind_some, if_neg n10, f2 X g, Option.bind_some, if_neg n10, g1, Option.bind_some, if_neg n10, th_0]
        obtain ⟨Z, hZ, e⟩ := m_partner_50 (X := ab_up X 13 0 (nI 0)) (m13 g _ _) hV hw hs (by omega : p < 2)
        rw [e]
        have hl := @fpt_lt v w s (v 0) 0
        cases hf : fpt v w s 0 (v 0) with
        | none =>
          refine qr_ex 4 3 (nI 0) (ab_up Z 13 0 (nI 3)) (.tail _ (.tail _ (.head _))) ?_ rfl (sm_tr (s11_sm hZ).1 (sm_0 Z _)) (p_up_sm Z 13 0 _)
          rw [if_pos (show fI none = -1 from rfl)]
        | some q =>
          obtain ⟨o, gv⟩ := q
          have hl := hl hf
          have hne : ¬ fI (some (o, gv)) = -1 := fun z => by
            have h1 := nI_pos' (by omega : o * 16 + gv < 2 ^ 31)
            rw [show nI (o * 16 + gv) = -1 from z] at h1
            exact absurd h1 (by decide)
          rw [if_neg hne, show fI (some (o, gv)) = nI (o * 16 + gv) from rfl, p_div16 _ (by omega), p_mul, p_sub (by omega), show (o * 16 + gv) / 16 = o by omega, show o * 16 + gv - o * 16 = gv by omega]
          by_cases hp0 : p = 0
          · subst hp0
            exact qr_ok (nI o) Z (if_pos rfl) rfl (s11_sm hZ).1 (s11_sm hZ).2
          · have hp1 : p = 1 := by omega
            subst hp1
            exact qr_ok (nI gv) Z (if_neg n10) rfl (s11_sm hZ).1 (s11_sm hZ).2
      · refine qr_x 0 2 (.tail _ (.head _)) ?_ ?_
        · rw [e1, b2_l, f1, b2_l, b2_l, g2, b2_r]
        · rw [e2 X g, Option.bind_some, if_neg n10, f2 X g, Option.bind_some, if_neg n10, g1, Option.bind_some, if_pos rfl, th_k X _ _ (by decide) (by decide)]
    · refine qr_x 2 1 (.head _) ?_ ?_
      · rw [e1, b2_l, f1, b2_r, b2_r]
      · rw [e2 X g, Option.bind_some, if_neg n10, f2 X g, Option.bind_some, if_pos rfl, th_k X _ _ (by decide) (by decide)]
  · refine qr_x 2 1 (.head _) ?_ ?_
    · rw [e1, b2_r, b2_r]
    · rw [e2 X g, Option.bind_some, if_pos rfl, th_k X _ _ (by decide) (by decide)]
end LG
