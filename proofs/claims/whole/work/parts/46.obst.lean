/-! ===== PURE: obstacles ===== -/
def skl (v : Nat → Nat) (w s : Nat) : Bool := (wk v w 4).testBit (sh v s 3)
def ot (v : Nat → Nat) (w s set : Nat) : Nat × Nat := match lwi v 0 s set with
  | some o => (4, o)
  | none => match lwi v (wk v w 1) s set with
    | some o => (5, o)
    | none => if hrs v (set ||| 2 ^ s) (some (sh v s 8)) ≤ wk v w 2 then (if sq (dy v (set ||| 2 ^ s)) (sh v s 0) ≤ wk v w 3 then (0, 0) else (7, sq (dy v (set ||| 2 ^ s)) (sh v s 0))) else (6, sh v s 8)
def ob (v : Nat → Nat) (w s set : Nat) (ex : Bool) : Nat × Nat := if set.testBit s = true then (1, s) else if skl v w s = true then (if ex = false ∧ cov v s = sh v s 4 then (3, sh v s 4) else ot v w s set) else (2, sh v s 3)
def cd (p : Nat × Nat) : Nat := p.1 * 100 + p.2
theorem p_bb (b : Bool) : nI b.toNat &&& 1 = nI b.toNat := by cases b <;> decide
theorem p_up_up (X : ab_XX) (c i : Nat) (a b : Int32) : ab_up (ab_up X c i a) c i b = ab_up X c i b := by
  funext d j
  unfold ab_up
  by_cases h : d = c
  · rw [if_pos h, if_pos h, if_pos rfl]
    unfold upd
    split <;> rfl
  · rw [if_neg h, if_neg h, if_neg h]
section O
variable {X : ab_XX} {v : Nat → Nat}
theorem m13 (h : RM (X 14) v) (i : Nat) (y : Int32) : RM ((ab_up X 13 i y) 14) v := by
  rw [p_up_ne _ _ _ _ _ (by decide)]
  exact h
theorem lwi_lt {g s set o : Nat} (h : lwi v g s set = some o) : o < v 1 := by
  have := lo_some h
  omega
theorem hrs_le (hV : VV v) (set : Nat) (c : Option Nat) : hrs v set c ≤ 12 * v 1 := by
  unfold hrs
  have key : ∀ n, n ≤ v 1 → fo (fun s a => if hcd v set c s = true then a + sh v s 2 else a) 0 0 n ≤ 12 * n := by
    intro n
    induction n with
    | zero => intro _; exact Nat.le_refl _
    | succ n ih =>
      intro hn
      have h1 := ih (by omega)
      have h2 := hV.2.2.1 n (by omega)
      rw [fo_snoc, Nat.zero_add]
      split <;> omega
  exact key (v 1) (Nat.le_refl _)
theorem sq_le (P : Nat → Bool) {d : Nat} (hd : d < 28) : sq P d ≤ 28 := by
  unfold sq
  have := up_ge P (27 - d) (d + 1)
  omega
theorem bit_lt {set s N : Nat} (hset : set < 2 ^ N) (hs : s < N) : set ||| 2 ^ s < 2 ^ N := Nat.or_lt_two_pow hset (p_2pow_lt hs)
theorem c_obstacleOfTime (h : RC (X 3) v) (hV : VV v) {w s set : Nat} (hw : w < v 0) (hs : s < v 1) (hset : set < 2 ^ 16) : F_U_obstacleOfTime X (nI w) (nI s) (nI set) = some (nI (cd (ot v w s set))) := by
  have hwk := hV.2.1 w hw
  have hsh := hV.2.2.1 s hs
  have hb := hV.1
  have hset2 : set < 2 ^ 31 := Nat.lt_trans hset (by decide)
  have hall : set ||| 2 ^ s < 2 ^ 16 := bit_lt hset (by omega)
  have hall2 : set ||| 2 ^ s < 2 ^ 31 := Nat.lt_trans hall (by decide)
  have hh := hrs_le hV (set ||| 2 ^ s) (some (sh v s 8))
  have hq := sq_le (dy v (set ||| 2 ^ s)) (by omega : sh v s 0 < 28)
  unfold F_U_obstacleOfTime
  have n1 := cI_neg (lwi v 0 s set) (fun o ho => by have := lwi_lt ho; omega)
  have n2 := cI_neg (lwi v (wk v w 1) s set) (fun o ho => by have := lwi_lt ho; omega)
  rw [c_lowestWithin h hV (by decide) hs hset2, Option.bind_some]
  simp only [n1]
  rw [c_workerPart h (by omega) (by decide), c_workerPart h (by omega) (by decide), c_workerPart h (by omega) (by decide), Option.bind_some, c_lowestWithin h hV (by omega) hs hset2, Option.bind_some]
  simp only [n2]
  simp only [F_K_bit, p_bit s (by omega), Option.bind_some, p_or, c_shiftPart h (by omega : s < 16) (by decide : 8 < 9), c_shiftPart h (by omega : s < 16) (by decide : 0 < 9)]
  have e1 := c_hoursOf h hV hall2 (c := some (sh v s 8)) (fun w hw => by cases hw; omega)
  rw [show cI (some (sh v s 8)) = nI (sh v s 8) from rfl] at e1
  rw [e1]
  simp only [Option.bind_some, c_daysOf h hV hall2, c_sq h hV (by omega : sh v s 0 < 28), F_U_code, p_mul, nI_add, nI_leI (by omega : hrs v (set ||| 2 ^ s) (some (sh v s 8)) < 2 ^ 31) (by omega : wk v w 2 < 2 ^ 31), nI_leI (by omega : sq (dy v (set ||| 2 ^ s)) (sh v s 0) < 2 ^ 31) (by omega : wk v w 3 < 2 ^ 31)]
  unfold ot
  cases lwi v 0 s set with
  | some o => simp [cI, cd, p_mul, nI_add]
  | none =>
    cases lwi v (wk v w 1) s set with
    | some o => simp [cI, cd, p_mul, nI_add]
    | none =>
      by_cases q1 : hrs v (set ||| 2 ^ s) (some (sh v s 8)) ≤ wk v w 2
      · by_cases q2 : sq (dy v (set ||| 2 ^ s)) (sh v s 0) ≤ wk v w 3
        · simp [q1, q2, cd]
        · simp [q1, q2, cd]
      · simp [q1, cd]
theorem m_clash (h : RM (X 14) v) (hV : VV v) {w s set : Nat} (hw : w < v 0) (hs : s < v 1) (hset : set < 2 ^ 16) (hn : set.testBit s = false) : F_M_clash X (nI w) (nI s) (nI set) = some (nI (ot v w s set).1, ab_up X 13 11 (nI (ot v w s set).2)) := by
  have hwk := hV.2.1 w hw
  have hsh := hV.2.2.1 s hs
  have hb := hV.1
  have hset2 : set < 2 ^ 31 := Nat.lt_trans hset (by decide)
  have hall : set ||| 2 ^ s < 2 ^ 16 := bit_lt hset (by omega)
  have hall2 : set ||| 2 ^ s < 2 ^ 31 := Nat.lt_trans hall (by decide)
  have hh := hrs_le hV (set ||| 2 ^ s) (some (sh v s 8))
  have hq := sq_le (dy v (set ||| 2 ^ s)) (by omega : sh v s 0 < 28)
  unfold F_M_clash
  rw [m_lowestOver h hV hs hset2 hn, Option.bind_some, Option.bind_some]
  have n1 := cI_lt (lwi v 0 s set) (fun o ho => by have := lwi_lt ho; omega)
  have n2 := cI_lt (lwi v (wk v w 1) s set) (fun o ho => by have := lwi_lt ho; omega)
  simp only [p_up_sm, p_up_up, n1]
  cases hl : lwi v 0 s set with
  | some o =>
    have e : ot v w s set = (4, o) := by unfold ot; rw [hl]
    rw [e, if_neg (fun z => by cases z)]
    rfl
  | none =>
    rw [if_pos rfl, m_of (m13 h _ _) hw hb.1 (by decide), Option.bind_some, m_lowestNear (m13 h _ _) hV (by omega) hs hset2 hn hl, Option.bind_some, Option.bind_some]
    simp only [p_up_sm, p_up_up, n2]
    cases hl2 : lwi v (wk v w 1) s set with
    | some o =>
      have e : ot v w s set = (5, o) := by unfold ot; rw [hl]; dsimp only; rw [hl2]
      rw [e, if_neg (fun z => by cases z)]
      rfl
    | none =>
      rw [if_pos rfl, m_week (m13 h _ _) hV hs, Option.bind_some, Option.bind_some]
      simp only [p_up_sm, p_up_up, p_bit s (by omega), p_or]
      have e1 := m_hoursIn (X := ab_up X 13 11 (nI (sh v s 8))) (m13 h _ _) hV hall2 (c := some (sh v s 8)) (fun w hw => by cases hw; omega)
      rw [show cI (some (sh v s 8)) = nI (sh v s 8) from rfl] at e1
      rw [e1, Option.bind_some, m_of (m13 h _ _) hw hb.1 (by decide), Option.bind_some, m_ofShift (m13 h _ _) hs hb.2.1 (by decide), Option.bind_some, m_rowAbout (m13 h _ _) hV hall2 (by omega), Option.bind_some, Option.bind_some, m_of (m13 h _ _) hw hb.1 (by decide), Option.bind_some, Option.bind_some]
      simp only [p_up_sm, p_up_up, nI_leI (by omega : hrs v (set ||| 2 ^ s) (some (sh v s 8)) < 2 ^ 31) (by omega : wk v w 2 < 2 ^ 31), nI_leI (by omega : sq (dy v (set ||| 2 ^ s)) (sh v s 0) < 2 ^ 31) (by omega : wk v w 3 < 2 ^ 31)]
      unfold ot
      rw [hl]
      dsimp only
      rw [hl2]
      dsimp only
      by_cases q1 : hrs v (set ||| 2 ^ s) (some (sh v s 8)) ≤ wk v w 2
      · by_cases q2 : sq (dy v (set ||| 2 ^ s)) (sh v s 0) ≤ wk v w 3
        · rw [if_pos q1, if_pos q2, if_pos q1, if_pos q2]
        · rw [if_pos q1, if_neg q2, if_pos q1, if_neg q2]
      · rw [if_neg q1, if_neg q1]
theorem c_hasSkillFor (h : RC (X 3) v) (hV : VV v) {w s : Nat} (hw : w < v 0) (hs : s < v 1) : F_U_hasSkillFor X (nI w) (nI s) = some (nI (skl v w s).toNat) := by
  have hwk := hV.2.1 w hw
  have hsh := hV.2.2.1 s hs
  have hb := hV.1
  unfold F_U_hasSkillFor
  rw [c_shiftPart h (by omega) (by decide), c_workerPart h (by omega) (by decide), Option.bind_some, Option.bind_some, c_isIn (by omega) (by omega), Option.bind_some, if_pos (p_bb _)]
  rfl
theorem m_hasSkill (h : RM (X 14) v) (hV : VV v) {w s : Nat} (hw : w < v 0) (hs : s < v 1) : F_M_hasSkill X (nI w) (nI s) = some (nI (skl v w s).toNat) := by
  have hwk := hV.2.1 w hw
  have hsh := hV.2.2.1 s hs
  have hb := hV.1
  unfold F_M_hasSkill
  rw [m_of h hw hb.1 (by decide), m_ofShift h hs hb.2.1 (by decide), Option.bind_some, Option.bind_some, p_tst _ _ (by omega) (by omega)]
  unfold skl
  cases (wk v w 4).testBit (sh v s 3) <;> rfl
theorem c_firstObstacle (h : RC (X 3) v) (hV : VV v) {w s set : Nat} (hw : w < v 0) (hs : s < v 1) (hset : set < 2 ^ 16) (ex : Bool) : F_U_firstObstacle X (nI w) (nI s) (nI set) (nI (!ex).toNat) = some (nI (cd (ob v w s set ex))) := by
  have hsh := hV.2.2.1 s hs
  have hb := hV.1
  have hset2 : set < 2 ^ 31 := Nat.lt_trans hset (by decide)
  have hcv := hV.2.2.2.2.2.1 s hs
  unfold F_U_firstObstacle
  rw [c_isIn hset2 (by omega), Option.bind_some, c_hasSkillFor h hV hw hs, Option.bind_some, c_shiftPart h (by omega) (by decide), c_shiftPart h (by omega) (by decide), c_obstacleOfTime h hV hw hs hset, c_coverage h hV (by omega)]
  simp only [Option.bind_some, p_b0, F_U_code, p_mul, nI_add, nI_eq (by omega : cov v s < 2 ^ 31) (by omega : sh v s 4 < 2 ^ 31)]
  unfold ob
  cases set.testBit s with
  | true => simp [cd]
  | false =>
    cases skl v w s with
    | false => simp [cd]
    | true =>
      cases ex with
      | true => simp
      | false => by_cases q : cov v s = sh v s 4 <;> simp [q, cd]
theorem m_obstacleOf (h : RM (X 14) v) (hV : VV v) {w s set : Nat} (hw : w < v 0) (hs : s < v 1) (hset : set < 2 ^ 16) (ex : Bool) : F_M_obstacleOf X (nI w) (nI s) (nI set) (nI ex.toNat) = some (nI (ob v w s set ex).1, ab_up X 13 11 (nI (ob v w s set ex).2)) := by
  have hsh := hV.2.2.1 s hs
  have hb := hV.1
  have hset2 : set < 2 ^ 31 := Nat.lt_trans hset (by decide)
  have hcv := hV.2.2.2.2.2.1 s hs
  unfold F_M_obstacleOf
  rw [Option.bind_some, p_tst _ _ hset2 (by omega), m_ofShift (m13 h _ _) hs hb.2.1 (by decide), Option.bind_some, Option.bind_some]
  simp only [p_up_up, p_b1]
  unfold ob
  cases hn : set.testBit s with
  | true => rfl
  | false =>
    rw [if_neg (by decide), if_neg (by decide), m_hasSkill (m13 h _ _) hV hw hs, Option.bind_some, m_ofShift (m13 h _ _) hs hb.2.1 (by decide), Option.bind_some, Option.bind_some]
    simp only [p_up_up, p_up_sm, p_b0]
    cases skl v w s with
    | false => rfl
    | true =>
      rw [if_neg (by decide), if_pos rfl, m_coverage (m13 h _ _) hV (by omega), m_clash (m13 h _ _) hV hw hs hset hn]
      simp only [ab_b3, Option.bind_some, p_up_up, nI_eq (by omega : cov v s < 2 ^ 31) (by omega : sh v s 4 < 2 ^ 31)]
      cases ex with
      | true => simp
      | false => by_cases q : cov v s = sh v s 4 <;> simp [q]
end O
