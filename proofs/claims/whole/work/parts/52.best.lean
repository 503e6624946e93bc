/-! ===== PURE: the best set ===== -/
def msk (p : Nat → Bool) (n : Nat) : Nat := fo (fun s m => if p s = true then m ||| 2 ^ s else m) 0 0 n
theorem msk_t (p : Nat → Bool) (i : Nat) : ∀ n, (msk p n).testBit i = (decide (i < n) && p i) := by
  intro n
  induction n with
  | zero => exact (Nat.zero_testBit i)
  | succ n ih =>
    have e : msk p (n + 1) = if p n = true then msk p n ||| 2 ^ n else msk p n := by
      unfold msk
      rw [fo_snoc, Nat.zero_add]
    rw [e]
    by_cases hi : i = n
    · subst hi
      cases hp : p i with
      | true => rw [if_pos rfl, Nat.testBit_or, Nat.testBit_two_pow]; simp
      | false => rw [if_neg (by decide), ih]; simp [hp]
    · have h1 : decide (i < n + 1) = decide (i < n) := decide_eq_decide.mpr (by omega)
      rw [h1, ← ih]
      split
      · rw [Nat.testBit_or, Nat.testBit_two_pow, decide_eq_false (fun z => hi z.symm), Bool.or_false]
      · rfl
theorem msk_lt (p : Nat → Bool) (n : Nat) : msk p n < 2 ^ n := by
  refine Nat.lt_pow_two_of_testBit _ fun i hi => ?_
  rw [msk_t, decide_eq_false (by omega), Bool.false_and]
def bdp (v : Nat → Nat) (w s : Nat) : Bool := decide (bd v w s ≠ 0)
def bm (v : Nat → Nat) (w : Nat) : Nat := msk (bdp v w) (v 1)
def cm (v : Nat → Nat) (w : Nat) : Nat := msk (fun s => bdp v w s && skl v w s) (v 1)
def VB (v : Nat → Nat) : Prop := ∀ w, w < v 0 → pc 16 (bm v w) ≤ 8
def stp (v : Nat → Nat) (w set : Nat) (a : Nat × Nat) : Nat × Nat := if pts v w set ≤ a.2 then a else if chd v w set = true then (set, pts v w set) else a
def bst (v : Nat → Nat) (w : Nat) : Nat × Nat := wlk (cm v w) (stp v w) 0 65536 (0, 0)
theorem cn_more (p : Nat → Bool) (n : Nat) : ∀ k, (∀ i, n ≤ i → p i = false) → cn p (n + k) = cn p n := by
  intro k
  induction k with
  | zero => intro _; rfl
  | succ k ih =>
    intro h
    show cn p (n + k) + (p (n + k)).toNat = _
    rw [ih h, h (n + k) (by omega)]
    rfl
theorem pc_32 {m : Nat} (h : m < 2 ^ 16) : pc 32 m = pc 16 m := cn_more (fun i => m.testBit i) 16 16 (fun i hi => Nat.testBit_lt_two_pow (Nat.lt_of_lt_of_le h (Nat.pow_le_pow_right (by decide) hi)))
section B
variable {X : ab_XX} {v : Nat → Nat}
theorem pts_le (hV : VV v) {w : Nat} (hw : w < v 0) (set : Nat) : pts v w set ≤ 9 * v 1 := by
  have hB := hV.1
  unfold pts
  have key : ∀ n, n ≤ v 1 → fo (fun s a => if set.testBit s = true then a + bd v w s else a) 0 0 n ≤ 9 * n := by
    intro n
    induction n with
    | zero => intro _; exact Nat.le_refl _
    | succ n ih =>
      intro hn
      have h1 := ih (by omega)
      have h2 := (hV.2.2.2.1 w n (by omega) (by omega)).1
      rw [fo_snoc, Nat.zero_add]
      split <;> omega
  exact key (v 1) (Nat.le_refl _)
theorem pts_0 (v : Nat → Nat) (w : Nat) : pts v w 0 = 0 := fo_id _ _ _ _ (fun x b _ _ => by rw [Nat.zero_testBit, if_neg (by decide)])
theorem stp_0 (v : Nat → Nat) (w : Nat) (a : Nat × Nat) : stp v w 0 a = a := by
  unfold stp
  rw [pts_0, if_pos (Nat.zero_le _)]
theorem wi_t {x C : Nat} (h : wi x C) {i : Nat} (hi : x.testBit i = true) : C.testBit i = true := by
  have h1 := Nat.testBit_and x C i
  rw [show x &&& C = x from h, hi, Bool.true_and] at h1
  exact h1.symm
theorem wi_tt {x C : Nat} (h : ∀ i, x.testBit i = true → C.testBit i = true) : wi x C := by
  refine Nat.eq_of_testBit_eq fun i => ?_
  rw [Nat.testBit_and]
  cases hx : x.testBit i with
  | false => rfl
  | true => rw [h i hx]; rfl
theorem cm_bm (v : Nat → Nat) (w : Nat) : wi (cm v w) (bm v w) := wi_tt fun i hi => by
  unfold cm at hi
  unfold bm
  rw [msk_t] at hi ⊢
  rw [Bool.and_eq_true, Bool.and_eq_true] at hi
  rw [hi.1, hi.2.1]
  rfl
theorem stp_bm (v : Nat → Nat) (w : Nat) : (fun x (a : Nat × Nat) => if x &&& bm v w = x then stp v w x a else a) = (fun x a => if x &&& cm v w = x then stp v w x a else a) := by
  funext x a
  by_cases h1 : x &&& cm v w = x
  · rw [if_pos h1, if_pos (show x &&& bm v w = x from wi_tr (show wi x (cm v w) from h1) (cm_bm v w))]
  · rw [if_neg h1]
    by_cases h2 : x &&& bm v w = x
    · rw [if_pos h2]
      have hc : chd v w x = false := by
        unfold chd
        cases hl : lo (bad v w x) 0 (v 1) with
        | some i => rfl
        | none =>
          refine absurd (wi_tt fun i hi => ?_ : wi x (cm v w)) h1
          have h3 := wi_t (show wi x (bm v w) from h2) hi
          unfold bm at h3
          unfold cm
          rw [msk_t] at h3 ⊢
          rw [Bool.and_eq_true, decide_eq_true_eq] at h3
          have h4 := lo_none hl i (Nat.zero_le _) (by omega)
          unfold bad at h4
          rw [hi, Bool.true_and, Bool.or_eq_false_iff] at h4
          rw [decide_eq_true h3.1, h3.2]
          cases hk : skl v w i with
          | true => rfl
          | false => rw [hk] at h4; exact absurd h4.1 (by decide)
      unfold stp
      rw [hc]
      split <;> rfl
    · rw [if_neg h2]
theorem bst_bm (v : Nat → Nat) (w : Nat) : wlk (bm v w) (stp v w) 0 65536 (0, 0) = bst v w := by
  unfold bst wlk
  rw [stp_bm]
theorem c_candidatesOf (h : RC (X 3) v) (hV : VV v) {w : Nat} (hw : w < v 0) : F_U_candidatesOf X (nI w) = some (nI (cm v w)) := by
  have hB := hV.1
  refine p_lp (fun n a k => L_U_candidatesOf_4 X n (nI w) (nI a) k) (fun s m => if (bdp v w s && skl v w s) = true then m ||| 2 ^ s else m) (fun m => some (nI m)) (v 1) (fun _ => True) (fun _ _ _ _ => trivial) (fun n a _ => ?_) (fun n a k hk _ => ?_) (v 1) 0 0 ab_fu trivial (by omega) (by unfold ab_fu; omega)
  · rw [L_U_candidatesOf_4, c_shiftTotal h, Option.bind_some, if_pos (nI_le (Nat.le_refl _) (by omega))]
  · have h1 := (hV.2.2.2.1 w k (by omega) (by omega)).1
    rw [L_U_candidatesOf_4, c_shiftTotal h, Option.bind_some, if_neg (nI_ge hk (by omega)), c_pointsFor h (by omega) (by omega), c_hasSkillFor h hV hw hk]
    simp only [Option.bind_some, F_K_bit, p_bit k (by omega), p_or, p_b0, nI_add, nI_leI (by omega : bd v w k < 2 ^ 31) (by decide : 0 < 2 ^ 31), Nat.le_zero_eq]
    unfold bdp
    by_cases q : bd v w k = 0
    · simp [q]
    · cases skl v w k <;> simp [q]
theorem stp_c (h : RC (X 3) v) (hV : VV v) {w m : Nat} (hw : w < v 0) (hm : m < 2 ^ 16) (best most : Nat) (hmo : most < 2 ^ 31) (K : Int32 → Int32 → Option Int32) : ((F_K_pointsForSet X (nI w) (nI m)).bind fun v337 => if v337 ≤ nI most then K (nI best) (nI most) else (F_U_canHold X (nI w) (nI m)).bind fun v338 => if v338 = nI 0 then K (nI best) (nI most) else K (nI m) v337) = K (nI (stp v w m (best, most)).1) (nI (stp v w m (best, most)).2) := by
  have hB := hV.1
  have h1 := pts_le hV hw m
  rw [c_pointsForSet h hV hw (Nat.lt_trans hm (by decide)), Option.bind_some, c_canHold h hV hw hm, Option.bind_some]
  simp only [p_b0, nI_leI (by omega : pts v w m < 2 ^ 31) hmo]
  unfold stp
  by_cases q : pts v w m ≤ most
  · simp [q]
  · cases chd v w m <;> simp [q]
theorem stp_lt (hV : VV v) {w m : Nat} (hw : w < v 0) {a : Nat × Nat} (ha : a.2 < 2 ^ 31) : (stp v w m a).2 < 2 ^ 31 := by
  have hB := hV.1
  have h1 := pts_le hV hw m
  unfold stp
  split
  · exact ha
  · split
    · dsimp only; omega
    · exact ha
theorem rnk_lt {C m : Nat} (hC : C < 2 ^ 32) (hm : wi m C) (hne : m ≠ C) : rnk 32 C m < rnk 32 C C := by
  obtain ⟨_, a2, _, a4⟩ := nxr_ok 32 C m hC hm hne
  have := rnk_le 32 C _ hC a2
  omega
theorem c_findBestSet (h : RC (X 3) v) (hV : VV v) (hb8 : VB v) {w : Nat} (hw : w < v 0) : F_U_findBestSet X (nI w) = some (nI (bst v w).1) := by
  have hB := hV.1
  have hC16 : cm v w < 2 ^ 16 := Nat.lt_of_lt_of_le (msk_lt _ _) (Nat.pow_le_pow_right (by decide) hB.2.1)
  have hC32 : cm v w < 2 ^ 32 := by omega
  have htop := rnk_top 32 (cm v w) hC32
  rw [pc_32 hC16] at htop
  have hpc : pc 16 (cm v w) ≤ 8 := by
    have h8 := hb8 w hw
    have hbm16 : bm v w < 2 ^ 16 := Nat.lt_of_lt_of_le (msk_lt _ _) (Nat.pow_le_pow_right (by decide) hB.2.1)
    have key : ∀ n, cn (fun i => (cm v w).testBit i) n ≤ cn (fun i => (bm v w).testBit i) n := by
      intro n
      induction n with
      | zero => exact Nat.le_refl _
      | succ n ih =>
        unfold cn
        have : ((cm v w).testBit n).toNat ≤ ((bm v w).testBit n).toNat := by
          cases hc : (cm v w).testBit n with
          | false => exact Nat.zero_le _
          | true => rw [wi_t (cm_bm v w) hc]; exact Nat.le_refl _
        omega
    exact Nat.le_trans (key 16) h8
  have hp256 : 2 ^ pc 16 (cm v w) ≤ 256 := Nat.pow_le_pow_right (by decide : 0 < 2) hpc
  unfold F_U_findBestSet
  rw [c_candidatesOf h hV hw, Option.bind_some, c_bitCount hC16, Option.bind_some, F_K_bit, Option.bind_some, p_bit _ (by omega)]
  have key : ∀ (r m n best most : Nat), wi m (cm v w) → rnk 32 (cm v w) m + r + 1 = 2 ^ pc 16 (cm v w) → r < n → most < 2 ^ 31 → L_U_findBestSet_26 X n (nI w) (nI (cm v w)) (nI (2 ^ pc 16 (cm v w))) (nI best) (nI most) (nI m) (nI (rnk 32 (cm v w) m + 1)) = some (nI (if m = cm v w then (best, most) else wlk (cm v w) (stp v w) (nxr 32 (cm v w) m) (65536 - nxr 32 (cm v w) m) (best, most)).1) := by
    intro r
    induction r with
    | zero =>
      intro m n best most hm hr hn hmo
      cases n with
      | zero => omega
      | succ n =>
        have hmc : m = cm v w := Decidable.byContradiction fun z => by
          have := rnk_lt hC32 hm z
          omega
        rw [L_U_findBestSet_26, if_pos (nI_le (by omega) (by omega)), if_pos hmc]
    | succ r ih =>
      intro m n best most hm hr hn hmo
      cases n with
      | zero => omega
      | succ n =>
        have hmc : ¬ m = cm v w := fun z => by
          rw [z] at hr
          omega
        obtain ⟨a1, a2, a3, a4⟩ := nxr_ok 32 (cm v w) m hC32 hm hmc
        have hx16 : nxr 32 (cm v w) m < 2 ^ 16 := Nat.lt_of_le_of_lt (wi_le a2) hC16
        rw [L_U_findBestSet_26, if_neg (nI_ge (by omega) (by omega)), p_nx (by omega) hm, if_neg hmc]
        have e := stp_c h hV hw hx16 best most hmo (fun b1 b2 => L_U_findBestSet_26 X n (nI w) (nI (cm v w)) (nI (2 ^ pc 16 (cm v w))) b1 b2 (nI (nxr 32 (cm v w) m)) (nI (rnk 32 (cm v w) m + 1) + nI 1))
        refine e.trans ?_
        rw [nI_add, show rnk 32 (cm v w) m + 1 + 1 = rnk 32 (cm v w) (nxr 32 (cm v w) m) + 1 by omega, ih (nxr 32 (cm v w) m) n _ _ a2 (by omega) (by omega) (stp_lt hV hw hmo)]
        by_cases hc : nxr 32 (cm v w) m = cm v w
        · rw [if_pos hc]
          rw [hc, wlk_last (stp v w) (best, most) (by omega : cm v w < 65536)]
        · rw [if_neg hc, wlk_next (stp v w) (best, most) hC32 (by omega : cm v w < 65536) a2 hc]
  have hr0 := rnk_0 32 (cm v w)
  have e := key (2 ^ pc 16 (cm v w) - 1) 0 ab_fu 0 0 (wi_0 _) (by have := Nat.two_pow_pos (pc 16 (cm v w)); omega) (by unfold ab_fu; omega) (by decide)
  rw [hr0] at e
  refine e.trans ?_
  unfold bst
  by_cases hc : 0 = cm v w
  · rw [if_pos hc, ← hc, show 65536 = 65536 - 0 by rfl, wlk_last (stp v w) (0, 0) (by decide : 0 < 65536), stp_0]
  · rw [if_neg hc, show wlk (cm v w) (stp v w) 0 65536 (0, 0) = wlk (cm v w) (stp v w) 0 (65536 - 0) (0, 0) from rfl, wlk_next (stp v w) (0, 0) hC32 (by omega : cm v w < 65536) (wi_0 _) hc, stp_0]
theorem m_bestOf (h : RM (X 14) v) (hV : VV v) (hb8 : VB v) {w : Nat} (hw : w < v 0) : ∃ Z, s11 X Z ∧ F_M_bestOf X (nI w) = some (nI (bst v w).1, Z) := by
  have hB := hV.1
  have hC16 : bm v w < 2 ^ 16 := Nat.lt_of_lt_of_le (msk_lt _ _) (Nat.pow_le_pow_right (by decide) hB.2.1)
  have hC32 : bm v w < 2 ^ 32 := by omega
  have htop := rnk_top 32 (bm v w) hC32
  rw [pc_32 hC16] at htop
  have hp256 : 2 ^ pc 16 (bm v w) ≤ 256 := Nat.pow_le_pow_right (by decide : 0 < 2) (hb8 w hw)
  have key : ∀ (r m n best most : Nat) (Y : ab_XX), s11 X Y → wi m (bm v w) → rnk 32 (bm v w) m + r + 1 = 2 ^ pc 16 (bm v w) → r + 1 < n → most < 2 ^ 31 → ∃ Z, s11 X Z ∧ L_M_bestOf_45 n Y (nI w) (nI (bm v w)) (nI best) (nI most) (nI m) = some (nI (wlk (bm v w) (stp v w) m (65536 - m) (best, most)).1, Z) := by
    intro r
    induction r with
    | zero =>
      intro m n best most Y hY hm hr hn hmo
      cases n with
      | zero => omega
      | succ n =>
        cases n with
        | zero => omega
        | succ n =>
          have hmc : m = bm v w := Decidable.byContradiction fun z => by
            have := rnk_lt hC32 hm z
            omega
          subst hmc
          have g := s11_RM hY h
          have h1 := pts_le hV hw (bm v w)
          obtain ⟨Z, hZ, eZ⟩ := m_suits g hV hw hC16
          have hXZ : s11 X Z := by
            obtain ⟨d, rfl⟩ := hY
            obtain ⟨d2, rfl⟩ := hZ
            exact ⟨d2, p_up_up _ _ _ _ _⟩
          have hend : ∀ (Y : ab_XX) (b1 b2 : Int32), L_M_bestOf_45 (n + 1) Y (nI w) (nI (bm v w)) b1 b2 (-1) = some (b1, Y) := fun Y b1 b2 => by
            rw [L_M_bestOf_45, if_pos (by decide)]
          rw [wlk_last (stp v w) (best, most) (by omega : bm v w < 65536)]
          rw [L_M_bestOf_45, if_neg (nI_nlt (Nat.zero_le _) (by omega)), m_pointsIn g hV hw (by omega), Option.bind_some, eZ, b3_s]
          simp only [p_b0, nI_leI (by omega : pts v w (bm v w) < 2 ^ 31) hmo, if_true, hend]
          unfold stp
          by_cases q : pts v w (bm v w) ≤ most
          · exact ⟨Y, hY, by simp [q]⟩
          · exact ⟨Z, hXZ, by cases chd v w (bm v w) <;> simp [q]⟩
    | succ r ih =>
      intro m n best most Y hY hm hr hn hmo
      cases n with
      | zero => omega
      | succ n =>
        have hmc : ¬ m = bm v w := fun z => by
          rw [z] at hr
          omega
        obtain ⟨a1, a2, a3, a4⟩ := nxr_ok 32 (bm v w) m hC32 hm hmc
        have hm16 : m < 2 ^ 16 := Nat.lt_of_le_of_lt (wi_le hm) hC16
        have g := s11_RM hY h
        have h1 := pts_le hV hw m
        obtain ⟨Z, hZ, eZ⟩ := m_suits g hV hw hm16
        have hXZ : s11 X Z := by
          obtain ⟨d, rfl⟩ := hY
          obtain ⟨d2, rfl⟩ := hZ
          exact ⟨d2, p_up_up _ _ _ _ _⟩
        rw [wlk_next (stp v w) (best, most) hC32 (by omega : bm v w < 65536) hm hmc]
        rw [L_M_bestOf_45, if_neg (nI_nlt (Nat.zero_le _) (by omega)), m_pointsIn g hV hw (by omega), Option.bind_some, eZ, b3_s, p_nx (by omega) hm]
        simp only [p_b0, nI_leI (by omega : pts v w m < 2 ^ 31) hmo, nI_eq (by omega : m < 2 ^ 31) (by omega : bm v w < 2 ^ 31), hmc, if_false]
        unfold stp
        by_cases q : pts v w m ≤ most
        · rw [if_pos q, if_pos q]
          exact ih (nxr 32 (bm v w) m) n best most Y hY a2 (by omega) (by omega) hmo
        · rw [if_neg q, if_neg q]
          cases chd v w m with
          | false =>
            rw [if_pos rfl, if_neg (by decide)]
            exact ih (nxr 32 (bm v w) m) n best most Z hXZ a2 (by omega) (by omega) hmo
          | true =>
            rw [if_neg (by decide), if_pos rfl]
            exact ih (nxr 32 (bm v w) m) n m (pts v w m) Z hXZ a2 (by omega) (by omega) (by omega)
  have hr0 := rnk_0 32 (bm v w)
  have e := key (2 ^ pc 16 (bm v w) - 1) 0 ab_fu 0 0 X (s11_rf X) (wi_0 _) (by have := Nat.two_pow_pos (pc 16 (bm v w)); omega) (by unfold ab_fu; omega) (by decide)
  rw [show wlk (bm v w) (stp v w) 0 (65536 - 0) (0, 0) = bst v w from bst_bm v w] at e
  unfold F_M_bestOf
  have e2 := p_lp (fun n a k => L_M_bestOf_4 n X (nI w) (nI a) k) (fun s m => if bdp v w s = true then m ||| 2 ^ s else m) (fun m => L_M_bestOf_45 ab_fu X (nI w) (nI m) (nI 0) (nI 0) (nI 0)) (v 1) (fun _ => True) (fun _ _ _ _ => trivial) (fun n a _ => ?_) (fun n a k hk _ => ?_) (v 1) 0 0 ab_fu trivial (by omega) (by unfold ab_fu; omega)
  · obtain ⟨Z, hZ, e⟩ := e
    exact ⟨Z, hZ, e2.trans e⟩
  · rw [L_M_bestOf_4, m_shifts h, Option.bind_some, if_pos (nI_le (Nat.le_refl _) (by omega))]
  · have h1 := (hV.2.2.2.1 w k (by omega) (by omega)).1
    rw [L_M_bestOf_4, m_shifts h, Option.bind_some, if_neg (nI_ge hk (by omega)), m_bidOf h hw hB.1 (by omega)]
    simp only [Option.bind_some, p_bit k (by omega), p_or, nI_add, nI_leI (by omega : bd v w k < 2 ^ 31) (by decide : 0 < 2 ^ 31), Nat.le_zero_eq, Nat.or_zero]
    unfold bdp
    by_cases q : bd v w k = 0 <;> simp [q]
theorem bst_lt (v : Nat → Nat) (hV : VV v) (w : Nat) : (bst v w).1 < 2 ^ 31 := by
  unfold bst wlk
  have key : ∀ k m (a : Nat × Nat), m + k = 65536 → a.1 < 2 ^ 31 → (fo (fun x (a : Nat × Nat) => if x &&& cm v w = x then stp v w x a else a) a m k).1 < 2 ^ 31 := by
    intro k
    induction k with
    | zero => intro m a _ h; exact h
    | succ k ih =>
      intro m a hk h
      refine ih (m + 1) _ (by omega) ?_
      show (if m &&& cm v w = m then stp v w m a else a).1 < 2 ^ 31
      split
      · unfold stp
        split
        · exact h
        · split
          · show m < 2 ^ 31
            omega
          · exact h
      · exact h
  exact key 65536 0 (0, 0) (by decide) (by decide)
theorem q_bestSet (h : RC (X 3) v) (g : RM (X 14) v) (hV : VV v) (hb8 : VB v) (a : Int32) : QR (F_C_bestSet X a) [(2, 1)] (F_M_bestSet X a) X := by
  unfold F_C_bestSet F_M_bestSet
  rcases wk_cs h hV a with ⟨w, hw, rfl, _, e1, e2⟩ | ⟨_, e1, e2⟩
  · obtain ⟨Z, hZ, e⟩ := m_bestOf (X := ab_up X 13 0 (nI 0)) (m13 g _ _) hV hb8 hw
    refine qr_ok (nI (bst v w).1) Z ?_ ?_ (s11_sm hZ).1 (s11_sm hZ).2
    · rw [e1, b2_l, c_findBestSet h hV hb8 hw]; rfl
    · rw [e2 X g, Option.bind_some, if_neg n10, th_0, e, b3_s]
  · refine qr_x 2 1 (.head _) ?_ ?_
    · rw [e1, b2_r]
    · rw [e2 X g, Option.bind_some, if_pos rfl, th_k X _ _ (by decide) (by decide)]
theorem q_bestPoints (h : RC (X 3) v) (g : RM (X 14) v) (hV : VV v) (hb8 : VB v) (a : Int32) : QR (F_C_bestPoints X a) [(2, 1)] (F_M_bestPoints X a) X := by
  unfold F_C_bestPoints F_M_bestPoints
  rcases wk_cs h hV a with ⟨w, hw, rfl, _, e1, e2⟩ | ⟨_, e1, e2⟩
  · obtain ⟨Z, hZ, e⟩ := m_bestOf (X := ab_up X 13 0 (nI 0)) (m13 g _ _) hV hb8 hw
    refine qr_ok (nI (pts v w (bst v w).1)) Z ?_ ?_ (s11_sm hZ).1 (s11_sm hZ).2
    · rw [e1, b2_l, c_findBestSet h hV hb8 hw, Option.bind_some, c_pointsForSet h hV hw (bst_lt v hV w)]; rfl
    · rw [e2 X g, Option.bind_some, if_neg n10, th_0, e, b3_s, m_pointsIn (s11_RM hZ (m13 g _ _)) hV hw (bst_lt v hV w)]; rfl
  · refine qr_x 2 1 (.head _) ?_ ?_
    · rw [e1, b2_r]
    · rw [e2 X g, Option.bind_some, if_pos rfl, th_k X _ _ (by decide) (by decide)]
end B
