/-! ===== PURE: days in a row, sums ===== -/
def rn (P : Nat → Bool) (k : Nat) : Nat := k - dn P k
/-- the longest run that ends before n -/
def mrn (P : Nat → Bool) : Nat → Nat
  | 0 => 0
  | n + 1 => max (mrn P n) (rn P (n + 1))
def mro (P : Nat → Bool) : Nat → Nat
  | 0 => 0
  | n + 1 => if P n = true then max (mro P n) (sq P n) else mro P n
theorem rn_succ (P : Nat → Bool) (k : Nat) : rn P (k + 1) = bif P k then rn P k + 1 else 0 := by
  have := dn_le P k
  unfold rn
  rw [dn]
  cases P k with
  | true => simp only [cond_true]; omega
  | false => simp only [cond_false]; omega
theorem mrn_ge (P : Nat → Bool) : ∀ n k, k ≤ n → rn P k ≤ mrn P n := by
  intro n
  induction n with
  | zero => intro k hk; rw [show k = 0 by omega]; exact Nat.le_refl _
  | succ n ih =>
    intro k hk
    unfold mrn
    by_cases h : k = n + 1
    · rw [h]; omega
    · have := ih k (by omega)
      omega
theorem dn_up (P : Nat → Bool) (d : Nat) : ∀ m k, d ≤ k → (dn P k = dn P d) → dn P (up P k m) = dn P d := by
  intro m
  induction m with
  | zero => intro k _ h; exact h
  | succ m ih =>
    intro k hk h
    unfold up
    cases hp : P k with
    | true =>
      refine ih (k + 1) (by omega) ?_
      rw [dn, hp]
      exact h
    | false => exact h
theorem mro_le (P : Nat → Bool) : ∀ n, n ≤ 28 → mro P n ≤ mrn P 28 := by
  intro n
  induction n with
  | zero => intro _; exact Nat.zero_le _
  | succ n ih =>
    intro hn
    have h1 := ih (by omega)
    unfold mro
    split
    · rename_i hp
      have h2 := up_ge P (27 - n) (n + 1)
      have h3 : dn P (up P (n + 1) (27 - n)) = dn P n := dn_up P n (27 - n) (n + 1) (by omega) (by rw [dn, hp]; rfl)
      have h4 := mrn_ge P 28 (up P (n + 1) (27 - n)) (by omega)
      unfold rn at h4
      rw [h3] at h4
      unfold sq
      omega
    · exact h1
theorem mro_ge (P : Nat → Bool) : ∀ n k, k < n → P k = true → sq P k ≤ mro P n := by
  intro n
  induction n with
  | zero => intro k hk; omega
  | succ n ih =>
    intro k hk hp
    unfold mro
    by_cases h : k = n
    · subst h
      rw [if_pos hp]
      omega
    · have := ih k (by omega) hp
      split <;> omega
theorem mrn_le (P : Nat → Bool) : ∀ n, n ≤ 28 → mrn P n ≤ mro P 28 := by
  intro n
  induction n with
  | zero => intro _; exact Nat.zero_le _
  | succ n ih =>
    intro hn
    have h1 := ih (by omega)
    unfold mrn
    rw [rn_succ]
    cases hp : P n with
    | false => simp only [cond_false]; omega
    | true =>
      have h2 := mro_ge P 28 n (by omega) hp
      have h3 := (up_ge P (27 - n) (n + 1)).1
      have h4 := dn_le P n
      unfold sq at h2
      unfold rn
      simp only [cond_true]
      omega
theorem mrn_mro (P : Nat → Bool) : mrn P 28 = mro P 28 := Nat.le_antisymm (mrn_le P 28 (Nat.le_refl _)) (mro_le P 28 (Nat.le_refl _))
theorem mrn_b (P : Nat → Bool) : ∀ n, mrn P n ≤ n := by
  intro n
  induction n with
  | zero => exact Nat.le_refl _
  | succ n ih =>
    unfold mrn rn
    omega
section SU
variable {X : ab_XX} {v : Nat → Nat}
theorem c_longestSequence (h : RC (X 3) v) (hV : VV v) {set : Nat} (hs : set < 2 ^ 31) : F_U_longestSequence X (nI set) = some (nI (mrn (dy v set) 28)) := by
  unfold F_U_longestSequence
  rw [c_daysOf h hV hs, Option.bind_some]
  have hd := Nat.lt_trans (dym_lt hV set) (by decide : 2 ^ 28 < 2 ^ 31)
  have key : ∀ (m k n : Nat), k + m = 28 → m < n → L_U_longestSequence_14 X n (nI (dym v set (v 1))) (nI (mrn (dy v set) k)) (nI (rn (dy v set) k)) (nI k) = some (nI (mrn (dy v set) 28)) := by
    intro m
    induction m with
    | zero =>
      intro k n hk hn
      cases n with
      | zero => omega
      | succ n => rw [L_U_longestSequence_14, if_pos (nI_le (by omega) (by omega)), show k = 28 by omega]
    | succ m ih =>
      intro k n hk hn
      cases n with
      | zero => omega
      | succ n =>
        have h1 := mrn_b (dy v set) k
        have h2 : rn (dy v set) k ≤ k := Nat.sub_le _ _
        rw [L_U_longestSequence_14, if_neg (nI_ge (by omega) (by omega)), c_isIn hd (by omega), dym_dy]
        simp only [Option.bind_some, p_b0, nI_add, nI_ltI (by omega : mrn (dy v set) k < 2 ^ 31) (by omega : rn (dy v set) k + 1 < 2 ^ 31), nI_ltI (by omega : mrn (dy v set) k < 2 ^ 31) (by decide : 0 < 2 ^ 31)]
        have ih := ih (k + 1) n (by omega) (by omega)
        rw [rn_succ] at ih
        rw [mrn, rn_succ] at ih
        cases hp : dy v set k with
        | false =>
          rw [hp] at ih
          rw [if_pos rfl, if_neg (by omega)]
          rw [show max (mrn (dy v set) k) (bif false then rn (dy v set) k + 1 else 0) = mrn (dy v set) k by simp] at ih
          exact ih
        | true =>
          rw [hp] at ih
          rw [if_neg (by decide)]
          simp only [cond_true] at ih
          by_cases q : mrn (dy v set) k < rn (dy v set) k + 1
          · rw [if_pos q]
            rw [show max (mrn (dy v set) k) (rn (dy v set) k + 1) = rn (dy v set) k + 1 by omega] at ih
            exact ih
          · rw [if_neg q]
            rw [show max (mrn (dy v set) k) (rn (dy v set) k + 1) = mrn (dy v set) k by omega] at ih
            exact ih
  exact key 28 0 ab_fu (by decide) (by decide)
theorem m_daysInRow_37 (h : RM (X 14) v) (hV : VV v) {set : Nat} (hs : set < 2 ^ 31) : L_M_daysInRow_37 ab_fu X (nI set) (nI 0) (nI 0) = some (nI (mro (dy v set) 28), X) := by
  have key : ∀ (m k n : Nat), k + m = 28 → m < n → L_M_daysInRow_37 n X (nI set) (nI (mro (dy v set) k)) (nI k) = some (nI (mro (dy v set) 28), X) := by
    intro m
    induction m with
    | zero =>
      intro k n hk hn
      cases n with
      | zero => omega
      | succ n => rw [L_M_daysInRow_37, if_pos (nI_le (by omega) (by omega)), show k = 28 by omega]
    | succ m ih =>
      intro k n hk hn
      cases n with
      | zero => omega
      | succ n =>
        have h1 : mro (dy v set) k ≤ 28 := Nat.le_trans (mro_le (dy v set) k (by omega)) (mrn_b (dy v set) 28)
        have h2 := sq_le (dy v set) (by omega : k < 28)
        rw [L_M_daysInRow_37, if_neg (nI_ge (by omega) (by omega)), m_isDay h hV hs (by omega), m_rowAbout h hV hs (by omega)]
        simp only [Option.bind_some, p_b0, nI_add, nI_leI (by omega : sq (dy v set) k < 2 ^ 31) (by omega : mro (dy v set) k < 2 ^ 31)]
        have ih := ih (k + 1) n (by omega) (by omega)
        rw [mro] at ih
        cases hp : dy v set k with
        | false =>
          rw [hp, if_neg (by decide)] at ih
          rw [if_pos rfl]
          exact ih
        | true =>
          rw [hp, if_pos rfl] at ih
          rw [if_neg (by decide)]
          by_cases q : sq (dy v set) k ≤ mro (dy v set) k
          · rw [if_pos q]
            rw [show max (mro (dy v set) k) (sq (dy v set) k) = mro (dy v set) k by omega] at ih
            exact ih
          · rw [if_neg q]
            rw [show max (mro (dy v set) k) (sq (dy v set) k) = sq (dy v set) k by omega] at ih
            exact ih
  exact key 28 0 ab_fu (by decide) (by decide)
theorem q_daysInRow (h : RC (X 3) v) (g : RM (X 14) v) (hV : VV v) (a : Int32) : QR (F_C_daysInRow X a) [(2, 1)] (F_M_daysInRow X a) X := by
  have hB := hV.1
  unfold F_C_daysInRow F_M_daysInRow
  rcases wk_cs h hV a with ⟨w, hw, rfl, _, e1, e2⟩ | ⟨_, e1, e2⟩
  · refine qr_k (nI (mrn (dy v (hb v 0 1 w (v 2))) 28)) ?_ ?_
    · rw [e1, b2_l, c_heldBy h hV (by omega), Option.bind_some, c_longestSequence h hV (hb31 hV w)]; rfl
    · rw [e2 X g, Option.bind_some, if_neg n10, th_0, m_heldBy (m13 g _ _) hV (by omega), Option.bind_some, m_daysInRow_37 (m13 g _ _) hV (hb31 hV w), mrn_mro]
  · refine qr_x 2 1 (.head _) ?_ ?_
    · rw [e1, b2_r]
    · rw [e2 X g, Option.bind_some, if_pos rfl, th_k X _ _ (by decide) (by decide)]
/-- what the needs are together -/
def nds (v : Nat → Nat) : Nat := fo (fun s a => a + sh v s 4) 0 0 (v 1)
theorem fd_dec : ∀ a, a < 49 → ∀ b, b < 49 → b = 0 ∨ ab_n32 (FP.fdiv (FP.i2f (nI a)) (FP.i2f (nI b))) = true := by decide +kernel
end SU
