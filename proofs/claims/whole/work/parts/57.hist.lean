/-! ===== PURE: rows copied, the changes that can be taken back ===== -/
def rwC (X : ab_XX) (o a : Nat) : Nat → Int32 := fun j => X o (a + j)
def rwM (X : ab_XX) (i : Nat) : Nat → Int32 := fun j => X 14 (405 * i + j)
theorem h_row3 {a : Nat} (h : a ≤ 0) : F_K_isRowAt_3 (nI a) = some (nI 1) := by
  have : a = 0 := by omega
  subst this
  decide +kernel
theorem h_row5 {a : Nat} (h : a ≤ 3171) : F_K_isRowAt_5 (nI a) = some (nI 1) := by
  unfold F_K_isRowAt_5
  rw [if_neg (nI_nlt (Nat.zero_le _) (by omega)), p_sub (by decide), if_neg (nI_nlt (by omega) (by decide))]
theorem h_row11 : F_K_isRowAt_11 (nI 0) = some (nI 1) := by decide +kernel
theorem h_row12 : F_K_isRowAt_12 (nI 0) = some (nI 1) := by decide +kernel
theorem h_cond {a b la lb : Nat} (ha : a + 453 ≤ la) (hb : b + 453 ≤ lb) (hla : la < 2 ^ 31) (hlb : lb < 2 ^ 31) : ¬ nI a < 0 ∧ ¬ nI b < 0 ∧ ¬ (nI 453) < 0 ∧ (nI a).toNatClampNeg + (nI 453).toNatClampNeg ≤ la ∧ (nI b).toNatClampNeg + (nI 453).toNatClampNeg ≤ lb := by
  rw [nI_clamp (by omega), nI_clamp (by omega), nI_clamp (by omega)]
  exact ⟨nI_pos (by omega), nI_pos (by omega), nI_pos (by omega), ha, hb⟩
theorem h_cpy_o (X : ab_XX) (s d a b n o : Nat) (h : o ≠ d) : ab_cpy X s d a b n o = X o := if_neg h
theorem h_cpy_in (X : ab_XX) (s d a b j : Nat) (hj : j < 453) : ab_cpy X s d a b 453 d (b + j) = X s (a + j) := by
  unfold ab_cpy va_cpy
  rw [if_pos rfl, if_pos (by omega)]
  congr 1
  omega
theorem h_cpy_out (X : ab_XX) (s d a b i : Nat) (hi : i < b ∨ b + 453 ≤ i) : ab_cpy X s d a b 453 d i = X d i := by
  unfold ab_cpy va_cpy
  rw [if_pos rfl, if_neg (by omega)]
theorem h_35 (X : ab_XX) {b : Nat} (hb : b ≤ 3171) : F_K_copyRow_3_5 X (nI 0) (nI b) = some ((), ab_cpy X 3 5 0 b 453) := by
  unfold F_K_copyRow_3_5
  rw [h_row3 (Nat.le_refl _), Option.bind_some, if_neg n10, h_row5 hb, Option.bind_some, if_neg n10, if_pos (h_cond (by decide) (by show b + 453 ≤ 3624; omega) (by decide) (by decide)), nI_clamp (by omega), nI_clamp (by omega), nI_clamp (by omega)]
  rfl
theorem h_53 (X : ab_XX) {b : Nat} (hb : b ≤ 3171) : F_K_copyRow_5_3 X (nI b) (nI 0) = some ((), ab_cpy X 5 3 b 0 453) := by
  unfold F_K_copyRow_5_3
  rw [h_row5 hb, Option.bind_some, if_neg n10, h_row3 (Nat.le_refl _), Option.bind_some, if_neg n10, if_pos (h_cond (by show b + 453 ≤ 3624; omega) (by decide) (by decide) (by decide)), nI_clamp (by omega), nI_clamp (by omega), nI_clamp (by omega)]
  rfl
theorem h_115 (X : ab_XX) {b : Nat} (hb : b ≤ 3171) : F_K_copyRow_11_5 X (nI 0) (nI b) = some ((), ab_cpy X 11 5 0 b 453) := by
  unfold F_K_copyRow_11_5
  rw [h_row11, Option.bind_some, if_neg n10, h_row5 hb, Option.bind_some, if_neg n10, if_pos (h_cond (by decide) (by show b + 453 ≤ 3624; omega) (by decide) (by decide)), nI_clamp (by omega), nI_clamp (by omega), nI_clamp (by omega)]
  rfl
theorem h_113 (X : ab_XX) : F_K_copyFrom_11 X = some ((), ab_cpy X 11 3 0 0 453) := by
  unfold F_K_copyFrom_11 F_K_copyRow_11_3
  rw [h_row11, Option.bind_some, if_neg n10, h_row3 (Nat.le_refl _), Option.bind_some, if_neg n10, if_pos (h_cond (by decide) (by decide) (by decide) (by decide)), nI_clamp (by decide), nI_clamp (by decide)]
  rfl
theorem h_311 (X : ab_XX) : F_K_copyTo_11 X = some ((), ab_cpy X 3 11 0 0 453) := by
  unfold F_K_copyTo_11 F_K_copyRow_3_11
  rw [h_row11, Option.bind_some, h_row3 (Nat.le_refl _), Option.bind_some, if_neg n10, if_neg n10, if_pos (h_cond (by decide) (by decide) (by decide) (by decide)), nI_clamp (by decide), nI_clamp (by decide)]
  rfl
theorem h_123 (X : ab_XX) : F_K_copyFrom_12 X = some ((), ab_cpy X 12 3 0 0 453) := by
  unfold F_K_copyFrom_12 F_K_copyRow_12_3
  rw [h_row12, Option.bind_some, if_neg n10, h_row3 (Nat.le_refl _), Option.bind_some, if_neg n10, if_pos (h_cond (by decide) (by decide) (by decide) (by decide)), nI_clamp (by decide), nI_clamp (by decide)]
  rfl
theorem h_312 (X : ab_XX) : F_K_copyTo_12 X = some ((), ab_cpy X 3 12 0 0 453) := by
  unfold F_K_copyTo_12 F_K_copyRow_3_12
  rw [h_row12, Option.bind_some, h_row3 (Nat.le_refl _), Option.bind_some, if_neg n10, if_neg n10, if_pos (h_cond (by decide) (by decide) (by decide) (by decide)), nI_clamp (by decide), nI_clamp (by decide)]
  rfl
theorem h_mod8 : ∀ a, a < 16 → nI a - nI a / nI 8 * nI 8 = nI (a % 8) := by decide +kernel
/-- remembering a row (of object s) -/
def rmb (X : ab_XX) (s nx n : Nat) : ab_XX := ab_up (ab_up (ab_cpy X s 5 0 (453 * nx) 453) 4 1 (nI ((nx + 1) % 8))) 4 2 (nI (min (n + 1) 8))
theorem h_rmb_tail (Y : ab_XX) {nx n : Nat} (h1 : Y 4 1 = nI nx) (h2 : Y 4 2 = nI n) (hx : nx < 8) (hn : n ≤ 8) : ((some (ab_up Y 4 1 (((Y 4 1) + (nI 1)) - ((Y 4 1) + (nI 1)) / (nI 8) * (nI 8)))).bind fun X69 => (some (ab_up X69 4 2 (if nI 8 < ((X69 4 2) + (nI 1)) then nI 8 else ((X69 4 2) + (nI 1))))).bind fun X70 => some ((), X70)) = some ((), ab_up (ab_up Y 4 1 (nI ((nx + 1) % 8))) 4 2 (nI (min (n + 1) 8))) := by
  rw [Option.bind_some, Option.bind_some, p_up_df _ _ _ _ _ (by decide), h1, h2, nI_add, h_mod8 _ (by omega), nI_add]
  by_cases h : n = 8
  · rw [if_pos (nI_lt (by omega) (by omega)), show min (n + 1) 8 = 8 by omega]
  · rw [if_neg (nI_nlt (by omega) (by omega)), show min (n + 1) 8 = n + 1 by omega]
theorem h_remember_3 {X : ab_XX} {nx n : Nat} (h1 : X 4 1 = nI nx) (h2 : X 4 2 = nI n) (hx : nx < 8) (hn : n ≤ 8) : F_H_remember_3 X = some ((), rmb X 3 nx n) := by
  unfold F_H_remember_3
  rw [h1, p_mul, Nat.mul_comm nx 453, h_35 X (by omega), b3_s]
  exact h_rmb_tail (ab_cpy X 3 5 0 (453 * nx) 453) (by rw [h_cpy_o _ _ _ _ _ _ _ (by decide)]; exact h1) (by rw [h_cpy_o _ _ _ _ _ _ _ (by decide)]; exact h2) hx hn
theorem h_remember_11 {X : ab_XX} {nx n : Nat} (h1 : X 4 1 = nI nx) (h2 : X 4 2 = nI n) (hx : nx < 8) (hn : n ≤ 8) : F_H_remember_11 X = some ((), rmb X 11 nx n) := by
  unfold F_H_remember_11
  rw [h1, p_mul, Nat.mul_comm nx 453, h_115 X (by omega), b3_s]
  exact h_rmb_tail (ab_cpy X 11 5 0 (453 * nx) 453) (by rw [h_cpy_o _ _ _ _ _ _ _ (by decide)]; exact h1) (by rw [h_cpy_o _ _ _ _ _ _ _ (by decide)]; exact h2) hx hn
/-- the reference copies a row -/
def cpM (X : ab_XX) (a b m : Nat) : ab_XX := fun o => if o = 14 then fun i => if 405 * b ≤ i ∧ i < 405 * b + m then X 14 (405 * a + (i - 405 * b)) else X 14 i else X o
theorem m_copies (X : ab_XX) {a b : Nat} (ha : a ≤ 10) (hb : b ≤ 10) (hab : a ≠ b) : F_M_copies X (nI a) (nI b) = some ((), cpM X a b 405) := by
  have key : ∀ (m k n : Nat), k + m = 405 → m < n → L_M_copies_2 n (cpM X a b k) (nI a) (nI b) (nI k) = some ((), cpM X a b 405) := by
    intro m
    induction m with
    | zero =>
      intro k n hk hn
      cases n with
      | zero => omega
      | succ n => rw [L_M_copies_2, if_pos (nI_le (by omega) (by omega)), show k = 405 by omega]
    | succ m ih =>
      intro k n hk hn
      cases n with
      | zero => omega
      | succ n =>
        rw [L_M_copies_2, if_neg (nI_ge (by omega) (by omega)), p_mul, p_mul, nI_add, nI_add, nI_add, if_pos (p_in (by omega) (by decide)), Option.bind_some, if_pos (p_in (by omega) (by decide)), nI_clamp (by omega), nI_clamp (by omega), Option.bind_some]
        refine Eq.trans ?_ (ih (k + 1) n (by omega) (by omega))
        congr 1
        funext o i
        unfold ab_up cpM upd
        by_cases ho : o = 14
        · subst ho
          simp only [if_true]
          by_cases hi : i = 405 * b + k
          · subst hi
            rw [if_pos rfl, if_neg (by omega), if_pos (by omega), show 405 * a + (405 * b + k - 405 * b) = 405 * a + k by omega]
          · rw [if_neg hi]
            by_cases h2 : 405 * b ≤ i ∧ i < 405 * b + k
            · rw [if_pos h2, if_pos (by omega)]
            · rw [if_neg h2, if_neg (by omega)]
        · rw [if_neg ho, if_neg ho, if_neg ho]
  have e0 : cpM X a b 0 = X := by
    funext o i
    unfold cpM
    by_cases ho : o = 14
    · subst ho
      rw [if_pos rfl, if_neg (by omega)]
    · rw [if_neg ho]
  have := key 405 0 ab_fu (by decide) (by decide)
  rw [e0] at this
  exact this
theorem cpM_o (X : ab_XX) (a b m o : Nat) (h : o ≠ 14) : cpM X a b m o = X o := if_neg h
theorem cpM_r (X : ab_XX) (a b i : Nat) : ∀ j, j < 405 → rwM (cpM X a b 405) i j = if i = b then rwM X a j else rwM X i j := by
  intro j hj
  unfold rwM cpM
  rw [if_pos rfl]
  by_cases h : i = b
  · subst h
    rw [if_pos (by omega), if_pos rfl, show 405 * a + (405 * i + j - 405 * i) = 405 * a + j by omega]
  · rw [if_neg (by omega), if_neg h]
