/-! ===== PURE: the reference keeps a row; what stands between two calls ===== -/
theorem RM_congr {f g : Nat → Int32} {v : Nat → Nat} (hV : VV v) (h : ∀ j, j < 405 → g j = f j) (hf : RM f v) : RM g v := by
  have hB := hV.1
  obtain ⟨h0, h1, h2, h3, h4, h5, h6⟩ := hf
  refine ⟨?_, ?_, ?_, fun w p hw hp => ?_, fun s p hs hp => ?_, fun w s hw hs => ?_, fun i p hi hp => ?_⟩
  · rw [h 0 (by decide)]; exact h0
  · rw [h 51 (by decide)]; exact h1
  · rw [h 308 (by decide)]; exact h2
  · rw [h _ (by omega)]; exact h3 w p hw hp
  · rw [h _ (by omega)]; exact h4 s p hs hp
  · rw [h _ (by omega)]; exact h5 w s hw hs
  · rw [h _ (by omega)]; exact h6 i p hi hp
/-- the class's row f and the reference's row g are one market -/
def GR (f g : Nat → Int32) : Prop := ∃ v, VV v ∧ VB v ∧ RC f v ∧ RM g v
theorem GR_congr {f g f2 g2 : Nat → Int32} (h : GR f g) (h1 : ∀ j, j < 453 → f2 j = f j) (h2 : ∀ j, j < 405 → g2 j = g j) : GR f2 g2 := by
  obtain ⟨v, a, b, c, d⟩ := h
  exact ⟨v, a, b, fun j hj => (h1 j hj).trans (c j hj), RM_congr a h2 d⟩
/-- what keeps does -/
def kps (X Y : ab_XX) (n : Nat) : Prop := (∀ o, o ≠ 13 → o ≠ 14 → Y o = X o) ∧ (∀ j, j ≠ 2 → Y 13 j = X 13 j) ∧ Y 13 2 = nI (min (n + 1) 8) ∧ (∀ r j, j < 405 → (r = 0 ∨ 9 ≤ r) → rwM Y r j = rwM X r j) ∧ (∀ i j, j < 405 → 1 ≤ i → i ≤ min (n + 1) 8 → rwM Y i j = if i = min (n + 1) 8 then rwM X 0 j else if n = 8 then rwM X (i + 1) j else rwM X i j)
theorem rwM_up (X : ab_XX) (i : Nat) (y : Int32) (r : Nat) : rwM (ab_up X 13 i y) r = rwM X r := by
  unfold rwM
  rw [p_up_ne _ _ _ _ _ (by decide)]
theorem m_keeps_last {X : ab_XX} {n : Nat} (hn : n < 8) (h : X 13 2 = nI n) : ∃ Y, ((some (ab_up X 13 2 ((X 13 2) + (nI 1)))).bind fun X483 => ab_b3 (F_M_copies X483 (nI 0) (X483 13 2)) (fun _ X484 => some ((), X484))) = some ((), Y) ∧ kps X Y n := by
  rw [Option.bind_some, p_up_sm, h, nI_add, m_copies _ (by omega) (by omega) (by omega), b3_s]
  refine ⟨_, rfl, fun o h13 h14 => ?_, fun j hj => ?_, ?_, fun r j hj hr => ?_, fun i j hj h1 h2 => ?_⟩
  · rw [cpM_o _ _ _ _ _ h14, p_up_ne _ _ _ _ _ h13]
  · rw [cpM_o _ _ _ _ _ (by decide), p_up_df _ _ _ _ _ hj]
  · rw [cpM_o _ _ _ _ _ (by decide), p_up_sm, show min (n + 1) 8 = n + 1 by omega]
  · rw [cpM_r _ _ _ _ _ hj, if_neg (by omega), rwM_up]
  · rw [cpM_r _ _ _ _ _ hj, rwM_up, rwM_up, show min (n + 1) 8 = n + 1 by omega]
    split
    · rfl
    · rw [if_neg (by omega)]
theorem m_keeps {X : ab_XX} {n : Nat} (hn : n ≤ 8) (h : X 13 2 = nI n) : ∃ Y, F_M_keeps X = some ((), Y) ∧ kps X Y n := by
  unfold F_M_keeps
  by_cases h8 : n = 8
  · subst h8
    rw [h, if_pos rfl]
    have key : ∀ (m k : Nat) (Y : ab_XX) (c : Nat), k + m = 8 → 1 ≤ k → m < c → (∀ o, o ≠ 14 → Y o = X o) → (∀ r j, j < 405 → rwM Y r j = if 1 ≤ r ∧ r < k then rwM X (r + 1) j else rwM X r j) → ∃ Z, L_M_keeps_11 c Y (nI k) = some ((), Z) ∧ kps X Z 8 := by
      intro m
      induction m with
      | zero =>
        intro k Y c hk h1 hc ho hr
        cases c with
        | zero => omega
        | succ c =>
          have hk8 : k = 8 := by omega
          subst hk8
          have hY : Y 13 2 = nI 8 := by rw [ho 13 (by decide)]; exact h
          rw [L_M_keeps_11, if_pos (nI_le (by omega) (by decide)), Option.bind_some, Option.bind_some, p_up_sm, p_up_sm, hY, p_sub (by decide), nI_add, p_up_up]
          rw [show (8 - 1 + 1) = 8 by decide, m_copies _ (by omega) (by omega) (by omega), b3_s]
          refine ⟨_, rfl, fun o h13 h14 => ?_, fun j hj => ?_, ?_, fun r j hj hrr => ?_, fun i j hj hi1 hi2 => ?_⟩
          · rw [cpM_o _ _ _ _ _ h14, p_up_ne _ _ _ _ _ h13, ho o h14]
          · rw [cpM_o _ _ _ _ _ (by decide), p_up_df _ _ _ _ _ hj, ho 13 (by decide)]
          · rw [cpM_o _ _ _ _ _ (by decide), p_up_sm]
            rfl
          · rw [cpM_r _ _ _ _ _ hj, if_neg (by omega), rwM_up, hr r j hj, if_neg (by omega)]
          · rw [cpM_r _ _ _ _ _ hj, rwM_up, rwM_up, show min (8 + 1) 8 = 8 by decide]
            by_cases h9 : i = 8
            · rw [if_pos h9, if_pos h9, hr 0 j hj, if_neg (by omega)]
            · rw [if_neg h9, if_neg h9, if_pos rfl, hr i j hj, if_pos (by omega)]
      | succ m ih =>
        intro k Y c hk h1 hc ho hr
        cases c with
        | zero => omega
        | succ c =>
          rw [L_M_keeps_11, if_neg (nI_ge (by omega) (by decide)), nI_add, m_copies _ (by omega) (by omega) (by omega), b3_s]
          refine ih (k + 1) _ c (by omega) (by omega) (by omega) (fun o h14 => ?_) (fun r j hj => ?_)
          · rw [cpM_o _ _ _ _ _ h14, ho o h14]
          · rw [cpM_r _ _ _ _ _ hj, hr _ j hj, hr _ j hj]
            by_cases hrk : r = k
            · subst hrk
              rw [if_pos rfl, if_neg (by omega), if_pos (by omega)]
            · rw [if_neg hrk]
              by_cases h5 : 1 ≤ r ∧ r < k
              · rw [if_pos h5, if_pos (by omega)]
              · rw [if_neg h5, if_neg (by omega)]
    exact key 7 1 X ab_fu (by decide) (by decide) (by decide) (fun _ _ => rfl) (fun r j hj => by rw [if_neg (by omega)])
  · rw [if_neg (fun z => h8 ((nI_eq (by omega) (by decide)).mp (h.symm.trans z)))]
    exact m_keeps_last (by omega) h
/-- the history: n kept, the next place nx -/
def HI (X : ab_XX) (nx n : Nat) : Prop := nx < 8 ∧ n ≤ 8 ∧ X 4 1 = nI nx ∧ X 4 2 = nI n ∧ X 13 2 = nI n ∧ ∀ i, 1 ≤ i → i ≤ n → GR (rwC X 5 (453 * ((nx + 7 + i - n) % 8))) (rwM X i)
def SV (X : ab_XX) : Prop := X 13 3 = X 0 7 ∧ (¬ X 0 7 = nI 0 → GR (X 12) (rwM X 9))
def TX (X : ab_XX) : Prop := (∃ L, L ≤ 80 ∧ X 6 1 = nI L ∧ X 13 5 = nI L ∧ ∀ j, j < L → X 7 j = X 15 j) ∧ X 0 8 = X 13 7 ∧ X 0 9 = X 13 8
def RS (X : ab_XX) : Prop := X 10 0 = X 13 12 ∧ X 10 1 = X 13 13 ∧ X 10 2 = X 13 14
def Inv (X : ab_XX) : Prop := GR (X 3) (X 14) ∧ (∃ nx n, HI X nx n) ∧ SV X ∧ TX X ∧ RS X
theorem rwM_0 (X : ab_XX) (j : Nat) : rwM X 0 j = X 14 j := by
  unfold rwM
  rw [Nat.mul_zero, Nat.zero_add]
/-- one change: the class's row is remembered, the reference keeps its own; then both rows may become others -/
theorem HI_keep {X X1 Y : ab_XX} {nx n : Nat} (h : HI X nx n) (hg : GR (X 3) (X 14)) (h4a : X1 4 1 = nI ((nx + 1) % 8)) (h4b : X1 4 2 = nI (min (n + 1) 8)) (h5 : ∀ i, X1 5 i = if 453 * nx ≤ i ∧ i < 453 * nx + 453 then X 3 (i - 453 * nx) else X 5 i)
    (hY4 : Y 4 = X1 4) (hY5 : Y 5 = X1 5) (hY13 : Y 13 2 = nI (min (n + 1) 8)) (hr : ∀ i j, j < 405 → 1 ≤ i → i ≤ min (n + 1) 8 → rwM Y i j = if i = min (n + 1) 8 then rwM X 0 j else if n = 8 then rwM X (i + 1) j else rwM X i j) : HI Y ((nx + 1) % 8) (min (n + 1) 8) := by
  obtain ⟨hx, hn, _, _, _, hrow⟩ := h
  refine ⟨Nat.mod_lt _ (by decide), by omega, by rw [hY4]; exact h4a, by rw [hY4]; exact h4b, hY13, fun i h1 h2 => ?_⟩
  by_cases hi : i = min (n + 1) 8
  · refine GR_congr hg (fun j hj => ?_) (fun j hj => ?_)
    · unfold rwC
      rw [hY5, h5, show ((nx + 1) % 8 + 7 + i - min (n + 1) 8) % 8 = nx by omega, if_pos (by omega)]
      congr 1
      omega
    · rw [hr i j hj h1 h2, if_pos hi, rwM_0]
  · by_cases h8 : n = 8
    · refine GR_congr (hrow (i + 1) (by omega) (by omega)) (fun j hj => ?_) (fun j hj => ?_)
      · unfold rwC
        rw [hY5, h5, show ((nx + 1) % 8 + 7 + i - min (n + 1) 8) % 8 = (nx + 7 + (i + 1) - n) % 8 by omega, if_neg (by omega)]
      · rw [hr i j hj h1 h2, if_neg hi, if_pos h8]
    · refine GR_congr (hrow i h1 (by omega)) (fun j hj => ?_) (fun j hj => ?_)
      · unfold rwC
        rw [hY5, h5, show ((nx + 1) % 8 + 7 + i - min (n + 1) 8) % 8 = (nx + 7 + i - n) % 8 by omega, if_neg (by omega)]
      · rw [hr i j hj h1 h2, if_neg hi, if_neg h8]
