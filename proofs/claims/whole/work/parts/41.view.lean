/-! ===== PURE: the view of a market's row, in the class and in the reference ===== -/
def wk (v : Nat → Nat) (w p : Nat) : Nat := v (3 + w * 5 + p)
def sh (v : Nat → Nat) (s p : Nat) : Nat := v (53 + s * 9 + p)
def bd (v : Nat → Nat) (w s : Nat) : Nat := v (197 + w * 16 + s)
def aw (v : Nat → Nat) (i p : Nat) : Nat := v (357 + i * 2 + p)
def RC (f : Nat → Int32) (v : Nat → Nat) : Prop := ∀ j, j < 453 → f j = nI (v j)
def RM (g : Nat → Int32) (v : Nat → Nat) : Prop := g 0 = nI (v 0) ∧ g 51 = nI (v 1) ∧ g 308 = nI (v 2) ∧ (∀ w p, w < v 0 → p < 5 → g (1 + 5 * w + p) = nI (wk v w p)) ∧ (∀ s p, s < v 1 → p < 6 → g (52 + 6 * s + p) = nI (sh v s p)) ∧ (∀ w s, w < v 0 → s < 16 → g (148 + 16 * w + s) = nI (bd v w s)) ∧ (∀ i p, i < v 2 → p < 2 → g (309 + 2 * i + p) = nI (aw v i p))
/-- how many of the first n -/
def cn (p : Nat → Bool) : Nat → Nat
  | 0 => 0
  | n + 1 => cn p n + (p n).toNat
def cov (v : Nat → Nat) (s : Nat) : Nat := cn (fun i => decide (aw v i 1 = s)) (v 2)
def VV (v : Nat → Nat) : Prop := (v 0 ≤ 10 ∧ v 1 ≤ 16 ∧ v 2 ≤ 48) ∧
  (∀ w, w < v 0 → wk v w 0 ≤ 99 ∧ wk v w 1 ≤ 24 ∧ wk v w 2 ≤ 168 ∧ wk v w 3 ≤ 28 ∧ wk v w 4 ≤ 15) ∧
  (∀ s, s < v 1 → sh v s 0 ≤ 27 ∧ sh v s 1 ≤ 23 ∧ 1 ≤ sh v s 2 ∧ sh v s 2 ≤ 12 ∧ sh v s 3 ≤ 3 ∧ 1 ≤ sh v s 4 ∧ sh v s 4 ≤ 3 ∧ sh v s 5 ≤ 3 ∧ sh v s 6 = 24 * sh v s 0 + sh v s 1 ∧ sh v s 7 = sh v s 6 + sh v s 2 ∧ sh v s 8 = sh v s 0 / 7) ∧
  (∀ w s, w < 10 → s < 16 → bd v w s ≤ 9 ∧ (v 0 ≤ w ∨ v 1 ≤ s → bd v w s = 0)) ∧
  (∀ i, i < v 2 → aw v i 0 < v 0 ∧ aw v i 1 < v 1) ∧
  (∀ s, s < v 1 → cov v s ≤ sh v s 4) ∧
  (∀ i j, i < j → j < v 2 → aw v i 0 = aw v j 0 → sh v (aw v i 1) 7 ≤ sh v (aw v j 1) 6 ∨ sh v (aw v j 1) 7 ≤ sh v (aw v i 1) 6)
section G
variable {X : ab_XX} {v : Nat → Nat}
theorem g_nI_nn {n : Nat} (h : n < 453) : ¬ nI n < nI 0 := nI_nlt (Nat.zero_le _) (by omega)
theorem g_nI_nge {n : Nat} (h : n < 453) : ¬ nI 453 ≤ nI n := nI_ge h (by decide)
theorem c_row {f : Nat → Int32} (h : RC f v) {j : Nat} (hj : j < 453) : f j = nI (v j) := h j hj
theorem c_get {α : Type} (h : RC (X 3) v) {j : Nat} (hj : j < 453) (k : Int32 → Option α) (z : Option α) : (if nI j < nI 0 then z else if nI 453 ≤ nI j then z else if ab_in (nI j) 453 = true then (some (X 3 (nI j).toNatClampNeg)).bind k else none) = k (nI (v j)) := by
  rw [if_neg (g_nI_nn hj), if_neg (g_nI_nge hj), if_pos (p_in hj (by decide)), nI_clamp (by omega), c_row h hj]
  rfl
theorem c_workerTotal (h : RC (X 3) v) : F_K_workerTotal X = some (nI (v 0)) := congrArg some (h 0 (by decide))
theorem c_shiftTotal (h : RC (X 3) v) : F_K_shiftTotal X = some (nI (v 1)) := congrArg some (h 1 (by decide))
theorem c_awardTotal (h : RC (X 3) v) : F_K_awardTotal X = some (nI (v 2)) := congrArg some (h 2 (by decide))
theorem c_0 (h : RC (X 3) v) : X 3 0 = nI (v 0) := h 0 (by decide)
theorem c_1 (h : RC (X 3) v) : X 3 1 = nI (v 1) := h 1 (by decide)
theorem c_2 (h : RC (X 3) v) : X 3 2 = nI (v 2) := h 2 (by decide)
theorem c_workerPart (h : RC (X 3) v) {w p : Nat} (hw : w < 10) (hp : p < 5) : F_K_workerPart X (nI w) (nI p) = some (nI (wk v w p)) := by
  unfold F_K_workerPart
  rw [p_mul, nI_add, nI_add]
  exact c_get h (by omega) _ _
theorem c_shiftPart (h : RC (X 3) v) {s p : Nat} (hs : s < 16) (hp : p < 9) : F_K_shiftPart X (nI s) (nI p) = some (nI (sh v s p)) := by
  unfold F_K_shiftPart
  rw [p_mul, nI_add, nI_add]
  exact c_get h (by omega) _ _
theorem c_pointsFor (h : RC (X 3) v) {w s : Nat} (hw : w < 10) (hs : s < 16) : F_K_pointsFor X (nI w) (nI s) = some (nI (bd v w s)) := by
  unfold F_K_pointsFor
  rw [p_mul, nI_add, nI_add]
  exact c_get h (by omega) _ _
theorem c_awardPart (h : RC (X 3) v) {i p : Nat} (hi : i < 48) (hp : p < 2) : F_K_awardPart X (nI i) (nI p) = some (nI (aw v i p)) := by
  unfold F_K_awardPart
  rw [p_mul, nI_add, nI_add]
  exact c_get h (by omega) _ _
theorem c_put (X : ab_XX) {j : Nat} (hj : j < 453) (y : Int32) : F_K_put X (nI j) y = some ((), ab_up X 3 j y) := by
  unfold F_K_put
  rw [if_neg (g_nI_nn hj), if_neg (g_nI_nge hj), if_pos (p_in hj (by decide)), nI_clamp (by omega)]
  rfl
theorem m_workers (h : RM (X 14) v) : F_M_workers X = some (nI (v 0)) := congrArg some h.1
theorem m_shifts (h : RM (X 14) v) : F_M_shifts X = some (nI (v 1)) := congrArg some h.2.1
theorem m_awards (h : RM (X 14) v) : F_M_awards X = some (nI (v 2)) := congrArg some h.2.2.1
theorem m_of (h : RM (X 14) v) {w p : Nat} (hw : w < v 0) (hv : v 0 ≤ 10) (hp : p < 5) : F_M_of X (nI w) (nI p) = some (nI (wk v w p)) := by
  unfold F_M_of
  rw [p_mul, nI_add, nI_add, if_pos (p_in (by omega) (by decide)), nI_clamp (by omega), h.2.2.2.1 w p hw hp]
  rfl
theorem m_ofShift (h : RM (X 14) v) {s p : Nat} (hs : s < v 1) (hv : v 1 ≤ 16) (hp : p < 6) : F_M_ofShift X (nI s) (nI p) = some (nI (sh v s p)) := by
  unfold F_M_ofShift
  rw [p_mul, nI_add, nI_add, if_pos (p_in (by omega) (by decide)), nI_clamp (by omega), h.2.2.2.2.1 s p hs hp]
  rfl
theorem m_bidOf (h : RM (X 14) v) {w s : Nat} (hw : w < v 0) (hv : v 0 ≤ 10) (hs : s < 16) : F_M_bidOf X (nI w) (nI s) = some (nI (bd v w s)) := by
  unfold F_M_bidOf
  rw [p_mul, nI_add, nI_add, if_pos (p_in (by omega) (by decide)), nI_clamp (by omega), h.2.2.2.2.2.1 w s hw hs]
  rfl
theorem m_awardWorker (h : RM (X 14) v) {i : Nat} (hi : i < v 2) (hv : v 2 ≤ 48) : F_M_awardWorker X (nI i) = some (nI (aw v i 0)) := by
  unfold F_M_awardWorker
  rw [p_mul, nI_add, if_pos (p_in (by omega) (by decide)), nI_clamp (by omega)]
  exact congrArg some (h.2.2.2.2.2.2 i 0 hi (by decide))
theorem m_awardShift (h : RM (X 14) v) {i : Nat} (hi : i < v 2) (hv : v 2 ≤ 48) : F_M_awardShift X (nI i) = some (nI (aw v i 1)) := by
  unfold F_M_awardShift
  rw [p_mul, nI_add, nI_add, if_pos (p_in (by omega) (by decide)), nI_clamp (by omega)]
  exact congrArg some (h.2.2.2.2.2.2 i 1 hi (by decide))
end G
