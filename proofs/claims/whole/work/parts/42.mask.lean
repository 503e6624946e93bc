/-! ===== PURE: who holds what ===== -/
theorem fo_snoc {A : Type} (st : Nat → A → A) : ∀ (m k : Nat) (a : A), fo st a k (m + 1) = st (k + m) (fo st a k m) := by
  intro m
  induction m with
  | zero => intro k a; rfl
  | succ m ih =>
    intro k a
    show fo st (st k a) (k + 1) (m + 1) = _
    rw [ih (k + 1) (st k a), show k + 1 + m = k + (m + 1) by omega]
    rfl
def hst (v : Nat → Nat) (p q w : Nat) (k : Nat) (m : Nat) : Nat := if aw v k p = w then m ||| 2 ^ aw v k q else m
/-- p = 0, q = 1: the shifts of a worker; p = 1, q = 0: the workers of a shift -/
def hb (v : Nat → Nat) (p q w n : Nat) : Nat := fo (hst v p q w) 0 0 n
theorem hb_succ (v : Nat → Nat) (p q w n : Nat) : hb v p q w (n + 1) = if aw v n p = w then hb v p q w n ||| 2 ^ aw v n q else hb v p q w n := by
  unfold hb
  rw [fo_snoc, Nat.zero_add]
  rfl
theorem hb_t (v : Nat → Nat) (p q w s : Nat) : ∀ n, (hb v p q w n).testBit s = true ↔ ∃ i, i < n ∧ aw v i p = w ∧ aw v i q = s := by
  intro n
  induction n with
  | zero => exact ⟨fun h => by rw [show hb v p q w 0 = 0 from rfl, Nat.zero_testBit] at h; exact absurd h (by decide), fun ⟨i, h, _⟩ => absurd h (Nat.not_lt_zero i)⟩
  | succ n ih =>
    rw [hb_succ]
    by_cases hc : aw v n p = w
    · rw [if_pos hc, Nat.testBit_or, Nat.testBit_two_pow, Bool.or_eq_true, ih, decide_eq_true_eq]
      constructor
      · rintro (⟨i, h1, h2⟩ | h)
        · exact ⟨i, by omega, h2⟩
        · exact ⟨n, by omega, hc, h⟩
      · rintro ⟨i, h1, h2, h3⟩
        by_cases h : i = n
        · subst h; exact .inr h3
        · exact .inl ⟨i, by omega, h2, h3⟩
    · rw [if_neg hc, ih]
      constructor
      · rintro ⟨i, h1, h2⟩
        exact ⟨i, by omega, h2⟩
      · rintro ⟨i, h1, h2, h3⟩
        by_cases h : i = n
        · subst h; exact absurd h2 hc
        · exact ⟨i, by omega, h2, h3⟩
theorem p_2pow_lt {q n : Nat} (h : q < n) : 2 ^ q < 2 ^ n := Nat.pow_lt_pow_right (by decide) h
theorem hst_lt {v : Nat → Nat} {p q w k m N : Nat} (hm : m < 2 ^ N) (hq : aw v k q < N) : hst v p q w k m < 2 ^ N := by
  unfold hst
  split
  · exact Nat.or_lt_two_pow hm (p_2pow_lt hq)
  · exact hm
section H
variable {X : ab_XX} {v : Nat → Nat}
theorem c_heldBy (h : RC (X 3) v) (hV : VV v) {w : Nat} (hw : w < 16) : F_K_heldBy X (nI w) = some (nI (hb v 0 1 w (v 2))) := by
  obtain ⟨⟨h0, h1, h2⟩, _, _, _, ha, _⟩ := hV
  refine p_lp (fun n m k => L_K_heldBy_4 X n (nI w) (nI m) k) (hst v 0 1 w) (fun m => some (nI m)) (v 2) (fun m => m < 2 ^ 16) (fun a k hk hm => hst_lt hm (by have := ha k hk; omega)) (fun n a _ => ?_) (fun n a k hk hm => ?_) (v 2) 0 0 ab_fu (by decide) (by omega) (by unfold ab_fu; omega)
  · unfold L_K_heldBy_4
    rw [c_2 h, if_pos (nI_le (Nat.le_refl _) (by omega))]
  · have h3 := ha k hk
    have ha0 : aw v k 0 < 2 ^ 31 := by omega
    rw [L_K_heldBy_4, c_2 h, if_neg (nI_ge hk (by omega)), c_awardPart h (by omega) (by decide), c_awardPart h (by omega) (by decide)]
    simp only [Option.bind_some, F_K_bit, nI_eq ha0 (by omega : w < 2 ^ 31), hst, nI_add, p_bit _ (by omega : aw v k 1 < 31), p_or]
    split <;> rfl
theorem m_heldBy (h : RM (X 14) v) (hV : VV v) {w : Nat} (hw : w < 16) : F_M_heldBy X (nI w) = some (nI (hb v 0 1 w (v 2))) := by
  obtain ⟨⟨h0, h1, h2⟩, _, _, _, ha, _⟩ := hV
  refine p_lp (fun n m k => L_M_heldBy_4 X n (nI w) (nI m) k) (hst v 0 1 w) (fun m => some (nI m)) (v 2) (fun m => m < 2 ^ 16) (fun a k hk hm => hst_lt hm (by have := ha k hk; omega)) (fun n a _ => ?_) (fun n a k hk hm => ?_) (v 2) 0 0 ab_fu (by decide) (by omega) (by unfold ab_fu; omega)
  · unfold L_M_heldBy_4
    rw [m_awards h, Option.bind_some, if_pos (nI_le (Nat.le_refl _) (by omega))]
  · have h3 := ha k hk
    have ha0 : aw v k 0 < 2 ^ 31 := by omega
    rw [L_M_heldBy_4, m_awards h, Option.bind_some, if_neg (nI_ge hk (by omega)), m_awardWorker h hk h2, m_awardShift h hk h2]
    simp only [Option.bind_some, nI_eq ha0 (by omega : w < 2 ^ 31), hst, nI_add, p_bit _ (by omega : aw v k 1 < 31), p_or, Nat.or_zero]
    split <;> rfl
theorem c_holdersOf (h : RC (X 3) v) (hV : VV v) {s : Nat} (hs : s < 16) : F_K_holdersOf X (nI s) = some (nI (hb v 1 0 s (v 2))) := by
  obtain ⟨⟨h0, h1, h2⟩, _, _, _, ha, _⟩ := hV
  refine p_lp (fun n m k => L_K_holdersOf_4 X n (nI s) (nI m) k) (hst v 1 0 s) (fun m => some (nI m)) (v 2) (fun m => m < 2 ^ 10) (fun a k hk hm => hst_lt hm (by have := ha k hk; omega)) (fun n a _ => ?_) (fun n a k hk hm => ?_) (v 2) 0 0 ab_fu (by decide) (by omega) (by unfold ab_fu; omega)
  · unfold L_K_holdersOf_4
    rw [c_2 h, if_pos (nI_le (Nat.le_refl _) (by omega))]
  · have h3 := ha k hk
    have ha0 : aw v k 1 < 2 ^ 31 := by omega
    rw [L_K_holdersOf_4, c_2 h, if_neg (nI_ge hk (by omega)), c_awardPart h (by omega) (by decide), c_awardPart h (by omega) (by decide)]
    simp only [Option.bind_some, F_K_bit, nI_eq ha0 (by omega : s < 2 ^ 31), hst, nI_add, p_bit _ (by omega : aw v k 0 < 31), p_or]
    split <;> rfl
theorem m_holders_30 (h : RM (X 14) v) (hV : VV v) {s : Nat} (hs : s < 16) : L_M_holders_30 ab_fu X (nI s) (nI 0) (nI 0) = some (nI (hb v 1 0 s (v 2)), X) := by
  obtain ⟨⟨h0, h1, h2⟩, _, _, _, ha, _⟩ := hV
  refine p_lp (fun n m k => L_M_holders_30 n X (nI s) (nI m) k) (hst v 1 0 s) (fun m => some (nI m, X)) (v 2) (fun m => m < 2 ^ 10) (fun a k hk hm => hst_lt hm (by have := ha k hk; omega)) (fun n a _ => ?_) (fun n a k hk hm => ?_) (v 2) 0 0 ab_fu (by decide) (by omega) (by unfold ab_fu; omega)
  · unfold L_M_holders_30
    rw [m_awards h, Option.bind_some, if_pos (nI_le (Nat.le_refl _) (by omega))]
  · have h3 := ha k hk
    have ha0 : aw v k 1 < 2 ^ 31 := by omega
    rw [L_M_holders_30, m_awards h, Option.bind_some, if_neg (nI_ge hk (by omega)), m_awardWorker h hk h2, m_awardShift h hk h2]
    simp only [Option.bind_some, nI_eq ha0 (by omega : s < 2 ^ 31), hst, nI_add, p_bit _ (by omega : aw v k 0 < 31), p_or, Nat.or_zero]
    split <;> rfl
def cst (v : Nat → Nat) (s k m : Nat) : Nat := m + (decide (aw v k 1 = s)).toNat
theorem fo_cov (v : Nat → Nat) (s n : Nat) : fo (cst v s) 0 0 n = cn (fun i => decide (aw v i 1 = s)) n := by
  induction n with
  | zero => rfl
  | succ n ih => rw [fo_snoc, ih, Nat.zero_add]; rfl
theorem m_coverage (h : RM (X 14) v) (hV : VV v) {s : Nat} (hs : s < 16) : F_M_coverage X (nI s) = some (nI (cov v s)) := by
  obtain ⟨⟨h0, h1, h2⟩, _, _, _, ha, _⟩ := hV
  unfold cov
  rw [← fo_cov]
  refine p_lp (fun n m k => L_M_coverage_4 X n (nI s) (nI m) k) (cst v s) (fun m => some (nI m)) (v 2) (fun _ => True) (fun a k hk hm => trivial) (fun n a _ => ?_) (fun n a k hk hm => ?_) (v 2) 0 0 ab_fu trivial (by omega) (by unfold ab_fu; omega)
  · unfold L_M_coverage_4
    rw [m_awards h, Option.bind_some, if_pos (nI_le (Nat.le_refl _) (by omega))]
  · have h3 := ha k hk
    have ha0 : aw v k 1 < 2 ^ 31 := by omega
    rw [L_M_coverage_4, m_awards h, Option.bind_some, if_neg (nI_ge hk (by omega)), m_awardShift h hk h2]
    simp only [Option.bind_some, nI_eq ha0 (by omega : s < 2 ^ 31), cst, nI_add]
    split
    · rename_i hc; rw [decide_eq_true hc]; rfl
    · rename_i hc; rw [decide_eq_false hc]; rfl
/-- the place of an award -/
def ai (v : Nat → Nat) (w s : Nat) : Nat → Nat → Option Nat
  | _, 0 => none
  | k, m + 1 => if aw v k 0 = w ∧ aw v k 1 = s then some k else ai v w s (k + 1) m
def aiI (o : Option Nat) : Int32 := match o with
  | none => -1
  | some k => nI k
theorem ai_some {v : Nat → Nat} {w s : Nat} : ∀ {m k i : Nat}, ai v w s k m = some i → k ≤ i ∧ i < k + m ∧ aw v i 0 = w ∧ aw v i 1 = s := by
  intro m
  induction m with
  | zero => intro k i h; cases h
  | succ m ih =>
    intro k i h
    unfold ai at h
    split at h
    · rename_i hc; cases h; exact ⟨Nat.le_refl _, by omega, hc.1, hc.2⟩
    · have := ih h; exact ⟨by omega, by omega, this.2.2⟩
theorem ai_none {v : Nat → Nat} {w s : Nat} : ∀ {m k : Nat}, ai v w s k m = none → ∀ i, k ≤ i → i < k + m → ¬ (aw v i 0 = w ∧ aw v i 1 = s) := by
  intro m
  induction m with
  | zero => intro k h i h1 h2; omega
  | succ m ih =>
    intro k h i h1 h2
    unfold ai at h
    split at h
    · cases h
    · rename_i hc
      by_cases he : i = k
      · subst he; exact hc
      · exact ih h i (by omega) (by omega)
theorem c_awardIndex (h : RC (X 3) v) (hV : VV v) {w s : Nat} (hw : w < 16) (hs : s < 16) : F_K_awardIndex X (nI w) (nI s) = some (aiI (ai v w s 0 (v 2))) := by
  obtain ⟨⟨h0, h1, h2⟩, _, _, _, ha, _⟩ := hV
  have key : ∀ m k n, k + m = v 2 → m < n → L_K_awardIndex_2 X n (nI w) (nI s) (nI k) = some (aiI (ai v w s k m)) := by
    intro m
    induction m with
    | zero =>
      intro k n hk hn
      cases n with
      | zero => omega
      | succ n => rw [L_K_awardIndex_2, c_2 h, if_pos (nI_le (by omega) (by omega))]; rfl
    | succ m ih =>
      intro k n hk hn
      cases n with
      | zero => omega
      | succ n =>
        have h3 := ha k (by omega)
        rw [L_K_awardIndex_2, c_2 h, if_neg (nI_ge (by omega) (by omega)), c_awardPart h (by omega) (by decide), c_awardPart h (by omega) (by decide)]
        simp only [Option.bind_some, nI_eq (by omega : aw v k 0 < 2 ^ 31) (by omega : w < 2 ^ 31), nI_eq (by omega : aw v k 1 < 2 ^ 31) (by omega : s < 2 ^ 31), nI_add, ih (k + 1) n (by omega) (by omega)]
        unfold ai
        by_cases c1 : aw v k 0 = w
        · by_cases c2 : aw v k 1 = s
          · simp only [c1, c2, and_self, if_true]; rfl
          · simp only [c1, c2, and_false, if_true, if_false]; rw [ai.eq_def]
        · simp only [c1, false_and, if_false]; rw [ai.eq_def]
  exact key (v 2) 0 ab_fu (by omega) (by unfold ab_fu; omega)
theorem m_awardOf (h : RM (X 14) v) (hV : VV v) {w s : Nat} (hw : w < 16) (hs : s < 16) : F_M_awardOf X (nI w) (nI s) = some (aiI (ai v w s 0 (v 2))) := by
  obtain ⟨⟨h0, h1, h2⟩, _, _, _, ha, _⟩ := hV
  have key : ∀ m k n, k + m = v 2 → m < n → L_M_awardOf_2 X n (nI w) (nI s) (nI k) = some (aiI (ai v w s k m)) := by
    intro m
    induction m with
    | zero =>
      intro k n hk hn
      cases n with
      | zero => omega
      | succ n => rw [L_M_awardOf_2, m_awards h, Option.bind_some, if_pos (nI_le (by omega) (by omega))]; rfl
    | succ m ih =>
      intro k n hk hn
      cases n with
      | zero => omega
      | succ n =>
        have h3 := ha k (by omega)
        rw [L_M_awardOf_2, m_awards h, Option.bind_some, if_neg (nI_ge (by omega) (by omega)), m_awardWorker h (by omega) h2, m_awardShift h (by omega) h2]
        simp only [Option.bind_some, nI_eq (by omega : aw v k 0 < 2 ^ 31) (by omega : w < 2 ^ 31), nI_eq (by omega : aw v k 1 < 2 ^ 31) (by omega : s < 2 ^ 31), nI_add, ih (k + 1) n (by omega) (by omega)]
        unfold ai
        by_cases c1 : aw v k 0 = w
        · by_cases c2 : aw v k 1 = s
          · simp only [c1, c2, and_self, if_true]; rfl
          · simp only [c1, c2, and_false, if_true, if_false]; rw [ai.eq_def]
        · simp only [c1, false_and, if_false]; rw [ai.eq_def]
  exact key (v 2) 0 ab_fu (by omega) (by unfold ab_fu; omega)
end H
