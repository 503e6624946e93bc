/-! ===== PURE: days in a row; coverage ===== -/
def dn (P : Nat → Bool) : Nat → Nat
  | 0 => 0
  | k + 1 => bif P k then dn P k else k + 1
def up (P : Nat → Bool) : Nat → Nat → Nat
  | k, 0 => k
  | k, m + 1 => bif P k then up P (k + 1) m else k
def sq (P : Nat → Bool) (d : Nat) : Nat := up P (d + 1) (27 - d) - dn P d
theorem dn_le (P : Nat → Bool) : ∀ k, dn P k ≤ k := by
  intro k
  induction k with
  | zero => exact Nat.le_refl _
  | succ k ih =>
    unfold dn
    cases P k with
    | true => exact Nat.le_succ_of_le ih
    | false => exact Nat.le_refl _
theorem up_ge (P : Nat → Bool) : ∀ m k, k ≤ up P k m ∧ up P k m ≤ k + m := by
  intro m
  induction m with
  | zero => intro k; exact ⟨Nat.le_refl _, Nat.le_refl _⟩
  | succ m ih =>
    intro k
    unfold up
    have := ih (k + 1)
    cases P k with
    | true => simp only [cond_true]; omega
    | false => simp only [cond_false]; omega
theorem dn_congr {P Q : Nat → Bool} : ∀ k, (∀ i, i < k → P i = Q i) → dn P k = dn Q k := by
  intro k
  induction k with
  | zero => intro _; rfl
  | succ k ih =>
    intro h
    unfold dn
    rw [h k (by omega), ih (fun i hi => h i (by omega))]
theorem up_congr {P Q : Nat → Bool} : ∀ m k, (∀ i, k ≤ i → i < k + m → P i = Q i) → up P k m = up Q k m := by
  intro m
  induction m with
  | zero => intro k _; rfl
  | succ m ih =>
    intro k h
    unfold up
    rw [h k (by omega) (by omega), ih (k + 1) (fun i h1 h2 => h i (by omega) (by omega))]
theorem sq_congr {P Q : Nat → Bool} (h : ∀ i, i < 28 → P i = Q i) {d : Nat} (hd : d < 28) : sq P d = sq Q d := by
  unfold sq
  rw [dn_congr d (fun i hi => h i (by omega)), up_congr (27 - d) (d + 1) (fun i h1 h2 => h i (by omega))]
theorem p_pred (k : Nat) : nI (k + 1) + (-1 : Int32) = nI k := by
  rw [← Int32.sub_eq_add_neg]
  exact nI_pred k
theorem p_pred1 (k : Nat) : nI (k + 1) - nI 1 = nI k := p_sub (Nat.le_add_left 1 k)
theorem c_sequenceAround {d m : Nat} (hd : d < 28) (hm : m < 2 ^ 31) : F_U_sequenceAround (nI d) (nI m) = some (nI (sq (fun i => m.testBit i) d)) := by
  have k26 : ∀ (r k n a : Nat), k + r = 28 → r < n → a ≤ k → L_U_sequenceAround_26 n (nI m) (nI a) (nI k) = some (nI (up (fun i => m.testBit i) k r - a)) := by
    intro r
    induction r with
    | zero =>
      intro k n a hk hn ha
      cases n with
      | zero => omega
      | succ n => rw [L_U_sequenceAround_26, if_pos (nI_le (by omega) (by omega)), p_sub ha]; rfl
    | succ r ih =>
      intro k n a hk hn ha
      cases n with
      | zero => omega
      | succ n =>
        rw [L_U_sequenceAround_26, if_neg (nI_ge (by omega) (by omega)), c_isIn hm (by omega)]
        simp only [Option.bind_some, p_b0, nI_add, p_sub ha, ih (k + 1) n a (by omega) (by omega) (by omega)]
        rw [up.eq_def (fun i => m.testBit i) k (r + 1)]
        cases hq : m.testBit k <;> simp [hq]
  have k2 : ∀ (k n : Nat), k < n → k ≤ d → L_U_sequenceAround_2 n (nI d) (nI m) (nI k) = some (nI (up (fun i => m.testBit i) (d + 1) (27 - d) - dn (fun i => m.testBit i) k)) := by
    intro k
    induction k with
    | zero =>
      intro n hn hk
      cases n with
      | zero => omega
      | succ n => rw [L_U_sequenceAround_2, if_pos (nI_le (by omega) (by omega)), nI_add, k26 (27 - d) (d + 1) ab_fu 0 (by omega) (by unfold ab_fu; omega) (by omega)]; rfl
    | succ k ih =>
      intro n hn hk
      cases n with
      | zero => omega
      | succ n =>
        rw [L_U_sequenceAround_2, if_neg (nI_ge (by omega) (by omega)), p_pred1, p_pred, c_isIn hm (by omega)]
        simp only [Option.bind_some, p_b0, nI_add]
        rw [ih n (by omega) (by omega), k26 (27 - d) (d + 1) ab_fu (k + 1) (by omega) (by unfold ab_fu; omega) (by omega)]
        rw [dn.eq_def (fun i => m.testBit i) (k + 1)]
        cases hq : m.testBit k <;> simp [hq]
  exact k2 d ab_fu (by unfold ab_fu; omega) (Nat.le_refl _)
def dym (v : Nat → Nat) (set n : Nat) : Nat := fo (fun s m => if set.testBit s = true then m ||| 2 ^ sh v s 0 else m) 0 0 n
theorem dym_t (v : Nat → Nat) (set d : Nat) : ∀ n, (dym v set n).testBit d = true ↔ ∃ s, s < n ∧ set.testBit s = true ∧ sh v s 0 = d := by
  intro n
  induction n with
  | zero => exact ⟨fun h => absurd (h.symm.trans (Nat.zero_testBit d)) (by decide), fun ⟨i, h, _⟩ => absurd h (Nat.not_lt_zero i)⟩
  | succ n ih =>
    have e : dym v set (n + 1) = if set.testBit n = true then dym v set n ||| 2 ^ sh v n 0 else dym v set n := by
      unfold dym
      rw [fo_snoc, Nat.zero_add]
    rw [e]
    by_cases hc : set.testBit n = true
    · rw [if_pos hc, Nat.testBit_or, Nat.testBit_two_pow, Bool.or_eq_true, ih, decide_eq_true_eq]
      constructor
      · rintro (⟨i, h1, h2⟩ | h)
        · exact ⟨i, by omega, h2⟩
        · exact ⟨n, by omega, hc, h⟩
      · rintro ⟨i, h1, h2, h3⟩
        by_cases h : i = n
        · subst h; exact .inr h3
        · exact .inl ⟨i, by omega, h2, h3⟩
    · rw [if_neg hc, ih]
      constructor
      · rintro ⟨i, h1, h2⟩
        exact ⟨i, by omega, h2⟩
      · rintro ⟨i, h1, h2, h3⟩
        by_cases h : i = n
        · subst h; exact absurd h2 hc
        · exact ⟨i, by omega, h2, h3⟩
theorem dy_t (v : Nat → Nat) (set d : Nat) : dy v set d = true ↔ ∃ s, s < v 1 ∧ set.testBit s = true ∧ sh v s 0 = d := by
  unfold dy
  cases hl : lo (fun s => set.testBit s && decide (sh v s 0 = d)) 0 (v 1) with
  | none =>
    refine ⟨fun z => absurd z (by decide), fun ⟨s, h1, h2, h3⟩ => ?_⟩
    have h4 := lo_none hl s (Nat.zero_le _) (by omega)
    rw [h2, decide_eq_true h3] at h4
    cases h4
  | some i =>
    have h4 := lo_some hl
    refine ⟨fun _ => ⟨i, by omega, ?_⟩, fun _ => rfl⟩
    have h5 := h4.2.2.1
    rw [Bool.and_eq_true, decide_eq_true_eq] at h5
    exact h5
theorem dym_dy (v : Nat → Nat) (set d : Nat) : (dym v set (v 1)).testBit d = dy v set d := by
  have h := (dym_t v set d (v 1)).trans (dy_t v set d).symm
  exact Bool.eq_iff_iff.mpr h
section D
variable {X : ab_XX} {v : Nat → Nat}
theorem dym_lt (hV : VV v) (set : Nat) : dym v set (v 1) < 2 ^ 28 := by
  refine Nat.lt_pow_two_of_testBit _ fun i hi => ?_
  cases h : (dym v set (v 1)).testBit i with
  | false => rfl
  | true =>
    obtain ⟨s, h1, _, h3⟩ := (dym_t v set i (v 1)).mp h
    have := (hV.2.2.1 s h1).1
    omega
theorem c_daysOf (h : RC (X 3) v) (hV : VV v) {set : Nat} (hs : set < 2 ^ 31) : F_U_daysOf X (nI set) = some (nI (dym v set (v 1))) := by
  obtain ⟨⟨h0, h1, h2⟩, _, hsh, _⟩ := hV
  refine p_lp (fun n a k => L_U_daysOf_4 X n (nI set) (nI a) k) (fun s m => if set.testBit s = true then m ||| 2 ^ sh v s 0 else m) (fun m => some (nI m)) (v 1) (fun _ => True) (fun _ _ _ _ => trivial) (fun n a _ => ?_) (fun n a k hk _ => ?_) (v 1) 0 0 ab_fu trivial (by omega) (by unfold ab_fu; omega)
  · rw [L_U_daysOf_4, c_shiftTotal h, Option.bind_some, if_pos (nI_le (Nat.le_refl _) (by omega))]
  · have h3 := hsh k hk
    rw [L_U_daysOf_4, c_shiftTotal h, Option.bind_some, if_neg (nI_ge hk (by omega)), c_isIn hs (by omega), c_shiftPart h (by omega) (by decide)]
    simp only [Option.bind_some, p_b0, nI_add, F_K_bit, p_bit _ (by omega : sh v k 0 < 31), p_or]
    cases set.testBit k <;> simp
theorem c_sq (h : RC (X 3) v) (hV : VV v) {set d : Nat} (hd : d < 28) : F_U_sequenceAround (nI d) (nI (dym v set (v 1))) = some (nI (sq (dy v set) d)) := by
  rw [c_sequenceAround hd (Nat.lt_trans (dym_lt hV set) (by decide)), show (fun i => (dym v set (v 1)).testBit i) = dy v set from funext fun i => dym_dy v set i]
theorem m_isDay' (h : RM (X 14) v) (hV : VV v) {set : Nat} (hs : set < 2 ^ 31) (x : Int32) : F_M_isDay X (nI set) x = some (nI (lo (fun s => set.testBit s && decide (nI (sh v s 0) = x)) 0 (v 1)).isSome.toNat) := by
  obtain ⟨⟨h0, h1, h2⟩, _, hsh, _⟩ := hV
  have key := p_lo (fun n k => L_M_isDay_2 X n (nI set) x k) (fun s => set.testBit s && decide (nI (sh v s 0) = x)) (fun k => some (nI 1)) (some (nI 0)) (v 1) (fun n => ?_) (fun n k hk => ?_) (v 1) 0 ab_fu (by omega) (by unfold ab_fu; omega)
  · refine key.trans ?_
    cases lo (fun s => set.testBit s && decide (nI (sh v s 0) = x)) 0 (v 1) <;> rfl
  · rw [L_M_isDay_2, m_shifts h, Option.bind_some, if_pos (nI_le (Nat.le_refl _) (by omega))]
  · rw [L_M_isDay_2, m_shifts h, Option.bind_some, if_neg (nI_ge hk (by omega)), p_tst set k hs (by omega), m_ofShift h hk h1 (by decide)]
    simp only [Option.bind_some, p_b1, nI_add]
    cases set.testBit k with
    | false => simp
    | true => by_cases q : nI (sh v k 0) = x <;> simp [q]
theorem m_isDay (h : RM (X 14) v) (hV : VV v) {set : Nat} (hs : set < 2 ^ 31) {d : Nat} (hd : d < 2 ^ 31) : F_M_isDay X (nI set) (nI d) = some (nI (dy v set d).toNat) := by
  rw [m_isDay' h hV hs]
  unfold dy
  rw [lo_congr (q := fun s => set.testBit s && decide (sh v s 0 = d)) (fun i h1 h2 => ?_)]
  have := (hV.2.2.1 i (by omega)).1
  rw [show decide (nI (sh v i 0) = nI d) = decide (sh v i 0 = d) from decide_eq_decide.mpr (nI_eq (by omega) hd)]
theorem m_isDay_neg (h : RM (X 14) v) (hV : VV v) {set : Nat} (hs : set < 2 ^ 31) : F_M_isDay X (nI set) (nI 0 - nI 1) = some (nI 0) := by
  rw [m_isDay' h hV hs]
  cases hl : lo (fun s => set.testBit s && decide (nI (sh v s 0) = nI 0 - nI 1)) 0 (v 1) with
  | none => rfl
  | some i =>
    have h4 := lo_some hl
    have h5 := h4.2.2.1
    rw [Bool.and_eq_true, decide_eq_true_eq] at h5
    have h6 := (hV.2.2.1 i (by omega)).1
    have h7 := nI_pos' (by omega : sh v i 0 < 2 ^ 31)
    rw [h5.2] at h7
    exact absurd h7 (by decide)
theorem dy_28 (hV : VV v) (set : Nat) {d : Nat} (hd : 28 ≤ d) : dy v set d = false := by
  cases h : dy v set d with
  | false => rfl
  | true =>
    obtain ⟨s, h1, _, h3⟩ := (dy_t v set d).mp h
    have := (hV.2.2.1 s h1).1
    omega
theorem m_rowAbout (h : RM (X 14) v) (hV : VV v) {set d : Nat} (hs : set < 2 ^ 31) (hd : d < 28) : F_M_rowAbout X (nI set) (nI d) = some (nI (sq (dy v set) d)) := by
  have k22 : ∀ (r k n a : Nat), k + 1 + r = 28 → r < n → a ≤ k → L_M_rowAbout_22 X n (nI set) (nI a) (nI k) = some (nI (up (dy v set) (k + 1) r - a)) := by
    intro r
    induction r with
    | zero =>
      intro k n a hk hn ha
      cases n with
      | zero => omega
      | succ n =>
        rw [L_M_rowAbout_22, nI_add, m_isDay h hV hs (by omega), dy_28 hV set (by omega), Option.bind_some, if_pos (show nI false.toNat = nI 0 from rfl), p_sub ha, nI_add]
        rw [show k - a + 1 = k + 1 - a by omega]
        rfl
    | succ r ih =>
      intro k n a hk hn ha
      cases n with
      | zero => omega
      | succ n =>
        rw [L_M_rowAbout_22, nI_add, m_isDay h hV hs (by omega)]
        simp only [Option.bind_some, p_b0, nI_add, p_sub ha, ih (k + 1) n a (by omega) (by omega) (by omega)]
        rw [show k - a + 1 = k + 1 - a by omega, up.eq_def (dy v set) (k + 1) (r + 1)]
        cases hq : dy v set (k + 1) <;> simp [hq]
  have k5 : ∀ (k n : Nat), k < n → k ≤ d → L_M_rowAbout_5 X n (nI set) (nI k) (nI d) = some (nI (up (dy v set) (d + 1) (27 - d) - dn (dy v set) k)) := by
    intro k
    induction k with
    | zero =>
      intro n hn hk
      cases n with
      | zero => omega
      | succ n => rw [L_M_rowAbout_5, m_isDay_neg h hV hs, Option.bind_some, if_pos rfl, k22 (27 - d) d ab_fu 0 (by omega) (by unfold ab_fu; omega) (by omega)]; rfl
    | succ k ih =>
      intro n hn hk
      cases n with
      | zero => omega
      | succ n =>
        rw [L_M_rowAbout_5, p_pred1, p_pred, m_isDay h hV hs (by omega)]
        simp only [Option.bind_some, p_b0, nI_add]
        rw [ih n (by omega) (by omega), k22 (27 - d) d ab_fu (k + 1) (by omega) (by unfold ab_fu; omega) (by omega)]
        rw [dn.eq_def (dy v set) (k + 1)]
        cases hq : dy v set k <;> simp [hq]
  exact k5 d ab_fu (by unfold ab_fu; omega) (Nat.le_refl _)
theorem cn_upd {p q : Nat → Bool} {N j : Nat} (hj : j < N) (he : ∀ i, i ≠ j → q i = p i) (h0 : p j = false) (h1 : q j = true) : cn q N = cn p N + 1 := by
  have same : ∀ n, n ≤ j → cn q n = cn p n := by
    intro n
    induction n with
    | zero => intro _; rfl
    | succ n ih => intro hn; unfold cn; rw [ih (by omega), he n (by omega)]
  have key : ∀ n, j < n → cn q n = cn p n + 1 := by
    intro n
    induction n with
    | zero => intro h; omega
    | succ n ih =>
      intro hn
      unfold cn
      by_cases h : j = n
      · subst h
        rw [same j (Nat.le_refl _), h0, h1]
        rfl
      · rw [ih (by omega), he n (fun z => h z.symm)]
        omega
  exact key N hj
theorem aw_ne (hV : VV v) {i j : Nat} (hij : i < j) (hj : j < v 2) : ¬ (aw v i 0 = aw v j 0 ∧ aw v i 1 = aw v j 1) := by
  rintro ⟨h1, h2⟩
  obtain ⟨_, _, hsh, _, ha, _, hno⟩ := hV
  have h3 := hno i j hij hj h1
  have h4 := hsh _ (ha j hj).2
  rw [h2] at h3
  omega
theorem cov_pc (hV : VV v) (s : Nat) : ∀ n, n ≤ v 2 → pc 16 (hb v 1 0 s n) = cn (fun i => decide (aw v i 1 = s)) n := by
  intro n
  induction n with
  | zero =>
    intro _
    have key : ∀ m, cn (fun i => (0 : Nat).testBit i) m = 0 := by
      intro m
      induction m with
      | zero => rfl
      | succ m ih => unfold cn; rw [ih, Nat.zero_testBit]; rfl
    exact key 16
  | succ n ih =>
    intro hn
    have ih := ih (by omega)
    rw [hb_succ]
    unfold cn
    by_cases hc : aw v n 1 = s
    · rw [if_pos hc, decide_eq_true hc, ← ih]
      have ha := hV.2.2.2.2.1 n (by omega)
      have h10 := hV.1.1
      unfold pc
      refine cn_upd (j := aw v n 0) (by omega) (fun i hi => ?_) ?_ ?_
      · rw [Nat.testBit_or, Nat.testBit_two_pow, decide_eq_false (fun z => hi z.symm), Bool.or_false]
      · cases hb2 : (hb v 1 0 s n).testBit (aw v n 0) with
        | false => rfl
        | true =>
          obtain ⟨i, h1, h2, h3⟩ := (hb_t v 1 0 s (aw v n 0) n).mp hb2
          exact absurd ⟨h3, h2.trans hc.symm⟩ (aw_ne hV h1 (by omega))
      · rw [Nat.testBit_or, Nat.testBit_two_pow, decide_eq_true rfl, Bool.or_true]
    · rw [if_neg hc, decide_eq_false hc]
      exact ih
theorem hb_lt (hV : VV v) {p q w N : Nat} (hq : ∀ i, i < v 2 → aw v i q < N) : ∀ n, n ≤ v 2 → hb v p q w n < 2 ^ N := by
  intro n
  induction n with
  | zero => intro _; exact Nat.two_pow_pos N
  | succ n ih =>
    intro hn
    rw [hb_succ]
    split
    · exact Nat.or_lt_two_pow (ih (by omega)) (p_2pow_lt (hq n (by omega)))
    · exact ih (by omega)
theorem c_coverage (h : RC (X 3) v) (hV : VV v) {s : Nat} (hs : s < 16) : F_K_coverage X (nI s) = some (nI (cov v s)) := by
  unfold F_K_coverage
  rw [c_holdersOf h hV hs, Option.bind_some, c_bitCount (hb_lt hV (fun i hi => by have := hV.2.2.2.2.1 i hi; have := hV.1.1; omega) _ (Nat.le_refl _)), Option.bind_some, cov_pc hV s _ (Nat.le_refl _)]
  rfl
end D
