/-! ===== PURE: hours, days, distances ===== -/
theorem p_b0 (b : Bool) : (nI b.toNat = nI 0) = (b = false) := by cases b <;> decide
theorem p_b1 (b : Bool) : (nI b.toNat = nI 1) = (b = true) := by cases b <;> decide
theorem p_le_sub {g a b : Nat} (hg : g < 2 ^ 20) (ha : a < 2 ^ 20) (hb : b < 2 ^ 20) : (nI g ≤ nI a - nI b) = (g + b ≤ a) := by
  rw [Int32.le_iff_toInt_le, Int32.toInt_sub, nI_toInt (by omega), nI_toInt (by omega), nI_toInt (by omega), Int.bmod_eq_of_le (by omega) (by omega)]
  apply propext
  constructor <;> intro h <;> omega
/-- the first one -/
def lo (p : Nat → Bool) : Nat → Nat → Option Nat
  | _, 0 => none
  | k, m + 1 => bif p k then some k else lo p (k + 1) m
theorem lo_some {p : Nat → Bool} : ∀ {m k i : Nat}, lo p k m = some i → k ≤ i ∧ i < k + m ∧ p i = true ∧ ∀ j, k ≤ j → j < i → p j = false := by
  intro m
  induction m with
  | zero => intro k i h; cases h
  | succ m ih =>
    intro k i h
    unfold lo at h
    cases hp : p k with
    | true => rw [hp] at h; cases h; exact ⟨Nat.le_refl _, by omega, hp, fun j h1 h2 => by omega⟩
    | false =>
      rw [hp] at h
      have h3 := ih h
      refine ⟨by omega, by omega, h3.2.2.1, fun j h1 h2 => ?_⟩
      by_cases he : j = k
      · rw [he]; exact hp
      · exact h3.2.2.2 j (by omega) h2
theorem lo_none {p : Nat → Bool} : ∀ {m k : Nat}, lo p k m = none → ∀ i, k ≤ i → i < k + m → p i = false := by
  intro m
  induction m with
  | zero => intro k h i h1 h2; omega
  | succ m ih =>
    intro k h i h1 h2
    unfold lo at h
    cases hp : p k with
    | true => rw [hp] at h; cases h
    | false =>
      rw [hp] at h
      by_cases he : i = k
      · rw [he]; exact hp
      · exact ih h i (by omega) (by omega)
theorem lo_congr {p q : Nat → Bool} : ∀ {m k : Nat}, (∀ i, k ≤ i → i < k + m → p i = q i) → lo p k m = lo q k m := by
  intro m
  induction m with
  | zero => intro k h; rfl
  | succ m ih =>
    intro k h
    unfold lo
    rw [h k (Nat.le_refl _) (by omega), ih (k := k + 1) (fun i h1 h2 => h i (by omega) (by omega))]
/-- a search by a loop -/
theorem p_lo {R : Type} (L : Nat → Int32 → Option R) (p : Nat → Bool) (hit : Nat → Option R) (miss : Option R) (N : Nat) (hend : ∀ n, L (n + 1) (nI N) = miss) (hst : ∀ n k, k < N → L (n + 1) (nI k) = bif p k then hit k else L n (nI (k + 1))) :
    ∀ m k n, k + m = N → m < n → L n (nI k) = match lo p k m with
      | none => miss
      | some i => hit i := by
  intro m
  induction m with
  | zero =>
    intro k n hk hn
    cases n with
    | zero => omega
    | succ n => rw [show k = N by omega]; exact hend n
  | succ m ih =>
    intro k n hk hn
    cases n with
    | zero => omega
    | succ n =>
      rw [hst n k (by omega)]
      unfold lo
      cases hp : p k with
      | true => rfl
      | false => exact ih (k + 1) n (by omega) (by omega)
def cI (c : Option Nat) : Int32 := match c with
  | none => -1
  | some w => nI w
theorem cI_neg (c : Option Nat) (h : ∀ w, c = some w → w < 2 ^ 31) : (cI c = -1) = (c = none) := by
  cases c with
  | none => exact propext ⟨fun _ => rfl, fun _ => rfl⟩
  | some w =>
    refine propext ⟨fun z => ?_, fun z => by cases z⟩
    have h1 := nI_pos' (h w rfl)
    rw [show nI w = -1 from z] at h1
    exact absurd h1 (by decide)
theorem cI_lt (c : Option Nat) (h : ∀ w, c = some w → w < 2 ^ 31) : (cI c < nI 0) = (c = none) := by
  cases c with
  | none => exact propext ⟨fun _ => rfl, fun _ => by decide⟩
  | some w => exact propext ⟨fun z => absurd z (nI_pos (h w rfl)), fun z => by cases z⟩
/-- week: none is all of them -/
def hcd (v : Nat → Nat) (set : Nat) (c : Option Nat) (s : Nat) : Bool := set.testBit s && (match c with
  | none => true
  | some w => decide (sh v s 8 = w))
def hrs (v : Nat → Nat) (set : Nat) (c : Option Nat) : Nat := fo (fun s a => if hcd v set c s = true then a + sh v s 2 else a) 0 0 (v 1)
def near (v : Nat → Nat) (g s o : Nat) : Bool := decide (sh v s 6 < g + sh v o 7) && decide (sh v o 6 < g + sh v s 7)
def lwi (v : Nat → Nat) (g s set : Nat) : Option Nat := lo (fun o => set.testBit o && near v g s o) 0 (v 1)
def dy (v : Nat → Nat) (set d : Nat) : Bool := (lo (fun s => set.testBit s && decide (sh v s 0 = d)) 0 (v 1)).isSome
section T
variable {X : ab_XX} {v : Nat → Nat}
theorem c_isIn {m s : Nat} (hm : m < 2 ^ 31) (hs : s < 32) : F_K_isIn (nI s) (nI m) = some (nI (m.testBit s).toNat) := by
  unfold F_K_isIn
  rw [p_tst m s hm hs]
  cases m.testBit s <;> rfl
theorem c_hoursOf (h : RC (X 3) v) (hV : VV v) {set : Nat} (hs : set < 2 ^ 31) {c : Option Nat} (hc : ∀ w, c = some w → w < 2 ^ 31) : F_U_hoursOf X (nI set) (cI c) = some (nI (hrs v set c)) := by
  obtain ⟨⟨h0, h1, h2⟩, _, hsh, _⟩ := hV
  refine p_lp (fun n a k => L_U_hoursOf_5 X n (nI set) (cI c) (nI a) k) (fun s a => if hcd v set c s = true then a + sh v s 2 else a) (fun m => some (nI m)) (v 1) (fun _ => True) (fun _ _ _ _ => trivial) (fun n a _ => ?_) (fun n a k hk _ => ?_) (v 1) 0 0 ab_fu trivial (by omega) (by unfold ab_fu; omega)
  · rw [L_U_hoursOf_5, c_shiftTotal h, Option.bind_some, if_pos (nI_le (Nat.le_refl _) (by omega))]
  · have h3 := hsh k hk
    rw [L_U_hoursOf_5, c_shiftTotal h, Option.bind_some, if_neg (nI_ge hk (by omega)), c_isIn hs (by omega), c_shiftPart h (by omega) (by decide), c_shiftPart h (by omega) (by decide)]
    simp only [Option.bind_some, p_b0, cI_neg c hc, nI_add]
    cases hb : set.testBit k with
    | false => simp [hcd, hb]
    | true =>
      cases c with
      | none => simp [hcd, hb]
      | some w =>
        have hw := hc w rfl
        simp only [hcd, hb, cI, nI_eq (by omega : sh v k 8 < 2 ^ 31) hw]
        by_cases hq : sh v k 8 = w <;> simp [hq]
theorem m_week (h : RM (X 14) v) (hV : VV v) {s : Nat} (hs : s < v 1) : F_M_week X (nI s) = some (nI (sh v s 8)) := by
  obtain ⟨⟨h0, h1, h2⟩, _, hsh, _⟩ := hV
  have h3 := hsh s hs
  unfold F_M_week
  rw [m_ofShift h hs h1 (by decide), Option.bind_some, h3.2.2.2.2.2.2.2.2.2.2]
  have key : ∀ d, d < 28 → nI d / nI 7 = nI (d / 7) := by decide +kernel
  rw [key _ (by omega)]
theorem m_begin (h : RM (X 14) v) (hV : VV v) {s : Nat} (hs : s < v 1) : F_M_begin X (nI s) = some (nI (sh v s 6)) := by
  obtain ⟨⟨h0, h1, h2⟩, _, hsh, _⟩ := hV
  have h3 := hsh s hs
  unfold F_M_begin
  rw [m_ofShift h hs h1 (by decide), m_ofShift h hs h1 (by decide), Option.bind_some, Option.bind_some, p_mul, nI_add, h3.2.2.2.2.2.2.2.2.1]
theorem m_end (h : RM (X 14) v) (hV : VV v) {s : Nat} (hs : s < v 1) : F_M_end X (nI s) = some (nI (sh v s 7)) := by
  unfold F_M_end
  rw [m_begin h hV hs]
  obtain ⟨⟨h0, h1, h2⟩, _, hsh, _⟩ := hV
  have h3 := hsh s hs
  rw [m_ofShift h hs h1 (by decide), Option.bind_some, Option.bind_some, nI_add, h3.2.2.2.2.2.2.2.2.2.1]
theorem m_hoursIn (h : RM (X 14) v) (hV : VV v) {set : Nat} (hs : set < 2 ^ 31) {c : Option Nat} (hc : ∀ w, c = some w → w < 2 ^ 31) : F_M_hoursIn X (nI set) (cI c) = some (nI (hrs v set c)) := by
  have hV2 := hV
  obtain ⟨⟨h0, h1, h2⟩, _, hsh, _⟩ := hV
  refine p_lp (fun n a k => L_M_hoursIn_5 X n (nI set) (cI c) (nI a) k) (fun s a => if hcd v set c s = true then a + sh v s 2 else a) (fun m => some (nI m)) (v 1) (fun _ => True) (fun _ _ _ _ => trivial) (fun n a _ => ?_) (fun n a k hk _ => ?_) (v 1) 0 0 ab_fu trivial (by omega) (by unfold ab_fu; omega)
  · rw [L_M_hoursIn_5, m_shifts h, Option.bind_some, if_pos (nI_le (Nat.le_refl _) (by omega))]
  · have h3 := hsh k hk
    rw [L_M_hoursIn_5, m_shifts h, Option.bind_some, if_neg (nI_ge hk (by omega)), p_tst set k hs (by omega), m_ofShift h hk h1 (by decide), m_week h hV2 hk]
    simp only [Option.bind_some, p_b1, cI_lt c hc, nI_add, Nat.add_zero]
    cases hb : set.testBit k with
    | false => simp [hcd, hb]
    | true =>
      cases c with
      | none => simp [hcd, hb]
      | some w =>
        have hw := hc w rfl
        simp only [hcd, hb, cI, nI_eq (by omega : sh v k 8 < 2 ^ 31) hw]
        by_cases hq : sh v k 8 = w <;> simp [hq]
theorem c_lowestWithin (h : RC (X 3) v) (hV : VV v) {g s set : Nat} (hg : g < 2 ^ 20) (hs : s < v 1) (hset : set < 2 ^ 31) : F_U_lowestWithin X (nI s) (nI set) (nI g) = some (cI (lwi v g s set)) := by
  obtain ⟨⟨h0, h1, h2⟩, _, hsh, _⟩ := hV
  have h4 := hsh s hs
  unfold F_U_lowestWithin
  rw [c_shiftPart h (by omega) (by decide), c_shiftPart h (by omega) (by decide), Option.bind_some, Option.bind_some]
  have key := p_lo (fun n k => L_U_lowestWithin_27 X n (nI set) (nI g) (nI (sh v s 6)) (nI (sh v s 7)) k) (fun o => set.testBit o && near v g s o) (fun k => some (nI k)) (some (-1)) (v 1) (fun n => ?_) (fun n k hk => ?_) (v 1) 0 ab_fu (by omega) (by unfold ab_fu; omega)
  · refine key.trans ?_
    unfold lwi
    cases lo (fun o => set.testBit o && near v g s o) 0 (v 1) <;> rfl
  · rw [L_U_lowestWithin_27, c_shiftTotal h, Option.bind_some, if_pos (nI_le (Nat.le_refl _) (by omega))]
  · have h3 := hsh k hk
    rw [L_U_lowestWithin_27, c_shiftTotal h, Option.bind_some, if_neg (nI_ge hk (by omega)), c_isIn hset (by omega), c_shiftPart h (by omega) (by decide), c_shiftPart h (by omega) (by decide)]
    simp only [Option.bind_some, p_b0, nI_add, p_le_sub hg (by omega : sh v s 6 < 2 ^ 20) (by omega : sh v k 7 < 2 ^ 20), p_le_sub hg (by omega : sh v k 6 < 2 ^ 20) (by omega : sh v s 7 < 2 ^ 20)]
    cases hb : set.testBit k with
    | false => simp
    | true =>
      unfold near
      by_cases q1 : g + sh v k 7 ≤ sh v s 6
      · have q2 : ¬ sh v s 6 < g + sh v k 7 := by omega
        simp [q1, q2]
      · have q2 : sh v s 6 < g + sh v k 7 := by omega
        by_cases q3 : g + sh v s 7 ≤ sh v k 6
        · have q4 : ¬ sh v k 6 < g + sh v s 7 := by omega
          simp [q1, q2, q3, q4]
        · have q4 : sh v k 6 < g + sh v s 7 := by omega
          simp [q1, q2, q3, q4]
theorem m_lowestOver (h : RM (X 14) v) (hV : VV v) {s set : Nat} (hs : s < v 1) (hset : set < 2 ^ 31) (hn : set.testBit s = false) : F_M_lowestOver X (nI s) (nI set) = some (cI (lwi v 0 s set)) := by
  have hV2 := hV
  obtain ⟨⟨h0, h1, h2⟩, _, hsh, _⟩ := hV
  have h4 := hsh s hs
  have key := p_lo (fun n k => L_M_lowestOver_2 X n (nI s) (nI set) k) (fun o => set.testBit o && near v 0 s o) (fun k => some (nI k)) (some (-1)) (v 1) (fun n => ?_) (fun n k hk => ?_) (v 1) 0 ab_fu (by omega) (by unfold ab_fu; omega)
  · refine key.trans ?_
    unfold lwi
    cases lo (fun o => set.testBit o && near v 0 s o) 0 (v 1) <;> rfl
  · rw [L_M_lowestOver_2, m_shifts h, Option.bind_some, if_pos (nI_le (Nat.le_refl _) (by omega))]
  · have h3 := hsh k hk
    rw [L_M_lowestOver_2, m_shifts h, Option.bind_some, if_neg (nI_ge hk (by omega)), p_tst set k hset (by omega)]
    simp only [Option.bind_some, p_b1, nI_add, nI_eq (by omega : k < 2 ^ 31) (by omega : s < 2 ^ 31)]
    by_cases hks : k = s
    · subst hks
      simp [hn]
    · rw [if_neg hks]
      cases hb : set.testBit k with
      | false => simp
      | true =>
        rw [if_pos rfl]
        unfold F_M_isOver
        simp only [m_begin h hV2 hs, m_begin h hV2 hk, m_end h hV2 hs, m_end h hV2 hk, Option.bind_some, nI_leI (by omega : sh v k 7 < 2 ^ 31) (by omega : sh v s 6 < 2 ^ 31), nI_leI (by omega : sh v s 7 < 2 ^ 31) (by omega : sh v k 6 < 2 ^ 31)]
        unfold near
        by_cases q1 : sh v k 7 ≤ sh v s 6
        · have q2 : ¬ sh v s 6 < sh v k 7 := by omega
          simp [q1, q2]
        · have q2 : sh v s 6 < sh v k 7 := by omega
          by_cases q3 : sh v s 7 ≤ sh v k 6
          · have q4 : ¬ sh v k 6 < sh v s 7 := by omega
            simp [q1, q3, q4]
          · have q4 : sh v k 6 < sh v s 7 := by omega
            have q5 : ¬ nI 1 = nI 0 := by decide
            simp [q1, q2, q3, q4, q5]
theorem m_lowestNear (h : RM (X 14) v) (hV : VV v) {g s set : Nat} (hg : g < 2 ^ 20) (hs : s < v 1) (hset : set < 2 ^ 31) (hn : set.testBit s = false) (hno : lwi v 0 s set = none) : F_M_lowestNear X (nI s) (nI set) (nI g) = some (cI (lwi v g s set)) := by
  have hV2 := hV
  obtain ⟨⟨h0, h1, h2⟩, _, hsh, _⟩ := hV
  have h4 := hsh s hs
  have key := p_lo (fun n k => L_M_lowestNear_3 X n (nI s) (nI set) (nI g) k) (fun o => set.testBit o && near v g s o) (fun k => some (nI k)) (some (-1)) (v 1) (fun n => ?_) (fun n k hk => ?_) (v 1) 0 ab_fu (by omega) (by unfold ab_fu; omega)
  · refine key.trans ?_
    unfold lwi
    cases lo (fun o => set.testBit o && near v g s o) 0 (v 1) <;> rfl
  · rw [L_M_lowestNear_3, m_shifts h, Option.bind_some, if_pos (nI_le (Nat.le_refl _) (by omega))]
  · have h3 := hsh k hk
    have hl := lo_none hno k (Nat.zero_le _) (by omega)
    rw [L_M_lowestNear_3, m_shifts h, Option.bind_some, if_neg (nI_ge hk (by omega)), p_tst set k hset (by omega)]
    simp only [Option.bind_some, p_b1, nI_add, nI_eq (by omega : k < 2 ^ 31) (by omega : s < 2 ^ 31)]
    by_cases hks : k = s
    · subst hks
      simp [hn]
    · rw [if_neg hks]
      cases hb : set.testBit k with
      | false => simp
      | true =>
        rw [if_pos rfl]
        rw [hb, Bool.true_and] at hl
        unfold near at hl
        have hl2 : ¬ (sh v s 6 < 0 + sh v k 7 ∧ sh v k 6 < 0 + sh v s 7) := by
          rintro ⟨a, b⟩
          rw [decide_eq_true a, decide_eq_true b] at hl
          cases hl
        unfold F_M_gap
        simp only [m_begin h hV2 hs, m_begin h hV2 hk, m_end h hV2 hs, m_end h hV2 hk, Option.bind_some, nI_leI (by omega : sh v k 6 < 2 ^ 31) (by omega : sh v s 6 < 2 ^ 31)]
        unfold near
        by_cases q1 : sh v k 6 ≤ sh v s 6
        · simp only [q1, if_true, Option.bind_some, p_le_sub hg (by omega : sh v s 6 < 2 ^ 20) (by omega : sh v k 7 < 2 ^ 20)]
          have q2 : sh v k 6 < g + sh v s 7 := by omega
          by_cases q3 : g + sh v k 7 ≤ sh v s 6
          · have q4 : ¬ sh v s 6 < g + sh v k 7 := by omega
            simp [q3, q4]
          · have q4 : sh v s 6 < g + sh v k 7 := by omega
            simp [q3, q4, q2]
        · simp only [q1, if_false, Option.bind_some, p_le_sub hg (by omega : sh v k 6 < 2 ^ 20) (by omega : sh v s 7 < 2 ^ 20)]
          have q2 : sh v s 6 < g + sh v k 7 := by omega
          by_cases q3 : g + sh v s 7 ≤ sh v k 6
          · have q4 : ¬ sh v k 6 < g + sh v s 7 := by omega
            simp [q3, q4]
          · have q4 : sh v k 6 < g + sh v s 7 := by omega
            simp [q3, q4, q2]
end T
