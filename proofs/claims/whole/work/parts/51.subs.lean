/-! ===== PURE: the sets within a set, in their order ===== -/
theorem tb_0 (m : Nat) : m.testBit 0 = decide (m % 2 = 1) := Nat.testBit_zero m
theorem tb_s (m i : Nat) : m.testBit (i + 1) = (m / 2).testBit i := Nat.testBit_succ m i
theorem and_half (a b : Nat) : (a &&& b) / 2 = (a / 2) &&& (b / 2) := Nat.and_div_two
theorem and_low (a b : Nat) : (a &&& b) % 2 = (a % 2) * (b % 2) := by
  have h := Nat.testBit_and a b 0
  rw [tb_0, tb_0, tb_0] at h
  rcases Nat.mod_two_eq_zero_or_one (a &&& b) with e | e <;> rcases Nat.mod_two_eq_zero_or_one a with e2 | e2 <;> rcases Nat.mod_two_eq_zero_or_one b with e3 | e3 <;> rw [e, e2, e3] at h <;> rw [e, e2, e3] <;> first | rfl | (exact absurd h (by decide))
theorem two_eq {a b : Nat} (h1 : a / 2 = b / 2) (h2 : a % 2 = b % 2) : a = b := by omega
/-- m within C -/
def wi (m C : Nat) : Prop := m &&& C = m
theorem wi_half {m C : Nat} (h : wi m C) : wi (m / 2) (C / 2) ∧ m % 2 ≤ C % 2 := by
  unfold wi at h ⊢
  have h1 := and_half m C
  have h2 := and_low m C
  rw [h] at h1 h2
  refine ⟨h1.symm, ?_⟩
  rcases Nat.mod_two_eq_zero_or_one m with e | e
  · omega
  · rw [e, Nat.one_mul] at h2
    omega
theorem wi_of {m C : Nat} (h1 : wi (m / 2) (C / 2)) (h2 : m % 2 ≤ C % 2) : wi m C := by
  unfold wi at h1 ⊢
  refine two_eq (by rw [and_half, h1]) ?_
  rw [and_low]
  rcases Nat.mod_two_eq_zero_or_one m with e | e
  · rw [e, Nat.zero_mul]
  · rw [e, Nat.one_mul]
    omega
theorem wi_le {m C : Nat} (h : wi m C) : m ≤ C := by
  unfold wi at h
  rw [← h]
  exact Nat.and_le_right
theorem sub_A : ∀ n C m, C < 2 ^ n → wi m C → (2 ^ n - 1 - C + m) &&& C = m := by
  intro n
  induction n with
  | zero =>
    intro C m hC hm
    have h0 := wi_le hm
    have : C = 0 := by omega
    subst this
    have : m = 0 := by omega
    subst this
    rfl
  | succ n ih =>
    intro C m hC hm
    have h0 := wi_le hm
    obtain ⟨h1, h2⟩ := wi_half hm
    have hp := Nat.pow_succ 2 n
    have hle := wi_le h1
    have e1 : (2 ^ (n + 1) - 1 - C + m) / 2 = 2 ^ n - 1 - C / 2 + m / 2 := by omega
    refine two_eq ?_ ?_
    · rw [and_half, e1]
      exact ih (C / 2) (m / 2) (by omega) h1
    · rw [and_low]
      rcases Nat.mod_two_eq_zero_or_one C with e | e
      · rw [e, Nat.mul_zero]
        omega
      · rw [e, Nat.mul_one]
        omega
def nxr : Nat → Nat → Nat → Nat
  | 0, _, _ => 0
  | n + 1, C, m => if C % 2 = 0 then 2 * nxr n (C / 2) (m / 2) else if m % 2 = 0 then m + 1 else 2 * nxr n (C / 2) (m / 2)
theorem sub_B : ∀ n C m, C < 2 ^ n → wi m C → (2 ^ n + m - C) &&& C = nxr n C m := by
  intro n
  induction n with
  | zero =>
    intro C m hC hm
    have : C = 0 := by omega
    subst this
    rw [Nat.and_zero]
    rfl
  | succ n ih =>
    intro C m hC hm
    have h0 := wi_le hm
    obtain ⟨h1, h2⟩ := wi_half hm
    have hp := Nat.pow_succ 2 n
    have hle := wi_le h1
    unfold nxr
    by_cases c0 : C % 2 = 0
    · rw [if_pos c0]
      refine two_eq ?_ ?_
      · rw [and_half, show (2 ^ (n + 1) + m - C) / 2 = 2 ^ n + m / 2 - C / 2 by omega, ih (C / 2) (m / 2) (by omega) h1]
        omega
      · rw [and_low, c0, Nat.mul_zero]
        omega
    · rw [if_neg c0]
      by_cases b0 : m % 2 = 0
      · rw [if_pos b0]
        have e1 : (2 ^ (n + 1) + m - C) / 2 = 2 ^ n - 1 - C / 2 + m / 2 := by omega
        refine two_eq ?_ ?_
        · rw [and_half, e1, sub_A n (C / 2) (m / 2) (by omega) h1]
          omega
        · rw [and_low, show C % 2 = 1 by omega, Nat.mul_one]
          omega
      · rw [if_neg b0]
        refine two_eq ?_ ?_
        · rw [and_half, show (2 ^ (n + 1) + m - C) / 2 = 2 ^ n + m / 2 - C / 2 by omega, ih (C / 2) (m / 2) (by omega) h1]
          omega
        · rw [and_low, show (2 ^ (n + 1) + m - C) % 2 = 0 by omega, Nat.zero_mul]
          omega
/-- the place of m among the sets within C -/
def rnk : Nat → Nat → Nat → Nat
  | 0, _, _ => 0
  | n + 1, C, m => if C % 2 = 0 then rnk n (C / 2) (m / 2) else 2 * rnk n (C / 2) (m / 2) + m % 2
theorem nxr_ok : ∀ n C m, C < 2 ^ n → wi m C → m ≠ C → m < nxr n C m ∧ wi (nxr n C m) C ∧ (∀ x, m < x → wi x C → nxr n C m ≤ x) ∧ rnk n C (nxr n C m) = rnk n C m + 1 := by
  intro n
  induction n with
  | zero =>
    intro C m hC hm hne
    have := wi_le hm
    omega
  | succ n ih =>
    intro C m hC hm hne
    have h0 := wi_le hm
    obtain ⟨h1, h2⟩ := wi_half hm
    have hp := Nat.pow_succ 2 n
    unfold nxr
    by_cases c0 : C % 2 = 0
    · rw [if_pos c0]
      obtain ⟨a1, a2, a3, a4⟩ := ih (C / 2) (m / 2) (by omega) h1 (by omega)
      generalize nxr n (C / 2) (m / 2) = y at a1 a2 a3 a4
      refine ⟨by omega, wi_of (by rw [show 2 * y / 2 = y by omega]; exact a2) (by omega), fun x hx hw => ?_, ?_⟩
      · obtain ⟨w1, w2⟩ := wi_half hw
        have := a3 (x / 2) (by omega) w1
        omega
      · unfold rnk
        rw [if_pos c0, if_pos c0, show 2 * y / 2 = y by omega]
        exact a4
    · rw [if_neg c0]
      by_cases b0 : m % 2 = 0
      · rw [if_pos b0]
        refine ⟨by omega, wi_of (by rw [show (m + 1) / 2 = m / 2 by omega]; exact h1) (by omega), fun x hx _ => hx, ?_⟩
        unfold rnk
        rw [if_neg c0, if_neg c0, show (m + 1) / 2 = m / 2 by omega]
        omega
      · rw [if_neg b0]
        obtain ⟨a1, a2, a3, a4⟩ := ih (C / 2) (m / 2) (by omega) h1 (by omega)
        generalize nxr n (C / 2) (m / 2) = y at a1 a2 a3 a4
        refine ⟨by omega, wi_of (by rw [show 2 * y / 2 = y by omega]; exact a2) (by omega), fun x hx hw => ?_, ?_⟩
        · obtain ⟨w1, w2⟩ := wi_half hw
          have := a3 (x / 2) (by omega) w1
          omega
        · unfold rnk
          rw [if_neg c0, if_neg c0, show 2 * y / 2 = y by omega, a4]
          omega
theorem cn_front (p : Nat → Bool) : ∀ n, cn p (n + 1) = (p 0).toNat + cn (fun i => p (i + 1)) n := by
  intro n
  induction n with
  | zero =>
    show 0 + (p 0).toNat = (p 0).toNat + 0
    omega
  | succ n ih =>
    rw [cn, ih]
    show (p 0).toNat + cn (fun i => p (i + 1)) n + (p (n + 1)).toNat = (p 0).toNat + (cn (fun i => p (i + 1)) n + (p (n + 1)).toNat)
    omega
theorem pc_succ (n C : Nat) : pc (n + 1) C = C % 2 + pc n (C / 2) := by
  unfold pc
  rw [cn_front, tb_0]
  have e : (fun i => C.testBit (i + 1)) = (fun i => (C / 2).testBit i) := funext fun i => tb_s C i
  rw [e]
  rcases Nat.mod_two_eq_zero_or_one C with h | h <;> rw [h] <;> rfl
theorem rnk_top : ∀ n C, C < 2 ^ n → rnk n C C + 1 = 2 ^ pc n C := by
  intro n
  induction n with
  | zero => intro C _; rfl
  | succ n ih =>
    intro C hC
    have hp := Nat.pow_succ 2 n
    have h := ih (C / 2) (by omega)
    rw [pc_succ]
    unfold rnk
    rcases Nat.mod_two_eq_zero_or_one C with e | e
    · rw [if_pos e, e, Nat.zero_add]
      exact h
    · rw [if_neg (by omega), e, Nat.add_comm 1, Nat.pow_succ, ← h]
      omega
theorem rnk_0 : ∀ n C, rnk n C 0 = 0 := by
  intro n
  induction n with
  | zero => intro C; rfl
  | succ n ih =>
    intro C
    unfold rnk
    rw [show 0 / 2 = 0 by decide, ih]
    split <;> rfl
theorem rnk_le : ∀ n C m, C < 2 ^ n → wi m C → rnk n C m ≤ rnk n C C := by
  intro n
  induction n with
  | zero => intro C m _ _; exact Nat.le_refl _
  | succ n ih =>
    intro C m hC hm
    have hp := Nat.pow_succ 2 n
    obtain ⟨h1, h2⟩ := wi_half hm
    have := ih (C / 2) (m / 2) (by omega) h1
    unfold rnk
    split
    · exact this
    · omega
theorem wi_0 (C : Nat) : wi 0 C := Nat.zero_and C
theorem wi_rf (C : Nat) : wi C C := Nat.and_self C
theorem wi_tr {a b c : Nat} (h1 : wi a b) (h2 : wi b c) : wi a c := by
  unfold wi at *
  rw [← h1, Nat.and_assoc, h2]
/-- the walk over the sets within C from m on, and over all numbers from m on -/
def wlk {A : Type} (C : Nat) (st : Nat → A → A) (m k : Nat) (a : A) : A := fo (fun x a => if x &&& C = x then st x a else a) a m k
theorem fo_add {A : Type} (st : Nat → A → A) : ∀ (j k m : Nat) (a : A), fo st a m (j + k) = fo st (fo st a m j) (m + j) k := by
  intro j
  induction j with
  | zero => intro k m a; rw [Nat.zero_add]; rfl
  | succ j ih =>
    intro k m a
    rw [show j + 1 + k = (j + k) + 1 by omega]
    show fo st (st m a) (m + 1) (j + k) = _
    rw [ih, show m + 1 + j = m + (j + 1) by omega]
    rfl
theorem fo_id {A : Type} (st : Nat → A → A) : ∀ (k m : Nat) (a : A), (∀ x b, m ≤ x → x < m + k → st x b = b) → fo st a m k = a := by
  intro k
  induction k with
  | zero => intro m a _; rfl
  | succ k ih =>
    intro m a h
    show fo st (st m a) (m + 1) k = a
    rw [h m a (Nat.le_refl _) (by omega)]
    exact ih (m + 1) a (fun x b h1 h2 => h x b (by omega) (by omega))
theorem wlk_last {A : Type} {C N : Nat} (st : Nat → A → A) (a : A) (hN : C < N) : wlk C st C (N - C) a = st C a := by
  unfold wlk
  rw [show N - C = (N - C - 1) + 1 by omega]
  show fo _ (if C &&& C = C then st C a else a) (C + 1) _ = _
  rw [if_pos (show C &&& C = C from wi_rf C)]
  refine fo_id _ _ _ _ fun x b h1 h2 => if_neg fun z => ?_
  have := wi_le z
  omega
theorem wlk_next {A : Type} {C N m : Nat} (st : Nat → A → A) (a : A) (hC : C < 2 ^ 32) (hN : C < N) (hm : wi m C) (hne : m ≠ C) : wlk C st m (N - m) a = wlk C st (nxr 32 C m) (N - nxr 32 C m) (st m a) := by
  obtain ⟨a1, a2, a3, _⟩ := nxr_ok 32 C m hC hm hne
  have h1 := wi_le a2
  unfold wlk
  rw [show N - m = 1 + ((nxr 32 C m - m - 1) + (N - nxr 32 C m)) by omega, fo_add, fo_add]
  rw [fo_id _ (nxr 32 C m - m - 1) (m + 1) _ (fun x b h2 h3 => if_neg fun z => by
    have := a3 x (by omega) z
    omega)]
  rw [show m + 1 + (nxr 32 C m - m - 1) = nxr 32 C m by omega]
  show fo _ (if m &&& C = m then st m a else a) _ _ = _
  rw [if_pos (show m &&& C = m from hm)]
theorem p_nx {m C : Nat} (hC : C < 2 ^ 31) (hm : wi m C) : (nI m - nI C) &&& nI C = nI (nxr 32 C m) := by
  rw [← sub_B 32 C m (by omega) hm, ← p_and]
  have h := wi_le hm
  have e : nI m - nI C = nI (2 ^ 32 + m - C) := by
    have h1 := nI_add (2 ^ 32 + m - C) C
    rw [show 2 ^ 32 + m - C + C = m + 2 ^ 32 by omega, ← nI_add m (2 ^ 32), show nI (2 ^ 32) = 0 by decide +kernel, Int32.add_zero] at h1
    rw [← h1, Int32.add_sub_cancel]
  rw [e]
