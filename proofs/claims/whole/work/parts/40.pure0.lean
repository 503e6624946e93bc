/-! ===== PURE: ints of naturals, worlds changed at one place, loops ===== -/
theorem p_mul (a b : Nat) : nI a * nI b = nI (a * b) := (Int32.ofNat_mul a b).symm
theorem p_sub {a b : Nat} (h : b ≤ a) : nI a - nI b = nI (a - b) := by
  have h1 := nI_add (a - b) b
  rw [Nat.sub_add_cancel h] at h1
  rw [← h1, Int32.add_sub_cancel]
theorem p_and (a b : Nat) : nI a &&& nI b = nI (a &&& b) := Int32.toBitVec_inj.mp (BitVec.ofNat_and.symm)
theorem p_or (a b : Nat) : nI a ||| nI b = nI (a ||| b) := Int32.toBitVec_inj.mp (BitVec.ofNat_or.symm)
theorem p_xor (a b : Nat) : nI a ^^^ nI b = nI (a ^^^ b) := Int32.toBitVec_inj.mp (BitVec.ofNat_xor.symm)
theorem p_bit : ∀ s : Nat, s < 31 → nI 1 <<< (nI s &&& 31) = nI (2 ^ s) := by decide +kernel
theorem p_in {i n : Nat} (h : i < n) (hn : n < 2 ^ 31) : ab_in (nI i) n = true := decide_eq_true (nI_in h hn)
theorem p_toNat {m : Nat} (h : m < 2 ^ 31) : (nI m).toBitVec.toNat = m := by
  show (BitVec.ofNat 32 m).toNat = m
  rw [BitVec.toNat_ofNat]
  omega
theorem p_shr_s : ∀ s : Nat, s < 32 → ((nI s &&& 31).toBitVec.smod 32#32) = BitVec.ofNat 32 s := by decide +kernel
theorem p_shr (m s : Nat) (hm : m < 2 ^ 31) (hs : s < 32) : nI m >>> (nI s &&& 31) = nI (m >>> s) := by
  apply Int32.toBitVec_inj.mp
  show (nI m).toBitVec.sshiftRight' ((nI s &&& 31).toBitVec.smod 32#32) = (nI (m >>> s)).toBitVec
  rw [p_shr_s s hs]
  apply BitVec.eq_of_toNat_eq
  have h1 : (nI m).toBitVec.msb = false := by
    rw [BitVec.msb_eq_decide, p_toNat hm]
    exact decide_eq_false (by omega)
  have h2 : m >>> s ≤ m := Nat.shiftRight_le m s
  rw [BitVec.sshiftRight', BitVec.sshiftRight_eq_of_msb_false h1, BitVec.toNat_ushiftRight, p_toNat hm, p_toNat (by omega), BitVec.toNat_ofNat, Nat.mod_eq_of_lt (by omega : s < 2 ^ 32)]
theorem p_tb (m s : Nat) : m >>> s &&& 1 = (m.testBit s).toNat := by
  rw [Nat.testBit, Nat.and_comm 1]
  have : m >>> s &&& 1 < 2 := by
    rw [Nat.and_one_is_mod]
    omega
  generalize m >>> s &&& 1 = x at this ⊢
  match x, this with
  | 0, _ => rfl
  | 1, _ => rfl
theorem p_tst (m s : Nat) (hm : m < 2 ^ 31) (hs : s < 32) : (nI m >>> (nI s &&& 31)) &&& nI 1 = nI (m.testBit s).toNat := by
  rw [p_shr m s hm hs, p_and, p_tb]
def p_clr (a g : Nat) : Nat := a ^^^ (a &&& 2 ^ g)
theorem p_clr_bit : ∀ g : Nat, g < 31 → ((nI (2 ^ g) ^^^ (-1 : Int32)).toBitVec = ~~~ (BitVec.ofNat 32 (2 ^ g))) := by decide +kernel
theorem p_clr_eq (a g : Nat) (hg : g < 31) : nI a &&& (nI (2 ^ g) ^^^ (-1 : Int32)) = nI (p_clr a g) := by
  apply Int32.toBitVec_inj.mp
  rw [Int32.toBitVec_and, p_clr_bit g hg]
  show BitVec.ofNat 32 a &&& ~~~ (BitVec.ofNat 32 (2 ^ g)) = BitVec.ofNat 32 (a ^^^ (a &&& 2 ^ g))
  rw [BitVec.ofNat_xor, BitVec.ofNat_and]
  generalize BitVec.ofNat 32 a = x
  generalize BitVec.ofNat 32 (2 ^ g) = y
  ext i hi
  simp
  cases x[i] <;> cases y[i] <;> rfl
theorem p_clr_t (a g i : Nat) : (p_clr a g).testBit i = (a.testBit i && decide (i ≠ g)) := by
  unfold p_clr
  rw [Nat.testBit_xor, Nat.testBit_and, Nat.testBit_two_pow]
  by_cases h : g = i
  · subst h; simp
  · have h2 : ¬ i = g := fun z => h z.symm
    simp [h, h2]
theorem p_clr_lt {a g n : Nat} (h : a < 2 ^ n) : p_clr a g < 2 ^ n := by
  refine Nat.lt_pow_two_of_testBit _ fun i hi => ?_
  rw [p_clr_t, Nat.testBit_lt_two_pow (Nat.lt_of_lt_of_le h (Nat.pow_le_pow_right (by decide) hi)), Bool.false_and]
/-! worlds -/
theorem p_up_ne (X : ab_XX) (c i : Nat) (v : Int32) (d : Nat) (h : d ≠ c) : ab_up X c i v d = X d := if_neg h
theorem p_up_eq (X : ab_XX) (c i : Nat) (v : Int32) : ab_up X c i v c = upd (X c) i v := if_pos rfl
theorem p_up_sm (X : ab_XX) (c i : Nat) (v : Int32) : ab_up X c i v c i = v := by rw [p_up_eq]; exact if_pos rfl
theorem p_up_df (X : ab_XX) (c i : Nat) (v : Int32) (j : Nat) (h : j ≠ i) : ab_up X c i v c j = X c j := by rw [p_up_eq]; exact if_neg h
/-! loops -/
def fo {A : Type} (st : Nat → A → A) : A → Nat → Nat → A
  | a, _, 0 => a
  | a, k, m + 1 => fo st (st k a) (k + 1) m
theorem p_lp {A R : Type} (L : Nat → A → Int32 → Option R) (st : Nat → A → A) (fin : A → Option R) (N : Nat) (I : A → Prop) (hI : ∀ a k, k < N → I a → I (st k a)) (hend : ∀ n a, I a → L (n + 1) a (nI N) = fin a)
    (hst : ∀ n a k, k < N → I a → L (n + 1) a (nI k) = L n (st k a) (nI (k + 1))) : ∀ m k a n, I a → k + m = N → m < n → L n a (nI k) = fin (fo st a k m) := by
  intro m
  induction m with
  | zero =>
    intro k a n ha hk hn
    cases n with
    | zero => omega
    | succ n =>
      rw [show k = N by omega]
      exact hend n a ha
  | succ m ih =>
    intro k a n ha hk hn
    cases n with
    | zero => omega
    | succ n =>
      rw [hst n a k (by omega) ha]
      exact ih (k + 1) _ n (hI a k (by omega) ha) (by omega) (by omega)
/-- a loop that may end early -/
def fe {A R : Type} (st : Nat → A → A ⊕ R) (fin : A → R) : A → Nat → Nat → R
  | a, _, 0 => fin a
  | a, k, m + 1 => match st k a with
    | .inl a2 => fe st fin a2 (k + 1) m
    | .inr r => r
theorem p_le {A R : Type} (L : Nat → A → Int32 → Option R) (st : Nat → A → A ⊕ R) (fin : A → R) (N : Nat) (I : A → Prop) (hI : ∀ a a2 k, k < N → I a → st k a = .inl a2 → I a2) (hend : ∀ n a, I a → L (n + 1) a (nI N) = some (fin a))
    (hst : ∀ n a k, k < N → I a → L (n + 1) a (nI k) = match st k a with
      | .inl a2 => L n a2 (nI (k + 1))
      | .inr r => some r) : ∀ m k a n, I a → k + m = N → m < n → L n a (nI k) = some (fe st fin a k m) := by
  intro m
  induction m with
  | zero =>
    intro k a n ha hk hn
    cases n with
    | zero => omega
    | succ n =>
      rw [show k = N by omega]
      exact hend n a ha
  | succ m ih =>
    intro k a n ha hk hn
    cases n with
    | zero => omega
    | succ n =>
      rw [hst n a k (by omega) ha]
      unfold fe
      cases h : st k a with
      | inl a2 => exact ih (k + 1) a2 n (hI a a2 k (by omega) ha h) (by omega) (by omega)
      | inr r => rfl
