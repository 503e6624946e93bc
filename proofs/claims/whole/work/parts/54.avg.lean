/-! ===== PURE: the average and the share ===== -/
def smf (f : Nat → Nat) (n : Nat) : Nat := fo (fun i a => a + f i) 0 0 n
theorem smf_succ (f : Nat → Nat) (n : Nat) : smf f (n + 1) = smf f n + f n := by
  unfold smf
  rw [fo_snoc, Nat.zero_add]
theorem smf_congr {f g : Nat → Nat} : ∀ n, (∀ i, i < n → f i = g i) → smf f n = smf g n := by
  intro n
  induction n with
  | zero => intro _; rfl
  | succ n ih =>
    intro h
    rw [smf_succ, smf_succ, ih (fun i hi => h i (by omega)), h n (by omega)]
theorem smf_upd {f g : Nat → Nat} {j d : Nat} : ∀ n, j < n → (∀ i, i ≠ j → g i = f i) → g j = f j + d → smf g n = smf f n + d := by
  intro n
  induction n with
  | zero => intro h; omega
  | succ n ih =>
    intro hj he h1
    rw [smf_succ, smf_succ]
    by_cases h : j = n
    · subst h
      rw [h1, smf_congr j (fun i hi => he i (by omega))]
      omega
    · rw [ih (by omega) he h1, he n (fun z => h z.symm)]
      omega
theorem smf_le {f : Nat → Nat} {c : Nat} : ∀ n, (∀ i, i < n → f i ≤ c) → smf f n ≤ c * n := by
  intro n
  induction n with
  | zero => intro _; exact Nat.zero_le _
  | succ n ih =>
    intro h
    rw [smf_succ]
    have h1 := ih (fun i hi => h i (by omega))
    have h2 := h n (by omega)
    rw [Nat.mul_succ]
    omega
theorem hrs_smf (v : Nat → Nat) (set : Nat) (c : Option Nat) : hrs v set c = smf (fun s => if hcd v set c s = true then sh v s 2 else 0) (v 1) := by
  unfold hrs smf
  have e : (fun s a => if hcd v set c s = true then a + sh v s 2 else a) = (fun s a => a + if hcd v set c s = true then sh v s 2 else 0) := by
    funext s a
    split <;> rfl
  rw [e]
theorem hrs_or {v : Nat → Nat} {m s : Nat} (hs : s < v 1) (hm : m.testBit s = false) : hrs v (m ||| 2 ^ s) none = hrs v m none + sh v s 2 := by
  rw [hrs_smf, hrs_smf]
  refine smf_upd (j := s) (v 1) hs (fun i hi => ?_) ?_
  · unfold hcd
    rw [Nat.testBit_or, Nat.testBit_two_pow, decide_eq_false (fun z => hi z.symm), Bool.or_false]
  · unfold hcd
    rw [Nat.testBit_or, Nat.testBit_two_pow, decide_eq_true rfl, Bool.or_true, hm]
    simp
def avC (v : Nat → Nat) : Nat := smf (fun w => hrs v (hb v 0 1 w (v 2)) none) (v 0)
def avM (v : Nat → Nat) : Nat := smf (fun k => sh v (aw v k 1) 2) (v 2)
section AV
variable {X : ab_XX} {v : Nat → Nat}
theorem av_eq (hV : VV v) : avC v = avM v := by
  have key : ∀ K, K ≤ v 2 → smf (fun w => hrs v (hb v 0 1 w K) none) (v 0) = smf (fun k => sh v (aw v k 1) 2) K := by
    intro K
    induction K with
    | zero =>
      intro _
      have e : ∀ w, hrs v (hb v 0 1 w 0) none = 0 := fun w => by
        rw [hrs_smf]
        have := smf_le (f := fun s => if hcd v (hb v 0 1 w 0) none s = true then sh v s 2 else 0) (c := 0) (v 1) (fun i _ => by
          show (if hcd v 0 none i = true then sh v i 2 else 0) ≤ 0
          unfold hcd
          rw [Nat.zero_testBit]
          exact Nat.le_refl _)
        omega
      have := smf_le (f := fun w => hrs v (hb v 0 1 w 0) none) (c := 0) (v 0) (fun i _ => by rw [e]; exact Nat.le_refl _)
      rw [Nat.zero_mul] at this
      exact Nat.le_zero.mp this
    | succ K ih =>
      intro hK
      have ha := hV.2.2.2.2.1 K (by omega)
      rw [smf_succ, ← ih (by omega)]
      refine smf_upd (j := aw v K 0) (v 0) ha.1 (fun w hw => ?_) ?_
      · rw [hb_succ, if_neg (fun z => hw z.symm)]
      · rw [hb_succ, if_pos rfl]
        refine hrs_or ha.2 ?_
        cases hb2 : (hb v 0 1 (aw v K 0) K).testBit (aw v K 1) with
        | false => rfl
        | true =>
          obtain ⟨i, h1, h2, h3⟩ := (hb_t v 0 1 (aw v K 0) (aw v K 1) K).mp hb2
          exact absurd ⟨h2, h3⟩ (aw_ne hV h1 (by omega))
  exact key (v 2) (Nat.le_refl _)
theorem avM_le (hV : VV v) : avM v ≤ 576 := by
  have hB := hV.1
  have := smf_le (f := fun k => sh v (aw v k 1) 2) (c := 12) (v 2) (fun i hi => (hV.2.2.1 _ (hV.2.2.2.2.1 i hi).2).2.2.2.1)
  unfold avM
  omega
def ddk (a b : Nat) : Bool := ab_n64 (FP.ddiv (FP.i2d (nI a)) (FP.i2d (nI b))) && decide (Op.cmpValue (FP.dcmp (FP.ddiv (FP.i2d (nI a)) (FP.i2d (nI b))) (FP.ddiv (FP.i2d (nI a)) (FP.i2d (nI b)))) .l = nI 0)
theorem dd_dec : ∀ b, b < 10 → ∀ a, a < 577 → ddk a (b + 1) = true := by decide +kernel
def fdk (a b : Nat) : Bool := ab_n32 (FP.fdiv (FP.i2f (nI a)) (FP.i2f (nI b))) && ab_n64 (FP.f2d (FP.fdiv (FP.i2f (nI a)) (FP.i2f (nI b)))) && decide (Op.cmpValue (FP.dcmp (FP.f2d (FP.fdiv (FP.i2f (nI a)) (FP.i2f (nI b)))) (FP.f2d (FP.fdiv (FP.i2f (nI a)) (FP.i2f (nI b))))) .l = nI 0)
theorem fd_dec2 : ∀ b, b < 48 → ∀ a, a < 49 → fdk a (b + 1) = true := by decide +kernel
def dres (a b : Nat) : UInt64 := FP.ddiv (FP.i2d (nI a)) (FP.i2d (nI b))
def fres (a b : Nat) : UInt32 := FP.fdiv (FP.i2f (nI a)) (FP.i2f (nI b))
theorem q_averageHours (h : RC (X 3) v) (g : RM (X 14) v) (hV : VV v) : (∃ b, F_C_averageHours X = some (.inl b) ∧ F_M_averageHours X = some (b, ab_up X 13 0 (nI 0)) ∧ Op.cmpValue (FP.dcmp b b) .l = nI 0) ∨ (F_C_averageHours X = some (.inr 5) ∧ F_M_averageHours X = some (FP.dconst0, ab_up X 13 0 (nI 1))) := by
  have hB := hV.1
  unfold F_C_averageHours F_M_averageHours
  rw [c_workerTotal h, m_workers g, Option.bind_some, Option.bind_some]
  by_cases h0 : v 0 = 0
  · refine .inr ⟨?_, ?_⟩
    · rw [h0, if_pos rfl]
    · rw [h0, if_pos rfl, th_k X _ _ (by decide) (by decide)]
  · have hn : ¬ nI (v 0) = nI 0 := fun z => h0 ((nI_eq (by omega) (by decide)).mp z)
    rw [if_neg hn, if_neg hn, th_0]
    have hd := dd_dec (v 0 - 1) (by omega) (avM v) (by have := avM_le hV; omega)
    rw [show v 0 - 1 + 1 = v 0 by omega] at hd
    unfold ddk at hd
    rw [Bool.and_eq_true, decide_eq_true_eq] at hd
    refine .inl ⟨dres (avM v) (v 0), ?_, ?_, hd.2⟩
    · have e := p_lp (fun n a k => L_C_averageHours_27 X n (nI (v 0)) (nI a) k) (fun w a => a + hrs v (hb v 0 1 w (v 2)) none) (fun a => if ab_n64 (dres a (v 0)) = true then some (.inl (dres a (v 0))) else none) (v 0) (fun _ => True) (fun _ _ _ _ => trivial) (fun n a _ => ?_) (fun n a k hk _ => ?_) (v 0) 0 0 ab_fu trivial (by omega) (by unfold ab_fu; omega)
      · refine e.trans ?_
        rw [show fo (fun w a => a + hrs v (hb v 0 1 w (v 2)) none) 0 0 (v 0) = avM v from av_eq hV, if_pos (show ab_n64 (dres (avM v) (v 0)) = true from hd.1)]
      · rw [L_C_averageHours_27, if_pos (nI_le (Nat.le_refl _) (by omega))]
        rfl
      · rw [L_C_averageHours_27, if_neg (nI_ge hk (by omega)), c_heldBy h hV (by omega), Option.bind_some]
        have e2 := c_hoursOf h hV (hb31 hV k) (c := none) (fun w z => by cases z)
        rw [show cI none = (-1 : Int32) from rfl] at e2
        rw [e2, Option.bind_some, nI_add, nI_add]
    · have g := m13 g 0 (nI 0)
      generalize ab_up X 13 0 (nI 0) = X at g
      have e := p_lp (fun n a k => L_M_averageHours_29 n X (nI a) k) (fun k a => a + sh v (aw v k 1) 2) (fun a => if ab_n64 (dres a (v 0)) = true then some (dres a (v 0), X) else none) (v 2) (fun _ => True) (fun _ _ _ _ => trivial) (fun n a _ => ?_) (fun n a k hk _ => ?_) (v 2) 0 0 ab_fu trivial (by omega) (by unfold ab_fu; omega)
      · refine e.trans ?_
        rw [show fo (fun k a => a + sh v (aw v k 1) 2) 0 0 (v 2) = avM v from rfl, if_pos (show ab_n64 (dres (avM v) (v 0)) = true from hd.1)]
      · rw [L_M_averageHours_29, m_awards g, Option.bind_some, if_pos (nI_le (Nat.le_refl _) (by omega)), m_workers g, Option.bind_some]
        rfl
      · rw [L_M_averageHours_29, m_awards g, Option.bind_some, if_neg (nI_ge hk (by omega)), m_awardShift g hk hB.2.2, Option.bind_some, m_ofShift g (hV.2.2.2.2.1 k hk).2 hB.2.1 (by decide), Option.bind_some, nI_add, nI_add]
theorem nds_b (hV : VV v) : v 1 ≤ nds v ∧ nds v ≤ 3 * v 1 := by
  unfold nds
  have key : ∀ n, n ≤ v 1 → n ≤ fo (fun s a => a + sh v s 4) 0 0 n ∧ fo (fun s a => a + sh v s 4) 0 0 n ≤ 3 * n := by
    intro n
    induction n with
    | zero => intro _; exact ⟨Nat.le_refl _, Nat.le_refl _⟩
    | succ n ih =>
      intro hn
      have h1 := ih (by omega)
      have h2 := hV.2.2.1 n (by omega)
      rw [fo_snoc, Nat.zero_add]
      omega
  exact key (v 1) (Nat.le_refl _)
theorem q_coveredShare (h : RC (X 3) v) (g : RM (X 14) v) (hV : VV v) : (∃ b, F_C_coveredShare X = some (.inl b) ∧ F_M_coveredShare X = some (b, ab_up X 13 0 (nI 0)) ∧ ab_n64 (FP.f2d b) = true ∧ Op.cmpValue (FP.dcmp (FP.f2d b) (FP.f2d b)) .l = nI 0) ∨ (F_C_coveredShare X = some (.inr 5) ∧ F_M_coveredShare X = some (FP.fconst0, ab_up X 13 0 (nI 1))) := by
  have hB := hV.1
  have hn := nds_b hV
  have eC := p_lp (fun n a k => L_C_coveredShare_4 X n (nI a) k) (fun s a => a + sh v s 4) (fun a => if nI a = nI 0 then some (.inr 5) else if ab_n32 (fres (v 2) a) = true then some (.inl (fres (v 2) a)) else none) (v 1) (fun _ => True) (fun _ _ _ _ => trivial) (fun n a _ => by
    rw [L_C_coveredShare_4, c_shiftTotal h, Option.bind_some, if_pos (nI_le (Nat.le_refl _) (by omega)), c_awardTotal h, Option.bind_some]
    rfl) (fun n a k hk _ => by
    rw [L_C_coveredShare_4, c_shiftTotal h, Option.bind_some, if_neg (nI_ge hk (by omega)), c_shiftPart h (by omega) (by decide), Option.bind_some, nI_add, nI_add]) (v 1) 0 0 ab_fu trivial (by omega) (by unfold ab_fu; omega)
  rw [show fo (fun s a => a + sh v s 4) 0 0 (v 1) = nds v from rfl] at eC
  have eC : F_C_coveredShare X = _ := eC
  unfold F_M_coveredShare
  rw [m_shifts g, Option.bind_some]
  by_cases h0 : v 1 = 0
  · refine .inr ⟨?_, ?_⟩
    · rw [eC, show nds v = 0 by omega, if_pos rfl]
    · rw [h0, if_pos rfl, th_k X _ _ (by decide) (by decide)]
  · have hn1 : ¬ nI (v 1) = nI 0 := fun z => h0 ((nI_eq (by omega) (by decide)).mp z)
    have hn2 : ¬ nI (nds v) = nI 0 := fun z => by have := (nI_eq (by omega) (by decide)).mp z; omega
    have hd := fd_dec2 (nds v - 1) (by omega) (v 2) (by omega)
    rw [show nds v - 1 + 1 = nds v by omega] at hd
    unfold fdk at hd
    rw [Bool.and_eq_true, Bool.and_eq_true, decide_eq_true_eq] at hd
    refine .inl ⟨fres (v 2) (nds v), ?_, ?_, hd.1.2, hd.2⟩
    · rw [eC, if_neg hn2, if_pos (show ab_n32 (fres (v 2) (nds v)) = true from hd.1.1)]
    · rw [if_neg hn1, th_0]
      have g := m13 g 0 (nI 0)
      generalize ab_up X 13 0 (nI 0) = X at g
      have e := p_lp (fun n a k => L_M_coveredShare_29 n X (nI a) k) (fun s a => a + sh v s 4) (fun a => if ab_n32 (fres (v 2) a) = true then some (fres (v 2) a, X) else none) (v 1) (fun _ => True) (fun _ _ _ _ => trivial) (fun n a _ => ?_) (fun n a k hk _ => ?_) (v 1) 0 0 ab_fu trivial (by omega) (by unfold ab_fu; omega)
      · refine e.trans ?_
        rw [show fo (fun s a => a + sh v s 4) 0 0 (v 1) = nds v from rfl, if_pos (show ab_n32 (fres (v 2) (nds v)) = true from hd.1.1)]
      · rw [L_M_coveredShare_29, m_shifts g, Option.bind_some, if_pos (nI_le (Nat.le_refl _) (by omega)), m_awards g, Option.bind_some]
        rfl
      · rw [L_M_coveredShare_29, m_shifts g, Option.bind_some, if_neg (nI_ge hk (by omega)), m_ofShift g hk hB.2.1 (by decide), Option.bind_some, nI_add, nI_add]
end AV
