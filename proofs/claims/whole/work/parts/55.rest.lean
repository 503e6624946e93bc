/-! ===== PURE: the shortest rest ===== -/
def gd (v : Nat → Nat) (H a b : Nat) : Bool := H.testBit a && H.testBit b && decide (sh v a 7 ≤ sh v b 6)
def gv (v : Nat → Nat) (a b : Nat) : Nat := sh v b 6 - sh v a 7
def mn (l : Option Nat) (x : Nat) : Option Nat := match l with
  | none => some x
  | some g => if g ≤ x then some g else some x
def IsM (v : Nat → Nat) (H : Nat) (Q : Nat → Nat → Prop) (l : Option Nat) : Prop := (∀ a b, Q a b → gd v H a b = true → ∃ g, l = some g ∧ g ≤ gv v a b) ∧ (∀ g, l = some g → ∃ a b, Q a b ∧ gd v H a b = true ∧ g = gv v a b)
theorem IsM_un {v : Nat → Nat} {H : Nat} {Q Q2 : Nat → Nat → Prop} {l l2 : Option Nat} (h : IsM v H Q l) (h2 : IsM v H Q2 l2) (he : ∀ a b, gd v H a b = true → (Q a b ↔ Q2 a b)) : l = l2 := by
  cases l with
  | none =>
    cases l2 with
    | none => rfl
    | some g2 =>
      obtain ⟨a, b, q, hg, _⟩ := h2.2 g2 rfl
      obtain ⟨g, hg2, _⟩ := h.1 a b ((he a b hg).mpr q) hg
      cases hg2
  | some g =>
    obtain ⟨a, b, q, hg, e⟩ := h.2 g rfl
    obtain ⟨g2, hg2, hle⟩ := h2.1 a b ((he a b hg).mp q) hg
    subst hg2
    obtain ⟨a2, b2, q2, hgg, e2⟩ := h2.2 g2 rfl
    obtain ⟨g3, hg3, hle3⟩ := h.1 a2 b2 ((he a2 b2 hgg).mpr q2) hgg
    cases hg3
    have : g = g2 := by omega
    rw [this]
def lgs (v : Nat → Nat) (H a b : Nat) (l : Option Nat) : Option Nat := if gd v H a b = true then mn l (gv v a b) else l
theorem mn_some (l : Option Nat) (x : Nat) : ∃ g, mn l x = some g ∧ g ≤ x ∧ (g = x ∨ l = some g) ∧ ∀ y, l = some y → g ≤ y := by
  unfold mn
  cases l with
  | none => exact ⟨x, rfl, Nat.le_refl _, .inl rfl, fun y z => by cases z⟩
  | some y =>
    dsimp only
    split
    · exact ⟨y, rfl, by assumption, .inr rfl, fun z hz => by cases hz; exact Nat.le_refl _⟩
    · exact ⟨x, rfl, Nat.le_refl _, .inl rfl, fun z hz => by cases hz; omega⟩
theorem IsM_add {v : Nat → Nat} {H : Nat} {Q Q2 : Nat → Nat → Prop} {l : Option Nat} {a0 b0 : Nat} (h : IsM v H Q l) (hq : ∀ a b, gd v H a b = true → (Q2 a b ↔ Q a b ∨ (a = a0 ∧ b = b0))) : IsM v H Q2 (lgs v H a0 b0 l) := by
  unfold lgs
  by_cases hg : gd v H a0 b0 = true
  · rw [if_pos hg]
    obtain ⟨g, e, h1, h2, h3⟩ := mn_some l (gv v a0 b0)
    rw [e]
    refine ⟨fun a b q hg2 => ⟨g, rfl, ?_⟩, fun g2 hg2 => ?_⟩
    · rcases (hq a b hg2).mp q with q | ⟨rfl, rfl⟩
      · obtain ⟨y, hy, hle⟩ := h.1 a b q hg2
        have := h3 y hy
        omega
      · exact h1
    · cases hg2
      rcases h2 with h2 | h2
      · exact ⟨a0, b0, (hq a0 b0 hg).mpr (.inr ⟨rfl, rfl⟩), hg, h2⟩
      · obtain ⟨a, b, q, hgg, e2⟩ := h.2 g h2
        exact ⟨a, b, (hq a b hgg).mpr (.inl q), hgg, e2⟩
  · rw [if_neg hg]
    refine ⟨fun a b q hg2 => ?_, fun g2 hg2 => ?_⟩
    · rcases (hq a b hg2).mp q with q | ⟨rfl, rfl⟩
      · exact h.1 a b q hg2
      · exact absurd hg2 hg
    · obtain ⟨a, b, q, hgg, e2⟩ := h.2 g2 hg2
      exact ⟨a, b, (hq a b hgg).mpr (.inl q), hgg, e2⟩
def lgC (v : Nat → Nat) (H : Nat) : Option Nat := fo (fun a l => fo (lgs v H a) l 0 (v 1)) none 0 (v 1)
theorem lgC_ok (v : Nat → Nat) (H : Nat) : IsM v H (fun a b => a < v 1 ∧ b < v 1) (lgC v H) := by
  have inner : ∀ (a0 : Nat) (l : Option Nat) (Q : Nat → Nat → Prop), IsM v H Q l → ∀ n, IsM v H (fun a b => Q a b ∨ (a = a0 ∧ b < n)) (fo (lgs v H a0) l 0 n) := by
    intro a0 l Q hl n
    induction n with
    | zero =>
      refine ⟨fun a b q hg => ?_, fun g hg => ?_⟩
      · rcases q with q | ⟨_, q⟩
        · exact hl.1 a b q hg
        · omega
      · obtain ⟨a, b, q, h2⟩ := hl.2 g hg
        exact ⟨a, b, .inl q, h2⟩
    | succ n ih =>
      rw [fo_snoc, Nat.zero_add]
      refine IsM_add ih (fun a b _ => ?_)
      constructor
      · rintro (q | ⟨h1, h2⟩)
        · exact .inl (.inl q)
        · by_cases h : b = n
          · exact .inr ⟨h1, h⟩
          · exact .inl (.inr ⟨h1, by omega⟩)
      · rintro ((q | ⟨h1, h2⟩) | ⟨h1, h2⟩)
        · exact .inl q
        · exact .inr ⟨h1, by omega⟩
        · exact .inr ⟨h1, by omega⟩
  have outer : ∀ n, IsM v H (fun a b => a < n ∧ b < v 1) (fo (fun a l => fo (lgs v H a) l 0 (v 1)) none 0 n) := by
    intro n
    induction n with
    | zero => exact ⟨fun a b q _ => absurd q.1 (Nat.not_lt_zero a), fun g hg => by cases hg⟩
    | succ n ih =>
      rw [fo_snoc, Nat.zero_add]
      have h := inner n _ _ ih (v 1)
      refine ⟨fun a b q hg => h.1 a b ?_ hg, fun g hg => ?_⟩
      · by_cases ha : a = n
        · exact .inr ⟨ha, q.2⟩
        · exact .inl ⟨by omega, q.2⟩
      · obtain ⟨a, b, q, h2⟩ := h.2 g hg
        refine ⟨a, b, ?_, h2⟩
        rcases q with q | q
        · exact ⟨by omega, q.2⟩
        · exact ⟨by omega, q.2⟩
  exact outer (v 1)
section RE
variable {X : ab_XX} {v : Nat → Nat}
theorem p_lt0 {a b : Nat} (ha : a < 2 ^ 20) (hb : b < 2 ^ 20) : (nI a - nI b < nI 0) = (a < b) := by
  have h := p_le_sub (g := 0) (by decide) ha hb
  apply propext
  rw [← Int32.not_le, h]
  omega
theorem p_le_I {g a : Nat} (hg : g < 2 ^ 20) (ha : a < 2 ^ 20) : (nI g ≤ nI a) = (g ≤ a) := propext (nI_leI (by omega) (by omega))
theorem c_leastGap (h : RC (X 3) v) (hV : VV v) {H : Nat} (hH : H < 2 ^ 31) : F_U_leastGap X (nI H) = some (cI (lgC v H)) := by
  have hB := hV.1
  have inner : ∀ (K : Int32 → Int32 → Int32 → Option Int32) (a : Nat), a < v 1 → ∀ (m k : Nat) (l : Option Nat) (n : Nat), (∀ g, l = some g → g < 2 ^ 20) → k + m = v 1 → m < n → L_U_leastGap_18 X K n (nI H) (cI l) (nI a) (nI k) = K (nI H) (cI (fo (lgs v H a) l k m)) (nI (a + 1)) := by
    intro K a ha
    refine p_lp (fun n l k => L_U_leastGap_18 X K n (nI H) (cI l) (nI a) k) (lgs v H a) (fun l => K (nI H) (cI l) (nI (a + 1))) (v 1) (fun l => ∀ g, l = some g → g < 2 ^ 20) (fun l k hk hl => ?_) (fun n l _ => ?_) (fun n l k hk hl => ?_)
    · intro g
      have hk3 := hV.2.2.1 k hk
      unfold lgs gv
      split
      · intro hg
        obtain ⟨g2, e, h1, _⟩ := mn_some l (sh v k 6 - sh v a 7)
        rw [e] at hg
        cases hg
        omega
      · exact hl g
    · rw [L_U_leastGap_18, c_shiftTotal h, Option.bind_some, if_pos (nI_le (Nat.le_refl _) (by omega)), nI_add]
    · have hk3 := hV.2.2.1 k hk
      have ha3 := hV.2.2.1 a ha
      rw [L_U_leastGap_18, c_shiftTotal h, Option.bind_some, if_neg (nI_ge hk (by omega)), c_shiftPart h (by omega) (by decide), Option.bind_some, c_shiftPart h (by omega) (by decide), Option.bind_some, c_isIn hH (by omega), Option.bind_some, c_isIn hH (by omega), Option.bind_some]
      simp only [p_b0, nI_add, p_lt0 (by omega : sh v k 6 < 2 ^ 20) (by omega : sh v a 7 < 2 ^ 20), cI_neg l (fun w hw => by have := hl w hw; omega)]
      unfold lgs gd gv
      cases H.testBit a with
      | false => simp
      | true =>
        cases H.testBit k with
        | false => simp
        | true =>
          by_cases q : sh v k 6 < sh v a 7
          · have q2 : ¬ sh v a 7 ≤ sh v k 6 := by omega
            simp [q, q2]
          · have q2 : sh v a 7 ≤ sh v k 6 := by omega
            rw [p_sub q2]
            cases l with
            | none => simp [q, q2, mn, cI]
            | some g =>
              have := hl g rfl
              have e : (nI g ≤ nI (sh v k 6 - sh v a 7)) = (g ≤ sh v k 6 - sh v a 7) := p_le_I this (by omega)
              simp only [cI, mn, e]
              by_cases q3 : g ≤ sh v k 6 - sh v a 7 <;> simp [q, q2, q3]
  have outer : ∀ (m k : Nat) (l : Option Nat) (n : Nat), (∀ g, l = some g → g < 2 ^ 20) → k + m = v 1 → m < n → L_U_leastGap_4 X n (nI H) (cI l) (nI k) = some (cI (fo (fun a l => fo (lgs v H a) l 0 (v 1)) l k m)) := by
    intro m
    induction m with
    | zero =>
      intro k l n hl hk hn
      cases n with
      | zero => omega
      | succ n => rw [L_U_leastGap_4, c_shiftTotal h, Option.bind_some, if_pos (nI_le (by omega) (by omega))]; rfl
    | succ m ih =>
      intro k l n hl hk hn
      cases n with
      | zero => omega
      | succ n =>
        rw [L_U_leastGap_4, c_shiftTotal h, Option.bind_some, if_neg (nI_ge (by omega) (by omega)), inner _ k (by omega) (v 1) 0 l ab_fu hl (by omega) (by unfold ab_fu; omega)]
        refine ih (k + 1) _ n ?_ (by omega) (by omega)
        have key : ∀ j, j ≤ v 1 → ∀ g, fo (lgs v H k) l 0 j = some g → g < 2 ^ 20 := by
          intro j
          induction j with
          | zero => intro _; exact hl
          | succ j ihj =>
            intro hj g
            have hk3 := hV.2.2.1 j (by omega)
            rw [fo_snoc, Nat.zero_add]
            unfold lgs gv
            split
            · intro hg
              obtain ⟨g2, e, h1, _⟩ := mn_some (fo (lgs v H k) l 0 j) (sh v j 6 - sh v k 7)
              unfold lgs gv at e
              rw [e] at hg
              cases hg
              omega
            · exact ihj (by omega) g
        exact key (v 1) (Nat.le_refl _)
  exact outer (v 1) 0 none ab_fu (fun g z => by cases z) (by omega) (by unfold ab_fu; omega)
end RE
