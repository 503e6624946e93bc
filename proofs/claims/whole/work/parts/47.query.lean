/-! ===== PURE: questions ===== -/
def sm (X Y : ab_XX) : Prop := ∀ o i, ¬ (o = 13 ∧ (i = 0 ∨ i = 11)) → Y o i = X o i
theorem sm_rf (X : ab_XX) : sm X X := fun _ _ _ => rfl
theorem sm_tr {X Y Z : ab_XX} (h1 : sm X Y) (h2 : sm Y Z) : sm X Z := fun o i h => (h2 o i h).trans (h1 o i h)
theorem sm_up (X : ab_XX) {i : Nat} (y : Int32) (hi : i = 0 ∨ i = 11) : sm X (ab_up X 13 i y) := fun o j h => by
  by_cases ho : o = 13
  · subst ho
    exact p_up_df X 13 i y j (fun z => h ⟨rfl, by rw [z]; exact hi⟩)
  · rw [p_up_ne X 13 i y o ho]
theorem sm_0 (X : ab_XX) (y : Int32) : sm X (ab_up X 13 0 y) := sm_up X y (.inl rfl)
theorem sm_11 (X : ab_XX) (y z : Int32) : sm X (ab_up (ab_up X 13 0 y) 13 11 z) := sm_tr (sm_0 X y) (sm_up _ z (.inr rfl))
def QR (o : Option (Int32 ⊕ Nat)) (l : List (Nat × Nat)) (M : Option (Int32 × ab_XX)) (X : ab_XX) : Prop :=
  (∃ a Y, o = some (.inl a) ∧ M = some (a, Y) ∧ sm X Y ∧ Y 13 0 = nI 0) ∨ (∃ x c b Y, (x, c) ∈ l ∧ o = some (.inr x) ∧ M = some (b, Y) ∧ sm X Y ∧ Y 13 0 = nI c)
theorem th_0 {α : Type} (X : ab_XX) (A B : ab_XX → Option α) : ((some (ab_up X 13 0 (nI 0))).bind fun Y => if Y 13 0 = nI 0 then A Y else B Y) = A (ab_up X 13 0 (nI 0)) := by
  rw [Option.bind_some, if_pos (p_up_sm X 13 0 _)]
theorem th_k {α : Type} (X : ab_XX) (A B : ab_XX → Option α) {k : Nat} (h0 : 0 < k) (hk : k < 2 ^ 31) : ((some (ab_up X 13 0 (nI k))).bind fun Y => if Y 13 0 = nI 0 then A Y else B Y) = B (ab_up X 13 0 (nI k)) := by
  rw [Option.bind_some, if_neg]
  rw [p_up_sm]
  exact nI_ne0 h0 hk
theorem n10 : ¬ nI 1 = nI 0 := by decide
theorem b2_l {A α : Type} (a : A) (f : A → Option α) (g : Nat → Option α) : ab_b2 (some (.inl a)) f g = f a := rfl
theorem b2_r {A α : Type} (x : Nat) (f : A → Option α) (g : Nat → Option α) : ab_b2 (some (.inr x)) f g = g x := rfl
theorem b3_s {A α : Type} (a : A) (Y : ab_XX) (f : A → ab_XX → Option α) : ab_b3 (some (a, Y)) f = f a Y := rfl
theorem in_cs (a : Int32) (l h : Nat) (hh : h < 2 ^ 31) (hl : l < 2 ^ 31) : (∃ w, l ≤ w ∧ w ≤ h ∧ a = nI w ∧ F_M_in a (nI l) (nI h) = some (nI 1) ∧ F_K_isWithin a (nI l) (nI h) = some (nI 1)) ∨ (F_M_in a (nI l) (nI h) = some (nI 0) ∧ F_K_isWithin a (nI l) (nI h) = some (nI 0)) := by
  unfold F_M_in F_K_isWithin
  by_cases h1 : a < nI l
  · exact .inr ⟨if_pos h1, if_pos h1⟩
  · rw [if_neg h1]
    by_cases h2 : nI h < a
    · exact .inr ⟨if_pos h2, if_pos h2⟩
    · refine .inl ?_
      have h3 : ¬ a < 0 := fun z => h1 (Int32.lt_of_lt_of_le z (nI_pos' hl))
      obtain ⟨w, hw, rfl⟩ := nI_of h3
      rw [nI_ltI hw hl] at h1
      rw [nI_ltI hh hw] at h2
      exact ⟨w, by omega, by omega, rfl, if_neg (by rw [nI_ltI hh hw]; omega), if_neg (by rw [nI_ltI hh hw]; omega)⟩
theorem inN_cs (a : Int32) (N : Nat) (hN : N < 2 ^ 31) : (∃ w, w < N ∧ a = nI w ∧ F_M_in a (nI 0) (nI N - nI 1) = some (nI 1)) ∨ ((a < nI 0 ∨ (¬ a < nI 0 ∧ nI N ≤ a)) ∧ F_M_in a (nI 0) (nI N - nI 1) = some (nI 0)) := by
  unfold F_M_in
  by_cases h1 : a < nI 0
  · exact .inr ⟨.inl h1, if_pos h1⟩
  · rw [if_neg h1]
    obtain ⟨w, hw, rfl⟩ := nI_of h1
    cases N with
    | zero =>
      refine .inr ⟨.inr ⟨h1, nI_le (Nat.zero_le _) hw⟩, if_pos ?_⟩
      exact Int32.lt_of_lt_of_le (show nI 0 - nI 1 < nI 0 by decide) (nI_le (Nat.zero_le _) hw)
    | succ N =>
      rw [p_pred1]
      by_cases h2 : w ≤ N
      · exact .inl ⟨w, by omega, rfl, if_neg (by rw [nI_ltI (by omega) hw]; omega)⟩
      · exact .inr ⟨.inr ⟨h1, nI_le (by omega) hw⟩, if_pos (nI_lt (by omega) hw)⟩
section Q
variable {X : ab_XX} {v : Nat → Nat}
theorem wk_cs (h : RC (X 3) v) (hV : VV v) (a : Int32) : (∃ w, w < v 0 ∧ a = nI w ∧ F_K_isWorker X a = some (nI 1) ∧ F_C_requireWorker X a = some (.inl ()) ∧ ∀ Y : ab_XX, RM (Y 14) v → F_M_isWorker Y a = some (nI 1)) ∨
    (F_K_isWorker X a = some (nI 0) ∧ F_C_requireWorker X a = some (.inr 2) ∧ ∀ Y : ab_XX, RM (Y 14) v → F_M_isWorker Y a = some (nI 0)) := by
  have hB := hV.1
  rcases inN_cs a (v 0) (by omega) with ⟨w, hw, rfl, e⟩ | ⟨hc, e⟩
  · have e1 : F_K_isWorker X (nI w) = some (nI 1) := by
      unfold F_K_isWorker
      rw [c_0 h, if_neg (nI_nlt (Nat.zero_le _) (by omega : w < 2 ^ 31)), if_neg (nI_ge hw (by omega))]
    refine .inl ⟨w, hw, rfl, e1, ?_, fun Y g => ?_⟩
    · unfold F_C_requireWorker
      rw [e1]
      rfl
    · unfold F_M_isWorker
      rw [m_workers g, Option.bind_some, e]
      rfl
  · have e1 : F_K_isWorker X a = some (nI 0) := by
      unfold F_K_isWorker
      rw [c_0 h]
      rcases hc with hc | ⟨hc1, hc2⟩
      · rw [if_pos hc]
      · rw [if_neg hc1, if_pos hc2]
    refine .inr ⟨e1, ?_, fun Y g => ?_⟩
    · unfold F_C_requireWorker
      rw [e1]
      rfl
    · unfold F_M_isWorker
      rw [m_workers g, Option.bind_some, e]
      rfl
theorem sh_cs (h : RC (X 3) v) (hV : VV v) (a : Int32) : (∃ s, s < v 1 ∧ a = nI s ∧ F_K_isShift X a = some (nI 1) ∧ F_C_requireShift X a = some (.inl ()) ∧ ∀ Y : ab_XX, RM (Y 14) v → F_M_isShift Y a = some (nI 1)) ∨
    (F_K_isShift X a = some (nI 0) ∧ F_C_requireShift X a = some (.inr 2) ∧ ∀ Y : ab_XX, RM (Y 14) v → F_M_isShift Y a = some (nI 0)) := by
  have hB := hV.1
  rcases inN_cs a (v 1) (by omega) with ⟨w, hw, rfl, e⟩ | ⟨hc, e⟩
  · have e1 : F_K_isShift X (nI w) = some (nI 1) := by
      unfold F_K_isShift
      rw [c_1 h, if_neg (nI_nlt (Nat.zero_le _) (by omega : w < 2 ^ 31)), if_neg (nI_ge hw (by omega))]
    refine .inl ⟨w, hw, rfl, e1, ?_, fun Y g => ?_⟩
    · unfold F_C_requireShift
      rw [e1]
      rfl
    · unfold F_M_isShift
      rw [m_shifts g, Option.bind_some, e]
      rfl
  · have e1 : F_K_isShift X a = some (nI 0) := by
      unfold F_K_isShift
      rw [c_1 h]
      rcases hc with hc | ⟨hc1, hc2⟩
      · rw [if_pos hc]
      · rw [if_neg hc1, if_pos hc2]
    refine .inr ⟨e1, ?_, fun Y g => ?_⟩
    · unfold F_C_requireShift
      rw [e1]
      rfl
    · unfold F_M_isShift
      rw [m_shifts g, Option.bind_some, e]
      rfl
theorem rp_cs (a : Int32) (h : Nat) (hh : h < 2 ^ 31) : (∃ w, w ≤ h ∧ a = nI w ∧ F_M_in a (nI 0) (nI h) = some (nI 1) ∧ F_C_requirePart a (nI h) = some (.inl ())) ∨ (F_M_in a (nI 0) (nI h) = some (nI 0) ∧ F_C_requirePart a (nI h) = some (.inr 0)) := by
  rcases in_cs a 0 h hh (by decide) with ⟨w, _, hw, e, e1, e2⟩ | ⟨e1, e2⟩
  · refine .inl ⟨w, hw, e, e1, ?_⟩
    unfold F_C_requirePart
    rw [e2]
    rfl
  · refine .inr ⟨e1, ?_⟩
    unfold F_C_requirePart
    rw [e2]
    rfl
theorem qr_ok {o : Option (Int32 ⊕ Nat)} {l : List (Nat × Nat)} {M : Option (Int32 × ab_XX)} (a : Int32) (Y : ab_XX) (h1 : o = some (.inl a)) (h2 : M = some (a, Y)) (h3 : sm X Y) (h4 : Y 13 0 = nI 0) : QR o l M X := .inl ⟨a, Y, h1, h2, h3, h4⟩
theorem qr_ex {o : Option (Int32 ⊕ Nat)} {l : List (Nat × Nat)} {M : Option (Int32 × ab_XX)} (x c : Nat) (b : Int32) (Y : ab_XX) (hm : (x, c) ∈ l) (h1 : o = some (.inr x)) (h2 : M = some (b, Y)) (h3 : sm X Y) (h4 : Y 13 0 = nI c) : QR o l M X := .inr ⟨x, c, b, Y, hm, h1, h2, h3, h4⟩
theorem qr_x {o : Option (Int32 ⊕ Nat)} {l : List (Nat × Nat)} {M : Option (Int32 × ab_XX)} (x c : Nat) (hm : (x, c) ∈ l) (h1 : o = some (.inr x)) (h2 : M = some (nI 0, ab_up X 13 0 (nI c))) : QR o l M X := qr_ex x c (nI 0) _ hm h1 h2 (sm_0 X _) (p_up_sm X 13 0 _)
theorem qr_k {o : Option (Int32 ⊕ Nat)} {l : List (Nat × Nat)} {M : Option (Int32 × ab_XX)} (a : Int32) (h1 : o = some (.inl a)) (h2 : M = some (a, ab_up X 13 0 (nI 0))) : QR o l M X := qr_ok a _ h1 h2 (sm_0 X _) (p_up_sm X 13 0 _)
theorem hb16 (hV : VV v) (w : Nat) : hb v 0 1 w (v 2) < 2 ^ 16 := hb_lt hV (fun i hi => by have := hV.2.2.2.2.1 i hi; have := hV.1; omega) _ (Nat.le_refl _)
theorem hb31 (hV : VV v) (w : Nat) : hb v 0 1 w (v 2) < 2 ^ 31 := Nat.lt_trans (hb16 hV w) (by decide)
theorem q_held (h : RC (X 3) v) (g : RM (X 14) v) (hV : VV v) (a : Int32) : QR (F_C_held X a) [(2, 1)] (F_M_held X a) X := by
  have hB := hV.1
  unfold F_C_held F_M_held
  rcases wk_cs h hV a with ⟨w, hw, rfl, _, e1, e2⟩ | ⟨_, e1, e2⟩
  · refine qr_k (nI (hb v 0 1 w (v 2))) ?_ ?_
    · rw [e1, b2_l, c_heldBy h hV (by omega)]; rfl
    · rw [e2 X g, Option.bind_some, if_neg n10, th_0, m_heldBy (m13 g _ _) hV (by omega)]; rfl
  · refine qr_x 2 1 (.head _) ?_ ?_
    · rw [e1, b2_r]
    · rw [e2 X g, Option.bind_some, if_pos rfl, th_k X _ _ (by decide) (by decide)]
theorem q_holders (h : RC (X 3) v) (g : RM (X 14) v) (hV : VV v) (a : Int32) : QR (F_C_holders X a) [(2, 1)] (F_M_holders X a) X := by
  have hB := hV.1
  unfold F_C_holders F_M_holders
  rcases sh_cs h hV a with ⟨w, hw, rfl, _, e1, e2⟩ | ⟨_, e1, e2⟩
  · refine qr_k (nI (hb v 1 0 w (v 2))) ?_ ?_
    · rw [e1, b2_l, c_holdersOf h hV (by omega)]; rfl
    · rw [e2 X g, Option.bind_some, if_neg n10, th_0, m_holders_30 (m13 g _ _) hV (by omega)]
  · refine qr_x 2 1 (.head _) ?_ ?_
    · rw [e1, b2_r]
    · rw [e2 X g, Option.bind_some, if_pos rfl, th_k X _ _ (by decide) (by decide)]
theorem q_bid (h : RC (X 3) v) (g : RM (X 14) v) (hV : VV v) (a b : Int32) : QR (F_C_bid X a b) [(2, 1)] (F_M_bid X a b) X := by
  have hB := hV.1
  unfold F_C_bid F_M_bid F_C_requirePair
  rcases wk_cs h hV a with ⟨w, hw, rfl, _, e1, e2⟩ | ⟨_, e1, e2⟩
  · rcases sh_cs h hV b with ⟨s, hs, rfl, _, f1, f2⟩ | ⟨_, f1, f2⟩
    · refine qr_k (nI (bd v w s)) ?_ ?_
      · rw [e1, b2_l, f1, b2_l, b2_l, c_pointsFor h (by omega) (by omega)]; rfl
      · rw [e2 X g, Option.bind_some, if_neg n10, f2 X g, Option.bind_some, if_neg n10, th_0, m_bidOf (m13 g _ _) hw hB.1 (by omega)]; rfl
    · refine qr_x 2 1 (.head _) ?_ ?_
      · rw [e1, b2_l, f1, b2_r, b2_r]
      · rw [e2 X g, Option.bind_some, if_neg n10, f2 X g, Option.bind_some, if_pos rfl, th_k X _ _ (by decide) (by decide)]
  · refine qr_x 2 1 (.head _) ?_ ?_
    · rw [e1, b2_r, b2_r]
    · rw [e2 X g, Option.bind_some, if_pos rfl, th_k X _ _ (by decide) (by decide)]
/-- points for a set -/
def pts (v : Nat → Nat) (w set : Nat) : Nat := fo (fun s a => if set.testBit s = true then a + bd v w s else a) 0 0 (v 1)
theorem c_pointsForSet (h : RC (X 3) v) (hV : VV v) {w set : Nat} (hw : w < v 0) (hs : set < 2 ^ 31) : F_K_pointsForSet X (nI w) (nI set) = some (nI (pts v w set)) := by
  have hB := hV.1
  refine p_lp (fun n a k => L_K_pointsForSet_5 X n (nI w) (nI set) (nI a) k) (fun s a => if set.testBit s = true then a + bd v w s else a) (fun m => some (nI m)) (v 1) (fun _ => True) (fun _ _ _ _ => trivial) (fun n a _ => ?_) (fun n a k hk _ => ?_) (v 1) 0 0 ab_fu trivial (by omega) (by unfold ab_fu; omega)
  · rw [L_K_pointsForSet_5, c_1 h, if_pos (nI_le (Nat.le_refl _) (by omega))]
  · rw [L_K_pointsForSet_5, c_1 h, if_neg (nI_ge hk (by omega)), c_isIn hs (by omega), c_pointsFor h (by omega) (by omega)]
    simp only [Option.bind_some, p_b0, nI_add]
    cases set.testBit k <;> simp
theorem m_pointsIn (h : RM (X 14) v) (hV : VV v) {w set : Nat} (hw : w < v 0) (hs : set < 2 ^ 31) : F_M_pointsIn X (nI w) (nI set) = some (nI (pts v w set)) := by
  have hB := hV.1
  refine p_lp (fun n a k => L_M_pointsIn_5 X n (nI w) (nI set) (nI a) k) (fun s a => if set.testBit s = true then a + bd v w s else a) (fun m => some (nI m)) (v 1) (fun _ => True) (fun _ _ _ _ => trivial) (fun n a _ => ?_) (fun n a k hk _ => ?_) (v 1) 0 0 ab_fu trivial (by omega) (by unfold ab_fu; omega)
  · rw [L_M_pointsIn_5, m_shifts h, Option.bind_some, if_pos (nI_le (Nat.le_refl _) (by omega))]
  · rw [L_M_pointsIn_5, m_shifts h, Option.bind_some, if_neg (nI_ge hk (by omega)), p_tst _ _ hs (by omega), m_bidOf h hw hB.1 (by omega)]
    simp only [Option.bind_some, p_b1, nI_add, Nat.add_zero]
    cases set.testBit k <;> simp
theorem q_points (h : RC (X 3) v) (g : RM (X 14) v) (hV : VV v) (a : Int32) : QR (F_C_points X a) [(2, 1)] (F_M_points X a) X := by
  have hB := hV.1
  unfold F_C_points F_M_points
  rcases wk_cs h hV a with ⟨w, hw, rfl, _, e1, e2⟩ | ⟨_, e1, e2⟩
  · refine qr_k (nI (pts v w (hb v 0 1 w (v 2)))) ?_ ?_
    · rw [e1, b2_l, c_heldBy h hV (by omega), Option.bind_some, c_pointsForSet h hV hw (hb31 hV w)]; rfl
    · rw [e2 X g, Option.bind_some, if_neg n10, th_0, m_heldBy (m13 g _ _) hV (by omega), Option.bind_some, m_pointsIn (m13 g _ _) hV hw (hb31 hV w)]; rfl
  · refine qr_x 2 1 (.head _) ?_ ?_
    · rw [e1, b2_r]
    · rw [e2 X g, Option.bind_some, if_pos rfl, th_k X _ _ (by decide) (by decide)]
theorem q_hours (h : RC (X 3) v) (g : RM (X 14) v) (hV : VV v) (a b : Int32) : QR (F_C_hours X a b) [(2, 1), (0, 2)] (F_M_hours X a b) X := by
  have hB := hV.1
  unfold F_C_hours F_M_hours
  rcases wk_cs h hV a with ⟨w, hw, rfl, _, e1, e2⟩ | ⟨_, e1, e2⟩
  · have cs : (∃ c, b = cI c ∧ (∀ w, c = some w → w < 2 ^ 31) ∧ F_M_in b (-1 : Int32) (nI 3) = some (nI 1)) ∨ F_M_in b (-1 : Int32) (nI 3) = some (nI 0) := by
      unfold F_M_in
      by_cases h1 : b < -1
      · exact .inr (if_pos h1)
      · rw [if_neg h1]
        by_cases h2 : nI 3 < b
        · exact .inr (if_pos h2)
        · refine .inl ?_
          by_cases h3 : b < 0
          · refine ⟨none, ?_, (fun w hw => absurd hw (by simp)), if_neg h2⟩
            rw [Int32.lt_iff_toInt_lt] at h1 h3
            apply Int32.toInt_inj.mp
            rw [show ((-1 : Int32)).toInt = -1 by decide] at h1
            rw [show ((0 : Int32)).toInt = 0 by decide] at h3
            show b.toInt = (-1 : Int32).toInt
            rw [show ((-1 : Int32)).toInt = -1 by decide]
            omega
          · obtain ⟨w, hw, rfl⟩ := nI_of h3
            exact ⟨some w, rfl, (fun w2 hw2 => by cases hw2; exact hw), if_neg h2⟩
    have cs2 : F_K_isWithin b (-1 : Int32) (nI 3) = F_M_in b (-1 : Int32) (nI 3) := rfl
    rcases cs with ⟨c, rfl, hc, e3⟩ | e3
    · refine qr_k (nI (hrs v (hb v 0 1 w (v 2)) c)) ?_ ?_
      · rw [e1, b2_l, cs2, e3, Option.bind_some, if_neg n10, c_heldBy h hV (by omega), Option.bind_some, c_hoursOf h hV (hb31 hV w) hc]; rfl
      · rw [e2 X g, Option.bind_some, if_neg n10, e3, Option.bind_some, if_neg n10, th_0, m_heldBy (m13 g _ _) hV (by omega), Option.bind_some, m_hoursIn (m13 g _ _) hV (hb31 hV w) hc]; rfl
    · refine qr_x 0 2 (.tail _ (.head _)) ?_ ?_
      · rw [e1, b2_l, cs2, e3]; rfl
      · rw [e2 X g, Option.bind_some, if_neg n10, e3, Option.bind_some, if_pos rfl, th_k X _ _ (by decide) (by decide)]
  · refine qr_x 2 1 (.head _) ?_ ?_
    · rw [e1, b2_r]
    · rw [e2 X g, Option.bind_some, if_pos rfl, th_k X _ _ (by decide) (by decide)]
end Q
