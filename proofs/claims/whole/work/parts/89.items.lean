/-! ===== PURE: all items; the beginning of addItems ===== -/
theorem ptx_good (t : Nat → Int32) (L : Nat) : ∀ m i p (E : PE), (∀ k, k < i → am (E k).1 ≠ 0) → ∀ r, ptx t L m i p E = .inr r → ∀ k, k < r.1 → am (r.2 k).1 ≠ 0 := by
  intro m
  induction m with
  | zero => intro i p E _ r h; cases h
  | succ m ih =>
    intro i p E hE r h
    unfold ptx pit at h
    by_cases q : am (t p) = 0
    · rw [if_pos q] at h
      cases h
    · rw [if_neg q] at h
      revert h
      generalize pnl t (am (t p)) 0 (p + 1) (fun _ => nI 0) = x
      intro h
      have hE2 : ∀ (D : Nat → Int32) k, k < i + 1 → am (peu E i (t p) D k).1 ≠ 0 := fun D k hk => by
        unfold peu
        by_cases hki : k = i
        · rw [if_pos hki]; exact q
        · rw [if_neg hki]; exact hE k (by omega)
      cases x with
      | inl y => cases h
      | inr y =>
        dsimp only at h
        by_cases h1 : y.1 = L
        · rw [if_pos h1] at h
          cases h
          exact hE2 y.2
        · rw [if_neg h1] at h
          by_cases h2 : t y.1 = nI 59
          · rw [if_pos h2] at h
            exact ih (i + 1) (y.1 + 1) _ (hE2 y.2) r h
          · rw [if_neg h2] at h
            cases h
theorem ifid {Y : ab_XX} {a : Nat} {f g : Nat → Int32} : (fun o => if o = a then g else (if o = a then f else Y o)) = (fun o => if o = a then g else Y o) := by
  funext o
  by_cases h : o = a
  · rw [if_pos h, if_pos h]
  · rw [if_neg h, if_neg h, if_neg h]
theorem ifse (Y : ab_XX) (a : Nat) : (fun o => if o = a then Y a else Y o) = Y := by
  funext o
  by_cases h : o = a
  · rw [if_pos h, h]
  · rw [if_neg h]
/-- what the reference's loop over items leaves alone -/
def mfi (X Y : ab_XX) : Prop := (∀ o, o ≠ 13 → o ≠ 14 → Y o = X o) ∧ (∀ j, j ≠ 8 → Y 13 j = X 13 j) ∧ ∀ i, 405 ≤ i → Y 14 i = X 14 i
def rC (v : Nat → Nat) (E : PE) (n m k : Nat) (r : Nat ⊕ (Nat → Nat)) : Prop := ∀ (Y : ab_XX) (c : Nat), m < c → RC (Y 3) v → CI Y E n → Y 6 5 = nI n → match r with
  | .inl j => ∃ f, L_C_carryOutItems_2 c Y (nI k) = some (nI j, fun o => if o = 3 then f else Y o)
  | .inr u => ∃ f, L_C_carryOutItems_2 c Y (nI k) = some (-1, fun o => if o = 3 then f else Y o) ∧ RC f u
def rM (v : Nat → Nat) (E : PE) (n m k : Nat) (r : Nat ⊕ (Nat → Nat)) : Prop := ∀ (Z : ab_XX) (c : Nat), m < c → RM (Z 14) v → MI Z E n → Z 13 10 = nI n → Z 13 8 = -1 → match r with
  | .inl j => ∃ Z2, mfi Z Z2 ∧ Z2 13 8 = nI j ∧ L_M_addItems_122 c Z (nI k) = ab_b3 (F_M_copies Z2 (nI 10) (nI 0)) (fun _ X781 => (some (ab_up X781 13 0 (nI 2))).bind fun X782 => some (nI 0, X782))
  | .inr u => ∃ Z2, mfi Z Z2 ∧ Z2 13 8 = -1 ∧ RM (Z2 14) u ∧ L_M_addItems_122 c Z (nI k) = ab_b3 (F_M_keeps Z2) (fun _ X779 => ab_b3 (F_M_copies X779 (nI 10) (X779 13 2)) (fun _ X780 => some (X780 13 10, X780)))
theorem run_ls {E : PE} {n : Nat} (hn : n ≤ 12) (hG : ∀ k, k < n → am (E k).1 ≠ 0) : ∀ (m k : Nat) (v : Nat → Nat), VV v → VB v → k + m = n → ∃ r : Nat ⊕ (Nat → Nat), (∀ u, r = .inr u → VV u ∧ VB u) ∧ (∀ j, r = .inl j → j < n) ∧ rC v E n m k r ∧ rM v E n m k r := by
  intro m
  induction m with
  | zero =>
    intro k v hV hb8 hk
    refine ⟨.inr v, fun u z => ?_, fun j z => (by cases z), fun Y c hc hR hE h65 => ?_, fun Z c hc g hE h10 h8 => ?_⟩
    · cases z; exact ⟨hV, hb8⟩
    · cases c with
      | zero => omega
      | succ c =>
        refine ⟨Y 3, ?_, hR⟩
        rw [ifse]
        unfold L_C_carryOutItems_2 F_T_itemTotal
        rw [h65, Option.bind_some, if_pos (nI_le (by omega) (by omega))]
    · cases c with
      | zero => omega
      | succ c =>
        refine ⟨Z, ⟨fun _ _ _ => rfl, fun _ _ => rfl, fun _ _ => rfl⟩, h8, g, ?_⟩
        rw [L_M_addItems_122, h10, if_pos (nI_le (by omega) (by omega)), h8, if_pos (by decide : (-1 : Int32) < nI 0)]
  | succ m ih =>
    intro k v hV hb8 hk
    obtain ⟨r1, h1, h2, h3⟩ := it_any hV hb8 (hG k (by omega)) (E k).2
    cases r1 with
    | none =>
      refine ⟨.inl k, fun u z => (by cases z), fun j z => ?_, fun Y c hc hR hE h65 => ?_, fun Z c hc g hE h10 h8 => ?_⟩
      · cases z; omega
      · cases c with
        | zero => omega
        | succ c =>
          obtain ⟨a, b⟩ := hE k (by omega)
          have e := h2 Y k (by omega) hR a b
          refine ⟨Y 3, ?_⟩
          rw [ifse]
          unfold L_C_carryOutItems_2 F_T_itemTotal
          rw [h65, Option.bind_some, if_neg (nI_ge (by omega) (by omega))]
          rw [show F_C_carryOut Y (nI k) = some (nI 0, Y) from e, b3_s, if_pos rfl]
      · cases c with
        | zero => omega
        | succ c =>
          have hc1 : ∃ c2, c = c2 + 1 := ⟨c - 1, by omega⟩
          obtain ⟨c2, ec⟩ := hc1
          obtain ⟨a, b⟩ := hE k (by omega)
          have e := h3 Z k (by omega) g a b
          refine ⟨ab_up Z 13 8 (nI k), ⟨fun o h13 _ => p_up_ne _ _ _ _ _ h13, fun j hj => p_up_df _ _ _ _ _ hj, fun i _ => by rw [p_up_ne _ _ _ _ _ (by decide)]⟩, p_up_sm _ _ _ _, ?_⟩
          have hk0 : nI 0 ≤ nI k := nI_le (Nat.zero_le _) (by omega)
          have hk1 : ¬ nI k < nI 0 := nI_nlt (Nat.zero_le _) (by omega)
          rw [L_M_addItems_122, h10, if_neg (nI_ge (by omega) (by omega)), h8, if_neg n_m1, show F_M_isDone Z (nI k) = some (nI 0, Z) from e, b3_s, if_pos rfl, Option.bind_some, ec, L_M_addItems_122, p_up_sm, if_neg hk1, if_pos hk0]
          split <;> rfl
    | some u =>
      obtain ⟨hV2, h82⟩ := h1 u rfl
      obtain ⟨r, g1, g2, g3, g4⟩ := ih (k + 1) u hV2 h82 (by omega)
      refine ⟨r, g1, g2, fun Y c hc hR hE h65 => ?_, fun Z c hc g hE h10 h8 => ?_⟩
      · cases c with
        | zero => omega
        | succ c =>
          obtain ⟨a, b⟩ := hE k (by omega)
          obtain ⟨f, e1, e2⟩ := h2 Y k (by omega) hR a b
          have e3 := g3 (fun o => if o = 3 then f else Y o) c (by omega) e2 hE h65
          have e4 : L_C_carryOutItems_2 (c + 1) Y (nI k) = L_C_carryOutItems_2 c (fun o => if o = 3 then f else Y o) (nI (k + 1)) := by
            rw [L_C_carryOutItems_2]
            unfold F_T_itemTotal
            rw [h65, Option.bind_some, if_neg (nI_ge (by omega) (by omega)), e1, b3_s, if_neg n10, nI_add]
          rw [e4]
          cases r with
          | inl j =>
            obtain ⟨f2, e5⟩ := e3
            exact ⟨f2, by rw [e5, ifid]⟩
          | inr w =>
            obtain ⟨f2, e5, e6⟩ := e3
            exact ⟨f2, by rw [e5, ifid], e6⟩
      · cases c with
        | zero => omega
        | succ c =>
          obtain ⟨a, b⟩ := hE k (by omega)
          obtain ⟨g0, e1, e2, e3⟩ := h3 Z k (by omega) g a b
          have s8 : ab_up (fun o => if o = 14 then g0 else Z o) 13 8 (-1) = (fun o => if o = 14 then g0 else Z o : ab_XX) := up_self h8
          have e4 : L_M_addItems_122 (c + 1) Z (nI k) = L_M_addItems_122 c (fun o => if o = 14 then g0 else Z o) (nI (k + 1)) := by
            rw [L_M_addItems_122, h10, if_neg (nI_ge (by omega) (by omega)), h8, if_neg n_m1, e1, b3_s, if_neg n10, Option.bind_some, s8, nI_add]
          have hf : mfi Z (fun o => if o = 14 then g0 else Z o) := ⟨fun o _ h14 => if_neg h14, fun _ _ => rfl, e3⟩
          have e5 := g4 (fun o => if o = 14 then g0 else Z o) c (by omega) e2 hE h10 h8
          rw [e4]
          have tr : ∀ Z2 : ab_XX, mfi (fun o => if o = 14 then g0 else Z o) Z2 → mfi Z Z2 := fun Z2 y => ⟨fun o a b => (y.1 o a b).trans (hf.1 o a b), fun j a => (y.2.1 j a).trans (hf.2.1 j a), fun i a => (y.2.2 i a).trans (hf.2.2 i a)⟩
          cases r with
          | inl j =>
            obtain ⟨Z2, y1, y2, y3⟩ := e5
            exact ⟨Z2, tr Z2 y1, y2, y3⟩
          | inr w =>
            obtain ⟨Z2, y1, y2, y3, y4⟩ := e5
            exact ⟨Z2, tr Z2 y1, y2, y3, y4⟩
def E0 : PE := fun _ => (nI 0, fun _ => nI 0)
/-- the class has read the text -/
theorem c_start {X : ab_XX} {L : Nat} (hL : L ≤ 80) (h61 : X 6 1 = nI L) : ∃ Y3, (∀ o, o ≠ 0 → o ≠ 6 → o ≠ 8 → o ≠ 9 → Y3 o = X o) ∧ Y3 0 7 = X 0 7 ∧ Y3 0 9 = -1 ∧ Y3 6 1 = nI 0 ∧ match ptx (tx (X 7) L) L 12 0 0 E0 with
    | .inl q => F_C_addItems X = some (.inr 0, Y3) ∧ Y3 0 8 = nI q ∧ q ≤ L
    | .inr r => Y3 0 8 = -1 ∧ Y3 6 5 = nI r.1 ∧ CI Y3 r.2 r.1 ∧ r.1 ≤ 12 ∧ F_C_addItems X = ab_b3 (F_K_copyTo_11 Y3) (fun _ X267 => ab_b3 (F_C_carryOutItems X267) (fun v294 X295 => (some (ab_up X295 0 9 v294)).bind fun X296 => if X296 0 9 = (-1 : Int32) then ab_b3 (F_H_remember_11 X296) (fun _ X303 => (F_T_itemTotal X303).bind fun v304 => some (.inl v304, X303)) else ab_b3 (F_K_copyFrom_11 X296) (fun _ X309 => some (.inr 1, X309)))) := by
  obtain ⟨Y2, y1, y2⟩ := c_txt (f := X 7) hL 12 0 0 E0 (ab_up (ab_up (ab_up X 0 9 (-1)) 6 2 (nI 0)) 6 5 (nI 0)) ab_fu ⟨by rw [p_up_df _ _ _ _ _ (by decide), p_up_df _ _ _ _ _ (by decide), p_up_ne _ _ _ _ _ (by decide)]; exact h61, by rw [p_up_df _ _ _ _ _ (by decide), p_up_sm], by rw [p_up_ne _ _ _ _ _ (by decide), p_up_ne _ _ _ _ _ (by decide), p_up_ne _ _ _ _ _ (by decide)]⟩ (Nat.zero_le _) rfl (by unfold ab_fu; omega) (fun k hk => by omega)
  have yo : ∀ o, o ≠ 0 → o ≠ 6 → o ≠ 8 → o ≠ 9 → Y2 o = X o := fun o h0 h6 h8 h9 => by rw [y1 o h6 h8 h9, p_up_ne _ _ _ _ _ h6, p_up_ne _ _ _ _ _ h6, p_up_ne _ _ _ _ _ h0]
  have y0 : Y2 0 = ab_up X 0 9 (-1) 0 := by rw [y1 0 (by decide) (by decide) (by decide), p_up_ne _ _ _ _ _ (by decide), p_up_ne _ _ _ _ _ (by decide)]
  have fr : ∀ y : Int32, (∀ o, o ≠ 0 → o ≠ 6 → o ≠ 8 → o ≠ 9 → ab_up (ab_up Y2 0 8 y) 6 1 (nI 0) o = X o) ∧ ab_up (ab_up Y2 0 8 y) 6 1 (nI 0) 0 7 = X 0 7 ∧ ab_up (ab_up Y2 0 8 y) 6 1 (nI 0) 0 9 = -1 ∧ ab_up (ab_up Y2 0 8 y) 6 1 (nI 0) 6 1 = nI 0 ∧ ab_up (ab_up Y2 0 8 y) 6 1 (nI 0) 0 8 = y := fun y => by
    refine ⟨fun o h0 h6 h8 h9 => by rw [p_up_ne _ _ _ _ _ h6, p_up_ne _ _ _ _ _ h0, yo o h0 h6 h8 h9], ?_, ?_, p_up_sm _ _ _ _, ?_⟩
    · rw [p_up_ne _ _ _ _ _ (by decide), p_up_df _ _ _ _ _ (by decide), y0, p_up_df _ _ _ _ _ (by decide)]
    · rw [p_up_ne _ _ _ _ _ (by decide), p_up_df _ _ _ _ _ (by decide), y0, p_up_sm]
    · rw [p_up_ne _ _ _ _ _ (by decide), p_up_sm]
  unfold F_C_addItems F_T_read F_T_clear
  revert y2
  generalize ptx (tx (X 7) L) L 12 0 0 E0 = r
  intro y2
  cases r with
  | inl q =>
    obtain ⟨z1, z2⟩ := y2
    obtain ⟨f1, f2, f3, f4, f5⟩ := fr (nI q)
    refine ⟨_, f1, f2, f3, f4, ?_, f5, z2⟩
    rw [Option.bind_some, Option.bind_some, Option.bind_some, z1, b3_s, Option.bind_some, Option.bind_some, b3_s, f5, if_neg (fun z => by
      have := (cI_neg (some q) (fun w hw => by cases hw; omega)).mp z
      cases this)]
  | inr r =>
    obtain ⟨z1, z2, z3, z4⟩ := y2
    obtain ⟨f1, f2, f3, f4, f5⟩ := fr (-1)
    refine ⟨_, f1, f2, f3, f4, f5, ?_, fun k hk => ?_, z4, ?_⟩
    · rw [p_up_df _ _ _ _ _ (by decide), p_up_ne _ _ _ _ _ (by decide)]; exact z2
    · rw [p_up_ne _ _ _ _ _ (by decide), p_up_ne _ _ _ _ _ (by decide), p_up_ne _ _ _ _ _ (by decide), p_up_ne _ _ _ _ _ (by decide)]
      exact z3 k hk
    · rw [Option.bind_some, Option.bind_some, Option.bind_some, z1, b3_s, Option.bind_some, Option.bind_some, b3_s, f5, if_pos rfl]
/-- the reference has read the text -/
theorem m_start {X : ab_XX} {f : Nat → Int32} {L : Nat} (hL : L ≤ 80) (h135 : X 13 5 = nI L) (hch : ∀ j, j < L → X 15 j = f j) : ∃ Z3, (∀ o, o ≠ 13 → o ≠ 16 → Z3 o = X o) ∧ (∀ j, j = 2 ∨ j = 3 ∨ j = 12 ∨ j = 13 ∨ j = 14 → Z3 13 j = X 13 j) ∧ Z3 13 8 = -1 ∧ Z3 13 5 = nI 0 ∧ match ptx (tx f L) L 12 0 0 E0 with
    | .inl q => Z3 13 7 = nI q ∧ Z3 13 0 = nI 1 ∧ F_M_addItems X = some (nI 0, Z3)
    | .inr r => Z3 13 7 = -1 ∧ Z3 13 10 = nI r.1 ∧ MI Z3 r.2 r.1 ∧ Z3 13 0 = nI 0 ∧ F_M_addItems X = ab_b3 (F_M_copies Z3 (nI 0) (nI 10)) (fun _ X => L_M_addItems_122 ab_fu X (nI 0)) := by
  have w5 : ∀ j, j ≠ 6 → j ≠ 7 → j ≠ 8 → j ≠ 10 → ab_up (ab_up (ab_up (ab_up X 13 6 (nI 0)) 13 7 (-1)) 13 8 (-1)) 13 10 (nI 0) 13 j = X 13 j := fun j a b c d => by rw [p_up_df _ _ _ _ _ d, p_up_df _ _ _ _ _ c, p_up_df _ _ _ _ _ b, p_up_df _ _ _ _ _ a]
  have wo : ∀ o, o ≠ 13 → ab_up (ab_up (ab_up (ab_up X 13 6 (nI 0)) 13 7 (-1)) 13 8 (-1)) 13 10 (nI 0) o = X o := fun o h => by rw [p_up_ne _ _ _ _ _ h, p_up_ne _ _ _ _ _ h, p_up_ne _ _ _ _ _ h, p_up_ne _ _ _ _ _ h]
  have w8 : ab_up (ab_up (ab_up (ab_up X 13 6 (nI 0)) 13 7 (-1)) 13 8 (-1)) 13 10 (nI 0) 13 8 = -1 := by rw [p_up_df _ _ _ _ _ (by decide), p_up_sm]
  have e : F_M_addItems X = ab_b3 (F_M_item (ab_up (ab_up (ab_up (ab_up X 13 6 (nI 0)) 13 7 (-1)) 13 8 (-1)) 13 10 (nI 0))) (fun _ X775 => L_M_addItems_24 ab_fu X775) := by
    unfold F_M_addItems
    rw [Option.bind_some, Option.bind_some, Option.bind_some, Option.bind_some]
  obtain ⟨Z2, y1, y2⟩ := m_txt (f := f) hL 12 0 0 E0 (ab_up (ab_up (ab_up (ab_up X 13 6 (nI 0)) 13 7 (-1)) 13 8 (-1)) 13 10 (nI 0)) ab_fu ⟨by rw [w5 5 (by decide) (by decide) (by decide) (by decide)]; exact h135, by rw [p_up_df _ _ _ _ _ (by decide), p_up_df _ _ _ _ _ (by decide), p_up_df _ _ _ _ _ (by decide), p_up_sm], fun j hj => by rw [wo 15 (by decide)]; exact hch j hj⟩ (Nat.zero_le _) rfl (Nat.le_refl _) (by unfold ab_fu; omega) (p_up_sm _ _ _ _) (by rw [p_up_df _ _ _ _ _ (by decide), p_up_df _ _ _ _ _ (by decide), p_up_sm]) (fun k hk => by omega)
  rw [e]
  have fr : ∀ y : Int32, (∀ o, o ≠ 13 → o ≠ 16 → ab_up (ab_up Z2 13 5 (nI 0)) 13 0 y o = X o) ∧ (∀ j, j = 2 ∨ j = 3 ∨ j = 12 ∨ j = 13 ∨ j = 14 → ab_up (ab_up Z2 13 5 (nI 0)) 13 0 y 13 j = X 13 j) ∧ ab_up (ab_up Z2 13 5 (nI 0)) 13 0 y 13 8 = -1 ∧ ab_up (ab_up Z2 13 5 (nI 0)) 13 0 y 13 5 = nI 0 := fun y => by
    refine ⟨fun o h13 h16 => by rw [p_up_ne _ _ _ _ _ h13, p_up_ne _ _ _ _ _ h13, y1.1 o h13 h16, wo o h13], fun j hj => ?_, ?_, ?_⟩
    · rw [p_up_df _ _ _ _ _ (by omega), p_up_df _ _ _ _ _ (by omega), y1.2 j (by omega) (by omega) (by omega), w5 j (by omega) (by omega) (by omega) (by omega)]
    · rw [p_up_df _ _ _ _ _ (by omega), p_up_df _ _ _ _ _ (by omega), y1.2 8 (by omega) (by omega) (by omega), w8]
    · rw [p_up_df _ _ _ _ _ (by omega), p_up_sm]
  revert y2
  generalize ptx (tx f L) L 12 0 0 E0 = r
  intro y2
  cases r with
  | inl q =>
    obtain ⟨z1, z2⟩ := y2
    obtain ⟨f1, f2, f3, f4⟩ := fr (nI 1)
    exact ⟨_, f1, f2, f3, f4, by rw [p_up_df _ _ _ _ _ (by decide), p_up_df _ _ _ _ _ (by decide)]; exact z1, p_up_sm _ _ _ _, z2⟩
  | inr r =>
    obtain ⟨z1, z2, z3, z4⟩ := y2
    obtain ⟨f1, f2, f3, f4⟩ := fr (nI 0)
    exact ⟨_, f1, f2, f3, f4, by rw [p_up_df _ _ _ _ _ (by decide), p_up_df _ _ _ _ _ (by decide)]; exact z1, by rw [p_up_df _ _ _ _ _ (by decide), p_up_df _ _ _ _ _ (by decide)]; exact z2, fun k hk => by rw [p_up_ne _ _ _ _ _ (by decide), p_up_ne _ _ _ _ _ (by decide)]; exact z3 k hk, p_up_sm _ _ _ _, z4⟩
