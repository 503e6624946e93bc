/-! ===== PURE: items and texts, in the class ===== -/
def am (c : Int32) : Nat := if c = nI 98 then 3 else if c = nI 119 then 5 else if c = nI 115 then 5 else 0
theorem am_c (c : Int32) : F_T_amountOfNumbers c = some (nI (am c)) := by
  unfold F_T_amountOfNumbers am
  by_cases h1 : c = nI 98
  · rw [if_pos h1, if_pos h1]
  · rw [if_neg h1, if_neg h1]
    by_cases h2 : c = nI 119
    · rw [if_pos h2, if_pos h2]
    · rw [if_neg h2, if_neg h2]
      by_cases h3 : c = nI 115
      · rw [if_pos h3, if_pos h3]
      · rw [if_neg h3, if_neg h3]
theorem am_5 (c : Int32) : am c ≤ 5 := by
  unfold am
  split
  · decide
  · split
    · decide
    · split <;> decide
theorem am_m1 : am (-1) = 0 := by decide
theorem am_3 {c : Int32} (h : am c ≠ 0) : 3 ≤ am c := by
  unfold am at h ⊢
  by_cases h1 : c = nI 98
  · rw [if_pos h1]; exact Nat.le_refl _
  · rw [if_neg h1] at h ⊢
    by_cases h2 : c = nI 119
    · rw [if_pos h2]; decide
    · rw [if_neg h2] at h ⊢
      by_cases h3 : c = nI 115
      · rw [if_pos h3]; decide
      · rw [if_neg h3] at h
        exact absurd rfl h
theorem am_lt {f : Nat → Int32} {L p : Nat} (h : am (tx f L p) ≠ 0) : p < L := by
  by_cases q : p < L
  · exact q
  · unfold tx at h
    rw [if_neg q, am_m1] at h
    exact absurd rfl h
def pit (t : Nat → Int32) (p : Nat) : Nat ⊕ (Nat × (Nat → Int32)) := if am (t p) = 0 then .inl p else pnl t (am (t p)) 0 (p + 1) (fun _ => nI 0)
def ptB (L p : Nat) : Nat ⊕ (Nat × (Nat → Int32)) → Prop
  | .inl q => q ≤ L
  | .inr r => r.1 ≤ L ∧ p + 6 ≤ r.1
theorem pit_b (f : Nat → Int32) (L p : Nat) (h : p ≤ L) : ptB L p (pit (tx f L) p) := by
  unfold pit
  by_cases q : am (tx f L p) = 0
  · rw [if_pos q]; exact h
  · rw [if_neg q]
    have h1 := am_lt q
    have h2 := am_3 q
    have h3 := pnl_b f L (am (tx f L p)) 0 (p + 1) (fun _ => nI 0) h1
    revert h3
    generalize pnl (tx f L) (am (tx f L p)) 0 (p + 1) (fun _ => nI 0) = r
    intro h3
    cases r with
    | inl q => exact h3
    | inr r =>
      obtain ⟨a, b⟩ := h3
      rw [if_pos rfl] at b
      exact ⟨a, by omega⟩
theorem c_item {f : Nat → Int32} {L : Nat} (hL : L ≤ 80) {i p : Nat} {Y : ab_XX} (hi : i < 12) (h : CT f L p Y) (hp : p ≤ L) :
    ∃ Y2, cfr Y Y2 ∧ (∀ s, s < 5 * i → Y2 9 s = Y 9 s) ∧ (∀ k, k ≠ i → Y2 8 k = Y 8 k) ∧ match pit (tx f L) p with
      | .inl q => F_T_readItem Y (nI i) = some (nI 0, Y2) ∧ CT f L q Y2
      | .inr r => F_T_readItem Y (nI i) = some (nI 1, Y2) ∧ CT f L r.1 Y2 ∧ Y2 8 i = tx f L p ∧ ∀ j2, j2 < am (tx f L p) → Y2 9 (5 * i + j2) = r.2 j2 := by
  have h5 := am_5 (tx f L p)
  unfold F_T_readItem pit
  rw [c_next h hp hL, Option.bind_some, am_c, Option.bind_some]
  by_cases q : am (tx f L p) = 0
  · rw [if_pos q, q, if_pos rfl]
    exact ⟨Y, ⟨fun _ _ _ _ => rfl, rfl⟩, fun _ _ => rfl, fun _ _ => rfl, rfl, h⟩
  · have hpl := am_lt q
    have e2 : ab_up Y 8 i (tx f L p) 6 2 = nI p := by rw [p_up_ne _ _ _ _ _ (by decide)]; exact h.2.1
    rw [if_neg q, if_neg (fun z => q ((nI_eq (by omega) (by decide)).mp z)), if_neg (nI_nlt (Nat.zero_le _) (by omega)), if_pos (nI_lt hi (by decide)), if_pos (p_in hi (by decide)), Option.bind_some, nI_clamp (by omega), e2, nI_add, Option.bind_some]
    obtain ⟨Y2, y1, y2, y3, y4⟩ := c_pnl (f := f) hL hi h5 (am (tx f L p)) 0 (p + 1) (fun _ => nI 0) (ab_up (ab_up Y 8 i (tx f L p)) 6 2 (nI (p + 1))) ab_fu ⟨by rw [p_up_df _ _ _ _ _ (by decide), p_up_ne _ _ _ _ _ (by decide)]; exact h.1, p_up_sm _ _ _ _, by rw [p_up_ne _ _ _ _ _ (by decide), p_up_ne _ _ _ _ _ (by decide)]; exact h.2.2⟩ (by omega) (Nat.zero_add _) (by unfold ab_fu; omega) (fun j2 hj2 => by omega)
    have e8 : ab_up (ab_up Y 8 i (tx f L p)) 6 2 (nI (p + 1)) 8 = upd (Y 8) i (tx f L p) := by rw [p_up_ne _ _ _ _ _ (by decide), p_up_eq]
    refine ⟨Y2, cfr_tr ⟨fun o a b _ => by rw [p_up_ne _ _ _ _ _ a, p_up_ne _ _ _ _ _ b], by rw [p_up_df _ _ _ _ _ (by decide), p_up_ne _ _ _ _ _ (by decide)]⟩ y1, fun s hs => by rw [y2 s hs, p_up_ne _ _ _ _ _ (by decide), p_up_ne _ _ _ _ _ (by decide)], fun k hk => by rw [y3, e8, upd_ne _ hk], ?_⟩
    revert y4
    generalize pnl (tx f L) (am (tx f L p)) 0 (p + 1) (fun _ => nI 0) = r
    intro y4
    cases r with
    | inl q => exact y4
    | inr r => exact ⟨y4.1, y4.2.1, by rw [y3, e8, upd_eq], y4.2.2⟩
def PE := Nat → Int32 × (Nat → Int32)
def peu (E : PE) (i : Nat) (c : Int32) (D : Nat → Int32) : PE := fun k => if k = i then (c, D) else E k
def ptx (t : Nat → Int32) (L : Nat) : Nat → Nat → Nat → PE → Nat ⊕ (Nat × PE)
  | 0, _, p, _ => .inl p
  | m + 1, i, p, E => match pit t p with
    | .inl q => .inl q
    | .inr r => if r.1 = L then .inr (i + 1, peu E i (t p) r.2) else if t r.1 = nI 59 then ptx t L m (i + 1) (r.1 + 1) (peu E i (t p) r.2) else .inl r.1
def CI (Y : ab_XX) (E : PE) (n : Nat) : Prop := ∀ k, k < n → Y 8 k = (E k).1 ∧ ∀ j, j < am (E k).1 → Y 9 (5 * k + j) = (E k).2 j
def cfq (X Y : ab_XX) : Prop := ∀ o, o ≠ 6 → o ≠ 8 → o ≠ 9 → Y o = X o
theorem c_txt {f : Nat → Int32} {L : Nat} (hL : L ≤ 80) : ∀ (m i p : Nat) (E : PE) (Y : ab_XX) (c : Nat), CT f L p Y → p ≤ L → i + m = 12 → m < c → CI Y E i →
    ∃ Y2, cfq Y Y2 ∧ match ptx (tx f L) L m i p E with
      | .inl q => L_T_read_12 c Y (nI i) = some (nI q, Y2) ∧ q ≤ L
      | .inr r => L_T_read_12 c Y (nI i) = some (-1, Y2) ∧ Y2 6 5 = nI r.1 ∧ CI Y2 r.2 r.1 ∧ r.1 ≤ 12 := by
  intro m
  induction m with
  | zero =>
    intro i p E Y c h hp hi hc hE
    cases c with
    | zero => omega
    | succ c =>
      refine ⟨Y, fun _ _ _ _ => rfl, ?_, hp⟩
      rw [L_T_read_12, if_pos (nI_le (by omega) (by omega)), h.2.1]
  | succ m ih =>
    intro i p E Y c h hp hi hc hE
    cases c with
    | zero => omega
    | succ c =>
      rw [L_T_read_12, if_neg (nI_ge (by omega) (by decide))]
      obtain ⟨Y2, y1, y2, y3, y4⟩ := c_item hL (by omega : i < 12) h hp
      have hb0 := pit_b f L p hp
      unfold ptx
      revert y4 hb0
      generalize pit (tx f L) p = r
      intro y4 hb0
      cases r with
      | inl q =>
        obtain ⟨z1, z2⟩ := y4
        refine ⟨Y2, y1.1, ?_, hb0⟩
        rw [z1, b3_s, if_pos rfl, z2.2.1]
      | inr r =>
        obtain ⟨z1, z2, z3, z4⟩ := y4
        have hE2 : CI Y2 (peu E i (tx f L p) r.2) (i + 1) := fun k hk => by
          by_cases hki : k = i
          · subst hki
            unfold peu
            rw [if_pos rfl]
            exact ⟨z3, z4⟩
          · unfold peu
            rw [if_neg hki]
            obtain ⟨a, b⟩ := hE k (by omega)
            refine ⟨by rw [y3 k hki, a], fun j hj => ?_⟩
            have := am_5 (E k).1
            rw [y2 _ (by omega), b j hj]
        have hE3 : CI (ab_up Y2 6 5 (nI (i + 1))) (peu E i (tx f L p) r.2) (i + 1) := fun k hk => by
          rw [p_up_ne _ _ _ _ _ (by decide), p_up_ne _ _ _ _ _ (by decide)]
          exact hE2 k hk
        have hC3 : CT f L r.1 (ab_up Y2 6 5 (nI (i + 1))) := ⟨by rw [p_up_df _ _ _ _ _ (by decide)]; exact z2.1, by rw [p_up_df _ _ _ _ _ (by decide)]; exact z2.2.1, by rw [p_up_ne _ _ _ _ _ (by decide)]; exact z2.2.2⟩
        have hf3 : cfq Y (ab_up Y2 6 5 (nI (i + 1))) := fun o a b d => by rw [p_up_ne _ _ _ _ _ a, y1.1 o a b d]
        rw [z1, b3_s, if_neg n10, nI_add, Option.bind_some, hC3.1, hC3.2.1]
        dsimp only
        by_cases hq : r.1 = L
        · rw [if_pos hq, if_pos (congrArg nI hq)]
          exact ⟨_, hf3, rfl, p_up_sm _ _ _ _, hE3, by show i + 1 ≤ 12; omega⟩
        · rw [if_neg hq, if_neg (fun z => hq ((nI_eq (by have := hb0.1; omega) (by omega)).mp z))]
          unfold F_T_readSign
          rw [c_next hC3 hb0.1 hL, Option.bind_some]
          by_cases hs : tx f L r.1 = nI 59
          · have hrl := tx_ne (by decide) hs
            rw [if_pos hs, if_pos hs, hC3.2.1, nI_add, Option.bind_some, b3_s, if_neg n10]
            obtain ⟨Y4, w1, w2⟩ := ih (i + 1) (r.1 + 1) (peu E i (tx f L p) r.2) (ab_up (ab_up Y2 6 5 (nI (i + 1))) 6 2 (nI (r.1 + 1))) c ⟨by rw [p_up_df _ _ _ _ _ (by decide)]; exact hC3.1, p_up_sm _ _ _ _, by rw [p_up_ne _ _ _ _ _ (by decide)]; exact hC3.2.2⟩ (by omega) (by omega) (by omega) (fun k hk => by
              rw [p_up_ne _ _ _ _ _ (by decide), p_up_ne _ _ _ _ _ (by decide)]
              exact hE3 k hk)
            exact ⟨Y4, fun o a b d => by rw [w1 o a b d, p_up_ne _ _ _ _ _ a, hf3 o a b d], w2⟩
          · rw [if_neg hs, if_neg hs, b3_s, if_pos rfl]
            exact ⟨_, hf3, by rw [hC3.2.1], hb0.1⟩
