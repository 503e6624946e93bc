/-! ===== PURE: items and texts, in the reference ===== -/
def kc (c : Int32) : Int32 := if c = nI 119 then nI 0 else if c = nI 115 then nI 1 else nI 2
theorem am_119 : am (nI 119) = 5 := by decide
theorem am_115 : am (nI 115) = 5 := by decide
theorem am_98 : am (nI 98) = 3 := by decide
theorem kc_119 : kc (nI 119) = nI 0 := by decide
theorem kc_115 : kc (nI 115) = nI 1 := by decide
theorem kc_98 : kc (nI 98) = nI 2 := by decide
theorem am_no {c : Int32} (h1 : ¬ c = nI 119) (h2 : ¬ c = nI 115) (h3 : ¬ c = nI 98) : am c = 0 := by
  unfold am
  rw [if_neg h3, if_neg h1, if_neg h2]
theorem m_item0 {f : Nat → Int32} {L p i : Nat} {Z : ab_XX} (hL : L ≤ 80) (h : MT f L p Z) (hp : p ≤ L) (hi : i < 12) (h10 : Z 13 10 = nI i) : F_M_item Z = if am (tx f L p) = 0 then some ((), ab_up Z 13 7 (nI p)) else L_M_item_87 ab_fu (ab_up (ab_up Z 13 6 (nI (p + 1))) 16 (6 * i) (kc (tx f L p))) (nI (am (tx f L p))) (nI 0) := by
  have e10 : ∀ y, ab_up Z 13 6 y 13 10 = nI i := fun y => by rw [p_up_df _ _ _ _ _ (by decide)]; exact h10
  unfold F_M_item
  rw [m_here h hp hL, Option.bind_some, h.2.1, nI_add]
  generalize tx f L p = c
  by_cases h1 : c = nI 119
  · subst h1
    rw [if_pos rfl, am_119, kc_119, if_neg (by decide : ¬ 5 = 0), Option.bind_some, e10, p_mul, if_pos (p_in (by omega) (by decide)), nI_clamp (by omega), Option.bind_some]
  · rw [if_neg h1]
    by_cases h2 : c = nI 115
    · subst h2
      rw [if_pos rfl, am_115, kc_115, if_neg (by decide : ¬ 5 = 0), Option.bind_some, e10, p_mul, if_pos (p_in (by omega) (by decide)), nI_clamp (by omega), Option.bind_some]
    · rw [if_neg h2]
      by_cases h3 : c = nI 98
      · subst h3
        rw [if_pos rfl, am_98, kc_98, if_neg (by decide : ¬ 3 = 0), Option.bind_some, e10, p_mul, if_pos (p_in (by omega) (by decide)), nI_clamp (by omega), Option.bind_some]
      · rw [if_neg h3, am_no h1 h2 h3, if_pos rfl, Option.bind_some]
theorem m_item {f : Nat → Int32} {L p i : Nat} {Z : ab_XX} (hL : L ≤ 80) (h : MT f L p Z) (hp : p ≤ L) (hi : i < 12) (h10 : Z 13 10 = nI i) (h7 : Z 13 7 = -1) :
    ∃ Z2, mfr Z Z2 ∧ (∀ s, s < 6 * i → Z2 16 s = Z 16 s) ∧ F_M_item Z = some ((), Z2) ∧ match pit (tx f L) p with
      | .inl q => Z2 13 7 = nI q
      | .inr r => Z2 13 7 = -1 ∧ Z2 13 10 = nI (i + 1) ∧ MT f L r.1 Z2 ∧ Z2 16 (6 * i) = kc (tx f L p) ∧ ∀ j2, j2 < am (tx f L p) → Z2 16 (6 * i + 1 + j2) = r.2 j2 := by
  have h5 := am_5 (tx f L p)
  rw [m_item0 hL h hp hi h10]
  unfold pit
  by_cases q : am (tx f L p) = 0
  · rw [if_pos q, if_pos q]
    exact ⟨_, mfr_13 _ _ (.inr (.inl rfl)), fun s _ => by rw [p_up_ne _ _ _ _ _ (by decide)], rfl, p_up_sm _ _ _ _⟩
  · have hpl := am_lt q
    rw [if_neg q, if_neg q]
    have hM := MT_6 (q := p + 1) h
    obtain ⟨Z2, y1, y2, y3, y4, y5⟩ := m_pnl (f := f) hL hi h5 (am (tx f L p)) 0 (p + 1) (fun _ => nI 0) (ab_up (ab_up Z 13 6 (nI (p + 1))) 16 (6 * i) (kc (tx f L p))) ab_fu ⟨by rw [p_up_ne _ _ _ _ _ (by decide)]; exact hM.1, by rw [p_up_ne _ _ _ _ _ (by decide)]; exact hM.2.1, fun j2 hj2 => by rw [p_up_ne _ _ _ _ _ (by decide)]; exact hM.2.2 j2 hj2⟩ (by omega) (Nat.zero_add _) (by unfold ab_fu; omega) (by rw [p_up_ne _ _ _ _ _ (by decide), p_up_df _ _ _ _ _ (by decide)]; exact h10) (by rw [p_up_ne _ _ _ _ _ (by decide), p_up_df _ _ _ _ _ (by decide)]; exact h7) (fun j2 hj2 => by omega)
    refine ⟨Z2, mfr_tr (mfr_13 _ _ (.inl rfl)) (mfr_tr (mfr_16 _ _ _) y1), fun s hs => by rw [y2 s (by omega), p_up_df _ _ _ _ _ (by omega), p_up_ne _ _ _ _ _ (by decide)], y3, ?_⟩
    revert y5
    generalize pnl (tx f L) (am (tx f L p)) 0 (p + 1) (fun _ => nI 0) = r
    intro y5
    cases r with
    | inl q => exact y5
    | inr r => exact ⟨y5.1, y4, y5.2.1, by rw [y2 _ (by omega), p_up_sm], y5.2.2⟩
def MI (Z : ab_XX) (E : PE) (n : Nat) : Prop := ∀ k, k < n → Z 16 (6 * k) = kc (E k).1 ∧ ∀ j, j < am (E k).1 → Z 16 (6 * k + 1 + j) = (E k).2 j
theorem m_fin1 {Z : ab_XX} {q : Nat} (hq : q ≤ 80) (h7 : Z 13 7 = nI q) {α : Type} (A : ab_XX → Option α) (B C : ab_XX → Option α) : ((some (ab_up Z 13 5 (nI 0))).bind fun X776 => if X776 13 7 < nI 0 then A X776 else (some (ab_up X776 13 0 (nI 1))).bind fun X872 => if X872 13 0 = nI 0 then B X872 else C X872) = C (ab_up (ab_up Z 13 5 (nI 0)) 13 0 (nI 1)) := by
  rw [Option.bind_some, p_up_df _ _ _ _ _ (by decide), h7, if_neg (nI_nlt (Nat.zero_le _) (by omega)), th_k _ _ _ (by decide) (by decide)]
theorem m_fin0 {Z : ab_XX} (h7 : Z 13 7 = -1) {α : Type} (A : ab_XX → Option α) (B C : ab_XX → Option α) : ((some (ab_up Z 13 5 (nI 0))).bind fun X776 => if X776 13 7 < nI 0 then ((some (ab_up X776 13 0 (nI 0))).bind fun X777 => if X777 13 0 = nI 0 then A X777 else B X777) else C X776) = A (ab_up (ab_up Z 13 5 (nI 0)) 13 0 (nI 0)) := by
  rw [Option.bind_some, p_up_df _ _ _ _ _ (by decide), h7, if_pos (by decide : (-1 : Int32) < nI 0), th_0]
theorem m_txt {f : Nat → Int32} {L : Nat} (hL : L ≤ 80) : ∀ (m i p : Nat) (E : PE) (Z : ab_XX) (c : Nat), MT f L p Z → p ≤ L → i + m = 12 → 7 * i ≤ p → m < c → Z 13 10 = nI i → Z 13 7 = -1 → MI Z E i →
    ∃ Z2, mfr Z Z2 ∧ match ptx (tx f L) L m i p E with
      | .inl q => Z2 13 7 = nI q ∧ (ab_b3 (F_M_item Z) fun _ X => L_M_addItems_24 c X) = some (nI 0, ab_up (ab_up Z2 13 5 (nI 0)) 13 0 (nI 1))
      | .inr r => Z2 13 7 = -1 ∧ Z2 13 10 = nI r.1 ∧ MI Z2 r.2 r.1 ∧ (ab_b3 (F_M_item Z) fun _ X => L_M_addItems_24 c X) = ab_b3 (F_M_copies (ab_up (ab_up Z2 13 5 (nI 0)) 13 0 (nI 0)) (nI 0) (nI 10)) (fun _ X => L_M_addItems_122 ab_fu X (nI 0)) := by
  intro m
  induction m with
  | zero => intro i p E Z c h hp hi h7i; omega
  | succ m ih =>
    intro i p E Z c h hp hi hpi hc h10 h7 hE
    cases c with
    | zero => omega
    | succ c =>
      obtain ⟨Z1, y1, y2, y3, y4⟩ := m_item hL h hp (by omega : i < 12) h10 h7
      have hb0 := pit_b f L p hp
      rw [y3, b3_s]
      unfold ptx
      revert y4 hb0
      generalize pit (tx f L) p = r
      intro y4 hb0
      cases r with
      | inl q =>
        have hq : q ≤ L := hb0
        have h7b : Z1 13 7 = nI q := y4
        have hnn : nI 0 ≤ Z1 13 7 := by rw [h7b]; exact nI_le (Nat.zero_le _) (by omega)
        refine ⟨Z1, y1, h7b, ?_⟩
        rw [L_M_addItems_24, if_pos hnn, if_pos hnn, m_fin1 (q := q) (by omega) h7b]
      | inr r =>
        obtain ⟨z1, z2, z3, z4, z5⟩ := y4
        have hb1 : r.1 ≤ L := hb0.1
        have hb2 : p + 6 ≤ r.1 := hb0.2
        have hE2 : MI Z1 (peu E i (tx f L p) r.2) (i + 1) := fun k hk => by
          by_cases hki : k = i
          · subst hki
            unfold peu
            rw [if_pos rfl]
            exact ⟨z4, z5⟩
          · unfold peu
            rw [if_neg hki]
            obtain ⟨a, b⟩ := hE k (by omega)
            refine ⟨by rw [y2 _ (by omega), a], fun j hj => ?_⟩
            have := am_5 (E k).1
            rw [y2 _ (by omega), b j hj]
        have hnn : ¬ nI 0 ≤ Z1 13 7 := by rw [z1]; exact n_m1
        rw [L_M_addItems_24, if_neg hnn, m_here z3 hb1 hL, Option.bind_some]
        dsimp only
        by_cases hq : r.1 = L
        · have ht : ¬ tx f L r.1 = nI 59 := fun z => by have := tx_ne (by decide) z; omega
          rw [if_pos hq, if_neg ht, if_neg hnn, z3.1, z3.2.1, if_pos (nI_le (by omega) (by omega)), m_fin0 z1]
          refine ⟨Z1, y1, ?_⟩
          dsimp only
          exact ⟨z1, z2, hE2, rfl⟩
        · rw [if_neg hq]
          by_cases hs : tx f L r.1 = nI 59
          · have hrl := tx_ne (by decide) hs
            rw [if_pos hs, if_pos hs, z3.2.1, nI_add, Option.bind_some]
            obtain ⟨Z4, w1, w2⟩ := ih (i + 1) (r.1 + 1) (peu E i (tx f L p) r.2) (ab_up Z1 13 6 (nI (r.1 + 1))) c (MT_6 z3) (by omega) (by omega) (by omega) (by omega) (by rw [p_up_df _ _ _ _ _ (by decide)]; exact z2) (by rw [p_up_df _ _ _ _ _ (by decide)]; exact z1) (fun k hk => by
              rw [p_up_ne _ _ _ _ _ (by decide)]
              exact hE2 k hk)
            exact ⟨Z4, mfr_tr y1 (mfr_tr (mfr_13 _ _ (.inl rfl)) w1), w2⟩
          · rw [if_neg hs, if_neg hs, if_neg hnn, z3.1, z3.2.1, if_neg (nI_ge (by omega) (by omega)), Option.bind_some, m_fin1 (q := r.1) (by omega) (p_up_sm _ _ _ _)]
            exact ⟨_, mfr_tr y1 (mfr_13 _ _ (.inr (.inl rfl))), p_up_sm _ _ _ _, rfl⟩
