/-! ===== PURE: reading a text, in the class ===== -/
def tx (f : Nat → Int32) (L : Nat) : Nat → Int32 := fun p => if p < L then f p else -1
def dg (c : Int32) : Bool := decide (F_M_in c (nI 48) (nI 57) = some (nI 1))
theorem s10 : ¬ (some (nI 0) : Option Int32) = some (nI 1) := by decide
theorem dg_t {c : Int32} (h : dg c = true) : F_M_in c (nI 48) (nI 57) = some (nI 1) ∧ F_K_isWithin c (nI 48) (nI 57) = some (nI 1) := by
  have h2 := of_decide_eq_true h
  rcases in_cs c 48 57 (by decide) (by decide) with ⟨w, _, _, _, g1, g2⟩ | ⟨g1, g2⟩
  · exact ⟨g1, g2⟩
  · rw [g1] at h2; exact absurd h2 s10
theorem dg_f {c : Int32} (h : dg c = false) : F_M_in c (nI 48) (nI 57) = some (nI 0) ∧ F_K_isWithin c (nI 48) (nI 57) = some (nI 0) := by
  have h2 := of_decide_eq_false h
  rcases in_cs c 48 57 (by decide) (by decide) with ⟨w, _, _, _, g1, g2⟩ | ⟨g1, g2⟩
  · exact absurd g1 h2
  · exact ⟨g1, g2⟩
theorem dg_m1 : dg (-1) = false := by decide
theorem tx_ne {f : Nat → Int32} {L p : Nat} {c : Int32} (hc : c ≠ -1) (h : tx f L p = c) : p < L := by
  unfold tx at h
  by_cases q : p < L
  · exact q
  · rw [if_neg q] at h
    exact absurd h.symm hc
theorem dg_lt {f : Nat → Int32} {L p : Nat} (h : dg (tx f L p) = true) : p < L := by
  by_cases q : p < L
  · exact q
  · unfold tx at h
    rw [if_neg q, dg_m1] at h
    cases h
def rdn (t : Nat → Int32) : Nat → Nat → Int32 → Int32 × Nat
  | 0, p, a => (a, p)
  | m + 1, p, a => if dg (t p) = true then rdn t m (p + 1) ((((nI 10) * a) + t p) - (nI 48)) else (a, p)
theorem rdn_b (f : Nat → Int32) (L : Nat) : ∀ m p a, p ≤ L → p ≤ (rdn (tx f L) m p a).2 ∧ (rdn (tx f L) m p a).2 ≤ L := by
  intro m
  induction m with
  | zero => intro p a h; exact ⟨Nat.le_refl _, h⟩
  | succ m ih =>
    intro p a h
    unfold rdn
    by_cases q : dg (tx f L p) = true
    · rw [if_pos q]
      have := dg_lt q
      have := ih (p + 1) ((((nI 10) * a) + tx f L p) - (nI 48)) (by omega)
      omega
    · rw [if_neg q]
      exact ⟨Nat.le_refl _, h⟩
theorem rdn_1 {f : Nat → Int32} {L p : Nat} {a : Int32} (m : Nat) (h : dg (tx f L p) = true) : p + 1 ≤ (rdn (tx f L) (m + 1) p a).2 := by
  unfold rdn
  rw [if_pos h]
  exact (rdn_b f L m (p + 1) _ (by have := dg_lt h; omega)).1
def CT (f : Nat → Int32) (L p : Nat) (Y : ab_XX) : Prop := Y 6 1 = nI L ∧ Y 6 2 = nI p ∧ Y 7 = f
theorem c_next {f : Nat → Int32} {L p : Nat} {Y : ab_XX} (h : CT f L p Y) (hp : p ≤ L) (hL : L ≤ 80) : F_T_nextCharacter Y = some (tx f L p) := by
  obtain ⟨h1, h2, h3⟩ := h
  unfold F_T_nextCharacter tx
  rw [h1, h2, h3, if_neg (nI_nlt (Nat.zero_le _) (by omega))]
  by_cases q : p < L
  · rw [if_neg (nI_ge q (by omega)), if_neg (nI_ge (by omega) (by decide)), if_pos (p_in (by omega) (by decide)), Option.bind_some, if_pos q, nI_clamp (by omega)]
  · rw [if_pos (nI_le (by omega) (by omega)), if_neg q]
theorem c_rdn {f : Nat → Int32} {L : Nat} (hL : L ≤ 80) {slot : Nat} (hs : slot < 60) : ∀ (m k p : Nat) (a : Int32) (Y : ab_XX) (c : Nat), CT f L p Y → p ≤ L → k + m = 3 → m < c →
    L_T_readNumber_4 c Y (nI slot) a (nI k) = some (nI (if k = 0 ∧ dg (tx f L p) = false then 0 else 1), ab_up (ab_up Y 6 2 (nI (rdn (tx f L) m p a).2)) 9 slot (rdn (tx f L) m p a).1) := by
  intro m
  have hs1 : ¬ nI slot < nI 0 := nI_nlt (Nat.zero_le _) (by omega)
  have hs2 : ¬ nI 60 ≤ nI slot := nI_ge hs (by decide)
  have hs3 : ab_in (nI slot) 60 = true := p_in hs (by decide)
  have self : ∀ (Y : ab_XX) (p : Nat), Y 6 2 = nI p → ab_up Y 6 2 (nI p) = Y := fun Y p h => by
    funext o i
    by_cases ho : o = 6
    · subst ho
      by_cases hi : i = 2
      · subst hi; rw [p_up_sm, h]
      · rw [p_up_df _ _ _ _ _ hi]
    · rw [p_up_ne _ _ _ _ _ ho]
  induction m with
  | zero =>
    intro k p a Y c h hp hk hc
    cases c with
    | zero => omega
    | succ c =>
      have hk3 : k = 3 := by omega
      subst hk3
      rw [L_T_readNumber_4, if_pos (nI_le (Nat.le_refl _) (by decide)), if_neg hs1, if_neg hs2, if_pos hs3, Option.bind_some, if_neg (by decide : ¬ nI 3 ≤ nI 0), nI_clamp (by omega), if_neg (by omega)]
      show _ = some (nI 1, ab_up (ab_up Y 6 2 (nI p)) 9 slot a)
      rw [self Y p h.2.1]
  | succ m ih =>
    intro k p a Y c h hp hk hc
    cases c with
    | zero => omega
    | succ c =>
      rw [L_T_readNumber_4, if_neg (nI_ge (by omega) (by decide)), c_next h hp hL, Option.bind_some]
      unfold rdn
      cases hd : dg (tx f L p) with
      | false =>
        rw [(dg_f hd).2, Option.bind_some, if_pos rfl, if_neg hs1, if_neg hs2, if_pos hs3, Option.bind_some, nI_clamp (by omega), if_neg (by decide : ¬ false = true)]
        show _ = some (_, ab_up (ab_up Y 6 2 (nI p)) 9 slot a)
        rw [self Y p h.2.1]
        by_cases hk0 : k = 0
        · rw [if_pos (nI_le (show k ≤ 0 by omega) (by decide)), if_pos (show k = 0 ∧ false = false from ⟨hk0, rfl⟩)]
        · rw [if_neg (nI_ge (show 0 < k by omega) (by omega)), if_neg (fun z : k = 0 ∧ false = false => hk0 z.1)]
      | true =>
        have hpl := dg_lt hd
        rw [(dg_t hd).2, Option.bind_some, if_neg n10, Option.bind_some, h.2.1, nI_add, Option.bind_some, nI_add, if_pos rfl]
        rw [ih (k + 1) (p + 1) ((((nI 10) * a) + tx f L p) - (nI 48)) (ab_up Y 6 2 (nI (p + 1))) c ⟨by rw [p_up_df _ _ _ _ _ (by decide)]; exact h.1, p_up_sm _ _ _ _, by rw [p_up_ne _ _ _ _ _ (by decide)]; exact h.2.2⟩ (by omega) (by omega) (by omega), p_up_up, if_neg (by omega), if_neg (fun z => by cases z.2)]
theorem c_num {f : Nat → Int32} {L p : Nat} {Y : ab_XX} (h : CT f L p Y) (hp : p ≤ L) (hL : L ≤ 80) {slot : Nat} (hs : slot < 60) : F_T_readNumber Y (nI slot) = some (nI (dg (tx f L p)).toNat, ab_up (ab_up Y 6 2 (nI (rdn (tx f L) 3 p (nI 0)).2)) 9 slot (rdn (tx f L) 3 p (nI 0)).1) := by
  unfold F_T_readNumber
  rw [c_rdn hL hs 3 0 p (nI 0) Y ab_fu h hp rfl (by unfold ab_fu; omega)]
  cases dg (tx f L p) <;> rfl
/-- the numbers of an item: m more, the next is the j-th -/
def pnl (t : Nat → Int32) : Nat → Nat → Nat → (Nat → Int32) → Nat ⊕ (Nat × (Nat → Int32))
  | 0, _, p, D => .inr (p, D)
  | m + 1, j, p, D => if j = 0 ∨ t p = nI 44 then
      (if dg (t (if j = 0 then p else p + 1)) = true then pnl t m (j + 1) (rdn t 3 (if j = 0 then p else p + 1) (nI 0)).2 (upd D j (rdn t 3 (if j = 0 then p else p + 1) (nI 0)).1) else .inl (if j = 0 then p else p + 1))
    else .inl p
/-- what an outcome must keep -/
def pnB (L p m j : Nat) : Nat ⊕ (Nat × (Nat → Int32)) → Prop
  | .inl q => q ≤ L
  | .inr r => r.1 ≤ L ∧ p + 2 * m ≤ r.1 + (if j = 0 then 1 else 0)
theorem pnl_b (f : Nat → Int32) (L : Nat) : ∀ m j p D, p ≤ L → pnB L p m j (pnl (tx f L) m j p D) := by
  intro m
  induction m with
  | zero => intro j p D h; exact ⟨h, by show p + 2 * 0 ≤ p + _; omega⟩
  | succ m ih =>
    intro j p D h
    unfold pnl
    by_cases q : j = 0 ∨ tx f L p = nI 44
    · rw [if_pos q]
      have hp1 : (if j = 0 then p else p + 1) ≤ L := by
        by_cases hj : j = 0
        · rw [if_pos hj]; exact h
        · rw [if_neg hj]
          rcases q with q | q
          · exact absurd q hj
          · exact tx_ne (by decide) q
      generalize hp2 : (if j = 0 then p else p + 1) = p1 at hp1
      by_cases q2 : dg (tx f L p1) = true
      · rw [if_pos q2]
        have h1 : p1 + 1 ≤ (rdn (tx f L) 3 p1 (nI 0)).2 := rdn_1 (a := nI 0) 2 q2
        have h2 := rdn_b f L 3 p1 (nI 0) hp1
        have h3 := ih (j + 1) (rdn (tx f L) 3 p1 (nI 0)).2 (upd D j (rdn (tx f L) 3 p1 (nI 0)).1) h2.2
        revert h3
        generalize pnl (tx f L) m (j + 1) (rdn (tx f L) 3 p1 (nI 0)).2 (upd D j (rdn (tx f L) 3 p1 (nI 0)).1) = r
        intro h3
        cases r with
        | inl q => exact h3
        | inr r =>
          obtain ⟨a, b⟩ := h3
          refine ⟨a, ?_⟩
          rw [if_neg (by omega : ¬ j + 1 = 0)] at b
          by_cases hj : j = 0
          · rw [if_pos hj] at hp2 ⊢; omega
          · rw [if_neg hj] at hp2 ⊢; omega
      · rw [if_neg q2]
        exact hp1
    · rw [if_neg q]
      exact h
def cfr (X Y : ab_XX) : Prop := (∀ o, o ≠ 6 → o ≠ 8 → o ≠ 9 → Y o = X o) ∧ Y 6 5 = X 6 5
theorem cfr_tr {X Y Z : ab_XX} (h1 : cfr X Y) (h2 : cfr Y Z) : cfr X Z := ⟨fun o a b c => (h2.1 o a b c).trans (h1.1 o a b c), h2.2.trans h1.2⟩
theorem c_pnl {f : Nat → Int32} {L : Nat} (hL : L ≤ 80) {i n : Nat} (hi : i < 12) (hn : n ≤ 5) : ∀ (m j p : Nat) (D : Nat → Int32) (Y : ab_XX) (c : Nat), CT f L p Y → p ≤ L → j + m = n → m < c → (∀ j2, j2 < j → Y 9 (5 * i + j2) = D j2) →
    ∃ Y2, cfr Y Y2 ∧ (∀ s, s < 5 * i → Y2 9 s = Y 9 s) ∧ Y2 8 = Y 8 ∧ match pnl (tx f L) m j p D with
      | .inl q => L_T_readItem_49 c Y (nI i) (nI n) (nI j) = some (nI 0, Y2) ∧ CT f L q Y2
      | .inr r => L_T_readItem_49 c Y (nI i) (nI n) (nI j) = some (nI 1, Y2) ∧ CT f L r.1 Y2 ∧ ∀ j2, j2 < n → Y2 9 (5 * i + j2) = r.2 j2 := by
  intro m
  induction m with
  | zero =>
    intro j p D Y c h hp hj hc hD
    cases c with
    | zero => omega
    | succ c =>
      have : j = n := by omega
      subst this
      refine ⟨Y, ⟨fun _ _ _ _ => rfl, rfl⟩, fun _ _ => rfl, rfl, ?_, h, hD⟩
      rw [L_T_readItem_49, if_pos (nI_le (Nat.le_refl _) (by omega))]
  | succ m ih =>
    intro j p D Y c h hp hj hc hD
    cases c with
    | zero => omega
    | succ c =>
      have rest : ∀ (p1 : Nat) (Y1 : ab_XX), CT f L p1 Y1 → p1 ≤ L → cfr Y Y1 → Y1 9 = Y 9 → Y1 8 = Y 8 → ∃ Y2, cfr Y Y2 ∧ (∀ s, s < 5 * i → Y2 9 s = Y 9 s) ∧ Y2 8 = Y 8 ∧ match (if dg (tx f L p1) = true then pnl (tx f L) m (j + 1) (rdn (tx f L) 3 p1 (nI 0)).2 (upd D j (rdn (tx f L) 3 p1 (nI 0)).1) else (.inl p1 : Nat ⊕ (Nat × (Nat → Int32)))) with
          | .inl q => (ab_b3 (F_T_readNumber Y1 (nI (i * 5 + j))) (fun v245 X246 => if v245 = nI 0 then some (nI 0, X246) else L_T_readItem_49 c X246 (nI i) (nI n) (nI (j + 1)))) = some (nI 0, Y2) ∧ CT f L q Y2
          | .inr r => (ab_b3 (F_T_readNumber Y1 (nI (i * 5 + j))) (fun v245 X246 => if v245 = nI 0 then some (nI 0, X246) else L_T_readItem_49 c X246 (nI i) (nI n) (nI (j + 1)))) = some (nI 1, Y2) ∧ CT f L r.1 Y2 ∧ ∀ j2, j2 < n → Y2 9 (5 * i + j2) = r.2 j2 := by
        intro p1 Y1 h1 hp1 hf h9 h8
        rw [c_num h1 hp1 hL (by omega), b3_s]
        have hb0 := rdn_b f L 3 p1 (nI 0) hp1
        have hY2 : cfr Y1 (ab_up (ab_up Y1 6 2 (nI (rdn (tx f L) 3 p1 (nI 0)).2)) 9 (i * 5 + j) (rdn (tx f L) 3 p1 (nI 0)).1) := ⟨fun o a b d => by rw [p_up_ne _ _ _ _ _ d, p_up_ne _ _ _ _ _ a], by rw [p_up_ne _ _ _ _ _ (by decide), p_up_df _ _ _ _ _ (by decide)]⟩
        have hC2 : CT f L (rdn (tx f L) 3 p1 (nI 0)).2 (ab_up (ab_up Y1 6 2 (nI (rdn (tx f L) 3 p1 (nI 0)).2)) 9 (i * 5 + j) (rdn (tx f L) 3 p1 (nI 0)).1) := ⟨by rw [p_up_ne _ _ _ _ _ (by decide), p_up_df _ _ _ _ _ (by decide)]; exact h1.1, by rw [p_up_ne _ _ _ _ _ (by decide), p_up_sm], by rw [p_up_ne _ _ _ _ _ (by decide), p_up_ne _ _ _ _ _ (by decide)]; exact h1.2.2⟩
        have e9 : ∀ s, s ≠ i * 5 + j → ab_up (ab_up Y1 6 2 (nI (rdn (tx f L) 3 p1 (nI 0)).2)) 9 (i * 5 + j) (rdn (tx f L) 3 p1 (nI 0)).1 9 s = Y 9 s := fun s hs => by rw [p_up_df _ _ _ _ _ hs, p_up_ne _ _ _ _ _ (by decide), h9]
        have e8 : ab_up (ab_up Y1 6 2 (nI (rdn (tx f L) 3 p1 (nI 0)).2)) 9 (i * 5 + j) (rdn (tx f L) 3 p1 (nI 0)).1 8 = Y 8 := by rw [p_up_ne _ _ _ _ _ (by decide), p_up_ne _ _ _ _ _ (by decide), h8]
        have e9j : ab_up (ab_up Y1 6 2 (nI (rdn (tx f L) 3 p1 (nI 0)).2)) 9 (i * 5 + j) (rdn (tx f L) 3 p1 (nI 0)).1 9 (i * 5 + j) = (rdn (tx f L) 3 p1 (nI 0)).1 := p_up_sm _ _ _ _
        cases hd : dg (tx f L p1) with
        | false =>
          have er : rdn (tx f L) 3 p1 (nI 0) = (nI 0, p1) := by
            unfold rdn
            rw [hd, if_neg (by decide : ¬ false = true)]
          refine ⟨_, cfr_tr hf hY2, fun s hs => e9 s (by omega), e8, rfl, ?_⟩
          rw [er] at hC2
          rw [er]
          exact hC2
        | true =>
          rw [if_pos rfl]
          obtain ⟨Y2, y1, y2, y3, y4⟩ := ih (j + 1) (rdn (tx f L) 3 p1 (nI 0)).2 (upd D j (rdn (tx f L) 3 p1 (nI 0)).1) _ c hC2 hb0.2 (by omega) (by omega) (fun j2 hj2 => by
            by_cases hjj : j2 = j
            · subst hjj
              rw [show 5 * i + j2 = i * 5 + j2 by omega, e9j, upd_eq]
            · rw [e9 _ (by omega), hD j2 (by omega), upd_ne _ hjj])
          exact ⟨Y2, cfr_tr (cfr_tr hf hY2) y1, fun s hs => by rw [y2 s hs, e9 s (by omega)], by rw [y3, e8], y4⟩
      rw [L_T_readItem_49, if_neg (nI_ge (by omega) (by omega)), nI_add]
      simp only [p_mul, nI_add]
      unfold pnl
      by_cases hj0 : j = 0
      · rw [if_pos (nI_le (by omega) (by omega)), if_pos (.inl hj0)]
        have := rest p Y h hp ⟨fun _ _ _ _ => rfl, rfl⟩ rfl rfl
        rw [if_pos hj0]
        exact this
      · rw [if_neg (nI_ge (by omega) (by omega))]
        unfold F_T_readSign
        rw [c_next h hp hL, Option.bind_some]
        by_cases q : tx f L p = nI 44
        · rw [if_pos q, if_pos (.inr q), h.2.1, nI_add, Option.bind_some, b3_s, if_neg n10]
          have hpl := tx_ne (by decide) q
          have := rest (p + 1) (ab_up Y 6 2 (nI (p + 1))) ⟨by rw [p_up_df _ _ _ _ _ (by decide)]; exact h.1, p_up_sm _ _ _ _, by rw [p_up_ne _ _ _ _ _ (by decide)]; exact h.2.2⟩ (by omega) ⟨fun o a _ _ => p_up_ne _ _ _ _ _ a, p_up_df _ _ _ _ _ (by decide)⟩ (p_up_ne _ _ _ _ _ (by decide)) (p_up_ne _ _ _ _ _ (by decide))
          rw [if_neg hj0]
          exact this
        · rw [if_neg q, if_neg (fun z => z.elim hj0 q), b3_s, if_pos rfl]
          exact ⟨Y, ⟨fun _ _ _ _ => rfl, rfl⟩, fun _ _ => rfl, rfl, rfl, h⟩
