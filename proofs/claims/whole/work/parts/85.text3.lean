/-! ===== PURE: reading a text, in the reference ===== -/
def MT (f : Nat → Int32) (L p : Nat) (Z : ab_XX) : Prop := Z 13 5 = nI L ∧ Z 13 6 = nI p ∧ ∀ j, j < L → Z 15 j = f j
theorem m_here {f : Nat → Int32} {L p : Nat} {Z : ab_XX} (h : MT f L p Z) (hp : p ≤ L) (hL : L ≤ 80) : F_M_here Z = some (tx f L p) := by
  obtain ⟨h1, h2, h3⟩ := h
  unfold F_M_here tx
  rw [h1, h2]
  by_cases q : p < L
  · rw [if_neg (nI_ge q (by omega)), if_pos (p_in (by omega) (by decide)), Option.bind_some, if_pos q, nI_clamp (by omega), h3 p q]
  · rw [if_pos (nI_le (by omega) (by omega)), if_neg q]
theorem up_self {Y : ab_XX} {o i : Nat} {y : Int32} (h : Y o i = y) : ab_up Y o i y = Y := by
  funext o2 i2
  by_cases ho : o2 = o
  · subst ho
    by_cases hi : i2 = i
    · subst hi; rw [p_up_sm, h]
    · rw [p_up_df _ _ _ _ _ hi]
  · rw [p_up_ne _ _ _ _ _ ho]
theorem MT_6 {f : Nat → Int32} {L p q : Nat} {Z : ab_XX} (h : MT f L p Z) : MT f L q (ab_up Z 13 6 (nI q)) := ⟨by rw [p_up_df _ _ _ _ _ (by decide)]; exact h.1, p_up_sm _ _ _ _, fun j hj => by rw [p_up_ne _ _ _ _ _ (by decide)]; exact h.2.2 j hj⟩
theorem n_m1 : ¬ nI 0 ≤ (-1 : Int32) := by decide
theorem m_rdn {f : Nat → Int32} {L : Nat} (hL : L ≤ 80) : ∀ (m k p : Nat) (a : Int32) (Z : ab_XX) (c : Nat), MT f L p Z → p ≤ L → k + m = 3 → m < c → Z 13 7 = -1 →
    L_M_number_33 c Z a (nI k) = some ((rdn (tx f L) m p a).1, ab_up Z 13 6 (nI (rdn (tx f L) m p a).2)) := by
  intro m
  induction m with
  | zero =>
    intro k p a Z c h hp hk hc h7
    cases c with
    | zero => omega
    | succ c =>
      rw [L_M_number_33, if_pos (nI_le (by omega) (by omega))]
      show _ = some (a, ab_up Z 13 6 (nI p))
      rw [up_self h.2.1]
  | succ m ih =>
    intro k p a Z c h hp hk hc h7
    cases c with
    | zero => omega
    | succ c =>
      rw [L_M_number_33, if_neg (nI_ge (by omega) (by decide)), h7, if_neg n_m1, m_here h hp hL, Option.bind_some]
      unfold rdn
      cases hd : dg (tx f L p) with
      | false =>
        rw [(dg_f hd).1, Option.bind_some, if_pos rfl, if_neg (by decide : ¬ false = true), up_self h.2.1]
      | true =>
        have hpl := dg_lt hd
        rw [(dg_t hd).1, Option.bind_some, if_neg n10, Option.bind_some, h.2.1, nI_add, Option.bind_some, nI_add, if_pos rfl]
        rw [ih (k + 1) (p + 1) ((((nI 10) * a) + tx f L p) - (nI 48)) (ab_up Z 13 6 (nI (p + 1))) c (MT_6 h) (by omega) (by omega) (by omega) (by rw [p_up_df _ _ _ _ _ (by decide)]; exact h7), p_up_up]
theorem m_num_t {f : Nat → Int32} {L p : Nat} {Z : ab_XX} (hL : L ≤ 80) (h : MT f L p Z) (hp : p ≤ L) (h7 : Z 13 7 = -1) (hd : dg (tx f L p) = true) : F_M_number Z = some ((rdn (tx f L) 3 p (nI 0)).1, ab_up Z 13 6 (nI (rdn (tx f L) 3 p (nI 0)).2)) := by
  unfold F_M_number
  rw [h7, if_neg n_m1, m_here h hp hL, Option.bind_some, (dg_t hd).1, Option.bind_some, if_neg n10]
  exact m_rdn hL 3 0 p (nI 0) Z ab_fu h hp rfl (by unfold ab_fu; omega) h7
theorem m_num_s (Z : ab_XX) (a : Int32) (c : Nat) (h : nI 0 ≤ Z 13 7) : L_M_number_33 (c + 1) Z a (nI 0) = some (a, Z) := by
  rw [L_M_number_33, if_neg (by decide : ¬ nI 3 ≤ nI 0), if_pos h]
theorem m_num_f {f : Nat → Int32} {L p : Nat} {Z : ab_XX} (hL : L ≤ 80) (h : MT f L p Z) (hp : p ≤ L) (h7 : Z 13 7 = -1) (hd : dg (tx f L p) = false) : F_M_number Z = some (nI 0, ab_up Z 13 7 (nI p)) := by
  unfold F_M_number
  rw [h7, if_neg n_m1, m_here h hp hL, Option.bind_some, (dg_f hd).1, Option.bind_some, if_pos rfl, h.2.1, Option.bind_some]
  exact m_num_s _ _ 999 (by rw [p_up_sm]; exact nI_le (Nat.zero_le _) (by omega))
theorem m_num_x {Z : ab_XX} (h : nI 0 ≤ Z 13 7) : F_M_number Z = some (nI 0, Z) := by
  unfold F_M_number
  rw [if_pos h]
  exact m_num_s _ _ 999 h
def mfr (X Y : ab_XX) : Prop := (∀ o, o ≠ 13 → o ≠ 16 → Y o = X o) ∧ ∀ j, j ≠ 6 → j ≠ 7 → j ≠ 10 → Y 13 j = X 13 j
theorem mfr_rf (X : ab_XX) : mfr X X := ⟨fun _ _ _ => rfl, fun _ _ _ _ => rfl⟩
theorem mfr_tr {X Y Z : ab_XX} (h1 : mfr X Y) (h2 : mfr Y Z) : mfr X Z := ⟨fun o a b => (h2.1 o a b).trans (h1.1 o a b), fun j a b c => (h2.2 j a b c).trans (h1.2 j a b c)⟩
theorem mfr_13 (X : ab_XX) {i : Nat} (y : Int32) (h : i = 6 ∨ i = 7 ∨ i = 10) : mfr X (ab_up X 13 i y) := ⟨fun o a _ => p_up_ne _ _ _ _ _ a, fun j a b c => p_up_df _ _ _ _ _ (by omega)⟩
theorem mfr_16 (X : ab_XX) (i : Nat) (y : Int32) : mfr X (ab_up X 16 i y) := ⟨fun o _ b => p_up_ne _ _ _ _ _ b, fun j _ _ _ => by rw [p_up_ne _ _ _ _ _ (by decide)]⟩
/-- after a fault: a number is 0, and the item ends -/
theorem m_itE {Z : ab_XX} {i n j q : Nat} (c : Nat) (h10 : Z 13 10 = nI i) (h7 : Z 13 7 = nI q) (hq : q ≤ 80) : L_M_item_87 (c + 1) Z (nI n) (nI j) = some ((), ab_up Z 13 10 (nI (i + 1))) := by
  rw [L_M_item_87, h10, nI_add, h7]
  have hb0 : nI 0 ≤ nI q := nI_le (Nat.zero_le _) (by omega)
  rw [if_pos hb0]
  split <;> rfl
theorem m_pnl {f : Nat → Int32} {L : Nat} (hL : L ≤ 80) {i n : Nat} (hi : i < 12) (hn : n ≤ 5) : ∀ (m j p : Nat) (D : Nat → Int32) (Z : ab_XX) (c : Nat), MT f L p Z → p ≤ L → j + m = n → m < c → Z 13 10 = nI i → Z 13 7 = -1 → (∀ j2, j2 < j → Z 16 (6 * i + 1 + j2) = D j2) →
    ∃ Z2, mfr Z Z2 ∧ (∀ s, s < 6 * i + 1 → Z2 16 s = Z 16 s) ∧ L_M_item_87 c Z (nI n) (nI j) = some ((), Z2) ∧ Z2 13 10 = nI (i + 1) ∧ match pnl (tx f L) m j p D with
      | .inl q => Z2 13 7 = nI q
      | .inr r => Z2 13 7 = -1 ∧ MT f L r.1 Z2 ∧ ∀ j2, j2 < n → Z2 16 (6 * i + 1 + j2) = r.2 j2 := by
  intro m
  induction m with
  | zero =>
    intro j p D Z c h hp hj hc h10 h7 hD
    cases c with
    | zero => omega
    | succ c =>
      have : j = n := by omega
      subst this
      refine ⟨ab_up Z 13 10 (nI (i + 1)), mfr_13 _ _ (.inr (.inr rfl)), fun s _ => by rw [p_up_ne _ _ _ _ _ (by decide)], ?_, p_up_sm _ _ _ _, by rw [p_up_df _ _ _ _ _ (by decide)]; exact h7, ⟨by rw [p_up_df _ _ _ _ _ (by decide)]; exact h.1, by rw [p_up_df _ _ _ _ _ (by decide)]; exact h.2.1, fun j2 hj2 => by rw [p_up_ne _ _ _ _ _ (by decide)]; exact h.2.2 j2 hj2⟩, fun j2 hj2 => by rw [p_up_ne _ _ _ _ _ (by decide)]; exact hD j2 hj2⟩
      rw [L_M_item_87, if_pos (nI_le (Nat.le_refl _) (by omega)), h10, nI_add, Option.bind_some]
  | succ m ih =>
    intro j p D Z c h hp hj hc h10 h7 hD
    cases c with
    | zero => omega
    | succ c =>
      have hc1 : ∃ c2, c = c2 + 1 := ⟨c - 1, by omega⟩
      obtain ⟨c2, ec⟩ := hc1
      have bnd : ab_in (nI (6 * i + 1 + j)) 480 = true := p_in (by omega) (by decide)
      have rest : ∀ (p1 : Nat) (Z1 : ab_XX), MT f L p1 Z1 → p1 ≤ L → mfr Z Z1 → Z1 16 = Z 16 → Z1 13 10 = nI i → Z1 13 7 = -1 → ∃ Z2, mfr Z Z2 ∧ (∀ s, s < 6 * i + 1 → Z2 16 s = Z 16 s) ∧ (ab_b3 (F_M_number Z1) (fun v758 X759 => (some (ab_up X759 16 (6 * i + 1 + j) v758)).bind fun X760 => L_M_item_87 c X760 (nI n) (nI (j + 1)))) = some ((), Z2) ∧ Z2 13 10 = nI (i + 1) ∧ match (if dg (tx f L p1) = true then pnl (tx f L) m (j + 1) (rdn (tx f L) 3 p1 (nI 0)).2 (upd D j (rdn (tx f L) 3 p1 (nI 0)).1) else (.inl p1 : Nat ⊕ (Nat × (Nat → Int32)))) with
          | .inl q => Z2 13 7 = nI q
          | .inr r => Z2 13 7 = -1 ∧ MT f L r.1 Z2 ∧ ∀ j2, j2 < n → Z2 16 (6 * i + 1 + j2) = r.2 j2 := by
        intro p1 Z1 h1 hp1 hf h16 h10b h7b
        cases hd : dg (tx f L p1) with
        | false =>
          rw [m_num_f hL h1 hp1 h7b hd, b3_s, Option.bind_some, ec, m_itE (i := i) (q := p1) c2 (by rw [p_up_ne _ _ _ _ _ (by decide), p_up_df _ _ _ _ _ (by decide)]; exact h10b) (by rw [p_up_ne _ _ _ _ _ (by decide), p_up_sm]) (by omega)]
          refine ⟨_, mfr_tr hf (mfr_tr (mfr_13 _ _ (.inr (.inl rfl))) (mfr_tr (mfr_16 _ _ _) (mfr_13 _ _ (.inr (.inr rfl))))), fun s hs => by rw [p_up_ne _ _ _ _ _ (by decide), p_up_df _ _ _ _ _ (by omega), p_up_ne _ _ _ _ _ (by decide), h16], rfl, p_up_sm _ _ _ _, ?_⟩
          rw [if_neg (by decide : ¬ false = true)]
          show ab_up _ 13 10 _ 13 7 = nI p1
          rw [p_up_df _ _ _ _ _ (by decide), p_up_ne _ _ _ _ _ (by decide), p_up_sm]
        | true =>
          have hb0 := rdn_b f L 3 p1 (nI 0) hp1
          rw [m_num_t hL h1 hp1 h7b hd, b3_s, Option.bind_some, if_pos rfl]
          generalize hx : (rdn (tx f L) 3 p1 (nI 0)).1 = x
          generalize hq : (rdn (tx f L) 3 p1 (nI 0)).2 = q at hb0
          have hM := MT_6 (q := q) h1
          obtain ⟨Z2, y1, y2, y3, y4, y5⟩ := ih (j + 1) q (upd D j x) (ab_up (ab_up Z1 13 6 (nI q)) 16 (6 * i + 1 + j) x) c ⟨by rw [p_up_ne _ _ _ _ _ (by decide)]; exact hM.1, by rw [p_up_ne _ _ _ _ _ (by decide)]; exact hM.2.1, fun j2 hj2 => by rw [p_up_ne _ _ _ _ _ (by decide)]; exact hM.2.2 j2 hj2⟩ hb0.2 (by omega) (by omega) (by rw [p_up_ne _ _ _ _ _ (by decide), p_up_df _ _ _ _ _ (by decide)]; exact h10b) (by rw [p_up_ne _ _ _ _ _ (by decide), p_up_df _ _ _ _ _ (by decide)]; exact h7b) (fun j2 hj2 => by
            by_cases hjj : j2 = j
            · subst hjj
              rw [p_up_sm, upd_eq]
            · rw [p_up_df _ _ _ _ _ (by omega), p_up_ne _ _ _ _ _ (by decide), h16, hD j2 (by omega), upd_ne _ hjj])
          exact ⟨Z2, mfr_tr hf (mfr_tr (mfr_13 _ _ (.inl rfl)) (mfr_tr (mfr_16 _ _ _) y1)), fun s hs => by rw [y2 s hs, p_up_df _ _ _ _ _ (by omega), p_up_ne _ _ _ _ _ (by decide), h16], y3, y4, y5⟩
      rw [L_M_item_87, if_neg (nI_ge (by omega) (by omega)), h7, if_neg n_m1, h10]
      have clm : (nI (6 * i + 1 + j)).toNatClampNeg = 6 * i + 1 + j := nI_clamp (by omega)
      simp only [p_mul, nI_add, bnd, if_true, clm]
      unfold pnl
      by_cases hj0 : j = 0
      · rw [if_pos (nI_le (by omega) (by omega)), if_pos (.inl hj0), if_pos hj0]
        exact rest p Z h hp (mfr_rf Z) rfl h10 h7
      · rw [if_neg (nI_ge (by omega) (by omega)), m_here h hp hL, Option.bind_some, h.2.1]
        have e10 : ∀ y, ab_up Z 13 6 y 13 10 = nI i := fun y => by rw [p_up_df _ _ _ _ _ (by decide)]; exact h10
        by_cases q : tx f L p = nI 44
        · have hpl := tx_ne (by decide) q
          rw [if_pos q, if_pos (.inr q), nI_add, Option.bind_some, e10]
          simp only [p_mul, nI_add, bnd, if_true, clm]
          rw [if_neg hj0]
          exact rest (p + 1) (ab_up Z 13 6 (nI (p + 1))) (MT_6 h) (by omega) (mfr_13 _ _ (.inl rfl)) (p_up_ne _ _ _ _ _ (by decide)) (e10 _) (by rw [p_up_df _ _ _ _ _ (by decide)]; exact h7)
        · have e6 : ab_up Z 13 7 (nI p) 13 6 = nI p := by rw [p_up_df _ _ _ _ _ (by decide)]; exact h.2.1
          have e7 : ab_up (ab_up Z 13 7 (nI p)) 13 6 (nI (p + 1)) 13 7 = nI p := by rw [p_up_df _ _ _ _ _ (by decide), p_up_sm]
          have e10c : ab_up (ab_up Z 13 7 (nI p)) 13 6 (nI (p + 1)) 13 10 = nI i := by rw [p_up_df _ _ _ _ _ (by decide), p_up_df _ _ _ _ _ (by decide)]; exact h10
          rw [if_neg q, if_neg (fun z => z.elim hj0 q), Option.bind_some, e6, nI_add, Option.bind_some, m_num_x (by rw [e7]; exact nI_le (Nat.zero_le _) (by omega)), b3_s, e10c]
          simp only [p_mul, nI_add]
          rw [if_pos bnd, clm, Option.bind_some, ec, m_itE (i := i) (q := p) c2 (by rw [p_up_ne _ _ _ _ _ (by decide)]; exact e10c) (by rw [p_up_ne _ _ _ _ _ (by decide)]; exact e7) (by omega)]
          refine ⟨_, mfr_tr (mfr_13 _ _ (.inr (.inl rfl))) (mfr_tr (mfr_13 _ _ (.inl rfl)) (mfr_tr (mfr_16 _ _ _) (mfr_13 _ _ (.inr (.inr rfl))))), fun s hs => by rw [p_up_ne _ _ _ _ _ (by decide), p_up_df _ _ _ _ _ (by omega), p_up_ne _ _ _ _ _ (by decide), p_up_ne _ _ _ _ _ (by decide)], rfl, p_up_sm _ _ _ _, ?_⟩
          show ab_up _ 13 10 _ 13 7 = nI p
          rw [p_up_df _ _ _ _ _ (by decide), p_up_ne _ _ _ _ _ (by decide)]
          exact e7
