/-! ===== PURE: round, runAll ===== -/
def md (X Y : ab_XX) : Prop := (∀ o, o ≠ 13 → o ≠ 14 → Y o = X o) ∧ (∀ j, j ≠ 11 → Y 13 j = X 13 j) ∧ (∀ i, 405 ≤ i → Y 14 i = X 14 i)
theorem md_rf (X : ab_XX) : md X X := ⟨fun _ _ _ => rfl, fun _ _ => rfl, fun _ _ => rfl⟩
theorem md_tr {X Y Z : ab_XX} (h1 : md X Y) (h2 : md Y Z) : md X Z := ⟨fun o a b => (h2.1 o a b).trans (h1.1 o a b), fun j a => (h2.2.1 j a).trans (h1.2.1 j a), fun i a => (h2.2.2 i a).trans (h1.2.2 i a)⟩
theorem md_s11 {X Y : ab_XX} (h : s11 X Y) : md X Y := by
  obtain ⟨d, rfl⟩ := h
  exact ⟨fun o a _ => p_up_ne _ _ _ _ _ a, fun j a => p_up_df _ _ _ _ _ a, fun i _ => by rw [p_up_ne _ _ _ _ _ (by decide)]⟩
theorem c_mkRound : ∀ (m k : Nat) (u : Nat → Nat) (Y : ab_XX) (c : Nat) (a1 : Int32), VV u → VB u → RC (Y 3) u → k + m = u 0 → m < c → ∃ f, L_C_makeRound_10 c Y a1 (nI k) = some (nI (rdl m k u 2) - a1, fun o => if o = 3 then f else Y o) ∧ RC f (rdl m k u) := by
  intro m
  induction m with
  | zero =>
    intro k u Y c a1 hV hb8 hR hk hc
    have hB := hV.1
    cases c with
    | zero => omega
    | succ c =>
      refine ⟨Y 3, ?_, hR⟩
      rw [L_C_makeRound_10, c_workerTotal hR, Option.bind_some, if_pos (nI_le (by omega) (by omega)), c_awardTotal hR, Option.bind_some]
      congr 2
      funext o
      by_cases ho : o = 3
      · subst ho; rfl
      · rw [if_neg ho]
  | succ m ih =>
    intro k u Y c a1 hV hb8 hR hk hc
    have hB := hV.1
    cases c with
    | zero => omega
    | succ c =>
      obtain ⟨w, e, hw, hV2, h82, e0, hcs⟩ := rst_ok hV hb8 (by omega : k < u 0)
      rw [L_C_makeRound_10, c_workerTotal hR, Option.bind_some, if_neg (nI_ge (by omega) (by omega)), c_workerAtRank hR hV (by omega), e, Option.bind_some, show cI (some w) = nI w from rfl, c_choiceOf hR hV hw, Option.bind_some, nI_add]
      rcases hcs with ⟨z1, z2⟩ | ⟨s, z1, hs, h48, z2⟩
      · rw [z1, if_pos (show cI none = -1 from rfl)]
        have := ih (k + 1) u Y c a1 hV hb8 hR (by omega) (by omega)
        show ∃ f, _ = some (nI (rdl m (k + 1) (rst u k) 2) - a1, _) ∧ RC f (rdl m (k + 1) (rst u k))
        rw [z2]
        exact this
      · have hne : ¬ cI (some s) = -1 := fun z => by
          have := (cI_neg (some s) (fun w hw => by cases hw; omega)).mp z
          cases this
        rw [z1, if_neg hne, show cI (some s) = nI s from rfl]
        obtain ⟨f, eE, hf⟩ := c_enterAward hR h48 w s
        rw [eE, b3_s]
        rw [← z2] at hf
        obtain ⟨f2, e2, hf2⟩ := ih (k + 1) (rst u k) (fun o => if o = 3 then f else Y o) c a1 hV2 h82 hf (by omega) (by omega)
        refine ⟨f2, ?_, hf2⟩
        rw [e2]
        congr 2
        funext o
        by_cases ho : o = 3
        · subst ho; rfl
        · rw [if_neg ho, if_neg ho, if_neg ho]
theorem m_mkRound : ∀ (m k a : Nat) (u : Nat → Nat) (Y : ab_XX) (c : Nat), VV u → VB u → RM (Y 14) u → k + m = u 0 → m < c → ∃ Z, L_M_rounds_4 c Y (nI a) (nI k) = some (nI (a + (rdl m k u 2 - u 2)), Z) ∧ md Y Z ∧ RM (Z 14) (rdl m k u) := by
  intro m
  induction m with
  | zero =>
    intro k a u Y c hV hb8 g hk hc
    have hB := hV.1
    cases c with
    | zero => omega
    | succ c =>
      refine ⟨Y, ?_, md_rf Y, g⟩
      rw [L_M_rounds_4, m_workers g, Option.bind_some, if_pos (nI_le (by omega) (by omega))]
      congr 3
      show a = a + (u 2 - u 2)
      omega
  | succ m ih =>
    intro k a u Y c hV hb8 g hk hc
    have hB := hV.1
    cases c with
    | zero => omega
    | succ c =>
      obtain ⟨w, e, hw, hV2, h82, e0, hcs⟩ := rst_ok hV hb8 (by omega : k < u 0)
      obtain ⟨Y1, hY1, eY1⟩ := m_choice g hV hw
      have g1 := s11_RM hY1 g
      rw [L_M_rounds_4, m_workers g, Option.bind_some, if_neg (nI_ge (by omega) (by omega)), m_atRank g hV (by omega), e, Option.bind_some, show cI (some w) = nI w from rfl, eY1, b3_s, nI_add, nI_add]
      rcases hcs with ⟨z1, z2⟩ | ⟨s, z1, hs, h48, z2⟩
      · rw [z1, if_neg (show ¬ nI 0 ≤ cI none by decide)]
        obtain ⟨Z, eZ, y1, y2⟩ := ih (k + 1) a u Y1 c hV hb8 g1 (by omega) (by omega)
        show ∃ Z : ab_XX, _ = some (nI (a + (rdl m (k + 1) (rst u k) 2 - u 2)), Z) ∧ _ ∧ RM (Z 14) (rdl m (k + 1) (rst u k))
        rw [z2]
        exact ⟨Z, eZ, md_tr (md_s11 hY1) y1, y2⟩
      · rw [z1, if_pos (show nI 0 ≤ cI (some s) from nI_le (Nat.zero_le _) (by omega)), show cI (some s) = nI s from rfl, m_gives g1 h48, b3_s]
        have g2 := RM_na hV g1 h48 w s
        rw [← z2] at g2
        obtain ⟨Z, eZ, y1, y2⟩ := ih (k + 1) (a + 1) (rst u k) (fun o => if o = 14 then gna (Y1 14) (u 2) w s else Y1 o) c hV2 h82 g2 (by omega) (by omega)
        refine ⟨Z, ?_, md_tr (md_tr (md_s11 hY1) ⟨fun o _ b => if_neg b, fun j _ => rfl, fun i hi => gna_o (by omega) (by omega)⟩) y1, y2⟩
        rw [eZ]
        congr 3
        show a + 1 + (rdl m (k + 1) (rst u k) 2 - rst u k 2) = a + (rdl m (k + 1) (rst u k) 2 - u 2)
        have h1 := (rdl_ok m (k + 1) (rst u k) hV2 h82 (by omega)).2.2.2
        have h2 : rst u k 2 = u 2 + 1 := by rw [z2, vna_2]
        omega
def rd (v : Nat → Nat) : Nat → Nat := rdl (v 0) 0 v
theorem rd_ok {v : Nat → Nat} (hV : VV v) (hb8 : VB v) : VV (rd v) ∧ VB (rd v) ∧ rd v 0 = v 0 ∧ v 2 ≤ rd v 2 := rdl_ok (v 0) 0 v hV hb8 (Nat.zero_add _)
theorem c_round {Y : ab_XX} {v : Nat → Nat} (hV : VV v) (hb8 : VB v) (h : RC (Y 3) v) : ∃ f, F_C_makeRound Y = some (nI (rd v 2 - v 2), fun o => if o = 3 then f else Y o) ∧ RC f (rd v) := by
  have hB := hV.1
  obtain ⟨f, e, hf⟩ := c_mkRound (v 0) 0 v Y ab_fu (nI (v 2)) hV hb8 h (Nat.zero_add _) (by unfold ab_fu; omega)
  refine ⟨f, ?_, hf⟩
  unfold F_C_makeRound
  rw [c_awardTotal h, Option.bind_some, e]
  show some (nI (rd v 2) - nI (v 2), _) = _
  rw [p_sub (rd_ok hV hb8).2.2.2]
theorem m_round {Y : ab_XX} {v : Nat → Nat} (hV : VV v) (hb8 : VB v) (g : RM (Y 14) v) : ∃ Z, F_M_rounds Y = some (nI (rd v 2 - v 2), Z) ∧ md Y Z ∧ RM (Z 14) (rd v) := by
  have hB := hV.1
  obtain ⟨Z, e, h⟩ := m_mkRound (v 0) 0 0 v Y ab_fu hV hb8 g (Nat.zero_add _) (by unfold ab_fu; omega)
  refine ⟨Z, ?_, h⟩
  unfold F_M_rounds
  rw [e, Nat.zero_add]
  rfl
/-- rounds until one gives nothing -/
def ra : Nat → (Nat → Nat) → (Nat → Nat)
  | 0, v => v
  | n + 1, v => if rd v 2 - v 2 = 0 then rd v else ra n (rd v)
theorem c_ra : ∀ (m : Nat) (u : Nat → Nat) (Y : ab_XX) (c : Nat) (a1 : Int32) (i : Nat), VV u → VB u → RC (Y 3) u → 49 ≤ m + u 2 → m < c → i ≤ u 2 → ∃ f, L_C_runAll_24 c Y a1 (nI i) = some (nI (ra m u 2) - a1, fun o => if o = 3 then f else Y o) ∧ RC f (ra m u) ∧ VV (ra m u) ∧ VB (ra m u) ∧ u 2 ≤ ra m u 2 := by
  intro m
  induction m with
  | zero => intro u Y c a1 i hV hb8 hR hm hc hi; have hB := hV.1; omega
  | succ m ih =>
    intro u Y c a1 i hV hb8 hR hm hc hi
    have hB := hV.1
    cases c with
    | zero => omega
    | succ c =>
      obtain ⟨f, e, hf⟩ := c_round (Y := Y) hV hb8 hR
      obtain ⟨hV2, h82, e0, hle⟩ := rd_ok hV hb8
      have hB2 := hV2.1
      rw [L_C_runAll_24, if_neg (nI_nlt (by omega) (by omega)), e, b3_s]
      show ∃ f, _ = some (nI ((if rd u 2 - u 2 = 0 then rd u else ra m (rd u)) 2) - a1, _) ∧ RC f (if rd u 2 - u 2 = 0 then rd u else ra m (rd u)) ∧ VV (if rd u 2 - u 2 = 0 then rd u else ra m (rd u)) ∧ VB (if rd u 2 - u 2 = 0 then rd u else ra m (rd u)) ∧ u 2 ≤ (if rd u 2 - u 2 = 0 then rd u else ra m (rd u)) 2
      by_cases h0 : rd u 2 - u 2 = 0
      · have hf2 : RC ((fun o => if o = 3 then f else Y o : ab_XX) 3) (rd u) := hf
        rw [if_pos h0, if_pos (by rw [h0]), c_awardTotal (X := fun o => if o = 3 then f else Y o) hf2, Option.bind_some]
        exact ⟨f, rfl, hf, hV2, h82, hle⟩
      · rw [if_neg h0, if_neg (fun z => h0 ((nI_eq (by omega) (by decide)).mp z)), nI_add]
        obtain ⟨f2, e2, hf2, v2, v8, l2⟩ := ih (rd u) (fun o => if o = 3 then f else Y o) c a1 (i + 1) hV2 h82 hf (by omega) (by omega) (by omega)
        refine ⟨f2, ?_, hf2, v2, v8, Nat.le_trans hle l2⟩
        rw [e2]
        congr 2
        funext o
        by_cases ho : o = 3
        · subst ho; rfl
        · rw [if_neg ho, if_neg ho, if_neg ho]
theorem m_ra : ∀ (m : Nat) (u : Nat → Nat) (Y : ab_XX) (c a : Nat), VV u → VB u → RM (Y 14) u → 49 ≤ m + u 2 → m < c → ∃ Z, (ab_b3 (F_M_rounds Y) (fun v1443 X1444 => L_M_runAll_16 c X1444 (nI a) v1443)) = some (nI (a + (ra m u 2 - u 2)), Z) ∧ md Y Z ∧ RM (Z 14) (ra m u) := by
  intro m
  induction m with
  | zero => intro u Y c a hV hb8 g hm hc; have hB := hV.1; omega
  | succ m ih =>
    intro u Y c a hV hb8 g hm hc
    have hB := hV.1
    cases c with
    | zero => omega
    | succ c =>
      obtain ⟨Y1, e, y1, g1⟩ := m_round (Y := Y) hV hb8 g
      obtain ⟨hV2, h82, e0, hle⟩ := rd_ok hV hb8
      have hB2 := hV2.1
      rw [e, b3_s, L_M_runAll_16]
      show ∃ Z : ab_XX, _ = some (nI (a + ((if rd u 2 - u 2 = 0 then rd u else ra m (rd u)) 2 - u 2)), Z) ∧ _ ∧ RM (Z 14) (if rd u 2 - u 2 = 0 then rd u else ra m (rd u))
      by_cases h0 : rd u 2 - u 2 = 0
      · rw [if_pos h0, if_pos (by rw [h0]; exact nI_le (Nat.le_refl _) (by decide)), h0]
        exact ⟨Y1, rfl, y1, g1⟩
      · rw [if_neg h0, if_neg (nI_ge (by omega) (by omega)), nI_add]
        obtain ⟨Z, eZ, y2, g2⟩ := ih (rd u) Y1 c (a + (rd u 2 - u 2)) hV2 h82 g1 (by omega) (by omega)
        have hl : rd u 2 ≤ ra m (rd u) 2 := by
          obtain ⟨_, _, _, _, _, l⟩ := c_ra m (rd u) (fun o j => if o = 3 then nI (rd u j) else nI 0) (m + 1) (nI 0) 0 hV2 h82 (fun j _ => rfl) (by omega) (by omega) (by omega)
          exact l
        refine ⟨Z, ?_, md_tr y1 y2, g2⟩
        rw [eZ]
        congr 3
        omega
