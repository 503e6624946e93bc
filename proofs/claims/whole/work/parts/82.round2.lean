/-! ===== PURE: round, runAll, the calls ===== -/
/-- as op_change, where the reference's scratch (13, 11) may change too -/
theorem op_change_s {X : ab_XX} (hI : Inv X) {nx n : Nat} (hH : HI X nx n) {X1 : ab_XX} (hX1 : ∀ o, o ≠ 3 → X1 o = rmb X 3 nx n o) {k : ab_XX → Option (Int32 × ab_XX)} {b : Int32}
    (hk : ∀ Y : ab_XX, (∀ j, j < 405 → Y 14 j = X 14 j) → ∃ Z, k Y = some (b, Z) ∧ md Y Z ∧ GR (X1 3) (Z 14)) :
    ∃ Z, (ab_b3 (F_M_keeps (ab_up X1 13 0 (nI 0))) (fun _ Y => k Y)) = some (b, Z) ∧ Inv Z ∧ Z 13 0 = nI 0 := by
  obtain ⟨Z, e, h1, h2⟩ := op_change hI hH hX1 (k := fun Y => (k Y).bind fun p => some (p.1, fun o i => if o = 13 ∧ i = 11 then Y 13 11 else p.2 o i)) (b := b) (fun Y y1 _ _ => by
    obtain ⟨Z, z1, ⟨z2, z3, z4⟩, z5⟩ := hk Y y1
    refine ⟨fun o i => if o = 13 ∧ i = 11 then Y 13 11 else Z o i, by rw [z1]; rfl, fun o ho => ?_, fun i hi => ?_, ?_⟩
    · funext i
      by_cases h13 : o = 13
      · subst h13
        by_cases hi : i = 11
        · subst hi
          exact if_pos ⟨rfl, rfl⟩
        · exact (if_neg (fun z => hi z.2)).trans (z3 i hi)
      · exact (if_neg (fun z => h13 z.1)).trans (congrFun (z2 o h13 ho) i)
    · exact (if_neg (fun z => absurd z.1 (by decide))).trans (z4 i hi)
    · have e14 : (fun i => if (14 : Nat) = 13 ∧ i = 11 then Y 13 11 else Z 14 i) = Z 14 := funext fun i => if_neg (fun z => absurd z.1 (by decide))
      show GR (X1 3) (fun i => if (14 : Nat) = 13 ∧ i = 11 then Y 13 11 else Z 14 i)
      rw [e14]
      exact z5)
  cases q : F_M_keeps (ab_up X1 13 0 (nI 0)) with
  | none => rw [q] at e; cases e
  | some p =>
    rw [q] at e
    have e3 : ((k p.2).bind fun r => some (r.1, (fun o i => if o = 13 ∧ i = 11 then p.2 13 11 else r.2 o i : ab_XX))) = some (b, Z) := e
    cases q2 : k p.2 with
    | none => rw [q2] at e3; cases e3
    | some r =>
      rw [q2] at e3
      have e4 : some (r.1, (fun o i => if o = 13 ∧ i = 11 then p.2 13 11 else r.2 o i : ab_XX)) = some (b, Z) := e3
      have e5 : r.1 = b ∧ (fun o i => if o = 13 ∧ i = 11 then p.2 13 11 else r.2 o i : ab_XX) = Z := by
        have := Option.some.inj e4
        exact ⟨congrArg Prod.fst this, congrArg Prod.snd this⟩
      have hs : sm Z r.2 := fun o i hn => by
        rw [← e5.2]
        exact (if_neg (fun z => hn ⟨z.1, .inr z.2⟩)).symm
      refine ⟨r.2, ?_, inv_sm hs h1, ?_⟩
      · show k p.2 = some (b, r.2)
        rw [q2, ← e5.1]
      · rw [← h2, ← e5.2]
        exact (if_neg (fun z => absurd z.2 (by decide))).symm
def OQ (C : Option (Int32 × ab_XX)) (M : ab_XX → Option (Int32 × ab_XX)) : Prop := ∃ a X1 Z, C = some (a, X1) ∧ M X1 = some (a, Z) ∧ Inv Z ∧ Z 13 0 = nI 0
theorem op_round {X : ab_XX} (hI : Inv X) : OQ (F_C_round X) F_M_round := by
  have hI2 := hI
  obtain ⟨⟨v, hV, hb8, h, g⟩, ⟨nx, n, hH⟩, _⟩ := hI2
  have hB := hV.1
  have hH0 := hH
  obtain ⟨hx, hn, a3, a4, _⟩ := hH
  have hR : RC (rmb X 3 nx n 3) v := by rw [rmb_o _ _ _ _ _ (by decide) (by decide)]; exact h
  obtain ⟨f, eE, hf⟩ := c_round (Y := rmb X 3 nx n) hV hb8 hR
  obtain ⟨hV2, h82, _⟩ := rd_ok hV hb8
  obtain ⟨Z, eZ, hZ, hZ0⟩ := op_change_s hI hH0 (X1 := fun o => if o = 3 then f else rmb X 3 nx n o) (fun o ho => if_neg ho) (k := fun Y => ab_b3 (F_M_rounds Y) (fun v1437 X1438 => some (v1437, X1438))) (b := nI (rd v 2 - v 2)) (fun Y hY14 => by
    have gY : RM (Y 14) v := RM_congr hV hY14 g
    obtain ⟨Z, e, z1, z2⟩ := m_round (Y := Y) hV hb8 gY
    exact ⟨Z, by rw [e, b3_s], z1, ⟨rd v, hV2, h82, hf, z2⟩⟩)
  refine ⟨nI (rd v 2 - v 2), fun o => if o = 3 then f else rmb X 3 nx n o, Z, ?_, ?_, hZ, hZ0⟩
  · unfold F_C_round
    rw [h_remember_3 a3 a4 hx hn, b3_s, eE, b3_s]
  · unfold F_M_round
    rw [Option.bind_some]
    exact eZ
theorem op_runAll {X : ab_XX} (hI : Inv X) : OQ (F_C_runAll X) F_M_runAll := by
  have hI2 := hI
  obtain ⟨⟨v, hV, hb8, h, g⟩, ⟨nx, n, hH⟩, _⟩ := hI2
  have hB := hV.1
  have hH0 := hH
  obtain ⟨hx, hn, a3, a4, _⟩ := hH
  have hR : RC (rmb X 3 nx n 3) v := by rw [rmb_o _ _ _ _ _ (by decide) (by decide)]; exact h
  obtain ⟨f, eE, hf, hV2, h82, hle⟩ := c_ra 49 v (rmb X 3 nx n) ab_fu (nI (v 2)) 0 hV hb8 hR (by omega) (by unfold ab_fu; omega) (by omega)
  obtain ⟨Z, eZ, hZ, hZ0⟩ := op_change_s hI hH0 (X1 := fun o => if o = 3 then f else rmb X 3 nx n o) (fun o ho => if_neg ho) (k := fun Y => ab_b3 (F_M_rounds Y) (fun v1441 X1442 => L_M_runAll_16 ab_fu X1442 (nI 0) v1441)) (b := nI (ra 49 v 2 - v 2)) (fun Y hY14 => by
    have gY : RM (Y 14) v := RM_congr hV hY14 g
    obtain ⟨Z, e, z1, z2⟩ := m_ra 49 v Y ab_fu 0 hV hb8 gY (by omega) (by unfold ab_fu; omega)
    exact ⟨Z, by rw [e, Nat.zero_add], z1, ⟨ra 49 v, hV2, h82, hf, z2⟩⟩)
  refine ⟨nI (ra 49 v 2 - v 2), fun o => if o = 3 then f else rmb X 3 nx n o, Z, ?_, ?_, hZ, hZ0⟩
  · unfold F_C_runAll
    rw [h_remember_3 a3 a4 hx hn, b3_s, c_awardTotal hR, Option.bind_some, eE, p_sub hle]
  · unfold F_M_runAll
    rw [Option.bind_some]
    exact eZ
