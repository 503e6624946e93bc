/-! ===== PURE: an item is carried out, on both sides ===== -/
theorem isWk_eq {X Y : ab_XX} {v : Nat → Nat} (h : RC (X 3) v) (h2 : RC (Y 3) v) (a : Int32) : F_K_isWorker Y a = F_K_isWorker X a := by
  unfold F_K_isWorker
  rw [c_0 h, c_0 h2]
theorem isSh_eq {X Y : ab_XX} {v : Nat → Nat} (h : RC (X 3) v) (h2 : RC (Y 3) v) (a : Int32) : F_K_isShift Y a = F_K_isShift X a := by
  unfold F_K_isShift
  rw [c_1 h, c_1 h2]
def itC (v : Nat → Nat) (c : Int32) (D : Nat → Int32) (r : Option (Nat → Nat)) : Prop := ∀ (Y : ab_XX) (k : Nat), k < 12 → RC (Y 3) v → Y 8 k = c → (∀ j, j < am c → Y 9 (5 * k + j) = D j) → match r with
  | none => F_C_carryOut Y (nI k) = some (nI 0, Y)
  | some u => ∃ f, F_C_carryOut Y (nI k) = some (nI 1, fun o => if o = 3 then f else Y o) ∧ RC f u
def itM (v : Nat → Nat) (c : Int32) (D : Nat → Int32) (r : Option (Nat → Nat)) : Prop := ∀ (Z : ab_XX) (k : Nat), k < 12 → RM (Z 14) v → Z 16 (6 * k) = kc c → (∀ j, j < am c → Z 16 (6 * k + 1 + j) = D j) → match r with
  | none => F_M_isDone Z (nI k) = some (nI 0, Z)
  | some u => ∃ g, F_M_isDone Z (nI k) = some (nI 1, fun o => if o = 14 then g else Z o) ∧ RM g u ∧ ∀ i, 405 ≤ i → g i = Z 14 i
theorem c_carry {Y : ab_XX} {k : Nat} (hk : k < 12) {β : Type} (G : Int32 → Int32 → Int32 → Int32 → Int32 → Int32 → Option β) : ((F_T_number Y (nI k) (nI 0)).bind fun v270 => (F_T_number Y (nI k) (nI 1)).bind fun v271 => (F_T_number Y (nI k) (nI 2)).bind fun v272 => (F_T_number Y (nI k) (nI 3)).bind fun v273 => (F_T_number Y (nI k) (nI 4)).bind fun v274 => (F_T_kind Y (nI k)).bind fun v276 => G v270 v271 v272 v273 v274 v276) = G (Y 9 (5 * k + 0)) (Y 9 (5 * k + 1)) (Y 9 (5 * k + 2)) (Y 9 (5 * k + 3)) (Y 9 (5 * k + 4)) (Y 8 k) := by
  rw [c_number hk (by decide), Option.bind_some, c_number hk (by decide), Option.bind_some, c_number hk (by decide), Option.bind_some, c_number hk (by decide), Option.bind_some, c_number hk (by decide), Option.bind_some, c_kind hk, Option.bind_some]
theorem it_shift {v : Nat → Nat} (hV : VV v) (hb8 : VB v) (D : Nat → Int32) : ∃ r : Option (Nat → Nat), (∀ u, r = some u → VV u ∧ VB u) ∧ itC v (nI 115) D r ∧ itM v (nI 115) D r := by
  have hB := hV.1
  rcases sr_cs (D 0) (D 1) (D 2) (D 3) (D 4) with ⟨d, h, l, k, ne, q1, q2, q3, q4, q5, q6, q7, z0, z1, z2, z3, z4, e1, e2⟩ | ⟨e1, e2⟩
  · by_cases h16 : v 1 = 16
    · refine ⟨none, (fun u z => by cases z), fun Y k2 hk2 hR h8 h9 => ?_, fun Z k2 hk2 g h0 hj => ?_⟩
      · show F_C_carryOut Y (nI k2) = some (nI 0, Y)
        unfold F_C_carryOut
        rw [c_carry hk2, h8, h9 0 (by decide), h9 1 (by decide), h9 2 (by decide), h9 3 (by decide), h9 4 (by decide), if_pos rfl, e1, Option.bind_some, if_neg n10]
        unfold F_K_hasRoomForShift
        rw [c_1 hR, h16, if_pos (nI_le (Nat.le_refl _) (by decide)), Option.bind_some, if_pos rfl]
      · show F_M_isDone Z (nI k2) = some (nI 0, Z)
        have j0 := hj 0 (by decide)
        have j1 := hj 1 (by decide)
        have j2 := hj 2 (by decide)
        have j3 := hj 3 (by decide)
        have j4 := hj 4 (by decide)
        simp only [Nat.add_assoc, Nat.reduceAdd, Nat.add_zero] at j0 j1 j2 j3 j4
        rw [m_done_s hk2 (by rw [h0, kc_115]), j0, j1, j2, j3, j4, e2, m_shifts g, h16, Option.bind_some, if_pos rfl, Option.bind_some, if_neg n20]
    · have hlt : v 1 < 16 := by omega
      have hV2 := VV_ns hV hlt q1 q2 q3 q4 q5 q6 q7
      refine ⟨some (vns v d h l k ne), fun u z => by cases z; exact ⟨hV2, VB_ns hV hlt hb8 hV2⟩, fun Y k2 hk2 hR h8 h9 => ?_, fun Z k2 hk2 g h0 hj => ?_⟩
      · show ∃ f, F_C_carryOut Y (nI k2) = some (nI 1, fun o => if o = 3 then f else Y o) ∧ RC f (vns v d h l k ne)
        obtain ⟨f, eE, hf⟩ := c_enterShift (h := h) (l := l) (k := k) (ne := ne) hR hlt (by omega : d < 28)
        refine ⟨f, ?_, hf⟩
        unfold F_C_carryOut
        rw [c_carry hk2, h8, h9 0 (by decide), h9 1 (by decide), h9 2 (by decide), h9 3 (by decide), h9 4 (by decide), if_pos rfl, e1, Option.bind_some, if_neg n10]
        unfold F_K_hasRoomForShift
        rw [c_1 hR, if_neg (nI_ge hlt (by decide)), Option.bind_some, if_neg n10, z0, z1, z2, z3, z4, eE, b3_s]
      · show ∃ g2, F_M_isDone Z (nI k2) = some (nI 1, fun o => if o = 14 then g2 else Z o) ∧ RM g2 (vns v d h l k ne) ∧ ∀ i, 405 ≤ i → g2 i = Z 14 i
        refine ⟨gns (Z 14) (v 1) d h l k ne, ?_, RM_ns hV g hlt d h l k ne, fun i hi => gns_o (by omega) (by omega)⟩
        have j0 := hj 0 (by decide)
        have j1 := hj 1 (by decide)
        have j2 := hj 2 (by decide)
        have j3 := hj 3 (by decide)
        have j4 := hj 4 (by decide)
        simp only [Nat.add_assoc, Nat.reduceAdd, Nat.add_zero] at j0 j1 j2 j3 j4
        rw [m_done_s hk2 (by rw [h0, kc_115]), j0, j1, j2, j3, j4, e2, m_shifts g, Option.bind_some, if_neg (fun z => h16 ((nI_eq (by omega) (by decide)).mp z)), Option.bind_some, if_pos rfl, z0, z1, z2, z3, z4, m_opensShift g hlt, b3_s, if_neg (nI_nlt (Nat.zero_le _) (by omega))]
  · refine ⟨none, (fun u z => by cases z), fun Y k2 hk2 hR h8 h9 => ?_, fun Z k2 hk2 g h0 hj => ?_⟩
    · show F_C_carryOut Y (nI k2) = some (nI 0, Y)
      unfold F_C_carryOut
      rw [c_carry hk2, h8, h9 0 (by decide), h9 1 (by decide), h9 2 (by decide), h9 3 (by decide), h9 4 (by decide), if_pos rfl, e1, Option.bind_some, if_pos rfl]
    · show F_M_isDone Z (nI k2) = some (nI 0, Z)
      have j0 := hj 0 (by decide)
      have j1 := hj 1 (by decide)
      have j2 := hj 2 (by decide)
      have j3 := hj 3 (by decide)
      have j4 := hj 4 (by decide)
      simp only [Nat.add_assoc, Nat.reduceAdd, Nat.add_zero] at j0 j1 j2 j3 j4
      rw [m_done_s hk2 (by rw [h0, kc_115]), j0, j1, j2, j3, j4, e2, Option.bind_some, if_neg n10]
theorem it_worker {v : Nat → Nat} (hV : VV v) (hb8 : VB v) (D : Nat → Int32) : ∃ r : Option (Nat → Nat), (∀ u, r = some u → VV u ∧ VB u) ∧ itC v (nI 119) D r ∧ itM v (nI 119) D r := by
  have hB := hV.1
  have n195 : ¬ nI 119 = nI 115 := by decide
  rcases wr_cs (D 0) (D 1) (D 2) (D 3) (D 4) with ⟨d, h, l, k, ne, q1, q2, q3, q4, q5, z0, z1, z2, z3, z4, e1, e2⟩ | ⟨e1, e2⟩
  · by_cases h16 : v 0 = 10
    · refine ⟨none, (fun u z => by cases z), fun Y k2 hk2 hR h8 h9 => ?_, fun Z k2 hk2 g h0 hj => ?_⟩
      · show F_C_carryOut Y (nI k2) = some (nI 0, Y)
        unfold F_C_carryOut
        rw [c_carry hk2, h8, h9 0 (by decide), h9 1 (by decide), h9 2 (by decide), h9 3 (by decide), h9 4 (by decide), if_neg n195, if_pos rfl, e1, Option.bind_some, if_neg n10]
        unfold F_K_hasRoomForWorker
        rw [c_0 hR, h16, if_pos (nI_le (Nat.le_refl _) (by decide)), Option.bind_some, if_pos rfl]
      · show F_M_isDone Z (nI k2) = some (nI 0, Z)
        have j0 := hj 0 (by decide)
        have j1 := hj 1 (by decide)
        have j2 := hj 2 (by decide)
        have j3 := hj 3 (by decide)
        have j4 := hj 4 (by decide)
        simp only [Nat.add_assoc, Nat.reduceAdd, Nat.add_zero] at j0 j1 j2 j3 j4
        rw [m_done_w hk2 (by rw [h0, kc_119]), j0, j1, j2, j3, j4, e2, m_workers g, h16, Option.bind_some, if_pos rfl, Option.bind_some, if_neg n20]
    · have hlt : v 0 < 10 := by omega
      have hV2 := VV_nw hV hlt q1 q2 q3 q4 q5
      refine ⟨some (vnw v d h l k ne), fun u z => by cases z; exact ⟨hV2, VB_nw hV hlt hb8 hV2⟩, fun Y k2 hk2 hR h8 h9 => ?_, fun Z k2 hk2 g h0 hj => ?_⟩
      · show ∃ f, F_C_carryOut Y (nI k2) = some (nI 1, fun o => if o = 3 then f else Y o) ∧ RC f (vnw v d h l k ne)
        obtain ⟨f, eE, hf⟩ := c_enterWorker hR hlt d h l k ne
        refine ⟨f, ?_, hf⟩
        unfold F_C_carryOut
        rw [c_carry hk2, h8, h9 0 (by decide), h9 1 (by decide), h9 2 (by decide), h9 3 (by decide), h9 4 (by decide), if_neg n195, if_pos rfl, e1, Option.bind_some, if_neg n10]
        unfold F_K_hasRoomForWorker
        rw [c_0 hR, if_neg (nI_ge hlt (by decide)), Option.bind_some, if_neg n10, z0, z1, z2, z3, z4, eE, b3_s]
      · show ∃ g2, F_M_isDone Z (nI k2) = some (nI 1, fun o => if o = 14 then g2 else Z o) ∧ RM g2 (vnw v d h l k ne) ∧ ∀ i, 405 ≤ i → g2 i = Z 14 i
        refine ⟨gnw (Z 14) (v 0) d h l k ne 16, ?_, RM_nw hV g hlt d h l k ne, fun i hi => gnw_o (by omega) (by omega) (by omega)⟩
        have j0 := hj 0 (by decide)
        have j1 := hj 1 (by decide)
        have j2 := hj 2 (by decide)
        have j3 := hj 3 (by decide)
        have j4 := hj 4 (by decide)
        simp only [Nat.add_assoc, Nat.reduceAdd, Nat.add_zero] at j0 j1 j2 j3 j4
        rw [m_done_w hk2 (by rw [h0, kc_119]), j0, j1, j2, j3, j4, e2, m_workers g, Option.bind_some, if_neg (fun z => h16 ((nI_eq (by omega) (by decide)).mp z)), Option.bind_some, if_pos rfl, z0, z1, z2, z3, z4, m_opensWorker g hlt, b3_s, if_neg (nI_nlt (Nat.zero_le _) (by omega))]
  · refine ⟨none, (fun u z => by cases z), fun Y k2 hk2 hR h8 h9 => ?_, fun Z k2 hk2 g h0 hj => ?_⟩
    · show F_C_carryOut Y (nI k2) = some (nI 0, Y)
      unfold F_C_carryOut
      rw [c_carry hk2, h8, h9 0 (by decide), h9 1 (by decide), h9 2 (by decide), h9 3 (by decide), h9 4 (by decide), if_neg n195, if_pos rfl, e1, Option.bind_some, if_pos rfl]
    · show F_M_isDone Z (nI k2) = some (nI 0, Z)
      have j0 := hj 0 (by decide)
      have j1 := hj 1 (by decide)
      have j2 := hj 2 (by decide)
      have j3 := hj 3 (by decide)
      have j4 := hj 4 (by decide)
      simp only [Nat.add_assoc, Nat.reduceAdd, Nat.add_zero] at j0 j1 j2 j3 j4
      rw [m_done_w hk2 (by rw [h0, kc_119]), j0, j1, j2, j3, j4, e2, Option.bind_some, if_neg n10]
theorem it_bid {v : Nat → Nat} (hV : VV v) (hb8 : VB v) (D : Nat → Int32) : ∃ r : Option (Nat → Nat), (∀ u, r = some u → VV u ∧ VB u) ∧ itC v (nI 98) D r ∧ itM v (nI 98) D r := by
  have hB := hV.1
  have n985 : ¬ nI 98 = nI 115 := by decide
  have n989 : ¬ nI 98 = nI 119 := by decide
  have h8 : ∀ w, w < v 0 → bt v w ≤ 8 := fun w hw => bt_bd hV hb8 hw
  obtain ⟨X0, hX0⟩ : ∃ X0 : ab_XX, RC (X0 3) v := ⟨fun _ j => nI (v j), fun j _ => rfl⟩
  have refC : ∀ (w1 : Int32), F_K_isPair X0 (D 0) (D 1) = some w1 → (w1 = nI 0 ∨ (w1 = nI 1 ∧ F_K_isBidInRange (D 2) = some (nI 0)) ∨ (w1 = nI 1 ∧ F_K_isBidInRange (D 2) = some (nI 1) ∧ ∀ Y : ab_XX, RC (Y 3) v → F_K_hasRoomForBid Y (D 0) (D 1) (D 2) = some (nI 0))) → itC v (nI 98) D none := fun w1 p1 p2 Y k2 hk2 hR h8 h9 => by
    show F_C_carryOut Y (nI k2) = some (nI 0, Y)
    have ep : F_K_isPair Y (D 0) (D 1) = some w1 := by
      rw [← p1]
      unfold F_K_isPair
      rw [isWk_eq hX0 hR, isSh_eq hX0 hR]
    unfold F_C_carryOut
    rw [c_carry hk2, h8, h9 0 (by decide), h9 1 (by decide), h9 2 (by decide), if_neg n985, if_neg n989, ep, Option.bind_some]
    rcases p2 with p2 | ⟨p2, p3⟩ | ⟨p2, p3, p4⟩
    · rw [if_pos p2]
    · rw [p2, if_neg n10, p3, Option.bind_some, if_pos rfl]
    · rw [p2, if_neg n10, p3, Option.bind_some, if_neg n10, p4 Y hR, Option.bind_some, if_pos rfl]
  have refM : (∀ Z : ab_XX, RM (Z 14) v → ∃ x, F_M_bidThrown Z (D 0) (D 1) (D 2) = some x ∧ ¬ x = nI 0) → itM v (nI 98) D none := fun p Z k2 hk2 g h0 hj => by
    show F_M_isDone Z (nI k2) = some (nI 0, Z)
    obtain ⟨x, p1, p2⟩ := p Z g
    have j0 := hj 0 (by decide)
    have j1 := hj 1 (by decide)
    have j2 := hj 2 (by decide)
    simp only [Nat.add_assoc, Nat.reduceAdd, Nat.add_zero] at j0 j1 j2
    rw [m_done_b hk2 (by rw [h0, kc_98]), j0, j1, j2, p1, Option.bind_some, if_neg p2]
  rcases wk_cs hX0 hV (D 0) with ⟨w, hw, z0, e1, _, e2⟩ | ⟨e1, _, e2⟩
  · rcases sh_cs hX0 hV (D 1) with ⟨s, hs, z1, f1, _, f2⟩ | ⟨f1, _, f2⟩
    · have ep : F_K_isPair X0 (D 0) (D 1) = some (nI 1) := by
        unfold F_K_isPair
        rw [e1, Option.bind_some, if_neg n10, f1, Option.bind_some, if_neg n10]
      rcases in_cs (D 2) 0 9 (by decide) (by decide) with ⟨p, _, hp, z2, g1, g2⟩ | ⟨g1, g2⟩
      · have eR : F_K_isBidInRange (D 2) = some (nI 1) := by
          unfold F_K_isBidInRange
          rw [g2]
          rfl
        have eM : ∀ Z : ab_XX, RM (Z 14) v → F_M_bidThrown Z (D 0) (D 1) (D 2) = some (nI (if p = 0 ∨ bd v w s ≠ 0 ∨ bt v w < 8 then 0 else 3)) := fun Z gZ => by
          have a1 := e2 Z gZ
          have a2 := f2 Z gZ
          rw [z0] at a1
          rw [z1] at a2
          rw [z2] at g1
          rw [z0, z1, z2]
          exact m_bidThr hV gZ h8 hw hs hp a1 a2 g1
        have eC : ∀ Y : ab_XX, RC (Y 3) v → F_K_hasRoomForBid Y (D 0) (D 1) (D 2) = some (nI (if p = 0 ∨ bd v w s ≠ 0 ∨ bt v w < 8 then 1 else 0)) := fun Y hR => by
          rw [z0, z1, z2]
          exact c_bidRoom hV hR h8 hw hs hp
        by_cases q : p = 0 ∨ bd v w s ≠ 0 ∨ bt v w < 8
        · have h9 := (hV.2.2.2.1 w s (by omega) (by omega)).1
          refine ⟨some (uv v (197 + w * 16 + s) p), fun u z => by cases z; exact ⟨VV_bid hV hw hs hp, VB_bid hV hb8 hw hs hp q⟩, fun Y k2 hk2 hR h8 h9 => ?_, fun Z k2 hk2 g h0 hj => ?_⟩
          · show ∃ f, F_C_carryOut Y (nI k2) = some (nI 1, fun o => if o = 3 then f else Y o) ∧ RC f (uv v (197 + w * 16 + s) p)
            refine ⟨upd (Y 3) (197 + w * 16 + s) (nI p), ?_, RC_upd hR _ _⟩
            have ep2 : F_K_isPair Y (D 0) (D 1) = some (nI 1) := by
              rw [← ep]
              unfold F_K_isPair
              rw [isWk_eq hX0 hR, isSh_eq hX0 hR]
            have eE : F_K_enterBid Y (nI w) (nI s) (nI p) = some (nI (bd v w s), ab_up Y 3 (197 + w * 16 + s) (nI p)) := by
              unfold F_K_enterBid
              rw [c_pointsFor hR (by omega) (by omega), Option.bind_some, p_mul, nI_add, nI_add, c_put _ (by omega), b3_s]
            unfold F_C_carryOut
            rw [c_carry hk2, h8, h9 0 (by decide), h9 1 (by decide), h9 2 (by decide), if_neg n985, if_neg n989, ep2, Option.bind_some, if_neg n10, eR, Option.bind_some, if_neg n10, eC Y hR, if_pos q, Option.bind_some, if_neg n10, z0, z1, z2, eE, b3_s]
            congr 2
          · show ∃ g2, F_M_isDone Z (nI k2) = some (nI 1, fun o => if o = 14 then g2 else Z o) ∧ RM g2 (uv v (197 + w * 16 + s) p) ∧ ∀ i, 405 ≤ i → g2 i = Z 14 i
            refine ⟨upd (Z 14) (148 + 16 * w + s) (nI p), ?_, RM_bid hV g hw hs, fun i hi => upd_ne _ (by omega)⟩
            have j0 := hj 0 (by decide)
            have j1 := hj 1 (by decide)
            have j2 := hj 2 (by decide)
            simp only [Nat.add_assoc, Nat.reduceAdd, Nat.add_zero] at j0 j1 j2
            have eL : F_M_laysBid Z (nI w) (nI s) (nI p) = some (nI (bd v w s), ab_up Z 14 (148 + 16 * w + s) (nI p)) := by
              unfold F_M_laysBid
              rw [m_bidOf g hw hB.1 (by omega), Option.bind_some, p_mul, nI_add, nI_add, if_pos (p_in (by omega) (by decide)), nI_clamp (by omega), Option.bind_some]
            rw [m_done_b hk2 (by rw [h0, kc_98]), j0, j1, j2, eM Z g, if_pos q, Option.bind_some, if_pos rfl, z0, z1, z2, eL, b3_s, if_neg (nI_nlt (Nat.zero_le _) (by omega))]
            congr 2
        · refine ⟨none, (fun u z => by cases z), refC (nI 1) ep (.inr (.inr ⟨rfl, eR, fun Y hR => by rw [eC Y hR, if_neg q]⟩)), refM (fun Z gZ => ⟨nI 3, by rw [eM Z gZ, if_neg q], by decide⟩)⟩
      · have eR : F_K_isBidInRange (D 2) = some (nI 0) := by
          unfold F_K_isBidInRange
          rw [g2]
          rfl
        refine ⟨none, (fun u z => by cases z), refC (nI 1) ep (.inr (.inl ⟨rfl, eR⟩)), refM (fun Z gZ => ⟨nI 2, ?_, by decide⟩)⟩
        unfold F_M_bidThrown
        rw [e2 Z gZ, Option.bind_some, if_neg n10, f2 Z gZ, Option.bind_some, if_neg n10, g1, Option.bind_some, if_pos rfl]
    · refine ⟨none, (fun u z => by cases z), refC (nI 0) ?_ (.inl rfl), refM (fun Z gZ => ⟨nI 1, ?_, by decide⟩)⟩
      · unfold F_K_isPair
        rw [e1, Option.bind_some, if_neg n10, f1, Option.bind_some, if_pos rfl]
      · unfold F_M_bidThrown
        rw [e2 Z gZ, Option.bind_some, if_neg n10, f2 Z gZ, Option.bind_some, if_pos rfl]
  · refine ⟨none, (fun u z => by cases z), refC (nI 0) ?_ (.inl rfl), refM (fun Z gZ => ⟨nI 1, ?_, by decide⟩)⟩
    · unfold F_K_isPair
      rw [e1, Option.bind_some, if_pos rfl]
    · unfold F_M_bidThrown
      rw [e2 Z gZ, Option.bind_some, if_pos rfl]
theorem it_any {v : Nat → Nat} (hV : VV v) (hb8 : VB v) {c : Int32} (hc : am c ≠ 0) (D : Nat → Int32) : ∃ r : Option (Nat → Nat), (∀ u, r = some u → VV u ∧ VB u) ∧ itC v c D r ∧ itM v c D r := by
  by_cases h1 : c = nI 119
  · subst h1; exact it_worker hV hb8 D
  · by_cases h2 : c = nI 115
    · subst h2; exact it_shift hV hb8 D
    · by_cases h3 : c = nI 98
      · subst h3; exact it_bid hV hb8 D
      · exact absurd (am_no h1 h2 h3) hc
