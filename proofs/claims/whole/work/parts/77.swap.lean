/-! ===== PURE: awards get other workers ===== -/
theorem xob_no {v : Nat → Nat} {w a b o : Nat} (h : (xob v w a b).1 = 0) (ho : o < v 1) (hh : hld v w o = true) (hne : o ≠ a) : sh v o 7 ≤ sh v b 6 ∨ sh v b 7 ≤ sh v o 6 := by
  obtain ⟨_, _, h3⟩ := ob_none h
  refine lwi_no h3 ho ?_
  rw [p_clr_t, hb_w, hh, Bool.true_and, decide_eq_true hne]
/-- some awards (C) get other workers, who each give another of these (e) -/
theorem VV_sw {v u : Nat → Nat} (hV : VV v) (C : Nat → Bool) (e : Nat → Nat) (he : ∀ j, j < 357 → u j = v j) (h1 : ∀ i, i < v 2 → aw u i 1 = aw v i 1) (hn : ∀ i, i < v 2 → C i = false → aw u i 0 = aw v i 0)
    (hc : ∀ i, i < v 2 → C i = true → aw u i 0 < v 0 ∧ e i < v 2 ∧ C (e i) = true ∧ aw v (e i) 0 = aw u i 0 ∧ (xob v (aw u i 0) (aw v (e i) 1) (aw v i 1)).1 = 0)
    (hinj : ∀ i j, C i = true → C j = true → i < v 2 → j < v 2 → aw u i 0 = aw u j 0 → i = j) : VV u := by
  have hB := hV.1
  have e2 : u 2 = v 2 := he 2 (by decide)
  have key : ∀ p q, p < v 2 → q < v 2 → C p = true → C q = false → aw u p 0 = aw v q 0 → sh v (aw v q 1) 7 ≤ sh v (aw v p 1) 6 ∨ sh v (aw v p 1) 7 ≤ sh v (aw v q 1) 6 := fun p q hp hq cp cq hpq => by
    obtain ⟨a1, a2, a3, a4, a5⟩ := hc p hp cp
    refine xob_no a5 (hV.2.2.2.2.1 q hq).2 ((hld_t v _ _).mpr ⟨q, hq, hpq.symm, rfl⟩) (fun z => ?_)
    have hne : q ≠ e p := fun y => by rw [← y, cq] at a3; cases a3
    rcases Nat.lt_or_gt_of_ne hne with hl | hl
    · exact aw_ne hV hl a2 ⟨by rw [a4, hpq], z⟩
    · exact aw_ne hV hl hq ⟨by rw [a4, hpq], z.symm⟩
  refine VV_aws hV (fun j a _ => he j a) (by rw [e2]; exact hB.2.2) (fun i hi => ?_) (fun s hs => ?_) (fun i j hij hj hw => ?_)
  · rw [e2] at hi
    rw [h1 i hi]
    refine ⟨?_, (hV.2.2.2.2.1 i hi).2⟩
    cases hC : C i with
    | true => exact (hc i hi hC).1
    | false => rw [hn i hi hC]; exact (hV.2.2.2.2.1 i hi).1
  · have : cov u s = cov v s := by
      unfold cov
      rw [e2]
      exact cn_congr _ (fun i hi => by rw [h1 i hi])
    rw [this]
    exact hV.2.2.2.2.2.1 s hs
  · rw [e2] at hj
    have hi : i < v 2 := by omega
    rw [h1 i hi, h1 j hj]
    cases hCi : C i with
    | true =>
      cases hCj : C j with
      | true => have := hinj i j hCi hCj hi hj hw; omega
      | false =>
        have := key i j hi hj hCi hCj (by rw [hw, hn j hj hCj])
        exact this.symm
    | false =>
      cases hCj : C j with
      | true => exact key j i hj hi hCj hCi (by rw [← hw, hn i hi hCi])
      | false => exact hV.2.2.2.2.2.2 i j hij hj (by rw [← hn i hi hCi, ← hn j hj hCj]; exact hw)
theorem rsC_rsC (X : ab_XX) (a b c d e f : Int32) : rsC (rsC X a b c) d e f = rsC X d e f := by
  funext o i
  by_cases h : o = 10
  · subst h
    by_cases h0 : i = 0
    · subst h0; rw [rsC_0, rsC_0]
    · by_cases h1 : i = 1
      · subst h1; rw [rsC_1, rsC_1]
      · by_cases h2 : i = 2
        · subst h2; rw [rsC_2, rsC_2]
        · unfold rsC
          simp only [p_up_df _ _ _ _ _ h2, p_up_df _ _ _ _ _ h1, p_up_df _ _ _ _ _ h0]
  · rw [rsC_o _ _ _ h, rsC_o _ _ _ h, rsC_o _ _ _ h]
theorem xob_lt {v : Nat → Nat} (hV : VV v) {w b : Nat} (hw : w < v 0) (hs : b < v 1) (a : Nat) : (xob v w a b).2 < 100 ∧ (xob v w a b).1 < 8 := ob_lt hV hw hs _ _
theorem xob_0 {v : Nat → Nat} (hV : VV v) {w b : Nat} (hw : w < v 0) (hs : b < v 1) {a : Nat} (h : (xob v w a b).1 = 0) : xob v w a b = (0, 0) := ob_0 hV hw hs _ _ h
theorem c_ref0 {X : ab_XX} {v : Nat → Nat} (h : RC (X 3) v) (hV : VV v) {w a b : Nat} (hw : w < v 0) (ha : a < v 1) (hb0 : b < v 1) (hx : (xob v w a b).1 = 0) : F_C_isRefused X (nI w) (nI a) (nI b) = some (nI 0, rsC X (nI 0) (nI 0) (-1)) := by
  unfold F_C_isRefused
  rw [c_obstacleToExchange h hV hw ha hb0, Option.bind_some, xob_0 hV hw hb0 hx, c_Rset X (by decide) (by decide), b3_s]
  rfl
theorem c_ref1 {X : ab_XX} {v : Nat → Nat} (h : RC (X 3) v) (hV : VV v) {w a b : Nat} (hw : w < v 0) (ha : a < v 1) (hb0 : b < v 1) (hx : ¬ (xob v w a b).1 = 0) : F_C_isRefused X (nI w) (nI a) (nI b) = some (nI 1, rsC X (nI (xob v w a b).1) (nI (xob v w a b).2) (nI w)) := by
  have hl := xob_lt hV hw hb0 a
  have hc : ¬ cd (xob v w a b) = 0 := fun z => hx (by unfold cd at z; omega)
  unfold F_C_isRefused
  rw [c_obstacleToExchange h hV hw ha hb0, Option.bind_some, c_Rset X hl.1 (by omega), b3_s]
  simp only [cd_0 hl.1 (by omega : (xob v w a b).1 < 9), if_neg hc]
theorem m_get0 {X : ab_XX} {v : Nat → Nat} (h : RM (X 14) v) (hV : VV v) {w a b : Nat} (hw : w < v 0) (ha : a < v 1) (hb0 : b < v 1) (hx : (xob v w a b).1 = 0) : F_M_mayGet X (nI w) (nI a) (nI b) (nI 1) = some (nI 1, ab_up X 13 11 (nI 0)) := by
  have hB := hV.1
  unfold F_M_mayGet
  have e := m_obstacleOf h hV hw hb0 (p_clr_lt (g := a) (hb16 hV w)) true
  rw [show (nI (true).toNat) = nI 1 from rfl] at e
  have hx2 : ob v w b (p_clr (hb v 0 1 w (v 2)) a) true = (0, 0) := xob_0 hV hw hb0 hx
  rw [m_heldBy h hV (by omega), Option.bind_some, p_bit a (by omega), p_clr_eq _ a (by omega), e, b3_s, hx2]
  rfl
theorem m_get1 {X : ab_XX} {v : Nat → Nat} (h : RM (X 14) v) (hV : VV v) {w a b : Nat} (hw : w < v 0) (ha : a < v 1) (hb0 : b < v 1) (hx : ¬ (xob v w a b).1 = 0) : F_M_mayGet X (nI w) (nI a) (nI b) (nI 1) = some (nI 0, rsM (ab_up X 13 11 (nI (xob v w a b).2)) (nI (xob v w a b).1) (nI (xob v w a b).2) (nI w)) := by
  have hB := hV.1
  have hl := xob_lt hV hw hb0 a
  unfold F_M_mayGet
  have e := m_obstacleOf h hV hw hb0 (p_clr_lt (g := a) (hb16 hV w)) true
  rw [show (nI (true).toNat) = nI 1 from rfl] at e
  rw [m_heldBy h hV (by omega), Option.bind_some, p_bit a (by omega), p_clr_eq _ a (by omega), e, b3_s]
  show (if nI (xob v w a b).1 = nI 0 then _ else _) = _
  have hn : ¬ nI (xob v w a b).1 = nI 0 := fun z => hx ((nI_eq (by omega) (by decide)).mp z)
  rw [if_neg hn, if_neg n10, m_reasons, b3_s]
  show (if nI (xob v w a b).1 = nI 0 then _ else _) = _
  rw [if_neg hn, p_up_sm]
  rfl
theorem c_reassign {X : ab_XX} {v : Nat → Nat} (h : RC (X 3) v) (h48 : v 2 ≤ 48) {i : Nat} (hi : i < v 2) (x : Nat) : F_K_reassign X (nI i) (nI x) = some ((), ab_up X 3 (357 + i * 2 + 0) (nI x)) := by
  unfold F_K_reassign F_K_isAward
  rw [if_neg (nI_nlt (Nat.zero_le _) (by omega)), c_2 h, if_neg (nI_ge hi (by omega)), Option.bind_some, if_neg n10]
  simp only [p_mul, nI_add]
  rw [c_put _ (by omega), b3_s]
def OPU (C : Option ((Unit ⊕ Nat) × ab_XX)) (l : List (Nat × Nat)) (M : ab_XX → Option (Unit × ab_XX)) : Prop :=
  ∃ o X1 X2, C = some (o, X1) ∧ M X1 = some ((), X2) ∧ Inv X2 ∧ ((o = .inl () ∧ X2 13 0 = nI 0) ∨ ∃ x c, (x, c) ∈ l ∧ o = .inr x ∧ X2 13 0 = nI c)
theorem opu_x {X : ab_XX} (hI : Inv X) {C : Option ((Unit ⊕ Nat) × ab_XX)} {l : List (Nat × Nat)} {M : ab_XX → Option (Unit × ab_XX)} (x c : Nat) (hm : (x, c) ∈ l) (h1 : C = some (.inr x, X)) (h2 : M X = some ((), ab_up X 13 0 (nI c))) : OPU C l M :=
  ⟨.inr x, X, _, h1, h2, inv_sm (sm_0 X _) hI, .inr ⟨x, c, hm, rfl, p_up_sm X 13 0 _⟩⟩
theorem opu_k {C : Option ((Unit ⊕ Nat) × ab_XX)} {l : List (Nat × Nat)} {M : ab_XX → Option (Unit × ab_XX)} (X1 Z : ab_XX) (h1 : C = some (.inl (), X1)) (h2 : M X1 = some ((), Z)) (hI : Inv Z) (h0 : Z 13 0 = nI 0) : OPU C l M :=
  ⟨.inl (), X1, Z, h1, h2, hI, .inl ⟨rfl, h0⟩⟩
/-- refused for a reason -/
theorem opu_r {X : ab_XX} (hI : Inv X) {C : Option ((Unit ⊕ Nat) × ab_XX)} {l : List (Nat × Nat)} {M : ab_XX → Option (Unit × ab_XX)} (c : Nat) (hm : (3, c) ∈ l) (p q r : Int32) (Y : ab_XX) (h1 : C = some (.inr 3, rsC X p q r)) (hY : sm (rsC X p q r) Y) (h2 : M (rsC X p q r) = some ((), ab_up (rsM Y p q r) 13 0 (nI c))) : OPU C l M := by
  have yo : ∀ o, o ≠ 13 → Y o = rsC X p q r o := fun o hn => funext fun i => hY o i (fun z => hn z.1)
  have y13 : ∀ i, i ≠ 0 → i ≠ 11 → Y 13 i = X 13 i := fun i h0 h11 => by
    rw [hY 13 i (fun z => by rcases z.2 with z | z <;> omega), rsC_o _ _ _ (by decide)]
  refine ⟨.inr 3, _, _, h1, h2, ?_, .inr ⟨3, c, hm, rfl, p_up_sm _ _ _ _⟩⟩
  refine inv_rs hI (fun o h10 h13 => ?_) (fun j hj => ?_) ?_
  · rw [p_up_ne _ _ _ _ _ h13, rsM_o _ _ _ h13, yo o h13, rsC_o _ _ _ h10]
  · rw [p_up_df _ _ _ _ _ (by omega), rsM_j _ _ _ (by omega) (by omega) (by omega), y13 j (by omega) (by omega)]
  · unfold RS
    rw [p_up_ne _ _ _ _ _ (by decide), rsM_o _ _ _ (by decide), yo 10 (by decide), rsC_0, rsC_1, rsC_2, p_up_df _ _ _ _ _ (by decide), p_up_df _ _ _ _ _ (by decide), p_up_df _ _ _ _ _ (by decide), rsM_0, rsM_1, rsM_2]
    exact ⟨rfl, rfl, rfl⟩
theorem opu_change {X : ab_XX} (hI : Inv X) {nx n : Nat} (hH : HI X nx n) {X1 Y : ab_XX} (xo : ∀ o, o ≠ 3 → X1 o = rmb (rsC X (nI 0) (nI 0) (-1)) 3 nx n o) (hY : sm X1 Y) (hY0 : Y 13 0 = nI 0) {k : ab_XX → Option (Unit × ab_XX)}
    (hk : ∀ Y : ab_XX, (∀ j, j < 405 → Y 14 j = X 14 j) → ∃ Z, k Y = some ((), Z) ∧ (∀ o, o ≠ 14 → Z o = Y o) ∧ (∀ i, 405 ≤ i → Z 14 i = Y 14 i) ∧ GR (X1 3) (Z 14)) :
    ∃ Z, (ab_b3 (F_M_keeps (rsM Y (nI 0) (nI 0) (-1))) (fun _ Y => k Y)) = some ((), Z) ∧ Inv Z ∧ Z 13 0 = nI 0 := by
  have yo : ∀ o, o ≠ 13 → Y o = X1 o := fun o hn => funext fun i => hY o i (fun z => hn z.1)
  have y13 : ∀ i, i ≠ 0 → i ≠ 11 → Y 13 i = X1 13 i := fun i h0 h11 => hY 13 i (fun z => by rcases z.2 with z | z <;> omega)
  have x10 : X1 10 = rsC X (nI 0) (nI 0) (-1) 10 := by rw [xo 10 (by decide), rmb_o _ _ _ _ _ (by decide) (by decide)]
  obtain ⟨Z, e, h⟩ := op_change_r hI hH (X1 := X1) (W := rsM Y (nI 0) (nI 0) (-1)) (fun o h3 h10 => by
      rw [xo o h3]
      exact rmb_cg (X := X) (Y := rsC X (nI 0) (nI 0) (-1)) (rsC_o _ _ _ (by decide)) (rsC_o _ _ _ (by decide)) (rsC_o _ _ _ (by decide)) (rsC_o _ _ _ h10)) (fun o ho => by rw [rsM_o _ _ _ ho, yo o ho]) (by
      rw [rsM_j _ _ _ (by decide) (by decide) (by decide), hY0]) (fun j hj => by
      rw [rsM_j _ _ _ (by omega) (by omega) (by omega), y13 j (by omega) (by omega)]) (by
      unfold RS
      rw [rsM_o _ _ _ (by decide), yo 10 (by decide), x10, rsC_0, rsC_1, rsC_2, rsM_0, rsM_1, rsM_2]
      exact ⟨rfl, rfl, rfl⟩) (k := fun Y => (k Y).bind fun p => some (nI 0, p.2)) (b := nI 0) (fun Y2 h1 _ => by
    obtain ⟨Z, z1, z2, z3, z4⟩ := hk Y2 h1
    exact ⟨Z, by rw [z1]; rfl, z2, z3, z4⟩)
  refine ⟨Z, ?_, h⟩
  cases q : F_M_keeps (rsM Y (nI 0) (nI 0) (-1)) with
  | none => rw [q] at e; cases e
  | some p =>
    rw [q] at e
    have e3 : ((k p.2).bind fun p => some (nI 0, p.2)) = some (nI 0, Z) := e
    show k p.2 = some ((), Z)
    cases q2 : k p.2 with
    | none => rw [q2] at e3; cases e3
    | some r =>
      rw [q2] at e3
      have e4 : some (nI 0, r.2) = some (nI 0, Z) := e3
      cases e4
      rfl
