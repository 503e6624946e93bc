/-! ===== PURE: what a call with a change must show ===== -/
def OP (C : Option ((Int32 ⊕ Nat) × ab_XX)) (l : List (Nat × Nat)) (M : ab_XX → Option (Int32 × ab_XX)) : Prop :=
  ∃ o X1 b X2, C = some (o, X1) ∧ M X1 = some (b, X2) ∧ Inv X2 ∧ ((∃ a, o = .inl a ∧ X2 13 0 = nI 0 ∧ a = b) ∨ ∃ x c, (x, c) ∈ l ∧ o = .inr x ∧ X2 13 0 = nI c)
theorem inv_sm {X Y : ab_XX} (h : sm X Y) (hI : Inv X) : Inv Y := by
  have ho : ∀ o, o ≠ 13 → Y o = X o := fun o hn => funext fun i => h o i (fun z => hn z.1)
  have h13 : ∀ i, i ≠ 0 → i ≠ 11 → Y 13 i = X 13 i := fun i h0 h11 => h 13 i (fun z => by rcases z.2 with z | z <;> omega)
  have hr : ∀ i, rwM Y i = rwM X i := fun i => by unfold rwM; rw [ho 14 (by decide)]
  have hc : ∀ a, rwC Y 5 a = rwC X 5 a := fun a => by unfold rwC; rw [ho 5 (by decide)]
  obtain ⟨g, ⟨nx, n, a1, a2, a3, a4, a5, a6⟩, ⟨b1, b2⟩, ⟨⟨L, c1, c2, c3, c4⟩, c5, c6⟩, d1, d2, d3⟩ := hI
  refine ⟨by rw [ho 3 (by decide), ho 14 (by decide)]; exact g, ⟨nx, n, a1, a2, by rw [ho 4 (by decide)]; exact a3, by rw [ho 4 (by decide)]; exact a4, by rw [h13 2 (by decide) (by decide)]; exact a5, fun i h1 h2 => by rw [hc, hr]; exact a6 i h1 h2⟩, ⟨by rw [ho 0 (by decide), h13 3 (by decide) (by decide)]; exact b1, by rw [ho 0 (by decide), ho 12 (by decide), hr]; exact b2⟩, ⟨⟨L, c1, by rw [ho 6 (by decide)]; exact c2, by rw [h13 5 (by decide) (by decide)]; exact c3, by rw [ho 7 (by decide), ho 15 (by decide)]; exact c4⟩, by rw [ho 0 (by decide), h13 7 (by decide) (by decide)]; exact c5, by rw [ho 0 (by decide), h13 8 (by decide) (by decide)]; exact c6⟩, ?_, ?_, ?_⟩
  · rw [ho 10 (by decide), h13 12 (by decide) (by decide)]; exact d1
  · rw [ho 10 (by decide), h13 13 (by decide) (by decide)]; exact d2
  · rw [ho 10 (by decide), h13 14 (by decide) (by decide)]; exact d3
/-- after a change: X before it, Z after it -/
theorem inv_change {X Z : ab_XX} {nx n : Nat} (hI : Inv X) (hH : HI X nx n) (hg : GR (Z 3) (Z 14))
    (ho : ∀ o, o ≠ 3 → o ≠ 4 → o ≠ 5 → o ≠ 10 → o ≠ 11 → o ≠ 13 → o ≠ 14 → Z o = X o)
    (h41 : Z 4 1 = nI ((nx + 1) % 8)) (h42 : Z 4 2 = nI (min (n + 1) 8)) (h5 : ∀ i, Z 5 i = if 453 * nx ≤ i ∧ i < 453 * nx + 453 then X 3 (i - 453 * nx) else X 5 i)
    (h13 : ∀ j, j = 3 ∨ j = 5 ∨ j = 7 ∨ j = 8 → Z 13 j = X 13 j) (h132 : Z 13 2 = nI (min (n + 1) 8)) (h9 : ∀ j, j < 405 → rwM Z 9 j = rwM X 9 j)
    (hr : ∀ i j, j < 405 → 1 ≤ i → i ≤ min (n + 1) 8 → rwM Z i j = if i = min (n + 1) 8 then rwM X 0 j else if n = 8 then rwM X (i + 1) j else rwM X i j) (hRS : RS Z) : Inv Z := by
  obtain ⟨g, _, ⟨b1, b2⟩, ⟨⟨L, c1, c2, c3, c4⟩, c5, c6⟩, _⟩ := hI
  have o0 : Z 0 = X 0 := ho 0 (by decide) (by decide) (by decide) (by decide) (by decide) (by decide) (by decide)
  have o6 : Z 6 = X 6 := ho 6 (by decide) (by decide) (by decide) (by decide) (by decide) (by decide) (by decide)
  have o7 : Z 7 = X 7 := ho 7 (by decide) (by decide) (by decide) (by decide) (by decide) (by decide) (by decide)
  have o12 : Z 12 = X 12 := ho 12 (by decide) (by decide) (by decide) (by decide) (by decide) (by decide) (by decide)
  have o15 : Z 15 = X 15 := ho 15 (by decide) (by decide) (by decide) (by decide) (by decide) (by decide) (by decide)
  refine ⟨hg, ⟨(nx + 1) % 8, min (n + 1) 8, HI_keep hH g h41 h42 h5 rfl rfl h132 hr⟩, ⟨?_, ?_⟩, ⟨⟨L, c1, ?_, ?_, ?_⟩, ?_, ?_⟩, hRS⟩
  · rw [o0, h13 3 (by decide)]; exact b1
  · rw [o0, o12]
    intro hn
    exact GR_congr (b2 hn) (fun j _ => rfl) h9
  · rw [o6]; exact c2
  · rw [h13 5 (by decide)]; exact c3
  · rw [o7, o15]; exact c4
  · rw [o0, h13 7 (by decide)]; exact c5
  · rw [o0, h13 8 (by decide)]; exact c6
theorem rmb_o (X : ab_XX) (s nx n o : Nat) (h4 : o ≠ 4) (h5 : o ≠ 5) : rmb X s nx n o = X o := by
  unfold rmb
  rw [p_up_ne _ _ _ _ _ h4, p_up_ne _ _ _ _ _ h4, h_cpy_o _ _ _ _ _ _ _ h5]
theorem rmb_41 (X : ab_XX) (s nx n : Nat) : rmb X s nx n 4 1 = nI ((nx + 1) % 8) := by
  unfold rmb
  rw [p_up_df _ _ _ _ _ (by decide), p_up_sm]
theorem rmb_42 (X : ab_XX) (s nx n : Nat) : rmb X s nx n 4 2 = nI (min (n + 1) 8) := by
  unfold rmb
  rw [p_up_sm]
theorem rmb_5 (X : ab_XX) (s nx n i : Nat) : rmb X s nx n 5 i = if 453 * nx ≤ i ∧ i < 453 * nx + 453 then X s (i - 453 * nx) else X 5 i := by
  unfold rmb
  rw [p_up_ne _ _ _ _ _ (by decide), p_up_ne _ _ _ _ _ (by decide)]
  by_cases h : 453 * nx ≤ i ∧ i < 453 * nx + 453
  · rw [if_pos h]
    have e := h_cpy_in X s 5 0 (453 * nx) (i - 453 * nx) (by omega)
    rw [show 453 * nx + (i - 453 * nx) = i by omega, Nat.zero_add] at e
    exact e
  · rw [if_neg h]
    exact h_cpy_out X s 5 0 (453 * nx) i (by omega)
/-- a call that changes the present row alone -/
theorem op_change {X : ab_XX} (hI : Inv X) {nx n : Nat} (hH : HI X nx n) {X1 : ab_XX} (hX1 : ∀ o, o ≠ 3 → X1 o = rmb X 3 nx n o) {k : ab_XX → Option (Int32 × ab_XX)} {b : Int32}
    (hk : ∀ Y : ab_XX, (∀ j, j < 405 → Y 14 j = X 14 j) → (∀ o, o ≠ 13 → o ≠ 14 → Y o = X1 o) → (∀ j, j < 405 → rwM Y 9 j = rwM X 9 j) → ∃ Z, k Y = some (b, Z) ∧ (∀ o, o ≠ 14 → Z o = Y o) ∧ (∀ i, 405 ≤ i → Z 14 i = Y 14 i) ∧ GR (X1 3) (Z 14)) :
    ∃ Z, (ab_b3 (F_M_keeps (ab_up X1 13 0 (nI 0))) (fun _ Y => k Y)) = some (b, Z) ∧ Inv Z ∧ Z 13 0 = nI 0 := by
  have hH2 := hH
  obtain ⟨hx, hn, a3, a4, a5, a6⟩ := hH2
  have h132 : ab_up X1 13 0 (nI 0) 13 2 = nI n := by
    rw [p_up_df _ _ _ _ _ (by decide), hX1 13 (by decide), rmb_o _ _ _ _ _ (by decide) (by decide)]
    exact a5
  obtain ⟨Y, eY, k1, k2, k3, k4, k5⟩ := m_keeps hn h132
  have hX14 : ∀ i, ab_up X1 13 0 (nI 0) 14 i = X 14 i := fun i => by
    rw [p_up_ne _ _ _ _ _ (by decide), hX1 14 (by decide), rmb_o _ _ _ _ _ (by decide) (by decide)]
  have hrw : ∀ r j, rwM (ab_up X1 13 0 (nI 0)) r j = rwM X r j := fun r j => hX14 _
  obtain ⟨Z, eZ, z1, z2, z3⟩ := hk Y (fun j hj => by
    have := k4 0 j hj (.inl rfl)
    rw [hrw, rwM_0, rwM_0] at this
    exact this) (fun o h13 h14 => by rw [k1 o h13 h14, p_up_ne _ _ _ _ _ h13]) (fun j hj => by rw [k4 9 j hj (.inr (by decide)), hrw])
  have hZr : ∀ r j, 1 ≤ r → rwM Z r j = rwM Y r j := fun r j hr => z2 _ (by omega)
  refine ⟨Z, by rw [eY, b3_s]; exact eZ, ?_, ?_⟩
  · have zo : ∀ o, o ≠ 13 → o ≠ 14 → Z o = X1 o := fun o h13 h14 => by rw [z1 o h14, k1 o h13 h14, p_up_ne _ _ _ _ _ h13]
    have z13 : ∀ j, j ≠ 0 → j ≠ 2 → Z 13 j = X 13 j := fun j h0 h2 => by
      rw [z1 13 (by decide), k2 j h2, p_up_df _ _ _ _ _ h0, hX1 13 (by decide), rmb_o _ _ _ _ _ (by decide) (by decide)]
    refine inv_change hI hH (by rw [zo 3 (by decide) (by decide)]; exact z3) (fun o h3 h4 h5 h10 h11 h13 h14 => by rw [zo o h13 h14, hX1 o h3, rmb_o _ _ _ _ _ h4 h5]) ?_ ?_ (fun i => ?_) (fun j hj => z13 j (by omega) (by omega)) ?_ (fun j hj => ?_) (fun i j hj h1 h2 => ?_) ?_
    · rw [zo 4 (by decide) (by decide), hX1 4 (by decide), rmb_41]
    · rw [zo 4 (by decide) (by decide), hX1 4 (by decide), rmb_42]
    · rw [zo 5 (by decide) (by decide), hX1 5 (by decide), rmb_5]
    · rw [z1 13 (by decide)]; exact k3
    · rw [hZr 9 j (by decide), k4 9 j hj (.inr (by decide)), hrw]
    · rw [hZr i j h1, k5 i j hj h1 h2, hrw, hrw, hrw]
    · obtain ⟨d1, d2, d3⟩ := hI.2.2.2.2
      have e10 : Z 10 = X 10 := by rw [zo 10 (by decide) (by decide), hX1 10 (by decide), rmb_o _ _ _ _ _ (by decide) (by decide)]
      exact ⟨by rw [e10, z13 12 (by decide) (by decide)]; exact d1, by rw [e10, z13 13 (by decide) (by decide)]; exact d2, by rw [e10, z13 14 (by decide) (by decide)]; exact d3⟩
  · rw [z1 13 (by decide), k2 0 (by decide), p_up_sm]
