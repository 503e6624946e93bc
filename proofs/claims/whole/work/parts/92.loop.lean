/-! ===== the law's loop ===== -/
theorem tn_any (S : Nat × (Nat → Int32)) (w : ab_WW) {X : ab_XX} (hI : Inv X) {p : Nat} (hp : p + 7 ≤ S.1) (hN : S.1 ≤ 3584) : TN S w X p := by
  obtain ⟨k, hk, e⟩ : ∃ k, k < 64 ∧ S.2 p &&& nI 63 = nI k := by
    have h1 : S.2 p = nI (S.2 p).toBitVec.toNat := by
      apply Int32.toBitVec_inj.mp
      show (S.2 p).toBitVec = BitVec.ofNat 32 (S.2 p).toBitVec.toNat
      rw [BitVec.ofNat_toNat, BitVec.setWidth_eq]
    refine ⟨(S.2 p).toBitVec.toNat &&& 63, Nat.lt_of_le_of_lt Nat.and_le_right (by decide), ?_⟩
    rw [h1, p_and, ← h1]
  by_cases h41 : 41 ≤ k
  · have h2 : ∀ k, k < 64 → 41 ≤ k → ab_tsw (nI k) 2395 = 2395 := by decide +kernel
    exact tn_mk 0 w X (by decide) hI (law_cd S w X (nI p) (S.2 p) (tn_i hp hN) (tn_g0 hp hN) (tn_e0 S.2 hp hN) (by rw [e]; exact h2 k hk h41))
  · match k, h41, e with
    | 0, _, e => exact turn_c0 S w hI hp hN e
    | 1, _, e => exact turn_c1 S w hI hp hN e
    | 2, _, e => exact turn_c2 S w hI hp hN e
    | 3, _, e => exact turn_c3 S w hI hp hN e
    | 4, _, e => exact turn_c4 S w hI hp hN e
    | 5, _, e => exact turn_c5 S w hI hp hN e
    | 6, _, e => exact turn_c6 S w hI hp hN e
    | 7, _, e => exact turn_c7 S w hI hp hN e
    | 8, _, e => exact turn_c8 S w hI hp hN e
    | 9, _, e => exact turn_c9 S w hI hp hN e
    | 10, _, e => exact turn_c10 S w hI hp hN e
    | 11, _, e => exact turn_c11 S w hI hp hN e
    | 12, _, e => exact turn_c12 S w hI hp hN e
    | 13, _, e => exact turn_c13 S w hI hp hN e
    | 14, _, e => exact turn_c14 S w hI hp hN e
    | 15, _, e => exact turn_c15 S w hI hp hN e
    | 16, _, e => exact turn_c16 S w hI hp hN e
    | 17, _, e => exact turn_c17 S w hI hp hN e
    | 18, _, e => exact turn_c18 S w hI hp hN e
    | 19, _, e => exact turn_c19 S w hI hp hN e
    | 20, _, e => exact turn_c20 S w hI hp hN e
    | 21, _, e => exact turn_c21 S w hI hp hN e
    | 22, _, e => exact turn_c22 S w hI hp hN e
    | 23, _, e => exact turn_c23 S w hI hp hN e
    | 24, _, e => exact turn_c24 S w hI hp hN e
    | 25, _, e => exact turn_c25 S w hI hp hN e
    | 26, _, e => exact turn_c26 S w hI hp hN e
    | 27, _, e => exact turn_c27 S w hI hp hN e
    | 28, _, e => exact turn_c28 S w hI hp hN e
    | 29, _, e => exact turn_c29 S w hI hp hN e
    | 30, _, e => exact turn_c30 S w hI hp hN e
    | 31, _, e => exact turn_c31 S w hI hp hN e
    | 32, _, e => exact turn_c32 S w hI hp hN e
    | 33, _, e => exact turn_c33 S w hI hp hN e
    | 34, _, e => exact turn_c34 S w hI hp hN e
    | 35, _, e => exact turn_c35 S w hI hp hN e
    | 36, _, e => exact turn_c36 S w hI hp hN e
    | 37, _, e => exact turn_c37 S w hI hp hN e
    | 38, _, e => exact turn_c38 S w hI hp hN e
    | 39, _, e => exact turn_c39 S w hI hp hN e
    | 40, _, e => exact turn_c40 S w hI hp hN e
    | k + 41, h, _ => exact absurd (Nat.le_add_left 41 k) h
/-- the end of the loop -/
theorem tn_end (S : Nat × (Nat → Int32)) (w : ab_WW) (X : ab_XX) {p : Nat} (hp : S.1 < p + 7) (hN : S.1 ≤ 3584) (h0 : p = 0 ∨ p ≤ S.1) : ab_Ec S 252 (lst X w p) (.inl (some (.int (nI 1))), (X, w)) 0 := by
  have hlt : Int32.ofNat S.1 - nI 7 < nI p := by
    show nI S.1 - nI 7 < nI p
    by_cases h7 : 7 ≤ S.1
    · rw [p_sub h7]
      exact nI_lt (by omega) (by omega)
    · have h2 : ∀ a, a < 7 → ∀ q, q ≤ 6 → nI a - nI 7 < nI q := by decide +kernel
      exact h2 S.1 (by omega) p (by omega)
  have hR : ab_Rc S 252 0 (lst X w p) (2402, [(0, .ref 1000), (1, .ref 0), (2, .ref 13), (3, .ref 17), (4, .ref 18), (5, .int (nI p))], [.int (nI 1)], (X, w)) := by
    refine ab_q_go 5 (35, [(0, .ref 1000), (1, .ref 0), (2, .ref 13), (3, .ref 17), (4, .ref 18), (5, .int (nI p))], [.int (Int32.ofNat S.1 - nI 7), .int (nI p)], (X, w)) rfl ?_
    refine ab_q_t (d := Int32.ofNat S.1 - nI 7 < nI p) (2401, [(0, .ref 1000), (1, .ref 0), (2, .ref 13), (3, .ref 17), (4, .ref 18), (5, .int (nI p))], [], (X, w)) hlt rfl ?_
    exact ab_q_go 1 (2402, [(0, .ref 1000), (1, .ref 0), (2, .ref 13), (3, .ref 17), (4, .ref 18), (5, .int (nI p))], [.int (nI 1)], (X, w)) rfl ab_q_rf
  have hE : ab_Ec S 252 (2402, [(0, .ref 1000), (1, .ref 0), (2, .ref 13), (3, .ref 17), (4, .ref 18), (5, .int (nI p))], [.int (nI 1)], (X, w)) (.inl (some (.int (nI 1))), (X, w)) 0 := ab_ec_end rfl
  have := hR _ _ hE
  exact this
/-- from the loop's head to the end: at most one exception a turn -/
theorem tn_loop (S : Nat × (Nat → Int32)) (hN : S.1 ≤ 3584) : ∀ (m p : Nat) (w : ab_WW) (X : ab_XX), Inv X → p ≤ S.1 → S.1 < p + 7 * (m + 1) → ∃ c X2 w2, c ≤ m ∧ ab_Ec S 252 (lst X w p) (.inl (some (.int (nI 1))), (X2, w2)) c := by
  intro m
  induction m with
  | zero => intro p w X hI hp h; exact ⟨0, X, w, Nat.le_refl _, tn_end S w X (by omega) hN (.inr hp)⟩
  | succ m ih =>
    intro p w X hI hp h
    by_cases hq : p + 7 ≤ S.1
    · obtain ⟨c, w2, X2, hc, hI2, hR⟩ := tn_any S w hI hq hN
      obtain ⟨c2, X3, w3, hc2, hE⟩ := ih (p + 7) w2 X2 hI2 hq (by omega)
      exact ⟨c + c2, X3, w3, by omega, hR _ _ hE⟩
    · exact ⟨0, X, w, Nat.zero_le _, tn_end S w X (by omega) hN (.inr hp)⟩
