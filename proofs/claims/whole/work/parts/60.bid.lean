/-! ===== PURE: setBid ===== -/
def uv (v : Nat → Nat) (j x : Nat) : Nat → Nat := fun i => if i = j then x else v i
theorem uv_eq (v : Nat → Nat) (j x : Nat) : uv v j x j = x := if_pos rfl
theorem uv_ne (v : Nat → Nat) {j x i : Nat} (h : i ≠ j) : uv v j x i = v i := if_neg h
theorem cn_congr {p q : Nat → Bool} : ∀ n, (∀ i, i < n → p i = q i) → cn p n = cn q n := by
  intro n
  induction n with
  | zero => intro _; rfl
  | succ n ih =>
    intro h
    unfold cn
    rw [ih (fun i hi => h i (by omega)), h n (by omega)]
theorem cn_mono {p q : Nat → Bool} : ∀ n, (∀ i, i < n → p i = true → q i = true) → cn p n ≤ cn q n := by
  intro n
  induction n with
  | zero => intro _; exact Nat.le_refl _
  | succ n ih =>
    intro h
    unfold cn
    have h1 := ih (fun i hi => h i (by omega))
    have h2 : (p n).toNat ≤ (q n).toNat := by
      cases hp : p n with
      | false => exact Nat.zero_le _
      | true => rw [h n (by omega) hp]; exact Nat.le_refl _
    omega
/-- the number of bids -/
theorem bt_cn (v : Nat → Nat) (w : Nat) : bt v w = cn (bdp v w) (v 1) := by
  unfold bt
  have key : ∀ n, fo (fun s a => if bd v w s = 0 then a else a + 1) 0 0 n = cn (bdp v w) n := by
    intro n
    induction n with
    | zero => rfl
    | succ n ih =>
      rw [fo_snoc, Nat.zero_add, ih]
      show _ = cn (bdp v w) n + (bdp v w n).toNat
      have e : bdp v w n = decide (bd v w n ≠ 0) := rfl
      by_cases q : bd v w n = 0
      · rw [if_pos q, e, decide_eq_false (fun z => z q)]
        rfl
      · rw [if_neg q, e, decide_eq_true q]
        rfl
  exact key (v 1)
theorem bm_pc {v : Nat → Nat} (hV : VV v) (w : Nat) : pc 16 (bm v w) = bt v w := by
  rw [bt_cn]
  unfold pc bm
  have hB := hV.1
  have e : cn (fun i => (msk (bdp v w) (v 1)).testBit i) (v 1 + (16 - v 1)) = cn (fun i => (msk (bdp v w) (v 1)).testBit i) (v 1) := cn_more _ _ _ (fun i hi => by rw [msk_t, decide_eq_false (by omega), Bool.false_and])
  rw [show v 1 + (16 - v 1) = 16 by omega] at e
  rw [e]
  exact cn_congr (v 1) (fun i hi => by rw [msk_t, decide_eq_true hi, Bool.true_and])
theorem bt_bd {v : Nat → Nat} (hV : VV v) (hb8 : VB v) {w : Nat} (hw : w < v 0) : bt v w ≤ 8 := by
  rw [← bm_pc hV w]
  exact hb8 w hw
theorem bd_uv {v : Nat → Nat} {w s x w2 s2 : Nat} (hs : s < 16) (hs2 : s2 < 16) : bd (uv v (197 + w * 16 + s) x) w2 s2 = if w2 = w ∧ s2 = s then x else bd v w2 s2 := by
  unfold bd
  by_cases h : w2 = w ∧ s2 = s
  · rw [if_pos h, h.1, h.2, uv_eq]
  · rw [if_neg h, uv_ne]
    omega
theorem VV_bid {v : Nat → Nat} (hV : VV v) {w s x : Nat} (hw : w < v 0) (hs : s < v 1) (hx : x ≤ 9) : VV (uv v (197 + w * 16 + s) x) := by
  obtain ⟨hB, h1, h2, h3, h4, h5, h6⟩ := hV
  have e0 : uv v (197 + w * 16 + s) x 0 = v 0 := uv_ne v (by omega)
  have e1 : uv v (197 + w * 16 + s) x 1 = v 1 := uv_ne v (by omega)
  have e2 : uv v (197 + w * 16 + s) x 2 = v 2 := uv_ne v (by omega)
  have ew : ∀ w2 p, w2 < v 0 → p < 5 → wk (uv v (197 + w * 16 + s) x) w2 p = wk v w2 p := fun w2 p a b => uv_ne v (by omega)
  have es : ∀ s2 p, s2 < v 1 → p < 9 → sh (uv v (197 + w * 16 + s) x) s2 p = sh v s2 p := fun s2 p a b => uv_ne v (by omega)
  have ea : ∀ i p, i < v 2 → p < 2 → aw (uv v (197 + w * 16 + s) x) i p = aw v i p := fun i p a b => uv_ne v (by omega)
  have ec : ∀ s2, cov (uv v (197 + w * 16 + s) x) s2 = cov v s2 := fun s2 => by
    unfold cov
    rw [e2]
    exact cn_congr (v 2) (fun i hi => by rw [ea i 1 hi (by decide)])
  unfold VV
  rw [e0, e1, e2]
  refine ⟨hB, fun w2 a => ?_, fun s2 a => ?_, fun w2 s2 a b => ?_, fun i a => ?_, fun s2 a => ?_, fun i j a b => ?_⟩
  · rw [ew w2 0 a (by decide), ew w2 1 a (by decide), ew w2 2 a (by decide), ew w2 3 a (by decide), ew w2 4 a (by decide)]
    exact h1 w2 a
  · rw [es s2 0 a (by decide), es s2 1 a (by decide), es s2 2 a (by decide), es s2 3 a (by decide), es s2 4 a (by decide), es s2 5 a (by decide), es s2 6 a (by decide), es s2 7 a (by decide), es s2 8 a (by decide)]
    exact h2 s2 a
  · rw [bd_uv (by omega) b]
    split
    · exact ⟨hx, fun z => by omega⟩
    · exact h3 w2 s2 a b
  · rw [ea i 0 a (by decide), ea i 1 a (by decide)]
    exact h4 i a
  · rw [ec, es s2 4 a (by decide)]
    exact h5 s2 a
  · have hi := h4 i (by omega)
    have hj := h4 j b
    rw [ea i 0 (by omega) (by decide), ea j 0 b (by decide), ea i 1 (by omega) (by decide), ea j 1 b (by decide), es _ 7 hi.2 (by decide), es _ 6 hj.2 (by decide), es _ 7 hj.2 (by decide), es _ 6 hi.2 (by decide)]
    exact h6 i j a b
theorem VB_bid {v : Nat → Nat} (hV : VV v) (hb8 : VB v) {w s x : Nat} (hw : w < v 0) (hs : s < v 1) (hx : x ≤ 9) (hr : x = 0 ∨ bd v w s ≠ 0 ∨ bt v w < 8) : VB (uv v (197 + w * 16 + s) x) := by
  have hV2 := VV_bid hV hw hs hx
  have hB := hV.1
  have e0 : uv v (197 + w * 16 + s) x 0 = v 0 := uv_ne v (by omega)
  have e1 : uv v (197 + w * 16 + s) x 1 = v 1 := uv_ne v (by omega)
  intro w2 hw2
  rw [e0] at hw2
  rw [bm_pc hV2, bt_cn, e1]
  have h8 := bt_bd hV hb8 hw2
  rw [bt_cn] at h8
  have hp : ∀ i, i < v 1 → bdp (uv v (197 + w * 16 + s) x) w2 i = if w2 = w ∧ i = s then decide (x ≠ 0) else bdp v w2 i := fun i hi => by
    unfold bdp
    rw [bd_uv (by omega) (by omega)]
    split <;> rfl
  by_cases hww : w2 = w
  · subst hww
    by_cases hx0 : x = 0 ∨ bd v w2 s ≠ 0
    · refine Nat.le_trans (cn_mono (v 1) (fun i hi h => ?_)) h8
      rw [hp i hi] at h
      by_cases his : i = s
      · subst his
        rw [if_pos ⟨rfl, rfl⟩, decide_eq_true_eq] at h
        unfold bdp
        rw [decide_eq_true_eq]
        rcases hx0 with z | z
        · exact absurd z h
        · exact z
      · rw [if_neg (fun z => his z.2)] at h
        exact h
    · have hb0 : bd v w2 s = 0 := by omega
      have hlt : bt v w2 < 8 := by omega
      rw [bt_cn] at hlt
      have e := cn_upd (p := fun i => if i < v 1 then bdp v w2 i else false) (q := fun i => if i < v 1 then bdp (uv v (197 + w2 * 16 + s) x) w2 i else false) (N := v 1) (j := s) hs (fun i hi => by
        by_cases hiv : i < v 1
        · rw [if_pos hiv, if_pos hiv, hp i hiv, if_neg (fun z => hi z.2)]
        · rw [if_neg hiv, if_neg hiv]) (by rw [if_pos hs]; unfold bdp; rw [hb0]; rfl) (by rw [if_pos hs, hp s hs, if_pos ⟨rfl, rfl⟩]; exact decide_eq_true (fun z => hx0 (.inl z)))
      rw [cn_congr (q := bdp v w2) (v 1) (fun i hi => if_pos hi), cn_congr (q := bdp (uv v (197 + w2 * 16 + s) x) w2) (v 1) (fun i hi => if_pos hi)] at e
      omega
  · refine Nat.le_trans (cn_mono (v 1) (fun i hi h => ?_)) h8
    rw [hp i hi, if_neg (fun z => hww z.1)] at h
    exact h
