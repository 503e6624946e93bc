/-! ===== PURE: a new shift ===== -/
def vns (v : Nat → Nat) (d h l k ne : Nat) : Nat → Nat := uv (uv (uv (uv (uv (uv (uv (uv (uv (uv v (53 + v 1 * 9 + 0) d) (53 + v 1 * 9 + 1) h) (53 + v 1 * 9 + 2) l) (53 + v 1 * 9 + 3) k) (53 + v 1 * 9 + 4) ne) (53 + v 1 * 9 + 5) 0) (53 + v 1 * 9 + 6) (24 * d + h)) (53 + v 1 * 9 + 7) (24 * d + h + l)) (53 + v 1 * 9 + 8) (d / 7)) 1 (v 1 + 1)
theorem vns_o {v : Nat → Nat} {d h l k ne j : Nat} (h1 : j ≠ 1) (h2 : j < 53 + v 1 * 9 ∨ 53 + v 1 * 9 + 9 ≤ j) : vns v d h l k ne j = v j := by
  unfold vns
  rw [uv_ne _ h1, uv_ne _ (by omega), uv_ne _ (by omega), uv_ne _ (by omega), uv_ne _ (by omega), uv_ne _ (by omega), uv_ne _ (by omega), uv_ne _ (by omega), uv_ne _ (by omega), uv_ne _ (by omega)]
theorem vns_1 (v : Nat → Nat) (d h l k ne : Nat) : vns v d h l k ne 1 = v 1 + 1 := uv_eq _ _ _
theorem vns_sh {v : Nat → Nat} {d h l k ne s q : Nat} (hs : s ≠ v 1) (hq : q < 9) : sh (vns v d h l k ne) s q = sh v s q := vns_o (by omega) (by omega)
theorem vns_new (v : Nat → Nat) (d h l k ne : Nat) : sh (vns v d h l k ne) (v 1) 0 = d ∧ sh (vns v d h l k ne) (v 1) 1 = h ∧ sh (vns v d h l k ne) (v 1) 2 = l ∧ sh (vns v d h l k ne) (v 1) 3 = k ∧ sh (vns v d h l k ne) (v 1) 4 = ne ∧ sh (vns v d h l k ne) (v 1) 5 = 0 ∧ sh (vns v d h l k ne) (v 1) 6 = 24 * d + h ∧ sh (vns v d h l k ne) (v 1) 7 = 24 * d + h + l ∧ sh (vns v d h l k ne) (v 1) 8 = d / 7 := by
  unfold sh vns
  refine ⟨?_, ?_, ?_, ?_, ?_, ?_, ?_, ?_, ?_⟩
  · rw [uv_ne _ (by omega), uv_ne _ (by omega), uv_ne _ (by omega), uv_ne _ (by omega), uv_ne _ (by omega), uv_ne _ (by omega), uv_ne _ (by omega), uv_ne _ (by omega), uv_ne _ (by omega), uv_eq]
  · rw [uv_ne _ (by omega), uv_ne _ (by omega), uv_ne _ (by omega), uv_ne _ (by omega), uv_ne _ (by omega), uv_ne _ (by omega), uv_ne _ (by omega), uv_ne _ (by omega), uv_eq]
  · rw [uv_ne _ (by omega), uv_ne _ (by omega), uv_ne _ (by omega), uv_ne _ (by omega), uv_ne _ (by omega), uv_ne _ (by omega), uv_ne _ (by omega), uv_eq]
  · rw [uv_ne _ (by omega), uv_ne _ (by omega), uv_ne _ (by omega), uv_ne _ (by omega), uv_ne _ (by omega), uv_ne _ (by omega), uv_eq]
  · rw [uv_ne _ (by omega), uv_ne _ (by omega), uv_ne _ (by omega), uv_ne _ (by omega), uv_ne _ (by omega), uv_eq]
  · rw [uv_ne _ (by omega), uv_ne _ (by omega), uv_ne _ (by omega), uv_ne _ (by omega), uv_eq]
  · rw [uv_ne _ (by omega), uv_ne _ (by omega), uv_ne _ (by omega), uv_eq]
  · rw [uv_ne _ (by omega), uv_ne _ (by omega), uv_eq]
  · rw [uv_ne _ (by omega), uv_eq]
section NS
variable {v : Nat → Nat} {d h l k ne : Nat}
theorem VV_ns (hV : VV v) (h16 : v 1 < 16) (hd : d ≤ 27) (hh : h ≤ 23) (hl1 : 1 ≤ l) (hl : l ≤ 12) (hk : k ≤ 3) (hn1 : 1 ≤ ne) (hn : ne ≤ 3) : VV (vns v d h l k ne) := by
  obtain ⟨hB, h1, h2, h3, h4, h5, h6⟩ := hV
  have hnew := vns_new v d h l k ne
  have e0 : vns v d h l k ne 0 = v 0 := vns_o (by omega) (by omega)
  have e1 : vns v d h l k ne 1 = v 1 + 1 := vns_1 v d h l k ne
  have e2 : vns v d h l k ne 2 = v 2 := vns_o (by omega) (by omega)
  have ew : ∀ w2 p, w2 < v 0 → p < 5 → wk (vns v d h l k ne) w2 p = wk v w2 p := fun w2 p a b => vns_o (by omega) (by omega)
  have eb : ∀ w2 s2, w2 < 10 → s2 < 16 → bd (vns v d h l k ne) w2 s2 = bd v w2 s2 := fun w2 s2 a b => vns_o (by omega) (by omega)
  have ea : ∀ i p, i < v 2 → p < 2 → aw (vns v d h l k ne) i p = aw v i p := fun i p a b => vns_o (by omega) (by omega)
  have ec : ∀ s2, cov (vns v d h l k ne) s2 = cov v s2 := fun s2 => by
    unfold cov
    rw [e2]
    exact cn_congr (v 2) (fun i hi => by rw [ea i 1 hi (by decide)])
  unfold VV
  rw [e0, e1, e2]
  refine ⟨⟨hB.1, by omega, hB.2.2⟩, fun w2 a => ?_, fun s2 a => ?_, fun w2 s2 a b => ?_, fun i a => ?_, fun s2 a => ?_, fun i j a b => ?_⟩
  · rw [ew w2 0 a (by decide), ew w2 1 a (by decide), ew w2 2 a (by decide), ew w2 3 a (by decide), ew w2 4 a (by decide)]
    exact h1 w2 a
  · by_cases hs : s2 = v 1
    · subst hs
      omega
    · rw [vns_sh hs (by decide), vns_sh hs (by decide), vns_sh hs (by decide), vns_sh hs (by decide), vns_sh hs (by decide), vns_sh hs (by decide), vns_sh hs (by decide), vns_sh hs (by decide), vns_sh hs (by decide)]
      exact h2 s2 (by omega)
  · rw [eb w2 s2 a b]
    exact ⟨(h3 w2 s2 a b).1, fun z => (h3 w2 s2 a b).2 (by omega)⟩
  · rw [ea i 0 a (by decide), ea i 1 a (by decide)]
    have := h4 i a
    omega
  · rw [ec]
    by_cases hs : s2 = v 1
    · subst hs
      have e : cov v (v 1) = 0 := by
        unfold cov
        have key : ∀ n, n ≤ v 2 → cn (fun i => decide (aw v i 1 = v 1)) n = 0 := by
          intro n
          induction n with
          | zero => intro _; rfl
          | succ n ih =>
            intro hn
            have := h4 n (by omega)
            unfold cn
            rw [ih (by omega), decide_eq_false (by omega)]
            rfl
        exact key (v 2) (Nat.le_refl _)
      rw [e]
      exact Nat.zero_le _
    · rw [vns_sh hs (by decide)]
      exact h5 s2 (by omega)
  · have hi := (h4 i (by omega)).2
    have hj := (h4 j b).2
    rw [ea i 0 (by omega) (by decide), ea j 0 b (by decide), ea i 1 (by omega) (by decide), ea j 1 b (by decide), vns_sh (by omega) (by decide), vns_sh (by omega) (by decide), vns_sh (by omega) (by decide), vns_sh (by omega) (by decide)]
    exact h6 i j a b
theorem VB_ns (hV : VV v) (h16 : v 1 < 16) (h8 : VB v) (hV2 : VV (vns v d h l k ne)) : VB (vns v d h l k ne) := by
  intro w hw
  have e0 : vns v d h l k ne 0 = v 0 := vns_o (by omega) (by omega)
  rw [e0] at hw
  have hB := hV.1
  have hh := bt_bd hV h8 hw
  rw [bt_cn] at hh
  rw [bm_pc hV2, bt_cn, vns_1]
  have e : cn (bdp (vns v d h l k ne) w) (v 1 + 1) = cn (bdp v w) (v 1 + 1) := cn_congr _ (fun i hi => by
    unfold bdp
    rw [show bd (vns v d h l k ne) w i = bd v w i from vns_o (by omega) (by omega)])
  rw [e]
  show cn (bdp v w) (v 1) + (bdp v w (v 1)).toNat ≤ 8
  have e3 : bdp v w (v 1) = false := by
    unfold bdp
    rw [(hV.2.2.2.1 w (v 1) (by omega) h16).2 (.inr (Nat.le_refl _))]
    rfl
  rw [e3]
  exact hh
end NS
theorem c_enterShift {X : ab_XX} {v : Nat → Nat} (hR : RC (X 3) v) (h16 : v 1 < 16) {d h l k ne : Nat} (hd : d < 28) : ∃ f, F_K_enterShift X (nI d) (nI h) (nI l) (nI k) (nI ne) = some (nI (v 1), fun o => if o = 3 then f else X o) ∧ RC f (vns v d h l k ne) := by
  have e7 : ∀ d, d < 28 → nI d / nI 7 = nI (d / 7) := by decide +kernel
  refine ⟨_, ?_, RC_upd (RC_upd (RC_upd (RC_upd (RC_upd (RC_upd (RC_upd (RC_upd (RC_upd (RC_upd hR (53 + v 1 * 9 + 0) d) (53 + v 1 * 9 + 1) h) (53 + v 1 * 9 + 2) l) (53 + v 1 * 9 + 3) k) (53 + v 1 * 9 + 4) ne) (53 + v 1 * 9 + 5) 0) (53 + v 1 * 9 + 6) (24 * d + h)) (53 + v 1 * 9 + 7) (24 * d + h + l)) (53 + v 1 * 9 + 8) (d / 7)) 1 (v 1 + 1)⟩
  unfold F_K_enterShift
  rw [c_1 hR]
  simp only [p_mul, nI_add, e7 d hd]
  rw [c_put _ (by omega), b3_s, c_put _ (by omega), b3_s, c_put _ (by omega), b3_s, c_put _ (by omega), b3_s, c_put _ (by omega), b3_s, c_put _ (by omega), b3_s, c_put _ (by omega), b3_s, c_put _ (by omega), b3_s, c_put _ (by omega), b3_s, c_put _ (by omega), b3_s]
  congr 2
  funext o
  unfold ab_up
  by_cases ho : o = 3
  · subst ho
    simp
  · simp [ho]
