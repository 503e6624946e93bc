/-! ===== PURE: a new worker ===== -/
def vnw (v : Nat → Nat) (a b c d e : Nat) : Nat → Nat := uv (uv (uv (uv (uv (uv v (3 + v 0 * 5 + 0) a) (3 + v 0 * 5 + 1) b) (3 + v 0 * 5 + 2) c) (3 + v 0 * 5 + 3) d) (3 + v 0 * 5 + 4) e) 0 (v 0 + 1)
theorem vnw_o {v : Nat → Nat} {a b c d e j : Nat} (h1 : j ≠ 0) (h2 : j < 3 + v 0 * 5 ∨ 3 + v 0 * 5 + 5 ≤ j) : vnw v a b c d e j = v j := by
  unfold vnw
  rw [uv_ne _ h1, uv_ne _ (by omega), uv_ne _ (by omega), uv_ne _ (by omega), uv_ne _ (by omega), uv_ne _ (by omega)]
theorem vnw_0 (v : Nat → Nat) (a b c d e : Nat) : vnw v a b c d e 0 = v 0 + 1 := uv_eq _ _ _
theorem vnw_new (v : Nat → Nat) (a b c d e : Nat) : wk (vnw v a b c d e) (v 0) 0 = a ∧ wk (vnw v a b c d e) (v 0) 1 = b ∧ wk (vnw v a b c d e) (v 0) 2 = c ∧ wk (vnw v a b c d e) (v 0) 3 = d ∧ wk (vnw v a b c d e) (v 0) 4 = e := by
  unfold wk vnw
  refine ⟨?_, ?_, ?_, ?_, ?_⟩
  · rw [uv_ne _ (by omega), uv_ne _ (by omega), uv_ne _ (by omega), uv_ne _ (by omega), uv_ne _ (by omega), uv_eq]
  · rw [uv_ne _ (by omega), uv_ne _ (by omega), uv_ne _ (by omega), uv_ne _ (by omega), uv_eq]
  · rw [uv_ne _ (by omega), uv_ne _ (by omega), uv_ne _ (by omega), uv_eq]
  · rw [uv_ne _ (by omega), uv_ne _ (by omega), uv_eq]
  · rw [uv_ne _ (by omega), uv_eq]
section NW
variable {v : Nat → Nat} {a b c d e : Nat}
theorem vnw_wk {w p : Nat} (hw : w ≠ v 0) (hp : p < 5) : wk (vnw v a b c d e) w p = wk v w p := vnw_o (by omega) (by omega)
theorem vnw_sh {s p : Nat} (h10 : v 0 < 10) : sh (vnw v a b c d e) s p = sh v s p := vnw_o (by omega) (by omega)
theorem vnw_bd {w s : Nat} (h10 : v 0 < 10) : bd (vnw v a b c d e) w s = bd v w s := vnw_o (by omega) (by omega)
theorem vnw_aw {i p : Nat} (h10 : v 0 < 10) : aw (vnw v a b c d e) i p = aw v i p := vnw_o (by omega) (by omega)
theorem VV_nw (hV : VV v) (h10 : v 0 < 10) (ha : a ≤ 99) (hb : b ≤ 24) (hc : c ≤ 168) (hd : d ≤ 28) (he : e ≤ 15) : VV (vnw v a b c d e) := by
  obtain ⟨hB, h1, h2, h3, h4, h5, h6⟩ := hV
  have hnew := vnw_new v a b c d e
  have e0 : vnw v a b c d e 0 = v 0 + 1 := vnw_0 v a b c d e
  have e1 : vnw v a b c d e 1 = v 1 := vnw_o (by omega) (by omega)
  have e2 : vnw v a b c d e 2 = v 2 := vnw_o (by omega) (by omega)
  have ec : ∀ s2, cov (vnw v a b c d e) s2 = cov v s2 := fun s2 => by
    unfold cov
    rw [e2]
    exact cn_congr (v 2) (fun i hi => by rw [vnw_aw h10])
  unfold VV
  rw [e0, e1, e2]
  refine ⟨⟨by omega, hB.2⟩, fun w2 q => ?_, fun s2 q => ?_, fun w2 s2 q r => ?_, fun i q => ?_, fun s2 q => ?_, fun i j q r => ?_⟩
  · by_cases hw : w2 = v 0
    · subst hw
      omega
    · rw [vnw_wk hw (by decide), vnw_wk hw (by decide), vnw_wk hw (by decide), vnw_wk hw (by decide), vnw_wk hw (by decide)]
      exact h1 w2 (by omega)
  · rw [vnw_sh h10, vnw_sh h10, vnw_sh h10, vnw_sh h10, vnw_sh h10, vnw_sh h10, vnw_sh h10, vnw_sh h10, vnw_sh h10]
    exact h2 s2 q
  · rw [vnw_bd h10]
    exact ⟨(h3 w2 s2 q r).1, fun z => (h3 w2 s2 q r).2 (by omega)⟩
  · rw [vnw_aw h10, vnw_aw h10]
    have := h4 i q
    omega
  · rw [ec, vnw_sh h10]
    exact h5 s2 q
  · rw [vnw_aw h10, vnw_aw h10, vnw_aw h10, vnw_aw h10, vnw_sh h10, vnw_sh h10, vnw_sh h10, vnw_sh h10]
    exact h6 i j q r
theorem VB_nw (hV : VV v) (h10 : v 0 < 10) (h8 : VB v) (hV2 : VV (vnw v a b c d e)) : VB (vnw v a b c d e) := by
  intro w hw
  rw [vnw_0] at hw
  have hB := hV.1
  have e1 : vnw v a b c d e 1 = v 1 := vnw_o (by omega) (by omega)
  rw [bm_pc hV2, bt_cn, e1, cn_congr (q := bdp v w) (v 1) (fun i hi => by unfold bdp; rw [vnw_bd h10])]
  by_cases hwv : w = v 0
  · subst hwv
    have e3 : cn (bdp v (v 0)) (v 1) ≤ cn (fun _ => false) (v 1) := cn_mono (v 1) (fun i hi hp => by
      unfold bdp at hp
      rw [(hV.2.2.2.1 (v 0) i h10 (by omega)).2 (.inl (Nat.le_refl _))] at hp
      exact absurd hp (by decide))
    have e4 : ∀ n, cn (fun _ => false) n = 0 := by
      intro n
      induction n with
      | zero => rfl
      | succ n ih => unfold cn; rw [ih]; rfl
    rw [e4] at e3
    omega
  · have hh := bt_bd hV h8 (by omega : w < v 0)
    rw [bt_cn] at hh
    exact hh
end NW
theorem c_enterWorker {X : ab_XX} {v : Nat → Nat} (hR : RC (X 3) v) (h10 : v 0 < 10) (a b c d e : Nat) : ∃ f, F_K_enterWorker X (nI a) (nI b) (nI c) (nI d) (nI e) = some (nI (v 0), fun o => if o = 3 then f else X o) ∧ RC f (vnw v a b c d e) := by
  refine ⟨_, ?_, RC_upd (RC_upd (RC_upd (RC_upd (RC_upd (RC_upd hR (3 + v 0 * 5 + 0) a) (3 + v 0 * 5 + 1) b) (3 + v 0 * 5 + 2) c) (3 + v 0 * 5 + 3) d) (3 + v 0 * 5 + 4) e) 0 (v 0 + 1)⟩
  unfold F_K_enterWorker
  rw [c_0 hR]
  simp only [p_mul, nI_add]
  rw [c_put _ (by omega), b3_s, c_put _ (by omega), b3_s, c_put _ (by omega), b3_s, c_put _ (by omega), b3_s, c_put _ (by omega), b3_s, c_put _ (by omega), b3_s]
  congr 2
  funext o
  unfold ab_up
  by_cases ho : o = 3
  · subst ho
    simp
  · simp [ho]
