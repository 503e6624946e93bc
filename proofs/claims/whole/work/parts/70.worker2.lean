/-! ===== PURE: a new worker in the reference ===== -/
def gnw (g : Nat → Int32) (w a b c d e m : Nat) : Nat → Int32 := fun i => if 148 + 16 * w ≤ i ∧ i < 148 + 16 * w + m then nI 0 else upd (upd (upd (upd (upd (upd g 0 (nI (w + 1))) (1 + 5 * w) (nI a)) (1 + 5 * w + 1) (nI b)) (1 + 5 * w + 2) (nI c)) (1 + 5 * w + 3) (nI d)) (1 + 5 * w + 4) (nI e) i
theorem gnw_o {g : Nat → Int32} {w a b c d e m j : Nat} (h0 : j ≠ 0) (h1 : j < 1 + 5 * w ∨ 1 + 5 * w + 5 ≤ j) (h2 : j < 148 + 16 * w ∨ 148 + 16 * w + m ≤ j) : gnw g w a b c d e m j = g j := by
  unfold gnw
  rw [if_neg (by omega), upd_ne _ (by omega), upd_ne _ (by omega), upd_ne _ (by omega), upd_ne _ (by omega), upd_ne _ (by omega), upd_ne _ h0]
theorem RM_nw {g : Nat → Int32} {v : Nat → Nat} (hV : VV v) (hg : RM g v) (h10 : v 0 < 10) (a b c d e : Nat) : RM (gnw g (v 0) a b c d e 16) (vnw v a b c d e) := by
  have hB := hV.1
  obtain ⟨h0, h1, h2, h3, h4, h5, h6⟩ := hg
  have hnew := vnw_new v a b c d e
  have e0 : vnw v a b c d e 0 = v 0 + 1 := vnw_0 v a b c d e
  have e1 : vnw v a b c d e 1 = v 1 := vnw_o (by omega) (by omega)
  have e2 : vnw v a b c d e 2 = v 2 := vnw_o (by omega) (by omega)
  refine ⟨?_, ?_, ?_, fun w2 p q r => ?_, fun s2 p q r => ?_, fun w2 s2 q r => ?_, fun i p q r => ?_⟩
  · rw [e0]
    unfold gnw
    rw [if_neg (by omega), upd_ne _ (by omega), upd_ne _ (by omega), upd_ne _ (by omega), upd_ne _ (by omega), upd_ne _ (by omega), upd_eq]
  · rw [gnw_o (by omega) (by omega) (by omega), e1]; exact h1
  · rw [gnw_o (by omega) (by omega) (by omega), e2]; exact h2
  · rw [e0] at q
    by_cases hw : w2 = v 0
    · subst hw
      obtain ⟨n0, n1, n2, n3, n4⟩ := hnew
      unfold gnw
      rw [if_neg (by omega)]
      match p, r with
      | 0, _ => rw [upd_ne _ (by omega), upd_ne _ (by omega), upd_ne _ (by omega), upd_ne _ (by omega), n0]; exact upd_eq _ _ _
      | 1, _ => rw [upd_ne _ (by omega), upd_ne _ (by omega), upd_ne _ (by omega), upd_eq, n1]
      | 2, _ => rw [upd_ne _ (by omega), upd_ne _ (by omega), upd_eq, n2]
      | 3, _ => rw [upd_ne _ (by omega), upd_eq, n3]
      | 4, _ => rw [upd_eq, n4]
    · rw [gnw_o (by omega) (by omega) (by omega), h3 w2 p (by omega) r, vnw_wk hw r]
  · rw [e1] at q
    rw [gnw_o (by omega) (by omega) (by omega), h4 s2 p q r, vnw_sh h10]
  · rw [e0] at q
    rw [vnw_bd h10]
    by_cases hw : w2 = v 0
    · subst hw
      rw [(hV.2.2.2.1 (v 0) s2 h10 r).2 (.inl (Nat.le_refl _))]
      unfold gnw
      exact if_pos (by omega)
    · rw [gnw_o (by omega) (by omega) (by omega)]
      exact h5 w2 s2 (by omega) r
  · rw [e2] at q
    rw [gnw_o (by omega) (by omega) (by omega), h6 i p q r, vnw_aw h10]
