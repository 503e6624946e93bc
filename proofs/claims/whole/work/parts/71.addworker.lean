/-! ===== PURE: addWorker, the call ===== -/
theorem m_opensWorker {Y : ab_XX} {v : Nat → Nat} (g : RM (Y 14) v) (h10 : v 0 < 10) (a b c d e : Nat) : F_M_opensWorker Y (nI a) (nI b) (nI c) (nI d) (nI e) = some (nI (v 0), fun o => if o = 14 then gnw (Y 14) (v 0) a b c d e 16 else Y o) := by
  have e00 : Y 14 0 = nI (v 0) := g.1
  have loop : ∀ (m k n : Nat), k + m = 16 → m < n → L_M_opensWorker_89 n (fun o => if o = 14 then gnw (Y 14) (v 0) a b c d e k else Y o) (nI (v 0)) (nI k) = some (nI (v 0), fun o => if o = 14 then gnw (Y 14) (v 0) a b c d e 16 else Y o) := by
    intro m
    induction m with
    | zero =>
      intro k n hk hn
      cases n with
      | zero => omega
      | succ n => rw [L_M_opensWorker_89, if_pos (nI_le (by omega) (by omega)), show k = 16 by omega]
    | succ m ih =>
      intro k n hk hn
      cases n with
      | zero => omega
      | succ n =>
        rw [L_M_opensWorker_89, if_neg (nI_ge (by omega) (by omega)), p_mul, nI_add, nI_add, if_pos (p_in (by omega) (by decide)), nI_clamp (by omega), Option.bind_some, nI_add]
        refine Eq.trans ?_ (ih (k + 1) n (by omega) (by omega))
        congr 1
        funext o i
        unfold ab_up
        by_cases ho : o = 14
        · subst ho
          rw [if_pos rfl]
          show upd (gnw (Y 14) (v 0) a b c d e k) (148 + 16 * v 0 + k) (nI 0) i = gnw (Y 14) (v 0) a b c d e (k + 1) i
          by_cases hi : i = 148 + 16 * v 0 + k
          · subst hi
            rw [upd_eq]
            unfold gnw
            rw [if_pos (by omega)]
          · rw [upd_ne _ hi]
            unfold gnw
            by_cases h2 : 148 + 16 * v 0 ≤ i ∧ i < 148 + 16 * v 0 + k
            · rw [if_pos h2, if_pos (by omega)]
            · rw [if_neg h2, if_neg (by omega)]
        · rw [if_neg ho]
          show (if o = 14 then gnw (Y 14) (v 0) a b c d e k else Y o) i = (if o = 14 then gnw (Y 14) (v 0) a b c d e (k + 1) else Y o) i
          rw [if_neg ho, if_neg ho]
  unfold F_M_opensWorker
  rw [m_workers g, Option.bind_some, Option.bind_some, e00, p_mul, nI_add]
  simp only [nI_add]
  rw [if_pos (p_in (by omega) (by decide)), Option.bind_some, if_pos (p_in (by omega) (by decide)), Option.bind_some, if_pos (p_in (by omega) (by decide)), Option.bind_some, if_pos (p_in (by omega) (by decide)), Option.bind_some, if_pos (p_in (by omega) (by decide)), Option.bind_some]
  rw [nI_clamp (by omega), nI_clamp (by omega), nI_clamp (by omega), nI_clamp (by omega), nI_clamp (by omega), nI_clamp (by omega)]
  refine Eq.trans ?_ (loop 16 0 ab_fu (by decide) (by decide))
  congr 1
  funext o i
  unfold ab_up
  by_cases ho : o = 14
  · subst ho
    simp [gnw]
    intro h1 h2
    omega
  · simp [ho]
