/-! ===== PURE: a new shift in the reference ===== -/
def gns (g : Nat → Int32) (s d h l k ne : Nat) : Nat → Int32 := upd (upd (upd (upd (upd (upd (upd g 51 (nI (s + 1))) (52 + 6 * s) (nI d)) (52 + 6 * s + 1) (nI h)) (52 + 6 * s + 2) (nI l)) (52 + 6 * s + 3) (nI k)) (52 + 6 * s + 4) (nI ne)) (52 + 6 * s + 5) (nI 0)
theorem upd_ne {g : Nat → Int32} {j i : Nat} (x : Int32) (h : i ≠ j) : upd g j x i = g i := if_neg h
theorem upd_eq (g : Nat → Int32) (j : Nat) (x : Int32) : upd g j x j = x := if_pos rfl
theorem gns_o {g : Nat → Int32} {s d h l k ne j : Nat} (h1 : j ≠ 51) (h2 : j < 52 + 6 * s ∨ 52 + 6 * s + 6 ≤ j) : gns g s d h l k ne j = g j := by
  unfold gns
  rw [upd_ne _ (by omega), upd_ne _ (by omega), upd_ne _ (by omega), upd_ne _ (by omega), upd_ne _ (by omega), upd_ne _ (by omega), upd_ne _ h1]
theorem RM_ns {g : Nat → Int32} {v : Nat → Nat} (hV : VV v) (hg : RM g v) (h16 : v 1 < 16) (d h l k ne : Nat) : RM (gns g (v 1) d h l k ne) (vns v d h l k ne) := by
  have hB := hV.1
  obtain ⟨h0, h1, h2, h3, h4, h5, h6⟩ := hg
  have hnew := vns_new v d h l k ne
  have e0 : vns v d h l k ne 0 = v 0 := vns_o (by omega) (by omega)
  have e1 : vns v d h l k ne 1 = v 1 + 1 := vns_1 v d h l k ne
  have e2 : vns v d h l k ne 2 = v 2 := vns_o (by omega) (by omega)
  have ew : ∀ w2 p, w2 < v 0 → p < 5 → wk (vns v d h l k ne) w2 p = wk v w2 p := fun w2 p a b => vns_o (by omega) (by omega)
  have eb : ∀ w2 s2, w2 < 10 → s2 < 16 → bd (vns v d h l k ne) w2 s2 = bd v w2 s2 := fun w2 s2 a b => vns_o (by omega) (by omega)
  have ea : ∀ i p, i < v 2 → p < 2 → aw (vns v d h l k ne) i p = aw v i p := fun i p a b => vns_o (by omega) (by omega)
  refine ⟨?_, ?_, ?_, fun w2 p a b => ?_, fun s2 p a b => ?_, fun w2 s2 a b => ?_, fun i p a b => ?_⟩
  · rw [gns_o (by omega) (by omega), e0]; exact h0
  · rw [e1]
    unfold gns
    rw [upd_ne _ (by omega), upd_ne _ (by omega), upd_ne _ (by omega), upd_ne _ (by omega), upd_ne _ (by omega), upd_ne _ (by omega), upd_eq]
  · rw [gns_o (by omega) (by omega), e2]; exact h2
  · rw [e0] at a
    rw [gns_o (by omega) (by omega), h3 w2 p a b, ew w2 p a b]
  · rw [e1] at a
    by_cases hs : s2 = v 1
    · subst hs
      obtain ⟨n0, n1, n2, n3, n4, n5, _⟩ := hnew
      unfold gns
      match p, b with
      | 0, _ => rw [upd_ne _ (by omega), upd_ne _ (by omega), upd_ne _ (by omega), upd_ne _ (by omega), upd_ne _ (by omega), n0]; exact upd_eq _ _ _
      | 1, _ => rw [upd_ne _ (by omega), upd_ne _ (by omega), upd_ne _ (by omega), upd_ne _ (by omega), upd_eq, n1]
      | 2, _ => rw [upd_ne _ (by omega), upd_ne _ (by omega), upd_ne _ (by omega), upd_eq, n2]
      | 3, _ => rw [upd_ne _ (by omega), upd_ne _ (by omega), upd_eq, n3]
      | 4, _ => rw [upd_ne _ (by omega), upd_eq, n4]
      | 5, _ => rw [upd_eq, n5]
    · rw [gns_o (by omega) (by omega), h4 s2 p (by omega) b, vns_sh hs (by omega)]
  · rw [e0] at a
    rw [gns_o (by omega) (by omega), h5 w2 s2 a b, eb w2 s2 (by omega) b]
  · rw [e2] at a
    rw [gns_o (by omega) (by omega), h6 i p a b, ea i p a b]
theorem m_opensShift {Y : ab_XX} {v : Nat → Nat} (g : RM (Y 14) v) (h16 : v 1 < 16) (d h l k ne : Nat) : F_M_opensShift Y (nI d) (nI h) (nI l) (nI k) (nI ne) = some (nI (v 1), fun o => if o = 14 then gns (Y 14) (v 1) d h l k ne else Y o) := by
  have e51 : Y 14 51 = nI (v 1) := g.2.1
  unfold F_M_opensShift
  rw [m_shifts g, Option.bind_some, Option.bind_some, e51, p_mul, nI_add]
  simp only [nI_add]
  rw [if_pos (p_in (by omega) (by decide)), Option.bind_some, if_pos (p_in (by omega) (by decide)), Option.bind_some, if_pos (p_in (by omega) (by decide)), Option.bind_some, if_pos (p_in (by omega) (by decide)), Option.bind_some, if_pos (p_in (by omega) (by decide)), Option.bind_some, if_pos (p_in (by omega) (by decide)), Option.bind_some]
  rw [nI_clamp (by omega), nI_clamp (by omega), nI_clamp (by omega), nI_clamp (by omega), nI_clamp (by omega), nI_clamp (by omega), nI_clamp (by omega)]
  congr 2
  funext o
  unfold ab_up gns
  by_cases ho : o = 14
  · subst ho
    simp
  · simp [ho]
