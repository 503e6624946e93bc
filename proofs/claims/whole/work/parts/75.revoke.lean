/-! ===== PURE: awards change, the rest stays ===== -/
theorem VV_aws {v u : Nat → Nat} (hV : VV v) (he : ∀ j, j < 357 → j ≠ 2 → u j = v j) (h2 : u 2 ≤ 48) (ha : ∀ i, i < u 2 → aw u i 0 < v 0 ∧ aw u i 1 < v 1) (hc : ∀ s, s < v 1 → cov u s ≤ sh v s 4) (hn : ∀ i j, i < j → j < u 2 → aw u i 0 = aw u j 0 → sh v (aw u i 1) 7 ≤ sh v (aw u j 1) 6 ∨ sh v (aw u j 1) 7 ≤ sh v (aw u i 1) 6) : VV u := by
  obtain ⟨hB, h1, hs2, h3, h4, h5, h6⟩ := hV
  have e0 : u 0 = v 0 := he 0 (by decide) (by decide)
  have e1 : u 1 = v 1 := he 1 (by decide) (by decide)
  have ew : ∀ w2 p, w2 < v 0 → p < 5 → wk u w2 p = wk v w2 p := fun w2 p a b => he _ (by omega) (by omega)
  have es : ∀ s2 p, s2 < v 1 → p < 9 → sh u s2 p = sh v s2 p := fun s2 p a b => he _ (by omega) (by omega)
  have eb : ∀ w2 s2, w2 < 10 → s2 < 16 → bd u w2 s2 = bd v w2 s2 := fun w2 s2 a b => he _ (by omega) (by omega)
  unfold VV
  rw [e0, e1]
  refine ⟨⟨hB.1, hB.2.1, h2⟩, fun w2 a => ?_, fun s2 a => ?_, fun w2 s2 a b => ?_, ha, fun s2 a => ?_, fun i j a b c => ?_⟩
  · rw [ew w2 0 a (by decide), ew w2 1 a (by decide), ew w2 2 a (by decide), ew w2 3 a (by decide), ew w2 4 a (by decide)]
    exact h1 w2 a
  · rw [es s2 0 a (by decide), es s2 1 a (by decide), es s2 2 a (by decide), es s2 3 a (by decide), es s2 4 a (by decide), es s2 5 a (by decide), es s2 6 a (by decide), es s2 7 a (by decide), es s2 8 a (by decide)]
    exact hs2 s2 a
  · rw [eb w2 s2 a b]
    exact h3 w2 s2 a b
  · rw [es s2 4 a (by decide)]
    exact hc s2 a
  · have hi := (ha i (by omega)).2
    have hj := (ha j b).2
    rw [es _ 7 hi (by decide), es _ 6 hj (by decide), es _ 7 hj (by decide), es _ 6 hi (by decide)]
    exact hn i j a b c
theorem RM_aws {g g2 : Nat → Int32} {v u : Nat → Nat} (hB : v 0 ≤ 10 ∧ v 1 ≤ 16) (hg : RM g v) (he : ∀ j, j < 357 → j ≠ 2 → u j = v j) (hg2 : ∀ j, j < 308 → g2 j = g j) (h308 : g2 308 = nI (u 2)) (ha : ∀ i p, i < u 2 → p < 2 → g2 (309 + 2 * i + p) = nI (aw u i p)) : RM g2 u := by
  obtain ⟨h0, h1, h2, h3, h4, h5, h6⟩ := hg
  have e0 : u 0 = v 0 := he 0 (by decide) (by decide)
  have e1 : u 1 = v 1 := he 1 (by decide) (by decide)
  refine ⟨?_, ?_, h308, fun w2 p q r => ?_, fun s2 p q r => ?_, fun w2 s2 q r => ?_, ha⟩
  · rw [hg2 0 (by decide), e0]; exact h0
  · rw [hg2 51 (by decide), e1]; exact h1
  · rw [e0] at q
    rw [hg2 _ (by omega), h3 w2 p q r]
    exact congrArg nI (he _ (by omega) (by omega)).symm
  · rw [e1] at q
    rw [hg2 _ (by omega), h4 s2 p q r]
    exact congrArg nI (he _ (by omega) (by omega)).symm
  · rw [e0] at q
    rw [hg2 _ (by omega), h5 w2 s2 q r]
    exact congrArg nI (he _ (by omega) (by omega)).symm
theorem VB_aws {v u : Nat → Nat} (hV : VV v) (hU : VV u) (h8 : VB v) (he : ∀ j, j < 357 → j ≠ 2 → u j = v j) : VB u := by
  have hB := hV.1
  exact VB_same hV hU h8 (he 0 (by decide) (by decide)) (he 1 (by decide) (by decide)) (fun w2 s2 a b => he _ (by omega) (by omega))
/-! ===== PURE: an award goes ===== -/
def vsf (v : Nat → Nat) (d k : Nat) : Nat → Nat := fun j => if 357 + 2 * d ≤ j ∧ j < 357 + 2 * k then v (j + 2) else v j
theorem vsf_0 (v : Nat → Nat) (d : Nat) : vsf v d d = v := by
  funext j
  unfold vsf
  rw [if_neg (by omega)]
theorem vsf_lo {v : Nat → Nat} {d k j : Nat} (h : j < 357 + 2 * d) : vsf v d k j = v j := by
  unfold vsf
  rw [if_neg (by omega)]
theorem vsf_hi {v : Nat → Nat} {d k j : Nat} (h : 357 + 2 * k ≤ j) : vsf v d k j = v j := by
  unfold vsf
  rw [if_neg (by omega)]
theorem vsf_s (v : Nat → Nat) {d k : Nat} (h : d ≤ k) : uv (uv (vsf v d k) (357 + k * 2 + 0) (aw (vsf v d k) (k + 1) 0)) (357 + k * 2 + 1) (aw (vsf v d k) (k + 1) 1) = vsf v d (k + 1) := by
  funext j
  unfold aw
  rw [vsf_hi (by omega), vsf_hi (by omega)]
  by_cases h1 : j = 357 + k * 2 + 1
  · subst h1
    rw [uv_eq]
    unfold vsf
    rw [if_pos (by omega)]
    congr 1
    omega
  · rw [uv_ne _ h1]
    by_cases h0 : j = 357 + k * 2 + 0
    · subst h0
      rw [uv_eq]
      unfold vsf
      rw [if_pos (by omega)]
      congr 1
      omega
    · rw [uv_ne _ h0]
      unfold vsf
      by_cases h2 : 357 + 2 * d ≤ j ∧ j < 357 + 2 * k
      · rw [if_pos h2, if_pos (by omega)]
      · rw [if_neg h2, if_neg (by omega)]
/-- award d gone -/
def vrm (v : Nat → Nat) (d : Nat) : Nat → Nat := uv (vsf v d (v 2 - 1)) 2 (v 2 - 1)
theorem c_rmLoop {X0 : ab_XX} {v : Nat → Nat} (h48 : v 2 ≤ 48) {d : Nat} (hd : d < v 2) : ∀ (m k : Nat) (Y : ab_XX) (c : Nat), k + m = v 2 - 1 → d ≤ k → m < c → (∀ o, o ≠ 3 → Y o = X0 o) → RC (Y 3) (vsf v d k) →
    ∃ f, L_K_removeAward_18 c Y (nI (v 2 - 1)) (nI k) = some ((), fun o => if o = 3 then f else X0 o) ∧ RC f (vrm v d) := by
  intro m
  induction m with
  | zero =>
    intro k Y c hk hdk hc hY hR
    cases c with
    | zero => omega
    | succ c =>
      have hk2 : k = v 2 - 1 := by omega
      subst hk2
      rw [L_K_removeAward_18, if_pos (nI_le (Nat.le_refl _) (by omega)), c_put _ (by decide), b3_s]
      refine ⟨ab_up Y 3 2 (nI (v 2 - 1)) 3, ?_, ?_⟩
      · congr 2
        funext o
        by_cases ho : o = 3
        · subst ho
          rfl
        · rw [p_up_ne _ _ _ _ _ ho, if_neg ho, hY o ho]
      · rw [p_up_eq]
        exact RC_upd hR _ _
  | succ m ih =>
    intro k Y c hk hdk hc hY hR
    cases c with
    | zero => omega
    | succ c =>
      rw [L_K_removeAward_18, if_neg (nI_ge (by omega) (by omega)), nI_add, c_awardPart hR (by omega) (by decide), Option.bind_some]
      simp only [p_mul, nI_add]
      have hR1 : RC (ab_up Y 3 (357 + k * 2 + 0) (nI (aw (vsf v d k) (k + 1) 0)) 3) (uv (vsf v d k) (357 + k * 2 + 0) (aw (vsf v d k) (k + 1) 0)) := by
        rw [p_up_eq]
        exact RC_upd hR _ _
      rw [c_put _ (by omega), b3_s, c_awardPart hR1 (by omega) (by decide), Option.bind_some, c_put _ (by omega), b3_s]
      have ea : aw (uv (vsf v d k) (357 + k * 2 + 0) (aw (vsf v d k) (k + 1) 0)) (k + 1) 1 = aw (vsf v d k) (k + 1) 1 := uv_ne _ (by omega)
      rw [ea]
      refine ih (k + 1) _ c (by omega) (by omega) (by omega) (fun o ho => ?_) ?_
      · rw [p_up_ne _ _ _ _ _ ho, p_up_ne _ _ _ _ _ ho, hY o ho]
      · rw [← vsf_s v hdk, p_up_eq]
        exact RC_upd hR1 _ _
theorem c_removeAward {X : ab_XX} {v : Nat → Nat} (hR : RC (X 3) v) (h48 : v 2 ≤ 48) {d : Nat} (hd : d < v 2) : ∃ f, F_K_removeAward X (nI d) = some ((), fun o => if o = 3 then f else X o) ∧ RC f (vrm v d) := by
  unfold F_K_removeAward F_K_isAward
  rw [if_neg (nI_nlt (Nat.zero_le _) (by omega)), c_2 hR, if_neg (nI_ge hd (by omega)), Option.bind_some, if_neg n10, c_awardTotal hR, Option.bind_some, p_sub (by omega)]
  exact c_rmLoop h48 hd (v 2 - 1 - d) d X ab_fu (by omega) (Nat.le_refl _) (by unfold ab_fu; omega) (fun _ _ => rfl) (by rw [vsf_0]; exact hR)
theorem vrm_lo {v : Nat → Nat} {d j : Nat} (h : j < 357) (h2 : j ≠ 2) : vrm v d j = v j := by
  unfold vrm
  rw [uv_ne _ h2, vsf_lo (by omega)]
theorem vrm_2 (v : Nat → Nat) (d : Nat) : vrm v d 2 = v 2 - 1 := uv_eq _ _ _
theorem vrm_aw {v : Nat → Nat} {d i p : Nat} (hd : d < v 2) (hi : i < v 2 - 1) (hp : p < 2) : aw (vrm v d) i p = aw v (if i < d then i else i + 1) p := by
  unfold vrm aw
  rw [uv_ne _ (by omega)]
  unfold vsf
  by_cases h : i < d
  · rw [if_pos h, if_neg (by omega)]
  · rw [if_neg h, if_pos (by omega)]
    congr 1
    omega
theorem cn_rm (p : Nat → Bool) {d : Nat} : ∀ n, d ≤ n → cn p (n + 1) = cn (fun i => p (if i < d then i else i + 1)) n + (p d).toNat := by
  intro n
  induction n with
  | zero =>
    intro h
    have : d = 0 := by omega
    subst this
    rfl
  | succ n ih =>
    intro h
    by_cases hd : d = n + 1
    · subst hd
      show cn p (n + 1) + (p (n + 1)).toNat = _
      rw [cn_congr (p := fun i => p (if i < n + 1 then i else i + 1)) (q := p) (n + 1) (fun i hi => by rw [if_pos hi])]
    · show cn p (n + 1) + (p (n + 1)).toNat = cn _ n + (p (if n < d then n else n + 1)).toNat + _
      rw [ih (by omega), if_neg (by omega)]
      omega
theorem vrm_cov {v : Nat → Nat} {d : Nat} (hd : d < v 2) (s : Nat) : cov v s = cov (vrm v d) s + (decide (aw v d 1 = s)).toNat := by
  unfold cov
  rw [vrm_2, show v 2 = (v 2 - 1) + 1 by omega, cn_rm _ (v 2 - 1) (by omega : d ≤ v 2 - 1)]
  rw [Nat.add_sub_cancel]
  congr 1
  exact cn_congr _ (fun i hi => by rw [vrm_aw hd hi (by decide)])
theorem VV_rm {v : Nat → Nat} (hV : VV v) {d : Nat} (hd : d < v 2) : VV (vrm v d) := by
  have hB := hV.1
  refine VV_aws hV (fun j h1 h2 => vrm_lo h1 h2) (by rw [vrm_2]; omega) (fun i hi => ?_) (fun s hs => ?_) (fun i j hij hj => ?_)
  · rw [vrm_2] at hi
    rw [vrm_aw hd hi (by decide), vrm_aw hd hi (by decide)]
    exact hV.2.2.2.2.1 _ (by split <;> omega)
  · have := vrm_cov hd s
    have := hV.2.2.2.2.2.1 s hs
    omega
  · rw [vrm_2] at hj
    rw [vrm_aw hd hj (by decide), vrm_aw hd hj (by decide), vrm_aw hd (by omega : i < v 2 - 1) (by decide), vrm_aw hd (by omega : i < v 2 - 1) (by decide)]
    exact hV.2.2.2.2.2.2 _ _ (by split <;> split <;> omega) (by split <;> omega)
