/-! ===== PURE: a new award ===== -/
theorem smf_mono {f g : Nat → Nat} : ∀ n, (∀ i, i < n → f i ≤ g i) → smf f n ≤ smf g n := by
  intro n
  induction n with
  | zero => intro _; exact Nat.le_refl _
  | succ n ih =>
    intro h
    rw [smf_succ, smf_succ]
    have h1 := ih (fun i hi => h i (by omega))
    have h2 := h n (by omega)
    omega
theorem smf_lt {f g : Nat → Nat} {j : Nat} : ∀ n, j < n → (∀ i, i < n → f i ≤ g i) → f j < g j → smf f n < smf g n := by
  intro n
  induction n with
  | zero => intro h; omega
  | succ n ih =>
    intro hj h hl
    rw [smf_succ, smf_succ]
    by_cases hjn : j = n
    · subst hjn
      have := smf_mono (f := f) (g := g) j (fun i hi => h i (by omega))
      omega
    · have h1 := ih (by omega) (fun i hi => h i (by omega)) hl
      have h2 := h n (by omega)
      omega
theorem smf_0 : ∀ n, smf (fun _ => 0) n = 0 := by
  intro n
  induction n with
  | zero => rfl
  | succ n ih => rw [smf_succ, ih]
theorem cov_sum {v : Nat → Nat} (hV : VV v) : smf (fun s => cov v s) (v 1) = v 2 := by
  have key : ∀ K, K ≤ v 2 → smf (fun s => cn (fun i => decide (aw v i 1 = s)) K) (v 1) = K := by
    intro K
    induction K with
    | zero => intro _; exact smf_0 (v 1)
    | succ K ih =>
      intro hK
      have ha := hV.2.2.2.2.1 K (by omega)
      have e := smf_upd (f := fun s => cn (fun i => decide (aw v i 1 = s)) K) (g := fun s => cn (fun i => decide (aw v i 1 = s)) (K + 1)) (j := aw v K 1) (d := 1) (v 1) ha.2 (fun s hs => by
        show cn (fun i => decide (aw v i 1 = s)) K + (decide (aw v K 1 = s)).toNat = _
        rw [decide_eq_false (fun z => hs z.symm)]
        rfl) (by
        show cn (fun i => decide (aw v i 1 = aw v K 1)) K + (decide (aw v K 1 = aw v K 1)).toNat = _
        rw [decide_eq_true rfl]
        rfl)
      rw [e, ih (by omega)]
  exact key (v 2) (Nat.le_refl _)
theorem room_award {v : Nat → Nat} (hV : VV v) {s : Nat} (hs : s < v 1) (hc : cov v s < sh v s 4) : v 2 < 48 := by
  have hB := hV.1
  have h1 := smf_lt (f := fun s => cov v s) (g := fun s => sh v s 4) (v 1) hs (fun i hi => hV.2.2.2.2.2.1 i hi) hc
  rw [cov_sum hV] at h1
  have h2 := smf_le (f := fun s => sh v s 4) (c := 3) (v 1) (fun i hi => (hV.2.2.1 i hi).2.2.2.2.2.2.1)
  omega
def vna (v : Nat → Nat) (w s : Nat) : Nat → Nat := uv (uv (uv v (357 + v 2 * 2 + 0) w) (357 + v 2 * 2 + 1) s) 2 (v 2 + 1)
theorem vna_o {v : Nat → Nat} {w s j : Nat} (h1 : j ≠ 2) (h2 : j < 357 + v 2 * 2 ∨ 357 + v 2 * 2 + 2 ≤ j) : vna v w s j = v j := by
  unfold vna
  rw [uv_ne _ h1, uv_ne _ (by omega), uv_ne _ (by omega)]
theorem vna_2 (v : Nat → Nat) (w s : Nat) : vna v w s 2 = v 2 + 1 := uv_eq _ _ _
theorem vna_n0 (v : Nat → Nat) (w s : Nat) : aw (vna v w s) (v 2) 0 = w := by
  unfold aw vna
  rw [uv_ne _ (by omega), uv_ne _ (by omega), uv_eq]
theorem vna_n1 (v : Nat → Nat) (w s : Nat) : aw (vna v w s) (v 2) 1 = s := by
  unfold aw vna
  rw [uv_ne _ (by omega), uv_eq]
theorem vna_aw {v : Nat → Nat} {w s i p : Nat} (hi : i < v 2) (hp : p < 2) : aw (vna v w s) i p = aw v i p := vna_o (by omega) (by omega)
theorem vna_cov (v : Nat → Nat) (w s x : Nat) : cov (vna v w s) x = cov v x + (decide (s = x)).toNat := by
  unfold cov
  rw [vna_2]
  show cn _ (v 2) + (decide (aw (vna v w s) (v 2) 1 = x)).toNat = _
  rw [vna_n1, cn_congr (q := fun i => decide (aw v i 1 = x)) (v 2) (fun i hi => by rw [vna_aw hi (by decide)])]
theorem ob_none {v : Nat → Nat} {w s set : Nat} {ex : Bool} (h : (ob v w s set ex).1 = 0) : set.testBit s = false ∧ (ex = false → cov v s ≠ sh v s 4) ∧ lwi v 0 s set = none := by
  unfold ob at h
  cases h1 : set.testBit s with
  | true => rw [h1, if_pos rfl] at h; cases h
  | false =>
    rw [h1, if_neg (by decide)] at h
    split at h
    · split at h
      · cases h
      · rename_i hc
        refine ⟨rfl, fun he z => hc ⟨he, z⟩, ?_⟩
        unfold ot at h
        cases h2 : lwi v 0 s set with
        | none => rfl
        | some o => rw [h2] at h; cases h
    · cases h
theorem lwi_no {v : Nat → Nat} {s set : Nat} (h : lwi v 0 s set = none) {o : Nat} (ho : o < v 1) (hb0 : set.testBit o = true) : sh v o 7 ≤ sh v s 6 ∨ sh v s 7 ≤ sh v o 6 := by
  have h1 := lo_none h o (Nat.zero_le _) (by omega)
  rw [hb0, Bool.true_and] at h1
  unfold near at h1
  rw [Bool.and_eq_false_iff, decide_eq_false_iff_not, decide_eq_false_iff_not] at h1
  omega
theorem VV_na {v : Nat → Nat} (hV : VV v) {w s : Nat} (hw : w < v 0) (hs : s < v 1) (hn : lwi v 0 s (hb v 0 1 w (v 2)) = none) (hc : cov v s < sh v s 4) : VV (vna v w s) := by
  have h48 := room_award hV hs hc
  have hV0 := hV
  obtain ⟨hB, h1, h2, h3, h4, h5, h6⟩ := hV
  have e0 : vna v w s 0 = v 0 := vna_o (by omega) (by omega)
  have e1 : vna v w s 1 = v 1 := vna_o (by omega) (by omega)
  have e2 : vna v w s 2 = v 2 + 1 := vna_2 v w s
  have ew : ∀ w2 p, w2 < v 0 → p < 5 → wk (vna v w s) w2 p = wk v w2 p := fun w2 p a b => vna_o (by omega) (by omega)
  have es : ∀ s2 p, s2 < v 1 → p < 9 → sh (vna v w s) s2 p = sh v s2 p := fun s2 p a b => vna_o (by omega) (by omega)
  have eb : ∀ w2 s2, w2 < 10 → s2 < 16 → bd (vna v w s) w2 s2 = bd v w2 s2 := fun w2 s2 a b => vna_o (by omega) (by omega)
  unfold VV
  rw [e0, e1, e2]
  refine ⟨⟨hB.1, hB.2.1, by omega⟩, fun w2 a => ?_, fun s2 a => ?_, fun w2 s2 a b => ?_, fun i a => ?_, fun s2 a => ?_, fun i j a b => ?_⟩
  · rw [ew w2 0 a (by decide), ew w2 1 a (by decide), ew w2 2 a (by decide), ew w2 3 a (by decide), ew w2 4 a (by decide)]
    exact h1 w2 a
  · rw [es s2 0 a (by decide), es s2 1 a (by decide), es s2 2 a (by decide), es s2 3 a (by decide), es s2 4 a (by decide), es s2 5 a (by decide), es s2 6 a (by decide), es s2 7 a (by decide), es s2 8 a (by decide)]
    exact h2 s2 a
  · rw [eb w2 s2 a b]
    exact h3 w2 s2 a b
  · by_cases hi : i = v 2
    · subst hi
      rw [vna_n0, vna_n1]
      exact ⟨hw, hs⟩
    · rw [vna_aw (by omega) (by decide), vna_aw (by omega) (by decide)]
      exact h4 i (by omega)
  · rw [vna_cov, es s2 4 a (by decide)]
    by_cases hss : s = s2
    · subst hss
      rw [decide_eq_true rfl]
      exact hc
    · rw [decide_eq_false hss]
      exact h5 s2 a
  · by_cases hj : j = v 2
    · subst hj
      have hi := h4 i a
      rw [vna_n0, vna_n1, vna_aw a (by decide), vna_aw a (by decide), es _ 7 hi.2 (by decide), es _ 6 hi.2 (by decide), es _ 7 hs (by decide), es _ 6 hs (by decide)]
      intro hwi
      exact lwi_no hn hi.2 ((hb_t v 0 1 w (aw v i 1) (v 2)).mpr ⟨i, a, hwi, rfl⟩)
    · have hi := (h4 i (by omega)).2
      have hj2 := (h4 j (by omega)).2
      rw [vna_aw (by omega) (by decide), vna_aw (by omega) (by decide), vna_aw (by omega) (by decide), vna_aw (by omega) (by decide), es _ 7 hi (by decide), es _ 6 hj2 (by decide), es _ 7 hj2 (by decide), es _ 6 hi (by decide)]
      exact h6 i j a (by omega)
theorem c_enterAward {X : ab_XX} {v : Nat → Nat} (hR : RC (X 3) v) (h48 : v 2 < 48) (w s : Nat) : ∃ f, F_K_enterAward X (nI w) (nI s) = some ((), fun o => if o = 3 then f else X o) ∧ RC f (vna v w s) := by
  refine ⟨_, ?_, RC_upd (RC_upd (RC_upd hR (357 + v 2 * 2 + 0) w) (357 + v 2 * 2 + 1) s) 2 (v 2 + 1)⟩
  unfold F_K_enterAward
  rw [c_2 hR, if_pos (nI_lt h48 (by decide))]
  simp only [p_mul, nI_add]
  rw [c_put _ (by omega), b3_s, c_put _ (by omega), b3_s, c_put _ (by omega), b3_s]
  congr 2
  funext o
  unfold ab_up
  by_cases ho : o = 3
  · subst ho
    simp
  · simp [ho]
def gna (g : Nat → Int32) (n w s : Nat) : Nat → Int32 := upd (upd (upd g 308 (nI (n + 1))) (309 + 2 * n) (nI w)) (309 + 2 * n + 1) (nI s)
theorem gna_o {g : Nat → Int32} {n w s j : Nat} (h1 : j ≠ 308) (h2 : j < 309 + 2 * n ∨ 309 + 2 * n + 2 ≤ j) : gna g n w s j = g j := by
  unfold gna
  rw [upd_ne _ (by omega), upd_ne _ (by omega), upd_ne _ h1]
theorem RM_na {g : Nat → Int32} {v : Nat → Nat} (hV : VV v) (hg : RM g v) (h48 : v 2 < 48) (w s : Nat) : RM (gna g (v 2) w s) (vna v w s) := by
  have hB := hV.1
  obtain ⟨h0, h1, h2, h3, h4, h5, h6⟩ := hg
  have e0 : vna v w s 0 = v 0 := vna_o (by omega) (by omega)
  have e1 : vna v w s 1 = v 1 := vna_o (by omega) (by omega)
  have e2 : vna v w s 2 = v 2 + 1 := vna_2 v w s
  have ew : ∀ w2 p, w2 < v 0 → p < 5 → wk (vna v w s) w2 p = wk v w2 p := fun w2 p a b => vna_o (by omega) (by omega)
  have es : ∀ s2 p, s2 < v 1 → p < 9 → sh (vna v w s) s2 p = sh v s2 p := fun s2 p a b => vna_o (by omega) (by omega)
  have eb : ∀ w2 s2, w2 < 10 → s2 < 16 → bd (vna v w s) w2 s2 = bd v w2 s2 := fun w2 s2 a b => vna_o (by omega) (by omega)
  refine ⟨?_, ?_, ?_, fun w2 p q r => ?_, fun s2 p q r => ?_, fun w2 s2 q r => ?_, fun i p q r => ?_⟩
  · rw [gna_o (by omega) (by omega), e0]; exact h0
  · rw [gna_o (by omega) (by omega), e1]; exact h1
  · rw [e2]
    unfold gna
    rw [upd_ne _ (by omega), upd_ne _ (by omega), upd_eq]
  · rw [e0] at q
    rw [gna_o (by omega) (by omega), h3 w2 p q r, ew w2 p q r]
  · rw [e1] at q
    rw [gna_o (by omega) (by omega), h4 s2 p q r, es s2 p q (by omega)]
  · rw [e0] at q
    rw [gna_o (by omega) (by omega), h5 w2 s2 q r, eb w2 s2 (by omega) r]
  · rw [e2] at q
    by_cases hi : i = v 2
    · subst hi
      match p, r with
      | 0, _ =>
        rw [vna_n0]
        unfold gna
        rw [upd_ne _ (by omega)]
        exact upd_eq _ _ _
      | 1, _ =>
        rw [vna_n1]
        exact upd_eq _ _ _
    · rw [gna_o (by omega) (by omega), h6 i p (by omega) r, vna_aw (by omega) r]
theorem m_gives {Y : ab_XX} {v : Nat → Nat} (g : RM (Y 14) v) (h48 : v 2 < 48) (w s : Nat) : F_M_gives Y (nI w) (nI s) = some ((), fun o => if o = 14 then gna (Y 14) (v 2) w s else Y o) := by
  have e308 : Y 14 308 = nI (v 2) := g.2.2.1
  unfold F_M_gives
  rw [m_awards g, Option.bind_some, Option.bind_some, e308, p_mul, nI_add]
  simp only [nI_add]
  rw [if_pos (p_in (by omega) (by decide)), Option.bind_some, if_pos (p_in (by omega) (by decide)), Option.bind_some]
  rw [nI_clamp (by omega), nI_clamp (by omega), nI_clamp (by omega)]
  congr 2
  funext o
  unfold ab_up gna
  by_cases ho : o = 14
  · subst ho
    simp
  · simp [ho]
theorem VB_na {v : Nat → Nat} (hV : VV v) (h48 : v 2 < 48) (h8 : VB v) {w s : Nat} (hV2 : VV (vna v w s)) : VB (vna v w s) := by
  have hB := hV.1
  exact VB_same hV hV2 h8 (vna_o (by omega) (by omega)) (vna_o (by omega) (by omega)) (fun w2 s2 a b => vna_o (by omega) (by omega))
