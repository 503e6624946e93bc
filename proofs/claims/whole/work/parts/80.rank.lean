/-! ===== PURE: every rank has its worker; the choice can be given ===== -/
theorem inj_sur : ∀ (n : Nat) (f : Nat → Nat), (∀ i, i < n → f i < n) → (∀ i j, i < n → j < n → f i = f j → i = j) → ∀ r, r < n → ∃ i, i < n ∧ f i = r := by
  intro n
  induction n with
  | zero => intro f _ _ r hr; omega
  | succ n ih =>
    intro f hf hi r hr
    have g1 : ∀ i, i < n → (if f i = n then f n else f i) < n := fun i h => by
      have h1 := hf i (by omega)
      have h2 := hf n (by omega)
      split
      · rename_i q
        have : f n ≠ n := fun z => by
          have := hi i n (by omega) (by omega) (by rw [q, z])
          omega
        omega
      · omega
    have g2 : ∀ i j, i < n → j < n → (if f i = n then f n else f i) = (if f j = n then f n else f j) → i = j := fun i j h1 h2 z => by
      split at z
      · rename_i q
        split at z
        · rename_i q2
          exact hi i j (by omega) (by omega) (by rw [q, q2])
        · have := hi n j (by omega) (by omega) z
          omega
      · split at z
        · have := hi i n (by omega) (by omega) z
          omega
        · exact hi i j (by omega) (by omega) z
    by_cases hrm : r = f n
    · exact ⟨n, by omega, hrm.symm⟩
    · by_cases hrn : r = n
      · have hm : f n < n := by
          have := hf n (by omega)
          omega
        obtain ⟨i, a, b⟩ := ih (fun i => if f i = n then f n else f i) g1 g2 (f n) hm
        have b2 : (if f i = n then f n else f i) = f n := b
        split at b2
        · rename_i q
          exact ⟨i, by omega, by rw [q, hrn]⟩
        · have := hi i n (by omega) (by omega) b2
          omega
      · obtain ⟨i, a, b⟩ := ih (fun i => if f i = n then f n else f i) g1 g2 r (by omega)
        have b2 : (if f i = n then f n else f i) = r := b
        split at b2
        · exact absurd b2.symm hrm
        · exact ⟨i, by omega, b2⟩
theorem cn_lt {p q : Nat → Bool} {j : Nat} : ∀ n, j < n → (∀ i, i < n → p i = true → q i = true) → p j = false → q j = true → cn p n < cn q n := by
  intro n
  induction n with
  | zero => intro h; omega
  | succ n ih =>
    intro hj h hp hq
    show cn p n + (p n).toNat < cn q n + (q n).toNat
    by_cases hjn : j = n
    · subst hjn
      have := cn_mono (p := p) (q := q) j (fun i hi => h i (by omega))
      rw [hp, hq]
      show cn p j + 0 < cn q j + 1
      omega
    · have h1 := ih (by omega) (fun i hi => h i (by omega)) hp hq
      have h2 : (p n).toNat ≤ (q n).toNat := by
        cases hpn : p n with
        | false => exact Nat.zero_le _
        | true => rw [h n (by omega) hpn]; exact Nat.le_refl _
      omega
theorem rk_cn (v : Nat → Nat) (w : Nat) : rk v w = cn (fun o => ah v o w) (v 0) := by
  unfold rk
  have key : ∀ n, fo (fun o a => if ah v o w = true then a + 1 else a) 0 0 n = cn (fun o => ah v o w) n := by
    intro n
    induction n with
    | zero => rfl
    | succ n ih =>
      rw [fo_snoc, Nat.zero_add, ih]
      show _ = cn (fun o => ah v o w) n + (ah v n w).toNat
      cases ah v n w <;> rfl
  exact key (v 0)
theorem ah_t (v : Nat → Nat) (o w : Nat) : ah v o w = true ↔ wk v w 0 < wk v o 0 ∨ (wk v o 0 = wk v w 0 ∧ o < w) := by
  unfold ah
  rw [Bool.or_eq_true, Bool.and_eq_true, decide_eq_true_eq, decide_eq_true_eq, decide_eq_true_eq]
theorem rk_lt2 {v : Nat → Nat} {o w : Nat} (ho : o < v 0) (h : ah v o w = true) : rk v o < rk v w := by
  rw [rk_cn, rk_cn]
  refine cn_lt (j := o) (v 0) ho (fun i _ hi => ?_) (ah_self v o) h
  have h1 := (ah_t v i o).mp hi
  have h2 := (ah_t v o w).mp h
  exact (ah_t v i w).mpr (by omega)
theorem rk_inj {v : Nat → Nat} {o w : Nat} (ho : o < v 0) (hw : w < v 0) (h : rk v o = rk v w) : o = w := by
  rcases Nat.lt_trichotomy o w with q | q | q
  · exfalso
    by_cases q2 : wk v o 0 < wk v w 0
    · have := rk_lt2 hw ((ah_t v w o).mpr (.inl q2)); omega
    · have := rk_lt2 ho ((ah_t v o w).mpr (by omega)); omega
  · exact q
  · exfalso
    by_cases q2 : wk v w 0 < wk v o 0
    · have := rk_lt2 ho ((ah_t v o w).mpr (.inl q2)); omega
    · have := rk_lt2 hw ((ah_t v w o).mpr (by omega)); omega
theorem rk_lt (v : Nat → Nat) {w : Nat} (hw : w < v 0) : rk v w < v 0 := by
  rw [rk_cn]
  have h1 := cn_lt (p := fun o => ah v o w) (q := fun _ => true) (j := w) (v 0) hw (fun _ _ _ => rfl) (ah_self v w) rfl
  have h2 := cn_le (fun _ => true) (v 0)
  omega
theorem atr_ex {v : Nat → Nat} {r : Nat} (hr : r < v 0) : ∃ w, atr v r = some w ∧ w < v 0 := by
  obtain ⟨w, hw, e⟩ := inj_sur (v 0) (rk v) (fun i hi => rk_lt v hi) (fun i j hi hj => rk_inj hi hj) r hr
  unfold atr
  cases h : lo (fun w => decide (rk v w = r)) 0 (v 0) with
  | none =>
    have := lo_none h w (Nat.zero_le _) (by omega)
    exact absurd e (of_decide_eq_false this)
  | some i =>
    have := lo_some h
    exact ⟨i, rfl, by omega⟩
theorem cst2_ok {v : Nat → Nat} {w set s : Nat} {o : Option Nat} (ho : ∀ b, o = some b → (ob v w b set false).1 = 0) : ∀ b, cst2 v w set s o = some b → (ob v w b set false).1 = 0 := by
  intro b
  unfold cst2
  split
  · exact ho b
  · cases o with
    | none =>
      dsimp only
      split
      · rename_i q; intro z; cases z; exact q
      · intro z; cases z
    | some c =>
      dsimp only
      split
      · rename_i q; intro z; cases z; exact q.2
      · exact ho b
theorem chs_ok (v : Nat → Nat) (w : Nat) : ∀ b, chs v w = some b → (ob v w b (hb v 0 1 w (v 2)) false).1 = 0 := by
  have key : ∀ n, n ≤ v 1 → ∀ b, fo (cst2 v w (hb v 0 1 w (v 2))) none 0 n = some b → (ob v w b (hb v 0 1 w (v 2)) false).1 = 0 := by
    intro n
    induction n with
    | zero => intro _ b z; cases z
    | succ n ih =>
      intro hn
      rw [fo_snoc, Nat.zero_add]
      exact cst2_ok (ih (by omega))
  exact key (v 1) (Nat.le_refl _)
/-- one turn of a round: the worker of rank k gets his choice, if he has one -/
def rst (v : Nat → Nat) (k : Nat) : Nat → Nat := match atr v k with
  | none => v
  | some w => match chs v w with
    | none => v
    | some s => vna v w s
theorem rst_ok {v : Nat → Nat} (hV : VV v) (hb8 : VB v) {k : Nat} (hk : k < v 0) : ∃ w, atr v k = some w ∧ w < v 0 ∧ VV (rst v k) ∧ VB (rst v k) ∧ rst v k 0 = v 0 ∧ ((chs v w = none ∧ rst v k = v) ∨ ∃ s, chs v w = some s ∧ s < v 1 ∧ v 2 < 48 ∧ rst v k = vna v w s) := by
  obtain ⟨w, e, hw⟩ := atr_ex hk
  refine ⟨w, e, hw, ?_⟩
  unfold rst
  rw [e]
  dsimp only
  cases hc : chs v w with
  | none => exact ⟨hV, hb8, rfl, .inl ⟨rfl, rfl⟩⟩
  | some s =>
    dsimp only
    have hs := chs_lt v w s hc
    obtain ⟨n1, n2, n3⟩ := ob_none (chs_ok v w s hc)
    have hcv : cov v s < sh v s 4 := by
      have := n2 rfl
      have := hV.2.2.2.2.2.1 s hs
      omega
    have h48 := room_award hV hs hcv
    have hV2 := VV_na hV hw hs n3 hcv
    exact ⟨hV2, VB_na hV h48 hb8 hV2, vna_o (by omega) (by omega), .inr ⟨s, rfl, hs, h48, rfl⟩⟩
def rdl : Nat → Nat → (Nat → Nat) → (Nat → Nat)
  | 0, _, v => v
  | m + 1, k, v => rdl m (k + 1) (rst v k)
theorem rdl_ok : ∀ (m k : Nat) (v : Nat → Nat), VV v → VB v → k + m = v 0 → VV (rdl m k v) ∧ VB (rdl m k v) ∧ rdl m k v 0 = v 0 ∧ v 2 ≤ rdl m k v 2 := by
  intro m
  induction m with
  | zero => intro k v hV hb8 _; exact ⟨hV, hb8, rfl, Nat.le_refl _⟩
  | succ m ih =>
    intro k v hV hb8 hk
    obtain ⟨w, e, hw, hV2, h82, e0, hc⟩ := rst_ok hV hb8 (by omega : k < v 0)
    obtain ⟨a1, a2, a3, a4⟩ := ih (k + 1) (rst v k) hV2 h82 (by omega)
    refine ⟨a1, a2, by rw [← e0]; exact a3, Nat.le_trans ?_ a4⟩
    rcases hc with ⟨_, z⟩ | ⟨s, _, _, _, z⟩
    · rw [z]; exact Nat.le_refl _
    · rw [z, vna_2]; omega
