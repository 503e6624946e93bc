/-! ===== PURE: the shortest rest, in the reference's way ===== -/
def pP (v : Nat → Nat) (H t k s : Nat) : Bool := H.testBit s && (decide (sh v s 6 < t) || (decide (sh v s 6 = t) && decide (s < k)))
def mst (v : Nat → Nat) (H t k : Nat) (a : Int32 × Option Nat × Nat) : Int32 × Option Nat × Nat := if H.testBit k = true ∧ sh v k 6 = t then (match a.2.1 with
  | none => (a.1, some k, a.2.2 + 1)
  | some p => (if a.2.2 = 1 then nI (sh v k 6) - nI (sh v p 7) else if a.1 ≤ nI (sh v k 6) - nI (sh v p 7) then a.1 else nI (sh v k 6) - nI (sh v p 7), some k, a.2.2 + 1)) else a
theorem mst_f {v : Nat → Nat} {H t k : Nat} (a : Int32 × Option Nat × Nat) (h : ¬ (H.testBit k = true ∧ sh v k 6 = t)) : mst v H t k a = a := if_neg h
theorem mst_n {v : Nat → Nat} {H t k : Nat} (l : Int32) (c : Nat) (h : H.testBit k = true ∧ sh v k 6 = t) : mst v H t k (l, none, c) = (l, some k, c + 1) := if_pos h
theorem mst_s {v : Nat → Nat} {H t k : Nat} (l : Int32) (c p : Nat) (h : H.testBit k = true ∧ sh v k 6 = t) : mst v H t k (l, some p, c) = (if c = 1 then nI (sh v k 6) - nI (sh v p 7) else if l ≤ nI (sh v k 6) - nI (sh v p 7) then l else nI (sh v k 6) - nI (sh v p 7), some k, c + 1) := if_pos h
def pJ (v : Nat → Nat) (H t k : Nat) (a : Int32 × Option Nat × Nat) : Prop := a.2.2 = cn (pP v H t k) 16 ∧ (a.2.1 = none ↔ a.2.2 = 0) ∧ (∀ p, a.2.1 = some p → pP v H t k p = true ∧ ∀ x, pP v H t k x = true → sh v x 6 ≤ sh v p 6) ∧ ∃ o, a.1 = cI o ∧ IsM v H (fun x y => pP v H t k x = true ∧ pP v H t k y = true) o ∧ (o = none ↔ a.2.2 ≤ 1)
def dis (v : Nat → Nat) (H : Nat) : Prop := (∀ a, H.testBit a = true → a < v 1) ∧ ∀ a b, H.testBit a = true → H.testBit b = true → a ≠ b → sh v a 7 ≤ sh v b 6 ∨ sh v b 7 ≤ sh v a 6
theorem cn_le (p : Nat → Bool) : ∀ n, cn p n ≤ n := by
  intro n
  induction n with
  | zero => exact Nat.le_refl _
  | succ n ih =>
    unfold cn
    have : (p n).toNat ≤ 1 := by cases p n <;> decide
    omega
theorem cn_0 {p : Nat → Bool} {n j : Nat} (h : cn p n = 0) (hj : j < n) : p j = false := by
  induction n with
  | zero => omega
  | succ n ih =>
    unfold cn at h
    by_cases he : j = n
    · subst he
      cases hp : p j with
      | false => rfl
      | true => rw [hp] at h; simp at h
    · exact ih (by omega) (by omega)
section RM2
variable {X : ab_XX} {v : Nat → Nat}
theorem pJ_step (hV : VV v) {H t k : Nat} (hd : dis v H) (hk : k < v 1) {a : Int32 × Option Nat × Nat} (h : pJ v H t k a) : pJ v H t (k + 1) (mst v H t k a) := by
  have hB := hV.1
  obtain ⟨l, la, n⟩ := a
  obtain ⟨h1, h2, h3, o, h4, h5, h6⟩ := h
  dsimp only at h1 h2 h3 h4 h6
  unfold mst
  by_cases hc : H.testBit k = true ∧ sh v k 6 = t
  · rw [if_pos hc]
    obtain ⟨hc1, hc2⟩ := hc
    have hP0 : pP v H t k k = false := by unfold pP; simp [hc2]
    have hP1 : pP v H t (k + 1) k = true := by unfold pP; simp [hc1, hc2]
    have hPe : ∀ i, i ≠ k → pP v H t (k + 1) i = pP v H t k i := fun i hi => by
      unfold pP
      rw [show decide (i < k + 1) = decide (i < k) from decide_eq_decide.mpr (by omega)]
    have hcn : cn (pP v H t (k + 1)) 16 = cn (pP v H t k) 16 + 1 := cn_upd (j := k) (by omega) hPe hP0 hP1
    -- those that were before end before it
    have hbef : ∀ x, pP v H t k x = true → x < v 1 ∧ sh v x 7 ≤ t := fun x hx => by
      have hx2 := hx
      unfold pP at hx2
      rw [Bool.and_eq_true] at hx2
      have hxk : x ≠ k := fun z => by rw [z, hP0] at hx; cases hx
      have hxv := hd.1 x hx2.1
      refine ⟨hxv, ?_⟩
      have s1 := hV.2.2.1 x hxv
      have s2 := hV.2.2.1 k hk
      have hle : sh v x 6 ≤ t := by
        have := hx2.2
        rw [Bool.or_eq_true, Bool.and_eq_true, decide_eq_true_eq, decide_eq_true_eq] at this
        omega
      rcases hd.2 x k hx2.1 hc1 hxk with hh | hh <;> omega
    have hQ : ∀ x y, gd v H x y = true → ((pP v H t (k + 1) x = true ∧ pP v H t (k + 1) y = true) ↔ (pP v H t k x = true ∧ pP v H t k y = true) ∨ (pP v H t k x = true ∧ y = k)) := fun x y hg => by
      have hg2 := hg
      unfold gd at hg2
      rw [Bool.and_eq_true, Bool.and_eq_true, decide_eq_true_eq] at hg2
      constructor
      · rintro ⟨q1, q2⟩
        by_cases hy : y = k
        · by_cases hx : x = k
          · rw [hx, hy] at hg2
            have := hV.2.2.1 k hk
            omega
          · rw [hPe x hx] at q1
            exact .inr ⟨q1, hy⟩
        · rw [hPe y hy] at q2
          by_cases hx : x = k
          · rw [hx] at hg2
            have := (hbef y q2)
            have s1 := hV.2.2.1 k hk
            have s2 := hV.2.2.1 y this.1
            omega
          · rw [hPe x hx] at q1
            exact .inl ⟨q1, q2⟩
      · rintro (⟨q1, q2⟩ | ⟨q1, q2⟩)
        · exact ⟨by rw [hPe x (fun z => by rw [z, hP0] at q1; cases q1)]; exact q1, by rw [hPe y (fun z => by rw [z, hP0] at q2; cases q2)]; exact q2⟩
        · exact ⟨by rw [hPe x (fun z => by rw [z, hP0] at q1; cases q1)]; exact q1, by rw [q2]; exact hP1⟩
    have hlast : ∀ p, some k = some p → pP v H t (k + 1) p = true ∧ ∀ x, pP v H t (k + 1) x = true → sh v x 6 ≤ sh v p 6 := fun p hp => by
      cases hp
      refine ⟨hP1, fun x hx => ?_⟩
      by_cases hxk : x = k
      · rw [hxk]; exact Nat.le_refl _
      · rw [hPe x hxk] at hx
        have hb := hbef x hx
        have := hV.2.2.1 x hb.1
        omega
    cases la with
    | none =>
      have hn0 : n = 0 := h2.mp rfl
      refine ⟨by dsimp only; omega, ⟨fun z => (by cases z), fun z => absurd z (Nat.succ_ne_zero n)⟩, hlast, o, h4, ⟨fun x y q hg => ?_, fun g hg => ?_⟩, ?_⟩
      · exfalso
        rcases (hQ x y hg).mp q with q | q
        · have := cn_0 (by omega : cn (pP v H t k) 16 = 0) (by have := (hbef x q.1).1; omega : x < 16)
          rw [q.1] at this
          cases this
        · have := cn_0 (by omega : cn (pP v H t k) 16 = 0) (by have := (hbef x q.1).1; omega : x < 16)
          rw [q.1] at this
          cases this
      · obtain ⟨x, y, q, hg2⟩ := h5.2 g hg
        exact ⟨x, y, (hQ x y hg2.1).mpr (.inl q), hg2⟩
      · dsimp only
        rw [h6]
        omega
    | some p =>
      have hn0 : n ≠ 0 := fun z => by have := h2.mpr z; cases this
      obtain ⟨hp1, hp2⟩ := h3 p rfl
      have hpb := hbef p hp1
      have hpH : H.testBit p = true := by
        have := hp1
        unfold pP at this
        rw [Bool.and_eq_true] at this
        exact this.1
      have hpk : p ≠ k := fun z => by rw [z, hP0] at hp1; cases hp1
      have s1 := hV.2.2.1 k hk
      have s2 := hV.2.2.1 p hpb.1
      have hgd : gd v H p k = true := by
        unfold gd
        rw [hpH, hc1, decide_eq_true (by omega)]
        rfl
      have hmx : ∀ x, pP v H t k x = true → gv v p k ≤ gv v x k := fun x hx => by
        have hb := hbef x hx
        have s3 := hV.2.2.1 x hb.1
        have hle := hp2 x hx
        have hxH : H.testBit x = true := by
          have := hx
          unfold pP at this
          rw [Bool.and_eq_true] at this
          exact this.1
        unfold gv
        by_cases hxp : x = p
        · rw [hxp]; exact Nat.le_refl _
        · rcases hd.2 x p hxH hpH hxp with hh | hh <;> omega
      have hM : IsM v H (fun x y => pP v H t (k + 1) x = true ∧ pP v H t (k + 1) y = true) (mn o (gv v p k)) := by
        obtain ⟨g, e, g1, g2, g3⟩ := mn_some o (gv v p k)
        rw [e]
        refine ⟨fun x y q hg => ⟨g, rfl, ?_⟩, fun g4 hg4 => ?_⟩
        · rcases (hQ x y hg).mp q with q | q
          · obtain ⟨z, hz, hle⟩ := h5.1 x y q hg
            have := g3 z hz
            omega
          · have := hmx x q.1
            rw [q.2]
            omega
        · cases hg4
          rcases g2 with g2 | g2
          · exact ⟨p, k, (hQ p k hgd).mpr (.inr ⟨hp1, rfl⟩), hgd, g2⟩
          · obtain ⟨x, y, q, hg5⟩ := h5.2 g g2
            exact ⟨x, y, (hQ x y hg5.1).mpr (.inl q), hg5⟩
      have hsub : nI (sh v k 6) - nI (sh v p 7) = nI (gv v p k) := p_sub (by omega)
      refine ⟨by dsimp only; omega, ⟨fun z => (by cases z), fun z => absurd z (Nat.succ_ne_zero n)⟩, hlast, mn o (gv v p k), ?_, hM, ?_⟩
      · dsimp only
        rw [hsub]
        by_cases hn1 : n = 1
        · have ho : o = none := h6.mpr (by omega)
          rw [if_pos hn1, ho]
          rfl
        · rw [if_neg hn1, h4]
          cases o with
          | none => have := h6.mp rfl; omega
          | some g =>
            obtain ⟨x, y, q, hg2, eg⟩ := h5.2 g rfl
            have hb := hbef y q.2
            have s4 := hV.2.2.1 y hb.1
            have eb : (nI g ≤ nI (gv v p k)) = (g ≤ gv v p k) := p_le_I (by unfold gv at eg; omega) (by unfold gv; omega)
            simp only [cI, mn, eb]
            split <;> rfl
      · dsimp only
        obtain ⟨g, e, _⟩ := mn_some o (gv v p k)
        rw [e]
        exact ⟨fun z => (by cases z), fun z => (by omega)⟩
  · rw [if_neg hc]
    have hPe : pP v H t (k + 1) = pP v H t k := by
      funext i
      unfold pP
      by_cases hi : i = k
      · subst hi
        cases hh : H.testBit i with
        | false => rfl
        | true =>
          have hne : ¬ sh v i 6 = t := fun z => hc ⟨hh, z⟩
          rw [decide_eq_false hne]
          rfl
      · rw [show decide (i < k + 1) = decide (i < k) from decide_eq_decide.mpr (by omega)]
    unfold pJ
    rw [hPe]
    exact ⟨h1, h2, h3, o, h4, h5, h6⟩
theorem pP_next (hV : VV v) {H : Nat} (hd : dis v H) (t : Nat) : pP v H t (v 1) = pP v H (t + 1) 0 := by
  funext i
  unfold pP
  cases hh : H.testBit i with
  | false => rfl
  | true =>
    have := hd.1 i hh
    rw [Bool.true_and, Bool.true_and, decide_eq_true this, decide_eq_false (Nat.not_lt_zero i), Bool.and_true, Bool.and_false, Bool.or_false, ← Bool.decide_or]
    exact decide_eq_decide.mpr (by omega)
theorem m_rest (h : RM (X 14) v) (hV : VV v) {H : Nat} (hH : H < 2 ^ 16) (hd : dis v H) : L_M_shortestRest_43 ab_fu X (nI H) (-1) (-1) (nI 0) (nI 0) = if 2 ≤ pc 16 H then some (cI (lgC v H), ab_up X 13 0 (nI 0)) else some (nI 0, ab_up X 13 0 (nI 2)) := by
  have hB := hV.1
  have inner : ∀ (K : ab_XX → Int32 → Int32 → Int32 → Int32 → Int32 → Option (Int32 × ab_XX)) (t : Nat), t < 672 → ∀ (m k : Nat) (a : Int32 × Option Nat × Nat) (n : Nat), pJ v H t k a → k + m = v 1 → m < n → ∃ b, pJ v H t (v 1) b ∧ L_M_shortestRest_54 K n X (nI H) a.1 (cI a.2.1) (nI a.2.2) (nI t) (nI k) = K X (nI H) b.1 (cI b.2.1) (nI b.2.2) (nI (t + 1)) := by
    intro K t ht m
    induction m with
    | zero =>
      intro k a n ha hk hn
      cases n with
      | zero => omega
      | succ n =>
        have hkv : k = v 1 := by omega
        subst hkv
        exact ⟨a, ha, by rw [L_M_shortestRest_54, m_shifts h, Option.bind_some, if_pos (nI_le (by omega) (by omega)), nI_add]⟩
    | succ m ih =>
      intro k a n ha hk hn
      cases n with
      | zero => omega
      | succ n =>
        have hkv : k < v 1 := by omega
        obtain ⟨b, hb, e⟩ := ih (k + 1) (mst v H t k a) n (pJ_step hV hd hkv ha) (by omega) (by omega)
        refine ⟨b, hb, Eq.trans ?_ e⟩
        have s1 := hV.2.2.1 k hkv
        rw [L_M_shortestRest_54, m_shifts h, Option.bind_some, if_neg (nI_ge hkv (by omega)), p_tst H k (by omega) (by omega), m_begin h hV hkv]
        simp only [Option.bind_some, p_b0, nI_add, nI_eq (by omega : sh v k 6 < 2 ^ 31) (by omega : t < 2 ^ 31)]
        cases hh : H.testBit k with
        | false => rw [if_pos rfl, mst_f a (fun z => by rw [hh] at z; cases z.1)]
        | true =>
          rw [if_neg (by decide)]
          by_cases q : sh v k 6 = t
          · rw [if_pos q]
            obtain ⟨l, la, c⟩ := a
            cases la with
            | none =>
              rw [mst_n l c ⟨hh, q⟩]
              dsimp only
              rw [if_pos (show cI none < nI 0 by decide)]
              rfl
            | some p =>
              have hp := (ha.2.2.1 p rfl).1
              unfold pP at hp
              rw [Bool.and_eq_true] at hp
              have hpv := hd.1 p hp.1
              have hc16 : c ≤ 16 := by have := ha.1; dsimp only at this; rw [this]; exact cn_le _ 16
              rw [mst_s l c p ⟨hh, q⟩]
              dsimp only
              rw [if_neg (show ¬ cI (some p) < nI 0 from nI_nlt (Nat.zero_le _) (by omega)), show cI (some p) = nI p from rfl, m_end h hV hpv]
              simp only [Option.bind_some, nI_eq (by omega : c < 2 ^ 31) (by decide : 1 < 2 ^ 31)]
              by_cases c1 : c = 1
              · rw [if_pos c1, if_pos c1]
                rfl
              · rw [if_neg c1, if_neg c1]
                by_cases c2 : l ≤ nI (sh v k 6) - nI (sh v p 7)
                · rw [if_pos c2, if_pos c2]
                  rfl
                · rw [if_neg c2, if_neg c2]
                  rfl
          · rw [if_neg q, mst_f a (fun z => q z.2)]
  have outer : ∀ (m t : Nat) (a : Int32 × Option Nat × Nat) (n : Nat), pJ v H t 0 a → t + m = 672 → m < n → ∃ b, pJ v H 672 0 b ∧ L_M_shortestRest_43 n X (nI H) a.1 (cI a.2.1) (nI a.2.2) (nI t) = if 2 ≤ b.2.2 then some (b.1, ab_up X 13 0 (nI 0)) else some (nI 0, ab_up X 13 0 (nI 2)) := by
    intro m
    induction m with
    | zero =>
      intro t a n ha ht hn
      cases n with
      | zero => omega
      | succ n =>
        have ht2 : t = 672 := by omega
        subst ht2
        have hc16 : a.2.2 ≤ 16 := by rw [ha.1]; exact cn_le _ 16
        refine ⟨a, ha, ?_⟩
        rw [L_M_shortestRest_43, if_pos (nI_le (by omega) (by omega)), th_0, th_k X _ _ (by decide) (by decide)]
        simp only [nI_leI (by decide : 2 < 2 ^ 31) (by omega : a.2.2 < 2 ^ 31)]
    | succ m ih =>
      intro t a n ha ht hn
      cases n with
      | zero => omega
      | succ n =>
        rw [L_M_shortestRest_43, if_neg (nI_ge (by omega) (by omega))]
        obtain ⟨b, hb, e⟩ := inner (fun X9 b2 b3 b4 b5 b6 => L_M_shortestRest_43 n X9 b2 b3 b4 b5 b6) t (by omega) (v 1) 0 a ab_fu ha (by omega) (by unfold ab_fu; omega)
        rw [e]
        refine ih (t + 1) b n ?_ (by omega) (by omega)
        unfold pJ at hb ⊢
        rw [← pP_next hV hd t]
        exact hb
  have hP0 : pP v H 0 0 = fun _ => false := by
    funext i
    unfold pP
    rw [decide_eq_false (Nat.not_lt_zero _), decide_eq_false (Nat.not_lt_zero _)]
    simp
  have hcn0 : ∀ n, cn (fun _ => false) n = 0 := by
    intro n
    induction n with
    | zero => rfl
    | succ n ih => unfold cn; rw [ih]; rfl
  have hJ0 : pJ v H 0 0 (-1, none, 0) := by
    unfold pJ
    rw [hP0]
    exact ⟨(hcn0 16).symm, ⟨fun _ => rfl, fun _ => rfl⟩, fun p z => (by cases z), none, rfl, ⟨fun a b q _ => (by cases q.1), fun g z => (by cases z)⟩, ⟨fun _ => Nat.zero_le _, fun _ => rfl⟩⟩
  obtain ⟨b, hb, e⟩ := outer 672 0 (-1, none, 0) ab_fu hJ0 (by decide) (by unfold ab_fu; omega)
  have hPf : pP v H 672 0 = fun i => H.testBit i := by
    funext i
    unfold pP
    cases hh : H.testBit i with
    | false => rfl
    | true =>
      have s1 := hV.2.2.1 i (hd.1 i hh)
      rw [decide_eq_true (by omega : sh v i 6 < 672)]
      rfl
  obtain ⟨h1, h2, h3, o, h4, h5, h6⟩ := hb
  rw [hPf] at h1 h5
  have ho : o = lgC v H := IsM_un h5 (lgC_ok v H) (fun x y hg => by
    unfold gd at hg
    rw [Bool.and_eq_true, Bool.and_eq_true] at hg
    exact ⟨fun _ => ⟨hd.1 x hg.1.1, hd.1 y hg.1.2⟩, fun _ => hg.1⟩)
  refine e.trans ?_
  rw [h4, ho, h1]
  rfl
theorem hb_dis (hV : VV v) (w : Nat) : dis v (hb v 0 1 w (v 2)) := by
  refine ⟨fun a ha => ?_, fun a b ha hb0 hne => ?_⟩
  · obtain ⟨i, h1, h2, h3⟩ := (hb_t v 0 1 w a (v 2)).mp ha
    rw [← h3]
    exact (hV.2.2.2.2.1 i h1).2
  · obtain ⟨i, h1, h2, h3⟩ := (hb_t v 0 1 w a (v 2)).mp ha
    obtain ⟨j, g1, g2, g3⟩ := (hb_t v 0 1 w b (v 2)).mp hb0
    have hno := hV.2.2.2.2.2.2
    rcases Nat.lt_trichotomy i j with hij | hij | hij
    · have := hno i j hij g1 (h2.trans g2.symm)
      rw [h3, g3] at this
      exact this
    · subst hij
      exact absurd (h3.symm.trans g3) hne
    · have := hno j i hij h1 (g2.trans h2.symm)
      rw [h3, g3] at this
      exact this.symm
theorem q_shortestRest (h : RC (X 3) v) (g : RM (X 14) v) (hV : VV v) (a : Int32) : QR (F_C_shortestRest X a) [(2, 1), (4, 2)] (F_M_shortestRest X a) X := by
  have hB := hV.1
  unfold F_C_shortestRest F_M_shortestRest
  rcases wk_cs h hV a with ⟨w, hw, rfl, _, e1, e2⟩ | ⟨_, e1, e2⟩
  · have hpc : pc 16 (hb v 0 1 w (v 2)) ≤ 16 := cn_le _ 16
    have em := m_rest (X := ab_up X 13 0 (nI 0)) (m13 g _ _) hV (hb16 hV w) (hb_dis hV w)
    rw [p_up_up, p_up_up] at em
    rw [e1, b2_l, c_heldBy h hV (by omega), Option.bind_some, c_bitCount (hb16 hV w), Option.bind_some, c_leastGap h hV (hb31 hV w), Option.bind_some, e2 X g, Option.bind_some, if_neg n10, th_0, m_heldBy (m13 g _ _) hV (by omega), Option.bind_some, em]
    by_cases q : 2 ≤ pc 16 (hb v 0 1 w (v 2))
    · rw [if_pos (nI_le q (by omega)), if_pos q]
      exact qr_k _ rfl rfl
    · rw [if_neg (nI_ge (by omega) (by omega)), if_neg q]
      exact qr_x 4 2 (.tail _ (.head _)) rfl rfl
  · refine qr_x 2 1 (.head _) ?_ ?_
    · rw [e1, b2_r]
    · rw [e2 X g, Option.bind_some, if_pos rfl, th_k X _ _ (by decide) (by decide)]
end RM2
