/-! ===== fewer locals known: what a run says of some locals it says of more ===== -/
def ab_lel (l0 l : ab_L) : Prop := ∀ q ∈ l0, ab_lk l q.1 = some q.2
def ab_sle (s t : ab_S) : Prop := s.1 = t.1 ∧ ab_lel s.2.1 t.2.1 ∧ s.2.2 = t.2.2
def ab_gle (g g2 : ab_G) : Prop := match g, g2 with
  | .inl s, .inl t => ab_sle s t
  | .inr (b, s, none), .inr (b2, t, none) => b = b2 ∧ ab_sle s t
  | .inr (b, s, some s2), .inr (b2, t, some t2) => b = b2 ∧ ab_sle s t ∧ ab_sle s2 t2
  | _, _ => False
def ab_ole (x y : Option ab_G) : Prop := ∀ g, x = some g → ∃ g2, y = some g2 ∧ ab_gle g g2
theorem ab_rnn {y : Option ab_G} : ab_ole none y := fun g h => by cases h
theorem ab_rbb {b : Bool} {x x2 y y2 : Option ab_G} (h1 : ab_ole x x2) (h2 : ab_ole y y2) : ab_ole (bif b then x else y) (bif b then x2 else y2) := by
  cases b
  · exact h2
  · exact h1
theorem ab_rnx {pc : Nat} {lv lv2 : ab_L} {st : List Value} {h : ab_H} (hl : ab_lel lv lv2) : ab_ole (ab_next (pc, lv, st, h)) (ab_next (pc, lv2, st, h)) := fun g hg => by
  cases hg
  exact ⟨_, rfl, rfl, hl, rfl⟩
theorem ab_rgd {b : Bool} {pc : Nat} {lv lv2 : ab_L} {st : List Value} {h : ab_H} (hl : ab_lel lv lv2) : ab_ole (ab_grd b (pc, lv, st, h)) (ab_grd b (pc, lv2, st, h)) := fun g hg => by
  cases hg
  exact ⟨_, rfl, rfl, rfl, hl, rfl⟩
theorem ab_rbr {b : Bool} {pc pc2 : Nat} {lv lv2 : ab_L} {st : List Value} {h : ab_H} (hl : ab_lel lv lv2) : ab_ole (some (.inr (b, (pc, lv, st, h), some (pc2, lv, st, h)))) (some (.inr (b, (pc, lv2, st, h), some (pc2, lv2, st, h)))) := fun g hg => by
  cases hg
  exact ⟨_, rfl, rfl, ⟨rfl, hl, rfl⟩, rfl, hl, rfl⟩
theorem ab_lk_mem {l : ab_L} {r : Nat} {v : Value} (h : ab_lk l r = some v) : (r, v) ∈ l := by
  obtain ⟨k, hk⟩ := ab_lk_some h
  exact List.mem_of_getElem? hk
theorem ab_lk_le {l0 l : ab_L} (hl : ab_lel l0 l) {r : Nat} {v : Value} (h : ab_lk l0 r = some v) : ab_lk l r = some v := hl _ (ab_lk_mem h)
theorem ab_lk_filter {f : Nat × Value → Bool} : ∀ {l : ab_L} {r : Nat} {v : Value}, ab_lk l r = some v → f (r, v) = true → ab_lk (l.filter f) r = some v := by
  intro l
  induction l with
  | nil => intro r v h; simp [ab_lk] at h
  | cons q t ih =>
    obtain ⟨i, x⟩ := q
    intro r v h hf
    unfold ab_lk at h
    cases hb : Nat.beq i r with
    | true =>
      rw [hb] at h
      cases h
      have hi := Nat.eq_of_beq_eq_true hb
      subst hi
      rw [List.filter_cons, if_pos hf]
      unfold ab_lk
      rw [hb]
      rfl
    | false =>
      rw [hb] at h
      simp only [cond_false] at h
      rw [List.filter_cons]
      split
      · unfold ab_lk
        rw [hb]
        exact ih h hf
      · exact ih h hf
theorem ab_lk_cons {i r : Nat} {v x : Value} {l : ab_L} (hne : r ≠ i) (h : ab_lk l r = some v) : ab_lk ((i, x) :: l) r = some v := by
  unfold ab_lk
  have : Nat.beq i r = false := by
    cases hb : Nat.beq i r with
    | false => rfl
    | true => exact absurd (Nat.eq_of_beq_eq_true hb).symm hne
  rw [this]
  exact h
theorem ab_lk_self {i : Nat} {x : Value} {l : ab_L} : ab_lk ((i, x) :: l) i = some x := by
  unfold ab_lk
  rw [Nat.beq_refl]
  rfl
theorem ab_rl_dr {i : Nat} {l0 l : ab_L} (hl : ab_lel l0 l) : ab_lel (ab_dr i l0) (ab_dr i l) := by
  intro q hq
  unfold ab_dr at hq
  obtain ⟨h1, h2⟩ := List.mem_filter.mp hq
  exact ab_lk_filter (hl q h1) h2
theorem ab_rl_st1 {i : Nat} {x : Value} {l0 l : ab_L} (hl : ab_lel l0 l) : ab_lel (ab_st1 i x l0) (ab_st1 i x l) := by
  intro q hq
  unfold ab_st1 at hq ⊢
  rcases List.mem_cons.mp hq with rfl | hq
  · exact ab_lk_self
  · obtain ⟨h1, h2⟩ := List.mem_filter.mp hq
    refine ab_lk_cons (fun z => ?_) (ab_lk_filter (hl q h1) h2)
    rw [z] at h2
    simp at h2
theorem ab_rl_st2 {i : Nat} {x : Value} {l0 l : ab_L} (hl : ab_lel l0 l) : ab_lel (ab_st2 i x l0) (ab_st2 i x l) := by
  intro q hq
  unfold ab_st2 at hq ⊢
  rcases List.mem_cons.mp hq with rfl | hq
  · exact ab_lk_self
  · obtain ⟨h1, h2⟩ := List.mem_filter.mp hq
    refine ab_lk_cons (fun z => ?_) (ab_lk_filter (hl q h1) h2)
    rw [z] at h2
    simp at h2
section AWK
variable {S : Nat × (Nat → Int32)} {lw : Bool} {len r q pc : Nat} {v : Int32} {lv lv2 : ab_L} {st : List Value} {h : ab_H}
theorem ab_w2 (hl : ab_lel lv lv2) : ab_ole (ab_a2 len r q pc lv st h) (ab_a2 len r q pc lv2 st h) := by
  intro g hg
  unfold ab_a2 at hg ⊢
  split at hg
  · rename_i x hx
    rw [ab_lk_le hl hx]
    exact (ab_rbb (ab_rnx hl) ab_rnn) g hg
  · cases hg
theorem ab_w6 (hl : ab_lel lv lv2) : ab_ole (ab_a6 r v pc lv st h) (ab_a6 r v pc lv2 st h) := by
  intro g hg
  unfold ab_a6 at hg ⊢
  split at hg
  · rename_i x hx
    rw [ab_lk_le hl hx]
    exact (ab_rnx (ab_rl_st1 hl)) g hg
  · cases hg
theorem ab_w3 (hl : ab_lel lv lv2) : ab_ole (ab_a3 len r q pc lv st h) (ab_a3 len r q pc lv2 st h) := by
  unfold ab_a3
  split
  · exact ab_rbb (ab_rnx (ab_rl_st1 hl)) ab_rnn
  · exact ab_rnn
theorem ab_w4 (hl : ab_lel lv lv2) : ab_ole (ab_a4 len r q pc lv st h) (ab_a4 len r q pc lv2 st h) := by
  unfold ab_a4
  split
  · exact ab_rbb (ab_rnx (ab_rl_st2 hl)) ab_rnn
  · exact ab_rnn
theorem ab_w1 (hl : ab_lel lv lv2) : ab_ole (ab_a1 len v pc lv st h) (ab_a1 len v pc lv2 st h) := ab_rnx hl
theorem ab_w7 (hl : ab_lel lv lv2) : ab_ole (ab_a7 r lv st h) (ab_a7 r lv2 st h) := ab_rnx hl
theorem ab_w31 (hl : ab_lel lv lv2) : ab_ole (ab_a31 pc lv st h) (ab_a31 pc lv2 st h) := ab_rnx hl
theorem ab_w32 (hl : ab_lel lv lv2) : ab_ole (ab_a32 pc lv st h) (ab_a32 pc lv2 st h) := ab_rnx hl
theorem ab_w5 (hl : ab_lel lv lv2) : ab_ole (ab_a5 q pc lv st h) (ab_a5 q pc lv2 st h) := by
  unfold ab_a5
  split
  all_goals (repeat' (first | exact ab_rnn | exact ab_rnx hl | exact ab_rgd hl | exact ab_rbr hl | apply ab_rbb))
theorem ab_w8 (hl : ab_lel lv lv2) : ab_ole (ab_a8 r q pc lv st h) (ab_a8 r q pc lv2 st h) := by
  unfold ab_a8
  split
  all_goals (repeat' (first | exact ab_rnn | exact ab_rnx hl | exact ab_rgd hl | exact ab_rbr hl | apply ab_rbb))
theorem ab_w9 (hl : ab_lel lv lv2) : ab_ole (ab_a9 r q pc lv st h) (ab_a9 r q pc lv2 st h) := by
  unfold ab_a9
  split
  all_goals (repeat' (first | exact ab_rnn | exact ab_rnx hl | exact ab_rgd hl | exact ab_rbr hl | apply ab_rbb))
theorem ab_w10 (hl : ab_lel lv lv2) : ab_ole (ab_a10 pc lv st h) (ab_a10 pc lv2 st h) := by
  unfold ab_a10
  split
  all_goals (repeat' (first | exact ab_rnn | exact ab_rnx hl | exact ab_rgd hl | exact ab_rbr hl | apply ab_rbb))
theorem ab_w11 (hl : ab_lel lv lv2) : ab_ole (ab_a11 pc lv st h) (ab_a11 pc lv2 st h) := by
  unfold ab_a11
  split
  all_goals (repeat' (first | exact ab_rnn | exact ab_rnx hl | exact ab_rgd hl | exact ab_rbr hl | apply ab_rbb))
theorem ab_w12 (hl : ab_lel lv lv2) : ab_ole (ab_a12 pc lv st h) (ab_a12 pc lv2 st h) := by
  unfold ab_a12
  split
  all_goals (repeat' (first | exact ab_rnn | exact ab_rnx hl | exact ab_rgd hl | exact ab_rbr hl | apply ab_rbb))
theorem ab_w13 (hl : ab_lel lv lv2) : ab_ole (ab_a13 r q pc lv st h) (ab_a13 r q pc lv2 st h) := by
  unfold ab_a13
  split
  all_goals (repeat' (first | exact ab_rnn | exact ab_rnx hl | exact ab_rgd hl | exact ab_rbr hl | apply ab_rbb))
theorem ab_w14 (hl : ab_lel lv lv2) : ab_ole (ab_a14 r q v pc lv st h) (ab_a14 r q v pc lv2 st h) := by
  unfold ab_a14
  split
  all_goals (repeat' (first | exact ab_rnn | exact ab_rnx hl | exact ab_rgd hl | exact ab_rbr hl | apply ab_rbb))
theorem ab_w15 (hl : ab_lel lv lv2) : ab_ole (ab_a15 S lw pc lv st h) (ab_a15 S lw pc lv2 st h) := by
  unfold ab_a15
  split
  all_goals (repeat' (first | exact ab_rnn | exact ab_rnx hl | exact ab_rgd hl | exact ab_rbr hl | apply ab_rbb))
theorem ab_w16 (hl : ab_lel lv lv2) : ab_ole (ab_a16 pc lv st h) (ab_a16 pc lv2 st h) := by
  unfold ab_a16
  split
  all_goals (repeat' (first | exact ab_rnn | exact ab_rnx hl | exact ab_rgd hl | exact ab_rbr hl | apply ab_rbb))
theorem ab_w17 (hl : ab_lel lv lv2) : ab_ole (ab_a17 pc lv st h) (ab_a17 pc lv2 st h) := by
  unfold ab_a17
  split
  all_goals (repeat' (first | exact ab_rnn | exact ab_rnx hl | exact ab_rgd hl | exact ab_rbr hl | apply ab_rbb))
theorem ab_w18 (hl : ab_lel lv lv2) : ab_ole (ab_a18 pc lv st h) (ab_a18 pc lv2 st h) := by
  unfold ab_a18
  split
  all_goals (repeat' (first | exact ab_rnn | exact ab_rnx hl | exact ab_rgd hl | exact ab_rbr hl | apply ab_rbb))
theorem ab_w19 (hl : ab_lel lv lv2) : ab_ole (ab_a19 pc lv st h) (ab_a19 pc lv2 st h) := by
  unfold ab_a19
  split
  all_goals (repeat' (first | exact ab_rnn | exact ab_rnx hl | exact ab_rgd hl | exact ab_rbr hl | apply ab_rbb))
theorem ab_w20 (hl : ab_lel lv lv2) : ab_ole (ab_a20 pc lv st h) (ab_a20 pc lv2 st h) := by
  unfold ab_a20
  split
  all_goals (repeat' (first | exact ab_rnn | exact ab_rnx hl | exact ab_rgd hl | exact ab_rbr hl | apply ab_rbb))
theorem ab_w21 (hl : ab_lel lv lv2) : ab_ole (ab_a21 S lw pc lv st h) (ab_a21 S lw pc lv2 st h) := by
  unfold ab_a21
  split
  all_goals (repeat' (first | exact ab_rnn | exact ab_rnx hl | exact ab_rgd hl | exact ab_rbr hl | apply ab_rbb))
theorem ab_w22 (hl : ab_lel lv lv2) : ab_ole (ab_a22 pc lv st h) (ab_a22 pc lv2 st h) := by
  unfold ab_a22
  split
  all_goals (repeat' (first | exact ab_rnn | exact ab_rnx hl | exact ab_rgd hl | exact ab_rbr hl | apply ab_rbb))
theorem ab_w23 (hl : ab_lel lv lv2) : ab_ole (ab_a23 pc lv st h) (ab_a23 pc lv2 st h) := by
  unfold ab_a23
  split
  all_goals (repeat' (first | exact ab_rnn | exact ab_rnx hl | exact ab_rgd hl | exact ab_rbr hl | apply ab_rbb))
theorem ab_w24 (hl : ab_lel lv lv2) : ab_ole (ab_a24 pc lv st h) (ab_a24 pc lv2 st h) := by
  unfold ab_a24
  split
  all_goals (repeat' (first | exact ab_rnn | exact ab_rnx hl | exact ab_rgd hl | exact ab_rbr hl | apply ab_rbb))
theorem ab_w25 (hl : ab_lel lv lv2) : ab_ole (ab_a25 pc lv st h) (ab_a25 pc lv2 st h) := by
  unfold ab_a25
  split
  all_goals (repeat' (first | exact ab_rnn | exact ab_rnx hl | exact ab_rgd hl | exact ab_rbr hl | apply ab_rbb))
theorem ab_w26 (hl : ab_lel lv lv2) : ab_ole (ab_a26 pc lv st h) (ab_a26 pc lv2 st h) := by
  unfold ab_a26
  split
  all_goals (repeat' (first | exact ab_rnn | exact ab_rnx hl | exact ab_rgd hl | exact ab_rbr hl | apply ab_rbb))
theorem ab_w27 (hl : ab_lel lv lv2) : ab_ole (ab_a27 pc lv st h) (ab_a27 pc lv2 st h) := by
  unfold ab_a27
  split
  all_goals (repeat' (first | exact ab_rnn | exact ab_rnx hl | exact ab_rgd hl | exact ab_rbr hl | apply ab_rbb))
theorem ab_w28 (hl : ab_lel lv lv2) : ab_ole (ab_a28 pc lv st h) (ab_a28 pc lv2 st h) := by
  unfold ab_a28
  split
  all_goals (repeat' (first | exact ab_rnn | exact ab_rnx hl | exact ab_rgd hl | exact ab_rbr hl | apply ab_rbb))
theorem ab_w29 (hl : ab_lel lv lv2) : ab_ole (ab_a29 pc lv st h) (ab_a29 pc lv2 st h) := by
  unfold ab_a29
  split
  all_goals (repeat' (first | exact ab_rnn | exact ab_rnx hl | exact ab_rgd hl | exact ab_rbr hl | apply ab_rbb))
theorem ab_w30 (hl : ab_lel lv lv2) : ab_ole (ab_a30 pc lv st h) (ab_a30 pc lv2 st h) := by
  unfold ab_a30
  split
  all_goals (repeat' (first | exact ab_rnn | exact ab_rnx hl | exact ab_rgd hl | exact ab_rbr hl | apply ab_rbb))
theorem ab_w33 (hl : ab_lel lv lv2) : ab_ole (ab_a33 pc lv st h) (ab_a33 pc lv2 st h) := by
  unfold ab_a33
  split
  all_goals (repeat' (first | exact ab_rnn | exact ab_rnx hl | exact ab_rgd hl | exact ab_rbr hl | apply ab_rbb))
theorem ab_w34 (hl : ab_lel lv lv2) : ab_ole (ab_a34 pc lv st h) (ab_a34 pc lv2 st h) := by
  unfold ab_a34
  split
  all_goals (repeat' (first | exact ab_rnn | exact ab_rnx hl | exact ab_rgd hl | exact ab_rbr hl | apply ab_rbb))
theorem ab_w35 (hl : ab_lel lv lv2) : ab_ole (ab_a35 r lv st h) (ab_a35 r lv2 st h) := by
  unfold ab_a35
  split
  all_goals (repeat' (first | exact ab_rnn | exact ab_rnx hl | exact ab_rgd hl | exact ab_rbr hl | apply ab_rbb))
theorem ab_w36 (hl : ab_lel lv lv2) : ab_ole (ab_a36 r lv st h) (ab_a36 r lv2 st h) := by
  unfold ab_a36
  split
  all_goals (repeat' (first | exact ab_rnn | exact ab_rnx hl | exact ab_rgd hl | exact ab_rbr hl | apply ab_rbb))
theorem ab_w37 (hl : ab_lel lv lv2) : ab_ole (ab_a37 pc lv st h) (ab_a37 pc lv2 st h) := by
  unfold ab_a37
  split
  all_goals (repeat' (first | exact ab_rnn | exact ab_rnx hl | exact ab_rgd hl | exact ab_rbr hl | apply ab_rbb))
theorem ab_w40 (hl : ab_lel lv lv2) : ab_ole (ab_a40 pc lv st h) (ab_a40 pc lv2 st h) := by
  unfold ab_a40
  split
  all_goals (repeat' (first | exact ab_rnn | exact ab_rnx hl | exact ab_rgd hl | exact ab_rbr hl | apply ab_rbb))
theorem ab_w46 (hl : ab_lel lv lv2) : ab_ole (ab_a46 pc lv st h) (ab_a46 pc lv2 st h) := by
  unfold ab_a46
  split
  all_goals (repeat' (first | exact ab_rnn | exact ab_rnx hl | exact ab_rgd hl | exact ab_rbr hl | apply ab_rbb))
theorem ab_w47 (hl : ab_lel lv lv2) : ab_ole (ab_a47 pc lv st h) (ab_a47 pc lv2 st h) := by
  unfold ab_a47
  split
  all_goals (repeat' (first | exact ab_rnn | exact ab_rnx hl | exact ab_rgd hl | exact ab_rbr hl | apply ab_rbb))
theorem ab_wact {en : ab_E} (hl : ab_lel lv lv2) : ab_ole (ab_act S lw en pc lv st h) (ab_act S lw en pc lv2 st h) := by
  obtain ⟨kd, len, r, q, z, v⟩ := en
  unfold ab_act
  dsimp only
  repeat' (first | exact ab_rnn | exact ab_w1 hl | exact ab_w2 hl | exact ab_w3 hl | exact ab_w4 hl | exact ab_w6 hl | exact ab_w7 hl | exact ab_w31 hl | exact ab_w32 hl | exact ab_w5 hl | exact ab_w8 hl | exact ab_w9 hl | exact ab_w10 hl | exact ab_w11 hl | exact ab_w12 hl | exact ab_w13 hl | exact ab_w14 hl | exact ab_w15 hl | exact ab_w16 hl | exact ab_w17 hl | exact ab_w18 hl | exact ab_w19 hl | exact ab_w20 hl | exact ab_w21 hl | exact ab_w22 hl | exact ab_w23 hl | exact ab_w24 hl | exact ab_w25 hl | exact ab_w26 hl | exact ab_w27 hl | exact ab_w28 hl | exact ab_w29 hl | exact ab_w30 hl | exact ab_w33 hl | exact ab_w34 hl | exact ab_w35 hl | exact ab_w36 hl | exact ab_w37 hl | exact ab_w40 hl | exact ab_w46 hl | exact ab_w47 hl | apply ab_rbb)
end AWK
theorem ab_wrun (S : Nat × (Nat → Int32)) : ∀ (n k pc : Nat) (lv lv2 : ab_L) (st : List Value) (h : ab_H) (e : Nat) (r : ab_O), ab_lel lv lv2 → ab_run S n k pc lv st h e = some r → ab_run S n k pc lv2 st h e = some r := by
  intro n
  induction n with
  | zero => intro k pc lv lv2 st h e r hl hr; simp [ab_run] at hr
  | succ n ih =>
    intro k pc lv lv2 st h e r hl hr
    have goS : ∀ s t : ab_S, ab_sle s t → ab_run S n k s.1 s.2.1 s.2.2.1 s.2.2.2 e = some r → ab_run S n k t.1 t.2.1 t.2.2.1 t.2.2.2 e = some r := by
      intro s t ⟨h1, h2, h3⟩ hs
      rw [← h1, ← h3]
      exact ih _ _ _ _ _ _ _ _ h2 hs
    have hact := ab_wact (S := S) (lw := Nat.beq k ab_law) (en := ab_cd k pc) (pc := pc) (st := st) (h := h) hl
    have hat : ∀ rr, ab_at S k pc lv st h = some rr → (∃ g g2, rr = .inl g ∧ ab_at S k pc lv2 st h = some (.inl g2) ∧ ab_gle g g2) ∨ ((∃ j, rr = .inr j) ∧ ab_at S k pc lv2 st h = some rr) := by
      intro rr hrr
      unfold ab_at ab_any at hrr ⊢
      cases c1 : (Nat.beq (ab_cd k pc).1 38 || Nat.beq (ab_cd k pc).1 39) with
      | true =>
        rw [c1] at hrr
        simp only [cond_true] at hrr ⊢
        refine Or.inr ⟨?_, hrr⟩
        split at hrr
        · cases hrr; exact ⟨_, rfl⟩
        · cases hrr
      | false =>
        rw [c1] at hrr
        simp only [cond_false] at hrr ⊢
        cases c2 : (Nat.ble 41 (ab_cd k pc).1 && Nat.ble (ab_cd k pc).1 45) with
        | true =>
          rw [c2] at hrr
          simp only [cond_true] at hrr ⊢
          refine Or.inr ⟨?_, hrr⟩
          split at hrr
          · cases hrr; exact ⟨_, rfl⟩
          · cases hrr
        | false =>
          rw [c2] at hrr
          simp only [cond_false] at hrr ⊢
          split at hrr
          · rename_i g hg
            cases hrr
            obtain ⟨g2, h1, h2⟩ := hact g hg
            rw [h1]
            exact Or.inl ⟨g, g2, rfl, rfl, h2⟩
          · cases hrr
    unfold ab_run at hr
    rw [ab_run]
    split at hr
    · cases hr
    · rename_i s h1
      rcases hat _ h1 with ⟨g, g2, e1, e2, e3⟩ | ⟨⟨j, hj⟩, -⟩
      · cases e1
        rw [e2]
        cases g2 with
        | inl t => exact goS s t e3 hr
        | inr t => exact absurd e3 id
      · cases hj
    · rename_i s s9 h1
      rcases hat _ h1 with ⟨g, g2, e1, e2, e3⟩ | ⟨⟨j, hj⟩, -⟩
      · cases e1
        rw [e2]
        cases g2 with
        | inl t => cases s9 <;> exact absurd e3 id
        | inr t =>
          obtain ⟨b, t1, t2⟩ := t
          cases s9 with
          | none =>
            cases t2 with
            | none => obtain ⟨rfl, e4⟩ := e3; exact goS s t1 e4 hr
            | some t2 => exact absurd e3 id
          | some s2 =>
            cases t2 with
            | none => exact absurd e3 id
            | some t2 => obtain ⟨rfl, e4, -⟩ := e3; exact goS s t1 e4 hr
      · cases hj
    · cases hr
    · rename_i s9 s h1
      rcases hat _ h1 with ⟨g, g2, e1, e2, e3⟩ | ⟨⟨j, hj⟩, -⟩
      · cases e1
        rw [e2]
        cases g2 with
        | inl t => exact absurd e3 id
        | inr t =>
          obtain ⟨b, t1, t2⟩ := t
          cases t2 with
          | none => exact absurd e3 id
          | some t2 => obtain ⟨rfl, -, e4⟩ := e3; exact goS s t2 e4 hr
      · cases hj
    · rename_i k2 as rest h1
      rcases hat _ h1 with ⟨g, g2, e1, e2, e3⟩ | ⟨-, e2⟩
      · cases e1
      · rw [e2]
        dsimp only
        cases hm : ab_may k k2 as rest with
        | false => rw [hm] at hr; cases hr
        | true =>
          rw [hm] at hr
          simp only [cond_true] at hr ⊢
          cases hr2 : ab_run S n k2 0 (lv_args 0 as) [] h 0 with
          | none => rw [hr2] at hr; cases hr
          | some r2 =>
            rw [hr2] at hr
            obtain ⟨o2, h2, e2⟩ := r2
            cases o2 with
            | inl v => exact ih _ _ _ _ _ _ _ _ hl hr
            | inr x =>
              dsimp only at hr ⊢
              cases hh : (ab_hh k).isEmpty with
              | true => rw [hh] at hr; exact hr
              | false =>
                rw [hh] at hr
                simp only [cond_false] at hr ⊢
                split at hr
                · cases hr
                · rename_i p2 i2 hhd
                  exact ih _ _ _ _ _ _ _ _ (ab_rl_dr hl) hr
    · rename_i v h1
      rcases hat _ h1 with ⟨g, g2, e1, e2, e3⟩ | ⟨-, e2⟩
      · cases e1
      · rw [e2]; exact hr
    · rename_i v h1
      rcases hat _ h1 with ⟨g, g2, e1, e2, e3⟩ | ⟨-, e2⟩
      · cases e1
      · rw [e2]; exact hr
    · cases hr
def ab_le : ab_L → ab_L → Prop
  | [], _ => True
  | q :: t, l => ab_lk l q.1 = some q.2 ∧ ab_le t l
theorem ab_le_of : ∀ {l0 l : ab_L}, ab_le l0 l → ab_lel l0 l := by
  intro l0
  induction l0 with
  | nil => intro l _ q hq; cases hq
  | cons a t ih =>
    intro l h q hq
    rcases List.mem_cons.mp hq with rfl | hq
    · exact h.1
    · exact ih h.2 q hq
theorem ab_e_wk {α : Type} {emb : α → ab_Rs} {S : Nat × (Nat → Int32)} {k pc : Nat} {lv : ab_L} {st : List Value} {h : ab_H} {o : Option α} (lv0 : ab_L) (hl : ab_le lv0 lv) (hE : ab_Eg emb S k (pc, lv0, st, h) o) : ab_Eg emb S k (pc, lv, st, h) o := by
  intro v hv
  obtain ⟨n, hn⟩ := hE v hv
  exact ⟨n, fun e => ab_wrun S _ _ _ _ _ _ _ _ _ (ab_le_of hl) (hn e)⟩
