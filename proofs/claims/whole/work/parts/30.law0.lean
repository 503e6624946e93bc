/-! ===== runs with a count of exceptions; the law's steps ===== -/
def ab_Ec (S : Nat × (Nat → Int32)) (k : Nat) (s : ab_S) (r : ab_Rs) (c : Nat) : Prop := ∃ n, ∀ e, ab_run S n k s.1 s.2.1 s.2.2.1 s.2.2.2 e = some (r.1, r.2, e + c)
def ab_Rc (S : Nat × (Nat → Int32)) (k c : Nat) (s t : ab_S) : Prop := ∀ r c2, ab_Ec S k t r c2 → ab_Ec S k s r (c + c2)
section EC
variable {S : Nat × (Nat → Int32)} {k k2 c c1 c2 : Nat} {s s1 t u : ab_S} {r : ab_Rs} {as rest : List Value} {h2 : ab_H}
theorem ab_ec_of (h : ab_Ev S k s r) : ab_Ec S k s r (ab_cnt r.1) := h
theorem ab_ec_1 (h : ab_stp1 S k s = some t) (hE : ab_Ec S k t r c) : ab_Ec S k s r c := by
  obtain ⟨n, hn⟩ := hE
  refine ⟨n + 1, fun e => ?_⟩
  have h9 := hn e
  unfold ab_stp1 ab_ats at h
  unfold ab_run
  split at h
  · rename_i u hat; cases h; rw [hat]; exact h9
  · rename_i u u2 hat; cases h; rw [hat]; exact h9
  · rename_i u u2 hat; cases h; rw [hat]; exact h9
  · cases h
theorem ab_ec_go : ∀ (m : Nat) {s t : ab_S}, ab_stps S k m s = some t → ab_Ec S k t r c → ab_Ec S k s r c := by
  intro m
  induction m with
  | zero => intro s t h hE; cases h; exact hE
  | succ m ih =>
    intro s t h hE
    unfold ab_stps at h
    split at h
    · rename_i u hu
      exact ab_ec_1 hu (ih h hE)
    · cases h
theorem ab_ec_gd {b : Bool} {o : Option ab_S} (hb : b = true) (h : ab_ats S k s = some (.inl (.inr (b, t, o)))) (hE : ab_Ec S k t r c) : ab_Ec S k s r c := by
  refine ab_ec_1 (t := t) ?_ hE
  unfold ab_stp1
  rw [h, hb]
theorem ab_ec_nt {b : Bool} {o : ab_S} (hb : b = false) (h : ab_ats S k s = some (.inl (.inr (b, o, some t)))) (hE : ab_Ec S k t r c) : ab_Ec S k s r c := by
  refine ab_ec_1 (t := t) ?_ hE
  unfold ab_stp1
  rw [h, hb]
theorem ab_ec_end {v : Option Value} (h : ab_ats S k s = some (.inr (.inr (true, .inl v)))) : ab_Ec S k s (.inl v, s.2.2.2) 0 := by
  refine ⟨1, fun e => ?_⟩
  unfold ab_ats at h
  unfold ab_run
  rw [h]
  rfl
theorem ab_ec_ca {v : Option Value} (h : ab_ats S k s = some (.inr (.inl (k2, as, rest)))) (hm : ab_may k k2 as rest = true) (hc : ab_Ec S k2 (0, lv_args 0 as, [], s.2.2.2) (.inl v, h2) c1) (hE : ab_Ec S k (s.1 + 3, s.2.1, v.toList ++ rest, h2) r c) : ab_Ec S k s r (c1 + c) := by
  obtain ⟨n, hn⟩ := hc
  obtain ⟨n2, hn2⟩ := hE
  refine ⟨(n + n2) + 1, fun e => ?_⟩
  have g1 := ab_fuel S (hn 0) (Nat.le_add_right n n2)
  have g2 := ab_fuel S (hn2 (e + c1)) (Nat.le_add_left n2 n)
  unfold ab_ats at h
  unfold ab_run
  rw [h]
  dsimp only
  rw [hm]
  simp only [cond_true]
  rw [g1]
  dsimp only
  rw [Nat.zero_add, g2, Nat.add_assoc]
theorem ab_ec_cx {x p2 i : Nat} (h : ab_ats S k s = some (.inr (.inl (k2, as, rest)))) (hm : ab_may k k2 as rest = true) (hc : ab_Ec S k2 (0, lv_args 0 as, [], s.2.2.2) (.inr x, h2) c1) (hh : (ab_hh k).isEmpty = false) (hd : ab_hd (ab_hh k) s.1 x = some (p2, i))
    (hE : ab_Ec S k (p2, ab_dr i s.2.1, [], h2) r c) : ab_Ec S k s r (c1 + c) := by
  obtain ⟨n, hn⟩ := hc
  obtain ⟨n2, hn2⟩ := hE
  refine ⟨(n + n2) + 1, fun e => ?_⟩
  have g1 := ab_fuel S (hn 0) (Nat.le_add_right n n2)
  have g2 := ab_fuel S (hn2 (e + c1)) (Nat.le_add_left n2 n)
  unfold ab_ats at h
  unfold ab_run
  rw [h]
  dsimp only
  rw [hm]
  simp only [cond_true]
  rw [g1]
  dsimp only
  rw [hh]
  simp only [cond_false]
  rw [hd]
  dsimp only
  rw [Nat.zero_add, g2, Nat.add_assoc]
theorem ab_q_rf : ab_Rc S k 0 s s := fun r c2 h => by rw [Nat.zero_add]; exact h
theorem ab_q_tr (h1 : ab_Rc S k c1 s t) (h2 : ab_Rc S k c2 t u) : ab_Rc S k (c1 + c2) s u := fun r c3 h => by rw [Nat.add_assoc]; exact h1 r _ (h2 r _ h)
theorem ab_q_go (m : Nat) (t : ab_S) (h : ab_stps S k m s = some t) (hR : ab_Rc S k c t u) : ab_Rc S k c s u := fun r c2 hE => ab_ec_go m h (hR r c2 hE)
theorem ab_q_t {d : Prop} [Decidable d] (t : ab_S) {o : Option ab_S} (hd : d) (h : ab_ats S k s = some (.inl (.inr (decide d, t, o)))) (hR : ab_Rc S k c t u) : ab_Rc S k c s u := fun r c2 hE => ab_ec_gd (decide_eq_true hd) h (hR r c2 hE)
theorem ab_q_f {d : Prop} [Decidable d] (t : ab_S) {o : ab_S} (hd : ¬ d) (h : ab_ats S k s = some (.inl (.inr (decide d, o, some t)))) (hR : ab_Rc S k c t u) : ab_Rc S k c s u := fun r c2 hE => ab_ec_nt (decide_eq_false hd) h (hR r c2 hE)
/-- a value out of the script, by its name -/
theorem ab_q_ld {pc : Nat} {lv : ab_L} {x y : Int32} {st : List Value} {h0 : ab_H} {b : Bool} (hb : b = true) (hx : x = y) (h : ab_ats S k s = some (.inl (.inr (b, (pc, lv, .int x :: st, h0), none)))) (hR : ab_Rc S k c (pc, lv, .int y :: st, h0) u) : ab_Rc S k c s u := fun r c2 hE => ab_ec_gd hb h (by rw [hx]; exact hR r c2 hE)
theorem ab_q_gd {t : ab_S} {b : Bool} (hb : b = true) (h : ab_ats S k s = some (.inl (.inr (b, t, none)))) (hR : ab_Rc S k c t u) : ab_Rc S k c s u := fun r c2 hE => ab_ec_gd hb h (hR r c2 hE)
theorem ab_q_ca {v : Option Value} (h : ab_ats S k s = some (.inr (.inl (k2, as, rest)))) (hm : ab_may k k2 as rest = true) (hc : ab_Ec S k2 (0, lv_args 0 as, [], s.2.2.2) (.inl v, h2) c1) (hR : ab_Rc S k c (s.1 + 3, s.2.1, v.toList ++ rest, h2) u) : ab_Rc S k (c1 + c) s u := fun r c2 hE => by
  rw [Nat.add_assoc]
  exact ab_ec_ca h hm hc (hR r c2 hE)
theorem ab_q_sw {x y : Int32} {r : Nat} {lv : ab_L} {st : List Value} {h0 : ab_H} (p : Nat) (hx : x = y) (hp : ab_tsw y r = p) (hR : ab_Rc S k c (p, lv, st, h0) u) : ab_Rc S k c (ab_tsw x r, lv, st, h0) u := by
  rw [hx, hp]
  exact hR
theorem ab_q_wk {pc : Nat} {lv lv0 : ab_L} {st : List Value} {h0 : ab_H} (hl : ab_le lv0 lv) (hR : ab_Rc S k c (pc, lv0, st, h0) u) : ab_Rc S k c (pc, lv, st, h0) u := fun r c2 hE => by
  obtain ⟨n, hn⟩ := hR r c2 hE
  exact ⟨n, fun e => ab_wrun S _ _ _ _ _ _ _ _ _ (ab_le_of hl) (hn e)⟩
end EC
