/-! ===== EVALUATION: runs of the abstract machine, put together; o: what is computed, emb: as a result ===== -/
abbrev ab_XX : Type := Nat → Nat → Int32
abbrev ab_WW : Type := (Nat → Int64) × (Nat → UInt64)
abbrev ab_Rs : Type := (Option Value ⊕ Nat) × ab_H
def ab_cnt (o : Option Value ⊕ Nat) : Nat := match o with
  | .inl _ => 0
  | .inr _ => 1
def ab_Ev (S : Nat × (Nat → Int32)) (k : Nat) (s : ab_S) (r : ab_Rs) : Prop := ∃ n, ∀ e, ab_run S n k s.1 s.2.1 s.2.2.1 s.2.2.2 e = some (r.1, r.2, e + ab_cnt r.1)
def ab_Eg {α : Type} (emb : α → ab_Rs) (S : Nat × (Nat → Int32)) (k : Nat) (s : ab_S) (o : Option α) : Prop := ∀ v, o = some v → ab_Ev S k s (emb v)
def ab_ats (S : Nat × (Nat → Int32)) (k : Nat) (s : ab_S) : Option ab_R := ab_at S k s.1 s.2.1 s.2.2.1 s.2.2.2
def ab_stp1 (S : Nat × (Nat → Int32)) (k : Nat) (s : ab_S) : Option ab_S := match ab_ats S k s with
  | some (.inl (.inl t)) => some t
  | some (.inl (.inr (true, t, _))) => some t
  | some (.inl (.inr (false, _, some t))) => some t
  | _ => none
def ab_stps (S : Nat × (Nat → Int32)) (k : Nat) : Nat → ab_S → Option ab_S
  | 0, s => some s
  | n + 1, s => match ab_stp1 S k s with
    | some t => ab_stps S k n t
    | none => none
theorem ab_fuel1 (S : Nat × (Nat → Int32)) : ∀ (n k pc : Nat) (lv : ab_L) (st : List Value) (h : ab_H) (e : Nat) (r : ab_O), ab_run S n k pc lv st h e = some r → ab_run S (n + 1) k pc lv st h e = some r := by
  intro n
  induction n with
  | zero => intro k pc lv st h e r hr; simp [ab_run] at hr
  | succ n ih =>
    intro k pc lv st h e r hr
    unfold ab_run at hr
    rw [ab_run]
    split at hr
    · cases hr
    · rename_i s hat; exact ih _ _ _ _ _ _ _ hr
    · rename_i s t hat; exact ih _ _ _ _ _ _ _ hr
    · cases hr
    · rename_i s t hat; exact ih _ _ _ _ _ _ _ hr
    · rename_i k2 as rest hat
      cases hm : ab_may k k2 as rest with
      | false => rw [hm] at hr; cases hr
      | true =>
        rw [hm] at hr
        simp only [cond_true] at hr ⊢
        cases hr2 : ab_run S n k2 0 (lv_args 0 as) [] h 0 with
        | none => rw [hr2] at hr; cases hr
        | some r2 =>
          rw [hr2] at hr
          rw [ih _ _ _ _ _ _ _ hr2]
          obtain ⟨o2, h2, e2⟩ := r2
          cases o2 with
          | inl v => exact ih _ _ _ _ _ _ _ hr
          | inr x =>
            dsimp only at hr ⊢
            cases hh : (ab_hh k).isEmpty with
            | true => rw [hh] at hr; exact hr
            | false =>
              rw [hh] at hr
              simp only [cond_false] at hr ⊢
              split at hr
              · cases hr
              · rename_i p2 i2 hhd
                exact ih _ _ _ _ _ _ _ hr
    · rename_i v hat; exact hr
    · rename_i v hat; exact hr
    · cases hr
theorem ab_fuel (S : Nat × (Nat → Int32)) {n m k pc : Nat} {lv : ab_L} {st : List Value} {h : ab_H} {e : Nat} {r : ab_O} (hr : ab_run S n k pc lv st h e = some r) (hm : n ≤ m) : ab_run S m k pc lv st h e = some r := by
  induction hm with
  | refl => exact hr
  | step _ ih => exact ab_fuel1 S _ _ _ _ _ _ _ _ ih
section EV
variable {S : Nat × (Nat → Int32)} {k : Nat} {s t t1 t2 : ab_S} {α β : Type} {emb : α → ab_Rs} {o o1 o2 : Option α}
theorem ab_ev1 {r : ab_Rs} (h : ab_stp1 S k s = some t) (hE : ab_Ev S k t r) : ab_Ev S k s r := by
  obtain ⟨n, hn⟩ := hE
  refine ⟨n + 1, fun e => ?_⟩
  have h9 := hn e
  unfold ab_stp1 ab_ats at h
  unfold ab_run
  split at h
  · rename_i u hat; cases h; rw [hat]; exact h9
  · rename_i u u2 hat; cases h; rw [hat]; exact h9
  · rename_i u u2 hat; cases h; rw [hat]; exact h9
  · cases h
theorem ab_evs {r : ab_Rs} : ∀ (m : Nat) (s t : ab_S), ab_stps S k m s = some t → ab_Ev S k t r → ab_Ev S k s r := by
  intro m
  induction m with
  | zero => intro s t h hE; cases h; exact hE
  | succ m ih =>
    intro s t h hE
    unfold ab_stps at h
    split at h
    · rename_i u hu
      exact ab_ev1 hu (ih u t h hE)
    · cases h
theorem ab_e_go (m : Nat) (t : ab_S) (h : ab_stps S k m s = some t) (hE : ab_Eg emb S k t o) : ab_Eg emb S k s o := fun v hv => ab_evs m s t h (hE v hv)
theorem ab_e_none : ab_Eg emb S k s none := fun v hv => by cases hv
theorem ab_e_br {c : Prop} [Decidable c] (t1 t2 : ab_S) (h : ab_ats S k s = some (.inl (.inr (decide c, t1, some t2)))) (h1 : c → ab_Eg emb S k t1 o1) (h2 : ¬ c → ab_Eg emb S k t2 o2) : ab_Eg emb S k s (if c then o1 else o2) := by
  by_cases hc : c
  · rw [if_pos hc]
    refine fun v hv => ab_ev1 (t := t1) ?_ (h1 hc v hv)
    unfold ab_stp1
    rw [h, decide_eq_true hc]
  · rw [if_neg hc]
    refine fun v hv => ab_ev1 (t := t2) ?_ (h2 hc v hv)
    unfold ab_stp1
    rw [h, decide_eq_false hc]
/-- the branch is taken where c does not hold -/
theorem ab_e_bn {c : Prop} [Decidable c] (t1 t2 : ab_S) (h : ab_ats S k s = some (.inl (.inr (decide (¬ c), t1, some t2)))) (h1 : ¬ c → ab_Eg emb S k t1 o1) (h2 : c → ab_Eg emb S k t2 o2) : ab_Eg emb S k s (if c then o2 else o1) := by
  by_cases hc : c
  · rw [if_pos hc]
    refine fun v hv => ab_ev1 (t := t2) ?_ (h2 hc v hv)
    unfold ab_stp1
    rw [h, decide_eq_false (fun z => z hc)]
  · rw [if_neg hc]
    refine fun v hv => ab_ev1 (t := t1) ?_ (h1 hc v hv)
    unfold ab_stp1
    rw [h, decide_eq_true hc]
theorem ab_e_gd {b : Bool} (t1 : ab_S) (h : ab_ats S k s = some (.inl (.inr (b, t1, none)))) (h1 : ab_Eg emb S k t1 o) : ab_Eg emb S k s (if b = true then o else none) := by
  cases b with
  | false => exact ab_e_none
  | true =>
    refine fun v hv => ab_ev1 (t := t1) ?_ (h1 v hv)
    unfold ab_stp1
    rw [h]
theorem ab_e_gp {c : Prop} [Decidable c] (t1 : ab_S) (h : ab_ats S k s = some (.inl (.inr (decide c, t1, none)))) (h1 : ab_Eg emb S k t1 o) : ab_Eg emb S k s (if c then o else none) := by
  by_cases hc : c
  · rw [if_pos hc]
    refine fun v hv => ab_ev1 (t := t1) ?_ (h1 v hv)
    unfold ab_stp1
    rw [h, decide_eq_true hc]
  · rw [if_neg hc]
    exact ab_e_none
theorem ab_e_rt {v : α} {r : Option Value ⊕ Nat} (h : ab_ats S k s = some (.inr (.inr (true, r)))) (he : emb v = (r, s.2.2.2)) : ab_Eg emb S k s (some v) := by
  intro w hw
  cases hw
  refine ⟨1, fun e => ?_⟩
  unfold ab_ats at h
  unfold ab_run
  rw [h, he]
  cases r <;> rfl
theorem ab_e_rb {v : α} {b : Bool} {r : Option Value ⊕ Nat} (h : ab_ats S k s = some (.inr (.inr (b, r)))) (he : emb v = (r, s.2.2.2)) : ab_Eg emb S k s (if b = true then some v else none) := by
  cases b with
  | false => exact ab_e_none
  | true => exact ab_e_rt h he
theorem ab_e_let {x : β} {f : β → Option α} (h : ab_Eg emb S k s (f x)) : ab_Eg emb S k s ((some x).bind f) := h
/-- a call, whatever comes back -/
theorem ab_e_call {embc : β → ab_Rs} {oc : Option β} {f : β → Option α} {k2 : Nat} {as rest : List Value} (h : ab_ats S k s = some (.inr (.inl (k2, as, rest)))) (hm : ab_may k k2 as rest = true) (hc : ab_Eg embc S k2 (0, lv_args 0 as, [], s.2.2.2) oc)
    (hk : ∀ v x, (embc v).1 = .inl x → ab_Eg emb S k (s.1 + 3, s.2.1, x.toList ++ rest, (embc v).2) (f v))
    (hx : ∀ v x, (embc v).1 = .inr x → (ab_hh k).isEmpty = true ∧ ∀ w, f v = some w → emb w = (.inr x, (embc v).2)) : ab_Eg emb S k s (oc.bind f) := by
  intro w hw
  cases ho : oc with
  | none => rw [ho] at hw; cases hw
  | some v =>
    rw [ho] at hw
    replace hw : f v = some w := hw
    obtain ⟨n, hn⟩ := hc v ho
    unfold ab_ats at h
    cases hr : (embc v).1 with
    | inl x =>
      obtain ⟨n2, hn2⟩ := hk v x hr w hw
      refine ⟨(n + n2) + 1, fun e => ?_⟩
      have h1 := ab_fuel S (hn 0) (Nat.le_add_right n n2)
      have h2 := ab_fuel S (hn2 e) (Nat.le_add_left n2 n)
      rw [hr] at h1
      unfold ab_run
      rw [h]
      dsimp only
      rw [hm]
      simp only [cond_true]
      rw [show ab_run S (n + n2) k2 0 (lv_args 0 as) [] s.2.2.2 0 = some (.inl x, (embc v).2, 0 + 0) from h1]
      exact h2
    | inr x =>
      obtain ⟨g1, g2⟩ := hx v x hr
      refine ⟨n + 1, fun e => ?_⟩
      have h1 := hn 0
      rw [hr] at h1
      unfold ab_run
      rw [h]
      dsimp only
      rw [hm]
      simp only [cond_true]
      rw [show ab_run S n k2 0 (lv_args 0 as) [] s.2.2.2 0 = some (.inr x, (embc v).2, 0 + 1) from h1]
      dsimp only
      rw [g1, g2 w hw]
      rfl
end EV
/-! the four kinds of results: f gives the value; with or without a throw; with or without writing -/
def ab_fI (v : Int32) : Option Value := some (.int v)
def ab_fU (_ : Unit) : Option Value := none
def ab_fD (v : UInt64) : Option Value := some (.double v)
def ab_fF (v : UInt32) : Option Value := some (.float v)
def ab_m1 {A : Type} (f : A → Option Value) (h : ab_H) : A → ab_Rs := fun v => (.inl (f v), h)
def ab_m2 {A : Type} (f : A → Option Value) (h : ab_H) : A ⊕ Nat → ab_Rs := fun v => match v with
  | .inl a => (.inl (f a), h)
  | .inr x => (.inr x, h)
def ab_m3 {A : Type} (f : A → Option Value) (w : ab_WW) : A × ab_XX → ab_Rs := fun v => (.inl (f v.1), (v.2, w))
def ab_m4 {A : Type} (f : A → Option Value) (w : ab_WW) : (A ⊕ Nat) × ab_XX → ab_Rs := fun v => match v.1 with
  | .inl a => (.inl (f a), (v.2, w))
  | .inr x => (.inr x, (v.2, w))
def ab_b2 {A α : Type} (oc : Option (A ⊕ Nat)) (f : A → Option α) (g : Nat → Option α) : Option α := oc.bind fun v => v.elim f g
def ab_b3 {A α : Type} (oc : Option (A × ab_XX)) (f : A → ab_XX → Option α) : Option α := oc.bind fun v => f v.1 v.2
def ab_b4 {A α : Type} (oc : Option ((A ⊕ Nat) × ab_XX)) (f : A → ab_XX → Option α) (g : Nat → ab_XX → Option α) : Option α := oc.bind fun v => v.1.elim (fun a => f a v.2) (fun x => g x v.2)
section EV2
variable {S : Nat × (Nat → Int32)} {k : Nat} {α A : Type} {emb : α → ab_Rs} {k2 pc : Nat} {as rest st : List Value} {lv : ab_L} {X : ab_XX} {w : ab_WW} {fv : A → Option Value}
theorem ab_e_c1 {oc : Option A} {f : A → Option α} (h : ab_ats S k (pc, lv, st, (X, w)) = some (.inr (.inl (k2, as, rest)))) (hm : ab_may k k2 as rest = true) (hc : ab_Eg (ab_m1 fv (X, w)) S k2 (0, lv_args 0 as, [], (X, w)) oc)
    (hk : ∀ v, ab_Eg emb S k (pc + 3, lv, (fv v).toList ++ rest, (X, w)) (f v)) : ab_Eg emb S k (pc, lv, st, (X, w)) (oc.bind f) := by
  refine ab_e_call h hm hc (fun v x hx => ?_) (fun v x hx => by cases hx)
  cases hx
  exact hk v
theorem ab_e_c2 {oc : Option (A ⊕ Nat)} {f : A → Option α} {g : Nat → Option α} (h : ab_ats S k (pc, lv, st, (X, w)) = some (.inr (.inl (k2, as, rest)))) (hm : ab_may k k2 as rest = true) (hh : (ab_hh k).isEmpty = true) (hc : ab_Eg (ab_m2 fv (X, w)) S k2 (0, lv_args 0 as, [], (X, w)) oc)
    (hk : ∀ v, ab_Eg emb S k (pc + 3, lv, (fv v).toList ++ rest, (X, w)) (f v)) (hg : ∀ x v, g x = some v → emb v = (.inr x, (X, w))) : ab_Eg emb S k (pc, lv, st, (X, w)) (ab_b2 oc f g) := by
  refine ab_e_call h hm hc (fun v x hx => ?_) (fun v x hx => ?_)
  · cases v with
    | inl v => cases hx; exact hk v
    | inr y => cases hx
  · cases v with
    | inl v => cases hx
    | inr y =>
      cases hx
      exact ⟨hh, fun u hu => hg _ u hu⟩
theorem ab_e_c3 {oc : Option (A × ab_XX)} {f : A → ab_XX → Option α} (h : ab_ats S k (pc, lv, st, (X, w)) = some (.inr (.inl (k2, as, rest)))) (hm : ab_may k k2 as rest = true) (hc : ab_Eg (ab_m3 fv w) S k2 (0, lv_args 0 as, [], (X, w)) oc)
    (hk : ∀ v X2, ab_Eg emb S k (pc + 3, lv, (fv v).toList ++ rest, (X2, w)) (f v X2)) : ab_Eg emb S k (pc, lv, st, (X, w)) (ab_b3 oc f) := by
  refine ab_e_call h hm hc (fun v x hx => ?_) (fun v x hx => by cases hx)
  cases hx
  exact hk v.1 v.2
theorem ab_e_c4 {oc : Option ((A ⊕ Nat) × ab_XX)} {f : A → ab_XX → Option α} {g : Nat → ab_XX → Option α} (h : ab_ats S k (pc, lv, st, (X, w)) = some (.inr (.inl (k2, as, rest)))) (hm : ab_may k k2 as rest = true) (hh : (ab_hh k).isEmpty = true) (hc : ab_Eg (ab_m4 fv w) S k2 (0, lv_args 0 as, [], (X, w)) oc)
    (hk : ∀ v X2, ab_Eg emb S k (pc + 3, lv, (fv v).toList ++ rest, (X2, w)) (f v X2)) (hg : ∀ x X2 v, g x X2 = some v → emb v = (.inr x, (X2, w))) : ab_Eg emb S k (pc, lv, st, (X, w)) (ab_b4 oc f g) := by
  refine ab_e_call h hm hc (fun v x hx => ?_) (fun v x hx => ?_)
  · obtain ⟨v, X2⟩ := v
    cases v with
    | inl v => cases hx; exact hk v X2
    | inr y => cases hx
  · obtain ⟨v, X2⟩ := v
    cases v with
    | inl v => cases hx
    | inr y =>
      cases hx
      exact ⟨hh, fun u hu => hg _ X2 u hu⟩
end EV2
