/-! ===== running the abstract machine; its rows for the machine's facts ===== -/
def ab_cat (st : List Value) : Nat := (st.map fun v => v.category).sum
/-- the handler of the class x at pc: where it goes on, and the local that holds the thrown -/
def ab_hd : List ((Nat × Nat × Nat × Nat) × (Nat × Nat × Nat)) → Nat → Nat → Option (Nat × Nat)
  | [], _, _ => none
  | y :: t, pc, x => bif Nat.ble y.1.1 pc && Nat.blt pc y.1.2.1 && Nat.beq y.2.1 x then some (y.2.2.1, y.2.2.2) else ab_hd t pc x
abbrev ab_O : Type := (Option Value ⊕ Nat) × ab_H × Nat
def ab_at (S : Nat × (Nat → Int32)) (k pc : Nat) (lv : ab_L) (st : List Value) (h : ab_H) : Option ab_R := ab_any S (Nat.beq k ab_law) ab_rc (ab_cd k pc) pc lv st h
def ab_may (k k2 : Nat) (as rest : List Value) : Bool := Nat.blt (ab_dep k2) (ab_dep k) && Nat.ble (ab_cat rest) 8 && Nat.ble (ab_cat as) (ab_ml k2)
def ab_run (S : Nat × (Nat → Int32)) : Nat → Nat → Nat → ab_L → List Value → ab_H → Nat → Option ab_O
  | 0, _, _, _, _, _, _ => none
  | n + 1, k, pc, lv, st, h, e =>
    match ab_at S k pc lv st h with
    | none => none
    | some (.inl (.inl s)) => ab_run S n k s.1 s.2.1 s.2.2.1 s.2.2.2 e
    | some (.inl (.inr (true, s, _))) => ab_run S n k s.1 s.2.1 s.2.2.1 s.2.2.2 e
    | some (.inl (.inr (false, _, none))) => none
    | some (.inl (.inr (false, _, some s))) => ab_run S n k s.1 s.2.1 s.2.2.1 s.2.2.2 e
    | some (.inr (.inl (k2, as, rest))) =>
      bif ab_may k k2 as rest then
        match ab_run S n k2 0 (lv_args 0 as) [] h 0 with
        | none => none
        | some (.inl v, h2, e2) => ab_run S n k (pc + 3) lv (v.toList ++ rest) h2 (e + e2)
        | some (.inr x, h2, e2) => bif (ab_hh k).isEmpty then some (.inr x, h2, e + e2) else
          match ab_hd (ab_hh k) pc x with
          | none => none
          | some (p2, i) => ab_run S n k p2 (ab_dr i lv) [] h2 (e + e2)
      else none
    | some (.inr (.inr (true, .inl v))) => some (.inl v, h, e)
    | some (.inr (.inr (true, .inr x))) => some (.inr x, h, e + 1)
    | some (.inr (.inr (false, _))) => none
/-- the number of exceptions grows -/
theorem ab_mono (S : Nat × (Nat → Int32)) : ∀ (n k pc : Nat) (lv : ab_L) (st : List Value) (h : ab_H) (e : Nat) (r : ab_O), ab_run S n k pc lv st h e = some r → e ≤ r.2.2 := by
  intro n
  induction n with
  | zero => intro k pc lv st h e r hr; simp [ab_run] at hr
  | succ n ih =>
    intro k pc lv st h e r hr
    unfold ab_run at hr
    split at hr
    · cases hr
    · exact ih _ _ _ _ _ _ _ hr
    · exact ih _ _ _ _ _ _ _ hr
    · cases hr
    · exact ih _ _ _ _ _ _ _ hr
    · rename_i k2 as rest hq
      cases hm : ab_may k k2 as rest with
      | false => rw [hm] at hr; cases hr
      | true =>
        rw [hm] at hr
        simp only [cond_true] at hr
        split at hr
        · cases hr
        · exact Nat.le_trans (Nat.le_add_right _ _) (ih _ _ _ _ _ _ _ hr)
        · cases he : (ab_hh k).isEmpty with
          | true =>
            rw [he] at hr
            simp only [cond_true] at hr
            cases hr
            exact Nat.le_add_right _ _
          | false =>
            rw [he] at hr
            simp only [cond_false] at hr
            split at hr
            · cases hr
            · exact Nat.le_trans (Nat.le_add_right _ _) (ih _ _ _ _ _ _ _ hr)
    · cases hr; exact Nat.le_refl _
    · cases hr; exact Nat.le_succ _
    · cases hr
/-! from the abstract to the machine: a reference k is the address a k -/
def ab_cv (a : Nat → Nat) (v : Value) : Value := match v with
  | .ref k => .ref (a k)
  | v => v
theorem ab_cv_cat (a : Nat → Nat) (v : Value) : (ab_cv a v).category = v.category := by cases v <;> rfl
def ab_cl1 (a : Nat → Nat) (l : ab_L) : ab_L := l.map fun q => (q.1, ab_cv a q.2)
/-- the cells of the world -/
def ab_ce (a : Nat → Nat) (cI cJ cD : ClassId) (h : ab_H) (c : Nat) : va_E :=
  if ab_cls c < 7 then .inr (ab_cls c, (List.range (ab_nf (ab_cls c))).map (fun k => ab_cv a (ab_fv h.1 c k)))
  else if ab_len c = 0 then (if c = 17 then .inl (cJ, 1, .inr (.inl h.2.1)) else .inl (cD, 1, .inr (.inr (.inr (.inl h.2.2)))))
  else .inl (cI, ab_len c, .inl (h.1 c))
def ab_ws (a : Nat → Nat) (cI cJ cD : ClassId) (h : ab_H) : va_W := (List.range 19).map fun c => (a c, ab_ce a cI cJ cD h c)
theorem ab_ws_at (a : Nat → Nat) (cI cJ cD : ClassId) (h : ab_H) {c : Nat} (hc : c < 19) : (ab_ws a cI cJ cD h)[c]? = some (a c, ab_ce a cI cJ cD h c) := by
  unfold ab_ws
  rw [List.getElem?_map, List.getElem?_range hc]
  rfl
theorem ab_ws_set (a : Nat → Nat) (cI cJ cD : ClassId) (h h2 : ab_H) {c : Nat} (hc : c < 19) {e : va_E} (he : e = ab_ce a cI cJ cD h2 c) (ho : ∀ d, d < 19 → d ≠ c → ab_ce a cI cJ cD h d = ab_ce a cI cJ cD h2 d) :
    (ab_ws a cI cJ cD h).set c (a c, e) = ab_ws a cI cJ cD h2 := by
  apply List.ext_getElem?
  intro i
  by_cases hi : i < 19
  · rw [ab_ws_at a cI cJ cD h2 hi]
    by_cases hic : i = c
    · subst hic
      rw [List.getElem?_set_self (by simpa [ab_ws] using hi), he]
    · rw [List.getElem?_set_ne (Ne.symm hic), ab_ws_at a cI cJ cD h hi, ho i hi hic]
  · rw [List.getElem?_eq_none (by simp [ab_ws]; omega), List.getElem?_eq_none (by simp [ab_ws]; omega)]
theorem ab_cls_lt {c : Nat} (h : ab_cls c < 7) : c < 19 := by
  unfold ab_cls at h
  rcases Nat.lt_or_ge c 19 with q | q
  · exact q
  · rw [List.getD_eq_getElem?_getD, List.getElem?_eq_none (by simpa [ab_clsL] using q)] at h
    simp at h
theorem ab_len_lt {c : Nat} (h : ab_len c ≠ 0) : c < 19 := by
  unfold ab_len at h
  rcases Nat.lt_or_ge c 19 with q | q
  · exact q
  · rw [List.getD_eq_getElem?_getD, List.getElem?_eq_none (by simpa [ab_lenL] using q)] at h
    simp at h
theorem ab_len_cls : ∀ c, c < 19 → ab_len c ≠ 0 → ¬ ab_cls c < 7 := by decide +kernel
theorem ab_ce_arr (a : Nat → Nat) (cI cJ cD : ClassId) (h : ab_H) {c : Nat} (hl : ab_len c ≠ 0) : ab_ce a cI cJ cD h c = .inl (cI, ab_len c, .inl (h.1 c)) := by
  unfold ab_ce
  rw [if_neg (ab_len_cls c (ab_len_lt hl) hl), if_neg hl]
theorem ab_ce_obj (a : Nat → Nat) (cI cJ cD : ClassId) (h : ab_H) {c : Nat} (hl : ab_cls c < 7) : ab_ce a cI cJ cD h c = .inr (ab_cls c, (List.range (ab_nf (ab_cls c))).map (fun k => ab_cv a (ab_fv h.1 c k))) := by
  unfold ab_ce
  rw [if_pos hl]
theorem ab_ce_17 (a : Nat → Nat) (cI cJ cD : ClassId) (h : ab_H) : ab_ce a cI cJ cD h 17 = .inl (cJ, 1, .inr (.inl h.2.1)) := rfl
theorem ab_ce_18 (a : Nat → Nat) (cI cJ cD : ClassId) (h : ab_H) : ab_ce a cI cJ cD h 18 = .inl (cD, 1, .inr (.inr (.inr (.inl h.2.2)))) := rfl
/-- a cell's picture hangs on its own ints alone -/
theorem ab_ce_congr (a : Nat → Nat) (cI cJ cD : ClassId) {h h2 : ab_H} {c : Nat} (h1 : h.1 c = h2.1 c) (h3 : h.2 = h2.2) : ab_ce a cI cJ cD h c = ab_ce a cI cJ cD h2 c := by
  unfold ab_ce ab_fv
  rw [h1, h3]
theorem ab_lk_some {l : ab_L} {r : Nat} {v : Value} (h : ab_lk l r = some v) : ∃ k : Nat, l[k]? = some (r, v) := by
  induction l with
  | nil => simp [ab_lk] at h
  | cons q t ih =>
    obtain ⟨i, x⟩ := q
    unfold ab_lk at h
    cases hb : Nat.beq i r with
    | true =>
      rw [hb] at h
      simp only [cond_true] at h
      cases h
      rw [Nat.eq_of_beq_eq_true hb]
      exact ⟨0, rfl⟩
    | false =>
      rw [hb] at h
      simp only [cond_false] at h
      obtain ⟨k, hk⟩ := ih h
      exact ⟨k + 1, by simpa using hk⟩
theorem ab_lk_cv {a : Nat → Nat} {l : ab_L} {r : Nat} {v : Value} (h : ab_lk l r = some v) : ∃ k : Nat, (ab_cl1 a l)[k]? = some (r, ab_cv a v) := by
  obtain ⟨k, hk⟩ := ab_lk_some h
  exact ⟨k, by unfold ab_cl1; rw [List.getElem?_map, hk]; rfl⟩
theorem ab_filter_cv (a : Nat → Nat) (f : Nat × Value → Bool) (hf : ∀ q : Nat × Value, f (q.1, ab_cv a q.2) = f q) (l : ab_L) : (ab_cl1 a l).filter f = ab_cl1 a (l.filter f) := by
  unfold ab_cl1
  induction l with
  | nil => rfl
  | cons q t ih =>
    simp only [List.map_cons, List.filter_cons, hf]
    cases f q <;> simp [ih]
theorem ab_st1_cv (a : Nat → Nat) (i : Nat) (v : Value) (l : ab_L) : (i, ab_cv a v) :: (ab_cl1 a l).filter (fun q => !(q.1 == i) && !(q.1 + 1 == i && q.2.category == 2)) = ab_cl1 a (ab_st1 i v l) := by
  rw [ab_filter_cv a _ (fun q => by simp [ab_cv_cat])]
  rfl
theorem ab_st2_cv (a : Nat → Nat) (i : Nat) (v : Value) (l : ab_L) : (i, ab_cv a v) :: (ab_cl1 a l).filter (fun q => !(q.1 == i) && (!(q.1 == i + 1) && !(q.1 + 1 == i && q.2.category == 2))) = ab_cl1 a (ab_st2 i v l) := by
  rw [ab_filter_cv a _ (fun q => by simp [ab_cv_cat])]
  rfl
theorem ab_dr_cv (a : Nat → Nat) (i : Nat) (l : ab_L) : (ab_cl1 a l).filter (fun q => !(q.1 == i) && !(q.1 + 1 == i && q.2.category == 2)) = ab_cl1 a (ab_dr i l) := ab_filter_cv a _ (fun q => by simp [ab_cv_cat]) l
theorem ab_cat_cv (a : Nat → Nat) (st : List Value) : ((st.map (ab_cv a)).map fun v => v.category).sum = ab_cat st := by
  unfold ab_cat
  rw [List.map_map]
  congr 1
  exact List.map_congr_left fun v _ => ab_cv_cat a v
theorem ab_args_cv (a : Nat → Nat) : ∀ (as : List Value) (i : Nat), lv_args i (as.map (ab_cv a)) = ab_cl1 a (lv_args i as) := by
  intro as
  induction as with
  | nil => intro i; rfl
  | cons v t ih =>
    intro i
    show (i, ab_cv a v) :: lv_args _ (t.map (ab_cv a)) = (i, ab_cv a v) :: ab_cl1 a (lv_args _ t)
    rw [ab_cv_cat, ih]
theorem ab_sl_len : ∀ (as : List Value), (lg_sl as).length = ab_cat as := by
  intro as
  induction as with
  | nil => rfl
  | cons v t ih =>
    have h1 : lg_sl (v :: t) = (if v.category = 2 then [Slot.val v, .second] else [.val v]) ++ lg_sl t := rfl
    have h2 : ab_cat (v :: t) = v.category + ab_cat t := rfl
    rw [h1, List.length_append, ih, h2]
    rcases lv_cat v with h | h <;> rw [h] <;> simp
theorem ab_pop_some : ∀ (n : Nat) (st acc as rest : List Value), ab_pop n st acc = some (as, rest) → st.reverse ++ acc = rest.reverse ++ as ∧ st = (as.take n).reverse ++ rest ∧ as.length = n + acc.length ∧ as.drop n = acc := by
  intro n
  induction n with
  | zero =>
    intro st acc as rest h
    simp only [ab_pop] at h
    cases h
    simp
  | succ n ih =>
    intro st acc as rest h
    cases st with
    | nil => simp [ab_pop] at h
    | cons x t =>
      simp only [ab_pop] at h
      obtain ⟨h1, h2, h3, h4⟩ := ih t (x :: acc) as rest h
      refine ⟨by simpa using h1, ?_, by simp at h3; omega, ?_⟩
      · have h5 : as.take (n + 1) = as.take n ++ [x] := by
          rw [List.take_add_one]
          have : as[n]? = some x := by
            have := congrArg (fun l => l[0]?) h4
            simpa using this
          rw [this]
          rfl
        rw [h5, h2]
        simp
      · have := congrArg (List.drop 1) h4
        simpa using this
