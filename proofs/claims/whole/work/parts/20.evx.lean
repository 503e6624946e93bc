/-! ===== more rows of evaluation; the fuel of a loop ===== -/
def ab_fu : Nat := 1000
section EV3
variable {S : Nat × (Nat → Int32)} {k : Nat} {α : Type} {emb : α → ab_Rs} {pc : Nat} {st : List Value} {lv : ab_L} {X : ab_XX} {w : ab_WW}
theorem ab_e_letX {f : ab_XX → Option α} (h : ∀ X1, X1 = X → ab_Eg emb S k (pc, lv, st, (X1, w)) (f X1)) : ab_Eg emb S k (pc, lv, st, (X, w)) ((some X).bind f) := h X rfl
theorem ab_e_letI {x : Int32} {h : ab_H} {f : Int32 → Option α} (hh : ∀ y, y = x → ab_Eg emb S k (pc, lv, .int y :: st, h) (f y)) : ab_Eg emb S k (pc, lv, .int x :: st, h) ((some x).bind f) := hh x rfl
theorem ab_e_rp {c : Prop} [Decidable c] {s : ab_S} {v : α} {r : Option Value ⊕ Nat} (h : ab_ats S k s = some (.inr (.inr (decide c, r)))) (he : emb v = (r, s.2.2.2)) : ab_Eg emb S k s (if c then some v else none) := by
  by_cases hc : c
  · rw [if_pos hc]
    rw [decide_eq_true hc] at h
    exact ab_e_rt h he
  · rw [if_neg hc]
    exact ab_e_none
theorem ab_e_ls {x : Int32} {r : Nat} {h : ab_H} {o1 o2 o3 : Option α} (h1 : ab_Eg emb S k (132, lv, st, h) o1) (h2 : ab_Eg emb S k (88, lv, st, h) o2) (h3 : ab_Eg emb S k (r, lv, st, h) o3) : ab_Eg emb S k (ab_lsw x r, lv, st, h) (if x = nI 115 then o1 else if x = nI 119 then o2 else o3) := by
  unfold ab_lsw
  by_cases c1 : x = 115
  · rw [if_pos c1, if_pos (show x = nI 115 from c1)]
    exact h1
  · rw [if_neg c1, if_neg (show ¬ x = nI 115 from c1)]
    by_cases c2 : x = 119
    · rw [if_pos c2, if_pos (show x = nI 119 from c2)]
      exact h2
    · rw [if_neg c2, if_neg (show ¬ x = nI 119 from c2)]
      exact h3
end EV3
