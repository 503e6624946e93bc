/-! ===== SOUND: what the abstract machine answers, the machine answers ===== -/
theorem ab_bad_moved {w : Cond} (hw : w ∈ ab_bad) {s U : State} (hW : s.WarmedH U.vm) (hZ : va_Nw w s) : va_Nw w U := by
  unfold ab_bad at hw
  rcases List.mem_append.mp hw with hw | hw
  · obtain ⟨x, -, rfl⟩ := List.mem_map.mp hw
    exact va_Nw.warmC hW hZ
  · rcases List.mem_cons.mp hw with rfl | hw
    · exact va_Nw.warmD hW hZ
    · rcases List.mem_cons.mp hw with rfl | hw
      · exact va_Nw.warmD hW hZ
      · rcases List.mem_cons.mp hw with rfl | hw
        · exact va_Nw.warmD hW hZ
        · cases hw
theorem ab_bad_same {w : Cond} (hw : w ∈ ab_bad) {s U : State} (hv : s.vm = U.vm) (hZ : va_Nw w s) : va_Nw w U := by
  have hb9 : ∀ w ∈ ab_bad, w.onTables = true := by decide +kernel
  exact va_Nw.same (hb9 w hw) hv hZ
/-- what a callee's start knows, out of the caller's -/
theorem ab_Env.call {D : va_G} {cI cJ cD : ClassId} {A A1 : Nat → Prop} {s U : State} {H : Heap} {locs : List Loc} (hE : ab_Env D cI cJ cD A s) (hS : va_S A s.heap H locs) (hU : U.heap = H) (hW : s.WarmedH U.vm) (hA : ∀ q, A1 q → A q) : ab_Env D cI cJ cD A1 U := by
  obtain ⟨h1, h2, h3, h4, h5, h6⟩ := hE
  refine ⟨va_K.moved hW.alike h1, ?_, ?_, fun w hw => ?_, fun w hw => ab_bad_moved hw hW (h5 w hw), fun x y hx hy hne => (h6 x y hx hy hne).moved hW.alike⟩
  · rw [hU]; exact vx_Zq.narrow (vx_Zq.moved hW.alike (h2.kept hS.2.1)) hA
  · rw [hU]; exact vx_Zq.narrow (vx_Zq.moved hW.alike (h3.kept hS.2.1)) hA
  · obtain ⟨q, hq⟩ := h4 w hw
    exact ⟨q, vk_R.warm hW hq⟩
theorem ab_Env.same {D : va_G} {cI cJ cD : ClassId} {A : Nat → Prop} {s U : State} (hE : ab_Env D cI cJ cD A s) (hv : s.vm = U.vm) (hh : s.heap = U.heap) : ab_Env D cI cJ cD A U := by
  obtain ⟨h1, h2, h3, h4, h5, h6⟩ := hE
  have hal : s.vm.Alike U.vm := by rw [hv]; exact Vm.Alike.refl U.vm
  refine ⟨va_K.moved hal h1, ?_, ?_, fun w hw => ?_, fun w hw => ab_bad_same hw hv (h5 w hw), fun x y hx hy hne => (h6 x y hx hy hne).moved hal⟩
  · rw [← hh]; exact vx_Zq.moved hal h2
  · rw [← hh]; exact vx_Zq.moved hal h3
  · obtain ⟨q, hq⟩ := h4 w hw
    exact ⟨q, vk_R.same hv.symm hq⟩
/-- a method's start -/
def ab_Pc (a : Nat → Nat) (cI cJ cD : ClassId) (D : va_G) (A : Nat → Prop) (h : ab_H) (as : List Value) (sz : Nat) : Array Value → State → Prop :=
  va_Pc (as.map (ab_cv a)) (fun U => U.heap.size = sz ∧ va_P D ab_cl (ab_ws a cI cJ cD h) U.heap ∧ ab_Env D cI cJ cD A U)
theorem ab_Pc_blind {a : Nat → Nat} {cI cJ cD : ClassId} {D : va_G} {A : Nat → Prop} {h : ab_H} {as : List Value} {sz : Nat} : FrameBlind (ab_Pc a cI cJ cD D A h as sz) := by
  intro v U g mk ⟨h1, h2, h3, h4⟩
  exact ⟨h1, h2, h3, h4.same rfl rfl⟩
def ab_rm (k : Nat) (r : ab_O) : Room := { frames := ab_dep k + 6, cells := r.2.2, slots := 6 * r.2.2, locals := 60 * ab_dep k + 100 }
theorem ab_gdc : ∀ k, goodWord (ab_head k) = true := by
  intro k
  unfold ab_head
  cases (ab_hh k).isEmpty <;> rfl
def ab_snd (l : Launch) (S : Nat × (Nat → Int32)) (n : Nat) : Prop :=
  ∀ (k pc : Nat) (lv : ab_L) (st : List Value) (h : ab_H) (e : Nat) (r : ab_O), ab_run S n k pc lv st h e = some r → k < 253 →
    ∀ (p : Program) (en : Env) (R : Room) (s : State) (m : MethodId) (args : Array Value) (below : List Frame) (meth : Method) (c : Code) (A : Nat → Prop) (a : Nat → Nat) (cI cJ cD : ClassId) (D : va_G) (H : Heap) (locs : List Loc) (ls : Array Slot),
      ab_Cx p l R s m args meth c A k a cI cJ cD D S H locs ls lv h → r.2.2 ≤ R.cells → 6 * r.2.2 ≤ R.slots →
      W p l en R s m args below meth c H locs e (6 * e) (vx_MQ below (ab_Qc a cI cJ cD D A r) (ab_XC a cI cJ cD D A r) args s r.2.2 (6 * r.2.2) A) (F0 m pc ls (st.map (ab_cv a)))
theorem ab_mw {k : Nat} (hm : ab_mchk k = true) : plainName (ab_own k) = true ∧ ab_head k ∈ ab_tbl ∧ Cond.initialized (ab_own k) ∈ ab_tbl ∧
    (ab_sta k = true → Cond.static (ab_y k) ∈ ab_tbl) ∧ (ab_sta k = false → Cond.instanceMethod (ab_y k) ∈ ab_tbl ∧ Cond.selects (ab_own k) (ab_y k) (ab_y k) ∈ ab_tbl ∧ (ab_hh k).isEmpty = true ∧ (ab_cl[ab_rc k]?).map (fun c => c.1) = some (ab_own k) ∧ ab_rc k < 7) ∧
    (ab_own k ≠ "java/lang/invoke/MethodHandle" ∧ ab_own k ≠ "java/lang/invoke/VarHandle") ∧ ab_ml k ≤ 20 ∧
    ∀ x ∈ ab_hh k, x.2.1 < 6 ∧ x.1.2.2.2 ≠ 0 ∧ Cond.classLink (ab_own k) x.1.2.2.2 (ab_ex x.2.1) ∈ ab_tbl ∧ (ab_cd k x.1.2.2.1).1 = 3 ∧ (ab_cd k x.1.2.2.1).2.2.1 = x.2.2.2 ∧ (ab_cd k x.1.2.2.1).2.2.2.1 = 1 ∧ x.1.2.2.1 + (ab_cd k x.1.2.2.1).2.1 = x.2.2.1 := by
  unfold ab_mchk at hm
  simp only [Bool.and_eq_true, decide_eq_true_eq] at hm
  obtain ⟨⟨⟨⟨⟨⟨⟨h1, h2⟩, h3⟩, h4⟩, h5⟩, h6⟩, h7⟩, h8⟩ := hm
  refine ⟨h1, ab_w_in h2, ab_m_in h3, fun hs => ?_, fun hs => ?_, ⟨h5, h6⟩, h7, fun x hx => ?_⟩
  · rw [hs] at h4
    exact ab_w_in h4
  · rw [hs] at h4
    simp only [cond_false, Bool.and_eq_true, decide_eq_true_eq] at h4
    obtain ⟨⟨⟨⟨g1, g2⟩, g3⟩, g4⟩, g5⟩ := h4
    exact ⟨ab_w_in g1, ab_w_in g2, g3, g4, g5⟩
  · have h9 := List.all_eq_true.mp h8 x hx
    simp only [Bool.and_eq_true, decide_eq_true_eq] at h9
    obtain ⟨⟨⟨⟨⟨⟨g1, g2⟩, g3⟩, g4⟩, g5⟩, g6⟩, g7⟩ := h9
    exact ⟨g1, g2, ab_m_in g3, g4, g5, g6, g7⟩
theorem ab_tbl_good : ∀ w ∈ ab_tbl, w ∈ ab_tbl ∧ ((w.onTables && w.keeps) = true ∨ ∃ ty, w = .arrayClass ty) := fun w hw => ⟨hw, good_of_word (List.mem_filter.mp hw).2⟩
theorem ab_goodIn {k : Nat} (hm : ab_mchk k = true) : GoodIn ab_tbl (ab_head k :: ab_tbl) := by
  intro w hw
  rcases List.mem_cons.mp hw with rfl | hw
  · exact ab_tbl_good _ (ab_mw hm).2.1
  · exact ab_tbl_good w hw
/-- a method's contract out of its run -/
theorem ab_met {l : Launch} (hlst : l.stackTraces = false) {S : Nat × (Nat → Int32)} {n : Nat} (ih : ab_snd l S n) {k : Nat} (hk : k < 252) (hm : ab_mchk k = true) {as : List Value} {h : ab_H} {r : ab_O} (hr : ab_run S n k 0 (lv_args 0 as) [] h 0 = some r) (hcat : ab_cat as ≤ ab_ml k)
    {a : Nat → Nat} {cI cJ cD : ClassId} {D : va_G} {A : Nat → Prop} {sz : Nat} (hAd : ab_Ad a A) (hA : ∀ q : Nat, sz ≤ q → A q) :
    vx_Met l (ab_y k) (ab_head k :: ab_tbl) (ab_rm k r) (ab_Pc a cI cJ cD D A h as sz) (ab_Qc a cI cJ cD D A r) (ab_XC a cI cJ cD D A r) r.2.2 (6 * r.2.2) A := by
  obtain ⟨m1, m2, m3, m4, m5, m6, m7, m8⟩ := ab_mw hm
  have body : ∀ p e s m args below meth c s₁, BodyLoose p l (ab_y k) (headSpec (ab_head k :: ab_tbl) (ab_rm k r)) (ab_by k) (ab_ml k) (ab_rt k) e s m args below meth c s₁ → c.maxLocals = ab_ml k → c.exceptionTable.toList = tableOf (ab_ht k) → ab_Pc a cI cJ cD D A h as sz args s →
      W p l e (headSpec (ab_head k :: ab_tbl) (ab_rm k r)).room s m args below meth c s.heap [] 0 0 (vx_MQ below (ab_Qc a cI cJ cD D A r) (ab_XC a cI cJ cD D A r) args s r.2.2 (6 * r.2.2) A) (entryFrame m args (ab_ml k)) := by
    intro p e s m args below meth c s₁ B hml htab hv
    obtain ⟨rfl, hsz, hP, hE⟩ := hv
    have hts0 := atoms_spec (ws := ab_head k :: ab_tbl) B.pre
    rw [lg_entry_eq]
    refine ih k 0 (lv_args 0 as) [] h 0 r hr (by omega) p e _ s m _ below meth c A a cI cJ cD D s.heap [] _ ⟨⟨B.exec, B.bytes, hml, B.returns, findClass_of_methodNamed B.named, fun w hw => hts0 w (List.mem_cons_of_mem _ hw), B.notSynchronized, htab, fun q hq => hA q (by omega), hE, ⟨Nat.le_refl _, Nat.le_refl _⟩, hAd, hlst, fun hl => by rw [show ab_law = 252 from rfl] at hl; omega⟩, hP, va_S.rf, ?_⟩ (Nat.le_refl _) (Nat.le_refl _)
    rw [← ab_args_cv]
    exact lv_entry (as.map (ab_cv a)) (by rw [ab_sl_len, ab_cat, ab_cat_cv]; exact hcat)
  by_cases hh : (ab_hh k).isEmpty = true
  · have hd : ab_head k = .code (ab_y k) (ab_by k) (ab_ml k) (ab_rt k) := by unfold ab_head; rw [hh]; rfl
    refine vx_ofW (cc := ab_by k) (maxL := ab_ml k) (ret := ab_rt k) m1 (by rw [hd]) (fun p e s m args below meth c s₁ B hml htab hv => body p e s m args below meth c s₁ B hml ?_ hv)
    have h1 : c.exceptionTable.toList = [] := by
      cases h2 : c.exceptionTable.toList with
      | nil => rfl
      | cons x t => exact absurd (htab x (by rw [h2]; exact List.mem_cons_self)) id
    rw [h1]
    unfold ab_ht
    rw [List.isEmpty_iff.mp hh]
    rfl
  · have hh2 : (ab_hh k).isEmpty = false := by simpa using hh
    have hd : ab_head k = .codeWith (ab_y k) (ab_by k) (ab_ml k) (ab_rt k) (ab_ht k) := by unfold ab_head; rw [hh2]; rfl
    refine vx_ofWH (cc := ab_by k) (maxL := ab_ml k) (ret := ab_rt k) (hh := ab_ht k) m1 (by rw [hd]) (fun p e s m args below meth c s₁ B hml hv => body p e s m args below meth c s₁ B hml ?_ hv)
    exact vx_table (x := ab_y k) B (bytes := ab_by k) (maxL' := ab_ml k) (ret' := ab_rt k) (y := ab_y k) (by
      rw [← hd]
      exact atoms_spec (ws := ab_head k :: ab_tbl) B.pre _ List.mem_cons_self)
theorem ab_hd_some : ∀ (L : List ((Nat × Nat × Nat × Nat) × (Nat × Nat × Nat))) (pc x p2 i : Nat), ab_hd L pc x = some (p2, i) → ∃ pre y suf, L = pre ++ y :: suf ∧ y.2.1 = x ∧ y.2.2 = (p2, i) ∧ y.1.1 ≤ pc ∧ pc < y.1.2.1 ∧ ∀ z ∈ pre, ¬ (z.1.1 ≤ pc ∧ pc < z.1.2.1) ∨ z.2.1 ≠ x := by
  intro L
  induction L with
  | nil => intro pc x p2 i h; simp [ab_hd] at h
  | cons y t ih =>
    intro pc x p2 i h
    unfold ab_hd at h
    cases hc : (Nat.ble y.1.1 pc && Nat.blt pc y.1.2.1 && Nat.beq y.2.1 x) with
    | true =>
      rw [hc] at h
      simp only [cond_true, Option.some.injEq, Prod.mk.injEq] at h
      simp only [Bool.and_eq_true] at hc
      obtain ⟨⟨c1, c2⟩, c3⟩ := hc
      have c2' : pc < y.1.2.1 := Nat.le_of_ble_eq_true c2
      exact ⟨[], y, t, rfl, Nat.eq_of_beq_eq_true c3, Prod.ext h.1 h.2, Nat.le_of_ble_eq_true c1, c2', fun z hz => by cases hz⟩
    | false =>
      rw [hc] at h
      simp only [cond_false] at h
      obtain ⟨pre, z, suf, e1, e2, e3, e4, e5, e6⟩ := ih pc x p2 i h
      refine ⟨y :: pre, z, suf, by rw [e1]; rfl, e2, e3, e4, e5, fun w hw => ?_⟩
      rcases List.mem_cons.mp hw with rfl | hw
      · by_cases hx : w.2.1 = x
        · left
          rintro ⟨g1, g2⟩
          have : (Nat.ble w.1.1 pc && Nat.blt pc w.1.2.1 && Nat.beq w.2.1 x) = true := by
            rw [hx, Nat.beq_refl, Bool.and_true, Bool.and_eq_true]
            exact ⟨Nat.ble_eq.mpr g1, Nat.ble_eq.mpr g2⟩
          rw [this] at hc
          cases hc
        · exact Or.inr hx
      · exact e6 w hw
