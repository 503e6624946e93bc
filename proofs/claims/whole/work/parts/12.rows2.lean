/-! ===== rows, part 2: stack, fields, arrays, floats ===== -/
theorem ab_lays : ∀ q, q < 7 → ((u_ws (ab_cl.getD q ("", TX0, 0)).1 (ab_T q) (ab_nf q)).all ab_m) = true := by decide +kernel
theorem ab_cl_at : ∀ q, q < 7 → ab_cl[q]? = some ((ab_cl.getD q ("", TX0, 0)).1, ab_T q, ab_nf q) := by
  intro q hq
  rcases (show q = 0 ∨ q = 1 ∨ q = 2 ∨ q = 3 ∨ q = 4 ∨ q = 5 ∨ q = 6 by omega) with rfl | rfl | rfl | rfl | rfl | rfl | rfl <;> rfl
def ab_tyf (q : Nat) : Nat → FieldType := bif Nat.beq q 0 then tyX0 else bif Nat.beq q 1 then tyX1 else bif Nat.beq q 2 then tyX2 else bif Nat.beq q 3 then tyX3 else bif Nat.beq q 4 then tyX4 else bif Nat.beq q 5 then tyX5 else tyX6
theorem ab_tyf_ok : ∀ q, q < 7 → ∀ k, k < ab_nf q → parseFieldDescriptor (ab_T q k).2.2.1 = some (ab_tyf q k) := by
  intro q hq
  rcases (show q = 0 ∨ q = 1 ∨ q = 2 ∨ q = 3 ∨ q = 4 ∨ q = 5 ∨ q = 6 by omega) with rfl | rfl | rfl | rfl | rfl | rfl | rfl
  · exact tyX0_ok
  · exact tyX1_ok
  · exact tyX2_ok
  · exact tyX3_ok
  · exact tyX4_ok
  · exact tyX5_ok
  · exact tyX6_ok
theorem ab_nm_ok : ∀ q, q < 7 → ∀ x, x < ab_nf q → ∀ y, y < ab_nf q → x ≠ y → (ab_T q x).2.1 ≠ (ab_T q y).2.1 := by
  intro q hq
  rcases (show q = 0 ∨ q = 1 ∨ q = 2 ∨ q = 3 ∨ q = 4 ∨ q = 5 ∨ q = 6 by omega) with rfl | rfl | rfl | rfl | rfl | rfl | rfl
  · exact nmX0
  · exact nmX1
  · exact nmX2
  · exact nmX3
  · exact nmX4
  · exact nmX5
  · exact nmX6
section ABR2
variable {p : Program} {l : Launch} {e : Env} {R : Room} {s : State} {m : MethodId} {args : Array Value} {below : List Frame} {meth : Method} {c : Code} {H : Heap} {locs : List Loc} {cells slots : Nat} {Q : State → Prop}
variable {A : Nat → Prop} {k pc : Nat} {a : Nat → Nat} {cI cJ cD : ClassId} {D : va_G} {S : Nat × (Nat → Int32)} {ls : Array Slot} {lv : ab_L} {st : List Value} {h : ab_H} {rr : ab_G}
theorem ab_r10 (cx : ab_Cx p l R s m args meth c A k a cI cJ cD D S H locs ls lv h) (hd : decode (ab_by k) pc = .ok (.dup, 1)) (hat : ab_a10 pc lv st h = some rr)
    (kk : ab_KR p l e R s m args below meth c cells slots Q A k a cI cJ cD D rr) : W p l e R s m args below meth c H locs cells slots Q (F0 m pc ls (st.map (ab_cv a))) := by
  obtain ⟨F, hP, hS, hl⟩ := cx
  unfold ab_a10 at hat
  split at hat
  · rename_i x rest
    cases ht : Nat.beq x.category 1 with
    | false => rw [ht] at hat; cases hat
    | true =>
      rw [ht] at hat
      cases hat
      exact lv_dup F.1 F.2.1 hd (by rw [ab_cv_cat]; exact Nat.eq_of_beq_eq_true ht) (kk H locs ls hP hS hl)
  · cases hat
theorem ab_r11 (cx : ab_Cx p l R s m args meth c A k a cI cJ cD D S H locs ls lv h) (hd : decode (ab_by k) pc = .ok (.pop, 1)) (hat : ab_a11 pc lv st h = some rr)
    (kk : ab_KR p l e R s m args below meth c cells slots Q A k a cI cJ cD D rr) : W p l e R s m args below meth c H locs cells slots Q (F0 m pc ls (st.map (ab_cv a))) := by
  obtain ⟨F, hP, hS, hl⟩ := cx
  unfold ab_a11 at hat
  split at hat
  · rename_i x rest
    cases ht : Nat.beq x.category 1 with
    | false => rw [ht] at hat; cases hat
    | true =>
      rw [ht] at hat
      cases hat
      exact lv_pop F.1 F.2.1 hd (by rw [ab_cv_cat]; exact Nat.eq_of_beq_eq_true ht) (kk H locs ls hP hS hl)
  · cases hat
theorem ab_r12 (cx : ab_Cx p l R s m args meth c A k a cI cJ cD D S H locs ls lv h) (hd : decode (ab_by k) pc = .ok (.dup2, 1)) (hat : ab_a12 pc lv st h = some rr)
    (kk : ab_KR p l e R s m args below meth c cells slots Q A k a cI cJ cD D rr) : W p l e R s m args below meth c H locs cells slots Q (F0 m pc ls (st.map (ab_cv a))) := by
  obtain ⟨F, hP, hS, hl⟩ := cx
  unfold ab_a12 at hat
  split at hat
  · rename_i x y rest
    cases ht : (Nat.beq x.category 1 && Nat.beq y.category 1) with
    | false => rw [ht] at hat; cases hat
    | true =>
      rw [ht] at hat
      cases hat
      obtain ⟨h1, h2⟩ := Bool.and_eq_true_iff.mp ht
      exact lv_dup2_11 F.1 F.2.1 hd (by rw [ab_cv_cat]; exact Nat.eq_of_beq_eq_true h1) (by rw [ab_cv_cat]; exact Nat.eq_of_beq_eq_true h2) (kk H locs ls hP hS hl)
  · cases hat
theorem ab_fields {q : Nat} (hq : q < 7) : ∀ w ∈ u_ws (ab_cl.getD q ("", TX0, 0)).1 (ab_T q) (ab_nf q), w ∈ ab_tbl := fun w hw => ab_m_in (List.all_eq_true.mp (ab_lays q hq) w hw)
theorem ab_fs_at {X : Nat → Nat → Int32} {d r n : Nat} (hr : r < n) : ((List.range n).map (fun j => ab_cv a (ab_fv X d j)))[r]? = some (ab_cv a (ab_fv X d r)) := by
  rw [List.getElem?_map, List.getElem?_range hr]
  rfl
theorem ab_r13 {r q x : Nat} (cx : ab_Cx p l R s m args meth c A k a cI cJ cD D S H locs ls lv h) (hd : decode (ab_by k) pc = .ok (.getfield x, 3)) (hq : q < 7) (hr : r < ab_nf q)
    (hw : Cond.fieldLink (ab_own k) x (ab_T q r).1 (ab_T q r).2.1 (ab_T q r).2.2.1 ∈ ab_tbl) (hat : ab_a13 r q pc lv st h = some rr)
    (kk : ab_KR p l e R s m args below meth c cells slots Q A k a cI cJ cD D rr) : W p l e R s m args below meth c H locs cells slots Q (F0 m pc ls (st.map (ab_cv a))) := by
  obtain ⟨F, hP, hS, hl⟩ := cx
  unfold ab_a13 at hat
  split at hat
  · rename_i d rest
    cases ht : Nat.beq (ab_cls d) q with
    | false => rw [ht] at hat; cases hat
    | true =>
      rw [ht] at hat
      cases hat
      have hdq := Nat.eq_of_beq_eq_true ht
      subst hdq
      have hd19 := ab_cls_lt hq
      have hat2 := ab_ws_at a cI cJ cD h hd19
      rw [ab_ce_obj a cI cJ cD h hq] at hat2
      obtain ⟨hx, hb, hml, hrt, hown, hts, hlk, htab, hA, hE, hR, hAd, hlst, hlaw⟩ := F
      exact va_get (D := D) hx hb hts (ab_fields hq) hown hE.1 hP d hat2 (ab_cl_at _ hq) r hr (hts _ hw) (fun _ h9 => h9) (ab_fs_at hr) hd (kk H locs ls hP hS hl)
  · cases hat
theorem ab_up_other {X : Nat → Nat → Int32} {d i : Nat} {v : Int32} {f : Nat} (hf : f ≠ d) : ab_up X d i v f = X f := by
  unfold ab_up
  rw [if_neg hf]
theorem ab_up_self {X : Nat → Nat → Int32} {d i : Nat} {v : Int32} : ab_up X d i v d = upd (X d) i v := by
  unfold ab_up
  rw [if_pos rfl]
theorem ab_r14 {r q x : Nat} {z : Int32} (cx : ab_Cx p l R s m args meth c A k a cI cJ cD D S H locs ls lv h) (hd : decode (ab_by k) pc = .ok (.putfield x, 3)) (hq : q < 7) (hr : r < ab_nf q)
    (hw : Cond.fieldLink (ab_own k) x (ab_T q r).1 (ab_T q r).2.1 (ab_T q r).2.2.1 ∈ ab_tbl) (hfin : (ab_T q r).2.2.2 = false) (hz : (ab_T q r).2.2.1 = "I" ∨ ((ab_T q r).2.2.1 = "Z" ∧ z = 1)) (hat : ab_a14 r q z pc lv st h = some rr)
    (kk : ab_KR p l e R s m args below meth c cells slots Q A k a cI cJ cD D rr) : W p l e R s m args below meth c H locs cells slots Q (F0 m pc ls (st.map (ab_cv a))) := by
  obtain ⟨F, hP, hS, hl⟩ := cx
  unfold ab_a14 at hat
  split at hat
  · rename_i v d rest
    cases ht : (Nat.beq (ab_cls d) q && (ab_rf d r).isNone) with
    | false => rw [ht] at hat; cases hat
    | true =>
      rw [ht] at hat
      simp only [cond_true] at hat
      cases hg : (z == 0 || (v == 0 || v == 1)) with
      | false => rw [hg] at hat; cases hat
      | true =>
        rw [hg] at hat
        cases hat
        obtain ⟨ht1, ht2⟩ := Bool.and_eq_true_iff.mp ht
        have hdq := Nat.eq_of_beq_eq_true ht1
        subst hdq
        have hd19 := ab_cls_lt hq
        have hat2 := ab_ws_at a cI cJ cD h hd19
        rw [ab_ce_obj a cI cJ cD h hq] at hat2
        obtain ⟨hx, hb, hml, hrt, hown, hts, hlk, htab, hA, hE, hR, hAd, hlst, hlaw⟩ := F
        have hnf : ∀ ty, parseFieldDescriptor (ab_T (ab_cls d) r).2.2.1 = some ty → narrow ty (.int v) = .int v ∧ fits ty (.int v) = true := by
          intro ty hty
          rcases hz with hz | ⟨hz, rfl⟩
          · rw [hz] at hty
            have : ty = .int := by
              have h9 : parseFieldDescriptor "I" = some FieldType.int := by decide +kernel
              exact Option.some.inj (hty.symm.trans h9)
            subst this
            exact ⟨rfl, rfl⟩
          · rw [hz] at hty
            have : ty = .boolean := by
              have h9 : parseFieldDescriptor "Z" = some FieldType.boolean := by decide +kernel
              exact Option.some.inj (hty.symm.trans h9)
            subst this
            have hv : v = 0 ∨ v = 1 := by simpa using hg
            rcases hv with rfl | rfl
            · exact ⟨by decide, by decide⟩
            · exact ⟨by decide, by decide⟩
        obtain ⟨hn1, hn2⟩ := hnf _ (ab_tyf_ok _ hq r hr)
        refine va_put (D := D) hx hb hts (ab_fields hq) (ab_tyf (ab_cls d)) (ab_tyf_ok _ hq) (ab_nm_ok _ hq) hown hE.1 hP (hAd.D cI cJ cD h) hS d hat2 (ab_cl_at _ hq) r hr (hts _ hw) (fun _ h9 => h9) hfin (ab_tyf_ok _ hq r hr) hn1 hn2 (by simpa using hr) hd (fun H1 locs1 hP1 hD1 hS1 => ?_)
        refine kk H1 locs1 ls ?_ hS1 hl
        rw [ab_ws_set a cI cJ cD h (ab_up h.1 d r v, h.2) hd19 ?_ ?_] at hP1
        · exact hP1
        · rw [ab_ce_obj a cI cJ cD _ hq]
          congr 2
          apply List.ext_getElem?
          intro i
          by_cases hi : i < ab_nf (ab_cls d)
          · by_cases hir : i = r
            · subst hir
              rw [List.getElem?_set_self (by simpa using hi), ab_fs_at hi]
              show _ = some (ab_cv a (ab_fv (ab_up h.1 d i v) d i))
              unfold ab_fv
              rw [Option.isNone_iff_eq_none.mp ht2, ab_up_self]
              simp [upd, ab_cv]
            · rw [List.getElem?_set_ne (Ne.symm hir), ab_fs_at hi, ab_fs_at hi]
              show some (ab_cv a (ab_fv h.1 d i)) = some (ab_cv a (ab_fv (ab_up h.1 d r v) d i))
              unfold ab_fv
              rw [ab_up_self]
              simp [upd, hir]
          · rw [List.getElem?_eq_none (by simp; omega), List.getElem?_eq_none (by simp; omega)]
        · intro f hf hfd
          exact ab_ce_congr a cI cJ cD (by show h.1 f = ab_up h.1 d r v f; rw [ab_up_other hfd]) rfl
  · cases hat
theorem ab_n64_of {r : UInt64} (h : ab_n64 r = true) : vf_n64 r := (of_decide_eq_true h : r &&& 0x7fffffffffffffff ≤ 0x7ff0000000000000)
theorem ab_n32_of {r : UInt32} (h : ab_n32 r = true) : vf_n32 r := (of_decide_eq_true h : r &&& 0x7fffffff ≤ 0x7f800000)
theorem ab_in_vp {i : Int32} {n : Nat} (h : ab_in i n = true) : vp_in i n := (of_decide_eq_true h : ¬ (i < 0 ∨ n ≤ i.toNatClampNeg))
theorem ab_r15 (cx : ab_Cx p l R s m args meth c A k a cI cJ cD D S H locs ls lv h) (hd : decode (ab_by k) pc = .ok (.iaload, 1)) (hat : ab_a15 S (Nat.beq k ab_law) pc lv st h = some rr)
    (kk : ab_KR p l e R s m args below meth c cells slots Q A k a cI cJ cD D rr) : W p l e R s m args below meth c H locs cells slots Q (F0 m pc ls (st.map (ab_cv a))) := by
  obtain ⟨F, hP, hS, hl⟩ := cx
  obtain ⟨hx, hb, hml, hrt, hown, hts, hlk, htab, hA, hE, hR, hAd, hlst, hlaw⟩ := F
  unfold ab_a15 at hat
  split at hat
  · rename_i i d rest
    cases ht : Nat.beq d 1000 with
    | true =>
      rw [ht] at hat
      simp only [cond_true] at hat
      cases hk : Nat.beq k ab_law with
      | false => rw [hk] at hat; cases hat
      | true =>
        rw [hk] at hat
        cases hat
        have hd1 := Nat.eq_of_beq_eq_true ht
        subst hd1
        obtain ⟨g1, g2, g3⟩ := hlaw (Nat.eq_of_beq_eq_true hk)
        cases hin : ab_in i S.1 with
        | false => obtain ⟨t, ht, -⟩ := kk.2 hin; cases ht
        | true => exact va_sld hx hb g1 g2 g3 hS (ab_in_vp hin) hd (kk.1 hin H locs ls hP hS hl)
    | false =>
      rw [ht] at hat
      simp only [cond_false] at hat
      cases hz : Nat.beq (ab_len d) 0 with
      | true => rw [hz] at hat; cases hat
      | false =>
        rw [hz] at hat
        cases hat
        have hne : ab_len d ≠ 0 := Nat.ne_of_beq_eq_false hz
        have hat2 := ab_ws_at a cI cJ cD h (ab_len_lt hne)
        rw [ab_ce_arr a cI cJ cD h hne] at hat2
        cases hin : ab_in i (ab_len d) with
        | false => obtain ⟨t, ht, -⟩ := kk.2 hin; cases ht
        | true => exact va_iald hx hb hE.1 hP d 0 hat2 rfl (ab_in_vp hin) hd (kk.1 hin H locs ls hP hS hl)
  · cases hat
theorem ab_r16 (cx : ab_Cx p l R s m args meth c A k a cI cJ cD D S H locs ls lv h) (hd : decode (ab_by k) pc = .ok (.iastore, 1)) (hat : ab_a16 pc lv st h = some rr)
    (kk : ab_KR p l e R s m args below meth c cells slots Q A k a cI cJ cD D rr) : W p l e R s m args below meth c H locs cells slots Q (F0 m pc ls (st.map (ab_cv a))) := by
  obtain ⟨F, hP, hS, hl⟩ := cx
  obtain ⟨hx, hb, hml, hrt, hown, hts, hlk, htab, hA, hE, hR, hAd, hlst, hlaw⟩ := F
  unfold ab_a16 at hat
  split at hat
  · rename_i v i d rest
    cases hz : Nat.beq (ab_len d) 0 with
    | true => rw [hz] at hat; cases hat
    | false =>
      rw [hz] at hat
      cases hat
      have hne : ab_len d ≠ 0 := Nat.ne_of_beq_eq_false hz
      have hat2 := ab_ws_at a cI cJ cD h (ab_len_lt hne)
      rw [ab_ce_arr a cI cJ cD h hne] at hat2
      cases hin : ab_in i (ab_len d) with
      | false => obtain ⟨t, ht, -⟩ := kk.2 hin; cases ht
      | true =>
        refine va_iast hx hb hE.1 hP (hAd.D cI cJ cD h) hS d 0 hat2 rfl (ab_in_vp hin) hd (fun H1 locs1 hP1 hD1 hS1 => ?_)
        refine kk.1 hin H1 locs1 ls ?_ hS1 hl
        rw [ab_ws_set a cI cJ cD h (ab_up h.1 d i.toNatClampNeg v, h.2) (ab_len_lt hne) ?_ ?_] at hP1
        · exact hP1
        · rw [ab_ce_arr a cI cJ cD _ hne]
          show _ = Sum.inl (cI, ab_len d, Sum.inl (ab_up h.1 d i.toNatClampNeg v d))
          rw [ab_up_self]
        · intro f hf hfd
          exact ab_ce_congr a cI cJ cD (by show h.1 f = ab_up h.1 d i.toNatClampNeg v f; rw [ab_up_other hfd]) rfl
  · cases hat
theorem ab_s17 : (17 : Nat) < 19 := by decide
theorem ab_s18 : (18 : Nat) < 19 := by decide
theorem ab_vin1 : vp_in 0 1 := by unfold vp_in; decide
theorem ab_ce_off {g g2 : ab_H} {f : Nat} (hf : f < 19) (h1 : g.1 = g2.1) (h17 : f = 17 → g.2.1 = g2.2.1) (h18 : f = 18 → g.2.2 = g2.2.2) : ab_ce a cI cJ cD g f = ab_ce a cI cJ cD g2 f := by
  unfold ab_ce ab_fv
  rw [h1]
  by_cases c1 : ab_cls f < 7
  · rw [if_pos c1, if_pos c1]
  · rw [if_neg c1, if_neg c1]
    by_cases c2 : ab_len f = 0
    · rw [if_pos c2, if_pos c2]
      have hh : ∀ f, f < 19 → ¬ ab_cls f < 7 → ab_len f = 0 → f = 17 ∨ f = 18 := by decide +kernel
      rcases hh f hf c1 c2 with rfl | rfl
      · rw [h17 rfl]; rfl
      · rw [h18 rfl]; rfl
    · rw [if_neg c2, if_neg c2]
theorem ab_r17 (cx : ab_Cx p l R s m args meth c A k a cI cJ cD D S H locs ls lv h) (hd : decode (ab_by k) pc = .ok (.laload, 1)) (hat : ab_a17 pc lv st h = some rr)
    (kk : ab_KR p l e R s m args below meth c cells slots Q A k a cI cJ cD D rr) : W p l e R s m args below meth c H locs cells slots Q (F0 m pc ls (st.map (ab_cv a))) := by
  obtain ⟨F, hP, hS, hl⟩ := cx
  obtain ⟨hx, hb, hml, hrt, hown, hts, hlk, htab, hA, hE, hR, hAd, hlst, hlaw⟩ := F
  unfold ab_a17 at hat
  split at hat
  · rename_i i d rest
    cases hz : (Nat.beq d 17 && i == 0) with
    | false => rw [hz] at hat; cases hat
    | true =>
      rw [hz] at hat
      cases hat
      obtain ⟨h1, h2⟩ := Bool.and_eq_true_iff.mp hz
      have h1 := Nat.eq_of_beq_eq_true h1
      have h2 : i = 0 := by simpa using h2
      subst h1; subst h2
      exact va_lald hx hb hE.1 hP 17 1 (ab_ws_at a cI cJ cD h ab_s17) rfl ab_vin1 hd (kk H locs ls hP hS hl)
  · cases hat
theorem ab_r18 (cx : ab_Cx p l R s m args meth c A k a cI cJ cD D S H locs ls lv h) (hd : decode (ab_by k) pc = .ok (.lastore, 1)) (hat : ab_a18 pc lv st h = some rr)
    (kk : ab_KR p l e R s m args below meth c cells slots Q A k a cI cJ cD D rr) : W p l e R s m args below meth c H locs cells slots Q (F0 m pc ls (st.map (ab_cv a))) := by
  obtain ⟨F, hP, hS, hl⟩ := cx
  obtain ⟨hx, hb, hml, hrt, hown, hts, hlk, htab, hA, hE, hR, hAd, hlst, hlaw⟩ := F
  unfold ab_a18 at hat
  split at hat
  · rename_i v i d rest
    cases hz : (Nat.beq d 17 && i == 0) with
    | false => rw [hz] at hat; cases hat
    | true =>
      rw [hz] at hat
      cases hat
      obtain ⟨h1, h2⟩ := Bool.and_eq_true_iff.mp hz
      have h1 := Nat.eq_of_beq_eq_true h1
      have h2 : i = 0 := by simpa using h2
      subst h1; subst h2
      refine va_last hx hb hE.1 hP (hAd.D cI cJ cD h) hS 17 1 (ab_ws_at a cI cJ cD h ab_s17) rfl ab_vin1 hd (fun H1 locs1 hP1 hD1 hS1 => ?_)
      refine kk H1 locs1 ls ?_ hS1 hl
      rw [ab_ws_set a cI cJ cD h (h.1, vp_updL h.2.1 0 v, h.2.2) ab_s17 ?_ ?_] at hP1
      · exact hP1
      · rfl
      · intro f hf hfd
        exact ab_ce_off hf rfl (fun z => absurd z hfd) (fun _ => rfl)
  · cases hat
theorem ab_r19 (cx : ab_Cx p l R s m args meth c A k a cI cJ cD D S H locs ls lv h) (hd : decode (ab_by k) pc = .ok (.daload, 1)) (hat : ab_a19 pc lv st h = some rr)
    (kk : ab_KR p l e R s m args below meth c cells slots Q A k a cI cJ cD D rr) : W p l e R s m args below meth c H locs cells slots Q (F0 m pc ls (st.map (ab_cv a))) := by
  obtain ⟨F, hP, hS, hl⟩ := cx
  obtain ⟨hx, hb, hml, hrt, hown, hts, hlk, htab, hA, hE, hR, hAd, hlst, hlaw⟩ := F
  unfold ab_a19 at hat
  split at hat
  · rename_i i d rest
    cases hz : (Nat.beq d 18 && i == 0) with
    | false => rw [hz] at hat; cases hat
    | true =>
      rw [hz] at hat
      cases hat
      obtain ⟨h1, h2⟩ := Bool.and_eq_true_iff.mp hz
      have h1 := Nat.eq_of_beq_eq_true h1
      have h2 : i = 0 := by simpa using h2
      subst h1; subst h2
      exact va_dald hx hb hE.1 hP 18 2 (ab_ws_at a cI cJ cD h ab_s18) rfl ab_vin1 hd (kk H locs ls hP hS hl)
  · cases hat
theorem ab_r20 (cx : ab_Cx p l R s m args meth c A k a cI cJ cD D S H locs ls lv h) (hd : decode (ab_by k) pc = .ok (.dastore, 1)) (hat : ab_a20 pc lv st h = some rr)
    (kk : ab_KR p l e R s m args below meth c cells slots Q A k a cI cJ cD D rr) : W p l e R s m args below meth c H locs cells slots Q (F0 m pc ls (st.map (ab_cv a))) := by
  obtain ⟨F, hP, hS, hl⟩ := cx
  obtain ⟨hx, hb, hml, hrt, hown, hts, hlk, htab, hA, hE, hR, hAd, hlst, hlaw⟩ := F
  unfold ab_a20 at hat
  split at hat
  · rename_i v i d rest
    cases hz : (Nat.beq d 18 && i == 0) with
    | false => rw [hz] at hat; cases hat
    | true =>
      rw [hz] at hat
      cases hat
      obtain ⟨h1, h2⟩ := Bool.and_eq_true_iff.mp hz
      have h1 := Nat.eq_of_beq_eq_true h1
      have h2 : i = 0 := by simpa using h2
      subst h1; subst h2
      refine va_dast hx hb hE.1 hP (hAd.D cI cJ cD h) hS 18 2 (ab_ws_at a cI cJ cD h ab_s18) rfl ab_vin1 hd (fun H1 locs1 hP1 hD1 hS1 => ?_)
      refine kk H1 locs1 ls ?_ hS1 hl
      rw [ab_ws_set a cI cJ cD h (h.1, h.2.1, vf_upd h.2.2 0 v) ab_s18 ?_ ?_] at hP1
      · exact hP1
      · rfl
      · intro f hf hfd
        exact ab_ce_off hf rfl (fun _ => rfl) (fun z => absurd z hfd)
  · cases hat
theorem ab_r21 (cx : ab_Cx p l R s m args meth c A k a cI cJ cD D S H locs ls lv h) (hd : decode (ab_by k) pc = .ok (.arraylength, 1)) (hat : ab_a21 S (Nat.beq k ab_law) pc lv st h = some rr)
    (kk : ab_KR p l e R s m args below meth c cells slots Q A k a cI cJ cD D rr) : W p l e R s m args below meth c H locs cells slots Q (F0 m pc ls (st.map (ab_cv a))) := by
  obtain ⟨F, hP, hS, hl⟩ := cx
  obtain ⟨hx, hb, hml, hrt, hown, hts, hlk, htab, hA, hE, hR, hAd, hlst, hlaw⟩ := F
  unfold ab_a21 at hat
  split at hat
  · rename_i d rest
    cases ht : Nat.beq d 1000 with
    | true =>
      rw [ht] at hat
      simp only [cond_true] at hat
      cases hk : Nat.beq k ab_law with
      | false => rw [hk] at hat; cases hat
      | true =>
        rw [hk] at hat
        cases hat
        have hd1 := Nat.eq_of_beq_eq_true ht
        subst hd1
        obtain ⟨g1, g2, g3⟩ := hlaw (Nat.eq_of_beq_eq_true hk)
        exact va_slen hx hb g1 g2 g3 hS hd (kk H locs ls hP hS hl)
    | false =>
      rw [ht] at hat
      simp only [cond_false] at hat
      cases hz : Nat.beq (ab_len d) 0 with
      | true => rw [hz] at hat; cases hat
      | false =>
        rw [hz] at hat
        cases hat
        have hne : ab_len d ≠ 0 := Nat.ne_of_beq_eq_false hz
        have hat2 := ab_ws_at a cI cJ cD h (ab_len_lt hne)
        rw [ab_ce_arr a cI cJ cD h hne] at hat2
        exact va_alen hx hb hE.1 hP d 0 hat2 rfl rfl hd (kk H locs ls hP hS hl)
  · cases hat
theorem ab_r22 (cx : ab_Cx p l R s m args meth c A k a cI cJ cD D S H locs ls lv h) (hd : decode (ab_by k) pc = .ok (.i2l, 1)) (hat : ab_a22 pc lv st h = some rr)
    (kk : ab_KR p l e R s m args below meth c cells slots Q A k a cI cJ cD D rr) : W p l e R s m args below meth c H locs cells slots Q (F0 m pc ls (st.map (ab_cv a))) := by
  obtain ⟨F, hP, hS, hl⟩ := cx
  unfold ab_a22 at hat
  split at hat
  · cases hat
    exact lv_i2l F.1 F.2.1 hd rfl (kk H locs ls hP hS hl)
  · cases hat
theorem ab_r23 (cx : ab_Cx p l R s m args meth c A k a cI cJ cD D S H locs ls lv h) (hd : decode (ab_by k) pc = .ok (.lcmp, 1)) (hat : ab_a23 pc lv st h = some rr)
    (kk : ab_KR p l e R s m args below meth c cells slots Q A k a cI cJ cD D rr) : W p l e R s m args below meth c H locs cells slots Q (F0 m pc ls (st.map (ab_cv a))) := by
  obtain ⟨F, hP, hS, hl⟩ := cx
  unfold ab_a23 at hat
  split at hat
  · cases hat
    exact W.lcmp F.1 F.2.1 hd (kk H locs ls hP hS hl)
  · cases hat
theorem ab_r24 (cx : ab_Cx p l R s m args meth c A k a cI cJ cD D S H locs ls lv h) (hd : decode (ab_by k) pc = .ok (.i2d, 1)) (hat : ab_a24 pc lv st h = some rr)
    (kk : ab_KR p l e R s m args below meth c cells slots Q A k a cI cJ cD D rr) : W p l e R s m args below meth c H locs cells slots Q (F0 m pc ls (st.map (ab_cv a))) := by
  obtain ⟨F, hP, hS, hl⟩ := cx
  unfold ab_a24 at hat
  split at hat
  · cases hat
    exact lv_i2d F.1 F.2.1 hd (kk H locs ls hP hS hl)
  · cases hat
theorem ab_r25 (cx : ab_Cx p l R s m args meth c A k a cI cJ cD D S H locs ls lv h) (hd : decode (ab_by k) pc = .ok (.i2f, 1)) (hat : ab_a25 pc lv st h = some rr)
    (kk : ab_KR p l e R s m args below meth c cells slots Q A k a cI cJ cD D rr) : W p l e R s m args below meth c H locs cells slots Q (F0 m pc ls (st.map (ab_cv a))) := by
  obtain ⟨F, hP, hS, hl⟩ := cx
  unfold ab_a25 at hat
  split at hat
  · cases hat
    exact lv_i2f F.1 F.2.1 hd (kk H locs ls hP hS hl)
  · cases hat
theorem ab_r26 (cx : ab_Cx p l R s m args meth c A k a cI cJ cD D S H locs ls lv h) (hd : decode (ab_by k) pc = .ok (.f2d, 1)) (hat : ab_a26 pc lv st h = some rr)
    (kk : ab_KR p l e R s m args below meth c cells slots Q A k a cI cJ cD D rr) : W p l e R s m args below meth c H locs cells slots Q (F0 m pc ls (st.map (ab_cv a))) := by
  obtain ⟨F, hP, hS, hl⟩ := cx
  unfold ab_a26 at hat
  split at hat
  · rename_i x rest
    cases hat
    cases hin : ab_n64 (FP.f2d x) with
    | false => obtain ⟨t, ht, -⟩ := kk.2 hin; cases ht
    | true => exact lv_f2d F.1 F.2.1 hd (ab_n64_of hin) (kk.1 hin H locs ls hP hS hl)
  · cases hat
theorem ab_r27 (cx : ab_Cx p l R s m args meth c A k a cI cJ cD D S H locs ls lv h) (hd : decode (ab_by k) pc = .ok (.ddiv, 1)) (hat : ab_a27 pc lv st h = some rr)
    (kk : ab_KR p l e R s m args below meth c cells slots Q A k a cI cJ cD D rr) : W p l e R s m args below meth c H locs cells slots Q (F0 m pc ls (st.map (ab_cv a))) := by
  obtain ⟨F, hP, hS, hl⟩ := cx
  unfold ab_a27 at hat
  split at hat
  · rename_i y x rest
    cases hat
    cases hin : ab_n64 (FP.ddiv x y) with
    | false => obtain ⟨t, ht, -⟩ := kk.2 hin; cases ht
    | true => exact lv_ddiv F.1 F.2.1 hd (ab_n64_of hin) (kk.1 hin H locs ls hP hS hl)
  · cases hat
theorem ab_r28 (cx : ab_Cx p l R s m args meth c A k a cI cJ cD D S H locs ls lv h) (hd : decode (ab_by k) pc = .ok (.fdiv, 1)) (hat : ab_a28 pc lv st h = some rr)
    (kk : ab_KR p l e R s m args below meth c cells slots Q A k a cI cJ cD D rr) : W p l e R s m args below meth c H locs cells slots Q (F0 m pc ls (st.map (ab_cv a))) := by
  obtain ⟨F, hP, hS, hl⟩ := cx
  unfold ab_a28 at hat
  split at hat
  · rename_i y x rest
    cases hat
    cases hin : ab_n32 (FP.fdiv x y) with
    | false => obtain ⟨t, ht, -⟩ := kk.2 hin; cases ht
    | true => exact lv_fdiv F.1 F.2.1 hd (ab_n32_of hin) (kk.1 hin H locs ls hP hS hl)
  · cases hat
theorem ab_r29 (cx : ab_Cx p l R s m args meth c A k a cI cJ cD D S H locs ls lv h) (hd : decode (ab_by k) pc = .ok (.dcmp .l, 1)) (hat : ab_a29 pc lv st h = some rr)
    (kk : ab_KR p l e R s m args below meth c cells slots Q A k a cI cJ cD D rr) : W p l e R s m args below meth c H locs cells slots Q (F0 m pc ls (st.map (ab_cv a))) := by
  obtain ⟨F, hP, hS, hl⟩ := cx
  unfold ab_a29 at hat
  split at hat
  · cases hat
    exact lv_dcmp F.1 F.2.1 hd (kk H locs ls hP hS hl)
  · cases hat
theorem ab_r30 (cx : ab_Cx p l R s m args meth c A k a cI cJ cD D S H locs ls lv h) (hd : decode (ab_by k) pc = .ok (.fcmp .l, 1)) (hat : ab_a30 pc lv st h = some rr)
    (kk : ab_KR p l e R s m args below meth c cells slots Q A k a cI cJ cD D rr) : W p l e R s m args below meth c H locs cells slots Q (F0 m pc ls (st.map (ab_cv a))) := by
  obtain ⟨F, hP, hS, hl⟩ := cx
  unfold ab_a30 at hat
  split at hat
  · cases hat
    exact lv_fcmp F.1 F.2.1 hd (kk H locs ls hP hS hl)
  · cases hat
theorem ab_r31 (cx : ab_Cx p l R s m args meth c A k a cI cJ cD D S H locs ls lv h) (hd : decode (ab_by k) pc = .ok (.fconst 0, 1)) (hat : ab_a31 pc lv st h = some rr)
    (kk : ab_KR p l e R s m args below meth c cells slots Q A k a cI cJ cD D rr) : W p l e R s m args below meth c H locs cells slots Q (F0 m pc ls (st.map (ab_cv a))) := by
  obtain ⟨F, hP, hS, hl⟩ := cx
  cases hat
  exact lv_fconst0 F.1 F.2.1 hd (kk H locs ls hP hS hl)
theorem ab_r32 (cx : ab_Cx p l R s m args meth c A k a cI cJ cD D S H locs ls lv h) (hd : decode (ab_by k) pc = .ok (.dconst 0, 1)) (hat : ab_a32 pc lv st h = some rr)
    (kk : ab_KR p l e R s m args below meth c cells slots Q A k a cI cJ cD D rr) : W p l e R s m args below meth c H locs cells slots Q (F0 m pc ls (st.map (ab_cv a))) := by
  obtain ⟨F, hP, hS, hl⟩ := cx
  cases hat
  exact lv_dconst0 F.1 F.2.1 hd (kk H locs ls hP hS hl)
theorem ab_r33 (cx : ab_Cx p l R s m args meth c A k a cI cJ cD D S H locs ls lv h) (hd : decode (ab_by k) pc = .ok (.idiv, 1)) (hat : ab_a33 pc lv st h = some rr)
    (kk : ab_KR p l e R s m args below meth c cells slots Q A k a cI cJ cD D rr) : W p l e R s m args below meth c H locs cells slots Q (F0 m pc ls (st.map (ab_cv a))) := by
  obtain ⟨F, hP, hS, hl⟩ := cx
  unfold ab_a33 at hat
  split at hat
  · rename_i y x rest
    cases hat
    by_cases hy : ¬ y = 0
    · exact lv_idiv F.1 F.2.1 hd hy (kk.1 (decide_eq_true hy) H locs ls hP hS hl)
    · obtain ⟨t, ht, -⟩ := kk.2 (decide_eq_false hy); cases ht
  · cases hat
theorem ab_r34 (cx : ab_Cx p l R s m args meth c A k a cI cJ cD D S H locs ls lv h) (hd : decode (ab_by k) pc = .ok (.irem, 1)) (hat : ab_a34 pc lv st h = some rr)
    (kk : ab_KR p l e R s m args below meth c cells slots Q A k a cI cJ cD D rr) : W p l e R s m args below meth c H locs cells slots Q (F0 m pc ls (st.map (ab_cv a))) := by
  obtain ⟨F, hP, hS, hl⟩ := cx
  unfold ab_a34 at hat
  split at hat
  · rename_i y x rest
    cases hat
    by_cases hy : ¬ y = 0
    · exact lv_irem F.1 F.2.1 hd hy (kk.1 (decide_eq_true hy) H locs ls hP hS hl)
    · obtain ⟨t, ht, -⟩ := kk.2 (decide_eq_false hy); cases ht
  · cases hat
theorem ab_r37 {o : Int} (cx : ab_Cx p l R s m args meth c A k a cI cJ cD D S H locs ls lv h) (hd : decode (ab_by k) pc = .ok (.ifnull o, 3)) (hat : ab_a37 pc lv st h = some rr)
    (kk : ab_KR p l e R s m args below meth c cells slots Q A k a cI cJ cD D rr) : W p l e R s m args below meth c H locs cells slots Q (F0 m pc ls (st.map (ab_cv a))) := by
  obtain ⟨F, hP, hS, hl⟩ := cx
  unfold ab_a37 at hat
  split at hat
  · cases hat
    exact lv_ifnull F.1 F.2.1 hd (kk H locs ls hP hS hl)
  · cases hat
end ABR2
