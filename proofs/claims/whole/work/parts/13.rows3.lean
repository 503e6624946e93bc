/-! ===== rows, part 3: switches, arraycopy, max and min; one step of the abstract machine ===== -/
section ABR3
variable {p : Program} {l : Launch} {e : Env} {R : Room} {s : State} {m : MethodId} {args : Array Value} {below : List Frame} {meth : Method} {c : Code} {H : Heap} {locs : List Loc} {cells slots : Nat} {Q : State → Prop}
variable {A : Nat → Prop} {k pc : Nat} {a : Nat → Nat} {cI cJ cD : ClassId} {D : va_G} {S : Nat × (Nat → Int32)} {ls : Array Slot} {lv : ab_L} {st : List Value} {h : ab_H} {rr : ab_G}
theorem ab_r35 {r len : Nat} {d : Int} {os : Array Int} (cx : ab_Cx p l R s m args meth c A k a cI cJ cD D S H locs ls lv h) (hd : decode (ab_by k) pc = .ok (.tableswitch d 0 40 os, len))
    (hdf : (pc : Int) + d = (r : Int)) (hos : os.toList.map (fun o => (pc : Int) + o) = ab_tswL.map (fun n : Nat => (n : Int))) (hat : ab_a35 r lv st h = some rr)
    (kk : ab_KR p l e R s m args below meth c cells slots Q A k a cI cJ cD D rr) : W p l e R s m args below meth c H locs cells slots Q (F0 m pc ls (st.map (ab_cv a))) := by
  obtain ⟨F, hP, hS, hl⟩ := cx
  unfold ab_a35 at hat
  split at hat
  · rename_i x rest
    cases hat
    have K := kk H locs ls hP hS hl
    dsimp only at K
    by_cases hx : x.toInt < 0 ∨ 40 < x.toInt
    · have h1 : ab_tsw x r = r := if_pos hx
      rw [h1] at K
      exact lv_tableOut F.1 F.2.1 hd hx hdf K
    · have h1 : ab_tsw x r = ab_tswL.getD x.toInt.toNat 0 := if_neg hx
      rw [h1] at K
      have hlen : os.toList.length = 41 := by
        have := congrArg List.length hos
        simpa [ab_tswL] using this
      have hi : x.toInt.toNat < 41 := by omega
      have h2 : (os.toList.map (fun o => (pc : Int) + o))[x.toInt.toNat]? = (ab_tswL.map (fun n : Nat => (n : Int)))[x.toInt.toNat]? := by rw [hos]
      rw [List.getElem?_map, List.getElem?_map, List.getElem?_eq_getElem (by omega), List.getElem?_eq_getElem (by simpa [ab_tswL] using hi)] at h2
      simp only [Option.map_some, Option.some.injEq] at h2
      refine lv_tableIn F.1 F.2.1 hd (fun q => hx (Or.inl q)) (fun q => hx (Or.inr q)) (off := os.toList[x.toInt.toNat]'(by omega)) ?_ ?_ K
      · rw [Int.sub_zero, ← Array.getElem?_toList]
        exact List.getElem?_eq_getElem (by omega)
      · rw [h2, List.getD_eq_getElem?_getD, List.getElem?_eq_getElem (by simpa [ab_tswL] using hi)]
        rfl
  · cases hat
theorem ab_r36 {r len : Nat} (cx : ab_Cx p l R s m args meth c A k a cI cJ cD D S H locs ls lv h) (hd : decode (ab_by k) 61 = .ok (.lookupswitch 115 #[(115, 71), (119, 27)], len))
    (hdf : ((61 : Nat) : Int) + 115 = (r : Int)) (hat : ab_a36 r lv st h = some rr)
    (kk : ab_KR p l e R s m args below meth c cells slots Q A k a cI cJ cD D rr) : W p l e R s m args below meth c H locs cells slots Q (F0 m 61 ls (st.map (ab_cv a))) := by
  obtain ⟨F, hP, hS, hl⟩ := cx
  unfold ab_a36 at hat
  split at hat
  · rename_i x rest
    cases hat
    have K := kk H locs ls hP hS hl
    dsimp only at K
    by_cases h1 : x = 115
    · subst h1
      exact lv_lookup F.1 F.2.1 hd (by decide) (off := 71) (by decide) rfl K
    · by_cases h2 : x = 119
      · subst h2
        exact lv_lookup F.1 F.2.1 hd (by decide) (off := 27) (by decide) rfl K
      · have h3 : ab_lsw x r = r := by unfold ab_lsw; rw [if_neg h1, if_neg h2]
        rw [h3] at K
        refine lv_lookup F.1 F.2.1 hd (by decide) (off := 115) ?_ hdf K
        show Op.lookupswitch.offset [(115, 71), (119, 27)] 115 x.toInt = 115
        rw [lv_osw h1 (by decide), lv_osw h2 (by decide)]
        rfl
  · cases hat
theorem ab_r40 {x : Nat} (cx : ab_Cx p l R s m args meth c A k a cI cJ cD D S H locs ls lv h) (hd : decode (ab_by k) pc = .ok (.invokestatic x, 3)) (hw : Cond.methodLink (ab_own k) x arraycopyName ∈ ab_tbl)
    (hw2 : Cond.native arraycopyName ∈ ab_tbl) (hw3 : Cond.static arraycopyName ∈ ab_tbl) (hw4 : Cond.initialized "java/lang/System" ∈ ab_tbl) (hat : ab_a40 pc lv st h = some rr)
    (kk : ab_KR p l e R s m args below meth c cells slots Q A k a cI cJ cD D rr) : W p l e R s m args below meth c H locs cells slots Q (F0 m pc ls (st.map (ab_cv a))) := by
  obtain ⟨F, hP, hS, hl⟩ := cx
  obtain ⟨hx, hb, hml, hrt, hown, hts, hlk, htab, hA, hE, hR, hAd, hlst, hlaw⟩ := F
  unfold ab_a40 at hat
  split at hat
  · rename_i n dp d sp s0 rest
    cases hz : (Nat.beq (ab_len s0) 0 || Nat.beq (ab_len d) 0 || !(Nat.ble (rest.map fun v => v.category).sum 8)) with
    | true => rw [hz] at hat; cases hat
    | false =>
      rw [hz] at hat
      cases hat
      simp only [Bool.or_eq_false_iff, Bool.not_eq_false'] at hz
      obtain ⟨⟨z1, z2⟩, z3⟩ := hz
      have n1 : ab_len s0 ≠ 0 := Nat.ne_of_beq_eq_false z1
      have n2 : ab_len d ≠ 0 := Nat.ne_of_beq_eq_false z2
      have z3 := Nat.le_of_ble_eq_true z3
      have t1 := ab_ws_at a cI cJ cD h (ab_len_lt n1)
      rw [ab_ce_arr a cI cJ cD h n1] at t1
      have t2 := ab_ws_at a cI cJ cD h (ab_len_lt n2)
      rw [ab_ce_arr a cI cJ cD h n2] at t2
      by_cases hg : ¬ sp < 0 ∧ ¬ dp < 0 ∧ ¬ n < 0 ∧ sp.toNatClampNeg + n.toNatClampNeg ≤ ab_len s0 ∧ dp.toNatClampNeg + n.toNatClampNeg ≤ ab_len d
      · obtain ⟨g1, g2, g3, g4, g5⟩ := id hg
        have hcat : ((rest.map (ab_cv a)).map fun v => v.category).sum ≤ 8 := by rw [ab_cat_cv]; exact z3
        have hnw : nativeFrameWords "java/lang/System" "arraycopy" 5 + 11 ≤ 40 := by decide +kernel
        refine va_copyi hx hb (by rw [hml]; exact hl.1.symm) hown (hts _ hw) (hts _ hw2) (hts _ hw3) (hts _ hw4) hE.1 hP (hAd.D cI cJ cD h) hS s0 d 0 0 t1 t2 rfl rfl rfl g1 g2 g3 g4 g5 (fun _ _ => rfl) (by omega) (by omega) hd (fun H1 locs1 hP1 hD1 hS1 => ?_)
        refine kk.1 (decide_eq_true hg) H1 locs1 ls ?_ hS1 hl
        rw [ab_ws_set a cI cJ cD h (ab_cpy h.1 s0 d sp.toNatClampNeg dp.toNatClampNeg n.toNatClampNeg, h.2) (ab_len_lt n2) ?_ ?_] at hP1
        · exact hP1
        · rw [ab_ce_arr a cI cJ cD _ n2]
          show _ = Sum.inl (cI, ab_len d, Sum.inl (ab_cpy h.1 s0 d sp.toNatClampNeg dp.toNatClampNeg n.toNatClampNeg d))
          unfold ab_cpy
          rw [if_pos rfl]
        · intro f hf hfd
          refine ab_ce_congr a cI cJ cD ?_ rfl
          show h.1 f = ab_cpy h.1 s0 d sp.toNatClampNeg dp.toNatClampNeg n.toNatClampNeg f
          unfold ab_cpy
          rw [if_neg hfd]
      · obtain ⟨t, ht, -⟩ := kk.2 (decide_eq_false hg)
        cases ht
  · cases hat
theorem ab_r46 {x : Nat} (cx : ab_Cx p l R s m args meth c A k a cI cJ cD D S H locs ls lv h) (hc : cells ≤ R.cells) (hs : slots ≤ R.slots) (hd : decode (ab_by k) pc = .ok (.invokestatic x, 3)) (hw : Cond.methodLink (ab_own k) x ab_mx ∈ ab_tbl)
    (hw2 : Cond.static ab_mx ∈ ab_tbl) (hw3 : Cond.initialized "java/lang/Math" ∈ ab_tbl) (hw4 : Cond.code ab_mx Lib.Math.max.code 2 (some .int) ∈ ab_tbl) (hat : ab_a46 pc lv st h = some rr)
    (kk : ab_KR p l e R s m args below meth c cells slots Q A k a cI cJ cD D rr) : W p l e R s m args below meth c H locs cells slots Q (F0 m pc ls (st.map (ab_cv a))) := by
  obtain ⟨F, hP, hS, hl⟩ := cx
  obtain ⟨hx, hb, hml, hrt, hown, hts, hlk, htab, hA, hE, hR, hAd, hlst, hlaw⟩ := F
  unfold ab_a46 at hat
  split at hat
  · rename_i y x rest
    cases hz : Nat.ble (rest.map fun v => v.category).sum 8 with
    | false => rw [hz] at hat; cases hat
    | true =>
      rw [hz] at hat
      cases hat
      have hcat : ((rest.map (ab_cv a)).map fun v => v.category).sum ≤ 8 := by rw [ab_cat_cv]; exact Nat.le_of_ble_eq_true hz
      exact va_mmax hx hb (by rw [hml]; exact hl.1.symm) hown (hts _ hw) (hts _ hw2) (hts _ hw3) (hts _ hw4) (by omega) (by omega) hc hs hd (kk H locs ls hP hS hl)
  · cases hat
theorem ab_r47 {x : Nat} (cx : ab_Cx p l R s m args meth c A k a cI cJ cD D S H locs ls lv h) (hc : cells ≤ R.cells) (hs : slots ≤ R.slots) (hd : decode (ab_by k) pc = .ok (.invokestatic x, 3)) (hw : Cond.methodLink (ab_own k) x ab_mn ∈ ab_tbl)
    (hw2 : Cond.static ab_mn ∈ ab_tbl) (hw3 : Cond.initialized "java/lang/Math" ∈ ab_tbl) (hw4 : Cond.code ab_mn Lib.Math.min.code 2 (some .int) ∈ ab_tbl) (hat : ab_a47 pc lv st h = some rr)
    (kk : ab_KR p l e R s m args below meth c cells slots Q A k a cI cJ cD D rr) : W p l e R s m args below meth c H locs cells slots Q (F0 m pc ls (st.map (ab_cv a))) := by
  obtain ⟨F, hP, hS, hl⟩ := cx
  obtain ⟨hx, hb, hml, hrt, hown, hts, hlk, htab, hA, hE, hR, hAd, hlst, hlaw⟩ := F
  unfold ab_a47 at hat
  split at hat
  · rename_i y x rest
    cases hz : Nat.ble (rest.map fun v => v.category).sum 8 with
    | false => rw [hz] at hat; cases hat
    | true =>
      rw [hz] at hat
      cases hat
      have hcat : ((rest.map (ab_cv a)).map fun v => v.category).sum ≤ 8 := by rw [ab_cat_cv]; exact Nat.le_of_ble_eq_true hz
      exact va_mmin hx hb (by rw [hml]; exact hl.1.symm) hown (hts _ hw) (hts _ hw2) (hts _ hw3) (hts _ hw4) (by omega) (by omega) hc hs hd (kk H locs ls hP hS hl)
  · cases hat
end ABR3
/-- the words of the JDK's three -/
theorem ab_jw : ab_m (.native arraycopyName) = true ∧ ab_m (.static arraycopyName) = true ∧ ab_m (.initialized "java/lang/System") = true ∧ ab_m (.static ab_mx) = true ∧ ab_m (.initialized "java/lang/Math") = true ∧ ab_m (.code ab_mx Lib.Math.max.code 2 (some .int)) = true ∧ ab_m (.static ab_mn) = true ∧ ab_m (.code ab_mn Lib.Math.min.code 2 (some .int)) = true := by
  refine ⟨?_, ?_, ?_, ?_, ?_, ?_, ?_, ?_⟩ <;> decide +kernel
