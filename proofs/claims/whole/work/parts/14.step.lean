/-! ===== one step ===== -/
section ABST
variable {p : Program} {l : Launch} {e : Env} {R : Room} {s : State} {m : MethodId} {args : Array Value} {below : List Frame} {meth : Method} {c : Code} {H : Heap} {locs : List Loc} {cells slots : Nat} {Q : State → Prop}
variable {A : Nat → Prop} {k pc : Nat} {a : Nat → Nat} {cI cJ cD : ClassId} {D : va_G} {S : Nat × (Nat → Int32)} {ls : Array Slot} {lv : ab_L} {st : List Value} {h : ab_H} {rr : ab_G}
set_option maxHeartbeats 4000000 in
theorem ab_step (cx : ab_Cx p l R s m args meth c A k a cI cJ cD D S H locs ls lv h) (hck : ab_chk k pc = true) (hc : cells ≤ R.cells) (hs : slots ≤ R.slots) (hat : ab_act S (Nat.beq k ab_law) (ab_cd k pc) pc lv st h = some rr)
    (kk : ab_KR p l e R s m args below meth c cells slots Q A k a cI cJ cD D rr) : W p l e R s m args below meth c H locs cells slots Q (F0 m pc ls (st.map (ab_cv a))) := by
  unfold ab_chk at hck
  generalize ab_cd k pc = en at hck hat
  obtain ⟨kd, len, r, q, z, v⟩ := en
  have hne : ¬ kd = 0 := by
    rintro rfl
    have : (none : Option ab_G) = some rr := hat
    cases this
  simp only [Bool.or_eq_true, decide_eq_true_eq, hne, false_or] at hck
  cases hdc : decode (ab_by k) pc with
  | error er => rw [hdc] at hck; cases hck
  | ok il =>
    obtain ⟨i, ln⟩ := il
    rw [hdc] at hck
    have hx := cx.1.1
    have hb := cx.1.2.1
    have hown := cx.1.2.2.2.2.1
    have hts := cx.1.2.2.2.2.2.1
    have hl := cx.2.2.2
    simp only [ab_ok, Bool.and_eq_true, decide_eq_true_eq] at hck
    obtain ⟨rfl, hok⟩ := hck
    split at hok
    all_goals (try (cases hok; done))
    all_goals simp only [Bool.and_eq_true, Bool.or_eq_true, decide_eq_true_eq, Bool.not_eq_true'] at hok
    · obtain ⟨⟨rfl, rfl⟩, hv⟩ := hok
      exact ab_r1 cx hat kk (lv_iconst hx hb hdc hv)
    · obtain ⟨⟨rfl, rfl⟩, hv⟩ := hok
      exact ab_r1 cx hat kk (lv_bipush hx hb hdc hv)
    · obtain ⟨⟨rfl, rfl⟩, hv⟩ := hok
      exact ab_r1 cx hat kk (lv_sipush hx hb hdc hv)
    · obtain ⟨⟨rfl, rfl⟩, hv⟩ := hok
      exact ab_r1 cx hat kk (lv_ldcw hx hb hown (hts _ (ab_w_in hv)) hdc)
    · obtain ⟨⟨⟨rfl, rfl⟩, rfl⟩, rfl⟩ := hok
      exact ab_r2 cx hat kk (fun x hx1 hx2 => by obtain ⟨y, rfl⟩ := ab_ty_i hx1; exact lv_iload_n hx hb hdc rfl hx2)
    · obtain ⟨⟨⟨rfl, rfl⟩, rfl⟩, rfl⟩ := hok
      exact ab_r2 cx hat kk (fun x hx1 hx2 => by obtain ⟨y, rfl⟩ := ab_ty_i hx1; exact lv_iload hx hb hdc hx2)
    · obtain ⟨⟨⟨rfl, rfl⟩, rfl⟩, rfl⟩ := hok
      exact ab_r2 cx hat kk (fun x hx1 hx2 => by obtain ⟨y, rfl⟩ := ab_ty_a hx1; exact lv_aload_n hx hb hdc rfl hx2)
    · obtain ⟨⟨⟨rfl, rfl⟩, rfl⟩, rfl⟩ := hok
      exact ab_r2 cx hat kk (fun x hx1 hx2 => by obtain ⟨y, rfl⟩ := ab_ty_a hx1; exact lv_aload hx hb hdc hx2)
    · obtain ⟨⟨⟨rfl, rfl⟩, rfl⟩, rfl⟩ := hok
      exact ab_r2 cx hat kk (fun x hx1 hx2 => by obtain ⟨y, rfl⟩ := ab_ty_f hx1; exact lv_fload_n hx hb hdc rfl hx2)
    · obtain ⟨⟨⟨rfl, rfl⟩, rfl⟩, rfl⟩ := hok
      exact ab_r2 cx hat kk (fun x hx1 hx2 => by obtain ⟨y, rfl⟩ := ab_ty_f hx1; exact lv_fload hx hb hdc hx2)
    · obtain ⟨⟨⟨rfl, rfl⟩, rfl⟩, rfl⟩ := hok
      exact ab_r2 cx hat kk (fun x hx1 hx2 => by obtain ⟨y, rfl⟩ := ab_ty_d hx1; exact lv_dload_n hx hb hdc rfl hx2)
    · obtain ⟨⟨⟨rfl, rfl⟩, rfl⟩, rfl⟩ := hok
      exact ab_r2 cx hat kk (fun x hx1 hx2 => by obtain ⟨y, rfl⟩ := ab_ty_d hx1; exact lv_dload hx hb hdc hx2)
    · obtain ⟨⟨⟨⟨rfl, rfl⟩, rfl⟩, rfl⟩, hr⟩ := hok
      exact ab_r3 cx hat kk (fun x rest hx1 k1 => by obtain ⟨y, rfl⟩ := ab_ty_i hx1; exact lv_istore_n hx hb hdc rfl hl hr (ab_st1_cv a _ (.int y) lv) k1)
    · obtain ⟨⟨⟨⟨rfl, rfl⟩, rfl⟩, rfl⟩, hr⟩ := hok
      exact ab_r3 cx hat kk (fun x rest hx1 k1 => by obtain ⟨y, rfl⟩ := ab_ty_i hx1; exact lv_istore hx hb hdc hl hr (ab_st1_cv a _ (.int y) lv) k1)
    · obtain ⟨⟨⟨⟨rfl, rfl⟩, rfl⟩, rfl⟩, hr⟩ := hok
      exact ab_r3 cx hat kk (fun x rest hx1 k1 => by obtain ⟨y, rfl⟩ := ab_ty_a hx1; exact lv_astore_n hx hb hdc rfl hl hr (ab_st1_cv a _ (.ref y) lv) k1)
    · obtain ⟨⟨⟨⟨rfl, rfl⟩, rfl⟩, rfl⟩, hr⟩ := hok
      exact ab_r3 cx hat kk (fun x rest hx1 k1 => by obtain ⟨y, rfl⟩ := ab_ty_a hx1; exact lv_astore hx hb hdc hl hr (ab_st1_cv a _ (.ref y) lv) k1)
    · obtain ⟨⟨⟨⟨rfl, rfl⟩, rfl⟩, rfl⟩, hr⟩ := hok
      exact ab_r3 cx hat kk (fun x rest hx1 k1 => by obtain ⟨y, rfl⟩ := ab_ty_f hx1; exact lv_fstore_n hx hb hdc rfl hl hr (ab_st1_cv a _ (.float y) lv) k1)
    · obtain ⟨⟨⟨⟨rfl, rfl⟩, rfl⟩, rfl⟩, hr⟩ := hok
      exact ab_r3 cx hat kk (fun x rest hx1 k1 => by obtain ⟨y, rfl⟩ := ab_ty_f hx1; exact lv_fstore hx hb hdc hl hr (ab_st1_cv a _ (.float y) lv) k1)
    · obtain ⟨⟨⟨⟨rfl, rfl⟩, rfl⟩, rfl⟩, hr⟩ := hok
      exact ab_r4 cx hat kk (fun x rest hx1 k1 => by obtain ⟨y, rfl⟩ := ab_ty_d hx1; exact lv_dstore_n hx hb hdc rfl hl hr (ab_st2_cv a _ (.double y) lv) k1)
    · obtain ⟨⟨⟨⟨rfl, rfl⟩, rfl⟩, rfl⟩, hr⟩ := hok
      exact ab_r4 cx hat kk (fun x rest hx1 k1 => by obtain ⟨y, rfl⟩ := ab_ty_d hx1; exact lv_dstore hx hb hdc hl hr (ab_st2_cv a _ (.double y) lv) k1)
    · obtain ⟨⟨rfl, rfl⟩, rfl⟩ := hok
      exact ab_r5 cx hat kk (fun x y rest => lv_iadd hx hb hdc)
    · obtain ⟨⟨rfl, rfl⟩, rfl⟩ := hok
      exact ab_r5 cx hat kk (fun x y rest => lv_isub hx hb hdc)
    · obtain ⟨⟨rfl, rfl⟩, rfl⟩ := hok
      exact ab_r5 cx hat kk (fun x y rest => lv_imul hx hb hdc)
    · obtain ⟨⟨rfl, rfl⟩, rfl⟩ := hok
      exact ab_r5 cx hat kk (fun x y rest => lv_iand hx hb hdc)
    · obtain ⟨⟨rfl, rfl⟩, rfl⟩ := hok
      exact ab_r5 cx hat kk (fun x y rest => lv_ior hx hb hdc)
    · obtain ⟨⟨rfl, rfl⟩, rfl⟩ := hok
      exact ab_r5 cx hat kk (fun x y rest => lv_ixor hx hb hdc)
    · obtain ⟨⟨rfl, rfl⟩, rfl⟩ := hok
      exact ab_r5 cx hat kk (fun x y rest => lv_ishl hx hb hdc)
    · obtain ⟨⟨rfl, rfl⟩, rfl⟩ := hok
      exact ab_r5 cx hat kk (fun x y rest => lv_ishr hx hb hdc)
    · obtain ⟨⟨rfl, rfl⟩, rfl⟩ := hok
      exact ab_r5 cx hat kk (fun x y rest => lv_iushr hx hb hdc rfl)
    · obtain ⟨⟨⟨⟨rfl, rfl⟩, rfl⟩, hr⟩, hv⟩ := hok
      exact ab_r6 cx hdc hr hv hat kk
    · obtain ⟨⟨rfl, rfl⟩, ht⟩ := hok
      exact ab_r7 cx hdc ht hat kk
    · obtain ⟨⟨⟨rfl, rfl⟩, ht⟩, rfl⟩ := hok
      exact ab_r8 cx hdc ht hat kk
    · obtain ⟨⟨⟨rfl, rfl⟩, ht⟩, rfl⟩ := hok
      exact ab_r9 cx hdc ht hat kk
    · obtain ⟨rfl, rfl⟩ := hok
      exact ab_r10 cx hdc hat kk
    · obtain ⟨rfl, rfl⟩ := hok
      exact ab_r11 cx hdc hat kk
    · obtain ⟨rfl, rfl⟩ := hok
      exact ab_r12 cx hdc hat kk
    · obtain ⟨⟨⟨⟨rfl, rfl⟩, hq⟩, hr⟩, hw⟩ := hok
      exact ab_r13 cx hdc hq hr (ab_w_in hw) hat kk
    · obtain ⟨⟨⟨⟨⟨⟨rfl, rfl⟩, hq⟩, hr⟩, hw⟩, hf⟩, hz⟩ := hok
      exact ab_r14 cx hdc hq hr (ab_w_in hw) hf hz hat kk
    · obtain ⟨rfl, rfl⟩ := hok
      exact ab_r15 cx hdc hat kk
    · obtain ⟨rfl, rfl⟩ := hok
      exact ab_r16 cx hdc hat kk
    · obtain ⟨rfl, rfl⟩ := hok
      exact ab_r17 cx hdc hat kk
    · obtain ⟨rfl, rfl⟩ := hok
      exact ab_r18 cx hdc hat kk
    · obtain ⟨rfl, rfl⟩ := hok
      exact ab_r19 cx hdc hat kk
    · obtain ⟨rfl, rfl⟩ := hok
      exact ab_r20 cx hdc hat kk
    · obtain ⟨rfl, rfl⟩ := hok
      exact ab_r21 cx hdc hat kk
    · obtain ⟨rfl, rfl⟩ := hok
      exact ab_r22 cx hdc hat kk
    · obtain ⟨rfl, rfl⟩ := hok
      exact ab_r23 cx hdc hat kk
    · obtain ⟨rfl, rfl⟩ := hok
      exact ab_r24 cx hdc hat kk
    · obtain ⟨rfl, rfl⟩ := hok
      exact ab_r25 cx hdc hat kk
    · obtain ⟨rfl, rfl⟩ := hok
      exact ab_r26 cx hdc hat kk
    · obtain ⟨rfl, rfl⟩ := hok
      exact ab_r27 cx hdc hat kk
    · obtain ⟨rfl, rfl⟩ := hok
      exact ab_r28 cx hdc hat kk
    · obtain ⟨⟨rfl, rfl⟩, rfl⟩ := hok
      exact ab_r29 cx hdc hat kk
    · obtain ⟨⟨rfl, rfl⟩, rfl⟩ := hok
      exact ab_r30 cx hdc hat kk
    · obtain ⟨⟨rfl, rfl⟩, rfl⟩ := hok
      exact ab_r31 cx hdc hat kk
    · obtain ⟨⟨rfl, rfl⟩, rfl⟩ := hok
      exact ab_r32 cx hdc hat kk
    · obtain ⟨rfl, rfl⟩ := hok
      exact ab_r33 cx hdc hat kk
    · obtain ⟨rfl, rfl⟩ := hok
      exact ab_r34 cx hdc hat kk
    · obtain ⟨⟨⟨⟨rfl, rfl⟩, rfl⟩, hdf⟩, hos⟩ := hok
      exact ab_r35 cx hdc hdf hos hat kk
    · obtain ⟨⟨⟨⟨rfl, rfl⟩, rfl⟩, rfl⟩, hdf⟩ := hok
      exact ab_r36 cx hdc hdf hat kk
    · obtain ⟨rfl, rfl⟩ := hok
      exact ab_r37 cx hdc hat kk
    · obtain ⟨⟨⟨⟨⟨rfl, rfl⟩, -⟩, -⟩, -⟩, -⟩ := hok
      exact absurd (show (none : Option ab_G) = some rr from hat) (by simp)
    · obtain ⟨rfl, hok⟩ := hok
      rcases hok with ((⟨⟨⟨⟨rfl, -⟩, -⟩, -⟩, -⟩ | ⟨rfl, hw⟩) | ⟨rfl, hw⟩) | ⟨rfl, hw⟩
      · exact absurd (show (none : Option ab_G) = some rr from hat) (by simp)
      · exact ab_r40 cx hdc (ab_w_in hw) (ab_m_in ab_jw.1) (ab_m_in ab_jw.2.1) (ab_m_in ab_jw.2.2.1) hat kk
      · exact ab_r46 cx hc hs hdc (ab_w_in hw) (ab_m_in ab_jw.2.2.2.1) (ab_m_in ab_jw.2.2.2.2.1) (ab_m_in ab_jw.2.2.2.2.2.1) hat kk
      · exact ab_r47 cx hc hs hdc (ab_w_in hw) (ab_m_in ab_jw.2.2.2.2.2.2.1) (ab_m_in ab_jw.2.2.2.2.1) (ab_m_in ab_jw.2.2.2.2.2.2.2) hat kk
    · obtain ⟨⟨rfl, rfl⟩, -⟩ := hok
      exact absurd (show (none : Option ab_G) = some rr from hat) (by simp)
    · obtain ⟨⟨rfl, rfl⟩, -⟩ := hok
      exact absurd (show (none : Option ab_G) = some rr from hat) (by simp)
    · obtain ⟨⟨rfl, rfl⟩, -⟩ := hok
      exact absurd (show (none : Option ab_G) = some rr from hat) (by simp)
    · obtain ⟨⟨rfl, rfl⟩, -⟩ := hok
      exact absurd (show (none : Option ab_G) = some rr from hat) (by simp)
    · obtain ⟨⟨rfl, rfl⟩, -⟩ := hok
      exact absurd (show (none : Option ab_G) = some rr from hat) (by simp)
end ABST
