/-! ===== constructors ===== -/
abbrev cX1_init : ByteArray := prog_3_method_1_code
def yX1_init : MethodName := ⟨RX1, "<init>", "()V"⟩
theorem dX1_init_0 : decode cX1_init 0 = .ok (.aload_n 0, 1) := by decide +kernel
theorem dX1_init_1 : decode cX1_init 1 = .ok (.invokespecial 3, 3) := by decide +kernel
theorem dX1_init_4 : decode cX1_init 4 = .ok (.aload_n 0, 1) := by decide +kernel
theorem dX1_init_5 : decode cX1_init 5 = .ok (.bipush 80, 2) := by decide +kernel
theorem dX1_init_7 : decode cX1_init 7 = .ok (.newarray .int, 2) := by decide +kernel
theorem dX1_init_9 : decode cX1_init 9 = .ok (.putfield 11, 3) := by decide +kernel
theorem dX1_init_12 : decode cX1_init 12 = .ok (.aload_n 0, 1) := by decide +kernel
theorem dX1_init_13 : decode cX1_init 13 = .ok (.iconst 0, 1) := by decide +kernel
theorem dX1_init_14 : decode cX1_init 14 = .ok (.putfield 15, 3) := by decide +kernel
theorem dX1_init_17 : decode cX1_init 17 = .ok (.aload_n 0, 1) := by decide +kernel
theorem dX1_init_18 : decode cX1_init 18 = .ok (.iconst 0, 1) := by decide +kernel
theorem dX1_init_19 : decode cX1_init 19 = .ok (.putfield 19, 3) := by decide +kernel
theorem dX1_init_22 : decode cX1_init 22 = .ok (.aload_n 0, 1) := by decide +kernel
theorem dX1_init_23 : decode cX1_init 23 = .ok (.bipush 12, 2) := by decide +kernel
theorem dX1_init_25 : decode cX1_init 25 = .ok (.newarray .int, 2) := by decide +kernel
theorem dX1_init_27 : decode cX1_init 27 = .ok (.putfield 22, 3) := by decide +kernel
theorem dX1_init_30 : decode cX1_init 30 = .ok (.aload_n 0, 1) := by decide +kernel
theorem dX1_init_31 : decode cX1_init 31 = .ok (.bipush 60, 2) := by decide +kernel
theorem dX1_init_33 : decode cX1_init 33 = .ok (.newarray .int, 2) := by decide +kernel
theorem dX1_init_35 : decode cX1_init 35 = .ok (.putfield 25, 3) := by decide +kernel
theorem dX1_init_38 : decode cX1_init 38 = .ok (.aload_n 0, 1) := by decide +kernel
theorem dX1_init_39 : decode cX1_init 39 = .ok (.iconst 0, 1) := by decide +kernel
theorem dX1_init_40 : decode cX1_init 40 = .ok (.putfield 28, 3) := by decide +kernel
theorem dX1_init_43 : decode cX1_init 43 = .ok (.return_, 1) := by decide +kernel
set_option maxHeartbeats 400000 in
set_option maxRecDepth 100000 in
theorem k_init1 (l : Launch) (D0 : va_G) (h0 : Nat) (sz : Nat) : Met l yX1_init (.code yX1_init cX1_init 1 none :: ab_tbl) ({ frames := 1, cells := 3, slots := 152, locals := 12 }) (va_Pc [.ref h0] (fun U => U.heap.size = sz ∧ va_P D0 ab_cl [(h0, .inr (1, [.null, .int 0, .int 0, .null, .null, .int 0]))] U.heap ∧ va_K D0 ab_cl [] U ∧ va_D (fun _ => True) [(h0, .inr (1, [.null, .int 0, .int 0, .null, .null, .int 0]))])) (va_Qv (fun _ : Unit => True) (fun (_ : Unit) t => ∃ (q7 : Nat) (q25 : Nat) (q33 : Nat) (cI : ClassId), va_P D0 ab_cl [(h0, .inr (1, [.ref q7, .int 0, .int 0, .ref q25, .ref q33, .int 0])), (q7, .inl (cI, 80, .inl (fun _ => 0))), (q25, .inl (cI, 12, .inl (fun _ => 0))), (q33, .inl (cI, 60, .inl (fun _ => 0)))] t.heap ∧ va_K D0 ab_cl [(cI, .int)] t ∧ va_D (va_A [(h0, .inr (1, [.null, .int 0, .int 0, .null, .null, .int 0]))] sz) [(h0, .inr (1, [.ref q7, .int 0, .int 0, .ref q25, .ref q33, .int 0])), (q7, .inl (cI, 80, .inl (fun _ => 0))), (q25, .inl (cI, 12, .inl (fun _ => 0))), (q33, .inl (cI, 60, .inl (fun _ => 0)))]) (va_A [(h0, .inr (1, [.null, .int 0, .int 0, .null, .null, .int 0]))] sz)) 3 152 (va_A [(h0, .inr (1, [.null, .int 0, .int 0, .null, .null, .int 0]))] sz) := by
  refine Met.ofW (cc := cX1_init) (maxL := 1) (ret := none) (by decide) rfl ?_
  intro p e s m args below meth c s₁ B hml hv
  obtain ⟨rfl, hsz, hP, hK, hD0⟩ := hv
  have hx := B.exec
  have hb := B.bytes
  have hr := B.returns
  have hts0 := atoms_spec (ws := .code yX1_init cX1_init 1 none :: ab_tbl) B.pre
  have hts : ∀ w ∈ ab_tbl, w.before _ s = true := fun w hw => hts0 w (List.mem_cons_of_mem _ hw)
  have hown : s.vm.findClass RX1 = some m.cls := findClass_of_methodNamed B.named
  have hlocks := B.notSynchronized
  have hin : meth.name = "<init>" := (name_of_methodNamed B.named B.method).1
  subst hsz
  have hD := hD0.self (sz := s.heap.size)
  generalize hAe : va_A [(h0, .inr (1, [.null, .int 0, .int 0, .null, .null, .int 0]))] s.heap.size = A at hD ⊢
  have hA : ∀ q : Nat, s.heap.size ≤ q → A q := fun q h => by rw [← hAe]; exact Or.inr h
  have hS : va_S A s.heap s.heap [] := va_S.rf
  have hP : va_P D0 ab_cl [(h0, .inr (1, [.null, .int 0, .int 0, .null, .null, .int 0]))] s.heap := hP
  have hl := lv_entry ([.ref h0]) (n := 1) (Nat.le_of_ble_eq_true rfl)
  rw [lg_entry_eq]
  generalize (lg_sl ([.ref h0]) ++ List.replicate (1 - (lg_sl ([.ref h0])).length) Slot.unset).toArray = ls at hl ⊢
  have hl : lv_has ls 1 [(0, .ref h0)] := hl
  refine lv_aload_n hx hb dX1_init_0 rfl (lv_at hl 0 rfl) ?_
  refine W.objInit hx hb hown (hts (.methodLink RX1 3 Lib.objectInit) (ab_m_in (by decide +kernel))) (hts (.instanceMethod Lib.objectInit) (ab_m_in (by decide +kernel))) (hts (.code Lib.objectInit ⟨#[0xb1]⟩ 1 none) (ab_m_in (by decide +kernel))) rfl (by rw [hml]; exact hl.1) rfl dX1_init_1 (Nat.le_of_ble_eq_true rfl) (Nat.le_of_ble_eq_true rfl) ?_
  refine W.eq (g2 := F0 m 4 ls []) rfl ?_
  refine lv_aload_n hx hb dX1_init_4 rfl (lv_at hl 0 rfl) ?_
  refine lv_bipush (v := 80) hx hb dX1_init_5 (by decide) ?_
  refine va_newa (atype := .int) (ty := .int) (n := 80) (N' := 80) (a0 := (80, .inl (fun _ => 0))) hx hb (hts (.arrayClass .int) (ab_m_in (by decide +kernel))) rfl hK hP hD hS hA (fun cA => ct_arr cA 80) (by decide) (by decide) (by decide) (Nat.le_of_ble_eq_true rfl) (Nat.le_of_ble_eq_true rfl) dX1_init_7 (fun q7 c7 H hK hP hD hS => ?_)
  have hP : va_P D0 ab_cl [(h0, .inr (1, [.null, .int 0, .int 0, .null, .null, .int 0])), (q7, .inl (c7, 80, .inl (fun _ => 0)))] H := hP
  have hD : va_D A [(h0, .inr (1, [.null, .int 0, .int 0, .null, .null, .int 0])), (q7, .inl (c7, 80, .inl (fun _ => 0)))] := hD
  have hK : va_K D0 ab_cl [(c7, .int)] s := hK
  refine W.widen (k := 1) (n := 80) (Nat.le_of_ble_eq_true rfl) (Nat.le_of_ble_eq_true rfl) ?_
  refine va_putF (D := D0) (ci := 1) (v := .ref q7) (ty := .array .int) (C := RX1) (T := TX1) (N := 6) hx hb hts (ab_fields (q := 1) (by decide)) tyX1 tyX1_ok nmX1 hown hK hP hD hS 0 rfl rfl 0 (by decide) (hts (.fieldLink RX1 11 RX1 "characters" "[I") (ab_m_in (by decide +kernel))) (fun _ h9 => h9) rfl hin rfl (by decide +kernel) rfl rfl (Nat.le_of_ble_eq_true rfl) dX1_init_9 (fun H locs hP hD hS => ?_)
  have hP : va_P D0 ab_cl [(h0, .inr (1, [.ref q7, .int 0, .int 0, .null, .null, .int 0])), (q7, .inl (c7, 80, .inl (fun _ => 0)))] H := hP
  have hD : va_D A [(h0, .inr (1, [.ref q7, .int 0, .int 0, .null, .null, .int 0])), (q7, .inl (c7, 80, .inl (fun _ => 0)))] := hD
  refine lv_aload_n hx hb dX1_init_12 rfl (lv_at hl 0 rfl) ?_
  refine lv_iconst (v := 0) hx hb dX1_init_13 (by decide) ?_
  refine va_put (D := D0) (ci := 1) (v := .int 0) (ty := .int) (C := RX1) (T := TX1) (N := 6) hx hb hts (ab_fields (q := 1) (by decide)) tyX1 tyX1_ok nmX1 hown hK hP hD hS 0 rfl rfl 1 (by decide) (hts (.fieldLink RX1 15 RX1 "length" "I") (ab_m_in (by decide +kernel))) (fun _ h9 => h9) rfl (by decide +kernel) rfl rfl (Nat.le_of_ble_eq_true rfl) dX1_init_14 (fun H locs hP hD hS => ?_)
  have hP : va_P D0 ab_cl [(h0, .inr (1, [.ref q7, .int 0, .int 0, .null, .null, .int 0])), (q7, .inl (c7, 80, .inl (fun _ => 0)))] H := hP
  have hD : va_D A [(h0, .inr (1, [.ref q7, .int 0, .int 0, .null, .null, .int 0])), (q7, .inl (c7, 80, .inl (fun _ => 0)))] := hD
  refine lv_aload_n hx hb dX1_init_17 rfl (lv_at hl 0 rfl) ?_
  refine lv_iconst (v := 0) hx hb dX1_init_18 (by decide) ?_
  refine va_put (D := D0) (ci := 1) (v := .int 0) (ty := .int) (C := RX1) (T := TX1) (N := 6) hx hb hts (ab_fields (q := 1) (by decide)) tyX1 tyX1_ok nmX1 hown hK hP hD hS 0 rfl rfl 2 (by decide) (hts (.fieldLink RX1 19 RX1 "position" "I") (ab_m_in (by decide +kernel))) (fun _ h9 => h9) rfl (by decide +kernel) rfl rfl (Nat.le_of_ble_eq_true rfl) dX1_init_19 (fun H locs hP hD hS => ?_)
  have hP : va_P D0 ab_cl [(h0, .inr (1, [.ref q7, .int 0, .int 0, .null, .null, .int 0])), (q7, .inl (c7, 80, .inl (fun _ => 0)))] H := hP
  have hD : va_D A [(h0, .inr (1, [.ref q7, .int 0, .int 0, .null, .null, .int 0])), (q7, .inl (c7, 80, .inl (fun _ => 0)))] := hD
  refine lv_aload_n hx hb dX1_init_22 rfl (lv_at hl 0 rfl) ?_
  refine lv_bipush (v := 12) hx hb dX1_init_23 (by decide) ?_
  refine va_newa (atype := .int) (ty := .int) (n := 12) (N' := 12) (a0 := (12, .inl (fun _ => 0))) hx hb (hts (.arrayClass .int) (ab_m_in (by decide +kernel))) rfl hK hP hD hS hA (fun cA => ct_arr cA 12) (by decide) (by decide) (by decide) (Nat.le_of_ble_eq_true rfl) (Nat.le_of_ble_eq_true rfl) dX1_init_25 (fun q25 c25 H hK hP hD hS => ?_)
  have hP : va_P D0 ab_cl [(h0, .inr (1, [.ref q7, .int 0, .int 0, .null, .null, .int 0])), (q7, .inl (c7, 80, .inl (fun _ => 0))), (q25, .inl (c25, 12, .inl (fun _ => 0)))] H := hP
  have hD : va_D A [(h0, .inr (1, [.ref q7, .int 0, .int 0, .null, .null, .int 0])), (q7, .inl (c7, 80, .inl (fun _ => 0))), (q25, .inl (c25, 12, .inl (fun _ => 0)))] := hD
  have hK : va_K D0 ab_cl [(c7, .int), (c25, .int)] s := hK
  obtain rfl := va_cI hK (i := 0) (j := 1) rfl rfl
  have hK := hK.sub (tys' := [(c7, .int)]) [0] rfl
  have hP : va_P D0 ab_cl [(h0, .inr (1, [.ref q7, .int 0, .int 0, .null, .null, .int 0])), (q7, .inl (c7, 80, .inl (fun _ => 0))), (q25, .inl (c7, 12, .inl (fun _ => 0)))] H := hP
  have hD : va_D A [(h0, .inr (1, [.ref q7, .int 0, .int 0, .null, .null, .int 0])), (q7, .inl (c7, 80, .inl (fun _ => 0))), (q25, .inl (c7, 12, .inl (fun _ => 0)))] := hD
  refine W.widen (k := 2) (n := 92) (Nat.le_of_ble_eq_true rfl) (Nat.le_of_ble_eq_true rfl) ?_
  refine va_putF (D := D0) (ci := 1) (v := .ref q25) (ty := .array .int) (C := RX1) (T := TX1) (N := 6) hx hb hts (ab_fields (q := 1) (by decide)) tyX1 tyX1_ok nmX1 hown hK hP hD hS 0 rfl rfl 3 (by decide) (hts (.fieldLink RX1 22 RX1 "kinds" "[I") (ab_m_in (by decide +kernel))) (fun _ h9 => h9) rfl hin rfl (by decide +kernel) rfl rfl (Nat.le_of_ble_eq_true rfl) dX1_init_27 (fun H locs hP hD hS => ?_)
  have hP : va_P D0 ab_cl [(h0, .inr (1, [.ref q7, .int 0, .int 0, .ref q25, .null, .int 0])), (q7, .inl (c7, 80, .inl (fun _ => 0))), (q25, .inl (c7, 12, .inl (fun _ => 0)))] H := hP
  have hD : va_D A [(h0, .inr (1, [.ref q7, .int 0, .int 0, .ref q25, .null, .int 0])), (q7, .inl (c7, 80, .inl (fun _ => 0))), (q25, .inl (c7, 12, .inl (fun _ => 0)))] := hD
  refine lv_aload_n hx hb dX1_init_30 rfl (lv_at hl 0 rfl) ?_
  refine lv_bipush (v := 60) hx hb dX1_init_31 (by decide) ?_
  refine va_newa (atype := .int) (ty := .int) (n := 60) (N' := 60) (a0 := (60, .inl (fun _ => 0))) hx hb (hts (.arrayClass .int) (ab_m_in (by decide +kernel))) rfl hK hP hD hS hA (fun cA => ct_arr cA 60) (by decide) (by decide) (by decide) (Nat.le_of_ble_eq_true rfl) (Nat.le_of_ble_eq_true rfl) dX1_init_33 (fun q33 c33 H hK hP hD hS => ?_)
  have hP : va_P D0 ab_cl [(h0, .inr (1, [.ref q7, .int 0, .int 0, .ref q25, .null, .int 0])), (q7, .inl (c7, 80, .inl (fun _ => 0))), (q25, .inl (c7, 12, .inl (fun _ => 0))), (q33, .inl (c33, 60, .inl (fun _ => 0)))] H := hP
  have hD : va_D A [(h0, .inr (1, [.ref q7, .int 0, .int 0, .ref q25, .null, .int 0])), (q7, .inl (c7, 80, .inl (fun _ => 0))), (q25, .inl (c7, 12, .inl (fun _ => 0))), (q33, .inl (c33, 60, .inl (fun _ => 0)))] := hD
  have hK : va_K D0 ab_cl [(c7, .int), (c33, .int)] s := hK
  obtain rfl := va_cI hK (i := 0) (j := 1) rfl rfl
  have hK := hK.sub (tys' := [(c7, .int)]) [0] rfl
  have hP : va_P D0 ab_cl [(h0, .inr (1, [.ref q7, .int 0, .int 0, .ref q25, .null, .int 0])), (q7, .inl (c7, 80, .inl (fun _ => 0))), (q25, .inl (c7, 12, .inl (fun _ => 0))), (q33, .inl (c7, 60, .inl (fun _ => 0)))] H := hP
  have hD : va_D A [(h0, .inr (1, [.ref q7, .int 0, .int 0, .ref q25, .null, .int 0])), (q7, .inl (c7, 80, .inl (fun _ => 0))), (q25, .inl (c7, 12, .inl (fun _ => 0))), (q33, .inl (c7, 60, .inl (fun _ => 0)))] := hD
  refine W.widen (k := 3) (n := 152) (Nat.le_of_ble_eq_true rfl) (Nat.le_of_ble_eq_true rfl) ?_
  refine va_putF (D := D0) (ci := 1) (v := .ref q33) (ty := .array .int) (C := RX1) (T := TX1) (N := 6) hx hb hts (ab_fields (q := 1) (by decide)) tyX1 tyX1_ok nmX1 hown hK hP hD hS 0 rfl rfl 4 (by decide) (hts (.fieldLink RX1 25 RX1 "numbers" "[I") (ab_m_in (by decide +kernel))) (fun _ h9 => h9) rfl hin rfl (by decide +kernel) rfl rfl (Nat.le_of_ble_eq_true rfl) dX1_init_35 (fun H locs hP hD hS => ?_)
  have hP : va_P D0 ab_cl [(h0, .inr (1, [.ref q7, .int 0, .int 0, .ref q25, .ref q33, .int 0])), (q7, .inl (c7, 80, .inl (fun _ => 0))), (q25, .inl (c7, 12, .inl (fun _ => 0))), (q33, .inl (c7, 60, .inl (fun _ => 0)))] H := hP
  have hD : va_D A [(h0, .inr (1, [.ref q7, .int 0, .int 0, .ref q25, .ref q33, .int 0])), (q7, .inl (c7, 80, .inl (fun _ => 0))), (q25, .inl (c7, 12, .inl (fun _ => 0))), (q33, .inl (c7, 60, .inl (fun _ => 0)))] := hD
  refine lv_aload_n hx hb dX1_init_38 rfl (lv_at hl 0 rfl) ?_
  refine lv_iconst (v := 0) hx hb dX1_init_39 (by decide) ?_
  refine va_put (D := D0) (ci := 1) (v := .int 0) (ty := .int) (C := RX1) (T := TX1) (N := 6) hx hb hts (ab_fields (q := 1) (by decide)) tyX1 tyX1_ok nmX1 hown hK hP hD hS 0 rfl rfl 5 (by decide) (hts (.fieldLink RX1 28 RX1 "items" "I") (ab_m_in (by decide +kernel))) (fun _ h9 => h9) rfl (by decide +kernel) rfl rfl (Nat.le_of_ble_eq_true rfl) dX1_init_40 (fun H locs hP hD hS => ?_)
  have hP : va_P D0 ab_cl [(h0, .inr (1, [.ref q7, .int 0, .int 0, .ref q25, .ref q33, .int 0])), (q7, .inl (c7, 80, .inl (fun _ => 0))), (q25, .inl (c7, 12, .inl (fun _ => 0))), (q33, .inl (c7, 60, .inl (fun _ => 0)))] H := hP
  have hD : va_D A [(h0, .inr (1, [.ref q7, .int 0, .int 0, .ref q25, .ref q33, .int 0])), (q7, .inl (c7, 80, .inl (fun _ => 0))), (q25, .inl (c7, 12, .inl (fun _ => 0))), (q33, .inl (c7, 60, .inl (fun _ => 0)))] := hD
  have hP9 := hP.sub (ws' := [(h0, .inr (1, [.ref q7, .int 0, .int 0, .ref q25, .ref q33, .int 0])), (q7, .inl (c7, 80, .inl (fun _ => 0))), (q25, .inl (c7, 12, .inl (fun _ => 0))), (q33, .inl (c7, 60, .inl (fun _ => 0)))]) [0, 1, 2, 3] rfl
  have hD9 := hD.sub (ws' := [(h0, .inr (1, [.ref q7, .int 0, .int 0, .ref q25, .ref q33, .int 0])), (q7, .inl (c7, 80, .inl (fun _ => 0))), (q25, .inl (c7, 12, .inl (fun _ => 0))), (q33, .inl (c7, 60, .inl (fun _ => 0)))]) [0, 1, 2, 3] (by decide) rfl
  exact W.vret hx hb hr (fun t ht hW => ⟨⟨(), rfl, trivial, q7, q25, q33, c7, by rw [ht]; exact hP9, va_K.moved hW.alike hK, hD9⟩, hS.F ht⟩) hS.2.2 dX1_init_43
abbrev cX4_init : ByteArray := prog_6_method_1_code
def yX4_init : MethodName := ⟨RX4, "<init>", "()V"⟩
theorem dX4_init_0 : decode cX4_init 0 = .ok (.aload_n 0, 1) := by decide +kernel
theorem dX4_init_1 : decode cX4_init 1 = .ok (.invokespecial 3, 3) := by decide +kernel
theorem dX4_init_4 : decode cX4_init 4 = .ok (.aload_n 0, 1) := by decide +kernel
theorem dX4_init_5 : decode cX4_init 5 = .ok (.new 9, 3) := by decide +kernel
theorem dX4_init_8 : decode cX4_init 8 = .ok (.dup, 1) := by decide +kernel
theorem dX4_init_9 : decode cX4_init 9 = .ok (.invokespecial 11, 3) := by decide +kernel
theorem dX4_init_12 : decode cX4_init 12 = .ok (.putfield 12, 3) := by decide +kernel
theorem dX4_init_15 : decode cX4_init 15 = .ok (.return_, 1) := by decide +kernel
set_option maxHeartbeats 400000 in
set_option maxRecDepth 100000 in
theorem k_init4 (l : Launch) (D0 : va_G) (h0 : Nat) (sz : Nat) : Met l yX4_init (.code yX4_init cX4_init 1 none :: ab_tbl) ({ frames := 2, cells := 2, slots := 454, locals := 32 }) (va_Pc [.ref h0] (fun U => U.heap.size = sz ∧ va_P D0 ab_cl [(h0, .inr (4, [.null]))] U.heap ∧ va_K D0 ab_cl [] U ∧ va_D (fun _ => True) [(h0, .inr (4, [.null]))] ∧ va_Nw (.methodLinkNest RX4 11 yX2_init RX5) U)) (va_Qv (fun _ : Unit => True) (fun (_ : Unit) t => ∃ (q5 : Nat) (q8_9 : Nat) (cI : ClassId), va_P D0 ab_cl [(h0, .inr (4, [.ref q5])), (q5, .inr (2, [.ref q8_9])), (q8_9, .inl (cI, 453, .inl (fun _ => 0)))] t.heap ∧ va_K D0 ab_cl [(cI, .int)] t ∧ va_D (va_A [(h0, .inr (4, [.null]))] sz) [(h0, .inr (4, [.ref q5])), (q5, .inr (2, [.ref q8_9])), (q8_9, .inl (cI, 453, .inl (fun _ => 0)))]) (va_A [(h0, .inr (4, [.null]))] sz)) 2 454 (va_A [(h0, .inr (4, [.null]))] sz) := by
  refine Met.ofW (cc := cX4_init) (maxL := 1) (ret := none) (by decide) rfl ?_
  intro p e s m args below meth c s₁ B hml hv
  obtain ⟨rfl, hsz, hP, hK, hD0, N11⟩ := hv
  have hx := B.exec
  have hb := B.bytes
  have hr := B.returns
  have hts0 := atoms_spec (ws := .code yX4_init cX4_init 1 none :: ab_tbl) B.pre
  have hts : ∀ w ∈ ab_tbl, w.before _ s = true := fun w hw => hts0 w (List.mem_cons_of_mem _ hw)
  have hown : s.vm.findClass RX4 = some m.cls := findClass_of_methodNamed B.named
  have hlocks := B.notSynchronized
  have hin : meth.name = "<init>" := (name_of_methodNamed B.named B.method).1
  subst hsz
  have hD := hD0.self (sz := s.heap.size)
  generalize hAe : va_A [(h0, .inr (4, [.null]))] s.heap.size = A at hD ⊢
  have hA : ∀ q : Nat, s.heap.size ≤ q → A q := fun q h => by rw [← hAe]; exact Or.inr h
  have hS : va_S A s.heap s.heap [] := va_S.rf
  have hP : va_P D0 ab_cl [(h0, .inr (4, [.null]))] s.heap := hP
  have hl := lv_entry ([.ref h0]) (n := 1) (Nat.le_of_ble_eq_true rfl)
  rw [lg_entry_eq]
  generalize (lg_sl ([.ref h0]) ++ List.replicate (1 - (lg_sl ([.ref h0])).length) Slot.unset).toArray = ls at hl ⊢
  have hl : lv_has ls 1 [(0, .ref h0)] := hl
  refine lv_aload_n hx hb dX4_init_0 rfl (lv_at hl 0 rfl) ?_
  refine W.objInit hx hb hown (hts (.methodLink RX4 3 Lib.objectInit) (ab_m_in (by decide +kernel))) (hts (.instanceMethod Lib.objectInit) (ab_m_in (by decide +kernel))) (hts (.code Lib.objectInit ⟨#[0xb1]⟩ 1 none) (ab_m_in (by decide +kernel))) rfl (by rw [hml]; exact hl.1) rfl dX4_init_1 (Nat.le_of_ble_eq_true rfl) (Nat.le_of_ble_eq_true rfl) ?_
  refine W.eq (g2 := F0 m 4 ls []) rfl ?_
  refine lv_aload_n hx hb dX4_init_4 rfl (lv_at hl 0 rfl) ?_
  refine va_new (ci := 2) (fs := [.null]) (C := RX2) (T := TX2) (N := 1) hx hb hts (ab_fields (q := 2) (by decide)) tyX2 tyX2_ok hown (hts (.classLink RX4 9 RX2) (ab_m_in (by decide +kernel))) (hts (.instantiable RX2 1) (ab_m_in (by decide +kernel))) (hts (.initialized RX2) (ab_m_in (by decide +kernel))) hK hP hD hS hA rfl (fun j hj => by rcases (show j = 0 by omega) with rfl <;> rfl) (Nat.le_of_ble_eq_true rfl) (Nat.le_of_ble_eq_true rfl) dX4_init_5 (fun q5 H hP hD hS => ?_)
  have hP : va_P D0 ab_cl [(h0, .inr (4, [.null])), (q5, .inr (2, [.null]))] H := hP
  have hD : va_D A [(h0, .inr (4, [.null])), (q5, .inr (2, [.null]))] := hD
  refine W.widen (k := 1) (n := 1) (Nat.le_of_ble_eq_true rfl) (Nat.le_of_ble_eq_true rfl) ?_
  refine lv_dup hx hb dX4_init_8 rfl ?_
  have hPc := hP.sub (ws' := [(q5, .inr (2, [.null]))]) [1] rfl
  have hDc := hD.sub (ws' := [(q5, .inr (2, [.null]))]) [1] (by decide) rfl
  have hKc := hK.sub (tys' := []) [] rfl
  have hFc := va_free (wc := [(q5, .inr (2, [.null]))]) hD hS hA [1] rfl
  refine va_callv (va_runIN (As := []) (rest := [.ref q5, .ref h0]) ⟨hx, hb, hml, hown, hts⟩ (k_init2 l D0 q5 H.size) ⟨va_cnB 0 hts (ct_good (ab_m_in (by decide +kernel))) rfl rfl rfl N11 (hts (.initialized RX2) (ab_m_in (by decide +kernel))) ⟨by decide +kernel, by decide +kernel, by decide +kernel⟩ ⟨Nat.le_of_ble_eq_true rfl, Nat.le_of_ble_eq_true rfl⟩, rfl, (hts (.instanceMethod yX2_init) (ab_m_in (by decide +kernel)))⟩ ⟨fun a U g mk q => by obtain ⟨z0, z1, zP, zK, zD⟩ := q; exact ⟨z0, z1, zP, va_K.moved (u := U) (U := U.calling g mk a) (Vm.Alike.refl U.vm) zK, zD⟩, fun U hU hW => ⟨rfl, by rw [hU], by rw [hU]; exact hPc, va_K.moved hW.alike hKc, hDc.weaken (fun _ _ _ _ => trivial)⟩⟩ rfl rfl hl.1 rfl (lv_room (Nat.le_of_ble_eq_true rfl)) dX4_init_9 ⟨Nat.le_of_ble_eq_true rfl, Nat.le_of_ble_eq_true rfl⟩) hS (fun q _ h => hFc q h) hFc (fun u t H1 locs ht hvm h5 hB hz1 hk1 hS => ?_)
  obtain ⟨q8_9, c9, hP1, hK1, hD1⟩ := hB
  rw [ht] at hP1
  have hK1 := va_K.moved hvm.symm hK1
  obtain ⟨hP, hD⟩ := va_join (wr := [(h0, .inr (4, [.null]))]) (w1 := [(q5, .inr (2, [.ref q8_9])), (q8_9, .inl (c9, 453, .inl (fun _ => 0)))]) hP hD [1] [0] rfl rfl (by decide) (by decide) hk1 hFc hP1 hD1
  have hK := hK.app hK1
  generalize H1 = H at hP hS ⊢
  have hP : va_P D0 ab_cl [(h0, .inr (4, [.null])), (q5, .inr (2, [.ref q8_9])), (q8_9, .inl (c9, 453, .inl (fun _ => 0)))] H := hP
  have hD : va_D A [(h0, .inr (4, [.null])), (q5, .inr (2, [.ref q8_9])), (q8_9, .inl (c9, 453, .inl (fun _ => 0)))] := hD
  have hK : va_K D0 ab_cl [(c9, .int)] s := hK
  refine W.widen (k := 2) (n := 454) (Nat.le_of_ble_eq_true rfl) (Nat.le_of_ble_eq_true rfl) ?_
  refine va_putF (D := D0) (ci := 4) (v := .ref q5) (ty := .object "ShiftMarket$Market") (C := RX4) (T := TX4) (N := 1) hx hb hts (ab_fields (q := 4) (by decide)) tyX4 tyX4_ok nmX4 hown hK hP hD hS 0 rfl rfl 0 (by decide) (hts (.fieldLink RX4 12 RX4 "market" "LShiftMarket$Market;") (ab_m_in (by decide +kernel))) (fun _ h9 => h9) rfl hin rfl (by decide +kernel) rfl rfl (Nat.le_of_ble_eq_true rfl) dX4_init_12 (fun H locs hP hD hS => ?_)
  have hP : va_P D0 ab_cl [(h0, .inr (4, [.ref q5])), (q5, .inr (2, [.ref q8_9])), (q8_9, .inl (c9, 453, .inl (fun _ => 0)))] H := hP
  have hD : va_D A [(h0, .inr (4, [.ref q5])), (q5, .inr (2, [.ref q8_9])), (q8_9, .inl (c9, 453, .inl (fun _ => 0)))] := hD
  have hP9 := hP.sub (ws' := [(h0, .inr (4, [.ref q5])), (q5, .inr (2, [.ref q8_9])), (q8_9, .inl (c9, 453, .inl (fun _ => 0)))]) [0, 1, 2] rfl
  have hD9 := hD.sub (ws' := [(h0, .inr (4, [.ref q5])), (q5, .inr (2, [.ref q8_9])), (q8_9, .inl (c9, 453, .inl (fun _ => 0)))]) [0, 1, 2] (by decide) rfl
  exact W.vret hx hb hr (fun t ht hW => ⟨⟨(), rfl, trivial, q5, q8_9, c9, by rw [ht]; exact hP9, va_K.moved hW.alike hK, hD9⟩, hS.F ht⟩) hS.2.2 dX4_init_15
abbrev cX6_init : ByteArray := prog_8_method_1_code
def yX6_init : MethodName := ⟨RX6, "<init>", "()V"⟩
theorem dX6_init_0 : decode cX6_init 0 = .ok (.aload_n 0, 1) := by decide +kernel
theorem dX6_init_1 : decode cX6_init 1 = .ok (.invokespecial 1, 3) := by decide +kernel
theorem dX6_init_4 : decode cX6_init 4 = .ok (.aload_n 0, 1) := by decide +kernel
theorem dX6_init_5 : decode cX6_init 5 = .ok (.sipush 4455, 3) := by decide +kernel
theorem dX6_init_8 : decode cX6_init 8 = .ok (.newarray .int, 2) := by decide +kernel
theorem dX6_init_10 : decode cX6_init 10 = .ok (.putfield 9, 3) := by decide +kernel
theorem dX6_init_13 : decode cX6_init 13 = .ok (.aload_n 0, 1) := by decide +kernel
theorem dX6_init_14 : decode cX6_init 14 = .ok (.bipush 80, 2) := by decide +kernel
theorem dX6_init_16 : decode cX6_init 16 = .ok (.newarray .int, 2) := by decide +kernel
theorem dX6_init_18 : decode cX6_init 18 = .ok (.putfield 13, 3) := by decide +kernel
theorem dX6_init_21 : decode cX6_init 21 = .ok (.aload_n 0, 1) := by decide +kernel
theorem dX6_init_22 : decode cX6_init 22 = .ok (.iconst (-1), 1) := by decide +kernel
theorem dX6_init_23 : decode cX6_init 23 = .ok (.putfield 16, 3) := by decide +kernel
theorem dX6_init_26 : decode cX6_init 26 = .ok (.aload_n 0, 1) := by decide +kernel
theorem dX6_init_27 : decode cX6_init 27 = .ok (.iconst (-1), 1) := by decide +kernel
theorem dX6_init_28 : decode cX6_init 28 = .ok (.putfield 20, 3) := by decide +kernel
theorem dX6_init_31 : decode cX6_init 31 = .ok (.aload_n 0, 1) := by decide +kernel
theorem dX6_init_32 : decode cX6_init 32 = .ok (.sipush 480, 3) := by decide +kernel
theorem dX6_init_35 : decode cX6_init 35 = .ok (.newarray .int, 2) := by decide +kernel
theorem dX6_init_37 : decode cX6_init 37 = .ok (.putfield 23, 3) := by decide +kernel
theorem dX6_init_40 : decode cX6_init 40 = .ok (.aload_n 0, 1) := by decide +kernel
theorem dX6_init_41 : decode cX6_init 41 = .ok (.iconst (-1), 1) := by decide +kernel
theorem dX6_init_42 : decode cX6_init 42 = .ok (.putfield 26, 3) := by decide +kernel
theorem dX6_init_45 : decode cX6_init 45 = .ok (.return_, 1) := by decide +kernel
set_option maxHeartbeats 400000 in
set_option maxRecDepth 100000 in
theorem k_init6 (l : Launch) (D0 : va_G) (h0 : Nat) (sz : Nat) : Met l yX6_init (.code yX6_init cX6_init 1 none :: ab_tbl) ({ frames := 1, cells := 3, slots := 5015, locals := 12 }) (va_Pc [.ref h0] (fun U => U.heap.size = sz ∧ va_P D0 ab_cl [(h0, .inr (6, [.int 0, .null, .int 0, .int 0, .null, .int 0, .int 0, .int 0, .int 0, .null, .int 0, .int 0, .int 0, .int 0, .int 0]))] U.heap ∧ va_K D0 ab_cl [] U ∧ va_D (fun _ => True) [(h0, .inr (6, [.int 0, .null, .int 0, .int 0, .null, .int 0, .int 0, .int 0, .int 0, .null, .int 0, .int 0, .int 0, .int 0, .int 0]))])) (va_Qv (fun _ : Unit => True) (fun (_ : Unit) t => ∃ (q8 : Nat) (q16 : Nat) (q35 : Nat) (cI : ClassId), va_P D0 ab_cl [(h0, .inr (6, [.int 0, .ref q8, .int 0, .int 0, .ref q16, .int 0, .int 0, .int (-1), .int (-1), .ref q35, .int 0, .int 0, .int 0, .int 0, .int (-1)])), (q8, .inl (cI, 4455, .inl (fun _ => 0))), (q16, .inl (cI, 80, .inl (fun _ => 0))), (q35, .inl (cI, 480, .inl (fun _ => 0)))] t.heap ∧ va_K D0 ab_cl [(cI, .int)] t ∧ va_D (va_A [(h0, .inr (6, [.int 0, .null, .int 0, .int 0, .null, .int 0, .int 0, .int 0, .int 0, .null, .int 0, .int 0, .int 0, .int 0, .int 0]))] sz) [(h0, .inr (6, [.int 0, .ref q8, .int 0, .int 0, .ref q16, .int 0, .int 0, .int (-1), .int (-1), .ref q35, .int 0, .int 0, .int 0, .int 0, .int (-1)])), (q8, .inl (cI, 4455, .inl (fun _ => 0))), (q16, .inl (cI, 80, .inl (fun _ => 0))), (q35, .inl (cI, 480, .inl (fun _ => 0)))]) (va_A [(h0, .inr (6, [.int 0, .null, .int 0, .int 0, .null, .int 0, .int 0, .int 0, .int 0, .null, .int 0, .int 0, .int 0, .int 0, .int 0]))] sz)) 3 5015 (va_A [(h0, .inr (6, [.int 0, .null, .int 0, .int 0, .null, .int 0, .int 0, .int 0, .int 0, .null, .int 0, .int 0, .int 0, .int 0, .int 0]))] sz) := by
  refine Met.ofW (cc := cX6_init) (maxL := 1) (ret := none) (by decide) rfl ?_
  intro p e s m args below meth c s₁ B hml hv
  obtain ⟨rfl, hsz, hP, hK, hD0⟩ := hv
  have hx := B.exec
  have hb := B.bytes
  have hr := B.returns
  have hts0 := atoms_spec (ws := .code yX6_init cX6_init 1 none :: ab_tbl) B.pre
  have hts : ∀ w ∈ ab_tbl, w.before _ s = true := fun w hw => hts0 w (List.mem_cons_of_mem _ hw)
  have hown : s.vm.findClass RX6 = some m.cls := findClass_of_methodNamed B.named
  have hlocks := B.notSynchronized
  have hin : meth.name = "<init>" := (name_of_methodNamed B.named B.method).1
  subst hsz
  have hD := hD0.self (sz := s.heap.size)
  generalize hAe : va_A [(h0, .inr (6, [.int 0, .null, .int 0, .int 0, .null, .int 0, .int 0, .int 0, .int 0, .null, .int 0, .int 0, .int 0, .int 0, .int 0]))] s.heap.size = A at hD ⊢
  have hA : ∀ q : Nat, s.heap.size ≤ q → A q := fun q h => by rw [← hAe]; exact Or.inr h
  have hS : va_S A s.heap s.heap [] := va_S.rf
  have hP : va_P D0 ab_cl [(h0, .inr (6, [.int 0, .null, .int 0, .int 0, .null, .int 0, .int 0, .int 0, .int 0, .null, .int 0, .int 0, .int 0, .int 0, .int 0]))] s.heap := hP
  have hl := lv_entry ([.ref h0]) (n := 1) (Nat.le_of_ble_eq_true rfl)
  rw [lg_entry_eq]
  generalize (lg_sl ([.ref h0]) ++ List.replicate (1 - (lg_sl ([.ref h0])).length) Slot.unset).toArray = ls at hl ⊢
  have hl : lv_has ls 1 [(0, .ref h0)] := hl
  refine lv_aload_n hx hb dX6_init_0 rfl (lv_at hl 0 rfl) ?_
  refine W.objInit hx hb hown (hts (.methodLink RX6 1 Lib.objectInit) (ab_m_in (by decide +kernel))) (hts (.instanceMethod Lib.objectInit) (ab_m_in (by decide +kernel))) (hts (.code Lib.objectInit ⟨#[0xb1]⟩ 1 none) (ab_m_in (by decide +kernel))) rfl (by rw [hml]; exact hl.1) rfl dX6_init_1 (Nat.le_of_ble_eq_true rfl) (Nat.le_of_ble_eq_true rfl) ?_
  refine W.eq (g2 := F0 m 4 ls []) rfl ?_
  refine lv_aload_n hx hb dX6_init_4 rfl (lv_at hl 0 rfl) ?_
  refine lv_sipush (v := 4455) hx hb dX6_init_5 (by decide) ?_
  refine va_newa (atype := .int) (ty := .int) (n := 4455) (N' := 4455) (a0 := (4455, .inl (fun _ => 0))) hx hb (hts (.arrayClass .int) (ab_m_in (by decide +kernel))) rfl hK hP hD hS hA (fun cA => ct_arr cA 4455) (by decide) (by decide) (by decide) (Nat.le_of_ble_eq_true rfl) (Nat.le_of_ble_eq_true rfl) dX6_init_8 (fun q8 c8 H hK hP hD hS => ?_)
  have hP : va_P D0 ab_cl [(h0, .inr (6, [.int 0, .null, .int 0, .int 0, .null, .int 0, .int 0, .int 0, .int 0, .null, .int 0, .int 0, .int 0, .int 0, .int 0])), (q8, .inl (c8, 4455, .inl (fun _ => 0)))] H := hP
  have hD : va_D A [(h0, .inr (6, [.int 0, .null, .int 0, .int 0, .null, .int 0, .int 0, .int 0, .int 0, .null, .int 0, .int 0, .int 0, .int 0, .int 0])), (q8, .inl (c8, 4455, .inl (fun _ => 0)))] := hD
  have hK : va_K D0 ab_cl [(c8, .int)] s := hK
  refine W.widen (k := 1) (n := 4455) (Nat.le_of_ble_eq_true rfl) (Nat.le_of_ble_eq_true rfl) ?_
  refine va_putF (D := D0) (ci := 6) (v := .ref q8) (ty := .array .int) (C := RX6) (T := TX6) (N := 15) hx hb hts (ab_fields (q := 6) (by decide)) tyX6 tyX6_ok nmX6 hown hK hP hD hS 0 rfl rfl 1 (by decide) (hts (.fieldLink RX6 9 RX6 "all" "[I") (ab_m_in (by decide +kernel))) (fun _ h9 => h9) rfl hin rfl (by decide +kernel) rfl rfl (Nat.le_of_ble_eq_true rfl) dX6_init_10 (fun H locs hP hD hS => ?_)
  have hP : va_P D0 ab_cl [(h0, .inr (6, [.int 0, .ref q8, .int 0, .int 0, .null, .int 0, .int 0, .int 0, .int 0, .null, .int 0, .int 0, .int 0, .int 0, .int 0])), (q8, .inl (c8, 4455, .inl (fun _ => 0)))] H := hP
  have hD : va_D A [(h0, .inr (6, [.int 0, .ref q8, .int 0, .int 0, .null, .int 0, .int 0, .int 0, .int 0, .null, .int 0, .int 0, .int 0, .int 0, .int 0])), (q8, .inl (c8, 4455, .inl (fun _ => 0)))] := hD
  refine lv_aload_n hx hb dX6_init_13 rfl (lv_at hl 0 rfl) ?_
  refine lv_bipush (v := 80) hx hb dX6_init_14 (by decide) ?_
  refine va_newa (atype := .int) (ty := .int) (n := 80) (N' := 80) (a0 := (80, .inl (fun _ => 0))) hx hb (hts (.arrayClass .int) (ab_m_in (by decide +kernel))) rfl hK hP hD hS hA (fun cA => ct_arr cA 80) (by decide) (by decide) (by decide) (Nat.le_of_ble_eq_true rfl) (Nat.le_of_ble_eq_true rfl) dX6_init_16 (fun q16 c16 H hK hP hD hS => ?_)
  have hP : va_P D0 ab_cl [(h0, .inr (6, [.int 0, .ref q8, .int 0, .int 0, .null, .int 0, .int 0, .int 0, .int 0, .null, .int 0, .int 0, .int 0, .int 0, .int 0])), (q8, .inl (c8, 4455, .inl (fun _ => 0))), (q16, .inl (c16, 80, .inl (fun _ => 0)))] H := hP
  have hD : va_D A [(h0, .inr (6, [.int 0, .ref q8, .int 0, .int 0, .null, .int 0, .int 0, .int 0, .int 0, .null, .int 0, .int 0, .int 0, .int 0, .int 0])), (q8, .inl (c8, 4455, .inl (fun _ => 0))), (q16, .inl (c16, 80, .inl (fun _ => 0)))] := hD
  have hK : va_K D0 ab_cl [(c8, .int), (c16, .int)] s := hK
  obtain rfl := va_cI hK (i := 0) (j := 1) rfl rfl
  have hK := hK.sub (tys' := [(c8, .int)]) [0] rfl
  have hP : va_P D0 ab_cl [(h0, .inr (6, [.int 0, .ref q8, .int 0, .int 0, .null, .int 0, .int 0, .int 0, .int 0, .null, .int 0, .int 0, .int 0, .int 0, .int 0])), (q8, .inl (c8, 4455, .inl (fun _ => 0))), (q16, .inl (c8, 80, .inl (fun _ => 0)))] H := hP
  have hD : va_D A [(h0, .inr (6, [.int 0, .ref q8, .int 0, .int 0, .null, .int 0, .int 0, .int 0, .int 0, .null, .int 0, .int 0, .int 0, .int 0, .int 0])), (q8, .inl (c8, 4455, .inl (fun _ => 0))), (q16, .inl (c8, 80, .inl (fun _ => 0)))] := hD
  refine W.widen (k := 2) (n := 4535) (Nat.le_of_ble_eq_true rfl) (Nat.le_of_ble_eq_true rfl) ?_
  refine va_putF (D := D0) (ci := 6) (v := .ref q16) (ty := .array .int) (C := RX6) (T := TX6) (N := 15) hx hb hts (ab_fields (q := 6) (by decide)) tyX6 tyX6_ok nmX6 hown hK hP hD hS 0 rfl rfl 4 (by decide) (hts (.fieldLink RX6 13 RX6 "letters" "[I") (ab_m_in (by decide +kernel))) (fun _ h9 => h9) rfl hin rfl (by decide +kernel) rfl rfl (Nat.le_of_ble_eq_true rfl) dX6_init_18 (fun H locs hP hD hS => ?_)
  have hP : va_P D0 ab_cl [(h0, .inr (6, [.int 0, .ref q8, .int 0, .int 0, .ref q16, .int 0, .int 0, .int 0, .int 0, .null, .int 0, .int 0, .int 0, .int 0, .int 0])), (q8, .inl (c8, 4455, .inl (fun _ => 0))), (q16, .inl (c8, 80, .inl (fun _ => 0)))] H := hP
  have hD : va_D A [(h0, .inr (6, [.int 0, .ref q8, .int 0, .int 0, .ref q16, .int 0, .int 0, .int 0, .int 0, .null, .int 0, .int 0, .int 0, .int 0, .int 0])), (q8, .inl (c8, 4455, .inl (fun _ => 0))), (q16, .inl (c8, 80, .inl (fun _ => 0)))] := hD
  refine lv_aload_n hx hb dX6_init_21 rfl (lv_at hl 0 rfl) ?_
  refine lv_iconst (v := -1) hx hb dX6_init_22 (by decide) ?_
  refine va_put (D := D0) (ci := 6) (v := .int (-1)) (ty := .int) (C := RX6) (T := TX6) (N := 15) hx hb hts (ab_fields (q := 6) (by decide)) tyX6 tyX6_ok nmX6 hown hK hP hD hS 0 rfl rfl 7 (by decide) (hts (.fieldLink RX6 16 RX6 "fault" "I") (ab_m_in (by decide +kernel))) (fun _ h9 => h9) rfl (by decide +kernel) rfl rfl (Nat.le_of_ble_eq_true rfl) dX6_init_23 (fun H locs hP hD hS => ?_)
  have hP : va_P D0 ab_cl [(h0, .inr (6, [.int 0, .ref q8, .int 0, .int 0, .ref q16, .int 0, .int 0, .int (-1), .int 0, .null, .int 0, .int 0, .int 0, .int 0, .int 0])), (q8, .inl (c8, 4455, .inl (fun _ => 0))), (q16, .inl (c8, 80, .inl (fun _ => 0)))] H := hP
  have hD : va_D A [(h0, .inr (6, [.int 0, .ref q8, .int 0, .int 0, .ref q16, .int 0, .int 0, .int (-1), .int 0, .null, .int 0, .int 0, .int 0, .int 0, .int 0])), (q8, .inl (c8, 4455, .inl (fun _ => 0))), (q16, .inl (c8, 80, .inl (fun _ => 0)))] := hD
  refine lv_aload_n hx hb dX6_init_26 rfl (lv_at hl 0 rfl) ?_
  refine lv_iconst (v := -1) hx hb dX6_init_27 (by decide) ?_
  refine va_put (D := D0) (ci := 6) (v := .int (-1)) (ty := .int) (C := RX6) (T := TX6) (N := 15) hx hb hts (ab_fields (q := 6) (by decide)) tyX6 tyX6_ok nmX6 hown hK hP hD hS 0 rfl rfl 8 (by decide) (hts (.fieldLink RX6 20 RX6 "failed" "I") (ab_m_in (by decide +kernel))) (fun _ h9 => h9) rfl (by decide +kernel) rfl rfl (Nat.le_of_ble_eq_true rfl) dX6_init_28 (fun H locs hP hD hS => ?_)
  have hP : va_P D0 ab_cl [(h0, .inr (6, [.int 0, .ref q8, .int 0, .int 0, .ref q16, .int 0, .int 0, .int (-1), .int (-1), .null, .int 0, .int 0, .int 0, .int 0, .int 0])), (q8, .inl (c8, 4455, .inl (fun _ => 0))), (q16, .inl (c8, 80, .inl (fun _ => 0)))] H := hP
  have hD : va_D A [(h0, .inr (6, [.int 0, .ref q8, .int 0, .int 0, .ref q16, .int 0, .int 0, .int (-1), .int (-1), .null, .int 0, .int 0, .int 0, .int 0, .int 0])), (q8, .inl (c8, 4455, .inl (fun _ => 0))), (q16, .inl (c8, 80, .inl (fun _ => 0)))] := hD
  refine lv_aload_n hx hb dX6_init_31 rfl (lv_at hl 0 rfl) ?_
  refine lv_sipush (v := 480) hx hb dX6_init_32 (by decide) ?_
  refine va_newa (atype := .int) (ty := .int) (n := 480) (N' := 480) (a0 := (480, .inl (fun _ => 0))) hx hb (hts (.arrayClass .int) (ab_m_in (by decide +kernel))) rfl hK hP hD hS hA (fun cA => ct_arr cA 480) (by decide) (by decide) (by decide) (Nat.le_of_ble_eq_true rfl) (Nat.le_of_ble_eq_true rfl) dX6_init_35 (fun q35 c35 H hK hP hD hS => ?_)
  have hP : va_P D0 ab_cl [(h0, .inr (6, [.int 0, .ref q8, .int 0, .int 0, .ref q16, .int 0, .int 0, .int (-1), .int (-1), .null, .int 0, .int 0, .int 0, .int 0, .int 0])), (q8, .inl (c8, 4455, .inl (fun _ => 0))), (q16, .inl (c8, 80, .inl (fun _ => 0))), (q35, .inl (c35, 480, .inl (fun _ => 0)))] H := hP
  have hD : va_D A [(h0, .inr (6, [.int 0, .ref q8, .int 0, .int 0, .ref q16, .int 0, .int 0, .int (-1), .int (-1), .null, .int 0, .int 0, .int 0, .int 0, .int 0])), (q8, .inl (c8, 4455, .inl (fun _ => 0))), (q16, .inl (c8, 80, .inl (fun _ => 0))), (q35, .inl (c35, 480, .inl (fun _ => 0)))] := hD
  have hK : va_K D0 ab_cl [(c8, .int), (c35, .int)] s := hK
  obtain rfl := va_cI hK (i := 0) (j := 1) rfl rfl
  have hK := hK.sub (tys' := [(c8, .int)]) [0] rfl
  have hP : va_P D0 ab_cl [(h0, .inr (6, [.int 0, .ref q8, .int 0, .int 0, .ref q16, .int 0, .int 0, .int (-1), .int (-1), .null, .int 0, .int 0, .int 0, .int 0, .int 0])), (q8, .inl (c8, 4455, .inl (fun _ => 0))), (q16, .inl (c8, 80, .inl (fun _ => 0))), (q35, .inl (c8, 480, .inl (fun _ => 0)))] H := hP
  have hD : va_D A [(h0, .inr (6, [.int 0, .ref q8, .int 0, .int 0, .ref q16, .int 0, .int 0, .int (-1), .int (-1), .null, .int 0, .int 0, .int 0, .int 0, .int 0])), (q8, .inl (c8, 4455, .inl (fun _ => 0))), (q16, .inl (c8, 80, .inl (fun _ => 0))), (q35, .inl (c8, 480, .inl (fun _ => 0)))] := hD
  refine W.widen (k := 3) (n := 5015) (Nat.le_of_ble_eq_true rfl) (Nat.le_of_ble_eq_true rfl) ?_
  refine va_putF (D := D0) (ci := 6) (v := .ref q35) (ty := .array .int) (C := RX6) (T := TX6) (N := 15) hx hb hts (ab_fields (q := 6) (by decide)) tyX6 tyX6_ok nmX6 hown hK hP hD hS 0 rfl rfl 9 (by decide) (hts (.fieldLink RX6 23 RX6 "items" "[I") (ab_m_in (by decide +kernel))) (fun _ h9 => h9) rfl hin rfl (by decide +kernel) rfl rfl (Nat.le_of_ble_eq_true rfl) dX6_init_37 (fun H locs hP hD hS => ?_)
  have hP : va_P D0 ab_cl [(h0, .inr (6, [.int 0, .ref q8, .int 0, .int 0, .ref q16, .int 0, .int 0, .int (-1), .int (-1), .ref q35, .int 0, .int 0, .int 0, .int 0, .int 0])), (q8, .inl (c8, 4455, .inl (fun _ => 0))), (q16, .inl (c8, 80, .inl (fun _ => 0))), (q35, .inl (c8, 480, .inl (fun _ => 0)))] H := hP
  have hD : va_D A [(h0, .inr (6, [.int 0, .ref q8, .int 0, .int 0, .ref q16, .int 0, .int 0, .int (-1), .int (-1), .ref q35, .int 0, .int 0, .int 0, .int 0, .int 0])), (q8, .inl (c8, 4455, .inl (fun _ => 0))), (q16, .inl (c8, 80, .inl (fun _ => 0))), (q35, .inl (c8, 480, .inl (fun _ => 0)))] := hD
  refine lv_aload_n hx hb dX6_init_40 rfl (lv_at hl 0 rfl) ?_
  refine lv_iconst (v := -1) hx hb dX6_init_41 (by decide) ?_
  refine va_put (D := D0) (ci := 6) (v := .int (-1)) (ty := .int) (C := RX6) (T := TX6) (N := 15) hx hb hts (ab_fields (q := 6) (by decide)) tyX6 tyX6_ok nmX6 hown hK hP hD hS 0 rfl rfl 14 (by decide) (hts (.fieldLink RX6 26 RX6 "reasonWorker" "I") (ab_m_in (by decide +kernel))) (fun _ h9 => h9) rfl (by decide +kernel) rfl rfl (Nat.le_of_ble_eq_true rfl) dX6_init_42 (fun H locs hP hD hS => ?_)
  have hP : va_P D0 ab_cl [(h0, .inr (6, [.int 0, .ref q8, .int 0, .int 0, .ref q16, .int 0, .int 0, .int (-1), .int (-1), .ref q35, .int 0, .int 0, .int 0, .int 0, .int (-1)])), (q8, .inl (c8, 4455, .inl (fun _ => 0))), (q16, .inl (c8, 80, .inl (fun _ => 0))), (q35, .inl (c8, 480, .inl (fun _ => 0)))] H := hP
  have hD : va_D A [(h0, .inr (6, [.int 0, .ref q8, .int 0, .int 0, .ref q16, .int 0, .int 0, .int (-1), .int (-1), .ref q35, .int 0, .int 0, .int 0, .int 0, .int (-1)])), (q8, .inl (c8, 4455, .inl (fun _ => 0))), (q16, .inl (c8, 80, .inl (fun _ => 0))), (q35, .inl (c8, 480, .inl (fun _ => 0)))] := hD
  have hP9 := hP.sub (ws' := [(h0, .inr (6, [.int 0, .ref q8, .int 0, .int 0, .ref q16, .int 0, .int 0, .int (-1), .int (-1), .ref q35, .int 0, .int 0, .int 0, .int 0, .int (-1)])), (q8, .inl (c8, 4455, .inl (fun _ => 0))), (q16, .inl (c8, 80, .inl (fun _ => 0))), (q35, .inl (c8, 480, .inl (fun _ => 0)))]) [0, 1, 2, 3] rfl
  have hD9 := hD.sub (ws' := [(h0, .inr (6, [.int 0, .ref q8, .int 0, .int 0, .ref q16, .int 0, .int 0, .int (-1), .int (-1), .ref q35, .int 0, .int 0, .int 0, .int 0, .int (-1)])), (q8, .inl (c8, 4455, .inl (fun _ => 0))), (q16, .inl (c8, 80, .inl (fun _ => 0))), (q35, .inl (c8, 480, .inl (fun _ => 0)))]) [0, 1, 2, 3] (by decide) rfl
  exact W.vret hx hb hr (fun t ht hW => ⟨⟨(), rfl, trivial, q8, q16, q35, c8, by rw [ht]; exact hP9, va_K.moved hW.alike hK, hD9⟩, hS.F ht⟩) hS.2.2 dX6_init_45
