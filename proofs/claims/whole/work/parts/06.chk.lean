/-! ===== the tables are true of the bytecode and of the words: by decide ===== -/
def ab_cn : ClassFile.Cond → Nat
  | .eq => 0
  | .ne => 1
  | .lt => 2
  | .ge => 3
  | .gt => 4
  | .le => 5
def ab_T (q : Nat) : u_T := (ab_cl.getD q ("", TX0, 0)).2.1
def ab_own (k : Nat) : String := (ab_y k).cls
def ab_np (k : Nat) : Option Nat := (parseMethodDescriptor (ab_y k).desc).map (fun d => d.parameters.length)
def ab_mx : MethodName := Lib.Math.max.name
def ab_mn : MethodName := Lib.Math.min.name
def ab_w (z : Nat) (w : Cond) : Bool := decide (lw_tbl[z]? = some w) && goodWord w
def ab_m (w : Cond) : Bool := decide (w ∈ lw_tbl) && goodWord w
def ab_tbl : List Cond := lw_tbl.filter goodWord
/-- the composite 'new X(text)' thrown, at pc -/
def ab_thr (k pc ik r q z : Nat) : Bool :=
  let own := ab_own k
  let X := ab_ex r
  let by9 := ab_by k
  let w := ab_strs.getD z ("", 0, "")
  decide (r < 6) && decide (z < ab_strs.length) && decide (w.1 = own) && (ab_hh k).isEmpty && ab_m (.classLink own ik X) && ab_m (.methodLink own (q / 2) (Bundle.initS X)) &&
  decide (decode by9 (pc + 3) = .ok (.dup, 1)) &&
  (bif Nat.beq (q % 2) 0 then decide (decode by9 (pc + 4) = .ok (.ldc w.2.1, 2)) && decide (decode by9 (pc + 6) = .ok (.invokespecial (q / 2), 3)) && decide (decode by9 (pc + 9) = .ok (.athrow, 1))
   else decide (decode by9 (pc + 4) = .ok (.ldc_w w.2.1, 3)) && decide (decode by9 (pc + 7) = .ok (.invokespecial (q / 2), 3)) && decide (decode by9 (pc + 10) = .ok (.athrow, 1)))
def ab_ok (k pc : Nat) (e : ab_E) (i : Instr) (ln : Nat) : Bool := match e with
  | (kd, len, r, q, z, v) => decide (ln = len) && match i with
    | .iconst n => decide (kd = 1) && decide (len = 1) && decide (Int32.ofInt n = v)
    | .bipush n => decide (kd = 1) && decide (len = 2) && decide ((Int8.ofInt n).toInt32 = v)
    | .sipush n => decide (kd = 1) && decide (len = 3) && decide ((Int16.ofInt n).toInt32 = v)
    | .ldc_w x => decide (kd = 1) && decide (len = 3) && ab_w z (.constant (ab_own k) x v)
    | .iload_n n => decide (kd = 2) && decide (len = 1) && decide (r = n) && decide (q = 0)
    | .iload n => decide (kd = 2) && decide (len = 2) && decide (r = n) && decide (q = 0)
    | .aload_n n => decide (kd = 2) && decide (len = 1) && decide (r = n) && decide (q = 1)
    | .aload n => decide (kd = 2) && decide (len = 2) && decide (r = n) && decide (q = 1)
    | .fload_n n => decide (kd = 2) && decide (len = 1) && decide (r = n) && decide (q = 2)
    | .fload n => decide (kd = 2) && decide (len = 2) && decide (r = n) && decide (q = 2)
    | .dload_n n => decide (kd = 2) && decide (len = 1) && decide (r = n) && decide (q = 3)
    | .dload n => decide (kd = 2) && decide (len = 2) && decide (r = n) && decide (q = 3)
    | .istore_n n => decide (kd = 3) && decide (len = 1) && decide (r = n) && decide (q = 0) && decide (r < ab_ml k)
    | .istore n => decide (kd = 3) && decide (len = 2) && decide (r = n) && decide (q = 0) && decide (r < ab_ml k)
    | .astore_n n => decide (kd = 3) && decide (len = 1) && decide (r = n) && decide (q = 1) && decide (r < ab_ml k)
    | .astore n => decide (kd = 3) && decide (len = 2) && decide (r = n) && decide (q = 1) && decide (r < ab_ml k)
    | .fstore_n n => decide (kd = 3) && decide (len = 1) && decide (r = n) && decide (q = 2) && decide (r < ab_ml k)
    | .fstore n => decide (kd = 3) && decide (len = 2) && decide (r = n) && decide (q = 2) && decide (r < ab_ml k)
    | .dstore_n n => decide (kd = 4) && decide (len = 1) && decide (r = n) && decide (q = 3) && decide (r + 1 < ab_ml k)
    | .dstore n => decide (kd = 4) && decide (len = 2) && decide (r = n) && decide (q = 3) && decide (r + 1 < ab_ml k)
    | .iadd => decide (kd = 5) && decide (len = 1) && decide (q = 0)
    | .isub => decide (kd = 5) && decide (len = 1) && decide (q = 1)
    | .imul => decide (kd = 5) && decide (len = 1) && decide (q = 2)
    | .iand => decide (kd = 5) && decide (len = 1) && decide (q = 3)
    | .ior => decide (kd = 5) && decide (len = 1) && decide (q = 4)
    | .ixor => decide (kd = 5) && decide (len = 1) && decide (q = 5)
    | .ishl => decide (kd = 5) && decide (len = 1) && decide (q = 6)
    | .ishr => decide (kd = 5) && decide (len = 1) && decide (q = 7)
    | .iushr => decide (kd = 5) && decide (len = 1) && decide (q = 8)
    | .iinc n d => decide (kd = 6) && decide (len = 3) && decide (r = n) && decide (r < ab_ml k) && decide (Int32.ofInt d = v)
    | .goto o => decide (kd = 7) && decide (len = 3) && decide ((pc : Int) + o = (r : Int))
    | .ifCond c o => decide (kd = 8) && decide (len = 3) && decide ((pc : Int) + o = (r : Int)) && decide (q = ab_cn c)
    | .if_icmp c o => decide (kd = 9) && decide (len = 3) && decide ((pc : Int) + o = (r : Int)) && decide (q = ab_cn c)
    | .dup => decide (kd = 10) && decide (len = 1)
    | .pop => decide (kd = 11) && decide (len = 1)
    | .dup2 => decide (kd = 12) && decide (len = 1)
    | .getfield x => decide (kd = 13) && decide (len = 3) && decide (q < 7) && decide (r < ab_nf q) && ab_w z (.fieldLink (ab_own k) x (ab_T q r).1 (ab_T q r).2.1 (ab_T q r).2.2.1)
    | .putfield x => decide (kd = 14) && decide (len = 3) && decide (q < 7) && decide (r < ab_nf q) && ab_w z (.fieldLink (ab_own k) x (ab_T q r).1 (ab_T q r).2.1 (ab_T q r).2.2.1) && decide ((ab_T q r).2.2.2 = false) &&
        (decide ((ab_T q r).2.2.1 = "I") || (decide ((ab_T q r).2.2.1 = "Z") && decide (v = 1)))
    | .iaload => decide (kd = 15) && decide (len = 1)
    | .iastore => decide (kd = 16) && decide (len = 1)
    | .laload => decide (kd = 17) && decide (len = 1)
    | .lastore => decide (kd = 18) && decide (len = 1)
    | .daload => decide (kd = 19) && decide (len = 1)
    | .dastore => decide (kd = 20) && decide (len = 1)
    | .arraylength => decide (kd = 21) && decide (len = 1)
    | .i2l => decide (kd = 22) && decide (len = 1)
    | .lcmp => decide (kd = 23) && decide (len = 1)
    | .i2d => decide (kd = 24) && decide (len = 1)
    | .i2f => decide (kd = 25) && decide (len = 1)
    | .f2d => decide (kd = 26) && decide (len = 1)
    | .ddiv => decide (kd = 27) && decide (len = 1)
    | .fdiv => decide (kd = 28) && decide (len = 1)
    | .dcmp c => decide (kd = 29) && decide (len = 1) && decide (c = .l)
    | .fcmp c => decide (kd = 30) && decide (len = 1) && decide (c = .l)
    | .fconst c => decide (kd = 31) && decide (len = 1) && decide (c = 0)
    | .dconst c => decide (kd = 32) && decide (len = 1) && decide (c = 0)
    | .idiv => decide (kd = 33) && decide (len = 1)
    | .irem => decide (kd = 34) && decide (len = 1)
    | .tableswitch d lo hi os => decide (kd = 35) && decide (lo = 0) && decide (hi = 40) && decide ((pc : Int) + d = (r : Int)) && decide (os.toList.map (fun o => (pc : Int) + o) = ab_tswL.map (fun n : Nat => (n : Int)))
    | .lookupswitch d ps => decide (kd = 36) && decide (pc = 61) && decide (d = 115) && decide (ps = #[(115, 71), (119, 27)]) && decide ((pc : Int) + d = (r : Int))
    | .ifnull _ => decide (kd = 37) && decide (len = 3)
    | .invokevirtual x => decide (kd = 38) && decide (len = 3) && decide (r < 252) && !(ab_sta r) && decide (ab_np r = some q) && ab_w z (.methodLink (ab_own k) x (ab_y r))
    | .invokestatic x => decide (len = 3) && ((decide (kd = 39) && decide (r < 252) && ab_sta r && decide (ab_np r = some q) && ab_w z (.methodLink (ab_own k) x (ab_y r))) ||
        (decide (kd = 40) && ab_w z (.methodLink (ab_own k) x arraycopyName)) || (decide (kd = 46) && ab_w z (.methodLink (ab_own k) x ab_mx)) || (decide (kd = 47) && ab_w z (.methodLink (ab_own k) x ab_mn)))
    | .ireturn => decide (kd = 41) && decide (len = 1) && ((decide (q = 0) && decide (ab_rt k = some .int)) || (decide (q = 1) && decide (ab_rt k = some .boolean)))
    | .return_ => decide (kd = 42) && decide (len = 1) && decide (ab_rt k = none)
    | .freturn => decide (kd = 43) && decide (len = 1) && decide (ab_rt k = some .float)
    | .dreturn => decide (kd = 44) && decide (len = 1) && decide (ab_rt k = some .double)
    | .new x => decide (kd = 45) && decide (len = 3) && ab_thr k pc x r q z
    | _ => false
def ab_chk (k pc : Nat) : Bool := decide ((ab_cd k pc).1 = 0) || match decode (ab_by k) pc with
  | .ok (i, ln) => ab_ok k pc (ab_cd k pc) i ln
  | .error _ => false
def ab_head (k : Nat) : Cond := bif (ab_hh k).isEmpty then .code (ab_y k) (ab_by k) (ab_ml k) (ab_rt k) else .codeWith (ab_y k) (ab_by k) (ab_ml k) (ab_rt k) (ab_ht k)
def ab_mchk (k : Nat) : Bool := plainName (ab_own k) && ab_w (ab_wp k).1 (ab_head k) && ab_m (.initialized (ab_own k)) &&
  (bif ab_sta k then ab_w (ab_wp k).2.1 (.static (ab_y k)) else ab_w (ab_wp k).2.1 (.instanceMethod (ab_y k)) && ab_w (ab_wp k).2.2 (.selects (ab_own k) (ab_y k) (ab_y k)) && (ab_hh k).isEmpty && decide ((ab_cl[ab_rc k]?).map (fun c => c.1) = some (ab_own k)) && decide (ab_rc k < 7)) &&
  decide (ab_own k ≠ "java/lang/invoke/MethodHandle") && decide (ab_own k ≠ "java/lang/invoke/VarHandle") && decide (ab_ml k ≤ 20) &&
  (ab_hh k).all (fun x => decide (x.2.1 < 6) && decide (x.1.2.2.2 ≠ 0) && ab_m (.classLink (ab_own k) x.1.2.2.2 (ab_ex x.2.1)) && decide ((ab_cd k x.1.2.2.1).1 = 3) && decide ((ab_cd k x.1.2.2.1).2.2.1 = x.2.2.2) && decide ((ab_cd k x.1.2.2.1).2.2.2.1 = 1) && decide (x.1.2.2.1 + (ab_cd k x.1.2.2.1).2.1 = x.2.2.1))
def ab_chks (a b : Nat) : Bool := ((List.range b).drop a).all fun k => (List.range (ab_sz k)).all fun pc => ab_chk k pc
theorem ab_w_in {z : Nat} {w : Cond} (h : ab_w z w = true) : w ∈ ab_tbl := by
  unfold ab_w at h
  simp only [Bool.and_eq_true, decide_eq_true_eq] at h
  exact List.mem_filter.mpr ⟨List.mem_of_getElem? h.1, h.2⟩
theorem ab_m_in {w : Cond} (h : ab_m w = true) : w ∈ ab_tbl := by
  unfold ab_m at h
  simp only [Bool.and_eq_true, decide_eq_true_eq] at h
  exact List.mem_filter.mpr ⟨h.1, h.2⟩
