/-! ===== ends and throws ===== -/
theorem ab_kd {k pc : Nat} (hck : ab_chk k pc = true) (hne : ¬ (ab_cd k pc).1 = 0) : ∃ i ln, decode (ab_by k) pc = .ok (i, ln) ∧ ab_ok k pc (ab_cd k pc) i ln = true := by
  unfold ab_chk at hck
  simp only [Bool.or_eq_true, decide_eq_true_eq, hne, false_or] at hck
  cases hdc : decode (ab_by k) pc with
  | error er => rw [hdc] at hck; cases hck
  | ok il =>
    obtain ⟨i, ln⟩ := il
    rw [hdc] at hck
    exact ⟨i, ln, rfl, hck⟩
set_option maxHeartbeats 4000000 in
theorem ab_inv41 {k pc len r q z ln : Nat} {v : Int32} {i : Instr} (hok : ab_ok k pc (41, len, r, q, z, v) i ln = true) : i = .ireturn ∧ ln = 1 ∧ ((q = 0 ∧ ab_rt k = some .int) ∨ (q = 1 ∧ ab_rt k = some .boolean)) := by
  simp only [ab_ok, Bool.and_eq_true, decide_eq_true_eq] at hok
  obtain ⟨rfl, hok⟩ := hok
  split at hok
  all_goals (try (simp at hok; done))
  simp only [Bool.and_eq_true, Bool.or_eq_true, decide_eq_true_eq] at hok
  obtain ⟨⟨-, rfl⟩, h⟩ := hok
  exact ⟨rfl, rfl, h⟩
set_option maxHeartbeats 4000000 in
theorem ab_inv42 {k pc len r q z ln : Nat} {v : Int32} {i : Instr} (hok : ab_ok k pc (42, len, r, q, z, v) i ln = true) : i = .return_ ∧ ln = 1 ∧ ab_rt k = none := by
  simp only [ab_ok, Bool.and_eq_true, decide_eq_true_eq] at hok
  obtain ⟨rfl, hok⟩ := hok
  split at hok
  all_goals (try (simp at hok; done))
  simp only [Bool.and_eq_true, Bool.or_eq_true, decide_eq_true_eq] at hok
  obtain ⟨⟨-, rfl⟩, h⟩ := hok
  exact ⟨rfl, rfl, h⟩
set_option maxHeartbeats 4000000 in
theorem ab_inv43 {k pc len r q z ln : Nat} {v : Int32} {i : Instr} (hok : ab_ok k pc (43, len, r, q, z, v) i ln = true) : i = .freturn ∧ ln = 1 ∧ ab_rt k = some .float := by
  simp only [ab_ok, Bool.and_eq_true, decide_eq_true_eq] at hok
  obtain ⟨rfl, hok⟩ := hok
  split at hok
  all_goals (try (simp at hok; done))
  simp only [Bool.and_eq_true, Bool.or_eq_true, decide_eq_true_eq] at hok
  obtain ⟨⟨-, rfl⟩, h⟩ := hok
  exact ⟨rfl, rfl, h⟩
set_option maxHeartbeats 4000000 in
theorem ab_inv44 {k pc len r q z ln : Nat} {v : Int32} {i : Instr} (hok : ab_ok k pc (44, len, r, q, z, v) i ln = true) : i = .dreturn ∧ ln = 1 ∧ ab_rt k = some .double := by
  simp only [ab_ok, Bool.and_eq_true, decide_eq_true_eq] at hok
  obtain ⟨rfl, hok⟩ := hok
  split at hok
  all_goals (try (simp at hok; done))
  simp only [Bool.and_eq_true, Bool.or_eq_true, decide_eq_true_eq] at hok
  obtain ⟨⟨-, rfl⟩, h⟩ := hok
  exact ⟨rfl, rfl, h⟩
set_option maxHeartbeats 4000000 in
theorem ab_inv45 {k pc len r q z ln : Nat} {v : Int32} {i : Instr} (hok : ab_ok k pc (45, len, r, q, z, v) i ln = true) : ∃ x, i = .new x ∧ ln = 3 ∧ ab_thr k pc x r q z = true := by
  simp only [ab_ok, Bool.and_eq_true, decide_eq_true_eq] at hok
  obtain ⟨rfl, hok⟩ := hok
  split at hok
  all_goals (try (simp at hok; done))
  rename_i x
  simp only [Bool.and_eq_true, Bool.or_eq_true, decide_eq_true_eq] at hok
  obtain ⟨⟨-, rfl⟩, h⟩ := hok
  exact ⟨x, rfl, rfl, h⟩
set_option maxHeartbeats 4000000 in
theorem ab_inv38 {k pc len r q z ln : Nat} {v : Int32} {i : Instr} (hok : ab_ok k pc (38, len, r, q, z, v) i ln = true) : ∃ x, i = .invokevirtual x ∧ ln = 3 ∧ r < 252 ∧ ab_sta r = false ∧ ab_np r = some q ∧ Cond.methodLink (ab_own k) x (ab_y r) ∈ ab_tbl := by
  simp only [ab_ok, Bool.and_eq_true, decide_eq_true_eq] at hok
  obtain ⟨rfl, hok⟩ := hok
  split at hok
  all_goals (try (simp at hok; done))
  rename_i x
  simp only [Bool.and_eq_true, Bool.or_eq_true, decide_eq_true_eq, Bool.not_eq_true'] at hok
  obtain ⟨⟨⟨⟨⟨-, rfl⟩, h1⟩, h2⟩, h3⟩, h4⟩ := hok
  exact ⟨x, rfl, rfl, h1, h2, h3, ab_w_in h4⟩
set_option maxHeartbeats 4000000 in
theorem ab_inv39 {k pc len r q z ln : Nat} {v : Int32} {i : Instr} (hok : ab_ok k pc (39, len, r, q, z, v) i ln = true) : ∃ x, i = .invokestatic x ∧ ln = 3 ∧ r < 252 ∧ ab_sta r = true ∧ ab_np r = some q ∧ Cond.methodLink (ab_own k) x (ab_y r) ∈ ab_tbl := by
  simp only [ab_ok, Bool.and_eq_true, decide_eq_true_eq] at hok
  obtain ⟨rfl, hok⟩ := hok
  split at hok
  all_goals (try (simp at hok; done))
  rename_i x
  simp only [Bool.and_eq_true, Bool.or_eq_true, decide_eq_true_eq] at hok
  obtain ⟨rfl, h⟩ := hok
  rcases h with ((⟨⟨⟨⟨-, h1⟩, h2⟩, h3⟩, h4⟩ | ⟨h, -⟩) | ⟨h, -⟩) | ⟨h, -⟩
  · exact ⟨x, rfl, rfl, h1, h2, h3, ab_w_in h4⟩
  · omega
  · omega
  · omega
set_option maxHeartbeats 4000000 in
theorem ab_inv3 {k pc len r z ln : Nat} {v : Int32} {i : Instr} (hok : ab_ok k pc (3, len, r, 1, z, v) i ln = true) : ((∃ n : Fin 4, i = .astore_n n ∧ ln = 1 ∧ r = n) ∨ (i = .astore r ∧ ln = 2)) ∧ len = ln ∧ r < ab_ml k := by
  simp only [ab_ok, Bool.and_eq_true, decide_eq_true_eq] at hok
  obtain ⟨rfl, hok⟩ := hok
  split at hok
  all_goals (try (simp at hok; done))
  · rename_i n
    simp only [Bool.and_eq_true, decide_eq_true_eq] at hok
    obtain ⟨⟨⟨⟨-, rfl⟩, h1⟩, -⟩, h2⟩ := hok
    exact ⟨Or.inl ⟨n, rfl, rfl, h1⟩, rfl, h2⟩
  · rename_i n
    simp only [Bool.and_eq_true, decide_eq_true_eq] at hok
    obtain ⟨⟨⟨⟨-, rfl⟩, rfl⟩, -⟩, h2⟩ := hok
    exact ⟨Or.inr ⟨rfl, rfl⟩, rfl, h2⟩
section ABE
variable {p : Program} {l : Launch} {en : Env} {R : Room} {s : State} {m : MethodId} {args : Array Value} {below : List Frame} {meth : Method} {c : Code} {H : Heap} {locs : List Loc}
variable {A : Nat → Prop} {k pc : Nat} {a : Nat → Nat} {cI cJ cD : ClassId} {D : va_G} {S : Nat × (Nat → Int32)} {ls : Array Slot} {lv : ab_L} {st : List Value} {h : ab_H}
/-- what a run's result says of the machine -/
def ab_Qc (a : Nat → Nat) (cI cJ cD : ClassId) (D : va_G) (A : Nat → Prop) (r : ab_O) : Array Value → State → Outcome → State → Prop := fun _ st0 oc t => ∃ v, r.1 = .inl v ∧ oc = .returned (v.map (ab_cv a)) ∧ va_P D ab_cl (ab_ws a cI cJ cD r.2.1) t.heap ∧ va_F A st0 t
def ab_XC (a : Nat → Nat) (cI cJ cD : ClassId) (D : va_G) (A : Nat → Prop) (r : ab_O) : String → State → State → Prop := fun E st0 t => ∃ x, r.1 = .inr x ∧ x < 6 ∧ E = ab_ex x ∧ va_P D ab_cl (ab_ws a cI cJ cD r.2.1) t.heap ∧ va_F A st0 t
theorem ab_ret {e : Nat} {v : Option Value} (cx : ab_Cx p l R s m args meth c A k a cI cJ cD D S H locs ls lv h) (hck : ab_chk k pc = true) (hk1 : 41 ≤ (ab_cd k pc).1) (hk2 : (ab_cd k pc).1 ≤ 45) (hz : ab_end (ab_cd k pc) st = some (true, .inl v)) :
    W p l en R s m args below meth c H locs e (6 * e) (vx_MQ below (ab_Qc a cI cJ cD D A (.inl v, h, e)) (ab_XC a cI cJ cD D A (.inl v, h, e)) args s e (6 * e) A) (F0 m pc ls (st.map (ab_cv a))) := by
  obtain ⟨F, hP, hS, hl⟩ := cx
  obtain ⟨hx, hb, hml, hrt, hown, hts, hlk, htab, hA, hE, hR, hAd, hlst, hlaw⟩ := F
  obtain ⟨i, ln, hd, hok⟩ := ab_kd hck (by omega)
  generalize ab_cd k pc = en1 at hk1 hk2 hz hok
  obtain ⟨kd, len, r, q, z, w⟩ := en1
  dsimp only at hk1 hk2
  have post : ∀ (v : Option Value) (t : State), t.heap = H → s.WarmedH t.vm → ab_Qc a cI cJ cD D A (.inl v, h, e) args s (.returned (v.map (ab_cv a))) t := fun v t ht _ => ⟨v, rfl, rfl, by rw [ht]; exact hP, hS.F ht⟩
  rcases (show kd = 41 ∨ kd = 42 ∨ kd = 43 ∨ kd = 44 ∨ kd = 45 by omega) with rfl | rfl | rfl | rfl | rfl
  · obtain ⟨rfl, rfl, hq⟩ := ab_inv41 hok
    replace hz : ab_a41 q st = some (true, .inl v) := hz
    unfold ab_a41 at hz
    split at hz
    · rename_i x
      simp only [Option.some.injEq, Prod.mk.injEq, Sum.inl.injEq] at hz
      obtain ⟨hz1, rfl⟩ := hz
      refine vx_ret ?_
      rcases hq with ⟨rfl, hq⟩ | ⟨rfl, hq⟩
      · exact W.zret hx hb (hrt.trans hq) rfl (post (some (.int x))) hS.2.2 hd hlk
      · have hz1 : x &&& 1 = x := of_decide_eq_true hz1
        exact W.zret hx hb (hrt.trans hq) (by show Value.int (x &&& 1) = _; rw [hz1]) (post (some (.int x))) hS.2.2 hd hlk
    · cases hz
  · obtain ⟨rfl, rfl, hq⟩ := ab_inv42 hok
    replace hz : ab_a42 st = some (true, .inl v) := hz
    unfold ab_a42 at hz
    split at hz
    · cases hz
      exact vx_ret (W.vret hx hb (hrt.trans hq) (post none) hS.2.2 hd hlk)
    · cases hz
  · obtain ⟨rfl, rfl, hq⟩ := ab_inv43 hok
    replace hz : ab_a43 st = some (true, .inl v) := hz
    unfold ab_a43 at hz
    split at hz
    · rename_i x
      cases hz
      exact vx_ret (W.fret hx hb (hrt.trans hq) (post (some (.float x))) hS.2.2 hd hlk)
    · cases hz
  · obtain ⟨rfl, rfl, hq⟩ := ab_inv44 hok
    replace hz : ab_a44 st = some (true, .inl v) := hz
    unfold ab_a44 at hz
    split at hz
    · rename_i x
      cases hz
      exact vx_ret (W.dret hx hb (hrt.trans hq) (post (some (.double x))) hS.2.2 hd hlk)
    · cases hz
  · replace hz : ab_a45 r st = some (true, .inl v) := hz
    unfold ab_a45 at hz
    cases hc : Nat.ble (st.map fun v => v.category).sum 8 <;> rw [hc] at hz <;> cases hz
def ab_Y : String := "java/lang/RuntimeException"
def ab_rn : List String := ["java/lang/Exception"]
def ab_ix (x : Nat) : Nat := bif Nat.beq x 4 then 13 else 7
def ab_rx (x : Nat) : ByteArray := bif Nat.beq x 4 then ⟨#[0x2a, 0x2b, 0xb7, 0x00, 0x0d, 0xb1]⟩ else ⟨#[0x2a, 0x2b, 0xb7, 0x00, 0x07, 0xb1]⟩
theorem ab_rx_ok : ∀ x, x < 6 → decode (ab_rx x) 0 = .ok (.aload_n 0, 1) ∧ decode (ab_rx x) 1 = .ok (.aload_n 1, 1) ∧ decode (ab_rx x) 2 = .ok (.invokespecial (ab_ix x), 3) ∧ decode (ab_rx x) 5 = .ok (.return_, 1) := by decide +kernel
def ab_tck (x : Nat) : Bool := ab_m (.initialized (ab_ex x)) && Bundle.fit (ab_ex x) && (ab_atX "" 0 (ab_ex x) (ab_ix x) (ab_rx x) ab_Y ab_rn).all (fun w => decide (w = .methodLink "" 0 (Bundle.initS (ab_ex x))) || ((ab_m w || decide (w ∈ ab_bad)) && vx_ot w))
theorem ab_tck_ok : ∀ x, x < 6 → ab_tck x = true := by decide +kernel
theorem ab_atS {own : String} {ic ix : Nat} {X : String} {rx : ByteArray} {w : Cond} (h : w ∈ ab_atX own ic X ix rx ab_Y ab_rn) : w = .methodLink own ic (Bundle.initS X) ∨ w ∈ ab_atX "" 0 X ix rx ab_Y ab_rn := by
  unfold ab_atX at h ⊢
  obtain ⟨h1, h2⟩ := List.mem_filter.mp h
  unfold ab_wX at h1
  rcases List.mem_append.mp h1 with h1 | h1
  · right
    refine List.mem_filter.mpr ⟨?_, h2⟩
    unfold ab_wX
    exact List.mem_append_left _ h1
  · rcases List.mem_cons.mp h1 with h1 | h1
    · exact Or.inl h1
    · right
      refine List.mem_filter.mpr ⟨?_, h2⟩
      unfold ab_wX
      exact List.mem_append_right _ (List.mem_cons_of_mem _ h1)
/-- the place "" 0 stands in no class: what is said of it is said of the true one -/
theorem ab_atT {own : String} {ic ix : Nat} {X : String} {rx : ByteArray} {w : Cond} (h : w ∈ ab_atX own ic X ix rx ab_Y ab_rn) (ho : own ≠ "") : w = .methodLink own ic (Bundle.initS X) ∨ (w ∈ ab_atX "" 0 X ix rx ab_Y ab_rn ∧ w ≠ .methodLink "" 0 (Bundle.initS X)) := by
  rcases ab_atS h with h1 | h1
  · exact Or.inl h1
  · by_cases h2 : w = .methodLink "" 0 (Bundle.initS X)
    · exfalso
      subst h2
      unfold ab_atX ab_wX Bundle.throwableAtoms Bundle.throwableSAtoms Bundle.passSAtoms ab_rn Bundle.chainSAtoms Bundle.chainSAtoms Bundle.passSAtoms at h
      simp [Bundle.tN, ab_Y, ho, Ne.symm ho] at h
      obtain ⟨⟨rfl, -, h3⟩, -⟩ := h
      have h4 := congrArg MethodName.cls h3
      simp [Bundle.initS] at h4
    · exact Or.inr ⟨h1, h2⟩
theorem ab_strs_own : ∀ w ∈ ab_strs, w.1 ≠ "" := by decide +kernel
theorem ab_throw {e r : Nat} (cx : ab_Cx p l R s m args meth c A k a cI cJ cD D S H locs ls lv h) (hck : ab_chk k pc = true) (hk1 : 41 ≤ (ab_cd k pc).1) (hk2 : (ab_cd k pc).1 ≤ 45) (hz : ab_end (ab_cd k pc) st = some (true, .inr r)) (hc : e + 1 ≤ R.cells) (hs : 6 * (e + 1) ≤ R.slots) :
    W p l en R s m args below meth c H locs e (6 * e) (vx_MQ below (ab_Qc a cI cJ cD D A (.inr r, h, e + 1)) (ab_XC a cI cJ cD D A (.inr r, h, e + 1)) args s (e + 1) (6 * (e + 1)) A) (F0 m pc ls (st.map (ab_cv a))) := by
  obtain ⟨F, hP, hS, hl⟩ := cx
  obtain ⟨hx, hb, hml, hrt, hown, hts, hlk, htab, hA, hE, hR, hAd, hlst, hlaw⟩ := F
  obtain ⟨i, ln, hd, hok⟩ := ab_kd hck (by omega)
  generalize ab_cd k pc = en1 at hk1 hk2 hz hok
  obtain ⟨kd, len, r2, q, z, w⟩ := en1
  dsimp only at hk1 hk2
  rcases (show kd = 41 ∨ kd = 42 ∨ kd = 43 ∨ kd = 44 ∨ kd = 45 by omega) with rfl | rfl | rfl | rfl | rfl
  · replace hz : ab_a41 q st = some (true, .inr r) := hz
    unfold ab_a41 at hz
    split at hz
    · simp at hz
    · cases hz
  · replace hz : ab_a42 st = some (true, .inr r) := hz
    unfold ab_a42 at hz
    split at hz <;> cases hz
  · replace hz : ab_a43 st = some (true, .inr r) := hz
    unfold ab_a43 at hz
    split at hz <;> cases hz
  · replace hz : ab_a44 st = some (true, .inr r) := hz
    unfold ab_a44 at hz
    split at hz <;> cases hz
  · replace hz : ab_a45 r2 st = some (true, .inr r) := hz
    unfold ab_a45 at hz
    cases hcat : Nat.ble (st.map fun v => v.category).sum 8 with
    | false => rw [hcat] at hz; cases hz
    | true =>
      rw [hcat] at hz
      cases hz
      have hcat : ((st.map (ab_cv a)).map fun v => v.category).sum ≤ 8 := by rw [ab_cat_cv]; exact Nat.le_of_ble_eq_true hcat
      obtain ⟨ik, rfl, rfl, ht⟩ := ab_inv45 hok
      simp only [ab_thr, Bool.and_eq_true, decide_eq_true_eq] at ht
      obtain ⟨⟨⟨⟨⟨⟨⟨hr6, hzl⟩, hwo⟩, hhe⟩, hcl⟩, hml2⟩, d3⟩, dd⟩ := ht
      have htck := ab_tck_ok r hr6
      simp only [ab_tck, Bool.and_eq_true] at htck
      obtain ⟨⟨t1, t2⟩, t3⟩ := htck
      have hmem : ab_strs.getD z ("", 0, "") ∈ ab_strs := by
        rw [List.getD_eq_getElem?_getD, List.getElem?_eq_getElem hzl]
        exact List.getElem_mem hzl
      obtain ⟨sa, hstr⟩ := hE.2.2.2.1 _ hmem
      rw [hwo] at hstr
      have key : ∀ w ∈ ab_atX (ab_own k) (q / 2) (ab_ex r) (ab_ix r) (ab_rx r) ab_Y ab_rn, w.before args s = true ∧ vx_ot w = true := by
        intro w hw
        rcases ab_atT hw (by rw [← hwo]; exact ab_strs_own _ hmem) with rfl | ⟨hw, hwn⟩
        · exact ⟨hts _ (ab_m_in hml2), rfl⟩
        · have h9 := List.all_eq_true.mp t3 w hw
          simp only [Bool.or_eq_true, Bool.and_eq_true, decide_eq_true_eq] at h9
          rcases h9 with h9 | ⟨h9, h10⟩
          · exact absurd h9 hwn
          · refine ⟨?_, h10⟩
            rcases h9 with h9 | h9
            · exact hts _ (ab_m_in h9)
            · have hZ := hE.2.2.2.2.1 w h9
              refine va_Nw.use ?_ hZ
              have hb9 : ∀ w ∈ ab_bad, w.onTables = true := by decide +kernel
              exact hb9 w h9
      have hat : ∀ w ∈ ab_atX (ab_own k) (q / 2) (ab_ex r) (ab_ix r) (ab_rx r) ab_Y ab_rn, w.before args s = true := fun w hw => (key w hw).1
      have hgood : ∀ w ∈ Cond.classLink (ab_own k) ik (ab_ex r) :: Cond.initialized (ab_ex r) :: ab_atX (ab_own k) (q / 2) (ab_ex r) (ab_ix r) (ab_rx r) ab_Y ab_rn, vx_ot w = true := by
        intro w hw
        rcases List.mem_cons.mp hw with rfl | hw
        · rfl
        · rcases List.mem_cons.mp hw with rfl | hw
          · rfl
          · exact (key w hw).2
      have htl : c.exceptionTable.toList = [] := by
        rw [htab]
        unfold ab_ht
        rw [List.isEmpty_iff.mp hhe]
        rfl
      have hx2 : ∀ t : State, s.vm.Alike t.vm → H.size ≤ t.heap.size → (∀ q : Nat, q < H.size → t.heap[q]? = H[q]?) → ab_XC a cI cJ cD D A (.inr r, h, e + 1) (ab_ex r) s t := fun t _ h1 h2 =>
        ⟨r, rfl, hr6, rfl, hP.kept (fun i q hq => h2 _ (hP i q hq).lt), ⟨Nat.le_trans hS.1 h1, fun q g1 g2 => by rw [h2 q (Nat.lt_of_lt_of_le g1 hS.1)]; exact hS.2.1 q g1 g2⟩⟩
      have hnm : ∀ n ∈ ab_Y :: ab_rn, Bundle.fit n = true := by decide +kernel
      obtain ⟨x0, x1, x2, x5⟩ := ab_rx_ok r hr6
      cases hw2 : Nat.beq (q % 2) 0 with
      | true =>
        rw [hw2] at dd
        simp only [cond_true, Bool.and_eq_true, decide_eq_true_eq] at dd
        obtain ⟨⟨d4, d6⟩, d9⟩ := dd
        exact ab_throwS hx hb hlst hown t2 hnm x0 x1 x2 x5 (hts _ (ab_m_in hcl)) (hts _ (ab_m_in t1)) hstr hat hgood hE.2.1 hE.2.2.1 hS (by rw [hml]; exact hl.1) hd d3 d4 d6 d9 (fun x hx => by rw [htl] at hx; cases hx)
          (by show 1 + 4 < R.frames; omega) (by show _ + (13 * (1 + 2) + 43) ≤ R.locals; omega) hc (by omega) hlk hx2 hS.2.2 (Nat.le_refl _) (by omega)
      | false =>
        rw [hw2] at dd
        simp only [cond_false, Bool.and_eq_true, decide_eq_true_eq] at dd
        obtain ⟨⟨d4, d6⟩, d9⟩ := dd
        exact ab_throwSW hx hb hlst hown t2 hnm x0 x1 x2 x5 (hts _ (ab_m_in hcl)) (hts _ (ab_m_in t1)) hstr hat hgood hE.2.1 hE.2.2.1 hS (by rw [hml]; exact hl.1) hd d3 d4 d6 d9 (fun x hx => by rw [htl] at hx; cases hx)
          (by show 1 + 4 < R.frames; omega) (by show _ + (13 * (1 + 2) + 43) ≤ R.locals; omega) hc (by omega) hlk hx2 hS.2.2 (Nat.le_refl _) (by omega)
end ABE
