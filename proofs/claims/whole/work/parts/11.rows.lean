/-! ===== each instruction of the abstract machine is the machine's ===== -/
def ab_bad : List Cond := ((List.range 6).map fun x => Cond.castable (ab_ex x) (ab_ex x)) ++ [.declares (Bundle.initS "java/lang/RuntimeException"), .declares (Bundle.initS "java/lang/Exception"), .declares (Bundle.initS "java/lang/Throwable")]
def ab_Env (D : va_G) (cI cJ cD : ClassId) (A : Nat → Prop) (U : State) : Prop :=
  va_K D ab_cl [(cI, .int), (cJ, .long), (cD, .double)] U ∧ vx_Zq Bundle.tN "UNASSIGNED_STACK" Bundle.steD A U U.heap ∧ vx_Zq Bundle.tN "SUPPRESSED_SENTINEL" Bundle.listD A U U.heap ∧
  (∀ w ∈ ab_strs, ∃ q, vk_R w.1 w.2.1 w.2.2 q U) ∧ (∀ w ∈ ab_bad, va_Nw w U) ∧ ∀ x y, x < 6 → y < 6 → x ≠ y → va_Nc (ab_ex x) (ab_ex y) U
/-- the addresses of the 19 -/
def ab_Ad (a : Nat → Nat) (A : Nat → Prop) : Prop := (∀ i j, i < 19 → j < 19 → a i = a j → i = j) ∧ ∀ i, i < 19 → A (a i)
theorem ab_Ad.D {a : Nat → Nat} {A : Nat → Prop} (hA : ab_Ad a A) (cI cJ cD : ClassId) (h : ab_H) : va_D A (ab_ws a cI cJ cD h) := by
  have key : ∀ (i : Nat) (q : Nat × va_E), (ab_ws a cI cJ cD h)[i]? = some q → i < 19 ∧ q.1 = a i := by
    intro i q hq
    have hi : i < 19 := by
      have := (List.getElem?_eq_some_iff.mp hq).1
      simpa [ab_ws] using this
    rw [ab_ws_at a cI cJ cD h hi] at hq
    cases hq
    exact ⟨hi, rfl⟩
  refine ⟨fun i j x y hi hj hxy => ?_, fun i q hq => ?_⟩
  · obtain ⟨h1, h2⟩ := key i x hi
    obtain ⟨h3, h4⟩ := key j y hj
    exact hA.1 i j h1 h3 (by rw [← h2, ← h4]; exact hxy)
  · obtain ⟨h1, h2⟩ := key i q hq
    rw [h2]
    exact hA.2 i h1
section ABR
variable {p : Program} {l : Launch} {e : Env} {R : Room} {s : State} {m : MethodId} {args : Array Value} {below : List Frame} {meth : Method} {c : Code} {H : Heap} {locs : List Loc} {cells slots : Nat} {Q : State → Prop}
variable {A : Nat → Prop} {k pc : Nat} {a : Nat → Nat} {cI cJ cD : ClassId} {D : va_G} {S : Nat × (Nat → Int32)} {ls : Array Slot} {lv : ab_L} {st : List Value} {h : ab_H} {rr : ab_G}
def ab_Fr (p : Program) (l : Launch) (R : Room) (s : State) (m : MethodId) (args : Array Value) (meth : Method) (c : Code) (A : Nat → Prop) (k : Nat) (a : Nat → Nat) (cI cJ cD : ClassId) (D : va_G) (S : Nat × (Nat → Int32)) : Prop :=
  p.tables.exec = Jvm.exec ∧ c.code = ab_by k ∧ c.maxLocals = ab_ml k ∧ meth.sig.returnType = ab_rt k ∧ s.vm.findClass (ab_own k) = some m.cls ∧ (∀ w ∈ ab_tbl, w.before args s = true) ∧ meth.locks = false ∧
  c.exceptionTable.toList = tableOf (ab_ht k) ∧ (∀ q : Nat, s.heap.size ≤ q → A q) ∧ ab_Env D cI cJ cD A s ∧ (ab_dep k + 6 ≤ R.frames ∧ 60 * ab_dep k + 100 ≤ R.locals) ∧ ab_Ad a A ∧ l.stackTraces = false ∧
  (k = ab_law → va_X (a 1000) S.1 S.2 s s.heap ∧ a 1000 < s.heap.size ∧ ¬ A (a 1000))
def ab_Cx (p : Program) (l : Launch) (R : Room) (s : State) (m : MethodId) (args : Array Value) (meth : Method) (c : Code) (A : Nat → Prop) (k : Nat) (a : Nat → Nat) (cI cJ cD : ClassId) (D : va_G) (S : Nat × (Nat → Int32)) (H : Heap) (locs : List Loc) (ls : Array Slot) (lv : ab_L) (h : ab_H) : Prop :=
  ab_Fr p l R s m args meth c A k a cI cJ cD D S ∧ va_P D ab_cl (ab_ws a cI cJ cD h) H ∧ va_S A s.heap H locs ∧ lv_has ls (ab_ml k) (ab_cl1 a lv)
/-- it goes on from t -/
def ab_K (p : Program) (l : Launch) (e : Env) (R : Room) (s : State) (m : MethodId) (args : Array Value) (below : List Frame) (meth : Method) (c : Code) (cells slots : Nat) (Q : State → Prop) (A : Nat → Prop) (k : Nat) (a : Nat → Nat) (cI cJ cD : ClassId) (D : va_G) (t : ab_S) : Prop :=
  ∀ (H : Heap) (locs : List Loc) (ls : Array Slot), va_P D ab_cl (ab_ws a cI cJ cD t.2.2.2) H → va_S A s.heap H locs → lv_has ls (ab_ml k) (ab_cl1 a t.2.1) →
    W p l e R s m args below meth c H locs cells slots Q (F0 m t.1 ls (t.2.2.1.map (ab_cv a)))
def ab_KR (p : Program) (l : Launch) (e : Env) (R : Room) (s : State) (m : MethodId) (args : Array Value) (below : List Frame) (meth : Method) (c : Code) (cells slots : Nat) (Q : State → Prop) (A : Nat → Prop) (k : Nat) (a : Nat → Nat) (cI cJ cD : ClassId) (D : va_G) (rr : ab_G) : Prop := match rr with
  | .inl t => ab_K p l e R s m args below meth c cells slots Q A k a cI cJ cD D t
  | .inr (b, t1, t2) => (b = true → ab_K p l e R s m args below meth c cells slots Q A k a cI cJ cD D t1) ∧ (b = false → ∃ t, t2 = some t ∧ ab_K p l e R s m args below meth c cells slots Q A k a cI cJ cD D t)
theorem ab_ty_i {x : Value} (h : ab_ty 0 x = true) : ∃ y, x = .int y := by cases x <;> simp_all [ab_ty]
theorem ab_ty_a {x : Value} (h : ab_ty 1 x = true) : ∃ y, x = .ref y := by cases x <;> simp_all [ab_ty]
theorem ab_ty_f {x : Value} (h : ab_ty 2 x = true) : ∃ y, x = .float y := by cases x <;> simp_all [ab_ty]
theorem ab_ty_d {x : Value} (h : ab_ty 3 x = true) : ∃ y, x = .double y := by cases x <;> simp_all [ab_ty]
/-- a constant -/
theorem ab_r1 {len : Nat} {v : Int32} (cx : ab_Cx p l R s m args meth c A k a cI cJ cD D S H locs ls lv h) (hat : ab_a1 len v pc lv st h = some rr)
    (kk : ab_KR p l e R s m args below meth c cells slots Q A k a cI cJ cD D rr)
    (row : W p l e R s m args below meth c H locs cells slots Q (F0 m (pc + len) ls (.int v :: st.map (ab_cv a))) → W p l e R s m args below meth c H locs cells slots Q (F0 m pc ls (st.map (ab_cv a)))) :
    W p l e R s m args below meth c H locs cells slots Q (F0 m pc ls (st.map (ab_cv a))) := by
  obtain ⟨F, hP, hS, hl⟩ := cx
  cases hat
  exact row (kk H locs ls hP hS hl)
/-- a load -/
theorem ab_r2 {len r q : Nat} (cx : ab_Cx p l R s m args meth c A k a cI cJ cD D S H locs ls lv h) (hat : ab_a2 len r q pc lv st h = some rr)
    (kk : ab_KR p l e R s m args below meth c cells slots Q A k a cI cJ cD D rr)
    (row : ∀ x : Value, ab_ty q x = true → ls[r]? = some (.val (ab_cv a x)) → W p l e R s m args below meth c H locs cells slots Q (F0 m (pc + len) ls (ab_cv a x :: st.map (ab_cv a))) → W p l e R s m args below meth c H locs cells slots Q (F0 m pc ls (st.map (ab_cv a)))) :
    W p l e R s m args below meth c H locs cells slots Q (F0 m pc ls (st.map (ab_cv a))) := by
  obtain ⟨F, hP, hS, hl⟩ := cx
  unfold ab_a2 at hat
  split at hat
  · rename_i x hx
    cases ht : ab_ty q x with
    | false => rw [ht] at hat; cases hat
    | true =>
      rw [ht] at hat
      cases hat
      obtain ⟨j, hj⟩ := ab_lk_cv (a := a) hx
      exact row x ht (lv_at hl j hj) (kk H locs ls hP hS hl)
  · cases hat
/-- a store of one slot -/
theorem ab_r3 {len r q : Nat} (cx : ab_Cx p l R s m args meth c A k a cI cJ cD D S H locs ls lv h) (hat : ab_a3 len r q pc lv st h = some rr)
    (kk : ab_KR p l e R s m args below meth c cells slots Q A k a cI cJ cD D rr)
    (row : ∀ (x : Value) (rest : List Value), ab_ty q x = true → (∀ ls' : Array Slot, lv_has ls' (ab_ml k) (ab_cl1 a (ab_st1 r x lv)) → W p l e R s m args below meth c H locs cells slots Q (F0 m (pc + len) ls' rest)) → W p l e R s m args below meth c H locs cells slots Q (F0 m pc ls (ab_cv a x :: rest))) :
    W p l e R s m args below meth c H locs cells slots Q (F0 m pc ls (st.map (ab_cv a))) := by
  obtain ⟨F, hP, hS, hl⟩ := cx
  unfold ab_a3 at hat
  split at hat
  · rename_i x rest
    cases ht : ab_ty q x with
    | false => rw [ht] at hat; cases hat
    | true =>
      rw [ht] at hat
      cases hat
      exact row x (rest.map (ab_cv a)) ht (fun ls' h' => kk H locs ls' hP hS h')
  · cases hat
theorem ab_r4 {len r q : Nat} (cx : ab_Cx p l R s m args meth c A k a cI cJ cD D S H locs ls lv h) (hat : ab_a4 len r q pc lv st h = some rr)
    (kk : ab_KR p l e R s m args below meth c cells slots Q A k a cI cJ cD D rr)
    (row : ∀ (x : Value) (rest : List Value), ab_ty q x = true → (∀ ls' : Array Slot, lv_has ls' (ab_ml k) (ab_cl1 a (ab_st2 r x lv)) → W p l e R s m args below meth c H locs cells slots Q (F0 m (pc + len) ls' rest)) → W p l e R s m args below meth c H locs cells slots Q (F0 m pc ls (ab_cv a x :: rest))) :
    W p l e R s m args below meth c H locs cells slots Q (F0 m pc ls (st.map (ab_cv a))) := by
  obtain ⟨F, hP, hS, hl⟩ := cx
  unfold ab_a4 at hat
  split at hat
  · rename_i x rest
    cases ht : ab_ty q x with
    | false => rw [ht] at hat; cases hat
    | true =>
      rw [ht] at hat
      cases hat
      exact row x (rest.map (ab_cv a)) ht (fun ls' h' => kk H locs ls' hP hS h')
  · cases hat
/-- two ints to one -/
theorem ab_r5 {q : Nat} (cx : ab_Cx p l R s m args meth c A k a cI cJ cD D S H locs ls lv h) (hat : ab_a5 q pc lv st h = some rr)
    (kk : ab_KR p l e R s m args below meth c cells slots Q A k a cI cJ cD D rr)
    (row : ∀ (x y : Int32) (rest : List Value), W p l e R s m args below meth c H locs cells slots Q (F0 m (pc + 1) ls (.int (ab_bin q x y) :: rest)) → W p l e R s m args below meth c H locs cells slots Q (F0 m pc ls (.int y :: .int x :: rest))) :
    W p l e R s m args below meth c H locs cells slots Q (F0 m pc ls (st.map (ab_cv a))) := by
  obtain ⟨F, hP, hS, hl⟩ := cx
  unfold ab_a5 at hat
  split at hat
  · cases hat
    exact row _ _ _ (kk H locs ls hP hS hl)
  · cases hat
theorem ab_r6 {r : Nat} {v : Int32} {n : Int} (cx : ab_Cx p l R s m args meth c A k a cI cJ cD D S H locs ls lv h) (hd : decode (ab_by k) pc = .ok (.iinc r n, 3)) (hr : r < ab_ml k) (hv : Int32.ofInt n = v) (hat : ab_a6 r v pc lv st h = some rr)
    (kk : ab_KR p l e R s m args below meth c cells slots Q A k a cI cJ cD D rr) : W p l e R s m args below meth c H locs cells slots Q (F0 m pc ls (st.map (ab_cv a))) := by
  obtain ⟨F, hP, hS, hl⟩ := cx
  unfold ab_a6 at hat
  split at hat
  · rename_i x hx
    cases hat
    obtain ⟨j, hj⟩ := ab_lk_cv (a := a) hx
    exact lv_iinc F.1 F.2.1 hd hl hj (by rw [hv]) hr (ab_st1_cv a r (.int (x + v)) lv) (fun ls' h' => kk H locs ls' hP hS h')
  · cases hat
theorem ab_r7 {r : Nat} {o : Int} (cx : ab_Cx p l R s m args meth c A k a cI cJ cD D S H locs ls lv h) (hd : decode (ab_by k) pc = .ok (.goto o, 3)) (ht : (pc : Int) + o = (r : Int)) (hat : ab_a7 r lv st h = some rr)
    (kk : ab_KR p l e R s m args below meth c cells slots Q A k a cI cJ cD D rr) : W p l e R s m args below meth c H locs cells slots Q (F0 m pc ls (st.map (ab_cv a))) := by
  obtain ⟨F, hP, hS, hl⟩ := cx
  cases hat
  exact lv_goto F.1 F.2.1 hd ht (kk H locs ls hP hS hl)
theorem ab_br {b : Bool} {t1 t2 : ab_S} (kk : ab_KR p l e R s m args below meth c cells slots Q A k a cI cJ cD D (.inr (b, t1, some t2))) : (b = true → ab_K p l e R s m args below meth c cells slots Q A k a cI cJ cD D t1) ∧ (b = false → ab_K p l e R s m args below meth c cells slots Q A k a cI cJ cD D t2) := by
  refine ⟨kk.1, fun hb => ?_⟩
  obtain ⟨t, ht, h2⟩ := kk.2 hb
  cases ht
  exact h2
theorem ab_r8 {r : Nat} {cc : ClassFile.Cond} {o : Int} (cx : ab_Cx p l R s m args meth c A k a cI cJ cD D S H locs ls lv h) (hd : decode (ab_by k) pc = .ok (.ifCond cc o, 3)) (ht : (pc : Int) + o = (r : Int)) (hat : ab_a8 r (ab_cn cc) pc lv st h = some rr)
    (kk : ab_KR p l e R s m args below meth c cells slots Q A k a cI cJ cD D rr) : W p l e R s m args below meth c H locs cells slots Q (F0 m pc ls (st.map (ab_cv a))) := by
  obtain ⟨F, hP, hS, hl⟩ := cx
  unfold ab_a8 at hat
  split at hat
  · rename_i x rest
    cases hat
    obtain ⟨k1, k2⟩ := ab_br kk
    cases cc
    · exact lv_if_eq F.1 F.2.1 hd ht (fun hc => k1 (by show decide _ = true; exact decide_eq_true hc) H locs ls hP hS hl) (fun hc => k2 (by show decide _ = false; exact decide_eq_false hc) H locs ls hP hS hl)
    · exact lv_if_ne F.1 F.2.1 hd ht (fun hc => k1 (by show decide _ = true; exact decide_eq_true hc) H locs ls hP hS hl) (fun hc => k2 (by show decide _ = false; exact decide_eq_false (fun z => z hc)) H locs ls hP hS hl)
    · exact lv_if_lt F.1 F.2.1 hd ht (fun hc => k1 (by show decide _ = true; exact decide_eq_true hc) H locs ls hP hS hl) (fun hc => k2 (by show decide _ = false; exact decide_eq_false hc) H locs ls hP hS hl)
    · exact lv_if_ge F.1 F.2.1 hd ht (fun hc => k1 (by show decide _ = true; exact decide_eq_true hc) H locs ls hP hS hl) (fun hc => k2 (by show decide _ = false; exact decide_eq_false hc) H locs ls hP hS hl)
    · exact lv_if_gt F.1 F.2.1 hd ht (fun hc => k1 (by show decide _ = true; exact decide_eq_true hc) H locs ls hP hS hl) (fun hc => k2 (by show decide _ = false; exact decide_eq_false hc) H locs ls hP hS hl)
    · exact lv_if_le F.1 F.2.1 hd ht (fun hc => k1 (by show decide _ = true; exact decide_eq_true hc) H locs ls hP hS hl) (fun hc => k2 (by show decide _ = false; exact decide_eq_false hc) H locs ls hP hS hl)
  · cases hat
theorem ab_r9 {r : Nat} {cc : ClassFile.Cond} {o : Int} (cx : ab_Cx p l R s m args meth c A k a cI cJ cD D S H locs ls lv h) (hd : decode (ab_by k) pc = .ok (.if_icmp cc o, 3)) (ht : (pc : Int) + o = (r : Int)) (hat : ab_a9 r (ab_cn cc) pc lv st h = some rr)
    (kk : ab_KR p l e R s m args below meth c cells slots Q A k a cI cJ cD D rr) : W p l e R s m args below meth c H locs cells slots Q (F0 m pc ls (st.map (ab_cv a))) := by
  obtain ⟨F, hP, hS, hl⟩ := cx
  unfold ab_a9 at hat
  split at hat
  · rename_i y x rest
    cases hat
    obtain ⟨k1, k2⟩ := ab_br kk
    cases cc
    · exact lv_icmp_eq F.1 F.2.1 hd ht (fun hc => k1 (by show decide _ = true; exact decide_eq_true hc) H locs ls hP hS hl) (fun hc => k2 (by show decide _ = false; exact decide_eq_false hc) H locs ls hP hS hl)
    · exact lv_icmp_ne F.1 F.2.1 hd ht (fun hc => k1 (by show decide _ = true; exact decide_eq_true hc) H locs ls hP hS hl) (fun hc => k2 (by show decide _ = false; exact decide_eq_false (fun z => z hc)) H locs ls hP hS hl)
    · exact lv_icmp_lt F.1 F.2.1 hd ht (fun hc => k1 (by show decide _ = true; exact decide_eq_true hc) H locs ls hP hS hl) (fun hc => k2 (by show decide _ = false; exact decide_eq_false hc) H locs ls hP hS hl)
    · exact lv_icmp_ge F.1 F.2.1 hd ht (fun hc => k1 (by show decide _ = true; exact decide_eq_true hc) H locs ls hP hS hl) (fun hc => k2 (by show decide _ = false; exact decide_eq_false hc) H locs ls hP hS hl)
    · exact lv_icmp_gt F.1 F.2.1 hd ht (fun hc => k1 (by show decide _ = true; exact decide_eq_true hc) H locs ls hP hS hl) (fun hc => k2 (by show decide _ = false; exact decide_eq_false hc) H locs ls hP hS hl)
    · exact lv_icmp_le F.1 F.2.1 hd ht (fun hc => k1 (by show decide _ = true; exact decide_eq_true hc) H locs ls hP hS hl) (fun hc => k2 (by show decide _ = false; exact decide_eq_false hc) H locs ls hP hS hl)
  · cases hat
end ABR
