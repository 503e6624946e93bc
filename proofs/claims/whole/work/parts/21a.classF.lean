/-! ===== what the methods of the class compute, part 1 (by program: wip/whole/tools/dec.py) ===== -/
def F_C_failedItem (X : ab_XX) : Option Int32 :=
  some (X 0 9)
set_option maxRecDepth 4000 in
theorem T_C_failedItem (S : Nat × (Nat → Int32)) (w : ab_WW) (X : ab_XX) : ab_Eg (ab_m1 ab_fI (X, w)) S 0 (0, lv_args 0 [.ref 0], [], (X, w)) (F_C_failedItem X) := by
  show ab_Eg (ab_m1 ab_fI (X, w)) S 0 (0, [(0, .ref 0)], [], (X, w)) _
  unfold F_C_failedItem
  refine ab_e_go 2 (4, [(0, .ref 0)], [.int (X 0 9)], (X, w)) rfl ?_
  exact ab_e_rt rfl rfl
def F_C_faultPosition (X : ab_XX) : Option Int32 :=
  some (X 0 8)
set_option maxRecDepth 4000 in
theorem T_C_faultPosition (S : Nat × (Nat → Int32)) (w : ab_WW) (X : ab_XX) : ab_Eg (ab_m1 ab_fI (X, w)) S 1 (0, lv_args 0 [.ref 0], [], (X, w)) (F_C_faultPosition X) := by
  show ab_Eg (ab_m1 ab_fI (X, w)) S 1 (0, [(0, .ref 0)], [], (X, w)) _
  unfold F_C_faultPosition
  refine ab_e_go 2 (4, [(0, .ref 0)], [.int (X 0 8)], (X, w)) rfl ?_
  exact ab_e_rt rfl rfl
def F_K_isWithin (a0 : Int32) (a1 : Int32) (a2 : Int32) : Option Int32 :=
  if a0 < a1 then
    some (nI 0)
  else
    if a2 < a0 then
      some (nI 0)
    else
      some (nI 1)
set_option maxRecDepth 4000 in
theorem T_K_isWithin (S : Nat × (Nat → Int32)) (w : ab_WW) (X : ab_XX) (a0 : Int32) (a1 : Int32) (a2 : Int32) : ab_Eg (ab_m1 ab_fI (X, w)) S 20 (0, lv_args 0 [.int a0, .int a1, .int a2], [], (X, w)) (F_K_isWithin a0 a1 a2) := by
  show ab_Eg (ab_m1 ab_fI (X, w)) S 20 (0, [(0, .int a0), (1, .int a1), (2, .int a2)], [], (X, w)) _
  unfold F_K_isWithin
  refine ab_e_go 2 (2, [(0, .int a0), (1, .int a1), (2, .int a2)], [.int a1, .int a0], (X, w)) rfl ?_
  refine ab_e_br (c := a0 < a1) (14, [(0, .int a0), (1, .int a1), (2, .int a2)], [], (X, w)) (5, [(0, .int a0), (1, .int a1), (2, .int a2)], [], (X, w)) rfl (fun _ => ?_) (fun _ => ?_)
  · refine ab_e_go 1 (15, [(0, .int a0), (1, .int a1), (2, .int a2)], [.int (nI 0)], (X, w)) rfl ?_
    exact ab_e_rt rfl rfl
  · refine ab_e_go 2 (7, [(0, .int a0), (1, .int a1), (2, .int a2)], [.int a2, .int a0], (X, w)) rfl ?_
    refine ab_e_br (c := a2 < a0) (14, [(0, .int a0), (1, .int a1), (2, .int a2)], [], (X, w)) (10, [(0, .int a0), (1, .int a1), (2, .int a2)], [], (X, w)) rfl (fun _ => ?_) (fun _ => ?_)
    · refine ab_e_go 1 (15, [(0, .int a0), (1, .int a1), (2, .int a2)], [.int (nI 0)], (X, w)) rfl ?_
      exact ab_e_rt rfl rfl
    · refine ab_e_go 2 (15, [(0, .int a0), (1, .int a1), (2, .int a2)], [.int (nI 1)], (X, w)) rfl ?_
      exact ab_e_rt rfl rfl
def F_T_isFull (X : ab_XX) : Option Int32 :=
  if X 6 1 < nI 80 then
    some (nI 0)
  else
    some (nI 1)
set_option maxRecDepth 4000 in
theorem T_T_isFull (S : Nat × (Nat → Int32)) (w : ab_WW) (X : ab_XX) : ab_Eg (ab_m1 ab_fI (X, w)) S 6 (0, lv_args 0 [.ref 6], [], (X, w)) (F_T_isFull X) := by
  show ab_Eg (ab_m1 ab_fI (X, w)) S 6 (0, [(0, .ref 6)], [], (X, w)) _
  unfold F_T_isFull
  refine ab_e_go 3 (6, [(0, .ref 6)], [.int (nI 80), .int (X 6 1)], (X, w)) rfl ?_
  refine ab_e_br (c := X 6 1 < nI 80) (13, [(0, .ref 6)], [], (X, w)) (9, [(0, .ref 6)], [], (X, w)) rfl (fun _ => ?_) (fun _ => ?_)
  · refine ab_e_go 1 (14, [(0, .ref 6)], [.int (nI 0)], (X, w)) rfl ?_
    exact ab_e_rt rfl rfl
  · refine ab_e_go 2 (14, [(0, .ref 6)], [.int (nI 1)], (X, w)) rfl ?_
    exact ab_e_rt rfl rfl
def F_T_append (X : ab_XX) (a1 : Int32) : Option (Int32 × ab_XX) :=
  if X 6 1 < nI 0 then
    some (X 6 1, X)
  else
    if nI 80 ≤ X 6 1 then
      some (X 6 1, X)
    else
      if ab_in (X 6 1) 80 = true then
        (some (ab_up X 7 ((X 6 1).toNatClampNeg) a1)).bind fun X3 =>
        (some (ab_up X3 6 1 ((X3 6 1) + (nI 1)))).bind fun X4 =>
        some (X4 6 1, X4)
      else none
set_option maxRecDepth 4000 in
theorem T_T_append (S : Nat × (Nat → Int32)) (w : ab_WW) (X : ab_XX) (a1 : Int32) : ab_Eg (ab_m3 ab_fI w) S 4 (0, lv_args 0 [.ref 6, .int a1], [], (X, w)) (F_T_append X a1) := by
  show ab_Eg (ab_m3 ab_fI w) S 4 (0, [(0, .ref 6), (1, .int a1)], [], (X, w)) _
  unfold F_T_append
  refine ab_e_go 2 (4, [(0, .ref 6), (1, .int a1)], [.int (X 6 1)], (X, w)) rfl ?_
  refine ab_e_br (c := X 6 1 < nI 0) (39, [(0, .ref 6), (1, .int a1)], [], (X, w)) (7, [(0, .ref 6), (1, .int a1)], [], (X, w)) rfl (fun _ => ?_) (fun _ => ?_)
  · refine ab_e_go 2 (43, [(0, .ref 6), (1, .int a1)], [.int (X 6 1)], (X, w)) rfl ?_
    exact ab_e_rt rfl rfl
  · refine ab_e_go 5 (16, [(0, .ref 6), (1, .int a1)], [.int (nI 80), .int (X 6 1)], (X, w)) rfl ?_
    refine ab_e_br (c := nI 80 ≤ X 6 1) (39, [(0, .ref 6), (1, .int a1)], [], (X, w)) (19, [(0, .ref 6), (1, .int a1)], [], (X, w)) rfl (fun _ => ?_) (fun _ => ?_)
    · refine ab_e_go 2 (43, [(0, .ref 6), (1, .int a1)], [.int (X 6 1)], (X, w)) rfl ?_
      exact ab_e_rt rfl rfl
    · refine ab_e_go 5 (28, [(0, .ref 6), (1, .int a1)], [.int a1, .int (X 6 1), .ref 7], (X, w)) rfl ?_
      refine ab_e_gd (29, [(0, .ref 6), (1, .int a1)], [], ((ab_up X 7 ((X 6 1).toNatClampNeg) a1), w)) rfl ?_
      refine ab_e_letX (fun X3 _ => ?_)
      refine ab_e_go 6 (39, [(0, .ref 6), (1, .int a1)], [], ((ab_up X3 6 1 ((X3 6 1) + (nI 1))), w)) rfl ?_
      refine ab_e_letX (fun X4 _ => ?_)
      refine ab_e_go 2 (43, [(0, .ref 6), (1, .int a1)], [.int (X4 6 1)], (X4, w)) rfl ?_
      exact ab_e_rt rfl rfl
def F_C_appendCharacter (X : ab_XX) (a1 : Int32) : Option ((Int32 ⊕ Nat) × ab_XX) :=
  (F_K_isWithin a1 (nI 33) (nI 126)).bind fun v1 =>
  if v1 = nI 0 then
    some (.inr 0, X)
  else
    (F_T_isFull X).bind fun v2 =>
    if v2 = nI 0 then
      ab_b3 (F_T_append X a1) (fun v5 X6 =>
        some (.inl v5, X6))
    else
      some (.inr 1, X)
set_option maxRecDepth 4000 in
theorem T_C_appendCharacter (S : Nat × (Nat → Int32)) (w : ab_WW) (X : ab_XX) (a1 : Int32) : ab_Eg (ab_m4 ab_fI w) S 47 (0, lv_args 0 [.ref 0, .int a1], [], (X, w)) (F_C_appendCharacter X a1) := by
  show ab_Eg (ab_m4 ab_fI w) S 47 (0, [(0, .ref 0), (1, .int a1)], [], (X, w)) _
  unfold F_C_appendCharacter
  refine ab_e_go 3 (5, [(0, .ref 0), (1, .int a1)], [.int (nI 126), .int (nI 33), .int a1], (X, w)) rfl ?_
  refine ab_e_c1 (k2 := 20) (as := [.int a1, .int (nI 33), .int (nI 126)]) (rest := []) rfl rfl (T_K_isWithin S w X a1 (nI 33) (nI 126)) (fun v1 => ?_)
  refine ab_e_bn (c := v1 = nI 0) (21, [(0, .ref 0), (1, .int a1)], [], (X, w)) (11, [(0, .ref 0), (1, .int a1)], [], (X, w)) rfl (fun _ => ?_) (fun _ => ?_)
  · refine ab_e_go 2 (25, [(0, .ref 0), (1, .int a1)], [.ref 6], (X, w)) rfl ?_
    refine ab_e_c1 (k2 := 6) (as := [.ref 6]) (rest := []) rfl rfl (T_T_isFull S w X) (fun v2 => ?_)
    refine ab_e_br (c := v2 = nI 0) (41, [(0, .ref 0), (1, .int a1)], [], (X, w)) (31, [(0, .ref 0), (1, .int a1)], [], (X, w)) rfl (fun _ => ?_) (fun _ => ?_)
    · refine ab_e_go 3 (46, [(0, .ref 0), (1, .int a1)], [.int a1, .ref 6], (X, w)) rfl ?_
      refine ab_e_c3 (k2 := 4) (as := [.ref 6, .int a1]) (rest := []) rfl rfl (T_T_append S w X a1) (fun v5 X6 => ?_)
      exact ab_e_rt rfl rfl
    · exact ab_e_rt rfl rfl
  · exact ab_e_rt rfl rfl
def F_K_awardTotal (X : ab_XX) : Option Int32 :=
  some (X 3 2)
set_option maxRecDepth 4000 in
theorem T_K_awardTotal (S : Nat × (Nat → Int32)) (w : ab_WW) (X : ab_XX) : ab_Eg (ab_m1 ab_fI (X, w)) S 12 (0, lv_args 0 [.ref 2], [], (X, w)) (F_K_awardTotal X) := by
  show ab_Eg (ab_m1 ab_fI (X, w)) S 12 (0, [(0, .ref 2)], [], (X, w)) _
  unfold F_K_awardTotal
  refine ab_e_go 4 (6, [(0, .ref 2)], [.int (X 3 2)], (X, w)) rfl ?_
  exact ab_e_rt rfl rfl
def F_C_awardCount (X : ab_XX) : Option Int32 :=
  (F_K_awardTotal X).bind fun v7 =>
  some v7
set_option maxRecDepth 4000 in
theorem T_C_awardCount (S : Nat × (Nat → Int32)) (w : ab_WW) (X : ab_XX) : ab_Eg (ab_m1 ab_fI (X, w)) S 48 (0, lv_args 0 [.ref 0], [], (X, w)) (F_C_awardCount X) := by
  show ab_Eg (ab_m1 ab_fI (X, w)) S 48 (0, [(0, .ref 0)], [], (X, w)) _
  unfold F_C_awardCount
  refine ab_e_go 2 (4, [(0, .ref 0)], [.ref 2], (X, w)) rfl ?_
  refine ab_e_c1 (k2 := 12) (as := [.ref 2]) (rest := []) rfl rfl (T_K_awardTotal S w X) (fun v7 => ?_)
  exact ab_e_rt rfl rfl
def F_K_shiftTotal (X : ab_XX) : Option Int32 :=
  some (X 3 1)
set_option maxRecDepth 4000 in
theorem T_K_shiftTotal (S : Nat × (Nat → Int32)) (w : ab_WW) (X : ab_XX) : ab_Eg (ab_m1 ab_fI (X, w)) S 25 (0, lv_args 0 [.ref 2], [], (X, w)) (F_K_shiftTotal X) := by
  show ab_Eg (ab_m1 ab_fI (X, w)) S 25 (0, [(0, .ref 2)], [], (X, w)) _
  unfold F_K_shiftTotal
  refine ab_e_go 4 (6, [(0, .ref 2)], [.int (X 3 1)], (X, w)) rfl ?_
  exact ab_e_rt rfl rfl
def F_K_shiftPart (X : ab_XX) (a1 : Int32) (a2 : Int32) : Option Int32 :=
  if (((nI 53) + (a1 * (nI 9))) + a2) < nI 0 then
    some (nI 0)
  else
    if nI 453 ≤ (((nI 53) + (a1 * (nI 9))) + a2) then
      some (nI 0)
    else
      if ab_in (((nI 53) + (a1 * (nI 9))) + a2) 453 = true then
        (some (X 3 (((nI 53) + (a1 * (nI 9))) + a2).toNatClampNeg)).bind fun v10 =>
        some v10
      else none
set_option maxRecDepth 4000 in
theorem T_K_shiftPart (S : Nat × (Nat → Int32)) (w : ab_WW) (X : ab_XX) (a1 : Int32) (a2 : Int32) : ab_Eg (ab_m1 ab_fI (X, w)) S 24 (0, lv_args 0 [.ref 2, .int a1, .int a2], [], (X, w)) (F_K_shiftPart X a1 a2) := by
  show ab_Eg (ab_m1 ab_fI (X, w)) S 24 (0, [(0, .ref 2), (1, .int a1), (2, .int a2)], [], (X, w)) _
  unfold F_K_shiftPart
  refine ab_e_go 9 (11, [(3, .int (((nI 53) + (a1 * (nI 9))) + a2)), (0, .ref 2), (1, .int a1), (2, .int a2)], [.int (((nI 53) + (a1 * (nI 9))) + a2)], (X, w)) rfl ?_
  refine ab_e_br (c := (((nI 53) + (a1 * (nI 9))) + a2) < nI 0) (32, [(3, .int (((nI 53) + (a1 * (nI 9))) + a2)), (0, .ref 2), (1, .int a1), (2, .int a2)], [], (X, w)) (14, [(3, .int (((nI 53) + (a1 * (nI 9))) + a2)), (0, .ref 2), (1, .int a1), (2, .int a2)], [], (X, w)) rfl (fun _ => ?_) (fun _ => ?_)
  · refine ab_e_go 1 (33, [(3, .int (((nI 53) + (a1 * (nI 9))) + a2)), (0, .ref 2), (1, .int a1), (2, .int a2)], [.int (nI 0)], (X, w)) rfl ?_
    exact ab_e_rt rfl rfl
  · refine ab_e_go 4 (20, [(3, .int (((nI 53) + (a1 * (nI 9))) + a2)), (0, .ref 2), (1, .int a1), (2, .int a2)], [.int (nI 453), .int (((nI 53) + (a1 * (nI 9))) + a2)], (X, w)) rfl ?_
    refine ab_e_br (c := nI 453 ≤ (((nI 53) + (a1 * (nI 9))) + a2)) (32, [(3, .int (((nI 53) + (a1 * (nI 9))) + a2)), (0, .ref 2), (1, .int a1), (2, .int a2)], [], (X, w)) (23, [(3, .int (((nI 53) + (a1 * (nI 9))) + a2)), (0, .ref 2), (1, .int a1), (2, .int a2)], [], (X, w)) rfl (fun _ => ?_) (fun _ => ?_)
    · refine ab_e_go 1 (33, [(3, .int (((nI 53) + (a1 * (nI 9))) + a2)), (0, .ref 2), (1, .int a1), (2, .int a2)], [.int (nI 0)], (X, w)) rfl ?_
      exact ab_e_rt rfl rfl
    · refine ab_e_go 3 (28, [(3, .int (((nI 53) + (a1 * (nI 9))) + a2)), (0, .ref 2), (1, .int a1), (2, .int a2)], [.int (((nI 53) + (a1 * (nI 9))) + a2), .ref 3], (X, w)) rfl ?_
      refine ab_e_gd (29, [(3, .int (((nI 53) + (a1 * (nI 9))) + a2)), (0, .ref 2), (1, .int a1), (2, .int a2)], [.int (X 3 (((nI 53) + (a1 * (nI 9))) + a2).toNatClampNeg)], (X, w)) rfl ?_
      refine ab_e_letI (fun v10 _ => ?_)
      refine ab_e_go 1 (33, [(3, .int (((nI 53) + (a1 * (nI 9))) + a2)), (0, .ref 2), (1, .int a1), (2, .int a2)], [.int v10], (X, w)) rfl ?_
      exact ab_e_rt rfl rfl
def L_C_coveredShare_4 (X : ab_XX) : Nat → Int32 → Int32 → Option (UInt32 ⊕ Nat)
  | 0, _, _ => none
  | n + 1, a1, a2 =>
    (F_K_shiftTotal X).bind fun v8 =>
    if v8 ≤ a2 then
      if a1 = nI 0 then
        some (.inr 5)
      else
        (F_K_awardTotal X).bind fun v9 =>
        if ab_n32 (FP.fdiv (FP.i2f v9) (FP.i2f a1)) = true then
          some (.inl (FP.fdiv (FP.i2f v9) (FP.i2f a1)))
        else none
    else
      (F_K_shiftPart X a2 (nI 4)).bind fun v11 =>
      L_C_coveredShare_4 X n (a1 + v11) (a2 + (nI 1))
set_option maxRecDepth 4000 in
theorem T_L_C_coveredShare_4 (S : Nat × (Nat → Int32)) (w : ab_WW) (X : ab_XX) : ∀ (n : Nat) (a1 : Int32) (a2 : Int32), ab_Eg (ab_m2 ab_fF (X, w)) S 49 (4, [(0, .ref 0), (1, .int a1), (2, .int a2)], [], (X, w)) (L_C_coveredShare_4 X n a1 a2) := by
  intro n
  induction n with
  | zero => intro a1 a2; exact ab_e_none
  | succ n ih =>
    intro a1 a2
    unfold L_C_coveredShare_4
    refine ab_e_go 3 (9, [(0, .ref 0), (1, .int a1), (2, .int a2)], [.ref 2, .int a2], (X, w)) rfl ?_
    refine ab_e_c1 (k2 := 25) (as := [.ref 2]) (rest := [.int a2]) rfl rfl (T_K_shiftTotal S w X) (fun v8 => ?_)
    refine ab_e_br (c := v8 ≤ a2) (33, [(0, .ref 0), (1, .int a1), (2, .int a2)], [], (X, w)) (15, [(0, .ref 0), (1, .int a1), (2, .int a2)], [], (X, w)) rfl (fun _ => ?_) (fun _ => ?_)
    · refine ab_e_go 1 (34, [(0, .ref 0), (1, .int a1), (2, .int a2)], [.int a1], (X, w)) rfl ?_
      refine ab_e_bn (c := a1 = nI 0) (48, [(0, .ref 0), (1, .int a1), (2, .int a2)], [], (X, w)) (37, [(0, .ref 0), (1, .int a1), (2, .int a2)], [], (X, w)) rfl (fun _ => ?_) (fun _ => ?_)
      · refine ab_e_go 2 (52, [(0, .ref 0), (1, .int a1), (2, .int a2)], [.ref 2], (X, w)) rfl ?_
        refine ab_e_c1 (k2 := 12) (as := [.ref 2]) (rest := []) rfl rfl (T_K_awardTotal S w X) (fun v9 => ?_)
        refine ab_e_go 3 (58, [(0, .ref 0), (1, .int a1), (2, .int a2)], [.float (FP.i2f a1), .float (FP.i2f v9)], (X, w)) rfl ?_
        refine ab_e_gd (59, [(0, .ref 0), (1, .int a1), (2, .int a2)], [.float (FP.fdiv (FP.i2f v9) (FP.i2f a1))], (X, w)) rfl ?_
        exact ab_e_rt rfl rfl
      · exact ab_e_rt rfl rfl
    · refine ab_e_go 5 (22, [(0, .ref 0), (1, .int a1), (2, .int a2)], [.int (nI 4), .int a2, .ref 2, .int a1], (X, w)) rfl ?_
      refine ab_e_c1 (k2 := 24) (as := [.ref 2, .int a2, .int (nI 4)]) (rest := [.int a1]) rfl rfl (T_K_shiftPart S w X a2 (nI 4)) (fun v11 => ?_)
      refine ab_e_go 4 (4, [(2, .int (a2 + (nI 1))), (1, .int (a1 + v11)), (0, .ref 0)], [], (X, w)) rfl ?_
      refine ab_e_wk [(0, .ref 0), (1, .int (a1 + v11)), (2, .int (a2 + (nI 1)))] ⟨rfl, rfl, rfl, trivial⟩ ?_
      exact ih (a1 + v11) (a2 + (nI 1))
def F_C_coveredShare (X : ab_XX) : Option (UInt32 ⊕ Nat) :=
  L_C_coveredShare_4 X ab_fu (nI 0) (nI 0)
set_option maxRecDepth 4000 in
theorem T_C_coveredShare (S : Nat × (Nat → Int32)) (w : ab_WW) (X : ab_XX) : ab_Eg (ab_m2 ab_fF (X, w)) S 49 (0, lv_args 0 [.ref 0], [], (X, w)) (F_C_coveredShare X) := by
  show ab_Eg (ab_m2 ab_fF (X, w)) S 49 (0, [(0, .ref 0)], [], (X, w)) _
  unfold F_C_coveredShare
  refine ab_e_go 4 (4, [(2, .int (nI 0)), (1, .int (nI 0)), (0, .ref 0)], [], (X, w)) rfl ?_
  refine ab_e_wk [(0, .ref 0), (1, .int (nI 0)), (2, .int (nI 0))] ⟨rfl, rfl, rfl, trivial⟩ ?_
  exact T_L_C_coveredShare_4 S w X ab_fu (nI 0) (nI 0)
def F_C_shiftCount (X : ab_XX) : Option Int32 :=
  (F_K_shiftTotal X).bind fun v12 =>
  some v12
set_option maxRecDepth 4000 in
theorem T_C_shiftCount (S : Nat × (Nat → Int32)) (w : ab_WW) (X : ab_XX) : ab_Eg (ab_m1 ab_fI (X, w)) S 53 (0, lv_args 0 [.ref 0], [], (X, w)) (F_C_shiftCount X) := by
  show ab_Eg (ab_m1 ab_fI (X, w)) S 53 (0, [(0, .ref 0)], [], (X, w)) _
  unfold F_C_shiftCount
  refine ab_e_go 2 (4, [(0, .ref 0)], [.ref 2], (X, w)) rfl ?_
  refine ab_e_c1 (k2 := 25) (as := [.ref 2]) (rest := []) rfl rfl (T_K_shiftTotal S w X) (fun v12 => ?_)
  exact ab_e_rt rfl rfl
def F_K_workerTotal (X : ab_XX) : Option Int32 :=
  some (X 3 0)
set_option maxRecDepth 4000 in
theorem T_K_workerTotal (S : Nat × (Nat → Int32)) (w : ab_WW) (X : ab_XX) : ab_Eg (ab_m1 ab_fI (X, w)) S 27 (0, lv_args 0 [.ref 2], [], (X, w)) (F_K_workerTotal X) := by
  show ab_Eg (ab_m1 ab_fI (X, w)) S 27 (0, [(0, .ref 2)], [], (X, w)) _
  unfold F_K_workerTotal
  refine ab_e_go 4 (6, [(0, .ref 2)], [.int (X 3 0)], (X, w)) rfl ?_
  exact ab_e_rt rfl rfl
def F_C_workerCount (X : ab_XX) : Option Int32 :=
  (F_K_workerTotal X).bind fun v13 =>
  some v13
set_option maxRecDepth 4000 in
theorem T_C_workerCount (S : Nat × (Nat → Int32)) (w : ab_WW) (X : ab_XX) : ab_Eg (ab_m1 ab_fI (X, w)) S 54 (0, lv_args 0 [.ref 0], [], (X, w)) (F_C_workerCount X) := by
  show ab_Eg (ab_m1 ab_fI (X, w)) S 54 (0, [(0, .ref 0)], [], (X, w)) _
  unfold F_C_workerCount
  refine ab_e_go 2 (4, [(0, .ref 0)], [.ref 2], (X, w)) rfl ?_
  refine ab_e_c1 (k2 := 27) (as := [.ref 2]) (rest := []) rfl rfl (T_K_workerTotal S w X) (fun v13 => ?_)
  exact ab_e_rt rfl rfl
def F_K_awardPart (X : ab_XX) (a1 : Int32) (a2 : Int32) : Option Int32 :=
  if (((nI 357) + (a1 * (nI 2))) + a2) < nI 0 then
    some (nI 0)
  else
    if nI 453 ≤ (((nI 357) + (a1 * (nI 2))) + a2) then
      some (nI 0)
    else
      if ab_in (((nI 357) + (a1 * (nI 2))) + a2) 453 = true then
        (some (X 3 (((nI 357) + (a1 * (nI 2))) + a2).toNatClampNeg)).bind fun v15 =>
        some v15
      else none
set_option maxRecDepth 4000 in
theorem T_K_awardPart (S : Nat × (Nat → Int32)) (w : ab_WW) (X : ab_XX) (a1 : Int32) (a2 : Int32) : ab_Eg (ab_m1 ab_fI (X, w)) S 11 (0, lv_args 0 [.ref 2, .int a1, .int a2], [], (X, w)) (F_K_awardPart X a1 a2) := by
  show ab_Eg (ab_m1 ab_fI (X, w)) S 11 (0, [(0, .ref 2), (1, .int a1), (2, .int a2)], [], (X, w)) _
  unfold F_K_awardPart
  refine ab_e_go 9 (11, [(3, .int (((nI 357) + (a1 * (nI 2))) + a2)), (0, .ref 2), (1, .int a1), (2, .int a2)], [.int (((nI 357) + (a1 * (nI 2))) + a2)], (X, w)) rfl ?_
  refine ab_e_br (c := (((nI 357) + (a1 * (nI 2))) + a2) < nI 0) (32, [(3, .int (((nI 357) + (a1 * (nI 2))) + a2)), (0, .ref 2), (1, .int a1), (2, .int a2)], [], (X, w)) (14, [(3, .int (((nI 357) + (a1 * (nI 2))) + a2)), (0, .ref 2), (1, .int a1), (2, .int a2)], [], (X, w)) rfl (fun _ => ?_) (fun _ => ?_)
  · refine ab_e_go 1 (33, [(3, .int (((nI 357) + (a1 * (nI 2))) + a2)), (0, .ref 2), (1, .int a1), (2, .int a2)], [.int (nI 0)], (X, w)) rfl ?_
    exact ab_e_rt rfl rfl
  · refine ab_e_go 4 (20, [(3, .int (((nI 357) + (a1 * (nI 2))) + a2)), (0, .ref 2), (1, .int a1), (2, .int a2)], [.int (nI 453), .int (((nI 357) + (a1 * (nI 2))) + a2)], (X, w)) rfl ?_
    refine ab_e_br (c := nI 453 ≤ (((nI 357) + (a1 * (nI 2))) + a2)) (32, [(3, .int (((nI 357) + (a1 * (nI 2))) + a2)), (0, .ref 2), (1, .int a1), (2, .int a2)], [], (X, w)) (23, [(3, .int (((nI 357) + (a1 * (nI 2))) + a2)), (0, .ref 2), (1, .int a1), (2, .int a2)], [], (X, w)) rfl (fun _ => ?_) (fun _ => ?_)
    · refine ab_e_go 1 (33, [(3, .int (((nI 357) + (a1 * (nI 2))) + a2)), (0, .ref 2), (1, .int a1), (2, .int a2)], [.int (nI 0)], (X, w)) rfl ?_
      exact ab_e_rt rfl rfl
    · refine ab_e_go 3 (28, [(3, .int (((nI 357) + (a1 * (nI 2))) + a2)), (0, .ref 2), (1, .int a1), (2, .int a2)], [.int (((nI 357) + (a1 * (nI 2))) + a2), .ref 3], (X, w)) rfl ?_
      refine ab_e_gd (29, [(3, .int (((nI 357) + (a1 * (nI 2))) + a2)), (0, .ref 2), (1, .int a1), (2, .int a2)], [.int (X 3 (((nI 357) + (a1 * (nI 2))) + a2).toNatClampNeg)], (X, w)) rfl ?_
      refine ab_e_letI (fun v15 _ => ?_)
      refine ab_e_go 1 (33, [(3, .int (((nI 357) + (a1 * (nI 2))) + a2)), (0, .ref 2), (1, .int a1), (2, .int a2)], [.int v15], (X, w)) rfl ?_
      exact ab_e_rt rfl rfl
def F_K_bit (a0 : Int32) : Option Int32 :=
  some ((nI 1) <<< (a0 &&& 31))
set_option maxRecDepth 4000 in
theorem T_K_bit (S : Nat × (Nat → Int32)) (w : ab_WW) (X : ab_XX) (a0 : Int32) : ab_Eg (ab_m1 ab_fI (X, w)) S 13 (0, lv_args 0 [.int a0], [], (X, w)) (F_K_bit a0) := by
  show ab_Eg (ab_m1 ab_fI (X, w)) S 13 (0, [(0, .int a0)], [], (X, w)) _
  unfold F_K_bit
  refine ab_e_go 3 (3, [(0, .int a0)], [.int ((nI 1) <<< (a0 &&& 31))], (X, w)) rfl ?_
  exact ab_e_rt rfl rfl
def L_K_heldBy_4 (X : ab_XX) : Nat → Int32 → Int32 → Int32 → Option Int32
  | 0, _, _, _ => none
  | n + 1, a1, a2, a3 =>
    if X 3 2 ≤ a3 then
      some a2
    else
      (F_K_awardPart X a3 (nI 0)).bind fun v16 =>
      if v16 = a1 then
        (F_K_awardPart X a3 (nI 1)).bind fun v17 =>
        (F_K_bit v17).bind fun v18 =>
        L_K_heldBy_4 X n a1 (a2 ||| v18) (a3 + (nI 1))
      else
        L_K_heldBy_4 X n a1 a2 (a3 + (nI 1))
set_option maxRecDepth 4000 in
theorem T_L_K_heldBy_4 (S : Nat × (Nat → Int32)) (w : ab_WW) (X : ab_XX) : ∀ (n : Nat) (a1 : Int32) (a2 : Int32) (a3 : Int32), ab_Eg (ab_m1 ab_fI (X, w)) S 66 (4, [(0, .ref 2), (1, .int a1), (2, .int a2), (3, .int a3)], [], (X, w)) (L_K_heldBy_4 X n a1 a2 a3) := by
  intro n
  induction n with
  | zero => intro a1 a2 a3; exact ab_e_none
  | succ n ih =>
    intro a1 a2 a3
    unfold L_K_heldBy_4
    refine ab_e_go 5 (11, [(0, .ref 2), (1, .int a1), (2, .int a2), (3, .int a3)], [.int (X 3 2), .int a3], (X, w)) rfl ?_
    refine ab_e_br (c := X 3 2 ≤ a3) (42, [(0, .ref 2), (1, .int a1), (2, .int a2), (3, .int a3)], [], (X, w)) (14, [(0, .ref 2), (1, .int a1), (2, .int a2), (3, .int a3)], [], (X, w)) rfl (fun _ => ?_) (fun _ => ?_)
    · refine ab_e_go 1 (43, [(0, .ref 2), (1, .int a1), (2, .int a2), (3, .int a3)], [.int a2], (X, w)) rfl ?_
      exact ab_e_rt rfl rfl
    · refine ab_e_go 3 (17, [(0, .ref 2), (1, .int a1), (2, .int a2), (3, .int a3)], [.int (nI 0), .int a3, .ref 2], (X, w)) rfl ?_
      refine ab_e_c1 (k2 := 11) (as := [.ref 2, .int a3, .int (nI 0)]) (rest := []) rfl rfl (T_K_awardPart S w X a3 (nI 0)) (fun v16 => ?_)
      refine ab_e_go 1 (21, [(0, .ref 2), (1, .int a1), (2, .int a2), (3, .int a3)], [.int a1, .int v16], (X, w)) rfl ?_
      refine ab_e_bn (c := v16 = a1) (36, [(0, .ref 2), (1, .int a1), (2, .int a2), (3, .int a3)], [], (X, w)) (24, [(0, .ref 2), (1, .int a1), (2, .int a2), (3, .int a3)], [], (X, w)) rfl (fun _ => ?_) (fun _ => ?_)
      · refine ab_e_go 2 (4, [(3, .int (a3 + (nI 1))), (0, .ref 2), (1, .int a1), (2, .int a2)], [], (X, w)) rfl ?_
        refine ab_e_wk [(0, .ref 2), (1, .int a1), (2, .int a2), (3, .int (a3 + (nI 1)))] ⟨rfl, rfl, rfl, rfl, trivial⟩ ?_
        exact ih a1 a2 (a3 + (nI 1))
      · refine ab_e_go 4 (28, [(0, .ref 2), (1, .int a1), (2, .int a2), (3, .int a3)], [.int (nI 1), .int a3, .ref 2, .int a2], (X, w)) rfl ?_
        refine ab_e_c1 (k2 := 11) (as := [.ref 2, .int a3, .int (nI 1)]) (rest := [.int a2]) rfl rfl (T_K_awardPart S w X a3 (nI 1)) (fun v17 => ?_)
        refine ab_e_c1 (k2 := 13) (as := [.int v17]) (rest := [.int a2]) rfl rfl (T_K_bit S w X v17) (fun v18 => ?_)
        refine ab_e_go 4 (4, [(3, .int (a3 + (nI 1))), (2, .int (a2 ||| v18)), (0, .ref 2), (1, .int a1)], [], (X, w)) rfl ?_
        refine ab_e_wk [(0, .ref 2), (1, .int a1), (2, .int (a2 ||| v18)), (3, .int (a3 + (nI 1)))] ⟨rfl, rfl, rfl, rfl, trivial⟩ ?_
        exact ih a1 (a2 ||| v18) (a3 + (nI 1))
def F_K_heldBy (X : ab_XX) (a1 : Int32) : Option Int32 :=
  L_K_heldBy_4 X ab_fu a1 (nI 0) (nI 0)
set_option maxRecDepth 4000 in
theorem T_K_heldBy (S : Nat × (Nat → Int32)) (w : ab_WW) (X : ab_XX) (a1 : Int32) : ab_Eg (ab_m1 ab_fI (X, w)) S 66 (0, lv_args 0 [.ref 2, .int a1], [], (X, w)) (F_K_heldBy X a1) := by
  show ab_Eg (ab_m1 ab_fI (X, w)) S 66 (0, [(0, .ref 2), (1, .int a1)], [], (X, w)) _
  unfold F_K_heldBy
  refine ab_e_go 4 (4, [(3, .int (nI 0)), (2, .int (nI 0)), (0, .ref 2), (1, .int a1)], [], (X, w)) rfl ?_
  refine ab_e_wk [(0, .ref 2), (1, .int a1), (2, .int (nI 0)), (3, .int (nI 0))] ⟨rfl, rfl, rfl, rfl, trivial⟩ ?_
  exact T_L_K_heldBy_4 S w X ab_fu a1 (nI 0) (nI 0)
def F_K_isIn (a0 : Int32) (a1 : Int32) : Option Int32 :=
  if ((a1 >>> (a0 &&& 31)) &&& (nI 1)) = nI 0 then
    some (nI 0)
  else
    some (nI 1)
set_option maxRecDepth 4000 in
theorem T_K_isIn (S : Nat × (Nat → Int32)) (w : ab_WW) (X : ab_XX) (a0 : Int32) (a1 : Int32) : ab_Eg (ab_m1 ab_fI (X, w)) S 17 (0, lv_args 0 [.int a0, .int a1], [], (X, w)) (F_K_isIn a0 a1) := by
  show ab_Eg (ab_m1 ab_fI (X, w)) S 17 (0, [(0, .int a0), (1, .int a1)], [], (X, w)) _
  unfold F_K_isIn
  refine ab_e_go 5 (5, [(0, .int a0), (1, .int a1)], [.int ((a1 >>> (a0 &&& 31)) &&& (nI 1))], (X, w)) rfl ?_
  refine ab_e_br (c := ((a1 >>> (a0 &&& 31)) &&& (nI 1)) = nI 0) (12, [(0, .int a0), (1, .int a1)], [], (X, w)) (8, [(0, .int a0), (1, .int a1)], [], (X, w)) rfl (fun _ => ?_) (fun _ => ?_)
  · refine ab_e_go 1 (13, [(0, .int a0), (1, .int a1)], [.int (nI 0)], (X, w)) rfl ?_
    exact ab_e_rt rfl rfl
  · refine ab_e_go 2 (13, [(0, .int a0), (1, .int a1)], [.int (nI 1)], (X, w)) rfl ?_
    exact ab_e_rt rfl rfl
def L_U_hoursOf_5 (X : ab_XX) : Nat → Int32 → Int32 → Int32 → Int32 → Option Int32
  | 0, _, _, _, _ => none
  | n + 1, a1, a2, a3, a4 =>
    (F_K_shiftTotal X).bind fun v20 =>
    if v20 ≤ a4 then
      some a3
    else
      (F_K_isIn a4 a1).bind fun v21 =>
      if v21 = nI 0 then
        L_U_hoursOf_5 X n a1 a2 a3 (a4 + (nI 1))
      else
        if a2 = (-1 : Int32) then
          (F_K_shiftPart X a4 (nI 2)).bind fun v22 =>
          L_U_hoursOf_5 X n a1 a2 (a3 + v22) (a4 + (nI 1))
        else
          (F_K_shiftPart X a4 (nI 8)).bind fun v23 =>
          if v23 = a2 then
            (F_K_shiftPart X a4 (nI 2)).bind fun v24 =>
            L_U_hoursOf_5 X n a1 a2 (a3 + v24) (a4 + (nI 1))
          else
            L_U_hoursOf_5 X n a1 a2 a3 (a4 + (nI 1))
set_option maxRecDepth 4000 in
theorem T_L_U_hoursOf_5 (S : Nat × (Nat → Int32)) (w : ab_WW) (X : ab_XX) : ∀ (n : Nat) (a1 : Int32) (a2 : Int32) (a3 : Int32) (a4 : Int32), ab_Eg (ab_m1 ab_fI (X, w)) S 78 (5, [(0, .ref 1), (1, .int a1), (2, .int a2), (3, .int a3), (4, .int a4)], [], (X, w)) (L_U_hoursOf_5 X n a1 a2 a3 a4) := by
  intro n
  induction n with
  | zero => intro a1 a2 a3 a4; exact ab_e_none
  | succ n ih =>
    intro a1 a2 a3 a4
    unfold L_U_hoursOf_5
    refine ab_e_go 3 (11, [(0, .ref 1), (1, .int a1), (2, .int a2), (3, .int a3), (4, .int a4)], [.ref 2, .int a4], (X, w)) rfl ?_
    refine ab_e_c1 (k2 := 25) (as := [.ref 2]) (rest := [.int a4]) rfl rfl (T_K_shiftTotal S w X) (fun v20 => ?_)
    refine ab_e_br (c := v20 ≤ a4) (65, [(0, .ref 1), (1, .int a1), (2, .int a2), (3, .int a3), (4, .int a4)], [], (X, w)) (17, [(0, .ref 1), (1, .int a1), (2, .int a2), (3, .int a3), (4, .int a4)], [], (X, w)) rfl (fun _ => ?_) (fun _ => ?_)
    · refine ab_e_go 1 (66, [(0, .ref 1), (1, .int a1), (2, .int a2), (3, .int a3), (4, .int a4)], [.int a3], (X, w)) rfl ?_
      exact ab_e_rt rfl rfl
    · refine ab_e_go 2 (20, [(0, .ref 1), (1, .int a1), (2, .int a2), (3, .int a3), (4, .int a4)], [.int a1, .int a4], (X, w)) rfl ?_
      refine ab_e_c1 (k2 := 17) (as := [.int a4, .int a1]) (rest := []) rfl rfl (T_K_isIn S w X a4 a1) (fun v21 => ?_)
      refine ab_e_br (c := v21 = nI 0) (59, [(0, .ref 1), (1, .int a1), (2, .int a2), (3, .int a3), (4, .int a4)], [], (X, w)) (26, [(0, .ref 1), (1, .int a1), (2, .int a2), (3, .int a3), (4, .int a4)], [], (X, w)) rfl (fun _ => ?_) (fun _ => ?_)
      · refine ab_e_go 2 (5, [(4, .int (a4 + (nI 1))), (0, .ref 1), (1, .int a1), (2, .int a2), (3, .int a3)], [], (X, w)) rfl ?_
        refine ab_e_wk [(0, .ref 1), (1, .int a1), (2, .int a2), (3, .int a3), (4, .int (a4 + (nI 1)))] ⟨rfl, rfl, rfl, rfl, rfl, trivial⟩ ?_
        exact ih a1 a2 a3 (a4 + (nI 1))
      · refine ab_e_go 2 (28, [(0, .ref 1), (1, .int a1), (2, .int a2), (3, .int a3), (4, .int a4)], [.int (-1 : Int32), .int a2], (X, w)) rfl ?_
        refine ab_e_br (c := a2 = (-1 : Int32)) (46, [(0, .ref 1), (1, .int a1), (2, .int a2), (3, .int a3), (4, .int a4)], [], (X, w)) (31, [(0, .ref 1), (1, .int a1), (2, .int a2), (3, .int a3), (4, .int a4)], [], (X, w)) rfl (fun _ => ?_) (fun _ => ?_)
        · refine ab_e_go 5 (54, [(0, .ref 1), (1, .int a1), (2, .int a2), (3, .int a3), (4, .int a4)], [.int (nI 2), .int a4, .ref 2, .int a3], (X, w)) rfl ?_
          refine ab_e_c1 (k2 := 24) (as := [.ref 2, .int a4, .int (nI 2)]) (rest := [.int a3]) rfl rfl (T_K_shiftPart S w X a4 (nI 2)) (fun v22 => ?_)
          refine ab_e_go 4 (5, [(4, .int (a4 + (nI 1))), (3, .int (a3 + v22)), (0, .ref 1), (1, .int a1), (2, .int a2)], [], (X, w)) rfl ?_
          refine ab_e_wk [(0, .ref 1), (1, .int a1), (2, .int a2), (3, .int (a3 + v22)), (4, .int (a4 + (nI 1)))] ⟨rfl, rfl, rfl, rfl, rfl, trivial⟩ ?_
          exact ih a1 a2 (a3 + v22) (a4 + (nI 1))
        · refine ab_e_go 4 (39, [(0, .ref 1), (1, .int a1), (2, .int a2), (3, .int a3), (4, .int a4)], [.int (nI 8), .int a4, .ref 2], (X, w)) rfl ?_
          refine ab_e_c1 (k2 := 24) (as := [.ref 2, .int a4, .int (nI 8)]) (rest := []) rfl rfl (T_K_shiftPart S w X a4 (nI 8)) (fun v23 => ?_)
          refine ab_e_go 1 (43, [(0, .ref 1), (1, .int a1), (2, .int a2), (3, .int a3), (4, .int a4)], [.int a2, .int v23], (X, w)) rfl ?_
          refine ab_e_bn (c := v23 = a2) (59, [(0, .ref 1), (1, .int a1), (2, .int a2), (3, .int a3), (4, .int a4)], [], (X, w)) (46, [(0, .ref 1), (1, .int a1), (2, .int a2), (3, .int a3), (4, .int a4)], [], (X, w)) rfl (fun _ => ?_) (fun _ => ?_)
          · refine ab_e_go 2 (5, [(4, .int (a4 + (nI 1))), (0, .ref 1), (1, .int a1), (2, .int a2), (3, .int a3)], [], (X, w)) rfl ?_
            refine ab_e_wk [(0, .ref 1), (1, .int a1), (2, .int a2), (3, .int a3), (4, .int (a4 + (nI 1)))] ⟨rfl, rfl, rfl, rfl, rfl, trivial⟩ ?_
            exact ih a1 a2 a3 (a4 + (nI 1))
          · refine ab_e_go 5 (54, [(0, .ref 1), (1, .int a1), (2, .int a2), (3, .int a3), (4, .int a4)], [.int (nI 2), .int a4, .ref 2, .int a3], (X, w)) rfl ?_
            refine ab_e_c1 (k2 := 24) (as := [.ref 2, .int a4, .int (nI 2)]) (rest := [.int a3]) rfl rfl (T_K_shiftPart S w X a4 (nI 2)) (fun v24 => ?_)
            refine ab_e_go 4 (5, [(4, .int (a4 + (nI 1))), (3, .int (a3 + v24)), (0, .ref 1), (1, .int a1), (2, .int a2)], [], (X, w)) rfl ?_
            refine ab_e_wk [(0, .ref 1), (1, .int a1), (2, .int a2), (3, .int (a3 + v24)), (4, .int (a4 + (nI 1)))] ⟨rfl, rfl, rfl, rfl, rfl, trivial⟩ ?_
            exact ih a1 a2 (a3 + v24) (a4 + (nI 1))
def F_U_hoursOf (X : ab_XX) (a1 : Int32) (a2 : Int32) : Option Int32 :=
  L_U_hoursOf_5 X ab_fu a1 a2 (nI 0) (nI 0)
set_option maxRecDepth 4000 in
theorem T_U_hoursOf (S : Nat × (Nat → Int32)) (w : ab_WW) (X : ab_XX) (a1 : Int32) (a2 : Int32) : ab_Eg (ab_m1 ab_fI (X, w)) S 78 (0, lv_args 0 [.ref 1, .int a1, .int a2], [], (X, w)) (F_U_hoursOf X a1 a2) := by
  show ab_Eg (ab_m1 ab_fI (X, w)) S 78 (0, [(0, .ref 1), (1, .int a1), (2, .int a2)], [], (X, w)) _
  unfold F_U_hoursOf
  refine ab_e_go 4 (5, [(4, .int (nI 0)), (3, .int (nI 0)), (0, .ref 1), (1, .int a1), (2, .int a2)], [], (X, w)) rfl ?_
  refine ab_e_wk [(0, .ref 1), (1, .int a1), (2, .int a2), (3, .int (nI 0)), (4, .int (nI 0))] ⟨rfl, rfl, rfl, rfl, rfl, trivial⟩ ?_
  exact T_L_U_hoursOf_5 S w X ab_fu a1 a2 (nI 0) (nI 0)
def L_C_averageHours_27 (X : ab_XX) : Nat → Int32 → Int32 → Int32 → Option (UInt64 ⊕ Nat)
  | 0, _, _, _ => none
  | n + 1, a1, a2, a3 =>
    if a1 ≤ a3 then
      if ab_n64 (FP.ddiv (FP.i2d a2) (FP.i2d a1)) = true then
        some (.inl (FP.ddiv (FP.i2d a2) (FP.i2d a1)))
      else none
    else
      (F_K_heldBy X a3).bind fun v19 =>
      (F_U_hoursOf X v19 (-1 : Int32)).bind fun v25 =>
      L_C_averageHours_27 X n a1 (a2 + v25) (a3 + (nI 1))
set_option maxRecDepth 4000 in
theorem T_L_C_averageHours_27 (S : Nat × (Nat → Int32)) (w : ab_WW) (X : ab_XX) : ∀ (n : Nat) (a1 : Int32) (a2 : Int32) (a3 : Int32), ab_Eg (ab_m2 ab_fD (X, w)) S 113 (27, [(0, .ref 0), (1, .int a1), (2, .int a2), (3, .int a3)], [], (X, w)) (L_C_averageHours_27 X n a1 a2 a3) := by
  intro n
  induction n with
  | zero => intro a1 a2 a3; exact ab_e_none
  | succ n ih =>
    intro a1 a2 a3
    unfold L_C_averageHours_27
    refine ab_e_go 2 (29, [(0, .ref 0), (1, .int a1), (2, .int a2), (3, .int a3)], [.int a1, .int a3], (X, w)) rfl ?_
    refine ab_e_br (c := a1 ≤ a3) (57, [(0, .ref 0), (1, .int a1), (2, .int a2), (3, .int a3)], [], (X, w)) (32, [(0, .ref 0), (1, .int a1), (2, .int a2), (3, .int a3)], [], (X, w)) rfl (fun _ => ?_) (fun _ => ?_)
    · refine ab_e_go 4 (61, [(0, .ref 0), (1, .int a1), (2, .int a2), (3, .int a3)], [.double (FP.i2d a1), .double (FP.i2d a2)], (X, w)) rfl ?_
      refine ab_e_gd (62, [(0, .ref 0), (1, .int a1), (2, .int a2), (3, .int a3)], [.double (FP.ddiv (FP.i2d a2) (FP.i2d a1))], (X, w)) rfl ?_
      exact ab_e_rt rfl rfl
    · refine ab_e_go 6 (42, [(0, .ref 0), (1, .int a1), (2, .int a2), (3, .int a3)], [.int a3, .ref 2, .ref 1, .int a2], (X, w)) rfl ?_
      refine ab_e_c1 (k2 := 66) (as := [.ref 2, .int a3]) (rest := [.ref 1, .int a2]) rfl rfl (T_K_heldBy S w X a3) (fun v19 => ?_)
      refine ab_e_go 1 (46, [(0, .ref 0), (1, .int a1), (2, .int a2), (3, .int a3)], [.int (-1 : Int32), .int v19, .ref 1, .int a2], (X, w)) rfl ?_
      refine ab_e_c1 (k2 := 78) (as := [.ref 1, .int v19, .int (-1 : Int32)]) (rest := [.int a2]) rfl rfl (T_U_hoursOf S w X v19 (-1 : Int32)) (fun v25 => ?_)
      refine ab_e_go 4 (27, [(3, .int (a3 + (nI 1))), (2, .int (a2 + v25)), (0, .ref 0), (1, .int a1)], [], (X, w)) rfl ?_
      refine ab_e_wk [(0, .ref 0), (1, .int a1), (2, .int (a2 + v25)), (3, .int (a3 + (nI 1)))] ⟨rfl, rfl, rfl, rfl, trivial⟩ ?_
      exact ih a1 (a2 + v25) (a3 + (nI 1))
def F_C_averageHours (X : ab_XX) : Option (UInt64 ⊕ Nat) :=
  (F_K_workerTotal X).bind fun v14 =>
  if v14 = nI 0 then
    some (.inr 5)
  else
    L_C_averageHours_27 X ab_fu v14 (nI 0) (nI 0)
set_option maxRecDepth 4000 in
theorem T_C_averageHours (S : Nat × (Nat → Int32)) (w : ab_WW) (X : ab_XX) : ab_Eg (ab_m2 ab_fD (X, w)) S 113 (0, lv_args 0 [.ref 0], [], (X, w)) (F_C_averageHours X) := by
  show ab_Eg (ab_m2 ab_fD (X, w)) S 113 (0, [(0, .ref 0)], [], (X, w)) _
  unfold F_C_averageHours
  refine ab_e_go 2 (4, [(0, .ref 0)], [.ref 2], (X, w)) rfl ?_
  refine ab_e_c1 (k2 := 27) (as := [.ref 2]) (rest := []) rfl rfl (T_K_workerTotal S w X) (fun v14 => ?_)
  refine ab_e_go 2 (9, [(1, .int v14), (0, .ref 0)], [.int v14], (X, w)) rfl ?_
  refine ab_e_bn (c := v14 = nI 0) (23, [(1, .int v14), (0, .ref 0)], [], (X, w)) (12, [(1, .int v14), (0, .ref 0)], [], (X, w)) rfl (fun _ => ?_) (fun _ => ?_)
  · refine ab_e_go 4 (27, [(3, .int (nI 0)), (2, .int (nI 0)), (1, .int v14), (0, .ref 0)], [], (X, w)) rfl ?_
    refine ab_e_wk [(0, .ref 0), (1, .int v14), (2, .int (nI 0)), (3, .int (nI 0))] ⟨rfl, rfl, rfl, rfl, trivial⟩ ?_
    exact T_L_C_averageHours_27 S w X ab_fu v14 (nI 0) (nI 0)
  · exact ab_e_rt rfl rfl
def F_K_isAward (X : ab_XX) (a1 : Int32) : Option Int32 :=
  if a1 < nI 0 then
    some (nI 0)
  else
    if X 3 2 ≤ a1 then
      some (nI 0)
    else
      some (nI 1)
set_option maxRecDepth 4000 in
theorem T_K_isAward (S : Nat × (Nat → Int32)) (w : ab_WW) (X : ab_XX) (a1 : Int32) : ab_Eg (ab_m1 ab_fI (X, w)) S 16 (0, lv_args 0 [.ref 2, .int a1], [], (X, w)) (F_K_isAward X a1) := by
  show ab_Eg (ab_m1 ab_fI (X, w)) S 16 (0, [(0, .ref 2), (1, .int a1)], [], (X, w)) _
  unfold F_K_isAward
  refine ab_e_go 1 (1, [(0, .ref 2), (1, .int a1)], [.int a1], (X, w)) rfl ?_
  refine ab_e_br (c := a1 < nI 0) (18, [(0, .ref 2), (1, .int a1)], [], (X, w)) (4, [(0, .ref 2), (1, .int a1)], [], (X, w)) rfl (fun _ => ?_) (fun _ => ?_)
  · refine ab_e_go 1 (19, [(0, .ref 2), (1, .int a1)], [.int (nI 0)], (X, w)) rfl ?_
    exact ab_e_rt rfl rfl
  · refine ab_e_go 5 (11, [(0, .ref 2), (1, .int a1)], [.int (X 3 2), .int a1], (X, w)) rfl ?_
    refine ab_e_br (c := X 3 2 ≤ a1) (18, [(0, .ref 2), (1, .int a1)], [], (X, w)) (14, [(0, .ref 2), (1, .int a1)], [], (X, w)) rfl (fun _ => ?_) (fun _ => ?_)
    · refine ab_e_go 1 (19, [(0, .ref 2), (1, .int a1)], [.int (nI 0)], (X, w)) rfl ?_
      exact ab_e_rt rfl rfl
    · refine ab_e_go 2 (19, [(0, .ref 2), (1, .int a1)], [.int (nI 1)], (X, w)) rfl ?_
      exact ab_e_rt rfl rfl
def F_C_requirePart (a0 : Int32) (a1 : Int32) : Option (Unit ⊕ Nat) :=
  (F_K_isWithin a0 (nI 0) a1).bind fun v27 =>
  if v27 = nI 0 then
    some (.inr 0)
  else
    some (.inl ())
set_option maxRecDepth 4000 in
theorem T_C_requirePart (S : Nat × (Nat → Int32)) (w : ab_WW) (X : ab_XX) (a0 : Int32) (a1 : Int32) : ab_Eg (ab_m2 ab_fU (X, w)) S 50 (0, lv_args 0 [.int a0, .int a1], [], (X, w)) (F_C_requirePart a0 a1) := by
  show ab_Eg (ab_m2 ab_fU (X, w)) S 50 (0, [(0, .int a0), (1, .int a1)], [], (X, w)) _
  unfold F_C_requirePart
  refine ab_e_go 3 (3, [(0, .int a0), (1, .int a1)], [.int a1, .int (nI 0), .int a0], (X, w)) rfl ?_
  refine ab_e_c1 (k2 := 20) (as := [.int a0, .int (nI 0), .int a1]) (rest := []) rfl rfl (T_K_isWithin S w X a0 (nI 0) a1) (fun v27 => ?_)
  refine ab_e_bn (c := v27 = nI 0) (20, [(0, .int a0), (1, .int a1)], [], (X, w)) (9, [(0, .int a0), (1, .int a1)], [], (X, w)) rfl (fun _ => ?_) (fun _ => ?_)
  · exact ab_e_rt rfl rfl
  · exact ab_e_rt rfl rfl
def F_C_awardAt (X : ab_XX) (a1 : Int32) (a2 : Int32) : Option (Int32 ⊕ Nat) :=
  (F_K_isAward X a1).bind fun v26 =>
  if v26 = nI 0 then
    some (.inr 2)
  else
    ab_b2 (F_C_requirePart a2 (nI 1)) (fun _ =>
      if a2 = nI 0 then
        (F_K_awardPart X a1 (nI 0)).bind fun v29 =>
        some (.inl v29)
      else
        (F_K_awardPart X a1 (nI 1)).bind fun v28 =>
        some (.inl v28)) (fun y => some (.inr y))
set_option maxRecDepth 4000 in
theorem T_C_awardAt (S : Nat × (Nat → Int32)) (w : ab_WW) (X : ab_XX) (a1 : Int32) (a2 : Int32) : ab_Eg (ab_m2 ab_fI (X, w)) S 114 (0, lv_args 0 [.ref 0, .int a1, .int a2], [], (X, w)) (F_C_awardAt X a1 a2) := by
  show ab_Eg (ab_m2 ab_fI (X, w)) S 114 (0, [(0, .ref 0), (1, .int a1), (2, .int a2)], [], (X, w)) _
  unfold F_C_awardAt
  refine ab_e_go 3 (5, [(0, .ref 0), (1, .int a1), (2, .int a2)], [.int a1, .ref 2], (X, w)) rfl ?_
  refine ab_e_c1 (k2 := 16) (as := [.ref 2, .int a1]) (rest := []) rfl rfl (T_K_isAward S w X a1) (fun v26 => ?_)
  refine ab_e_bn (c := v26 = nI 0) (22, [(0, .ref 0), (1, .int a1), (2, .int a2)], [], (X, w)) (11, [(0, .ref 0), (1, .int a1), (2, .int a2)], [], (X, w)) rfl (fun _ => ?_) (fun _ => ?_)
  · refine ab_e_go 2 (24, [(0, .ref 0), (1, .int a1), (2, .int a2)], [.int (nI 1), .int a2], (X, w)) rfl ?_
    refine ab_e_c2 (k2 := 50) (as := [.int a2, .int (nI 1)]) (rest := []) rfl rfl rfl (T_C_requirePart S w X a2 (nI 1)) (fun _ => ?_) (fun _ _ h => by cases h; rfl)
    refine ab_e_go 1 (28, [(0, .ref 0), (1, .int a1), (2, .int a2)], [.int a2], (X, w)) rfl ?_
    refine ab_e_bn (c := a2 = nI 0) (43, [(0, .ref 0), (1, .int a1), (2, .int a2)], [], (X, w)) (31, [(0, .ref 0), (1, .int a1), (2, .int a2)], [], (X, w)) rfl (fun _ => ?_) (fun _ => ?_)
    · refine ab_e_go 4 (49, [(0, .ref 0), (1, .int a1), (2, .int a2)], [.int (nI 1), .int a1, .ref 2], (X, w)) rfl ?_
      refine ab_e_c1 (k2 := 11) (as := [.ref 2, .int a1, .int (nI 1)]) (rest := []) rfl rfl (T_K_awardPart S w X a1 (nI 1)) (fun v28 => ?_)
      exact ab_e_rt rfl rfl
    · refine ab_e_go 4 (37, [(0, .ref 0), (1, .int a1), (2, .int a2)], [.int (nI 0), .int a1, .ref 2], (X, w)) rfl ?_
      refine ab_e_c1 (k2 := 11) (as := [.ref 2, .int a1, .int (nI 0)]) (rest := []) rfl rfl (T_K_awardPart S w X a1 (nI 0)) (fun v29 => ?_)
      refine ab_e_go 1 (52, [(0, .ref 0), (1, .int a1), (2, .int a2)], [.int v29], (X, w)) rfl ?_
      exact ab_e_rt rfl rfl
  · exact ab_e_rt rfl rfl
def F_K_isWorker (X : ab_XX) (a1 : Int32) : Option Int32 :=
  if a1 < nI 0 then
    some (nI 0)
  else
    if X 3 0 ≤ a1 then
      some (nI 0)
    else
      some (nI 1)
set_option maxRecDepth 4000 in
theorem T_K_isWorker (S : Nat × (Nat → Int32)) (w : ab_WW) (X : ab_XX) (a1 : Int32) : ab_Eg (ab_m1 ab_fI (X, w)) S 21 (0, lv_args 0 [.ref 2, .int a1], [], (X, w)) (F_K_isWorker X a1) := by
  show ab_Eg (ab_m1 ab_fI (X, w)) S 21 (0, [(0, .ref 2), (1, .int a1)], [], (X, w)) _
  unfold F_K_isWorker
  refine ab_e_go 1 (1, [(0, .ref 2), (1, .int a1)], [.int a1], (X, w)) rfl ?_
  refine ab_e_br (c := a1 < nI 0) (18, [(0, .ref 2), (1, .int a1)], [], (X, w)) (4, [(0, .ref 2), (1, .int a1)], [], (X, w)) rfl (fun _ => ?_) (fun _ => ?_)
  · refine ab_e_go 1 (19, [(0, .ref 2), (1, .int a1)], [.int (nI 0)], (X, w)) rfl ?_
    exact ab_e_rt rfl rfl
  · refine ab_e_go 5 (11, [(0, .ref 2), (1, .int a1)], [.int (X 3 0), .int a1], (X, w)) rfl ?_
    refine ab_e_br (c := X 3 0 ≤ a1) (18, [(0, .ref 2), (1, .int a1)], [], (X, w)) (14, [(0, .ref 2), (1, .int a1)], [], (X, w)) rfl (fun _ => ?_) (fun _ => ?_)
    · refine ab_e_go 1 (19, [(0, .ref 2), (1, .int a1)], [.int (nI 0)], (X, w)) rfl ?_
      exact ab_e_rt rfl rfl
    · refine ab_e_go 2 (19, [(0, .ref 2), (1, .int a1)], [.int (nI 1)], (X, w)) rfl ?_
      exact ab_e_rt rfl rfl
def F_C_requireWorker (X : ab_XX) (a1 : Int32) : Option (Unit ⊕ Nat) :=
  (F_K_isWorker X a1).bind fun v30 =>
  if v30 = nI 0 then
    some (.inr 2)
  else
    some (.inl ())
set_option maxRecDepth 4000 in
theorem T_C_requireWorker (S : Nat × (Nat → Int32)) (w : ab_WW) (X : ab_XX) (a1 : Int32) : ab_Eg (ab_m2 ab_fU (X, w)) S 52 (0, lv_args 0 [.ref 0, .int a1], [], (X, w)) (F_C_requireWorker X a1) := by
  show ab_Eg (ab_m2 ab_fU (X, w)) S 52 (0, [(0, .ref 0), (1, .int a1)], [], (X, w)) _
  unfold F_C_requireWorker
  refine ab_e_go 3 (5, [(0, .ref 0), (1, .int a1)], [.int a1, .ref 2], (X, w)) rfl ?_
  refine ab_e_c1 (k2 := 21) (as := [.ref 2, .int a1]) (rest := []) rfl rfl (T_K_isWorker S w X a1) (fun v30 => ?_)
  refine ab_e_bn (c := v30 = nI 0) (22, [(0, .ref 0), (1, .int a1)], [], (X, w)) (11, [(0, .ref 0), (1, .int a1)], [], (X, w)) rfl (fun _ => ?_) (fun _ => ?_)
  · exact ab_e_rt rfl rfl
  · exact ab_e_rt rfl rfl
def F_C_held (X : ab_XX) (a1 : Int32) : Option (Int32 ⊕ Nat) :=
  ab_b2 (F_C_requireWorker X a1) (fun _ =>
    (F_K_heldBy X a1).bind fun v31 =>
    some (.inl v31)) (fun y => some (.inr y))
set_option maxRecDepth 4000 in
theorem T_C_held (S : Nat × (Nat → Int32)) (w : ab_WW) (X : ab_XX) (a1 : Int32) : ab_Eg (ab_m2 ab_fI (X, w)) S 115 (0, lv_args 0 [.ref 0, .int a1], [], (X, w)) (F_C_held X a1) := by
  show ab_Eg (ab_m2 ab_fI (X, w)) S 115 (0, [(0, .ref 0), (1, .int a1)], [], (X, w)) _
  unfold F_C_held
  refine ab_e_go 2 (2, [(0, .ref 0), (1, .int a1)], [.int a1, .ref 0], (X, w)) rfl ?_
  refine ab_e_c2 (k2 := 52) (as := [.ref 0, .int a1]) (rest := []) rfl rfl rfl (T_C_requireWorker S w X a1) (fun _ => ?_) (fun _ _ h => by cases h; rfl)
  refine ab_e_go 3 (10, [(0, .ref 0), (1, .int a1)], [.int a1, .ref 2], (X, w)) rfl ?_
  refine ab_e_c1 (k2 := 66) (as := [.ref 2, .int a1]) (rest := []) rfl rfl (T_K_heldBy S w X a1) (fun v31 => ?_)
  exact ab_e_rt rfl rfl
def F_K_isShift (X : ab_XX) (a1 : Int32) : Option Int32 :=
  if a1 < nI 0 then
    some (nI 0)
  else
    if X 3 1 ≤ a1 then
      some (nI 0)
    else
      some (nI 1)
set_option maxRecDepth 4000 in
theorem T_K_isShift (S : Nat × (Nat → Int32)) (w : ab_WW) (X : ab_XX) (a1 : Int32) : ab_Eg (ab_m1 ab_fI (X, w)) S 19 (0, lv_args 0 [.ref 2, .int a1], [], (X, w)) (F_K_isShift X a1) := by
  show ab_Eg (ab_m1 ab_fI (X, w)) S 19 (0, [(0, .ref 2), (1, .int a1)], [], (X, w)) _
  unfold F_K_isShift
  refine ab_e_go 1 (1, [(0, .ref 2), (1, .int a1)], [.int a1], (X, w)) rfl ?_
  refine ab_e_br (c := a1 < nI 0) (18, [(0, .ref 2), (1, .int a1)], [], (X, w)) (4, [(0, .ref 2), (1, .int a1)], [], (X, w)) rfl (fun _ => ?_) (fun _ => ?_)
  · refine ab_e_go 1 (19, [(0, .ref 2), (1, .int a1)], [.int (nI 0)], (X, w)) rfl ?_
    exact ab_e_rt rfl rfl
  · refine ab_e_go 5 (11, [(0, .ref 2), (1, .int a1)], [.int (X 3 1), .int a1], (X, w)) rfl ?_
    refine ab_e_br (c := X 3 1 ≤ a1) (18, [(0, .ref 2), (1, .int a1)], [], (X, w)) (14, [(0, .ref 2), (1, .int a1)], [], (X, w)) rfl (fun _ => ?_) (fun _ => ?_)
    · refine ab_e_go 1 (19, [(0, .ref 2), (1, .int a1)], [.int (nI 0)], (X, w)) rfl ?_
      exact ab_e_rt rfl rfl
    · refine ab_e_go 2 (19, [(0, .ref 2), (1, .int a1)], [.int (nI 1)], (X, w)) rfl ?_
      exact ab_e_rt rfl rfl
def F_C_requireShift (X : ab_XX) (a1 : Int32) : Option (Unit ⊕ Nat) :=
  (F_K_isShift X a1).bind fun v32 =>
  if v32 = nI 0 then
    some (.inr 2)
  else
    some (.inl ())
set_option maxRecDepth 4000 in
theorem T_C_requireShift (S : Nat × (Nat → Int32)) (w : ab_WW) (X : ab_XX) (a1 : Int32) : ab_Eg (ab_m2 ab_fU (X, w)) S 51 (0, lv_args 0 [.ref 0, .int a1], [], (X, w)) (F_C_requireShift X a1) := by
  show ab_Eg (ab_m2 ab_fU (X, w)) S 51 (0, [(0, .ref 0), (1, .int a1)], [], (X, w)) _
  unfold F_C_requireShift
  refine ab_e_go 3 (5, [(0, .ref 0), (1, .int a1)], [.int a1, .ref 2], (X, w)) rfl ?_
  refine ab_e_c1 (k2 := 19) (as := [.ref 2, .int a1]) (rest := []) rfl rfl (T_K_isShift S w X a1) (fun v32 => ?_)
  refine ab_e_bn (c := v32 = nI 0) (22, [(0, .ref 0), (1, .int a1)], [], (X, w)) (11, [(0, .ref 0), (1, .int a1)], [], (X, w)) rfl (fun _ => ?_) (fun _ => ?_)
  · exact ab_e_rt rfl rfl
  · exact ab_e_rt rfl rfl
def L_K_holdersOf_4 (X : ab_XX) : Nat → Int32 → Int32 → Int32 → Option Int32
  | 0, _, _, _ => none
  | n + 1, a1, a2, a3 =>
    if X 3 2 ≤ a3 then
      some a2
    else
      (F_K_awardPart X a3 (nI 1)).bind fun v33 =>
      if v33 = a1 then
        (F_K_awardPart X a3 (nI 0)).bind fun v34 =>
        (F_K_bit v34).bind fun v35 =>
        L_K_holdersOf_4 X n a1 (a2 ||| v35) (a3 + (nI 1))
      else
        L_K_holdersOf_4 X n a1 a2 (a3 + (nI 1))
set_option maxRecDepth 4000 in
theorem T_L_K_holdersOf_4 (S : Nat × (Nat → Int32)) (w : ab_WW) (X : ab_XX) : ∀ (n : Nat) (a1 : Int32) (a2 : Int32) (a3 : Int32), ab_Eg (ab_m1 ab_fI (X, w)) S 67 (4, [(0, .ref 2), (1, .int a1), (2, .int a2), (3, .int a3)], [], (X, w)) (L_K_holdersOf_4 X n a1 a2 a3) := by
  intro n
  induction n with
  | zero => intro a1 a2 a3; exact ab_e_none
  | succ n ih =>
    intro a1 a2 a3
    unfold L_K_holdersOf_4
    refine ab_e_go 5 (11, [(0, .ref 2), (1, .int a1), (2, .int a2), (3, .int a3)], [.int (X 3 2), .int a3], (X, w)) rfl ?_
    refine ab_e_br (c := X 3 2 ≤ a3) (42, [(0, .ref 2), (1, .int a1), (2, .int a2), (3, .int a3)], [], (X, w)) (14, [(0, .ref 2), (1, .int a1), (2, .int a2), (3, .int a3)], [], (X, w)) rfl (fun _ => ?_) (fun _ => ?_)
    · refine ab_e_go 1 (43, [(0, .ref 2), (1, .int a1), (2, .int a2), (3, .int a3)], [.int a2], (X, w)) rfl ?_
      exact ab_e_rt rfl rfl
    · refine ab_e_go 3 (17, [(0, .ref 2), (1, .int a1), (2, .int a2), (3, .int a3)], [.int (nI 1), .int a3, .ref 2], (X, w)) rfl ?_
      refine ab_e_c1 (k2 := 11) (as := [.ref 2, .int a3, .int (nI 1)]) (rest := []) rfl rfl (T_K_awardPart S w X a3 (nI 1)) (fun v33 => ?_)
      refine ab_e_go 1 (21, [(0, .ref 2), (1, .int a1), (2, .int a2), (3, .int a3)], [.int a1, .int v33], (X, w)) rfl ?_
      refine ab_e_bn (c := v33 = a1) (36, [(0, .ref 2), (1, .int a1), (2, .int a2), (3, .int a3)], [], (X, w)) (24, [(0, .ref 2), (1, .int a1), (2, .int a2), (3, .int a3)], [], (X, w)) rfl (fun _ => ?_) (fun _ => ?_)
      · refine ab_e_go 2 (4, [(3, .int (a3 + (nI 1))), (0, .ref 2), (1, .int a1), (2, .int a2)], [], (X, w)) rfl ?_
        refine ab_e_wk [(0, .ref 2), (1, .int a1), (2, .int a2), (3, .int (a3 + (nI 1)))] ⟨rfl, rfl, rfl, rfl, trivial⟩ ?_
        exact ih a1 a2 (a3 + (nI 1))
      · refine ab_e_go 4 (28, [(0, .ref 2), (1, .int a1), (2, .int a2), (3, .int a3)], [.int (nI 0), .int a3, .ref 2, .int a2], (X, w)) rfl ?_
        refine ab_e_c1 (k2 := 11) (as := [.ref 2, .int a3, .int (nI 0)]) (rest := [.int a2]) rfl rfl (T_K_awardPart S w X a3 (nI 0)) (fun v34 => ?_)
        refine ab_e_c1 (k2 := 13) (as := [.int v34]) (rest := [.int a2]) rfl rfl (T_K_bit S w X v34) (fun v35 => ?_)
        refine ab_e_go 4 (4, [(3, .int (a3 + (nI 1))), (2, .int (a2 ||| v35)), (0, .ref 2), (1, .int a1)], [], (X, w)) rfl ?_
        refine ab_e_wk [(0, .ref 2), (1, .int a1), (2, .int (a2 ||| v35)), (3, .int (a3 + (nI 1)))] ⟨rfl, rfl, rfl, rfl, trivial⟩ ?_
        exact ih a1 (a2 ||| v35) (a3 + (nI 1))
def F_K_holdersOf (X : ab_XX) (a1 : Int32) : Option Int32 :=
  L_K_holdersOf_4 X ab_fu a1 (nI 0) (nI 0)
set_option maxRecDepth 4000 in
theorem T_K_holdersOf (S : Nat × (Nat → Int32)) (w : ab_WW) (X : ab_XX) (a1 : Int32) : ab_Eg (ab_m1 ab_fI (X, w)) S 67 (0, lv_args 0 [.ref 2, .int a1], [], (X, w)) (F_K_holdersOf X a1) := by
  show ab_Eg (ab_m1 ab_fI (X, w)) S 67 (0, [(0, .ref 2), (1, .int a1)], [], (X, w)) _
  unfold F_K_holdersOf
  refine ab_e_go 4 (4, [(3, .int (nI 0)), (2, .int (nI 0)), (0, .ref 2), (1, .int a1)], [], (X, w)) rfl ?_
  refine ab_e_wk [(0, .ref 2), (1, .int a1), (2, .int (nI 0)), (3, .int (nI 0))] ⟨rfl, rfl, rfl, rfl, trivial⟩ ?_
  exact T_L_K_holdersOf_4 S w X ab_fu a1 (nI 0) (nI 0)
def F_C_holders (X : ab_XX) (a1 : Int32) : Option (Int32 ⊕ Nat) :=
  ab_b2 (F_C_requireShift X a1) (fun _ =>
    (F_K_holdersOf X a1).bind fun v36 =>
    some (.inl v36)) (fun y => some (.inr y))
set_option maxRecDepth 4000 in
theorem T_C_holders (S : Nat × (Nat → Int32)) (w : ab_WW) (X : ab_XX) (a1 : Int32) : ab_Eg (ab_m2 ab_fI (X, w)) S 116 (0, lv_args 0 [.ref 0, .int a1], [], (X, w)) (F_C_holders X a1) := by
  show ab_Eg (ab_m2 ab_fI (X, w)) S 116 (0, [(0, .ref 0), (1, .int a1)], [], (X, w)) _
  unfold F_C_holders
  refine ab_e_go 2 (2, [(0, .ref 0), (1, .int a1)], [.int a1, .ref 0], (X, w)) rfl ?_
  refine ab_e_c2 (k2 := 51) (as := [.ref 0, .int a1]) (rest := []) rfl rfl rfl (T_C_requireShift S w X a1) (fun _ => ?_) (fun _ _ h => by cases h; rfl)
  refine ab_e_go 3 (10, [(0, .ref 0), (1, .int a1)], [.int a1, .ref 2], (X, w)) rfl ?_
  refine ab_e_c1 (k2 := 67) (as := [.ref 2, .int a1]) (rest := []) rfl rfl (T_K_holdersOf S w X a1) (fun v36 => ?_)
  exact ab_e_rt rfl rfl
def F_C_hours (X : ab_XX) (a1 : Int32) (a2 : Int32) : Option (Int32 ⊕ Nat) :=
  ab_b2 (F_C_requireWorker X a1) (fun _ =>
    (F_K_isWithin a2 (-1 : Int32) (nI 3)).bind fun v37 =>
    if v37 = nI 0 then
      some (.inr 0)
    else
      (F_K_heldBy X a1).bind fun v38 =>
      (F_U_hoursOf X v38 a2).bind fun v39 =>
      some (.inl v39)) (fun y => some (.inr y))
set_option maxRecDepth 4000 in
theorem T_C_hours (S : Nat × (Nat → Int32)) (w : ab_WW) (X : ab_XX) (a1 : Int32) (a2 : Int32) : ab_Eg (ab_m2 ab_fI (X, w)) S 117 (0, lv_args 0 [.ref 0, .int a1, .int a2], [], (X, w)) (F_C_hours X a1 a2) := by
  show ab_Eg (ab_m2 ab_fI (X, w)) S 117 (0, [(0, .ref 0), (1, .int a1), (2, .int a2)], [], (X, w)) _
  unfold F_C_hours
  refine ab_e_go 2 (2, [(0, .ref 0), (1, .int a1), (2, .int a2)], [.int a1, .ref 0], (X, w)) rfl ?_
  refine ab_e_c2 (k2 := 52) (as := [.ref 0, .int a1]) (rest := []) rfl rfl rfl (T_C_requireWorker S w X a1) (fun _ => ?_) (fun _ _ h => by cases h; rfl)
  refine ab_e_go 3 (8, [(0, .ref 0), (1, .int a1), (2, .int a2)], [.int (nI 3), .int (-1 : Int32), .int a2], (X, w)) rfl ?_
  refine ab_e_c1 (k2 := 20) (as := [.int a2, .int (-1 : Int32), .int (nI 3)]) (rest := []) rfl rfl (T_K_isWithin S w X a2 (-1 : Int32) (nI 3)) (fun v37 => ?_)
  refine ab_e_bn (c := v37 = nI 0) (25, [(0, .ref 0), (1, .int a1), (2, .int a2)], [], (X, w)) (14, [(0, .ref 0), (1, .int a1), (2, .int a2)], [], (X, w)) rfl (fun _ => ?_) (fun _ => ?_)
  · refine ab_e_go 5 (34, [(0, .ref 0), (1, .int a1), (2, .int a2)], [.int a1, .ref 2, .ref 1], (X, w)) rfl ?_
    refine ab_e_c1 (k2 := 66) (as := [.ref 2, .int a1]) (rest := [.ref 1]) rfl rfl (T_K_heldBy S w X a1) (fun v38 => ?_)
    refine ab_e_go 1 (38, [(0, .ref 0), (1, .int a1), (2, .int a2)], [.int a2, .int v38, .ref 1], (X, w)) rfl ?_
    refine ab_e_c1 (k2 := 78) (as := [.ref 1, .int v38, .int a2]) (rest := []) rfl rfl (T_U_hoursOf S w X v38 a2) (fun v39 => ?_)
    exact ab_e_rt rfl rfl
  · exact ab_e_rt rfl rfl
def F_K_pointsFor (X : ab_XX) (a1 : Int32) (a2 : Int32) : Option Int32 :=
  if (((nI 197) + (a1 * (nI 16))) + a2) < nI 0 then
    some (nI 0)
  else
    if nI 453 ≤ (((nI 197) + (a1 * (nI 16))) + a2) then
      some (nI 0)
    else
      if ab_in (((nI 197) + (a1 * (nI 16))) + a2) 453 = true then
        (some (X 3 (((nI 197) + (a1 * (nI 16))) + a2).toNatClampNeg)).bind fun v42 =>
        some v42
      else none
set_option maxRecDepth 4000 in
theorem T_K_pointsFor (S : Nat × (Nat → Int32)) (w : ab_WW) (X : ab_XX) (a1 : Int32) (a2 : Int32) : ab_Eg (ab_m1 ab_fI (X, w)) S 22 (0, lv_args 0 [.ref 2, .int a1, .int a2], [], (X, w)) (F_K_pointsFor X a1 a2) := by
  show ab_Eg (ab_m1 ab_fI (X, w)) S 22 (0, [(0, .ref 2), (1, .int a1), (2, .int a2)], [], (X, w)) _
  unfold F_K_pointsFor
  refine ab_e_go 9 (12, [(3, .int (((nI 197) + (a1 * (nI 16))) + a2)), (0, .ref 2), (1, .int a1), (2, .int a2)], [.int (((nI 197) + (a1 * (nI 16))) + a2)], (X, w)) rfl ?_
  refine ab_e_br (c := (((nI 197) + (a1 * (nI 16))) + a2) < nI 0) (33, [(3, .int (((nI 197) + (a1 * (nI 16))) + a2)), (0, .ref 2), (1, .int a1), (2, .int a2)], [], (X, w)) (15, [(3, .int (((nI 197) + (a1 * (nI 16))) + a2)), (0, .ref 2), (1, .int a1), (2, .int a2)], [], (X, w)) rfl (fun _ => ?_) (fun _ => ?_)
  · refine ab_e_go 1 (34, [(3, .int (((nI 197) + (a1 * (nI 16))) + a2)), (0, .ref 2), (1, .int a1), (2, .int a2)], [.int (nI 0)], (X, w)) rfl ?_
    exact ab_e_rt rfl rfl
  · refine ab_e_go 4 (21, [(3, .int (((nI 197) + (a1 * (nI 16))) + a2)), (0, .ref 2), (1, .int a1), (2, .int a2)], [.int (nI 453), .int (((nI 197) + (a1 * (nI 16))) + a2)], (X, w)) rfl ?_
    refine ab_e_br (c := nI 453 ≤ (((nI 197) + (a1 * (nI 16))) + a2)) (33, [(3, .int (((nI 197) + (a1 * (nI 16))) + a2)), (0, .ref 2), (1, .int a1), (2, .int a2)], [], (X, w)) (24, [(3, .int (((nI 197) + (a1 * (nI 16))) + a2)), (0, .ref 2), (1, .int a1), (2, .int a2)], [], (X, w)) rfl (fun _ => ?_) (fun _ => ?_)
    · refine ab_e_go 1 (34, [(3, .int (((nI 197) + (a1 * (nI 16))) + a2)), (0, .ref 2), (1, .int a1), (2, .int a2)], [.int (nI 0)], (X, w)) rfl ?_
      exact ab_e_rt rfl rfl
    · refine ab_e_go 3 (29, [(3, .int (((nI 197) + (a1 * (nI 16))) + a2)), (0, .ref 2), (1, .int a1), (2, .int a2)], [.int (((nI 197) + (a1 * (nI 16))) + a2), .ref 3], (X, w)) rfl ?_
      refine ab_e_gd (30, [(3, .int (((nI 197) + (a1 * (nI 16))) + a2)), (0, .ref 2), (1, .int a1), (2, .int a2)], [.int (X 3 (((nI 197) + (a1 * (nI 16))) + a2).toNatClampNeg)], (X, w)) rfl ?_
      refine ab_e_letI (fun v42 _ => ?_)
      refine ab_e_go 1 (34, [(3, .int (((nI 197) + (a1 * (nI 16))) + a2)), (0, .ref 2), (1, .int a1), (2, .int a2)], [.int v42], (X, w)) rfl ?_
      exact ab_e_rt rfl rfl
def L_K_pointsForSet_5 (X : ab_XX) : Nat → Int32 → Int32 → Int32 → Int32 → Option Int32
  | 0, _, _, _, _ => none
  | n + 1, a1, a2, a3, a4 =>
    if X 3 1 ≤ a4 then
      some a3
    else
      (F_K_isIn a4 a2).bind fun v41 =>
      if v41 = nI 0 then
        L_K_pointsForSet_5 X n a1 a2 a3 (a4 + (nI 1))
      else
        (F_K_pointsFor X a1 a4).bind fun v43 =>
        L_K_pointsForSet_5 X n a1 a2 (a3 + v43) (a4 + (nI 1))
set_option maxRecDepth 4000 in
theorem T_L_K_pointsForSet_5 (S : Nat × (Nat → Int32)) (w : ab_WW) (X : ab_XX) : ∀ (n : Nat) (a1 : Int32) (a2 : Int32) (a3 : Int32) (a4 : Int32), ab_Eg (ab_m1 ab_fI (X, w)) S 72 (5, [(0, .ref 2), (1, .int a1), (2, .int a2), (3, .int a3), (4, .int a4)], [], (X, w)) (L_K_pointsForSet_5 X n a1 a2 a3 a4) := by
  intro n
  induction n with
  | zero => intro a1 a2 a3 a4; exact ab_e_none
  | succ n ih =>
    intro a1 a2 a3 a4
    unfold L_K_pointsForSet_5
    refine ab_e_go 5 (13, [(0, .ref 2), (1, .int a1), (2, .int a2), (3, .int a3), (4, .int a4)], [.int (X 3 1), .int a4], (X, w)) rfl ?_
    refine ab_e_br (c := X 3 1 ≤ a4) (41, [(0, .ref 2), (1, .int a1), (2, .int a2), (3, .int a3), (4, .int a4)], [], (X, w)) (16, [(0, .ref 2), (1, .int a1), (2, .int a2), (3, .int a3), (4, .int a4)], [], (X, w)) rfl (fun _ => ?_) (fun _ => ?_)
    · refine ab_e_go 1 (42, [(0, .ref 2), (1, .int a1), (2, .int a2), (3, .int a3), (4, .int a4)], [.int a3], (X, w)) rfl ?_
      exact ab_e_rt rfl rfl
    · refine ab_e_go 2 (19, [(0, .ref 2), (1, .int a1), (2, .int a2), (3, .int a3), (4, .int a4)], [.int a2, .int a4], (X, w)) rfl ?_
      refine ab_e_c1 (k2 := 17) (as := [.int a4, .int a2]) (rest := []) rfl rfl (T_K_isIn S w X a4 a2) (fun v41 => ?_)
      refine ab_e_br (c := v41 = nI 0) (35, [(0, .ref 2), (1, .int a1), (2, .int a2), (3, .int a3), (4, .int a4)], [], (X, w)) (25, [(0, .ref 2), (1, .int a1), (2, .int a2), (3, .int a3), (4, .int a4)], [], (X, w)) rfl (fun _ => ?_) (fun _ => ?_)
      · refine ab_e_go 2 (5, [(4, .int (a4 + (nI 1))), (0, .ref 2), (1, .int a1), (2, .int a2), (3, .int a3)], [], (X, w)) rfl ?_
        refine ab_e_wk [(0, .ref 2), (1, .int a1), (2, .int a2), (3, .int a3), (4, .int (a4 + (nI 1)))] ⟨rfl, rfl, rfl, rfl, rfl, trivial⟩ ?_
        exact ih a1 a2 a3 (a4 + (nI 1))
      · refine ab_e_go 4 (30, [(0, .ref 2), (1, .int a1), (2, .int a2), (3, .int a3), (4, .int a4)], [.int a4, .int a1, .ref 2, .int a3], (X, w)) rfl ?_
        refine ab_e_c1 (k2 := 22) (as := [.ref 2, .int a1, .int a4]) (rest := [.int a3]) rfl rfl (T_K_pointsFor S w X a1 a4) (fun v43 => ?_)
        refine ab_e_go 4 (5, [(4, .int (a4 + (nI 1))), (3, .int (a3 + v43)), (0, .ref 2), (1, .int a1), (2, .int a2)], [], (X, w)) rfl ?_
        refine ab_e_wk [(0, .ref 2), (1, .int a1), (2, .int a2), (3, .int (a3 + v43)), (4, .int (a4 + (nI 1)))] ⟨rfl, rfl, rfl, rfl, rfl, trivial⟩ ?_
        exact ih a1 a2 (a3 + v43) (a4 + (nI 1))
def F_K_pointsForSet (X : ab_XX) (a1 : Int32) (a2 : Int32) : Option Int32 :=
  L_K_pointsForSet_5 X ab_fu a1 a2 (nI 0) (nI 0)
set_option maxRecDepth 4000 in
theorem T_K_pointsForSet (S : Nat × (Nat → Int32)) (w : ab_WW) (X : ab_XX) (a1 : Int32) (a2 : Int32) : ab_Eg (ab_m1 ab_fI (X, w)) S 72 (0, lv_args 0 [.ref 2, .int a1, .int a2], [], (X, w)) (F_K_pointsForSet X a1 a2) := by
  show ab_Eg (ab_m1 ab_fI (X, w)) S 72 (0, [(0, .ref 2), (1, .int a1), (2, .int a2)], [], (X, w)) _
  unfold F_K_pointsForSet
  refine ab_e_go 4 (5, [(4, .int (nI 0)), (3, .int (nI 0)), (0, .ref 2), (1, .int a1), (2, .int a2)], [], (X, w)) rfl ?_
  refine ab_e_wk [(0, .ref 2), (1, .int a1), (2, .int a2), (3, .int (nI 0)), (4, .int (nI 0))] ⟨rfl, rfl, rfl, rfl, rfl, trivial⟩ ?_
  exact T_L_K_pointsForSet_5 S w X ab_fu a1 a2 (nI 0) (nI 0)
def F_C_points (X : ab_XX) (a1 : Int32) : Option (Int32 ⊕ Nat) :=
  ab_b2 (F_C_requireWorker X a1) (fun _ =>
    (F_K_heldBy X a1).bind fun v40 =>
    (F_K_pointsForSet X a1 v40).bind fun v44 =>
    some (.inl v44)) (fun y => some (.inr y))
set_option maxRecDepth 4000 in
theorem T_C_points (S : Nat × (Nat → Int32)) (w : ab_WW) (X : ab_XX) (a1 : Int32) : ab_Eg (ab_m2 ab_fI (X, w)) S 118 (0, lv_args 0 [.ref 0, .int a1], [], (X, w)) (F_C_points X a1) := by
  show ab_Eg (ab_m2 ab_fI (X, w)) S 118 (0, [(0, .ref 0), (1, .int a1)], [], (X, w)) _
  unfold F_C_points
  refine ab_e_go 2 (2, [(0, .ref 0), (1, .int a1)], [.int a1, .ref 0], (X, w)) rfl ?_
  refine ab_e_c2 (k2 := 52) (as := [.ref 0, .int a1]) (rest := []) rfl rfl rfl (T_C_requireWorker S w X a1) (fun _ => ?_) (fun _ _ h => by cases h; rfl)
  refine ab_e_go 6 (15, [(0, .ref 0), (1, .int a1)], [.int a1, .ref 2, .int a1, .ref 2], (X, w)) rfl ?_
  refine ab_e_c1 (k2 := 66) (as := [.ref 2, .int a1]) (rest := [.int a1, .ref 2]) rfl rfl (T_K_heldBy S w X a1) (fun v40 => ?_)
  refine ab_e_c1 (k2 := 72) (as := [.ref 2, .int a1, .int v40]) (rest := []) rfl rfl (T_K_pointsForSet S w X a1 v40) (fun v44 => ?_)
  exact ab_e_rt rfl rfl
def F_C_reason (X : ab_XX) (a1 : Int32) : Option (Int32 ⊕ Nat) :=
  ab_b2 (F_C_requirePart a1 (nI 2)) (fun _ =>
    if a1 = nI 0 then
      some (.inl (X 10 0))
    else
      if a1 = nI 1 then
        some (.inl (X 10 1))
      else
        some (.inl (X 10 2))) (fun y => some (.inr y))
set_option maxRecDepth 4000 in
theorem T_C_reason (S : Nat × (Nat → Int32)) (w : ab_WW) (X : ab_XX) (a1 : Int32) : ab_Eg (ab_m2 ab_fI (X, w)) S 119 (0, lv_args 0 [.ref 0, .int a1], [], (X, w)) (F_C_reason X a1) := by
  show ab_Eg (ab_m2 ab_fI (X, w)) S 119 (0, [(0, .ref 0), (1, .int a1)], [], (X, w)) _
  unfold F_C_reason
  refine ab_e_go 2 (2, [(0, .ref 0), (1, .int a1)], [.int (nI 2), .int a1], (X, w)) rfl ?_
  refine ab_e_c2 (k2 := 50) (as := [.int a1, .int (nI 2)]) (rest := []) rfl rfl rfl (T_C_requirePart S w X a1 (nI 2)) (fun _ => ?_) (fun _ _ h => by cases h; rfl)
  refine ab_e_go 1 (6, [(0, .ref 0), (1, .int a1)], [.int a1], (X, w)) rfl ?_
  refine ab_e_bn (c := a1 = nI 0) (17, [(0, .ref 0), (1, .int a1)], [], (X, w)) (9, [(0, .ref 0), (1, .int a1)], [], (X, w)) rfl (fun _ => ?_) (fun _ => ?_)
  · refine ab_e_go 2 (19, [(0, .ref 0), (1, .int a1)], [.int (nI 1), .int a1], (X, w)) rfl ?_
    refine ab_e_bn (c := a1 = nI 1) (32, [(0, .ref 0), (1, .int a1)], [], (X, w)) (22, [(0, .ref 0), (1, .int a1)], [], (X, w)) rfl (fun _ => ?_) (fun _ => ?_)
    · refine ab_e_go 3 (39, [(0, .ref 0), (1, .int a1)], [.int (X 10 2)], (X, w)) rfl ?_
      exact ab_e_rt rfl rfl
    · refine ab_e_go 4 (39, [(0, .ref 0), (1, .int a1)], [.int (X 10 1)], (X, w)) rfl ?_
      exact ab_e_rt rfl rfl
  · refine ab_e_go 3 (16, [(0, .ref 0), (1, .int a1)], [.int (X 10 0)], (X, w)) rfl ?_
    exact ab_e_rt rfl rfl
def F_J_bitCount (a0 : Int32) : Option Int32 :=
  some ((((((((a0 - (((a0.toUInt32 >>> ((nI 1).toUInt32 &&& Int32.toUInt32 31)).toInt32) &&& (nI 1431655765))) &&& (nI 858993459)) + ((((a0 - (((a0.toUInt32 >>> ((nI 1).toUInt32 &&& Int32.toUInt32 31)).toInt32) &&& (nI 1431655765))).toUInt32 >>> ((nI 2).toUInt32 &&& Int32.toUInt32 31)).toInt32) &&& (nI 858993459))) + (((((a0 - (((a0.toUInt32 >>> ((nI 1).toUInt32 &&& Int32.toUInt32 31)).toInt32) &&& (nI 1431655765))) &&& (nI 858993459)) + ((((a0 - (((a0.toUInt32 >>> ((nI 1).toUInt32 &&& Int32.toUInt32 31)).toInt32) &&& (nI 1431655765))).toUInt32 >>> ((nI 2).toUInt32 &&& Int32.toUInt32 31)).toInt32) &&& (nI 858993459))).toUInt32 >>> ((nI 4).toUInt32 &&& Int32.toUInt32 31)).toInt32)) &&& (nI 252645135)) + (((((((a0 - (((a0.toUInt32 >>> ((nI 1).toUInt32 &&& Int32.toUInt32 31)).toInt32) &&& (nI 1431655765))) &&& (nI 858993459)) + ((((a0 - (((a0.toUInt32 >>> ((nI 1).toUInt32 &&& Int32.toUInt32 31)).toInt32) &&& (nI 1431655765))).toUInt32 >>> ((nI 2).toUInt32 &&& Int32.toUInt32 31)).toInt32) &&& (nI 858993459))) + (((((a0 - (((a0.toUInt32 >>> ((nI 1).toUInt32 &&& Int32.toUInt32 31)).toInt32) &&& (nI 1431655765))) &&& (nI 858993459)) + ((((a0 - (((a0.toUInt32 >>> ((nI 1).toUInt32 &&& Int32.toUInt32 31)).toInt32) &&& (nI 1431655765))).toUInt32 >>> ((nI 2).toUInt32 &&& Int32.toUInt32 31)).toInt32) &&& (nI 858993459))).toUInt32 >>> ((nI 4).toUInt32 &&& Int32.toUInt32 31)).toInt32)) &&& (nI 252645135)).toUInt32 >>> ((nI 8).toUInt32 &&& Int32.toUInt32 31)).toInt32)) + ((((((((a0 - (((a0.toUInt32 >>> ((nI 1).toUInt32 &&& Int32.toUInt32 31)).toInt32) &&& (nI 1431655765))) &&& (nI 858993459)) + ((((a0 - (((a0.toUInt32 >>> ((nI 1).toUInt32 &&& Int32.toUInt32 31)).toInt32) &&& (nI 1431655765))).toUInt32 >>> ((nI 2).toUInt32 &&& Int32.toUInt32 31)).toInt32) &&& (nI 858993459))) + (((((a0 - (((a0.toUInt32 >>> ((nI 1).toUInt32 &&& Int32.toUInt32 31)).toInt32) &&& (nI 1431655765))) &&& (nI 858993459)) + ((((a0 - (((a0.toUInt32 >>> ((nI 1).toUInt32 &&& Int32.toUInt32 31)).toInt32) &&& (nI 1431655765))).toUInt32 >>> ((nI 2).toUInt32 &&& Int32.toUInt32 31)).toInt32) &&& (nI 858993459))).toUInt32 >>> ((nI 4).toUInt32 &&& Int32.toUInt32 31)).toInt32)) &&& (nI 252645135)) + (((((((a0 - (((a0.toUInt32 >>> ((nI 1).toUInt32 &&& Int32.toUInt32 31)).toInt32) &&& (nI 1431655765))) &&& (nI 858993459)) + ((((a0 - (((a0.toUInt32 >>> ((nI 1).toUInt32 &&& Int32.toUInt32 31)).toInt32) &&& (nI 1431655765))).toUInt32 >>> ((nI 2).toUInt32 &&& Int32.toUInt32 31)).toInt32) &&& (nI 858993459))) + (((((a0 - (((a0.toUInt32 >>> ((nI 1).toUInt32 &&& Int32.toUInt32 31)).toInt32) &&& (nI 1431655765))) &&& (nI 858993459)) + ((((a0 - (((a0.toUInt32 >>> ((nI 1).toUInt32 &&& Int32.toUInt32 31)).toInt32) &&& (nI 1431655765))).toUInt32 >>> ((nI 2).toUInt32 &&& Int32.toUInt32 31)).toInt32) &&& (nI 858993459))).toUInt32 >>> ((nI 4).toUInt32 &&& Int32.toUInt32 31)).toInt32)) &&& (nI 252645135)).toUInt32 >>> ((nI 8).toUInt32 &&& Int32.toUInt32 31)).toInt32)).toUInt32 >>> ((nI 16).toUInt32 &&& Int32.toUInt32 31)).toInt32)) &&& (nI 63))
set_option maxRecDepth 4000 in
theorem T_J_bitCount (S : Nat × (Nat → Int32)) (w : ab_WW) (X : ab_XX) (a0 : Int32) : ab_Eg (ab_m1 ab_fI (X, w)) S 46 (0, lv_args 0 [.int a0], [], (X, w)) (F_J_bitCount a0) := by
  show ab_Eg (ab_m1 ab_fI (X, w)) S 46 (0, [(0, .int a0)], [], (X, w)) _
  unfold F_J_bitCount
  refine ab_e_go 41 (52, [(0, .int (((((((a0 - (((a0.toUInt32 >>> ((nI 1).toUInt32 &&& Int32.toUInt32 31)).toInt32) &&& (nI 1431655765))) &&& (nI 858993459)) + ((((a0 - (((a0.toUInt32 >>> ((nI 1).toUInt32 &&& Int32.toUInt32 31)).toInt32) &&& (nI 1431655765))).toUInt32 >>> ((nI 2).toUInt32 &&& Int32.toUInt32 31)).toInt32) &&& (nI 858993459))) + (((((a0 - (((a0.toUInt32 >>> ((nI 1).toUInt32 &&& Int32.toUInt32 31)).toInt32) &&& (nI 1431655765))) &&& (nI 858993459)) + ((((a0 - (((a0.toUInt32 >>> ((nI 1).toUInt32 &&& Int32.toUInt32 31)).toInt32) &&& (nI 1431655765))).toUInt32 >>> ((nI 2).toUInt32 &&& Int32.toUInt32 31)).toInt32) &&& (nI 858993459))).toUInt32 >>> ((nI 4).toUInt32 &&& Int32.toUInt32 31)).toInt32)) &&& (nI 252645135)) + (((((((a0 - (((a0.toUInt32 >>> ((nI 1).toUInt32 &&& Int32.toUInt32 31)).toInt32) &&& (nI 1431655765))) &&& (nI 858993459)) + ((((a0 - (((a0.toUInt32 >>> ((nI 1).toUInt32 &&& Int32.toUInt32 31)).toInt32) &&& (nI 1431655765))).toUInt32 >>> ((nI 2).toUInt32 &&& Int32.toUInt32 31)).toInt32) &&& (nI 858993459))) + (((((a0 - (((a0.toUInt32 >>> ((nI 1).toUInt32 &&& Int32.toUInt32 31)).toInt32) &&& (nI 1431655765))) &&& (nI 858993459)) + ((((a0 - (((a0.toUInt32 >>> ((nI 1).toUInt32 &&& Int32.toUInt32 31)).toInt32) &&& (nI 1431655765))).toUInt32 >>> ((nI 2).toUInt32 &&& Int32.toUInt32 31)).toInt32) &&& (nI 858993459))).toUInt32 >>> ((nI 4).toUInt32 &&& Int32.toUInt32 31)).toInt32)) &&& (nI 252645135)).toUInt32 >>> ((nI 8).toUInt32 &&& Int32.toUInt32 31)).toInt32)) + ((((((((a0 - (((a0.toUInt32 >>> ((nI 1).toUInt32 &&& Int32.toUInt32 31)).toInt32) &&& (nI 1431655765))) &&& (nI 858993459)) + ((((a0 - (((a0.toUInt32 >>> ((nI 1).toUInt32 &&& Int32.toUInt32 31)).toInt32) &&& (nI 1431655765))).toUInt32 >>> ((nI 2).toUInt32 &&& Int32.toUInt32 31)).toInt32) &&& (nI 858993459))) + (((((a0 - (((a0.toUInt32 >>> ((nI 1).toUInt32 &&& Int32.toUInt32 31)).toInt32) &&& (nI 1431655765))) &&& (nI 858993459)) + ((((a0 - (((a0.toUInt32 >>> ((nI 1).toUInt32 &&& Int32.toUInt32 31)).toInt32) &&& (nI 1431655765))).toUInt32 >>> ((nI 2).toUInt32 &&& Int32.toUInt32 31)).toInt32) &&& (nI 858993459))).toUInt32 >>> ((nI 4).toUInt32 &&& Int32.toUInt32 31)).toInt32)) &&& (nI 252645135)) + (((((((a0 - (((a0.toUInt32 >>> ((nI 1).toUInt32 &&& Int32.toUInt32 31)).toInt32) &&& (nI 1431655765))) &&& (nI 858993459)) + ((((a0 - (((a0.toUInt32 >>> ((nI 1).toUInt32 &&& Int32.toUInt32 31)).toInt32) &&& (nI 1431655765))).toUInt32 >>> ((nI 2).toUInt32 &&& Int32.toUInt32 31)).toInt32) &&& (nI 858993459))) + (((((a0 - (((a0.toUInt32 >>> ((nI 1).toUInt32 &&& Int32.toUInt32 31)).toInt32) &&& (nI 1431655765))) &&& (nI 858993459)) + ((((a0 - (((a0.toUInt32 >>> ((nI 1).toUInt32 &&& Int32.toUInt32 31)).toInt32) &&& (nI 1431655765))).toUInt32 >>> ((nI 2).toUInt32 &&& Int32.toUInt32 31)).toInt32) &&& (nI 858993459))).toUInt32 >>> ((nI 4).toUInt32 &&& Int32.toUInt32 31)).toInt32)) &&& (nI 252645135)).toUInt32 >>> ((nI 8).toUInt32 &&& Int32.toUInt32 31)).toInt32)).toUInt32 >>> ((nI 16).toUInt32 &&& Int32.toUInt32 31)).toInt32)))], [.int ((((((((a0 - (((a0.toUInt32 >>> ((nI 1).toUInt32 &&& Int32.toUInt32 31)).toInt32) &&& (nI 1431655765))) &&& (nI 858993459)) + ((((a0 - (((a0.toUInt32 >>> ((nI 1).toUInt32 &&& Int32.toUInt32 31)).toInt32) &&& (nI 1431655765))).toUInt32 >>> ((nI 2).toUInt32 &&& Int32.toUInt32 31)).toInt32) &&& (nI 858993459))) + (((((a0 - (((a0.toUInt32 >>> ((nI 1).toUInt32 &&& Int32.toUInt32 31)).toInt32) &&& (nI 1431655765))) &&& (nI 858993459)) + ((((a0 - (((a0.toUInt32 >>> ((nI 1).toUInt32 &&& Int32.toUInt32 31)).toInt32) &&& (nI 1431655765))).toUInt32 >>> ((nI 2).toUInt32 &&& Int32.toUInt32 31)).toInt32) &&& (nI 858993459))).toUInt32 >>> ((nI 4).toUInt32 &&& Int32.toUInt32 31)).toInt32)) &&& (nI 252645135)) + (((((((a0 - (((a0.toUInt32 >>> ((nI 1).toUInt32 &&& Int32.toUInt32 31)).toInt32) &&& (nI 1431655765))) &&& (nI 858993459)) + ((((a0 - (((a0.toUInt32 >>> ((nI 1).toUInt32 &&& Int32.toUInt32 31)).toInt32) &&& (nI 1431655765))).toUInt32 >>> ((nI 2).toUInt32 &&& Int32.toUInt32 31)).toInt32) &&& (nI 858993459))) + (((((a0 - (((a0.toUInt32 >>> ((nI 1).toUInt32 &&& Int32.toUInt32 31)).toInt32) &&& (nI 1431655765))) &&& (nI 858993459)) + ((((a0 - (((a0.toUInt32 >>> ((nI 1).toUInt32 &&& Int32.toUInt32 31)).toInt32) &&& (nI 1431655765))).toUInt32 >>> ((nI 2).toUInt32 &&& Int32.toUInt32 31)).toInt32) &&& (nI 858993459))).toUInt32 >>> ((nI 4).toUInt32 &&& Int32.toUInt32 31)).toInt32)) &&& (nI 252645135)).toUInt32 >>> ((nI 8).toUInt32 &&& Int32.toUInt32 31)).toInt32)) + ((((((((a0 - (((a0.toUInt32 >>> ((nI 1).toUInt32 &&& Int32.toUInt32 31)).toInt32) &&& (nI 1431655765))) &&& (nI 858993459)) + ((((a0 - (((a0.toUInt32 >>> ((nI 1).toUInt32 &&& Int32.toUInt32 31)).toInt32) &&& (nI 1431655765))).toUInt32 >>> ((nI 2).toUInt32 &&& Int32.toUInt32 31)).toInt32) &&& (nI 858993459))) + (((((a0 - (((a0.toUInt32 >>> ((nI 1).toUInt32 &&& Int32.toUInt32 31)).toInt32) &&& (nI 1431655765))) &&& (nI 858993459)) + ((((a0 - (((a0.toUInt32 >>> ((nI 1).toUInt32 &&& Int32.toUInt32 31)).toInt32) &&& (nI 1431655765))).toUInt32 >>> ((nI 2).toUInt32 &&& Int32.toUInt32 31)).toInt32) &&& (nI 858993459))).toUInt32 >>> ((nI 4).toUInt32 &&& Int32.toUInt32 31)).toInt32)) &&& (nI 252645135)) + (((((((a0 - (((a0.toUInt32 >>> ((nI 1).toUInt32 &&& Int32.toUInt32 31)).toInt32) &&& (nI 1431655765))) &&& (nI 858993459)) + ((((a0 - (((a0.toUInt32 >>> ((nI 1).toUInt32 &&& Int32.toUInt32 31)).toInt32) &&& (nI 1431655765))).toUInt32 >>> ((nI 2).toUInt32 &&& Int32.toUInt32 31)).toInt32) &&& (nI 858993459))) + (((((a0 - (((a0.toUInt32 >>> ((nI 1).toUInt32 &&& Int32.toUInt32 31)).toInt32) &&& (nI 1431655765))) &&& (nI 858993459)) + ((((a0 - (((a0.toUInt32 >>> ((nI 1).toUInt32 &&& Int32.toUInt32 31)).toInt32) &&& (nI 1431655765))).toUInt32 >>> ((nI 2).toUInt32 &&& Int32.toUInt32 31)).toInt32) &&& (nI 858993459))).toUInt32 >>> ((nI 4).toUInt32 &&& Int32.toUInt32 31)).toInt32)) &&& (nI 252645135)).toUInt32 >>> ((nI 8).toUInt32 &&& Int32.toUInt32 31)).toInt32)).toUInt32 >>> ((nI 16).toUInt32 &&& Int32.toUInt32 31)).toInt32)) &&& (nI 63))], (X, w)) rfl ?_
  exact ab_e_rt rfl rfl
def L_U_leastGap_18 (X : ab_XX) (K4 : Int32 → Int32 → Int32 → Option Int32) : Nat → Int32 → Int32 → Int32 → Int32 → Option Int32
  | 0, _, _, _, _ => none
  | n + 1, a1, a2, a3, a4 =>
    (F_K_shiftTotal X).bind fun v48 =>
    if v48 ≤ a4 then
      K4 a1 a2 (a3 + (nI 1))
    else
      (F_K_shiftPart X a4 (nI 6)).bind fun v49 =>
      (F_K_shiftPart X a3 (nI 7)).bind fun v50 =>
      (F_K_isIn a3 a1).bind fun v51 =>
      if v51 = nI 0 then
        L_U_leastGap_18 X K4 n a1 a2 a3 (a4 + (nI 1))
      else
        (F_K_isIn a4 a1).bind fun v52 =>
        if v52 = nI 0 then
          L_U_leastGap_18 X K4 n a1 a2 a3 (a4 + (nI 1))
        else
          if (v49 - v50) < nI 0 then
            L_U_leastGap_18 X K4 n a1 a2 a3 (a4 + (nI 1))
          else
            if a2 = (-1 : Int32) then
              L_U_leastGap_18 X K4 n a1 (v49 - v50) a3 (a4 + (nI 1))
            else
              if a2 ≤ (v49 - v50) then
                L_U_leastGap_18 X K4 n a1 a2 a3 (a4 + (nI 1))
              else
                L_U_leastGap_18 X K4 n a1 (v49 - v50) a3 (a4 + (nI 1))
set_option maxRecDepth 4000 in
theorem T_L_U_leastGap_18 (S : Nat × (Nat → Int32)) (w : ab_WW) (X : ab_XX) (K4 : Int32 → Int32 → Int32 → Option Int32) (hK4 : ∀ (a1 : Int32) (a2 : Int32) (a3 : Int32), ab_Eg (ab_m1 ab_fI (X, w)) S 80 (4, [(0, .ref 1), (1, .int a1), (2, .int a2), (3, .int a3)], [], (X, w)) (K4 a1 a2 a3)) : ∀ (n : Nat) (a1 : Int32) (a2 : Int32) (a3 : Int32) (a4 : Int32), ab_Eg (ab_m1 ab_fI (X, w)) S 80 (18, [(0, .ref 1), (1, .int a1), (2, .int a2), (3, .int a3), (4, .int a4)], [], (X, w)) (L_U_leastGap_18 X K4 n a1 a2 a3 a4) := by
  intro n
  induction n with
  | zero => intro a1 a2 a3 a4; exact ab_e_none
  | succ n ih =>
    intro a1 a2 a3 a4
    unfold L_U_leastGap_18
    refine ab_e_go 3 (24, [(0, .ref 1), (1, .int a1), (2, .int a2), (3, .int a3), (4, .int a4)], [.ref 2, .int a4], (X, w)) rfl ?_
    refine ab_e_c1 (k2 := 25) (as := [.ref 2]) (rest := [.int a4]) rfl rfl (T_K_shiftTotal S w X) (fun v48 => ?_)
    refine ab_e_br (c := v48 ≤ a4) (96, [(0, .ref 1), (1, .int a1), (2, .int a2), (3, .int a3), (4, .int a4)], [], (X, w)) (30, [(0, .ref 1), (1, .int a1), (2, .int a2), (3, .int a3), (4, .int a4)], [], (X, w)) rfl (fun _ => ?_) (fun _ => ?_)
    · refine ab_e_go 2 (4, [(3, .int (a3 + (nI 1))), (0, .ref 1), (1, .int a1), (2, .int a2), (4, .int a4)], [], (X, w)) rfl ?_
      refine ab_e_wk [(0, .ref 1), (1, .int a1), (2, .int a2), (3, .int (a3 + (nI 1)))] ⟨rfl, rfl, rfl, rfl, trivial⟩ ?_
      exact hK4 a1 a2 (a3 + (nI 1))
    · refine ab_e_go 4 (38, [(0, .ref 1), (1, .int a1), (2, .int a2), (3, .int a3), (4, .int a4)], [.int (nI 6), .int a4, .ref 2], (X, w)) rfl ?_
      refine ab_e_c1 (k2 := 24) (as := [.ref 2, .int a4, .int (nI 6)]) (rest := []) rfl rfl (T_K_shiftPart S w X a4 (nI 6)) (fun v49 => ?_)
      refine ab_e_go 4 (48, [(0, .ref 1), (1, .int a1), (2, .int a2), (3, .int a3), (4, .int a4)], [.int (nI 7), .int a3, .ref 2, .int v49], (X, w)) rfl ?_
      refine ab_e_c1 (k2 := 24) (as := [.ref 2, .int a3, .int (nI 7)]) (rest := [.int v49]) rfl rfl (T_K_shiftPart S w X a3 (nI 7)) (fun v50 => ?_)
      refine ab_e_go 4 (56, [(5, .int (v49 - v50)), (0, .ref 1), (1, .int a1), (2, .int a2), (3, .int a3), (4, .int a4)], [.int a1, .int a3], (X, w)) rfl ?_
      refine ab_e_c1 (k2 := 17) (as := [.int a3, .int a1]) (rest := []) rfl rfl (T_K_isIn S w X a3 a1) (fun v51 => ?_)
      refine ab_e_br (c := v51 = nI 0) (90, [(5, .int (v49 - v50)), (0, .ref 1), (1, .int a1), (2, .int a2), (3, .int a3), (4, .int a4)], [], (X, w)) (62, [(5, .int (v49 - v50)), (0, .ref 1), (1, .int a1), (2, .int a2), (3, .int a3), (4, .int a4)], [], (X, w)) rfl (fun _ => ?_) (fun _ => ?_)
      · refine ab_e_go 2 (18, [(4, .int (a4 + (nI 1))), (5, .int (v49 - v50)), (0, .ref 1), (1, .int a1), (2, .int a2), (3, .int a3)], [], (X, w)) rfl ?_
        refine ab_e_wk [(0, .ref 1), (1, .int a1), (2, .int a2), (3, .int a3), (4, .int (a4 + (nI 1)))] ⟨rfl, rfl, rfl, rfl, rfl, trivial⟩ ?_
        exact ih a1 a2 a3 (a4 + (nI 1))
      · refine ab_e_go 2 (65, [(5, .int (v49 - v50)), (0, .ref 1), (1, .int a1), (2, .int a2), (3, .int a3), (4, .int a4)], [.int a1, .int a4], (X, w)) rfl ?_
        refine ab_e_c1 (k2 := 17) (as := [.int a4, .int a1]) (rest := []) rfl rfl (T_K_isIn S w X a4 a1) (fun v52 => ?_)
        refine ab_e_br (c := v52 = nI 0) (90, [(5, .int (v49 - v50)), (0, .ref 1), (1, .int a1), (2, .int a2), (3, .int a3), (4, .int a4)], [], (X, w)) (71, [(5, .int (v49 - v50)), (0, .ref 1), (1, .int a1), (2, .int a2), (3, .int a3), (4, .int a4)], [], (X, w)) rfl (fun _ => ?_) (fun _ => ?_)
        · refine ab_e_go 2 (18, [(4, .int (a4 + (nI 1))), (5, .int (v49 - v50)), (0, .ref 1), (1, .int a1), (2, .int a2), (3, .int a3)], [], (X, w)) rfl ?_
          refine ab_e_wk [(0, .ref 1), (1, .int a1), (2, .int a2), (3, .int a3), (4, .int (a4 + (nI 1)))] ⟨rfl, rfl, rfl, rfl, rfl, trivial⟩ ?_
          exact ih a1 a2 a3 (a4 + (nI 1))
        · refine ab_e_go 1 (73, [(5, .int (v49 - v50)), (0, .ref 1), (1, .int a1), (2, .int a2), (3, .int a3), (4, .int a4)], [.int (v49 - v50)], (X, w)) rfl ?_
          refine ab_e_br (c := (v49 - v50) < nI 0) (90, [(5, .int (v49 - v50)), (0, .ref 1), (1, .int a1), (2, .int a2), (3, .int a3), (4, .int a4)], [], (X, w)) (76, [(5, .int (v49 - v50)), (0, .ref 1), (1, .int a1), (2, .int a2), (3, .int a3), (4, .int a4)], [], (X, w)) rfl (fun _ => ?_) (fun _ => ?_)
          · refine ab_e_go 2 (18, [(4, .int (a4 + (nI 1))), (5, .int (v49 - v50)), (0, .ref 1), (1, .int a1), (2, .int a2), (3, .int a3)], [], (X, w)) rfl ?_
            refine ab_e_wk [(0, .ref 1), (1, .int a1), (2, .int a2), (3, .int a3), (4, .int (a4 + (nI 1)))] ⟨rfl, rfl, rfl, rfl, rfl, trivial⟩ ?_
            exact ih a1 a2 a3 (a4 + (nI 1))
          · refine ab_e_go 2 (78, [(5, .int (v49 - v50)), (0, .ref 1), (1, .int a1), (2, .int a2), (3, .int a3), (4, .int a4)], [.int (-1 : Int32), .int a2], (X, w)) rfl ?_
            refine ab_e_br (c := a2 = (-1 : Int32)) (87, [(5, .int (v49 - v50)), (0, .ref 1), (1, .int a1), (2, .int a2), (3, .int a3), (4, .int a4)], [], (X, w)) (81, [(5, .int (v49 - v50)), (0, .ref 1), (1, .int a1), (2, .int a2), (3, .int a3), (4, .int a4)], [], (X, w)) rfl (fun _ => ?_) (fun _ => ?_)
            · refine ab_e_go 4 (18, [(4, .int (a4 + (nI 1))), (2, .int (v49 - v50)), (5, .int (v49 - v50)), (0, .ref 1), (1, .int a1), (3, .int a3)], [], (X, w)) rfl ?_
              refine ab_e_wk [(0, .ref 1), (1, .int a1), (2, .int (v49 - v50)), (3, .int a3), (4, .int (a4 + (nI 1)))] ⟨rfl, rfl, rfl, rfl, rfl, trivial⟩ ?_
              exact ih a1 (v49 - v50) a3 (a4 + (nI 1))
            · refine ab_e_go 2 (84, [(5, .int (v49 - v50)), (0, .ref 1), (1, .int a1), (2, .int a2), (3, .int a3), (4, .int a4)], [.int a2, .int (v49 - v50)], (X, w)) rfl ?_
              refine ab_e_br (c := a2 ≤ (v49 - v50)) (90, [(5, .int (v49 - v50)), (0, .ref 1), (1, .int a1), (2, .int a2), (3, .int a3), (4, .int a4)], [], (X, w)) (87, [(5, .int (v49 - v50)), (0, .ref 1), (1, .int a1), (2, .int a2), (3, .int a3), (4, .int a4)], [], (X, w)) rfl (fun _ => ?_) (fun _ => ?_)
              · refine ab_e_go 2 (18, [(4, .int (a4 + (nI 1))), (5, .int (v49 - v50)), (0, .ref 1), (1, .int a1), (2, .int a2), (3, .int a3)], [], (X, w)) rfl ?_
                refine ab_e_wk [(0, .ref 1), (1, .int a1), (2, .int a2), (3, .int a3), (4, .int (a4 + (nI 1)))] ⟨rfl, rfl, rfl, rfl, rfl, trivial⟩ ?_
                exact ih a1 a2 a3 (a4 + (nI 1))
              · refine ab_e_go 4 (18, [(4, .int (a4 + (nI 1))), (2, .int (v49 - v50)), (5, .int (v49 - v50)), (0, .ref 1), (1, .int a1), (3, .int a3)], [], (X, w)) rfl ?_
                refine ab_e_wk [(0, .ref 1), (1, .int a1), (2, .int (v49 - v50)), (3, .int a3), (4, .int (a4 + (nI 1)))] ⟨rfl, rfl, rfl, rfl, rfl, trivial⟩ ?_
                exact ih a1 (v49 - v50) a3 (a4 + (nI 1))
def L_U_leastGap_4 (X : ab_XX) : Nat → Int32 → Int32 → Int32 → Option Int32
  | 0, _, _, _ => none
  | n + 1, a1, a2, a3 =>
    (F_K_shiftTotal X).bind fun v47 =>
    if v47 ≤ a3 then
      some a2
    else
      L_U_leastGap_18 X (fun b1 b2 b3 => L_U_leastGap_4 X n b1 b2 b3) ab_fu a1 a2 a3 (nI 0)
set_option maxRecDepth 4000 in
theorem T_L_U_leastGap_4 (S : Nat × (Nat → Int32)) (w : ab_WW) (X : ab_XX) : ∀ (n : Nat) (a1 : Int32) (a2 : Int32) (a3 : Int32), ab_Eg (ab_m1 ab_fI (X, w)) S 80 (4, [(0, .ref 1), (1, .int a1), (2, .int a2), (3, .int a3)], [], (X, w)) (L_U_leastGap_4 X n a1 a2 a3) := by
  intro n
  induction n with
  | zero => intro a1 a2 a3; exact ab_e_none
  | succ n ih =>
    intro a1 a2 a3
    unfold L_U_leastGap_4
    refine ab_e_go 3 (9, [(0, .ref 1), (1, .int a1), (2, .int a2), (3, .int a3)], [.ref 2, .int a3], (X, w)) rfl ?_
    refine ab_e_c1 (k2 := 25) (as := [.ref 2]) (rest := [.int a3]) rfl rfl (T_K_shiftTotal S w X) (fun v47 => ?_)
    refine ab_e_br (c := v47 ≤ a3) (102, [(0, .ref 1), (1, .int a1), (2, .int a2), (3, .int a3)], [], (X, w)) (15, [(0, .ref 1), (1, .int a1), (2, .int a2), (3, .int a3)], [], (X, w)) rfl (fun _ => ?_) (fun _ => ?_)
    · refine ab_e_go 1 (103, [(0, .ref 1), (1, .int a1), (2, .int a2), (3, .int a3)], [.int a2], (X, w)) rfl ?_
      exact ab_e_rt rfl rfl
    · refine ab_e_go 2 (18, [(4, .int (nI 0)), (0, .ref 1), (1, .int a1), (2, .int a2), (3, .int a3)], [], (X, w)) rfl ?_
      refine ab_e_wk [(0, .ref 1), (1, .int a1), (2, .int a2), (3, .int a3), (4, .int (nI 0))] ⟨rfl, rfl, rfl, rfl, rfl, trivial⟩ ?_
      exact T_L_U_leastGap_18 S w X _ (fun b1 b2 b3 => ih b1 b2 b3) ab_fu a1 a2 a3 (nI 0)
def F_U_leastGap (X : ab_XX) (a1 : Int32) : Option Int32 :=
  L_U_leastGap_4 X ab_fu a1 (-1 : Int32) (nI 0)
set_option maxRecDepth 4000 in
theorem T_U_leastGap (S : Nat × (Nat → Int32)) (w : ab_WW) (X : ab_XX) (a1 : Int32) : ab_Eg (ab_m1 ab_fI (X, w)) S 80 (0, lv_args 0 [.ref 1, .int a1], [], (X, w)) (F_U_leastGap X a1) := by
  show ab_Eg (ab_m1 ab_fI (X, w)) S 80 (0, [(0, .ref 1), (1, .int a1)], [], (X, w)) _
  unfold F_U_leastGap
  refine ab_e_go 4 (4, [(3, .int (nI 0)), (2, .int (-1 : Int32)), (0, .ref 1), (1, .int a1)], [], (X, w)) rfl ?_
  refine ab_e_wk [(0, .ref 1), (1, .int a1), (2, .int (-1 : Int32)), (3, .int (nI 0))] ⟨rfl, rfl, rfl, rfl, trivial⟩ ?_
  exact T_L_U_leastGap_4 S w X ab_fu a1 (-1 : Int32) (nI 0)
def F_C_shortestRest (X : ab_XX) (a1 : Int32) : Option (Int32 ⊕ Nat) :=
  ab_b2 (F_C_requireWorker X a1) (fun _ =>
    (F_K_heldBy X a1).bind fun v45 =>
    (F_J_bitCount v45).bind fun v46 =>
    if nI 2 ≤ v46 then
      (F_U_leastGap X v45).bind fun v53 =>
      some (.inl v53)
    else
      some (.inr 4)) (fun y => some (.inr y))
set_option maxRecDepth 4000 in
theorem T_C_shortestRest (S : Nat × (Nat → Int32)) (w : ab_WW) (X : ab_XX) (a1 : Int32) : ab_Eg (ab_m2 ab_fI (X, w)) S 121 (0, lv_args 0 [.ref 0, .int a1], [], (X, w)) (F_C_shortestRest X a1) := by
  show ab_Eg (ab_m2 ab_fI (X, w)) S 121 (0, [(0, .ref 0), (1, .int a1)], [], (X, w)) _
  unfold F_C_shortestRest
  refine ab_e_go 2 (2, [(0, .ref 0), (1, .int a1)], [.int a1, .ref 0], (X, w)) rfl ?_
  refine ab_e_c2 (k2 := 52) (as := [.ref 0, .int a1]) (rest := []) rfl rfl rfl (T_C_requireWorker S w X a1) (fun _ => ?_) (fun _ _ h => by cases h; rfl)
  refine ab_e_go 3 (10, [(0, .ref 0), (1, .int a1)], [.int a1, .ref 2], (X, w)) rfl ?_
  refine ab_e_c1 (k2 := 66) (as := [.ref 2, .int a1]) (rest := []) rfl rfl (T_K_heldBy S w X a1) (fun v45 => ?_)
  refine ab_e_go 2 (15, [(2, .int v45), (0, .ref 0), (1, .int a1)], [.int v45], (X, w)) rfl ?_
  refine ab_e_c1 (k2 := 46) (as := [.int v45]) (rest := []) rfl rfl (T_J_bitCount S w X v45) (fun v46 => ?_)
  refine ab_e_go 1 (19, [(2, .int v45), (0, .ref 0), (1, .int a1)], [.int (nI 2), .int v46], (X, w)) rfl ?_
  refine ab_e_br (c := nI 2 ≤ v46) (33, [(2, .int v45), (0, .ref 0), (1, .int a1)], [], (X, w)) (22, [(2, .int v45), (0, .ref 0), (1, .int a1)], [], (X, w)) rfl (fun _ => ?_) (fun _ => ?_)
  · refine ab_e_go 3 (38, [(2, .int v45), (0, .ref 0), (1, .int a1)], [.int v45, .ref 1], (X, w)) rfl ?_
    refine ab_e_c1 (k2 := 80) (as := [.ref 1, .int v45]) (rest := []) rfl rfl (T_U_leastGap S w X v45) (fun v53 => ?_)
    exact ab_e_rt rfl rfl
  · exact ab_e_rt rfl rfl
def F_K_workerPart (X : ab_XX) (a1 : Int32) (a2 : Int32) : Option Int32 :=
  if (((nI 3) + (a1 * (nI 5))) + a2) < nI 0 then
    some (nI 0)
  else
    if nI 453 ≤ (((nI 3) + (a1 * (nI 5))) + a2) then
      some (nI 0)
    else
      if ab_in (((nI 3) + (a1 * (nI 5))) + a2) 453 = true then
        (some (X 3 (((nI 3) + (a1 * (nI 5))) + a2).toNatClampNeg)).bind fun v54 =>
        some v54
      else none
set_option maxRecDepth 4000 in
theorem T_K_workerPart (S : Nat × (Nat → Int32)) (w : ab_WW) (X : ab_XX) (a1 : Int32) (a2 : Int32) : ab_Eg (ab_m1 ab_fI (X, w)) S 26 (0, lv_args 0 [.ref 2, .int a1, .int a2], [], (X, w)) (F_K_workerPart X a1 a2) := by
  show ab_Eg (ab_m1 ab_fI (X, w)) S 26 (0, [(0, .ref 2), (1, .int a1), (2, .int a2)], [], (X, w)) _
  unfold F_K_workerPart
  refine ab_e_go 9 (9, [(3, .int (((nI 3) + (a1 * (nI 5))) + a2)), (0, .ref 2), (1, .int a1), (2, .int a2)], [.int (((nI 3) + (a1 * (nI 5))) + a2)], (X, w)) rfl ?_
  refine ab_e_br (c := (((nI 3) + (a1 * (nI 5))) + a2) < nI 0) (30, [(3, .int (((nI 3) + (a1 * (nI 5))) + a2)), (0, .ref 2), (1, .int a1), (2, .int a2)], [], (X, w)) (12, [(3, .int (((nI 3) + (a1 * (nI 5))) + a2)), (0, .ref 2), (1, .int a1), (2, .int a2)], [], (X, w)) rfl (fun _ => ?_) (fun _ => ?_)
  · refine ab_e_go 1 (31, [(3, .int (((nI 3) + (a1 * (nI 5))) + a2)), (0, .ref 2), (1, .int a1), (2, .int a2)], [.int (nI 0)], (X, w)) rfl ?_
    exact ab_e_rt rfl rfl
  · refine ab_e_go 4 (18, [(3, .int (((nI 3) + (a1 * (nI 5))) + a2)), (0, .ref 2), (1, .int a1), (2, .int a2)], [.int (nI 453), .int (((nI 3) + (a1 * (nI 5))) + a2)], (X, w)) rfl ?_
    refine ab_e_br (c := nI 453 ≤ (((nI 3) + (a1 * (nI 5))) + a2)) (30, [(3, .int (((nI 3) + (a1 * (nI 5))) + a2)), (0, .ref 2), (1, .int a1), (2, .int a2)], [], (X, w)) (21, [(3, .int (((nI 3) + (a1 * (nI 5))) + a2)), (0, .ref 2), (1, .int a1), (2, .int a2)], [], (X, w)) rfl (fun _ => ?_) (fun _ => ?_)
    · refine ab_e_go 1 (31, [(3, .int (((nI 3) + (a1 * (nI 5))) + a2)), (0, .ref 2), (1, .int a1), (2, .int a2)], [.int (nI 0)], (X, w)) rfl ?_
      exact ab_e_rt rfl rfl
    · refine ab_e_go 3 (26, [(3, .int (((nI 3) + (a1 * (nI 5))) + a2)), (0, .ref 2), (1, .int a1), (2, .int a2)], [.int (((nI 3) + (a1 * (nI 5))) + a2), .ref 3], (X, w)) rfl ?_
      refine ab_e_gd (27, [(3, .int (((nI 3) + (a1 * (nI 5))) + a2)), (0, .ref 2), (1, .int a1), (2, .int a2)], [.int (X 3 (((nI 3) + (a1 * (nI 5))) + a2).toNatClampNeg)], (X, w)) rfl ?_
      refine ab_e_letI (fun v54 _ => ?_)
      refine ab_e_go 1 (31, [(3, .int (((nI 3) + (a1 * (nI 5))) + a2)), (0, .ref 2), (1, .int a1), (2, .int a2)], [.int v54], (X, w)) rfl ?_
      exact ab_e_rt rfl rfl
def L_K_bidTotal_4 (X : ab_XX) : Nat → Int32 → Int32 → Int32 → Option Int32
  | 0, _, _, _ => none
  | n + 1, a1, a2, a3 =>
    if X 3 1 ≤ a3 then
      some a2
    else
      (F_K_pointsFor X a1 a3).bind fun v56 =>
      if v56 = nI 0 then
        L_K_bidTotal_4 X n a1 a2 (a3 + (nI 1))
      else
        L_K_bidTotal_4 X n a1 (a2 + (nI 1)) (a3 + (nI 1))
set_option maxRecDepth 4000 in
theorem T_L_K_bidTotal_4 (S : Nat × (Nat → Int32)) (w : ab_WW) (X : ab_XX) : ∀ (n : Nat) (a1 : Int32) (a2 : Int32) (a3 : Int32), ab_Eg (ab_m1 ab_fI (X, w)) S 58 (4, [(0, .ref 2), (1, .int a1), (2, .int a2), (3, .int a3)], [], (X, w)) (L_K_bidTotal_4 X n a1 a2 a3) := by
  intro n
  induction n with
  | zero => intro a1 a2 a3; exact ab_e_none
  | succ n ih =>
    intro a1 a2 a3
    unfold L_K_bidTotal_4
    refine ab_e_go 5 (11, [(0, .ref 2), (1, .int a1), (2, .int a2), (3, .int a3)], [.int (X 3 1), .int a3], (X, w)) rfl ?_
    refine ab_e_br (c := X 3 1 ≤ a3) (32, [(0, .ref 2), (1, .int a1), (2, .int a2), (3, .int a3)], [], (X, w)) (14, [(0, .ref 2), (1, .int a1), (2, .int a2), (3, .int a3)], [], (X, w)) rfl (fun _ => ?_) (fun _ => ?_)
    · refine ab_e_go 1 (33, [(0, .ref 2), (1, .int a1), (2, .int a2), (3, .int a3)], [.int a2], (X, w)) rfl ?_
      exact ab_e_rt rfl rfl
    · refine ab_e_go 3 (17, [(0, .ref 2), (1, .int a1), (2, .int a2), (3, .int a3)], [.int a3, .int a1, .ref 2], (X, w)) rfl ?_
      refine ab_e_c1 (k2 := 22) (as := [.ref 2, .int a1, .int a3]) (rest := []) rfl rfl (T_K_pointsFor S w X a1 a3) (fun v56 => ?_)
      refine ab_e_br (c := v56 = nI 0) (26, [(0, .ref 2), (1, .int a1), (2, .int a2), (3, .int a3)], [], (X, w)) (23, [(0, .ref 2), (1, .int a1), (2, .int a2), (3, .int a3)], [], (X, w)) rfl (fun _ => ?_) (fun _ => ?_)
      · refine ab_e_go 2 (4, [(3, .int (a3 + (nI 1))), (0, .ref 2), (1, .int a1), (2, .int a2)], [], (X, w)) rfl ?_
        refine ab_e_wk [(0, .ref 2), (1, .int a1), (2, .int a2), (3, .int (a3 + (nI 1)))] ⟨rfl, rfl, rfl, rfl, trivial⟩ ?_
        exact ih a1 a2 (a3 + (nI 1))
      · refine ab_e_go 3 (4, [(3, .int (a3 + (nI 1))), (2, .int (a2 + (nI 1))), (0, .ref 2), (1, .int a1)], [], (X, w)) rfl ?_
        refine ab_e_wk [(0, .ref 2), (1, .int a1), (2, .int (a2 + (nI 1))), (3, .int (a3 + (nI 1)))] ⟨rfl, rfl, rfl, rfl, trivial⟩ ?_
        exact ih a1 (a2 + (nI 1)) (a3 + (nI 1))
def F_K_bidTotal (X : ab_XX) (a1 : Int32) : Option Int32 :=
  L_K_bidTotal_4 X ab_fu a1 (nI 0) (nI 0)
set_option maxRecDepth 4000 in
theorem T_K_bidTotal (S : Nat × (Nat → Int32)) (w : ab_WW) (X : ab_XX) (a1 : Int32) : ab_Eg (ab_m1 ab_fI (X, w)) S 58 (0, lv_args 0 [.ref 2, .int a1], [], (X, w)) (F_K_bidTotal X a1) := by
  show ab_Eg (ab_m1 ab_fI (X, w)) S 58 (0, [(0, .ref 2), (1, .int a1)], [], (X, w)) _
  unfold F_K_bidTotal
  refine ab_e_go 4 (4, [(3, .int (nI 0)), (2, .int (nI 0)), (0, .ref 2), (1, .int a1)], [], (X, w)) rfl ?_
  refine ab_e_wk [(0, .ref 2), (1, .int a1), (2, .int (nI 0)), (3, .int (nI 0))] ⟨rfl, rfl, rfl, rfl, trivial⟩ ?_
  exact T_L_K_bidTotal_4 S w X ab_fu a1 (nI 0) (nI 0)
def F_C_worker (X : ab_XX) (a1 : Int32) (a2 : Int32) : Option (Int32 ⊕ Nat) :=
  ab_b2 (F_C_requireWorker X a1) (fun _ =>
    ab_b2 (F_C_requirePart a2 (nI 5)) (fun _ =>
      if a2 = nI 5 then
        (F_K_bidTotal X a1).bind fun v57 =>
        some (.inl v57)
      else
        (F_K_workerPart X a1 a2).bind fun v55 =>
        some (.inl v55)) (fun y => some (.inr y))) (fun y => some (.inr y))
set_option maxRecDepth 4000 in
theorem T_C_worker (S : Nat × (Nat → Int32)) (w : ab_WW) (X : ab_XX) (a1 : Int32) (a2 : Int32) : ab_Eg (ab_m2 ab_fI (X, w)) S 122 (0, lv_args 0 [.ref 0, .int a1, .int a2], [], (X, w)) (F_C_worker X a1 a2) := by
  show ab_Eg (ab_m2 ab_fI (X, w)) S 122 (0, [(0, .ref 0), (1, .int a1), (2, .int a2)], [], (X, w)) _
  unfold F_C_worker
  refine ab_e_go 2 (2, [(0, .ref 0), (1, .int a1), (2, .int a2)], [.int a1, .ref 0], (X, w)) rfl ?_
  refine ab_e_c2 (k2 := 52) (as := [.ref 0, .int a1]) (rest := []) rfl rfl rfl (T_C_requireWorker S w X a1) (fun _ => ?_) (fun _ _ h => by cases h; rfl)
  refine ab_e_go 2 (7, [(0, .ref 0), (1, .int a1), (2, .int a2)], [.int (nI 5), .int a2], (X, w)) rfl ?_
  refine ab_e_c2 (k2 := 50) (as := [.int a2, .int (nI 5)]) (rest := []) rfl rfl rfl (T_C_requirePart S w X a2 (nI 5)) (fun _ => ?_) (fun _ _ h => by cases h; rfl)
  refine ab_e_go 2 (12, [(0, .ref 0), (1, .int a1), (2, .int a2)], [.int (nI 5), .int a2], (X, w)) rfl ?_
  refine ab_e_bn (c := a2 = nI 5) (26, [(0, .ref 0), (1, .int a1), (2, .int a2)], [], (X, w)) (15, [(0, .ref 0), (1, .int a1), (2, .int a2)], [], (X, w)) rfl (fun _ => ?_) (fun _ => ?_)
  · refine ab_e_go 4 (32, [(0, .ref 0), (1, .int a1), (2, .int a2)], [.int a2, .int a1, .ref 2], (X, w)) rfl ?_
    refine ab_e_c1 (k2 := 26) (as := [.ref 2, .int a1, .int a2]) (rest := []) rfl rfl (T_K_workerPart S w X a1 a2) (fun v55 => ?_)
    exact ab_e_rt rfl rfl
  · refine ab_e_go 3 (20, [(0, .ref 0), (1, .int a1), (2, .int a2)], [.int a1, .ref 2], (X, w)) rfl ?_
    refine ab_e_c1 (k2 := 58) (as := [.ref 2, .int a1]) (rest := []) rfl rfl (T_K_bidTotal S w X a1) (fun v57 => ?_)
    refine ab_e_go 1 (35, [(0, .ref 0), (1, .int a1), (2, .int a2)], [.int v57], (X, w)) rfl ?_
    exact ab_e_rt rfl rfl
def F_K_isShiftInRange (a0 : Int32) (a1 : Int32) (a2 : Int32) (a3 : Int32) (a4 : Int32) : Option Int32 :=
  (F_K_isWithin a0 (nI 0) (nI 27)).bind fun v58 =>
  if v58 = nI 0 then
    some (nI 0)
  else
    (F_K_isWithin a1 (nI 0) (nI 23)).bind fun v59 =>
    if v59 = nI 0 then
      some (nI 0)
    else
      (F_K_isWithin a2 (nI 1) (nI 12)).bind fun v60 =>
      if v60 = nI 0 then
        some (nI 0)
      else
        (F_K_isWithin a3 (nI 0) (nI 3)).bind fun v61 =>
        if v61 = nI 0 then
          some (nI 0)
        else
          (F_K_isWithin a4 (nI 1) (nI 3)).bind fun v62 =>
          if v62 = nI 0 then
            some (nI 0)
          else
            some (nI 1)
set_option maxRecDepth 4000 in
theorem T_K_isShiftInRange (S : Nat × (Nat → Int32)) (w : ab_WW) (X : ab_XX) (a0 : Int32) (a1 : Int32) (a2 : Int32) (a3 : Int32) (a4 : Int32) : ab_Eg (ab_m1 ab_fI (X, w)) S 70 (0, lv_args 0 [.int a0, .int a1, .int a2, .int a3, .int a4], [], (X, w)) (F_K_isShiftInRange a0 a1 a2 a3 a4) := by
  show ab_Eg (ab_m1 ab_fI (X, w)) S 70 (0, [(0, .int a0), (1, .int a1), (2, .int a2), (3, .int a3), (4, .int a4)], [], (X, w)) _
  unfold F_K_isShiftInRange
  refine ab_e_go 3 (4, [(0, .int a0), (1, .int a1), (2, .int a2), (3, .int a3), (4, .int a4)], [.int (nI 27), .int (nI 0), .int a0], (X, w)) rfl ?_
  refine ab_e_c1 (k2 := 20) (as := [.int a0, .int (nI 0), .int (nI 27)]) (rest := []) rfl rfl (T_K_isWithin S w X a0 (nI 0) (nI 27)) (fun v58 => ?_)
  refine ab_e_br (c := v58 = nI 0) (53, [(0, .int a0), (1, .int a1), (2, .int a2), (3, .int a3), (4, .int a4)], [], (X, w)) (10, [(0, .int a0), (1, .int a1), (2, .int a2), (3, .int a3), (4, .int a4)], [], (X, w)) rfl (fun _ => ?_) (fun _ => ?_)
  · refine ab_e_go 1 (54, [(0, .int a0), (1, .int a1), (2, .int a2), (3, .int a3), (4, .int a4)], [.int (nI 0)], (X, w)) rfl ?_
    exact ab_e_rt rfl rfl
  · refine ab_e_go 3 (14, [(0, .int a0), (1, .int a1), (2, .int a2), (3, .int a3), (4, .int a4)], [.int (nI 23), .int (nI 0), .int a1], (X, w)) rfl ?_
    refine ab_e_c1 (k2 := 20) (as := [.int a1, .int (nI 0), .int (nI 23)]) (rest := []) rfl rfl (T_K_isWithin S w X a1 (nI 0) (nI 23)) (fun v59 => ?_)
    refine ab_e_br (c := v59 = nI 0) (53, [(0, .int a0), (1, .int a1), (2, .int a2), (3, .int a3), (4, .int a4)], [], (X, w)) (20, [(0, .int a0), (1, .int a1), (2, .int a2), (3, .int a3), (4, .int a4)], [], (X, w)) rfl (fun _ => ?_) (fun _ => ?_)
    · refine ab_e_go 1 (54, [(0, .int a0), (1, .int a1), (2, .int a2), (3, .int a3), (4, .int a4)], [.int (nI 0)], (X, w)) rfl ?_
      exact ab_e_rt rfl rfl
    · refine ab_e_go 3 (24, [(0, .int a0), (1, .int a1), (2, .int a2), (3, .int a3), (4, .int a4)], [.int (nI 12), .int (nI 1), .int a2], (X, w)) rfl ?_
      refine ab_e_c1 (k2 := 20) (as := [.int a2, .int (nI 1), .int (nI 12)]) (rest := []) rfl rfl (T_K_isWithin S w X a2 (nI 1) (nI 12)) (fun v60 => ?_)
      refine ab_e_br (c := v60 = nI 0) (53, [(0, .int a0), (1, .int a1), (2, .int a2), (3, .int a3), (4, .int a4)], [], (X, w)) (30, [(0, .int a0), (1, .int a1), (2, .int a2), (3, .int a3), (4, .int a4)], [], (X, w)) rfl (fun _ => ?_) (fun _ => ?_)
      · refine ab_e_go 1 (54, [(0, .int a0), (1, .int a1), (2, .int a2), (3, .int a3), (4, .int a4)], [.int (nI 0)], (X, w)) rfl ?_
        exact ab_e_rt rfl rfl
      · refine ab_e_go 3 (33, [(0, .int a0), (1, .int a1), (2, .int a2), (3, .int a3), (4, .int a4)], [.int (nI 3), .int (nI 0), .int a3], (X, w)) rfl ?_
        refine ab_e_c1 (k2 := 20) (as := [.int a3, .int (nI 0), .int (nI 3)]) (rest := []) rfl rfl (T_K_isWithin S w X a3 (nI 0) (nI 3)) (fun v61 => ?_)
        refine ab_e_br (c := v61 = nI 0) (53, [(0, .int a0), (1, .int a1), (2, .int a2), (3, .int a3), (4, .int a4)], [], (X, w)) (39, [(0, .int a0), (1, .int a1), (2, .int a2), (3, .int a3), (4, .int a4)], [], (X, w)) rfl (fun _ => ?_) (fun _ => ?_)
        · refine ab_e_go 1 (54, [(0, .int a0), (1, .int a1), (2, .int a2), (3, .int a3), (4, .int a4)], [.int (nI 0)], (X, w)) rfl ?_
          exact ab_e_rt rfl rfl
        · refine ab_e_go 3 (43, [(0, .int a0), (1, .int a1), (2, .int a2), (3, .int a3), (4, .int a4)], [.int (nI 3), .int (nI 1), .int a4], (X, w)) rfl ?_
          refine ab_e_c1 (k2 := 20) (as := [.int a4, .int (nI 1), .int (nI 3)]) (rest := []) rfl rfl (T_K_isWithin S w X a4 (nI 1) (nI 3)) (fun v62 => ?_)
          refine ab_e_br (c := v62 = nI 0) (53, [(0, .int a0), (1, .int a1), (2, .int a2), (3, .int a3), (4, .int a4)], [], (X, w)) (49, [(0, .int a0), (1, .int a1), (2, .int a2), (3, .int a3), (4, .int a4)], [], (X, w)) rfl (fun _ => ?_) (fun _ => ?_)
          · refine ab_e_go 1 (54, [(0, .int a0), (1, .int a1), (2, .int a2), (3, .int a3), (4, .int a4)], [.int (nI 0)], (X, w)) rfl ?_
            exact ab_e_rt rfl rfl
          · refine ab_e_go 2 (54, [(0, .int a0), (1, .int a1), (2, .int a2), (3, .int a3), (4, .int a4)], [.int (nI 1)], (X, w)) rfl ?_
            exact ab_e_rt rfl rfl
