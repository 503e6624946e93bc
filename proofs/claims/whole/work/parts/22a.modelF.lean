/-! ===== what the methods of the reference compute, part 1 (by program: wip/whole/tools/dec.py) ===== -/
def F_M_failedItem (X : ab_XX) : Option (Int32 × ab_XX) :=
  (some (ab_up X 13 0 (nI 0))).bind fun X414 =>
  some (X414 13 8, X414)
set_option maxRecDepth 4000 in
theorem T_M_failedItem (S : Nat × (Nat → Int32)) (w : ab_WW) (X : ab_XX) : ab_Eg (ab_m3 ab_fI w) S 36 (0, lv_args 0 [.ref 13], [], (X, w)) (F_M_failedItem X) := by
  show ab_Eg (ab_m3 ab_fI w) S 36 (0, [(0, .ref 13)], [], (X, w)) _
  unfold F_M_failedItem
  refine ab_e_go 3 (5, [(0, .ref 13)], [], ((ab_up X 13 0 (nI 0)), w)) rfl ?_
  refine ab_e_letX (fun X414 _ => ?_)
  refine ab_e_go 2 (9, [(0, .ref 13)], [.int (X414 13 8)], (X414, w)) rfl ?_
  exact ab_e_rt rfl rfl
def F_M_faultPosition (X : ab_XX) : Option (Int32 × ab_XX) :=
  (some (ab_up X 13 0 (nI 0))).bind fun X415 =>
  some (X415 13 7, X415)
set_option maxRecDepth 4000 in
theorem T_M_faultPosition (S : Nat × (Nat → Int32)) (w : ab_WW) (X : ab_XX) : ab_Eg (ab_m3 ab_fI w) S 37 (0, lv_args 0 [.ref 13], [], (X, w)) (F_M_faultPosition X) := by
  show ab_Eg (ab_m3 ab_fI w) S 37 (0, [(0, .ref 13)], [], (X, w)) _
  unfold F_M_faultPosition
  refine ab_e_go 3 (5, [(0, .ref 13)], [], ((ab_up X 13 0 (nI 0)), w)) rfl ?_
  refine ab_e_letX (fun X415 _ => ?_)
  refine ab_e_go 2 (9, [(0, .ref 13)], [.int (X415 13 7)], (X415, w)) rfl ?_
  exact ab_e_rt rfl rfl
def F_M_thrown (X : ab_XX) : Option Int32 :=
  some (X 13 0)
set_option maxRecDepth 4000 in
theorem T_M_thrown (S : Nat × (Nat → Int32)) (w : ab_WW) (X : ab_XX) : ab_Eg (ab_m1 ab_fI (X, w)) S 44 (0, lv_args 0 [.ref 13], [], (X, w)) (F_M_thrown X) := by
  show ab_Eg (ab_m1 ab_fI (X, w)) S 44 (0, [(0, .ref 13)], [], (X, w)) _
  unfold F_M_thrown
  refine ab_e_go 2 (4, [(0, .ref 13)], [.int (X 13 0)], (X, w)) rfl ?_
  exact ab_e_rt rfl rfl
def F_M_in (a0 : Int32) (a1 : Int32) (a2 : Int32) : Option Int32 :=
  if a0 < a1 then
    some (nI 0)
  else
    if a2 < a0 then
      some (nI 0)
    else
      some (nI 1)
set_option maxRecDepth 4000 in
theorem T_M_in (S : Nat × (Nat → Int32)) (w : ab_WW) (X : ab_XX) (a0 : Int32) (a1 : Int32) (a2 : Int32) : ab_Eg (ab_m1 ab_fI (X, w)) S 39 (0, lv_args 0 [.int a0, .int a1, .int a2], [], (X, w)) (F_M_in a0 a1 a2) := by
  show ab_Eg (ab_m1 ab_fI (X, w)) S 39 (0, [(0, .int a0), (1, .int a1), (2, .int a2)], [], (X, w)) _
  unfold F_M_in
  refine ab_e_go 2 (2, [(0, .int a0), (1, .int a1), (2, .int a2)], [.int a1, .int a0], (X, w)) rfl ?_
  refine ab_e_br (c := a0 < a1) (14, [(0, .int a0), (1, .int a1), (2, .int a2)], [], (X, w)) (5, [(0, .int a0), (1, .int a1), (2, .int a2)], [], (X, w)) rfl (fun _ => ?_) (fun _ => ?_)
  · refine ab_e_go 1 (15, [(0, .int a0), (1, .int a1), (2, .int a2)], [.int (nI 0)], (X, w)) rfl ?_
    exact ab_e_rt rfl rfl
  · refine ab_e_go 2 (7, [(0, .int a0), (1, .int a1), (2, .int a2)], [.int a2, .int a0], (X, w)) rfl ?_
    refine ab_e_br (c := a2 < a0) (14, [(0, .int a0), (1, .int a1), (2, .int a2)], [], (X, w)) (10, [(0, .int a0), (1, .int a1), (2, .int a2)], [], (X, w)) rfl (fun _ => ?_) (fun _ => ?_)
    · refine ab_e_go 1 (15, [(0, .int a0), (1, .int a1), (2, .int a2)], [.int (nI 0)], (X, w)) rfl ?_
      exact ab_e_rt rfl rfl
    · refine ab_e_go 2 (15, [(0, .int a0), (1, .int a1), (2, .int a2)], [.int (nI 1)], (X, w)) rfl ?_
      exact ab_e_rt rfl rfl
def F_M_appendCharacter (X : ab_XX) (a1 : Int32) : Option (Int32 × ab_XX) :=
  (F_M_in a1 (nI 33) (nI 126)).bind fun v416 =>
  if v416 = nI 0 then
    (some (ab_up X 13 0 (nI 1))).bind fun X423 =>
    if X423 13 0 = nI 0 then
      if ab_in (X423 13 5) 80 = true then
        (some (ab_up X423 15 ((X423 13 5).toNatClampNeg) a1)).bind fun X424 =>
        (some (ab_up X424 13 5 ((X424 13 5) + (nI 1)))).bind fun X425 =>
        some (X425 13 5, X425)
      else none
    else
      some (nI 0, X423)
  else
    if X 13 5 = nI 80 then
      (some (ab_up X 13 0 (nI 2))).bind fun X420 =>
      if X420 13 0 = nI 0 then
        if ab_in (X420 13 5) 80 = true then
          (some (ab_up X420 15 ((X420 13 5).toNatClampNeg) a1)).bind fun X421 =>
          (some (ab_up X421 13 5 ((X421 13 5) + (nI 1)))).bind fun X422 =>
          some (X422 13 5, X422)
        else none
      else
        some (nI 0, X420)
    else
      (some (ab_up X 13 0 (nI 0))).bind fun X417 =>
      if X417 13 0 = nI 0 then
        if ab_in (X417 13 5) 80 = true then
          (some (ab_up X417 15 ((X417 13 5).toNatClampNeg) a1)).bind fun X418 =>
          (some (ab_up X418 13 5 ((X418 13 5) + (nI 1)))).bind fun X419 =>
          some (X419 13 5, X419)
        else none
      else
        some (nI 0, X417)
set_option maxRecDepth 4000 in
theorem T_M_appendCharacter (S : Nat × (Nat → Int32)) (w : ab_WW) (X : ab_XX) (a1 : Int32) : ab_Eg (ab_m3 ab_fI w) S 83 (0, lv_args 0 [.ref 13, .int a1], [], (X, w)) (F_M_appendCharacter X a1) := by
  show ab_Eg (ab_m3 ab_fI w) S 83 (0, [(0, .ref 13), (1, .int a1)], [], (X, w)) _
  unfold F_M_appendCharacter
  refine ab_e_go 4 (6, [(0, .ref 13), (1, .int a1)], [.int (nI 126), .int (nI 33), .int a1, .ref 13], (X, w)) rfl ?_
  refine ab_e_c1 (k2 := 39) (as := [.int a1, .int (nI 33), .int (nI 126)]) (rest := [.ref 13]) rfl rfl (T_M_in S w X a1 (nI 33) (nI 126)) (fun v416 => ?_)
  refine ab_e_bn (c := v416 = nI 0) (16, [(0, .ref 13), (1, .int a1)], [.ref 13], (X, w)) (12, [(0, .ref 13), (1, .int a1)], [.ref 13], (X, w)) rfl (fun _ => ?_) (fun _ => ?_)
  · refine ab_e_go 3 (22, [(0, .ref 13), (1, .int a1)], [.int (nI 80), .int (X 13 5), .ref 13], (X, w)) rfl ?_
    refine ab_e_bn (c := X 13 5 = nI 80) (29, [(0, .ref 13), (1, .int a1)], [.ref 13], (X, w)) (25, [(0, .ref 13), (1, .int a1)], [.ref 13], (X, w)) rfl (fun _ => ?_) (fun _ => ?_)
    · refine ab_e_go 2 (33, [(0, .ref 13), (1, .int a1)], [], ((ab_up X 13 0 (nI 0)), w)) rfl ?_
      refine ab_e_letX (fun X417 _ => ?_)
      refine ab_e_go 2 (37, [(0, .ref 13), (1, .int a1)], [.int (X417 13 0)], (X417, w)) rfl ?_
      refine ab_e_br (c := X417 13 0 = nI 0) (42, [(0, .ref 13), (1, .int a1)], [], (X417, w)) (40, [(0, .ref 13), (1, .int a1)], [], (X417, w)) rfl (fun _ => ?_) (fun _ => ?_)
      · refine ab_e_go 5 (51, [(0, .ref 13), (1, .int a1)], [.int a1, .int (X417 13 5), .ref 15], (X417, w)) rfl ?_
        refine ab_e_gd (52, [(0, .ref 13), (1, .int a1)], [], ((ab_up X417 15 ((X417 13 5).toNatClampNeg) a1), w)) rfl ?_
        refine ab_e_letX (fun X418 _ => ?_)
        refine ab_e_go 6 (62, [(0, .ref 13), (1, .int a1)], [], ((ab_up X418 13 5 ((X418 13 5) + (nI 1))), w)) rfl ?_
        refine ab_e_letX (fun X419 _ => ?_)
        refine ab_e_go 2 (66, [(0, .ref 13), (1, .int a1)], [.int (X419 13 5)], (X419, w)) rfl ?_
        exact ab_e_rt rfl rfl
      · refine ab_e_go 1 (41, [(0, .ref 13), (1, .int a1)], [.int (nI 0)], (X417, w)) rfl ?_
        exact ab_e_rt rfl rfl
    · refine ab_e_go 3 (33, [(0, .ref 13), (1, .int a1)], [], ((ab_up X 13 0 (nI 2)), w)) rfl ?_
      refine ab_e_letX (fun X420 _ => ?_)
      refine ab_e_go 2 (37, [(0, .ref 13), (1, .int a1)], [.int (X420 13 0)], (X420, w)) rfl ?_
      refine ab_e_br (c := X420 13 0 = nI 0) (42, [(0, .ref 13), (1, .int a1)], [], (X420, w)) (40, [(0, .ref 13), (1, .int a1)], [], (X420, w)) rfl (fun _ => ?_) (fun _ => ?_)
      · refine ab_e_go 5 (51, [(0, .ref 13), (1, .int a1)], [.int a1, .int (X420 13 5), .ref 15], (X420, w)) rfl ?_
        refine ab_e_gd (52, [(0, .ref 13), (1, .int a1)], [], ((ab_up X420 15 ((X420 13 5).toNatClampNeg) a1), w)) rfl ?_
        refine ab_e_letX (fun X421 _ => ?_)
        refine ab_e_go 6 (62, [(0, .ref 13), (1, .int a1)], [], ((ab_up X421 13 5 ((X421 13 5) + (nI 1))), w)) rfl ?_
        refine ab_e_letX (fun X422 _ => ?_)
        refine ab_e_go 2 (66, [(0, .ref 13), (1, .int a1)], [.int (X422 13 5)], (X422, w)) rfl ?_
        exact ab_e_rt rfl rfl
      · refine ab_e_go 1 (41, [(0, .ref 13), (1, .int a1)], [.int (nI 0)], (X420, w)) rfl ?_
        exact ab_e_rt rfl rfl
  · refine ab_e_go 3 (33, [(0, .ref 13), (1, .int a1)], [], ((ab_up X 13 0 (nI 1)), w)) rfl ?_
    refine ab_e_letX (fun X423 _ => ?_)
    refine ab_e_go 2 (37, [(0, .ref 13), (1, .int a1)], [.int (X423 13 0)], (X423, w)) rfl ?_
    refine ab_e_br (c := X423 13 0 = nI 0) (42, [(0, .ref 13), (1, .int a1)], [], (X423, w)) (40, [(0, .ref 13), (1, .int a1)], [], (X423, w)) rfl (fun _ => ?_) (fun _ => ?_)
    · refine ab_e_go 5 (51, [(0, .ref 13), (1, .int a1)], [.int a1, .int (X423 13 5), .ref 15], (X423, w)) rfl ?_
      refine ab_e_gd (52, [(0, .ref 13), (1, .int a1)], [], ((ab_up X423 15 ((X423 13 5).toNatClampNeg) a1), w)) rfl ?_
      refine ab_e_letX (fun X424 _ => ?_)
      refine ab_e_go 6 (62, [(0, .ref 13), (1, .int a1)], [], ((ab_up X424 13 5 ((X424 13 5) + (nI 1))), w)) rfl ?_
      refine ab_e_letX (fun X425 _ => ?_)
      refine ab_e_go 2 (66, [(0, .ref 13), (1, .int a1)], [.int (X425 13 5)], (X425, w)) rfl ?_
      exact ab_e_rt rfl rfl
    · refine ab_e_go 1 (41, [(0, .ref 13), (1, .int a1)], [.int (nI 0)], (X423, w)) rfl ?_
      exact ab_e_rt rfl rfl
def F_M_workers (X : ab_XX) : Option Int32 :=
  some (X 14 0)
set_option maxRecDepth 4000 in
theorem T_M_workers (S : Nat × (Nat → Int32)) (w : ab_WW) (X : ab_XX) : ab_Eg (ab_m1 ab_fI (X, w)) S 45 (0, lv_args 0 [.ref 13], [], (X, w)) (F_M_workers X) := by
  show ab_Eg (ab_m1 ab_fI (X, w)) S 45 (0, [(0, .ref 13)], [], (X, w)) _
  unfold F_M_workers
  refine ab_e_go 4 (6, [(0, .ref 13)], [.int (X 14 0)], (X, w)) rfl ?_
  exact ab_e_rt rfl rfl
def F_M_awards (X : ab_XX) : Option Int32 :=
  some (X 14 308)
set_option maxRecDepth 4000 in
theorem T_M_awards (S : Nat × (Nat → Int32)) (w : ab_WW) (X : ab_XX) : ab_Eg (ab_m1 ab_fI (X, w)) S 33 (0, lv_args 0 [.ref 13], [], (X, w)) (F_M_awards X) := by
  show ab_Eg (ab_m1 ab_fI (X, w)) S 33 (0, [(0, .ref 13)], [], (X, w)) _
  unfold F_M_awards
  refine ab_e_go 4 (8, [(0, .ref 13)], [.int (X 14 308)], (X, w)) rfl ?_
  exact ab_e_rt rfl rfl
def F_M_awardShift (X : ab_XX) (a1 : Int32) : Option Int32 :=
  if ab_in (((nI 309) + ((nI 2) * a1)) + (nI 1)) 4455 = true then
    (some (X 14 (((nI 309) + ((nI 2) * a1)) + (nI 1)).toNatClampNeg)).bind fun v430 =>
    some v430
  else none
set_option maxRecDepth 4000 in
theorem T_M_awardShift (S : Nat × (Nat → Int32)) (w : ab_WW) (X : ab_XX) (a1 : Int32) : ab_Eg (ab_m1 ab_fI (X, w)) S 31 (0, lv_args 0 [.ref 13, .int a1], [], (X, w)) (F_M_awardShift X a1) := by
  show ab_Eg (ab_m1 ab_fI (X, w)) S 31 (0, [(0, .ref 13), (1, .int a1)], [], (X, w)) _
  unfold F_M_awardShift
  refine ab_e_go 9 (13, [(0, .ref 13), (1, .int a1)], [.int (((nI 309) + ((nI 2) * a1)) + (nI 1)), .ref 14], (X, w)) rfl ?_
  refine ab_e_gd (14, [(0, .ref 13), (1, .int a1)], [.int (X 14 (((nI 309) + ((nI 2) * a1)) + (nI 1)).toNatClampNeg)], (X, w)) rfl ?_
  refine ab_e_letI (fun v430 _ => ?_)
  exact ab_e_rt rfl rfl
def F_M_ofShift (X : ab_XX) (a1 : Int32) (a2 : Int32) : Option Int32 :=
  if ab_in (((nI 52) + ((nI 6) * a1)) + a2) 4455 = true then
    (some (X 14 (((nI 52) + ((nI 6) * a1)) + a2).toNatClampNeg)).bind fun v432 =>
    some v432
  else none
set_option maxRecDepth 4000 in
theorem T_M_ofShift (S : Nat × (Nat → Int32)) (w : ab_WW) (X : ab_XX) (a1 : Int32) (a2 : Int32) : ab_Eg (ab_m1 ab_fI (X, w)) S 41 (0, lv_args 0 [.ref 13, .int a1, .int a2], [], (X, w)) (F_M_ofShift X a1 a2) := by
  show ab_Eg (ab_m1 ab_fI (X, w)) S 41 (0, [(0, .ref 13), (1, .int a1), (2, .int a2)], [], (X, w)) _
  unfold F_M_ofShift
  refine ab_e_go 9 (13, [(0, .ref 13), (1, .int a1), (2, .int a2)], [.int (((nI 52) + ((nI 6) * a1)) + a2), .ref 14], (X, w)) rfl ?_
  refine ab_e_gd (14, [(0, .ref 13), (1, .int a1), (2, .int a2)], [.int (X 14 (((nI 52) + ((nI 6) * a1)) + a2).toNatClampNeg)], (X, w)) rfl ?_
  refine ab_e_letI (fun v432 _ => ?_)
  exact ab_e_rt rfl rfl
def L_M_averageHours_29 : Nat → ab_XX → Int32 → Int32 → Option (UInt64 × ab_XX)
  | 0, _, _, _ => none
  | n + 1, X, a1, a2 =>
    (F_M_awards X).bind fun v428 =>
    if v428 ≤ a2 then
      (F_M_workers X).bind fun v429 =>
      if ab_n64 (FP.ddiv (FP.i2d a1) (FP.i2d v429)) = true then
        some ((FP.ddiv (FP.i2d a1) (FP.i2d v429)), X)
      else none
    else
      (F_M_awardShift X a2).bind fun v431 =>
      (F_M_ofShift X v431 (nI 2)).bind fun v433 =>
      L_M_averageHours_29 n X (a1 + v433) (a2 + (nI 1))
set_option maxRecDepth 4000 in
theorem T_L_M_averageHours_29 (S : Nat × (Nat → Int32)) (w : ab_WW) : ∀ (n : Nat) (X : ab_XX) (a1 : Int32) (a2 : Int32), ab_Eg (ab_m3 ab_fD w) S 84 (29, [(0, .ref 13), (1, .int a1), (2, .int a2)], [], (X, w)) (L_M_averageHours_29 n X a1 a2) := by
  intro n
  induction n with
  | zero => intro X a1 a2; exact ab_e_none
  | succ n ih =>
    intro X a1 a2
    unfold L_M_averageHours_29
    refine ab_e_go 2 (31, [(0, .ref 13), (1, .int a1), (2, .int a2)], [.ref 13, .int a2], (X, w)) rfl ?_
    refine ab_e_c1 (k2 := 33) (as := [.ref 13]) (rest := [.int a2]) rfl rfl (T_M_awards S w X) (fun v428 => ?_)
    refine ab_e_br (c := v428 ≤ a2) (56, [(0, .ref 13), (1, .int a1), (2, .int a2)], [], (X, w)) (37, [(0, .ref 13), (1, .int a1), (2, .int a2)], [], (X, w)) rfl (fun _ => ?_) (fun _ => ?_)
    · refine ab_e_go 3 (59, [(0, .ref 13), (1, .int a1), (2, .int a2)], [.ref 13, .double (FP.i2d a1)], (X, w)) rfl ?_
      refine ab_e_c1 (k2 := 45) (as := [.ref 13]) (rest := [.double (FP.i2d a1)]) rfl rfl (T_M_workers S w X) (fun v429 => ?_)
      refine ab_e_go 1 (63, [(0, .ref 13), (1, .int a1), (2, .int a2)], [.double (FP.i2d v429), .double (FP.i2d a1)], (X, w)) rfl ?_
      refine ab_e_gd (64, [(0, .ref 13), (1, .int a1), (2, .int a2)], [.double (FP.ddiv (FP.i2d a1) (FP.i2d v429))], (X, w)) rfl ?_
      exact ab_e_rt rfl rfl
    · refine ab_e_go 4 (41, [(0, .ref 13), (1, .int a1), (2, .int a2)], [.int a2, .ref 13, .ref 13, .int a1], (X, w)) rfl ?_
      refine ab_e_c1 (k2 := 31) (as := [.ref 13, .int a2]) (rest := [.ref 13, .int a1]) rfl rfl (T_M_awardShift S w X a2) (fun v431 => ?_)
      refine ab_e_go 1 (45, [(0, .ref 13), (1, .int a1), (2, .int a2)], [.int (nI 2), .int v431, .ref 13, .int a1], (X, w)) rfl ?_
      refine ab_e_c1 (k2 := 41) (as := [.ref 13, .int v431, .int (nI 2)]) (rest := [.int a1]) rfl rfl (T_M_ofShift S w X v431 (nI 2)) (fun v433 => ?_)
      refine ab_e_go 4 (29, [(2, .int (a2 + (nI 1))), (1, .int (a1 + v433)), (0, .ref 13)], [], (X, w)) rfl ?_
      refine ab_e_wk [(0, .ref 13), (1, .int (a1 + v433)), (2, .int (a2 + (nI 1)))] ⟨rfl, rfl, rfl, trivial⟩ ?_
      exact ih X (a1 + v433) (a2 + (nI 1))
def F_M_averageHours (X : ab_XX) : Option (UInt64 × ab_XX) :=
  (F_M_workers X).bind fun v426 =>
  if v426 = nI 0 then
    (some (ab_up X 13 0 (nI 1))).bind fun X434 =>
    if X434 13 0 = nI 0 then
      L_M_averageHours_29 ab_fu X434 (nI 0) (nI 0)
    else
      some (FP.dconst0, X434)
  else
    (some (ab_up X 13 0 (nI 0))).bind fun X427 =>
    if X427 13 0 = nI 0 then
      L_M_averageHours_29 ab_fu X427 (nI 0) (nI 0)
    else
      some (FP.dconst0, X427)
set_option maxRecDepth 4000 in
theorem T_M_averageHours (S : Nat × (Nat → Int32)) (w : ab_WW) (X : ab_XX) : ab_Eg (ab_m3 ab_fD w) S 84 (0, lv_args 0 [.ref 13], [], (X, w)) (F_M_averageHours X) := by
  show ab_Eg (ab_m3 ab_fD w) S 84 (0, [(0, .ref 13)], [], (X, w)) _
  unfold F_M_averageHours
  refine ab_e_go 2 (2, [(0, .ref 13)], [.ref 13, .ref 13], (X, w)) rfl ?_
  refine ab_e_c1 (k2 := 45) (as := [.ref 13]) (rest := [.ref 13]) rfl rfl (T_M_workers S w X) (fun v426 => ?_)
  refine ab_e_bn (c := v426 = nI 0) (12, [(0, .ref 13)], [.ref 13], (X, w)) (8, [(0, .ref 13)], [.ref 13], (X, w)) rfl (fun _ => ?_) (fun _ => ?_)
  · refine ab_e_go 2 (16, [(0, .ref 13)], [], ((ab_up X 13 0 (nI 0)), w)) rfl ?_
    refine ab_e_letX (fun X427 _ => ?_)
    refine ab_e_go 2 (20, [(0, .ref 13)], [.int (X427 13 0)], (X427, w)) rfl ?_
    refine ab_e_br (c := X427 13 0 = nI 0) (25, [(0, .ref 13)], [], (X427, w)) (23, [(0, .ref 13)], [], (X427, w)) rfl (fun _ => ?_) (fun _ => ?_)
    · refine ab_e_go 4 (29, [(2, .int (nI 0)), (1, .int (nI 0)), (0, .ref 13)], [], (X427, w)) rfl ?_
      refine ab_e_wk [(0, .ref 13), (1, .int (nI 0)), (2, .int (nI 0))] ⟨rfl, rfl, rfl, trivial⟩ ?_
      exact T_L_M_averageHours_29 S w ab_fu X427 (nI 0) (nI 0)
    · refine ab_e_go 1 (24, [(0, .ref 13)], [.double FP.dconst0], (X427, w)) rfl ?_
      exact ab_e_rt rfl rfl
  · refine ab_e_go 3 (16, [(0, .ref 13)], [], ((ab_up X 13 0 (nI 1)), w)) rfl ?_
    refine ab_e_letX (fun X434 _ => ?_)
    refine ab_e_go 2 (20, [(0, .ref 13)], [.int (X434 13 0)], (X434, w)) rfl ?_
    refine ab_e_br (c := X434 13 0 = nI 0) (25, [(0, .ref 13)], [], (X434, w)) (23, [(0, .ref 13)], [], (X434, w)) rfl (fun _ => ?_) (fun _ => ?_)
    · refine ab_e_go 4 (29, [(2, .int (nI 0)), (1, .int (nI 0)), (0, .ref 13)], [], (X434, w)) rfl ?_
      refine ab_e_wk [(0, .ref 13), (1, .int (nI 0)), (2, .int (nI 0))] ⟨rfl, rfl, rfl, trivial⟩ ?_
      exact T_L_M_averageHours_29 S w ab_fu X434 (nI 0) (nI 0)
    · refine ab_e_go 1 (24, [(0, .ref 13)], [.double FP.dconst0], (X434, w)) rfl ?_
      exact ab_e_rt rfl rfl
def F_M_awardWorker (X : ab_XX) (a1 : Int32) : Option Int32 :=
  if ab_in ((nI 309) + ((nI 2) * a1)) 4455 = true then
    (some (X 14 ((nI 309) + ((nI 2) * a1)).toNatClampNeg)).bind fun v440 =>
    some v440
  else none
set_option maxRecDepth 4000 in
theorem T_M_awardWorker (S : Nat × (Nat → Int32)) (w : ab_WW) (X : ab_XX) (a1 : Int32) : ab_Eg (ab_m1 ab_fI (X, w)) S 32 (0, lv_args 0 [.ref 13, .int a1], [], (X, w)) (F_M_awardWorker X a1) := by
  show ab_Eg (ab_m1 ab_fI (X, w)) S 32 (0, [(0, .ref 13), (1, .int a1)], [], (X, w)) _
  unfold F_M_awardWorker
  refine ab_e_go 7 (11, [(0, .ref 13), (1, .int a1)], [.int ((nI 309) + ((nI 2) * a1)), .ref 14], (X, w)) rfl ?_
  refine ab_e_gd (12, [(0, .ref 13), (1, .int a1)], [.int (X 14 ((nI 309) + ((nI 2) * a1)).toNatClampNeg)], (X, w)) rfl ?_
  refine ab_e_letI (fun v440 _ => ?_)
  exact ab_e_rt rfl rfl
def F_M_awardAt (X : ab_XX) (a1 : Int32) (a2 : Int32) : Option (Int32 × ab_XX) :=
  (F_M_awards X).bind fun v435 =>
  (F_M_in a1 (nI 0) (v435 - (nI 1))).bind fun v436 =>
  if v436 = nI 0 then
    (some (ab_up X 13 0 (nI 1))).bind fun X445 =>
    if X445 13 0 = nI 0 then
      if a2 = nI 0 then
        (F_M_awardWorker X445 a1).bind fun v447 =>
        some (v447, X445)
      else
        (F_M_awardShift X445 a1).bind fun v446 =>
        some (v446, X445)
    else
      some (nI 0, X445)
  else
    (F_M_in a2 (nI 0) (nI 1)).bind fun v437 =>
    if v437 = nI 0 then
      (some (ab_up X 13 0 (nI 2))).bind fun X438 =>
      if X438 13 0 = nI 0 then
        if a2 = nI 0 then
          (F_M_awardWorker X438 a1).bind fun v441 =>
          some (v441, X438)
        else
          (F_M_awardShift X438 a1).bind fun v439 =>
          some (v439, X438)
      else
        some (nI 0, X438)
    else
      (some (ab_up X 13 0 (nI 0))).bind fun X442 =>
      if X442 13 0 = nI 0 then
        if a2 = nI 0 then
          (F_M_awardWorker X442 a1).bind fun v444 =>
          some (v444, X442)
        else
          (F_M_awardShift X442 a1).bind fun v443 =>
          some (v443, X442)
      else
        some (nI 0, X442)
set_option maxRecDepth 4000 in
theorem T_M_awardAt (S : Nat × (Nat → Int32)) (w : ab_WW) (X : ab_XX) (a1 : Int32) (a2 : Int32) : ab_Eg (ab_m3 ab_fI w) S 85 (0, lv_args 0 [.ref 13, .int a1, .int a2], [], (X, w)) (F_M_awardAt X a1 a2) := by
  show ab_Eg (ab_m3 ab_fI w) S 85 (0, [(0, .ref 13), (1, .int a1), (2, .int a2)], [], (X, w)) _
  unfold F_M_awardAt
  refine ab_e_go 4 (4, [(0, .ref 13), (1, .int a1), (2, .int a2)], [.ref 13, .int (nI 0), .int a1, .ref 13], (X, w)) rfl ?_
  refine ab_e_c1 (k2 := 33) (as := [.ref 13]) (rest := [.int (nI 0), .int a1, .ref 13]) rfl rfl (T_M_awards S w X) (fun v435 => ?_)
  refine ab_e_go 2 (9, [(0, .ref 13), (1, .int a1), (2, .int a2)], [.int (v435 - (nI 1)), .int (nI 0), .int a1, .ref 13], (X, w)) rfl ?_
  refine ab_e_c1 (k2 := 39) (as := [.int a1, .int (nI 0), .int (v435 - (nI 1))]) (rest := [.ref 13]) rfl rfl (T_M_in S w X a1 (nI 0) (v435 - (nI 1))) (fun v436 => ?_)
  refine ab_e_bn (c := v436 = nI 0) (19, [(0, .ref 13), (1, .int a1), (2, .int a2)], [.ref 13], (X, w)) (15, [(0, .ref 13), (1, .int a1), (2, .int a2)], [.ref 13], (X, w)) rfl (fun _ => ?_) (fun _ => ?_)
  · refine ab_e_go 3 (22, [(0, .ref 13), (1, .int a1), (2, .int a2)], [.int (nI 1), .int (nI 0), .int a2, .ref 13], (X, w)) rfl ?_
    refine ab_e_c1 (k2 := 39) (as := [.int a2, .int (nI 0), .int (nI 1)]) (rest := [.ref 13]) rfl rfl (T_M_in S w X a2 (nI 0) (nI 1)) (fun v437 => ?_)
    refine ab_e_br (c := v437 = nI 0) (32, [(0, .ref 13), (1, .int a1), (2, .int a2)], [.ref 13], (X, w)) (28, [(0, .ref 13), (1, .int a1), (2, .int a2)], [.ref 13], (X, w)) rfl (fun _ => ?_) (fun _ => ?_)
    · refine ab_e_go 2 (36, [(0, .ref 13), (1, .int a1), (2, .int a2)], [], ((ab_up X 13 0 (nI 2)), w)) rfl ?_
      refine ab_e_letX (fun X438 _ => ?_)
      refine ab_e_go 2 (40, [(0, .ref 13), (1, .int a1), (2, .int a2)], [.int (X438 13 0)], (X438, w)) rfl ?_
      refine ab_e_br (c := X438 13 0 = nI 0) (47, [(0, .ref 13), (1, .int a1), (2, .int a2)], [], (X438, w)) (43, [(0, .ref 13), (1, .int a1), (2, .int a2)], [], (X438, w)) rfl (fun _ => ?_) (fun _ => ?_)
      · refine ab_e_go 1 (48, [(0, .ref 13), (1, .int a1), (2, .int a2)], [.int a2], (X438, w)) rfl ?_
        refine ab_e_bn (c := a2 = nI 0) (59, [(0, .ref 13), (1, .int a1), (2, .int a2)], [], (X438, w)) (51, [(0, .ref 13), (1, .int a1), (2, .int a2)], [], (X438, w)) rfl (fun _ => ?_) (fun _ => ?_)
        · refine ab_e_go 2 (61, [(0, .ref 13), (1, .int a1), (2, .int a2)], [.int a1, .ref 13], (X438, w)) rfl ?_
          refine ab_e_c1 (k2 := 31) (as := [.ref 13, .int a1]) (rest := []) rfl rfl (T_M_awardShift S w X438 a1) (fun v439 => ?_)
          exact ab_e_rt rfl rfl
        · refine ab_e_go 2 (53, [(0, .ref 13), (1, .int a1), (2, .int a2)], [.int a1, .ref 13], (X438, w)) rfl ?_
          refine ab_e_c1 (k2 := 32) (as := [.ref 13, .int a1]) (rest := []) rfl rfl (T_M_awardWorker S w X438 a1) (fun v441 => ?_)
          refine ab_e_go 1 (64, [(0, .ref 13), (1, .int a1), (2, .int a2)], [.int v441], (X438, w)) rfl ?_
          exact ab_e_rt rfl rfl
      · refine ab_e_go 2 (64, [(0, .ref 13), (1, .int a1), (2, .int a2)], [.int (nI 0)], (X438, w)) rfl ?_
        exact ab_e_rt rfl rfl
    · refine ab_e_go 3 (36, [(0, .ref 13), (1, .int a1), (2, .int a2)], [], ((ab_up X 13 0 (nI 0)), w)) rfl ?_
      refine ab_e_letX (fun X442 _ => ?_)
      refine ab_e_go 2 (40, [(0, .ref 13), (1, .int a1), (2, .int a2)], [.int (X442 13 0)], (X442, w)) rfl ?_
      refine ab_e_br (c := X442 13 0 = nI 0) (47, [(0, .ref 13), (1, .int a1), (2, .int a2)], [], (X442, w)) (43, [(0, .ref 13), (1, .int a1), (2, .int a2)], [], (X442, w)) rfl (fun _ => ?_) (fun _ => ?_)
      · refine ab_e_go 1 (48, [(0, .ref 13), (1, .int a1), (2, .int a2)], [.int a2], (X442, w)) rfl ?_
        refine ab_e_bn (c := a2 = nI 0) (59, [(0, .ref 13), (1, .int a1), (2, .int a2)], [], (X442, w)) (51, [(0, .ref 13), (1, .int a1), (2, .int a2)], [], (X442, w)) rfl (fun _ => ?_) (fun _ => ?_)
        · refine ab_e_go 2 (61, [(0, .ref 13), (1, .int a1), (2, .int a2)], [.int a1, .ref 13], (X442, w)) rfl ?_
          refine ab_e_c1 (k2 := 31) (as := [.ref 13, .int a1]) (rest := []) rfl rfl (T_M_awardShift S w X442 a1) (fun v443 => ?_)
          exact ab_e_rt rfl rfl
        · refine ab_e_go 2 (53, [(0, .ref 13), (1, .int a1), (2, .int a2)], [.int a1, .ref 13], (X442, w)) rfl ?_
          refine ab_e_c1 (k2 := 32) (as := [.ref 13, .int a1]) (rest := []) rfl rfl (T_M_awardWorker S w X442 a1) (fun v444 => ?_)
          refine ab_e_go 1 (64, [(0, .ref 13), (1, .int a1), (2, .int a2)], [.int v444], (X442, w)) rfl ?_
          exact ab_e_rt rfl rfl
      · refine ab_e_go 2 (64, [(0, .ref 13), (1, .int a1), (2, .int a2)], [.int (nI 0)], (X442, w)) rfl ?_
        exact ab_e_rt rfl rfl
  · refine ab_e_go 3 (36, [(0, .ref 13), (1, .int a1), (2, .int a2)], [], ((ab_up X 13 0 (nI 1)), w)) rfl ?_
    refine ab_e_letX (fun X445 _ => ?_)
    refine ab_e_go 2 (40, [(0, .ref 13), (1, .int a1), (2, .int a2)], [.int (X445 13 0)], (X445, w)) rfl ?_
    refine ab_e_br (c := X445 13 0 = nI 0) (47, [(0, .ref 13), (1, .int a1), (2, .int a2)], [], (X445, w)) (43, [(0, .ref 13), (1, .int a1), (2, .int a2)], [], (X445, w)) rfl (fun _ => ?_) (fun _ => ?_)
    · refine ab_e_go 1 (48, [(0, .ref 13), (1, .int a1), (2, .int a2)], [.int a2], (X445, w)) rfl ?_
      refine ab_e_bn (c := a2 = nI 0) (59, [(0, .ref 13), (1, .int a1), (2, .int a2)], [], (X445, w)) (51, [(0, .ref 13), (1, .int a1), (2, .int a2)], [], (X445, w)) rfl (fun _ => ?_) (fun _ => ?_)
      · refine ab_e_go 2 (61, [(0, .ref 13), (1, .int a1), (2, .int a2)], [.int a1, .ref 13], (X445, w)) rfl ?_
        refine ab_e_c1 (k2 := 31) (as := [.ref 13, .int a1]) (rest := []) rfl rfl (T_M_awardShift S w X445 a1) (fun v446 => ?_)
        exact ab_e_rt rfl rfl
      · refine ab_e_go 2 (53, [(0, .ref 13), (1, .int a1), (2, .int a2)], [.int a1, .ref 13], (X445, w)) rfl ?_
        refine ab_e_c1 (k2 := 32) (as := [.ref 13, .int a1]) (rest := []) rfl rfl (T_M_awardWorker S w X445 a1) (fun v447 => ?_)
        refine ab_e_go 1 (64, [(0, .ref 13), (1, .int a1), (2, .int a2)], [.int v447], (X445, w)) rfl ?_
        exact ab_e_rt rfl rfl
    · refine ab_e_go 2 (64, [(0, .ref 13), (1, .int a1), (2, .int a2)], [.int (nI 0)], (X445, w)) rfl ?_
      exact ab_e_rt rfl rfl
def F_M_awardCount (X : ab_XX) : Option (Int32 × ab_XX) :=
  (some (ab_up X 13 0 (nI 0))).bind fun X448 =>
  (F_M_awards X448).bind fun v449 =>
  some (v449, X448)
set_option maxRecDepth 4000 in
theorem T_M_awardCount (S : Nat × (Nat → Int32)) (w : ab_WW) (X : ab_XX) : ab_Eg (ab_m3 ab_fI w) S 86 (0, lv_args 0 [.ref 13], [], (X, w)) (F_M_awardCount X) := by
  show ab_Eg (ab_m3 ab_fI w) S 86 (0, [(0, .ref 13)], [], (X, w)) _
  unfold F_M_awardCount
  refine ab_e_go 3 (5, [(0, .ref 13)], [], ((ab_up X 13 0 (nI 0)), w)) rfl ?_
  refine ab_e_letX (fun X448 _ => ?_)
  refine ab_e_go 1 (6, [(0, .ref 13)], [.ref 13], (X448, w)) rfl ?_
  refine ab_e_c1 (k2 := 33) (as := [.ref 13]) (rest := []) rfl rfl (T_M_awards S w X448) (fun v449 => ?_)
  exact ab_e_rt rfl rfl
def F_M_shifts (X : ab_XX) : Option Int32 :=
  some (X 14 51)
set_option maxRecDepth 4000 in
theorem T_M_shifts (S : Nat × (Nat → Int32)) (w : ab_WW) (X : ab_XX) : ab_Eg (ab_m1 ab_fI (X, w)) S 43 (0, lv_args 0 [.ref 13], [], (X, w)) (F_M_shifts X) := by
  show ab_Eg (ab_m1 ab_fI (X, w)) S 43 (0, [(0, .ref 13)], [], (X, w)) _
  unfold F_M_shifts
  refine ab_e_go 4 (7, [(0, .ref 13)], [.int (X 14 51)], (X, w)) rfl ?_
  exact ab_e_rt rfl rfl
def L_M_coveredShare_29 : Nat → ab_XX → Int32 → Int32 → Option (UInt32 × ab_XX)
  | 0, _, _, _ => none
  | n + 1, X, a1, a2 =>
    (F_M_shifts X).bind fun v452 =>
    if v452 ≤ a2 then
      (F_M_awards X).bind fun v453 =>
      if ab_n32 (FP.fdiv (FP.i2f v453) (FP.i2f a1)) = true then
        some ((FP.fdiv (FP.i2f v453) (FP.i2f a1)), X)
      else none
    else
      (F_M_ofShift X a2 (nI 4)).bind fun v454 =>
      L_M_coveredShare_29 n X (a1 + v454) (a2 + (nI 1))
set_option maxRecDepth 4000 in
theorem T_L_M_coveredShare_29 (S : Nat × (Nat → Int32)) (w : ab_WW) : ∀ (n : Nat) (X : ab_XX) (a1 : Int32) (a2 : Int32), ab_Eg (ab_m3 ab_fF w) S 91 (29, [(0, .ref 13), (1, .int a1), (2, .int a2)], [], (X, w)) (L_M_coveredShare_29 n X a1 a2) := by
  intro n
  induction n with
  | zero => intro X a1 a2; exact ab_e_none
  | succ n ih =>
    intro X a1 a2
    unfold L_M_coveredShare_29
    refine ab_e_go 2 (31, [(0, .ref 13), (1, .int a1), (2, .int a2)], [.ref 13, .int a2], (X, w)) rfl ?_
    refine ab_e_c1 (k2 := 43) (as := [.ref 13]) (rest := [.int a2]) rfl rfl (T_M_shifts S w X) (fun v452 => ?_)
    refine ab_e_br (c := v452 ≤ a2) (52, [(0, .ref 13), (1, .int a1), (2, .int a2)], [], (X, w)) (37, [(0, .ref 13), (1, .int a1), (2, .int a2)], [], (X, w)) rfl (fun _ => ?_) (fun _ => ?_)
    · refine ab_e_go 1 (53, [(0, .ref 13), (1, .int a1), (2, .int a2)], [.ref 13], (X, w)) rfl ?_
      refine ab_e_c1 (k2 := 33) (as := [.ref 13]) (rest := []) rfl rfl (T_M_awards S w X) (fun v453 => ?_)
      refine ab_e_go 3 (59, [(0, .ref 13), (1, .int a1), (2, .int a2)], [.float (FP.i2f a1), .float (FP.i2f v453)], (X, w)) rfl ?_
      refine ab_e_gd (60, [(0, .ref 13), (1, .int a1), (2, .int a2)], [.float (FP.fdiv (FP.i2f v453) (FP.i2f a1))], (X, w)) rfl ?_
      exact ab_e_rt rfl rfl
    · refine ab_e_go 4 (41, [(0, .ref 13), (1, .int a1), (2, .int a2)], [.int (nI 4), .int a2, .ref 13, .int a1], (X, w)) rfl ?_
      refine ab_e_c1 (k2 := 41) (as := [.ref 13, .int a2, .int (nI 4)]) (rest := [.int a1]) rfl rfl (T_M_ofShift S w X a2 (nI 4)) (fun v454 => ?_)
      refine ab_e_go 4 (29, [(2, .int (a2 + (nI 1))), (1, .int (a1 + v454)), (0, .ref 13)], [], (X, w)) rfl ?_
      refine ab_e_wk [(0, .ref 13), (1, .int (a1 + v454)), (2, .int (a2 + (nI 1)))] ⟨rfl, rfl, rfl, trivial⟩ ?_
      exact ih X (a1 + v454) (a2 + (nI 1))
def F_M_coveredShare (X : ab_XX) : Option (UInt32 × ab_XX) :=
  (F_M_shifts X).bind fun v450 =>
  if v450 = nI 0 then
    (some (ab_up X 13 0 (nI 1))).bind fun X455 =>
    if X455 13 0 = nI 0 then
      L_M_coveredShare_29 ab_fu X455 (nI 0) (nI 0)
    else
      some (FP.fconst0, X455)
  else
    (some (ab_up X 13 0 (nI 0))).bind fun X451 =>
    if X451 13 0 = nI 0 then
      L_M_coveredShare_29 ab_fu X451 (nI 0) (nI 0)
    else
      some (FP.fconst0, X451)
set_option maxRecDepth 4000 in
theorem T_M_coveredShare (S : Nat × (Nat → Int32)) (w : ab_WW) (X : ab_XX) : ab_Eg (ab_m3 ab_fF w) S 91 (0, lv_args 0 [.ref 13], [], (X, w)) (F_M_coveredShare X) := by
  show ab_Eg (ab_m3 ab_fF w) S 91 (0, [(0, .ref 13)], [], (X, w)) _
  unfold F_M_coveredShare
  refine ab_e_go 2 (2, [(0, .ref 13)], [.ref 13, .ref 13], (X, w)) rfl ?_
  refine ab_e_c1 (k2 := 43) (as := [.ref 13]) (rest := [.ref 13]) rfl rfl (T_M_shifts S w X) (fun v450 => ?_)
  refine ab_e_bn (c := v450 = nI 0) (12, [(0, .ref 13)], [.ref 13], (X, w)) (8, [(0, .ref 13)], [.ref 13], (X, w)) rfl (fun _ => ?_) (fun _ => ?_)
  · refine ab_e_go 2 (16, [(0, .ref 13)], [], ((ab_up X 13 0 (nI 0)), w)) rfl ?_
    refine ab_e_letX (fun X451 _ => ?_)
    refine ab_e_go 2 (20, [(0, .ref 13)], [.int (X451 13 0)], (X451, w)) rfl ?_
    refine ab_e_br (c := X451 13 0 = nI 0) (25, [(0, .ref 13)], [], (X451, w)) (23, [(0, .ref 13)], [], (X451, w)) rfl (fun _ => ?_) (fun _ => ?_)
    · refine ab_e_go 4 (29, [(2, .int (nI 0)), (1, .int (nI 0)), (0, .ref 13)], [], (X451, w)) rfl ?_
      refine ab_e_wk [(0, .ref 13), (1, .int (nI 0)), (2, .int (nI 0))] ⟨rfl, rfl, rfl, trivial⟩ ?_
      exact T_L_M_coveredShare_29 S w ab_fu X451 (nI 0) (nI 0)
    · refine ab_e_go 1 (24, [(0, .ref 13)], [.float FP.fconst0], (X451, w)) rfl ?_
      exact ab_e_rt rfl rfl
  · refine ab_e_go 3 (16, [(0, .ref 13)], [], ((ab_up X 13 0 (nI 1)), w)) rfl ?_
    refine ab_e_letX (fun X455 _ => ?_)
    refine ab_e_go 2 (20, [(0, .ref 13)], [.int (X455 13 0)], (X455, w)) rfl ?_
    refine ab_e_br (c := X455 13 0 = nI 0) (25, [(0, .ref 13)], [], (X455, w)) (23, [(0, .ref 13)], [], (X455, w)) rfl (fun _ => ?_) (fun _ => ?_)
    · refine ab_e_go 4 (29, [(2, .int (nI 0)), (1, .int (nI 0)), (0, .ref 13)], [], (X455, w)) rfl ?_
      refine ab_e_wk [(0, .ref 13), (1, .int (nI 0)), (2, .int (nI 0))] ⟨rfl, rfl, rfl, trivial⟩ ?_
      exact T_L_M_coveredShare_29 S w ab_fu X455 (nI 0) (nI 0)
    · refine ab_e_go 1 (24, [(0, .ref 13)], [.float FP.fconst0], (X455, w)) rfl ?_
      exact ab_e_rt rfl rfl
def F_M_reason (X : ab_XX) (a1 : Int32) : Option (Int32 × ab_XX) :=
  (F_M_in a1 (nI 0) (nI 2)).bind fun v456 =>
  if v456 = nI 0 then
    (some (ab_up X 13 0 (nI 1))).bind fun X457 =>
    if X457 13 0 = nI 0 then
      if a1 = nI 0 then
        some (X457 13 12, X457)
      else
        if a1 = nI 1 then
          some (X457 13 13, X457)
        else
          some (X457 13 14, X457)
    else
      some (nI 0, X457)
  else
    (some (ab_up X 13 0 (nI 0))).bind fun X458 =>
    if X458 13 0 = nI 0 then
      if a1 = nI 0 then
        some (X458 13 12, X458)
      else
        if a1 = nI 1 then
          some (X458 13 13, X458)
        else
          some (X458 13 14, X458)
    else
      some (nI 0, X458)
set_option maxRecDepth 4000 in
theorem T_M_reason (S : Nat × (Nat → Int32)) (w : ab_WW) (X : ab_XX) (a1 : Int32) : ab_Eg (ab_m3 ab_fI w) S 105 (0, lv_args 0 [.ref 13, .int a1], [], (X, w)) (F_M_reason X a1) := by
  show ab_Eg (ab_m3 ab_fI w) S 105 (0, [(0, .ref 13), (1, .int a1)], [], (X, w)) _
  unfold F_M_reason
  refine ab_e_go 4 (4, [(0, .ref 13), (1, .int a1)], [.int (nI 2), .int (nI 0), .int a1, .ref 13], (X, w)) rfl ?_
  refine ab_e_c1 (k2 := 39) (as := [.int a1, .int (nI 0), .int (nI 2)]) (rest := [.ref 13]) rfl rfl (T_M_in S w X a1 (nI 0) (nI 2)) (fun v456 => ?_)
  refine ab_e_br (c := v456 = nI 0) (14, [(0, .ref 13), (1, .int a1)], [.ref 13], (X, w)) (10, [(0, .ref 13), (1, .int a1)], [.ref 13], (X, w)) rfl (fun _ => ?_) (fun _ => ?_)
  · refine ab_e_go 2 (18, [(0, .ref 13), (1, .int a1)], [], ((ab_up X 13 0 (nI 1)), w)) rfl ?_
    refine ab_e_letX (fun X457 _ => ?_)
    refine ab_e_go 2 (22, [(0, .ref 13), (1, .int a1)], [.int (X457 13 0)], (X457, w)) rfl ?_
    refine ab_e_br (c := X457 13 0 = nI 0) (29, [(0, .ref 13), (1, .int a1)], [], (X457, w)) (25, [(0, .ref 13), (1, .int a1)], [], (X457, w)) rfl (fun _ => ?_) (fun _ => ?_)
    · refine ab_e_go 1 (30, [(0, .ref 13), (1, .int a1)], [.int a1], (X457, w)) rfl ?_
      refine ab_e_bn (c := a1 = nI 0) (40, [(0, .ref 13), (1, .int a1)], [], (X457, w)) (33, [(0, .ref 13), (1, .int a1)], [], (X457, w)) rfl (fun _ => ?_) (fun _ => ?_)
      · refine ab_e_go 2 (42, [(0, .ref 13), (1, .int a1)], [.int (nI 1), .int a1], (X457, w)) rfl ?_
        refine ab_e_bn (c := a1 = nI 1) (52, [(0, .ref 13), (1, .int a1)], [], (X457, w)) (45, [(0, .ref 13), (1, .int a1)], [], (X457, w)) rfl (fun _ => ?_) (fun _ => ?_)
        · refine ab_e_go 2 (56, [(0, .ref 13), (1, .int a1)], [.int (X457 13 14)], (X457, w)) rfl ?_
          exact ab_e_rt rfl rfl
        · refine ab_e_go 3 (56, [(0, .ref 13), (1, .int a1)], [.int (X457 13 13)], (X457, w)) rfl ?_
          exact ab_e_rt rfl rfl
      · refine ab_e_go 3 (56, [(0, .ref 13), (1, .int a1)], [.int (X457 13 12)], (X457, w)) rfl ?_
        exact ab_e_rt rfl rfl
    · refine ab_e_go 2 (56, [(0, .ref 13), (1, .int a1)], [.int (nI 0)], (X457, w)) rfl ?_
      exact ab_e_rt rfl rfl
  · refine ab_e_go 3 (18, [(0, .ref 13), (1, .int a1)], [], ((ab_up X 13 0 (nI 0)), w)) rfl ?_
    refine ab_e_letX (fun X458 _ => ?_)
    refine ab_e_go 2 (22, [(0, .ref 13), (1, .int a1)], [.int (X458 13 0)], (X458, w)) rfl ?_
    refine ab_e_br (c := X458 13 0 = nI 0) (29, [(0, .ref 13), (1, .int a1)], [], (X458, w)) (25, [(0, .ref 13), (1, .int a1)], [], (X458, w)) rfl (fun _ => ?_) (fun _ => ?_)
    · refine ab_e_go 1 (30, [(0, .ref 13), (1, .int a1)], [.int a1], (X458, w)) rfl ?_
      refine ab_e_bn (c := a1 = nI 0) (40, [(0, .ref 13), (1, .int a1)], [], (X458, w)) (33, [(0, .ref 13), (1, .int a1)], [], (X458, w)) rfl (fun _ => ?_) (fun _ => ?_)
      · refine ab_e_go 2 (42, [(0, .ref 13), (1, .int a1)], [.int (nI 1), .int a1], (X458, w)) rfl ?_
        refine ab_e_bn (c := a1 = nI 1) (52, [(0, .ref 13), (1, .int a1)], [], (X458, w)) (45, [(0, .ref 13), (1, .int a1)], [], (X458, w)) rfl (fun _ => ?_) (fun _ => ?_)
        · refine ab_e_go 2 (56, [(0, .ref 13), (1, .int a1)], [.int (X458 13 14)], (X458, w)) rfl ?_
          exact ab_e_rt rfl rfl
        · refine ab_e_go 3 (56, [(0, .ref 13), (1, .int a1)], [.int (X458 13 13)], (X458, w)) rfl ?_
          exact ab_e_rt rfl rfl
      · refine ab_e_go 3 (56, [(0, .ref 13), (1, .int a1)], [.int (X458 13 12)], (X458, w)) rfl ?_
        exact ab_e_rt rfl rfl
    · refine ab_e_go 2 (56, [(0, .ref 13), (1, .int a1)], [.int (nI 0)], (X458, w)) rfl ?_
      exact ab_e_rt rfl rfl
def L_M_copies_2 : Nat → ab_XX → Int32 → Int32 → Int32 → Option (Unit × ab_XX)
  | 0, _, _, _, _ => none
  | n + 1, X, a1, a2, a3 =>
    if nI 405 ≤ a3 then
      some ((), X)
    else
      if ab_in (((nI 405) * a1) + a3) 4455 = true then
        (some (X 14 (((nI 405) * a1) + a3).toNatClampNeg)).bind fun v461 =>
        if ab_in (((nI 405) * a2) + a3) 4455 = true then
          (some (ab_up X 14 ((((nI 405) * a2) + a3).toNatClampNeg) v461)).bind fun X462 =>
          L_M_copies_2 n X462 a1 a2 (a3 + (nI 1))
        else none
      else none
set_option maxRecDepth 4000 in
theorem T_L_M_copies_2 (S : Nat × (Nat → Int32)) (w : ab_WW) : ∀ (n : Nat) (X : ab_XX) (a1 : Int32) (a2 : Int32) (a3 : Int32), ab_Eg (ab_m3 ab_fU w) S 35 (2, [(0, .ref 13), (1, .int a1), (2, .int a2), (3, .int a3)], [], (X, w)) (L_M_copies_2 n X a1 a2 a3) := by
  intro n
  induction n with
  | zero => intro X a1 a2 a3; exact ab_e_none
  | succ n ih =>
    intro X a1 a2 a3
    unfold L_M_copies_2
    refine ab_e_go 2 (6, [(0, .ref 13), (1, .int a1), (2, .int a2), (3, .int a3)], [.int (nI 405), .int a3], (X, w)) rfl ?_
    refine ab_e_br (c := nI 405 ≤ a3) (39, [(0, .ref 13), (1, .int a1), (2, .int a2), (3, .int a3)], [], (X, w)) (9, [(0, .ref 13), (1, .int a1), (2, .int a2), (3, .int a3)], [], (X, w)) rfl (fun _ => ?_) (fun _ => ?_)
    · exact ab_e_rt rfl rfl
    · refine ab_e_go 14 (31, [(0, .ref 13), (1, .int a1), (2, .int a2), (3, .int a3)], [.int (((nI 405) * a1) + a3), .ref 14, .int (((nI 405) * a2) + a3), .ref 14], (X, w)) rfl ?_
      refine ab_e_gd (32, [(0, .ref 13), (1, .int a1), (2, .int a2), (3, .int a3)], [.int (X 14 (((nI 405) * a1) + a3).toNatClampNeg), .int (((nI 405) * a2) + a3), .ref 14], (X, w)) rfl ?_
      refine ab_e_letI (fun v461 _ => ?_)
      refine ab_e_gd (33, [(0, .ref 13), (1, .int a1), (2, .int a2), (3, .int a3)], [], ((ab_up X 14 ((((nI 405) * a2) + a3).toNatClampNeg) v461), w)) rfl ?_
      refine ab_e_letX (fun X462 _ => ?_)
      refine ab_e_go 2 (2, [(3, .int (a3 + (nI 1))), (0, .ref 13), (1, .int a1), (2, .int a2)], [], (X462, w)) rfl ?_
      refine ab_e_wk [(0, .ref 13), (1, .int a1), (2, .int a2), (3, .int (a3 + (nI 1)))] ⟨rfl, rfl, rfl, rfl, trivial⟩ ?_
      exact ih X462 a1 a2 (a3 + (nI 1))
def F_M_copies (X : ab_XX) (a1 : Int32) (a2 : Int32) : Option (Unit × ab_XX) :=
  L_M_copies_2 ab_fu X a1 a2 (nI 0)
set_option maxRecDepth 4000 in
theorem T_M_copies (S : Nat × (Nat → Int32)) (w : ab_WW) (X : ab_XX) (a1 : Int32) (a2 : Int32) : ab_Eg (ab_m3 ab_fU w) S 35 (0, lv_args 0 [.ref 13, .int a1, .int a2], [], (X, w)) (F_M_copies X a1 a2) := by
  show ab_Eg (ab_m3 ab_fU w) S 35 (0, [(0, .ref 13), (1, .int a1), (2, .int a2)], [], (X, w)) _
  unfold F_M_copies
  refine ab_e_go 2 (2, [(3, .int (nI 0)), (0, .ref 13), (1, .int a1), (2, .int a2)], [], (X, w)) rfl ?_
  refine ab_e_wk [(0, .ref 13), (1, .int a1), (2, .int a2), (3, .int (nI 0))] ⟨rfl, rfl, rfl, rfl, trivial⟩ ?_
  exact T_L_M_copies_2 S w ab_fu X a1 a2 (nI 0)
def F_M_save (X : ab_XX) : Option (Int32 × ab_XX) :=
  (some (ab_up X 13 0 (nI 0))).bind fun X459 =>
  (some (ab_up X459 13 3 (nI 1))).bind fun X460 =>
  ab_b3 (F_M_copies X460 (nI 0) (nI 9)) (fun _ X463 =>
    (F_M_awards X463).bind fun v464 =>
    some (v464, X463))
set_option maxRecDepth 4000 in
theorem T_M_save (S : Nat × (Nat → Int32)) (w : ab_WW) (X : ab_XX) : ab_Eg (ab_m3 ab_fI w) S 106 (0, lv_args 0 [.ref 13], [], (X, w)) (F_M_save X) := by
  show ab_Eg (ab_m3 ab_fI w) S 106 (0, [(0, .ref 13)], [], (X, w)) _
  unfold F_M_save
  refine ab_e_go 3 (5, [(0, .ref 13)], [], ((ab_up X 13 0 (nI 0)), w)) rfl ?_
  refine ab_e_letX (fun X459 _ => ?_)
  refine ab_e_go 3 (10, [(0, .ref 13)], [], ((ab_up X459 13 3 (nI 1)), w)) rfl ?_
  refine ab_e_letX (fun X460 _ => ?_)
  refine ab_e_go 3 (14, [(0, .ref 13)], [.int (nI 9), .int (nI 0), .ref 13], (X460, w)) rfl ?_
  refine ab_e_c3 (k2 := 35) (as := [.ref 13, .int (nI 0), .int (nI 9)]) (rest := []) rfl rfl (T_M_copies S w X460 (nI 0) (nI 9)) (fun _ X463 => ?_)
  refine ab_e_go 1 (18, [(0, .ref 13)], [.ref 13], (X463, w)) rfl ?_
  refine ab_e_c1 (k2 := 33) (as := [.ref 13]) (rest := []) rfl rfl (T_M_awards S w X463) (fun v464 => ?_)
  exact ab_e_rt rfl rfl
def F_M_shiftCount (X : ab_XX) : Option (Int32 × ab_XX) :=
  (some (ab_up X 13 0 (nI 0))).bind fun X465 =>
  (F_M_shifts X465).bind fun v466 =>
  some (v466, X465)
set_option maxRecDepth 4000 in
theorem T_M_shiftCount (S : Nat × (Nat → Int32)) (w : ab_WW) (X : ab_XX) : ab_Eg (ab_m3 ab_fI w) S 107 (0, lv_args 0 [.ref 13], [], (X, w)) (F_M_shiftCount X) := by
  show ab_Eg (ab_m3 ab_fI w) S 107 (0, [(0, .ref 13)], [], (X, w)) _
  unfold F_M_shiftCount
  refine ab_e_go 3 (5, [(0, .ref 13)], [], ((ab_up X 13 0 (nI 0)), w)) rfl ?_
  refine ab_e_letX (fun X465 _ => ?_)
  refine ab_e_go 1 (6, [(0, .ref 13)], [.ref 13], (X465, w)) rfl ?_
  refine ab_e_c1 (k2 := 43) (as := [.ref 13]) (rest := []) rfl rfl (T_M_shifts S w X465) (fun v466 => ?_)
  exact ab_e_rt rfl rfl
def F_M_undo (X : ab_XX) : Option (Int32 × ab_XX) :=
  if X 13 2 = nI 0 then
    (some (ab_up X 13 0 (nI 1))).bind fun X470 =>
    if X470 13 0 = nI 0 then
      ab_b3 (F_M_copies X470 (X470 13 2) (nI 0)) (fun _ X471 =>
        (some (ab_up X471 13 2 ((X471 13 2) - (nI 1)))).bind fun X472 =>
        some (X472 13 2, X472))
    else
      some (nI 0, X470)
  else
    (some (ab_up X 13 0 (nI 0))).bind fun X467 =>
    if X467 13 0 = nI 0 then
      ab_b3 (F_M_copies X467 (X467 13 2) (nI 0)) (fun _ X468 =>
        (some (ab_up X468 13 2 ((X468 13 2) - (nI 1)))).bind fun X469 =>
        some (X469 13 2, X469))
    else
      some (nI 0, X467)
set_option maxRecDepth 4000 in
theorem T_M_undo (S : Nat × (Nat → Int32)) (w : ab_WW) (X : ab_XX) : ab_Eg (ab_m3 ab_fI w) S 109 (0, lv_args 0 [.ref 13], [], (X, w)) (F_M_undo X) := by
  show ab_Eg (ab_m3 ab_fI w) S 109 (0, [(0, .ref 13)], [], (X, w)) _
  unfold F_M_undo
  refine ab_e_go 3 (5, [(0, .ref 13)], [.int (X 13 2), .ref 13], (X, w)) rfl ?_
  refine ab_e_bn (c := X 13 2 = nI 0) (12, [(0, .ref 13)], [.ref 13], (X, w)) (8, [(0, .ref 13)], [.ref 13], (X, w)) rfl (fun _ => ?_) (fun _ => ?_)
  · refine ab_e_go 2 (16, [(0, .ref 13)], [], ((ab_up X 13 0 (nI 0)), w)) rfl ?_
    refine ab_e_letX (fun X467 _ => ?_)
    refine ab_e_go 2 (20, [(0, .ref 13)], [.int (X467 13 0)], (X467, w)) rfl ?_
    refine ab_e_br (c := X467 13 0 = nI 0) (25, [(0, .ref 13)], [], (X467, w)) (23, [(0, .ref 13)], [], (X467, w)) rfl (fun _ => ?_) (fun _ => ?_)
    · refine ab_e_go 4 (31, [(0, .ref 13)], [.int (nI 0), .int (X467 13 2), .ref 13], (X467, w)) rfl ?_
      refine ab_e_c3 (k2 := 35) (as := [.ref 13, .int (X467 13 2), .int (nI 0)]) (rest := []) rfl rfl (T_M_copies S w X467 (X467 13 2) (nI 0)) (fun _ X468 => ?_)
      refine ab_e_go 6 (44, [(0, .ref 13)], [], ((ab_up X468 13 2 ((X468 13 2) - (nI 1))), w)) rfl ?_
      refine ab_e_letX (fun X469 _ => ?_)
      refine ab_e_go 2 (48, [(0, .ref 13)], [.int (X469 13 2)], (X469, w)) rfl ?_
      exact ab_e_rt rfl rfl
    · refine ab_e_go 1 (24, [(0, .ref 13)], [.int (nI 0)], (X467, w)) rfl ?_
      exact ab_e_rt rfl rfl
  · refine ab_e_go 3 (16, [(0, .ref 13)], [], ((ab_up X 13 0 (nI 1)), w)) rfl ?_
    refine ab_e_letX (fun X470 _ => ?_)
    refine ab_e_go 2 (20, [(0, .ref 13)], [.int (X470 13 0)], (X470, w)) rfl ?_
    refine ab_e_br (c := X470 13 0 = nI 0) (25, [(0, .ref 13)], [], (X470, w)) (23, [(0, .ref 13)], [], (X470, w)) rfl (fun _ => ?_) (fun _ => ?_)
    · refine ab_e_go 4 (31, [(0, .ref 13)], [.int (nI 0), .int (X470 13 2), .ref 13], (X470, w)) rfl ?_
      refine ab_e_c3 (k2 := 35) (as := [.ref 13, .int (X470 13 2), .int (nI 0)]) (rest := []) rfl rfl (T_M_copies S w X470 (X470 13 2) (nI 0)) (fun _ X471 => ?_)
      refine ab_e_go 6 (44, [(0, .ref 13)], [], ((ab_up X471 13 2 ((X471 13 2) - (nI 1))), w)) rfl ?_
      refine ab_e_letX (fun X472 _ => ?_)
      refine ab_e_go 2 (48, [(0, .ref 13)], [.int (X472 13 2)], (X472, w)) rfl ?_
      exact ab_e_rt rfl rfl
    · refine ab_e_go 1 (24, [(0, .ref 13)], [.int (nI 0)], (X470, w)) rfl ?_
      exact ab_e_rt rfl rfl
def F_M_workerCount (X : ab_XX) : Option (Int32 × ab_XX) :=
  (some (ab_up X 13 0 (nI 0))).bind fun X473 =>
  (F_M_workers X473).bind fun v474 =>
  some (v474, X473)
set_option maxRecDepth 4000 in
theorem T_M_workerCount (S : Nat × (Nat → Int32)) (w : ab_WW) (X : ab_XX) : ab_Eg (ab_m3 ab_fI w) S 111 (0, lv_args 0 [.ref 13], [], (X, w)) (F_M_workerCount X) := by
  show ab_Eg (ab_m3 ab_fI w) S 111 (0, [(0, .ref 13)], [], (X, w)) _
  unfold F_M_workerCount
  refine ab_e_go 3 (5, [(0, .ref 13)], [], ((ab_up X 13 0 (nI 0)), w)) rfl ?_
  refine ab_e_letX (fun X473 _ => ?_)
  refine ab_e_go 1 (6, [(0, .ref 13)], [.ref 13], (X473, w)) rfl ?_
  refine ab_e_c1 (k2 := 45) (as := [.ref 13]) (rest := []) rfl rfl (T_M_workers S w X473) (fun v474 => ?_)
  exact ab_e_rt rfl rfl
def F_M_shiftThrown (X : ab_XX) (a1 : Int32) (a2 : Int32) (a3 : Int32) (a4 : Int32) (a5 : Int32) : Option Int32 :=
  (F_M_in a1 (nI 0) (nI 27)).bind fun v475 =>
  if v475 = nI 0 then
    some (nI 1)
  else
    (F_M_in a2 (nI 0) (nI 23)).bind fun v476 =>
    if v476 = nI 0 then
      some (nI 1)
    else
      (F_M_in a3 (nI 1) (nI 12)).bind fun v477 =>
      if v477 = nI 0 then
        some (nI 1)
      else
        (F_M_in a4 (nI 0) (nI 3)).bind fun v478 =>
        if v478 = nI 0 then
          some (nI 1)
        else
          (F_M_in a5 (nI 1) (nI 3)).bind fun v479 =>
          if v479 = nI 0 then
            some (nI 1)
          else
            (F_M_shifts X).bind fun v480 =>
            if v480 = nI 16 then
              some (nI 2)
            else
              some (nI 0)
set_option maxRecDepth 4000 in
theorem T_M_shiftThrown (S : Nat × (Nat → Int32)) (w : ab_WW) (X : ab_XX) (a1 : Int32) (a2 : Int32) (a3 : Int32) (a4 : Int32) (a5 : Int32) : ab_Eg (ab_m1 ab_fI (X, w)) S 108 (0, lv_args 0 [.ref 13, .int a1, .int a2, .int a3, .int a4, .int a5], [], (X, w)) (F_M_shiftThrown X a1 a2 a3 a4 a5) := by
  show ab_Eg (ab_m1 ab_fI (X, w)) S 108 (0, [(0, .ref 13), (1, .int a1), (2, .int a2), (3, .int a3), (4, .int a4), (5, .int a5)], [], (X, w)) _
  unfold F_M_shiftThrown
  refine ab_e_go 3 (4, [(0, .ref 13), (1, .int a1), (2, .int a2), (3, .int a3), (4, .int a4), (5, .int a5)], [.int (nI 27), .int (nI 0), .int a1], (X, w)) rfl ?_
  refine ab_e_c1 (k2 := 39) (as := [.int a1, .int (nI 0), .int (nI 27)]) (rest := []) rfl rfl (T_M_in S w X a1 (nI 0) (nI 27)) (fun v475 => ?_)
  refine ab_e_br (c := v475 = nI 0) (50, [(0, .ref 13), (1, .int a1), (2, .int a2), (3, .int a3), (4, .int a4), (5, .int a5)], [], (X, w)) (10, [(0, .ref 13), (1, .int a1), (2, .int a2), (3, .int a3), (4, .int a4), (5, .int a5)], [], (X, w)) rfl (fun _ => ?_) (fun _ => ?_)
  · refine ab_e_go 2 (68, [(0, .ref 13), (1, .int a1), (2, .int a2), (3, .int a3), (4, .int a4), (5, .int a5)], [.int (nI 1)], (X, w)) rfl ?_
    exact ab_e_rt rfl rfl
  · refine ab_e_go 3 (14, [(0, .ref 13), (1, .int a1), (2, .int a2), (3, .int a3), (4, .int a4), (5, .int a5)], [.int (nI 23), .int (nI 0), .int a2], (X, w)) rfl ?_
    refine ab_e_c1 (k2 := 39) (as := [.int a2, .int (nI 0), .int (nI 23)]) (rest := []) rfl rfl (T_M_in S w X a2 (nI 0) (nI 23)) (fun v476 => ?_)
    refine ab_e_br (c := v476 = nI 0) (50, [(0, .ref 13), (1, .int a1), (2, .int a2), (3, .int a3), (4, .int a4), (5, .int a5)], [], (X, w)) (20, [(0, .ref 13), (1, .int a1), (2, .int a2), (3, .int a3), (4, .int a4), (5, .int a5)], [], (X, w)) rfl (fun _ => ?_) (fun _ => ?_)
    · refine ab_e_go 2 (68, [(0, .ref 13), (1, .int a1), (2, .int a2), (3, .int a3), (4, .int a4), (5, .int a5)], [.int (nI 1)], (X, w)) rfl ?_
      exact ab_e_rt rfl rfl
    · refine ab_e_go 3 (24, [(0, .ref 13), (1, .int a1), (2, .int a2), (3, .int a3), (4, .int a4), (5, .int a5)], [.int (nI 12), .int (nI 1), .int a3], (X, w)) rfl ?_
      refine ab_e_c1 (k2 := 39) (as := [.int a3, .int (nI 1), .int (nI 12)]) (rest := []) rfl rfl (T_M_in S w X a3 (nI 1) (nI 12)) (fun v477 => ?_)
      refine ab_e_br (c := v477 = nI 0) (50, [(0, .ref 13), (1, .int a1), (2, .int a2), (3, .int a3), (4, .int a4), (5, .int a5)], [], (X, w)) (30, [(0, .ref 13), (1, .int a1), (2, .int a2), (3, .int a3), (4, .int a4), (5, .int a5)], [], (X, w)) rfl (fun _ => ?_) (fun _ => ?_)
      · refine ab_e_go 2 (68, [(0, .ref 13), (1, .int a1), (2, .int a2), (3, .int a3), (4, .int a4), (5, .int a5)], [.int (nI 1)], (X, w)) rfl ?_
        exact ab_e_rt rfl rfl
      · refine ab_e_go 3 (34, [(0, .ref 13), (1, .int a1), (2, .int a2), (3, .int a3), (4, .int a4), (5, .int a5)], [.int (nI 3), .int (nI 0), .int a4], (X, w)) rfl ?_
        refine ab_e_c1 (k2 := 39) (as := [.int a4, .int (nI 0), .int (nI 3)]) (rest := []) rfl rfl (T_M_in S w X a4 (nI 0) (nI 3)) (fun v478 => ?_)
        refine ab_e_br (c := v478 = nI 0) (50, [(0, .ref 13), (1, .int a1), (2, .int a2), (3, .int a3), (4, .int a4), (5, .int a5)], [], (X, w)) (40, [(0, .ref 13), (1, .int a1), (2, .int a2), (3, .int a3), (4, .int a4), (5, .int a5)], [], (X, w)) rfl (fun _ => ?_) (fun _ => ?_)
        · refine ab_e_go 2 (68, [(0, .ref 13), (1, .int a1), (2, .int a2), (3, .int a3), (4, .int a4), (5, .int a5)], [.int (nI 1)], (X, w)) rfl ?_
          exact ab_e_rt rfl rfl
        · refine ab_e_go 3 (44, [(0, .ref 13), (1, .int a1), (2, .int a2), (3, .int a3), (4, .int a4), (5, .int a5)], [.int (nI 3), .int (nI 1), .int a5], (X, w)) rfl ?_
          refine ab_e_c1 (k2 := 39) (as := [.int a5, .int (nI 1), .int (nI 3)]) (rest := []) rfl rfl (T_M_in S w X a5 (nI 1) (nI 3)) (fun v479 => ?_)
          refine ab_e_bn (c := v479 = nI 0) (54, [(0, .ref 13), (1, .int a1), (2, .int a2), (3, .int a3), (4, .int a4), (5, .int a5)], [], (X, w)) (50, [(0, .ref 13), (1, .int a1), (2, .int a2), (3, .int a3), (4, .int a4), (5, .int a5)], [], (X, w)) rfl (fun _ => ?_) (fun _ => ?_)
          · refine ab_e_go 1 (55, [(0, .ref 13), (1, .int a1), (2, .int a2), (3, .int a3), (4, .int a4), (5, .int a5)], [.ref 13], (X, w)) rfl ?_
            refine ab_e_c1 (k2 := 43) (as := [.ref 13]) (rest := []) rfl rfl (T_M_shifts S w X) (fun v480 => ?_)
            refine ab_e_go 1 (60, [(0, .ref 13), (1, .int a1), (2, .int a2), (3, .int a3), (4, .int a4), (5, .int a5)], [.int (nI 16), .int v480], (X, w)) rfl ?_
            refine ab_e_bn (c := v480 = nI 16) (67, [(0, .ref 13), (1, .int a1), (2, .int a2), (3, .int a3), (4, .int a4), (5, .int a5)], [], (X, w)) (63, [(0, .ref 13), (1, .int a1), (2, .int a2), (3, .int a3), (4, .int a4), (5, .int a5)], [], (X, w)) rfl (fun _ => ?_) (fun _ => ?_)
            · refine ab_e_go 1 (68, [(0, .ref 13), (1, .int a1), (2, .int a2), (3, .int a3), (4, .int a4), (5, .int a5)], [.int (nI 0)], (X, w)) rfl ?_
              exact ab_e_rt rfl rfl
            · refine ab_e_go 2 (68, [(0, .ref 13), (1, .int a1), (2, .int a2), (3, .int a3), (4, .int a4), (5, .int a5)], [.int (nI 2)], (X, w)) rfl ?_
              exact ab_e_rt rfl rfl
          · refine ab_e_go 2 (68, [(0, .ref 13), (1, .int a1), (2, .int a2), (3, .int a3), (4, .int a4), (5, .int a5)], [.int (nI 1)], (X, w)) rfl ?_
            exact ab_e_rt rfl rfl
def L_M_keeps_11 : Nat → ab_XX → Int32 → Option (Unit × ab_XX)
  | 0, _, _ => none
  | n + 1, X, a1 =>
    if nI 8 ≤ a1 then
      (some (ab_up X 13 2 ((X 13 2) - (nI 1)))).bind fun X485 =>
      (some (ab_up X485 13 2 ((X485 13 2) + (nI 1)))).bind fun X486 =>
      ab_b3 (F_M_copies X486 (nI 0) (X486 13 2)) (fun _ X487 =>
        some ((), X487))
    else
      ab_b3 (F_M_copies X (a1 + (nI 1)) a1) (fun _ X488 =>
        L_M_keeps_11 n X488 (a1 + (nI 1)))
set_option maxRecDepth 4000 in
theorem T_L_M_keeps_11 (S : Nat × (Nat → Int32)) (w : ab_WW) : ∀ (n : Nat) (X : ab_XX) (a1 : Int32), ab_Eg (ab_m3 ab_fU w) S 99 (11, [(0, .ref 13), (1, .int a1)], [], (X, w)) (L_M_keeps_11 n X a1) := by
  intro n
  induction n with
  | zero => intro X a1; exact ab_e_none
  | succ n ih =>
    intro X a1
    unfold L_M_keeps_11
    refine ab_e_go 2 (14, [(0, .ref 13), (1, .int a1)], [.int (nI 8), .int a1], (X, w)) rfl ?_
    refine ab_e_br (c := nI 8 ≤ a1) (31, [(0, .ref 13), (1, .int a1)], [], (X, w)) (17, [(0, .ref 13), (1, .int a1)], [], (X, w)) rfl (fun _ => ?_) (fun _ => ?_)
    · refine ab_e_go 6 (41, [(0, .ref 13), (1, .int a1)], [], ((ab_up X 13 2 ((X 13 2) - (nI 1))), w)) rfl ?_
      refine ab_e_letX (fun X485 _ => ?_)
      refine ab_e_go 6 (51, [(0, .ref 13), (1, .int a1)], [], ((ab_up X485 13 2 ((X485 13 2) + (nI 1))), w)) rfl ?_
      refine ab_e_letX (fun X486 _ => ?_)
      refine ab_e_go 4 (57, [(0, .ref 13), (1, .int a1)], [.int (X486 13 2), .int (nI 0), .ref 13], (X486, w)) rfl ?_
      refine ab_e_c3 (k2 := 35) (as := [.ref 13, .int (nI 0), .int (X486 13 2)]) (rest := []) rfl rfl (T_M_copies S w X486 (nI 0) (X486 13 2)) (fun _ X487 => ?_)
      exact ab_e_rt rfl rfl
    · refine ab_e_go 5 (22, [(0, .ref 13), (1, .int a1)], [.int a1, .int (a1 + (nI 1)), .ref 13], (X, w)) rfl ?_
      refine ab_e_c3 (k2 := 35) (as := [.ref 13, .int (a1 + (nI 1)), .int a1]) (rest := []) rfl rfl (T_M_copies S w X (a1 + (nI 1)) a1) (fun _ X488 => ?_)
      refine ab_e_go 2 (11, [(1, .int (a1 + (nI 1))), (0, .ref 13)], [], (X488, w)) rfl ?_
      refine ab_e_wk [(0, .ref 13), (1, .int (a1 + (nI 1)))] ⟨rfl, rfl, trivial⟩ ?_
      exact ih X488 (a1 + (nI 1))
def F_M_keeps (X : ab_XX) : Option (Unit × ab_XX) :=
  if X 13 2 = nI 8 then
    L_M_keeps_11 ab_fu X (nI 1)
  else
    (some (ab_up X 13 2 ((X 13 2) + (nI 1)))).bind fun X483 =>
    ab_b3 (F_M_copies X483 (nI 0) (X483 13 2)) (fun _ X484 =>
      some ((), X484))
set_option maxRecDepth 4000 in
theorem T_M_keeps (S : Nat × (Nat → Int32)) (w : ab_WW) (X : ab_XX) : ab_Eg (ab_m3 ab_fU w) S 99 (0, lv_args 0 [.ref 13], [], (X, w)) (F_M_keeps X) := by
  show ab_Eg (ab_m3 ab_fU w) S 99 (0, [(0, .ref 13)], [], (X, w)) _
  unfold F_M_keeps
  refine ab_e_go 3 (6, [(0, .ref 13)], [.int (nI 8), .int (X 13 2)], (X, w)) rfl ?_
  refine ab_e_bn (c := X 13 2 = nI 8) (41, [(0, .ref 13)], [], (X, w)) (9, [(0, .ref 13)], [], (X, w)) rfl (fun _ => ?_) (fun _ => ?_)
  · refine ab_e_go 6 (51, [(0, .ref 13)], [], ((ab_up X 13 2 ((X 13 2) + (nI 1))), w)) rfl ?_
    refine ab_e_letX (fun X483 _ => ?_)
    refine ab_e_go 4 (57, [(0, .ref 13)], [.int (X483 13 2), .int (nI 0), .ref 13], (X483, w)) rfl ?_
    refine ab_e_c3 (k2 := 35) (as := [.ref 13, .int (nI 0), .int (X483 13 2)]) (rest := []) rfl rfl (T_M_copies S w X483 (nI 0) (X483 13 2)) (fun _ X484 => ?_)
    exact ab_e_rt rfl rfl
  · refine ab_e_go 2 (11, [(1, .int (nI 1)), (0, .ref 13)], [], (X, w)) rfl ?_
    refine ab_e_wk [(0, .ref 13), (1, .int (nI 1))] ⟨rfl, rfl, trivial⟩ ?_
    exact T_L_M_keeps_11 S w ab_fu X (nI 1)
def F_M_opensShift (X : ab_XX) (a1 : Int32) (a2 : Int32) (a3 : Int32) (a4 : Int32) (a5 : Int32) : Option (Int32 × ab_XX) :=
  (F_M_shifts X).bind fun v490 =>
  (some (ab_up X 14 ((nI 51).toNatClampNeg) ((X 14 51) + (nI 1)))).bind fun X491 =>
  if ab_in ((nI 52) + ((nI 6) * v490)) 4455 = true then
    (some (ab_up X491 14 (((nI 52) + ((nI 6) * v490)).toNatClampNeg) a1)).bind fun X492 =>
    if ab_in (((nI 52) + ((nI 6) * v490)) + (nI 1)) 4455 = true then
      (some (ab_up X492 14 ((((nI 52) + ((nI 6) * v490)) + (nI 1)).toNatClampNeg) a2)).bind fun X493 =>
      if ab_in (((nI 52) + ((nI 6) * v490)) + (nI 2)) 4455 = true then
        (some (ab_up X493 14 ((((nI 52) + ((nI 6) * v490)) + (nI 2)).toNatClampNeg) a3)).bind fun X494 =>
        if ab_in (((nI 52) + ((nI 6) * v490)) + (nI 3)) 4455 = true then
          (some (ab_up X494 14 ((((nI 52) + ((nI 6) * v490)) + (nI 3)).toNatClampNeg) a4)).bind fun X495 =>
          if ab_in (((nI 52) + ((nI 6) * v490)) + (nI 4)) 4455 = true then
            (some (ab_up X495 14 ((((nI 52) + ((nI 6) * v490)) + (nI 4)).toNatClampNeg) a5)).bind fun X496 =>
            if ab_in (((nI 52) + ((nI 6) * v490)) + (nI 5)) 4455 = true then
              (some (ab_up X496 14 ((((nI 52) + ((nI 6) * v490)) + (nI 5)).toNatClampNeg) (nI 0))).bind fun X497 =>
              some (v490, X497)
            else none
          else none
        else none
      else none
    else none
  else none
set_option maxRecDepth 4000 in
theorem T_M_opensShift (S : Nat × (Nat → Int32)) (w : ab_WW) (X : ab_XX) (a1 : Int32) (a2 : Int32) (a3 : Int32) (a4 : Int32) (a5 : Int32) : ab_Eg (ab_m3 ab_fI w) S 102 (0, lv_args 0 [.ref 13, .int a1, .int a2, .int a3, .int a4, .int a5], [], (X, w)) (F_M_opensShift X a1 a2 a3 a4 a5) := by
  show ab_Eg (ab_m3 ab_fI w) S 102 (0, [(0, .ref 13), (1, .int a1), (2, .int a2), (3, .int a3), (4, .int a4), (5, .int a5)], [], (X, w)) _
  unfold F_M_opensShift
  refine ab_e_go 1 (1, [(0, .ref 13), (1, .int a1), (2, .int a2), (3, .int a3), (4, .int a4), (5, .int a5)], [.ref 13], (X, w)) rfl ?_
  refine ab_e_c1 (k2 := 43) (as := [.ref 13]) (rest := []) rfl rfl (T_M_shifts S w X) (fun v490 => ?_)
  refine ab_e_go 9 (17, [(6, .int v490), (0, .ref 13), (1, .int a1), (2, .int a2), (3, .int a3), (4, .int a4), (5, .int a5)], [], ((ab_up X 14 ((nI 51).toNatClampNeg) ((X 14 51) + (nI 1))), w)) rfl ?_
  refine ab_e_letX (fun X491 _ => ?_)
  refine ab_e_go 8 (30, [(6, .int v490), (0, .ref 13), (1, .int a1), (2, .int a2), (3, .int a3), (4, .int a4), (5, .int a5)], [.int a1, .int ((nI 52) + ((nI 6) * v490)), .ref 14], (X491, w)) rfl ?_
  refine ab_e_gd (31, [(6, .int v490), (0, .ref 13), (1, .int a1), (2, .int a2), (3, .int a3), (4, .int a4), (5, .int a5)], [], ((ab_up X491 14 (((nI 52) + ((nI 6) * v490)).toNatClampNeg) a1), w)) rfl ?_
  refine ab_e_letX (fun X492 _ => ?_)
  refine ab_e_go 10 (46, [(6, .int v490), (0, .ref 13), (1, .int a1), (2, .int a2), (3, .int a3), (4, .int a4), (5, .int a5)], [.int a2, .int (((nI 52) + ((nI 6) * v490)) + (nI 1)), .ref 14], (X492, w)) rfl ?_
  refine ab_e_gd (47, [(6, .int v490), (0, .ref 13), (1, .int a1), (2, .int a2), (3, .int a3), (4, .int a4), (5, .int a5)], [], ((ab_up X492 14 ((((nI 52) + ((nI 6) * v490)) + (nI 1)).toNatClampNeg) a2), w)) rfl ?_
  refine ab_e_letX (fun X493 _ => ?_)
  refine ab_e_go 10 (62, [(6, .int v490), (0, .ref 13), (1, .int a1), (2, .int a2), (3, .int a3), (4, .int a4), (5, .int a5)], [.int a3, .int (((nI 52) + ((nI 6) * v490)) + (nI 2)), .ref 14], (X493, w)) rfl ?_
  refine ab_e_gd (63, [(6, .int v490), (0, .ref 13), (1, .int a1), (2, .int a2), (3, .int a3), (4, .int a4), (5, .int a5)], [], ((ab_up X493 14 ((((nI 52) + ((nI 6) * v490)) + (nI 2)).toNatClampNeg) a3), w)) rfl ?_
  refine ab_e_letX (fun X494 _ => ?_)
  refine ab_e_go 10 (79, [(6, .int v490), (0, .ref 13), (1, .int a1), (2, .int a2), (3, .int a3), (4, .int a4), (5, .int a5)], [.int a4, .int (((nI 52) + ((nI 6) * v490)) + (nI 3)), .ref 14], (X494, w)) rfl ?_
  refine ab_e_gd (80, [(6, .int v490), (0, .ref 13), (1, .int a1), (2, .int a2), (3, .int a3), (4, .int a4), (5, .int a5)], [], ((ab_up X494 14 ((((nI 52) + ((nI 6) * v490)) + (nI 3)).toNatClampNeg) a4), w)) rfl ?_
  refine ab_e_letX (fun X495 _ => ?_)
  refine ab_e_go 10 (96, [(6, .int v490), (0, .ref 13), (1, .int a1), (2, .int a2), (3, .int a3), (4, .int a4), (5, .int a5)], [.int a5, .int (((nI 52) + ((nI 6) * v490)) + (nI 4)), .ref 14], (X495, w)) rfl ?_
  refine ab_e_gd (97, [(6, .int v490), (0, .ref 13), (1, .int a1), (2, .int a2), (3, .int a3), (4, .int a4), (5, .int a5)], [], ((ab_up X495 14 ((((nI 52) + ((nI 6) * v490)) + (nI 4)).toNatClampNeg) a5), w)) rfl ?_
  refine ab_e_letX (fun X496 _ => ?_)
  refine ab_e_go 10 (112, [(6, .int v490), (0, .ref 13), (1, .int a1), (2, .int a2), (3, .int a3), (4, .int a4), (5, .int a5)], [.int (nI 0), .int (((nI 52) + ((nI 6) * v490)) + (nI 5)), .ref 14], (X496, w)) rfl ?_
  refine ab_e_gd (113, [(6, .int v490), (0, .ref 13), (1, .int a1), (2, .int a2), (3, .int a3), (4, .int a4), (5, .int a5)], [], ((ab_up X496 14 ((((nI 52) + ((nI 6) * v490)) + (nI 5)).toNatClampNeg) (nI 0)), w)) rfl ?_
  refine ab_e_letX (fun X497 _ => ?_)
  refine ab_e_go 1 (115, [(6, .int v490), (0, .ref 13), (1, .int a1), (2, .int a2), (3, .int a3), (4, .int a4), (5, .int a5)], [.int v490], (X497, w)) rfl ?_
  exact ab_e_rt rfl rfl
def F_M_addShift (X : ab_XX) (a1 : Int32) (a2 : Int32) (a3 : Int32) (a4 : Int32) (a5 : Int32) : Option (Int32 × ab_XX) :=
  (F_M_shiftThrown X a1 a2 a3 a4 a5).bind fun v481 =>
  (some (ab_up X 13 0 v481)).bind fun X482 =>
  if X482 13 0 = nI 0 then
    ab_b3 (F_M_keeps X482) (fun _ X489 =>
      ab_b3 (F_M_opensShift X489 a1 a2 a3 a4 a5) (fun v498 X499 =>
        some (v498, X499)))
  else
    some (nI 0, X482)
set_option maxRecDepth 4000 in
theorem T_M_addShift (S : Nat × (Nat → Int32)) (w : ab_WW) (X : ab_XX) (a1 : Int32) (a2 : Int32) (a3 : Int32) (a4 : Int32) (a5 : Int32) : ab_Eg (ab_m3 ab_fI w) S 137 (0, lv_args 0 [.ref 13, .int a1, .int a2, .int a3, .int a4, .int a5], [], (X, w)) (F_M_addShift X a1 a2 a3 a4 a5) := by
  show ab_Eg (ab_m3 ab_fI w) S 137 (0, [(0, .ref 13), (1, .int a1), (2, .int a2), (3, .int a3), (4, .int a4), (5, .int a5)], [], (X, w)) _
  unfold F_M_addShift
  refine ab_e_go 7 (9, [(0, .ref 13), (1, .int a1), (2, .int a2), (3, .int a3), (4, .int a4), (5, .int a5)], [.int a5, .int a4, .int a3, .int a2, .int a1, .ref 13, .ref 13], (X, w)) rfl ?_
  refine ab_e_c1 (k2 := 108) (as := [.ref 13, .int a1, .int a2, .int a3, .int a4, .int a5]) (rest := [.ref 13]) rfl rfl (T_M_shiftThrown S w X a1 a2 a3 a4 a5) (fun v481 => ?_)
  refine ab_e_go 1 (15, [(0, .ref 13), (1, .int a1), (2, .int a2), (3, .int a3), (4, .int a4), (5, .int a5)], [], ((ab_up X 13 0 v481), w)) rfl ?_
  refine ab_e_letX (fun X482 _ => ?_)
  refine ab_e_go 2 (19, [(0, .ref 13), (1, .int a1), (2, .int a2), (3, .int a3), (4, .int a4), (5, .int a5)], [.int (X482 13 0)], (X482, w)) rfl ?_
  refine ab_e_br (c := X482 13 0 = nI 0) (24, [(0, .ref 13), (1, .int a1), (2, .int a2), (3, .int a3), (4, .int a4), (5, .int a5)], [], (X482, w)) (22, [(0, .ref 13), (1, .int a1), (2, .int a2), (3, .int a3), (4, .int a4), (5, .int a5)], [], (X482, w)) rfl (fun _ => ?_) (fun _ => ?_)
  · refine ab_e_go 1 (25, [(0, .ref 13), (1, .int a1), (2, .int a2), (3, .int a3), (4, .int a4), (5, .int a5)], [.ref 13], (X482, w)) rfl ?_
    refine ab_e_c3 (k2 := 99) (as := [.ref 13]) (rest := []) rfl rfl (T_M_keeps S w X482) (fun _ X489 => ?_)
    refine ab_e_go 6 (36, [(0, .ref 13), (1, .int a1), (2, .int a2), (3, .int a3), (4, .int a4), (5, .int a5)], [.int a5, .int a4, .int a3, .int a2, .int a1, .ref 13], (X489, w)) rfl ?_
    refine ab_e_c3 (k2 := 102) (as := [.ref 13, .int a1, .int a2, .int a3, .int a4, .int a5]) (rest := []) rfl rfl (T_M_opensShift S w X489 a1 a2 a3 a4 a5) (fun v498 X499 => ?_)
    exact ab_e_rt rfl rfl
  · refine ab_e_go 1 (23, [(0, .ref 13), (1, .int a1), (2, .int a2), (3, .int a3), (4, .int a4), (5, .int a5)], [.int (nI 0)], (X482, w)) rfl ?_
    exact ab_e_rt rfl rfl
def F_M_workerThrown (X : ab_XX) (a1 : Int32) (a2 : Int32) (a3 : Int32) (a4 : Int32) (a5 : Int32) : Option Int32 :=
  (F_M_in a1 (nI 0) (nI 99)).bind fun v500 =>
  if v500 = nI 0 then
    some (nI 1)
  else
    (F_M_in a2 (nI 0) (nI 24)).bind fun v501 =>
    if v501 = nI 0 then
      some (nI 1)
    else
      (F_M_in a3 (nI 1) (nI 168)).bind fun v502 =>
      if v502 = nI 0 then
        some (nI 1)
      else
        (F_M_in a4 (nI 1) (nI 28)).bind fun v503 =>
        if v503 = nI 0 then
          some (nI 1)
        else
          (F_M_in a5 (nI 0) (nI 15)).bind fun v504 =>
          if v504 = nI 0 then
            some (nI 1)
          else
            (F_M_workers X).bind fun v505 =>
            if v505 = nI 10 then
              some (nI 2)
            else
              some (nI 0)
set_option maxRecDepth 4000 in
theorem T_M_workerThrown (S : Nat × (Nat → Int32)) (w : ab_WW) (X : ab_XX) (a1 : Int32) (a2 : Int32) (a3 : Int32) (a4 : Int32) (a5 : Int32) : ab_Eg (ab_m1 ab_fI (X, w)) S 112 (0, lv_args 0 [.ref 13, .int a1, .int a2, .int a3, .int a4, .int a5], [], (X, w)) (F_M_workerThrown X a1 a2 a3 a4 a5) := by
  show ab_Eg (ab_m1 ab_fI (X, w)) S 112 (0, [(0, .ref 13), (1, .int a1), (2, .int a2), (3, .int a3), (4, .int a4), (5, .int a5)], [], (X, w)) _
  unfold F_M_workerThrown
  refine ab_e_go 3 (4, [(0, .ref 13), (1, .int a1), (2, .int a2), (3, .int a3), (4, .int a4), (5, .int a5)], [.int (nI 99), .int (nI 0), .int a1], (X, w)) rfl ?_
  refine ab_e_c1 (k2 := 39) (as := [.int a1, .int (nI 0), .int (nI 99)]) (rest := []) rfl rfl (T_M_in S w X a1 (nI 0) (nI 99)) (fun v500 => ?_)
  refine ab_e_br (c := v500 = nI 0) (53, [(0, .ref 13), (1, .int a1), (2, .int a2), (3, .int a3), (4, .int a4), (5, .int a5)], [], (X, w)) (10, [(0, .ref 13), (1, .int a1), (2, .int a2), (3, .int a3), (4, .int a4), (5, .int a5)], [], (X, w)) rfl (fun _ => ?_) (fun _ => ?_)
  · refine ab_e_go 2 (71, [(0, .ref 13), (1, .int a1), (2, .int a2), (3, .int a3), (4, .int a4), (5, .int a5)], [.int (nI 1)], (X, w)) rfl ?_
    exact ab_e_rt rfl rfl
  · refine ab_e_go 3 (14, [(0, .ref 13), (1, .int a1), (2, .int a2), (3, .int a3), (4, .int a4), (5, .int a5)], [.int (nI 24), .int (nI 0), .int a2], (X, w)) rfl ?_
    refine ab_e_c1 (k2 := 39) (as := [.int a2, .int (nI 0), .int (nI 24)]) (rest := []) rfl rfl (T_M_in S w X a2 (nI 0) (nI 24)) (fun v501 => ?_)
    refine ab_e_br (c := v501 = nI 0) (53, [(0, .ref 13), (1, .int a1), (2, .int a2), (3, .int a3), (4, .int a4), (5, .int a5)], [], (X, w)) (20, [(0, .ref 13), (1, .int a1), (2, .int a2), (3, .int a3), (4, .int a4), (5, .int a5)], [], (X, w)) rfl (fun _ => ?_) (fun _ => ?_)
    · refine ab_e_go 2 (71, [(0, .ref 13), (1, .int a1), (2, .int a2), (3, .int a3), (4, .int a4), (5, .int a5)], [.int (nI 1)], (X, w)) rfl ?_
      exact ab_e_rt rfl rfl
    · refine ab_e_go 3 (25, [(0, .ref 13), (1, .int a1), (2, .int a2), (3, .int a3), (4, .int a4), (5, .int a5)], [.int (nI 168), .int (nI 1), .int a3], (X, w)) rfl ?_
      refine ab_e_c1 (k2 := 39) (as := [.int a3, .int (nI 1), .int (nI 168)]) (rest := []) rfl rfl (T_M_in S w X a3 (nI 1) (nI 168)) (fun v502 => ?_)
      refine ab_e_br (c := v502 = nI 0) (53, [(0, .ref 13), (1, .int a1), (2, .int a2), (3, .int a3), (4, .int a4), (5, .int a5)], [], (X, w)) (31, [(0, .ref 13), (1, .int a1), (2, .int a2), (3, .int a3), (4, .int a4), (5, .int a5)], [], (X, w)) rfl (fun _ => ?_) (fun _ => ?_)
      · refine ab_e_go 2 (71, [(0, .ref 13), (1, .int a1), (2, .int a2), (3, .int a3), (4, .int a4), (5, .int a5)], [.int (nI 1)], (X, w)) rfl ?_
        exact ab_e_rt rfl rfl
      · refine ab_e_go 3 (36, [(0, .ref 13), (1, .int a1), (2, .int a2), (3, .int a3), (4, .int a4), (5, .int a5)], [.int (nI 28), .int (nI 1), .int a4], (X, w)) rfl ?_
        refine ab_e_c1 (k2 := 39) (as := [.int a4, .int (nI 1), .int (nI 28)]) (rest := []) rfl rfl (T_M_in S w X a4 (nI 1) (nI 28)) (fun v503 => ?_)
        refine ab_e_br (c := v503 = nI 0) (53, [(0, .ref 13), (1, .int a1), (2, .int a2), (3, .int a3), (4, .int a4), (5, .int a5)], [], (X, w)) (42, [(0, .ref 13), (1, .int a1), (2, .int a2), (3, .int a3), (4, .int a4), (5, .int a5)], [], (X, w)) rfl (fun _ => ?_) (fun _ => ?_)
        · refine ab_e_go 2 (71, [(0, .ref 13), (1, .int a1), (2, .int a2), (3, .int a3), (4, .int a4), (5, .int a5)], [.int (nI 1)], (X, w)) rfl ?_
          exact ab_e_rt rfl rfl
        · refine ab_e_go 3 (47, [(0, .ref 13), (1, .int a1), (2, .int a2), (3, .int a3), (4, .int a4), (5, .int a5)], [.int (nI 15), .int (nI 0), .int a5], (X, w)) rfl ?_
          refine ab_e_c1 (k2 := 39) (as := [.int a5, .int (nI 0), .int (nI 15)]) (rest := []) rfl rfl (T_M_in S w X a5 (nI 0) (nI 15)) (fun v504 => ?_)
          refine ab_e_bn (c := v504 = nI 0) (57, [(0, .ref 13), (1, .int a1), (2, .int a2), (3, .int a3), (4, .int a4), (5, .int a5)], [], (X, w)) (53, [(0, .ref 13), (1, .int a1), (2, .int a2), (3, .int a3), (4, .int a4), (5, .int a5)], [], (X, w)) rfl (fun _ => ?_) (fun _ => ?_)
          · refine ab_e_go 1 (58, [(0, .ref 13), (1, .int a1), (2, .int a2), (3, .int a3), (4, .int a4), (5, .int a5)], [.ref 13], (X, w)) rfl ?_
            refine ab_e_c1 (k2 := 45) (as := [.ref 13]) (rest := []) rfl rfl (T_M_workers S w X) (fun v505 => ?_)
            refine ab_e_go 1 (63, [(0, .ref 13), (1, .int a1), (2, .int a2), (3, .int a3), (4, .int a4), (5, .int a5)], [.int (nI 10), .int v505], (X, w)) rfl ?_
            refine ab_e_bn (c := v505 = nI 10) (70, [(0, .ref 13), (1, .int a1), (2, .int a2), (3, .int a3), (4, .int a4), (5, .int a5)], [], (X, w)) (66, [(0, .ref 13), (1, .int a1), (2, .int a2), (3, .int a3), (4, .int a4), (5, .int a5)], [], (X, w)) rfl (fun _ => ?_) (fun _ => ?_)
            · refine ab_e_go 1 (71, [(0, .ref 13), (1, .int a1), (2, .int a2), (3, .int a3), (4, .int a4), (5, .int a5)], [.int (nI 0)], (X, w)) rfl ?_
              exact ab_e_rt rfl rfl
            · refine ab_e_go 2 (71, [(0, .ref 13), (1, .int a1), (2, .int a2), (3, .int a3), (4, .int a4), (5, .int a5)], [.int (nI 2)], (X, w)) rfl ?_
              exact ab_e_rt rfl rfl
          · refine ab_e_go 2 (71, [(0, .ref 13), (1, .int a1), (2, .int a2), (3, .int a3), (4, .int a4), (5, .int a5)], [.int (nI 1)], (X, w)) rfl ?_
            exact ab_e_rt rfl rfl
def L_M_opensWorker_89 : Nat → ab_XX → Int32 → Int32 → Option (Int32 × ab_XX)
  | 0, _, _, _ => none
  | n + 1, X, a6, a7 =>
    if nI 16 ≤ a7 then
      some (a6, X)
    else
      if ab_in (((nI 148) + ((nI 16) * a6)) + a7) 4455 = true then
        (some (ab_up X 14 ((((nI 148) + ((nI 16) * a6)) + a7).toNatClampNeg) (nI 0))).bind fun X516 =>
        L_M_opensWorker_89 n X516 a6 (a7 + (nI 1))
      else none
set_option maxRecDepth 4000 in
theorem T_L_M_opensWorker_89 (S : Nat × (Nat → Int32)) (w : ab_WW) : ∀ (n : Nat) (X : ab_XX) (a6 : Int32) (a7 : Int32), ab_Eg (ab_m3 ab_fI w) S 103 (89, [(0, .ref 13), (6, .int a6), (7, .int a7)], [], (X, w)) (L_M_opensWorker_89 n X a6 a7) := by
  intro n
  induction n with
  | zero => intro X a6 a7; exact ab_e_none
  | succ n ih =>
    intro X a6 a7
    unfold L_M_opensWorker_89
    refine ab_e_go 2 (93, [(0, .ref 13), (6, .int a6), (7, .int a7)], [.int (nI 16), .int a7], (X, w)) rfl ?_
    refine ab_e_br (c := nI 16 ≤ a7) (120, [(0, .ref 13), (6, .int a6), (7, .int a7)], [], (X, w)) (96, [(0, .ref 13), (6, .int a6), (7, .int a7)], [], (X, w)) rfl (fun _ => ?_) (fun _ => ?_)
    · refine ab_e_go 1 (122, [(0, .ref 13), (6, .int a6), (7, .int a7)], [.int a6], (X, w)) rfl ?_
      exact ab_e_rt rfl rfl
    · refine ab_e_go 10 (113, [(0, .ref 13), (6, .int a6), (7, .int a7)], [.int (nI 0), .int (((nI 148) + ((nI 16) * a6)) + a7), .ref 14], (X, w)) rfl ?_
      refine ab_e_gd (114, [(0, .ref 13), (6, .int a6), (7, .int a7)], [], ((ab_up X 14 ((((nI 148) + ((nI 16) * a6)) + a7).toNatClampNeg) (nI 0)), w)) rfl ?_
      refine ab_e_letX (fun X516 _ => ?_)
      refine ab_e_go 2 (89, [(7, .int (a7 + (nI 1))), (0, .ref 13), (6, .int a6)], [], (X516, w)) rfl ?_
      refine ab_e_wk [(0, .ref 13), (6, .int a6), (7, .int (a7 + (nI 1)))] ⟨rfl, rfl, rfl, trivial⟩ ?_
      exact ih X516 a6 (a7 + (nI 1))
def F_M_opensWorker (X : ab_XX) (a1 : Int32) (a2 : Int32) (a3 : Int32) (a4 : Int32) (a5 : Int32) : Option (Int32 × ab_XX) :=
  (F_M_workers X).bind fun v509 =>
  (some (ab_up X 14 ((nI 0).toNatClampNeg) ((X 14 0) + (nI 1)))).bind fun X510 =>
  if ab_in ((nI 1) + ((nI 5) * v509)) 4455 = true then
    (some (ab_up X510 14 (((nI 1) + ((nI 5) * v509)).toNatClampNeg) a1)).bind fun X511 =>
    if ab_in (((nI 1) + ((nI 5) * v509)) + (nI 1)) 4455 = true then
      (some (ab_up X511 14 ((((nI 1) + ((nI 5) * v509)) + (nI 1)).toNatClampNeg) a2)).bind fun X512 =>
      if ab_in (((nI 1) + ((nI 5) * v509)) + (nI 2)) 4455 = true then
        (some (ab_up X512 14 ((((nI 1) + ((nI 5) * v509)) + (nI 2)).toNatClampNeg) a3)).bind fun X513 =>
        if ab_in (((nI 1) + ((nI 5) * v509)) + (nI 3)) 4455 = true then
          (some (ab_up X513 14 ((((nI 1) + ((nI 5) * v509)) + (nI 3)).toNatClampNeg) a4)).bind fun X514 =>
          if ab_in (((nI 1) + ((nI 5) * v509)) + (nI 4)) 4455 = true then
            (some (ab_up X514 14 ((((nI 1) + ((nI 5) * v509)) + (nI 4)).toNatClampNeg) a5)).bind fun X515 =>
            L_M_opensWorker_89 ab_fu X515 v509 (nI 0)
          else none
        else none
      else none
    else none
  else none
set_option maxRecDepth 4000 in
theorem T_M_opensWorker (S : Nat × (Nat → Int32)) (w : ab_WW) (X : ab_XX) (a1 : Int32) (a2 : Int32) (a3 : Int32) (a4 : Int32) (a5 : Int32) : ab_Eg (ab_m3 ab_fI w) S 103 (0, lv_args 0 [.ref 13, .int a1, .int a2, .int a3, .int a4, .int a5], [], (X, w)) (F_M_opensWorker X a1 a2 a3 a4 a5) := by
  show ab_Eg (ab_m3 ab_fI w) S 103 (0, [(0, .ref 13), (1, .int a1), (2, .int a2), (3, .int a3), (4, .int a4), (5, .int a5)], [], (X, w)) _
  unfold F_M_opensWorker
  refine ab_e_go 1 (1, [(0, .ref 13), (1, .int a1), (2, .int a2), (3, .int a3), (4, .int a4), (5, .int a5)], [.ref 13], (X, w)) rfl ?_
  refine ab_e_c1 (k2 := 45) (as := [.ref 13]) (rest := []) rfl rfl (T_M_workers S w X) (fun v509 => ?_)
  refine ab_e_go 9 (16, [(6, .int v509), (0, .ref 13), (1, .int a1), (2, .int a2), (3, .int a3), (4, .int a4), (5, .int a5)], [], ((ab_up X 14 ((nI 0).toNatClampNeg) ((X 14 0) + (nI 1))), w)) rfl ?_
  refine ab_e_letX (fun X510 _ => ?_)
  refine ab_e_go 8 (27, [(6, .int v509), (0, .ref 13), (1, .int a1), (2, .int a2), (3, .int a3), (4, .int a4), (5, .int a5)], [.int a1, .int ((nI 1) + ((nI 5) * v509)), .ref 14], (X510, w)) rfl ?_
  refine ab_e_gd (28, [(6, .int v509), (0, .ref 13), (1, .int a1), (2, .int a2), (3, .int a3), (4, .int a4), (5, .int a5)], [], ((ab_up X510 14 (((nI 1) + ((nI 5) * v509)).toNatClampNeg) a1), w)) rfl ?_
  refine ab_e_letX (fun X511 _ => ?_)
  refine ab_e_go 10 (41, [(6, .int v509), (0, .ref 13), (1, .int a1), (2, .int a2), (3, .int a3), (4, .int a4), (5, .int a5)], [.int a2, .int (((nI 1) + ((nI 5) * v509)) + (nI 1)), .ref 14], (X511, w)) rfl ?_
  refine ab_e_gd (42, [(6, .int v509), (0, .ref 13), (1, .int a1), (2, .int a2), (3, .int a3), (4, .int a4), (5, .int a5)], [], ((ab_up X511 14 ((((nI 1) + ((nI 5) * v509)) + (nI 1)).toNatClampNeg) a2), w)) rfl ?_
  refine ab_e_letX (fun X512 _ => ?_)
  refine ab_e_go 10 (55, [(6, .int v509), (0, .ref 13), (1, .int a1), (2, .int a2), (3, .int a3), (4, .int a4), (5, .int a5)], [.int a3, .int (((nI 1) + ((nI 5) * v509)) + (nI 2)), .ref 14], (X512, w)) rfl ?_
  refine ab_e_gd (56, [(6, .int v509), (0, .ref 13), (1, .int a1), (2, .int a2), (3, .int a3), (4, .int a4), (5, .int a5)], [], ((ab_up X512 14 ((((nI 1) + ((nI 5) * v509)) + (nI 2)).toNatClampNeg) a3), w)) rfl ?_
  refine ab_e_letX (fun X513 _ => ?_)
  refine ab_e_go 10 (70, [(6, .int v509), (0, .ref 13), (1, .int a1), (2, .int a2), (3, .int a3), (4, .int a4), (5, .int a5)], [.int a4, .int (((nI 1) + ((nI 5) * v509)) + (nI 3)), .ref 14], (X513, w)) rfl ?_
  refine ab_e_gd (71, [(6, .int v509), (0, .ref 13), (1, .int a1), (2, .int a2), (3, .int a3), (4, .int a4), (5, .int a5)], [], ((ab_up X513 14 ((((nI 1) + ((nI 5) * v509)) + (nI 3)).toNatClampNeg) a4), w)) rfl ?_
  refine ab_e_letX (fun X514 _ => ?_)
  refine ab_e_go 10 (85, [(6, .int v509), (0, .ref 13), (1, .int a1), (2, .int a2), (3, .int a3), (4, .int a4), (5, .int a5)], [.int a5, .int (((nI 1) + ((nI 5) * v509)) + (nI 4)), .ref 14], (X514, w)) rfl ?_
  refine ab_e_gd (86, [(6, .int v509), (0, .ref 13), (1, .int a1), (2, .int a2), (3, .int a3), (4, .int a4), (5, .int a5)], [], ((ab_up X514 14 ((((nI 1) + ((nI 5) * v509)) + (nI 4)).toNatClampNeg) a5), w)) rfl ?_
  refine ab_e_letX (fun X515 _ => ?_)
  refine ab_e_go 2 (89, [(7, .int (nI 0)), (6, .int v509), (0, .ref 13), (1, .int a1), (2, .int a2), (3, .int a3), (4, .int a4), (5, .int a5)], [], (X515, w)) rfl ?_
  refine ab_e_wk [(0, .ref 13), (6, .int v509), (7, .int (nI 0))] ⟨rfl, rfl, rfl, trivial⟩ ?_
  exact T_L_M_opensWorker_89 S w ab_fu X515 v509 (nI 0)
def F_M_addWorker (X : ab_XX) (a1 : Int32) (a2 : Int32) (a3 : Int32) (a4 : Int32) (a5 : Int32) : Option (Int32 × ab_XX) :=
  (F_M_workerThrown X a1 a2 a3 a4 a5).bind fun v506 =>
  (some (ab_up X 13 0 v506)).bind fun X507 =>
  if X507 13 0 = nI 0 then
    ab_b3 (F_M_keeps X507) (fun _ X508 =>
      ab_b3 (F_M_opensWorker X508 a1 a2 a3 a4 a5) (fun v517 X518 =>
        some (v517, X518)))
  else
    some (nI 0, X507)
set_option maxRecDepth 4000 in
theorem T_M_addWorker (S : Nat × (Nat → Int32)) (w : ab_WW) (X : ab_XX) (a1 : Int32) (a2 : Int32) (a3 : Int32) (a4 : Int32) (a5 : Int32) : ab_Eg (ab_m3 ab_fI w) S 138 (0, lv_args 0 [.ref 13, .int a1, .int a2, .int a3, .int a4, .int a5], [], (X, w)) (F_M_addWorker X a1 a2 a3 a4 a5) := by
  show ab_Eg (ab_m3 ab_fI w) S 138 (0, [(0, .ref 13), (1, .int a1), (2, .int a2), (3, .int a3), (4, .int a4), (5, .int a5)], [], (X, w)) _
  unfold F_M_addWorker
  refine ab_e_go 7 (9, [(0, .ref 13), (1, .int a1), (2, .int a2), (3, .int a3), (4, .int a4), (5, .int a5)], [.int a5, .int a4, .int a3, .int a2, .int a1, .ref 13, .ref 13], (X, w)) rfl ?_
  refine ab_e_c1 (k2 := 112) (as := [.ref 13, .int a1, .int a2, .int a3, .int a4, .int a5]) (rest := [.ref 13]) rfl rfl (T_M_workerThrown S w X a1 a2 a3 a4 a5) (fun v506 => ?_)
  refine ab_e_go 1 (15, [(0, .ref 13), (1, .int a1), (2, .int a2), (3, .int a3), (4, .int a4), (5, .int a5)], [], ((ab_up X 13 0 v506), w)) rfl ?_
  refine ab_e_letX (fun X507 _ => ?_)
  refine ab_e_go 2 (19, [(0, .ref 13), (1, .int a1), (2, .int a2), (3, .int a3), (4, .int a4), (5, .int a5)], [.int (X507 13 0)], (X507, w)) rfl ?_
  refine ab_e_br (c := X507 13 0 = nI 0) (24, [(0, .ref 13), (1, .int a1), (2, .int a2), (3, .int a3), (4, .int a4), (5, .int a5)], [], (X507, w)) (22, [(0, .ref 13), (1, .int a1), (2, .int a2), (3, .int a3), (4, .int a4), (5, .int a5)], [], (X507, w)) rfl (fun _ => ?_) (fun _ => ?_)
  · refine ab_e_go 1 (25, [(0, .ref 13), (1, .int a1), (2, .int a2), (3, .int a3), (4, .int a4), (5, .int a5)], [.ref 13], (X507, w)) rfl ?_
    refine ab_e_c3 (k2 := 99) (as := [.ref 13]) (rest := []) rfl rfl (T_M_keeps S w X507) (fun _ X508 => ?_)
    refine ab_e_go 6 (36, [(0, .ref 13), (1, .int a1), (2, .int a2), (3, .int a3), (4, .int a4), (5, .int a5)], [.int a5, .int a4, .int a3, .int a2, .int a1, .ref 13], (X508, w)) rfl ?_
    refine ab_e_c3 (k2 := 103) (as := [.ref 13, .int a1, .int a2, .int a3, .int a4, .int a5]) (rest := []) rfl rfl (T_M_opensWorker S w X508 a1 a2 a3 a4 a5) (fun v517 X518 => ?_)
    exact ab_e_rt rfl rfl
  · refine ab_e_go 1 (23, [(0, .ref 13), (1, .int a1), (2, .int a2), (3, .int a3), (4, .int a4), (5, .int a5)], [.int (nI 0)], (X507, w)) rfl ?_
    exact ab_e_rt rfl rfl
def F_M_isWorker (X : ab_XX) (a1 : Int32) : Option Int32 :=
  (F_M_workers X).bind fun v519 =>
  (F_M_in a1 (nI 0) (v519 - (nI 1))).bind fun v520 =>
  if v520 &&& 1 = v520 then some v520 else none
set_option maxRecDepth 4000 in
theorem T_M_isWorker (S : Nat × (Nat → Int32)) (w : ab_WW) (X : ab_XX) (a1 : Int32) : ab_Eg (ab_m1 ab_fI (X, w)) S 98 (0, lv_args 0 [.ref 13, .int a1], [], (X, w)) (F_M_isWorker X a1) := by
  show ab_Eg (ab_m1 ab_fI (X, w)) S 98 (0, [(0, .ref 13), (1, .int a1)], [], (X, w)) _
  unfold F_M_isWorker
  refine ab_e_go 3 (3, [(0, .ref 13), (1, .int a1)], [.ref 13, .int (nI 0), .int a1], (X, w)) rfl ?_
  refine ab_e_c1 (k2 := 45) (as := [.ref 13]) (rest := [.int (nI 0), .int a1]) rfl rfl (T_M_workers S w X) (fun v519 => ?_)
  refine ab_e_go 2 (8, [(0, .ref 13), (1, .int a1)], [.int (v519 - (nI 1)), .int (nI 0), .int a1], (X, w)) rfl ?_
  refine ab_e_c1 (k2 := 39) (as := [.int a1, .int (nI 0), .int (v519 - (nI 1))]) (rest := []) rfl rfl (T_M_in S w X a1 (nI 0) (v519 - (nI 1))) (fun v520 => ?_)
  exact ab_e_rp (c := v520 &&& 1 = v520) rfl rfl
def F_M_bidOf (X : ab_XX) (a1 : Int32) (a2 : Int32) : Option Int32 :=
  if ab_in (((nI 148) + ((nI 16) * a1)) + a2) 4455 = true then
    (some (X 14 (((nI 148) + ((nI 16) * a1)) + a2).toNatClampNeg)).bind fun v523 =>
    some v523
  else none
set_option maxRecDepth 4000 in
theorem T_M_bidOf (S : Nat × (Nat → Int32)) (w : ab_WW) (X : ab_XX) (a1 : Int32) (a2 : Int32) : ab_Eg (ab_m1 ab_fI (X, w)) S 34 (0, lv_args 0 [.ref 13, .int a1, .int a2], [], (X, w)) (F_M_bidOf X a1 a2) := by
  show ab_Eg (ab_m1 ab_fI (X, w)) S 34 (0, [(0, .ref 13), (1, .int a1), (2, .int a2)], [], (X, w)) _
  unfold F_M_bidOf
  refine ab_e_go 9 (14, [(0, .ref 13), (1, .int a1), (2, .int a2)], [.int (((nI 148) + ((nI 16) * a1)) + a2), .ref 14], (X, w)) rfl ?_
  refine ab_e_gd (15, [(0, .ref 13), (1, .int a1), (2, .int a2)], [.int (X 14 (((nI 148) + ((nI 16) * a1)) + a2).toNatClampNeg)], (X, w)) rfl ?_
  refine ab_e_letI (fun v523 _ => ?_)
  exact ab_e_rt rfl rfl
def F_M_isShift (X : ab_XX) (a1 : Int32) : Option Int32 :=
  (F_M_shifts X).bind fun v525 =>
  (F_M_in a1 (nI 0) (v525 - (nI 1))).bind fun v526 =>
  if v526 &&& 1 = v526 then some v526 else none
set_option maxRecDepth 4000 in
theorem T_M_isShift (S : Nat × (Nat → Int32)) (w : ab_WW) (X : ab_XX) (a1 : Int32) : ab_Eg (ab_m1 ab_fI (X, w)) S 97 (0, lv_args 0 [.ref 13, .int a1], [], (X, w)) (F_M_isShift X a1) := by
  show ab_Eg (ab_m1 ab_fI (X, w)) S 97 (0, [(0, .ref 13), (1, .int a1)], [], (X, w)) _
  unfold F_M_isShift
  refine ab_e_go 3 (3, [(0, .ref 13), (1, .int a1)], [.ref 13, .int (nI 0), .int a1], (X, w)) rfl ?_
  refine ab_e_c1 (k2 := 43) (as := [.ref 13]) (rest := [.int (nI 0), .int a1]) rfl rfl (T_M_shifts S w X) (fun v525 => ?_)
  refine ab_e_go 2 (8, [(0, .ref 13), (1, .int a1)], [.int (v525 - (nI 1)), .int (nI 0), .int a1], (X, w)) rfl ?_
  refine ab_e_c1 (k2 := 39) (as := [.int a1, .int (nI 0), .int (v525 - (nI 1))]) (rest := []) rfl rfl (T_M_in S w X a1 (nI 0) (v525 - (nI 1))) (fun v526 => ?_)
  exact ab_e_rp (c := v526 &&& 1 = v526) rfl rfl
def F_M_bid (X : ab_XX) (a1 : Int32) (a2 : Int32) : Option (Int32 × ab_XX) :=
  (F_M_isWorker X a1).bind fun v521 =>
  if v521 = nI 0 then
    (some (ab_up X 13 0 (nI 1))).bind fun X522 =>
    if X522 13 0 = nI 0 then
      (F_M_bidOf X522 a1 a2).bind fun v524 =>
      some (v524, X522)
    else
      some (nI 0, X522)
  else
    (F_M_isShift X a2).bind fun v527 =>
    if v527 = nI 0 then
      (some (ab_up X 13 0 (nI 1))).bind fun X528 =>
      if X528 13 0 = nI 0 then
        (F_M_bidOf X528 a1 a2).bind fun v529 =>
        some (v529, X528)
      else
        some (nI 0, X528)
    else
      (some (ab_up X 13 0 (nI 0))).bind fun X530 =>
      if X530 13 0 = nI 0 then
        (F_M_bidOf X530 a1 a2).bind fun v531 =>
        some (v531, X530)
      else
        some (nI 0, X530)
set_option maxRecDepth 4000 in
theorem T_M_bid (S : Nat × (Nat → Int32)) (w : ab_WW) (X : ab_XX) (a1 : Int32) (a2 : Int32) : ab_Eg (ab_m3 ab_fI w) S 140 (0, lv_args 0 [.ref 13, .int a1, .int a2], [], (X, w)) (F_M_bid X a1 a2) := by
  show ab_Eg (ab_m3 ab_fI w) S 140 (0, [(0, .ref 13), (1, .int a1), (2, .int a2)], [], (X, w)) _
  unfold F_M_bid
  refine ab_e_go 3 (3, [(0, .ref 13), (1, .int a1), (2, .int a2)], [.int a1, .ref 13, .ref 13], (X, w)) rfl ?_
  refine ab_e_c1 (k2 := 98) (as := [.ref 13, .int a1]) (rest := [.ref 13]) rfl rfl (T_M_isWorker S w X a1) (fun v521 => ?_)
  refine ab_e_br (c := v521 = nI 0) (21, [(0, .ref 13), (1, .int a1), (2, .int a2)], [.ref 13], (X, w)) (9, [(0, .ref 13), (1, .int a1), (2, .int a2)], [.ref 13], (X, w)) rfl (fun _ => ?_) (fun _ => ?_)
  · refine ab_e_go 2 (25, [(0, .ref 13), (1, .int a1), (2, .int a2)], [], ((ab_up X 13 0 (nI 1)), w)) rfl ?_
    refine ab_e_letX (fun X522 _ => ?_)
    refine ab_e_go 2 (29, [(0, .ref 13), (1, .int a1), (2, .int a2)], [.int (X522 13 0)], (X522, w)) rfl ?_
    refine ab_e_bn (c := X522 13 0 = nI 0) (41, [(0, .ref 13), (1, .int a1), (2, .int a2)], [], (X522, w)) (32, [(0, .ref 13), (1, .int a1), (2, .int a2)], [], (X522, w)) rfl (fun _ => ?_) (fun _ => ?_)
    · refine ab_e_go 1 (42, [(0, .ref 13), (1, .int a1), (2, .int a2)], [.int (nI 0)], (X522, w)) rfl ?_
      exact ab_e_rt rfl rfl
    · refine ab_e_go 3 (35, [(0, .ref 13), (1, .int a1), (2, .int a2)], [.int a2, .int a1, .ref 13], (X522, w)) rfl ?_
      refine ab_e_c1 (k2 := 34) (as := [.ref 13, .int a1, .int a2]) (rest := []) rfl rfl (T_M_bidOf S w X522 a1 a2) (fun v524 => ?_)
      refine ab_e_go 1 (42, [(0, .ref 13), (1, .int a1), (2, .int a2)], [.int v524], (X522, w)) rfl ?_
      exact ab_e_rt rfl rfl
  · refine ab_e_go 2 (11, [(0, .ref 13), (1, .int a1), (2, .int a2)], [.int a2, .ref 13, .ref 13], (X, w)) rfl ?_
    refine ab_e_c1 (k2 := 97) (as := [.ref 13, .int a2]) (rest := [.ref 13]) rfl rfl (T_M_isShift S w X a2) (fun v527 => ?_)
    refine ab_e_br (c := v527 = nI 0) (21, [(0, .ref 13), (1, .int a1), (2, .int a2)], [.ref 13], (X, w)) (17, [(0, .ref 13), (1, .int a1), (2, .int a2)], [.ref 13], (X, w)) rfl (fun _ => ?_) (fun _ => ?_)
    · refine ab_e_go 2 (25, [(0, .ref 13), (1, .int a1), (2, .int a2)], [], ((ab_up X 13 0 (nI 1)), w)) rfl ?_
      refine ab_e_letX (fun X528 _ => ?_)
      refine ab_e_go 2 (29, [(0, .ref 13), (1, .int a1), (2, .int a2)], [.int (X528 13 0)], (X528, w)) rfl ?_
      refine ab_e_bn (c := X528 13 0 = nI 0) (41, [(0, .ref 13), (1, .int a1), (2, .int a2)], [], (X528, w)) (32, [(0, .ref 13), (1, .int a1), (2, .int a2)], [], (X528, w)) rfl (fun _ => ?_) (fun _ => ?_)
      · refine ab_e_go 1 (42, [(0, .ref 13), (1, .int a1), (2, .int a2)], [.int (nI 0)], (X528, w)) rfl ?_
        exact ab_e_rt rfl rfl
      · refine ab_e_go 3 (35, [(0, .ref 13), (1, .int a1), (2, .int a2)], [.int a2, .int a1, .ref 13], (X528, w)) rfl ?_
        refine ab_e_c1 (k2 := 34) (as := [.ref 13, .int a1, .int a2]) (rest := []) rfl rfl (T_M_bidOf S w X528 a1 a2) (fun v529 => ?_)
        refine ab_e_go 1 (42, [(0, .ref 13), (1, .int a1), (2, .int a2)], [.int v529], (X528, w)) rfl ?_
        exact ab_e_rt rfl rfl
    · refine ab_e_go 3 (25, [(0, .ref 13), (1, .int a1), (2, .int a2)], [], ((ab_up X 13 0 (nI 0)), w)) rfl ?_
      refine ab_e_letX (fun X530 _ => ?_)
      refine ab_e_go 2 (29, [(0, .ref 13), (1, .int a1), (2, .int a2)], [.int (X530 13 0)], (X530, w)) rfl ?_
      refine ab_e_bn (c := X530 13 0 = nI 0) (41, [(0, .ref 13), (1, .int a1), (2, .int a2)], [], (X530, w)) (32, [(0, .ref 13), (1, .int a1), (2, .int a2)], [], (X530, w)) rfl (fun _ => ?_) (fun _ => ?_)
      · refine ab_e_go 1 (42, [(0, .ref 13), (1, .int a1), (2, .int a2)], [.int (nI 0)], (X530, w)) rfl ?_
        exact ab_e_rt rfl rfl
      · refine ab_e_go 3 (35, [(0, .ref 13), (1, .int a1), (2, .int a2)], [.int a2, .int a1, .ref 13], (X530, w)) rfl ?_
        refine ab_e_c1 (k2 := 34) (as := [.ref 13, .int a1, .int a2]) (rest := []) rfl rfl (T_M_bidOf S w X530 a1 a2) (fun v531 => ?_)
        refine ab_e_go 1 (42, [(0, .ref 13), (1, .int a1), (2, .int a2)], [.int v531], (X530, w)) rfl ?_
        exact ab_e_rt rfl rfl
def L_M_heldBy_4 (X : ab_XX) : Nat → Int32 → Int32 → Int32 → Option Int32
  | 0, _, _, _ => none
  | n + 1, a1, a2, a3 =>
    (F_M_awards X).bind fun v534 =>
    if v534 ≤ a3 then
      some a2
    else
      (F_M_awardWorker X a3).bind fun v535 =>
      if v535 = a1 then
        (F_M_awardShift X a3).bind fun v536 =>
        L_M_heldBy_4 X n a1 (a2 ||| ((nI 1) <<< (v536 &&& 31))) (a3 + (nI 1))
      else
        L_M_heldBy_4 X n a1 (a2 ||| (nI 0)) (a3 + (nI 1))
set_option maxRecDepth 4000 in
theorem T_L_M_heldBy_4 (S : Nat × (Nat → Int32)) (w : ab_WW) (X : ab_XX) : ∀ (n : Nat) (a1 : Int32) (a2 : Int32) (a3 : Int32), ab_Eg (ab_m1 ab_fI (X, w)) S 94 (4, [(0, .ref 13), (1, .int a1), (2, .int a2), (3, .int a3)], [], (X, w)) (L_M_heldBy_4 X n a1 a2 a3) := by
  intro n
  induction n with
  | zero => intro a1 a2 a3; exact ab_e_none
  | succ n ih =>
    intro a1 a2 a3
    unfold L_M_heldBy_4
    refine ab_e_go 2 (6, [(0, .ref 13), (1, .int a1), (2, .int a2), (3, .int a3)], [.ref 13, .int a3], (X, w)) rfl ?_
    refine ab_e_c1 (k2 := 33) (as := [.ref 13]) (rest := [.int a3]) rfl rfl (T_M_awards S w X) (fun v534 => ?_)
    refine ab_e_br (c := v534 ≤ a3) (41, [(0, .ref 13), (1, .int a1), (2, .int a2), (3, .int a3)], [], (X, w)) (12, [(0, .ref 13), (1, .int a1), (2, .int a2), (3, .int a3)], [], (X, w)) rfl (fun _ => ?_) (fun _ => ?_)
    · refine ab_e_go 1 (42, [(0, .ref 13), (1, .int a1), (2, .int a2), (3, .int a3)], [.int a2], (X, w)) rfl ?_
      exact ab_e_rt rfl rfl
    · refine ab_e_go 3 (15, [(0, .ref 13), (1, .int a1), (2, .int a2), (3, .int a3)], [.int a3, .ref 13, .int a2], (X, w)) rfl ?_
      refine ab_e_c1 (k2 := 32) (as := [.ref 13, .int a3]) (rest := [.int a2]) rfl rfl (T_M_awardWorker S w X a3) (fun v535 => ?_)
      refine ab_e_go 1 (19, [(0, .ref 13), (1, .int a1), (2, .int a2), (3, .int a3)], [.int a1, .int v535, .int a2], (X, w)) rfl ?_
      refine ab_e_bn (c := v535 = a1) (32, [(0, .ref 13), (1, .int a1), (2, .int a2), (3, .int a3)], [.int a2], (X, w)) (22, [(0, .ref 13), (1, .int a1), (2, .int a2), (3, .int a3)], [.int a2], (X, w)) rfl (fun _ => ?_) (fun _ => ?_)
      · refine ab_e_go 5 (4, [(3, .int (a3 + (nI 1))), (2, .int (a2 ||| (nI 0))), (0, .ref 13), (1, .int a1)], [], (X, w)) rfl ?_
        refine ab_e_wk [(0, .ref 13), (1, .int a1), (2, .int (a2 ||| (nI 0))), (3, .int (a3 + (nI 1)))] ⟨rfl, rfl, rfl, rfl, trivial⟩ ?_
        exact ih a1 (a2 ||| (nI 0)) (a3 + (nI 1))
      · refine ab_e_go 3 (25, [(0, .ref 13), (1, .int a1), (2, .int a2), (3, .int a3)], [.int a3, .ref 13, .int (nI 1), .int a2], (X, w)) rfl ?_
        refine ab_e_c1 (k2 := 31) (as := [.ref 13, .int a3]) (rest := [.int (nI 1), .int a2]) rfl rfl (T_M_awardShift S w X a3) (fun v536 => ?_)
        refine ab_e_go 6 (4, [(3, .int (a3 + (nI 1))), (2, .int (a2 ||| ((nI 1) <<< (v536 &&& 31)))), (0, .ref 13), (1, .int a1)], [], (X, w)) rfl ?_
        refine ab_e_wk [(0, .ref 13), (1, .int a1), (2, .int (a2 ||| ((nI 1) <<< (v536 &&& 31)))), (3, .int (a3 + (nI 1)))] ⟨rfl, rfl, rfl, rfl, trivial⟩ ?_
        exact ih a1 (a2 ||| ((nI 1) <<< (v536 &&& 31))) (a3 + (nI 1))
def F_M_heldBy (X : ab_XX) (a1 : Int32) : Option Int32 :=
  L_M_heldBy_4 X ab_fu a1 (nI 0) (nI 0)
set_option maxRecDepth 4000 in
theorem T_M_heldBy (S : Nat × (Nat → Int32)) (w : ab_WW) (X : ab_XX) (a1 : Int32) : ab_Eg (ab_m1 ab_fI (X, w)) S 94 (0, lv_args 0 [.ref 13, .int a1], [], (X, w)) (F_M_heldBy X a1) := by
  show ab_Eg (ab_m1 ab_fI (X, w)) S 94 (0, [(0, .ref 13), (1, .int a1)], [], (X, w)) _
  unfold F_M_heldBy
  refine ab_e_go 4 (4, [(3, .int (nI 0)), (2, .int (nI 0)), (0, .ref 13), (1, .int a1)], [], (X, w)) rfl ?_
  refine ab_e_wk [(0, .ref 13), (1, .int a1), (2, .int (nI 0)), (3, .int (nI 0))] ⟨rfl, rfl, rfl, rfl, trivial⟩ ?_
  exact T_L_M_heldBy_4 S w X ab_fu a1 (nI 0) (nI 0)
def F_M_held (X : ab_XX) (a1 : Int32) : Option (Int32 × ab_XX) :=
  (F_M_isWorker X a1).bind fun v532 =>
  if v532 = nI 0 then
    (some (ab_up X 13 0 (nI 1))).bind fun X533 =>
    if X533 13 0 = nI 0 then
      (F_M_heldBy X533 a1).bind fun v537 =>
      some (v537, X533)
    else
      some (nI 0, X533)
  else
    (some (ab_up X 13 0 (nI 0))).bind fun X538 =>
    if X538 13 0 = nI 0 then
      (F_M_heldBy X538 a1).bind fun v539 =>
      some (v539, X538)
    else
      some (nI 0, X538)
set_option maxRecDepth 4000 in
theorem T_M_held (S : Nat × (Nat → Int32)) (w : ab_WW) (X : ab_XX) (a1 : Int32) : ab_Eg (ab_m3 ab_fI w) S 143 (0, lv_args 0 [.ref 13, .int a1], [], (X, w)) (F_M_held X a1) := by
  show ab_Eg (ab_m3 ab_fI w) S 143 (0, [(0, .ref 13), (1, .int a1)], [], (X, w)) _
  unfold F_M_held
  refine ab_e_go 3 (3, [(0, .ref 13), (1, .int a1)], [.int a1, .ref 13, .ref 13], (X, w)) rfl ?_
  refine ab_e_c1 (k2 := 98) (as := [.ref 13, .int a1]) (rest := [.ref 13]) rfl rfl (T_M_isWorker S w X a1) (fun v532 => ?_)
  refine ab_e_br (c := v532 = nI 0) (13, [(0, .ref 13), (1, .int a1)], [.ref 13], (X, w)) (9, [(0, .ref 13), (1, .int a1)], [.ref 13], (X, w)) rfl (fun _ => ?_) (fun _ => ?_)
  · refine ab_e_go 2 (17, [(0, .ref 13), (1, .int a1)], [], ((ab_up X 13 0 (nI 1)), w)) rfl ?_
    refine ab_e_letX (fun X533 _ => ?_)
    refine ab_e_go 2 (21, [(0, .ref 13), (1, .int a1)], [.int (X533 13 0)], (X533, w)) rfl ?_
    refine ab_e_bn (c := X533 13 0 = nI 0) (32, [(0, .ref 13), (1, .int a1)], [], (X533, w)) (24, [(0, .ref 13), (1, .int a1)], [], (X533, w)) rfl (fun _ => ?_) (fun _ => ?_)
    · refine ab_e_go 1 (33, [(0, .ref 13), (1, .int a1)], [.int (nI 0)], (X533, w)) rfl ?_
      exact ab_e_rt rfl rfl
    · refine ab_e_go 2 (26, [(0, .ref 13), (1, .int a1)], [.int a1, .ref 13], (X533, w)) rfl ?_
      refine ab_e_c1 (k2 := 94) (as := [.ref 13, .int a1]) (rest := []) rfl rfl (T_M_heldBy S w X533 a1) (fun v537 => ?_)
      refine ab_e_go 1 (33, [(0, .ref 13), (1, .int a1)], [.int v537], (X533, w)) rfl ?_
      exact ab_e_rt rfl rfl
  · refine ab_e_go 3 (17, [(0, .ref 13), (1, .int a1)], [], ((ab_up X 13 0 (nI 0)), w)) rfl ?_
    refine ab_e_letX (fun X538 _ => ?_)
    refine ab_e_go 2 (21, [(0, .ref 13), (1, .int a1)], [.int (X538 13 0)], (X538, w)) rfl ?_
    refine ab_e_bn (c := X538 13 0 = nI 0) (32, [(0, .ref 13), (1, .int a1)], [], (X538, w)) (24, [(0, .ref 13), (1, .int a1)], [], (X538, w)) rfl (fun _ => ?_) (fun _ => ?_)
    · refine ab_e_go 1 (33, [(0, .ref 13), (1, .int a1)], [.int (nI 0)], (X538, w)) rfl ?_
      exact ab_e_rt rfl rfl
    · refine ab_e_go 2 (26, [(0, .ref 13), (1, .int a1)], [.int a1, .ref 13], (X538, w)) rfl ?_
      refine ab_e_c1 (k2 := 94) (as := [.ref 13, .int a1]) (rest := []) rfl rfl (T_M_heldBy S w X538 a1) (fun v539 => ?_)
      refine ab_e_go 1 (33, [(0, .ref 13), (1, .int a1)], [.int v539], (X538, w)) rfl ?_
      exact ab_e_rt rfl rfl
