/-! ===== what the methods of the reference compute, part 2 (by program: wip/whole/tools/dec.py) ===== -/
def L_M_holders_30 : Nat → ab_XX → Int32 → Int32 → Int32 → Option (Int32 × ab_XX)
  | 0, _, _, _, _ => none
  | n + 1, X, a1, a2, a3 =>
    (F_M_awards X).bind fun v542 =>
    if v542 ≤ a3 then
      some (a2, X)
    else
      (F_M_awardShift X a3).bind fun v543 =>
      if v543 = a1 then
        (F_M_awardWorker X a3).bind fun v544 =>
        L_M_holders_30 n X a1 (a2 ||| ((nI 1) <<< (v544 &&& 31))) (a3 + (nI 1))
      else
        L_M_holders_30 n X a1 (a2 ||| (nI 0)) (a3 + (nI 1))
set_option maxRecDepth 4000 in
theorem T_L_M_holders_30 (S : Nat × (Nat → Int32)) (w : ab_WW) : ∀ (n : Nat) (X : ab_XX) (a1 : Int32) (a2 : Int32) (a3 : Int32), ab_Eg (ab_m3 ab_fI w) S 144 (30, [(0, .ref 13), (1, .int a1), (2, .int a2), (3, .int a3)], [], (X, w)) (L_M_holders_30 n X a1 a2 a3) := by
  intro n
  induction n with
  | zero => intro X a1 a2 a3; exact ab_e_none
  | succ n ih =>
    intro X a1 a2 a3
    unfold L_M_holders_30
    refine ab_e_go 2 (32, [(0, .ref 13), (1, .int a1), (2, .int a2), (3, .int a3)], [.ref 13, .int a3], (X, w)) rfl ?_
    refine ab_e_c1 (k2 := 33) (as := [.ref 13]) (rest := [.int a3]) rfl rfl (T_M_awards S w X) (fun v542 => ?_)
    refine ab_e_br (c := v542 ≤ a3) (67, [(0, .ref 13), (1, .int a1), (2, .int a2), (3, .int a3)], [], (X, w)) (38, [(0, .ref 13), (1, .int a1), (2, .int a2), (3, .int a3)], [], (X, w)) rfl (fun _ => ?_) (fun _ => ?_)
    · refine ab_e_go 1 (68, [(0, .ref 13), (1, .int a1), (2, .int a2), (3, .int a3)], [.int a2], (X, w)) rfl ?_
      exact ab_e_rt rfl rfl
    · refine ab_e_go 3 (41, [(0, .ref 13), (1, .int a1), (2, .int a2), (3, .int a3)], [.int a3, .ref 13, .int a2], (X, w)) rfl ?_
      refine ab_e_c1 (k2 := 31) (as := [.ref 13, .int a3]) (rest := [.int a2]) rfl rfl (T_M_awardShift S w X a3) (fun v543 => ?_)
      refine ab_e_go 1 (45, [(0, .ref 13), (1, .int a1), (2, .int a2), (3, .int a3)], [.int a1, .int v543, .int a2], (X, w)) rfl ?_
      refine ab_e_bn (c := v543 = a1) (58, [(0, .ref 13), (1, .int a1), (2, .int a2), (3, .int a3)], [.int a2], (X, w)) (48, [(0, .ref 13), (1, .int a1), (2, .int a2), (3, .int a3)], [.int a2], (X, w)) rfl (fun _ => ?_) (fun _ => ?_)
      · refine ab_e_go 5 (30, [(3, .int (a3 + (nI 1))), (2, .int (a2 ||| (nI 0))), (0, .ref 13), (1, .int a1)], [], (X, w)) rfl ?_
        refine ab_e_wk [(0, .ref 13), (1, .int a1), (2, .int (a2 ||| (nI 0))), (3, .int (a3 + (nI 1)))] ⟨rfl, rfl, rfl, rfl, trivial⟩ ?_
        exact ih X a1 (a2 ||| (nI 0)) (a3 + (nI 1))
      · refine ab_e_go 3 (51, [(0, .ref 13), (1, .int a1), (2, .int a2), (3, .int a3)], [.int a3, .ref 13, .int (nI 1), .int a2], (X, w)) rfl ?_
        refine ab_e_c1 (k2 := 32) (as := [.ref 13, .int a3]) (rest := [.int (nI 1), .int a2]) rfl rfl (T_M_awardWorker S w X a3) (fun v544 => ?_)
        refine ab_e_go 6 (30, [(3, .int (a3 + (nI 1))), (2, .int (a2 ||| ((nI 1) <<< (v544 &&& 31)))), (0, .ref 13), (1, .int a1)], [], (X, w)) rfl ?_
        refine ab_e_wk [(0, .ref 13), (1, .int a1), (2, .int (a2 ||| ((nI 1) <<< (v544 &&& 31)))), (3, .int (a3 + (nI 1)))] ⟨rfl, rfl, rfl, rfl, trivial⟩ ?_
        exact ih X a1 (a2 ||| ((nI 1) <<< (v544 &&& 31))) (a3 + (nI 1))
def F_M_holders (X : ab_XX) (a1 : Int32) : Option (Int32 × ab_XX) :=
  (F_M_isShift X a1).bind fun v540 =>
  if v540 = nI 0 then
    (some (ab_up X 13 0 (nI 1))).bind fun X541 =>
    if X541 13 0 = nI 0 then
      L_M_holders_30 ab_fu X541 a1 (nI 0) (nI 0)
    else
      some (nI 0, X541)
  else
    (some (ab_up X 13 0 (nI 0))).bind fun X545 =>
    if X545 13 0 = nI 0 then
      L_M_holders_30 ab_fu X545 a1 (nI 0) (nI 0)
    else
      some (nI 0, X545)
set_option maxRecDepth 4000 in
theorem T_M_holders (S : Nat × (Nat → Int32)) (w : ab_WW) (X : ab_XX) (a1 : Int32) : ab_Eg (ab_m3 ab_fI w) S 144 (0, lv_args 0 [.ref 13, .int a1], [], (X, w)) (F_M_holders X a1) := by
  show ab_Eg (ab_m3 ab_fI w) S 144 (0, [(0, .ref 13), (1, .int a1)], [], (X, w)) _
  unfold F_M_holders
  refine ab_e_go 3 (3, [(0, .ref 13), (1, .int a1)], [.int a1, .ref 13, .ref 13], (X, w)) rfl ?_
  refine ab_e_c1 (k2 := 97) (as := [.ref 13, .int a1]) (rest := [.ref 13]) rfl rfl (T_M_isShift S w X a1) (fun v540 => ?_)
  refine ab_e_br (c := v540 = nI 0) (13, [(0, .ref 13), (1, .int a1)], [.ref 13], (X, w)) (9, [(0, .ref 13), (1, .int a1)], [.ref 13], (X, w)) rfl (fun _ => ?_) (fun _ => ?_)
  · refine ab_e_go 2 (17, [(0, .ref 13), (1, .int a1)], [], ((ab_up X 13 0 (nI 1)), w)) rfl ?_
    refine ab_e_letX (fun X541 _ => ?_)
    refine ab_e_go 2 (21, [(0, .ref 13), (1, .int a1)], [.int (X541 13 0)], (X541, w)) rfl ?_
    refine ab_e_br (c := X541 13 0 = nI 0) (26, [(0, .ref 13), (1, .int a1)], [], (X541, w)) (24, [(0, .ref 13), (1, .int a1)], [], (X541, w)) rfl (fun _ => ?_) (fun _ => ?_)
    · refine ab_e_go 4 (30, [(3, .int (nI 0)), (2, .int (nI 0)), (0, .ref 13), (1, .int a1)], [], (X541, w)) rfl ?_
      refine ab_e_wk [(0, .ref 13), (1, .int a1), (2, .int (nI 0)), (3, .int (nI 0))] ⟨rfl, rfl, rfl, rfl, trivial⟩ ?_
      exact T_L_M_holders_30 S w ab_fu X541 a1 (nI 0) (nI 0)
    · refine ab_e_go 1 (25, [(0, .ref 13), (1, .int a1)], [.int (nI 0)], (X541, w)) rfl ?_
      exact ab_e_rt rfl rfl
  · refine ab_e_go 3 (17, [(0, .ref 13), (1, .int a1)], [], ((ab_up X 13 0 (nI 0)), w)) rfl ?_
    refine ab_e_letX (fun X545 _ => ?_)
    refine ab_e_go 2 (21, [(0, .ref 13), (1, .int a1)], [.int (X545 13 0)], (X545, w)) rfl ?_
    refine ab_e_br (c := X545 13 0 = nI 0) (26, [(0, .ref 13), (1, .int a1)], [], (X545, w)) (24, [(0, .ref 13), (1, .int a1)], [], (X545, w)) rfl (fun _ => ?_) (fun _ => ?_)
    · refine ab_e_go 4 (30, [(3, .int (nI 0)), (2, .int (nI 0)), (0, .ref 13), (1, .int a1)], [], (X545, w)) rfl ?_
      refine ab_e_wk [(0, .ref 13), (1, .int a1), (2, .int (nI 0)), (3, .int (nI 0))] ⟨rfl, rfl, rfl, rfl, trivial⟩ ?_
      exact T_L_M_holders_30 S w ab_fu X545 a1 (nI 0) (nI 0)
    · refine ab_e_go 1 (25, [(0, .ref 13), (1, .int a1)], [.int (nI 0)], (X545, w)) rfl ?_
      exact ab_e_rt rfl rfl
def L_M_coverage_4 (X : ab_XX) : Nat → Int32 → Int32 → Int32 → Option Int32
  | 0, _, _, _ => none
  | n + 1, a1, a2, a3 =>
    (F_M_awards X).bind fun v548 =>
    if v548 ≤ a3 then
      some a2
    else
      (F_M_awardShift X a3).bind fun v549 =>
      if v549 = a1 then
        L_M_coverage_4 X n a1 (a2 + (nI 1)) (a3 + (nI 1))
      else
        L_M_coverage_4 X n a1 (a2 + (nI 0)) (a3 + (nI 1))
set_option maxRecDepth 4000 in
theorem T_L_M_coverage_4 (S : Nat × (Nat → Int32)) (w : ab_WW) (X : ab_XX) : ∀ (n : Nat) (a1 : Int32) (a2 : Int32) (a3 : Int32), ab_Eg (ab_m1 ab_fI (X, w)) S 90 (4, [(0, .ref 13), (1, .int a1), (2, .int a2), (3, .int a3)], [], (X, w)) (L_M_coverage_4 X n a1 a2 a3) := by
  intro n
  induction n with
  | zero => intro a1 a2 a3; exact ab_e_none
  | succ n ih =>
    intro a1 a2 a3
    unfold L_M_coverage_4
    refine ab_e_go 2 (6, [(0, .ref 13), (1, .int a1), (2, .int a2), (3, .int a3)], [.ref 13, .int a3], (X, w)) rfl ?_
    refine ab_e_c1 (k2 := 33) (as := [.ref 13]) (rest := [.int a3]) rfl rfl (T_M_awards S w X) (fun v548 => ?_)
    refine ab_e_br (c := v548 ≤ a3) (35, [(0, .ref 13), (1, .int a1), (2, .int a2), (3, .int a3)], [], (X, w)) (12, [(0, .ref 13), (1, .int a1), (2, .int a2), (3, .int a3)], [], (X, w)) rfl (fun _ => ?_) (fun _ => ?_)
    · refine ab_e_go 1 (36, [(0, .ref 13), (1, .int a1), (2, .int a2), (3, .int a3)], [.int a2], (X, w)) rfl ?_
      exact ab_e_rt rfl rfl
    · refine ab_e_go 3 (15, [(0, .ref 13), (1, .int a1), (2, .int a2), (3, .int a3)], [.int a3, .ref 13, .int a2], (X, w)) rfl ?_
      refine ab_e_c1 (k2 := 31) (as := [.ref 13, .int a3]) (rest := [.int a2]) rfl rfl (T_M_awardShift S w X a3) (fun v549 => ?_)
      refine ab_e_go 1 (19, [(0, .ref 13), (1, .int a1), (2, .int a2), (3, .int a3)], [.int a1, .int v549, .int a2], (X, w)) rfl ?_
      refine ab_e_bn (c := v549 = a1) (26, [(0, .ref 13), (1, .int a1), (2, .int a2), (3, .int a3)], [.int a2], (X, w)) (22, [(0, .ref 13), (1, .int a1), (2, .int a2), (3, .int a3)], [.int a2], (X, w)) rfl (fun _ => ?_) (fun _ => ?_)
      · refine ab_e_go 5 (4, [(3, .int (a3 + (nI 1))), (2, .int (a2 + (nI 0))), (0, .ref 13), (1, .int a1)], [], (X, w)) rfl ?_
        refine ab_e_wk [(0, .ref 13), (1, .int a1), (2, .int (a2 + (nI 0))), (3, .int (a3 + (nI 1)))] ⟨rfl, rfl, rfl, rfl, trivial⟩ ?_
        exact ih a1 (a2 + (nI 0)) (a3 + (nI 1))
      · refine ab_e_go 6 (4, [(3, .int (a3 + (nI 1))), (2, .int (a2 + (nI 1))), (0, .ref 13), (1, .int a1)], [], (X, w)) rfl ?_
        refine ab_e_wk [(0, .ref 13), (1, .int a1), (2, .int (a2 + (nI 1))), (3, .int (a3 + (nI 1)))] ⟨rfl, rfl, rfl, rfl, trivial⟩ ?_
        exact ih a1 (a2 + (nI 1)) (a3 + (nI 1))
def F_M_coverage (X : ab_XX) (a1 : Int32) : Option Int32 :=
  L_M_coverage_4 X ab_fu a1 (nI 0) (nI 0)
set_option maxRecDepth 4000 in
theorem T_M_coverage (S : Nat × (Nat → Int32)) (w : ab_WW) (X : ab_XX) (a1 : Int32) : ab_Eg (ab_m1 ab_fI (X, w)) S 90 (0, lv_args 0 [.ref 13, .int a1], [], (X, w)) (F_M_coverage X a1) := by
  show ab_Eg (ab_m1 ab_fI (X, w)) S 90 (0, [(0, .ref 13), (1, .int a1)], [], (X, w)) _
  unfold F_M_coverage
  refine ab_e_go 4 (4, [(3, .int (nI 0)), (2, .int (nI 0)), (0, .ref 13), (1, .int a1)], [], (X, w)) rfl ?_
  refine ab_e_wk [(0, .ref 13), (1, .int a1), (2, .int (nI 0)), (3, .int (nI 0))] ⟨rfl, rfl, rfl, rfl, trivial⟩ ?_
  exact T_L_M_coverage_4 S w X ab_fu a1 (nI 0) (nI 0)
def L_M_openShifts_9 : Nat → ab_XX → Int32 → Int32 → Option (Int32 × ab_XX)
  | 0, _, _, _ => none
  | n + 1, X, a1, a2 =>
    (F_M_shifts X).bind fun v547 =>
    if v547 ≤ a2 then
      some (a1, X)
    else
      (F_M_coverage X a2).bind fun v550 =>
      (F_M_ofShift X a2 (nI 4)).bind fun v551 =>
      if v551 ≤ v550 then
        L_M_openShifts_9 n X (a1 ||| (nI 0)) (a2 + (nI 1))
      else
        L_M_openShifts_9 n X (a1 ||| ((nI 1) <<< (a2 &&& 31))) (a2 + (nI 1))
set_option maxRecDepth 4000 in
theorem T_L_M_openShifts_9 (S : Nat × (Nat → Int32)) (w : ab_WW) : ∀ (n : Nat) (X : ab_XX) (a1 : Int32) (a2 : Int32), ab_Eg (ab_m3 ab_fI w) S 147 (9, [(0, .ref 13), (1, .int a1), (2, .int a2)], [], (X, w)) (L_M_openShifts_9 n X a1 a2) := by
  intro n
  induction n with
  | zero => intro X a1 a2; exact ab_e_none
  | succ n ih =>
    intro X a1 a2
    unfold L_M_openShifts_9
    refine ab_e_go 2 (11, [(0, .ref 13), (1, .int a1), (2, .int a2)], [.ref 13, .int a2], (X, w)) rfl ?_
    refine ab_e_c1 (k2 := 43) (as := [.ref 13]) (rest := [.int a2]) rfl rfl (T_M_shifts S w X) (fun v547 => ?_)
    refine ab_e_br (c := v547 ≤ a2) (47, [(0, .ref 13), (1, .int a1), (2, .int a2)], [], (X, w)) (17, [(0, .ref 13), (1, .int a1), (2, .int a2)], [], (X, w)) rfl (fun _ => ?_) (fun _ => ?_)
    · refine ab_e_go 1 (48, [(0, .ref 13), (1, .int a1), (2, .int a2)], [.int a1], (X, w)) rfl ?_
      exact ab_e_rt rfl rfl
    · refine ab_e_go 3 (20, [(0, .ref 13), (1, .int a1), (2, .int a2)], [.int a2, .ref 13, .int a1], (X, w)) rfl ?_
      refine ab_e_c1 (k2 := 90) (as := [.ref 13, .int a2]) (rest := [.int a1]) rfl rfl (T_M_coverage S w X a2) (fun v550 => ?_)
      refine ab_e_go 3 (26, [(0, .ref 13), (1, .int a1), (2, .int a2)], [.int (nI 4), .int a2, .ref 13, .int v550, .int a1], (X, w)) rfl ?_
      refine ab_e_c1 (k2 := 41) (as := [.ref 13, .int a2, .int (nI 4)]) (rest := [.int v550, .int a1]) rfl rfl (T_M_ofShift S w X a2 (nI 4)) (fun v551 => ?_)
      refine ab_e_br (c := v551 ≤ v550) (38, [(0, .ref 13), (1, .int a1), (2, .int a2)], [.int a1], (X, w)) (32, [(0, .ref 13), (1, .int a1), (2, .int a2)], [.int a1], (X, w)) rfl (fun _ => ?_) (fun _ => ?_)
      · refine ab_e_go 5 (9, [(2, .int (a2 + (nI 1))), (1, .int (a1 ||| (nI 0))), (0, .ref 13)], [], (X, w)) rfl ?_
        refine ab_e_wk [(0, .ref 13), (1, .int (a1 ||| (nI 0))), (2, .int (a2 + (nI 1)))] ⟨rfl, rfl, rfl, trivial⟩ ?_
        exact ih X (a1 ||| (nI 0)) (a2 + (nI 1))
      · refine ab_e_go 8 (9, [(2, .int (a2 + (nI 1))), (1, .int (a1 ||| ((nI 1) <<< (a2 &&& 31)))), (0, .ref 13)], [], (X, w)) rfl ?_
        refine ab_e_wk [(0, .ref 13), (1, .int (a1 ||| ((nI 1) <<< (a2 &&& 31)))), (2, .int (a2 + (nI 1)))] ⟨rfl, rfl, rfl, trivial⟩ ?_
        exact ih X (a1 ||| ((nI 1) <<< (a2 &&& 31))) (a2 + (nI 1))
def F_M_openShifts (X : ab_XX) : Option (Int32 × ab_XX) :=
  (some (ab_up X 13 0 (nI 0))).bind fun X546 =>
  L_M_openShifts_9 ab_fu X546 (nI 0) (nI 0)
set_option maxRecDepth 4000 in
theorem T_M_openShifts (S : Nat × (Nat → Int32)) (w : ab_WW) (X : ab_XX) : ab_Eg (ab_m3 ab_fI w) S 147 (0, lv_args 0 [.ref 13], [], (X, w)) (F_M_openShifts X) := by
  show ab_Eg (ab_m3 ab_fI w) S 147 (0, [(0, .ref 13)], [], (X, w)) _
  unfold F_M_openShifts
  refine ab_e_go 3 (5, [(0, .ref 13)], [], ((ab_up X 13 0 (nI 0)), w)) rfl ?_
  refine ab_e_letX (fun X546 _ => ?_)
  refine ab_e_go 4 (9, [(2, .int (nI 0)), (1, .int (nI 0)), (0, .ref 13)], [], (X546, w)) rfl ?_
  refine ab_e_wk [(0, .ref 13), (1, .int (nI 0)), (2, .int (nI 0))] ⟨rfl, rfl, rfl, trivial⟩ ?_
  exact T_L_M_openShifts_9 S w ab_fu X546 (nI 0) (nI 0)
def L_M_pointsIn_5 (X : ab_XX) : Nat → Int32 → Int32 → Int32 → Int32 → Option Int32
  | 0, _, _, _, _ => none
  | n + 1, a1, a2, a3, a4 =>
    (F_M_shifts X).bind fun v555 =>
    if v555 ≤ a4 then
      some a3
    else
      if ((a2 >>> (a4 &&& 31)) &&& (nI 1)) = nI 1 then
        (F_M_bidOf X a1 a4).bind fun v556 =>
        L_M_pointsIn_5 X n a1 a2 (a3 + v556) (a4 + (nI 1))
      else
        L_M_pointsIn_5 X n a1 a2 (a3 + (nI 0)) (a4 + (nI 1))
set_option maxRecDepth 4000 in
theorem T_L_M_pointsIn_5 (S : Nat × (Nat → Int32)) (w : ab_WW) (X : ab_XX) : ∀ (n : Nat) (a1 : Int32) (a2 : Int32) (a3 : Int32) (a4 : Int32), ab_Eg (ab_m1 ab_fI (X, w)) S 104 (5, [(0, .ref 13), (1, .int a1), (2, .int a2), (3, .int a3), (4, .int a4)], [], (X, w)) (L_M_pointsIn_5 X n a1 a2 a3 a4) := by
  intro n
  induction n with
  | zero => intro a1 a2 a3 a4; exact ab_e_none
  | succ n ih =>
    intro a1 a2 a3 a4
    unfold L_M_pointsIn_5
    refine ab_e_go 2 (8, [(0, .ref 13), (1, .int a1), (2, .int a2), (3, .int a3), (4, .int a4)], [.ref 13, .int a4], (X, w)) rfl ?_
    refine ab_e_c1 (k2 := 43) (as := [.ref 13]) (rest := [.int a4]) rfl rfl (T_M_shifts S w X) (fun v555 => ?_)
    refine ab_e_br (c := v555 ≤ a4) (44, [(0, .ref 13), (1, .int a1), (2, .int a2), (3, .int a3), (4, .int a4)], [], (X, w)) (14, [(0, .ref 13), (1, .int a1), (2, .int a2), (3, .int a3), (4, .int a4)], [], (X, w)) rfl (fun _ => ?_) (fun _ => ?_)
    · refine ab_e_go 1 (45, [(0, .ref 13), (1, .int a1), (2, .int a2), (3, .int a3), (4, .int a4)], [.int a3], (X, w)) rfl ?_
      exact ab_e_rt rfl rfl
    · refine ab_e_go 7 (22, [(0, .ref 13), (1, .int a1), (2, .int a2), (3, .int a3), (4, .int a4)], [.int (nI 1), .int ((a2 >>> (a4 &&& 31)) &&& (nI 1)), .int a3], (X, w)) rfl ?_
      refine ab_e_bn (c := ((a2 >>> (a4 &&& 31)) &&& (nI 1)) = nI 1) (35, [(0, .ref 13), (1, .int a1), (2, .int a2), (3, .int a3), (4, .int a4)], [.int a3], (X, w)) (25, [(0, .ref 13), (1, .int a1), (2, .int a2), (3, .int a3), (4, .int a4)], [.int a3], (X, w)) rfl (fun _ => ?_) (fun _ => ?_)
      · refine ab_e_go 5 (5, [(4, .int (a4 + (nI 1))), (3, .int (a3 + (nI 0))), (0, .ref 13), (1, .int a1), (2, .int a2)], [], (X, w)) rfl ?_
        refine ab_e_wk [(0, .ref 13), (1, .int a1), (2, .int a2), (3, .int (a3 + (nI 0))), (4, .int (a4 + (nI 1)))] ⟨rfl, rfl, rfl, rfl, rfl, trivial⟩ ?_
        exact ih a1 a2 (a3 + (nI 0)) (a4 + (nI 1))
      · refine ab_e_go 3 (29, [(0, .ref 13), (1, .int a1), (2, .int a2), (3, .int a3), (4, .int a4)], [.int a4, .int a1, .ref 13, .int a3], (X, w)) rfl ?_
        refine ab_e_c1 (k2 := 34) (as := [.ref 13, .int a1, .int a4]) (rest := [.int a3]) rfl rfl (T_M_bidOf S w X a1 a4) (fun v556 => ?_)
        refine ab_e_go 5 (5, [(4, .int (a4 + (nI 1))), (3, .int (a3 + v556)), (0, .ref 13), (1, .int a1), (2, .int a2)], [], (X, w)) rfl ?_
        refine ab_e_wk [(0, .ref 13), (1, .int a1), (2, .int a2), (3, .int (a3 + v556)), (4, .int (a4 + (nI 1)))] ⟨rfl, rfl, rfl, rfl, rfl, trivial⟩ ?_
        exact ih a1 a2 (a3 + v556) (a4 + (nI 1))
def F_M_pointsIn (X : ab_XX) (a1 : Int32) (a2 : Int32) : Option Int32 :=
  L_M_pointsIn_5 X ab_fu a1 a2 (nI 0) (nI 0)
set_option maxRecDepth 4000 in
theorem T_M_pointsIn (S : Nat × (Nat → Int32)) (w : ab_WW) (X : ab_XX) (a1 : Int32) (a2 : Int32) : ab_Eg (ab_m1 ab_fI (X, w)) S 104 (0, lv_args 0 [.ref 13, .int a1, .int a2], [], (X, w)) (F_M_pointsIn X a1 a2) := by
  show ab_Eg (ab_m1 ab_fI (X, w)) S 104 (0, [(0, .ref 13), (1, .int a1), (2, .int a2)], [], (X, w)) _
  unfold F_M_pointsIn
  refine ab_e_go 4 (5, [(4, .int (nI 0)), (3, .int (nI 0)), (0, .ref 13), (1, .int a1), (2, .int a2)], [], (X, w)) rfl ?_
  refine ab_e_wk [(0, .ref 13), (1, .int a1), (2, .int a2), (3, .int (nI 0)), (4, .int (nI 0))] ⟨rfl, rfl, rfl, rfl, rfl, trivial⟩ ?_
  exact T_L_M_pointsIn_5 S w X ab_fu a1 a2 (nI 0) (nI 0)
def F_M_points (X : ab_XX) (a1 : Int32) : Option (Int32 × ab_XX) :=
  (F_M_isWorker X a1).bind fun v552 =>
  if v552 = nI 0 then
    (some (ab_up X 13 0 (nI 1))).bind fun X553 =>
    if X553 13 0 = nI 0 then
      (F_M_heldBy X553 a1).bind fun v554 =>
      (F_M_pointsIn X553 a1 v554).bind fun v557 =>
      some (v557, X553)
    else
      some (nI 0, X553)
  else
    (some (ab_up X 13 0 (nI 0))).bind fun X558 =>
    if X558 13 0 = nI 0 then
      (F_M_heldBy X558 a1).bind fun v559 =>
      (F_M_pointsIn X558 a1 v559).bind fun v560 =>
      some (v560, X558)
    else
      some (nI 0, X558)
set_option maxRecDepth 4000 in
theorem T_M_points (S : Nat × (Nat → Int32)) (w : ab_WW) (X : ab_XX) (a1 : Int32) : ab_Eg (ab_m3 ab_fI w) S 148 (0, lv_args 0 [.ref 13, .int a1], [], (X, w)) (F_M_points X a1) := by
  show ab_Eg (ab_m3 ab_fI w) S 148 (0, [(0, .ref 13), (1, .int a1)], [], (X, w)) _
  unfold F_M_points
  refine ab_e_go 3 (3, [(0, .ref 13), (1, .int a1)], [.int a1, .ref 13, .ref 13], (X, w)) rfl ?_
  refine ab_e_c1 (k2 := 98) (as := [.ref 13, .int a1]) (rest := [.ref 13]) rfl rfl (T_M_isWorker S w X a1) (fun v552 => ?_)
  refine ab_e_br (c := v552 = nI 0) (13, [(0, .ref 13), (1, .int a1)], [.ref 13], (X, w)) (9, [(0, .ref 13), (1, .int a1)], [.ref 13], (X, w)) rfl (fun _ => ?_) (fun _ => ?_)
  · refine ab_e_go 2 (17, [(0, .ref 13), (1, .int a1)], [], ((ab_up X 13 0 (nI 1)), w)) rfl ?_
    refine ab_e_letX (fun X553 _ => ?_)
    refine ab_e_go 2 (21, [(0, .ref 13), (1, .int a1)], [.int (X553 13 0)], (X553, w)) rfl ?_
    refine ab_e_bn (c := X553 13 0 = nI 0) (37, [(0, .ref 13), (1, .int a1)], [], (X553, w)) (24, [(0, .ref 13), (1, .int a1)], [], (X553, w)) rfl (fun _ => ?_) (fun _ => ?_)
    · refine ab_e_go 1 (38, [(0, .ref 13), (1, .int a1)], [.int (nI 0)], (X553, w)) rfl ?_
      exact ab_e_rt rfl rfl
    · refine ab_e_go 4 (28, [(0, .ref 13), (1, .int a1)], [.int a1, .ref 13, .int a1, .ref 13], (X553, w)) rfl ?_
      refine ab_e_c1 (k2 := 94) (as := [.ref 13, .int a1]) (rest := [.int a1, .ref 13]) rfl rfl (T_M_heldBy S w X553 a1) (fun v554 => ?_)
      refine ab_e_c1 (k2 := 104) (as := [.ref 13, .int a1, .int v554]) (rest := []) rfl rfl (T_M_pointsIn S w X553 a1 v554) (fun v557 => ?_)
      refine ab_e_go 1 (38, [(0, .ref 13), (1, .int a1)], [.int v557], (X553, w)) rfl ?_
      exact ab_e_rt rfl rfl
  · refine ab_e_go 3 (17, [(0, .ref 13), (1, .int a1)], [], ((ab_up X 13 0 (nI 0)), w)) rfl ?_
    refine ab_e_letX (fun X558 _ => ?_)
    refine ab_e_go 2 (21, [(0, .ref 13), (1, .int a1)], [.int (X558 13 0)], (X558, w)) rfl ?_
    refine ab_e_bn (c := X558 13 0 = nI 0) (37, [(0, .ref 13), (1, .int a1)], [], (X558, w)) (24, [(0, .ref 13), (1, .int a1)], [], (X558, w)) rfl (fun _ => ?_) (fun _ => ?_)
    · refine ab_e_go 1 (38, [(0, .ref 13), (1, .int a1)], [.int (nI 0)], (X558, w)) rfl ?_
      exact ab_e_rt rfl rfl
    · refine ab_e_go 4 (28, [(0, .ref 13), (1, .int a1)], [.int a1, .ref 13, .int a1, .ref 13], (X558, w)) rfl ?_
      refine ab_e_c1 (k2 := 94) (as := [.ref 13, .int a1]) (rest := [.int a1, .ref 13]) rfl rfl (T_M_heldBy S w X558 a1) (fun v559 => ?_)
      refine ab_e_c1 (k2 := 104) (as := [.ref 13, .int a1, .int v559]) (rest := []) rfl rfl (T_M_pointsIn S w X558 a1 v559) (fun v560 => ?_)
      refine ab_e_go 1 (38, [(0, .ref 13), (1, .int a1)], [.int v560], (X558, w)) rfl ?_
      exact ab_e_rt rfl rfl
def F_M_restore (X : ab_XX) : Option (Int32 × ab_XX) :=
  if X 13 3 = nI 0 then
    (some (ab_up X 13 0 (nI 1))).bind fun X561 =>
    if X561 13 0 = nI 0 then
      ab_b3 (F_M_keeps X561) (fun _ X562 =>
        ab_b3 (F_M_copies X562 (nI 9) (nI 0)) (fun _ X563 =>
          (F_M_awards X563).bind fun v564 =>
          some (v564, X563)))
    else
      some (nI 0, X561)
  else
    (some (ab_up X 13 0 (nI 0))).bind fun X565 =>
    if X565 13 0 = nI 0 then
      ab_b3 (F_M_keeps X565) (fun _ X566 =>
        ab_b3 (F_M_copies X566 (nI 9) (nI 0)) (fun _ X567 =>
          (F_M_awards X567).bind fun v568 =>
          some (v568, X567)))
    else
      some (nI 0, X565)
set_option maxRecDepth 4000 in
theorem T_M_restore (S : Nat × (Nat → Int32)) (w : ab_WW) (X : ab_XX) : ab_Eg (ab_m3 ab_fI w) S 149 (0, lv_args 0 [.ref 13], [], (X, w)) (F_M_restore X) := by
  show ab_Eg (ab_m3 ab_fI w) S 149 (0, [(0, .ref 13)], [], (X, w)) _
  unfold F_M_restore
  refine ab_e_go 3 (5, [(0, .ref 13)], [.int (X 13 3), .ref 13], (X, w)) rfl ?_
  refine ab_e_br (c := X 13 3 = nI 0) (12, [(0, .ref 13)], [.ref 13], (X, w)) (8, [(0, .ref 13)], [.ref 13], (X, w)) rfl (fun _ => ?_) (fun _ => ?_)
  · refine ab_e_go 2 (16, [(0, .ref 13)], [], ((ab_up X 13 0 (nI 1)), w)) rfl ?_
    refine ab_e_letX (fun X561 _ => ?_)
    refine ab_e_go 2 (20, [(0, .ref 13)], [.int (X561 13 0)], (X561, w)) rfl ?_
    refine ab_e_br (c := X561 13 0 = nI 0) (25, [(0, .ref 13)], [], (X561, w)) (23, [(0, .ref 13)], [], (X561, w)) rfl (fun _ => ?_) (fun _ => ?_)
    · refine ab_e_go 1 (26, [(0, .ref 13)], [.ref 13], (X561, w)) rfl ?_
      refine ab_e_c3 (k2 := 99) (as := [.ref 13]) (rest := []) rfl rfl (T_M_keeps S w X561) (fun _ X562 => ?_)
      refine ab_e_go 3 (33, [(0, .ref 13)], [.int (nI 0), .int (nI 9), .ref 13], (X562, w)) rfl ?_
      refine ab_e_c3 (k2 := 35) (as := [.ref 13, .int (nI 9), .int (nI 0)]) (rest := []) rfl rfl (T_M_copies S w X562 (nI 9) (nI 0)) (fun _ X563 => ?_)
      refine ab_e_go 1 (37, [(0, .ref 13)], [.ref 13], (X563, w)) rfl ?_
      refine ab_e_c1 (k2 := 33) (as := [.ref 13]) (rest := []) rfl rfl (T_M_awards S w X563) (fun v564 => ?_)
      exact ab_e_rt rfl rfl
    · refine ab_e_go 1 (24, [(0, .ref 13)], [.int (nI 0)], (X561, w)) rfl ?_
      exact ab_e_rt rfl rfl
  · refine ab_e_go 3 (16, [(0, .ref 13)], [], ((ab_up X 13 0 (nI 0)), w)) rfl ?_
    refine ab_e_letX (fun X565 _ => ?_)
    refine ab_e_go 2 (20, [(0, .ref 13)], [.int (X565 13 0)], (X565, w)) rfl ?_
    refine ab_e_br (c := X565 13 0 = nI 0) (25, [(0, .ref 13)], [], (X565, w)) (23, [(0, .ref 13)], [], (X565, w)) rfl (fun _ => ?_) (fun _ => ?_)
    · refine ab_e_go 1 (26, [(0, .ref 13)], [.ref 13], (X565, w)) rfl ?_
      refine ab_e_c3 (k2 := 99) (as := [.ref 13]) (rest := []) rfl rfl (T_M_keeps S w X565) (fun _ X566 => ?_)
      refine ab_e_go 3 (33, [(0, .ref 13)], [.int (nI 0), .int (nI 9), .ref 13], (X566, w)) rfl ?_
      refine ab_e_c3 (k2 := 35) (as := [.ref 13, .int (nI 9), .int (nI 0)]) (rest := []) rfl rfl (T_M_copies S w X566 (nI 9) (nI 0)) (fun _ X567 => ?_)
      refine ab_e_go 1 (37, [(0, .ref 13)], [.ref 13], (X567, w)) rfl ?_
      refine ab_e_c1 (k2 := 33) (as := [.ref 13]) (rest := []) rfl rfl (T_M_awards S w X567) (fun v568 => ?_)
      exact ab_e_rt rfl rfl
    · refine ab_e_go 1 (24, [(0, .ref 13)], [.int (nI 0)], (X565, w)) rfl ?_
      exact ab_e_rt rfl rfl
def F_M_reasons (X : ab_XX) (a1 : Int32) (a2 : Int32) (a3 : Int32) : Option (Unit × ab_XX) :=
  (some (ab_up X 13 12 a1)).bind fun X573 =>
  (some (ab_up X573 13 13 a2)).bind fun X574 =>
  (some (ab_up X574 13 14 a3)).bind fun X575 =>
  some ((), X575)
set_option maxRecDepth 4000 in
theorem T_M_reasons (S : Nat × (Nat → Int32)) (w : ab_WW) (X : ab_XX) (a1 : Int32) (a2 : Int32) (a3 : Int32) : ab_Eg (ab_m3 ab_fU w) S 42 (0, lv_args 0 [.ref 13, .int a1, .int a2, .int a3], [], (X, w)) (F_M_reasons X a1 a2 a3) := by
  show ab_Eg (ab_m3 ab_fU w) S 42 (0, [(0, .ref 13), (1, .int a1), (2, .int a2), (3, .int a3)], [], (X, w)) _
  unfold F_M_reasons
  refine ab_e_go 3 (5, [(0, .ref 13), (1, .int a1), (2, .int a2), (3, .int a3)], [], ((ab_up X 13 12 a1), w)) rfl ?_
  refine ab_e_letX (fun X573 _ => ?_)
  refine ab_e_go 3 (10, [(0, .ref 13), (1, .int a1), (2, .int a2), (3, .int a3)], [], ((ab_up X573 13 13 a2), w)) rfl ?_
  refine ab_e_letX (fun X574 _ => ?_)
  refine ab_e_go 3 (15, [(0, .ref 13), (1, .int a1), (2, .int a2), (3, .int a3)], [], ((ab_up X574 13 14 a3), w)) rfl ?_
  refine ab_e_letX (fun X575 _ => ?_)
  exact ab_e_rt rfl rfl
def L_M_awardOf_2 (X : ab_XX) : Nat → Int32 → Int32 → Int32 → Option Int32
  | 0, _, _, _ => none
  | n + 1, a1, a2, a3 =>
    (F_M_awards X).bind fun v578 =>
    if v578 ≤ a3 then
      some (-1 : Int32)
    else
      (F_M_awardWorker X a3).bind fun v579 =>
      if v579 = a1 then
        (F_M_awardShift X a3).bind fun v580 =>
        if v580 = a2 then
          some a3
        else
          L_M_awardOf_2 X n a1 a2 (a3 + (nI 1))
      else
        L_M_awardOf_2 X n a1 a2 (a3 + (nI 1))
set_option maxRecDepth 4000 in
theorem T_L_M_awardOf_2 (S : Nat × (Nat → Int32)) (w : ab_WW) (X : ab_XX) : ∀ (n : Nat) (a1 : Int32) (a2 : Int32) (a3 : Int32), ab_Eg (ab_m1 ab_fI (X, w)) S 87 (2, [(0, .ref 13), (1, .int a1), (2, .int a2), (3, .int a3)], [], (X, w)) (L_M_awardOf_2 X n a1 a2 a3) := by
  intro n
  induction n with
  | zero => intro a1 a2 a3; exact ab_e_none
  | succ n ih =>
    intro a1 a2 a3
    unfold L_M_awardOf_2
    refine ab_e_go 2 (4, [(0, .ref 13), (1, .int a1), (2, .int a2), (3, .int a3)], [.ref 13, .int a3], (X, w)) rfl ?_
    refine ab_e_c1 (k2 := 33) (as := [.ref 13]) (rest := [.int a3]) rfl rfl (T_M_awards S w X) (fun v578 => ?_)
    refine ab_e_br (c := v578 ≤ a3) (36, [(0, .ref 13), (1, .int a1), (2, .int a2), (3, .int a3)], [], (X, w)) (10, [(0, .ref 13), (1, .int a1), (2, .int a2), (3, .int a3)], [], (X, w)) rfl (fun _ => ?_) (fun _ => ?_)
    · refine ab_e_go 1 (37, [(0, .ref 13), (1, .int a1), (2, .int a2), (3, .int a3)], [.int (-1 : Int32)], (X, w)) rfl ?_
      exact ab_e_rt rfl rfl
    · refine ab_e_go 2 (12, [(0, .ref 13), (1, .int a1), (2, .int a2), (3, .int a3)], [.int a3, .ref 13], (X, w)) rfl ?_
      refine ab_e_c1 (k2 := 32) (as := [.ref 13, .int a3]) (rest := []) rfl rfl (T_M_awardWorker S w X a3) (fun v579 => ?_)
      refine ab_e_go 1 (16, [(0, .ref 13), (1, .int a1), (2, .int a2), (3, .int a3)], [.int a1, .int v579], (X, w)) rfl ?_
      refine ab_e_bn (c := v579 = a1) (30, [(0, .ref 13), (1, .int a1), (2, .int a2), (3, .int a3)], [], (X, w)) (19, [(0, .ref 13), (1, .int a1), (2, .int a2), (3, .int a3)], [], (X, w)) rfl (fun _ => ?_) (fun _ => ?_)
      · refine ab_e_go 2 (2, [(3, .int (a3 + (nI 1))), (0, .ref 13), (1, .int a1), (2, .int a2)], [], (X, w)) rfl ?_
        refine ab_e_wk [(0, .ref 13), (1, .int a1), (2, .int a2), (3, .int (a3 + (nI 1)))] ⟨rfl, rfl, rfl, rfl, trivial⟩ ?_
        exact ih a1 a2 (a3 + (nI 1))
      · refine ab_e_go 2 (21, [(0, .ref 13), (1, .int a1), (2, .int a2), (3, .int a3)], [.int a3, .ref 13], (X, w)) rfl ?_
        refine ab_e_c1 (k2 := 31) (as := [.ref 13, .int a3]) (rest := []) rfl rfl (T_M_awardShift S w X a3) (fun v580 => ?_)
        refine ab_e_go 1 (25, [(0, .ref 13), (1, .int a1), (2, .int a2), (3, .int a3)], [.int a2, .int v580], (X, w)) rfl ?_
        refine ab_e_bn (c := v580 = a2) (30, [(0, .ref 13), (1, .int a1), (2, .int a2), (3, .int a3)], [], (X, w)) (28, [(0, .ref 13), (1, .int a1), (2, .int a2), (3, .int a3)], [], (X, w)) rfl (fun _ => ?_) (fun _ => ?_)
        · refine ab_e_go 2 (2, [(3, .int (a3 + (nI 1))), (0, .ref 13), (1, .int a1), (2, .int a2)], [], (X, w)) rfl ?_
          refine ab_e_wk [(0, .ref 13), (1, .int a1), (2, .int a2), (3, .int (a3 + (nI 1)))] ⟨rfl, rfl, rfl, rfl, trivial⟩ ?_
          exact ih a1 a2 (a3 + (nI 1))
        · refine ab_e_go 1 (29, [(0, .ref 13), (1, .int a1), (2, .int a2), (3, .int a3)], [.int a3], (X, w)) rfl ?_
          exact ab_e_rt rfl rfl
def F_M_awardOf (X : ab_XX) (a1 : Int32) (a2 : Int32) : Option Int32 :=
  L_M_awardOf_2 X ab_fu a1 a2 (nI 0)
set_option maxRecDepth 4000 in
theorem T_M_awardOf (S : Nat × (Nat → Int32)) (w : ab_WW) (X : ab_XX) (a1 : Int32) (a2 : Int32) : ab_Eg (ab_m1 ab_fI (X, w)) S 87 (0, lv_args 0 [.ref 13, .int a1, .int a2], [], (X, w)) (F_M_awardOf X a1 a2) := by
  show ab_Eg (ab_m1 ab_fI (X, w)) S 87 (0, [(0, .ref 13), (1, .int a1), (2, .int a2)], [], (X, w)) _
  unfold F_M_awardOf
  refine ab_e_go 2 (2, [(3, .int (nI 0)), (0, .ref 13), (1, .int a1), (2, .int a2)], [], (X, w)) rfl ?_
  refine ab_e_wk [(0, .ref 13), (1, .int a1), (2, .int a2), (3, .int (nI 0))] ⟨rfl, rfl, rfl, rfl, trivial⟩ ?_
  exact T_L_M_awardOf_2 S w X ab_fu a1 a2 (nI 0)
def L_M_revoke_101 : Nat → ab_XX → Int32 → Int32 → Option (Int32 × ab_XX)
  | 0, _, _, _ => none
  | n + 1, X, a2, a3 =>
    (F_M_awards X).bind fun v582 =>
    if (v582 - (nI 1)) ≤ a3 then
      (some (ab_up X 14 ((nI 308).toNatClampNeg) ((X 14 308) - (nI 1)))).bind fun X583 =>
      (F_M_coverage X583 a2).bind fun v584 =>
      some (v584, X583)
    else
      (F_M_awardWorker X (a3 + (nI 1))).bind fun v585 =>
      if ab_in ((nI 309) + ((nI 2) * a3)) 4455 = true then
        (some (ab_up X 14 (((nI 309) + ((nI 2) * a3)).toNatClampNeg) v585)).bind fun X586 =>
        (F_M_awardShift X586 (a3 + (nI 1))).bind fun v587 =>
        if ab_in (((nI 309) + ((nI 2) * a3)) + (nI 1)) 4455 = true then
          (some (ab_up X586 14 ((((nI 309) + ((nI 2) * a3)) + (nI 1)).toNatClampNeg) v587)).bind fun X588 =>
          L_M_revoke_101 n X588 a2 (a3 + (nI 1))
        else none
      else none
set_option maxRecDepth 4000 in
theorem T_L_M_revoke_101 (S : Nat × (Nat → Int32)) (w : ab_WW) : ∀ (n : Nat) (X : ab_XX) (a2 : Int32) (a3 : Int32), ab_Eg (ab_m3 ab_fI w) S 150 (101, [(0, .ref 13), (2, .int a2), (3, .int a3)], [], (X, w)) (L_M_revoke_101 n X a2 a3) := by
  intro n
  induction n with
  | zero => intro X a2 a3; exact ab_e_none
  | succ n ih =>
    intro X a2 a3
    unfold L_M_revoke_101
    refine ab_e_go 2 (103, [(0, .ref 13), (2, .int a2), (3, .int a3)], [.ref 13, .int a3], (X, w)) rfl ?_
    refine ab_e_c1 (k2 := 33) (as := [.ref 13]) (rest := [.int a3]) rfl rfl (T_M_awards S w X) (fun v582 => ?_)
    refine ab_e_go 2 (108, [(0, .ref 13), (2, .int a2), (3, .int a3)], [.int (v582 - (nI 1)), .int a3], (X, w)) rfl ?_
    refine ab_e_br (c := (v582 - (nI 1)) ≤ a3) (157, [(0, .ref 13), (2, .int a2), (3, .int a3)], [], (X, w)) (111, [(0, .ref 13), (2, .int a2), (3, .int a3)], [], (X, w)) rfl (fun _ => ?_) (fun _ => ?_)
    · refine ab_e_go 8 (169, [(0, .ref 13), (2, .int a2), (3, .int a3)], [], ((ab_up X 14 ((nI 308).toNatClampNeg) ((X 14 308) - (nI 1))), w)) rfl ?_
      refine ab_e_letX (fun X583 _ => ?_)
      refine ab_e_go 2 (171, [(0, .ref 13), (2, .int a2), (3, .int a3)], [.int a2, .ref 13], (X583, w)) rfl ?_
      refine ab_e_c1 (k2 := 90) (as := [.ref 13, .int a2]) (rest := []) rfl rfl (T_M_coverage S w X583 a2) (fun v584 => ?_)
      exact ab_e_rt rfl rfl
    · refine ab_e_go 11 (126, [(0, .ref 13), (2, .int a2), (3, .int a3)], [.int (a3 + (nI 1)), .ref 13, .int ((nI 309) + ((nI 2) * a3)), .ref 14], (X, w)) rfl ?_
      refine ab_e_c1 (k2 := 32) (as := [.ref 13, .int (a3 + (nI 1))]) (rest := [.int ((nI 309) + ((nI 2) * a3)), .ref 14]) rfl rfl (T_M_awardWorker S w X (a3 + (nI 1))) (fun v585 => ?_)
      refine ab_e_gd (130, [(0, .ref 13), (2, .int a2), (3, .int a3)], [], ((ab_up X 14 (((nI 309) + ((nI 2) * a3)).toNatClampNeg) v585), w)) rfl ?_
      refine ab_e_letX (fun X586 _ => ?_)
      refine ab_e_go 13 (147, [(0, .ref 13), (2, .int a2), (3, .int a3)], [.int (a3 + (nI 1)), .ref 13, .int (((nI 309) + ((nI 2) * a3)) + (nI 1)), .ref 14], (X586, w)) rfl ?_
      refine ab_e_c1 (k2 := 31) (as := [.ref 13, .int (a3 + (nI 1))]) (rest := [.int (((nI 309) + ((nI 2) * a3)) + (nI 1)), .ref 14]) rfl rfl (T_M_awardShift S w X586 (a3 + (nI 1))) (fun v587 => ?_)
      refine ab_e_gd (151, [(0, .ref 13), (2, .int a2), (3, .int a3)], [], ((ab_up X586 14 ((((nI 309) + ((nI 2) * a3)) + (nI 1)).toNatClampNeg) v587), w)) rfl ?_
      refine ab_e_letX (fun X588 _ => ?_)
      refine ab_e_go 2 (101, [(3, .int (a3 + (nI 1))), (0, .ref 13), (2, .int a2)], [], (X588, w)) rfl ?_
      refine ab_e_wk [(0, .ref 13), (2, .int a2), (3, .int (a3 + (nI 1)))] ⟨rfl, rfl, rfl, trivial⟩ ?_
      exact ih X588 a2 (a3 + (nI 1))
def F_M_revoke (X : ab_XX) (a1 : Int32) (a2 : Int32) : Option (Int32 × ab_XX) :=
  (F_M_isWorker X a1).bind fun v569 =>
  if v569 = nI 0 then
    (some (ab_up X 13 0 (nI 1))).bind fun X570 =>
    if X570 13 0 = nI 0 then
      (F_M_coverage X570 a2).bind fun v571 =>
      (F_M_ofShift X570 a2 (nI 5)).bind fun v572 =>
      if v572 ≤ (v571 - (nI 1)) then
        ab_b3 (F_M_reasons X570 (nI 0) (nI 0) (-1 : Int32)) (fun _ X576 =>
          ab_b3 (F_M_keeps X576) (fun _ X577 =>
            (F_M_awardOf X577 a1 a2).bind fun v581 =>
            L_M_revoke_101 ab_fu X577 a2 v581))
      else
        (F_M_ofShift X570 a2 (nI 5)).bind fun v589 =>
        ab_b3 (F_M_reasons X570 (nI 8) v589 a1) (fun _ X590 =>
          (some (ab_up X590 13 0 (nI 3))).bind fun X591 =>
          some (nI 0, X591))
    else
      some (nI 0, X570)
  else
    (F_M_isShift X a2).bind fun v592 =>
    if v592 = nI 0 then
      (some (ab_up X 13 0 (nI 1))).bind fun X612 =>
      if X612 13 0 = nI 0 then
        (F_M_coverage X612 a2).bind fun v613 =>
        (F_M_ofShift X612 a2 (nI 5)).bind fun v614 =>
        if v614 ≤ (v613 - (nI 1)) then
          ab_b3 (F_M_reasons X612 (nI 0) (nI 0) (-1 : Int32)) (fun _ X615 =>
            ab_b3 (F_M_keeps X615) (fun _ X616 =>
              (F_M_awardOf X616 a1 a2).bind fun v617 =>
              L_M_revoke_101 ab_fu X616 a2 v617))
        else
          (F_M_ofShift X612 a2 (nI 5)).bind fun v618 =>
          ab_b3 (F_M_reasons X612 (nI 8) v618 a1) (fun _ X619 =>
            (some (ab_up X619 13 0 (nI 3))).bind fun X620 =>
            some (nI 0, X620))
      else
        some (nI 0, X612)
    else
      (F_M_awardOf X a1 a2).bind fun v593 =>
      if nI 0 ≤ v593 then
        (some (ab_up X 13 0 (nI 0))).bind fun X594 =>
        if X594 13 0 = nI 0 then
          (F_M_coverage X594 a2).bind fun v595 =>
          (F_M_ofShift X594 a2 (nI 5)).bind fun v596 =>
          if v596 ≤ (v595 - (nI 1)) then
            ab_b3 (F_M_reasons X594 (nI 0) (nI 0) (-1 : Int32)) (fun _ X597 =>
              ab_b3 (F_M_keeps X597) (fun _ X598 =>
                (F_M_awardOf X598 a1 a2).bind fun v599 =>
                L_M_revoke_101 ab_fu X598 a2 v599))
          else
            (F_M_ofShift X594 a2 (nI 5)).bind fun v600 =>
            ab_b3 (F_M_reasons X594 (nI 8) v600 a1) (fun _ X601 =>
              (some (ab_up X601 13 0 (nI 3))).bind fun X602 =>
              some (nI 0, X602))
        else
          some (nI 0, X594)
      else
        (some (ab_up X 13 0 (nI 2))).bind fun X603 =>
        if X603 13 0 = nI 0 then
          (F_M_coverage X603 a2).bind fun v604 =>
          (F_M_ofShift X603 a2 (nI 5)).bind fun v605 =>
          if v605 ≤ (v604 - (nI 1)) then
            ab_b3 (F_M_reasons X603 (nI 0) (nI 0) (-1 : Int32)) (fun _ X606 =>
              ab_b3 (F_M_keeps X606) (fun _ X607 =>
                (F_M_awardOf X607 a1 a2).bind fun v608 =>
                L_M_revoke_101 ab_fu X607 a2 v608))
          else
            (F_M_ofShift X603 a2 (nI 5)).bind fun v609 =>
            ab_b3 (F_M_reasons X603 (nI 8) v609 a1) (fun _ X610 =>
              (some (ab_up X610 13 0 (nI 3))).bind fun X611 =>
              some (nI 0, X611))
        else
          some (nI 0, X603)
set_option maxRecDepth 4000 in
theorem T_M_revoke (S : Nat × (Nat → Int32)) (w : ab_WW) (X : ab_XX) (a1 : Int32) (a2 : Int32) : ab_Eg (ab_m3 ab_fI w) S 150 (0, lv_args 0 [.ref 13, .int a1, .int a2], [], (X, w)) (F_M_revoke X a1 a2) := by
  show ab_Eg (ab_m3 ab_fI w) S 150 (0, [(0, .ref 13), (1, .int a1), (2, .int a2)], [], (X, w)) _
  unfold F_M_revoke
  refine ab_e_go 3 (3, [(0, .ref 13), (1, .int a1), (2, .int a2)], [.int a1, .ref 13, .ref 13], (X, w)) rfl ?_
  refine ab_e_c1 (k2 := 98) (as := [.ref 13, .int a1]) (rest := [.ref 13]) rfl rfl (T_M_isWorker S w X a1) (fun v569 => ?_)
  refine ab_e_br (c := v569 = nI 0) (17, [(0, .ref 13), (1, .int a1), (2, .int a2)], [.ref 13], (X, w)) (9, [(0, .ref 13), (1, .int a1), (2, .int a2)], [.ref 13], (X, w)) rfl (fun _ => ?_) (fun _ => ?_)
  · refine ab_e_go 3 (38, [(0, .ref 13), (1, .int a1), (2, .int a2)], [], ((ab_up X 13 0 (nI 1)), w)) rfl ?_
    refine ab_e_letX (fun X570 _ => ?_)
    refine ab_e_go 2 (42, [(0, .ref 13), (1, .int a1), (2, .int a2)], [.int (X570 13 0)], (X570, w)) rfl ?_
    refine ab_e_br (c := X570 13 0 = nI 0) (47, [(0, .ref 13), (1, .int a1), (2, .int a2)], [], (X570, w)) (45, [(0, .ref 13), (1, .int a1), (2, .int a2)], [], (X570, w)) rfl (fun _ => ?_) (fun _ => ?_)
    · refine ab_e_go 2 (49, [(0, .ref 13), (1, .int a1), (2, .int a2)], [.int a2, .ref 13], (X570, w)) rfl ?_
      refine ab_e_c1 (k2 := 90) (as := [.ref 13, .int a2]) (rest := []) rfl rfl (T_M_coverage S w X570 a2) (fun v571 => ?_)
      refine ab_e_go 5 (57, [(0, .ref 13), (1, .int a1), (2, .int a2)], [.int (nI 5), .int a2, .ref 13, .int (v571 - (nI 1))], (X570, w)) rfl ?_
      refine ab_e_c1 (k2 := 41) (as := [.ref 13, .int a2, .int (nI 5)]) (rest := [.int (v571 - (nI 1))]) rfl rfl (T_M_ofShift S w X570 a2 (nI 5)) (fun v572 => ?_)
      refine ab_e_br (c := v572 ≤ (v571 - (nI 1))) (83, [(0, .ref 13), (1, .int a1), (2, .int a2)], [], (X570, w)) (63, [(0, .ref 13), (1, .int a1), (2, .int a2)], [], (X570, w)) rfl (fun _ => ?_) (fun _ => ?_)
      · refine ab_e_go 4 (87, [(0, .ref 13), (1, .int a1), (2, .int a2)], [.int (-1 : Int32), .int (nI 0), .int (nI 0), .ref 13], (X570, w)) rfl ?_
        refine ab_e_c3 (k2 := 42) (as := [.ref 13, .int (nI 0), .int (nI 0), .int (-1 : Int32)]) (rest := []) rfl rfl (T_M_reasons S w X570 (nI 0) (nI 0) (-1 : Int32)) (fun _ X576 => ?_)
        refine ab_e_go 1 (91, [(0, .ref 13), (1, .int a1), (2, .int a2)], [.ref 13], (X576, w)) rfl ?_
        refine ab_e_c3 (k2 := 99) (as := [.ref 13]) (rest := []) rfl rfl (T_M_keeps S w X576) (fun _ X577 => ?_)
        refine ab_e_go 3 (97, [(0, .ref 13), (1, .int a1), (2, .int a2)], [.int a2, .int a1, .ref 13], (X577, w)) rfl ?_
        refine ab_e_c1 (k2 := 87) (as := [.ref 13, .int a1, .int a2]) (rest := []) rfl rfl (T_M_awardOf S w X577 a1 a2) (fun v581 => ?_)
        refine ab_e_go 1 (101, [(3, .int v581), (0, .ref 13), (1, .int a1), (2, .int a2)], [], (X577, w)) rfl ?_
        refine ab_e_wk [(0, .ref 13), (2, .int a2), (3, .int v581)] ⟨rfl, rfl, rfl, trivial⟩ ?_
        exact T_L_M_revoke_101 S w ab_fu X577 a2 v581
      · refine ab_e_go 5 (69, [(0, .ref 13), (1, .int a1), (2, .int a2)], [.int (nI 5), .int a2, .ref 13, .int (nI 8), .ref 13], (X570, w)) rfl ?_
        refine ab_e_c1 (k2 := 41) (as := [.ref 13, .int a2, .int (nI 5)]) (rest := [.int (nI 8), .ref 13]) rfl rfl (T_M_ofShift S w X570 a2 (nI 5)) (fun v589 => ?_)
        refine ab_e_go 1 (73, [(0, .ref 13), (1, .int a1), (2, .int a2)], [.int a1, .int v589, .int (nI 8), .ref 13], (X570, w)) rfl ?_
        refine ab_e_c3 (k2 := 42) (as := [.ref 13, .int (nI 8), .int v589, .int a1]) (rest := []) rfl rfl (T_M_reasons S w X570 (nI 8) v589 a1) (fun _ X590 => ?_)
        refine ab_e_go 3 (81, [(0, .ref 13), (1, .int a1), (2, .int a2)], [], ((ab_up X590 13 0 (nI 3)), w)) rfl ?_
        refine ab_e_letX (fun X591 _ => ?_)
        refine ab_e_go 1 (82, [(0, .ref 13), (1, .int a1), (2, .int a2)], [.int (nI 0)], (X591, w)) rfl ?_
        exact ab_e_rt rfl rfl
    · refine ab_e_go 1 (46, [(0, .ref 13), (1, .int a1), (2, .int a2)], [.int (nI 0)], (X570, w)) rfl ?_
      exact ab_e_rt rfl rfl
  · refine ab_e_go 2 (11, [(0, .ref 13), (1, .int a1), (2, .int a2)], [.int a2, .ref 13, .ref 13], (X, w)) rfl ?_
    refine ab_e_c1 (k2 := 97) (as := [.ref 13, .int a2]) (rest := [.ref 13]) rfl rfl (T_M_isShift S w X a2) (fun v592 => ?_)
    refine ab_e_bn (c := v592 = nI 0) (21, [(0, .ref 13), (1, .int a1), (2, .int a2)], [.ref 13], (X, w)) (17, [(0, .ref 13), (1, .int a1), (2, .int a2)], [.ref 13], (X, w)) rfl (fun _ => ?_) (fun _ => ?_)
    · refine ab_e_go 3 (24, [(0, .ref 13), (1, .int a1), (2, .int a2)], [.int a2, .int a1, .ref 13, .ref 13], (X, w)) rfl ?_
      refine ab_e_c1 (k2 := 87) (as := [.ref 13, .int a1, .int a2]) (rest := [.ref 13]) rfl rfl (T_M_awardOf S w X a1 a2) (fun v593 => ?_)
      refine ab_e_br (c := nI 0 ≤ v593) (34, [(0, .ref 13), (1, .int a1), (2, .int a2)], [.ref 13], (X, w)) (30, [(0, .ref 13), (1, .int a1), (2, .int a2)], [.ref 13], (X, w)) rfl (fun _ => ?_) (fun _ => ?_)
      · refine ab_e_go 2 (38, [(0, .ref 13), (1, .int a1), (2, .int a2)], [], ((ab_up X 13 0 (nI 0)), w)) rfl ?_
        refine ab_e_letX (fun X594 _ => ?_)
        refine ab_e_go 2 (42, [(0, .ref 13), (1, .int a1), (2, .int a2)], [.int (X594 13 0)], (X594, w)) rfl ?_
        refine ab_e_br (c := X594 13 0 = nI 0) (47, [(0, .ref 13), (1, .int a1), (2, .int a2)], [], (X594, w)) (45, [(0, .ref 13), (1, .int a1), (2, .int a2)], [], (X594, w)) rfl (fun _ => ?_) (fun _ => ?_)
        · refine ab_e_go 2 (49, [(0, .ref 13), (1, .int a1), (2, .int a2)], [.int a2, .ref 13], (X594, w)) rfl ?_
          refine ab_e_c1 (k2 := 90) (as := [.ref 13, .int a2]) (rest := []) rfl rfl (T_M_coverage S w X594 a2) (fun v595 => ?_)
          refine ab_e_go 5 (57, [(0, .ref 13), (1, .int a1), (2, .int a2)], [.int (nI 5), .int a2, .ref 13, .int (v595 - (nI 1))], (X594, w)) rfl ?_
          refine ab_e_c1 (k2 := 41) (as := [.ref 13, .int a2, .int (nI 5)]) (rest := [.int (v595 - (nI 1))]) rfl rfl (T_M_ofShift S w X594 a2 (nI 5)) (fun v596 => ?_)
          refine ab_e_br (c := v596 ≤ (v595 - (nI 1))) (83, [(0, .ref 13), (1, .int a1), (2, .int a2)], [], (X594, w)) (63, [(0, .ref 13), (1, .int a1), (2, .int a2)], [], (X594, w)) rfl (fun _ => ?_) (fun _ => ?_)
          · refine ab_e_go 4 (87, [(0, .ref 13), (1, .int a1), (2, .int a2)], [.int (-1 : Int32), .int (nI 0), .int (nI 0), .ref 13], (X594, w)) rfl ?_
            refine ab_e_c3 (k2 := 42) (as := [.ref 13, .int (nI 0), .int (nI 0), .int (-1 : Int32)]) (rest := []) rfl rfl (T_M_reasons S w X594 (nI 0) (nI 0) (-1 : Int32)) (fun _ X597 => ?_)
            refine ab_e_go 1 (91, [(0, .ref 13), (1, .int a1), (2, .int a2)], [.ref 13], (X597, w)) rfl ?_
            refine ab_e_c3 (k2 := 99) (as := [.ref 13]) (rest := []) rfl rfl (T_M_keeps S w X597) (fun _ X598 => ?_)
            refine ab_e_go 3 (97, [(0, .ref 13), (1, .int a1), (2, .int a2)], [.int a2, .int a1, .ref 13], (X598, w)) rfl ?_
            refine ab_e_c1 (k2 := 87) (as := [.ref 13, .int a1, .int a2]) (rest := []) rfl rfl (T_M_awardOf S w X598 a1 a2) (fun v599 => ?_)
            refine ab_e_go 1 (101, [(3, .int v599), (0, .ref 13), (1, .int a1), (2, .int a2)], [], (X598, w)) rfl ?_
            refine ab_e_wk [(0, .ref 13), (2, .int a2), (3, .int v599)] ⟨rfl, rfl, rfl, trivial⟩ ?_
            exact T_L_M_revoke_101 S w ab_fu X598 a2 v599
          · refine ab_e_go 5 (69, [(0, .ref 13), (1, .int a1), (2, .int a2)], [.int (nI 5), .int a2, .ref 13, .int (nI 8), .ref 13], (X594, w)) rfl ?_
            refine ab_e_c1 (k2 := 41) (as := [.ref 13, .int a2, .int (nI 5)]) (rest := [.int (nI 8), .ref 13]) rfl rfl (T_M_ofShift S w X594 a2 (nI 5)) (fun v600 => ?_)
            refine ab_e_go 1 (73, [(0, .ref 13), (1, .int a1), (2, .int a2)], [.int a1, .int v600, .int (nI 8), .ref 13], (X594, w)) rfl ?_
            refine ab_e_c3 (k2 := 42) (as := [.ref 13, .int (nI 8), .int v600, .int a1]) (rest := []) rfl rfl (T_M_reasons S w X594 (nI 8) v600 a1) (fun _ X601 => ?_)
            refine ab_e_go 3 (81, [(0, .ref 13), (1, .int a1), (2, .int a2)], [], ((ab_up X601 13 0 (nI 3)), w)) rfl ?_
            refine ab_e_letX (fun X602 _ => ?_)
            refine ab_e_go 1 (82, [(0, .ref 13), (1, .int a1), (2, .int a2)], [.int (nI 0)], (X602, w)) rfl ?_
            exact ab_e_rt rfl rfl
        · refine ab_e_go 1 (46, [(0, .ref 13), (1, .int a1), (2, .int a2)], [.int (nI 0)], (X594, w)) rfl ?_
          exact ab_e_rt rfl rfl
      · refine ab_e_go 3 (38, [(0, .ref 13), (1, .int a1), (2, .int a2)], [], ((ab_up X 13 0 (nI 2)), w)) rfl ?_
        refine ab_e_letX (fun X603 _ => ?_)
        refine ab_e_go 2 (42, [(0, .ref 13), (1, .int a1), (2, .int a2)], [.int (X603 13 0)], (X603, w)) rfl ?_
        refine ab_e_br (c := X603 13 0 = nI 0) (47, [(0, .ref 13), (1, .int a1), (2, .int a2)], [], (X603, w)) (45, [(0, .ref 13), (1, .int a1), (2, .int a2)], [], (X603, w)) rfl (fun _ => ?_) (fun _ => ?_)
        · refine ab_e_go 2 (49, [(0, .ref 13), (1, .int a1), (2, .int a2)], [.int a2, .ref 13], (X603, w)) rfl ?_
          refine ab_e_c1 (k2 := 90) (as := [.ref 13, .int a2]) (rest := []) rfl rfl (T_M_coverage S w X603 a2) (fun v604 => ?_)
          refine ab_e_go 5 (57, [(0, .ref 13), (1, .int a1), (2, .int a2)], [.int (nI 5), .int a2, .ref 13, .int (v604 - (nI 1))], (X603, w)) rfl ?_
          refine ab_e_c1 (k2 := 41) (as := [.ref 13, .int a2, .int (nI 5)]) (rest := [.int (v604 - (nI 1))]) rfl rfl (T_M_ofShift S w X603 a2 (nI 5)) (fun v605 => ?_)
          refine ab_e_br (c := v605 ≤ (v604 - (nI 1))) (83, [(0, .ref 13), (1, .int a1), (2, .int a2)], [], (X603, w)) (63, [(0, .ref 13), (1, .int a1), (2, .int a2)], [], (X603, w)) rfl (fun _ => ?_) (fun _ => ?_)
          · refine ab_e_go 4 (87, [(0, .ref 13), (1, .int a1), (2, .int a2)], [.int (-1 : Int32), .int (nI 0), .int (nI 0), .ref 13], (X603, w)) rfl ?_
            refine ab_e_c3 (k2 := 42) (as := [.ref 13, .int (nI 0), .int (nI 0), .int (-1 : Int32)]) (rest := []) rfl rfl (T_M_reasons S w X603 (nI 0) (nI 0) (-1 : Int32)) (fun _ X606 => ?_)
            refine ab_e_go 1 (91, [(0, .ref 13), (1, .int a1), (2, .int a2)], [.ref 13], (X606, w)) rfl ?_
            refine ab_e_c3 (k2 := 99) (as := [.ref 13]) (rest := []) rfl rfl (T_M_keeps S w X606) (fun _ X607 => ?_)
            refine ab_e_go 3 (97, [(0, .ref 13), (1, .int a1), (2, .int a2)], [.int a2, .int a1, .ref 13], (X607, w)) rfl ?_
            refine ab_e_c1 (k2 := 87) (as := [.ref 13, .int a1, .int a2]) (rest := []) rfl rfl (T_M_awardOf S w X607 a1 a2) (fun v608 => ?_)
            refine ab_e_go 1 (101, [(3, .int v608), (0, .ref 13), (1, .int a1), (2, .int a2)], [], (X607, w)) rfl ?_
            refine ab_e_wk [(0, .ref 13), (2, .int a2), (3, .int v608)] ⟨rfl, rfl, rfl, trivial⟩ ?_
            exact T_L_M_revoke_101 S w ab_fu X607 a2 v608
          · refine ab_e_go 5 (69, [(0, .ref 13), (1, .int a1), (2, .int a2)], [.int (nI 5), .int a2, .ref 13, .int (nI 8), .ref 13], (X603, w)) rfl ?_
            refine ab_e_c1 (k2 := 41) (as := [.ref 13, .int a2, .int (nI 5)]) (rest := [.int (nI 8), .ref 13]) rfl rfl (T_M_ofShift S w X603 a2 (nI 5)) (fun v609 => ?_)
            refine ab_e_go 1 (73, [(0, .ref 13), (1, .int a1), (2, .int a2)], [.int a1, .int v609, .int (nI 8), .ref 13], (X603, w)) rfl ?_
            refine ab_e_c3 (k2 := 42) (as := [.ref 13, .int (nI 8), .int v609, .int a1]) (rest := []) rfl rfl (T_M_reasons S w X603 (nI 8) v609 a1) (fun _ X610 => ?_)
            refine ab_e_go 3 (81, [(0, .ref 13), (1, .int a1), (2, .int a2)], [], ((ab_up X610 13 0 (nI 3)), w)) rfl ?_
            refine ab_e_letX (fun X611 _ => ?_)
            refine ab_e_go 1 (82, [(0, .ref 13), (1, .int a1), (2, .int a2)], [.int (nI 0)], (X611, w)) rfl ?_
            exact ab_e_rt rfl rfl
        · refine ab_e_go 1 (46, [(0, .ref 13), (1, .int a1), (2, .int a2)], [.int (nI 0)], (X603, w)) rfl ?_
          exact ab_e_rt rfl rfl
    · refine ab_e_go 3 (38, [(0, .ref 13), (1, .int a1), (2, .int a2)], [], ((ab_up X 13 0 (nI 1)), w)) rfl ?_
      refine ab_e_letX (fun X612 _ => ?_)
      refine ab_e_go 2 (42, [(0, .ref 13), (1, .int a1), (2, .int a2)], [.int (X612 13 0)], (X612, w)) rfl ?_
      refine ab_e_br (c := X612 13 0 = nI 0) (47, [(0, .ref 13), (1, .int a1), (2, .int a2)], [], (X612, w)) (45, [(0, .ref 13), (1, .int a1), (2, .int a2)], [], (X612, w)) rfl (fun _ => ?_) (fun _ => ?_)
      · refine ab_e_go 2 (49, [(0, .ref 13), (1, .int a1), (2, .int a2)], [.int a2, .ref 13], (X612, w)) rfl ?_
        refine ab_e_c1 (k2 := 90) (as := [.ref 13, .int a2]) (rest := []) rfl rfl (T_M_coverage S w X612 a2) (fun v613 => ?_)
        refine ab_e_go 5 (57, [(0, .ref 13), (1, .int a1), (2, .int a2)], [.int (nI 5), .int a2, .ref 13, .int (v613 - (nI 1))], (X612, w)) rfl ?_
        refine ab_e_c1 (k2 := 41) (as := [.ref 13, .int a2, .int (nI 5)]) (rest := [.int (v613 - (nI 1))]) rfl rfl (T_M_ofShift S w X612 a2 (nI 5)) (fun v614 => ?_)
        refine ab_e_br (c := v614 ≤ (v613 - (nI 1))) (83, [(0, .ref 13), (1, .int a1), (2, .int a2)], [], (X612, w)) (63, [(0, .ref 13), (1, .int a1), (2, .int a2)], [], (X612, w)) rfl (fun _ => ?_) (fun _ => ?_)
        · refine ab_e_go 4 (87, [(0, .ref 13), (1, .int a1), (2, .int a2)], [.int (-1 : Int32), .int (nI 0), .int (nI 0), .ref 13], (X612, w)) rfl ?_
          refine ab_e_c3 (k2 := 42) (as := [.ref 13, .int (nI 0), .int (nI 0), .int (-1 : Int32)]) (rest := []) rfl rfl (T_M_reasons S w X612 (nI 0) (nI 0) (-1 : Int32)) (fun _ X615 => ?_)
          refine ab_e_go 1 (91, [(0, .ref 13), (1, .int a1), (2, .int a2)], [.ref 13], (X615, w)) rfl ?_
          refine ab_e_c3 (k2 := 99) (as := [.ref 13]) (rest := []) rfl rfl (T_M_keeps S w X615) (fun _ X616 => ?_)
          refine ab_e_go 3 (97, [(0, .ref 13), (1, .int a1), (2, .int a2)], [.int a2, .int a1, .ref 13], (X616, w)) rfl ?_
          refine ab_e_c1 (k2 := 87) (as := [.ref 13, .int a1, .int a2]) (rest := []) rfl rfl (T_M_awardOf S w X616 a1 a2) (fun v617 => ?_)
          refine ab_e_go 1 (101, [(3, .int v617), (0, .ref 13), (1, .int a1), (2, .int a2)], [], (X616, w)) rfl ?_
          refine ab_e_wk [(0, .ref 13), (2, .int a2), (3, .int v617)] ⟨rfl, rfl, rfl, trivial⟩ ?_
          exact T_L_M_revoke_101 S w ab_fu X616 a2 v617
        · refine ab_e_go 5 (69, [(0, .ref 13), (1, .int a1), (2, .int a2)], [.int (nI 5), .int a2, .ref 13, .int (nI 8), .ref 13], (X612, w)) rfl ?_
          refine ab_e_c1 (k2 := 41) (as := [.ref 13, .int a2, .int (nI 5)]) (rest := [.int (nI 8), .ref 13]) rfl rfl (T_M_ofShift S w X612 a2 (nI 5)) (fun v618 => ?_)
          refine ab_e_go 1 (73, [(0, .ref 13), (1, .int a1), (2, .int a2)], [.int a1, .int v618, .int (nI 8), .ref 13], (X612, w)) rfl ?_
          refine ab_e_c3 (k2 := 42) (as := [.ref 13, .int (nI 8), .int v618, .int a1]) (rest := []) rfl rfl (T_M_reasons S w X612 (nI 8) v618 a1) (fun _ X619 => ?_)
          refine ab_e_go 3 (81, [(0, .ref 13), (1, .int a1), (2, .int a2)], [], ((ab_up X619 13 0 (nI 3)), w)) rfl ?_
          refine ab_e_letX (fun X620 _ => ?_)
          refine ab_e_go 1 (82, [(0, .ref 13), (1, .int a1), (2, .int a2)], [.int (nI 0)], (X620, w)) rfl ?_
          exact ab_e_rt rfl rfl
      · refine ab_e_go 1 (46, [(0, .ref 13), (1, .int a1), (2, .int a2)], [.int (nI 0)], (X612, w)) rfl ?_
        exact ab_e_rt rfl rfl
def F_M_setGuarantee (X : ab_XX) (a1 : Int32) (a2 : Int32) : Option (Int32 × ab_XX) :=
  (F_M_isShift X a1).bind fun v621 =>
  if v621 = nI 0 then
    (some (ab_up X 13 0 (nI 1))).bind fun X637 =>
    if X637 13 0 = nI 0 then
      ab_b3 (F_M_keeps X637) (fun _ X638 =>
        (F_M_ofShift X638 a1 (nI 5)).bind fun v639 =>
        if ab_in (((nI 52) + ((nI 6) * a1)) + (nI 5)) 4455 = true then
          (some (ab_up X638 14 ((((nI 52) + ((nI 6) * a1)) + (nI 5)).toNatClampNeg) a2)).bind fun X640 =>
          some (v639, X640)
        else none)
    else
      some (nI 0, X637)
  else
    (F_M_ofShift X a1 (nI 4)).bind fun v622 =>
    (F_M_in a2 (nI 0) v622).bind fun v623 =>
    if v623 = nI 0 then
      (some (ab_up X 13 0 (nI 2))).bind fun X633 =>
      if X633 13 0 = nI 0 then
        ab_b3 (F_M_keeps X633) (fun _ X634 =>
          (F_M_ofShift X634 a1 (nI 5)).bind fun v635 =>
          if ab_in (((nI 52) + ((nI 6) * a1)) + (nI 5)) 4455 = true then
            (some (ab_up X634 14 ((((nI 52) + ((nI 6) * a1)) + (nI 5)).toNatClampNeg) a2)).bind fun X636 =>
            some (v635, X636)
          else none)
      else
        some (nI 0, X633)
    else
      (F_M_coverage X a1).bind fun v624 =>
      if a2 ≤ v624 then
        (some (ab_up X 13 0 (nI 0))).bind fun X625 =>
        if X625 13 0 = nI 0 then
          ab_b3 (F_M_keeps X625) (fun _ X626 =>
            (F_M_ofShift X626 a1 (nI 5)).bind fun v627 =>
            if ab_in (((nI 52) + ((nI 6) * a1)) + (nI 5)) 4455 = true then
              (some (ab_up X626 14 ((((nI 52) + ((nI 6) * a1)) + (nI 5)).toNatClampNeg) a2)).bind fun X628 =>
              some (v627, X628)
            else none)
        else
          some (nI 0, X625)
      else
        (some (ab_up X 13 0 (nI 3))).bind fun X629 =>
        if X629 13 0 = nI 0 then
          ab_b3 (F_M_keeps X629) (fun _ X630 =>
            (F_M_ofShift X630 a1 (nI 5)).bind fun v631 =>
            if ab_in (((nI 52) + ((nI 6) * a1)) + (nI 5)) 4455 = true then
              (some (ab_up X630 14 ((((nI 52) + ((nI 6) * a1)) + (nI 5)).toNatClampNeg) a2)).bind fun X632 =>
              some (v631, X632)
            else none)
        else
          some (nI 0, X629)
set_option maxRecDepth 4000 in
theorem T_M_setGuarantee (S : Nat × (Nat → Int32)) (w : ab_WW) (X : ab_XX) (a1 : Int32) (a2 : Int32) : ab_Eg (ab_m3 ab_fI w) S 152 (0, lv_args 0 [.ref 13, .int a1, .int a2], [], (X, w)) (F_M_setGuarantee X a1 a2) := by
  show ab_Eg (ab_m3 ab_fI w) S 152 (0, [(0, .ref 13), (1, .int a1), (2, .int a2)], [], (X, w)) _
  unfold F_M_setGuarantee
  refine ab_e_go 3 (3, [(0, .ref 13), (1, .int a1), (2, .int a2)], [.int a1, .ref 13, .ref 13], (X, w)) rfl ?_
  refine ab_e_c1 (k2 := 97) (as := [.ref 13, .int a1]) (rest := [.ref 13]) rfl rfl (T_M_isShift S w X a1) (fun v621 => ?_)
  refine ab_e_bn (c := v621 = nI 0) (13, [(0, .ref 13), (1, .int a1), (2, .int a2)], [.ref 13], (X, w)) (9, [(0, .ref 13), (1, .int a1), (2, .int a2)], [.ref 13], (X, w)) rfl (fun _ => ?_) (fun _ => ?_)
  · refine ab_e_go 5 (18, [(0, .ref 13), (1, .int a1), (2, .int a2)], [.int (nI 4), .int a1, .ref 13, .int (nI 0), .int a2, .ref 13], (X, w)) rfl ?_
    refine ab_e_c1 (k2 := 41) (as := [.ref 13, .int a1, .int (nI 4)]) (rest := [.int (nI 0), .int a2, .ref 13]) rfl rfl (T_M_ofShift S w X a1 (nI 4)) (fun v622 => ?_)
    refine ab_e_c1 (k2 := 39) (as := [.int a2, .int (nI 0), .int v622]) (rest := [.ref 13]) rfl rfl (T_M_in S w X a2 (nI 0) v622) (fun v623 => ?_)
    refine ab_e_bn (c := v623 = nI 0) (31, [(0, .ref 13), (1, .int a1), (2, .int a2)], [.ref 13], (X, w)) (27, [(0, .ref 13), (1, .int a1), (2, .int a2)], [.ref 13], (X, w)) rfl (fun _ => ?_) (fun _ => ?_)
    · refine ab_e_go 2 (33, [(0, .ref 13), (1, .int a1), (2, .int a2)], [.int a1, .ref 13, .ref 13], (X, w)) rfl ?_
      refine ab_e_c1 (k2 := 90) (as := [.ref 13, .int a1]) (rest := [.ref 13]) rfl rfl (T_M_coverage S w X a1) (fun v624 => ?_)
      refine ab_e_go 1 (37, [(0, .ref 13), (1, .int a1), (2, .int a2)], [.int a2, .int v624, .ref 13], (X, w)) rfl ?_
      refine ab_e_br (c := a2 ≤ v624) (44, [(0, .ref 13), (1, .int a1), (2, .int a2)], [.ref 13], (X, w)) (40, [(0, .ref 13), (1, .int a1), (2, .int a2)], [.ref 13], (X, w)) rfl (fun _ => ?_) (fun _ => ?_)
      · refine ab_e_go 2 (48, [(0, .ref 13), (1, .int a1), (2, .int a2)], [], ((ab_up X 13 0 (nI 0)), w)) rfl ?_
        refine ab_e_letX (fun X625 _ => ?_)
        refine ab_e_go 2 (52, [(0, .ref 13), (1, .int a1), (2, .int a2)], [.int (X625 13 0)], (X625, w)) rfl ?_
        refine ab_e_br (c := X625 13 0 = nI 0) (57, [(0, .ref 13), (1, .int a1), (2, .int a2)], [], (X625, w)) (55, [(0, .ref 13), (1, .int a1), (2, .int a2)], [], (X625, w)) rfl (fun _ => ?_) (fun _ => ?_)
        · refine ab_e_go 1 (58, [(0, .ref 13), (1, .int a1), (2, .int a2)], [.ref 13], (X625, w)) rfl ?_
          refine ab_e_c3 (k2 := 99) (as := [.ref 13]) (rest := []) rfl rfl (T_M_keeps S w X625) (fun _ X626 => ?_)
          refine ab_e_go 3 (64, [(0, .ref 13), (1, .int a1), (2, .int a2)], [.int (nI 5), .int a1, .ref 13], (X626, w)) rfl ?_
          refine ab_e_c1 (k2 := 41) (as := [.ref 13, .int a1, .int (nI 5)]) (rest := []) rfl rfl (T_M_ofShift S w X626 a1 (nI 5)) (fun v627 => ?_)
          refine ab_e_go 11 (82, [(3, .int v627), (0, .ref 13), (1, .int a1), (2, .int a2)], [.int a2, .int (((nI 52) + ((nI 6) * a1)) + (nI 5)), .ref 14], (X626, w)) rfl ?_
          refine ab_e_gd (83, [(3, .int v627), (0, .ref 13), (1, .int a1), (2, .int a2)], [], ((ab_up X626 14 ((((nI 52) + ((nI 6) * a1)) + (nI 5)).toNatClampNeg) a2), w)) rfl ?_
          refine ab_e_letX (fun X628 _ => ?_)
          refine ab_e_go 1 (84, [(3, .int v627), (0, .ref 13), (1, .int a1), (2, .int a2)], [.int v627], (X628, w)) rfl ?_
          exact ab_e_rt rfl rfl
        · refine ab_e_go 1 (56, [(0, .ref 13), (1, .int a1), (2, .int a2)], [.int (nI 0)], (X625, w)) rfl ?_
          exact ab_e_rt rfl rfl
      · refine ab_e_go 3 (48, [(0, .ref 13), (1, .int a1), (2, .int a2)], [], ((ab_up X 13 0 (nI 3)), w)) rfl ?_
        refine ab_e_letX (fun X629 _ => ?_)
        refine ab_e_go 2 (52, [(0, .ref 13), (1, .int a1), (2, .int a2)], [.int (X629 13 0)], (X629, w)) rfl ?_
        refine ab_e_br (c := X629 13 0 = nI 0) (57, [(0, .ref 13), (1, .int a1), (2, .int a2)], [], (X629, w)) (55, [(0, .ref 13), (1, .int a1), (2, .int a2)], [], (X629, w)) rfl (fun _ => ?_) (fun _ => ?_)
        · refine ab_e_go 1 (58, [(0, .ref 13), (1, .int a1), (2, .int a2)], [.ref 13], (X629, w)) rfl ?_
          refine ab_e_c3 (k2 := 99) (as := [.ref 13]) (rest := []) rfl rfl (T_M_keeps S w X629) (fun _ X630 => ?_)
          refine ab_e_go 3 (64, [(0, .ref 13), (1, .int a1), (2, .int a2)], [.int (nI 5), .int a1, .ref 13], (X630, w)) rfl ?_
          refine ab_e_c1 (k2 := 41) (as := [.ref 13, .int a1, .int (nI 5)]) (rest := []) rfl rfl (T_M_ofShift S w X630 a1 (nI 5)) (fun v631 => ?_)
          refine ab_e_go 11 (82, [(3, .int v631), (0, .ref 13), (1, .int a1), (2, .int a2)], [.int a2, .int (((nI 52) + ((nI 6) * a1)) + (nI 5)), .ref 14], (X630, w)) rfl ?_
          refine ab_e_gd (83, [(3, .int v631), (0, .ref 13), (1, .int a1), (2, .int a2)], [], ((ab_up X630 14 ((((nI 52) + ((nI 6) * a1)) + (nI 5)).toNatClampNeg) a2), w)) rfl ?_
          refine ab_e_letX (fun X632 _ => ?_)
          refine ab_e_go 1 (84, [(3, .int v631), (0, .ref 13), (1, .int a1), (2, .int a2)], [.int v631], (X632, w)) rfl ?_
          exact ab_e_rt rfl rfl
        · refine ab_e_go 1 (56, [(0, .ref 13), (1, .int a1), (2, .int a2)], [.int (nI 0)], (X629, w)) rfl ?_
          exact ab_e_rt rfl rfl
    · refine ab_e_go 3 (48, [(0, .ref 13), (1, .int a1), (2, .int a2)], [], ((ab_up X 13 0 (nI 2)), w)) rfl ?_
      refine ab_e_letX (fun X633 _ => ?_)
      refine ab_e_go 2 (52, [(0, .ref 13), (1, .int a1), (2, .int a2)], [.int (X633 13 0)], (X633, w)) rfl ?_
      refine ab_e_br (c := X633 13 0 = nI 0) (57, [(0, .ref 13), (1, .int a1), (2, .int a2)], [], (X633, w)) (55, [(0, .ref 13), (1, .int a1), (2, .int a2)], [], (X633, w)) rfl (fun _ => ?_) (fun _ => ?_)
      · refine ab_e_go 1 (58, [(0, .ref 13), (1, .int a1), (2, .int a2)], [.ref 13], (X633, w)) rfl ?_
        refine ab_e_c3 (k2 := 99) (as := [.ref 13]) (rest := []) rfl rfl (T_M_keeps S w X633) (fun _ X634 => ?_)
        refine ab_e_go 3 (64, [(0, .ref 13), (1, .int a1), (2, .int a2)], [.int (nI 5), .int a1, .ref 13], (X634, w)) rfl ?_
        refine ab_e_c1 (k2 := 41) (as := [.ref 13, .int a1, .int (nI 5)]) (rest := []) rfl rfl (T_M_ofShift S w X634 a1 (nI 5)) (fun v635 => ?_)
        refine ab_e_go 11 (82, [(3, .int v635), (0, .ref 13), (1, .int a1), (2, .int a2)], [.int a2, .int (((nI 52) + ((nI 6) * a1)) + (nI 5)), .ref 14], (X634, w)) rfl ?_
        refine ab_e_gd (83, [(3, .int v635), (0, .ref 13), (1, .int a1), (2, .int a2)], [], ((ab_up X634 14 ((((nI 52) + ((nI 6) * a1)) + (nI 5)).toNatClampNeg) a2), w)) rfl ?_
        refine ab_e_letX (fun X636 _ => ?_)
        refine ab_e_go 1 (84, [(3, .int v635), (0, .ref 13), (1, .int a1), (2, .int a2)], [.int v635], (X636, w)) rfl ?_
        exact ab_e_rt rfl rfl
      · refine ab_e_go 1 (56, [(0, .ref 13), (1, .int a1), (2, .int a2)], [.int (nI 0)], (X633, w)) rfl ?_
        exact ab_e_rt rfl rfl
  · refine ab_e_go 3 (48, [(0, .ref 13), (1, .int a1), (2, .int a2)], [], ((ab_up X 13 0 (nI 1)), w)) rfl ?_
    refine ab_e_letX (fun X637 _ => ?_)
    refine ab_e_go 2 (52, [(0, .ref 13), (1, .int a1), (2, .int a2)], [.int (X637 13 0)], (X637, w)) rfl ?_
    refine ab_e_br (c := X637 13 0 = nI 0) (57, [(0, .ref 13), (1, .int a1), (2, .int a2)], [], (X637, w)) (55, [(0, .ref 13), (1, .int a1), (2, .int a2)], [], (X637, w)) rfl (fun _ => ?_) (fun _ => ?_)
    · refine ab_e_go 1 (58, [(0, .ref 13), (1, .int a1), (2, .int a2)], [.ref 13], (X637, w)) rfl ?_
      refine ab_e_c3 (k2 := 99) (as := [.ref 13]) (rest := []) rfl rfl (T_M_keeps S w X637) (fun _ X638 => ?_)
      refine ab_e_go 3 (64, [(0, .ref 13), (1, .int a1), (2, .int a2)], [.int (nI 5), .int a1, .ref 13], (X638, w)) rfl ?_
      refine ab_e_c1 (k2 := 41) (as := [.ref 13, .int a1, .int (nI 5)]) (rest := []) rfl rfl (T_M_ofShift S w X638 a1 (nI 5)) (fun v639 => ?_)
      refine ab_e_go 11 (82, [(3, .int v639), (0, .ref 13), (1, .int a1), (2, .int a2)], [.int a2, .int (((nI 52) + ((nI 6) * a1)) + (nI 5)), .ref 14], (X638, w)) rfl ?_
      refine ab_e_gd (83, [(3, .int v639), (0, .ref 13), (1, .int a1), (2, .int a2)], [], ((ab_up X638 14 ((((nI 52) + ((nI 6) * a1)) + (nI 5)).toNatClampNeg) a2), w)) rfl ?_
      refine ab_e_letX (fun X640 _ => ?_)
      refine ab_e_go 1 (84, [(3, .int v639), (0, .ref 13), (1, .int a1), (2, .int a2)], [.int v639], (X640, w)) rfl ?_
      exact ab_e_rt rfl rfl
    · refine ab_e_go 1 (56, [(0, .ref 13), (1, .int a1), (2, .int a2)], [.int (nI 0)], (X637, w)) rfl ?_
      exact ab_e_rt rfl rfl
def F_M_of (X : ab_XX) (a1 : Int32) (a2 : Int32) : Option Int32 :=
  if ab_in (((nI 1) + ((nI 5) * a1)) + a2) 4455 = true then
    (some (X 14 (((nI 1) + ((nI 5) * a1)) + a2).toNatClampNeg)).bind fun v644 =>
    some v644
  else none
set_option maxRecDepth 4000 in
theorem T_M_of (S : Nat × (Nat → Int32)) (w : ab_WW) (X : ab_XX) (a1 : Int32) (a2 : Int32) : ab_Eg (ab_m1 ab_fI (X, w)) S 40 (0, lv_args 0 [.ref 13, .int a1, .int a2], [], (X, w)) (F_M_of X a1 a2) := by
  show ab_Eg (ab_m1 ab_fI (X, w)) S 40 (0, [(0, .ref 13), (1, .int a1), (2, .int a2)], [], (X, w)) _
  unfold F_M_of
  refine ab_e_go 9 (11, [(0, .ref 13), (1, .int a1), (2, .int a2)], [.int (((nI 1) + ((nI 5) * a1)) + a2), .ref 14], (X, w)) rfl ?_
  refine ab_e_gd (12, [(0, .ref 13), (1, .int a1), (2, .int a2)], [.int (X 14 (((nI 1) + ((nI 5) * a1)) + a2).toNatClampNeg)], (X, w)) rfl ?_
  refine ab_e_letI (fun v644 _ => ?_)
  exact ab_e_rt rfl rfl
def L_M_bidsOf_4 (X : ab_XX) : Nat → Int32 → Int32 → Int32 → Option Int32
  | 0, _, _, _ => none
  | n + 1, a1, a2, a3 =>
    (F_M_shifts X).bind fun v646 =>
    if v646 ≤ a3 then
      some a2
    else
      (F_M_bidOf X a1 a3).bind fun v647 =>
      if v647 ≤ nI 0 then
        L_M_bidsOf_4 X n a1 (a2 + (nI 0)) (a3 + (nI 1))
      else
        L_M_bidsOf_4 X n a1 (a2 + (nI 1)) (a3 + (nI 1))
set_option maxRecDepth 4000 in
theorem T_L_M_bidsOf_4 (S : Nat × (Nat → Int32)) (w : ab_WW) (X : ab_XX) : ∀ (n : Nat) (a1 : Int32) (a2 : Int32) (a3 : Int32), ab_Eg (ab_m1 ab_fI (X, w)) S 89 (4, [(0, .ref 13), (1, .int a1), (2, .int a2), (3, .int a3)], [], (X, w)) (L_M_bidsOf_4 X n a1 a2 a3) := by
  intro n
  induction n with
  | zero => intro a1 a2 a3; exact ab_e_none
  | succ n ih =>
    intro a1 a2 a3
    unfold L_M_bidsOf_4
    refine ab_e_go 2 (6, [(0, .ref 13), (1, .int a1), (2, .int a2), (3, .int a3)], [.ref 13, .int a3], (X, w)) rfl ?_
    refine ab_e_c1 (k2 := 43) (as := [.ref 13]) (rest := [.int a3]) rfl rfl (T_M_shifts S w X) (fun v646 => ?_)
    refine ab_e_br (c := v646 ≤ a3) (35, [(0, .ref 13), (1, .int a1), (2, .int a2), (3, .int a3)], [], (X, w)) (12, [(0, .ref 13), (1, .int a1), (2, .int a2), (3, .int a3)], [], (X, w)) rfl (fun _ => ?_) (fun _ => ?_)
    · refine ab_e_go 1 (36, [(0, .ref 13), (1, .int a1), (2, .int a2), (3, .int a3)], [.int a2], (X, w)) rfl ?_
      exact ab_e_rt rfl rfl
    · refine ab_e_go 4 (16, [(0, .ref 13), (1, .int a1), (2, .int a2), (3, .int a3)], [.int a3, .int a1, .ref 13, .int a2], (X, w)) rfl ?_
      refine ab_e_c1 (k2 := 34) (as := [.ref 13, .int a1, .int a3]) (rest := [.int a2]) rfl rfl (T_M_bidOf S w X a1 a3) (fun v647 => ?_)
      refine ab_e_br (c := v647 ≤ nI 0) (26, [(0, .ref 13), (1, .int a1), (2, .int a2), (3, .int a3)], [.int a2], (X, w)) (22, [(0, .ref 13), (1, .int a1), (2, .int a2), (3, .int a3)], [.int a2], (X, w)) rfl (fun _ => ?_) (fun _ => ?_)
      · refine ab_e_go 5 (4, [(3, .int (a3 + (nI 1))), (2, .int (a2 + (nI 0))), (0, .ref 13), (1, .int a1)], [], (X, w)) rfl ?_
        refine ab_e_wk [(0, .ref 13), (1, .int a1), (2, .int (a2 + (nI 0))), (3, .int (a3 + (nI 1)))] ⟨rfl, rfl, rfl, rfl, trivial⟩ ?_
        exact ih a1 (a2 + (nI 0)) (a3 + (nI 1))
      · refine ab_e_go 6 (4, [(3, .int (a3 + (nI 1))), (2, .int (a2 + (nI 1))), (0, .ref 13), (1, .int a1)], [], (X, w)) rfl ?_
        refine ab_e_wk [(0, .ref 13), (1, .int a1), (2, .int (a2 + (nI 1))), (3, .int (a3 + (nI 1)))] ⟨rfl, rfl, rfl, rfl, trivial⟩ ?_
        exact ih a1 (a2 + (nI 1)) (a3 + (nI 1))
def F_M_bidsOf (X : ab_XX) (a1 : Int32) : Option Int32 :=
  L_M_bidsOf_4 X ab_fu a1 (nI 0) (nI 0)
set_option maxRecDepth 4000 in
theorem T_M_bidsOf (S : Nat × (Nat → Int32)) (w : ab_WW) (X : ab_XX) (a1 : Int32) : ab_Eg (ab_m1 ab_fI (X, w)) S 89 (0, lv_args 0 [.ref 13, .int a1], [], (X, w)) (F_M_bidsOf X a1) := by
  show ab_Eg (ab_m1 ab_fI (X, w)) S 89 (0, [(0, .ref 13), (1, .int a1)], [], (X, w)) _
  unfold F_M_bidsOf
  refine ab_e_go 4 (4, [(3, .int (nI 0)), (2, .int (nI 0)), (0, .ref 13), (1, .int a1)], [], (X, w)) rfl ?_
  refine ab_e_wk [(0, .ref 13), (1, .int a1), (2, .int (nI 0)), (3, .int (nI 0))] ⟨rfl, rfl, rfl, rfl, trivial⟩ ?_
  exact T_L_M_bidsOf_4 S w X ab_fu a1 (nI 0) (nI 0)
def F_M_worker (X : ab_XX) (a1 : Int32) (a2 : Int32) : Option (Int32 × ab_XX) :=
  (F_M_isWorker X a1).bind fun v641 =>
  if v641 = nI 0 then
    (some (ab_up X 13 0 (nI 1))).bind fun X652 =>
    if X652 13 0 = nI 0 then
      if a2 = nI 5 then
        (F_M_bidsOf X652 a1).bind fun v654 =>
        some (v654, X652)
      else
        (F_M_of X652 a1 a2).bind fun v653 =>
        some (v653, X652)
    else
      some (nI 0, X652)
  else
    (F_M_in a2 (nI 0) (nI 5)).bind fun v642 =>
    if v642 = nI 0 then
      (some (ab_up X 13 0 (nI 2))).bind fun X643 =>
      if X643 13 0 = nI 0 then
        if a2 = nI 5 then
          (F_M_bidsOf X643 a1).bind fun v648 =>
          some (v648, X643)
        else
          (F_M_of X643 a1 a2).bind fun v645 =>
          some (v645, X643)
      else
        some (nI 0, X643)
    else
      (some (ab_up X 13 0 (nI 0))).bind fun X649 =>
      if X649 13 0 = nI 0 then
        if a2 = nI 5 then
          (F_M_bidsOf X649 a1).bind fun v651 =>
          some (v651, X649)
        else
          (F_M_of X649 a1 a2).bind fun v650 =>
          some (v650, X649)
      else
        some (nI 0, X649)
set_option maxRecDepth 4000 in
theorem T_M_worker (S : Nat × (Nat → Int32)) (w : ab_WW) (X : ab_XX) (a1 : Int32) (a2 : Int32) : ab_Eg (ab_m3 ab_fI w) S 153 (0, lv_args 0 [.ref 13, .int a1, .int a2], [], (X, w)) (F_M_worker X a1 a2) := by
  show ab_Eg (ab_m3 ab_fI w) S 153 (0, [(0, .ref 13), (1, .int a1), (2, .int a2)], [], (X, w)) _
  unfold F_M_worker
  refine ab_e_go 3 (3, [(0, .ref 13), (1, .int a1), (2, .int a2)], [.int a1, .ref 13, .ref 13], (X, w)) rfl ?_
  refine ab_e_c1 (k2 := 98) (as := [.ref 13, .int a1]) (rest := [.ref 13]) rfl rfl (T_M_isWorker S w X a1) (fun v641 => ?_)
  refine ab_e_bn (c := v641 = nI 0) (13, [(0, .ref 13), (1, .int a1), (2, .int a2)], [.ref 13], (X, w)) (9, [(0, .ref 13), (1, .int a1), (2, .int a2)], [.ref 13], (X, w)) rfl (fun _ => ?_) (fun _ => ?_)
  · refine ab_e_go 3 (16, [(0, .ref 13), (1, .int a1), (2, .int a2)], [.int (nI 5), .int (nI 0), .int a2, .ref 13], (X, w)) rfl ?_
    refine ab_e_c1 (k2 := 39) (as := [.int a2, .int (nI 0), .int (nI 5)]) (rest := [.ref 13]) rfl rfl (T_M_in S w X a2 (nI 0) (nI 5)) (fun v642 => ?_)
    refine ab_e_br (c := v642 = nI 0) (26, [(0, .ref 13), (1, .int a1), (2, .int a2)], [.ref 13], (X, w)) (22, [(0, .ref 13), (1, .int a1), (2, .int a2)], [.ref 13], (X, w)) rfl (fun _ => ?_) (fun _ => ?_)
    · refine ab_e_go 2 (30, [(0, .ref 13), (1, .int a1), (2, .int a2)], [], ((ab_up X 13 0 (nI 2)), w)) rfl ?_
      refine ab_e_letX (fun X643 _ => ?_)
      refine ab_e_go 2 (34, [(0, .ref 13), (1, .int a1), (2, .int a2)], [.int (X643 13 0)], (X643, w)) rfl ?_
      refine ab_e_br (c := X643 13 0 = nI 0) (41, [(0, .ref 13), (1, .int a1), (2, .int a2)], [], (X643, w)) (37, [(0, .ref 13), (1, .int a1), (2, .int a2)], [], (X643, w)) rfl (fun _ => ?_) (fun _ => ?_)
      · refine ab_e_go 2 (43, [(0, .ref 13), (1, .int a1), (2, .int a2)], [.int (nI 5), .int a2], (X643, w)) rfl ?_
        refine ab_e_bn (c := a2 = nI 5) (54, [(0, .ref 13), (1, .int a1), (2, .int a2)], [], (X643, w)) (46, [(0, .ref 13), (1, .int a1), (2, .int a2)], [], (X643, w)) rfl (fun _ => ?_) (fun _ => ?_)
        · refine ab_e_go 3 (57, [(0, .ref 13), (1, .int a1), (2, .int a2)], [.int a2, .int a1, .ref 13], (X643, w)) rfl ?_
          refine ab_e_c1 (k2 := 40) (as := [.ref 13, .int a1, .int a2]) (rest := []) rfl rfl (T_M_of S w X643 a1 a2) (fun v645 => ?_)
          exact ab_e_rt rfl rfl
        · refine ab_e_go 2 (48, [(0, .ref 13), (1, .int a1), (2, .int a2)], [.int a1, .ref 13], (X643, w)) rfl ?_
          refine ab_e_c1 (k2 := 89) (as := [.ref 13, .int a1]) (rest := []) rfl rfl (T_M_bidsOf S w X643 a1) (fun v648 => ?_)
          refine ab_e_go 1 (60, [(0, .ref 13), (1, .int a1), (2, .int a2)], [.int v648], (X643, w)) rfl ?_
          exact ab_e_rt rfl rfl
      · refine ab_e_go 2 (60, [(0, .ref 13), (1, .int a1), (2, .int a2)], [.int (nI 0)], (X643, w)) rfl ?_
        exact ab_e_rt rfl rfl
    · refine ab_e_go 3 (30, [(0, .ref 13), (1, .int a1), (2, .int a2)], [], ((ab_up X 13 0 (nI 0)), w)) rfl ?_
      refine ab_e_letX (fun X649 _ => ?_)
      refine ab_e_go 2 (34, [(0, .ref 13), (1, .int a1), (2, .int a2)], [.int (X649 13 0)], (X649, w)) rfl ?_
      refine ab_e_br (c := X649 13 0 = nI 0) (41, [(0, .ref 13), (1, .int a1), (2, .int a2)], [], (X649, w)) (37, [(0, .ref 13), (1, .int a1), (2, .int a2)], [], (X649, w)) rfl (fun _ => ?_) (fun _ => ?_)
      · refine ab_e_go 2 (43, [(0, .ref 13), (1, .int a1), (2, .int a2)], [.int (nI 5), .int a2], (X649, w)) rfl ?_
        refine ab_e_bn (c := a2 = nI 5) (54, [(0, .ref 13), (1, .int a1), (2, .int a2)], [], (X649, w)) (46, [(0, .ref 13), (1, .int a1), (2, .int a2)], [], (X649, w)) rfl (fun _ => ?_) (fun _ => ?_)
        · refine ab_e_go 3 (57, [(0, .ref 13), (1, .int a1), (2, .int a2)], [.int a2, .int a1, .ref 13], (X649, w)) rfl ?_
          refine ab_e_c1 (k2 := 40) (as := [.ref 13, .int a1, .int a2]) (rest := []) rfl rfl (T_M_of S w X649 a1 a2) (fun v650 => ?_)
          exact ab_e_rt rfl rfl
        · refine ab_e_go 2 (48, [(0, .ref 13), (1, .int a1), (2, .int a2)], [.int a1, .ref 13], (X649, w)) rfl ?_
          refine ab_e_c1 (k2 := 89) (as := [.ref 13, .int a1]) (rest := []) rfl rfl (T_M_bidsOf S w X649 a1) (fun v651 => ?_)
          refine ab_e_go 1 (60, [(0, .ref 13), (1, .int a1), (2, .int a2)], [.int v651], (X649, w)) rfl ?_
          exact ab_e_rt rfl rfl
      · refine ab_e_go 2 (60, [(0, .ref 13), (1, .int a1), (2, .int a2)], [.int (nI 0)], (X649, w)) rfl ?_
        exact ab_e_rt rfl rfl
  · refine ab_e_go 3 (30, [(0, .ref 13), (1, .int a1), (2, .int a2)], [], ((ab_up X 13 0 (nI 1)), w)) rfl ?_
    refine ab_e_letX (fun X652 _ => ?_)
    refine ab_e_go 2 (34, [(0, .ref 13), (1, .int a1), (2, .int a2)], [.int (X652 13 0)], (X652, w)) rfl ?_
    refine ab_e_br (c := X652 13 0 = nI 0) (41, [(0, .ref 13), (1, .int a1), (2, .int a2)], [], (X652, w)) (37, [(0, .ref 13), (1, .int a1), (2, .int a2)], [], (X652, w)) rfl (fun _ => ?_) (fun _ => ?_)
    · refine ab_e_go 2 (43, [(0, .ref 13), (1, .int a1), (2, .int a2)], [.int (nI 5), .int a2], (X652, w)) rfl ?_
      refine ab_e_bn (c := a2 = nI 5) (54, [(0, .ref 13), (1, .int a1), (2, .int a2)], [], (X652, w)) (46, [(0, .ref 13), (1, .int a1), (2, .int a2)], [], (X652, w)) rfl (fun _ => ?_) (fun _ => ?_)
      · refine ab_e_go 3 (57, [(0, .ref 13), (1, .int a1), (2, .int a2)], [.int a2, .int a1, .ref 13], (X652, w)) rfl ?_
        refine ab_e_c1 (k2 := 40) (as := [.ref 13, .int a1, .int a2]) (rest := []) rfl rfl (T_M_of S w X652 a1 a2) (fun v653 => ?_)
        exact ab_e_rt rfl rfl
      · refine ab_e_go 2 (48, [(0, .ref 13), (1, .int a1), (2, .int a2)], [.int a1, .ref 13], (X652, w)) rfl ?_
        refine ab_e_c1 (k2 := 89) (as := [.ref 13, .int a1]) (rest := []) rfl rfl (T_M_bidsOf S w X652 a1) (fun v654 => ?_)
        refine ab_e_go 1 (60, [(0, .ref 13), (1, .int a1), (2, .int a2)], [.int v654], (X652, w)) rfl ?_
        exact ab_e_rt rfl rfl
    · refine ab_e_go 2 (60, [(0, .ref 13), (1, .int a1), (2, .int a2)], [.int (nI 0)], (X652, w)) rfl ?_
      exact ab_e_rt rfl rfl
def L_M_isDay_2 (X : ab_XX) : Nat → Int32 → Int32 → Int32 → Option Int32
  | 0, _, _, _ => none
  | n + 1, a1, a2, a3 =>
    (F_M_shifts X).bind fun v658 =>
    if v658 ≤ a3 then
      some (nI 0)
    else
      if ((a1 >>> (a3 &&& 31)) &&& (nI 1)) = nI 1 then
        (F_M_ofShift X a3 (nI 0)).bind fun v659 =>
        if v659 = a2 then
          some (nI 1)
        else
          L_M_isDay_2 X n a1 a2 (a3 + (nI 1))
      else
        L_M_isDay_2 X n a1 a2 (a3 + (nI 1))
set_option maxRecDepth 4000 in
theorem T_L_M_isDay_2 (S : Nat × (Nat → Int32)) (w : ab_WW) (X : ab_XX) : ∀ (n : Nat) (a1 : Int32) (a2 : Int32) (a3 : Int32), ab_Eg (ab_m1 ab_fI (X, w)) S 96 (2, [(0, .ref 13), (1, .int a1), (2, .int a2), (3, .int a3)], [], (X, w)) (L_M_isDay_2 X n a1 a2 a3) := by
  intro n
  induction n with
  | zero => intro a1 a2 a3; exact ab_e_none
  | succ n ih =>
    intro a1 a2 a3
    unfold L_M_isDay_2
    refine ab_e_go 2 (4, [(0, .ref 13), (1, .int a1), (2, .int a2), (3, .int a3)], [.ref 13, .int a3], (X, w)) rfl ?_
    refine ab_e_c1 (k2 := 43) (as := [.ref 13]) (rest := [.int a3]) rfl rfl (T_M_shifts S w X) (fun v658 => ?_)
    refine ab_e_br (c := v658 ≤ a3) (37, [(0, .ref 13), (1, .int a1), (2, .int a2), (3, .int a3)], [], (X, w)) (10, [(0, .ref 13), (1, .int a1), (2, .int a2), (3, .int a3)], [], (X, w)) rfl (fun _ => ?_) (fun _ => ?_)
    · refine ab_e_go 1 (38, [(0, .ref 13), (1, .int a1), (2, .int a2), (3, .int a3)], [.int (nI 0)], (X, w)) rfl ?_
      exact ab_e_rt rfl rfl
    · refine ab_e_go 6 (16, [(0, .ref 13), (1, .int a1), (2, .int a2), (3, .int a3)], [.int (nI 1), .int ((a1 >>> (a3 &&& 31)) &&& (nI 1))], (X, w)) rfl ?_
      refine ab_e_bn (c := ((a1 >>> (a3 &&& 31)) &&& (nI 1)) = nI 1) (31, [(0, .ref 13), (1, .int a1), (2, .int a2), (3, .int a3)], [], (X, w)) (19, [(0, .ref 13), (1, .int a1), (2, .int a2), (3, .int a3)], [], (X, w)) rfl (fun _ => ?_) (fun _ => ?_)
      · refine ab_e_go 2 (2, [(3, .int (a3 + (nI 1))), (0, .ref 13), (1, .int a1), (2, .int a2)], [], (X, w)) rfl ?_
        refine ab_e_wk [(0, .ref 13), (1, .int a1), (2, .int a2), (3, .int (a3 + (nI 1)))] ⟨rfl, rfl, rfl, rfl, trivial⟩ ?_
        exact ih a1 a2 (a3 + (nI 1))
      · refine ab_e_go 3 (22, [(0, .ref 13), (1, .int a1), (2, .int a2), (3, .int a3)], [.int (nI 0), .int a3, .ref 13], (X, w)) rfl ?_
        refine ab_e_c1 (k2 := 41) (as := [.ref 13, .int a3, .int (nI 0)]) (rest := []) rfl rfl (T_M_ofShift S w X a3 (nI 0)) (fun v659 => ?_)
        refine ab_e_go 1 (26, [(0, .ref 13), (1, .int a1), (2, .int a2), (3, .int a3)], [.int a2, .int v659], (X, w)) rfl ?_
        refine ab_e_bn (c := v659 = a2) (31, [(0, .ref 13), (1, .int a1), (2, .int a2), (3, .int a3)], [], (X, w)) (29, [(0, .ref 13), (1, .int a1), (2, .int a2), (3, .int a3)], [], (X, w)) rfl (fun _ => ?_) (fun _ => ?_)
        · refine ab_e_go 2 (2, [(3, .int (a3 + (nI 1))), (0, .ref 13), (1, .int a1), (2, .int a2)], [], (X, w)) rfl ?_
          refine ab_e_wk [(0, .ref 13), (1, .int a1), (2, .int a2), (3, .int (a3 + (nI 1)))] ⟨rfl, rfl, rfl, rfl, trivial⟩ ?_
          exact ih a1 a2 (a3 + (nI 1))
        · refine ab_e_go 1 (30, [(0, .ref 13), (1, .int a1), (2, .int a2), (3, .int a3)], [.int (nI 1)], (X, w)) rfl ?_
          exact ab_e_rt rfl rfl
def F_M_isDay (X : ab_XX) (a1 : Int32) (a2 : Int32) : Option Int32 :=
  L_M_isDay_2 X ab_fu a1 a2 (nI 0)
set_option maxRecDepth 4000 in
theorem T_M_isDay (S : Nat × (Nat → Int32)) (w : ab_WW) (X : ab_XX) (a1 : Int32) (a2 : Int32) : ab_Eg (ab_m1 ab_fI (X, w)) S 96 (0, lv_args 0 [.ref 13, .int a1, .int a2], [], (X, w)) (F_M_isDay X a1 a2) := by
  show ab_Eg (ab_m1 ab_fI (X, w)) S 96 (0, [(0, .ref 13), (1, .int a1), (2, .int a2)], [], (X, w)) _
  unfold F_M_isDay
  refine ab_e_go 2 (2, [(3, .int (nI 0)), (0, .ref 13), (1, .int a1), (2, .int a2)], [], (X, w)) rfl ?_
  refine ab_e_wk [(0, .ref 13), (1, .int a1), (2, .int a2), (3, .int (nI 0))] ⟨rfl, rfl, rfl, rfl, trivial⟩ ?_
  exact T_L_M_isDay_2 S w X ab_fu a1 a2 (nI 0)
def L_M_rowAbout_22 (X : ab_XX) : Nat → Int32 → Int32 → Int32 → Option Int32
  | 0, _, _, _ => none
  | n + 1, a1, a3, a4 =>
    (F_M_isDay X a1 (a4 + (nI 1))).bind fun v662 =>
    if v662 = nI 0 then
      some ((a4 - a3) + (nI 1))
    else
      L_M_rowAbout_22 X n a1 a3 (a4 + (nI 1))
set_option maxRecDepth 4000 in
theorem T_L_M_rowAbout_22 (S : Nat × (Nat → Int32)) (w : ab_WW) (X : ab_XX) : ∀ (n : Nat) (a1 : Int32) (a3 : Int32) (a4 : Int32), ab_Eg (ab_m1 ab_fI (X, w)) S 151 (22, [(0, .ref 13), (1, .int a1), (3, .int a3), (4, .int a4)], [], (X, w)) (L_M_rowAbout_22 X n a1 a3 a4) := by
  intro n
  induction n with
  | zero => intro a1 a3 a4; exact ab_e_none
  | succ n ih =>
    intro a1 a3 a4
    unfold L_M_rowAbout_22
    refine ab_e_go 5 (28, [(0, .ref 13), (1, .int a1), (3, .int a3), (4, .int a4)], [.int (a4 + (nI 1)), .int a1, .ref 13], (X, w)) rfl ?_
    refine ab_e_c1 (k2 := 96) (as := [.ref 13, .int a1, .int (a4 + (nI 1))]) (rest := []) rfl rfl (T_M_isDay S w X a1 (a4 + (nI 1))) (fun v662 => ?_)
    refine ab_e_br (c := v662 = nI 0) (40, [(0, .ref 13), (1, .int a1), (3, .int a3), (4, .int a4)], [], (X, w)) (34, [(0, .ref 13), (1, .int a1), (3, .int a3), (4, .int a4)], [], (X, w)) rfl (fun _ => ?_) (fun _ => ?_)
    · refine ab_e_go 5 (46, [(0, .ref 13), (1, .int a1), (3, .int a3), (4, .int a4)], [.int ((a4 - a3) + (nI 1))], (X, w)) rfl ?_
      exact ab_e_rt rfl rfl
    · refine ab_e_go 2 (22, [(4, .int (a4 + (nI 1))), (0, .ref 13), (1, .int a1), (3, .int a3)], [], (X, w)) rfl ?_
      refine ab_e_wk [(0, .ref 13), (1, .int a1), (3, .int a3), (4, .int (a4 + (nI 1)))] ⟨rfl, rfl, rfl, rfl, trivial⟩ ?_
      exact ih a1 a3 (a4 + (nI 1))
def L_M_rowAbout_5 (X : ab_XX) : Nat → Int32 → Int32 → Int32 → Option Int32
  | 0, _, _, _ => none
  | n + 1, a1, a3, a4 =>
    (F_M_isDay X a1 (a3 - (nI 1))).bind fun v661 =>
    if v661 = nI 0 then
      L_M_rowAbout_22 X ab_fu a1 a3 a4
    else
      L_M_rowAbout_5 X n a1 (a3 + (-1 : Int32)) a4
set_option maxRecDepth 4000 in
theorem T_L_M_rowAbout_5 (S : Nat × (Nat → Int32)) (w : ab_WW) (X : ab_XX) : ∀ (n : Nat) (a1 : Int32) (a3 : Int32) (a4 : Int32), ab_Eg (ab_m1 ab_fI (X, w)) S 151 (5, [(0, .ref 13), (1, .int a1), (3, .int a3), (4, .int a4)], [], (X, w)) (L_M_rowAbout_5 X n a1 a3 a4) := by
  intro n
  induction n with
  | zero => intro a1 a3 a4; exact ab_e_none
  | succ n ih =>
    intro a1 a3 a4
    unfold L_M_rowAbout_5
    refine ab_e_go 5 (10, [(0, .ref 13), (1, .int a1), (3, .int a3), (4, .int a4)], [.int (a3 - (nI 1)), .int a1, .ref 13], (X, w)) rfl ?_
    refine ab_e_c1 (k2 := 96) (as := [.ref 13, .int a1, .int (a3 - (nI 1))]) (rest := []) rfl rfl (T_M_isDay S w X a1 (a3 - (nI 1))) (fun v661 => ?_)
    refine ab_e_br (c := v661 = nI 0) (22, [(0, .ref 13), (1, .int a1), (3, .int a3), (4, .int a4)], [], (X, w)) (16, [(0, .ref 13), (1, .int a1), (3, .int a3), (4, .int a4)], [], (X, w)) rfl (fun _ => ?_) (fun _ => ?_)
    · refine ab_e_wk [(0, .ref 13), (1, .int a1), (3, .int a3), (4, .int a4)] ⟨rfl, rfl, rfl, rfl, trivial⟩ ?_
      exact T_L_M_rowAbout_22 S w X ab_fu a1 a3 a4
    · refine ab_e_go 2 (5, [(3, .int (a3 + (-1 : Int32))), (0, .ref 13), (1, .int a1), (4, .int a4)], [], (X, w)) rfl ?_
      refine ab_e_wk [(0, .ref 13), (1, .int a1), (3, .int (a3 + (-1 : Int32))), (4, .int a4)] ⟨rfl, rfl, rfl, rfl, trivial⟩ ?_
      exact ih a1 (a3 + (-1 : Int32)) a4
def F_M_rowAbout (X : ab_XX) (a1 : Int32) (a2 : Int32) : Option Int32 :=
  L_M_rowAbout_5 X ab_fu a1 a2 a2
set_option maxRecDepth 4000 in
theorem T_M_rowAbout (S : Nat × (Nat → Int32)) (w : ab_WW) (X : ab_XX) (a1 : Int32) (a2 : Int32) : ab_Eg (ab_m1 ab_fI (X, w)) S 151 (0, lv_args 0 [.ref 13, .int a1, .int a2], [], (X, w)) (F_M_rowAbout X a1 a2) := by
  show ab_Eg (ab_m1 ab_fI (X, w)) S 151 (0, [(0, .ref 13), (1, .int a1), (2, .int a2)], [], (X, w)) _
  unfold F_M_rowAbout
  refine ab_e_go 4 (5, [(4, .int a2), (3, .int a2), (0, .ref 13), (1, .int a1), (2, .int a2)], [], (X, w)) rfl ?_
  refine ab_e_wk [(0, .ref 13), (1, .int a1), (3, .int a2), (4, .int a2)] ⟨rfl, rfl, rfl, rfl, trivial⟩ ?_
  exact T_L_M_rowAbout_5 S w X ab_fu a1 a2 a2
def L_M_daysInRow_37 : Nat → ab_XX → Int32 → Int32 → Int32 → Option (Int32 × ab_XX)
  | 0, _, _, _, _ => none
  | n + 1, X, a2, a3, a4 =>
    if nI 28 ≤ a4 then
      some (a3, X)
    else
      (F_M_isDay X a2 a4).bind fun v660 =>
      if v660 = nI 0 then
        L_M_daysInRow_37 n X a2 a3 (a4 + (nI 1))
      else
        (F_M_rowAbout X a2 a4).bind fun v663 =>
        if v663 ≤ a3 then
          L_M_daysInRow_37 n X a2 a3 (a4 + (nI 1))
        else
          L_M_daysInRow_37 n X a2 v663 (a4 + (nI 1))
set_option maxRecDepth 4000 in
theorem T_L_M_daysInRow_37 (S : Nat × (Nat → Int32)) (w : ab_WW) : ∀ (n : Nat) (X : ab_XX) (a2 : Int32) (a3 : Int32) (a4 : Int32), ab_Eg (ab_m3 ab_fI w) S 180 (37, [(0, .ref 13), (2, .int a2), (3, .int a3), (4, .int a4)], [], (X, w)) (L_M_daysInRow_37 n X a2 a3 a4) := by
  intro n
  induction n with
  | zero => intro X a2 a3 a4; exact ab_e_none
  | succ n ih =>
    intro X a2 a3 a4
    unfold L_M_daysInRow_37
    refine ab_e_go 2 (41, [(0, .ref 13), (2, .int a2), (3, .int a3), (4, .int a4)], [.int (nI 28), .int a4], (X, w)) rfl ?_
    refine ab_e_br (c := nI 28 ≤ a4) (85, [(0, .ref 13), (2, .int a2), (3, .int a3), (4, .int a4)], [], (X, w)) (44, [(0, .ref 13), (2, .int a2), (3, .int a3), (4, .int a4)], [], (X, w)) rfl (fun _ => ?_) (fun _ => ?_)
    · refine ab_e_go 1 (86, [(0, .ref 13), (2, .int a2), (3, .int a3), (4, .int a4)], [.int a3], (X, w)) rfl ?_
      exact ab_e_rt rfl rfl
    · refine ab_e_go 3 (48, [(0, .ref 13), (2, .int a2), (3, .int a3), (4, .int a4)], [.int a4, .int a2, .ref 13], (X, w)) rfl ?_
      refine ab_e_c1 (k2 := 96) (as := [.ref 13, .int a2, .int a4]) (rest := []) rfl rfl (T_M_isDay S w X a2 a4) (fun v660 => ?_)
      refine ab_e_bn (c := v660 = nI 0) (57, [(0, .ref 13), (2, .int a2), (3, .int a3), (4, .int a4)], [], (X, w)) (54, [(0, .ref 13), (2, .int a2), (3, .int a3), (4, .int a4)], [], (X, w)) rfl (fun _ => ?_) (fun _ => ?_)
      · refine ab_e_go 3 (61, [(0, .ref 13), (2, .int a2), (3, .int a3), (4, .int a4)], [.int a4, .int a2, .ref 13], (X, w)) rfl ?_
        refine ab_e_c1 (k2 := 151) (as := [.ref 13, .int a2, .int a4]) (rest := []) rfl rfl (T_M_rowAbout S w X a2 a4) (fun v663 => ?_)
        refine ab_e_go 3 (69, [(5, .int v663), (0, .ref 13), (2, .int a2), (3, .int a3), (4, .int a4)], [.int a3, .int v663], (X, w)) rfl ?_
        refine ab_e_br (c := v663 ≤ a3) (77, [(5, .int v663), (0, .ref 13), (2, .int a2), (3, .int a3), (4, .int a4)], [], (X, w)) (72, [(5, .int v663), (0, .ref 13), (2, .int a2), (3, .int a3), (4, .int a4)], [], (X, w)) rfl (fun _ => ?_) (fun _ => ?_)
        · refine ab_e_go 4 (37, [(4, .int (a4 + (nI 1))), (3, .int a3), (5, .int v663), (0, .ref 13), (2, .int a2)], [], (X, w)) rfl ?_
          refine ab_e_wk [(0, .ref 13), (2, .int a2), (3, .int a3), (4, .int (a4 + (nI 1)))] ⟨rfl, rfl, rfl, rfl, trivial⟩ ?_
          exact ih X a2 a3 (a4 + (nI 1))
        · refine ab_e_go 5 (37, [(4, .int (a4 + (nI 1))), (3, .int v663), (5, .int v663), (0, .ref 13), (2, .int a2)], [], (X, w)) rfl ?_
          refine ab_e_wk [(0, .ref 13), (2, .int a2), (3, .int v663), (4, .int (a4 + (nI 1)))] ⟨rfl, rfl, rfl, rfl, trivial⟩ ?_
          exact ih X a2 v663 (a4 + (nI 1))
      · refine ab_e_go 3 (37, [(4, .int (a4 + (nI 1))), (0, .ref 13), (2, .int a2), (3, .int a3)], [], (X, w)) rfl ?_
        refine ab_e_wk [(0, .ref 13), (2, .int a2), (3, .int a3), (4, .int (a4 + (nI 1)))] ⟨rfl, rfl, rfl, rfl, trivial⟩ ?_
        exact ih X a2 a3 (a4 + (nI 1))
def F_M_daysInRow (X : ab_XX) (a1 : Int32) : Option (Int32 × ab_XX) :=
  (F_M_isWorker X a1).bind fun v655 =>
  if v655 = nI 0 then
    (some (ab_up X 13 0 (nI 1))).bind fun X656 =>
    if X656 13 0 = nI 0 then
      (F_M_heldBy X656 a1).bind fun v657 =>
      L_M_daysInRow_37 ab_fu X656 v657 (nI 0) (nI 0)
    else
      some (nI 0, X656)
  else
    (some (ab_up X 13 0 (nI 0))).bind fun X664 =>
    if X664 13 0 = nI 0 then
      (F_M_heldBy X664 a1).bind fun v665 =>
      L_M_daysInRow_37 ab_fu X664 v665 (nI 0) (nI 0)
    else
      some (nI 0, X664)
set_option maxRecDepth 4000 in
theorem T_M_daysInRow (S : Nat × (Nat → Int32)) (w : ab_WW) (X : ab_XX) (a1 : Int32) : ab_Eg (ab_m3 ab_fI w) S 180 (0, lv_args 0 [.ref 13, .int a1], [], (X, w)) (F_M_daysInRow X a1) := by
  show ab_Eg (ab_m3 ab_fI w) S 180 (0, [(0, .ref 13), (1, .int a1)], [], (X, w)) _
  unfold F_M_daysInRow
  refine ab_e_go 3 (3, [(0, .ref 13), (1, .int a1)], [.int a1, .ref 13, .ref 13], (X, w)) rfl ?_
  refine ab_e_c1 (k2 := 98) (as := [.ref 13, .int a1]) (rest := [.ref 13]) rfl rfl (T_M_isWorker S w X a1) (fun v655 => ?_)
  refine ab_e_br (c := v655 = nI 0) (13, [(0, .ref 13), (1, .int a1)], [.ref 13], (X, w)) (9, [(0, .ref 13), (1, .int a1)], [.ref 13], (X, w)) rfl (fun _ => ?_) (fun _ => ?_)
  · refine ab_e_go 2 (17, [(0, .ref 13), (1, .int a1)], [], ((ab_up X 13 0 (nI 1)), w)) rfl ?_
    refine ab_e_letX (fun X656 _ => ?_)
    refine ab_e_go 2 (21, [(0, .ref 13), (1, .int a1)], [.int (X656 13 0)], (X656, w)) rfl ?_
    refine ab_e_br (c := X656 13 0 = nI 0) (26, [(0, .ref 13), (1, .int a1)], [], (X656, w)) (24, [(0, .ref 13), (1, .int a1)], [], (X656, w)) rfl (fun _ => ?_) (fun _ => ?_)
    · refine ab_e_go 2 (28, [(0, .ref 13), (1, .int a1)], [.int a1, .ref 13], (X656, w)) rfl ?_
      refine ab_e_c1 (k2 := 94) (as := [.ref 13, .int a1]) (rest := []) rfl rfl (T_M_heldBy S w X656 a1) (fun v657 => ?_)
      refine ab_e_go 5 (37, [(4, .int (nI 0)), (3, .int (nI 0)), (2, .int v657), (0, .ref 13), (1, .int a1)], [], (X656, w)) rfl ?_
      refine ab_e_wk [(0, .ref 13), (2, .int v657), (3, .int (nI 0)), (4, .int (nI 0))] ⟨rfl, rfl, rfl, rfl, trivial⟩ ?_
      exact T_L_M_daysInRow_37 S w ab_fu X656 v657 (nI 0) (nI 0)
    · refine ab_e_go 1 (25, [(0, .ref 13), (1, .int a1)], [.int (nI 0)], (X656, w)) rfl ?_
      exact ab_e_rt rfl rfl
  · refine ab_e_go 3 (17, [(0, .ref 13), (1, .int a1)], [], ((ab_up X 13 0 (nI 0)), w)) rfl ?_
    refine ab_e_letX (fun X664 _ => ?_)
    refine ab_e_go 2 (21, [(0, .ref 13), (1, .int a1)], [.int (X664 13 0)], (X664, w)) rfl ?_
    refine ab_e_br (c := X664 13 0 = nI 0) (26, [(0, .ref 13), (1, .int a1)], [], (X664, w)) (24, [(0, .ref 13), (1, .int a1)], [], (X664, w)) rfl (fun _ => ?_) (fun _ => ?_)
    · refine ab_e_go 2 (28, [(0, .ref 13), (1, .int a1)], [.int a1, .ref 13], (X664, w)) rfl ?_
      refine ab_e_c1 (k2 := 94) (as := [.ref 13, .int a1]) (rest := []) rfl rfl (T_M_heldBy S w X664 a1) (fun v665 => ?_)
      refine ab_e_go 5 (37, [(4, .int (nI 0)), (3, .int (nI 0)), (2, .int v665), (0, .ref 13), (1, .int a1)], [], (X664, w)) rfl ?_
      refine ab_e_wk [(0, .ref 13), (2, .int v665), (3, .int (nI 0)), (4, .int (nI 0))] ⟨rfl, rfl, rfl, rfl, trivial⟩ ?_
      exact T_L_M_daysInRow_37 S w ab_fu X664 v665 (nI 0) (nI 0)
    · refine ab_e_go 1 (25, [(0, .ref 13), (1, .int a1)], [.int (nI 0)], (X664, w)) rfl ?_
      exact ab_e_rt rfl rfl
def F_M_week (X : ab_XX) (a1 : Int32) : Option Int32 :=
  (F_M_ofShift X a1 (nI 0)).bind fun v672 =>
  some (v672 / (nI 7))
set_option maxRecDepth 4000 in
theorem T_M_week (S : Nat × (Nat → Int32)) (w : ab_WW) (X : ab_XX) (a1 : Int32) : ab_Eg (ab_m1 ab_fI (X, w)) S 110 (0, lv_args 0 [.ref 13, .int a1], [], (X, w)) (F_M_week X a1) := by
  show ab_Eg (ab_m1 ab_fI (X, w)) S 110 (0, [(0, .ref 13), (1, .int a1)], [], (X, w)) _
  unfold F_M_week
  refine ab_e_go 3 (3, [(0, .ref 13), (1, .int a1)], [.int (nI 0), .int a1, .ref 13], (X, w)) rfl ?_
  refine ab_e_c1 (k2 := 41) (as := [.ref 13, .int a1, .int (nI 0)]) (rest := []) rfl rfl (T_M_ofShift S w X a1 (nI 0)) (fun v672 => ?_)
  refine ab_e_go 2 (9, [(0, .ref 13), (1, .int a1)], [.int (v672 / (nI 7))], (X, w)) rfl ?_
  exact ab_e_rt rfl rfl
def L_M_hoursIn_5 (X : ab_XX) : Nat → Int32 → Int32 → Int32 → Int32 → Option Int32
  | 0, _, _, _, _ => none
  | n + 1, a1, a2, a3, a4 =>
    (F_M_shifts X).bind fun v670 =>
    if v670 ≤ a4 then
      some a3
    else
      if ((a1 >>> (a4 &&& 31)) &&& (nI 1)) = nI 1 then
        if a2 < nI 0 then
          (F_M_ofShift X a4 (nI 2)).bind fun v671 =>
          L_M_hoursIn_5 X n a1 a2 (a3 + v671) (a4 + (nI 1))
        else
          (F_M_week X a4).bind fun v673 =>
          if v673 = a2 then
            (F_M_ofShift X a4 (nI 2)).bind fun v674 =>
            L_M_hoursIn_5 X n a1 a2 (a3 + v674) (a4 + (nI 1))
          else
            L_M_hoursIn_5 X n a1 a2 (a3 + (nI 0)) (a4 + (nI 1))
      else
        L_M_hoursIn_5 X n a1 a2 (a3 + (nI 0)) (a4 + (nI 1))
set_option maxRecDepth 4000 in
theorem T_L_M_hoursIn_5 (S : Nat × (Nat → Int32)) (w : ab_WW) (X : ab_XX) : ∀ (n : Nat) (a1 : Int32) (a2 : Int32) (a3 : Int32) (a4 : Int32), ab_Eg (ab_m1 ab_fI (X, w)) S 145 (5, [(0, .ref 13), (1, .int a1), (2, .int a2), (3, .int a3), (4, .int a4)], [], (X, w)) (L_M_hoursIn_5 X n a1 a2 a3 a4) := by
  intro n
  induction n with
  | zero => intro a1 a2 a3 a4; exact ab_e_none
  | succ n ih =>
    intro a1 a2 a3 a4
    unfold L_M_hoursIn_5
    refine ab_e_go 2 (8, [(0, .ref 13), (1, .int a1), (2, .int a2), (3, .int a3), (4, .int a4)], [.ref 13, .int a4], (X, w)) rfl ?_
    refine ab_e_c1 (k2 := 43) (as := [.ref 13]) (rest := [.int a4]) rfl rfl (T_M_shifts S w X) (fun v670 => ?_)
    refine ab_e_br (c := v670 ≤ a4) (58, [(0, .ref 13), (1, .int a1), (2, .int a2), (3, .int a3), (4, .int a4)], [], (X, w)) (14, [(0, .ref 13), (1, .int a1), (2, .int a2), (3, .int a3), (4, .int a4)], [], (X, w)) rfl (fun _ => ?_) (fun _ => ?_)
    · refine ab_e_go 1 (59, [(0, .ref 13), (1, .int a1), (2, .int a2), (3, .int a3), (4, .int a4)], [.int a3], (X, w)) rfl ?_
      exact ab_e_rt rfl rfl
    · refine ab_e_go 7 (22, [(0, .ref 13), (1, .int a1), (2, .int a2), (3, .int a3), (4, .int a4)], [.int (nI 1), .int ((a1 >>> (a4 &&& 31)) &&& (nI 1)), .int a3], (X, w)) rfl ?_
      refine ab_e_bn (c := ((a1 >>> (a4 &&& 31)) &&& (nI 1)) = nI 1) (49, [(0, .ref 13), (1, .int a1), (2, .int a2), (3, .int a3), (4, .int a4)], [.int a3], (X, w)) (25, [(0, .ref 13), (1, .int a1), (2, .int a2), (3, .int a3), (4, .int a4)], [.int a3], (X, w)) rfl (fun _ => ?_) (fun _ => ?_)
      · refine ab_e_go 5 (5, [(4, .int (a4 + (nI 1))), (3, .int (a3 + (nI 0))), (0, .ref 13), (1, .int a1), (2, .int a2)], [], (X, w)) rfl ?_
        refine ab_e_wk [(0, .ref 13), (1, .int a1), (2, .int a2), (3, .int (a3 + (nI 0))), (4, .int (a4 + (nI 1)))] ⟨rfl, rfl, rfl, rfl, rfl, trivial⟩ ?_
        exact ih a1 a2 (a3 + (nI 0)) (a4 + (nI 1))
      · refine ab_e_go 1 (26, [(0, .ref 13), (1, .int a1), (2, .int a2), (3, .int a3), (4, .int a4)], [.int a2, .int a3], (X, w)) rfl ?_
        refine ab_e_br (c := a2 < nI 0) (39, [(0, .ref 13), (1, .int a1), (2, .int a2), (3, .int a3), (4, .int a4)], [.int a3], (X, w)) (29, [(0, .ref 13), (1, .int a1), (2, .int a2), (3, .int a3), (4, .int a4)], [.int a3], (X, w)) rfl (fun _ => ?_) (fun _ => ?_)
        · refine ab_e_go 3 (43, [(0, .ref 13), (1, .int a1), (2, .int a2), (3, .int a3), (4, .int a4)], [.int (nI 2), .int a4, .ref 13, .int a3], (X, w)) rfl ?_
          refine ab_e_c1 (k2 := 41) (as := [.ref 13, .int a4, .int (nI 2)]) (rest := [.int a3]) rfl rfl (T_M_ofShift S w X a4 (nI 2)) (fun v671 => ?_)
          refine ab_e_go 5 (5, [(4, .int (a4 + (nI 1))), (3, .int (a3 + v671)), (0, .ref 13), (1, .int a1), (2, .int a2)], [], (X, w)) rfl ?_
          refine ab_e_wk [(0, .ref 13), (1, .int a1), (2, .int a2), (3, .int (a3 + v671)), (4, .int (a4 + (nI 1)))] ⟨rfl, rfl, rfl, rfl, rfl, trivial⟩ ?_
          exact ih a1 a2 (a3 + v671) (a4 + (nI 1))
        · refine ab_e_go 2 (32, [(0, .ref 13), (1, .int a1), (2, .int a2), (3, .int a3), (4, .int a4)], [.int a4, .ref 13, .int a3], (X, w)) rfl ?_
          refine ab_e_c1 (k2 := 110) (as := [.ref 13, .int a4]) (rest := [.int a3]) rfl rfl (T_M_week S w X a4) (fun v673 => ?_)
          refine ab_e_go 1 (36, [(0, .ref 13), (1, .int a1), (2, .int a2), (3, .int a3), (4, .int a4)], [.int a2, .int v673, .int a3], (X, w)) rfl ?_
          refine ab_e_bn (c := v673 = a2) (49, [(0, .ref 13), (1, .int a1), (2, .int a2), (3, .int a3), (4, .int a4)], [.int a3], (X, w)) (39, [(0, .ref 13), (1, .int a1), (2, .int a2), (3, .int a3), (4, .int a4)], [.int a3], (X, w)) rfl (fun _ => ?_) (fun _ => ?_)
          · refine ab_e_go 5 (5, [(4, .int (a4 + (nI 1))), (3, .int (a3 + (nI 0))), (0, .ref 13), (1, .int a1), (2, .int a2)], [], (X, w)) rfl ?_
            refine ab_e_wk [(0, .ref 13), (1, .int a1), (2, .int a2), (3, .int (a3 + (nI 0))), (4, .int (a4 + (nI 1)))] ⟨rfl, rfl, rfl, rfl, rfl, trivial⟩ ?_
            exact ih a1 a2 (a3 + (nI 0)) (a4 + (nI 1))
          · refine ab_e_go 3 (43, [(0, .ref 13), (1, .int a1), (2, .int a2), (3, .int a3), (4, .int a4)], [.int (nI 2), .int a4, .ref 13, .int a3], (X, w)) rfl ?_
            refine ab_e_c1 (k2 := 41) (as := [.ref 13, .int a4, .int (nI 2)]) (rest := [.int a3]) rfl rfl (T_M_ofShift S w X a4 (nI 2)) (fun v674 => ?_)
            refine ab_e_go 5 (5, [(4, .int (a4 + (nI 1))), (3, .int (a3 + v674)), (0, .ref 13), (1, .int a1), (2, .int a2)], [], (X, w)) rfl ?_
            refine ab_e_wk [(0, .ref 13), (1, .int a1), (2, .int a2), (3, .int (a3 + v674)), (4, .int (a4 + (nI 1)))] ⟨rfl, rfl, rfl, rfl, rfl, trivial⟩ ?_
            exact ih a1 a2 (a3 + v674) (a4 + (nI 1))
