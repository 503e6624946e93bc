/-! ===== what the methods of the reference compute, part 7 (by program: wip/whole/tools/dec.py) ===== -/
def L_M_rounds_4 : Nat → ab_XX → Int32 → Int32 → Option (Int32 × ab_XX)
  | 0, _, _, _ => none
  | n + 1, X, a1, a2 =>
    (F_M_workers X).bind fun v1432 =>
    if v1432 ≤ a2 then
      some (a1, X)
    else
      (F_M_atRank X a2).bind fun v1433 =>
      ab_b3 (F_M_choice X v1433) (fun v1434 X1435 =>
        if nI 0 ≤ v1434 then
          ab_b3 (F_M_gives X1435 v1433 v1434) (fun _ X1436 =>
            L_M_rounds_4 n X1436 (a1 + (nI 1)) (a2 + (nI 1)))
        else
          L_M_rounds_4 n X1435 a1 (a2 + (nI 1)))
set_option maxRecDepth 4000 in
theorem T_L_M_rounds_4 (S : Nat × (Nat → Int32)) (w : ab_WW) : ∀ (n : Nat) (X : ab_XX) (a1 : Int32) (a2 : Int32), ab_Eg (ab_m3 ab_fI w) S 249 (4, [(0, .ref 13), (1, .int a1), (2, .int a2)], [], (X, w)) (L_M_rounds_4 n X a1 a2) := by
  intro n
  induction n with
  | zero => intro X a1 a2; exact ab_e_none
  | succ n ih =>
    intro X a1 a2
    unfold L_M_rounds_4
    refine ab_e_go 2 (6, [(0, .ref 13), (1, .int a1), (2, .int a2)], [.ref 13, .int a2], (X, w)) rfl ?_
    refine ab_e_c1 (k2 := 45) (as := [.ref 13]) (rest := [.int a2]) rfl rfl (T_M_workers S w X) (fun v1432 => ?_)
    refine ab_e_br (c := v1432 ≤ a2) (49, [(0, .ref 13), (1, .int a1), (2, .int a2)], [], (X, w)) (12, [(0, .ref 13), (1, .int a1), (2, .int a2)], [], (X, w)) rfl (fun _ => ?_) (fun _ => ?_)
    · refine ab_e_go 1 (50, [(0, .ref 13), (1, .int a1), (2, .int a2)], [.int a1], (X, w)) rfl ?_
      exact ab_e_rt rfl rfl
    · refine ab_e_go 2 (14, [(0, .ref 13), (1, .int a1), (2, .int a2)], [.int a2, .ref 13], (X, w)) rfl ?_
      refine ab_e_c1 (k2 := 139) (as := [.ref 13, .int a2]) (rest := []) rfl rfl (T_M_atRank S w X a2) (fun v1433 => ?_)
      refine ab_e_go 3 (20, [(3, .int v1433), (0, .ref 13), (1, .int a1), (2, .int a2)], [.int v1433, .ref 13], (X, w)) rfl ?_
      refine ab_e_c3 (k2 := 239) (as := [.ref 13, .int v1433]) (rest := []) rfl rfl (T_M_choice S w X v1433) (fun v1434 X1435 => ?_)
      refine ab_e_go 2 (27, [(4, .int v1434), (3, .int v1433), (0, .ref 13), (1, .int a1), (2, .int a2)], [.int v1434], (X1435, w)) rfl ?_
      refine ab_e_br (c := nI 0 ≤ v1434) (33, [(4, .int v1434), (3, .int v1433), (0, .ref 13), (1, .int a1), (2, .int a2)], [], (X1435, w)) (30, [(4, .int v1434), (3, .int v1433), (0, .ref 13), (1, .int a1), (2, .int a2)], [], (X1435, w)) rfl (fun _ => ?_) (fun _ => ?_)
      · refine ab_e_go 3 (37, [(4, .int v1434), (3, .int v1433), (0, .ref 13), (1, .int a1), (2, .int a2)], [.int v1434, .int v1433, .ref 13], (X1435, w)) rfl ?_
        refine ab_e_c3 (k2 := 92) (as := [.ref 13, .int v1433, .int v1434]) (rest := []) rfl rfl (T_M_gives S w X1435 v1433 v1434) (fun _ X1436 => ?_)
        refine ab_e_go 3 (4, [(2, .int (a2 + (nI 1))), (1, .int (a1 + (nI 1))), (4, .int v1434), (3, .int v1433), (0, .ref 13)], [], (X1436, w)) rfl ?_
        refine ab_e_wk [(0, .ref 13), (1, .int (a1 + (nI 1))), (2, .int (a2 + (nI 1)))] ⟨rfl, rfl, rfl, trivial⟩ ?_
        exact ih X1436 (a1 + (nI 1)) (a2 + (nI 1))
      · refine ab_e_go 3 (4, [(2, .int (a2 + (nI 1))), (4, .int v1434), (3, .int v1433), (0, .ref 13), (1, .int a1)], [], (X1435, w)) rfl ?_
        refine ab_e_wk [(0, .ref 13), (1, .int a1), (2, .int (a2 + (nI 1)))] ⟨rfl, rfl, rfl, trivial⟩ ?_
        exact ih X1435 a1 (a2 + (nI 1))
def F_M_rounds (X : ab_XX) : Option (Int32 × ab_XX) :=
  L_M_rounds_4 ab_fu X (nI 0) (nI 0)
set_option maxRecDepth 4000 in
theorem T_M_rounds (S : Nat × (Nat → Int32)) (w : ab_WW) (X : ab_XX) : ab_Eg (ab_m3 ab_fI w) S 249 (0, lv_args 0 [.ref 13], [], (X, w)) (F_M_rounds X) := by
  show ab_Eg (ab_m3 ab_fI w) S 249 (0, [(0, .ref 13)], [], (X, w)) _
  unfold F_M_rounds
  refine ab_e_go 4 (4, [(2, .int (nI 0)), (1, .int (nI 0)), (0, .ref 13)], [], (X, w)) rfl ?_
  refine ab_e_wk [(0, .ref 13), (1, .int (nI 0)), (2, .int (nI 0))] ⟨rfl, rfl, rfl, trivial⟩ ?_
  exact T_L_M_rounds_4 S w ab_fu X (nI 0) (nI 0)
def F_M_round (X : ab_XX) : Option (Int32 × ab_XX) :=
  (some (ab_up X 13 0 (nI 0))).bind fun X1430 =>
  ab_b3 (F_M_keeps X1430) (fun _ X1431 =>
    ab_b3 (F_M_rounds X1431) (fun v1437 X1438 =>
      some (v1437, X1438)))
set_option maxRecDepth 4000 in
theorem T_M_round (S : Nat × (Nat → Int32)) (w : ab_WW) (X : ab_XX) : ab_Eg (ab_m3 ab_fI w) S 250 (0, lv_args 0 [.ref 13], [], (X, w)) (F_M_round X) := by
  show ab_Eg (ab_m3 ab_fI w) S 250 (0, [(0, .ref 13)], [], (X, w)) _
  unfold F_M_round
  refine ab_e_go 3 (5, [(0, .ref 13)], [], ((ab_up X 13 0 (nI 0)), w)) rfl ?_
  refine ab_e_letX (fun X1430 _ => ?_)
  refine ab_e_go 1 (6, [(0, .ref 13)], [.ref 13], (X1430, w)) rfl ?_
  refine ab_e_c3 (k2 := 99) (as := [.ref 13]) (rest := []) rfl rfl (T_M_keeps S w X1430) (fun _ X1431 => ?_)
  refine ab_e_go 1 (10, [(0, .ref 13)], [.ref 13], (X1431, w)) rfl ?_
  refine ab_e_c3 (k2 := 249) (as := [.ref 13]) (rest := []) rfl rfl (T_M_rounds S w X1431) (fun v1437 X1438 => ?_)
  exact ab_e_rt rfl rfl
def L_M_runAll_16 : Nat → ab_XX → Int32 → Int32 → Option (Int32 × ab_XX)
  | 0, _, _, _ => none
  | n + 1, X, a1, a2 =>
    if a2 ≤ nI 0 then
      some (a1, X)
    else
      ab_b3 (F_M_rounds X) (fun v1443 X1444 =>
        L_M_runAll_16 n X1444 (a1 + a2) v1443)
set_option maxRecDepth 4000 in
theorem T_L_M_runAll_16 (S : Nat × (Nat → Int32)) (w : ab_WW) : ∀ (n : Nat) (X : ab_XX) (a1 : Int32) (a2 : Int32), ab_Eg (ab_m3 ab_fI w) S 251 (16, [(0, .ref 13), (1, .int a1), (2, .int a2)], [], (X, w)) (L_M_runAll_16 n X a1 a2) := by
  intro n
  induction n with
  | zero => intro X a1 a2; exact ab_e_none
  | succ n ih =>
    intro X a1 a2
    unfold L_M_runAll_16
    refine ab_e_go 1 (17, [(0, .ref 13), (1, .int a1), (2, .int a2)], [.int a2], (X, w)) rfl ?_
    refine ab_e_br (c := a2 ≤ nI 0) (32, [(0, .ref 13), (1, .int a1), (2, .int a2)], [], (X, w)) (20, [(0, .ref 13), (1, .int a1), (2, .int a2)], [], (X, w)) rfl (fun _ => ?_) (fun _ => ?_)
    · refine ab_e_go 1 (33, [(0, .ref 13), (1, .int a1), (2, .int a2)], [.int a1], (X, w)) rfl ?_
      exact ab_e_rt rfl rfl
    · refine ab_e_go 5 (25, [(1, .int (a1 + a2)), (0, .ref 13), (2, .int a2)], [.ref 13], (X, w)) rfl ?_
      refine ab_e_c3 (k2 := 249) (as := [.ref 13]) (rest := []) rfl rfl (T_M_rounds S w X) (fun v1443 X1444 => ?_)
      refine ab_e_go 2 (16, [(2, .int v1443), (1, .int (a1 + a2)), (0, .ref 13)], [], (X1444, w)) rfl ?_
      refine ab_e_wk [(0, .ref 13), (1, .int (a1 + a2)), (2, .int v1443)] ⟨rfl, rfl, rfl, trivial⟩ ?_
      exact ih X1444 (a1 + a2) v1443
def F_M_runAll (X : ab_XX) : Option (Int32 × ab_XX) :=
  (some (ab_up X 13 0 (nI 0))).bind fun X1439 =>
  ab_b3 (F_M_keeps X1439) (fun _ X1440 =>
    ab_b3 (F_M_rounds X1440) (fun v1441 X1442 =>
      L_M_runAll_16 ab_fu X1442 (nI 0) v1441))
set_option maxRecDepth 4000 in
theorem T_M_runAll (S : Nat × (Nat → Int32)) (w : ab_WW) (X : ab_XX) : ab_Eg (ab_m3 ab_fI w) S 251 (0, lv_args 0 [.ref 13], [], (X, w)) (F_M_runAll X) := by
  show ab_Eg (ab_m3 ab_fI w) S 251 (0, [(0, .ref 13)], [], (X, w)) _
  unfold F_M_runAll
  refine ab_e_go 3 (5, [(0, .ref 13)], [], ((ab_up X 13 0 (nI 0)), w)) rfl ?_
  refine ab_e_letX (fun X1439 _ => ?_)
  refine ab_e_go 1 (6, [(0, .ref 13)], [.ref 13], (X1439, w)) rfl ?_
  refine ab_e_c3 (k2 := 99) (as := [.ref 13]) (rest := []) rfl rfl (T_M_keeps S w X1439) (fun _ X1440 => ?_)
  refine ab_e_go 3 (12, [(1, .int (nI 0)), (0, .ref 13)], [.ref 13], (X1440, w)) rfl ?_
  refine ab_e_c3 (k2 := 249) (as := [.ref 13]) (rest := []) rfl rfl (T_M_rounds S w X1440) (fun v1441 X1442 => ?_)
  refine ab_e_go 1 (16, [(2, .int v1441), (1, .int (nI 0)), (0, .ref 13)], [], (X1442, w)) rfl ?_
  refine ab_e_wk [(0, .ref 13), (1, .int (nI 0)), (2, .int v1441)] ⟨rfl, rfl, rfl, trivial⟩ ?_
  exact T_L_M_runAll_16 S w ab_fu X1442 (nI 0) v1441
