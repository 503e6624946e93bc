/-! ===== what the methods of the class compute, part 3 (by program: wip/whole/tools/dec.py) ===== -/
def F_U_sequenceAround (a0 : Int32) (a1 : Int32) : Option Int32 :=
  L_U_sequenceAround_2 ab_fu a0 a1 a0
set_option maxRecDepth 4000 in
theorem T_U_sequenceAround (S : Nat × (Nat → Int32)) (w : ab_WW) (X : ab_XX) (a0 : Int32) (a1 : Int32) : ab_Eg (ab_m1 ab_fI (X, w)) S 82 (0, lv_args 0 [.int a0, .int a1], [], (X, w)) (F_U_sequenceAround a0 a1) := by
  show ab_Eg (ab_m1 ab_fI (X, w)) S 82 (0, [(0, .int a0), (1, .int a1)], [], (X, w)) _
  unfold F_U_sequenceAround
  refine ab_e_go 2 (2, [(2, .int a0), (0, .int a0), (1, .int a1)], [], (X, w)) rfl ?_
  refine ab_e_wk [(0, .int a0), (1, .int a1), (2, .int a0)] ⟨rfl, rfl, rfl, trivial⟩ ?_
  exact T_L_U_sequenceAround_2 S w X ab_fu a0 a1 a0
def F_U_code (a0 : Int32) (a1 : Int32) : Option Int32 :=
  some ((a0 * (nI 100)) + a1)
set_option maxRecDepth 4000 in
theorem T_U_code (S : Nat × (Nat → Int32)) (w : ab_WW) (X : ab_XX) (a0 : Int32) (a1 : Int32) : ab_Eg (ab_m1 ab_fI (X, w)) S 28 (0, lv_args 0 [.int a0, .int a1], [], (X, w)) (F_U_code a0 a1) := by
  show ab_Eg (ab_m1 ab_fI (X, w)) S 28 (0, [(0, .int a0), (1, .int a1)], [], (X, w)) _
  unfold F_U_code
  refine ab_e_go 5 (6, [(0, .int a0), (1, .int a1)], [.int ((a0 * (nI 100)) + a1)], (X, w)) rfl ?_
  exact ab_e_rt rfl rfl
def F_U_obstacleOfTime (X : ab_XX) (a1 : Int32) (a2 : Int32) (a3 : Int32) : Option Int32 :=
  (F_U_lowestWithin X a2 a3 (nI 0)).bind fun v180 =>
  if v180 = (-1 : Int32) then
    (F_K_workerPart X a1 (nI 1)).bind fun v181 =>
    (F_U_lowestWithin X a2 a3 v181).bind fun v182 =>
    if v182 = (-1 : Int32) then
      (F_K_bit a2).bind fun v183 =>
      (F_K_shiftPart X a2 (nI 8)).bind fun v184 =>
      (F_U_hoursOf X (a3 ||| v183) v184).bind fun v185 =>
      (F_K_workerPart X a1 (nI 2)).bind fun v186 =>
      if v185 ≤ v186 then
        (F_K_shiftPart X a2 (nI 0)).bind fun v187 =>
        (F_U_daysOf X (a3 ||| v183)).bind fun v188 =>
        (F_U_sequenceAround v187 v188).bind fun v191 =>
        (F_K_workerPart X a1 (nI 3)).bind fun v192 =>
        if v191 ≤ v192 then
          some (nI 0)
        else
          (F_U_code (nI 7) v191).bind fun v193 =>
          some v193
      else
        (F_U_code (nI 6) v184).bind fun v194 =>
        some v194
    else
      (F_U_code (nI 5) v182).bind fun v195 =>
      some v195
  else
    (F_U_code (nI 4) v180).bind fun v196 =>
    some v196
set_option maxRecDepth 4000 in
theorem T_U_obstacleOfTime (S : Nat × (Nat → Int32)) (w : ab_WW) (X : ab_XX) (a1 : Int32) (a2 : Int32) (a3 : Int32) : ab_Eg (ab_m1 ab_fI (X, w)) S 134 (0, lv_args 0 [.ref 1, .int a1, .int a2, .int a3], [], (X, w)) (F_U_obstacleOfTime X a1 a2 a3) := by
  show ab_Eg (ab_m1 ab_fI (X, w)) S 134 (0, [(0, .ref 1), (1, .int a1), (2, .int a2), (3, .int a3)], [], (X, w)) _
  unfold F_U_obstacleOfTime
  refine ab_e_go 4 (4, [(0, .ref 1), (1, .int a1), (2, .int a2), (3, .int a3)], [.int (nI 0), .int a3, .int a2, .ref 1], (X, w)) rfl ?_
  refine ab_e_c1 (k2 := 81) (as := [.ref 1, .int a2, .int a3, .int (nI 0)]) (rest := []) rfl rfl (T_U_lowestWithin S w X a2 a3 (nI 0)) (fun v180 => ?_)
  refine ab_e_go 3 (12, [(4, .int v180), (0, .ref 1), (1, .int a1), (2, .int a2), (3, .int a3)], [.int (-1 : Int32), .int v180], (X, w)) rfl ?_
  refine ab_e_br (c := v180 = (-1 : Int32)) (22, [(4, .int v180), (0, .ref 1), (1, .int a1), (2, .int a2), (3, .int a3)], [], (X, w)) (15, [(4, .int v180), (0, .ref 1), (1, .int a1), (2, .int a2), (3, .int a3)], [], (X, w)) rfl (fun _ => ?_) (fun _ => ?_)
  · refine ab_e_go 7 (31, [(4, .int v180), (0, .ref 1), (1, .int a1), (2, .int a2), (3, .int a3)], [.int (nI 1), .int a1, .ref 2, .int a3, .int a2, .ref 1], (X, w)) rfl ?_
    refine ab_e_c1 (k2 := 26) (as := [.ref 2, .int a1, .int (nI 1)]) (rest := [.int a3, .int a2, .ref 1]) rfl rfl (T_K_workerPart S w X a1 (nI 1)) (fun v181 => ?_)
    refine ab_e_c1 (k2 := 81) (as := [.ref 1, .int a2, .int a3, .int v181]) (rest := []) rfl rfl (T_U_lowestWithin S w X a2 a3 v181) (fun v182 => ?_)
    refine ab_e_go 3 (42, [(4, .int v182), (0, .ref 1), (1, .int a1), (2, .int a2), (3, .int a3)], [.int (-1 : Int32), .int v182], (X, w)) rfl ?_
    refine ab_e_br (c := v182 = (-1 : Int32)) (52, [(4, .int v182), (0, .ref 1), (1, .int a1), (2, .int a2), (3, .int a3)], [], (X, w)) (45, [(4, .int v182), (0, .ref 1), (1, .int a1), (2, .int a2), (3, .int a3)], [], (X, w)) rfl (fun _ => ?_) (fun _ => ?_)
    · refine ab_e_go 2 (54, [(4, .int v182), (0, .ref 1), (1, .int a1), (2, .int a2), (3, .int a3)], [.int a2, .int a3], (X, w)) rfl ?_
      refine ab_e_c1 (k2 := 13) (as := [.int a2]) (rest := [.int a3]) rfl rfl (T_K_bit S w X a2) (fun v183 => ?_)
      refine ab_e_go 6 (67, [(5, .int (a3 ||| v183)), (4, .int v182), (0, .ref 1), (1, .int a1), (2, .int a2), (3, .int a3)], [.int (nI 8), .int a2, .ref 2], (X, w)) rfl ?_
      refine ab_e_c1 (k2 := 24) (as := [.ref 2, .int a2, .int (nI 8)]) (rest := []) rfl rfl (T_K_shiftPart S w X a2 (nI 8)) (fun v184 => ?_)
      refine ab_e_go 4 (77, [(6, .int v184), (5, .int (a3 ||| v183)), (4, .int v182), (0, .ref 1), (1, .int a1), (2, .int a2), (3, .int a3)], [.int v184, .int (a3 ||| v183), .ref 1], (X, w)) rfl ?_
      refine ab_e_c1 (k2 := 78) (as := [.ref 1, .int (a3 ||| v183), .int v184]) (rest := []) rfl rfl (T_U_hoursOf S w X (a3 ||| v183) v184) (fun v185 => ?_)
      refine ab_e_go 4 (86, [(6, .int v184), (5, .int (a3 ||| v183)), (4, .int v182), (0, .ref 1), (1, .int a1), (2, .int a2), (3, .int a3)], [.int (nI 2), .int a1, .ref 2, .int v185], (X, w)) rfl ?_
      refine ab_e_c1 (k2 := 26) (as := [.ref 2, .int a1, .int (nI 2)]) (rest := [.int v185]) rfl rfl (T_K_workerPart S w X a1 (nI 2)) (fun v186 => ?_)
      refine ab_e_br (c := v185 ≤ v186) (100, [(6, .int v184), (5, .int (a3 ||| v183)), (4, .int v182), (0, .ref 1), (1, .int a1), (2, .int a2), (3, .int a3)], [], (X, w)) (92, [(6, .int v184), (5, .int (a3 ||| v183)), (4, .int v182), (0, .ref 1), (1, .int a1), (2, .int a2), (3, .int a3)], [], (X, w)) rfl (fun _ => ?_) (fun _ => ?_)
      · refine ab_e_go 4 (106, [(6, .int v184), (5, .int (a3 ||| v183)), (4, .int v182), (0, .ref 1), (1, .int a1), (2, .int a2), (3, .int a3)], [.int (nI 0), .int a2, .ref 2], (X, w)) rfl ?_
        refine ab_e_c1 (k2 := 24) (as := [.ref 2, .int a2, .int (nI 0)]) (rest := []) rfl rfl (T_K_shiftPart S w X a2 (nI 0)) (fun v187 => ?_)
        refine ab_e_go 2 (112, [(6, .int v184), (5, .int (a3 ||| v183)), (4, .int v182), (0, .ref 1), (1, .int a1), (2, .int a2), (3, .int a3)], [.int (a3 ||| v183), .ref 1, .int v187], (X, w)) rfl ?_
        refine ab_e_c1 (k2 := 76) (as := [.ref 1, .int (a3 ||| v183)]) (rest := [.int v187]) rfl rfl (T_U_daysOf S w X (a3 ||| v183)) (fun v188 => ?_)
        refine ab_e_c1 (k2 := 82) (as := [.int v187, .int v188]) (rest := []) rfl rfl (T_U_sequenceAround S w X v187 v188) (fun v191 => ?_)
        refine ab_e_go 6 (128, [(7, .int v191), (6, .int v184), (5, .int (a3 ||| v183)), (4, .int v182), (0, .ref 1), (1, .int a1), (2, .int a2), (3, .int a3)], [.int (nI 3), .int a1, .ref 2, .int v191], (X, w)) rfl ?_
        refine ab_e_c1 (k2 := 26) (as := [.ref 2, .int a1, .int (nI 3)]) (rest := [.int v191]) rfl rfl (T_K_workerPart S w X a1 (nI 3)) (fun v192 => ?_)
        refine ab_e_br (c := v191 ≤ v192) (142, [(7, .int v191), (6, .int v184), (5, .int (a3 ||| v183)), (4, .int v182), (0, .ref 1), (1, .int a1), (2, .int a2), (3, .int a3)], [], (X, w)) (134, [(7, .int v191), (6, .int v184), (5, .int (a3 ||| v183)), (4, .int v182), (0, .ref 1), (1, .int a1), (2, .int a2), (3, .int a3)], [], (X, w)) rfl (fun _ => ?_) (fun _ => ?_)
        · refine ab_e_go 1 (143, [(7, .int v191), (6, .int v184), (5, .int (a3 ||| v183)), (4, .int v182), (0, .ref 1), (1, .int a1), (2, .int a2), (3, .int a3)], [.int (nI 0)], (X, w)) rfl ?_
          exact ab_e_rt rfl rfl
        · refine ab_e_go 2 (138, [(7, .int v191), (6, .int v184), (5, .int (a3 ||| v183)), (4, .int v182), (0, .ref 1), (1, .int a1), (2, .int a2), (3, .int a3)], [.int v191, .int (nI 7)], (X, w)) rfl ?_
          refine ab_e_c1 (k2 := 28) (as := [.int (nI 7), .int v191]) (rest := []) rfl rfl (T_U_code S w X (nI 7) v191) (fun v193 => ?_)
          exact ab_e_rt rfl rfl
      · refine ab_e_go 2 (96, [(6, .int v184), (5, .int (a3 ||| v183)), (4, .int v182), (0, .ref 1), (1, .int a1), (2, .int a2), (3, .int a3)], [.int v184, .int (nI 6)], (X, w)) rfl ?_
        refine ab_e_c1 (k2 := 28) (as := [.int (nI 6), .int v184]) (rest := []) rfl rfl (T_U_code S w X (nI 6) v184) (fun v194 => ?_)
        exact ab_e_rt rfl rfl
    · refine ab_e_go 2 (48, [(4, .int v182), (0, .ref 1), (1, .int a1), (2, .int a2), (3, .int a3)], [.int v182, .int (nI 5)], (X, w)) rfl ?_
      refine ab_e_c1 (k2 := 28) (as := [.int (nI 5), .int v182]) (rest := []) rfl rfl (T_U_code S w X (nI 5) v182) (fun v195 => ?_)
      exact ab_e_rt rfl rfl
  · refine ab_e_go 2 (18, [(4, .int v180), (0, .ref 1), (1, .int a1), (2, .int a2), (3, .int a3)], [.int v180, .int (nI 4)], (X, w)) rfl ?_
    refine ab_e_c1 (k2 := 28) (as := [.int (nI 4), .int v180]) (rest := []) rfl rfl (T_U_code S w X (nI 4) v180) (fun v196 => ?_)
    exact ab_e_rt rfl rfl
def L_U_canHold_2 (X : ab_XX) : Nat → Int32 → Int32 → Int32 → Option Int32
  | 0, _, _, _ => none
  | n + 1, a1, a2, a3 =>
    (F_K_shiftTotal X).bind fun v167 =>
    if v167 ≤ a3 then
      some (nI 1)
    else
      (F_K_isIn a3 a2).bind fun v168 =>
      if v168 = nI 0 then
        L_U_canHold_2 X n a1 a2 (a3 + (nI 1))
      else
        (F_U_hasSkillFor X a1 a3).bind fun v172 =>
        if v172 = nI 0 then
          some (nI 0)
        else
          (F_K_bit a3).bind fun v173 =>
          (F_U_obstacleOfTime X a1 a3 (a2 &&& (v173 ^^^ (-1 : Int32)))).bind fun v197 =>
          if v197 = nI 0 then
            L_U_canHold_2 X n a1 a2 (a3 + (nI 1))
          else
            some (nI 0)
set_option maxRecDepth 4000 in
theorem T_L_U_canHold_2 (S : Nat × (Nat → Int32)) (w : ab_WW) (X : ab_XX) : ∀ (n : Nat) (a1 : Int32) (a2 : Int32) (a3 : Int32), ab_Eg (ab_m1 ab_fI (X, w)) S 168 (2, [(0, .ref 1), (1, .int a1), (2, .int a2), (3, .int a3)], [], (X, w)) (L_U_canHold_2 X n a1 a2 a3) := by
  intro n
  induction n with
  | zero => intro a1 a2 a3; exact ab_e_none
  | succ n ih =>
    intro a1 a2 a3
    unfold L_U_canHold_2
    refine ab_e_go 3 (7, [(0, .ref 1), (1, .int a1), (2, .int a2), (3, .int a3)], [.ref 2, .int a3], (X, w)) rfl ?_
    refine ab_e_c1 (k2 := 25) (as := [.ref 2]) (rest := [.int a3]) rfl rfl (T_K_shiftTotal S w X) (fun v167 => ?_)
    refine ab_e_br (c := v167 ≤ a3) (55, [(0, .ref 1), (1, .int a1), (2, .int a2), (3, .int a3)], [], (X, w)) (13, [(0, .ref 1), (1, .int a1), (2, .int a2), (3, .int a3)], [], (X, w)) rfl (fun _ => ?_) (fun _ => ?_)
    · refine ab_e_go 1 (56, [(0, .ref 1), (1, .int a1), (2, .int a2), (3, .int a3)], [.int (nI 1)], (X, w)) rfl ?_
      exact ab_e_rt rfl rfl
    · refine ab_e_go 2 (15, [(0, .ref 1), (1, .int a1), (2, .int a2), (3, .int a3)], [.int a2, .int a3], (X, w)) rfl ?_
      refine ab_e_c1 (k2 := 17) (as := [.int a3, .int a2]) (rest := []) rfl rfl (T_K_isIn S w X a3 a2) (fun v168 => ?_)
      refine ab_e_br (c := v168 = nI 0) (49, [(0, .ref 1), (1, .int a1), (2, .int a2), (3, .int a3)], [], (X, w)) (21, [(0, .ref 1), (1, .int a1), (2, .int a2), (3, .int a3)], [], (X, w)) rfl (fun _ => ?_) (fun _ => ?_)
      · refine ab_e_go 2 (2, [(3, .int (a3 + (nI 1))), (0, .ref 1), (1, .int a1), (2, .int a2)], [], (X, w)) rfl ?_
        refine ab_e_wk [(0, .ref 1), (1, .int a1), (2, .int a2), (3, .int (a3 + (nI 1)))] ⟨rfl, rfl, rfl, rfl, trivial⟩ ?_
        exact ih a1 a2 (a3 + (nI 1))
      · refine ab_e_go 3 (24, [(0, .ref 1), (1, .int a1), (2, .int a2), (3, .int a3)], [.int a3, .int a1, .ref 1], (X, w)) rfl ?_
        refine ab_e_c1 (k2 := 77) (as := [.ref 1, .int a1, .int a3]) (rest := []) rfl rfl (T_U_hasSkillFor S w X a1 a3) (fun v172 => ?_)
        refine ab_e_br (c := v172 = nI 0) (47, [(0, .ref 1), (1, .int a1), (2, .int a2), (3, .int a3)], [], (X, w)) (30, [(0, .ref 1), (1, .int a1), (2, .int a2), (3, .int a3)], [], (X, w)) rfl (fun _ => ?_) (fun _ => ?_)
        · refine ab_e_go 1 (48, [(0, .ref 1), (1, .int a1), (2, .int a2), (3, .int a3)], [.int (nI 0)], (X, w)) rfl ?_
          exact ab_e_rt rfl rfl
        · refine ab_e_go 5 (35, [(0, .ref 1), (1, .int a1), (2, .int a2), (3, .int a3)], [.int a3, .int a2, .int a3, .int a1, .ref 1], (X, w)) rfl ?_
          refine ab_e_c1 (k2 := 13) (as := [.int a3]) (rest := [.int a2, .int a3, .int a1, .ref 1]) rfl rfl (T_K_bit S w X a3) (fun v173 => ?_)
          refine ab_e_go 3 (41, [(0, .ref 1), (1, .int a1), (2, .int a2), (3, .int a3)], [.int (a2 &&& (v173 ^^^ (-1 : Int32))), .int a3, .int a1, .ref 1], (X, w)) rfl ?_
          refine ab_e_c1 (k2 := 134) (as := [.ref 1, .int a1, .int a3, .int (a2 &&& (v173 ^^^ (-1 : Int32)))]) (rest := []) rfl rfl (T_U_obstacleOfTime S w X a1 a3 (a2 &&& (v173 ^^^ (-1 : Int32)))) (fun v197 => ?_)
          refine ab_e_br (c := v197 = nI 0) (49, [(0, .ref 1), (1, .int a1), (2, .int a2), (3, .int a3)], [], (X, w)) (47, [(0, .ref 1), (1, .int a1), (2, .int a2), (3, .int a3)], [], (X, w)) rfl (fun _ => ?_) (fun _ => ?_)
          · refine ab_e_go 2 (2, [(3, .int (a3 + (nI 1))), (0, .ref 1), (1, .int a1), (2, .int a2)], [], (X, w)) rfl ?_
            refine ab_e_wk [(0, .ref 1), (1, .int a1), (2, .int a2), (3, .int (a3 + (nI 1)))] ⟨rfl, rfl, rfl, rfl, trivial⟩ ?_
            exact ih a1 a2 (a3 + (nI 1))
          · refine ab_e_go 1 (48, [(0, .ref 1), (1, .int a1), (2, .int a2), (3, .int a3)], [.int (nI 0)], (X, w)) rfl ?_
            exact ab_e_rt rfl rfl
def F_U_canHold (X : ab_XX) (a1 : Int32) (a2 : Int32) : Option Int32 :=
  L_U_canHold_2 X ab_fu a1 a2 (nI 0)
set_option maxRecDepth 4000 in
theorem T_U_canHold (S : Nat × (Nat → Int32)) (w : ab_WW) (X : ab_XX) (a1 : Int32) (a2 : Int32) : ab_Eg (ab_m1 ab_fI (X, w)) S 168 (0, lv_args 0 [.ref 1, .int a1, .int a2], [], (X, w)) (F_U_canHold X a1 a2) := by
  show ab_Eg (ab_m1 ab_fI (X, w)) S 168 (0, [(0, .ref 1), (1, .int a1), (2, .int a2)], [], (X, w)) _
  unfold F_U_canHold
  refine ab_e_go 2 (2, [(3, .int (nI 0)), (0, .ref 1), (1, .int a1), (2, .int a2)], [], (X, w)) rfl ?_
  refine ab_e_wk [(0, .ref 1), (1, .int a1), (2, .int a2), (3, .int (nI 0))] ⟨rfl, rfl, rfl, rfl, trivial⟩ ?_
  exact T_L_U_canHold_2 S w X ab_fu a1 a2 (nI 0)
def L_C_isLegal_2 (X : ab_XX) : Nat → Int32 → Option Int32
  | 0, _ => none
  | n + 1, a1 =>
    (F_K_workerTotal X).bind fun v160 =>
    if v160 ≤ a1 then
      L_C_isLegal_42 X ab_fu (nI 0)
    else
      (F_K_heldBy X a1).bind fun v166 =>
      (F_U_canHold X a1 v166).bind fun v198 =>
      if v198 = nI 0 then
        some (nI 0)
      else
        L_C_isLegal_2 X n (a1 + (nI 1))
set_option maxRecDepth 4000 in
theorem T_L_C_isLegal_2 (S : Nat × (Nat → Int32)) (w : ab_WW) (X : ab_XX) : ∀ (n : Nat) (a1 : Int32), ab_Eg (ab_m1 ab_fI (X, w)) S 190 (2, [(0, .ref 0), (1, .int a1)], [], (X, w)) (L_C_isLegal_2 X n a1) := by
  intro n
  induction n with
  | zero => intro a1; exact ab_e_none
  | succ n ih =>
    intro a1
    unfold L_C_isLegal_2
    refine ab_e_go 3 (7, [(0, .ref 0), (1, .int a1)], [.ref 2, .int a1], (X, w)) rfl ?_
    refine ab_e_c1 (k2 := 27) (as := [.ref 2]) (rest := [.int a1]) rfl rfl (T_K_workerTotal S w X) (fun v160 => ?_)
    refine ab_e_br (c := v160 ≤ a1) (40, [(0, .ref 0), (1, .int a1)], [], (X, w)) (13, [(0, .ref 0), (1, .int a1)], [], (X, w)) rfl (fun _ => ?_) (fun _ => ?_)
    · refine ab_e_go 2 (42, [(1, .int (nI 0)), (0, .ref 0)], [], (X, w)) rfl ?_
      refine ab_e_wk [(0, .ref 0), (1, .int (nI 0))] ⟨rfl, rfl, trivial⟩ ?_
      exact T_L_C_isLegal_42 S w X ab_fu (nI 0)
    · refine ab_e_go 6 (23, [(0, .ref 0), (1, .int a1)], [.int a1, .ref 2, .int a1, .ref 1], (X, w)) rfl ?_
      refine ab_e_c1 (k2 := 66) (as := [.ref 2, .int a1]) (rest := [.int a1, .ref 1]) rfl rfl (T_K_heldBy S w X a1) (fun v166 => ?_)
      refine ab_e_c1 (k2 := 168) (as := [.ref 1, .int a1, .int v166]) (rest := []) rfl rfl (T_U_canHold S w X a1 v166) (fun v198 => ?_)
      refine ab_e_bn (c := v198 = nI 0) (34, [(0, .ref 0), (1, .int a1)], [], (X, w)) (32, [(0, .ref 0), (1, .int a1)], [], (X, w)) rfl (fun _ => ?_) (fun _ => ?_)
      · refine ab_e_go 2 (2, [(1, .int (a1 + (nI 1))), (0, .ref 0)], [], (X, w)) rfl ?_
        refine ab_e_wk [(0, .ref 0), (1, .int (a1 + (nI 1)))] ⟨rfl, rfl, trivial⟩ ?_
        exact ih (a1 + (nI 1))
      · refine ab_e_go 1 (33, [(0, .ref 0), (1, .int a1)], [.int (nI 0)], (X, w)) rfl ?_
        exact ab_e_rt rfl rfl
def F_C_isLegal (X : ab_XX) : Option Int32 :=
  L_C_isLegal_2 X ab_fu (nI 0)
set_option maxRecDepth 4000 in
theorem T_C_isLegal (S : Nat × (Nat → Int32)) (w : ab_WW) (X : ab_XX) : ab_Eg (ab_m1 ab_fI (X, w)) S 190 (0, lv_args 0 [.ref 0], [], (X, w)) (F_C_isLegal X) := by
  show ab_Eg (ab_m1 ab_fI (X, w)) S 190 (0, [(0, .ref 0)], [], (X, w)) _
  unfold F_C_isLegal
  refine ab_e_go 2 (2, [(1, .int (nI 0)), (0, .ref 0)], [], (X, w)) rfl ?_
  refine ab_e_wk [(0, .ref 0), (1, .int (nI 0))] ⟨rfl, rfl, trivial⟩ ?_
  exact T_L_C_isLegal_2 S w X ab_fu (nI 0)
def F_K_comesBefore (X : ab_XX) (a1 : Int32) (a2 : Int32) : Option Int32 :=
  (F_K_workerPart X a1 (nI 0)).bind fun v200 =>
  (F_K_workerPart X a2 (nI 0)).bind fun v201 =>
  if v201 < v200 then
    some (nI 1)
  else
    if v200 = v201 then
      if a2 ≤ a1 then
        some (nI 0)
      else
        some (nI 1)
    else
      some (nI 0)
set_option maxRecDepth 4000 in
theorem T_K_comesBefore (S : Nat × (Nat → Int32)) (w : ab_WW) (X : ab_XX) (a1 : Int32) (a2 : Int32) : ab_Eg (ab_m1 ab_fI (X, w)) S 59 (0, lv_args 0 [.ref 2, .int a1, .int a2], [], (X, w)) (F_K_comesBefore X a1 a2) := by
  show ab_Eg (ab_m1 ab_fI (X, w)) S 59 (0, [(0, .ref 2), (1, .int a1), (2, .int a2)], [], (X, w)) _
  unfold F_K_comesBefore
  refine ab_e_go 3 (3, [(0, .ref 2), (1, .int a1), (2, .int a2)], [.int (nI 0), .int a1, .ref 2], (X, w)) rfl ?_
  refine ab_e_c1 (k2 := 26) (as := [.ref 2, .int a1, .int (nI 0)]) (rest := []) rfl rfl (T_K_workerPart S w X a1 (nI 0)) (fun v200 => ?_)
  refine ab_e_go 4 (10, [(3, .int v200), (0, .ref 2), (1, .int a1), (2, .int a2)], [.int (nI 0), .int a2, .ref 2], (X, w)) rfl ?_
  refine ab_e_c1 (k2 := 26) (as := [.ref 2, .int a2, .int (nI 0)]) (rest := []) rfl rfl (T_K_workerPart S w X a2 (nI 0)) (fun v201 => ?_)
  refine ab_e_go 3 (18, [(4, .int v201), (3, .int v200), (0, .ref 2), (1, .int a1), (2, .int a2)], [.int v201, .int v200], (X, w)) rfl ?_
  refine ab_e_br (c := v201 < v200) (32, [(4, .int v201), (3, .int v200), (0, .ref 2), (1, .int a1), (2, .int a2)], [], (X, w)) (21, [(4, .int v201), (3, .int v200), (0, .ref 2), (1, .int a1), (2, .int a2)], [], (X, w)) rfl (fun _ => ?_) (fun _ => ?_)
  · refine ab_e_go 2 (37, [(4, .int v201), (3, .int v200), (0, .ref 2), (1, .int a1), (2, .int a2)], [.int (nI 1)], (X, w)) rfl ?_
    exact ab_e_rt rfl rfl
  · refine ab_e_go 2 (24, [(4, .int v201), (3, .int v200), (0, .ref 2), (1, .int a1), (2, .int a2)], [.int v201, .int v200], (X, w)) rfl ?_
    refine ab_e_bn (c := v200 = v201) (36, [(4, .int v201), (3, .int v200), (0, .ref 2), (1, .int a1), (2, .int a2)], [], (X, w)) (27, [(4, .int v201), (3, .int v200), (0, .ref 2), (1, .int a1), (2, .int a2)], [], (X, w)) rfl (fun _ => ?_) (fun _ => ?_)
    · refine ab_e_go 1 (37, [(4, .int v201), (3, .int v200), (0, .ref 2), (1, .int a1), (2, .int a2)], [.int (nI 0)], (X, w)) rfl ?_
      exact ab_e_rt rfl rfl
    · refine ab_e_go 2 (29, [(4, .int v201), (3, .int v200), (0, .ref 2), (1, .int a1), (2, .int a2)], [.int a2, .int a1], (X, w)) rfl ?_
      refine ab_e_br (c := a2 ≤ a1) (36, [(4, .int v201), (3, .int v200), (0, .ref 2), (1, .int a1), (2, .int a2)], [], (X, w)) (32, [(4, .int v201), (3, .int v200), (0, .ref 2), (1, .int a1), (2, .int a2)], [], (X, w)) rfl (fun _ => ?_) (fun _ => ?_)
      · refine ab_e_go 1 (37, [(4, .int v201), (3, .int v200), (0, .ref 2), (1, .int a1), (2, .int a2)], [.int (nI 0)], (X, w)) rfl ?_
        exact ab_e_rt rfl rfl
      · refine ab_e_go 2 (37, [(4, .int v201), (3, .int v200), (0, .ref 2), (1, .int a1), (2, .int a2)], [.int (nI 1)], (X, w)) rfl ?_
        exact ab_e_rt rfl rfl
def L_K_rankOf_4 (X : ab_XX) : Nat → Int32 → Int32 → Int32 → Option Int32
  | 0, _, _, _ => none
  | n + 1, a1, a2, a3 =>
    if X 3 0 ≤ a3 then
      some a2
    else
      (F_K_comesBefore X a3 a1).bind fun v202 =>
      if v202 = nI 0 then
        L_K_rankOf_4 X n a1 a2 (a3 + (nI 1))
      else
        L_K_rankOf_4 X n a1 (a2 + (nI 1)) (a3 + (nI 1))
set_option maxRecDepth 4000 in
theorem T_L_K_rankOf_4 (S : Nat × (Nat → Int32)) (w : ab_WW) (X : ab_XX) : ∀ (n : Nat) (a1 : Int32) (a2 : Int32) (a3 : Int32), ab_Eg (ab_m1 ab_fI (X, w)) S 131 (4, [(0, .ref 2), (1, .int a1), (2, .int a2), (3, .int a3)], [], (X, w)) (L_K_rankOf_4 X n a1 a2 a3) := by
  intro n
  induction n with
  | zero => intro a1 a2 a3; exact ab_e_none
  | succ n ih =>
    intro a1 a2 a3
    unfold L_K_rankOf_4
    refine ab_e_go 5 (11, [(0, .ref 2), (1, .int a1), (2, .int a2), (3, .int a3)], [.int (X 3 0), .int a3], (X, w)) rfl ?_
    refine ab_e_br (c := X 3 0 ≤ a3) (32, [(0, .ref 2), (1, .int a1), (2, .int a2), (3, .int a3)], [], (X, w)) (14, [(0, .ref 2), (1, .int a1), (2, .int a2), (3, .int a3)], [], (X, w)) rfl (fun _ => ?_) (fun _ => ?_)
    · refine ab_e_go 1 (33, [(0, .ref 2), (1, .int a1), (2, .int a2), (3, .int a3)], [.int a2], (X, w)) rfl ?_
      exact ab_e_rt rfl rfl
    · refine ab_e_go 3 (17, [(0, .ref 2), (1, .int a1), (2, .int a2), (3, .int a3)], [.int a1, .int a3, .ref 2], (X, w)) rfl ?_
      refine ab_e_c1 (k2 := 59) (as := [.ref 2, .int a3, .int a1]) (rest := []) rfl rfl (T_K_comesBefore S w X a3 a1) (fun v202 => ?_)
      refine ab_e_br (c := v202 = nI 0) (26, [(0, .ref 2), (1, .int a1), (2, .int a2), (3, .int a3)], [], (X, w)) (23, [(0, .ref 2), (1, .int a1), (2, .int a2), (3, .int a3)], [], (X, w)) rfl (fun _ => ?_) (fun _ => ?_)
      · refine ab_e_go 2 (4, [(3, .int (a3 + (nI 1))), (0, .ref 2), (1, .int a1), (2, .int a2)], [], (X, w)) rfl ?_
        refine ab_e_wk [(0, .ref 2), (1, .int a1), (2, .int a2), (3, .int (a3 + (nI 1)))] ⟨rfl, rfl, rfl, rfl, trivial⟩ ?_
        exact ih a1 a2 (a3 + (nI 1))
      · refine ab_e_go 3 (4, [(3, .int (a3 + (nI 1))), (2, .int (a2 + (nI 1))), (0, .ref 2), (1, .int a1)], [], (X, w)) rfl ?_
        refine ab_e_wk [(0, .ref 2), (1, .int a1), (2, .int (a2 + (nI 1))), (3, .int (a3 + (nI 1)))] ⟨rfl, rfl, rfl, rfl, trivial⟩ ?_
        exact ih a1 (a2 + (nI 1)) (a3 + (nI 1))
def F_K_rankOf (X : ab_XX) (a1 : Int32) : Option Int32 :=
  L_K_rankOf_4 X ab_fu a1 (nI 0) (nI 0)
set_option maxRecDepth 4000 in
theorem T_K_rankOf (S : Nat × (Nat → Int32)) (w : ab_WW) (X : ab_XX) (a1 : Int32) : ab_Eg (ab_m1 ab_fI (X, w)) S 131 (0, lv_args 0 [.ref 2, .int a1], [], (X, w)) (F_K_rankOf X a1) := by
  show ab_Eg (ab_m1 ab_fI (X, w)) S 131 (0, [(0, .ref 2), (1, .int a1)], [], (X, w)) _
  unfold F_K_rankOf
  refine ab_e_go 4 (4, [(3, .int (nI 0)), (2, .int (nI 0)), (0, .ref 2), (1, .int a1)], [], (X, w)) rfl ?_
  refine ab_e_wk [(0, .ref 2), (1, .int a1), (2, .int (nI 0)), (3, .int (nI 0))] ⟨rfl, rfl, rfl, rfl, trivial⟩ ?_
  exact T_L_K_rankOf_4 S w X ab_fu a1 (nI 0) (nI 0)
def L_K_workerAtRank_2 (X : ab_XX) : Nat → Int32 → Int32 → Option Int32
  | 0, _, _ => none
  | n + 1, a1, a2 =>
    if X 3 0 ≤ a2 then
      some (-1 : Int32)
    else
      (F_K_rankOf X a2).bind fun v203 =>
      if v203 = a1 then
        some a2
      else
        L_K_workerAtRank_2 X n a1 (a2 + (nI 1))
set_option maxRecDepth 4000 in
theorem T_L_K_workerAtRank_2 (S : Nat × (Nat → Int32)) (w : ab_WW) (X : ab_XX) : ∀ (n : Nat) (a1 : Int32) (a2 : Int32), ab_Eg (ab_m1 ab_fI (X, w)) S 167 (2, [(0, .ref 2), (1, .int a1), (2, .int a2)], [], (X, w)) (L_K_workerAtRank_2 X n a1 a2) := by
  intro n
  induction n with
  | zero => intro a1 a2; exact ab_e_none
  | succ n ih =>
    intro a1 a2
    unfold L_K_workerAtRank_2
    refine ab_e_go 5 (9, [(0, .ref 2), (1, .int a1), (2, .int a2)], [.int (X 3 0), .int a2], (X, w)) rfl ?_
    refine ab_e_br (c := X 3 0 ≤ a2) (29, [(0, .ref 2), (1, .int a1), (2, .int a2)], [], (X, w)) (12, [(0, .ref 2), (1, .int a1), (2, .int a2)], [], (X, w)) rfl (fun _ => ?_) (fun _ => ?_)
    · refine ab_e_go 1 (30, [(0, .ref 2), (1, .int a1), (2, .int a2)], [.int (-1 : Int32)], (X, w)) rfl ?_
      exact ab_e_rt rfl rfl
    · refine ab_e_go 2 (14, [(0, .ref 2), (1, .int a1), (2, .int a2)], [.int a2, .ref 2], (X, w)) rfl ?_
      refine ab_e_c1 (k2 := 131) (as := [.ref 2, .int a2]) (rest := []) rfl rfl (T_K_rankOf S w X a2) (fun v203 => ?_)
      refine ab_e_go 1 (18, [(0, .ref 2), (1, .int a1), (2, .int a2)], [.int a1, .int v203], (X, w)) rfl ?_
      refine ab_e_bn (c := v203 = a1) (23, [(0, .ref 2), (1, .int a1), (2, .int a2)], [], (X, w)) (21, [(0, .ref 2), (1, .int a1), (2, .int a2)], [], (X, w)) rfl (fun _ => ?_) (fun _ => ?_)
      · refine ab_e_go 2 (2, [(2, .int (a2 + (nI 1))), (0, .ref 2), (1, .int a1)], [], (X, w)) rfl ?_
        refine ab_e_wk [(0, .ref 2), (1, .int a1), (2, .int (a2 + (nI 1)))] ⟨rfl, rfl, rfl, trivial⟩ ?_
        exact ih a1 (a2 + (nI 1))
      · refine ab_e_go 1 (22, [(0, .ref 2), (1, .int a1), (2, .int a2)], [.int a2], (X, w)) rfl ?_
        exact ab_e_rt rfl rfl
def F_K_workerAtRank (X : ab_XX) (a1 : Int32) : Option Int32 :=
  L_K_workerAtRank_2 X ab_fu a1 (nI 0)
set_option maxRecDepth 4000 in
theorem T_K_workerAtRank (S : Nat × (Nat → Int32)) (w : ab_WW) (X : ab_XX) (a1 : Int32) : ab_Eg (ab_m1 ab_fI (X, w)) S 167 (0, lv_args 0 [.ref 2, .int a1], [], (X, w)) (F_K_workerAtRank X a1) := by
  show ab_Eg (ab_m1 ab_fI (X, w)) S 167 (0, [(0, .ref 2), (1, .int a1)], [], (X, w)) _
  unfold F_K_workerAtRank
  refine ab_e_go 2 (2, [(2, .int (nI 0)), (0, .ref 2), (1, .int a1)], [], (X, w)) rfl ?_
  refine ab_e_wk [(0, .ref 2), (1, .int a1), (2, .int (nI 0))] ⟨rfl, rfl, rfl, trivial⟩ ?_
  exact T_L_K_workerAtRank_2 S w X ab_fu a1 (nI 0)
def F_C_order (X : ab_XX) (a1 : Int32) : Option (Int32 ⊕ Nat) :=
  (F_K_isWorker X a1).bind fun v199 =>
  if v199 = nI 0 then
    some (.inr 2)
  else
    (F_K_workerAtRank X a1).bind fun v204 =>
    some (.inl v204)
set_option maxRecDepth 4000 in
theorem T_C_order (S : Nat × (Nat → Int32)) (w : ab_WW) (X : ab_XX) (a1 : Int32) : ab_Eg (ab_m2 ab_fI (X, w)) S 191 (0, lv_args 0 [.ref 0, .int a1], [], (X, w)) (F_C_order X a1) := by
  show ab_Eg (ab_m2 ab_fI (X, w)) S 191 (0, [(0, .ref 0), (1, .int a1)], [], (X, w)) _
  unfold F_C_order
  refine ab_e_go 3 (5, [(0, .ref 0), (1, .int a1)], [.int a1, .ref 2], (X, w)) rfl ?_
  refine ab_e_c1 (k2 := 21) (as := [.ref 2, .int a1]) (rest := []) rfl rfl (T_K_isWorker S w X a1) (fun v199 => ?_)
  refine ab_e_bn (c := v199 = nI 0) (21, [(0, .ref 0), (1, .int a1)], [], (X, w)) (11, [(0, .ref 0), (1, .int a1)], [], (X, w)) rfl (fun _ => ?_) (fun _ => ?_)
  · refine ab_e_go 3 (26, [(0, .ref 0), (1, .int a1)], [.int a1, .ref 2], (X, w)) rfl ?_
    refine ab_e_c1 (k2 := 167) (as := [.ref 2, .int a1]) (rest := []) rfl rfl (T_K_workerAtRank S w X a1) (fun v204 => ?_)
    exact ab_e_rt rfl rfl
  · exact ab_e_rt rfl rfl
def L_K_awardIndex_2 (X : ab_XX) : Nat → Int32 → Int32 → Int32 → Option Int32
  | 0, _, _, _ => none
  | n + 1, a1, a2, a3 =>
    if X 3 2 ≤ a3 then
      some (-1 : Int32)
    else
      (F_K_awardPart X a3 (nI 0)).bind fun v205 =>
      if v205 = a1 then
        (F_K_awardPart X a3 (nI 1)).bind fun v206 =>
        if v206 = a2 then
          some a3
        else
          L_K_awardIndex_2 X n a1 a2 (a3 + (nI 1))
      else
        L_K_awardIndex_2 X n a1 a2 (a3 + (nI 1))
set_option maxRecDepth 4000 in
theorem T_L_K_awardIndex_2 (S : Nat × (Nat → Int32)) (w : ab_WW) (X : ab_XX) : ∀ (n : Nat) (a1 : Int32) (a2 : Int32) (a3 : Int32), ab_Eg (ab_m1 ab_fI (X, w)) S 57 (2, [(0, .ref 2), (1, .int a1), (2, .int a2), (3, .int a3)], [], (X, w)) (L_K_awardIndex_2 X n a1 a2 a3) := by
  intro n
  induction n with
  | zero => intro a1 a2 a3; exact ab_e_none
  | succ n ih =>
    intro a1 a2 a3
    unfold L_K_awardIndex_2
    refine ab_e_go 5 (9, [(0, .ref 2), (1, .int a1), (2, .int a2), (3, .int a3)], [.int (X 3 2), .int a3], (X, w)) rfl ?_
    refine ab_e_br (c := X 3 2 ≤ a3) (40, [(0, .ref 2), (1, .int a1), (2, .int a2), (3, .int a3)], [], (X, w)) (12, [(0, .ref 2), (1, .int a1), (2, .int a2), (3, .int a3)], [], (X, w)) rfl (fun _ => ?_) (fun _ => ?_)
    · refine ab_e_go 1 (41, [(0, .ref 2), (1, .int a1), (2, .int a2), (3, .int a3)], [.int (-1 : Int32)], (X, w)) rfl ?_
      exact ab_e_rt rfl rfl
    · refine ab_e_go 3 (15, [(0, .ref 2), (1, .int a1), (2, .int a2), (3, .int a3)], [.int (nI 0), .int a3, .ref 2], (X, w)) rfl ?_
      refine ab_e_c1 (k2 := 11) (as := [.ref 2, .int a3, .int (nI 0)]) (rest := []) rfl rfl (T_K_awardPart S w X a3 (nI 0)) (fun v205 => ?_)
      refine ab_e_go 1 (19, [(0, .ref 2), (1, .int a1), (2, .int a2), (3, .int a3)], [.int a1, .int v205], (X, w)) rfl ?_
      refine ab_e_bn (c := v205 = a1) (34, [(0, .ref 2), (1, .int a1), (2, .int a2), (3, .int a3)], [], (X, w)) (22, [(0, .ref 2), (1, .int a1), (2, .int a2), (3, .int a3)], [], (X, w)) rfl (fun _ => ?_) (fun _ => ?_)
      · refine ab_e_go 2 (2, [(3, .int (a3 + (nI 1))), (0, .ref 2), (1, .int a1), (2, .int a2)], [], (X, w)) rfl ?_
        refine ab_e_wk [(0, .ref 2), (1, .int a1), (2, .int a2), (3, .int (a3 + (nI 1)))] ⟨rfl, rfl, rfl, rfl, trivial⟩ ?_
        exact ih a1 a2 (a3 + (nI 1))
      · refine ab_e_go 3 (25, [(0, .ref 2), (1, .int a1), (2, .int a2), (3, .int a3)], [.int (nI 1), .int a3, .ref 2], (X, w)) rfl ?_
        refine ab_e_c1 (k2 := 11) (as := [.ref 2, .int a3, .int (nI 1)]) (rest := []) rfl rfl (T_K_awardPart S w X a3 (nI 1)) (fun v206 => ?_)
        refine ab_e_go 1 (29, [(0, .ref 2), (1, .int a1), (2, .int a2), (3, .int a3)], [.int a2, .int v206], (X, w)) rfl ?_
        refine ab_e_bn (c := v206 = a2) (34, [(0, .ref 2), (1, .int a1), (2, .int a2), (3, .int a3)], [], (X, w)) (32, [(0, .ref 2), (1, .int a1), (2, .int a2), (3, .int a3)], [], (X, w)) rfl (fun _ => ?_) (fun _ => ?_)
        · refine ab_e_go 2 (2, [(3, .int (a3 + (nI 1))), (0, .ref 2), (1, .int a1), (2, .int a2)], [], (X, w)) rfl ?_
          refine ab_e_wk [(0, .ref 2), (1, .int a1), (2, .int a2), (3, .int (a3 + (nI 1)))] ⟨rfl, rfl, rfl, rfl, trivial⟩ ?_
          exact ih a1 a2 (a3 + (nI 1))
        · refine ab_e_go 1 (33, [(0, .ref 2), (1, .int a1), (2, .int a2), (3, .int a3)], [.int a3], (X, w)) rfl ?_
          exact ab_e_rt rfl rfl
def F_K_awardIndex (X : ab_XX) (a1 : Int32) (a2 : Int32) : Option Int32 :=
  L_K_awardIndex_2 X ab_fu a1 a2 (nI 0)
set_option maxRecDepth 4000 in
theorem T_K_awardIndex (S : Nat × (Nat → Int32)) (w : ab_WW) (X : ab_XX) (a1 : Int32) (a2 : Int32) : ab_Eg (ab_m1 ab_fI (X, w)) S 57 (0, lv_args 0 [.ref 2, .int a1, .int a2], [], (X, w)) (F_K_awardIndex X a1 a2) := by
  show ab_Eg (ab_m1 ab_fI (X, w)) S 57 (0, [(0, .ref 2), (1, .int a1), (2, .int a2)], [], (X, w)) _
  unfold F_K_awardIndex
  refine ab_e_go 2 (2, [(3, .int (nI 0)), (0, .ref 2), (1, .int a1), (2, .int a2)], [], (X, w)) rfl ?_
  refine ab_e_wk [(0, .ref 2), (1, .int a1), (2, .int a2), (3, .int (nI 0))] ⟨rfl, rfl, rfl, rfl, trivial⟩ ?_
  exact T_L_K_awardIndex_2 S w X ab_fu a1 a2 (nI 0)
def F_K_holds (X : ab_XX) (a1 : Int32) (a2 : Int32) : Option Int32 :=
  (F_K_awardIndex X a1 a2).bind fun v207 =>
  if v207 = (-1 : Int32) then
    some (nI 0)
  else
    some (nI 1)
set_option maxRecDepth 4000 in
theorem T_K_holds (S : Nat × (Nat → Int32)) (w : ab_WW) (X : ab_XX) (a1 : Int32) (a2 : Int32) : ab_Eg (ab_m1 ab_fI (X, w)) S 130 (0, lv_args 0 [.ref 2, .int a1, .int a2], [], (X, w)) (F_K_holds X a1 a2) := by
  show ab_Eg (ab_m1 ab_fI (X, w)) S 130 (0, [(0, .ref 2), (1, .int a1), (2, .int a2)], [], (X, w)) _
  unfold F_K_holds
  refine ab_e_go 3 (3, [(0, .ref 2), (1, .int a1), (2, .int a2)], [.int a2, .int a1, .ref 2], (X, w)) rfl ?_
  refine ab_e_c1 (k2 := 57) (as := [.ref 2, .int a1, .int a2]) (rest := []) rfl rfl (T_K_awardIndex S w X a1 a2) (fun v207 => ?_)
  refine ab_e_go 1 (7, [(0, .ref 2), (1, .int a1), (2, .int a2)], [.int (-1 : Int32), .int v207], (X, w)) rfl ?_
  refine ab_e_br (c := v207 = (-1 : Int32)) (14, [(0, .ref 2), (1, .int a1), (2, .int a2)], [], (X, w)) (10, [(0, .ref 2), (1, .int a1), (2, .int a2)], [], (X, w)) rfl (fun _ => ?_) (fun _ => ?_)
  · refine ab_e_go 1 (15, [(0, .ref 2), (1, .int a1), (2, .int a2)], [.int (nI 0)], (X, w)) rfl ?_
    exact ab_e_rt rfl rfl
  · refine ab_e_go 2 (15, [(0, .ref 2), (1, .int a1), (2, .int a2)], [.int (nI 1)], (X, w)) rfl ?_
    exact ab_e_rt rfl rfl
def F_U_obstacleToRevoke (X : ab_XX) (a1 : Int32) : Option Int32 :=
  (F_K_shiftPart X a1 (nI 5)).bind fun v209 =>
  (F_K_coverage X a1).bind fun v210 =>
  if v209 ≤ (v210 - (nI 1)) then
    some (nI 0)
  else
    (F_U_code (nI 8) v209).bind fun v211 =>
    some v211
set_option maxRecDepth 4000 in
theorem T_U_obstacleToRevoke (S : Nat × (Nat → Int32)) (w : ab_WW) (X : ab_XX) (a1 : Int32) : ab_Eg (ab_m1 ab_fI (X, w)) S 170 (0, lv_args 0 [.ref 1, .int a1], [], (X, w)) (F_U_obstacleToRevoke X a1) := by
  show ab_Eg (ab_m1 ab_fI (X, w)) S 170 (0, [(0, .ref 1), (1, .int a1)], [], (X, w)) _
  unfold F_U_obstacleToRevoke
  refine ab_e_go 4 (6, [(0, .ref 1), (1, .int a1)], [.int (nI 5), .int a1, .ref 2], (X, w)) rfl ?_
  refine ab_e_c1 (k2 := 24) (as := [.ref 2, .int a1, .int (nI 5)]) (rest := []) rfl rfl (T_K_shiftPart S w X a1 (nI 5)) (fun v209 => ?_)
  refine ab_e_go 4 (15, [(2, .int v209), (0, .ref 1), (1, .int a1)], [.int a1, .ref 2], (X, w)) rfl ?_
  refine ab_e_c1 (k2 := 128) (as := [.ref 2, .int a1]) (rest := []) rfl rfl (T_K_coverage S w X a1) (fun v210 => ?_)
  refine ab_e_go 3 (21, [(2, .int v209), (0, .ref 1), (1, .int a1)], [.int v209, .int (v210 - (nI 1))], (X, w)) rfl ?_
  refine ab_e_br (c := v209 ≤ (v210 - (nI 1))) (33, [(2, .int v209), (0, .ref 1), (1, .int a1)], [], (X, w)) (24, [(2, .int v209), (0, .ref 1), (1, .int a1)], [], (X, w)) rfl (fun _ => ?_) (fun _ => ?_)
  · refine ab_e_go 1 (34, [(2, .int v209), (0, .ref 1), (1, .int a1)], [.int (nI 0)], (X, w)) rfl ?_
    exact ab_e_rt rfl rfl
  · refine ab_e_go 2 (27, [(2, .int v209), (0, .ref 1), (1, .int a1)], [.int v209, .int (nI 8)], (X, w)) rfl ?_
    refine ab_e_c1 (k2 := 28) (as := [.int (nI 8), .int v209]) (rest := []) rfl rfl (T_U_code S w X (nI 8) v209) (fun v211 => ?_)
    refine ab_e_go 1 (34, [(2, .int v209), (0, .ref 1), (1, .int a1)], [.int v211], (X, w)) rfl ?_
    exact ab_e_rt rfl rfl
def F_U_numberOf (a0 : Int32) : Option Int32 :=
  some (a0 / (nI 100))
set_option maxRecDepth 4000 in
theorem T_U_numberOf (S : Nat × (Nat → Int32)) (w : ab_WW) (X : ab_XX) (a0 : Int32) : ab_Eg (ab_m1 ab_fI (X, w)) S 30 (0, lv_args 0 [.int a0], [], (X, w)) (F_U_numberOf a0) := by
  show ab_Eg (ab_m1 ab_fI (X, w)) S 30 (0, [(0, .int a0)], [], (X, w)) _
  unfold F_U_numberOf
  refine ab_e_go 3 (4, [(0, .int a0)], [.int (a0 / (nI 100))], (X, w)) rfl ?_
  exact ab_e_rt rfl rfl
def F_U_detailOf (a0 : Int32) : Option Int32 :=
  some (a0 - a0 / (nI 100) * (nI 100))
set_option maxRecDepth 4000 in
theorem T_U_detailOf (S : Nat × (Nat → Int32)) (w : ab_WW) (X : ab_XX) (a0 : Int32) : ab_Eg (ab_m1 ab_fI (X, w)) S 29 (0, lv_args 0 [.int a0], [], (X, w)) (F_U_detailOf a0) := by
  show ab_Eg (ab_m1 ab_fI (X, w)) S 29 (0, [(0, .int a0)], [], (X, w)) _
  unfold F_U_detailOf
  refine ab_e_go 3 (4, [(0, .int a0)], [.int (a0 - a0 / (nI 100) * (nI 100))], (X, w)) rfl ?_
  exact ab_e_rt rfl rfl
def F_R_set (X : ab_XX) (a1 : Int32) (a2 : Int32) : Option (Unit × ab_XX) :=
  (F_U_numberOf a1).bind fun v213 =>
  (some (ab_up X 10 0 v213)).bind fun X214 =>
  (F_U_detailOf a1).bind fun v215 =>
  (some (ab_up X214 10 1 v215)).bind fun X216 =>
  if a1 = nI 0 then
    (some (ab_up X216 10 2 (-1 : Int32))).bind fun X218 =>
    some ((), X218)
  else
    (some (ab_up X216 10 2 a2)).bind fun X217 =>
    some ((), X217)
set_option maxRecDepth 4000 in
theorem T_R_set (S : Nat × (Nat → Int32)) (w : ab_WW) (X : ab_XX) (a1 : Int32) (a2 : Int32) : ab_Eg (ab_m3 ab_fU w) S 75 (0, lv_args 0 [.ref 10, .int a1, .int a2], [], (X, w)) (F_R_set X a1 a2) := by
  show ab_Eg (ab_m3 ab_fU w) S 75 (0, [(0, .ref 10), (1, .int a1), (2, .int a2)], [], (X, w)) _
  unfold F_R_set
  refine ab_e_go 2 (2, [(0, .ref 10), (1, .int a1), (2, .int a2)], [.int a1, .ref 10], (X, w)) rfl ?_
  refine ab_e_c1 (k2 := 30) (as := [.int a1]) (rest := [.ref 10]) rfl rfl (T_U_numberOf S w X a1) (fun v213 => ?_)
  refine ab_e_go 1 (8, [(0, .ref 10), (1, .int a1), (2, .int a2)], [], ((ab_up X 10 0 v213), w)) rfl ?_
  refine ab_e_letX (fun X214 _ => ?_)
  refine ab_e_go 2 (10, [(0, .ref 10), (1, .int a1), (2, .int a2)], [.int a1, .ref 10], (X214, w)) rfl ?_
  refine ab_e_c1 (k2 := 29) (as := [.int a1]) (rest := [.ref 10]) rfl rfl (T_U_detailOf S w X214 a1) (fun v215 => ?_)
  refine ab_e_go 1 (16, [(0, .ref 10), (1, .int a1), (2, .int a2)], [], ((ab_up X214 10 1 v215), w)) rfl ?_
  refine ab_e_letX (fun X216 _ => ?_)
  refine ab_e_go 2 (18, [(0, .ref 10), (1, .int a1), (2, .int a2)], [.int a1, .ref 10], (X216, w)) rfl ?_
  refine ab_e_bn (c := a1 = nI 0) (25, [(0, .ref 10), (1, .int a1), (2, .int a2)], [.ref 10], (X216, w)) (21, [(0, .ref 10), (1, .int a1), (2, .int a2)], [.ref 10], (X216, w)) rfl (fun _ => ?_) (fun _ => ?_)
  · refine ab_e_go 2 (29, [(0, .ref 10), (1, .int a1), (2, .int a2)], [], ((ab_up X216 10 2 a2), w)) rfl ?_
    refine ab_e_letX (fun X217 _ => ?_)
    exact ab_e_rt rfl rfl
  · refine ab_e_go 3 (29, [(0, .ref 10), (1, .int a1), (2, .int a2)], [], ((ab_up X216 10 2 (-1 : Int32)), w)) rfl ?_
    refine ab_e_letX (fun X218 _ => ?_)
    exact ab_e_rt rfl rfl
def L_K_removeAward_18 : Nat → ab_XX → Int32 → Int32 → Option (Unit × ab_XX)
  | 0, _, _, _ => none
  | n + 1, X, a2, a3 =>
    if a2 ≤ a3 then
      ab_b3 (F_K_put X (nI 2) a2) (fun _ X224 =>
        some ((), X224))
    else
      (F_K_awardPart X (a3 + (nI 1)) (nI 0)).bind fun v225 =>
      ab_b3 (F_K_put X (((nI 357) + (a3 * (nI 2))) + (nI 0)) v225) (fun _ X226 =>
        (F_K_awardPart X226 (a3 + (nI 1)) (nI 1)).bind fun v227 =>
        ab_b3 (F_K_put X226 (((nI 357) + (a3 * (nI 2))) + (nI 1)) v227) (fun _ X228 =>
          L_K_removeAward_18 n X228 a2 (a3 + (nI 1))))
set_option maxRecDepth 4000 in
theorem T_L_K_removeAward_18 (S : Nat × (Nat → Int32)) (w : ab_WW) : ∀ (n : Nat) (X : ab_XX) (a2 : Int32) (a3 : Int32), ab_Eg (ab_m3 ab_fU w) S 74 (18, [(0, .ref 2), (2, .int a2), (3, .int a3)], [], (X, w)) (L_K_removeAward_18 n X a2 a3) := by
  intro n
  induction n with
  | zero => intro X a2 a3; exact ab_e_none
  | succ n ih =>
    intro X a2 a3
    unfold L_K_removeAward_18
    refine ab_e_go 2 (20, [(0, .ref 2), (2, .int a2), (3, .int a3)], [.int a2, .int a3], (X, w)) rfl ?_
    refine ab_e_br (c := a2 ≤ a3) (71, [(0, .ref 2), (2, .int a2), (3, .int a3)], [], (X, w)) (23, [(0, .ref 2), (2, .int a2), (3, .int a3)], [], (X, w)) rfl (fun _ => ?_) (fun _ => ?_)
    · refine ab_e_go 3 (74, [(0, .ref 2), (2, .int a2), (3, .int a3)], [.int a2, .int (nI 2), .ref 2], (X, w)) rfl ?_
      refine ab_e_c3 (k2 := 23) (as := [.ref 2, .int (nI 2), .int a2]) (rest := []) rfl rfl (T_K_put S w X (nI 2) a2) (fun _ X224 => ?_)
      exact ab_e_rt rfl rfl
    · refine ab_e_go 13 (38, [(0, .ref 2), (2, .int a2), (3, .int a3)], [.int (nI 0), .int (a3 + (nI 1)), .ref 2, .int (((nI 357) + (a3 * (nI 2))) + (nI 0)), .ref 2], (X, w)) rfl ?_
      refine ab_e_c1 (k2 := 11) (as := [.ref 2, .int (a3 + (nI 1)), .int (nI 0)]) (rest := [.int (((nI 357) + (a3 * (nI 2))) + (nI 0)), .ref 2]) rfl rfl (T_K_awardPart S w X (a3 + (nI 1)) (nI 0)) (fun v225 => ?_)
      refine ab_e_c3 (k2 := 23) (as := [.ref 2, .int (((nI 357) + (a3 * (nI 2))) + (nI 0)), .int v225]) (rest := []) rfl rfl (T_K_put S w X (((nI 357) + (a3 * (nI 2))) + (nI 0)) v225) (fun _ X226 => ?_)
      refine ab_e_go 13 (59, [(0, .ref 2), (2, .int a2), (3, .int a3)], [.int (nI 1), .int (a3 + (nI 1)), .ref 2, .int (((nI 357) + (a3 * (nI 2))) + (nI 1)), .ref 2], (X226, w)) rfl ?_
      refine ab_e_c1 (k2 := 11) (as := [.ref 2, .int (a3 + (nI 1)), .int (nI 1)]) (rest := [.int (((nI 357) + (a3 * (nI 2))) + (nI 1)), .ref 2]) rfl rfl (T_K_awardPart S w X226 (a3 + (nI 1)) (nI 1)) (fun v227 => ?_)
      refine ab_e_c3 (k2 := 23) (as := [.ref 2, .int (((nI 357) + (a3 * (nI 2))) + (nI 1)), .int v227]) (rest := []) rfl rfl (T_K_put S w X226 (((nI 357) + (a3 * (nI 2))) + (nI 1)) v227) (fun _ X228 => ?_)
      refine ab_e_go 2 (18, [(3, .int (a3 + (nI 1))), (0, .ref 2), (2, .int a2)], [], (X228, w)) rfl ?_
      refine ab_e_wk [(0, .ref 2), (2, .int a2), (3, .int (a3 + (nI 1)))] ⟨rfl, rfl, rfl, trivial⟩ ?_
      exact ih X228 a2 (a3 + (nI 1))
def F_K_removeAward (X : ab_XX) (a1 : Int32) : Option (Unit × ab_XX) :=
  (F_K_isAward X a1).bind fun v222 =>
  if v222 = nI 0 then
    some ((), X)
  else
    (F_K_awardTotal X).bind fun v223 =>
    L_K_removeAward_18 ab_fu X (v223 - (nI 1)) a1
set_option maxRecDepth 4000 in
theorem T_K_removeAward (S : Nat × (Nat → Int32)) (w : ab_WW) (X : ab_XX) (a1 : Int32) : ab_Eg (ab_m3 ab_fU w) S 74 (0, lv_args 0 [.ref 2, .int a1], [], (X, w)) (F_K_removeAward X a1) := by
  show ab_Eg (ab_m3 ab_fU w) S 74 (0, [(0, .ref 2), (1, .int a1)], [], (X, w)) _
  unfold F_K_removeAward
  refine ab_e_go 2 (2, [(0, .ref 2), (1, .int a1)], [.int a1, .ref 2], (X, w)) rfl ?_
  refine ab_e_c1 (k2 := 16) (as := [.ref 2, .int a1]) (rest := []) rfl rfl (T_K_isAward S w X a1) (fun v222 => ?_)
  refine ab_e_bn (c := v222 = nI 0) (9, [(0, .ref 2), (1, .int a1)], [], (X, w)) (8, [(0, .ref 2), (1, .int a1)], [], (X, w)) rfl (fun _ => ?_) (fun _ => ?_)
  · refine ab_e_go 1 (10, [(0, .ref 2), (1, .int a1)], [.ref 2], (X, w)) rfl ?_
    refine ab_e_c1 (k2 := 12) (as := [.ref 2]) (rest := []) rfl rfl (T_K_awardTotal S w X) (fun v223 => ?_)
    refine ab_e_go 5 (18, [(3, .int a1), (2, .int (v223 - (nI 1))), (0, .ref 2), (1, .int a1)], [], (X, w)) rfl ?_
    refine ab_e_wk [(0, .ref 2), (2, .int (v223 - (nI 1))), (3, .int a1)] ⟨rfl, rfl, rfl, trivial⟩ ?_
    exact T_L_K_removeAward_18 S w ab_fu X (v223 - (nI 1)) a1
  · exact ab_e_rt rfl rfl
def F_C_revoke (X : ab_XX) (a1 : Int32) (a2 : Int32) : Option ((Int32 ⊕ Nat) × ab_XX) :=
  ab_b2 (F_C_requirePair X a1 a2) (fun _ =>
    (F_K_holds X a1 a2).bind fun v208 =>
    if v208 = nI 0 then
      some (.inr 4, X)
    else
      (F_U_obstacleToRevoke X a2).bind fun v212 =>
      ab_b3 (F_R_set X v212 a1) (fun _ X219 =>
        if v212 = nI 0 then
          ab_b3 (F_H_remember_3 X219) (fun _ X220 =>
            (F_K_awardIndex X220 a1 a2).bind fun v221 =>
            ab_b3 (F_K_removeAward X220 v221) (fun _ X229 =>
              (F_K_coverage X229 a2).bind fun v230 =>
              some (.inl v230, X229)))
        else
          some (.inr 3, X219))) (fun y => some (.inr y, X))
set_option maxRecDepth 4000 in
theorem T_C_revoke (S : Nat × (Nat → Int32)) (w : ab_WW) (X : ab_XX) (a1 : Int32) (a2 : Int32) : ab_Eg (ab_m4 ab_fI w) S 192 (0, lv_args 0 [.ref 0, .int a1, .int a2], [], (X, w)) (F_C_revoke X a1 a2) := by
  show ab_Eg (ab_m4 ab_fI w) S 192 (0, [(0, .ref 0), (1, .int a1), (2, .int a2)], [], (X, w)) _
  unfold F_C_revoke
  refine ab_e_go 3 (3, [(0, .ref 0), (1, .int a1), (2, .int a2)], [.int a2, .int a1, .ref 0], (X, w)) rfl ?_
  refine ab_e_c2 (k2 := 120) (as := [.ref 0, .int a1, .int a2]) (rest := []) rfl rfl rfl (T_C_requirePair S w X a1 a2) (fun _ => ?_) (fun _ _ h => by cases h; rfl)
  refine ab_e_go 4 (12, [(0, .ref 0), (1, .int a1), (2, .int a2)], [.int a2, .int a1, .ref 2], (X, w)) rfl ?_
  refine ab_e_c1 (k2 := 130) (as := [.ref 2, .int a1, .int a2]) (rest := []) rfl rfl (T_K_holds S w X a1 a2) (fun v208 => ?_)
  refine ab_e_bn (c := v208 = nI 0) (28, [(0, .ref 0), (1, .int a1), (2, .int a2)], [], (X, w)) (18, [(0, .ref 0), (1, .int a1), (2, .int a2)], [], (X, w)) rfl (fun _ => ?_) (fun _ => ?_)
  · refine ab_e_go 3 (33, [(0, .ref 0), (1, .int a1), (2, .int a2)], [.int a2, .ref 1], (X, w)) rfl ?_
    refine ab_e_c1 (k2 := 170) (as := [.ref 1, .int a2]) (rest := []) rfl rfl (T_U_obstacleToRevoke S w X a2) (fun v212 => ?_)
    refine ab_e_go 5 (43, [(3, .int v212), (0, .ref 0), (1, .int a1), (2, .int a2)], [.int a1, .int v212, .ref 10], (X, w)) rfl ?_
    refine ab_e_c3 (k2 := 75) (as := [.ref 10, .int v212, .int a1]) (rest := []) rfl rfl (T_R_set S w X v212 a1) (fun _ X219 => ?_)
    refine ab_e_go 1 (47, [(3, .int v212), (0, .ref 0), (1, .int a1), (2, .int a2)], [.int v212], (X219, w)) rfl ?_
    refine ab_e_br (c := v212 = nI 0) (60, [(3, .int v212), (0, .ref 0), (1, .int a1), (2, .int a2)], [], (X219, w)) (50, [(3, .int v212), (0, .ref 0), (1, .int a1), (2, .int a2)], [], (X219, w)) rfl (fun _ => ?_) (fun _ => ?_)
    · refine ab_e_go 5 (71, [(3, .int v212), (0, .ref 0), (1, .int a1), (2, .int a2)], [.ref 3, .ref 4], (X219, w)) rfl ?_
      refine ab_e_c3 (k2 := 123) (as := [.ref 4, .ref 3]) (rest := []) rfl rfl (T_H_remember_3 S w X219) (fun _ X220 => ?_)
      refine ab_e_go 6 (84, [(3, .int v212), (0, .ref 0), (1, .int a1), (2, .int a2)], [.int a2, .int a1, .ref 2, .ref 2], (X220, w)) rfl ?_
      refine ab_e_c1 (k2 := 57) (as := [.ref 2, .int a1, .int a2]) (rest := [.ref 2]) rfl rfl (T_K_awardIndex S w X220 a1 a2) (fun v221 => ?_)
      refine ab_e_c3 (k2 := 74) (as := [.ref 2, .int v221]) (rest := []) rfl rfl (T_K_removeAward S w X220 v221) (fun _ X229 => ?_)
      refine ab_e_go 3 (95, [(3, .int v212), (0, .ref 0), (1, .int a1), (2, .int a2)], [.int a2, .ref 2], (X229, w)) rfl ?_
      refine ab_e_c1 (k2 := 128) (as := [.ref 2, .int a2]) (rest := []) rfl rfl (T_K_coverage S w X229 a2) (fun v230 => ?_)
      exact ab_e_rt rfl rfl
    · exact ab_e_rt rfl rfl
  · exact ab_e_rt rfl rfl
def F_T_nextCharacter (X : ab_XX) : Option Int32 :=
  if X 6 2 < nI 0 then
    some (-1 : Int32)
  else
    if X 6 1 ≤ X 6 2 then
      some (-1 : Int32)
    else
      if nI 80 ≤ X 6 2 then
        some (-1 : Int32)
      else
        if ab_in (X 6 2) 80 = true then
          (some (X 7 (X 6 2).toNatClampNeg)).bind fun v234 =>
          some v234
        else none
set_option maxRecDepth 4000 in
theorem T_T_nextCharacter (S : Nat × (Nat → Int32)) (w : ab_WW) (X : ab_XX) : ab_Eg (ab_m1 ab_fI (X, w)) S 9 (0, lv_args 0 [.ref 6], [], (X, w)) (F_T_nextCharacter X) := by
  show ab_Eg (ab_m1 ab_fI (X, w)) S 9 (0, [(0, .ref 6)], [], (X, w)) _
  unfold F_T_nextCharacter
  refine ab_e_go 2 (4, [(0, .ref 6)], [.int (X 6 2)], (X, w)) rfl ?_
  refine ab_e_br (c := X 6 2 < nI 0) (34, [(0, .ref 6)], [], (X, w)) (7, [(0, .ref 6)], [], (X, w)) rfl (fun _ => ?_) (fun _ => ?_)
  · refine ab_e_go 5 (53, [(1, .int (nI 0)), (0, .ref 6)], [.int (-1 : Int32)], (X, w)) rfl ?_
    exact ab_e_rt rfl rfl
  · refine ab_e_go 4 (15, [(0, .ref 6)], [.int (X 6 1), .int (X 6 2)], (X, w)) rfl ?_
    refine ab_e_br (c := X 6 1 ≤ X 6 2) (34, [(0, .ref 6)], [], (X, w)) (18, [(0, .ref 6)], [], (X, w)) rfl (fun _ => ?_) (fun _ => ?_)
    · refine ab_e_go 5 (53, [(1, .int (nI 0)), (0, .ref 6)], [.int (-1 : Int32)], (X, w)) rfl ?_
      exact ab_e_rt rfl rfl
    · refine ab_e_go 5 (27, [(0, .ref 6)], [.int (nI 80), .int (X 6 2)], (X, w)) rfl ?_
      refine ab_e_br (c := nI 80 ≤ X 6 2) (34, [(0, .ref 6)], [], (X, w)) (30, [(0, .ref 6)], [], (X, w)) rfl (fun _ => ?_) (fun _ => ?_)
      · refine ab_e_go 5 (53, [(1, .int (nI 0)), (0, .ref 6)], [.int (-1 : Int32)], (X, w)) rfl ?_
        exact ab_e_rt rfl rfl
      · refine ab_e_go 9 (48, [(1, .int (nI 1)), (0, .ref 6)], [.int (X 6 2), .ref 7], (X, w)) rfl ?_
        refine ab_e_gd (49, [(1, .int (nI 1)), (0, .ref 6)], [.int (X 7 (X 6 2).toNatClampNeg)], (X, w)) rfl ?_
        refine ab_e_letI (fun v234 _ => ?_)
        refine ab_e_go 1 (53, [(1, .int (nI 1)), (0, .ref 6)], [.int v234], (X, w)) rfl ?_
        exact ab_e_rt rfl rfl
def F_T_amountOfNumbers (a0 : Int32) : Option Int32 :=
  if a0 = nI 98 then
    some (nI 3)
  else
    if a0 = nI 119 then
      some (nI 5)
    else
      if a0 = nI 115 then
        some (nI 5)
      else
        some (nI 0)
set_option maxRecDepth 4000 in
theorem T_T_amountOfNumbers (S : Nat × (Nat → Int32)) (w : ab_WW) (X : ab_XX) (a0 : Int32) : ab_Eg (ab_m1 ab_fI (X, w)) S 3 (0, lv_args 0 [.int a0], [], (X, w)) (F_T_amountOfNumbers a0) := by
  show ab_Eg (ab_m1 ab_fI (X, w)) S 3 (0, [(0, .int a0)], [], (X, w)) _
  unfold F_T_amountOfNumbers
  refine ab_e_go 2 (3, [(0, .int a0)], [.int (nI 98), .int a0], (X, w)) rfl ?_
  refine ab_e_bn (c := a0 = nI 98) (8, [(0, .int a0)], [], (X, w)) (6, [(0, .int a0)], [], (X, w)) rfl (fun _ => ?_) (fun _ => ?_)
  · refine ab_e_go 2 (11, [(0, .int a0)], [.int (nI 119), .int a0], (X, w)) rfl ?_
    refine ab_e_br (c := a0 = nI 119) (20, [(0, .int a0)], [], (X, w)) (14, [(0, .int a0)], [], (X, w)) rfl (fun _ => ?_) (fun _ => ?_)
    · refine ab_e_go 2 (25, [(0, .int a0)], [.int (nI 5)], (X, w)) rfl ?_
      exact ab_e_rt rfl rfl
    · refine ab_e_go 2 (17, [(0, .int a0)], [.int (nI 115), .int a0], (X, w)) rfl ?_
      refine ab_e_bn (c := a0 = nI 115) (24, [(0, .int a0)], [], (X, w)) (20, [(0, .int a0)], [], (X, w)) rfl (fun _ => ?_) (fun _ => ?_)
      · refine ab_e_go 1 (25, [(0, .int a0)], [.int (nI 0)], (X, w)) rfl ?_
        exact ab_e_rt rfl rfl
      · refine ab_e_go 2 (25, [(0, .int a0)], [.int (nI 5)], (X, w)) rfl ?_
        exact ab_e_rt rfl rfl
  · refine ab_e_go 1 (7, [(0, .int a0)], [.int (nI 3)], (X, w)) rfl ?_
    exact ab_e_rt rfl rfl
def L_T_readNumber_4 : Nat → ab_XX → Int32 → Int32 → Int32 → Option (Int32 × ab_XX)
  | 0, _, _, _, _ => none
  | n + 1, X, a1, a2, a3 =>
    if nI 3 ≤ a3 then
      if a1 < nI 0 then
        if a3 ≤ nI 0 then
          some (nI 0, X)
        else
          some (nI 1, X)
      else
        if nI 60 ≤ a1 then
          if a3 ≤ nI 0 then
            some (nI 0, X)
          else
            some (nI 1, X)
        else
          if ab_in a1 60 = true then
            (some (ab_up X 9 a1.toNatClampNeg a2)).bind fun X239 =>
            if a3 ≤ nI 0 then
              some (nI 0, X239)
            else
              some (nI 1, X239)
          else none
    else
      (F_T_nextCharacter X).bind fun v240 =>
      (F_K_isWithin v240 (nI 48) (nI 57)).bind fun v241 =>
      if v241 = nI 0 then
        if a1 < nI 0 then
          if a3 ≤ nI 0 then
            some (nI 0, X)
          else
            some (nI 1, X)
        else
          if nI 60 ≤ a1 then
            if a3 ≤ nI 0 then
              some (nI 0, X)
            else
              some (nI 1, X)
          else
            if ab_in a1 60 = true then
              (some (ab_up X 9 a1.toNatClampNeg a2)).bind fun X242 =>
              if a3 ≤ nI 0 then
                some (nI 0, X242)
              else
                some (nI 1, X242)
            else none
      else
        (F_T_nextCharacter X).bind fun v243 =>
        (some (ab_up X 6 2 ((X 6 2) + (nI 1)))).bind fun X244 =>
        L_T_readNumber_4 n X244 a1 ((((nI 10) * a2) + v243) - (nI 48)) (a3 + (nI 1))
set_option maxRecDepth 4000 in
theorem T_L_T_readNumber_4 (S : Nat × (Nat → Int32)) (w : ab_WW) : ∀ (n : Nat) (X : ab_XX) (a1 : Int32) (a2 : Int32) (a3 : Int32), ab_Eg (ab_m3 ab_fI w) S 55 (4, [(0, .ref 6), (1, .int a1), (2, .int a2), (3, .int a3)], [], (X, w)) (L_T_readNumber_4 n X a1 a2 a3) := by
  intro n
  induction n with
  | zero => intro X a1 a2 a3; exact ab_e_none
  | succ n ih =>
    intro X a1 a2 a3
    unfold L_T_readNumber_4
    refine ab_e_go 2 (6, [(0, .ref 6), (1, .int a1), (2, .int a2), (3, .int a3)], [.int (nI 3), .int a3], (X, w)) rfl ?_
    refine ab_e_br (c := nI 3 ≤ a3) (52, [(0, .ref 6), (1, .int a1), (2, .int a2), (3, .int a3)], [], (X, w)) (9, [(0, .ref 6), (1, .int a1), (2, .int a2), (3, .int a3)], [], (X, w)) rfl (fun _ => ?_) (fun _ => ?_)
    · refine ab_e_go 1 (53, [(0, .ref 6), (1, .int a1), (2, .int a2), (3, .int a3)], [.int a1], (X, w)) rfl ?_
      refine ab_e_br (c := a1 < nI 0) (72, [(0, .ref 6), (1, .int a1), (2, .int a2), (3, .int a3)], [], (X, w)) (56, [(0, .ref 6), (1, .int a1), (2, .int a2), (3, .int a3)], [], (X, w)) rfl (fun _ => ?_) (fun _ => ?_)
      · refine ab_e_go 1 (73, [(0, .ref 6), (1, .int a1), (2, .int a2), (3, .int a3)], [.int a3], (X, w)) rfl ?_
        refine ab_e_br (c := a3 ≤ nI 0) (80, [(0, .ref 6), (1, .int a1), (2, .int a2), (3, .int a3)], [], (X, w)) (76, [(0, .ref 6), (1, .int a1), (2, .int a2), (3, .int a3)], [], (X, w)) rfl (fun _ => ?_) (fun _ => ?_)
        · refine ab_e_go 1 (81, [(0, .ref 6), (1, .int a1), (2, .int a2), (3, .int a3)], [.int (nI 0)], (X, w)) rfl ?_
          exact ab_e_rt rfl rfl
        · refine ab_e_go 2 (81, [(0, .ref 6), (1, .int a1), (2, .int a2), (3, .int a3)], [.int (nI 1)], (X, w)) rfl ?_
          exact ab_e_rt rfl rfl
      · refine ab_e_go 4 (62, [(0, .ref 6), (1, .int a1), (2, .int a2), (3, .int a3)], [.int (nI 60), .int a1], (X, w)) rfl ?_
        refine ab_e_br (c := nI 60 ≤ a1) (72, [(0, .ref 6), (1, .int a1), (2, .int a2), (3, .int a3)], [], (X, w)) (65, [(0, .ref 6), (1, .int a1), (2, .int a2), (3, .int a3)], [], (X, w)) rfl (fun _ => ?_) (fun _ => ?_)
        · refine ab_e_go 1 (73, [(0, .ref 6), (1, .int a1), (2, .int a2), (3, .int a3)], [.int a3], (X, w)) rfl ?_
          refine ab_e_br (c := a3 ≤ nI 0) (80, [(0, .ref 6), (1, .int a1), (2, .int a2), (3, .int a3)], [], (X, w)) (76, [(0, .ref 6), (1, .int a1), (2, .int a2), (3, .int a3)], [], (X, w)) rfl (fun _ => ?_) (fun _ => ?_)
          · refine ab_e_go 1 (81, [(0, .ref 6), (1, .int a1), (2, .int a2), (3, .int a3)], [.int (nI 0)], (X, w)) rfl ?_
            exact ab_e_rt rfl rfl
          · refine ab_e_go 2 (81, [(0, .ref 6), (1, .int a1), (2, .int a2), (3, .int a3)], [.int (nI 1)], (X, w)) rfl ?_
            exact ab_e_rt rfl rfl
        · refine ab_e_go 4 (71, [(0, .ref 6), (1, .int a1), (2, .int a2), (3, .int a3)], [.int a2, .int a1, .ref 9], (X, w)) rfl ?_
          refine ab_e_gd (72, [(0, .ref 6), (1, .int a1), (2, .int a2), (3, .int a3)], [], ((ab_up X 9 a1.toNatClampNeg a2), w)) rfl ?_
          refine ab_e_letX (fun X239 _ => ?_)
          refine ab_e_go 1 (73, [(0, .ref 6), (1, .int a1), (2, .int a2), (3, .int a3)], [.int a3], (X239, w)) rfl ?_
          refine ab_e_br (c := a3 ≤ nI 0) (80, [(0, .ref 6), (1, .int a1), (2, .int a2), (3, .int a3)], [], (X239, w)) (76, [(0, .ref 6), (1, .int a1), (2, .int a2), (3, .int a3)], [], (X239, w)) rfl (fun _ => ?_) (fun _ => ?_)
          · refine ab_e_go 1 (81, [(0, .ref 6), (1, .int a1), (2, .int a2), (3, .int a3)], [.int (nI 0)], (X239, w)) rfl ?_
            exact ab_e_rt rfl rfl
          · refine ab_e_go 2 (81, [(0, .ref 6), (1, .int a1), (2, .int a2), (3, .int a3)], [.int (nI 1)], (X239, w)) rfl ?_
            exact ab_e_rt rfl rfl
    · refine ab_e_go 1 (10, [(0, .ref 6), (1, .int a1), (2, .int a2), (3, .int a3)], [.ref 6], (X, w)) rfl ?_
      refine ab_e_c1 (k2 := 9) (as := [.ref 6]) (rest := []) rfl rfl (T_T_nextCharacter S w X) (fun v240 => ?_)
      refine ab_e_go 2 (17, [(0, .ref 6), (1, .int a1), (2, .int a2), (3, .int a3)], [.int (nI 57), .int (nI 48), .int v240], (X, w)) rfl ?_
      refine ab_e_c1 (k2 := 20) (as := [.int v240, .int (nI 48), .int (nI 57)]) (rest := []) rfl rfl (T_K_isWithin S w X v240 (nI 48) (nI 57)) (fun v241 => ?_)
      refine ab_e_br (c := v241 = nI 0) (52, [(0, .ref 6), (1, .int a1), (2, .int a2), (3, .int a3)], [], (X, w)) (23, [(0, .ref 6), (1, .int a1), (2, .int a2), (3, .int a3)], [], (X, w)) rfl (fun _ => ?_) (fun _ => ?_)
      · refine ab_e_go 1 (53, [(0, .ref 6), (1, .int a1), (2, .int a2), (3, .int a3)], [.int a1], (X, w)) rfl ?_
        refine ab_e_br (c := a1 < nI 0) (72, [(0, .ref 6), (1, .int a1), (2, .int a2), (3, .int a3)], [], (X, w)) (56, [(0, .ref 6), (1, .int a1), (2, .int a2), (3, .int a3)], [], (X, w)) rfl (fun _ => ?_) (fun _ => ?_)
        · refine ab_e_go 1 (73, [(0, .ref 6), (1, .int a1), (2, .int a2), (3, .int a3)], [.int a3], (X, w)) rfl ?_
          refine ab_e_br (c := a3 ≤ nI 0) (80, [(0, .ref 6), (1, .int a1), (2, .int a2), (3, .int a3)], [], (X, w)) (76, [(0, .ref 6), (1, .int a1), (2, .int a2), (3, .int a3)], [], (X, w)) rfl (fun _ => ?_) (fun _ => ?_)
          · refine ab_e_go 1 (81, [(0, .ref 6), (1, .int a1), (2, .int a2), (3, .int a3)], [.int (nI 0)], (X, w)) rfl ?_
            exact ab_e_rt rfl rfl
          · refine ab_e_go 2 (81, [(0, .ref 6), (1, .int a1), (2, .int a2), (3, .int a3)], [.int (nI 1)], (X, w)) rfl ?_
            exact ab_e_rt rfl rfl
        · refine ab_e_go 4 (62, [(0, .ref 6), (1, .int a1), (2, .int a2), (3, .int a3)], [.int (nI 60), .int a1], (X, w)) rfl ?_
          refine ab_e_br (c := nI 60 ≤ a1) (72, [(0, .ref 6), (1, .int a1), (2, .int a2), (3, .int a3)], [], (X, w)) (65, [(0, .ref 6), (1, .int a1), (2, .int a2), (3, .int a3)], [], (X, w)) rfl (fun _ => ?_) (fun _ => ?_)
          · refine ab_e_go 1 (73, [(0, .ref 6), (1, .int a1), (2, .int a2), (3, .int a3)], [.int a3], (X, w)) rfl ?_
            refine ab_e_br (c := a3 ≤ nI 0) (80, [(0, .ref 6), (1, .int a1), (2, .int a2), (3, .int a3)], [], (X, w)) (76, [(0, .ref 6), (1, .int a1), (2, .int a2), (3, .int a3)], [], (X, w)) rfl (fun _ => ?_) (fun _ => ?_)
            · refine ab_e_go 1 (81, [(0, .ref 6), (1, .int a1), (2, .int a2), (3, .int a3)], [.int (nI 0)], (X, w)) rfl ?_
              exact ab_e_rt rfl rfl
            · refine ab_e_go 2 (81, [(0, .ref 6), (1, .int a1), (2, .int a2), (3, .int a3)], [.int (nI 1)], (X, w)) rfl ?_
              exact ab_e_rt rfl rfl
          · refine ab_e_go 4 (71, [(0, .ref 6), (1, .int a1), (2, .int a2), (3, .int a3)], [.int a2, .int a1, .ref 9], (X, w)) rfl ?_
            refine ab_e_gd (72, [(0, .ref 6), (1, .int a1), (2, .int a2), (3, .int a3)], [], ((ab_up X 9 a1.toNatClampNeg a2), w)) rfl ?_
            refine ab_e_letX (fun X242 _ => ?_)
            refine ab_e_go 1 (73, [(0, .ref 6), (1, .int a1), (2, .int a2), (3, .int a3)], [.int a3], (X242, w)) rfl ?_
            refine ab_e_br (c := a3 ≤ nI 0) (80, [(0, .ref 6), (1, .int a1), (2, .int a2), (3, .int a3)], [], (X242, w)) (76, [(0, .ref 6), (1, .int a1), (2, .int a2), (3, .int a3)], [], (X242, w)) rfl (fun _ => ?_) (fun _ => ?_)
            · refine ab_e_go 1 (81, [(0, .ref 6), (1, .int a1), (2, .int a2), (3, .int a3)], [.int (nI 0)], (X242, w)) rfl ?_
              exact ab_e_rt rfl rfl
            · refine ab_e_go 2 (81, [(0, .ref 6), (1, .int a1), (2, .int a2), (3, .int a3)], [.int (nI 1)], (X242, w)) rfl ?_
              exact ab_e_rt rfl rfl
      · refine ab_e_go 4 (28, [(0, .ref 6), (1, .int a1), (2, .int a2), (3, .int a3)], [.ref 6, .int ((nI 10) * a2)], (X, w)) rfl ?_
        refine ab_e_c1 (k2 := 9) (as := [.ref 6]) (rest := [.int ((nI 10) * a2)]) rfl rfl (T_T_nextCharacter S w X) (fun v243 => ?_)
        refine ab_e_go 10 (46, [(2, .int ((((nI 10) * a2) + v243) - (nI 48))), (0, .ref 6), (1, .int a1), (3, .int a3)], [], ((ab_up X 6 2 ((X 6 2) + (nI 1))), w)) rfl ?_
        refine ab_e_letX (fun X244 _ => ?_)
        refine ab_e_go 2 (4, [(3, .int (a3 + (nI 1))), (2, .int ((((nI 10) * a2) + v243) - (nI 48))), (0, .ref 6), (1, .int a1)], [], (X244, w)) rfl ?_
        refine ab_e_wk [(0, .ref 6), (1, .int a1), (2, .int ((((nI 10) * a2) + v243) - (nI 48))), (3, .int (a3 + (nI 1)))] ⟨rfl, rfl, rfl, rfl, trivial⟩ ?_
        exact ih X244 a1 ((((nI 10) * a2) + v243) - (nI 48)) (a3 + (nI 1))
def F_T_readNumber (X : ab_XX) (a1 : Int32) : Option (Int32 × ab_XX) :=
  L_T_readNumber_4 ab_fu X a1 (nI 0) (nI 0)
set_option maxRecDepth 4000 in
theorem T_T_readNumber (S : Nat × (Nat → Int32)) (w : ab_WW) (X : ab_XX) (a1 : Int32) : ab_Eg (ab_m3 ab_fI w) S 55 (0, lv_args 0 [.ref 6, .int a1], [], (X, w)) (F_T_readNumber X a1) := by
  show ab_Eg (ab_m3 ab_fI w) S 55 (0, [(0, .ref 6), (1, .int a1)], [], (X, w)) _
  unfold F_T_readNumber
  refine ab_e_go 4 (4, [(3, .int (nI 0)), (2, .int (nI 0)), (0, .ref 6), (1, .int a1)], [], (X, w)) rfl ?_
  refine ab_e_wk [(0, .ref 6), (1, .int a1), (2, .int (nI 0)), (3, .int (nI 0))] ⟨rfl, rfl, rfl, rfl, trivial⟩ ?_
  exact T_L_T_readNumber_4 S w ab_fu X a1 (nI 0) (nI 0)
def F_T_readSign (X : ab_XX) (a1 : Int32) : Option (Int32 × ab_XX) :=
  (F_T_nextCharacter X).bind fun v247 =>
  if v247 = a1 then
    (some (ab_up X 6 2 ((X 6 2) + (nI 1)))).bind fun X248 =>
    some (nI 1, X248)
  else
    some (nI 0, X)
set_option maxRecDepth 4000 in
theorem T_T_readSign (S : Nat × (Nat → Int32)) (w : ab_WW) (X : ab_XX) (a1 : Int32) : ab_Eg (ab_m3 ab_fI w) S 56 (0, lv_args 0 [.ref 6, .int a1], [], (X, w)) (F_T_readSign X a1) := by
  show ab_Eg (ab_m3 ab_fI w) S 56 (0, [(0, .ref 6), (1, .int a1)], [], (X, w)) _
  unfold F_T_readSign
  refine ab_e_go 1 (1, [(0, .ref 6), (1, .int a1)], [.ref 6], (X, w)) rfl ?_
  refine ab_e_c1 (k2 := 9) (as := [.ref 6]) (rest := []) rfl rfl (T_T_nextCharacter S w X) (fun v247 => ?_)
  refine ab_e_go 1 (5, [(0, .ref 6), (1, .int a1)], [.int a1, .int v247], (X, w)) rfl ?_
  refine ab_e_br (c := v247 = a1) (10, [(0, .ref 6), (1, .int a1)], [], (X, w)) (8, [(0, .ref 6), (1, .int a1)], [], (X, w)) rfl (fun _ => ?_) (fun _ => ?_)
  · refine ab_e_go 6 (20, [(0, .ref 6), (1, .int a1)], [], ((ab_up X 6 2 ((X 6 2) + (nI 1))), w)) rfl ?_
    refine ab_e_letX (fun X248 _ => ?_)
    refine ab_e_go 1 (21, [(0, .ref 6), (1, .int a1)], [.int (nI 1)], (X248, w)) rfl ?_
    exact ab_e_rt rfl rfl
  · refine ab_e_go 1 (9, [(0, .ref 6), (1, .int a1)], [.int (nI 0)], (X, w)) rfl ?_
    exact ab_e_rt rfl rfl
def L_T_readItem_49 : Nat → ab_XX → Int32 → Int32 → Int32 → Option (Int32 × ab_XX)
  | 0, _, _, _, _ => none
  | n + 1, X, a1, a3, a4 =>
    if a3 ≤ a4 then
      some (nI 1, X)
    else
      if a4 ≤ nI 0 then
        ab_b3 (F_T_readNumber X ((a1 * (nI 5)) + a4)) (fun v245 X246 =>
          if v245 = nI 0 then
            some (nI 0, X246)
          else
            L_T_readItem_49 n X246 a1 a3 (a4 + (nI 1)))
      else
        ab_b3 (F_T_readSign X (nI 44)) (fun v249 X250 =>
          if v249 = nI 0 then
            some (nI 0, X250)
          else
            ab_b3 (F_T_readNumber X250 ((a1 * (nI 5)) + a4)) (fun v251 X252 =>
              if v251 = nI 0 then
                some (nI 0, X252)
              else
                L_T_readItem_49 n X252 a1 a3 (a4 + (nI 1))))
set_option maxRecDepth 4000 in
theorem T_L_T_readItem_49 (S : Nat × (Nat → Int32)) (w : ab_WW) : ∀ (n : Nat) (X : ab_XX) (a1 : Int32) (a3 : Int32) (a4 : Int32), ab_Eg (ab_m3 ab_fI w) S 125 (49, [(0, .ref 6), (1, .int a1), (3, .int a3), (4, .int a4)], [], (X, w)) (L_T_readItem_49 n X a1 a3 a4) := by
  intro n
  induction n with
  | zero => intro X a1 a3 a4; exact ab_e_none
  | succ n ih =>
    intro X a1 a3 a4
    unfold L_T_readItem_49
    refine ab_e_go 2 (52, [(0, .ref 6), (1, .int a1), (3, .int a3), (4, .int a4)], [.int a3, .int a4], (X, w)) rfl ?_
    refine ab_e_br (c := a3 ≤ a4) (90, [(0, .ref 6), (1, .int a1), (3, .int a3), (4, .int a4)], [], (X, w)) (55, [(0, .ref 6), (1, .int a1), (3, .int a3), (4, .int a4)], [], (X, w)) rfl (fun _ => ?_) (fun _ => ?_)
    · refine ab_e_go 1 (91, [(0, .ref 6), (1, .int a1), (3, .int a3), (4, .int a4)], [.int (nI 1)], (X, w)) rfl ?_
      exact ab_e_rt rfl rfl
    · refine ab_e_go 1 (57, [(0, .ref 6), (1, .int a1), (3, .int a3), (4, .int a4)], [.int a4], (X, w)) rfl ?_
      refine ab_e_br (c := a4 ≤ nI 0) (69, [(0, .ref 6), (1, .int a1), (3, .int a3), (4, .int a4)], [], (X, w)) (60, [(0, .ref 6), (1, .int a1), (3, .int a3), (4, .int a4)], [], (X, w)) rfl (fun _ => ?_) (fun _ => ?_)
      · refine ab_e_go 6 (76, [(0, .ref 6), (1, .int a1), (3, .int a3), (4, .int a4)], [.int ((a1 * (nI 5)) + a4), .ref 6], (X, w)) rfl ?_
        refine ab_e_c3 (k2 := 55) (as := [.ref 6, .int ((a1 * (nI 5)) + a4)]) (rest := []) rfl rfl (T_T_readNumber S w X ((a1 * (nI 5)) + a4)) (fun v245 X246 => ?_)
        refine ab_e_bn (c := v245 = nI 0) (84, [(0, .ref 6), (1, .int a1), (3, .int a3), (4, .int a4)], [], (X246, w)) (82, [(0, .ref 6), (1, .int a1), (3, .int a3), (4, .int a4)], [], (X246, w)) rfl (fun _ => ?_) (fun _ => ?_)
        · refine ab_e_go 2 (49, [(4, .int (a4 + (nI 1))), (0, .ref 6), (1, .int a1), (3, .int a3)], [], (X246, w)) rfl ?_
          refine ab_e_wk [(0, .ref 6), (1, .int a1), (3, .int a3), (4, .int (a4 + (nI 1)))] ⟨rfl, rfl, rfl, rfl, trivial⟩ ?_
          exact ih X246 a1 a3 (a4 + (nI 1))
        · refine ab_e_go 1 (83, [(0, .ref 6), (1, .int a1), (3, .int a3), (4, .int a4)], [.int (nI 0)], (X246, w)) rfl ?_
          exact ab_e_rt rfl rfl
      · refine ab_e_go 2 (63, [(0, .ref 6), (1, .int a1), (3, .int a3), (4, .int a4)], [.int (nI 44), .ref 6], (X, w)) rfl ?_
        refine ab_e_c3 (k2 := 56) (as := [.ref 6, .int (nI 44)]) (rest := []) rfl rfl (T_T_readSign S w X (nI 44)) (fun v249 X250 => ?_)
        refine ab_e_br (c := v249 = nI 0) (82, [(0, .ref 6), (1, .int a1), (3, .int a3), (4, .int a4)], [], (X250, w)) (69, [(0, .ref 6), (1, .int a1), (3, .int a3), (4, .int a4)], [], (X250, w)) rfl (fun _ => ?_) (fun _ => ?_)
        · refine ab_e_go 1 (83, [(0, .ref 6), (1, .int a1), (3, .int a3), (4, .int a4)], [.int (nI 0)], (X250, w)) rfl ?_
          exact ab_e_rt rfl rfl
        · refine ab_e_go 6 (76, [(0, .ref 6), (1, .int a1), (3, .int a3), (4, .int a4)], [.int ((a1 * (nI 5)) + a4), .ref 6], (X250, w)) rfl ?_
          refine ab_e_c3 (k2 := 55) (as := [.ref 6, .int ((a1 * (nI 5)) + a4)]) (rest := []) rfl rfl (T_T_readNumber S w X250 ((a1 * (nI 5)) + a4)) (fun v251 X252 => ?_)
          refine ab_e_bn (c := v251 = nI 0) (84, [(0, .ref 6), (1, .int a1), (3, .int a3), (4, .int a4)], [], (X252, w)) (82, [(0, .ref 6), (1, .int a1), (3, .int a3), (4, .int a4)], [], (X252, w)) rfl (fun _ => ?_) (fun _ => ?_)
          · refine ab_e_go 2 (49, [(4, .int (a4 + (nI 1))), (0, .ref 6), (1, .int a1), (3, .int a3)], [], (X252, w)) rfl ?_
            refine ab_e_wk [(0, .ref 6), (1, .int a1), (3, .int a3), (4, .int (a4 + (nI 1)))] ⟨rfl, rfl, rfl, rfl, trivial⟩ ?_
            exact ih X252 a1 a3 (a4 + (nI 1))
          · refine ab_e_go 1 (83, [(0, .ref 6), (1, .int a1), (3, .int a3), (4, .int a4)], [.int (nI 0)], (X252, w)) rfl ?_
            exact ab_e_rt rfl rfl
def F_T_readItem (X : ab_XX) (a1 : Int32) : Option (Int32 × ab_XX) :=
  (F_T_nextCharacter X).bind fun v235 =>
  (F_T_amountOfNumbers v235).bind fun v236 =>
  if v236 = nI 0 then
    some (nI 0, X)
  else
    if a1 < nI 0 then
      some (nI 0, X)
    else
      if a1 < nI 12 then
        if ab_in a1 12 = true then
          (some (ab_up X 8 a1.toNatClampNeg v235)).bind fun X237 =>
          (some (ab_up X237 6 2 ((X237 6 2) + (nI 1)))).bind fun X238 =>
          L_T_readItem_49 ab_fu X238 a1 v236 (nI 0)
        else none
      else
        some (nI 0, X)
set_option maxRecDepth 4000 in
theorem T_T_readItem (S : Nat × (Nat → Int32)) (w : ab_WW) (X : ab_XX) (a1 : Int32) : ab_Eg (ab_m3 ab_fI w) S 125 (0, lv_args 0 [.ref 6, .int a1], [], (X, w)) (F_T_readItem X a1) := by
  show ab_Eg (ab_m3 ab_fI w) S 125 (0, [(0, .ref 6), (1, .int a1)], [], (X, w)) _
  unfold F_T_readItem
  refine ab_e_go 1 (1, [(0, .ref 6), (1, .int a1)], [.ref 6], (X, w)) rfl ?_
  refine ab_e_c1 (k2 := 9) (as := [.ref 6]) (rest := []) rfl rfl (T_T_nextCharacter S w X) (fun v235 => ?_)
  refine ab_e_go 2 (6, [(2, .int v235), (0, .ref 6), (1, .int a1)], [.int v235], (X, w)) rfl ?_
  refine ab_e_c1 (k2 := 3) (as := [.int v235]) (rest := []) rfl rfl (T_T_amountOfNumbers S w X v235) (fun v236 => ?_)
  refine ab_e_go 2 (11, [(3, .int v236), (2, .int v235), (0, .ref 6), (1, .int a1)], [.int v236], (X, w)) rfl ?_
  refine ab_e_br (c := v236 = nI 0) (27, [(3, .int v236), (2, .int v235), (0, .ref 6), (1, .int a1)], [], (X, w)) (14, [(3, .int v236), (2, .int v235), (0, .ref 6), (1, .int a1)], [], (X, w)) rfl (fun _ => ?_) (fun _ => ?_)
  · refine ab_e_go 1 (28, [(3, .int v236), (2, .int v235), (0, .ref 6), (1, .int a1)], [.int (nI 0)], (X, w)) rfl ?_
    exact ab_e_rt rfl rfl
  · refine ab_e_go 1 (15, [(3, .int v236), (2, .int v235), (0, .ref 6), (1, .int a1)], [.int a1], (X, w)) rfl ?_
    refine ab_e_br (c := a1 < nI 0) (27, [(3, .int v236), (2, .int v235), (0, .ref 6), (1, .int a1)], [], (X, w)) (18, [(3, .int v236), (2, .int v235), (0, .ref 6), (1, .int a1)], [], (X, w)) rfl (fun _ => ?_) (fun _ => ?_)
    · refine ab_e_go 1 (28, [(3, .int v236), (2, .int v235), (0, .ref 6), (1, .int a1)], [.int (nI 0)], (X, w)) rfl ?_
      exact ab_e_rt rfl rfl
    · refine ab_e_go 4 (24, [(3, .int v236), (2, .int v235), (0, .ref 6), (1, .int a1)], [.int (nI 12), .int a1], (X, w)) rfl ?_
      refine ab_e_br (c := a1 < nI 12) (29, [(3, .int v236), (2, .int v235), (0, .ref 6), (1, .int a1)], [], (X, w)) (27, [(3, .int v236), (2, .int v235), (0, .ref 6), (1, .int a1)], [], (X, w)) rfl (fun _ => ?_) (fun _ => ?_)
      · refine ab_e_go 4 (35, [(3, .int v236), (2, .int v235), (0, .ref 6), (1, .int a1)], [.int v235, .int a1, .ref 8], (X, w)) rfl ?_
        refine ab_e_gd (36, [(3, .int v236), (2, .int v235), (0, .ref 6), (1, .int a1)], [], ((ab_up X 8 a1.toNatClampNeg v235), w)) rfl ?_
        refine ab_e_letX (fun X237 _ => ?_)
        refine ab_e_go 6 (46, [(3, .int v236), (2, .int v235), (0, .ref 6), (1, .int a1)], [], ((ab_up X237 6 2 ((X237 6 2) + (nI 1))), w)) rfl ?_
        refine ab_e_letX (fun X238 _ => ?_)
        refine ab_e_go 2 (49, [(4, .int (nI 0)), (3, .int v236), (2, .int v235), (0, .ref 6), (1, .int a1)], [], (X238, w)) rfl ?_
        refine ab_e_wk [(0, .ref 6), (1, .int a1), (3, .int v236), (4, .int (nI 0))] ⟨rfl, rfl, rfl, rfl, trivial⟩ ?_
        exact T_L_T_readItem_49 S w ab_fu X238 a1 v236 (nI 0)
      · refine ab_e_go 1 (28, [(3, .int v236), (2, .int v235), (0, .ref 6), (1, .int a1)], [.int (nI 0)], (X, w)) rfl ?_
        exact ab_e_rt rfl rfl
def L_T_read_12 : Nat → ab_XX → Int32 → Option (Int32 × ab_XX)
  | 0, _, _ => none
  | n + 1, X, a1 =>
    if nI 12 ≤ a1 then
      some (X 6 2, X)
    else
      ab_b3 (F_T_readItem X a1) (fun v253 X254 =>
        if v253 = nI 0 then
          some (X254 6 2, X254)
        else
          (some (ab_up X254 6 5 (a1 + (nI 1)))).bind fun X255 =>
          if X255 6 2 = X255 6 1 then
            some ((-1 : Int32), X255)
          else
            ab_b3 (F_T_readSign X255 (nI 59)) (fun v256 X257 =>
              if v256 = nI 0 then
                some (X257 6 2, X257)
              else
                L_T_read_12 n X257 (a1 + (nI 1))))
set_option maxRecDepth 4000 in
theorem T_L_T_read_12 (S : Nat × (Nat → Int32)) (w : ab_WW) : ∀ (n : Nat) (X : ab_XX) (a1 : Int32), ab_Eg (ab_m3 ab_fI w) S 166 (12, [(0, .ref 6), (1, .int a1)], [], (X, w)) (L_T_read_12 n X a1) := by
  intro n
  induction n with
  | zero => intro X a1; exact ab_e_none
  | succ n ih =>
    intro X a1
    unfold L_T_read_12
    refine ab_e_go 2 (15, [(0, .ref 6), (1, .int a1)], [.int (nI 12), .int a1], (X, w)) rfl ?_
    refine ab_e_br (c := nI 12 ≤ a1) (71, [(0, .ref 6), (1, .int a1)], [], (X, w)) (18, [(0, .ref 6), (1, .int a1)], [], (X, w)) rfl (fun _ => ?_) (fun _ => ?_)
    · refine ab_e_go 2 (75, [(0, .ref 6), (1, .int a1)], [.int (X 6 2)], (X, w)) rfl ?_
      exact ab_e_rt rfl rfl
    · refine ab_e_go 2 (20, [(0, .ref 6), (1, .int a1)], [.int a1, .ref 6], (X, w)) rfl ?_
      refine ab_e_c3 (k2 := 125) (as := [.ref 6, .int a1]) (rest := []) rfl rfl (T_T_readItem S w X a1) (fun v253 X254 => ?_)
      refine ab_e_bn (c := v253 = nI 0) (31, [(0, .ref 6), (1, .int a1)], [], (X254, w)) (26, [(0, .ref 6), (1, .int a1)], [], (X254, w)) rfl (fun _ => ?_) (fun _ => ?_)
      · refine ab_e_go 5 (38, [(0, .ref 6), (1, .int a1)], [], ((ab_up X254 6 5 (a1 + (nI 1))), w)) rfl ?_
        refine ab_e_letX (fun X255 _ => ?_)
        refine ab_e_go 4 (46, [(0, .ref 6), (1, .int a1)], [.int (X255 6 1), .int (X255 6 2)], (X255, w)) rfl ?_
        refine ab_e_bn (c := X255 6 2 = X255 6 1) (51, [(0, .ref 6), (1, .int a1)], [], (X255, w)) (49, [(0, .ref 6), (1, .int a1)], [], (X255, w)) rfl (fun _ => ?_) (fun _ => ?_)
        · refine ab_e_go 2 (54, [(0, .ref 6), (1, .int a1)], [.int (nI 59), .ref 6], (X255, w)) rfl ?_
          refine ab_e_c3 (k2 := 56) (as := [.ref 6, .int (nI 59)]) (rest := []) rfl rfl (T_T_readSign S w X255 (nI 59)) (fun v256 X257 => ?_)
          refine ab_e_bn (c := v256 = nI 0) (65, [(0, .ref 6), (1, .int a1)], [], (X257, w)) (60, [(0, .ref 6), (1, .int a1)], [], (X257, w)) rfl (fun _ => ?_) (fun _ => ?_)
          · refine ab_e_go 2 (12, [(1, .int (a1 + (nI 1))), (0, .ref 6)], [], (X257, w)) rfl ?_
            refine ab_e_wk [(0, .ref 6), (1, .int (a1 + (nI 1)))] ⟨rfl, rfl, trivial⟩ ?_
            exact ih X257 (a1 + (nI 1))
          · refine ab_e_go 2 (64, [(0, .ref 6), (1, .int a1)], [.int (X257 6 2)], (X257, w)) rfl ?_
            exact ab_e_rt rfl rfl
        · refine ab_e_go 1 (50, [(0, .ref 6), (1, .int a1)], [.int (-1 : Int32)], (X255, w)) rfl ?_
          exact ab_e_rt rfl rfl
      · refine ab_e_go 2 (30, [(0, .ref 6), (1, .int a1)], [.int (X254 6 2)], (X254, w)) rfl ?_
        exact ab_e_rt rfl rfl
def F_T_read (X : ab_XX) : Option (Int32 × ab_XX) :=
  (some (ab_up X 6 2 (nI 0))).bind fun X232 =>
  (some (ab_up X232 6 5 (nI 0))).bind fun X233 =>
  L_T_read_12 ab_fu X233 (nI 0)
set_option maxRecDepth 4000 in
theorem T_T_read (S : Nat × (Nat → Int32)) (w : ab_WW) (X : ab_XX) : ab_Eg (ab_m3 ab_fI w) S 166 (0, lv_args 0 [.ref 6], [], (X, w)) (F_T_read X) := by
  show ab_Eg (ab_m3 ab_fI w) S 166 (0, [(0, .ref 6)], [], (X, w)) _
  unfold F_T_read
  refine ab_e_go 3 (5, [(0, .ref 6)], [], ((ab_up X 6 2 (nI 0)), w)) rfl ?_
  refine ab_e_letX (fun X232 _ => ?_)
  refine ab_e_go 3 (10, [(0, .ref 6)], [], ((ab_up X232 6 5 (nI 0)), w)) rfl ?_
  refine ab_e_letX (fun X233 _ => ?_)
  refine ab_e_go 2 (12, [(1, .int (nI 0)), (0, .ref 6)], [], (X233, w)) rfl ?_
  refine ab_e_wk [(0, .ref 6), (1, .int (nI 0))] ⟨rfl, rfl, trivial⟩ ?_
  exact T_L_T_read_12 S w ab_fu X233 (nI 0)
def F_T_clear (X : ab_XX) : Option (Unit × ab_XX) :=
  (some (ab_up X 6 1 (nI 0))).bind fun X261 =>
  some ((), X261)
set_option maxRecDepth 4000 in
theorem T_T_clear (S : Nat × (Nat → Int32)) (w : ab_WW) (X : ab_XX) : ab_Eg (ab_m3 ab_fU w) S 5 (0, lv_args 0 [.ref 6], [], (X, w)) (F_T_clear X) := by
  show ab_Eg (ab_m3 ab_fU w) S 5 (0, [(0, .ref 6)], [], (X, w)) _
  unfold F_T_clear
  refine ab_e_go 3 (5, [(0, .ref 6)], [], ((ab_up X 6 1 (nI 0)), w)) rfl ?_
  refine ab_e_letX (fun X261 _ => ?_)
  exact ab_e_rt rfl rfl
def F_K_isRowAt_11 (a1 : Int32) : Option Int32 :=
  if a1 < nI 0 then
    some (nI 0)
  else
    if ((nI 453) - (nI 453)) < a1 then
      some (nI 0)
    else
      some (nI 1)
set_option maxRecDepth 4000 in
theorem T_K_isRowAt_11 (S : Nat × (Nat → Int32)) (w : ab_WW) (X : ab_XX) (a1 : Int32) : ab_Eg (ab_m1 ab_fI (X, w)) S 18 (0, lv_args 0 [.ref 11, .int a1], [], (X, w)) (F_K_isRowAt_11 a1) := by
  show ab_Eg (ab_m1 ab_fI (X, w)) S 18 (0, [(0, .ref 11), (1, .int a1)], [], (X, w)) _
  unfold F_K_isRowAt_11
  refine ab_e_go 3 (5, [(0, .ref 11), (1, .int a1)], [.int a1], (X, w)) rfl ?_
  refine ab_e_br (c := a1 < nI 0) (22, [(0, .ref 11), (1, .int a1)], [], (X, w)) (8, [(0, .ref 11), (1, .int a1)], [], (X, w)) rfl (fun _ => ?_) (fun _ => ?_)
  · refine ab_e_go 1 (23, [(0, .ref 11), (1, .int a1)], [.int (nI 0)], (X, w)) rfl ?_
    exact ab_e_rt rfl rfl
  · refine ab_e_go 5 (15, [(0, .ref 11), (1, .int a1)], [.int ((nI 453) - (nI 453)), .int a1], (X, w)) rfl ?_
    refine ab_e_br (c := ((nI 453) - (nI 453)) < a1) (22, [(0, .ref 11), (1, .int a1)], [], (X, w)) (18, [(0, .ref 11), (1, .int a1)], [], (X, w)) rfl (fun _ => ?_) (fun _ => ?_)
    · refine ab_e_go 1 (23, [(0, .ref 11), (1, .int a1)], [.int (nI 0)], (X, w)) rfl ?_
      exact ab_e_rt rfl rfl
    · refine ab_e_go 2 (23, [(0, .ref 11), (1, .int a1)], [.int (nI 1)], (X, w)) rfl ?_
      exact ab_e_rt rfl rfl
def F_K_copyRow_3_11 (X : ab_XX) (a1 : Int32) (a3 : Int32) : Option (Unit × ab_XX) :=
  (F_K_isRowAt_3 a1).bind fun v263 =>
  if v263 = nI 0 then
    some ((), X)
  else
    (F_K_isRowAt_11 a3).bind fun v264 =>
    if v264 = nI 0 then
      some ((), X)
    else
      if ¬ a1 < 0 ∧ ¬ a3 < 0 ∧ ¬ (nI 453) < 0 ∧ a1.toNatClampNeg + (nI 453).toNatClampNeg ≤ ab_len 3 ∧ a3.toNatClampNeg + (nI 453).toNatClampNeg ≤ ab_len 11 then
        (some (ab_cpy X 3 11 a1.toNatClampNeg a3.toNatClampNeg (nI 453).toNatClampNeg)).bind fun X265 =>
        some ((), X265)
      else none
set_option maxRecDepth 4000 in
theorem T_K_copyRow_3_11 (S : Nat × (Nat → Int32)) (w : ab_WW) (X : ab_XX) (a1 : Int32) (a3 : Int32) : ab_Eg (ab_m3 ab_fU w) S 60 (0, lv_args 0 [.ref 3, .int a1, .ref 11, .int a3], [], (X, w)) (F_K_copyRow_3_11 X a1 a3) := by
  show ab_Eg (ab_m3 ab_fU w) S 60 (0, [(0, .ref 3), (1, .int a1), (2, .ref 11), (3, .int a3)], [], (X, w)) _
  unfold F_K_copyRow_3_11
  refine ab_e_go 2 (2, [(0, .ref 3), (1, .int a1), (2, .ref 11), (3, .int a3)], [.int a1, .ref 3], (X, w)) rfl ?_
  refine ab_e_c1 (k2 := 18) (as := [.ref 3, .int a1]) (rest := []) rfl rfl (T_K_isRowAt_3 S w X a1) (fun v263 => ?_)
  refine ab_e_br (c := v263 = nI 0) (26, [(0, .ref 3), (1, .int a1), (2, .ref 11), (3, .int a3)], [], (X, w)) (8, [(0, .ref 3), (1, .int a1), (2, .ref 11), (3, .int a3)], [], (X, w)) rfl (fun _ => ?_) (fun _ => ?_)
  · exact ab_e_rt rfl rfl
  · refine ab_e_go 2 (10, [(0, .ref 3), (1, .int a1), (2, .ref 11), (3, .int a3)], [.int a3, .ref 11], (X, w)) rfl ?_
    refine ab_e_c1 (k2 := 18) (as := [.ref 11, .int a3]) (rest := []) rfl rfl (T_K_isRowAt_11 S w X a3) (fun v264 => ?_)
    refine ab_e_br (c := v264 = nI 0) (26, [(0, .ref 3), (1, .int a1), (2, .ref 11), (3, .int a3)], [], (X, w)) (16, [(0, .ref 3), (1, .int a1), (2, .ref 11), (3, .int a3)], [], (X, w)) rfl (fun _ => ?_) (fun _ => ?_)
    · exact ab_e_rt rfl rfl
    · refine ab_e_go 5 (23, [(0, .ref 3), (1, .int a1), (2, .ref 11), (3, .int a3)], [.int (nI 453), .int a3, .ref 11, .int a1, .ref 3], (X, w)) rfl ?_
      refine ab_e_gp (c := ¬ a1 < 0 ∧ ¬ a3 < 0 ∧ ¬ (nI 453) < 0 ∧ a1.toNatClampNeg + (nI 453).toNatClampNeg ≤ ab_len 3 ∧ a3.toNatClampNeg + (nI 453).toNatClampNeg ≤ ab_len 11) (26, [(0, .ref 3), (1, .int a1), (2, .ref 11), (3, .int a3)], [], ((ab_cpy X 3 11 a1.toNatClampNeg a3.toNatClampNeg (nI 453).toNatClampNeg), w)) rfl ?_
      refine ab_e_letX (fun X265 _ => ?_)
      exact ab_e_rt rfl rfl
def F_K_copyTo_11 (X : ab_XX) : Option (Unit × ab_XX) :=
  ab_b3 (F_K_copyRow_3_11 X (nI 0) (nI 0)) (fun _ X266 =>
    some ((), X266))
set_option maxRecDepth 4000 in
theorem T_K_copyTo_11 (S : Nat × (Nat → Int32)) (w : ab_WW) (X : ab_XX) : ab_Eg (ab_m3 ab_fU w) S 127 (0, lv_args 0 [.ref 2, .ref 11], [], (X, w)) (F_K_copyTo_11 X) := by
  show ab_Eg (ab_m3 ab_fU w) S 127 (0, [(0, .ref 2), (1, .ref 11)], [], (X, w)) _
  unfold F_K_copyTo_11
  refine ab_e_go 5 (7, [(0, .ref 2), (1, .ref 11)], [.int (nI 0), .ref 11, .int (nI 0), .ref 3], (X, w)) rfl ?_
  refine ab_e_c3 (k2 := 60) (as := [.ref 3, .int (nI 0), .ref 11, .int (nI 0)]) (rest := []) rfl rfl (T_K_copyRow_3_11 S w X (nI 0) (nI 0)) (fun _ X266 => ?_)
  exact ab_e_rt rfl rfl
def F_T_itemTotal (X : ab_XX) : Option Int32 :=
  some (X 6 5)
set_option maxRecDepth 4000 in
theorem T_T_itemTotal (S : Nat × (Nat → Int32)) (w : ab_WW) (X : ab_XX) : ab_Eg (ab_m1 ab_fI (X, w)) S 7 (0, lv_args 0 [.ref 6], [], (X, w)) (F_T_itemTotal X) := by
  show ab_Eg (ab_m1 ab_fI (X, w)) S 7 (0, [(0, .ref 6)], [], (X, w)) _
  unfold F_T_itemTotal
  refine ab_e_go 2 (4, [(0, .ref 6)], [.int (X 6 5)], (X, w)) rfl ?_
  exact ab_e_rt rfl rfl
def F_T_number (X : ab_XX) (a1 : Int32) (a2 : Int32) : Option Int32 :=
  if ((a1 * (nI 5)) + a2) < nI 0 then
    some (nI 0)
  else
    if nI 60 ≤ ((a1 * (nI 5)) + a2) then
      some (nI 0)
    else
      if ab_in ((a1 * (nI 5)) + a2) 60 = true then
        (some (X 9 ((a1 * (nI 5)) + a2).toNatClampNeg)).bind fun v269 =>
        some v269
      else none
set_option maxRecDepth 4000 in
theorem T_T_number (S : Nat × (Nat → Int32)) (w : ab_WW) (X : ab_XX) (a1 : Int32) (a2 : Int32) : ab_Eg (ab_m1 ab_fI (X, w)) S 10 (0, lv_args 0 [.ref 6, .int a1, .int a2], [], (X, w)) (F_T_number X a1 a2) := by
  show ab_Eg (ab_m1 ab_fI (X, w)) S 10 (0, [(0, .ref 6), (1, .int a1), (2, .int a2)], [], (X, w)) _
  unfold F_T_number
  refine ab_e_go 7 (7, [(3, .int ((a1 * (nI 5)) + a2)), (0, .ref 6), (1, .int a1), (2, .int a2)], [.int ((a1 * (nI 5)) + a2)], (X, w)) rfl ?_
  refine ab_e_br (c := ((a1 * (nI 5)) + a2) < nI 0) (28, [(3, .int ((a1 * (nI 5)) + a2)), (0, .ref 6), (1, .int a1), (2, .int a2)], [], (X, w)) (10, [(3, .int ((a1 * (nI 5)) + a2)), (0, .ref 6), (1, .int a1), (2, .int a2)], [], (X, w)) rfl (fun _ => ?_) (fun _ => ?_)
  · refine ab_e_go 1 (29, [(3, .int ((a1 * (nI 5)) + a2)), (0, .ref 6), (1, .int a1), (2, .int a2)], [.int (nI 0)], (X, w)) rfl ?_
    exact ab_e_rt rfl rfl
  · refine ab_e_go 4 (16, [(3, .int ((a1 * (nI 5)) + a2)), (0, .ref 6), (1, .int a1), (2, .int a2)], [.int (nI 60), .int ((a1 * (nI 5)) + a2)], (X, w)) rfl ?_
    refine ab_e_br (c := nI 60 ≤ ((a1 * (nI 5)) + a2)) (28, [(3, .int ((a1 * (nI 5)) + a2)), (0, .ref 6), (1, .int a1), (2, .int a2)], [], (X, w)) (19, [(3, .int ((a1 * (nI 5)) + a2)), (0, .ref 6), (1, .int a1), (2, .int a2)], [], (X, w)) rfl (fun _ => ?_) (fun _ => ?_)
    · refine ab_e_go 1 (29, [(3, .int ((a1 * (nI 5)) + a2)), (0, .ref 6), (1, .int a1), (2, .int a2)], [.int (nI 0)], (X, w)) rfl ?_
      exact ab_e_rt rfl rfl
    · refine ab_e_go 3 (24, [(3, .int ((a1 * (nI 5)) + a2)), (0, .ref 6), (1, .int a1), (2, .int a2)], [.int ((a1 * (nI 5)) + a2), .ref 9], (X, w)) rfl ?_
      refine ab_e_gd (25, [(3, .int ((a1 * (nI 5)) + a2)), (0, .ref 6), (1, .int a1), (2, .int a2)], [.int (X 9 ((a1 * (nI 5)) + a2).toNatClampNeg)], (X, w)) rfl ?_
      refine ab_e_letI (fun v269 _ => ?_)
      refine ab_e_go 1 (29, [(3, .int ((a1 * (nI 5)) + a2)), (0, .ref 6), (1, .int a1), (2, .int a2)], [.int v269], (X, w)) rfl ?_
      exact ab_e_rt rfl rfl
def F_T_kind (X : ab_XX) (a1 : Int32) : Option Int32 :=
  if a1 < nI 0 then
    some (-1 : Int32)
  else
    if nI 12 ≤ a1 then
      some (-1 : Int32)
    else
      if ab_in a1 12 = true then
        (some (X 8 a1.toNatClampNeg)).bind fun v275 =>
        some v275
      else none
set_option maxRecDepth 4000 in
theorem T_T_kind (S : Nat × (Nat → Int32)) (w : ab_WW) (X : ab_XX) (a1 : Int32) : ab_Eg (ab_m1 ab_fI (X, w)) S 8 (0, lv_args 0 [.ref 6, .int a1], [], (X, w)) (F_T_kind X a1) := by
  show ab_Eg (ab_m1 ab_fI (X, w)) S 8 (0, [(0, .ref 6), (1, .int a1)], [], (X, w)) _
  unfold F_T_kind
  refine ab_e_go 1 (1, [(0, .ref 6), (1, .int a1)], [.int a1], (X, w)) rfl ?_
  refine ab_e_br (c := a1 < nI 0) (22, [(0, .ref 6), (1, .int a1)], [], (X, w)) (4, [(0, .ref 6), (1, .int a1)], [], (X, w)) rfl (fun _ => ?_) (fun _ => ?_)
  · refine ab_e_go 1 (23, [(0, .ref 6), (1, .int a1)], [.int (-1 : Int32)], (X, w)) rfl ?_
    exact ab_e_rt rfl rfl
  · refine ab_e_go 4 (10, [(0, .ref 6), (1, .int a1)], [.int (nI 12), .int a1], (X, w)) rfl ?_
    refine ab_e_br (c := nI 12 ≤ a1) (22, [(0, .ref 6), (1, .int a1)], [], (X, w)) (13, [(0, .ref 6), (1, .int a1)], [], (X, w)) rfl (fun _ => ?_) (fun _ => ?_)
    · refine ab_e_go 1 (23, [(0, .ref 6), (1, .int a1)], [.int (-1 : Int32)], (X, w)) rfl ?_
      exact ab_e_rt rfl rfl
    · refine ab_e_go 3 (18, [(0, .ref 6), (1, .int a1)], [.int a1, .ref 8], (X, w)) rfl ?_
      refine ab_e_gd (19, [(0, .ref 6), (1, .int a1)], [.int (X 8 a1.toNatClampNeg)], (X, w)) rfl ?_
      refine ab_e_letI (fun v275 _ => ?_)
      refine ab_e_go 1 (23, [(0, .ref 6), (1, .int a1)], [.int v275], (X, w)) rfl ?_
      exact ab_e_rt rfl rfl
def F_K_isPair (X : ab_XX) (a1 : Int32) (a2 : Int32) : Option Int32 :=
  (F_K_isWorker X a1).bind fun v285 =>
  if v285 = nI 0 then
    some (nI 0)
  else
    (F_K_isShift X a2).bind fun v286 =>
    if v286 = nI 0 then
      some (nI 0)
    else
      some (nI 1)
set_option maxRecDepth 4000 in
theorem T_K_isPair (S : Nat × (Nat → Int32)) (w : ab_WW) (X : ab_XX) (a1 : Int32) (a2 : Int32) : ab_Eg (ab_m1 ab_fI (X, w)) S 69 (0, lv_args 0 [.ref 2, .int a1, .int a2], [], (X, w)) (F_K_isPair X a1 a2) := by
  show ab_Eg (ab_m1 ab_fI (X, w)) S 69 (0, [(0, .ref 2), (1, .int a1), (2, .int a2)], [], (X, w)) _
  unfold F_K_isPair
  refine ab_e_go 2 (2, [(0, .ref 2), (1, .int a1), (2, .int a2)], [.int a1, .ref 2], (X, w)) rfl ?_
  refine ab_e_c1 (k2 := 21) (as := [.ref 2, .int a1]) (rest := []) rfl rfl (T_K_isWorker S w X a1) (fun v285 => ?_)
  refine ab_e_br (c := v285 = nI 0) (20, [(0, .ref 2), (1, .int a1), (2, .int a2)], [], (X, w)) (8, [(0, .ref 2), (1, .int a1), (2, .int a2)], [], (X, w)) rfl (fun _ => ?_) (fun _ => ?_)
  · refine ab_e_go 1 (21, [(0, .ref 2), (1, .int a1), (2, .int a2)], [.int (nI 0)], (X, w)) rfl ?_
    exact ab_e_rt rfl rfl
  · refine ab_e_go 2 (10, [(0, .ref 2), (1, .int a1), (2, .int a2)], [.int a2, .ref 2], (X, w)) rfl ?_
    refine ab_e_c1 (k2 := 19) (as := [.ref 2, .int a2]) (rest := []) rfl rfl (T_K_isShift S w X a2) (fun v286 => ?_)
    refine ab_e_br (c := v286 = nI 0) (20, [(0, .ref 2), (1, .int a1), (2, .int a2)], [], (X, w)) (16, [(0, .ref 2), (1, .int a1), (2, .int a2)], [], (X, w)) rfl (fun _ => ?_) (fun _ => ?_)
    · refine ab_e_go 1 (21, [(0, .ref 2), (1, .int a1), (2, .int a2)], [.int (nI 0)], (X, w)) rfl ?_
      exact ab_e_rt rfl rfl
    · refine ab_e_go 2 (21, [(0, .ref 2), (1, .int a1), (2, .int a2)], [.int (nI 1)], (X, w)) rfl ?_
      exact ab_e_rt rfl rfl
def F_C_carryOut (X : ab_XX) (a1 : Int32) : Option (Int32 × ab_XX) :=
  (F_T_number X a1 (nI 0)).bind fun v270 =>
  (F_T_number X a1 (nI 1)).bind fun v271 =>
  (F_T_number X a1 (nI 2)).bind fun v272 =>
  (F_T_number X a1 (nI 3)).bind fun v273 =>
  (F_T_number X a1 (nI 4)).bind fun v274 =>
  (F_T_kind X a1).bind fun v276 =>
  if v276 = nI 115 then
    (F_K_isShiftInRange v270 v271 v272 v273 v274).bind fun v277 =>
    if v277 = nI 0 then
      some (nI 0, X)
    else
      (F_K_hasRoomForShift X).bind fun v278 =>
      if v278 = nI 0 then
        some (nI 0, X)
      else
        ab_b3 (F_K_enterShift X v270 v271 v272 v273 v274) (fun v279 X280 =>
          some (nI 1, X280))
  else if v276 = nI 119 then
    (F_K_isWorkerInRange v270 v271 v272 v273 v274).bind fun v281 =>
    if v281 = nI 0 then
      some (nI 0, X)
    else
      (F_K_hasRoomForWorker X).bind fun v282 =>
      if v282 = nI 0 then
        some (nI 0, X)
      else
        ab_b3 (F_K_enterWorker X v270 v271 v272 v273 v274) (fun v283 X284 =>
          some (nI 1, X284))
  else
    (F_K_isPair X v270 v271).bind fun v287 =>
    if v287 = nI 0 then
      some (nI 0, X)
    else
      (F_K_isBidInRange v272).bind fun v288 =>
      if v288 = nI 0 then
        some (nI 0, X)
      else
        (F_K_hasRoomForBid X v270 v271 v272).bind fun v289 =>
        if v289 = nI 0 then
          some (nI 0, X)
        else
          ab_b3 (F_K_enterBid X v270 v271 v272) (fun v290 X291 =>
            some (nI 1, X291))
set_option maxRecDepth 4000 in
theorem T_C_carryOut (S : Nat × (Nat → Int32)) (w : ab_WW) (X : ab_XX) (a1 : Int32) : ab_Eg (ab_m3 ab_fI w) S 157 (0, lv_args 0 [.ref 0, .int a1], [], (X, w)) (F_C_carryOut X a1) := by
  show ab_Eg (ab_m3 ab_fI w) S 157 (0, [(0, .ref 0), (1, .int a1)], [], (X, w)) _
  unfold F_C_carryOut
  refine ab_e_go 4 (6, [(0, .ref 0), (1, .int a1)], [.int (nI 0), .int a1, .ref 6], (X, w)) rfl ?_
  refine ab_e_c1 (k2 := 10) (as := [.ref 6, .int a1, .int (nI 0)]) (rest := []) rfl rfl (T_T_number S w X a1 (nI 0)) (fun v270 => ?_)
  refine ab_e_go 5 (16, [(2, .int v270), (0, .ref 0), (1, .int a1)], [.int (nI 1), .int a1, .ref 6], (X, w)) rfl ?_
  refine ab_e_c1 (k2 := 10) (as := [.ref 6, .int a1, .int (nI 1)]) (rest := []) rfl rfl (T_T_number S w X a1 (nI 1)) (fun v271 => ?_)
  refine ab_e_go 5 (26, [(3, .int v271), (2, .int v270), (0, .ref 0), (1, .int a1)], [.int (nI 2), .int a1, .ref 6], (X, w)) rfl ?_
  refine ab_e_c1 (k2 := 10) (as := [.ref 6, .int a1, .int (nI 2)]) (rest := []) rfl rfl (T_T_number S w X a1 (nI 2)) (fun v272 => ?_)
  refine ab_e_go 5 (37, [(4, .int v272), (3, .int v271), (2, .int v270), (0, .ref 0), (1, .int a1)], [.int (nI 3), .int a1, .ref 6], (X, w)) rfl ?_
  refine ab_e_c1 (k2 := 10) (as := [.ref 6, .int a1, .int (nI 3)]) (rest := []) rfl rfl (T_T_number S w X a1 (nI 3)) (fun v273 => ?_)
  refine ab_e_go 5 (48, [(5, .int v273), (4, .int v272), (3, .int v271), (2, .int v270), (0, .ref 0), (1, .int a1)], [.int (nI 4), .int a1, .ref 6], (X, w)) rfl ?_
  refine ab_e_c1 (k2 := 10) (as := [.ref 6, .int a1, .int (nI 4)]) (rest := []) rfl rfl (T_T_number S w X a1 (nI 4)) (fun v274 => ?_)
  refine ab_e_go 4 (58, [(6, .int v274), (5, .int v273), (4, .int v272), (3, .int v271), (2, .int v270), (0, .ref 0), (1, .int a1)], [.int a1, .ref 6], (X, w)) rfl ?_
  refine ab_e_c1 (k2 := 8) (as := [.ref 6, .int a1]) (rest := []) rfl rfl (T_T_kind S w X a1) (fun v276 => ?_)
  refine ab_e_go 1 (ab_lsw v276 176, [(6, .int v274), (5, .int v273), (4, .int v272), (3, .int v271), (2, .int v270), (0, .ref 0), (1, .int a1)], [], (X, w)) rfl ?_
  refine ab_e_ls ?_ ?_ ?_
  · refine ab_e_go 5 (140, [(6, .int v274), (5, .int v273), (4, .int v272), (3, .int v271), (2, .int v270), (0, .ref 0), (1, .int a1)], [.int v274, .int v273, .int v272, .int v271, .int v270], (X, w)) rfl ?_
    refine ab_e_c1 (k2 := 70) (as := [.int v270, .int v271, .int v272, .int v273, .int v274]) (rest := []) rfl rfl (T_K_isShiftInRange S w X v270 v271 v272 v273 v274) (fun v277 => ?_)
    refine ab_e_br (c := v277 = nI 0) (156, [(6, .int v274), (5, .int v273), (4, .int v272), (3, .int v271), (2, .int v270), (0, .ref 0), (1, .int a1)], [], (X, w)) (146, [(6, .int v274), (5, .int v273), (4, .int v272), (3, .int v271), (2, .int v270), (0, .ref 0), (1, .int a1)], [], (X, w)) rfl (fun _ => ?_) (fun _ => ?_)
    · refine ab_e_go 1 (157, [(6, .int v274), (5, .int v273), (4, .int v272), (3, .int v271), (2, .int v270), (0, .ref 0), (1, .int a1)], [.int (nI 0)], (X, w)) rfl ?_
      exact ab_e_rt rfl rfl
    · refine ab_e_go 2 (150, [(6, .int v274), (5, .int v273), (4, .int v272), (3, .int v271), (2, .int v270), (0, .ref 0), (1, .int a1)], [.ref 2], (X, w)) rfl ?_
      refine ab_e_c1 (k2 := 14) (as := [.ref 2]) (rest := []) rfl rfl (T_K_hasRoomForShift S w X) (fun v278 => ?_)
      refine ab_e_bn (c := v278 = nI 0) (158, [(6, .int v274), (5, .int v273), (4, .int v272), (3, .int v271), (2, .int v270), (0, .ref 0), (1, .int a1)], [], (X, w)) (156, [(6, .int v274), (5, .int v273), (4, .int v272), (3, .int v271), (2, .int v270), (0, .ref 0), (1, .int a1)], [], (X, w)) rfl (fun _ => ?_) (fun _ => ?_)
      · refine ab_e_go 7 (170, [(6, .int v274), (5, .int v273), (4, .int v272), (3, .int v271), (2, .int v270), (0, .ref 0), (1, .int a1)], [.int v274, .int v273, .int v272, .int v271, .int v270, .ref 2], (X, w)) rfl ?_
        refine ab_e_c3 (k2 := 64) (as := [.ref 2, .int v270, .int v271, .int v272, .int v273, .int v274]) (rest := []) rfl rfl (T_K_enterShift S w X v270 v271 v272 v273 v274) (fun v279 X280 => ?_)
        refine ab_e_go 2 (175, [(6, .int v274), (5, .int v273), (4, .int v272), (3, .int v271), (2, .int v270), (0, .ref 0), (1, .int a1)], [.int (nI 1)], (X280, w)) rfl ?_
        exact ab_e_rt rfl rfl
      · refine ab_e_go 1 (157, [(6, .int v274), (5, .int v273), (4, .int v272), (3, .int v271), (2, .int v270), (0, .ref 0), (1, .int a1)], [.int (nI 0)], (X, w)) rfl ?_
        exact ab_e_rt rfl rfl
  · refine ab_e_go 5 (96, [(6, .int v274), (5, .int v273), (4, .int v272), (3, .int v271), (2, .int v270), (0, .ref 0), (1, .int a1)], [.int v274, .int v273, .int v272, .int v271, .int v270], (X, w)) rfl ?_
    refine ab_e_c1 (k2 := 71) (as := [.int v270, .int v271, .int v272, .int v273, .int v274]) (rest := []) rfl rfl (T_K_isWorkerInRange S w X v270 v271 v272 v273 v274) (fun v281 => ?_)
    refine ab_e_br (c := v281 = nI 0) (112, [(6, .int v274), (5, .int v273), (4, .int v272), (3, .int v271), (2, .int v270), (0, .ref 0), (1, .int a1)], [], (X, w)) (102, [(6, .int v274), (5, .int v273), (4, .int v272), (3, .int v271), (2, .int v270), (0, .ref 0), (1, .int a1)], [], (X, w)) rfl (fun _ => ?_) (fun _ => ?_)
    · refine ab_e_go 1 (113, [(6, .int v274), (5, .int v273), (4, .int v272), (3, .int v271), (2, .int v270), (0, .ref 0), (1, .int a1)], [.int (nI 0)], (X, w)) rfl ?_
      exact ab_e_rt rfl rfl
    · refine ab_e_go 2 (106, [(6, .int v274), (5, .int v273), (4, .int v272), (3, .int v271), (2, .int v270), (0, .ref 0), (1, .int a1)], [.ref 2], (X, w)) rfl ?_
      refine ab_e_c1 (k2 := 15) (as := [.ref 2]) (rest := []) rfl rfl (T_K_hasRoomForWorker S w X) (fun v282 => ?_)
      refine ab_e_bn (c := v282 = nI 0) (114, [(6, .int v274), (5, .int v273), (4, .int v272), (3, .int v271), (2, .int v270), (0, .ref 0), (1, .int a1)], [], (X, w)) (112, [(6, .int v274), (5, .int v273), (4, .int v272), (3, .int v271), (2, .int v270), (0, .ref 0), (1, .int a1)], [], (X, w)) rfl (fun _ => ?_) (fun _ => ?_)
      · refine ab_e_go 7 (126, [(6, .int v274), (5, .int v273), (4, .int v272), (3, .int v271), (2, .int v270), (0, .ref 0), (1, .int a1)], [.int v274, .int v273, .int v272, .int v271, .int v270, .ref 2], (X, w)) rfl ?_
        refine ab_e_c3 (k2 := 65) (as := [.ref 2, .int v270, .int v271, .int v272, .int v273, .int v274]) (rest := []) rfl rfl (T_K_enterWorker S w X v270 v271 v272 v273 v274) (fun v283 X284 => ?_)
        refine ab_e_go 2 (131, [(6, .int v274), (5, .int v273), (4, .int v272), (3, .int v271), (2, .int v270), (0, .ref 0), (1, .int a1)], [.int (nI 1)], (X284, w)) rfl ?_
        exact ab_e_rt rfl rfl
      · refine ab_e_go 1 (113, [(6, .int v274), (5, .int v273), (4, .int v272), (3, .int v271), (2, .int v270), (0, .ref 0), (1, .int a1)], [.int (nI 0)], (X, w)) rfl ?_
        exact ab_e_rt rfl rfl
  · refine ab_e_go 4 (182, [(6, .int v274), (5, .int v273), (4, .int v272), (3, .int v271), (2, .int v270), (0, .ref 0), (1, .int a1)], [.int v271, .int v270, .ref 2], (X, w)) rfl ?_
    refine ab_e_c1 (k2 := 69) (as := [.ref 2, .int v270, .int v271]) (rest := []) rfl rfl (T_K_isPair S w X v270 v271) (fun v287 => ?_)
    refine ab_e_br (c := v287 = nI 0) (210, [(6, .int v274), (5, .int v273), (4, .int v272), (3, .int v271), (2, .int v270), (0, .ref 0), (1, .int a1)], [], (X, w)) (188, [(6, .int v274), (5, .int v273), (4, .int v272), (3, .int v271), (2, .int v270), (0, .ref 0), (1, .int a1)], [], (X, w)) rfl (fun _ => ?_) (fun _ => ?_)
    · refine ab_e_go 1 (211, [(6, .int v274), (5, .int v273), (4, .int v272), (3, .int v271), (2, .int v270), (0, .ref 0), (1, .int a1)], [.int (nI 0)], (X, w)) rfl ?_
      exact ab_e_rt rfl rfl
    · refine ab_e_go 1 (190, [(6, .int v274), (5, .int v273), (4, .int v272), (3, .int v271), (2, .int v270), (0, .ref 0), (1, .int a1)], [.int v272], (X, w)) rfl ?_
      refine ab_e_c1 (k2 := 68) (as := [.int v272]) (rest := []) rfl rfl (T_K_isBidInRange S w X v272) (fun v288 => ?_)
      refine ab_e_br (c := v288 = nI 0) (210, [(6, .int v274), (5, .int v273), (4, .int v272), (3, .int v271), (2, .int v270), (0, .ref 0), (1, .int a1)], [], (X, w)) (196, [(6, .int v274), (5, .int v273), (4, .int v272), (3, .int v271), (2, .int v270), (0, .ref 0), (1, .int a1)], [], (X, w)) rfl (fun _ => ?_) (fun _ => ?_)
      · refine ab_e_go 1 (211, [(6, .int v274), (5, .int v273), (4, .int v272), (3, .int v271), (2, .int v270), (0, .ref 0), (1, .int a1)], [.int (nI 0)], (X, w)) rfl ?_
        exact ab_e_rt rfl rfl
      · refine ab_e_go 5 (204, [(6, .int v274), (5, .int v273), (4, .int v272), (3, .int v271), (2, .int v270), (0, .ref 0), (1, .int a1)], [.int v272, .int v271, .int v270, .ref 2], (X, w)) rfl ?_
        refine ab_e_c1 (k2 := 129) (as := [.ref 2, .int v270, .int v271, .int v272]) (rest := []) rfl rfl (T_K_hasRoomForBid S w X v270 v271 v272) (fun v289 => ?_)
        refine ab_e_bn (c := v289 = nI 0) (212, [(6, .int v274), (5, .int v273), (4, .int v272), (3, .int v271), (2, .int v270), (0, .ref 0), (1, .int a1)], [], (X, w)) (210, [(6, .int v274), (5, .int v273), (4, .int v272), (3, .int v271), (2, .int v270), (0, .ref 0), (1, .int a1)], [], (X, w)) rfl (fun _ => ?_) (fun _ => ?_)
        · refine ab_e_go 5 (220, [(6, .int v274), (5, .int v273), (4, .int v272), (3, .int v271), (2, .int v270), (0, .ref 0), (1, .int a1)], [.int v272, .int v271, .int v270, .ref 2], (X, w)) rfl ?_
          refine ab_e_c3 (k2 := 62) (as := [.ref 2, .int v270, .int v271, .int v272]) (rest := []) rfl rfl (T_K_enterBid S w X v270 v271 v272) (fun v290 X291 => ?_)
          refine ab_e_go 2 (225, [(6, .int v274), (5, .int v273), (4, .int v272), (3, .int v271), (2, .int v270), (0, .ref 0), (1, .int a1)], [.int (nI 1)], (X291, w)) rfl ?_
          exact ab_e_rt rfl rfl
        · refine ab_e_go 1 (211, [(6, .int v274), (5, .int v273), (4, .int v272), (3, .int v271), (2, .int v270), (0, .ref 0), (1, .int a1)], [.int (nI 0)], (X, w)) rfl ?_
          exact ab_e_rt rfl rfl
