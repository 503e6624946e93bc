/-! ===== what the methods of the class compute, part 2 (by program: wip/whole/tools/dec.py) ===== -/
def F_K_hasRoomForShift (X : ab_XX) : Option Int32 :=
  if nI 16 ≤ X 3 1 then
    some (nI 0)
  else
    some (nI 1)
set_option maxRecDepth 4000 in
theorem T_K_hasRoomForShift (S : Nat × (Nat → Int32)) (w : ab_WW) (X : ab_XX) : ab_Eg (ab_m1 ab_fI (X, w)) S 14 (0, lv_args 0 [.ref 2], [], (X, w)) (F_K_hasRoomForShift X) := by
  show ab_Eg (ab_m1 ab_fI (X, w)) S 14 (0, [(0, .ref 2)], [], (X, w)) _
  unfold F_K_hasRoomForShift
  refine ab_e_go 5 (8, [(0, .ref 2)], [.int (nI 16), .int (X 3 1)], (X, w)) rfl ?_
  refine ab_e_br (c := nI 16 ≤ X 3 1) (15, [(0, .ref 2)], [], (X, w)) (11, [(0, .ref 2)], [], (X, w)) rfl (fun _ => ?_) (fun _ => ?_)
  · refine ab_e_go 1 (16, [(0, .ref 2)], [.int (nI 0)], (X, w)) rfl ?_
    exact ab_e_rt rfl rfl
  · refine ab_e_go 2 (16, [(0, .ref 2)], [.int (nI 1)], (X, w)) rfl ?_
    exact ab_e_rt rfl rfl
def F_K_isRowAt_3 (a1 : Int32) : Option Int32 :=
  if a1 < nI 0 then
    some (nI 0)
  else
    if ((nI 453) - (nI 453)) < a1 then
      some (nI 0)
    else
      some (nI 1)
set_option maxRecDepth 4000 in
theorem T_K_isRowAt_3 (S : Nat × (Nat → Int32)) (w : ab_WW) (X : ab_XX) (a1 : Int32) : ab_Eg (ab_m1 ab_fI (X, w)) S 18 (0, lv_args 0 [.ref 3, .int a1], [], (X, w)) (F_K_isRowAt_3 a1) := by
  show ab_Eg (ab_m1 ab_fI (X, w)) S 18 (0, [(0, .ref 3), (1, .int a1)], [], (X, w)) _
  unfold F_K_isRowAt_3
  refine ab_e_go 3 (5, [(0, .ref 3), (1, .int a1)], [.int a1], (X, w)) rfl ?_
  refine ab_e_br (c := a1 < nI 0) (22, [(0, .ref 3), (1, .int a1)], [], (X, w)) (8, [(0, .ref 3), (1, .int a1)], [], (X, w)) rfl (fun _ => ?_) (fun _ => ?_)
  · refine ab_e_go 1 (23, [(0, .ref 3), (1, .int a1)], [.int (nI 0)], (X, w)) rfl ?_
    exact ab_e_rt rfl rfl
  · refine ab_e_go 5 (15, [(0, .ref 3), (1, .int a1)], [.int ((nI 453) - (nI 453)), .int a1], (X, w)) rfl ?_
    refine ab_e_br (c := ((nI 453) - (nI 453)) < a1) (22, [(0, .ref 3), (1, .int a1)], [], (X, w)) (18, [(0, .ref 3), (1, .int a1)], [], (X, w)) rfl (fun _ => ?_) (fun _ => ?_)
    · refine ab_e_go 1 (23, [(0, .ref 3), (1, .int a1)], [.int (nI 0)], (X, w)) rfl ?_
      exact ab_e_rt rfl rfl
    · refine ab_e_go 2 (23, [(0, .ref 3), (1, .int a1)], [.int (nI 1)], (X, w)) rfl ?_
      exact ab_e_rt rfl rfl
def F_K_isRowAt_5 (a1 : Int32) : Option Int32 :=
  if a1 < nI 0 then
    some (nI 0)
  else
    if ((nI 3624) - (nI 453)) < a1 then
      some (nI 0)
    else
      some (nI 1)
set_option maxRecDepth 4000 in
theorem T_K_isRowAt_5 (S : Nat × (Nat → Int32)) (w : ab_WW) (X : ab_XX) (a1 : Int32) : ab_Eg (ab_m1 ab_fI (X, w)) S 18 (0, lv_args 0 [.ref 5, .int a1], [], (X, w)) (F_K_isRowAt_5 a1) := by
  show ab_Eg (ab_m1 ab_fI (X, w)) S 18 (0, [(0, .ref 5), (1, .int a1)], [], (X, w)) _
  unfold F_K_isRowAt_5
  refine ab_e_go 3 (5, [(0, .ref 5), (1, .int a1)], [.int a1], (X, w)) rfl ?_
  refine ab_e_br (c := a1 < nI 0) (22, [(0, .ref 5), (1, .int a1)], [], (X, w)) (8, [(0, .ref 5), (1, .int a1)], [], (X, w)) rfl (fun _ => ?_) (fun _ => ?_)
  · refine ab_e_go 1 (23, [(0, .ref 5), (1, .int a1)], [.int (nI 0)], (X, w)) rfl ?_
    exact ab_e_rt rfl rfl
  · refine ab_e_go 5 (15, [(0, .ref 5), (1, .int a1)], [.int ((nI 3624) - (nI 453)), .int a1], (X, w)) rfl ?_
    refine ab_e_br (c := ((nI 3624) - (nI 453)) < a1) (22, [(0, .ref 5), (1, .int a1)], [], (X, w)) (18, [(0, .ref 5), (1, .int a1)], [], (X, w)) rfl (fun _ => ?_) (fun _ => ?_)
    · refine ab_e_go 1 (23, [(0, .ref 5), (1, .int a1)], [.int (nI 0)], (X, w)) rfl ?_
      exact ab_e_rt rfl rfl
    · refine ab_e_go 2 (23, [(0, .ref 5), (1, .int a1)], [.int (nI 1)], (X, w)) rfl ?_
      exact ab_e_rt rfl rfl
def F_K_copyRow_3_5 (X : ab_XX) (a1 : Int32) (a3 : Int32) : Option (Unit × ab_XX) :=
  (F_K_isRowAt_3 a1).bind fun v65 =>
  if v65 = nI 0 then
    some ((), X)
  else
    (F_K_isRowAt_5 a3).bind fun v66 =>
    if v66 = nI 0 then
      some ((), X)
    else
      if ¬ a1 < 0 ∧ ¬ a3 < 0 ∧ ¬ (nI 453) < 0 ∧ a1.toNatClampNeg + (nI 453).toNatClampNeg ≤ ab_len 3 ∧ a3.toNatClampNeg + (nI 453).toNatClampNeg ≤ ab_len 5 then
        (some (ab_cpy X 3 5 a1.toNatClampNeg a3.toNatClampNeg (nI 453).toNatClampNeg)).bind fun X67 =>
        some ((), X67)
      else none
set_option maxRecDepth 4000 in
theorem T_K_copyRow_3_5 (S : Nat × (Nat → Int32)) (w : ab_WW) (X : ab_XX) (a1 : Int32) (a3 : Int32) : ab_Eg (ab_m3 ab_fU w) S 60 (0, lv_args 0 [.ref 3, .int a1, .ref 5, .int a3], [], (X, w)) (F_K_copyRow_3_5 X a1 a3) := by
  show ab_Eg (ab_m3 ab_fU w) S 60 (0, [(0, .ref 3), (1, .int a1), (2, .ref 5), (3, .int a3)], [], (X, w)) _
  unfold F_K_copyRow_3_5
  refine ab_e_go 2 (2, [(0, .ref 3), (1, .int a1), (2, .ref 5), (3, .int a3)], [.int a1, .ref 3], (X, w)) rfl ?_
  refine ab_e_c1 (k2 := 18) (as := [.ref 3, .int a1]) (rest := []) rfl rfl (T_K_isRowAt_3 S w X a1) (fun v65 => ?_)
  refine ab_e_br (c := v65 = nI 0) (26, [(0, .ref 3), (1, .int a1), (2, .ref 5), (3, .int a3)], [], (X, w)) (8, [(0, .ref 3), (1, .int a1), (2, .ref 5), (3, .int a3)], [], (X, w)) rfl (fun _ => ?_) (fun _ => ?_)
  · exact ab_e_rt rfl rfl
  · refine ab_e_go 2 (10, [(0, .ref 3), (1, .int a1), (2, .ref 5), (3, .int a3)], [.int a3, .ref 5], (X, w)) rfl ?_
    refine ab_e_c1 (k2 := 18) (as := [.ref 5, .int a3]) (rest := []) rfl rfl (T_K_isRowAt_5 S w X a3) (fun v66 => ?_)
    refine ab_e_br (c := v66 = nI 0) (26, [(0, .ref 3), (1, .int a1), (2, .ref 5), (3, .int a3)], [], (X, w)) (16, [(0, .ref 3), (1, .int a1), (2, .ref 5), (3, .int a3)], [], (X, w)) rfl (fun _ => ?_) (fun _ => ?_)
    · exact ab_e_rt rfl rfl
    · refine ab_e_go 5 (23, [(0, .ref 3), (1, .int a1), (2, .ref 5), (3, .int a3)], [.int (nI 453), .int a3, .ref 5, .int a1, .ref 3], (X, w)) rfl ?_
      refine ab_e_gp (c := ¬ a1 < 0 ∧ ¬ a3 < 0 ∧ ¬ (nI 453) < 0 ∧ a1.toNatClampNeg + (nI 453).toNatClampNeg ≤ ab_len 3 ∧ a3.toNatClampNeg + (nI 453).toNatClampNeg ≤ ab_len 5) (26, [(0, .ref 3), (1, .int a1), (2, .ref 5), (3, .int a3)], [], ((ab_cpy X 3 5 a1.toNatClampNeg a3.toNatClampNeg (nI 453).toNatClampNeg), w)) rfl ?_
      refine ab_e_letX (fun X67 _ => ?_)
      exact ab_e_rt rfl rfl
def F_H_remember_3 (X : ab_XX) : Option (Unit × ab_XX) :=
  ab_b3 (F_K_copyRow_3_5 X (nI 0) ((X 4 1) * (nI 453))) (fun _ X68 =>
    (some (ab_up X68 4 1 (((X68 4 1) + (nI 1)) - ((X68 4 1) + (nI 1)) / (nI 8) * (nI 8)))).bind fun X69 =>
    (some (ab_up X69 4 2 (if nI 8 < ((X69 4 2) + (nI 1)) then nI 8 else ((X69 4 2) + (nI 1))))).bind fun X70 =>
    some ((), X70))
set_option maxRecDepth 4000 in
theorem T_H_remember_3 (S : Nat × (Nat → Int32)) (w : ab_WW) (X : ab_XX) : ab_Eg (ab_m3 ab_fU w) S 123 (0, lv_args 0 [.ref 4, .ref 3], [], (X, w)) (F_H_remember_3 X) := by
  show ab_Eg (ab_m3 ab_fU w) S 123 (0, [(0, .ref 4), (1, .ref 3)], [], (X, w)) _
  unfold F_H_remember_3
  refine ab_e_go 8 (14, [(0, .ref 4), (1, .ref 3)], [.int ((X 4 1) * (nI 453)), .ref 5, .int (nI 0), .ref 3], (X, w)) rfl ?_
  refine ab_e_c3 (k2 := 60) (as := [.ref 3, .int (nI 0), .ref 5, .int ((X 4 1) * (nI 453))]) (rest := []) rfl rfl (T_K_copyRow_3_5 S w X (nI 0) ((X 4 1) * (nI 453))) (fun _ X68 => ?_)
  refine ab_e_go 8 (30, [(0, .ref 4), (1, .ref 3)], [], ((ab_up X68 4 1 (((X68 4 1) + (nI 1)) - ((X68 4 1) + (nI 1)) / (nI 8) * (nI 8))), w)) rfl ?_
  refine ab_e_letX (fun X69 _ => ?_)
  refine ab_e_go 8 (45, [(0, .ref 4), (1, .ref 3)], [], ((ab_up X69 4 2 (if nI 8 < ((X69 4 2) + (nI 1)) then nI 8 else ((X69 4 2) + (nI 1)))), w)) rfl ?_
  refine ab_e_letX (fun X70 _ => ?_)
  exact ab_e_rt rfl rfl
def F_K_put (X : ab_XX) (a1 : Int32) (a2 : Int32) : Option (Unit × ab_XX) :=
  if a1 < nI 0 then
    some ((), X)
  else
    if nI 453 ≤ a1 then
      some ((), X)
    else
      if ab_in a1 453 = true then
        (some (ab_up X 3 a1.toNatClampNeg a2)).bind fun X72 =>
        some ((), X72)
      else none
set_option maxRecDepth 4000 in
theorem T_K_put (S : Nat × (Nat → Int32)) (w : ab_WW) (X : ab_XX) (a1 : Int32) (a2 : Int32) : ab_Eg (ab_m3 ab_fU w) S 23 (0, lv_args 0 [.ref 2, .int a1, .int a2], [], (X, w)) (F_K_put X a1 a2) := by
  show ab_Eg (ab_m3 ab_fU w) S 23 (0, [(0, .ref 2), (1, .int a1), (2, .int a2)], [], (X, w)) _
  unfold F_K_put
  refine ab_e_go 1 (1, [(0, .ref 2), (1, .int a1), (2, .int a2)], [.int a1], (X, w)) rfl ?_
  refine ab_e_br (c := a1 < nI 0) (20, [(0, .ref 2), (1, .int a1), (2, .int a2)], [], (X, w)) (4, [(0, .ref 2), (1, .int a1), (2, .int a2)], [], (X, w)) rfl (fun _ => ?_) (fun _ => ?_)
  · exact ab_e_rt rfl rfl
  · refine ab_e_go 4 (10, [(0, .ref 2), (1, .int a1), (2, .int a2)], [.int (nI 453), .int a1], (X, w)) rfl ?_
    refine ab_e_br (c := nI 453 ≤ a1) (20, [(0, .ref 2), (1, .int a1), (2, .int a2)], [], (X, w)) (13, [(0, .ref 2), (1, .int a1), (2, .int a2)], [], (X, w)) rfl (fun _ => ?_) (fun _ => ?_)
    · exact ab_e_rt rfl rfl
    · refine ab_e_go 4 (19, [(0, .ref 2), (1, .int a1), (2, .int a2)], [.int a2, .int a1, .ref 3], (X, w)) rfl ?_
      refine ab_e_gd (20, [(0, .ref 2), (1, .int a1), (2, .int a2)], [], ((ab_up X 3 a1.toNatClampNeg a2), w)) rfl ?_
      refine ab_e_letX (fun X72 _ => ?_)
      exact ab_e_rt rfl rfl
def F_K_enterShift (X : ab_XX) (a1 : Int32) (a2 : Int32) (a3 : Int32) (a4 : Int32) (a5 : Int32) : Option (Int32 × ab_XX) :=
  ab_b3 (F_K_put X (((nI 53) + ((X 3 1) * (nI 9))) + (nI 0)) a1) (fun _ X73 =>
    ab_b3 (F_K_put X73 (((nI 53) + ((X 3 1) * (nI 9))) + (nI 1)) a2) (fun _ X74 =>
      ab_b3 (F_K_put X74 (((nI 53) + ((X 3 1) * (nI 9))) + (nI 2)) a3) (fun _ X75 =>
        ab_b3 (F_K_put X75 (((nI 53) + ((X 3 1) * (nI 9))) + (nI 3)) a4) (fun _ X76 =>
          ab_b3 (F_K_put X76 (((nI 53) + ((X 3 1) * (nI 9))) + (nI 4)) a5) (fun _ X77 =>
            ab_b3 (F_K_put X77 (((nI 53) + ((X 3 1) * (nI 9))) + (nI 5)) (nI 0)) (fun _ X78 =>
              ab_b3 (F_K_put X78 (((nI 53) + ((X 3 1) * (nI 9))) + (nI 6)) (((nI 24) * a1) + a2)) (fun _ X79 =>
                ab_b3 (F_K_put X79 (((nI 53) + ((X 3 1) * (nI 9))) + (nI 7)) ((((nI 24) * a1) + a2) + a3)) (fun _ X80 =>
                  ab_b3 (F_K_put X80 (((nI 53) + ((X 3 1) * (nI 9))) + (nI 8)) (a1 / (nI 7))) (fun _ X81 =>
                    ab_b3 (F_K_put X81 (nI 1) ((X 3 1) + (nI 1))) (fun _ X82 =>
                      some (X 3 1, X82)))))))))))
set_option maxRecDepth 4000 in
theorem T_K_enterShift (S : Nat × (Nat → Int32)) (w : ab_WW) (X : ab_XX) (a1 : Int32) (a2 : Int32) (a3 : Int32) (a4 : Int32) (a5 : Int32) : ab_Eg (ab_m3 ab_fI w) S 64 (0, lv_args 0 [.ref 2, .int a1, .int a2, .int a3, .int a4, .int a5], [], (X, w)) (F_K_enterShift X a1 a2 a3 a4 a5) := by
  show ab_Eg (ab_m3 ab_fI w) S 64 (0, [(0, .ref 2), (1, .int a1), (2, .int a2), (3, .int a3), (4, .int a4), (5, .int a5)], [], (X, w)) _
  unfold F_K_enterShift
  refine ab_e_go 22 (32, [(8, .int (((nI 24) * a1) + a2)), (7, .int ((nI 53) + ((X 3 1) * (nI 9)))), (6, .int (X 3 1)), (0, .ref 2), (1, .int a1), (2, .int a2), (3, .int a3), (4, .int a4), (5, .int a5)], [.int a1, .int (((nI 53) + ((X 3 1) * (nI 9))) + (nI 0)), .ref 2], (X, w)) rfl ?_
  refine ab_e_c3 (k2 := 23) (as := [.ref 2, .int (((nI 53) + ((X 3 1) * (nI 9))) + (nI 0)), .int a1]) (rest := []) rfl rfl (T_K_put S w X (((nI 53) + ((X 3 1) * (nI 9))) + (nI 0)) a1) (fun _ X73 => ?_)
  refine ab_e_go 5 (41, [(8, .int (((nI 24) * a1) + a2)), (7, .int ((nI 53) + ((X 3 1) * (nI 9)))), (6, .int (X 3 1)), (0, .ref 2), (1, .int a1), (2, .int a2), (3, .int a3), (4, .int a4), (5, .int a5)], [.int a2, .int (((nI 53) + ((X 3 1) * (nI 9))) + (nI 1)), .ref 2], (X73, w)) rfl ?_
  refine ab_e_c3 (k2 := 23) (as := [.ref 2, .int (((nI 53) + ((X 3 1) * (nI 9))) + (nI 1)), .int a2]) (rest := []) rfl rfl (T_K_put S w X73 (((nI 53) + ((X 3 1) * (nI 9))) + (nI 1)) a2) (fun _ X74 => ?_)
  refine ab_e_go 5 (50, [(8, .int (((nI 24) * a1) + a2)), (7, .int ((nI 53) + ((X 3 1) * (nI 9)))), (6, .int (X 3 1)), (0, .ref 2), (1, .int a1), (2, .int a2), (3, .int a3), (4, .int a4), (5, .int a5)], [.int a3, .int (((nI 53) + ((X 3 1) * (nI 9))) + (nI 2)), .ref 2], (X74, w)) rfl ?_
  refine ab_e_c3 (k2 := 23) (as := [.ref 2, .int (((nI 53) + ((X 3 1) * (nI 9))) + (nI 2)), .int a3]) (rest := []) rfl rfl (T_K_put S w X74 (((nI 53) + ((X 3 1) * (nI 9))) + (nI 2)) a3) (fun _ X75 => ?_)
  refine ab_e_go 5 (60, [(8, .int (((nI 24) * a1) + a2)), (7, .int ((nI 53) + ((X 3 1) * (nI 9)))), (6, .int (X 3 1)), (0, .ref 2), (1, .int a1), (2, .int a2), (3, .int a3), (4, .int a4), (5, .int a5)], [.int a4, .int (((nI 53) + ((X 3 1) * (nI 9))) + (nI 3)), .ref 2], (X75, w)) rfl ?_
  refine ab_e_c3 (k2 := 23) (as := [.ref 2, .int (((nI 53) + ((X 3 1) * (nI 9))) + (nI 3)), .int a4]) (rest := []) rfl rfl (T_K_put S w X75 (((nI 53) + ((X 3 1) * (nI 9))) + (nI 3)) a4) (fun _ X76 => ?_)
  refine ab_e_go 5 (70, [(8, .int (((nI 24) * a1) + a2)), (7, .int ((nI 53) + ((X 3 1) * (nI 9)))), (6, .int (X 3 1)), (0, .ref 2), (1, .int a1), (2, .int a2), (3, .int a3), (4, .int a4), (5, .int a5)], [.int a5, .int (((nI 53) + ((X 3 1) * (nI 9))) + (nI 4)), .ref 2], (X76, w)) rfl ?_
  refine ab_e_c3 (k2 := 23) (as := [.ref 2, .int (((nI 53) + ((X 3 1) * (nI 9))) + (nI 4)), .int a5]) (rest := []) rfl rfl (T_K_put S w X76 (((nI 53) + ((X 3 1) * (nI 9))) + (nI 4)) a5) (fun _ X77 => ?_)
  refine ab_e_go 5 (79, [(8, .int (((nI 24) * a1) + a2)), (7, .int ((nI 53) + ((X 3 1) * (nI 9)))), (6, .int (X 3 1)), (0, .ref 2), (1, .int a1), (2, .int a2), (3, .int a3), (4, .int a4), (5, .int a5)], [.int (nI 0), .int (((nI 53) + ((X 3 1) * (nI 9))) + (nI 5)), .ref 2], (X77, w)) rfl ?_
  refine ab_e_c3 (k2 := 23) (as := [.ref 2, .int (((nI 53) + ((X 3 1) * (nI 9))) + (nI 5)), .int (nI 0)]) (rest := []) rfl rfl (T_K_put S w X77 (((nI 53) + ((X 3 1) * (nI 9))) + (nI 5)) (nI 0)) (fun _ X78 => ?_)
  refine ab_e_go 5 (90, [(8, .int (((nI 24) * a1) + a2)), (7, .int ((nI 53) + ((X 3 1) * (nI 9)))), (6, .int (X 3 1)), (0, .ref 2), (1, .int a1), (2, .int a2), (3, .int a3), (4, .int a4), (5, .int a5)], [.int (((nI 24) * a1) + a2), .int (((nI 53) + ((X 3 1) * (nI 9))) + (nI 6)), .ref 2], (X78, w)) rfl ?_
  refine ab_e_c3 (k2 := 23) (as := [.ref 2, .int (((nI 53) + ((X 3 1) * (nI 9))) + (nI 6)), .int (((nI 24) * a1) + a2)]) (rest := []) rfl rfl (T_K_put S w X78 (((nI 53) + ((X 3 1) * (nI 9))) + (nI 6)) (((nI 24) * a1) + a2)) (fun _ X79 => ?_)
  refine ab_e_go 7 (103, [(8, .int (((nI 24) * a1) + a2)), (7, .int ((nI 53) + ((X 3 1) * (nI 9)))), (6, .int (X 3 1)), (0, .ref 2), (1, .int a1), (2, .int a2), (3, .int a3), (4, .int a4), (5, .int a5)], [.int ((((nI 24) * a1) + a2) + a3), .int (((nI 53) + ((X 3 1) * (nI 9))) + (nI 7)), .ref 2], (X79, w)) rfl ?_
  refine ab_e_c3 (k2 := 23) (as := [.ref 2, .int (((nI 53) + ((X 3 1) * (nI 9))) + (nI 7)), .int ((((nI 24) * a1) + a2) + a3)]) (rest := []) rfl rfl (T_K_put S w X79 (((nI 53) + ((X 3 1) * (nI 9))) + (nI 7)) ((((nI 24) * a1) + a2) + a3)) (fun _ X80 => ?_)
  refine ab_e_go 7 (116, [(8, .int (((nI 24) * a1) + a2)), (7, .int ((nI 53) + ((X 3 1) * (nI 9)))), (6, .int (X 3 1)), (0, .ref 2), (1, .int a1), (2, .int a2), (3, .int a3), (4, .int a4), (5, .int a5)], [.int (a1 / (nI 7)), .int (((nI 53) + ((X 3 1) * (nI 9))) + (nI 8)), .ref 2], (X80, w)) rfl ?_
  refine ab_e_c3 (k2 := 23) (as := [.ref 2, .int (((nI 53) + ((X 3 1) * (nI 9))) + (nI 8)), .int (a1 / (nI 7))]) (rest := []) rfl rfl (T_K_put S w X80 (((nI 53) + ((X 3 1) * (nI 9))) + (nI 8)) (a1 / (nI 7))) (fun _ X81 => ?_)
  refine ab_e_go 5 (125, [(8, .int (((nI 24) * a1) + a2)), (7, .int ((nI 53) + ((X 3 1) * (nI 9)))), (6, .int (X 3 1)), (0, .ref 2), (1, .int a1), (2, .int a2), (3, .int a3), (4, .int a4), (5, .int a5)], [.int ((X 3 1) + (nI 1)), .int (nI 1), .ref 2], (X81, w)) rfl ?_
  refine ab_e_c3 (k2 := 23) (as := [.ref 2, .int (nI 1), .int ((X 3 1) + (nI 1))]) (rest := []) rfl rfl (T_K_put S w X81 (nI 1) ((X 3 1) + (nI 1))) (fun _ X82 => ?_)
  refine ab_e_go 1 (130, [(8, .int (((nI 24) * a1) + a2)), (7, .int ((nI 53) + ((X 3 1) * (nI 9)))), (6, .int (X 3 1)), (0, .ref 2), (1, .int a1), (2, .int a2), (3, .int a3), (4, .int a4), (5, .int a5)], [.int (X 3 1)], (X82, w)) rfl ?_
  exact ab_e_rt rfl rfl
def F_C_addShift (X : ab_XX) (a1 : Int32) (a2 : Int32) (a3 : Int32) (a4 : Int32) (a5 : Int32) : Option ((Int32 ⊕ Nat) × ab_XX) :=
  (F_K_isShiftInRange a1 a2 a3 a4 a5).bind fun v63 =>
  if v63 = nI 0 then
    some (.inr 0, X)
  else
    (F_K_hasRoomForShift X).bind fun v64 =>
    if v64 = nI 0 then
      some (.inr 1, X)
    else
      ab_b3 (F_H_remember_3 X) (fun _ X71 =>
        ab_b3 (F_K_enterShift X71 a1 a2 a3 a4 a5) (fun v83 X84 =>
          some (.inl v83, X84)))
set_option maxRecDepth 4000 in
theorem T_C_addShift (S : Nat × (Nat → Int32)) (w : ab_WW) (X : ab_XX) (a1 : Int32) (a2 : Int32) (a3 : Int32) (a4 : Int32) (a5 : Int32) : ab_Eg (ab_m4 ab_fI w) S 154 (0, lv_args 0 [.ref 0, .int a1, .int a2, .int a3, .int a4, .int a5], [], (X, w)) (F_C_addShift X a1 a2 a3 a4 a5) := by
  show ab_Eg (ab_m4 ab_fI w) S 154 (0, [(0, .ref 0), (1, .int a1), (2, .int a2), (3, .int a3), (4, .int a4), (5, .int a5)], [], (X, w)) _
  unfold F_C_addShift
  refine ab_e_go 5 (7, [(0, .ref 0), (1, .int a1), (2, .int a2), (3, .int a3), (4, .int a4), (5, .int a5)], [.int a5, .int a4, .int a3, .int a2, .int a1], (X, w)) rfl ?_
  refine ab_e_c1 (k2 := 70) (as := [.int a1, .int a2, .int a3, .int a4, .int a5]) (rest := []) rfl rfl (T_K_isShiftInRange S w X a1 a2 a3 a4 a5) (fun v63 => ?_)
  refine ab_e_bn (c := v63 = nI 0) (23, [(0, .ref 0), (1, .int a1), (2, .int a2), (3, .int a3), (4, .int a4), (5, .int a5)], [], (X, w)) (13, [(0, .ref 0), (1, .int a1), (2, .int a2), (3, .int a3), (4, .int a4), (5, .int a5)], [], (X, w)) rfl (fun _ => ?_) (fun _ => ?_)
  · refine ab_e_go 2 (27, [(0, .ref 0), (1, .int a1), (2, .int a2), (3, .int a3), (4, .int a4), (5, .int a5)], [.ref 2], (X, w)) rfl ?_
    refine ab_e_c1 (k2 := 14) (as := [.ref 2]) (rest := []) rfl rfl (T_K_hasRoomForShift S w X) (fun v64 => ?_)
    refine ab_e_bn (c := v64 = nI 0) (43, [(0, .ref 0), (1, .int a1), (2, .int a2), (3, .int a3), (4, .int a4), (5, .int a5)], [], (X, w)) (33, [(0, .ref 0), (1, .int a1), (2, .int a2), (3, .int a3), (4, .int a4), (5, .int a5)], [], (X, w)) rfl (fun _ => ?_) (fun _ => ?_)
    · refine ab_e_go 5 (54, [(0, .ref 0), (1, .int a1), (2, .int a2), (3, .int a3), (4, .int a4), (5, .int a5)], [.ref 3, .ref 4], (X, w)) rfl ?_
      refine ab_e_c3 (k2 := 123) (as := [.ref 4, .ref 3]) (rest := []) rfl rfl (T_H_remember_3 S w X) (fun _ X71 => ?_)
      refine ab_e_go 7 (68, [(0, .ref 0), (1, .int a1), (2, .int a2), (3, .int a3), (4, .int a4), (5, .int a5)], [.int a5, .int a4, .int a3, .int a2, .int a1, .ref 2], (X71, w)) rfl ?_
      refine ab_e_c3 (k2 := 64) (as := [.ref 2, .int a1, .int a2, .int a3, .int a4, .int a5]) (rest := []) rfl rfl (T_K_enterShift S w X71 a1 a2 a3 a4 a5) (fun v83 X84 => ?_)
      exact ab_e_rt rfl rfl
    · exact ab_e_rt rfl rfl
  · exact ab_e_rt rfl rfl
def F_K_isWorkerInRange (a0 : Int32) (a1 : Int32) (a2 : Int32) (a3 : Int32) (a4 : Int32) : Option Int32 :=
  (F_K_isWithin a0 (nI 0) (nI 99)).bind fun v85 =>
  if v85 = nI 0 then
    some (nI 0)
  else
    (F_K_isWithin a1 (nI 0) (nI 24)).bind fun v86 =>
    if v86 = nI 0 then
      some (nI 0)
    else
      (F_K_isWithin a2 (nI 1) (nI 168)).bind fun v87 =>
      if v87 = nI 0 then
        some (nI 0)
      else
        (F_K_isWithin a3 (nI 1) (nI 28)).bind fun v88 =>
        if v88 = nI 0 then
          some (nI 0)
        else
          (F_K_isWithin a4 (nI 0) (nI 15)).bind fun v89 =>
          if v89 = nI 0 then
            some (nI 0)
          else
            some (nI 1)
set_option maxRecDepth 4000 in
theorem T_K_isWorkerInRange (S : Nat × (Nat → Int32)) (w : ab_WW) (X : ab_XX) (a0 : Int32) (a1 : Int32) (a2 : Int32) (a3 : Int32) (a4 : Int32) : ab_Eg (ab_m1 ab_fI (X, w)) S 71 (0, lv_args 0 [.int a0, .int a1, .int a2, .int a3, .int a4], [], (X, w)) (F_K_isWorkerInRange a0 a1 a2 a3 a4) := by
  show ab_Eg (ab_m1 ab_fI (X, w)) S 71 (0, [(0, .int a0), (1, .int a1), (2, .int a2), (3, .int a3), (4, .int a4)], [], (X, w)) _
  unfold F_K_isWorkerInRange
  refine ab_e_go 3 (4, [(0, .int a0), (1, .int a1), (2, .int a2), (3, .int a3), (4, .int a4)], [.int (nI 99), .int (nI 0), .int a0], (X, w)) rfl ?_
  refine ab_e_c1 (k2 := 20) (as := [.int a0, .int (nI 0), .int (nI 99)]) (rest := []) rfl rfl (T_K_isWithin S w X a0 (nI 0) (nI 99)) (fun v85 => ?_)
  refine ab_e_br (c := v85 = nI 0) (56, [(0, .int a0), (1, .int a1), (2, .int a2), (3, .int a3), (4, .int a4)], [], (X, w)) (10, [(0, .int a0), (1, .int a1), (2, .int a2), (3, .int a3), (4, .int a4)], [], (X, w)) rfl (fun _ => ?_) (fun _ => ?_)
  · refine ab_e_go 1 (57, [(0, .int a0), (1, .int a1), (2, .int a2), (3, .int a3), (4, .int a4)], [.int (nI 0)], (X, w)) rfl ?_
    exact ab_e_rt rfl rfl
  · refine ab_e_go 3 (14, [(0, .int a0), (1, .int a1), (2, .int a2), (3, .int a3), (4, .int a4)], [.int (nI 24), .int (nI 0), .int a1], (X, w)) rfl ?_
    refine ab_e_c1 (k2 := 20) (as := [.int a1, .int (nI 0), .int (nI 24)]) (rest := []) rfl rfl (T_K_isWithin S w X a1 (nI 0) (nI 24)) (fun v86 => ?_)
    refine ab_e_br (c := v86 = nI 0) (56, [(0, .int a0), (1, .int a1), (2, .int a2), (3, .int a3), (4, .int a4)], [], (X, w)) (20, [(0, .int a0), (1, .int a1), (2, .int a2), (3, .int a3), (4, .int a4)], [], (X, w)) rfl (fun _ => ?_) (fun _ => ?_)
    · refine ab_e_go 1 (57, [(0, .int a0), (1, .int a1), (2, .int a2), (3, .int a3), (4, .int a4)], [.int (nI 0)], (X, w)) rfl ?_
      exact ab_e_rt rfl rfl
    · refine ab_e_go 3 (25, [(0, .int a0), (1, .int a1), (2, .int a2), (3, .int a3), (4, .int a4)], [.int (nI 168), .int (nI 1), .int a2], (X, w)) rfl ?_
      refine ab_e_c1 (k2 := 20) (as := [.int a2, .int (nI 1), .int (nI 168)]) (rest := []) rfl rfl (T_K_isWithin S w X a2 (nI 1) (nI 168)) (fun v87 => ?_)
      refine ab_e_br (c := v87 = nI 0) (56, [(0, .int a0), (1, .int a1), (2, .int a2), (3, .int a3), (4, .int a4)], [], (X, w)) (31, [(0, .int a0), (1, .int a1), (2, .int a2), (3, .int a3), (4, .int a4)], [], (X, w)) rfl (fun _ => ?_) (fun _ => ?_)
      · refine ab_e_go 1 (57, [(0, .int a0), (1, .int a1), (2, .int a2), (3, .int a3), (4, .int a4)], [.int (nI 0)], (X, w)) rfl ?_
        exact ab_e_rt rfl rfl
      · refine ab_e_go 3 (35, [(0, .int a0), (1, .int a1), (2, .int a2), (3, .int a3), (4, .int a4)], [.int (nI 28), .int (nI 1), .int a3], (X, w)) rfl ?_
        refine ab_e_c1 (k2 := 20) (as := [.int a3, .int (nI 1), .int (nI 28)]) (rest := []) rfl rfl (T_K_isWithin S w X a3 (nI 1) (nI 28)) (fun v88 => ?_)
        refine ab_e_br (c := v88 = nI 0) (56, [(0, .int a0), (1, .int a1), (2, .int a2), (3, .int a3), (4, .int a4)], [], (X, w)) (41, [(0, .int a0), (1, .int a1), (2, .int a2), (3, .int a3), (4, .int a4)], [], (X, w)) rfl (fun _ => ?_) (fun _ => ?_)
        · refine ab_e_go 1 (57, [(0, .int a0), (1, .int a1), (2, .int a2), (3, .int a3), (4, .int a4)], [.int (nI 0)], (X, w)) rfl ?_
          exact ab_e_rt rfl rfl
        · refine ab_e_go 3 (46, [(0, .int a0), (1, .int a1), (2, .int a2), (3, .int a3), (4, .int a4)], [.int (nI 15), .int (nI 0), .int a4], (X, w)) rfl ?_
          refine ab_e_c1 (k2 := 20) (as := [.int a4, .int (nI 0), .int (nI 15)]) (rest := []) rfl rfl (T_K_isWithin S w X a4 (nI 0) (nI 15)) (fun v89 => ?_)
          refine ab_e_br (c := v89 = nI 0) (56, [(0, .int a0), (1, .int a1), (2, .int a2), (3, .int a3), (4, .int a4)], [], (X, w)) (52, [(0, .int a0), (1, .int a1), (2, .int a2), (3, .int a3), (4, .int a4)], [], (X, w)) rfl (fun _ => ?_) (fun _ => ?_)
          · refine ab_e_go 1 (57, [(0, .int a0), (1, .int a1), (2, .int a2), (3, .int a3), (4, .int a4)], [.int (nI 0)], (X, w)) rfl ?_
            exact ab_e_rt rfl rfl
          · refine ab_e_go 2 (57, [(0, .int a0), (1, .int a1), (2, .int a2), (3, .int a3), (4, .int a4)], [.int (nI 1)], (X, w)) rfl ?_
            exact ab_e_rt rfl rfl
def F_K_hasRoomForWorker (X : ab_XX) : Option Int32 :=
  if nI 10 ≤ X 3 0 then
    some (nI 0)
  else
    some (nI 1)
set_option maxRecDepth 4000 in
theorem T_K_hasRoomForWorker (S : Nat × (Nat → Int32)) (w : ab_WW) (X : ab_XX) : ab_Eg (ab_m1 ab_fI (X, w)) S 15 (0, lv_args 0 [.ref 2], [], (X, w)) (F_K_hasRoomForWorker X) := by
  show ab_Eg (ab_m1 ab_fI (X, w)) S 15 (0, [(0, .ref 2)], [], (X, w)) _
  unfold F_K_hasRoomForWorker
  refine ab_e_go 5 (8, [(0, .ref 2)], [.int (nI 10), .int (X 3 0)], (X, w)) rfl ?_
  refine ab_e_br (c := nI 10 ≤ X 3 0) (15, [(0, .ref 2)], [], (X, w)) (11, [(0, .ref 2)], [], (X, w)) rfl (fun _ => ?_) (fun _ => ?_)
  · refine ab_e_go 1 (16, [(0, .ref 2)], [.int (nI 0)], (X, w)) rfl ?_
    exact ab_e_rt rfl rfl
  · refine ab_e_go 2 (16, [(0, .ref 2)], [.int (nI 1)], (X, w)) rfl ?_
    exact ab_e_rt rfl rfl
def F_K_enterWorker (X : ab_XX) (a1 : Int32) (a2 : Int32) (a3 : Int32) (a4 : Int32) (a5 : Int32) : Option (Int32 × ab_XX) :=
  ab_b3 (F_K_put X (((nI 3) + ((X 3 0) * (nI 5))) + (nI 0)) a1) (fun _ X93 =>
    ab_b3 (F_K_put X93 (((nI 3) + ((X 3 0) * (nI 5))) + (nI 1)) a2) (fun _ X94 =>
      ab_b3 (F_K_put X94 (((nI 3) + ((X 3 0) * (nI 5))) + (nI 2)) a3) (fun _ X95 =>
        ab_b3 (F_K_put X95 (((nI 3) + ((X 3 0) * (nI 5))) + (nI 3)) a4) (fun _ X96 =>
          ab_b3 (F_K_put X96 (((nI 3) + ((X 3 0) * (nI 5))) + (nI 4)) a5) (fun _ X97 =>
            ab_b3 (F_K_put X97 (nI 0) ((X 3 0) + (nI 1))) (fun _ X98 =>
              some (X 3 0, X98)))))))
set_option maxRecDepth 4000 in
theorem T_K_enterWorker (S : Nat × (Nat → Int32)) (w : ab_WW) (X : ab_XX) (a1 : Int32) (a2 : Int32) (a3 : Int32) (a4 : Int32) (a5 : Int32) : ab_Eg (ab_m3 ab_fI w) S 65 (0, lv_args 0 [.ref 2, .int a1, .int a2, .int a3, .int a4, .int a5], [], (X, w)) (F_K_enterWorker X a1 a2 a3 a4 a5) := by
  show ab_Eg (ab_m3 ab_fI w) S 65 (0, [(0, .ref 2), (1, .int a1), (2, .int a2), (3, .int a3), (4, .int a4), (5, .int a5)], [], (X, w)) _
  unfold F_K_enterWorker
  refine ab_e_go 16 (22, [(7, .int ((nI 3) + ((X 3 0) * (nI 5)))), (6, .int (X 3 0)), (0, .ref 2), (1, .int a1), (2, .int a2), (3, .int a3), (4, .int a4), (5, .int a5)], [.int a1, .int (((nI 3) + ((X 3 0) * (nI 5))) + (nI 0)), .ref 2], (X, w)) rfl ?_
  refine ab_e_c3 (k2 := 23) (as := [.ref 2, .int (((nI 3) + ((X 3 0) * (nI 5))) + (nI 0)), .int a1]) (rest := []) rfl rfl (T_K_put S w X (((nI 3) + ((X 3 0) * (nI 5))) + (nI 0)) a1) (fun _ X93 => ?_)
  refine ab_e_go 5 (31, [(7, .int ((nI 3) + ((X 3 0) * (nI 5)))), (6, .int (X 3 0)), (0, .ref 2), (1, .int a1), (2, .int a2), (3, .int a3), (4, .int a4), (5, .int a5)], [.int a2, .int (((nI 3) + ((X 3 0) * (nI 5))) + (nI 1)), .ref 2], (X93, w)) rfl ?_
  refine ab_e_c3 (k2 := 23) (as := [.ref 2, .int (((nI 3) + ((X 3 0) * (nI 5))) + (nI 1)), .int a2]) (rest := []) rfl rfl (T_K_put S w X93 (((nI 3) + ((X 3 0) * (nI 5))) + (nI 1)) a2) (fun _ X94 => ?_)
  refine ab_e_go 5 (40, [(7, .int ((nI 3) + ((X 3 0) * (nI 5)))), (6, .int (X 3 0)), (0, .ref 2), (1, .int a1), (2, .int a2), (3, .int a3), (4, .int a4), (5, .int a5)], [.int a3, .int (((nI 3) + ((X 3 0) * (nI 5))) + (nI 2)), .ref 2], (X94, w)) rfl ?_
  refine ab_e_c3 (k2 := 23) (as := [.ref 2, .int (((nI 3) + ((X 3 0) * (nI 5))) + (nI 2)), .int a3]) (rest := []) rfl rfl (T_K_put S w X94 (((nI 3) + ((X 3 0) * (nI 5))) + (nI 2)) a3) (fun _ X95 => ?_)
  refine ab_e_go 5 (50, [(7, .int ((nI 3) + ((X 3 0) * (nI 5)))), (6, .int (X 3 0)), (0, .ref 2), (1, .int a1), (2, .int a2), (3, .int a3), (4, .int a4), (5, .int a5)], [.int a4, .int (((nI 3) + ((X 3 0) * (nI 5))) + (nI 3)), .ref 2], (X95, w)) rfl ?_
  refine ab_e_c3 (k2 := 23) (as := [.ref 2, .int (((nI 3) + ((X 3 0) * (nI 5))) + (nI 3)), .int a4]) (rest := []) rfl rfl (T_K_put S w X95 (((nI 3) + ((X 3 0) * (nI 5))) + (nI 3)) a4) (fun _ X96 => ?_)
  refine ab_e_go 5 (60, [(7, .int ((nI 3) + ((X 3 0) * (nI 5)))), (6, .int (X 3 0)), (0, .ref 2), (1, .int a1), (2, .int a2), (3, .int a3), (4, .int a4), (5, .int a5)], [.int a5, .int (((nI 3) + ((X 3 0) * (nI 5))) + (nI 4)), .ref 2], (X96, w)) rfl ?_
  refine ab_e_c3 (k2 := 23) (as := [.ref 2, .int (((nI 3) + ((X 3 0) * (nI 5))) + (nI 4)), .int a5]) (rest := []) rfl rfl (T_K_put S w X96 (((nI 3) + ((X 3 0) * (nI 5))) + (nI 4)) a5) (fun _ X97 => ?_)
  refine ab_e_go 5 (69, [(7, .int ((nI 3) + ((X 3 0) * (nI 5)))), (6, .int (X 3 0)), (0, .ref 2), (1, .int a1), (2, .int a2), (3, .int a3), (4, .int a4), (5, .int a5)], [.int ((X 3 0) + (nI 1)), .int (nI 0), .ref 2], (X97, w)) rfl ?_
  refine ab_e_c3 (k2 := 23) (as := [.ref 2, .int (nI 0), .int ((X 3 0) + (nI 1))]) (rest := []) rfl rfl (T_K_put S w X97 (nI 0) ((X 3 0) + (nI 1))) (fun _ X98 => ?_)
  refine ab_e_go 1 (74, [(7, .int ((nI 3) + ((X 3 0) * (nI 5)))), (6, .int (X 3 0)), (0, .ref 2), (1, .int a1), (2, .int a2), (3, .int a3), (4, .int a4), (5, .int a5)], [.int (X 3 0)], (X98, w)) rfl ?_
  exact ab_e_rt rfl rfl
def F_C_addWorker (X : ab_XX) (a1 : Int32) (a2 : Int32) (a3 : Int32) (a4 : Int32) (a5 : Int32) : Option ((Int32 ⊕ Nat) × ab_XX) :=
  (F_K_isWorkerInRange a1 a2 a3 a4 a5).bind fun v90 =>
  if v90 = nI 0 then
    some (.inr 0, X)
  else
    (F_K_hasRoomForWorker X).bind fun v91 =>
    if v91 = nI 0 then
      some (.inr 1, X)
    else
      ab_b3 (F_H_remember_3 X) (fun _ X92 =>
        ab_b3 (F_K_enterWorker X92 a1 a2 a3 a4 a5) (fun v99 X100 =>
          some (.inl v99, X100)))
set_option maxRecDepth 4000 in
theorem T_C_addWorker (S : Nat × (Nat → Int32)) (w : ab_WW) (X : ab_XX) (a1 : Int32) (a2 : Int32) (a3 : Int32) (a4 : Int32) (a5 : Int32) : ab_Eg (ab_m4 ab_fI w) S 155 (0, lv_args 0 [.ref 0, .int a1, .int a2, .int a3, .int a4, .int a5], [], (X, w)) (F_C_addWorker X a1 a2 a3 a4 a5) := by
  show ab_Eg (ab_m4 ab_fI w) S 155 (0, [(0, .ref 0), (1, .int a1), (2, .int a2), (3, .int a3), (4, .int a4), (5, .int a5)], [], (X, w)) _
  unfold F_C_addWorker
  refine ab_e_go 5 (7, [(0, .ref 0), (1, .int a1), (2, .int a2), (3, .int a3), (4, .int a4), (5, .int a5)], [.int a5, .int a4, .int a3, .int a2, .int a1], (X, w)) rfl ?_
  refine ab_e_c1 (k2 := 71) (as := [.int a1, .int a2, .int a3, .int a4, .int a5]) (rest := []) rfl rfl (T_K_isWorkerInRange S w X a1 a2 a3 a4 a5) (fun v90 => ?_)
  refine ab_e_bn (c := v90 = nI 0) (23, [(0, .ref 0), (1, .int a1), (2, .int a2), (3, .int a3), (4, .int a4), (5, .int a5)], [], (X, w)) (13, [(0, .ref 0), (1, .int a1), (2, .int a2), (3, .int a3), (4, .int a4), (5, .int a5)], [], (X, w)) rfl (fun _ => ?_) (fun _ => ?_)
  · refine ab_e_go 2 (27, [(0, .ref 0), (1, .int a1), (2, .int a2), (3, .int a3), (4, .int a4), (5, .int a5)], [.ref 2], (X, w)) rfl ?_
    refine ab_e_c1 (k2 := 15) (as := [.ref 2]) (rest := []) rfl rfl (T_K_hasRoomForWorker S w X) (fun v91 => ?_)
    refine ab_e_bn (c := v91 = nI 0) (43, [(0, .ref 0), (1, .int a1), (2, .int a2), (3, .int a3), (4, .int a4), (5, .int a5)], [], (X, w)) (33, [(0, .ref 0), (1, .int a1), (2, .int a2), (3, .int a3), (4, .int a4), (5, .int a5)], [], (X, w)) rfl (fun _ => ?_) (fun _ => ?_)
    · refine ab_e_go 5 (54, [(0, .ref 0), (1, .int a1), (2, .int a2), (3, .int a3), (4, .int a4), (5, .int a5)], [.ref 3, .ref 4], (X, w)) rfl ?_
      refine ab_e_c3 (k2 := 123) (as := [.ref 4, .ref 3]) (rest := []) rfl rfl (T_H_remember_3 S w X) (fun _ X92 => ?_)
      refine ab_e_go 7 (68, [(0, .ref 0), (1, .int a1), (2, .int a2), (3, .int a3), (4, .int a4), (5, .int a5)], [.int a5, .int a4, .int a3, .int a2, .int a1, .ref 2], (X92, w)) rfl ?_
      refine ab_e_c3 (k2 := 65) (as := [.ref 2, .int a1, .int a2, .int a3, .int a4, .int a5]) (rest := []) rfl rfl (T_K_enterWorker S w X92 a1 a2 a3 a4 a5) (fun v99 X100 => ?_)
      exact ab_e_rt rfl rfl
    · exact ab_e_rt rfl rfl
  · exact ab_e_rt rfl rfl
def F_C_requirePair (X : ab_XX) (a1 : Int32) (a2 : Int32) : Option (Unit ⊕ Nat) :=
  ab_b2 (F_C_requireWorker X a1) (fun _ =>
    ab_b2 (F_C_requireShift X a2) (fun _ =>
      some (.inl ())) (fun y => some (.inr y))) (fun y => some (.inr y))
set_option maxRecDepth 4000 in
theorem T_C_requirePair (S : Nat × (Nat → Int32)) (w : ab_WW) (X : ab_XX) (a1 : Int32) (a2 : Int32) : ab_Eg (ab_m2 ab_fU (X, w)) S 120 (0, lv_args 0 [.ref 0, .int a1, .int a2], [], (X, w)) (F_C_requirePair X a1 a2) := by
  show ab_Eg (ab_m2 ab_fU (X, w)) S 120 (0, [(0, .ref 0), (1, .int a1), (2, .int a2)], [], (X, w)) _
  unfold F_C_requirePair
  refine ab_e_go 2 (2, [(0, .ref 0), (1, .int a1), (2, .int a2)], [.int a1, .ref 0], (X, w)) rfl ?_
  refine ab_e_c2 (k2 := 52) (as := [.ref 0, .int a1]) (rest := []) rfl rfl rfl (T_C_requireWorker S w X a1) (fun _ => ?_) (fun _ _ h => by cases h; rfl)
  refine ab_e_go 2 (7, [(0, .ref 0), (1, .int a1), (2, .int a2)], [.int a2, .ref 0], (X, w)) rfl ?_
  refine ab_e_c2 (k2 := 51) (as := [.ref 0, .int a2]) (rest := []) rfl rfl rfl (T_C_requireShift S w X a2) (fun _ => ?_) (fun _ _ h => by cases h; rfl)
  exact ab_e_rt rfl rfl
def F_C_bid (X : ab_XX) (a1 : Int32) (a2 : Int32) : Option (Int32 ⊕ Nat) :=
  ab_b2 (F_C_requirePair X a1 a2) (fun _ =>
    (F_K_pointsFor X a1 a2).bind fun v101 =>
    some (.inl v101)) (fun y => some (.inr y))
set_option maxRecDepth 4000 in
theorem T_C_bid (S : Nat × (Nat → Int32)) (w : ab_WW) (X : ab_XX) (a1 : Int32) (a2 : Int32) : ab_Eg (ab_m2 ab_fI (X, w)) S 156 (0, lv_args 0 [.ref 0, .int a1, .int a2], [], (X, w)) (F_C_bid X a1 a2) := by
  show ab_Eg (ab_m2 ab_fI (X, w)) S 156 (0, [(0, .ref 0), (1, .int a1), (2, .int a2)], [], (X, w)) _
  unfold F_C_bid
  refine ab_e_go 3 (3, [(0, .ref 0), (1, .int a1), (2, .int a2)], [.int a2, .int a1, .ref 0], (X, w)) rfl ?_
  refine ab_e_c2 (k2 := 120) (as := [.ref 0, .int a1, .int a2]) (rest := []) rfl rfl rfl (T_C_requirePair S w X a1 a2) (fun _ => ?_) (fun _ _ h => by cases h; rfl)
  refine ab_e_go 4 (12, [(0, .ref 0), (1, .int a1), (2, .int a2)], [.int a2, .int a1, .ref 2], (X, w)) rfl ?_
  refine ab_e_c1 (k2 := 22) (as := [.ref 2, .int a1, .int a2]) (rest := []) rfl rfl (T_K_pointsFor S w X a1 a2) (fun v101 => ?_)
  exact ab_e_rt rfl rfl
def L_U_daysOf_4 (X : ab_XX) : Nat → Int32 → Int32 → Int32 → Option Int32
  | 0, _, _, _ => none
  | n + 1, a1, a2, a3 =>
    (F_K_shiftTotal X).bind fun v103 =>
    if v103 ≤ a3 then
      some a2
    else
      (F_K_isIn a3 a1).bind fun v104 =>
      if v104 = nI 0 then
        L_U_daysOf_4 X n a1 a2 (a3 + (nI 1))
      else
        (F_K_shiftPart X a3 (nI 0)).bind fun v105 =>
        (F_K_bit v105).bind fun v106 =>
        L_U_daysOf_4 X n a1 (a2 ||| v106) (a3 + (nI 1))
set_option maxRecDepth 4000 in
theorem T_L_U_daysOf_4 (S : Nat × (Nat → Int32)) (w : ab_WW) (X : ab_XX) : ∀ (n : Nat) (a1 : Int32) (a2 : Int32) (a3 : Int32), ab_Eg (ab_m1 ab_fI (X, w)) S 76 (4, [(0, .ref 1), (1, .int a1), (2, .int a2), (3, .int a3)], [], (X, w)) (L_U_daysOf_4 X n a1 a2 a3) := by
  intro n
  induction n with
  | zero => intro a1 a2 a3; exact ab_e_none
  | succ n ih =>
    intro a1 a2 a3
    unfold L_U_daysOf_4
    refine ab_e_go 3 (9, [(0, .ref 1), (1, .int a1), (2, .int a2), (3, .int a3)], [.ref 2, .int a3], (X, w)) rfl ?_
    refine ab_e_c1 (k2 := 25) (as := [.ref 2]) (rest := [.int a3]) rfl rfl (T_K_shiftTotal S w X) (fun v103 => ?_)
    refine ab_e_br (c := v103 ≤ a3) (44, [(0, .ref 1), (1, .int a1), (2, .int a2), (3, .int a3)], [], (X, w)) (15, [(0, .ref 1), (1, .int a1), (2, .int a2), (3, .int a3)], [], (X, w)) rfl (fun _ => ?_) (fun _ => ?_)
    · refine ab_e_go 1 (45, [(0, .ref 1), (1, .int a1), (2, .int a2), (3, .int a3)], [.int a2], (X, w)) rfl ?_
      exact ab_e_rt rfl rfl
    · refine ab_e_go 2 (17, [(0, .ref 1), (1, .int a1), (2, .int a2), (3, .int a3)], [.int a1, .int a3], (X, w)) rfl ?_
      refine ab_e_c1 (k2 := 17) (as := [.int a3, .int a1]) (rest := []) rfl rfl (T_K_isIn S w X a3 a1) (fun v104 => ?_)
      refine ab_e_br (c := v104 = nI 0) (38, [(0, .ref 1), (1, .int a1), (2, .int a2), (3, .int a3)], [], (X, w)) (23, [(0, .ref 1), (1, .int a1), (2, .int a2), (3, .int a3)], [], (X, w)) rfl (fun _ => ?_) (fun _ => ?_)
      · refine ab_e_go 2 (4, [(3, .int (a3 + (nI 1))), (0, .ref 1), (1, .int a1), (2, .int a2)], [], (X, w)) rfl ?_
        refine ab_e_wk [(0, .ref 1), (1, .int a1), (2, .int a2), (3, .int (a3 + (nI 1)))] ⟨rfl, rfl, rfl, rfl, trivial⟩ ?_
        exact ih a1 a2 (a3 + (nI 1))
      · refine ab_e_go 5 (30, [(0, .ref 1), (1, .int a1), (2, .int a2), (3, .int a3)], [.int (nI 0), .int a3, .ref 2, .int a2], (X, w)) rfl ?_
        refine ab_e_c1 (k2 := 24) (as := [.ref 2, .int a3, .int (nI 0)]) (rest := [.int a2]) rfl rfl (T_K_shiftPart S w X a3 (nI 0)) (fun v105 => ?_)
        refine ab_e_c1 (k2 := 13) (as := [.int v105]) (rest := [.int a2]) rfl rfl (T_K_bit S w X v105) (fun v106 => ?_)
        refine ab_e_go 4 (4, [(3, .int (a3 + (nI 1))), (2, .int (a2 ||| v106)), (0, .ref 1), (1, .int a1)], [], (X, w)) rfl ?_
        refine ab_e_wk [(0, .ref 1), (1, .int a1), (2, .int (a2 ||| v106)), (3, .int (a3 + (nI 1)))] ⟨rfl, rfl, rfl, rfl, trivial⟩ ?_
        exact ih a1 (a2 ||| v106) (a3 + (nI 1))
def F_U_daysOf (X : ab_XX) (a1 : Int32) : Option Int32 :=
  L_U_daysOf_4 X ab_fu a1 (nI 0) (nI 0)
set_option maxRecDepth 4000 in
theorem T_U_daysOf (S : Nat × (Nat → Int32)) (w : ab_WW) (X : ab_XX) (a1 : Int32) : ab_Eg (ab_m1 ab_fI (X, w)) S 76 (0, lv_args 0 [.ref 1, .int a1], [], (X, w)) (F_U_daysOf X a1) := by
  show ab_Eg (ab_m1 ab_fI (X, w)) S 76 (0, [(0, .ref 1), (1, .int a1)], [], (X, w)) _
  unfold F_U_daysOf
  refine ab_e_go 4 (4, [(3, .int (nI 0)), (2, .int (nI 0)), (0, .ref 1), (1, .int a1)], [], (X, w)) rfl ?_
  refine ab_e_wk [(0, .ref 1), (1, .int a1), (2, .int (nI 0)), (3, .int (nI 0))] ⟨rfl, rfl, rfl, rfl, trivial⟩ ?_
  exact T_L_U_daysOf_4 S w X ab_fu a1 (nI 0) (nI 0)
def L_U_longestSequence_14 (X : ab_XX) : Nat → Int32 → Int32 → Int32 → Int32 → Option Int32
  | 0, _, _, _, _ => none
  | n + 1, a2, a3, a4, a5 =>
    if nI 28 ≤ a5 then
      some a3
    else
      (F_K_isIn a5 a2).bind fun v108 =>
      if v108 = nI 0 then
        L_U_longestSequence_14 X n a2 (if a3 < nI 0 then nI 0 else a3) (nI 0) (a5 + (nI 1))
      else
        L_U_longestSequence_14 X n a2 (if a3 < (a4 + (nI 1)) then (a4 + (nI 1)) else a3) (a4 + (nI 1)) (a5 + (nI 1))
set_option maxRecDepth 4000 in
theorem T_L_U_longestSequence_14 (S : Nat × (Nat → Int32)) (w : ab_WW) (X : ab_XX) : ∀ (n : Nat) (a2 : Int32) (a3 : Int32) (a4 : Int32) (a5 : Int32), ab_Eg (ab_m1 ab_fI (X, w)) S 133 (14, [(2, .int a2), (3, .int a3), (4, .int a4), (5, .int a5)], [], (X, w)) (L_U_longestSequence_14 X n a2 a3 a4 a5) := by
  intro n
  induction n with
  | zero => intro a2 a3 a4 a5; exact ab_e_none
  | succ n ih =>
    intro a2 a3 a4 a5
    unfold L_U_longestSequence_14
    refine ab_e_go 2 (18, [(2, .int a2), (3, .int a3), (4, .int a4), (5, .int a5)], [.int (nI 28), .int a5], (X, w)) rfl ?_
    refine ab_e_br (c := nI 28 ≤ a5) (53, [(2, .int a2), (3, .int a3), (4, .int a4), (5, .int a5)], [], (X, w)) (21, [(2, .int a2), (3, .int a3), (4, .int a4), (5, .int a5)], [], (X, w)) rfl (fun _ => ?_) (fun _ => ?_)
    · refine ab_e_go 1 (54, [(2, .int a2), (3, .int a3), (4, .int a4), (5, .int a5)], [.int a3], (X, w)) rfl ?_
      exact ab_e_rt rfl rfl
    · refine ab_e_go 2 (24, [(2, .int a2), (3, .int a3), (4, .int a4), (5, .int a5)], [.int a2, .int a5], (X, w)) rfl ?_
      refine ab_e_c1 (k2 := 17) (as := [.int a5, .int a2]) (rest := []) rfl rfl (T_K_isIn S w X a5 a2) (fun v108 => ?_)
      refine ab_e_br (c := v108 = nI 0) (37, [(2, .int a2), (3, .int a3), (4, .int a4), (5, .int a5)], [], (X, w)) (30, [(2, .int a2), (3, .int a3), (4, .int a4), (5, .int a5)], [], (X, w)) rfl (fun _ => ?_) (fun _ => ?_)
      · refine ab_e_go 8 (14, [(5, .int (a5 + (nI 1))), (3, .int (if a3 < nI 0 then nI 0 else a3)), (4, .int (nI 0)), (2, .int a2)], [], (X, w)) rfl ?_
        refine ab_e_wk [(2, .int a2), (3, .int (if a3 < nI 0 then nI 0 else a3)), (4, .int (nI 0)), (5, .int (a5 + (nI 1)))] ⟨rfl, rfl, rfl, rfl, trivial⟩ ?_
        exact ih a2 (if a3 < nI 0 then nI 0 else a3) (nI 0) (a5 + (nI 1))
      · refine ab_e_go 11 (14, [(5, .int (a5 + (nI 1))), (3, .int (if a3 < (a4 + (nI 1)) then (a4 + (nI 1)) else a3)), (4, .int (a4 + (nI 1))), (2, .int a2)], [], (X, w)) rfl ?_
        refine ab_e_wk [(2, .int a2), (3, .int (if a3 < (a4 + (nI 1)) then (a4 + (nI 1)) else a3)), (4, .int (a4 + (nI 1))), (5, .int (a5 + (nI 1)))] ⟨rfl, rfl, rfl, rfl, trivial⟩ ?_
        exact ih a2 (if a3 < (a4 + (nI 1)) then (a4 + (nI 1)) else a3) (a4 + (nI 1)) (a5 + (nI 1))
def F_U_longestSequence (X : ab_XX) (a1 : Int32) : Option Int32 :=
  (F_U_daysOf X a1).bind fun v107 =>
  L_U_longestSequence_14 X ab_fu v107 (nI 0) (nI 0) (nI 0)
set_option maxRecDepth 4000 in
theorem T_U_longestSequence (S : Nat × (Nat → Int32)) (w : ab_WW) (X : ab_XX) (a1 : Int32) : ab_Eg (ab_m1 ab_fI (X, w)) S 133 (0, lv_args 0 [.ref 1, .int a1], [], (X, w)) (F_U_longestSequence X a1) := by
  show ab_Eg (ab_m1 ab_fI (X, w)) S 133 (0, [(0, .ref 1), (1, .int a1)], [], (X, w)) _
  unfold F_U_longestSequence
  refine ab_e_go 2 (2, [(0, .ref 1), (1, .int a1)], [.int a1, .ref 1], (X, w)) rfl ?_
  refine ab_e_c1 (k2 := 76) (as := [.ref 1, .int a1]) (rest := []) rfl rfl (T_U_daysOf S w X a1) (fun v107 => ?_)
  refine ab_e_go 7 (14, [(5, .int (nI 0)), (4, .int (nI 0)), (3, .int (nI 0)), (2, .int v107), (0, .ref 1), (1, .int a1)], [], (X, w)) rfl ?_
  refine ab_e_wk [(2, .int v107), (3, .int (nI 0)), (4, .int (nI 0)), (5, .int (nI 0))] ⟨rfl, rfl, rfl, rfl, trivial⟩ ?_
  exact T_L_U_longestSequence_14 S w X ab_fu v107 (nI 0) (nI 0) (nI 0)
def F_C_daysInRow (X : ab_XX) (a1 : Int32) : Option (Int32 ⊕ Nat) :=
  ab_b2 (F_C_requireWorker X a1) (fun _ =>
    (F_K_heldBy X a1).bind fun v102 =>
    (F_U_longestSequence X v102).bind fun v109 =>
    some (.inl v109)) (fun y => some (.inr y))
set_option maxRecDepth 4000 in
theorem T_C_daysInRow (S : Nat × (Nat → Int32)) (w : ab_WW) (X : ab_XX) (a1 : Int32) : ab_Eg (ab_m2 ab_fI (X, w)) S 158 (0, lv_args 0 [.ref 0, .int a1], [], (X, w)) (F_C_daysInRow X a1) := by
  show ab_Eg (ab_m2 ab_fI (X, w)) S 158 (0, [(0, .ref 0), (1, .int a1)], [], (X, w)) _
  unfold F_C_daysInRow
  refine ab_e_go 2 (2, [(0, .ref 0), (1, .int a1)], [.int a1, .ref 0], (X, w)) rfl ?_
  refine ab_e_c2 (k2 := 52) (as := [.ref 0, .int a1]) (rest := []) rfl rfl rfl (T_C_requireWorker S w X a1) (fun _ => ?_) (fun _ _ h => by cases h; rfl)
  refine ab_e_go 5 (14, [(0, .ref 0), (1, .int a1)], [.int a1, .ref 2, .ref 1], (X, w)) rfl ?_
  refine ab_e_c1 (k2 := 66) (as := [.ref 2, .int a1]) (rest := [.ref 1]) rfl rfl (T_K_heldBy S w X a1) (fun v102 => ?_)
  refine ab_e_c1 (k2 := 133) (as := [.ref 1, .int v102]) (rest := []) rfl rfl (T_U_longestSequence S w X v102) (fun v109 => ?_)
  exact ab_e_rt rfl rfl
def F_K_coverage (X : ab_XX) (a1 : Int32) : Option Int32 :=
  (F_K_holdersOf X a1).bind fun v111 =>
  (F_J_bitCount v111).bind fun v112 =>
  some v112
set_option maxRecDepth 4000 in
theorem T_K_coverage (S : Nat × (Nat → Int32)) (w : ab_WW) (X : ab_XX) (a1 : Int32) : ab_Eg (ab_m1 ab_fI (X, w)) S 128 (0, lv_args 0 [.ref 2, .int a1], [], (X, w)) (F_K_coverage X a1) := by
  show ab_Eg (ab_m1 ab_fI (X, w)) S 128 (0, [(0, .ref 2), (1, .int a1)], [], (X, w)) _
  unfold F_K_coverage
  refine ab_e_go 2 (2, [(0, .ref 2), (1, .int a1)], [.int a1, .ref 2], (X, w)) rfl ?_
  refine ab_e_c1 (k2 := 67) (as := [.ref 2, .int a1]) (rest := []) rfl rfl (T_K_holdersOf S w X a1) (fun v111 => ?_)
  refine ab_e_c1 (k2 := 46) (as := [.int v111]) (rest := []) rfl rfl (T_J_bitCount S w X v111) (fun v112 => ?_)
  exact ab_e_rt rfl rfl
def L_C_openShifts_4 (X : ab_XX) : Nat → Int32 → Int32 → Option Int32
  | 0, _, _ => none
  | n + 1, a1, a2 =>
    (F_K_shiftTotal X).bind fun v110 =>
    if v110 ≤ a2 then
      some a1
    else
      (F_K_coverage X a2).bind fun v113 =>
      (F_K_shiftPart X a2 (nI 4)).bind fun v114 =>
      if v114 ≤ v113 then
        L_C_openShifts_4 X n a1 (a2 + (nI 1))
      else
        (F_K_bit a2).bind fun v115 =>
        L_C_openShifts_4 X n (a1 ||| v115) (a2 + (nI 1))
set_option maxRecDepth 4000 in
theorem T_L_C_openShifts_4 (S : Nat × (Nat → Int32)) (w : ab_WW) (X : ab_XX) : ∀ (n : Nat) (a1 : Int32) (a2 : Int32), ab_Eg (ab_m1 ab_fI (X, w)) S 159 (4, [(0, .ref 0), (1, .int a1), (2, .int a2)], [], (X, w)) (L_C_openShifts_4 X n a1 a2) := by
  intro n
  induction n with
  | zero => intro a1 a2; exact ab_e_none
  | succ n ih =>
    intro a1 a2
    unfold L_C_openShifts_4
    refine ab_e_go 3 (9, [(0, .ref 0), (1, .int a1), (2, .int a2)], [.ref 2, .int a2], (X, w)) rfl ?_
    refine ab_e_c1 (k2 := 25) (as := [.ref 2]) (rest := [.int a2]) rfl rfl (T_K_shiftTotal S w X) (fun v110 => ?_)
    refine ab_e_br (c := v110 ≤ a2) (48, [(0, .ref 0), (1, .int a1), (2, .int a2)], [], (X, w)) (15, [(0, .ref 0), (1, .int a1), (2, .int a2)], [], (X, w)) rfl (fun _ => ?_) (fun _ => ?_)
    · refine ab_e_go 1 (49, [(0, .ref 0), (1, .int a1), (2, .int a2)], [.int a1], (X, w)) rfl ?_
      exact ab_e_rt rfl rfl
    · refine ab_e_go 3 (20, [(0, .ref 0), (1, .int a1), (2, .int a2)], [.int a2, .ref 2], (X, w)) rfl ?_
      refine ab_e_c1 (k2 := 128) (as := [.ref 2, .int a2]) (rest := []) rfl rfl (T_K_coverage S w X a2) (fun v113 => ?_)
      refine ab_e_go 4 (29, [(0, .ref 0), (1, .int a1), (2, .int a2)], [.int (nI 4), .int a2, .ref 2, .int v113], (X, w)) rfl ?_
      refine ab_e_c1 (k2 := 24) (as := [.ref 2, .int a2, .int (nI 4)]) (rest := [.int v113]) rfl rfl (T_K_shiftPart S w X a2 (nI 4)) (fun v114 => ?_)
      refine ab_e_br (c := v114 ≤ v113) (42, [(0, .ref 0), (1, .int a1), (2, .int a2)], [], (X, w)) (35, [(0, .ref 0), (1, .int a1), (2, .int a2)], [], (X, w)) rfl (fun _ => ?_) (fun _ => ?_)
      · refine ab_e_go 2 (4, [(2, .int (a2 + (nI 1))), (0, .ref 0), (1, .int a1)], [], (X, w)) rfl ?_
        refine ab_e_wk [(0, .ref 0), (1, .int a1), (2, .int (a2 + (nI 1)))] ⟨rfl, rfl, rfl, trivial⟩ ?_
        exact ih a1 (a2 + (nI 1))
      · refine ab_e_go 2 (37, [(0, .ref 0), (1, .int a1), (2, .int a2)], [.int a2, .int a1], (X, w)) rfl ?_
        refine ab_e_c1 (k2 := 13) (as := [.int a2]) (rest := [.int a1]) rfl rfl (T_K_bit S w X a2) (fun v115 => ?_)
        refine ab_e_go 4 (4, [(2, .int (a2 + (nI 1))), (1, .int (a1 ||| v115)), (0, .ref 0)], [], (X, w)) rfl ?_
        refine ab_e_wk [(0, .ref 0), (1, .int (a1 ||| v115)), (2, .int (a2 + (nI 1)))] ⟨rfl, rfl, rfl, trivial⟩ ?_
        exact ih (a1 ||| v115) (a2 + (nI 1))
def F_C_openShifts (X : ab_XX) : Option Int32 :=
  L_C_openShifts_4 X ab_fu (nI 0) (nI 0)
set_option maxRecDepth 4000 in
theorem T_C_openShifts (S : Nat × (Nat → Int32)) (w : ab_WW) (X : ab_XX) : ab_Eg (ab_m1 ab_fI (X, w)) S 159 (0, lv_args 0 [.ref 0], [], (X, w)) (F_C_openShifts X) := by
  show ab_Eg (ab_m1 ab_fI (X, w)) S 159 (0, [(0, .ref 0)], [], (X, w)) _
  unfold F_C_openShifts
  refine ab_e_go 4 (4, [(2, .int (nI 0)), (1, .int (nI 0)), (0, .ref 0)], [], (X, w)) rfl ?_
  refine ab_e_wk [(0, .ref 0), (1, .int (nI 0)), (2, .int (nI 0))] ⟨rfl, rfl, rfl, trivial⟩ ?_
  exact T_L_C_openShifts_4 S w X ab_fu (nI 0) (nI 0)
def F_K_isRowAt_12 (a1 : Int32) : Option Int32 :=
  if a1 < nI 0 then
    some (nI 0)
  else
    if ((nI 453) - (nI 453)) < a1 then
      some (nI 0)
    else
      some (nI 1)
set_option maxRecDepth 4000 in
theorem T_K_isRowAt_12 (S : Nat × (Nat → Int32)) (w : ab_WW) (X : ab_XX) (a1 : Int32) : ab_Eg (ab_m1 ab_fI (X, w)) S 18 (0, lv_args 0 [.ref 12, .int a1], [], (X, w)) (F_K_isRowAt_12 a1) := by
  show ab_Eg (ab_m1 ab_fI (X, w)) S 18 (0, [(0, .ref 12), (1, .int a1)], [], (X, w)) _
  unfold F_K_isRowAt_12
  refine ab_e_go 3 (5, [(0, .ref 12), (1, .int a1)], [.int a1], (X, w)) rfl ?_
  refine ab_e_br (c := a1 < nI 0) (22, [(0, .ref 12), (1, .int a1)], [], (X, w)) (8, [(0, .ref 12), (1, .int a1)], [], (X, w)) rfl (fun _ => ?_) (fun _ => ?_)
  · refine ab_e_go 1 (23, [(0, .ref 12), (1, .int a1)], [.int (nI 0)], (X, w)) rfl ?_
    exact ab_e_rt rfl rfl
  · refine ab_e_go 5 (15, [(0, .ref 12), (1, .int a1)], [.int ((nI 453) - (nI 453)), .int a1], (X, w)) rfl ?_
    refine ab_e_br (c := ((nI 453) - (nI 453)) < a1) (22, [(0, .ref 12), (1, .int a1)], [], (X, w)) (18, [(0, .ref 12), (1, .int a1)], [], (X, w)) rfl (fun _ => ?_) (fun _ => ?_)
    · refine ab_e_go 1 (23, [(0, .ref 12), (1, .int a1)], [.int (nI 0)], (X, w)) rfl ?_
      exact ab_e_rt rfl rfl
    · refine ab_e_go 2 (23, [(0, .ref 12), (1, .int a1)], [.int (nI 1)], (X, w)) rfl ?_
      exact ab_e_rt rfl rfl
def F_K_copyRow_12_3 (X : ab_XX) (a1 : Int32) (a3 : Int32) : Option (Unit × ab_XX) :=
  (F_K_isRowAt_12 a1).bind fun v117 =>
  if v117 = nI 0 then
    some ((), X)
  else
    (F_K_isRowAt_3 a3).bind fun v118 =>
    if v118 = nI 0 then
      some ((), X)
    else
      if ¬ a1 < 0 ∧ ¬ a3 < 0 ∧ ¬ (nI 453) < 0 ∧ a1.toNatClampNeg + (nI 453).toNatClampNeg ≤ ab_len 12 ∧ a3.toNatClampNeg + (nI 453).toNatClampNeg ≤ ab_len 3 then
        (some (ab_cpy X 12 3 a1.toNatClampNeg a3.toNatClampNeg (nI 453).toNatClampNeg)).bind fun X119 =>
        some ((), X119)
      else none
set_option maxRecDepth 4000 in
theorem T_K_copyRow_12_3 (S : Nat × (Nat → Int32)) (w : ab_WW) (X : ab_XX) (a1 : Int32) (a3 : Int32) : ab_Eg (ab_m3 ab_fU w) S 60 (0, lv_args 0 [.ref 12, .int a1, .ref 3, .int a3], [], (X, w)) (F_K_copyRow_12_3 X a1 a3) := by
  show ab_Eg (ab_m3 ab_fU w) S 60 (0, [(0, .ref 12), (1, .int a1), (2, .ref 3), (3, .int a3)], [], (X, w)) _
  unfold F_K_copyRow_12_3
  refine ab_e_go 2 (2, [(0, .ref 12), (1, .int a1), (2, .ref 3), (3, .int a3)], [.int a1, .ref 12], (X, w)) rfl ?_
  refine ab_e_c1 (k2 := 18) (as := [.ref 12, .int a1]) (rest := []) rfl rfl (T_K_isRowAt_12 S w X a1) (fun v117 => ?_)
  refine ab_e_br (c := v117 = nI 0) (26, [(0, .ref 12), (1, .int a1), (2, .ref 3), (3, .int a3)], [], (X, w)) (8, [(0, .ref 12), (1, .int a1), (2, .ref 3), (3, .int a3)], [], (X, w)) rfl (fun _ => ?_) (fun _ => ?_)
  · exact ab_e_rt rfl rfl
  · refine ab_e_go 2 (10, [(0, .ref 12), (1, .int a1), (2, .ref 3), (3, .int a3)], [.int a3, .ref 3], (X, w)) rfl ?_
    refine ab_e_c1 (k2 := 18) (as := [.ref 3, .int a3]) (rest := []) rfl rfl (T_K_isRowAt_3 S w X a3) (fun v118 => ?_)
    refine ab_e_br (c := v118 = nI 0) (26, [(0, .ref 12), (1, .int a1), (2, .ref 3), (3, .int a3)], [], (X, w)) (16, [(0, .ref 12), (1, .int a1), (2, .ref 3), (3, .int a3)], [], (X, w)) rfl (fun _ => ?_) (fun _ => ?_)
    · exact ab_e_rt rfl rfl
    · refine ab_e_go 5 (23, [(0, .ref 12), (1, .int a1), (2, .ref 3), (3, .int a3)], [.int (nI 453), .int a3, .ref 3, .int a1, .ref 12], (X, w)) rfl ?_
      refine ab_e_gp (c := ¬ a1 < 0 ∧ ¬ a3 < 0 ∧ ¬ (nI 453) < 0 ∧ a1.toNatClampNeg + (nI 453).toNatClampNeg ≤ ab_len 12 ∧ a3.toNatClampNeg + (nI 453).toNatClampNeg ≤ ab_len 3) (26, [(0, .ref 12), (1, .int a1), (2, .ref 3), (3, .int a3)], [], ((ab_cpy X 12 3 a1.toNatClampNeg a3.toNatClampNeg (nI 453).toNatClampNeg), w)) rfl ?_
      refine ab_e_letX (fun X119 _ => ?_)
      exact ab_e_rt rfl rfl
def F_K_copyFrom_12 (X : ab_XX) : Option (Unit × ab_XX) :=
  ab_b3 (F_K_copyRow_12_3 X (nI 0) (nI 0)) (fun _ X120 =>
    some ((), X120))
set_option maxRecDepth 4000 in
theorem T_K_copyFrom_12 (S : Nat × (Nat → Int32)) (w : ab_WW) (X : ab_XX) : ab_Eg (ab_m3 ab_fU w) S 126 (0, lv_args 0 [.ref 2, .ref 12], [], (X, w)) (F_K_copyFrom_12 X) := by
  show ab_Eg (ab_m3 ab_fU w) S 126 (0, [(0, .ref 2), (1, .ref 12)], [], (X, w)) _
  unfold F_K_copyFrom_12
  refine ab_e_go 5 (7, [(0, .ref 2), (1, .ref 12)], [.int (nI 0), .ref 3, .int (nI 0), .ref 12], (X, w)) rfl ?_
  refine ab_e_c3 (k2 := 60) (as := [.ref 12, .int (nI 0), .ref 3, .int (nI 0)]) (rest := []) rfl rfl (T_K_copyRow_12_3 S w X (nI 0) (nI 0)) (fun _ X120 => ?_)
  exact ab_e_rt rfl rfl
def F_C_restore (X : ab_XX) : Option ((Int32 ⊕ Nat) × ab_XX) :=
  if X 0 7 = nI 0 then
    some (.inr 1, X)
  else
    ab_b3 (F_H_remember_3 X) (fun _ X116 =>
      ab_b3 (F_K_copyFrom_12 X116) (fun _ X121 =>
        (F_K_awardTotal X121).bind fun v122 =>
        some (.inl v122, X121)))
set_option maxRecDepth 4000 in
theorem T_C_restore (S : Nat × (Nat → Int32)) (w : ab_WW) (X : ab_XX) : ab_Eg (ab_m4 ab_fI w) S 160 (0, lv_args 0 [.ref 0], [], (X, w)) (F_C_restore X) := by
  show ab_Eg (ab_m4 ab_fI w) S 160 (0, [(0, .ref 0)], [], (X, w)) _
  unfold F_C_restore
  refine ab_e_go 2 (4, [(0, .ref 0)], [.int (X 0 7)], (X, w)) rfl ?_
  refine ab_e_bn (c := X 0 7 = nI 0) (18, [(0, .ref 0)], [], (X, w)) (7, [(0, .ref 0)], [], (X, w)) rfl (fun _ => ?_) (fun _ => ?_)
  · refine ab_e_go 5 (29, [(0, .ref 0)], [.ref 3, .ref 4], (X, w)) rfl ?_
    refine ab_e_c3 (k2 := 123) (as := [.ref 4, .ref 3]) (rest := []) rfl rfl (T_H_remember_3 S w X) (fun _ X116 => ?_)
    refine ab_e_go 4 (40, [(0, .ref 0)], [.ref 12, .ref 2], (X116, w)) rfl ?_
    refine ab_e_c3 (k2 := 126) (as := [.ref 2, .ref 12]) (rest := []) rfl rfl (T_K_copyFrom_12 S w X116) (fun _ X121 => ?_)
    refine ab_e_go 2 (47, [(0, .ref 0)], [.ref 2], (X121, w)) rfl ?_
    refine ab_e_c1 (k2 := 12) (as := [.ref 2]) (rest := []) rfl rfl (T_K_awardTotal S w X121) (fun v122 => ?_)
    exact ab_e_rt rfl rfl
  · exact ab_e_rt rfl rfl
def F_K_copyRow_3_12 (X : ab_XX) (a1 : Int32) (a3 : Int32) : Option (Unit × ab_XX) :=
  (F_K_isRowAt_3 a1).bind fun v123 =>
  if v123 = nI 0 then
    some ((), X)
  else
    (F_K_isRowAt_12 a3).bind fun v124 =>
    if v124 = nI 0 then
      some ((), X)
    else
      if ¬ a1 < 0 ∧ ¬ a3 < 0 ∧ ¬ (nI 453) < 0 ∧ a1.toNatClampNeg + (nI 453).toNatClampNeg ≤ ab_len 3 ∧ a3.toNatClampNeg + (nI 453).toNatClampNeg ≤ ab_len 12 then
        (some (ab_cpy X 3 12 a1.toNatClampNeg a3.toNatClampNeg (nI 453).toNatClampNeg)).bind fun X125 =>
        some ((), X125)
      else none
set_option maxRecDepth 4000 in
theorem T_K_copyRow_3_12 (S : Nat × (Nat → Int32)) (w : ab_WW) (X : ab_XX) (a1 : Int32) (a3 : Int32) : ab_Eg (ab_m3 ab_fU w) S 60 (0, lv_args 0 [.ref 3, .int a1, .ref 12, .int a3], [], (X, w)) (F_K_copyRow_3_12 X a1 a3) := by
  show ab_Eg (ab_m3 ab_fU w) S 60 (0, [(0, .ref 3), (1, .int a1), (2, .ref 12), (3, .int a3)], [], (X, w)) _
  unfold F_K_copyRow_3_12
  refine ab_e_go 2 (2, [(0, .ref 3), (1, .int a1), (2, .ref 12), (3, .int a3)], [.int a1, .ref 3], (X, w)) rfl ?_
  refine ab_e_c1 (k2 := 18) (as := [.ref 3, .int a1]) (rest := []) rfl rfl (T_K_isRowAt_3 S w X a1) (fun v123 => ?_)
  refine ab_e_br (c := v123 = nI 0) (26, [(0, .ref 3), (1, .int a1), (2, .ref 12), (3, .int a3)], [], (X, w)) (8, [(0, .ref 3), (1, .int a1), (2, .ref 12), (3, .int a3)], [], (X, w)) rfl (fun _ => ?_) (fun _ => ?_)
  · exact ab_e_rt rfl rfl
  · refine ab_e_go 2 (10, [(0, .ref 3), (1, .int a1), (2, .ref 12), (3, .int a3)], [.int a3, .ref 12], (X, w)) rfl ?_
    refine ab_e_c1 (k2 := 18) (as := [.ref 12, .int a3]) (rest := []) rfl rfl (T_K_isRowAt_12 S w X a3) (fun v124 => ?_)
    refine ab_e_br (c := v124 = nI 0) (26, [(0, .ref 3), (1, .int a1), (2, .ref 12), (3, .int a3)], [], (X, w)) (16, [(0, .ref 3), (1, .int a1), (2, .ref 12), (3, .int a3)], [], (X, w)) rfl (fun _ => ?_) (fun _ => ?_)
    · exact ab_e_rt rfl rfl
    · refine ab_e_go 5 (23, [(0, .ref 3), (1, .int a1), (2, .ref 12), (3, .int a3)], [.int (nI 453), .int a3, .ref 12, .int a1, .ref 3], (X, w)) rfl ?_
      refine ab_e_gp (c := ¬ a1 < 0 ∧ ¬ a3 < 0 ∧ ¬ (nI 453) < 0 ∧ a1.toNatClampNeg + (nI 453).toNatClampNeg ≤ ab_len 3 ∧ a3.toNatClampNeg + (nI 453).toNatClampNeg ≤ ab_len 12) (26, [(0, .ref 3), (1, .int a1), (2, .ref 12), (3, .int a3)], [], ((ab_cpy X 3 12 a1.toNatClampNeg a3.toNatClampNeg (nI 453).toNatClampNeg), w)) rfl ?_
      refine ab_e_letX (fun X125 _ => ?_)
      exact ab_e_rt rfl rfl
def F_K_copyTo_12 (X : ab_XX) : Option (Unit × ab_XX) :=
  ab_b3 (F_K_copyRow_3_12 X (nI 0) (nI 0)) (fun _ X126 =>
    some ((), X126))
set_option maxRecDepth 4000 in
theorem T_K_copyTo_12 (S : Nat × (Nat → Int32)) (w : ab_WW) (X : ab_XX) : ab_Eg (ab_m3 ab_fU w) S 127 (0, lv_args 0 [.ref 2, .ref 12], [], (X, w)) (F_K_copyTo_12 X) := by
  show ab_Eg (ab_m3 ab_fU w) S 127 (0, [(0, .ref 2), (1, .ref 12)], [], (X, w)) _
  unfold F_K_copyTo_12
  refine ab_e_go 5 (7, [(0, .ref 2), (1, .ref 12)], [.int (nI 0), .ref 12, .int (nI 0), .ref 3], (X, w)) rfl ?_
  refine ab_e_c3 (k2 := 60) (as := [.ref 3, .int (nI 0), .ref 12, .int (nI 0)]) (rest := []) rfl rfl (T_K_copyRow_3_12 S w X (nI 0) (nI 0)) (fun _ X126 => ?_)
  exact ab_e_rt rfl rfl
def F_C_save (X : ab_XX) : Option (Int32 × ab_XX) :=
  ab_b3 (F_K_copyTo_12 X) (fun _ X127 =>
    (some (ab_up X127 0 7 (nI 1))).bind fun X128 =>
    (F_K_awardTotal X128).bind fun v129 =>
    some (v129, X128))
set_option maxRecDepth 4000 in
theorem T_C_save (S : Nat × (Nat → Int32)) (w : ab_WW) (X : ab_XX) : ab_Eg (ab_m3 ab_fI w) S 161 (0, lv_args 0 [.ref 0], [], (X, w)) (F_C_save X) := by
  show ab_Eg (ab_m3 ab_fI w) S 161 (0, [(0, .ref 0)], [], (X, w)) _
  unfold F_C_save
  refine ab_e_go 4 (8, [(0, .ref 0)], [.ref 12, .ref 2], (X, w)) rfl ?_
  refine ab_e_c3 (k2 := 127) (as := [.ref 2, .ref 12]) (rest := []) rfl rfl (T_K_copyTo_12 S w X) (fun _ X127 => ?_)
  refine ab_e_go 3 (16, [(0, .ref 0)], [], ((ab_up X127 0 7 (nI 1)), w)) rfl ?_
  refine ab_e_letX (fun X128 _ => ?_)
  refine ab_e_go 2 (20, [(0, .ref 0)], [.ref 2], (X128, w)) rfl ?_
  refine ab_e_c1 (k2 := 12) (as := [.ref 2]) (rest := []) rfl rfl (T_K_awardTotal S w X128) (fun v129 => ?_)
  exact ab_e_rt rfl rfl
def F_K_isBidInRange (a0 : Int32) : Option Int32 :=
  (F_K_isWithin a0 (nI 0) (nI 9)).bind fun v130 =>
  if v130 &&& 1 = v130 then some v130 else none
set_option maxRecDepth 4000 in
theorem T_K_isBidInRange (S : Nat × (Nat → Int32)) (w : ab_WW) (X : ab_XX) (a0 : Int32) : ab_Eg (ab_m1 ab_fI (X, w)) S 68 (0, lv_args 0 [.int a0], [], (X, w)) (F_K_isBidInRange a0) := by
  show ab_Eg (ab_m1 ab_fI (X, w)) S 68 (0, [(0, .int a0)], [], (X, w)) _
  unfold F_K_isBidInRange
  refine ab_e_go 3 (4, [(0, .int a0)], [.int (nI 9), .int (nI 0), .int a0], (X, w)) rfl ?_
  refine ab_e_c1 (k2 := 20) (as := [.int a0, .int (nI 0), .int (nI 9)]) (rest := []) rfl rfl (T_K_isWithin S w X a0 (nI 0) (nI 9)) (fun v130 => ?_)
  exact ab_e_rp (c := v130 &&& 1 = v130) rfl rfl
def F_K_hasRoomForBid (X : ab_XX) (a1 : Int32) (a2 : Int32) (a3 : Int32) : Option Int32 :=
  if a3 = nI 0 then
    some (nI 1)
  else
    (F_K_pointsFor X a1 a2).bind fun v132 =>
    if v132 = nI 0 then
      (F_K_bidTotal X a1).bind fun v133 =>
      if nI 8 ≤ v133 then
        some (nI 0)
      else
        some (nI 1)
    else
      some (nI 1)
set_option maxRecDepth 4000 in
theorem T_K_hasRoomForBid (S : Nat × (Nat → Int32)) (w : ab_WW) (X : ab_XX) (a1 : Int32) (a2 : Int32) (a3 : Int32) : ab_Eg (ab_m1 ab_fI (X, w)) S 129 (0, lv_args 0 [.ref 2, .int a1, .int a2, .int a3], [], (X, w)) (F_K_hasRoomForBid X a1 a2 a3) := by
  show ab_Eg (ab_m1 ab_fI (X, w)) S 129 (0, [(0, .ref 2), (1, .int a1), (2, .int a2), (3, .int a3)], [], (X, w)) _
  unfold F_K_hasRoomForBid
  refine ab_e_go 1 (1, [(0, .ref 2), (1, .int a1), (2, .int a2), (3, .int a3)], [.int a3], (X, w)) rfl ?_
  refine ab_e_br (c := a3 = nI 0) (23, [(0, .ref 2), (1, .int a1), (2, .int a2), (3, .int a3)], [], (X, w)) (4, [(0, .ref 2), (1, .int a1), (2, .int a2), (3, .int a3)], [], (X, w)) rfl (fun _ => ?_) (fun _ => ?_)
  · refine ab_e_go 2 (28, [(0, .ref 2), (1, .int a1), (2, .int a2), (3, .int a3)], [.int (nI 1)], (X, w)) rfl ?_
    exact ab_e_rt rfl rfl
  · refine ab_e_go 3 (7, [(0, .ref 2), (1, .int a1), (2, .int a2), (3, .int a3)], [.int a2, .int a1, .ref 2], (X, w)) rfl ?_
    refine ab_e_c1 (k2 := 22) (as := [.ref 2, .int a1, .int a2]) (rest := []) rfl rfl (T_K_pointsFor S w X a1 a2) (fun v132 => ?_)
    refine ab_e_bn (c := v132 = nI 0) (23, [(0, .ref 2), (1, .int a1), (2, .int a2), (3, .int a3)], [], (X, w)) (13, [(0, .ref 2), (1, .int a1), (2, .int a2), (3, .int a3)], [], (X, w)) rfl (fun _ => ?_) (fun _ => ?_)
    · refine ab_e_go 2 (28, [(0, .ref 2), (1, .int a1), (2, .int a2), (3, .int a3)], [.int (nI 1)], (X, w)) rfl ?_
      exact ab_e_rt rfl rfl
    · refine ab_e_go 2 (15, [(0, .ref 2), (1, .int a1), (2, .int a2), (3, .int a3)], [.int a1, .ref 2], (X, w)) rfl ?_
      refine ab_e_c1 (k2 := 58) (as := [.ref 2, .int a1]) (rest := []) rfl rfl (T_K_bidTotal S w X a1) (fun v133 => ?_)
      refine ab_e_go 1 (20, [(0, .ref 2), (1, .int a1), (2, .int a2), (3, .int a3)], [.int (nI 8), .int v133], (X, w)) rfl ?_
      refine ab_e_br (c := nI 8 ≤ v133) (27, [(0, .ref 2), (1, .int a1), (2, .int a2), (3, .int a3)], [], (X, w)) (23, [(0, .ref 2), (1, .int a1), (2, .int a2), (3, .int a3)], [], (X, w)) rfl (fun _ => ?_) (fun _ => ?_)
      · refine ab_e_go 1 (28, [(0, .ref 2), (1, .int a1), (2, .int a2), (3, .int a3)], [.int (nI 0)], (X, w)) rfl ?_
        exact ab_e_rt rfl rfl
      · refine ab_e_go 2 (28, [(0, .ref 2), (1, .int a1), (2, .int a2), (3, .int a3)], [.int (nI 1)], (X, w)) rfl ?_
        exact ab_e_rt rfl rfl
def F_K_enterBid (X : ab_XX) (a1 : Int32) (a2 : Int32) (a3 : Int32) : Option (Int32 × ab_XX) :=
  (F_K_pointsFor X a1 a2).bind fun v136 =>
  ab_b3 (F_K_put X (((nI 197) + (a1 * (nI 16))) + a2) a3) (fun _ X137 =>
    some (v136, X137))
set_option maxRecDepth 4000 in
theorem T_K_enterBid (S : Nat × (Nat → Int32)) (w : ab_WW) (X : ab_XX) (a1 : Int32) (a2 : Int32) (a3 : Int32) : ab_Eg (ab_m3 ab_fI w) S 62 (0, lv_args 0 [.ref 2, .int a1, .int a2, .int a3], [], (X, w)) (F_K_enterBid X a1 a2 a3) := by
  show ab_Eg (ab_m3 ab_fI w) S 62 (0, [(0, .ref 2), (1, .int a1), (2, .int a2), (3, .int a3)], [], (X, w)) _
  unfold F_K_enterBid
  refine ab_e_go 3 (3, [(0, .ref 2), (1, .int a1), (2, .int a2), (3, .int a3)], [.int a2, .int a1, .ref 2], (X, w)) rfl ?_
  refine ab_e_c1 (k2 := 22) (as := [.ref 2, .int a1, .int a2]) (rest := []) rfl rfl (T_K_pointsFor S w X a1 a2) (fun v136 => ?_)
  refine ab_e_go 10 (20, [(4, .int v136), (0, .ref 2), (1, .int a1), (2, .int a2), (3, .int a3)], [.int a3, .int (((nI 197) + (a1 * (nI 16))) + a2), .ref 2], (X, w)) rfl ?_
  refine ab_e_c3 (k2 := 23) (as := [.ref 2, .int (((nI 197) + (a1 * (nI 16))) + a2), .int a3]) (rest := []) rfl rfl (T_K_put S w X (((nI 197) + (a1 * (nI 16))) + a2) a3) (fun _ X137 => ?_)
  refine ab_e_go 1 (25, [(4, .int v136), (0, .ref 2), (1, .int a1), (2, .int a2), (3, .int a3)], [.int v136], (X137, w)) rfl ?_
  exact ab_e_rt rfl rfl
def F_C_setBid (X : ab_XX) (a1 : Int32) (a2 : Int32) (a3 : Int32) : Option ((Int32 ⊕ Nat) × ab_XX) :=
  ab_b2 (F_C_requirePair X a1 a2) (fun _ =>
    (F_K_isBidInRange a3).bind fun v131 =>
    if v131 = nI 0 then
      some (.inr 0, X)
    else
      (F_K_hasRoomForBid X a1 a2 a3).bind fun v134 =>
      if v134 = nI 0 then
        some (.inr 1, X)
      else
        ab_b3 (F_H_remember_3 X) (fun _ X135 =>
          ab_b3 (F_K_enterBid X135 a1 a2 a3) (fun v138 X139 =>
            some (.inl v138, X139)))) (fun y => some (.inr y, X))
set_option maxRecDepth 4000 in
theorem T_C_setBid (S : Nat × (Nat → Int32)) (w : ab_WW) (X : ab_XX) (a1 : Int32) (a2 : Int32) (a3 : Int32) : ab_Eg (ab_m4 ab_fI w) S 162 (0, lv_args 0 [.ref 0, .int a1, .int a2, .int a3], [], (X, w)) (F_C_setBid X a1 a2 a3) := by
  show ab_Eg (ab_m4 ab_fI w) S 162 (0, [(0, .ref 0), (1, .int a1), (2, .int a2), (3, .int a3)], [], (X, w)) _
  unfold F_C_setBid
  refine ab_e_go 3 (3, [(0, .ref 0), (1, .int a1), (2, .int a2), (3, .int a3)], [.int a2, .int a1, .ref 0], (X, w)) rfl ?_
  refine ab_e_c2 (k2 := 120) (as := [.ref 0, .int a1, .int a2]) (rest := []) rfl rfl rfl (T_C_requirePair S w X a1 a2) (fun _ => ?_) (fun _ _ h => by cases h; rfl)
  refine ab_e_go 1 (7, [(0, .ref 0), (1, .int a1), (2, .int a2), (3, .int a3)], [.int a3], (X, w)) rfl ?_
  refine ab_e_c1 (k2 := 68) (as := [.int a3]) (rest := []) rfl rfl (T_K_isBidInRange S w X a3) (fun v131 => ?_)
  refine ab_e_bn (c := v131 = nI 0) (23, [(0, .ref 0), (1, .int a1), (2, .int a2), (3, .int a3)], [], (X, w)) (13, [(0, .ref 0), (1, .int a1), (2, .int a2), (3, .int a3)], [], (X, w)) rfl (fun _ => ?_) (fun _ => ?_)
  · refine ab_e_go 5 (30, [(0, .ref 0), (1, .int a1), (2, .int a2), (3, .int a3)], [.int a3, .int a2, .int a1, .ref 2], (X, w)) rfl ?_
    refine ab_e_c1 (k2 := 129) (as := [.ref 2, .int a1, .int a2, .int a3]) (rest := []) rfl rfl (T_K_hasRoomForBid S w X a1 a2 a3) (fun v134 => ?_)
    refine ab_e_bn (c := v134 = nI 0) (46, [(0, .ref 0), (1, .int a1), (2, .int a2), (3, .int a3)], [], (X, w)) (36, [(0, .ref 0), (1, .int a1), (2, .int a2), (3, .int a3)], [], (X, w)) rfl (fun _ => ?_) (fun _ => ?_)
    · refine ab_e_go 5 (57, [(0, .ref 0), (1, .int a1), (2, .int a2), (3, .int a3)], [.ref 3, .ref 4], (X, w)) rfl ?_
      refine ab_e_c3 (k2 := 123) (as := [.ref 4, .ref 3]) (rest := []) rfl rfl (T_H_remember_3 S w X) (fun _ X135 => ?_)
      refine ab_e_go 5 (67, [(0, .ref 0), (1, .int a1), (2, .int a2), (3, .int a3)], [.int a3, .int a2, .int a1, .ref 2], (X135, w)) rfl ?_
      refine ab_e_c3 (k2 := 62) (as := [.ref 2, .int a1, .int a2, .int a3]) (rest := []) rfl rfl (T_K_enterBid S w X135 a1 a2 a3) (fun v138 X139 => ?_)
      exact ab_e_rt rfl rfl
    · exact ab_e_rt rfl rfl
  · exact ab_e_rt rfl rfl
def F_K_enterGuarantee (X : ab_XX) (a1 : Int32) (a2 : Int32) : Option (Int32 × ab_XX) :=
  (F_K_shiftPart X a1 (nI 5)).bind fun v144 =>
  ab_b3 (F_K_put X (((nI 53) + (a1 * (nI 9))) + (nI 5)) a2) (fun _ X145 =>
    some (v144, X145))
set_option maxRecDepth 4000 in
theorem T_K_enterGuarantee (S : Nat × (Nat → Int32)) (w : ab_WW) (X : ab_XX) (a1 : Int32) (a2 : Int32) : ab_Eg (ab_m3 ab_fI w) S 63 (0, lv_args 0 [.ref 2, .int a1, .int a2], [], (X, w)) (F_K_enterGuarantee X a1 a2) := by
  show ab_Eg (ab_m3 ab_fI w) S 63 (0, [(0, .ref 2), (1, .int a1), (2, .int a2)], [], (X, w)) _
  unfold F_K_enterGuarantee
  refine ab_e_go 3 (3, [(0, .ref 2), (1, .int a1), (2, .int a2)], [.int (nI 5), .int a1, .ref 2], (X, w)) rfl ?_
  refine ab_e_c1 (k2 := 24) (as := [.ref 2, .int a1, .int (nI 5)]) (rest := []) rfl rfl (T_K_shiftPart S w X a1 (nI 5)) (fun v144 => ?_)
  refine ab_e_go 10 (18, [(3, .int v144), (0, .ref 2), (1, .int a1), (2, .int a2)], [.int a2, .int (((nI 53) + (a1 * (nI 9))) + (nI 5)), .ref 2], (X, w)) rfl ?_
  refine ab_e_c3 (k2 := 23) (as := [.ref 2, .int (((nI 53) + (a1 * (nI 9))) + (nI 5)), .int a2]) (rest := []) rfl rfl (T_K_put S w X (((nI 53) + (a1 * (nI 9))) + (nI 5)) a2) (fun _ X145 => ?_)
  refine ab_e_go 1 (22, [(3, .int v144), (0, .ref 2), (1, .int a1), (2, .int a2)], [.int v144], (X145, w)) rfl ?_
  exact ab_e_rt rfl rfl
def F_C_setGuarantee (X : ab_XX) (a1 : Int32) (a2 : Int32) : Option ((Int32 ⊕ Nat) × ab_XX) :=
  ab_b2 (F_C_requireShift X a1) (fun _ =>
    (F_K_shiftPart X a1 (nI 4)).bind fun v140 =>
    (F_K_isWithin a2 (nI 0) v140).bind fun v141 =>
    if v141 = nI 0 then
      some (.inr 0, X)
    else
      (F_K_coverage X a1).bind fun v142 =>
      if a2 ≤ v142 then
        ab_b3 (F_H_remember_3 X) (fun _ X143 =>
          ab_b3 (F_K_enterGuarantee X143 a1 a2) (fun v146 X147 =>
            some (.inl v146, X147)))
      else
        some (.inr 1, X)) (fun y => some (.inr y, X))
set_option maxRecDepth 4000 in
theorem T_C_setGuarantee (S : Nat × (Nat → Int32)) (w : ab_WW) (X : ab_XX) (a1 : Int32) (a2 : Int32) : ab_Eg (ab_m4 ab_fI w) S 163 (0, lv_args 0 [.ref 0, .int a1, .int a2], [], (X, w)) (F_C_setGuarantee X a1 a2) := by
  show ab_Eg (ab_m4 ab_fI w) S 163 (0, [(0, .ref 0), (1, .int a1), (2, .int a2)], [], (X, w)) _
  unfold F_C_setGuarantee
  refine ab_e_go 2 (2, [(0, .ref 0), (1, .int a1), (2, .int a2)], [.int a1, .ref 0], (X, w)) rfl ?_
  refine ab_e_c2 (k2 := 51) (as := [.ref 0, .int a1]) (rest := []) rfl rfl rfl (T_C_requireShift S w X a1) (fun _ => ?_) (fun _ _ h => by cases h; rfl)
  refine ab_e_go 6 (13, [(0, .ref 0), (1, .int a1), (2, .int a2)], [.int (nI 4), .int a1, .ref 2, .int (nI 0), .int a2], (X, w)) rfl ?_
  refine ab_e_c1 (k2 := 24) (as := [.ref 2, .int a1, .int (nI 4)]) (rest := [.int (nI 0), .int a2]) rfl rfl (T_K_shiftPart S w X a1 (nI 4)) (fun v140 => ?_)
  refine ab_e_c1 (k2 := 20) (as := [.int a2, .int (nI 0), .int v140]) (rest := []) rfl rfl (T_K_isWithin S w X a2 (nI 0) v140) (fun v141 => ?_)
  refine ab_e_bn (c := v141 = nI 0) (33, [(0, .ref 0), (1, .int a1), (2, .int a2)], [], (X, w)) (22, [(0, .ref 0), (1, .int a1), (2, .int a2)], [], (X, w)) rfl (fun _ => ?_) (fun _ => ?_)
  · refine ab_e_go 3 (38, [(0, .ref 0), (1, .int a1), (2, .int a2)], [.int a1, .ref 2], (X, w)) rfl ?_
    refine ab_e_c1 (k2 := 128) (as := [.ref 2, .int a1]) (rest := []) rfl rfl (T_K_coverage S w X a1) (fun v142 => ?_)
    refine ab_e_go 1 (42, [(0, .ref 0), (1, .int a1), (2, .int a2)], [.int a2, .int v142], (X, w)) rfl ?_
    refine ab_e_br (c := a2 ≤ v142) (56, [(0, .ref 0), (1, .int a1), (2, .int a2)], [], (X, w)) (45, [(0, .ref 0), (1, .int a1), (2, .int a2)], [], (X, w)) rfl (fun _ => ?_) (fun _ => ?_)
    · refine ab_e_go 5 (67, [(0, .ref 0), (1, .int a1), (2, .int a2)], [.ref 3, .ref 4], (X, w)) rfl ?_
      refine ab_e_c3 (k2 := 123) (as := [.ref 4, .ref 3]) (rest := []) rfl rfl (T_H_remember_3 S w X) (fun _ X143 => ?_)
      refine ab_e_go 4 (76, [(0, .ref 0), (1, .int a1), (2, .int a2)], [.int a2, .int a1, .ref 2], (X143, w)) rfl ?_
      refine ab_e_c3 (k2 := 63) (as := [.ref 2, .int a1, .int a2]) (rest := []) rfl rfl (T_K_enterGuarantee S w X143 a1 a2) (fun v146 X147 => ?_)
      exact ab_e_rt rfl rfl
    · exact ab_e_rt rfl rfl
  · exact ab_e_rt rfl rfl
def F_C_shift (X : ab_XX) (a1 : Int32) (a2 : Int32) : Option (Int32 ⊕ Nat) :=
  ab_b2 (F_C_requireShift X a1) (fun _ =>
    ab_b2 (F_C_requirePart a2 (nI 7)) (fun _ =>
      if a2 = nI 6 then
        (F_K_coverage X a1).bind fun v150 =>
        some (.inl v150)
      else
        if a2 = nI 7 then
          (F_K_shiftPart X a1 (nI 7)).bind fun v149 =>
          some (.inl v149)
        else
          (F_K_shiftPart X a1 a2).bind fun v148 =>
          some (.inl v148)) (fun y => some (.inr y))) (fun y => some (.inr y))
set_option maxRecDepth 4000 in
theorem T_C_shift (S : Nat × (Nat → Int32)) (w : ab_WW) (X : ab_XX) (a1 : Int32) (a2 : Int32) : ab_Eg (ab_m2 ab_fI (X, w)) S 164 (0, lv_args 0 [.ref 0, .int a1, .int a2], [], (X, w)) (F_C_shift X a1 a2) := by
  show ab_Eg (ab_m2 ab_fI (X, w)) S 164 (0, [(0, .ref 0), (1, .int a1), (2, .int a2)], [], (X, w)) _
  unfold F_C_shift
  refine ab_e_go 2 (2, [(0, .ref 0), (1, .int a1), (2, .int a2)], [.int a1, .ref 0], (X, w)) rfl ?_
  refine ab_e_c2 (k2 := 51) (as := [.ref 0, .int a1]) (rest := []) rfl rfl rfl (T_C_requireShift S w X a1) (fun _ => ?_) (fun _ _ h => by cases h; rfl)
  refine ab_e_go 2 (8, [(0, .ref 0), (1, .int a1), (2, .int a2)], [.int (nI 7), .int a2], (X, w)) rfl ?_
  refine ab_e_c2 (k2 := 50) (as := [.int a2, .int (nI 7)]) (rest := []) rfl rfl rfl (T_C_requirePart S w X a2 (nI 7)) (fun _ => ?_) (fun _ _ h => by cases h; rfl)
  refine ab_e_go 2 (14, [(0, .ref 0), (1, .int a1), (2, .int a2)], [.int (nI 6), .int a2], (X, w)) rfl ?_
  refine ab_e_bn (c := a2 = nI 6) (26, [(0, .ref 0), (1, .int a1), (2, .int a2)], [], (X, w)) (17, [(0, .ref 0), (1, .int a1), (2, .int a2)], [], (X, w)) rfl (fun _ => ?_) (fun _ => ?_)
  · refine ab_e_go 5 (34, [(0, .ref 0), (1, .int a1), (2, .int a2)], [.int (nI 7), .int a2, .int a1, .ref 2], (X, w)) rfl ?_
    refine ab_e_bn (c := a2 = nI 7) (42, [(0, .ref 0), (1, .int a1), (2, .int a2)], [.int a1, .ref 2], (X, w)) (37, [(0, .ref 0), (1, .int a1), (2, .int a2)], [.int a1, .ref 2], (X, w)) rfl (fun _ => ?_) (fun _ => ?_)
    · refine ab_e_go 1 (43, [(0, .ref 0), (1, .int a1), (2, .int a2)], [.int a2, .int a1, .ref 2], (X, w)) rfl ?_
      refine ab_e_c1 (k2 := 24) (as := [.ref 2, .int a1, .int a2]) (rest := []) rfl rfl (T_K_shiftPart S w X a1 a2) (fun v148 => ?_)
      exact ab_e_rt rfl rfl
    · refine ab_e_go 2 (43, [(0, .ref 0), (1, .int a1), (2, .int a2)], [.int (nI 7), .int a1, .ref 2], (X, w)) rfl ?_
      refine ab_e_c1 (k2 := 24) (as := [.ref 2, .int a1, .int (nI 7)]) (rest := []) rfl rfl (T_K_shiftPart S w X a1 (nI 7)) (fun v149 => ?_)
      exact ab_e_rt rfl rfl
  · refine ab_e_go 3 (22, [(0, .ref 0), (1, .int a1), (2, .int a2)], [.int a1, .ref 2], (X, w)) rfl ?_
    refine ab_e_c1 (k2 := 128) (as := [.ref 2, .int a1]) (rest := []) rfl rfl (T_K_coverage S w X a1) (fun v150 => ?_)
    exact ab_e_rt rfl rfl
def F_H_kept (X : ab_XX) : Option Int32 :=
  some (X 4 2)
set_option maxRecDepth 4000 in
theorem T_H_kept (S : Nat × (Nat → Int32)) (w : ab_WW) (X : ab_XX) : ab_Eg (ab_m1 ab_fI (X, w)) S 2 (0, lv_args 0 [.ref 4], [], (X, w)) (F_H_kept X) := by
  show ab_Eg (ab_m1 ab_fI (X, w)) S 2 (0, [(0, .ref 4)], [], (X, w)) _
  unfold F_H_kept
  refine ab_e_go 2 (4, [(0, .ref 4)], [.int (X 4 2)], (X, w)) rfl ?_
  exact ab_e_rt rfl rfl
def F_K_copyRow_5_3 (X : ab_XX) (a1 : Int32) (a3 : Int32) : Option (Unit × ab_XX) :=
  (F_K_isRowAt_5 a1).bind fun v154 =>
  if v154 = nI 0 then
    some ((), X)
  else
    (F_K_isRowAt_3 a3).bind fun v155 =>
    if v155 = nI 0 then
      some ((), X)
    else
      if ¬ a1 < 0 ∧ ¬ a3 < 0 ∧ ¬ (nI 453) < 0 ∧ a1.toNatClampNeg + (nI 453).toNatClampNeg ≤ ab_len 5 ∧ a3.toNatClampNeg + (nI 453).toNatClampNeg ≤ ab_len 3 then
        (some (ab_cpy X 5 3 a1.toNatClampNeg a3.toNatClampNeg (nI 453).toNatClampNeg)).bind fun X156 =>
        some ((), X156)
      else none
set_option maxRecDepth 4000 in
theorem T_K_copyRow_5_3 (S : Nat × (Nat → Int32)) (w : ab_WW) (X : ab_XX) (a1 : Int32) (a3 : Int32) : ab_Eg (ab_m3 ab_fU w) S 60 (0, lv_args 0 [.ref 5, .int a1, .ref 3, .int a3], [], (X, w)) (F_K_copyRow_5_3 X a1 a3) := by
  show ab_Eg (ab_m3 ab_fU w) S 60 (0, [(0, .ref 5), (1, .int a1), (2, .ref 3), (3, .int a3)], [], (X, w)) _
  unfold F_K_copyRow_5_3
  refine ab_e_go 2 (2, [(0, .ref 5), (1, .int a1), (2, .ref 3), (3, .int a3)], [.int a1, .ref 5], (X, w)) rfl ?_
  refine ab_e_c1 (k2 := 18) (as := [.ref 5, .int a1]) (rest := []) rfl rfl (T_K_isRowAt_5 S w X a1) (fun v154 => ?_)
  refine ab_e_br (c := v154 = nI 0) (26, [(0, .ref 5), (1, .int a1), (2, .ref 3), (3, .int a3)], [], (X, w)) (8, [(0, .ref 5), (1, .int a1), (2, .ref 3), (3, .int a3)], [], (X, w)) rfl (fun _ => ?_) (fun _ => ?_)
  · exact ab_e_rt rfl rfl
  · refine ab_e_go 2 (10, [(0, .ref 5), (1, .int a1), (2, .ref 3), (3, .int a3)], [.int a3, .ref 3], (X, w)) rfl ?_
    refine ab_e_c1 (k2 := 18) (as := [.ref 3, .int a3]) (rest := []) rfl rfl (T_K_isRowAt_3 S w X a3) (fun v155 => ?_)
    refine ab_e_br (c := v155 = nI 0) (26, [(0, .ref 5), (1, .int a1), (2, .ref 3), (3, .int a3)], [], (X, w)) (16, [(0, .ref 5), (1, .int a1), (2, .ref 3), (3, .int a3)], [], (X, w)) rfl (fun _ => ?_) (fun _ => ?_)
    · exact ab_e_rt rfl rfl
    · refine ab_e_go 5 (23, [(0, .ref 5), (1, .int a1), (2, .ref 3), (3, .int a3)], [.int (nI 453), .int a3, .ref 3, .int a1, .ref 5], (X, w)) rfl ?_
      refine ab_e_gp (c := ¬ a1 < 0 ∧ ¬ a3 < 0 ∧ ¬ (nI 453) < 0 ∧ a1.toNatClampNeg + (nI 453).toNatClampNeg ≤ ab_len 5 ∧ a3.toNatClampNeg + (nI 453).toNatClampNeg ≤ ab_len 3) (26, [(0, .ref 5), (1, .int a1), (2, .ref 3), (3, .int a3)], [], ((ab_cpy X 5 3 a1.toNatClampNeg a3.toNatClampNeg (nI 453).toNatClampNeg), w)) rfl ?_
      refine ab_e_letX (fun X156 _ => ?_)
      exact ab_e_rt rfl rfl
def F_H_takeBack_3 (X : ab_XX) : Option (Unit × ab_XX) :=
  if X 4 2 = nI 0 then
    some ((), X)
  else
    (some (ab_up X 4 1 ((((X 4 1) + (nI 8)) - (nI 1)) - (((X 4 1) + (nI 8)) - (nI 1)) / (nI 8) * (nI 8)))).bind fun X152 =>
    (some (ab_up X152 4 2 ((X152 4 2) - (nI 1)))).bind fun X153 =>
    ab_b3 (F_K_copyRow_5_3 X153 ((X153 4 1) * (nI 453)) (nI 0)) (fun _ X157 =>
      some ((), X157))
set_option maxRecDepth 4000 in
theorem T_H_takeBack_3 (S : Nat × (Nat → Int32)) (w : ab_WW) (X : ab_XX) : ab_Eg (ab_m3 ab_fU w) S 124 (0, lv_args 0 [.ref 4, .ref 3], [], (X, w)) (F_H_takeBack_3 X) := by
  show ab_Eg (ab_m3 ab_fU w) S 124 (0, [(0, .ref 4), (1, .ref 3)], [], (X, w)) _
  unfold F_H_takeBack_3
  refine ab_e_go 2 (4, [(0, .ref 4), (1, .ref 3)], [.int (X 4 2)], (X, w)) rfl ?_
  refine ab_e_bn (c := X 4 2 = nI 0) (8, [(0, .ref 4), (1, .ref 3)], [], (X, w)) (7, [(0, .ref 4), (1, .ref 3)], [], (X, w)) rfl (fun _ => ?_) (fun _ => ?_)
  · refine ab_e_go 10 (24, [(0, .ref 4), (1, .ref 3)], [], ((ab_up X 4 1 ((((X 4 1) + (nI 8)) - (nI 1)) - (((X 4 1) + (nI 8)) - (nI 1)) / (nI 8) * (nI 8))), w)) rfl ?_
    refine ab_e_letX (fun X152 _ => ?_)
    refine ab_e_go 6 (34, [(0, .ref 4), (1, .ref 3)], [], ((ab_up X152 4 2 ((X152 4 2) - (nI 1))), w)) rfl ?_
    refine ab_e_letX (fun X153 _ => ?_)
    refine ab_e_go 8 (48, [(0, .ref 4), (1, .ref 3)], [.int (nI 0), .ref 3, .int ((X153 4 1) * (nI 453)), .ref 5], (X153, w)) rfl ?_
    refine ab_e_c3 (k2 := 60) (as := [.ref 5, .int ((X153 4 1) * (nI 453)), .ref 3, .int (nI 0)]) (rest := []) rfl rfl (T_K_copyRow_5_3 S w X153 ((X153 4 1) * (nI 453)) (nI 0)) (fun _ X157 => ?_)
    exact ab_e_rt rfl rfl
  · exact ab_e_rt rfl rfl
def F_C_undo (X : ab_XX) : Option ((Int32 ⊕ Nat) × ab_XX) :=
  (F_H_kept X).bind fun v151 =>
  if v151 = nI 0 then
    some (.inr 1, X)
  else
    ab_b3 (F_H_takeBack_3 X) (fun _ X158 =>
      (F_H_kept X158).bind fun v159 =>
      some (.inl v159, X158))
set_option maxRecDepth 4000 in
theorem T_C_undo (S : Nat × (Nat → Int32)) (w : ab_WW) (X : ab_XX) : ab_Eg (ab_m4 ab_fI w) S 165 (0, lv_args 0 [.ref 0], [], (X, w)) (F_C_undo X) := by
  show ab_Eg (ab_m4 ab_fI w) S 165 (0, [(0, .ref 0)], [], (X, w)) _
  unfold F_C_undo
  refine ab_e_go 2 (4, [(0, .ref 0)], [.ref 4], (X, w)) rfl ?_
  refine ab_e_c1 (k2 := 2) (as := [.ref 4]) (rest := []) rfl rfl (T_H_kept S w X) (fun v151 => ?_)
  refine ab_e_bn (c := v151 = nI 0) (21, [(0, .ref 0)], [], (X, w)) (10, [(0, .ref 0)], [], (X, w)) rfl (fun _ => ?_) (fun _ => ?_)
  · refine ab_e_go 5 (32, [(0, .ref 0)], [.ref 3, .ref 4], (X, w)) rfl ?_
    refine ab_e_c3 (k2 := 124) (as := [.ref 4, .ref 3]) (rest := []) rfl rfl (T_H_takeBack_3 S w X) (fun _ X158 => ?_)
    refine ab_e_go 2 (39, [(0, .ref 0)], [.ref 4], (X158, w)) rfl ?_
    refine ab_e_c1 (k2 := 2) (as := [.ref 4]) (rest := []) rfl rfl (T_H_kept S w X158) (fun v159 => ?_)
    exact ab_e_rt rfl rfl
  · exact ab_e_rt rfl rfl
def L_C_isLegal_42 (X : ab_XX) : Nat → Int32 → Option Int32
  | 0, _ => none
  | n + 1, a1 =>
    (F_K_shiftTotal X).bind fun v161 =>
    if v161 ≤ a1 then
      some (nI 1)
    else
      (F_K_coverage X a1).bind fun v162 =>
      (F_K_shiftPart X a1 (nI 5)).bind fun v163 =>
      (F_K_shiftPart X a1 (nI 4)).bind fun v164 =>
      (F_K_isWithin v162 v163 v164).bind fun v165 =>
      if v165 = nI 0 then
        some (nI 0)
      else
        L_C_isLegal_42 X n (a1 + (nI 1))
set_option maxRecDepth 4000 in
theorem T_L_C_isLegal_42 (S : Nat × (Nat → Int32)) (w : ab_WW) (X : ab_XX) : ∀ (n : Nat) (a1 : Int32), ab_Eg (ab_m1 ab_fI (X, w)) S 190 (42, [(0, .ref 0), (1, .int a1)], [], (X, w)) (L_C_isLegal_42 X n a1) := by
  intro n
  induction n with
  | zero => intro a1; exact ab_e_none
  | succ n ih =>
    intro a1
    unfold L_C_isLegal_42
    refine ab_e_go 3 (47, [(0, .ref 0), (1, .int a1)], [.ref 2, .int a1], (X, w)) rfl ?_
    refine ab_e_c1 (k2 := 25) (as := [.ref 2]) (rest := [.int a1]) rfl rfl (T_K_shiftTotal S w X) (fun v161 => ?_)
    refine ab_e_br (c := v161 ≤ a1) (93, [(0, .ref 0), (1, .int a1)], [], (X, w)) (53, [(0, .ref 0), (1, .int a1)], [], (X, w)) rfl (fun _ => ?_) (fun _ => ?_)
    · refine ab_e_go 1 (94, [(0, .ref 0), (1, .int a1)], [.int (nI 1)], (X, w)) rfl ?_
      exact ab_e_rt rfl rfl
    · refine ab_e_go 3 (58, [(0, .ref 0), (1, .int a1)], [.int a1, .ref 2], (X, w)) rfl ?_
      refine ab_e_c1 (k2 := 128) (as := [.ref 2, .int a1]) (rest := []) rfl rfl (T_K_coverage S w X a1) (fun v162 => ?_)
      refine ab_e_go 4 (67, [(0, .ref 0), (1, .int a1)], [.int (nI 5), .int a1, .ref 2, .int v162], (X, w)) rfl ?_
      refine ab_e_c1 (k2 := 24) (as := [.ref 2, .int a1, .int (nI 5)]) (rest := [.int v162]) rfl rfl (T_K_shiftPart S w X a1 (nI 5)) (fun v163 => ?_)
      refine ab_e_go 4 (76, [(0, .ref 0), (1, .int a1)], [.int (nI 4), .int a1, .ref 2, .int v163, .int v162], (X, w)) rfl ?_
      refine ab_e_c1 (k2 := 24) (as := [.ref 2, .int a1, .int (nI 4)]) (rest := [.int v163, .int v162]) rfl rfl (T_K_shiftPart S w X a1 (nI 4)) (fun v164 => ?_)
      refine ab_e_c1 (k2 := 20) (as := [.int v162, .int v163, .int v164]) (rest := []) rfl rfl (T_K_isWithin S w X v162 v163 v164) (fun v165 => ?_)
      refine ab_e_bn (c := v165 = nI 0) (87, [(0, .ref 0), (1, .int a1)], [], (X, w)) (85, [(0, .ref 0), (1, .int a1)], [], (X, w)) rfl (fun _ => ?_) (fun _ => ?_)
      · refine ab_e_go 2 (42, [(1, .int (a1 + (nI 1))), (0, .ref 0)], [], (X, w)) rfl ?_
        refine ab_e_wk [(0, .ref 0), (1, .int (a1 + (nI 1)))] ⟨rfl, rfl, trivial⟩ ?_
        exact ih (a1 + (nI 1))
      · refine ab_e_go 1 (86, [(0, .ref 0), (1, .int a1)], [.int (nI 0)], (X, w)) rfl ?_
        exact ab_e_rt rfl rfl
def F_U_hasSkillFor (X : ab_XX) (a1 : Int32) (a2 : Int32) : Option Int32 :=
  (F_K_shiftPart X a2 (nI 3)).bind fun v169 =>
  (F_K_workerPart X a1 (nI 4)).bind fun v170 =>
  (F_K_isIn v169 v170).bind fun v171 =>
  if v171 &&& 1 = v171 then some v171 else none
set_option maxRecDepth 4000 in
theorem T_U_hasSkillFor (S : Nat × (Nat → Int32)) (w : ab_WW) (X : ab_XX) (a1 : Int32) (a2 : Int32) : ab_Eg (ab_m1 ab_fI (X, w)) S 77 (0, lv_args 0 [.ref 1, .int a1, .int a2], [], (X, w)) (F_U_hasSkillFor X a1 a2) := by
  show ab_Eg (ab_m1 ab_fI (X, w)) S 77 (0, [(0, .ref 1), (1, .int a1), (2, .int a2)], [], (X, w)) _
  unfold F_U_hasSkillFor
  refine ab_e_go 4 (6, [(0, .ref 1), (1, .int a1), (2, .int a2)], [.int (nI 3), .int a2, .ref 2], (X, w)) rfl ?_
  refine ab_e_c1 (k2 := 24) (as := [.ref 2, .int a2, .int (nI 3)]) (rest := []) rfl rfl (T_K_shiftPart S w X a2 (nI 3)) (fun v169 => ?_)
  refine ab_e_go 4 (15, [(0, .ref 1), (1, .int a1), (2, .int a2)], [.int (nI 4), .int a1, .ref 2, .int v169], (X, w)) rfl ?_
  refine ab_e_c1 (k2 := 26) (as := [.ref 2, .int a1, .int (nI 4)]) (rest := [.int v169]) rfl rfl (T_K_workerPart S w X a1 (nI 4)) (fun v170 => ?_)
  refine ab_e_c1 (k2 := 17) (as := [.int v169, .int v170]) (rest := []) rfl rfl (T_K_isIn S w X v169 v170) (fun v171 => ?_)
  exact ab_e_rp (c := v171 &&& 1 = v171) rfl rfl
def L_U_lowestWithin_27 (X : ab_XX) : Nat → Int32 → Int32 → Int32 → Int32 → Int32 → Option Int32
  | 0, _, _, _, _, _ => none
  | n + 1, a2, a3, a4, a5, a6 =>
    (F_K_shiftTotal X).bind fun v176 =>
    if v176 ≤ a6 then
      some (-1 : Int32)
    else
      (F_K_isIn a6 a2).bind fun v177 =>
      if v177 = nI 0 then
        L_U_lowestWithin_27 X n a2 a3 a4 a5 (a6 + (nI 1))
      else
        (F_K_shiftPart X a6 (nI 7)).bind fun v178 =>
        if a3 ≤ (a4 - v178) then
          L_U_lowestWithin_27 X n a2 a3 a4 a5 (a6 + (nI 1))
        else
          (F_K_shiftPart X a6 (nI 6)).bind fun v179 =>
          if a3 ≤ (v179 - a5) then
            L_U_lowestWithin_27 X n a2 a3 a4 a5 (a6 + (nI 1))
          else
            some a6
set_option maxRecDepth 4000 in
theorem T_L_U_lowestWithin_27 (S : Nat × (Nat → Int32)) (w : ab_WW) (X : ab_XX) : ∀ (n : Nat) (a2 : Int32) (a3 : Int32) (a4 : Int32) (a5 : Int32) (a6 : Int32), ab_Eg (ab_m1 ab_fI (X, w)) S 81 (27, [(0, .ref 1), (2, .int a2), (3, .int a3), (4, .int a4), (5, .int a5), (6, .int a6)], [], (X, w)) (L_U_lowestWithin_27 X n a2 a3 a4 a5 a6) := by
  intro n
  induction n with
  | zero => intro a2 a3 a4 a5 a6; exact ab_e_none
  | succ n ih =>
    intro a2 a3 a4 a5 a6
    unfold L_U_lowestWithin_27
    refine ab_e_go 3 (33, [(0, .ref 1), (2, .int a2), (3, .int a3), (4, .int a4), (5, .int a5), (6, .int a6)], [.ref 2, .int a6], (X, w)) rfl ?_
    refine ab_e_c1 (k2 := 25) (as := [.ref 2]) (rest := [.int a6]) rfl rfl (T_K_shiftTotal S w X) (fun v176 => ?_)
    refine ab_e_br (c := v176 ≤ a6) (93, [(0, .ref 1), (2, .int a2), (3, .int a3), (4, .int a4), (5, .int a5), (6, .int a6)], [], (X, w)) (39, [(0, .ref 1), (2, .int a2), (3, .int a3), (4, .int a4), (5, .int a5), (6, .int a6)], [], (X, w)) rfl (fun _ => ?_) (fun _ => ?_)
    · refine ab_e_go 1 (94, [(0, .ref 1), (2, .int a2), (3, .int a3), (4, .int a4), (5, .int a5), (6, .int a6)], [.int (-1 : Int32)], (X, w)) rfl ?_
      exact ab_e_rt rfl rfl
    · refine ab_e_go 2 (42, [(0, .ref 1), (2, .int a2), (3, .int a3), (4, .int a4), (5, .int a5), (6, .int a6)], [.int a2, .int a6], (X, w)) rfl ?_
      refine ab_e_c1 (k2 := 17) (as := [.int a6, .int a2]) (rest := []) rfl rfl (T_K_isIn S w X a6 a2) (fun v177 => ?_)
      refine ab_e_br (c := v177 = nI 0) (87, [(0, .ref 1), (2, .int a2), (3, .int a3), (4, .int a4), (5, .int a5), (6, .int a6)], [], (X, w)) (48, [(0, .ref 1), (2, .int a2), (3, .int a3), (4, .int a4), (5, .int a5), (6, .int a6)], [], (X, w)) rfl (fun _ => ?_) (fun _ => ?_)
      · refine ab_e_go 2 (27, [(6, .int (a6 + (nI 1))), (0, .ref 1), (2, .int a2), (3, .int a3), (4, .int a4), (5, .int a5)], [], (X, w)) rfl ?_
        refine ab_e_wk [(0, .ref 1), (2, .int a2), (3, .int a3), (4, .int a4), (5, .int a5), (6, .int (a6 + (nI 1)))] ⟨rfl, rfl, rfl, rfl, rfl, rfl, trivial⟩ ?_
        exact ih a2 a3 a4 a5 (a6 + (nI 1))
      · refine ab_e_go 5 (58, [(0, .ref 1), (2, .int a2), (3, .int a3), (4, .int a4), (5, .int a5), (6, .int a6)], [.int (nI 7), .int a6, .ref 2, .int a4], (X, w)) rfl ?_
        refine ab_e_c1 (k2 := 24) (as := [.ref 2, .int a6, .int (nI 7)]) (rest := [.int a4]) rfl rfl (T_K_shiftPart S w X a6 (nI 7)) (fun v178 => ?_)
        refine ab_e_go 2 (63, [(0, .ref 1), (2, .int a2), (3, .int a3), (4, .int a4), (5, .int a5), (6, .int a6)], [.int a3, .int (a4 - v178)], (X, w)) rfl ?_
        refine ab_e_br (c := a3 ≤ (a4 - v178)) (87, [(0, .ref 1), (2, .int a2), (3, .int a3), (4, .int a4), (5, .int a5), (6, .int a6)], [], (X, w)) (66, [(0, .ref 1), (2, .int a2), (3, .int a3), (4, .int a4), (5, .int a5), (6, .int a6)], [], (X, w)) rfl (fun _ => ?_) (fun _ => ?_)
        · refine ab_e_go 2 (27, [(6, .int (a6 + (nI 1))), (0, .ref 1), (2, .int a2), (3, .int a3), (4, .int a4), (5, .int a5)], [], (X, w)) rfl ?_
          refine ab_e_wk [(0, .ref 1), (2, .int a2), (3, .int a3), (4, .int a4), (5, .int a5), (6, .int (a6 + (nI 1)))] ⟨rfl, rfl, rfl, rfl, rfl, rfl, trivial⟩ ?_
          exact ih a2 a3 a4 a5 (a6 + (nI 1))
        · refine ab_e_go 4 (74, [(0, .ref 1), (2, .int a2), (3, .int a3), (4, .int a4), (5, .int a5), (6, .int a6)], [.int (nI 6), .int a6, .ref 2], (X, w)) rfl ?_
          refine ab_e_c1 (k2 := 24) (as := [.ref 2, .int a6, .int (nI 6)]) (rest := []) rfl rfl (T_K_shiftPart S w X a6 (nI 6)) (fun v179 => ?_)
          refine ab_e_go 3 (81, [(0, .ref 1), (2, .int a2), (3, .int a3), (4, .int a4), (5, .int a5), (6, .int a6)], [.int a3, .int (v179 - a5)], (X, w)) rfl ?_
          refine ab_e_br (c := a3 ≤ (v179 - a5)) (87, [(0, .ref 1), (2, .int a2), (3, .int a3), (4, .int a4), (5, .int a5), (6, .int a6)], [], (X, w)) (84, [(0, .ref 1), (2, .int a2), (3, .int a3), (4, .int a4), (5, .int a5), (6, .int a6)], [], (X, w)) rfl (fun _ => ?_) (fun _ => ?_)
          · refine ab_e_go 2 (27, [(6, .int (a6 + (nI 1))), (0, .ref 1), (2, .int a2), (3, .int a3), (4, .int a4), (5, .int a5)], [], (X, w)) rfl ?_
            refine ab_e_wk [(0, .ref 1), (2, .int a2), (3, .int a3), (4, .int a4), (5, .int a5), (6, .int (a6 + (nI 1)))] ⟨rfl, rfl, rfl, rfl, rfl, rfl, trivial⟩ ?_
            exact ih a2 a3 a4 a5 (a6 + (nI 1))
          · refine ab_e_go 1 (86, [(0, .ref 1), (2, .int a2), (3, .int a3), (4, .int a4), (5, .int a5), (6, .int a6)], [.int a6], (X, w)) rfl ?_
            exact ab_e_rt rfl rfl
def F_U_lowestWithin (X : ab_XX) (a1 : Int32) (a2 : Int32) (a3 : Int32) : Option Int32 :=
  (F_K_shiftPart X a1 (nI 6)).bind fun v174 =>
  (F_K_shiftPart X a1 (nI 7)).bind fun v175 =>
  L_U_lowestWithin_27 X ab_fu a2 a3 v174 v175 (nI 0)
set_option maxRecDepth 4000 in
theorem T_U_lowestWithin (S : Nat × (Nat → Int32)) (w : ab_WW) (X : ab_XX) (a1 : Int32) (a2 : Int32) (a3 : Int32) : ab_Eg (ab_m1 ab_fI (X, w)) S 81 (0, lv_args 0 [.ref 1, .int a1, .int a2, .int a3], [], (X, w)) (F_U_lowestWithin X a1 a2 a3) := by
  show ab_Eg (ab_m1 ab_fI (X, w)) S 81 (0, [(0, .ref 1), (1, .int a1), (2, .int a2), (3, .int a3)], [], (X, w)) _
  unfold F_U_lowestWithin
  refine ab_e_go 4 (7, [(0, .ref 1), (1, .int a1), (2, .int a2), (3, .int a3)], [.int (nI 6), .int a1, .ref 2], (X, w)) rfl ?_
  refine ab_e_c1 (k2 := 24) (as := [.ref 2, .int a1, .int (nI 6)]) (rest := []) rfl rfl (T_K_shiftPart S w X a1 (nI 6)) (fun v174 => ?_)
  refine ab_e_go 5 (19, [(4, .int v174), (0, .ref 1), (1, .int a1), (2, .int a2), (3, .int a3)], [.int (nI 7), .int a1, .ref 2], (X, w)) rfl ?_
  refine ab_e_c1 (k2 := 24) (as := [.ref 2, .int a1, .int (nI 7)]) (rest := []) rfl rfl (T_K_shiftPart S w X a1 (nI 7)) (fun v175 => ?_)
  refine ab_e_go 3 (27, [(6, .int (nI 0)), (5, .int v175), (4, .int v174), (0, .ref 1), (1, .int a1), (2, .int a2), (3, .int a3)], [], (X, w)) rfl ?_
  refine ab_e_wk [(0, .ref 1), (2, .int a2), (3, .int a3), (4, .int v174), (5, .int v175), (6, .int (nI 0))] ⟨rfl, rfl, rfl, rfl, rfl, rfl, trivial⟩ ?_
  exact T_L_U_lowestWithin_27 S w X ab_fu a2 a3 v174 v175 (nI 0)
def L_U_sequenceAround_26 : Nat → Int32 → Int32 → Int32 → Option Int32
  | 0, _, _, _ => none
  | n + 1, a1, a2, a3 =>
    if nI 28 ≤ a3 then
      some (a3 - a2)
    else
      (F_K_isIn a3 a1).bind fun v189 =>
      if v189 = nI 0 then
        some (a3 - a2)
      else
        L_U_sequenceAround_26 n a1 a2 (a3 + (nI 1))
set_option maxRecDepth 4000 in
theorem T_L_U_sequenceAround_26 (S : Nat × (Nat → Int32)) (w : ab_WW) (X : ab_XX) : ∀ (n : Nat) (a1 : Int32) (a2 : Int32) (a3 : Int32), ab_Eg (ab_m1 ab_fI (X, w)) S 82 (26, [(1, .int a1), (2, .int a2), (3, .int a3)], [], (X, w)) (L_U_sequenceAround_26 n a1 a2 a3) := by
  intro n
  induction n with
  | zero => intro a1 a2 a3; exact ab_e_none
  | succ n ih =>
    intro a1 a2 a3
    unfold L_U_sequenceAround_26
    refine ab_e_go 2 (29, [(1, .int a1), (2, .int a2), (3, .int a3)], [.int (nI 28), .int a3], (X, w)) rfl ?_
    refine ab_e_br (c := nI 28 ≤ a3) (46, [(1, .int a1), (2, .int a2), (3, .int a3)], [], (X, w)) (32, [(1, .int a1), (2, .int a2), (3, .int a3)], [], (X, w)) rfl (fun _ => ?_) (fun _ => ?_)
    · refine ab_e_go 3 (49, [(1, .int a1), (2, .int a2), (3, .int a3)], [.int (a3 - a2)], (X, w)) rfl ?_
      exact ab_e_rt rfl rfl
    · refine ab_e_go 2 (34, [(1, .int a1), (2, .int a2), (3, .int a3)], [.int a1, .int a3], (X, w)) rfl ?_
      refine ab_e_c1 (k2 := 17) (as := [.int a3, .int a1]) (rest := []) rfl rfl (T_K_isIn S w X a3 a1) (fun v189 => ?_)
      refine ab_e_br (c := v189 = nI 0) (46, [(1, .int a1), (2, .int a2), (3, .int a3)], [], (X, w)) (40, [(1, .int a1), (2, .int a2), (3, .int a3)], [], (X, w)) rfl (fun _ => ?_) (fun _ => ?_)
      · refine ab_e_go 3 (49, [(1, .int a1), (2, .int a2), (3, .int a3)], [.int (a3 - a2)], (X, w)) rfl ?_
        exact ab_e_rt rfl rfl
      · refine ab_e_go 2 (26, [(3, .int (a3 + (nI 1))), (1, .int a1), (2, .int a2)], [], (X, w)) rfl ?_
        refine ab_e_wk [(1, .int a1), (2, .int a2), (3, .int (a3 + (nI 1)))] ⟨rfl, rfl, rfl, trivial⟩ ?_
        exact ih a1 a2 (a3 + (nI 1))
def L_U_sequenceAround_2 : Nat → Int32 → Int32 → Int32 → Option Int32
  | 0, _, _, _ => none
  | n + 1, a0, a1, a2 =>
    if a2 ≤ nI 0 then
      L_U_sequenceAround_26 ab_fu a1 a2 (a0 + (nI 1))
    else
      (F_K_isIn (a2 - (nI 1)) a1).bind fun v190 =>
      if v190 = nI 0 then
        L_U_sequenceAround_26 ab_fu a1 a2 (a0 + (nI 1))
      else
        L_U_sequenceAround_2 n a0 a1 (a2 + (-1 : Int32))
set_option maxRecDepth 4000 in
theorem T_L_U_sequenceAround_2 (S : Nat × (Nat → Int32)) (w : ab_WW) (X : ab_XX) : ∀ (n : Nat) (a0 : Int32) (a1 : Int32) (a2 : Int32), ab_Eg (ab_m1 ab_fI (X, w)) S 82 (2, [(0, .int a0), (1, .int a1), (2, .int a2)], [], (X, w)) (L_U_sequenceAround_2 n a0 a1 a2) := by
  intro n
  induction n with
  | zero => intro a0 a1 a2; exact ab_e_none
  | succ n ih =>
    intro a0 a1 a2
    unfold L_U_sequenceAround_2
    refine ab_e_go 1 (3, [(0, .int a0), (1, .int a1), (2, .int a2)], [.int a2], (X, w)) rfl ?_
    refine ab_e_br (c := a2 ≤ nI 0) (22, [(0, .int a0), (1, .int a1), (2, .int a2)], [], (X, w)) (6, [(0, .int a0), (1, .int a1), (2, .int a2)], [], (X, w)) rfl (fun _ => ?_) (fun _ => ?_)
    · refine ab_e_go 4 (26, [(3, .int (a0 + (nI 1))), (0, .int a0), (1, .int a1), (2, .int a2)], [], (X, w)) rfl ?_
      refine ab_e_wk [(1, .int a1), (2, .int a2), (3, .int (a0 + (nI 1)))] ⟨rfl, rfl, rfl, trivial⟩ ?_
      exact T_L_U_sequenceAround_26 S w X ab_fu a1 a2 (a0 + (nI 1))
    · refine ab_e_go 4 (10, [(0, .int a0), (1, .int a1), (2, .int a2)], [.int a1, .int (a2 - (nI 1))], (X, w)) rfl ?_
      refine ab_e_c1 (k2 := 17) (as := [.int (a2 - (nI 1)), .int a1]) (rest := []) rfl rfl (T_K_isIn S w X (a2 - (nI 1)) a1) (fun v190 => ?_)
      refine ab_e_br (c := v190 = nI 0) (22, [(0, .int a0), (1, .int a1), (2, .int a2)], [], (X, w)) (16, [(0, .int a0), (1, .int a1), (2, .int a2)], [], (X, w)) rfl (fun _ => ?_) (fun _ => ?_)
      · refine ab_e_go 4 (26, [(3, .int (a0 + (nI 1))), (0, .int a0), (1, .int a1), (2, .int a2)], [], (X, w)) rfl ?_
        refine ab_e_wk [(1, .int a1), (2, .int a2), (3, .int (a0 + (nI 1)))] ⟨rfl, rfl, rfl, trivial⟩ ?_
        exact T_L_U_sequenceAround_26 S w X ab_fu a1 a2 (a0 + (nI 1))
      · refine ab_e_go 2 (2, [(2, .int (a2 + (-1 : Int32))), (0, .int a0), (1, .int a1)], [], (X, w)) rfl ?_
        refine ab_e_wk [(0, .int a0), (1, .int a1), (2, .int (a2 + (-1 : Int32)))] ⟨rfl, rfl, rfl, trivial⟩ ?_
        exact ih a0 a1 (a2 + (-1 : Int32))
