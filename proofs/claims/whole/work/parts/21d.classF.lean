/-! ===== what the methods of the class compute, part 4 (by program: wip/whole/tools/dec.py) ===== -/
def L_C_carryOutItems_2 : Nat → ab_XX → Int32 → Option (Int32 × ab_XX)
  | 0, _, _ => none
  | n + 1, X, a1 =>
    (F_T_itemTotal X).bind fun v268 =>
    if v268 ≤ a1 then
      some ((-1 : Int32), X)
    else
      ab_b3 (F_C_carryOut X a1) (fun v292 X293 =>
        if v292 = nI 0 then
          some (a1, X293)
        else
          L_C_carryOutItems_2 n X293 (a1 + (nI 1)))
set_option maxRecDepth 4000 in
theorem T_L_C_carryOutItems_2 (S : Nat × (Nat → Int32)) (w : ab_WW) : ∀ (n : Nat) (X : ab_XX) (a1 : Int32), ab_Eg (ab_m3 ab_fI w) S 189 (2, [(0, .ref 0), (1, .int a1)], [], (X, w)) (L_C_carryOutItems_2 n X a1) := by
  intro n
  induction n with
  | zero => intro X a1; exact ab_e_none
  | succ n ih =>
    intro X a1
    unfold L_C_carryOutItems_2
    refine ab_e_go 3 (7, [(0, .ref 0), (1, .int a1)], [.ref 6, .int a1], (X, w)) rfl ?_
    refine ab_e_c1 (k2 := 7) (as := [.ref 6]) (rest := [.int a1]) rfl rfl (T_T_itemTotal S w X) (fun v268 => ?_)
    refine ab_e_br (c := v268 ≤ a1) (29, [(0, .ref 0), (1, .int a1)], [], (X, w)) (13, [(0, .ref 0), (1, .int a1)], [], (X, w)) rfl (fun _ => ?_) (fun _ => ?_)
    · refine ab_e_go 1 (30, [(0, .ref 0), (1, .int a1)], [.int (-1 : Int32)], (X, w)) rfl ?_
      exact ab_e_rt rfl rfl
    · refine ab_e_go 2 (15, [(0, .ref 0), (1, .int a1)], [.int a1, .ref 0], (X, w)) rfl ?_
      refine ab_e_c3 (k2 := 157) (as := [.ref 0, .int a1]) (rest := []) rfl rfl (T_C_carryOut S w X a1) (fun v292 X293 => ?_)
      refine ab_e_bn (c := v292 = nI 0) (23, [(0, .ref 0), (1, .int a1)], [], (X293, w)) (21, [(0, .ref 0), (1, .int a1)], [], (X293, w)) rfl (fun _ => ?_) (fun _ => ?_)
      · refine ab_e_go 2 (2, [(1, .int (a1 + (nI 1))), (0, .ref 0)], [], (X293, w)) rfl ?_
        refine ab_e_wk [(0, .ref 0), (1, .int (a1 + (nI 1)))] ⟨rfl, rfl, trivial⟩ ?_
        exact ih X293 (a1 + (nI 1))
      · refine ab_e_go 1 (22, [(0, .ref 0), (1, .int a1)], [.int a1], (X293, w)) rfl ?_
        exact ab_e_rt rfl rfl
def F_C_carryOutItems (X : ab_XX) : Option (Int32 × ab_XX) :=
  L_C_carryOutItems_2 ab_fu X (nI 0)
set_option maxRecDepth 4000 in
theorem T_C_carryOutItems (S : Nat × (Nat → Int32)) (w : ab_WW) (X : ab_XX) : ab_Eg (ab_m3 ab_fI w) S 189 (0, lv_args 0 [.ref 0], [], (X, w)) (F_C_carryOutItems X) := by
  show ab_Eg (ab_m3 ab_fI w) S 189 (0, [(0, .ref 0)], [], (X, w)) _
  unfold F_C_carryOutItems
  refine ab_e_go 2 (2, [(1, .int (nI 0)), (0, .ref 0)], [], (X, w)) rfl ?_
  refine ab_e_wk [(0, .ref 0), (1, .int (nI 0))] ⟨rfl, rfl, trivial⟩ ?_
  exact T_L_C_carryOutItems_2 S w ab_fu X (nI 0)
def F_K_copyRow_11_5 (X : ab_XX) (a1 : Int32) (a3 : Int32) : Option (Unit × ab_XX) :=
  (F_K_isRowAt_11 a1).bind fun v297 =>
  if v297 = nI 0 then
    some ((), X)
  else
    (F_K_isRowAt_5 a3).bind fun v298 =>
    if v298 = nI 0 then
      some ((), X)
    else
      if ¬ a1 < 0 ∧ ¬ a3 < 0 ∧ ¬ (nI 453) < 0 ∧ a1.toNatClampNeg + (nI 453).toNatClampNeg ≤ ab_len 11 ∧ a3.toNatClampNeg + (nI 453).toNatClampNeg ≤ ab_len 5 then
        (some (ab_cpy X 11 5 a1.toNatClampNeg a3.toNatClampNeg (nI 453).toNatClampNeg)).bind fun X299 =>
        some ((), X299)
      else none
set_option maxRecDepth 4000 in
theorem T_K_copyRow_11_5 (S : Nat × (Nat → Int32)) (w : ab_WW) (X : ab_XX) (a1 : Int32) (a3 : Int32) : ab_Eg (ab_m3 ab_fU w) S 60 (0, lv_args 0 [.ref 11, .int a1, .ref 5, .int a3], [], (X, w)) (F_K_copyRow_11_5 X a1 a3) := by
  show ab_Eg (ab_m3 ab_fU w) S 60 (0, [(0, .ref 11), (1, .int a1), (2, .ref 5), (3, .int a3)], [], (X, w)) _
  unfold F_K_copyRow_11_5
  refine ab_e_go 2 (2, [(0, .ref 11), (1, .int a1), (2, .ref 5), (3, .int a3)], [.int a1, .ref 11], (X, w)) rfl ?_
  refine ab_e_c1 (k2 := 18) (as := [.ref 11, .int a1]) (rest := []) rfl rfl (T_K_isRowAt_11 S w X a1) (fun v297 => ?_)
  refine ab_e_br (c := v297 = nI 0) (26, [(0, .ref 11), (1, .int a1), (2, .ref 5), (3, .int a3)], [], (X, w)) (8, [(0, .ref 11), (1, .int a1), (2, .ref 5), (3, .int a3)], [], (X, w)) rfl (fun _ => ?_) (fun _ => ?_)
  · exact ab_e_rt rfl rfl
  · refine ab_e_go 2 (10, [(0, .ref 11), (1, .int a1), (2, .ref 5), (3, .int a3)], [.int a3, .ref 5], (X, w)) rfl ?_
    refine ab_e_c1 (k2 := 18) (as := [.ref 5, .int a3]) (rest := []) rfl rfl (T_K_isRowAt_5 S w X a3) (fun v298 => ?_)
    refine ab_e_br (c := v298 = nI 0) (26, [(0, .ref 11), (1, .int a1), (2, .ref 5), (3, .int a3)], [], (X, w)) (16, [(0, .ref 11), (1, .int a1), (2, .ref 5), (3, .int a3)], [], (X, w)) rfl (fun _ => ?_) (fun _ => ?_)
    · exact ab_e_rt rfl rfl
    · refine ab_e_go 5 (23, [(0, .ref 11), (1, .int a1), (2, .ref 5), (3, .int a3)], [.int (nI 453), .int a3, .ref 5, .int a1, .ref 11], (X, w)) rfl ?_
      refine ab_e_gp (c := ¬ a1 < 0 ∧ ¬ a3 < 0 ∧ ¬ (nI 453) < 0 ∧ a1.toNatClampNeg + (nI 453).toNatClampNeg ≤ ab_len 11 ∧ a3.toNatClampNeg + (nI 453).toNatClampNeg ≤ ab_len 5) (26, [(0, .ref 11), (1, .int a1), (2, .ref 5), (3, .int a3)], [], ((ab_cpy X 11 5 a1.toNatClampNeg a3.toNatClampNeg (nI 453).toNatClampNeg), w)) rfl ?_
      refine ab_e_letX (fun X299 _ => ?_)
      exact ab_e_rt rfl rfl
def F_H_remember_11 (X : ab_XX) : Option (Unit × ab_XX) :=
  ab_b3 (F_K_copyRow_11_5 X (nI 0) ((X 4 1) * (nI 453))) (fun _ X300 =>
    (some (ab_up X300 4 1 (((X300 4 1) + (nI 1)) - ((X300 4 1) + (nI 1)) / (nI 8) * (nI 8)))).bind fun X301 =>
    (some (ab_up X301 4 2 (if nI 8 < ((X301 4 2) + (nI 1)) then nI 8 else ((X301 4 2) + (nI 1))))).bind fun X302 =>
    some ((), X302))
set_option maxRecDepth 4000 in
theorem T_H_remember_11 (S : Nat × (Nat → Int32)) (w : ab_WW) (X : ab_XX) : ab_Eg (ab_m3 ab_fU w) S 123 (0, lv_args 0 [.ref 4, .ref 11], [], (X, w)) (F_H_remember_11 X) := by
  show ab_Eg (ab_m3 ab_fU w) S 123 (0, [(0, .ref 4), (1, .ref 11)], [], (X, w)) _
  unfold F_H_remember_11
  refine ab_e_go 8 (14, [(0, .ref 4), (1, .ref 11)], [.int ((X 4 1) * (nI 453)), .ref 5, .int (nI 0), .ref 11], (X, w)) rfl ?_
  refine ab_e_c3 (k2 := 60) (as := [.ref 11, .int (nI 0), .ref 5, .int ((X 4 1) * (nI 453))]) (rest := []) rfl rfl (T_K_copyRow_11_5 S w X (nI 0) ((X 4 1) * (nI 453))) (fun _ X300 => ?_)
  refine ab_e_go 8 (30, [(0, .ref 4), (1, .ref 11)], [], ((ab_up X300 4 1 (((X300 4 1) + (nI 1)) - ((X300 4 1) + (nI 1)) / (nI 8) * (nI 8))), w)) rfl ?_
  refine ab_e_letX (fun X301 _ => ?_)
  refine ab_e_go 8 (45, [(0, .ref 4), (1, .ref 11)], [], ((ab_up X301 4 2 (if nI 8 < ((X301 4 2) + (nI 1)) then nI 8 else ((X301 4 2) + (nI 1)))), w)) rfl ?_
  refine ab_e_letX (fun X302 _ => ?_)
  exact ab_e_rt rfl rfl
def F_K_copyRow_11_3 (X : ab_XX) (a1 : Int32) (a3 : Int32) : Option (Unit × ab_XX) :=
  (F_K_isRowAt_11 a1).bind fun v305 =>
  if v305 = nI 0 then
    some ((), X)
  else
    (F_K_isRowAt_3 a3).bind fun v306 =>
    if v306 = nI 0 then
      some ((), X)
    else
      if ¬ a1 < 0 ∧ ¬ a3 < 0 ∧ ¬ (nI 453) < 0 ∧ a1.toNatClampNeg + (nI 453).toNatClampNeg ≤ ab_len 11 ∧ a3.toNatClampNeg + (nI 453).toNatClampNeg ≤ ab_len 3 then
        (some (ab_cpy X 11 3 a1.toNatClampNeg a3.toNatClampNeg (nI 453).toNatClampNeg)).bind fun X307 =>
        some ((), X307)
      else none
set_option maxRecDepth 4000 in
theorem T_K_copyRow_11_3 (S : Nat × (Nat → Int32)) (w : ab_WW) (X : ab_XX) (a1 : Int32) (a3 : Int32) : ab_Eg (ab_m3 ab_fU w) S 60 (0, lv_args 0 [.ref 11, .int a1, .ref 3, .int a3], [], (X, w)) (F_K_copyRow_11_3 X a1 a3) := by
  show ab_Eg (ab_m3 ab_fU w) S 60 (0, [(0, .ref 11), (1, .int a1), (2, .ref 3), (3, .int a3)], [], (X, w)) _
  unfold F_K_copyRow_11_3
  refine ab_e_go 2 (2, [(0, .ref 11), (1, .int a1), (2, .ref 3), (3, .int a3)], [.int a1, .ref 11], (X, w)) rfl ?_
  refine ab_e_c1 (k2 := 18) (as := [.ref 11, .int a1]) (rest := []) rfl rfl (T_K_isRowAt_11 S w X a1) (fun v305 => ?_)
  refine ab_e_br (c := v305 = nI 0) (26, [(0, .ref 11), (1, .int a1), (2, .ref 3), (3, .int a3)], [], (X, w)) (8, [(0, .ref 11), (1, .int a1), (2, .ref 3), (3, .int a3)], [], (X, w)) rfl (fun _ => ?_) (fun _ => ?_)
  · exact ab_e_rt rfl rfl
  · refine ab_e_go 2 (10, [(0, .ref 11), (1, .int a1), (2, .ref 3), (3, .int a3)], [.int a3, .ref 3], (X, w)) rfl ?_
    refine ab_e_c1 (k2 := 18) (as := [.ref 3, .int a3]) (rest := []) rfl rfl (T_K_isRowAt_3 S w X a3) (fun v306 => ?_)
    refine ab_e_br (c := v306 = nI 0) (26, [(0, .ref 11), (1, .int a1), (2, .ref 3), (3, .int a3)], [], (X, w)) (16, [(0, .ref 11), (1, .int a1), (2, .ref 3), (3, .int a3)], [], (X, w)) rfl (fun _ => ?_) (fun _ => ?_)
    · exact ab_e_rt rfl rfl
    · refine ab_e_go 5 (23, [(0, .ref 11), (1, .int a1), (2, .ref 3), (3, .int a3)], [.int (nI 453), .int a3, .ref 3, .int a1, .ref 11], (X, w)) rfl ?_
      refine ab_e_gp (c := ¬ a1 < 0 ∧ ¬ a3 < 0 ∧ ¬ (nI 453) < 0 ∧ a1.toNatClampNeg + (nI 453).toNatClampNeg ≤ ab_len 11 ∧ a3.toNatClampNeg + (nI 453).toNatClampNeg ≤ ab_len 3) (26, [(0, .ref 11), (1, .int a1), (2, .ref 3), (3, .int a3)], [], ((ab_cpy X 11 3 a1.toNatClampNeg a3.toNatClampNeg (nI 453).toNatClampNeg), w)) rfl ?_
      refine ab_e_letX (fun X307 _ => ?_)
      exact ab_e_rt rfl rfl
def F_K_copyFrom_11 (X : ab_XX) : Option (Unit × ab_XX) :=
  ab_b3 (F_K_copyRow_11_3 X (nI 0) (nI 0)) (fun _ X308 =>
    some ((), X308))
set_option maxRecDepth 4000 in
theorem T_K_copyFrom_11 (S : Nat × (Nat → Int32)) (w : ab_WW) (X : ab_XX) : ab_Eg (ab_m3 ab_fU w) S 126 (0, lv_args 0 [.ref 2, .ref 11], [], (X, w)) (F_K_copyFrom_11 X) := by
  show ab_Eg (ab_m3 ab_fU w) S 126 (0, [(0, .ref 2), (1, .ref 11)], [], (X, w)) _
  unfold F_K_copyFrom_11
  refine ab_e_go 5 (7, [(0, .ref 2), (1, .ref 11)], [.int (nI 0), .ref 3, .int (nI 0), .ref 11], (X, w)) rfl ?_
  refine ab_e_c3 (k2 := 60) (as := [.ref 11, .int (nI 0), .ref 3, .int (nI 0)]) (rest := []) rfl rfl (T_K_copyRow_11_3 S w X (nI 0) (nI 0)) (fun _ X308 => ?_)
  exact ab_e_rt rfl rfl
def F_C_addItems (X : ab_XX) : Option ((Int32 ⊕ Nat) × ab_XX) :=
  (some (ab_up X 0 9 (-1 : Int32))).bind fun X231 =>
  ab_b3 (F_T_read X231) (fun v258 X259 =>
    (some (ab_up X259 0 8 v258)).bind fun X260 =>
    ab_b3 (F_T_clear X260) (fun _ X262 =>
      if X262 0 8 = (-1 : Int32) then
        ab_b3 (F_K_copyTo_11 X262) (fun _ X267 =>
          ab_b3 (F_C_carryOutItems X267) (fun v294 X295 =>
            (some (ab_up X295 0 9 v294)).bind fun X296 =>
            if X296 0 9 = (-1 : Int32) then
              ab_b3 (F_H_remember_11 X296) (fun _ X303 =>
                (F_T_itemTotal X303).bind fun v304 =>
                some (.inl v304, X303))
            else
              ab_b3 (F_K_copyFrom_11 X296) (fun _ X309 =>
                some (.inr 1, X309))))
      else
        some (.inr 0, X262)))
set_option maxRecDepth 4000 in
theorem T_C_addItems (S : Nat × (Nat → Int32)) (w : ab_WW) (X : ab_XX) : ab_Eg (ab_m4 ab_fI w) S 209 (0, lv_args 0 [.ref 0], [], (X, w)) (F_C_addItems X) := by
  show ab_Eg (ab_m4 ab_fI w) S 209 (0, [(0, .ref 0)], [], (X, w)) _
  unfold F_C_addItems
  refine ab_e_go 3 (5, [(0, .ref 0)], [], ((ab_up X 0 9 (-1 : Int32)), w)) rfl ?_
  refine ab_e_letX (fun X231 _ => ?_)
  refine ab_e_go 3 (10, [(0, .ref 0)], [.ref 6, .ref 0], (X231, w)) rfl ?_
  refine ab_e_c3 (k2 := 166) (as := [.ref 6]) (rest := [.ref 0]) rfl rfl (T_T_read S w X231) (fun v258 X259 => ?_)
  refine ab_e_go 1 (16, [(0, .ref 0)], [], ((ab_up X259 0 8 v258), w)) rfl ?_
  refine ab_e_letX (fun X260 _ => ?_)
  refine ab_e_go 2 (20, [(0, .ref 0)], [.ref 6], (X260, w)) rfl ?_
  refine ab_e_c3 (k2 := 5) (as := [.ref 6]) (rest := []) rfl rfl (T_T_clear S w X260) (fun _ X262 => ?_)
  refine ab_e_go 3 (28, [(0, .ref 0)], [.int (-1 : Int32), .int (X262 0 8)], (X262, w)) rfl ?_
  refine ab_e_br (c := X262 0 8 = (-1 : Int32)) (41, [(0, .ref 0)], [], (X262, w)) (31, [(0, .ref 0)], [], (X262, w)) rfl (fun _ => ?_) (fun _ => ?_)
  · refine ab_e_go 4 (49, [(0, .ref 0)], [.ref 11, .ref 2], (X262, w)) rfl ?_
    refine ab_e_c3 (k2 := 127) (as := [.ref 2, .ref 11]) (rest := []) rfl rfl (T_K_copyTo_11 S w X262) (fun _ X267 => ?_)
    refine ab_e_go 2 (54, [(0, .ref 0)], [.ref 0, .ref 0], (X267, w)) rfl ?_
    refine ab_e_c3 (k2 := 189) (as := [.ref 0]) (rest := [.ref 0]) rfl rfl (T_C_carryOutItems S w X267) (fun v294 X295 => ?_)
    refine ab_e_go 1 (60, [(0, .ref 0)], [], ((ab_up X295 0 9 v294), w)) rfl ?_
    refine ab_e_letX (fun X296 _ => ?_)
    refine ab_e_go 3 (65, [(0, .ref 0)], [.int (-1 : Int32), .int (X296 0 9)], (X296, w)) rfl ?_
    refine ab_e_br (c := X296 0 9 = (-1 : Int32)) (89, [(0, .ref 0)], [], (X296, w)) (68, [(0, .ref 0)], [], (X296, w)) rfl (fun _ => ?_) (fun _ => ?_)
    · refine ab_e_go 4 (97, [(0, .ref 0)], [.ref 11, .ref 4], (X296, w)) rfl ?_
      refine ab_e_c3 (k2 := 123) (as := [.ref 4, .ref 11]) (rest := []) rfl rfl (T_H_remember_11 S w X296) (fun _ X303 => ?_)
      refine ab_e_go 2 (104, [(0, .ref 0)], [.ref 6], (X303, w)) rfl ?_
      refine ab_e_c1 (k2 := 7) (as := [.ref 6]) (rest := []) rfl rfl (T_T_itemTotal S w X303) (fun v304 => ?_)
      exact ab_e_rt rfl rfl
    · refine ab_e_go 4 (76, [(0, .ref 0)], [.ref 11, .ref 2], (X296, w)) rfl ?_
      refine ab_e_c3 (k2 := 126) (as := [.ref 2, .ref 11]) (rest := []) rfl rfl (T_K_copyFrom_11 S w X296) (fun _ X309 => ?_)
      exact ab_e_rt rfl rfl
  · exact ab_e_rt rfl rfl
def F_U_firstObstacle (X : ab_XX) (a1 : Int32) (a2 : Int32) (a3 : Int32) (a4 : Int32) : Option Int32 :=
  (F_K_isIn a2 a3).bind fun v311 =>
  if v311 = nI 0 then
    (F_U_hasSkillFor X a1 a2).bind fun v312 =>
    if v312 = nI 0 then
      (F_K_shiftPart X a2 (nI 3)).bind fun v318 =>
      (F_U_code (nI 2) v318).bind fun v319 =>
      some v319
    else
      (F_K_shiftPart X a2 (nI 4)).bind fun v313 =>
      if a4 = nI 0 then
        (F_U_obstacleOfTime X a1 a2 a3).bind fun v314 =>
        some v314
      else
        (F_K_coverage X a2).bind fun v315 =>
        if v315 = v313 then
          (F_U_code (nI 3) v313).bind fun v317 =>
          some v317
        else
          (F_U_obstacleOfTime X a1 a2 a3).bind fun v316 =>
          some v316
  else
    (F_U_code (nI 1) a2).bind fun v320 =>
    some v320
set_option maxRecDepth 4000 in
theorem T_U_firstObstacle (S : Nat × (Nat → Int32)) (w : ab_WW) (X : ab_XX) (a1 : Int32) (a2 : Int32) (a3 : Int32) (a4 : Int32) : ab_Eg (ab_m1 ab_fI (X, w)) S 169 (0, lv_args 0 [.ref 1, .int a1, .int a2, .int a3, .int a4], [], (X, w)) (F_U_firstObstacle X a1 a2 a3 a4) := by
  show ab_Eg (ab_m1 ab_fI (X, w)) S 169 (0, [(0, .ref 1), (1, .int a1), (2, .int a2), (3, .int a3), (4, .int a4)], [], (X, w)) _
  unfold F_U_firstObstacle
  refine ab_e_go 2 (2, [(0, .ref 1), (1, .int a1), (2, .int a2), (3, .int a3), (4, .int a4)], [.int a3, .int a2], (X, w)) rfl ?_
  refine ab_e_c1 (k2 := 17) (as := [.int a2, .int a3]) (rest := []) rfl rfl (T_K_isIn S w X a2 a3) (fun v311 => ?_)
  refine ab_e_br (c := v311 = nI 0) (14, [(0, .ref 1), (1, .int a1), (2, .int a2), (3, .int a3), (4, .int a4)], [], (X, w)) (8, [(0, .ref 1), (1, .int a1), (2, .int a2), (3, .int a3), (4, .int a4)], [], (X, w)) rfl (fun _ => ?_) (fun _ => ?_)
  · refine ab_e_go 3 (17, [(0, .ref 1), (1, .int a1), (2, .int a2), (3, .int a3), (4, .int a4)], [.int a2, .int a1, .ref 1], (X, w)) rfl ?_
    refine ab_e_c1 (k2 := 77) (as := [.ref 1, .int a1, .int a2]) (rest := []) rfl rfl (T_U_hasSkillFor S w X a1 a2) (fun v312 => ?_)
    refine ab_e_bn (c := v312 = nI 0) (37, [(0, .ref 1), (1, .int a1), (2, .int a2), (3, .int a3), (4, .int a4)], [], (X, w)) (23, [(0, .ref 1), (1, .int a1), (2, .int a2), (3, .int a3), (4, .int a4)], [], (X, w)) rfl (fun _ => ?_) (fun _ => ?_)
    · refine ab_e_go 4 (43, [(0, .ref 1), (1, .int a1), (2, .int a2), (3, .int a3), (4, .int a4)], [.int (nI 4), .int a2, .ref 2], (X, w)) rfl ?_
      refine ab_e_c1 (k2 := 24) (as := [.ref 2, .int a2, .int (nI 4)]) (rest := []) rfl rfl (T_K_shiftPart S w X a2 (nI 4)) (fun v313 => ?_)
      refine ab_e_go 2 (50, [(5, .int v313), (0, .ref 1), (1, .int a1), (2, .int a2), (3, .int a3), (4, .int a4)], [.int a4], (X, w)) rfl ?_
      refine ab_e_br (c := a4 = nI 0) (73, [(5, .int v313), (0, .ref 1), (1, .int a1), (2, .int a2), (3, .int a3), (4, .int a4)], [], (X, w)) (53, [(5, .int v313), (0, .ref 1), (1, .int a1), (2, .int a2), (3, .int a3), (4, .int a4)], [], (X, w)) rfl (fun _ => ?_) (fun _ => ?_)
      · refine ab_e_go 4 (77, [(5, .int v313), (0, .ref 1), (1, .int a1), (2, .int a2), (3, .int a3), (4, .int a4)], [.int a3, .int a2, .int a1, .ref 1], (X, w)) rfl ?_
        refine ab_e_c1 (k2 := 134) (as := [.ref 1, .int a1, .int a2, .int a3]) (rest := []) rfl rfl (T_U_obstacleOfTime S w X a1 a2 a3) (fun v314 => ?_)
        exact ab_e_rt rfl rfl
      · refine ab_e_go 3 (58, [(5, .int v313), (0, .ref 1), (1, .int a1), (2, .int a2), (3, .int a3), (4, .int a4)], [.int a2, .ref 2], (X, w)) rfl ?_
        refine ab_e_c1 (k2 := 128) (as := [.ref 2, .int a2]) (rest := []) rfl rfl (T_K_coverage S w X a2) (fun v315 => ?_)
        refine ab_e_go 1 (63, [(5, .int v313), (0, .ref 1), (1, .int a1), (2, .int a2), (3, .int a3), (4, .int a4)], [.int v313, .int v315], (X, w)) rfl ?_
        refine ab_e_bn (c := v315 = v313) (73, [(5, .int v313), (0, .ref 1), (1, .int a1), (2, .int a2), (3, .int a3), (4, .int a4)], [], (X, w)) (66, [(5, .int v313), (0, .ref 1), (1, .int a1), (2, .int a2), (3, .int a3), (4, .int a4)], [], (X, w)) rfl (fun _ => ?_) (fun _ => ?_)
        · refine ab_e_go 4 (77, [(5, .int v313), (0, .ref 1), (1, .int a1), (2, .int a2), (3, .int a3), (4, .int a4)], [.int a3, .int a2, .int a1, .ref 1], (X, w)) rfl ?_
          refine ab_e_c1 (k2 := 134) (as := [.ref 1, .int a1, .int a2, .int a3]) (rest := []) rfl rfl (T_U_obstacleOfTime S w X a1 a2 a3) (fun v316 => ?_)
          exact ab_e_rt rfl rfl
        · refine ab_e_go 2 (69, [(5, .int v313), (0, .ref 1), (1, .int a1), (2, .int a2), (3, .int a3), (4, .int a4)], [.int v313, .int (nI 3)], (X, w)) rfl ?_
          refine ab_e_c1 (k2 := 28) (as := [.int (nI 3), .int v313]) (rest := []) rfl rfl (T_U_code S w X (nI 3) v313) (fun v317 => ?_)
          exact ab_e_rt rfl rfl
    · refine ab_e_go 5 (30, [(0, .ref 1), (1, .int a1), (2, .int a2), (3, .int a3), (4, .int a4)], [.int (nI 3), .int a2, .ref 2, .int (nI 2)], (X, w)) rfl ?_
      refine ab_e_c1 (k2 := 24) (as := [.ref 2, .int a2, .int (nI 3)]) (rest := [.int (nI 2)]) rfl rfl (T_K_shiftPart S w X a2 (nI 3)) (fun v318 => ?_)
      refine ab_e_c1 (k2 := 28) (as := [.int (nI 2), .int v318]) (rest := []) rfl rfl (T_U_code S w X (nI 2) v318) (fun v319 => ?_)
      exact ab_e_rt rfl rfl
  · refine ab_e_go 2 (10, [(0, .ref 1), (1, .int a1), (2, .int a2), (3, .int a3), (4, .int a4)], [.int a2, .int (nI 1)], (X, w)) rfl ?_
    refine ab_e_c1 (k2 := 28) (as := [.int (nI 1), .int a2]) (rest := []) rfl rfl (T_U_code S w X (nI 1) a2) (fun v320 => ?_)
    exact ab_e_rt rfl rfl
def F_U_obstacleToAward (X : ab_XX) (a1 : Int32) (a2 : Int32) : Option Int32 :=
  (F_K_heldBy X a1).bind fun v310 =>
  (F_U_firstObstacle X a1 a2 v310 (nI 1)).bind fun v321 =>
  some v321
set_option maxRecDepth 4000 in
theorem T_U_obstacleToAward (S : Nat × (Nat → Int32)) (w : ab_WW) (X : ab_XX) (a1 : Int32) (a2 : Int32) : ab_Eg (ab_m1 ab_fI (X, w)) S 195 (0, lv_args 0 [.ref 1, .int a1, .int a2], [], (X, w)) (F_U_obstacleToAward X a1 a2) := by
  show ab_Eg (ab_m1 ab_fI (X, w)) S 195 (0, [(0, .ref 1), (1, .int a1), (2, .int a2)], [], (X, w)) _
  unfold F_U_obstacleToAward
  refine ab_e_go 6 (8, [(0, .ref 1), (1, .int a1), (2, .int a2)], [.int a1, .ref 2, .int a2, .int a1, .ref 1], (X, w)) rfl ?_
  refine ab_e_c1 (k2 := 66) (as := [.ref 2, .int a1]) (rest := [.int a2, .int a1, .ref 1]) rfl rfl (T_K_heldBy S w X a1) (fun v310 => ?_)
  refine ab_e_go 1 (12, [(0, .ref 1), (1, .int a1), (2, .int a2)], [.int (nI 1), .int v310, .int a2, .int a1, .ref 1], (X, w)) rfl ?_
  refine ab_e_c1 (k2 := 169) (as := [.ref 1, .int a1, .int a2, .int v310, .int (nI 1)]) (rest := []) rfl rfl (T_U_firstObstacle S w X a1 a2 v310 (nI 1)) (fun v321 => ?_)
  exact ab_e_rt rfl rfl
def F_K_enterAward (X : ab_XX) (a1 : Int32) (a2 : Int32) : Option (Unit × ab_XX) :=
  if X 3 2 < nI 48 then
    ab_b3 (F_K_put X (((nI 357) + ((X 3 2) * (nI 2))) + (nI 0)) a1) (fun _ X325 =>
      ab_b3 (F_K_put X325 (((nI 357) + ((X 3 2) * (nI 2))) + (nI 1)) a2) (fun _ X326 =>
        ab_b3 (F_K_put X326 (nI 2) ((X 3 2) + (nI 1))) (fun _ X327 =>
          some ((), X327))))
  else
    some ((), X)
set_option maxRecDepth 4000 in
theorem T_K_enterAward (S : Nat × (Nat → Int32)) (w : ab_WW) (X : ab_XX) (a1 : Int32) (a2 : Int32) : ab_Eg (ab_m3 ab_fU w) S 61 (0, lv_args 0 [.ref 2, .int a1, .int a2], [], (X, w)) (F_K_enterAward X a1 a2) := by
  show ab_Eg (ab_m3 ab_fU w) S 61 (0, [(0, .ref 2), (1, .int a1), (2, .int a2)], [], (X, w)) _
  unfold F_K_enterAward
  refine ab_e_go 7 (10, [(3, .int (X 3 2)), (0, .ref 2), (1, .int a1), (2, .int a2)], [.int (nI 48), .int (X 3 2)], (X, w)) rfl ?_
  refine ab_e_br (c := X 3 2 < nI 48) (14, [(3, .int (X 3 2)), (0, .ref 2), (1, .int a1), (2, .int a2)], [], (X, w)) (13, [(3, .int (X 3 2)), (0, .ref 2), (1, .int a1), (2, .int a2)], [], (X, w)) rfl (fun _ => ?_) (fun _ => ?_)
  · refine ab_e_go 9 (25, [(3, .int (X 3 2)), (0, .ref 2), (1, .int a1), (2, .int a2)], [.int a1, .int (((nI 357) + ((X 3 2) * (nI 2))) + (nI 0)), .ref 2], (X, w)) rfl ?_
    refine ab_e_c3 (k2 := 23) (as := [.ref 2, .int (((nI 357) + ((X 3 2) * (nI 2))) + (nI 0)), .int a1]) (rest := []) rfl rfl (T_K_put S w X (((nI 357) + ((X 3 2) * (nI 2))) + (nI 0)) a1) (fun _ X325 => ?_)
    refine ab_e_go 9 (39, [(3, .int (X 3 2)), (0, .ref 2), (1, .int a1), (2, .int a2)], [.int a2, .int (((nI 357) + ((X 3 2) * (nI 2))) + (nI 1)), .ref 2], (X325, w)) rfl ?_
    refine ab_e_c3 (k2 := 23) (as := [.ref 2, .int (((nI 357) + ((X 3 2) * (nI 2))) + (nI 1)), .int a2]) (rest := []) rfl rfl (T_K_put S w X325 (((nI 357) + ((X 3 2) * (nI 2))) + (nI 1)) a2) (fun _ X326 => ?_)
    refine ab_e_go 5 (47, [(3, .int (X 3 2)), (0, .ref 2), (1, .int a1), (2, .int a2)], [.int ((X 3 2) + (nI 1)), .int (nI 2), .ref 2], (X326, w)) rfl ?_
    refine ab_e_c3 (k2 := 23) (as := [.ref 2, .int (nI 2), .int ((X 3 2) + (nI 1))]) (rest := []) rfl rfl (T_K_put S w X326 (nI 2) ((X 3 2) + (nI 1))) (fun _ X327 => ?_)
    exact ab_e_rt rfl rfl
  · exact ab_e_rt rfl rfl
def F_C_award (X : ab_XX) (a1 : Int32) (a2 : Int32) : Option ((Int32 ⊕ Nat) × ab_XX) :=
  ab_b2 (F_C_requirePair X a1 a2) (fun _ =>
    (F_U_obstacleToAward X a1 a2).bind fun v322 =>
    ab_b3 (F_R_set X v322 a1) (fun _ X323 =>
      if v322 = nI 0 then
        ab_b3 (F_H_remember_3 X323) (fun _ X324 =>
          ab_b3 (F_K_enterAward X324 a1 a2) (fun _ X328 =>
            (F_K_coverage X328 a2).bind fun v329 =>
            some (.inl v329, X328)))
      else
        some (.inr 3, X323))) (fun y => some (.inr y, X))
set_option maxRecDepth 4000 in
theorem T_C_award (S : Nat × (Nat → Int32)) (w : ab_WW) (X : ab_XX) (a1 : Int32) (a2 : Int32) : ab_Eg (ab_m4 ab_fI w) S 210 (0, lv_args 0 [.ref 0, .int a1, .int a2], [], (X, w)) (F_C_award X a1 a2) := by
  show ab_Eg (ab_m4 ab_fI w) S 210 (0, [(0, .ref 0), (1, .int a1), (2, .int a2)], [], (X, w)) _
  unfold F_C_award
  refine ab_e_go 3 (3, [(0, .ref 0), (1, .int a1), (2, .int a2)], [.int a2, .int a1, .ref 0], (X, w)) rfl ?_
  refine ab_e_c2 (k2 := 120) (as := [.ref 0, .int a1, .int a2]) (rest := []) rfl rfl rfl (T_C_requirePair S w X a1 a2) (fun _ => ?_) (fun _ _ h => by cases h; rfl)
  refine ab_e_go 4 (12, [(0, .ref 0), (1, .int a1), (2, .int a2)], [.int a2, .int a1, .ref 1], (X, w)) rfl ?_
  refine ab_e_c1 (k2 := 195) (as := [.ref 1, .int a1, .int a2]) (rest := []) rfl rfl (T_U_obstacleToAward S w X a1 a2) (fun v322 => ?_)
  refine ab_e_go 5 (22, [(3, .int v322), (0, .ref 0), (1, .int a1), (2, .int a2)], [.int a1, .int v322, .ref 10], (X, w)) rfl ?_
  refine ab_e_c3 (k2 := 75) (as := [.ref 10, .int v322, .int a1]) (rest := []) rfl rfl (T_R_set S w X v322 a1) (fun _ X323 => ?_)
  refine ab_e_go 1 (26, [(3, .int v322), (0, .ref 0), (1, .int a1), (2, .int a2)], [.int v322], (X323, w)) rfl ?_
  refine ab_e_br (c := v322 = nI 0) (39, [(3, .int v322), (0, .ref 0), (1, .int a1), (2, .int a2)], [], (X323, w)) (29, [(3, .int v322), (0, .ref 0), (1, .int a1), (2, .int a2)], [], (X323, w)) rfl (fun _ => ?_) (fun _ => ?_)
  · refine ab_e_go 5 (50, [(3, .int v322), (0, .ref 0), (1, .int a1), (2, .int a2)], [.ref 3, .ref 4], (X323, w)) rfl ?_
    refine ab_e_c3 (k2 := 123) (as := [.ref 4, .ref 3]) (rest := []) rfl rfl (T_H_remember_3 S w X323) (fun _ X324 => ?_)
    refine ab_e_go 4 (59, [(3, .int v322), (0, .ref 0), (1, .int a1), (2, .int a2)], [.int a2, .int a1, .ref 2], (X324, w)) rfl ?_
    refine ab_e_c3 (k2 := 61) (as := [.ref 2, .int a1, .int a2]) (rest := []) rfl rfl (T_K_enterAward S w X324 a1 a2) (fun _ X328 => ?_)
    refine ab_e_go 3 (67, [(3, .int v322), (0, .ref 0), (1, .int a1), (2, .int a2)], [.int a2, .ref 2], (X328, w)) rfl ?_
    refine ab_e_c1 (k2 := 128) (as := [.ref 2, .int a2]) (rest := []) rfl rfl (T_K_coverage S w X328 a2) (fun v329 => ?_)
    exact ab_e_rt rfl rfl
  · exact ab_e_rt rfl rfl
def L_U_candidatesOf_4 (X : ab_XX) : Nat → Int32 → Int32 → Int32 → Option Int32
  | 0, _, _, _ => none
  | n + 1, a1, a2, a3 =>
    (F_K_shiftTotal X).bind fun v330 =>
    if v330 ≤ a3 then
      some a2
    else
      (F_K_pointsFor X a1 a3).bind fun v331 =>
      if v331 ≤ nI 0 then
        L_U_candidatesOf_4 X n a1 a2 (a3 + (nI 1))
      else
        (F_U_hasSkillFor X a1 a3).bind fun v332 =>
        if v332 = nI 0 then
          L_U_candidatesOf_4 X n a1 a2 (a3 + (nI 1))
        else
          (F_K_bit a3).bind fun v333 =>
          L_U_candidatesOf_4 X n a1 (a2 ||| v333) (a3 + (nI 1))
set_option maxRecDepth 4000 in
theorem T_L_U_candidatesOf_4 (S : Nat × (Nat → Int32)) (w : ab_WW) (X : ab_XX) : ∀ (n : Nat) (a1 : Int32) (a2 : Int32) (a3 : Int32), ab_Eg (ab_m1 ab_fI (X, w)) S 132 (4, [(0, .ref 1), (1, .int a1), (2, .int a2), (3, .int a3)], [], (X, w)) (L_U_candidatesOf_4 X n a1 a2 a3) := by
  intro n
  induction n with
  | zero => intro a1 a2 a3; exact ab_e_none
  | succ n ih =>
    intro a1 a2 a3
    unfold L_U_candidatesOf_4
    refine ab_e_go 3 (9, [(0, .ref 1), (1, .int a1), (2, .int a2), (3, .int a3)], [.ref 2, .int a3], (X, w)) rfl ?_
    refine ab_e_c1 (k2 := 25) (as := [.ref 2]) (rest := [.int a3]) rfl rfl (T_K_shiftTotal S w X) (fun v330 => ?_)
    refine ab_e_br (c := v330 ≤ a3) (49, [(0, .ref 1), (1, .int a1), (2, .int a2), (3, .int a3)], [], (X, w)) (15, [(0, .ref 1), (1, .int a1), (2, .int a2), (3, .int a3)], [], (X, w)) rfl (fun _ => ?_) (fun _ => ?_)
    · refine ab_e_go 1 (50, [(0, .ref 1), (1, .int a1), (2, .int a2), (3, .int a3)], [.int a2], (X, w)) rfl ?_
      exact ab_e_rt rfl rfl
    · refine ab_e_go 4 (21, [(0, .ref 1), (1, .int a1), (2, .int a2), (3, .int a3)], [.int a3, .int a1, .ref 2], (X, w)) rfl ?_
      refine ab_e_c1 (k2 := 22) (as := [.ref 2, .int a1, .int a3]) (rest := []) rfl rfl (T_K_pointsFor S w X a1 a3) (fun v331 => ?_)
      refine ab_e_br (c := v331 ≤ nI 0) (43, [(0, .ref 1), (1, .int a1), (2, .int a2), (3, .int a3)], [], (X, w)) (27, [(0, .ref 1), (1, .int a1), (2, .int a2), (3, .int a3)], [], (X, w)) rfl (fun _ => ?_) (fun _ => ?_)
      · refine ab_e_go 2 (4, [(3, .int (a3 + (nI 1))), (0, .ref 1), (1, .int a1), (2, .int a2)], [], (X, w)) rfl ?_
        refine ab_e_wk [(0, .ref 1), (1, .int a1), (2, .int a2), (3, .int (a3 + (nI 1)))] ⟨rfl, rfl, rfl, rfl, trivial⟩ ?_
        exact ih a1 a2 (a3 + (nI 1))
      · refine ab_e_go 3 (30, [(0, .ref 1), (1, .int a1), (2, .int a2), (3, .int a3)], [.int a3, .int a1, .ref 1], (X, w)) rfl ?_
        refine ab_e_c1 (k2 := 77) (as := [.ref 1, .int a1, .int a3]) (rest := []) rfl rfl (T_U_hasSkillFor S w X a1 a3) (fun v332 => ?_)
        refine ab_e_br (c := v332 = nI 0) (43, [(0, .ref 1), (1, .int a1), (2, .int a2), (3, .int a3)], [], (X, w)) (36, [(0, .ref 1), (1, .int a1), (2, .int a2), (3, .int a3)], [], (X, w)) rfl (fun _ => ?_) (fun _ => ?_)
        · refine ab_e_go 2 (4, [(3, .int (a3 + (nI 1))), (0, .ref 1), (1, .int a1), (2, .int a2)], [], (X, w)) rfl ?_
          refine ab_e_wk [(0, .ref 1), (1, .int a1), (2, .int a2), (3, .int (a3 + (nI 1)))] ⟨rfl, rfl, rfl, rfl, trivial⟩ ?_
          exact ih a1 a2 (a3 + (nI 1))
        · refine ab_e_go 2 (38, [(0, .ref 1), (1, .int a1), (2, .int a2), (3, .int a3)], [.int a3, .int a2], (X, w)) rfl ?_
          refine ab_e_c1 (k2 := 13) (as := [.int a3]) (rest := [.int a2]) rfl rfl (T_K_bit S w X a3) (fun v333 => ?_)
          refine ab_e_go 4 (4, [(3, .int (a3 + (nI 1))), (2, .int (a2 ||| v333)), (0, .ref 1), (1, .int a1)], [], (X, w)) rfl ?_
          refine ab_e_wk [(0, .ref 1), (1, .int a1), (2, .int (a2 ||| v333)), (3, .int (a3 + (nI 1)))] ⟨rfl, rfl, rfl, rfl, trivial⟩ ?_
          exact ih a1 (a2 ||| v333) (a3 + (nI 1))
def F_U_candidatesOf (X : ab_XX) (a1 : Int32) : Option Int32 :=
  L_U_candidatesOf_4 X ab_fu a1 (nI 0) (nI 0)
set_option maxRecDepth 4000 in
theorem T_U_candidatesOf (S : Nat × (Nat → Int32)) (w : ab_WW) (X : ab_XX) (a1 : Int32) : ab_Eg (ab_m1 ab_fI (X, w)) S 132 (0, lv_args 0 [.ref 1, .int a1], [], (X, w)) (F_U_candidatesOf X a1) := by
  show ab_Eg (ab_m1 ab_fI (X, w)) S 132 (0, [(0, .ref 1), (1, .int a1)], [], (X, w)) _
  unfold F_U_candidatesOf
  refine ab_e_go 4 (4, [(3, .int (nI 0)), (2, .int (nI 0)), (0, .ref 1), (1, .int a1)], [], (X, w)) rfl ?_
  refine ab_e_wk [(0, .ref 1), (1, .int a1), (2, .int (nI 0)), (3, .int (nI 0))] ⟨rfl, rfl, rfl, rfl, trivial⟩ ?_
  exact T_L_U_candidatesOf_4 S w X ab_fu a1 (nI 0) (nI 0)
def L_U_findBestSet_26 (X : ab_XX) : Nat → Int32 → Int32 → Int32 → Int32 → Int32 → Int32 → Int32 → Option Int32
  | 0, _, _, _, _, _, _, _ => none
  | n + 1, a1, a2, a3, a4, a5, a6, a7 =>
    if a3 ≤ a7 then
      some a4
    else
      (F_K_pointsForSet X a1 ((a6 - a2) &&& a2)).bind fun v337 =>
      if v337 ≤ a5 then
        L_U_findBestSet_26 X n a1 a2 a3 a4 a5 ((a6 - a2) &&& a2) (a7 + (nI 1))
      else
        (F_U_canHold X a1 ((a6 - a2) &&& a2)).bind fun v338 =>
        if v338 = nI 0 then
          L_U_findBestSet_26 X n a1 a2 a3 a4 a5 ((a6 - a2) &&& a2) (a7 + (nI 1))
        else
          L_U_findBestSet_26 X n a1 a2 a3 ((a6 - a2) &&& a2) v337 ((a6 - a2) &&& a2) (a7 + (nI 1))
set_option maxRecDepth 4000 in
theorem T_L_U_findBestSet_26 (S : Nat × (Nat → Int32)) (w : ab_WW) (X : ab_XX) : ∀ (n : Nat) (a1 : Int32) (a2 : Int32) (a3 : Int32) (a4 : Int32) (a5 : Int32) (a6 : Int32) (a7 : Int32), ab_Eg (ab_m1 ab_fI (X, w)) S 194 (26, [(0, .ref 1), (1, .int a1), (2, .int a2), (3, .int a3), (4, .int a4), (5, .int a5), (6, .int a6), (7, .int a7)], [], (X, w)) (L_U_findBestSet_26 X n a1 a2 a3 a4 a5 a6 a7) := by
  intro n
  induction n with
  | zero => intro a1 a2 a3 a4 a5 a6 a7; exact ab_e_none
  | succ n ih =>
    intro a1 a2 a3 a4 a5 a6 a7
    unfold L_U_findBestSet_26
    refine ab_e_go 2 (29, [(0, .ref 1), (1, .int a1), (2, .int a2), (3, .int a3), (4, .int a4), (5, .int a5), (6, .int a6), (7, .int a7)], [.int a3, .int a7], (X, w)) rfl ?_
    refine ab_e_br (c := a3 ≤ a7) (83, [(0, .ref 1), (1, .int a1), (2, .int a2), (3, .int a3), (4, .int a4), (5, .int a5), (6, .int a6), (7, .int a7)], [], (X, w)) (32, [(0, .ref 1), (1, .int a1), (2, .int a2), (3, .int a3), (4, .int a4), (5, .int a5), (6, .int a6), (7, .int a7)], [], (X, w)) rfl (fun _ => ?_) (fun _ => ?_)
    · refine ab_e_go 1 (85, [(0, .ref 1), (1, .int a1), (2, .int a2), (3, .int a3), (4, .int a4), (5, .int a5), (6, .int a6), (7, .int a7)], [.int a4], (X, w)) rfl ?_
      exact ab_e_rt rfl rfl
    · refine ab_e_go 10 (47, [(6, .int ((a6 - a2) &&& a2)), (0, .ref 1), (1, .int a1), (2, .int a2), (3, .int a3), (4, .int a4), (5, .int a5), (7, .int a7)], [.int ((a6 - a2) &&& a2), .int a1, .ref 2], (X, w)) rfl ?_
      refine ab_e_c1 (k2 := 72) (as := [.ref 2, .int a1, .int ((a6 - a2) &&& a2)]) (rest := []) rfl rfl (T_K_pointsForSet S w X a1 ((a6 - a2) &&& a2)) (fun v337 => ?_)
      refine ab_e_go 3 (56, [(8, .int v337), (6, .int ((a6 - a2) &&& a2)), (0, .ref 1), (1, .int a1), (2, .int a2), (3, .int a3), (4, .int a4), (5, .int a5), (7, .int a7)], [.int a5, .int v337], (X, w)) rfl ?_
      refine ab_e_br (c := v337 ≤ a5) (77, [(8, .int v337), (6, .int ((a6 - a2) &&& a2)), (0, .ref 1), (1, .int a1), (2, .int a2), (3, .int a3), (4, .int a4), (5, .int a5), (7, .int a7)], [], (X, w)) (59, [(8, .int v337), (6, .int ((a6 - a2) &&& a2)), (0, .ref 1), (1, .int a1), (2, .int a2), (3, .int a3), (4, .int a4), (5, .int a5), (7, .int a7)], [], (X, w)) rfl (fun _ => ?_) (fun _ => ?_)
      · refine ab_e_go 2 (26, [(7, .int (a7 + (nI 1))), (8, .int v337), (6, .int ((a6 - a2) &&& a2)), (0, .ref 1), (1, .int a1), (2, .int a2), (3, .int a3), (4, .int a4), (5, .int a5)], [], (X, w)) rfl ?_
        refine ab_e_wk [(0, .ref 1), (1, .int a1), (2, .int a2), (3, .int a3), (4, .int a4), (5, .int a5), (6, .int ((a6 - a2) &&& a2)), (7, .int (a7 + (nI 1)))] ⟨rfl, rfl, rfl, rfl, rfl, rfl, rfl, rfl, trivial⟩ ?_
        exact ih a1 a2 a3 a4 a5 ((a6 - a2) &&& a2) (a7 + (nI 1))
      · refine ab_e_go 3 (63, [(8, .int v337), (6, .int ((a6 - a2) &&& a2)), (0, .ref 1), (1, .int a1), (2, .int a2), (3, .int a3), (4, .int a4), (5, .int a5), (7, .int a7)], [.int ((a6 - a2) &&& a2), .int a1, .ref 1], (X, w)) rfl ?_
        refine ab_e_c1 (k2 := 168) (as := [.ref 1, .int a1, .int ((a6 - a2) &&& a2)]) (rest := []) rfl rfl (T_U_canHold S w X a1 ((a6 - a2) &&& a2)) (fun v338 => ?_)
        refine ab_e_br (c := v338 = nI 0) (77, [(8, .int v337), (6, .int ((a6 - a2) &&& a2)), (0, .ref 1), (1, .int a1), (2, .int a2), (3, .int a3), (4, .int a4), (5, .int a5), (7, .int a7)], [], (X, w)) (69, [(8, .int v337), (6, .int ((a6 - a2) &&& a2)), (0, .ref 1), (1, .int a1), (2, .int a2), (3, .int a3), (4, .int a4), (5, .int a5), (7, .int a7)], [], (X, w)) rfl (fun _ => ?_) (fun _ => ?_)
        · refine ab_e_go 2 (26, [(7, .int (a7 + (nI 1))), (8, .int v337), (6, .int ((a6 - a2) &&& a2)), (0, .ref 1), (1, .int a1), (2, .int a2), (3, .int a3), (4, .int a4), (5, .int a5)], [], (X, w)) rfl ?_
          refine ab_e_wk [(0, .ref 1), (1, .int a1), (2, .int a2), (3, .int a3), (4, .int a4), (5, .int a5), (6, .int ((a6 - a2) &&& a2)), (7, .int (a7 + (nI 1)))] ⟨rfl, rfl, rfl, rfl, rfl, rfl, rfl, rfl, trivial⟩ ?_
          exact ih a1 a2 a3 a4 a5 ((a6 - a2) &&& a2) (a7 + (nI 1))
        · refine ab_e_go 6 (26, [(7, .int (a7 + (nI 1))), (4, .int ((a6 - a2) &&& a2)), (5, .int v337), (8, .int v337), (6, .int ((a6 - a2) &&& a2)), (0, .ref 1), (1, .int a1), (2, .int a2), (3, .int a3)], [], (X, w)) rfl ?_
          refine ab_e_wk [(0, .ref 1), (1, .int a1), (2, .int a2), (3, .int a3), (4, .int ((a6 - a2) &&& a2)), (5, .int v337), (6, .int ((a6 - a2) &&& a2)), (7, .int (a7 + (nI 1)))] ⟨rfl, rfl, rfl, rfl, rfl, rfl, rfl, rfl, trivial⟩ ?_
          exact ih a1 a2 a3 ((a6 - a2) &&& a2) v337 ((a6 - a2) &&& a2) (a7 + (nI 1))
def F_U_findBestSet (X : ab_XX) (a1 : Int32) : Option Int32 :=
  (F_U_candidatesOf X a1).bind fun v334 =>
  (F_J_bitCount v334).bind fun v335 =>
  (F_K_bit v335).bind fun v336 =>
  L_U_findBestSet_26 X ab_fu a1 v334 v336 (nI 0) (nI 0) (nI 0) (nI 1)
set_option maxRecDepth 4000 in
theorem T_U_findBestSet (S : Nat × (Nat → Int32)) (w : ab_WW) (X : ab_XX) (a1 : Int32) : ab_Eg (ab_m1 ab_fI (X, w)) S 194 (0, lv_args 0 [.ref 1, .int a1], [], (X, w)) (F_U_findBestSet X a1) := by
  show ab_Eg (ab_m1 ab_fI (X, w)) S 194 (0, [(0, .ref 1), (1, .int a1)], [], (X, w)) _
  unfold F_U_findBestSet
  refine ab_e_go 2 (2, [(0, .ref 1), (1, .int a1)], [.int a1, .ref 1], (X, w)) rfl ?_
  refine ab_e_c1 (k2 := 132) (as := [.ref 1, .int a1]) (rest := []) rfl rfl (T_U_candidatesOf S w X a1) (fun v334 => ?_)
  refine ab_e_go 2 (7, [(2, .int v334), (0, .ref 1), (1, .int a1)], [.int v334], (X, w)) rfl ?_
  refine ab_e_c1 (k2 := 46) (as := [.int v334]) (rest := []) rfl rfl (T_J_bitCount S w X v334) (fun v335 => ?_)
  refine ab_e_c1 (k2 := 13) (as := [.int v335]) (rest := []) rfl rfl (T_K_bit S w X v335) (fun v336 => ?_)
  refine ab_e_go 9 (26, [(7, .int (nI 1)), (6, .int (nI 0)), (5, .int (nI 0)), (4, .int (nI 0)), (3, .int v336), (2, .int v334), (0, .ref 1), (1, .int a1)], [], (X, w)) rfl ?_
  refine ab_e_wk [(0, .ref 1), (1, .int a1), (2, .int v334), (3, .int v336), (4, .int (nI 0)), (5, .int (nI 0)), (6, .int (nI 0)), (7, .int (nI 1))] ⟨rfl, rfl, rfl, rfl, rfl, rfl, rfl, rfl, trivial⟩ ?_
  exact T_L_U_findBestSet_26 S w X ab_fu a1 v334 v336 (nI 0) (nI 0) (nI 0) (nI 1)
def F_C_bestPoints (X : ab_XX) (a1 : Int32) : Option (Int32 ⊕ Nat) :=
  ab_b2 (F_C_requireWorker X a1) (fun _ =>
    (F_U_findBestSet X a1).bind fun v339 =>
    (F_K_pointsForSet X a1 v339).bind fun v340 =>
    some (.inl v340)) (fun y => some (.inr y))
set_option maxRecDepth 4000 in
theorem T_C_bestPoints (S : Nat × (Nat → Int32)) (w : ab_WW) (X : ab_XX) (a1 : Int32) : ab_Eg (ab_m2 ab_fI (X, w)) S 211 (0, lv_args 0 [.ref 0, .int a1], [], (X, w)) (F_C_bestPoints X a1) := by
  show ab_Eg (ab_m2 ab_fI (X, w)) S 211 (0, [(0, .ref 0), (1, .int a1)], [], (X, w)) _
  unfold F_C_bestPoints
  refine ab_e_go 2 (2, [(0, .ref 0), (1, .int a1)], [.int a1, .ref 0], (X, w)) rfl ?_
  refine ab_e_c2 (k2 := 52) (as := [.ref 0, .int a1]) (rest := []) rfl rfl rfl (T_C_requireWorker S w X a1) (fun _ => ?_) (fun _ _ h => by cases h; rfl)
  refine ab_e_go 6 (15, [(0, .ref 0), (1, .int a1)], [.int a1, .ref 1, .int a1, .ref 2], (X, w)) rfl ?_
  refine ab_e_c1 (k2 := 194) (as := [.ref 1, .int a1]) (rest := [.int a1, .ref 2]) rfl rfl (T_U_findBestSet S w X a1) (fun v339 => ?_)
  refine ab_e_c1 (k2 := 72) (as := [.ref 2, .int a1, .int v339]) (rest := []) rfl rfl (T_K_pointsForSet S w X a1 v339) (fun v340 => ?_)
  exact ab_e_rt rfl rfl
def F_C_bestSet (X : ab_XX) (a1 : Int32) : Option (Int32 ⊕ Nat) :=
  ab_b2 (F_C_requireWorker X a1) (fun _ =>
    (F_U_findBestSet X a1).bind fun v341 =>
    some (.inl v341)) (fun y => some (.inr y))
set_option maxRecDepth 4000 in
theorem T_C_bestSet (S : Nat × (Nat → Int32)) (w : ab_WW) (X : ab_XX) (a1 : Int32) : ab_Eg (ab_m2 ab_fI (X, w)) S 212 (0, lv_args 0 [.ref 0, .int a1], [], (X, w)) (F_C_bestSet X a1) := by
  show ab_Eg (ab_m2 ab_fI (X, w)) S 212 (0, [(0, .ref 0), (1, .int a1)], [], (X, w)) _
  unfold F_C_bestSet
  refine ab_e_go 2 (2, [(0, .ref 0), (1, .int a1)], [.int a1, .ref 0], (X, w)) rfl ?_
  refine ab_e_c2 (k2 := 52) (as := [.ref 0, .int a1]) (rest := []) rfl rfl rfl (T_C_requireWorker S w X a1) (fun _ => ?_) (fun _ _ h => by cases h; rfl)
  refine ab_e_go 3 (10, [(0, .ref 0), (1, .int a1)], [.int a1, .ref 1], (X, w)) rfl ?_
  refine ab_e_c1 (k2 := 194) (as := [.ref 1, .int a1]) (rest := []) rfl rfl (T_U_findBestSet S w X a1) (fun v341 => ?_)
  exact ab_e_rt rfl rfl
def F_U_isPreferred (X : ab_XX) (a1 : Int32) (a2 : Int32) (a3 : Int32) : Option Int32 :=
  (F_K_pointsFor X a1 a2).bind fun v346 =>
  (F_K_pointsFor X a1 a3).bind fun v347 =>
  (F_K_shiftPart X a2 (nI 6)).bind fun v348 =>
  if v347 < v346 then
    some (nI 1)
  else
    if v346 = v347 then
      (F_K_shiftPart X a3 (nI 6)).bind fun v349 =>
      if v349 ≤ v348 then
        some (nI 0)
      else
        some (nI 1)
    else
      some (nI 0)
set_option maxRecDepth 4000 in
theorem T_U_isPreferred (S : Nat × (Nat → Int32)) (w : ab_WW) (X : ab_XX) (a1 : Int32) (a2 : Int32) (a3 : Int32) : ab_Eg (ab_m1 ab_fI (X, w)) S 79 (0, lv_args 0 [.ref 1, .int a1, .int a2, .int a3], [], (X, w)) (F_U_isPreferred X a1 a2 a3) := by
  show ab_Eg (ab_m1 ab_fI (X, w)) S 79 (0, [(0, .ref 1), (1, .int a1), (2, .int a2), (3, .int a3)], [], (X, w)) _
  unfold F_U_isPreferred
  refine ab_e_go 4 (6, [(0, .ref 1), (1, .int a1), (2, .int a2), (3, .int a3)], [.int a2, .int a1, .ref 2], (X, w)) rfl ?_
  refine ab_e_c1 (k2 := 22) (as := [.ref 2, .int a1, .int a2]) (rest := []) rfl rfl (T_K_pointsFor S w X a1 a2) (fun v346 => ?_)
  refine ab_e_go 5 (17, [(4, .int v346), (0, .ref 1), (1, .int a1), (2, .int a2), (3, .int a3)], [.int a3, .int a1, .ref 2], (X, w)) rfl ?_
  refine ab_e_c1 (k2 := 22) (as := [.ref 2, .int a1, .int a3]) (rest := []) rfl rfl (T_K_pointsFor S w X a1 a3) (fun v347 => ?_)
  refine ab_e_go 5 (29, [(5, .int v347), (4, .int v346), (0, .ref 1), (1, .int a1), (2, .int a2), (3, .int a3)], [.int (nI 6), .int a2, .ref 2], (X, w)) rfl ?_
  refine ab_e_c1 (k2 := 24) (as := [.ref 2, .int a2, .int (nI 6)]) (rest := []) rfl rfl (T_K_shiftPart S w X a2 (nI 6)) (fun v348 => ?_)
  refine ab_e_go 3 (38, [(6, .int v348), (5, .int v347), (4, .int v346), (0, .ref 1), (1, .int a1), (2, .int a2), (3, .int a3)], [.int v347, .int v346], (X, w)) rfl ?_
  refine ab_e_br (c := v347 < v346) (63, [(6, .int v348), (5, .int v347), (4, .int v346), (0, .ref 1), (1, .int a1), (2, .int a2), (3, .int a3)], [], (X, w)) (41, [(6, .int v348), (5, .int v347), (4, .int v346), (0, .ref 1), (1, .int a1), (2, .int a2), (3, .int a3)], [], (X, w)) rfl (fun _ => ?_) (fun _ => ?_)
  · refine ab_e_go 2 (68, [(6, .int v348), (5, .int v347), (4, .int v346), (0, .ref 1), (1, .int a1), (2, .int a2), (3, .int a3)], [.int (nI 1)], (X, w)) rfl ?_
    exact ab_e_rt rfl rfl
  · refine ab_e_go 2 (45, [(6, .int v348), (5, .int v347), (4, .int v346), (0, .ref 1), (1, .int a1), (2, .int a2), (3, .int a3)], [.int v347, .int v346], (X, w)) rfl ?_
    refine ab_e_bn (c := v346 = v347) (67, [(6, .int v348), (5, .int v347), (4, .int v346), (0, .ref 1), (1, .int a1), (2, .int a2), (3, .int a3)], [], (X, w)) (48, [(6, .int v348), (5, .int v347), (4, .int v346), (0, .ref 1), (1, .int a1), (2, .int a2), (3, .int a3)], [], (X, w)) rfl (fun _ => ?_) (fun _ => ?_)
    · refine ab_e_go 1 (68, [(6, .int v348), (5, .int v347), (4, .int v346), (0, .ref 1), (1, .int a1), (2, .int a2), (3, .int a3)], [.int (nI 0)], (X, w)) rfl ?_
      exact ab_e_rt rfl rfl
    · refine ab_e_go 5 (57, [(6, .int v348), (5, .int v347), (4, .int v346), (0, .ref 1), (1, .int a1), (2, .int a2), (3, .int a3)], [.int (nI 6), .int a3, .ref 2, .int v348], (X, w)) rfl ?_
      refine ab_e_c1 (k2 := 24) (as := [.ref 2, .int a3, .int (nI 6)]) (rest := [.int v348]) rfl rfl (T_K_shiftPart S w X a3 (nI 6)) (fun v349 => ?_)
      refine ab_e_br (c := v349 ≤ v348) (67, [(6, .int v348), (5, .int v347), (4, .int v346), (0, .ref 1), (1, .int a1), (2, .int a2), (3, .int a3)], [], (X, w)) (63, [(6, .int v348), (5, .int v347), (4, .int v346), (0, .ref 1), (1, .int a1), (2, .int a2), (3, .int a3)], [], (X, w)) rfl (fun _ => ?_) (fun _ => ?_)
      · refine ab_e_go 1 (68, [(6, .int v348), (5, .int v347), (4, .int v346), (0, .ref 1), (1, .int a1), (2, .int a2), (3, .int a3)], [.int (nI 0)], (X, w)) rfl ?_
        exact ab_e_rt rfl rfl
      · refine ab_e_go 2 (68, [(6, .int v348), (5, .int v347), (4, .int v346), (0, .ref 1), (1, .int a1), (2, .int a2), (3, .int a3)], [.int (nI 1)], (X, w)) rfl ?_
        exact ab_e_rt rfl rfl
def L_U_choiceOf_14 (X : ab_XX) : Nat → Int32 → Int32 → Int32 → Int32 → Option Int32
  | 0, _, _, _, _ => none
  | n + 1, a1, a2, a3, a4 =>
    (F_K_shiftTotal X).bind fun v343 =>
    if v343 ≤ a4 then
      some a3
    else
      (F_K_pointsFor X a1 a4).bind fun v344 =>
      if v344 ≤ nI 0 then
        L_U_choiceOf_14 X n a1 a2 a3 (a4 + (nI 1))
      else
        if a3 = (-1 : Int32) then
          (F_U_firstObstacle X a1 a4 a2 (nI 1)).bind fun v345 =>
          if v345 = nI 0 then
            L_U_choiceOf_14 X n a1 a2 a4 (a4 + (nI 1))
          else
            L_U_choiceOf_14 X n a1 a2 a3 (a4 + (nI 1))
        else
          (F_U_isPreferred X a1 a4 a3).bind fun v350 =>
          if v350 = nI 0 then
            L_U_choiceOf_14 X n a1 a2 a3 (a4 + (nI 1))
          else
            (F_U_firstObstacle X a1 a4 a2 (nI 1)).bind fun v351 =>
            if v351 = nI 0 then
              L_U_choiceOf_14 X n a1 a2 a4 (a4 + (nI 1))
            else
              L_U_choiceOf_14 X n a1 a2 a3 (a4 + (nI 1))
set_option maxRecDepth 4000 in
theorem T_L_U_choiceOf_14 (S : Nat × (Nat → Int32)) (w : ab_WW) (X : ab_XX) : ∀ (n : Nat) (a1 : Int32) (a2 : Int32) (a3 : Int32) (a4 : Int32), ab_Eg (ab_m1 ab_fI (X, w)) S 193 (14, [(0, .ref 1), (1, .int a1), (2, .int a2), (3, .int a3), (4, .int a4)], [], (X, w)) (L_U_choiceOf_14 X n a1 a2 a3 a4) := by
  intro n
  induction n with
  | zero => intro a1 a2 a3 a4; exact ab_e_none
  | succ n ih =>
    intro a1 a2 a3 a4
    unfold L_U_choiceOf_14
    refine ab_e_go 3 (20, [(0, .ref 1), (1, .int a1), (2, .int a2), (3, .int a3), (4, .int a4)], [.ref 2, .int a4], (X, w)) rfl ?_
    refine ab_e_c1 (k2 := 25) (as := [.ref 2]) (rest := [.int a4]) rfl rfl (T_K_shiftTotal S w X) (fun v343 => ?_)
    refine ab_e_br (c := v343 ≤ a4) (76, [(0, .ref 1), (1, .int a1), (2, .int a2), (3, .int a3), (4, .int a4)], [], (X, w)) (26, [(0, .ref 1), (1, .int a1), (2, .int a2), (3, .int a3), (4, .int a4)], [], (X, w)) rfl (fun _ => ?_) (fun _ => ?_)
    · refine ab_e_go 1 (77, [(0, .ref 1), (1, .int a1), (2, .int a2), (3, .int a3), (4, .int a4)], [.int a3], (X, w)) rfl ?_
      exact ab_e_rt rfl rfl
    · refine ab_e_go 4 (33, [(0, .ref 1), (1, .int a1), (2, .int a2), (3, .int a3), (4, .int a4)], [.int a4, .int a1, .ref 2], (X, w)) rfl ?_
      refine ab_e_c1 (k2 := 22) (as := [.ref 2, .int a1, .int a4]) (rest := []) rfl rfl (T_K_pointsFor S w X a1 a4) (fun v344 => ?_)
      refine ab_e_br (c := v344 ≤ nI 0) (70, [(0, .ref 1), (1, .int a1), (2, .int a2), (3, .int a3), (4, .int a4)], [], (X, w)) (39, [(0, .ref 1), (1, .int a1), (2, .int a2), (3, .int a3), (4, .int a4)], [], (X, w)) rfl (fun _ => ?_) (fun _ => ?_)
      · refine ab_e_go 2 (14, [(4, .int (a4 + (nI 1))), (0, .ref 1), (1, .int a1), (2, .int a2), (3, .int a3)], [], (X, w)) rfl ?_
        refine ab_e_wk [(0, .ref 1), (1, .int a1), (2, .int a2), (3, .int a3), (4, .int (a4 + (nI 1)))] ⟨rfl, rfl, rfl, rfl, rfl, trivial⟩ ?_
        exact ih a1 a2 a3 (a4 + (nI 1))
      · refine ab_e_go 2 (41, [(0, .ref 1), (1, .int a1), (2, .int a2), (3, .int a3), (4, .int a4)], [.int (-1 : Int32), .int a3], (X, w)) rfl ?_
        refine ab_e_br (c := a3 = (-1 : Int32)) (55, [(0, .ref 1), (1, .int a1), (2, .int a2), (3, .int a3), (4, .int a4)], [], (X, w)) (44, [(0, .ref 1), (1, .int a1), (2, .int a2), (3, .int a3), (4, .int a4)], [], (X, w)) rfl (fun _ => ?_) (fun _ => ?_)
        · refine ab_e_go 5 (61, [(0, .ref 1), (1, .int a1), (2, .int a2), (3, .int a3), (4, .int a4)], [.int (nI 1), .int a2, .int a4, .int a1, .ref 1], (X, w)) rfl ?_
          refine ab_e_c1 (k2 := 169) (as := [.ref 1, .int a1, .int a4, .int a2, .int (nI 1)]) (rest := []) rfl rfl (T_U_firstObstacle S w X a1 a4 a2 (nI 1)) (fun v345 => ?_)
          refine ab_e_bn (c := v345 = nI 0) (70, [(0, .ref 1), (1, .int a1), (2, .int a2), (3, .int a3), (4, .int a4)], [], (X, w)) (67, [(0, .ref 1), (1, .int a1), (2, .int a2), (3, .int a3), (4, .int a4)], [], (X, w)) rfl (fun _ => ?_) (fun _ => ?_)
          · refine ab_e_go 2 (14, [(4, .int (a4 + (nI 1))), (0, .ref 1), (1, .int a1), (2, .int a2), (3, .int a3)], [], (X, w)) rfl ?_
            refine ab_e_wk [(0, .ref 1), (1, .int a1), (2, .int a2), (3, .int a3), (4, .int (a4 + (nI 1)))] ⟨rfl, rfl, rfl, rfl, rfl, trivial⟩ ?_
            exact ih a1 a2 a3 (a4 + (nI 1))
          · refine ab_e_go 4 (14, [(4, .int (a4 + (nI 1))), (3, .int a4), (0, .ref 1), (1, .int a1), (2, .int a2)], [], (X, w)) rfl ?_
            refine ab_e_wk [(0, .ref 1), (1, .int a1), (2, .int a2), (3, .int a4), (4, .int (a4 + (nI 1)))] ⟨rfl, rfl, rfl, rfl, rfl, trivial⟩ ?_
            exact ih a1 a2 a4 (a4 + (nI 1))
        · refine ab_e_go 4 (49, [(0, .ref 1), (1, .int a1), (2, .int a2), (3, .int a3), (4, .int a4)], [.int a3, .int a4, .int a1, .ref 1], (X, w)) rfl ?_
          refine ab_e_c1 (k2 := 79) (as := [.ref 1, .int a1, .int a4, .int a3]) (rest := []) rfl rfl (T_U_isPreferred S w X a1 a4 a3) (fun v350 => ?_)
          refine ab_e_br (c := v350 = nI 0) (70, [(0, .ref 1), (1, .int a1), (2, .int a2), (3, .int a3), (4, .int a4)], [], (X, w)) (55, [(0, .ref 1), (1, .int a1), (2, .int a2), (3, .int a3), (4, .int a4)], [], (X, w)) rfl (fun _ => ?_) (fun _ => ?_)
          · refine ab_e_go 2 (14, [(4, .int (a4 + (nI 1))), (0, .ref 1), (1, .int a1), (2, .int a2), (3, .int a3)], [], (X, w)) rfl ?_
            refine ab_e_wk [(0, .ref 1), (1, .int a1), (2, .int a2), (3, .int a3), (4, .int (a4 + (nI 1)))] ⟨rfl, rfl, rfl, rfl, rfl, trivial⟩ ?_
            exact ih a1 a2 a3 (a4 + (nI 1))
          · refine ab_e_go 5 (61, [(0, .ref 1), (1, .int a1), (2, .int a2), (3, .int a3), (4, .int a4)], [.int (nI 1), .int a2, .int a4, .int a1, .ref 1], (X, w)) rfl ?_
            refine ab_e_c1 (k2 := 169) (as := [.ref 1, .int a1, .int a4, .int a2, .int (nI 1)]) (rest := []) rfl rfl (T_U_firstObstacle S w X a1 a4 a2 (nI 1)) (fun v351 => ?_)
            refine ab_e_bn (c := v351 = nI 0) (70, [(0, .ref 1), (1, .int a1), (2, .int a2), (3, .int a3), (4, .int a4)], [], (X, w)) (67, [(0, .ref 1), (1, .int a1), (2, .int a2), (3, .int a3), (4, .int a4)], [], (X, w)) rfl (fun _ => ?_) (fun _ => ?_)
            · refine ab_e_go 2 (14, [(4, .int (a4 + (nI 1))), (0, .ref 1), (1, .int a1), (2, .int a2), (3, .int a3)], [], (X, w)) rfl ?_
              refine ab_e_wk [(0, .ref 1), (1, .int a1), (2, .int a2), (3, .int a3), (4, .int (a4 + (nI 1)))] ⟨rfl, rfl, rfl, rfl, rfl, trivial⟩ ?_
              exact ih a1 a2 a3 (a4 + (nI 1))
            · refine ab_e_go 4 (14, [(4, .int (a4 + (nI 1))), (3, .int a4), (0, .ref 1), (1, .int a1), (2, .int a2)], [], (X, w)) rfl ?_
              refine ab_e_wk [(0, .ref 1), (1, .int a1), (2, .int a2), (3, .int a4), (4, .int (a4 + (nI 1)))] ⟨rfl, rfl, rfl, rfl, rfl, trivial⟩ ?_
              exact ih a1 a2 a4 (a4 + (nI 1))
def F_U_choiceOf (X : ab_XX) (a1 : Int32) : Option Int32 :=
  (F_K_heldBy X a1).bind fun v342 =>
  L_U_choiceOf_14 X ab_fu a1 v342 (-1 : Int32) (nI 0)
set_option maxRecDepth 4000 in
theorem T_U_choiceOf (S : Nat × (Nat → Int32)) (w : ab_WW) (X : ab_XX) (a1 : Int32) : ab_Eg (ab_m1 ab_fI (X, w)) S 193 (0, lv_args 0 [.ref 1, .int a1], [], (X, w)) (F_U_choiceOf X a1) := by
  show ab_Eg (ab_m1 ab_fI (X, w)) S 193 (0, [(0, .ref 1), (1, .int a1)], [], (X, w)) _
  unfold F_U_choiceOf
  refine ab_e_go 3 (5, [(0, .ref 1), (1, .int a1)], [.int a1, .ref 2], (X, w)) rfl ?_
  refine ab_e_c1 (k2 := 66) (as := [.ref 2, .int a1]) (rest := []) rfl rfl (T_K_heldBy S w X a1) (fun v342 => ?_)
  refine ab_e_go 5 (14, [(4, .int (nI 0)), (3, .int (-1 : Int32)), (2, .int v342), (0, .ref 1), (1, .int a1)], [], (X, w)) rfl ?_
  refine ab_e_wk [(0, .ref 1), (1, .int a1), (2, .int v342), (3, .int (-1 : Int32)), (4, .int (nI 0))] ⟨rfl, rfl, rfl, rfl, rfl, trivial⟩ ?_
  exact T_L_U_choiceOf_14 S w X ab_fu a1 v342 (-1 : Int32) (nI 0)
def F_C_nextChoice (X : ab_XX) (a1 : Int32) : Option (Int32 ⊕ Nat) :=
  ab_b2 (F_C_requireWorker X a1) (fun _ =>
    (F_U_choiceOf X a1).bind fun v352 =>
    if v352 = (-1 : Int32) then
      some (.inr 4)
    else
      some (.inl v352)) (fun y => some (.inr y))
set_option maxRecDepth 4000 in
theorem T_C_nextChoice (S : Nat × (Nat → Int32)) (w : ab_WW) (X : ab_XX) (a1 : Int32) : ab_Eg (ab_m2 ab_fI (X, w)) S 215 (0, lv_args 0 [.ref 0, .int a1], [], (X, w)) (F_C_nextChoice X a1) := by
  show ab_Eg (ab_m2 ab_fI (X, w)) S 215 (0, [(0, .ref 0), (1, .int a1)], [], (X, w)) _
  unfold F_C_nextChoice
  refine ab_e_go 2 (2, [(0, .ref 0), (1, .int a1)], [.int a1, .ref 0], (X, w)) rfl ?_
  refine ab_e_c2 (k2 := 52) (as := [.ref 0, .int a1]) (rest := []) rfl rfl rfl (T_C_requireWorker S w X a1) (fun _ => ?_) (fun _ _ h => by cases h; rfl)
  refine ab_e_go 3 (10, [(0, .ref 0), (1, .int a1)], [.int a1, .ref 1], (X, w)) rfl ?_
  refine ab_e_c1 (k2 := 193) (as := [.ref 1, .int a1]) (rest := []) rfl rfl (T_U_choiceOf S w X a1) (fun v352 => ?_)
  refine ab_e_go 3 (16, [(2, .int v352), (0, .ref 0), (1, .int a1)], [.int (-1 : Int32), .int v352], (X, w)) rfl ?_
  refine ab_e_bn (c := v352 = (-1 : Int32)) (30, [(2, .int v352), (0, .ref 0), (1, .int a1)], [], (X, w)) (19, [(2, .int v352), (0, .ref 0), (1, .int a1)], [], (X, w)) rfl (fun _ => ?_) (fun _ => ?_)
  · refine ab_e_go 1 (31, [(2, .int v352), (0, .ref 0), (1, .int a1)], [.int v352], (X, w)) rfl ?_
    exact ab_e_rt rfl rfl
  · exact ab_e_rt rfl rfl
def F_C_obstacle (X : ab_XX) (a1 : Int32) (a2 : Int32) (a3 : Int32) : Option (Int32 ⊕ Nat) :=
  ab_b2 (F_C_requirePair X a1 a2) (fun _ =>
    ab_b2 (F_C_requirePart a3 (nI 1)) (fun _ =>
      (F_U_obstacleToAward X a1 a2).bind fun v353 =>
      if a3 = nI 0 then
        (F_U_numberOf v353).bind fun v355 =>
        some (.inl v355)
      else
        (F_U_detailOf v353).bind fun v354 =>
        some (.inl v354)) (fun y => some (.inr y))) (fun y => some (.inr y))
set_option maxRecDepth 4000 in
theorem T_C_obstacle (S : Nat × (Nat → Int32)) (w : ab_WW) (X : ab_XX) (a1 : Int32) (a2 : Int32) (a3 : Int32) : ab_Eg (ab_m2 ab_fI (X, w)) S 216 (0, lv_args 0 [.ref 0, .int a1, .int a2, .int a3], [], (X, w)) (F_C_obstacle X a1 a2 a3) := by
  show ab_Eg (ab_m2 ab_fI (X, w)) S 216 (0, [(0, .ref 0), (1, .int a1), (2, .int a2), (3, .int a3)], [], (X, w)) _
  unfold F_C_obstacle
  refine ab_e_go 3 (3, [(0, .ref 0), (1, .int a1), (2, .int a2), (3, .int a3)], [.int a2, .int a1, .ref 0], (X, w)) rfl ?_
  refine ab_e_c2 (k2 := 120) (as := [.ref 0, .int a1, .int a2]) (rest := []) rfl rfl rfl (T_C_requirePair S w X a1 a2) (fun _ => ?_) (fun _ _ h => by cases h; rfl)
  refine ab_e_go 2 (8, [(0, .ref 0), (1, .int a1), (2, .int a2), (3, .int a3)], [.int (nI 1), .int a3], (X, w)) rfl ?_
  refine ab_e_c2 (k2 := 50) (as := [.int a3, .int (nI 1)]) (rest := []) rfl rfl rfl (T_C_requirePart S w X a3 (nI 1)) (fun _ => ?_) (fun _ _ h => by cases h; rfl)
  refine ab_e_go 4 (17, [(0, .ref 0), (1, .int a1), (2, .int a2), (3, .int a3)], [.int a2, .int a1, .ref 1], (X, w)) rfl ?_
  refine ab_e_c1 (k2 := 195) (as := [.ref 1, .int a1, .int a2]) (rest := []) rfl rfl (T_U_obstacleToAward S w X a1 a2) (fun v353 => ?_)
  refine ab_e_go 2 (23, [(4, .int v353), (0, .ref 0), (1, .int a1), (2, .int a2), (3, .int a3)], [.int a3], (X, w)) rfl ?_
  refine ab_e_bn (c := a3 = nI 0) (34, [(4, .int v353), (0, .ref 0), (1, .int a1), (2, .int a2), (3, .int a3)], [], (X, w)) (26, [(4, .int v353), (0, .ref 0), (1, .int a1), (2, .int a2), (3, .int a3)], [], (X, w)) rfl (fun _ => ?_) (fun _ => ?_)
  · refine ab_e_go 1 (36, [(4, .int v353), (0, .ref 0), (1, .int a1), (2, .int a2), (3, .int a3)], [.int v353], (X, w)) rfl ?_
    refine ab_e_c1 (k2 := 29) (as := [.int v353]) (rest := []) rfl rfl (T_U_detailOf S w X v353) (fun v354 => ?_)
    exact ab_e_rt rfl rfl
  · refine ab_e_go 1 (28, [(4, .int v353), (0, .ref 0), (1, .int a1), (2, .int a2), (3, .int a3)], [.int v353], (X, w)) rfl ?_
    refine ab_e_c1 (k2 := 30) (as := [.int v353]) (rest := []) rfl rfl (T_U_numberOf S w X v353) (fun v355 => ?_)
    refine ab_e_go 1 (39, [(4, .int v353), (0, .ref 0), (1, .int a1), (2, .int a2), (3, .int a3)], [.int v355], (X, w)) rfl ?_
    exact ab_e_rt rfl rfl
def F_U_obstacleToExchange (X : ab_XX) (a1 : Int32) (a2 : Int32) (a3 : Int32) : Option Int32 :=
  (F_K_heldBy X a1).bind fun v358 =>
  (F_K_bit a2).bind fun v359 =>
  (F_U_firstObstacle X a1 a3 (v358 &&& (v359 ^^^ (-1 : Int32))) (nI 0)).bind fun v360 =>
  some v360
set_option maxRecDepth 4000 in
theorem T_U_obstacleToExchange (S : Nat × (Nat → Int32)) (w : ab_WW) (X : ab_XX) (a1 : Int32) (a2 : Int32) (a3 : Int32) : ab_Eg (ab_m1 ab_fI (X, w)) S 196 (0, lv_args 0 [.ref 1, .int a1, .int a2, .int a3], [], (X, w)) (F_U_obstacleToExchange X a1 a2 a3) := by
  show ab_Eg (ab_m1 ab_fI (X, w)) S 196 (0, [(0, .ref 1), (1, .int a1), (2, .int a2), (3, .int a3)], [], (X, w)) _
  unfold F_U_obstacleToExchange
  refine ab_e_go 6 (8, [(0, .ref 1), (1, .int a1), (2, .int a2), (3, .int a3)], [.int a1, .ref 2, .int a3, .int a1, .ref 1], (X, w)) rfl ?_
  refine ab_e_c1 (k2 := 66) (as := [.ref 2, .int a1]) (rest := [.int a3, .int a1, .ref 1]) rfl rfl (T_K_heldBy S w X a1) (fun v358 => ?_)
  refine ab_e_go 1 (12, [(0, .ref 1), (1, .int a1), (2, .int a2), (3, .int a3)], [.int a2, .int v358, .int a3, .int a1, .ref 1], (X, w)) rfl ?_
  refine ab_e_c1 (k2 := 13) (as := [.int a2]) (rest := [.int v358, .int a3, .int a1, .ref 1]) rfl rfl (T_K_bit S w X a2) (fun v359 => ?_)
  refine ab_e_go 4 (19, [(0, .ref 1), (1, .int a1), (2, .int a2), (3, .int a3)], [.int (nI 0), .int (v358 &&& (v359 ^^^ (-1 : Int32))), .int a3, .int a1, .ref 1], (X, w)) rfl ?_
  refine ab_e_c1 (k2 := 169) (as := [.ref 1, .int a1, .int a3, .int (v358 &&& (v359 ^^^ (-1 : Int32))), .int (nI 0)]) (rest := []) rfl rfl (T_U_firstObstacle S w X a1 a3 (v358 &&& (v359 ^^^ (-1 : Int32))) (nI 0)) (fun v360 => ?_)
  exact ab_e_rt rfl rfl
def F_C_isRefused (X : ab_XX) (a1 : Int32) (a2 : Int32) (a3 : Int32) : Option (Int32 × ab_XX) :=
  (F_U_obstacleToExchange X a1 a2 a3).bind fun v361 =>
  ab_b3 (F_R_set X v361 a1) (fun _ X362 =>
    if v361 = nI 0 then
      some (nI 0, X362)
    else
      some (nI 1, X362))
set_option maxRecDepth 4000 in
theorem T_C_isRefused (S : Nat × (Nat → Int32)) (w : ab_WW) (X : ab_XX) (a1 : Int32) (a2 : Int32) (a3 : Int32) : ab_Eg (ab_m3 ab_fI w) S 213 (0, lv_args 0 [.ref 0, .int a1, .int a2, .int a3], [], (X, w)) (F_C_isRefused X a1 a2 a3) := by
  show ab_Eg (ab_m3 ab_fI w) S 213 (0, [(0, .ref 0), (1, .int a1), (2, .int a2), (3, .int a3)], [], (X, w)) _
  unfold F_C_isRefused
  refine ab_e_go 5 (7, [(0, .ref 0), (1, .int a1), (2, .int a2), (3, .int a3)], [.int a3, .int a2, .int a1, .ref 1], (X, w)) rfl ?_
  refine ab_e_c1 (k2 := 196) (as := [.ref 1, .int a1, .int a2, .int a3]) (rest := []) rfl rfl (T_U_obstacleToExchange S w X a1 a2 a3) (fun v361 => ?_)
  refine ab_e_go 5 (19, [(4, .int v361), (0, .ref 0), (1, .int a1), (2, .int a2), (3, .int a3)], [.int a1, .int v361, .ref 10], (X, w)) rfl ?_
  refine ab_e_c3 (k2 := 75) (as := [.ref 10, .int v361, .int a1]) (rest := []) rfl rfl (T_R_set S w X v361 a1) (fun _ X362 => ?_)
  refine ab_e_go 1 (24, [(4, .int v361), (0, .ref 0), (1, .int a1), (2, .int a2), (3, .int a3)], [.int v361], (X362, w)) rfl ?_
  refine ab_e_br (c := v361 = nI 0) (31, [(4, .int v361), (0, .ref 0), (1, .int a1), (2, .int a2), (3, .int a3)], [], (X362, w)) (27, [(4, .int v361), (0, .ref 0), (1, .int a1), (2, .int a2), (3, .int a3)], [], (X362, w)) rfl (fun _ => ?_) (fun _ => ?_)
  · refine ab_e_go 1 (32, [(4, .int v361), (0, .ref 0), (1, .int a1), (2, .int a2), (3, .int a3)], [.int (nI 0)], (X362, w)) rfl ?_
    exact ab_e_rt rfl rfl
  · refine ab_e_go 2 (32, [(4, .int v361), (0, .ref 0), (1, .int a1), (2, .int a2), (3, .int a3)], [.int (nI 1)], (X362, w)) rfl ?_
    exact ab_e_rt rfl rfl
def F_K_reassign (X : ab_XX) (a1 : Int32) (a2 : Int32) : Option (Unit × ab_XX) :=
  (F_K_isAward X a1).bind fun v370 =>
  if v370 = nI 0 then
    some ((), X)
  else
    ab_b3 (F_K_put X (((nI 357) + (a1 * (nI 2))) + (nI 0)) a2) (fun _ X371 =>
      some ((), X371))
set_option maxRecDepth 4000 in
theorem T_K_reassign (S : Nat × (Nat → Int32)) (w : ab_WW) (X : ab_XX) (a1 : Int32) (a2 : Int32) : ab_Eg (ab_m3 ab_fU w) S 73 (0, lv_args 0 [.ref 2, .int a1, .int a2], [], (X, w)) (F_K_reassign X a1 a2) := by
  show ab_Eg (ab_m3 ab_fU w) S 73 (0, [(0, .ref 2), (1, .int a1), (2, .int a2)], [], (X, w)) _
  unfold F_K_reassign
  refine ab_e_go 2 (2, [(0, .ref 2), (1, .int a1), (2, .int a2)], [.int a1, .ref 2], (X, w)) rfl ?_
  refine ab_e_c1 (k2 := 16) (as := [.ref 2, .int a1]) (rest := []) rfl rfl (T_K_isAward S w X a1) (fun v370 => ?_)
  refine ab_e_br (c := v370 = nI 0) (22, [(0, .ref 2), (1, .int a1), (2, .int a2)], [], (X, w)) (8, [(0, .ref 2), (1, .int a1), (2, .int a2)], [], (X, w)) rfl (fun _ => ?_) (fun _ => ?_)
  · exact ab_e_rt rfl rfl
  · refine ab_e_go 9 (19, [(0, .ref 2), (1, .int a1), (2, .int a2)], [.int a2, .int (((nI 357) + (a1 * (nI 2))) + (nI 0)), .ref 2], (X, w)) rfl ?_
    refine ab_e_c3 (k2 := 23) (as := [.ref 2, .int (((nI 357) + (a1 * (nI 2))) + (nI 0)), .int a2]) (rest := []) rfl rfl (T_K_put S w X (((nI 357) + (a1 * (nI 2))) + (nI 0)) a2) (fun _ X371 => ?_)
    exact ab_e_rt rfl rfl
def F_C_exchange (X : ab_XX) (a1 : Int32) (a2 : Int32) (a3 : Int32) (a4 : Int32) : Option ((Unit ⊕ Nat) × ab_XX) :=
  ab_b2 (F_C_requirePair X a1 a2) (fun _ =>
    ab_b2 (F_C_requirePair X a3 a4) (fun _ =>
      if a1 = a3 then
        some (.inr 0, X)
      else
        (F_K_holds X a1 a2).bind fun v356 =>
        if v356 = nI 0 then
          some (.inr 4, X)
        else
          (F_K_holds X a3 a4).bind fun v357 =>
          if v357 = nI 0 then
            some (.inr 4, X)
          else
            ab_b3 (F_C_isRefused X a1 a2 a4) (fun v363 X364 =>
              if v363 = nI 0 then
                ab_b3 (F_C_isRefused X364 a3 a4 a2) (fun v365 X366 =>
                  if v365 = nI 0 then
                    ab_b3 (F_H_remember_3 X366) (fun _ X367 =>
                      (F_K_awardIndex X367 a1 a2).bind fun v368 =>
                      (F_K_awardIndex X367 a3 a4).bind fun v369 =>
                      ab_b3 (F_K_reassign X367 v368 a3) (fun _ X372 =>
                        ab_b3 (F_K_reassign X372 v369 a1) (fun _ X373 =>
                          some (.inl (), X373))))
                  else
                    some (.inr 3, X366))
              else
                some (.inr 3, X364))) (fun y => some (.inr y, X))) (fun y => some (.inr y, X))
set_option maxRecDepth 4000 in
theorem T_C_exchange (S : Nat × (Nat → Int32)) (w : ab_WW) (X : ab_XX) (a1 : Int32) (a2 : Int32) (a3 : Int32) (a4 : Int32) : ab_Eg (ab_m4 ab_fU w) S 221 (0, lv_args 0 [.ref 0, .int a1, .int a2, .int a3, .int a4], [], (X, w)) (F_C_exchange X a1 a2 a3 a4) := by
  show ab_Eg (ab_m4 ab_fU w) S 221 (0, [(0, .ref 0), (1, .int a1), (2, .int a2), (3, .int a3), (4, .int a4)], [], (X, w)) _
  unfold F_C_exchange
  refine ab_e_go 3 (3, [(0, .ref 0), (1, .int a1), (2, .int a2), (3, .int a3), (4, .int a4)], [.int a2, .int a1, .ref 0], (X, w)) rfl ?_
  refine ab_e_c2 (k2 := 120) (as := [.ref 0, .int a1, .int a2]) (rest := []) rfl rfl rfl (T_C_requirePair S w X a1 a2) (fun _ => ?_) (fun _ _ h => by cases h; rfl)
  refine ab_e_go 3 (10, [(0, .ref 0), (1, .int a1), (2, .int a2), (3, .int a3), (4, .int a4)], [.int a4, .int a3, .ref 0], (X, w)) rfl ?_
  refine ab_e_c2 (k2 := 120) (as := [.ref 0, .int a3, .int a4]) (rest := []) rfl rfl rfl (T_C_requirePair S w X a3 a4) (fun _ => ?_) (fun _ _ h => by cases h; rfl)
  refine ab_e_go 2 (15, [(0, .ref 0), (1, .int a1), (2, .int a2), (3, .int a3), (4, .int a4)], [.int a3, .int a1], (X, w)) rfl ?_
  refine ab_e_bn (c := a1 = a3) (29, [(0, .ref 0), (1, .int a1), (2, .int a2), (3, .int a3), (4, .int a4)], [], (X, w)) (18, [(0, .ref 0), (1, .int a1), (2, .int a2), (3, .int a3), (4, .int a4)], [], (X, w)) rfl (fun _ => ?_) (fun _ => ?_)
  · refine ab_e_go 4 (35, [(0, .ref 0), (1, .int a1), (2, .int a2), (3, .int a3), (4, .int a4)], [.int a2, .int a1, .ref 2], (X, w)) rfl ?_
    refine ab_e_c1 (k2 := 130) (as := [.ref 2, .int a1, .int a2]) (rest := []) rfl rfl (T_K_holds S w X a1 a2) (fun v356 => ?_)
    refine ab_e_br (c := v356 = nI 0) (54, [(0, .ref 0), (1, .int a1), (2, .int a2), (3, .int a3), (4, .int a4)], [], (X, w)) (41, [(0, .ref 0), (1, .int a1), (2, .int a2), (3, .int a3), (4, .int a4)], [], (X, w)) rfl (fun _ => ?_) (fun _ => ?_)
    · exact ab_e_rt rfl rfl
    · refine ab_e_go 4 (48, [(0, .ref 0), (1, .int a1), (2, .int a2), (3, .int a3), (4, .int a4)], [.int a4, .int a3, .ref 2], (X, w)) rfl ?_
      refine ab_e_c1 (k2 := 130) (as := [.ref 2, .int a3, .int a4]) (rest := []) rfl rfl (T_K_holds S w X a3 a4) (fun v357 => ?_)
      refine ab_e_bn (c := v357 = nI 0) (65, [(0, .ref 0), (1, .int a1), (2, .int a2), (3, .int a3), (4, .int a4)], [], (X, w)) (54, [(0, .ref 0), (1, .int a1), (2, .int a2), (3, .int a3), (4, .int a4)], [], (X, w)) rfl (fun _ => ?_) (fun _ => ?_)
      · refine ab_e_go 4 (70, [(0, .ref 0), (1, .int a1), (2, .int a2), (3, .int a3), (4, .int a4)], [.int a4, .int a2, .int a1, .ref 0], (X, w)) rfl ?_
        refine ab_e_c3 (k2 := 213) (as := [.ref 0, .int a1, .int a2, .int a4]) (rest := []) rfl rfl (T_C_isRefused S w X a1 a2 a4) (fun v363 X364 => ?_)
        refine ab_e_bn (c := v363 = nI 0) (87, [(0, .ref 0), (1, .int a1), (2, .int a2), (3, .int a3), (4, .int a4)], [], (X364, w)) (76, [(0, .ref 0), (1, .int a1), (2, .int a2), (3, .int a3), (4, .int a4)], [], (X364, w)) rfl (fun _ => ?_) (fun _ => ?_)
        · exact ab_e_rt rfl rfl
        · refine ab_e_go 4 (81, [(0, .ref 0), (1, .int a1), (2, .int a2), (3, .int a3), (4, .int a4)], [.int a2, .int a4, .int a3, .ref 0], (X364, w)) rfl ?_
          refine ab_e_c3 (k2 := 213) (as := [.ref 0, .int a3, .int a4, .int a2]) (rest := []) rfl rfl (T_C_isRefused S w X364 a3 a4 a2) (fun v365 X366 => ?_)
          refine ab_e_br (c := v365 = nI 0) (97, [(0, .ref 0), (1, .int a1), (2, .int a2), (3, .int a3), (4, .int a4)], [], (X366, w)) (87, [(0, .ref 0), (1, .int a1), (2, .int a2), (3, .int a3), (4, .int a4)], [], (X366, w)) rfl (fun _ => ?_) (fun _ => ?_)
          · refine ab_e_go 5 (108, [(0, .ref 0), (1, .int a1), (2, .int a2), (3, .int a3), (4, .int a4)], [.ref 3, .ref 4], (X366, w)) rfl ?_
            refine ab_e_c3 (k2 := 123) (as := [.ref 4, .ref 3]) (rest := []) rfl rfl (T_H_remember_3 S w X366) (fun _ X367 => ?_)
            refine ab_e_go 4 (117, [(0, .ref 0), (1, .int a1), (2, .int a2), (3, .int a3), (4, .int a4)], [.int a2, .int a1, .ref 2], (X367, w)) rfl ?_
            refine ab_e_c1 (k2 := 57) (as := [.ref 2, .int a1, .int a2]) (rest := []) rfl rfl (T_K_awardIndex S w X367 a1 a2) (fun v368 => ?_)
            refine ab_e_go 5 (129, [(5, .int v368), (0, .ref 0), (1, .int a1), (2, .int a2), (3, .int a3), (4, .int a4)], [.int a4, .int a3, .ref 2], (X367, w)) rfl ?_
            refine ab_e_c1 (k2 := 57) (as := [.ref 2, .int a3, .int a4]) (rest := []) rfl rfl (T_K_awardIndex S w X367 a3 a4) (fun v369 => ?_)
            refine ab_e_go 5 (141, [(6, .int v369), (5, .int v368), (0, .ref 0), (1, .int a1), (2, .int a2), (3, .int a3), (4, .int a4)], [.int a3, .int v368, .ref 2], (X367, w)) rfl ?_
            refine ab_e_c3 (k2 := 73) (as := [.ref 2, .int v368, .int a3]) (rest := []) rfl rfl (T_K_reassign S w X367 v368 a3) (fun _ X372 => ?_)
            refine ab_e_go 4 (151, [(6, .int v369), (5, .int v368), (0, .ref 0), (1, .int a1), (2, .int a2), (3, .int a3), (4, .int a4)], [.int a1, .int v369, .ref 2], (X372, w)) rfl ?_
            refine ab_e_c3 (k2 := 73) (as := [.ref 2, .int v369, .int a1]) (rest := []) rfl rfl (T_K_reassign S w X372 v369 a1) (fun _ X373 => ?_)
            exact ab_e_rt rfl rfl
          · exact ab_e_rt rfl rfl
      · exact ab_e_rt rfl rfl
  · exact ab_e_rt rfl rfl
def L_U_findPartner_37 (X : ab_XX) (K22 : Int32 → Int32 → Int32 → Int32 → Int32 → Option Int32) : Nat → Int32 → Int32 → Int32 → Int32 → Int32 → Int32 → Option Int32
  | 0, _, _, _, _, _, _ => none
  | n + 1, a1, a2, a3, a4, a5, a6 =>
    (F_K_shiftTotal X).bind fun v377 =>
    if v377 ≤ a6 then
      K22 a1 a2 a3 a4 (a5 + (nI 1))
    else
      if a5 = a1 then
        L_U_findPartner_37 X K22 n a1 a2 a3 a4 a5 (a6 + (nI 1))
      else
        (F_K_isIn a5 a4).bind fun v378 =>
        if v378 = nI 0 then
          L_U_findPartner_37 X K22 n a1 a2 a3 a4 a5 (a6 + (nI 1))
        else
          (F_K_isIn a6 a3).bind fun v379 =>
          if v379 = nI 0 then
            L_U_findPartner_37 X K22 n a1 a2 a3 a4 a5 (a6 + (nI 1))
          else
            (F_U_obstacleToExchange X a1 a6 a2).bind fun v380 =>
            if v380 = nI 0 then
              (F_U_obstacleToExchange X a5 a2 a6).bind fun v381 =>
              if v381 = nI 0 then
                some ((a5 * (nI 16)) + a6)
              else
                L_U_findPartner_37 X K22 n a1 a2 a3 a4 a5 (a6 + (nI 1))
            else
              L_U_findPartner_37 X K22 n a1 a2 a3 a4 a5 (a6 + (nI 1))
set_option maxRecDepth 4000 in
theorem T_L_U_findPartner_37 (S : Nat × (Nat → Int32)) (w : ab_WW) (X : ab_XX) (K22 : Int32 → Int32 → Int32 → Int32 → Int32 → Option Int32) (hK22 : ∀ (a1 : Int32) (a2 : Int32) (a3 : Int32) (a4 : Int32) (a5 : Int32), ab_Eg (ab_m1 ab_fI (X, w)) S 217 (22, [(0, .ref 1), (1, .int a1), (2, .int a2), (3, .int a3), (4, .int a4), (5, .int a5)], [], (X, w)) (K22 a1 a2 a3 a4 a5)) : ∀ (n : Nat) (a1 : Int32) (a2 : Int32) (a3 : Int32) (a4 : Int32) (a5 : Int32) (a6 : Int32), ab_Eg (ab_m1 ab_fI (X, w)) S 217 (37, [(0, .ref 1), (1, .int a1), (2, .int a2), (3, .int a3), (4, .int a4), (5, .int a5), (6, .int a6)], [], (X, w)) (L_U_findPartner_37 X K22 n a1 a2 a3 a4 a5 a6) := by
  intro n
  induction n with
  | zero => intro a1 a2 a3 a4 a5 a6; exact ab_e_none
  | succ n ih =>
    intro a1 a2 a3 a4 a5 a6
    unfold L_U_findPartner_37
    refine ab_e_go 3 (43, [(0, .ref 1), (1, .int a1), (2, .int a2), (3, .int a3), (4, .int a4), (5, .int a5), (6, .int a6)], [.ref 2, .int a6], (X, w)) rfl ?_
    refine ab_e_c1 (k2 := 25) (as := [.ref 2]) (rest := [.int a6]) rfl rfl (T_K_shiftTotal S w X) (fun v377 => ?_)
    refine ab_e_br (c := v377 ≤ a6) (112, [(0, .ref 1), (1, .int a1), (2, .int a2), (3, .int a3), (4, .int a4), (5, .int a5), (6, .int a6)], [], (X, w)) (49, [(0, .ref 1), (1, .int a1), (2, .int a2), (3, .int a3), (4, .int a4), (5, .int a5), (6, .int a6)], [], (X, w)) rfl (fun _ => ?_) (fun _ => ?_)
    · refine ab_e_go 2 (22, [(5, .int (a5 + (nI 1))), (0, .ref 1), (1, .int a1), (2, .int a2), (3, .int a3), (4, .int a4), (6, .int a6)], [], (X, w)) rfl ?_
      refine ab_e_wk [(0, .ref 1), (1, .int a1), (2, .int a2), (3, .int a3), (4, .int a4), (5, .int (a5 + (nI 1)))] ⟨rfl, rfl, rfl, rfl, rfl, rfl, trivial⟩ ?_
      exact hK22 a1 a2 a3 a4 (a5 + (nI 1))
    · refine ab_e_go 2 (52, [(0, .ref 1), (1, .int a1), (2, .int a2), (3, .int a3), (4, .int a4), (5, .int a5), (6, .int a6)], [.int a1, .int a5], (X, w)) rfl ?_
      refine ab_e_br (c := a5 = a1) (106, [(0, .ref 1), (1, .int a1), (2, .int a2), (3, .int a3), (4, .int a4), (5, .int a5), (6, .int a6)], [], (X, w)) (55, [(0, .ref 1), (1, .int a1), (2, .int a2), (3, .int a3), (4, .int a4), (5, .int a5), (6, .int a6)], [], (X, w)) rfl (fun _ => ?_) (fun _ => ?_)
      · refine ab_e_go 2 (37, [(6, .int (a6 + (nI 1))), (0, .ref 1), (1, .int a1), (2, .int a2), (3, .int a3), (4, .int a4), (5, .int a5)], [], (X, w)) rfl ?_
        refine ab_e_wk [(0, .ref 1), (1, .int a1), (2, .int a2), (3, .int a3), (4, .int a4), (5, .int a5), (6, .int (a6 + (nI 1)))] ⟨rfl, rfl, rfl, rfl, rfl, rfl, rfl, trivial⟩ ?_
        exact ih a1 a2 a3 a4 a5 (a6 + (nI 1))
      · refine ab_e_go 2 (59, [(0, .ref 1), (1, .int a1), (2, .int a2), (3, .int a3), (4, .int a4), (5, .int a5), (6, .int a6)], [.int a4, .int a5], (X, w)) rfl ?_
        refine ab_e_c1 (k2 := 17) (as := [.int a5, .int a4]) (rest := []) rfl rfl (T_K_isIn S w X a5 a4) (fun v378 => ?_)
        refine ab_e_br (c := v378 = nI 0) (106, [(0, .ref 1), (1, .int a1), (2, .int a2), (3, .int a3), (4, .int a4), (5, .int a5), (6, .int a6)], [], (X, w)) (65, [(0, .ref 1), (1, .int a1), (2, .int a2), (3, .int a3), (4, .int a4), (5, .int a5), (6, .int a6)], [], (X, w)) rfl (fun _ => ?_) (fun _ => ?_)
        · refine ab_e_go 2 (37, [(6, .int (a6 + (nI 1))), (0, .ref 1), (1, .int a1), (2, .int a2), (3, .int a3), (4, .int a4), (5, .int a5)], [], (X, w)) rfl ?_
          refine ab_e_wk [(0, .ref 1), (1, .int a1), (2, .int a2), (3, .int a3), (4, .int a4), (5, .int a5), (6, .int (a6 + (nI 1)))] ⟨rfl, rfl, rfl, rfl, rfl, rfl, rfl, trivial⟩ ?_
          exact ih a1 a2 a3 a4 a5 (a6 + (nI 1))
        · refine ab_e_go 2 (68, [(0, .ref 1), (1, .int a1), (2, .int a2), (3, .int a3), (4, .int a4), (5, .int a5), (6, .int a6)], [.int a3, .int a6], (X, w)) rfl ?_
          refine ab_e_c1 (k2 := 17) (as := [.int a6, .int a3]) (rest := []) rfl rfl (T_K_isIn S w X a6 a3) (fun v379 => ?_)
          refine ab_e_br (c := v379 = nI 0) (106, [(0, .ref 1), (1, .int a1), (2, .int a2), (3, .int a3), (4, .int a4), (5, .int a5), (6, .int a6)], [], (X, w)) (74, [(0, .ref 1), (1, .int a1), (2, .int a2), (3, .int a3), (4, .int a4), (5, .int a5), (6, .int a6)], [], (X, w)) rfl (fun _ => ?_) (fun _ => ?_)
          · refine ab_e_go 2 (37, [(6, .int (a6 + (nI 1))), (0, .ref 1), (1, .int a1), (2, .int a2), (3, .int a3), (4, .int a4), (5, .int a5)], [], (X, w)) rfl ?_
            refine ab_e_wk [(0, .ref 1), (1, .int a1), (2, .int a2), (3, .int a3), (4, .int a4), (5, .int a5), (6, .int (a6 + (nI 1)))] ⟨rfl, rfl, rfl, rfl, rfl, rfl, rfl, trivial⟩ ?_
            exact ih a1 a2 a3 a4 a5 (a6 + (nI 1))
          · refine ab_e_go 4 (79, [(0, .ref 1), (1, .int a1), (2, .int a2), (3, .int a3), (4, .int a4), (5, .int a5), (6, .int a6)], [.int a2, .int a6, .int a1, .ref 1], (X, w)) rfl ?_
            refine ab_e_c1 (k2 := 196) (as := [.ref 1, .int a1, .int a6, .int a2]) (rest := []) rfl rfl (T_U_obstacleToExchange S w X a1 a6 a2) (fun v380 => ?_)
            refine ab_e_bn (c := v380 = nI 0) (106, [(0, .ref 1), (1, .int a1), (2, .int a2), (3, .int a3), (4, .int a4), (5, .int a5), (6, .int a6)], [], (X, w)) (85, [(0, .ref 1), (1, .int a1), (2, .int a2), (3, .int a3), (4, .int a4), (5, .int a5), (6, .int a6)], [], (X, w)) rfl (fun _ => ?_) (fun _ => ?_)
            · refine ab_e_go 2 (37, [(6, .int (a6 + (nI 1))), (0, .ref 1), (1, .int a1), (2, .int a2), (3, .int a3), (4, .int a4), (5, .int a5)], [], (X, w)) rfl ?_
              refine ab_e_wk [(0, .ref 1), (1, .int a1), (2, .int a2), (3, .int a3), (4, .int a4), (5, .int a5), (6, .int (a6 + (nI 1)))] ⟨rfl, rfl, rfl, rfl, rfl, rfl, rfl, trivial⟩ ?_
              exact ih a1 a2 a3 a4 a5 (a6 + (nI 1))
            · refine ab_e_go 4 (91, [(0, .ref 1), (1, .int a1), (2, .int a2), (3, .int a3), (4, .int a4), (5, .int a5), (6, .int a6)], [.int a6, .int a2, .int a5, .ref 1], (X, w)) rfl ?_
              refine ab_e_c1 (k2 := 196) (as := [.ref 1, .int a5, .int a2, .int a6]) (rest := []) rfl rfl (T_U_obstacleToExchange S w X a5 a2 a6) (fun v381 => ?_)
              refine ab_e_bn (c := v381 = nI 0) (106, [(0, .ref 1), (1, .int a1), (2, .int a2), (3, .int a3), (4, .int a4), (5, .int a5), (6, .int a6)], [], (X, w)) (97, [(0, .ref 1), (1, .int a1), (2, .int a2), (3, .int a3), (4, .int a4), (5, .int a5), (6, .int a6)], [], (X, w)) rfl (fun _ => ?_) (fun _ => ?_)
              · refine ab_e_go 2 (37, [(6, .int (a6 + (nI 1))), (0, .ref 1), (1, .int a1), (2, .int a2), (3, .int a3), (4, .int a4), (5, .int a5)], [], (X, w)) rfl ?_
                refine ab_e_wk [(0, .ref 1), (1, .int a1), (2, .int a2), (3, .int a3), (4, .int a4), (5, .int a5), (6, .int (a6 + (nI 1)))] ⟨rfl, rfl, rfl, rfl, rfl, rfl, rfl, trivial⟩ ?_
                exact ih a1 a2 a3 a4 a5 (a6 + (nI 1))
              · refine ab_e_go 5 (105, [(0, .ref 1), (1, .int a1), (2, .int a2), (3, .int a3), (4, .int a4), (5, .int a5), (6, .int a6)], [.int ((a5 * (nI 16)) + a6)], (X, w)) rfl ?_
                exact ab_e_rt rfl rfl
def L_U_findPartner_22 (X : ab_XX) : Nat → Int32 → Int32 → Int32 → Int32 → Int32 → Option Int32
  | 0, _, _, _, _, _ => none
  | n + 1, a1, a2, a3, a4, a5 =>
    (F_K_workerTotal X).bind fun v376 =>
    if v376 ≤ a5 then
      some (-1 : Int32)
    else
      L_U_findPartner_37 X (fun b1 b2 b3 b4 b5 => L_U_findPartner_22 X n b1 b2 b3 b4 b5) ab_fu a1 a2 a3 a4 a5 (nI 0)
set_option maxRecDepth 4000 in
theorem T_L_U_findPartner_22 (S : Nat × (Nat → Int32)) (w : ab_WW) (X : ab_XX) : ∀ (n : Nat) (a1 : Int32) (a2 : Int32) (a3 : Int32) (a4 : Int32) (a5 : Int32), ab_Eg (ab_m1 ab_fI (X, w)) S 217 (22, [(0, .ref 1), (1, .int a1), (2, .int a2), (3, .int a3), (4, .int a4), (5, .int a5)], [], (X, w)) (L_U_findPartner_22 X n a1 a2 a3 a4 a5) := by
  intro n
  induction n with
  | zero => intro a1 a2 a3 a4 a5; exact ab_e_none
  | succ n ih =>
    intro a1 a2 a3 a4 a5
    unfold L_U_findPartner_22
    refine ab_e_go 3 (28, [(0, .ref 1), (1, .int a1), (2, .int a2), (3, .int a3), (4, .int a4), (5, .int a5)], [.ref 2, .int a5], (X, w)) rfl ?_
    refine ab_e_c1 (k2 := 27) (as := [.ref 2]) (rest := [.int a5]) rfl rfl (T_K_workerTotal S w X) (fun v376 => ?_)
    refine ab_e_br (c := v376 ≤ a5) (118, [(0, .ref 1), (1, .int a1), (2, .int a2), (3, .int a3), (4, .int a4), (5, .int a5)], [], (X, w)) (34, [(0, .ref 1), (1, .int a1), (2, .int a2), (3, .int a3), (4, .int a4), (5, .int a5)], [], (X, w)) rfl (fun _ => ?_) (fun _ => ?_)
    · refine ab_e_go 1 (119, [(0, .ref 1), (1, .int a1), (2, .int a2), (3, .int a3), (4, .int a4), (5, .int a5)], [.int (-1 : Int32)], (X, w)) rfl ?_
      exact ab_e_rt rfl rfl
    · refine ab_e_go 2 (37, [(6, .int (nI 0)), (0, .ref 1), (1, .int a1), (2, .int a2), (3, .int a3), (4, .int a4), (5, .int a5)], [], (X, w)) rfl ?_
      refine ab_e_wk [(0, .ref 1), (1, .int a1), (2, .int a2), (3, .int a3), (4, .int a4), (5, .int a5), (6, .int (nI 0))] ⟨rfl, rfl, rfl, rfl, rfl, rfl, rfl, trivial⟩ ?_
      exact T_L_U_findPartner_37 S w X _ (fun b1 b2 b3 b4 b5 => ih b1 b2 b3 b4 b5) ab_fu a1 a2 a3 a4 a5 (nI 0)
def F_U_findPartner (X : ab_XX) (a1 : Int32) (a2 : Int32) : Option Int32 :=
  (F_K_heldBy X a1).bind fun v374 =>
  (F_K_holdersOf X a2).bind fun v375 =>
  L_U_findPartner_22 X ab_fu a1 a2 v374 v375 (nI 0)
set_option maxRecDepth 4000 in
theorem T_U_findPartner (S : Nat × (Nat → Int32)) (w : ab_WW) (X : ab_XX) (a1 : Int32) (a2 : Int32) : ab_Eg (ab_m1 ab_fI (X, w)) S 217 (0, lv_args 0 [.ref 1, .int a1, .int a2], [], (X, w)) (F_U_findPartner X a1 a2) := by
  show ab_Eg (ab_m1 ab_fI (X, w)) S 217 (0, [(0, .ref 1), (1, .int a1), (2, .int a2)], [], (X, w)) _
  unfold F_U_findPartner
  refine ab_e_go 3 (5, [(0, .ref 1), (1, .int a1), (2, .int a2)], [.int a1, .ref 2], (X, w)) rfl ?_
  refine ab_e_c1 (k2 := 66) (as := [.ref 2, .int a1]) (rest := []) rfl rfl (T_K_heldBy S w X a1) (fun v374 => ?_)
  refine ab_e_go 4 (14, [(3, .int v374), (0, .ref 1), (1, .int a1), (2, .int a2)], [.int a2, .ref 2], (X, w)) rfl ?_
  refine ab_e_c1 (k2 := 67) (as := [.ref 2, .int a2]) (rest := []) rfl rfl (T_K_holdersOf S w X a2) (fun v375 => ?_)
  refine ab_e_go 3 (22, [(5, .int (nI 0)), (4, .int v375), (3, .int v374), (0, .ref 1), (1, .int a1), (2, .int a2)], [], (X, w)) rfl ?_
  refine ab_e_wk [(0, .ref 1), (1, .int a1), (2, .int a2), (3, .int v374), (4, .int v375), (5, .int (nI 0))] ⟨rfl, rfl, rfl, rfl, rfl, rfl, trivial⟩ ?_
  exact T_L_U_findPartner_22 S w X ab_fu a1 a2 v374 v375 (nI 0)
def F_C_partner (X : ab_XX) (a1 : Int32) (a2 : Int32) (a3 : Int32) : Option (Int32 ⊕ Nat) :=
  ab_b2 (F_C_requirePair X a1 a2) (fun _ =>
    ab_b2 (F_C_requirePart a3 (nI 1)) (fun _ =>
      (F_U_findPartner X a1 a2).bind fun v382 =>
      if v382 = (-1 : Int32) then
        some (.inr 4)
      else
        if a3 = nI 0 then
          some (.inl (v382 / (nI 16)))
        else
          some (.inl (v382 - v382 / (nI 16) * (nI 16)))) (fun y => some (.inr y))) (fun y => some (.inr y))
set_option maxRecDepth 4000 in
theorem T_C_partner (S : Nat × (Nat → Int32)) (w : ab_WW) (X : ab_XX) (a1 : Int32) (a2 : Int32) (a3 : Int32) : ab_Eg (ab_m2 ab_fI (X, w)) S 222 (0, lv_args 0 [.ref 0, .int a1, .int a2, .int a3], [], (X, w)) (F_C_partner X a1 a2 a3) := by
  show ab_Eg (ab_m2 ab_fI (X, w)) S 222 (0, [(0, .ref 0), (1, .int a1), (2, .int a2), (3, .int a3)], [], (X, w)) _
  unfold F_C_partner
  refine ab_e_go 3 (3, [(0, .ref 0), (1, .int a1), (2, .int a2), (3, .int a3)], [.int a2, .int a1, .ref 0], (X, w)) rfl ?_
  refine ab_e_c2 (k2 := 120) (as := [.ref 0, .int a1, .int a2]) (rest := []) rfl rfl rfl (T_C_requirePair S w X a1 a2) (fun _ => ?_) (fun _ _ h => by cases h; rfl)
  refine ab_e_go 2 (8, [(0, .ref 0), (1, .int a1), (2, .int a2), (3, .int a3)], [.int (nI 1), .int a3], (X, w)) rfl ?_
  refine ab_e_c2 (k2 := 50) (as := [.int a3, .int (nI 1)]) (rest := []) rfl rfl rfl (T_C_requirePart S w X a3 (nI 1)) (fun _ => ?_) (fun _ _ h => by cases h; rfl)
  refine ab_e_go 4 (17, [(0, .ref 0), (1, .int a1), (2, .int a2), (3, .int a3)], [.int a2, .int a1, .ref 1], (X, w)) rfl ?_
  refine ab_e_c1 (k2 := 217) (as := [.ref 1, .int a1, .int a2]) (rest := []) rfl rfl (T_U_findPartner S w X a1 a2) (fun v382 => ?_)
  refine ab_e_go 3 (25, [(4, .int v382), (0, .ref 0), (1, .int a1), (2, .int a2), (3, .int a3)], [.int (-1 : Int32), .int v382], (X, w)) rfl ?_
  refine ab_e_bn (c := v382 = (-1 : Int32)) (39, [(4, .int v382), (0, .ref 0), (1, .int a1), (2, .int a2), (3, .int a3)], [], (X, w)) (28, [(4, .int v382), (0, .ref 0), (1, .int a1), (2, .int a2), (3, .int a3)], [], (X, w)) rfl (fun _ => ?_) (fun _ => ?_)
  · refine ab_e_go 1 (40, [(4, .int v382), (0, .ref 0), (1, .int a1), (2, .int a2), (3, .int a3)], [.int a3], (X, w)) rfl ?_
    refine ab_e_bn (c := a3 = nI 0) (51, [(4, .int v382), (0, .ref 0), (1, .int a1), (2, .int a2), (3, .int a3)], [], (X, w)) (43, [(4, .int v382), (0, .ref 0), (1, .int a1), (2, .int a2), (3, .int a3)], [], (X, w)) rfl (fun _ => ?_) (fun _ => ?_)
    · refine ab_e_go 3 (56, [(4, .int v382), (0, .ref 0), (1, .int a1), (2, .int a2), (3, .int a3)], [.int (v382 - v382 / (nI 16) * (nI 16))], (X, w)) rfl ?_
      exact ab_e_rt rfl rfl
    · refine ab_e_go 4 (56, [(4, .int v382), (0, .ref 0), (1, .int a1), (2, .int a2), (3, .int a3)], [.int (v382 / (nI 16))], (X, w)) rfl ?_
      exact ab_e_rt rfl rfl
  · exact ab_e_rt rfl rfl
def F_C_rotate (X : ab_XX) (a1 : Int32) (a2 : Int32) (a3 : Int32) (a4 : Int32) (a5 : Int32) (a6 : Int32) : Option ((Unit ⊕ Nat) × ab_XX) :=
  ab_b2 (F_C_requirePair X a1 a2) (fun _ =>
    ab_b2 (F_C_requirePair X a3 a4) (fun _ =>
      ab_b2 (F_C_requirePair X a5 a6) (fun _ =>
        if a1 = a3 then
          some (.inr 0, X)
        else
          if a3 = a5 then
            some (.inr 0, X)
          else
            if a5 = a1 then
              some (.inr 0, X)
            else
              (F_K_holds X a1 a2).bind fun v383 =>
              if v383 = nI 0 then
                some (.inr 4, X)
              else
                (F_K_holds X a3 a4).bind fun v384 =>
                if v384 = nI 0 then
                  some (.inr 4, X)
                else
                  (F_K_holds X a5 a6).bind fun v385 =>
                  if v385 = nI 0 then
                    some (.inr 4, X)
                  else
                    ab_b3 (F_C_isRefused X a1 a2 a6) (fun v386 X387 =>
                      if v386 = nI 0 then
                        ab_b3 (F_C_isRefused X387 a3 a4 a2) (fun v388 X389 =>
                          if v388 = nI 0 then
                            ab_b3 (F_C_isRefused X389 a5 a6 a4) (fun v390 X391 =>
                              if v390 = nI 0 then
                                ab_b3 (F_H_remember_3 X391) (fun _ X392 =>
                                  (F_K_awardIndex X392 a1 a2).bind fun v393 =>
                                  (F_K_awardIndex X392 a3 a4).bind fun v394 =>
                                  (F_K_awardIndex X392 a5 a6).bind fun v395 =>
                                  ab_b3 (F_K_reassign X392 v393 a3) (fun _ X396 =>
                                    ab_b3 (F_K_reassign X396 v394 a5) (fun _ X397 =>
                                      ab_b3 (F_K_reassign X397 v395 a1) (fun _ X398 =>
                                        some (.inl (), X398)))))
                              else
                                some (.inr 3, X391))
                          else
                            some (.inr 3, X389))
                      else
                        some (.inr 3, X387))) (fun y => some (.inr y, X))) (fun y => some (.inr y, X))) (fun y => some (.inr y, X))
set_option maxRecDepth 4000 in
theorem T_C_rotate (S : Nat × (Nat → Int32)) (w : ab_WW) (X : ab_XX) (a1 : Int32) (a2 : Int32) (a3 : Int32) (a4 : Int32) (a5 : Int32) (a6 : Int32) : ab_Eg (ab_m4 ab_fU w) S 223 (0, lv_args 0 [.ref 0, .int a1, .int a2, .int a3, .int a4, .int a5, .int a6], [], (X, w)) (F_C_rotate X a1 a2 a3 a4 a5 a6) := by
  show ab_Eg (ab_m4 ab_fU w) S 223 (0, [(0, .ref 0), (1, .int a1), (2, .int a2), (3, .int a3), (4, .int a4), (5, .int a5), (6, .int a6)], [], (X, w)) _
  unfold F_C_rotate
  refine ab_e_go 3 (3, [(0, .ref 0), (1, .int a1), (2, .int a2), (3, .int a3), (4, .int a4), (5, .int a5), (6, .int a6)], [.int a2, .int a1, .ref 0], (X, w)) rfl ?_
  refine ab_e_c2 (k2 := 120) (as := [.ref 0, .int a1, .int a2]) (rest := []) rfl rfl rfl (T_C_requirePair S w X a1 a2) (fun _ => ?_) (fun _ _ h => by cases h; rfl)
  refine ab_e_go 3 (10, [(0, .ref 0), (1, .int a1), (2, .int a2), (3, .int a3), (4, .int a4), (5, .int a5), (6, .int a6)], [.int a4, .int a3, .ref 0], (X, w)) rfl ?_
  refine ab_e_c2 (k2 := 120) (as := [.ref 0, .int a3, .int a4]) (rest := []) rfl rfl rfl (T_C_requirePair S w X a3 a4) (fun _ => ?_) (fun _ _ h => by cases h; rfl)
  refine ab_e_go 3 (18, [(0, .ref 0), (1, .int a1), (2, .int a2), (3, .int a3), (4, .int a4), (5, .int a5), (6, .int a6)], [.int a6, .int a5, .ref 0], (X, w)) rfl ?_
  refine ab_e_c2 (k2 := 120) (as := [.ref 0, .int a5, .int a6]) (rest := []) rfl rfl rfl (T_C_requirePair S w X a5 a6) (fun _ => ?_) (fun _ _ h => by cases h; rfl)
  refine ab_e_go 2 (23, [(0, .ref 0), (1, .int a1), (2, .int a2), (3, .int a3), (4, .int a4), (5, .int a5), (6, .int a6)], [.int a3, .int a1], (X, w)) rfl ?_
  refine ab_e_br (c := a1 = a3) (38, [(0, .ref 0), (1, .int a1), (2, .int a2), (3, .int a3), (4, .int a4), (5, .int a5), (6, .int a6)], [], (X, w)) (26, [(0, .ref 0), (1, .int a1), (2, .int a2), (3, .int a3), (4, .int a4), (5, .int a5), (6, .int a6)], [], (X, w)) rfl (fun _ => ?_) (fun _ => ?_)
  · exact ab_e_rt rfl rfl
  · refine ab_e_go 2 (29, [(0, .ref 0), (1, .int a1), (2, .int a2), (3, .int a3), (4, .int a4), (5, .int a5), (6, .int a6)], [.int a5, .int a3], (X, w)) rfl ?_
    refine ab_e_br (c := a3 = a5) (38, [(0, .ref 0), (1, .int a1), (2, .int a2), (3, .int a3), (4, .int a4), (5, .int a5), (6, .int a6)], [], (X, w)) (32, [(0, .ref 0), (1, .int a1), (2, .int a2), (3, .int a3), (4, .int a4), (5, .int a5), (6, .int a6)], [], (X, w)) rfl (fun _ => ?_) (fun _ => ?_)
    · exact ab_e_rt rfl rfl
    · refine ab_e_go 2 (35, [(0, .ref 0), (1, .int a1), (2, .int a2), (3, .int a3), (4, .int a4), (5, .int a5), (6, .int a6)], [.int a1, .int a5], (X, w)) rfl ?_
      refine ab_e_bn (c := a5 = a1) (49, [(0, .ref 0), (1, .int a1), (2, .int a2), (3, .int a3), (4, .int a4), (5, .int a5), (6, .int a6)], [], (X, w)) (38, [(0, .ref 0), (1, .int a1), (2, .int a2), (3, .int a3), (4, .int a4), (5, .int a5), (6, .int a6)], [], (X, w)) rfl (fun _ => ?_) (fun _ => ?_)
      · refine ab_e_go 4 (55, [(0, .ref 0), (1, .int a1), (2, .int a2), (3, .int a3), (4, .int a4), (5, .int a5), (6, .int a6)], [.int a2, .int a1, .ref 2], (X, w)) rfl ?_
        refine ab_e_c1 (k2 := 130) (as := [.ref 2, .int a1, .int a2]) (rest := []) rfl rfl (T_K_holds S w X a1 a2) (fun v383 => ?_)
        refine ab_e_br (c := v383 = nI 0) (88, [(0, .ref 0), (1, .int a1), (2, .int a2), (3, .int a3), (4, .int a4), (5, .int a5), (6, .int a6)], [], (X, w)) (61, [(0, .ref 0), (1, .int a1), (2, .int a2), (3, .int a3), (4, .int a4), (5, .int a5), (6, .int a6)], [], (X, w)) rfl (fun _ => ?_) (fun _ => ?_)
        · exact ab_e_rt rfl rfl
        · refine ab_e_go 4 (68, [(0, .ref 0), (1, .int a1), (2, .int a2), (3, .int a3), (4, .int a4), (5, .int a5), (6, .int a6)], [.int a4, .int a3, .ref 2], (X, w)) rfl ?_
          refine ab_e_c1 (k2 := 130) (as := [.ref 2, .int a3, .int a4]) (rest := []) rfl rfl (T_K_holds S w X a3 a4) (fun v384 => ?_)
          refine ab_e_br (c := v384 = nI 0) (88, [(0, .ref 0), (1, .int a1), (2, .int a2), (3, .int a3), (4, .int a4), (5, .int a5), (6, .int a6)], [], (X, w)) (74, [(0, .ref 0), (1, .int a1), (2, .int a2), (3, .int a3), (4, .int a4), (5, .int a5), (6, .int a6)], [], (X, w)) rfl (fun _ => ?_) (fun _ => ?_)
          · exact ab_e_rt rfl rfl
          · refine ab_e_go 4 (82, [(0, .ref 0), (1, .int a1), (2, .int a2), (3, .int a3), (4, .int a4), (5, .int a5), (6, .int a6)], [.int a6, .int a5, .ref 2], (X, w)) rfl ?_
            refine ab_e_c1 (k2 := 130) (as := [.ref 2, .int a5, .int a6]) (rest := []) rfl rfl (T_K_holds S w X a5 a6) (fun v385 => ?_)
            refine ab_e_bn (c := v385 = nI 0) (99, [(0, .ref 0), (1, .int a1), (2, .int a2), (3, .int a3), (4, .int a4), (5, .int a5), (6, .int a6)], [], (X, w)) (88, [(0, .ref 0), (1, .int a1), (2, .int a2), (3, .int a3), (4, .int a4), (5, .int a5), (6, .int a6)], [], (X, w)) rfl (fun _ => ?_) (fun _ => ?_)
            · refine ab_e_go 4 (104, [(0, .ref 0), (1, .int a1), (2, .int a2), (3, .int a3), (4, .int a4), (5, .int a5), (6, .int a6)], [.int a6, .int a2, .int a1, .ref 0], (X, w)) rfl ?_
              refine ab_e_c3 (k2 := 213) (as := [.ref 0, .int a1, .int a2, .int a6]) (rest := []) rfl rfl (T_C_isRefused S w X a1 a2 a6) (fun v386 X387 => ?_)
              refine ab_e_bn (c := v386 = nI 0) (134, [(0, .ref 0), (1, .int a1), (2, .int a2), (3, .int a3), (4, .int a4), (5, .int a5), (6, .int a6)], [], (X387, w)) (110, [(0, .ref 0), (1, .int a1), (2, .int a2), (3, .int a3), (4, .int a4), (5, .int a5), (6, .int a6)], [], (X387, w)) rfl (fun _ => ?_) (fun _ => ?_)
              · exact ab_e_rt rfl rfl
              · refine ab_e_go 4 (115, [(0, .ref 0), (1, .int a1), (2, .int a2), (3, .int a3), (4, .int a4), (5, .int a5), (6, .int a6)], [.int a2, .int a4, .int a3, .ref 0], (X387, w)) rfl ?_
                refine ab_e_c3 (k2 := 213) (as := [.ref 0, .int a3, .int a4, .int a2]) (rest := []) rfl rfl (T_C_isRefused S w X387 a3 a4 a2) (fun v388 X389 => ?_)
                refine ab_e_bn (c := v388 = nI 0) (134, [(0, .ref 0), (1, .int a1), (2, .int a2), (3, .int a3), (4, .int a4), (5, .int a5), (6, .int a6)], [], (X389, w)) (121, [(0, .ref 0), (1, .int a1), (2, .int a2), (3, .int a3), (4, .int a4), (5, .int a5), (6, .int a6)], [], (X389, w)) rfl (fun _ => ?_) (fun _ => ?_)
                · exact ab_e_rt rfl rfl
                · refine ab_e_go 4 (128, [(0, .ref 0), (1, .int a1), (2, .int a2), (3, .int a3), (4, .int a4), (5, .int a5), (6, .int a6)], [.int a4, .int a6, .int a5, .ref 0], (X389, w)) rfl ?_
                  refine ab_e_c3 (k2 := 213) (as := [.ref 0, .int a5, .int a6, .int a4]) (rest := []) rfl rfl (T_C_isRefused S w X389 a5 a6 a4) (fun v390 X391 => ?_)
                  refine ab_e_br (c := v390 = nI 0) (144, [(0, .ref 0), (1, .int a1), (2, .int a2), (3, .int a3), (4, .int a4), (5, .int a5), (6, .int a6)], [], (X391, w)) (134, [(0, .ref 0), (1, .int a1), (2, .int a2), (3, .int a3), (4, .int a4), (5, .int a5), (6, .int a6)], [], (X391, w)) rfl (fun _ => ?_) (fun _ => ?_)
                  · refine ab_e_go 5 (155, [(0, .ref 0), (1, .int a1), (2, .int a2), (3, .int a3), (4, .int a4), (5, .int a5), (6, .int a6)], [.ref 3, .ref 4], (X391, w)) rfl ?_
                    refine ab_e_c3 (k2 := 123) (as := [.ref 4, .ref 3]) (rest := []) rfl rfl (T_H_remember_3 S w X391) (fun _ X392 => ?_)
                    refine ab_e_go 4 (164, [(0, .ref 0), (1, .int a1), (2, .int a2), (3, .int a3), (4, .int a4), (5, .int a5), (6, .int a6)], [.int a2, .int a1, .ref 2], (X392, w)) rfl ?_
                    refine ab_e_c1 (k2 := 57) (as := [.ref 2, .int a1, .int a2]) (rest := []) rfl rfl (T_K_awardIndex S w X392 a1 a2) (fun v393 => ?_)
                    refine ab_e_go 5 (176, [(7, .int v393), (0, .ref 0), (1, .int a1), (2, .int a2), (3, .int a3), (4, .int a4), (5, .int a5), (6, .int a6)], [.int a4, .int a3, .ref 2], (X392, w)) rfl ?_
                    refine ab_e_c1 (k2 := 57) (as := [.ref 2, .int a3, .int a4]) (rest := []) rfl rfl (T_K_awardIndex S w X392 a3 a4) (fun v394 => ?_)
                    refine ab_e_go 5 (189, [(8, .int v394), (7, .int v393), (0, .ref 0), (1, .int a1), (2, .int a2), (3, .int a3), (4, .int a4), (5, .int a5), (6, .int a6)], [.int a6, .int a5, .ref 2], (X392, w)) rfl ?_
                    refine ab_e_c1 (k2 := 57) (as := [.ref 2, .int a5, .int a6]) (rest := []) rfl rfl (T_K_awardIndex S w X392 a5 a6) (fun v395 => ?_)
                    refine ab_e_go 5 (201, [(9, .int v395), (8, .int v394), (7, .int v393), (0, .ref 0), (1, .int a1), (2, .int a2), (3, .int a3), (4, .int a4), (5, .int a5), (6, .int a6)], [.int a3, .int v393, .ref 2], (X392, w)) rfl ?_
                    refine ab_e_c3 (k2 := 73) (as := [.ref 2, .int v393, .int a3]) (rest := []) rfl rfl (T_K_reassign S w X392 v393 a3) (fun _ X396 => ?_)
                    refine ab_e_go 4 (212, [(9, .int v395), (8, .int v394), (7, .int v393), (0, .ref 0), (1, .int a1), (2, .int a2), (3, .int a3), (4, .int a4), (5, .int a5), (6, .int a6)], [.int a5, .int v394, .ref 2], (X396, w)) rfl ?_
                    refine ab_e_c3 (k2 := 73) (as := [.ref 2, .int v394, .int a5]) (rest := []) rfl rfl (T_K_reassign S w X396 v394 a5) (fun _ X397 => ?_)
                    refine ab_e_go 4 (222, [(9, .int v395), (8, .int v394), (7, .int v393), (0, .ref 0), (1, .int a1), (2, .int a2), (3, .int a3), (4, .int a4), (5, .int a5), (6, .int a6)], [.int a1, .int v395, .ref 2], (X397, w)) rfl ?_
                    refine ab_e_c3 (k2 := 73) (as := [.ref 2, .int v395, .int a1]) (rest := []) rfl rfl (T_K_reassign S w X397 v395 a1) (fun _ X398 => ?_)
                    exact ab_e_rt rfl rfl
                  · exact ab_e_rt rfl rfl
            · exact ab_e_rt rfl rfl
      · exact ab_e_rt rfl rfl
