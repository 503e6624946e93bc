/-! ===== what the methods of the reference compute, part 6 (by program: wip/whole/tools/dec.py) ===== -/
def L_M_choice_11 : Nat → ab_XX → Int32 → Int32 → Int32 → Int32 → Option (Int32 × ab_XX)
  | 0, _, _, _, _, _ => none
  | n + 1, X, a1, a2, a3, a4 =>
    (F_M_shifts X).bind fun v1152 =>
    if v1152 ≤ a4 then
      some (a2, X)
    else
      (F_M_bidOf X a1 a4).bind fun v1153 =>
      if v1153 = nI 0 then
        L_M_choice_11 n X a1 a2 a3 (a4 + (nI 1))
      else
        ab_b3 (F_M_obstacleOf X a1 a4 a3 (nI 0)) (fun v1154 X1155 =>
          if v1154 = nI 0 then
            if a2 < nI 0 then
              L_M_choice_11 n X1155 a1 a4 a3 (a4 + (nI 1))
            else
              (F_M_bidOf X1155 a1 a4).bind fun v1156 =>
              (F_M_bidOf X1155 a1 a2).bind fun v1157 =>
              if v1157 < v1156 then
                L_M_choice_11 n X1155 a1 a4 a3 (a4 + (nI 1))
              else
                (F_M_bidOf X1155 a1 a4).bind fun v1158 =>
                (F_M_bidOf X1155 a1 a2).bind fun v1159 =>
                if v1158 = v1159 then
                  (F_M_begin X1155 a4).bind fun v1160 =>
                  (F_M_begin X1155 a2).bind fun v1161 =>
                  if v1161 ≤ v1160 then
                    L_M_choice_11 n X1155 a1 a2 a3 (a4 + (nI 1))
                  else
                    L_M_choice_11 n X1155 a1 a4 a3 (a4 + (nI 1))
                else
                  L_M_choice_11 n X1155 a1 a2 a3 (a4 + (nI 1))
          else
            L_M_choice_11 n X1155 a1 a2 a3 (a4 + (nI 1)))
set_option maxRecDepth 4000 in
theorem T_L_M_choice_11 (S : Nat × (Nat → Int32)) (w : ab_WW) : ∀ (n : Nat) (X : ab_XX) (a1 : Int32) (a2 : Int32) (a3 : Int32) (a4 : Int32), ab_Eg (ab_m3 ab_fI w) S 239 (11, [(0, .ref 13), (1, .int a1), (2, .int a2), (3, .int a3), (4, .int a4)], [], (X, w)) (L_M_choice_11 n X a1 a2 a3 a4) := by
  intro n
  induction n with
  | zero => intro X a1 a2 a3 a4; exact ab_e_none
  | succ n ih =>
    intro X a1 a2 a3 a4
    unfold L_M_choice_11
    refine ab_e_go 2 (14, [(0, .ref 13), (1, .int a1), (2, .int a2), (3, .int a3), (4, .int a4)], [.ref 13, .int a4], (X, w)) rfl ?_
    refine ab_e_c1 (k2 := 43) (as := [.ref 13]) (rest := [.int a4]) rfl rfl (T_M_shifts S w X) (fun v1152 => ?_)
    refine ab_e_br (c := v1152 ≤ a4) (120, [(0, .ref 13), (1, .int a1), (2, .int a2), (3, .int a3), (4, .int a4)], [], (X, w)) (20, [(0, .ref 13), (1, .int a1), (2, .int a2), (3, .int a3), (4, .int a4)], [], (X, w)) rfl (fun _ => ?_) (fun _ => ?_)
    · refine ab_e_go 1 (121, [(0, .ref 13), (1, .int a1), (2, .int a2), (3, .int a3), (4, .int a4)], [.int a2], (X, w)) rfl ?_
      exact ab_e_rt rfl rfl
    · refine ab_e_go 3 (24, [(0, .ref 13), (1, .int a1), (2, .int a2), (3, .int a3), (4, .int a4)], [.int a4, .int a1, .ref 13], (X, w)) rfl ?_
      refine ab_e_c1 (k2 := 34) (as := [.ref 13, .int a1, .int a4]) (rest := []) rfl rfl (T_M_bidOf S w X a1 a4) (fun v1153 => ?_)
      refine ab_e_br (c := v1153 = nI 0) (114, [(0, .ref 13), (1, .int a1), (2, .int a2), (3, .int a3), (4, .int a4)], [], (X, w)) (30, [(0, .ref 13), (1, .int a1), (2, .int a2), (3, .int a3), (4, .int a4)], [], (X, w)) rfl (fun _ => ?_) (fun _ => ?_)
      · refine ab_e_go 2 (11, [(4, .int (a4 + (nI 1))), (0, .ref 13), (1, .int a1), (2, .int a2), (3, .int a3)], [], (X, w)) rfl ?_
        refine ab_e_wk [(0, .ref 13), (1, .int a1), (2, .int a2), (3, .int a3), (4, .int (a4 + (nI 1)))] ⟨rfl, rfl, rfl, rfl, rfl, trivial⟩ ?_
        exact ih X a1 a2 a3 (a4 + (nI 1))
      · refine ab_e_go 5 (36, [(0, .ref 13), (1, .int a1), (2, .int a2), (3, .int a3), (4, .int a4)], [.int (nI 0), .int a3, .int a4, .int a1, .ref 13], (X, w)) rfl ?_
        refine ab_e_c3 (k2 := 232) (as := [.ref 13, .int a1, .int a4, .int a3, .int (nI 0)]) (rest := []) rfl rfl (T_M_obstacleOf S w X a1 a4 a3 (nI 0)) (fun v1154 X1155 => ?_)
        refine ab_e_br (c := v1154 = nI 0) (45, [(0, .ref 13), (1, .int a1), (2, .int a2), (3, .int a3), (4, .int a4)], [], (X1155, w)) (42, [(0, .ref 13), (1, .int a1), (2, .int a2), (3, .int a3), (4, .int a4)], [], (X1155, w)) rfl (fun _ => ?_) (fun _ => ?_)
        · refine ab_e_go 1 (46, [(0, .ref 13), (1, .int a1), (2, .int a2), (3, .int a3), (4, .int a4)], [.int a2], (X1155, w)) rfl ?_
          refine ab_e_br (c := a2 < nI 0) (95, [(0, .ref 13), (1, .int a1), (2, .int a2), (3, .int a3), (4, .int a4)], [], (X1155, w)) (49, [(0, .ref 13), (1, .int a1), (2, .int a2), (3, .int a3), (4, .int a4)], [], (X1155, w)) rfl (fun _ => ?_) (fun _ => ?_)
          · refine ab_e_go 10 (11, [(4, .int (a4 + (nI 1))), (2, .int a4), (5, .int (nI 1)), (0, .ref 13), (1, .int a1), (3, .int a3)], [], (X1155, w)) rfl ?_
            refine ab_e_wk [(0, .ref 13), (1, .int a1), (2, .int a4), (3, .int a3), (4, .int (a4 + (nI 1)))] ⟨rfl, rfl, rfl, rfl, rfl, trivial⟩ ?_
            exact ih X1155 a1 a4 a3 (a4 + (nI 1))
          · refine ab_e_go 3 (53, [(0, .ref 13), (1, .int a1), (2, .int a2), (3, .int a3), (4, .int a4)], [.int a4, .int a1, .ref 13], (X1155, w)) rfl ?_
            refine ab_e_c1 (k2 := 34) (as := [.ref 13, .int a1, .int a4]) (rest := []) rfl rfl (T_M_bidOf S w X1155 a1 a4) (fun v1156 => ?_)
            refine ab_e_go 3 (59, [(0, .ref 13), (1, .int a1), (2, .int a2), (3, .int a3), (4, .int a4)], [.int a2, .int a1, .ref 13, .int v1156], (X1155, w)) rfl ?_
            refine ab_e_c1 (k2 := 34) (as := [.ref 13, .int a1, .int a2]) (rest := [.int v1156]) rfl rfl (T_M_bidOf S w X1155 a1 a2) (fun v1157 => ?_)
            refine ab_e_br (c := v1157 < v1156) (95, [(0, .ref 13), (1, .int a1), (2, .int a2), (3, .int a3), (4, .int a4)], [], (X1155, w)) (65, [(0, .ref 13), (1, .int a1), (2, .int a2), (3, .int a3), (4, .int a4)], [], (X1155, w)) rfl (fun _ => ?_) (fun _ => ?_)
            · refine ab_e_go 10 (11, [(4, .int (a4 + (nI 1))), (2, .int a4), (5, .int (nI 1)), (0, .ref 13), (1, .int a1), (3, .int a3)], [], (X1155, w)) rfl ?_
              refine ab_e_wk [(0, .ref 13), (1, .int a1), (2, .int a4), (3, .int a3), (4, .int (a4 + (nI 1)))] ⟨rfl, rfl, rfl, rfl, rfl, trivial⟩ ?_
              exact ih X1155 a1 a4 a3 (a4 + (nI 1))
            · refine ab_e_go 3 (69, [(0, .ref 13), (1, .int a1), (2, .int a2), (3, .int a3), (4, .int a4)], [.int a4, .int a1, .ref 13], (X1155, w)) rfl ?_
              refine ab_e_c1 (k2 := 34) (as := [.ref 13, .int a1, .int a4]) (rest := []) rfl rfl (T_M_bidOf S w X1155 a1 a4) (fun v1158 => ?_)
              refine ab_e_go 3 (75, [(0, .ref 13), (1, .int a1), (2, .int a2), (3, .int a3), (4, .int a4)], [.int a2, .int a1, .ref 13, .int v1158], (X1155, w)) rfl ?_
              refine ab_e_c1 (k2 := 34) (as := [.ref 13, .int a1, .int a2]) (rest := [.int v1158]) rfl rfl (T_M_bidOf S w X1155 a1 a2) (fun v1159 => ?_)
              refine ab_e_bn (c := v1158 = v1159) (99, [(0, .ref 13), (1, .int a1), (2, .int a2), (3, .int a3), (4, .int a4)], [], (X1155, w)) (81, [(0, .ref 13), (1, .int a1), (2, .int a2), (3, .int a3), (4, .int a4)], [], (X1155, w)) rfl (fun _ => ?_) (fun _ => ?_)
              · refine ab_e_go 8 (11, [(4, .int (a4 + (nI 1))), (2, .int a2), (5, .int (nI 0)), (0, .ref 13), (1, .int a1), (3, .int a3)], [], (X1155, w)) rfl ?_
                refine ab_e_wk [(0, .ref 13), (1, .int a1), (2, .int a2), (3, .int a3), (4, .int (a4 + (nI 1)))] ⟨rfl, rfl, rfl, rfl, rfl, trivial⟩ ?_
                exact ih X1155 a1 a2 a3 (a4 + (nI 1))
              · refine ab_e_go 2 (84, [(0, .ref 13), (1, .int a1), (2, .int a2), (3, .int a3), (4, .int a4)], [.int a4, .ref 13], (X1155, w)) rfl ?_
                refine ab_e_c1 (k2 := 88) (as := [.ref 13, .int a4]) (rest := []) rfl rfl (T_M_begin S w X1155 a4) (fun v1160 => ?_)
                refine ab_e_go 2 (89, [(0, .ref 13), (1, .int a1), (2, .int a2), (3, .int a3), (4, .int a4)], [.int a2, .ref 13, .int v1160], (X1155, w)) rfl ?_
                refine ab_e_c1 (k2 := 88) (as := [.ref 13, .int a2]) (rest := [.int v1160]) rfl rfl (T_M_begin S w X1155 a2) (fun v1161 => ?_)
                refine ab_e_br (c := v1161 ≤ v1160) (99, [(0, .ref 13), (1, .int a1), (2, .int a2), (3, .int a3), (4, .int a4)], [], (X1155, w)) (95, [(0, .ref 13), (1, .int a1), (2, .int a2), (3, .int a3), (4, .int a4)], [], (X1155, w)) rfl (fun _ => ?_) (fun _ => ?_)
                · refine ab_e_go 8 (11, [(4, .int (a4 + (nI 1))), (2, .int a2), (5, .int (nI 0)), (0, .ref 13), (1, .int a1), (3, .int a3)], [], (X1155, w)) rfl ?_
                  refine ab_e_wk [(0, .ref 13), (1, .int a1), (2, .int a2), (3, .int a3), (4, .int (a4 + (nI 1)))] ⟨rfl, rfl, rfl, rfl, rfl, trivial⟩ ?_
                  exact ih X1155 a1 a2 a3 (a4 + (nI 1))
                · refine ab_e_go 10 (11, [(4, .int (a4 + (nI 1))), (2, .int a4), (5, .int (nI 1)), (0, .ref 13), (1, .int a1), (3, .int a3)], [], (X1155, w)) rfl ?_
                  refine ab_e_wk [(0, .ref 13), (1, .int a1), (2, .int a4), (3, .int a3), (4, .int (a4 + (nI 1)))] ⟨rfl, rfl, rfl, rfl, rfl, trivial⟩ ?_
                  exact ih X1155 a1 a4 a3 (a4 + (nI 1))
        · refine ab_e_go 3 (11, [(4, .int (a4 + (nI 1))), (0, .ref 13), (1, .int a1), (2, .int a2), (3, .int a3)], [], (X1155, w)) rfl ?_
          refine ab_e_wk [(0, .ref 13), (1, .int a1), (2, .int a2), (3, .int a3), (4, .int (a4 + (nI 1)))] ⟨rfl, rfl, rfl, rfl, rfl, trivial⟩ ?_
          exact ih X1155 a1 a2 a3 (a4 + (nI 1))
def F_M_choice (X : ab_XX) (a1 : Int32) : Option (Int32 × ab_XX) :=
  (F_M_heldBy X a1).bind fun v1151 =>
  L_M_choice_11 ab_fu X a1 (-1 : Int32) v1151 (nI 0)
set_option maxRecDepth 4000 in
theorem T_M_choice (S : Nat × (Nat → Int32)) (w : ab_WW) (X : ab_XX) (a1 : Int32) : ab_Eg (ab_m3 ab_fI w) S 239 (0, lv_args 0 [.ref 13, .int a1], [], (X, w)) (F_M_choice X a1) := by
  show ab_Eg (ab_m3 ab_fI w) S 239 (0, [(0, .ref 13), (1, .int a1)], [], (X, w)) _
  unfold F_M_choice
  refine ab_e_go 4 (4, [(2, .int (-1 : Int32)), (0, .ref 13), (1, .int a1)], [.int a1, .ref 13], (X, w)) rfl ?_
  refine ab_e_c1 (k2 := 94) (as := [.ref 13, .int a1]) (rest := []) rfl rfl (T_M_heldBy S w X a1) (fun v1151 => ?_)
  refine ab_e_go 3 (11, [(4, .int (nI 0)), (3, .int v1151), (2, .int (-1 : Int32)), (0, .ref 13), (1, .int a1)], [], (X, w)) rfl ?_
  refine ab_e_wk [(0, .ref 13), (1, .int a1), (2, .int (-1 : Int32)), (3, .int v1151), (4, .int (nI 0))] ⟨rfl, rfl, rfl, rfl, rfl, trivial⟩ ?_
  exact T_L_M_choice_11 S w ab_fu X a1 (-1 : Int32) v1151 (nI 0)
def F_M_nextChoice (X : ab_XX) (a1 : Int32) : Option (Int32 × ab_XX) :=
  (F_M_isWorker X a1).bind fun v1149 =>
  if v1149 = nI 0 then
    (some (ab_up X 13 0 (nI 1))).bind fun X1150 =>
    if X1150 13 0 = nI 0 then
      ab_b3 (F_M_choice X1150 a1) (fun v1162 X1163 =>
        if nI 0 ≤ v1162 then
          (some (ab_up X1163 13 0 (nI 0))).bind fun X1164 =>
          if X1164 13 0 = nI 0 then
            some (v1162, X1164)
          else
            some (nI 0, X1164)
        else
          (some (ab_up X1163 13 0 (nI 2))).bind fun X1165 =>
          if X1165 13 0 = nI 0 then
            some (v1162, X1165)
          else
            some (nI 0, X1165))
    else
      some (nI 0, X1150)
  else
    (some (ab_up X 13 0 (nI 0))).bind fun X1166 =>
    if X1166 13 0 = nI 0 then
      ab_b3 (F_M_choice X1166 a1) (fun v1167 X1168 =>
        if nI 0 ≤ v1167 then
          (some (ab_up X1168 13 0 (nI 0))).bind fun X1169 =>
          if X1169 13 0 = nI 0 then
            some (v1167, X1169)
          else
            some (nI 0, X1169)
        else
          (some (ab_up X1168 13 0 (nI 2))).bind fun X1170 =>
          if X1170 13 0 = nI 0 then
            some (v1167, X1170)
          else
            some (nI 0, X1170))
    else
      some (nI 0, X1166)
set_option maxRecDepth 4000 in
theorem T_M_nextChoice (S : Nat × (Nat → Int32)) (w : ab_WW) (X : ab_XX) (a1 : Int32) : ab_Eg (ab_m3 ab_fI w) S 246 (0, lv_args 0 [.ref 13, .int a1], [], (X, w)) (F_M_nextChoice X a1) := by
  show ab_Eg (ab_m3 ab_fI w) S 246 (0, [(0, .ref 13), (1, .int a1)], [], (X, w)) _
  unfold F_M_nextChoice
  refine ab_e_go 3 (3, [(0, .ref 13), (1, .int a1)], [.int a1, .ref 13, .ref 13], (X, w)) rfl ?_
  refine ab_e_c1 (k2 := 98) (as := [.ref 13, .int a1]) (rest := [.ref 13]) rfl rfl (T_M_isWorker S w X a1) (fun v1149 => ?_)
  refine ab_e_br (c := v1149 = nI 0) (13, [(0, .ref 13), (1, .int a1)], [.ref 13], (X, w)) (9, [(0, .ref 13), (1, .int a1)], [.ref 13], (X, w)) rfl (fun _ => ?_) (fun _ => ?_)
  · refine ab_e_go 2 (17, [(0, .ref 13), (1, .int a1)], [], ((ab_up X 13 0 (nI 1)), w)) rfl ?_
    refine ab_e_letX (fun X1150 _ => ?_)
    refine ab_e_go 2 (21, [(0, .ref 13), (1, .int a1)], [.int (X1150 13 0)], (X1150, w)) rfl ?_
    refine ab_e_br (c := X1150 13 0 = nI 0) (26, [(0, .ref 13), (1, .int a1)], [], (X1150, w)) (24, [(0, .ref 13), (1, .int a1)], [], (X1150, w)) rfl (fun _ => ?_) (fun _ => ?_)
    · refine ab_e_go 2 (28, [(0, .ref 13), (1, .int a1)], [.int a1, .ref 13], (X1150, w)) rfl ?_
      refine ab_e_c3 (k2 := 239) (as := [.ref 13, .int a1]) (rest := []) rfl rfl (T_M_choice S w X1150 a1) (fun v1162 X1163 => ?_)
      refine ab_e_go 3 (34, [(2, .int v1162), (0, .ref 13), (1, .int a1)], [.int v1162, .ref 13], (X1163, w)) rfl ?_
      refine ab_e_br (c := nI 0 ≤ v1162) (41, [(2, .int v1162), (0, .ref 13), (1, .int a1)], [.ref 13], (X1163, w)) (37, [(2, .int v1162), (0, .ref 13), (1, .int a1)], [.ref 13], (X1163, w)) rfl (fun _ => ?_) (fun _ => ?_)
      · refine ab_e_go 2 (45, [(2, .int v1162), (0, .ref 13), (1, .int a1)], [], ((ab_up X1163 13 0 (nI 0)), w)) rfl ?_
        refine ab_e_letX (fun X1164 _ => ?_)
        refine ab_e_go 2 (49, [(2, .int v1162), (0, .ref 13), (1, .int a1)], [.int (X1164 13 0)], (X1164, w)) rfl ?_
        refine ab_e_bn (c := X1164 13 0 = nI 0) (56, [(2, .int v1162), (0, .ref 13), (1, .int a1)], [], (X1164, w)) (52, [(2, .int v1162), (0, .ref 13), (1, .int a1)], [], (X1164, w)) rfl (fun _ => ?_) (fun _ => ?_)
        · refine ab_e_go 1 (57, [(2, .int v1162), (0, .ref 13), (1, .int a1)], [.int (nI 0)], (X1164, w)) rfl ?_
          exact ab_e_rt rfl rfl
        · refine ab_e_go 2 (57, [(2, .int v1162), (0, .ref 13), (1, .int a1)], [.int v1162], (X1164, w)) rfl ?_
          exact ab_e_rt rfl rfl
      · refine ab_e_go 3 (45, [(2, .int v1162), (0, .ref 13), (1, .int a1)], [], ((ab_up X1163 13 0 (nI 2)), w)) rfl ?_
        refine ab_e_letX (fun X1165 _ => ?_)
        refine ab_e_go 2 (49, [(2, .int v1162), (0, .ref 13), (1, .int a1)], [.int (X1165 13 0)], (X1165, w)) rfl ?_
        refine ab_e_bn (c := X1165 13 0 = nI 0) (56, [(2, .int v1162), (0, .ref 13), (1, .int a1)], [], (X1165, w)) (52, [(2, .int v1162), (0, .ref 13), (1, .int a1)], [], (X1165, w)) rfl (fun _ => ?_) (fun _ => ?_)
        · refine ab_e_go 1 (57, [(2, .int v1162), (0, .ref 13), (1, .int a1)], [.int (nI 0)], (X1165, w)) rfl ?_
          exact ab_e_rt rfl rfl
        · refine ab_e_go 2 (57, [(2, .int v1162), (0, .ref 13), (1, .int a1)], [.int v1162], (X1165, w)) rfl ?_
          exact ab_e_rt rfl rfl
    · refine ab_e_go 1 (25, [(0, .ref 13), (1, .int a1)], [.int (nI 0)], (X1150, w)) rfl ?_
      exact ab_e_rt rfl rfl
  · refine ab_e_go 3 (17, [(0, .ref 13), (1, .int a1)], [], ((ab_up X 13 0 (nI 0)), w)) rfl ?_
    refine ab_e_letX (fun X1166 _ => ?_)
    refine ab_e_go 2 (21, [(0, .ref 13), (1, .int a1)], [.int (X1166 13 0)], (X1166, w)) rfl ?_
    refine ab_e_br (c := X1166 13 0 = nI 0) (26, [(0, .ref 13), (1, .int a1)], [], (X1166, w)) (24, [(0, .ref 13), (1, .int a1)], [], (X1166, w)) rfl (fun _ => ?_) (fun _ => ?_)
    · refine ab_e_go 2 (28, [(0, .ref 13), (1, .int a1)], [.int a1, .ref 13], (X1166, w)) rfl ?_
      refine ab_e_c3 (k2 := 239) (as := [.ref 13, .int a1]) (rest := []) rfl rfl (T_M_choice S w X1166 a1) (fun v1167 X1168 => ?_)
      refine ab_e_go 3 (34, [(2, .int v1167), (0, .ref 13), (1, .int a1)], [.int v1167, .ref 13], (X1168, w)) rfl ?_
      refine ab_e_br (c := nI 0 ≤ v1167) (41, [(2, .int v1167), (0, .ref 13), (1, .int a1)], [.ref 13], (X1168, w)) (37, [(2, .int v1167), (0, .ref 13), (1, .int a1)], [.ref 13], (X1168, w)) rfl (fun _ => ?_) (fun _ => ?_)
      · refine ab_e_go 2 (45, [(2, .int v1167), (0, .ref 13), (1, .int a1)], [], ((ab_up X1168 13 0 (nI 0)), w)) rfl ?_
        refine ab_e_letX (fun X1169 _ => ?_)
        refine ab_e_go 2 (49, [(2, .int v1167), (0, .ref 13), (1, .int a1)], [.int (X1169 13 0)], (X1169, w)) rfl ?_
        refine ab_e_bn (c := X1169 13 0 = nI 0) (56, [(2, .int v1167), (0, .ref 13), (1, .int a1)], [], (X1169, w)) (52, [(2, .int v1167), (0, .ref 13), (1, .int a1)], [], (X1169, w)) rfl (fun _ => ?_) (fun _ => ?_)
        · refine ab_e_go 1 (57, [(2, .int v1167), (0, .ref 13), (1, .int a1)], [.int (nI 0)], (X1169, w)) rfl ?_
          exact ab_e_rt rfl rfl
        · refine ab_e_go 2 (57, [(2, .int v1167), (0, .ref 13), (1, .int a1)], [.int v1167], (X1169, w)) rfl ?_
          exact ab_e_rt rfl rfl
      · refine ab_e_go 3 (45, [(2, .int v1167), (0, .ref 13), (1, .int a1)], [], ((ab_up X1168 13 0 (nI 2)), w)) rfl ?_
        refine ab_e_letX (fun X1170 _ => ?_)
        refine ab_e_go 2 (49, [(2, .int v1167), (0, .ref 13), (1, .int a1)], [.int (X1170 13 0)], (X1170, w)) rfl ?_
        refine ab_e_bn (c := X1170 13 0 = nI 0) (56, [(2, .int v1167), (0, .ref 13), (1, .int a1)], [], (X1170, w)) (52, [(2, .int v1167), (0, .ref 13), (1, .int a1)], [], (X1170, w)) rfl (fun _ => ?_) (fun _ => ?_)
        · refine ab_e_go 1 (57, [(2, .int v1167), (0, .ref 13), (1, .int a1)], [.int (nI 0)], (X1170, w)) rfl ?_
          exact ab_e_rt rfl rfl
        · refine ab_e_go 2 (57, [(2, .int v1167), (0, .ref 13), (1, .int a1)], [.int v1167], (X1170, w)) rfl ?_
          exact ab_e_rt rfl rfl
    · refine ab_e_go 1 (25, [(0, .ref 13), (1, .int a1)], [.int (nI 0)], (X1166, w)) rfl ?_
      exact ab_e_rt rfl rfl
def L_M_partner_81 (K50 : ab_XX → Int32 → Int32 → Int32 → Int32 → Option (Int32 × ab_XX)) : Nat → ab_XX → Int32 → Int32 → Int32 → Int32 → Int32 → Option (Int32 × ab_XX)
  | 0, _, _, _, _, _, _ => none
  | n + 1, X, a1, a2, a3, a4, a5 =>
    (F_M_shifts X).bind fun v1176 =>
    if v1176 ≤ a5 then
      K50 X a1 a2 a3 (a4 + (nI 1))
    else
      (F_M_awardOf X a1 a5).bind fun v1177 =>
      if v1177 < nI 0 then
        L_M_partner_81 K50 n X a1 a2 a3 a4 (a5 + (nI 1))
      else
        ab_b3 (F_M_mayGet X a1 a5 a2 (nI 0)) (fun v1178 X1179 =>
          if v1178 = nI 0 then
            L_M_partner_81 K50 n X1179 a1 a2 a3 a4 (a5 + (nI 1))
          else
            ab_b3 (F_M_mayGet X1179 a4 a2 a5 (nI 0)) (fun v1180 X1181 =>
              if v1180 = nI 0 then
                L_M_partner_81 K50 n X1181 a1 a2 a3 a4 (a5 + (nI 1))
              else
                if a3 = nI 0 then
                  some (a4, X1181)
                else
                  some (a5, X1181)))
set_option maxRecDepth 4000 in
theorem T_L_M_partner_81 (S : Nat × (Nat → Int32)) (w : ab_WW) (K50 : ab_XX → Int32 → Int32 → Int32 → Int32 → Option (Int32 × ab_XX)) (hK50 : ∀ (X : ab_XX) (a1 : Int32) (a2 : Int32) (a3 : Int32) (a4 : Int32), ab_Eg (ab_m3 ab_fI w) S 247 (50, [(0, .ref 13), (1, .int a1), (2, .int a2), (3, .int a3), (4, .int a4)], [], (X, w)) (K50 X a1 a2 a3 a4)) : ∀ (n : Nat) (X : ab_XX) (a1 : Int32) (a2 : Int32) (a3 : Int32) (a4 : Int32) (a5 : Int32), ab_Eg (ab_m3 ab_fI w) S 247 (81, [(0, .ref 13), (1, .int a1), (2, .int a2), (3, .int a3), (4, .int a4), (5, .int a5)], [], (X, w)) (L_M_partner_81 K50 n X a1 a2 a3 a4 a5) := by
  intro n
  induction n with
  | zero => intro X a1 a2 a3 a4 a5; exact ab_e_none
  | succ n ih =>
    intro X a1 a2 a3 a4 a5
    unfold L_M_partner_81
    refine ab_e_go 2 (84, [(0, .ref 13), (1, .int a1), (2, .int a2), (3, .int a3), (4, .int a4), (5, .int a5)], [.ref 13, .int a5], (X, w)) rfl ?_
    refine ab_e_c1 (k2 := 43) (as := [.ref 13]) (rest := [.int a5]) rfl rfl (T_M_shifts S w X) (fun v1176 => ?_)
    refine ab_e_br (c := v1176 ≤ a5) (143, [(0, .ref 13), (1, .int a1), (2, .int a2), (3, .int a3), (4, .int a4), (5, .int a5)], [], (X, w)) (90, [(0, .ref 13), (1, .int a1), (2, .int a2), (3, .int a3), (4, .int a4), (5, .int a5)], [], (X, w)) rfl (fun _ => ?_) (fun _ => ?_)
    · refine ab_e_go 2 (50, [(4, .int (a4 + (nI 1))), (0, .ref 13), (1, .int a1), (2, .int a2), (3, .int a3), (5, .int a5)], [], (X, w)) rfl ?_
      refine ab_e_wk [(0, .ref 13), (1, .int a1), (2, .int a2), (3, .int a3), (4, .int (a4 + (nI 1)))] ⟨rfl, rfl, rfl, rfl, rfl, trivial⟩ ?_
      exact hK50 X a1 a2 a3 (a4 + (nI 1))
    · refine ab_e_go 3 (94, [(0, .ref 13), (1, .int a1), (2, .int a2), (3, .int a3), (4, .int a4), (5, .int a5)], [.int a5, .int a1, .ref 13], (X, w)) rfl ?_
      refine ab_e_c1 (k2 := 87) (as := [.ref 13, .int a1, .int a5]) (rest := []) rfl rfl (T_M_awardOf S w X a1 a5) (fun v1177 => ?_)
      refine ab_e_br (c := v1177 < nI 0) (137, [(0, .ref 13), (1, .int a1), (2, .int a2), (3, .int a3), (4, .int a4), (5, .int a5)], [], (X, w)) (100, [(0, .ref 13), (1, .int a1), (2, .int a2), (3, .int a3), (4, .int a4), (5, .int a5)], [], (X, w)) rfl (fun _ => ?_) (fun _ => ?_)
      · refine ab_e_go 2 (81, [(5, .int (a5 + (nI 1))), (0, .ref 13), (1, .int a1), (2, .int a2), (3, .int a3), (4, .int a4)], [], (X, w)) rfl ?_
        refine ab_e_wk [(0, .ref 13), (1, .int a1), (2, .int a2), (3, .int a3), (4, .int a4), (5, .int (a5 + (nI 1)))] ⟨rfl, rfl, rfl, rfl, rfl, rfl, trivial⟩ ?_
        exact ih X a1 a2 a3 a4 (a5 + (nI 1))
      · refine ab_e_go 5 (106, [(0, .ref 13), (1, .int a1), (2, .int a2), (3, .int a3), (4, .int a4), (5, .int a5)], [.int (nI 0), .int a2, .int a5, .int a1, .ref 13], (X, w)) rfl ?_
        refine ab_e_c3 (k2 := 241) (as := [.ref 13, .int a1, .int a5, .int a2, .int (nI 0)]) (rest := []) rfl rfl (T_M_mayGet S w X a1 a5 a2 (nI 0)) (fun v1178 X1179 => ?_)
        refine ab_e_br (c := v1178 = nI 0) (137, [(0, .ref 13), (1, .int a1), (2, .int a2), (3, .int a3), (4, .int a4), (5, .int a5)], [], (X1179, w)) (112, [(0, .ref 13), (1, .int a1), (2, .int a2), (3, .int a3), (4, .int a4), (5, .int a5)], [], (X1179, w)) rfl (fun _ => ?_) (fun _ => ?_)
        · refine ab_e_go 2 (81, [(5, .int (a5 + (nI 1))), (0, .ref 13), (1, .int a1), (2, .int a2), (3, .int a3), (4, .int a4)], [], (X1179, w)) rfl ?_
          refine ab_e_wk [(0, .ref 13), (1, .int a1), (2, .int a2), (3, .int a3), (4, .int a4), (5, .int (a5 + (nI 1)))] ⟨rfl, rfl, rfl, rfl, rfl, rfl, trivial⟩ ?_
          exact ih X1179 a1 a2 a3 a4 (a5 + (nI 1))
        · refine ab_e_go 5 (119, [(0, .ref 13), (1, .int a1), (2, .int a2), (3, .int a3), (4, .int a4), (5, .int a5)], [.int (nI 0), .int a5, .int a2, .int a4, .ref 13], (X1179, w)) rfl ?_
          refine ab_e_c3 (k2 := 241) (as := [.ref 13, .int a4, .int a2, .int a5, .int (nI 0)]) (rest := []) rfl rfl (T_M_mayGet S w X1179 a4 a2 a5 (nI 0)) (fun v1180 X1181 => ?_)
          refine ab_e_br (c := v1180 = nI 0) (137, [(0, .ref 13), (1, .int a1), (2, .int a2), (3, .int a3), (4, .int a4), (5, .int a5)], [], (X1181, w)) (125, [(0, .ref 13), (1, .int a1), (2, .int a2), (3, .int a3), (4, .int a4), (5, .int a5)], [], (X1181, w)) rfl (fun _ => ?_) (fun _ => ?_)
          · refine ab_e_go 2 (81, [(5, .int (a5 + (nI 1))), (0, .ref 13), (1, .int a1), (2, .int a2), (3, .int a3), (4, .int a4)], [], (X1181, w)) rfl ?_
            refine ab_e_wk [(0, .ref 13), (1, .int a1), (2, .int a2), (3, .int a3), (4, .int a4), (5, .int (a5 + (nI 1)))] ⟨rfl, rfl, rfl, rfl, rfl, rfl, trivial⟩ ?_
            exact ih X1181 a1 a2 a3 a4 (a5 + (nI 1))
          · refine ab_e_go 1 (126, [(0, .ref 13), (1, .int a1), (2, .int a2), (3, .int a3), (4, .int a4), (5, .int a5)], [.int a3], (X1181, w)) rfl ?_
            refine ab_e_bn (c := a3 = nI 0) (134, [(0, .ref 13), (1, .int a1), (2, .int a2), (3, .int a3), (4, .int a4), (5, .int a5)], [], (X1181, w)) (129, [(0, .ref 13), (1, .int a1), (2, .int a2), (3, .int a3), (4, .int a4), (5, .int a5)], [], (X1181, w)) rfl (fun _ => ?_) (fun _ => ?_)
            · refine ab_e_go 1 (136, [(0, .ref 13), (1, .int a1), (2, .int a2), (3, .int a3), (4, .int a4), (5, .int a5)], [.int a5], (X1181, w)) rfl ?_
              exact ab_e_rt rfl rfl
            · refine ab_e_go 2 (136, [(0, .ref 13), (1, .int a1), (2, .int a2), (3, .int a3), (4, .int a4), (5, .int a5)], [.int a4], (X1181, w)) rfl ?_
              exact ab_e_rt rfl rfl
def L_M_partner_50 : Nat → ab_XX → Int32 → Int32 → Int32 → Int32 → Option (Int32 × ab_XX)
  | 0, _, _, _, _, _ => none
  | n + 1, X, a1, a2, a3, a4 =>
    (F_M_workers X).bind fun v1173 =>
    if v1173 ≤ a4 then
      (some (ab_up X 13 0 (nI 3))).bind fun X1174 =>
      some (nI 0, X1174)
    else
      if a4 = a1 then
        L_M_partner_50 n X a1 a2 a3 (a4 + (nI 1))
      else
        (F_M_awardOf X a4 a2).bind fun v1175 =>
        if nI 0 ≤ v1175 then
          L_M_partner_81 (fun X9 b1 b2 b3 b4 => L_M_partner_50 n X9 b1 b2 b3 b4) ab_fu X a1 a2 a3 a4 (nI 0)
        else
          L_M_partner_50 n X a1 a2 a3 (a4 + (nI 1))
set_option maxRecDepth 4000 in
theorem T_L_M_partner_50 (S : Nat × (Nat → Int32)) (w : ab_WW) : ∀ (n : Nat) (X : ab_XX) (a1 : Int32) (a2 : Int32) (a3 : Int32) (a4 : Int32), ab_Eg (ab_m3 ab_fI w) S 247 (50, [(0, .ref 13), (1, .int a1), (2, .int a2), (3, .int a3), (4, .int a4)], [], (X, w)) (L_M_partner_50 n X a1 a2 a3 a4) := by
  intro n
  induction n with
  | zero => intro X a1 a2 a3 a4; exact ab_e_none
  | succ n ih =>
    intro X a1 a2 a3 a4
    unfold L_M_partner_50
    refine ab_e_go 2 (53, [(0, .ref 13), (1, .int a1), (2, .int a2), (3, .int a3), (4, .int a4)], [.ref 13, .int a4], (X, w)) rfl ?_
    refine ab_e_c1 (k2 := 45) (as := [.ref 13]) (rest := [.int a4]) rfl rfl (T_M_workers S w X) (fun v1173 => ?_)
    refine ab_e_br (c := v1173 ≤ a4) (149, [(0, .ref 13), (1, .int a1), (2, .int a2), (3, .int a3), (4, .int a4)], [], (X, w)) (59, [(0, .ref 13), (1, .int a1), (2, .int a2), (3, .int a3), (4, .int a4)], [], (X, w)) rfl (fun _ => ?_) (fun _ => ?_)
    · refine ab_e_go 3 (154, [(0, .ref 13), (1, .int a1), (2, .int a2), (3, .int a3), (4, .int a4)], [], ((ab_up X 13 0 (nI 3)), w)) rfl ?_
      refine ab_e_letX (fun X1174 _ => ?_)
      refine ab_e_go 1 (155, [(0, .ref 13), (1, .int a1), (2, .int a2), (3, .int a3), (4, .int a4)], [.int (nI 0)], (X1174, w)) rfl ?_
      exact ab_e_rt rfl rfl
    · refine ab_e_go 2 (62, [(0, .ref 13), (1, .int a1), (2, .int a2), (3, .int a3), (4, .int a4)], [.int a1, .int a4], (X, w)) rfl ?_
      refine ab_e_br (c := a4 = a1) (143, [(0, .ref 13), (1, .int a1), (2, .int a2), (3, .int a3), (4, .int a4)], [], (X, w)) (65, [(0, .ref 13), (1, .int a1), (2, .int a2), (3, .int a3), (4, .int a4)], [], (X, w)) rfl (fun _ => ?_) (fun _ => ?_)
      · refine ab_e_go 2 (50, [(4, .int (a4 + (nI 1))), (0, .ref 13), (1, .int a1), (2, .int a2), (3, .int a3)], [], (X, w)) rfl ?_
        refine ab_e_wk [(0, .ref 13), (1, .int a1), (2, .int a2), (3, .int a3), (4, .int (a4 + (nI 1)))] ⟨rfl, rfl, rfl, rfl, rfl, trivial⟩ ?_
        exact ih X a1 a2 a3 (a4 + (nI 1))
      · refine ab_e_go 3 (69, [(0, .ref 13), (1, .int a1), (2, .int a2), (3, .int a3), (4, .int a4)], [.int a2, .int a4, .ref 13], (X, w)) rfl ?_
        refine ab_e_c1 (k2 := 87) (as := [.ref 13, .int a4, .int a2]) (rest := []) rfl rfl (T_M_awardOf S w X a4 a2) (fun v1175 => ?_)
        refine ab_e_br (c := nI 0 ≤ v1175) (78, [(0, .ref 13), (1, .int a1), (2, .int a2), (3, .int a3), (4, .int a4)], [], (X, w)) (75, [(0, .ref 13), (1, .int a1), (2, .int a2), (3, .int a3), (4, .int a4)], [], (X, w)) rfl (fun _ => ?_) (fun _ => ?_)
        · refine ab_e_go 2 (81, [(5, .int (nI 0)), (0, .ref 13), (1, .int a1), (2, .int a2), (3, .int a3), (4, .int a4)], [], (X, w)) rfl ?_
          refine ab_e_wk [(0, .ref 13), (1, .int a1), (2, .int a2), (3, .int a3), (4, .int a4), (5, .int (nI 0))] ⟨rfl, rfl, rfl, rfl, rfl, rfl, trivial⟩ ?_
          exact T_L_M_partner_81 S w _ (fun X9 b1 b2 b3 b4 => ih X9 b1 b2 b3 b4) ab_fu X a1 a2 a3 a4 (nI 0)
        · refine ab_e_go 3 (50, [(4, .int (a4 + (nI 1))), (0, .ref 13), (1, .int a1), (2, .int a2), (3, .int a3)], [], (X, w)) rfl ?_
          refine ab_e_wk [(0, .ref 13), (1, .int a1), (2, .int a2), (3, .int a3), (4, .int (a4 + (nI 1)))] ⟨rfl, rfl, rfl, rfl, rfl, trivial⟩ ?_
          exact ih X a1 a2 a3 (a4 + (nI 1))
def F_M_partner (X : ab_XX) (a1 : Int32) (a2 : Int32) (a3 : Int32) : Option (Int32 × ab_XX) :=
  (F_M_isWorker X a1).bind fun v1171 =>
  if v1171 = nI 0 then
    (some (ab_up X 13 0 (nI 1))).bind fun X1172 =>
    if X1172 13 0 = nI 0 then
      L_M_partner_50 ab_fu X1172 a1 a2 a3 (nI 0)
    else
      some (nI 0, X1172)
  else
    (F_M_isShift X a2).bind fun v1182 =>
    if v1182 = nI 0 then
      (some (ab_up X 13 0 (nI 1))).bind fun X1186 =>
      if X1186 13 0 = nI 0 then
        L_M_partner_50 ab_fu X1186 a1 a2 a3 (nI 0)
      else
        some (nI 0, X1186)
    else
      (F_M_in a3 (nI 0) (nI 1)).bind fun v1183 =>
      if v1183 = nI 0 then
        (some (ab_up X 13 0 (nI 2))).bind fun X1184 =>
        if X1184 13 0 = nI 0 then
          L_M_partner_50 ab_fu X1184 a1 a2 a3 (nI 0)
        else
          some (nI 0, X1184)
      else
        (some (ab_up X 13 0 (nI 0))).bind fun X1185 =>
        if X1185 13 0 = nI 0 then
          L_M_partner_50 ab_fu X1185 a1 a2 a3 (nI 0)
        else
          some (nI 0, X1185)
set_option maxRecDepth 4000 in
theorem T_M_partner (S : Nat × (Nat → Int32)) (w : ab_WW) (X : ab_XX) (a1 : Int32) (a2 : Int32) (a3 : Int32) : ab_Eg (ab_m3 ab_fI w) S 247 (0, lv_args 0 [.ref 13, .int a1, .int a2, .int a3], [], (X, w)) (F_M_partner X a1 a2 a3) := by
  show ab_Eg (ab_m3 ab_fI w) S 247 (0, [(0, .ref 13), (1, .int a1), (2, .int a2), (3, .int a3)], [], (X, w)) _
  unfold F_M_partner
  refine ab_e_go 3 (3, [(0, .ref 13), (1, .int a1), (2, .int a2), (3, .int a3)], [.int a1, .ref 13, .ref 13], (X, w)) rfl ?_
  refine ab_e_c1 (k2 := 98) (as := [.ref 13, .int a1]) (rest := [.ref 13]) rfl rfl (T_M_isWorker S w X a1) (fun v1171 => ?_)
  refine ab_e_br (c := v1171 = nI 0) (17, [(0, .ref 13), (1, .int a1), (2, .int a2), (3, .int a3)], [.ref 13], (X, w)) (9, [(0, .ref 13), (1, .int a1), (2, .int a2), (3, .int a3)], [.ref 13], (X, w)) rfl (fun _ => ?_) (fun _ => ?_)
  · refine ab_e_go 3 (38, [(0, .ref 13), (1, .int a1), (2, .int a2), (3, .int a3)], [], ((ab_up X 13 0 (nI 1)), w)) rfl ?_
    refine ab_e_letX (fun X1172 _ => ?_)
    refine ab_e_go 2 (42, [(0, .ref 13), (1, .int a1), (2, .int a2), (3, .int a3)], [.int (X1172 13 0)], (X1172, w)) rfl ?_
    refine ab_e_br (c := X1172 13 0 = nI 0) (47, [(0, .ref 13), (1, .int a1), (2, .int a2), (3, .int a3)], [], (X1172, w)) (45, [(0, .ref 13), (1, .int a1), (2, .int a2), (3, .int a3)], [], (X1172, w)) rfl (fun _ => ?_) (fun _ => ?_)
    · refine ab_e_go 2 (50, [(4, .int (nI 0)), (0, .ref 13), (1, .int a1), (2, .int a2), (3, .int a3)], [], (X1172, w)) rfl ?_
      refine ab_e_wk [(0, .ref 13), (1, .int a1), (2, .int a2), (3, .int a3), (4, .int (nI 0))] ⟨rfl, rfl, rfl, rfl, rfl, trivial⟩ ?_
      exact T_L_M_partner_50 S w ab_fu X1172 a1 a2 a3 (nI 0)
    · refine ab_e_go 1 (46, [(0, .ref 13), (1, .int a1), (2, .int a2), (3, .int a3)], [.int (nI 0)], (X1172, w)) rfl ?_
      exact ab_e_rt rfl rfl
  · refine ab_e_go 2 (11, [(0, .ref 13), (1, .int a1), (2, .int a2), (3, .int a3)], [.int a2, .ref 13, .ref 13], (X, w)) rfl ?_
    refine ab_e_c1 (k2 := 97) (as := [.ref 13, .int a2]) (rest := [.ref 13]) rfl rfl (T_M_isShift S w X a2) (fun v1182 => ?_)
    refine ab_e_bn (c := v1182 = nI 0) (21, [(0, .ref 13), (1, .int a1), (2, .int a2), (3, .int a3)], [.ref 13], (X, w)) (17, [(0, .ref 13), (1, .int a1), (2, .int a2), (3, .int a3)], [.ref 13], (X, w)) rfl (fun _ => ?_) (fun _ => ?_)
    · refine ab_e_go 3 (24, [(0, .ref 13), (1, .int a1), (2, .int a2), (3, .int a3)], [.int (nI 1), .int (nI 0), .int a3, .ref 13], (X, w)) rfl ?_
      refine ab_e_c1 (k2 := 39) (as := [.int a3, .int (nI 0), .int (nI 1)]) (rest := [.ref 13]) rfl rfl (T_M_in S w X a3 (nI 0) (nI 1)) (fun v1183 => ?_)
      refine ab_e_br (c := v1183 = nI 0) (34, [(0, .ref 13), (1, .int a1), (2, .int a2), (3, .int a3)], [.ref 13], (X, w)) (30, [(0, .ref 13), (1, .int a1), (2, .int a2), (3, .int a3)], [.ref 13], (X, w)) rfl (fun _ => ?_) (fun _ => ?_)
      · refine ab_e_go 2 (38, [(0, .ref 13), (1, .int a1), (2, .int a2), (3, .int a3)], [], ((ab_up X 13 0 (nI 2)), w)) rfl ?_
        refine ab_e_letX (fun X1184 _ => ?_)
        refine ab_e_go 2 (42, [(0, .ref 13), (1, .int a1), (2, .int a2), (3, .int a3)], [.int (X1184 13 0)], (X1184, w)) rfl ?_
        refine ab_e_br (c := X1184 13 0 = nI 0) (47, [(0, .ref 13), (1, .int a1), (2, .int a2), (3, .int a3)], [], (X1184, w)) (45, [(0, .ref 13), (1, .int a1), (2, .int a2), (3, .int a3)], [], (X1184, w)) rfl (fun _ => ?_) (fun _ => ?_)
        · refine ab_e_go 2 (50, [(4, .int (nI 0)), (0, .ref 13), (1, .int a1), (2, .int a2), (3, .int a3)], [], (X1184, w)) rfl ?_
          refine ab_e_wk [(0, .ref 13), (1, .int a1), (2, .int a2), (3, .int a3), (4, .int (nI 0))] ⟨rfl, rfl, rfl, rfl, rfl, trivial⟩ ?_
          exact T_L_M_partner_50 S w ab_fu X1184 a1 a2 a3 (nI 0)
        · refine ab_e_go 1 (46, [(0, .ref 13), (1, .int a1), (2, .int a2), (3, .int a3)], [.int (nI 0)], (X1184, w)) rfl ?_
          exact ab_e_rt rfl rfl
      · refine ab_e_go 3 (38, [(0, .ref 13), (1, .int a1), (2, .int a2), (3, .int a3)], [], ((ab_up X 13 0 (nI 0)), w)) rfl ?_
        refine ab_e_letX (fun X1185 _ => ?_)
        refine ab_e_go 2 (42, [(0, .ref 13), (1, .int a1), (2, .int a2), (3, .int a3)], [.int (X1185 13 0)], (X1185, w)) rfl ?_
        refine ab_e_br (c := X1185 13 0 = nI 0) (47, [(0, .ref 13), (1, .int a1), (2, .int a2), (3, .int a3)], [], (X1185, w)) (45, [(0, .ref 13), (1, .int a1), (2, .int a2), (3, .int a3)], [], (X1185, w)) rfl (fun _ => ?_) (fun _ => ?_)
        · refine ab_e_go 2 (50, [(4, .int (nI 0)), (0, .ref 13), (1, .int a1), (2, .int a2), (3, .int a3)], [], (X1185, w)) rfl ?_
          refine ab_e_wk [(0, .ref 13), (1, .int a1), (2, .int a2), (3, .int a3), (4, .int (nI 0))] ⟨rfl, rfl, rfl, rfl, rfl, trivial⟩ ?_
          exact T_L_M_partner_50 S w ab_fu X1185 a1 a2 a3 (nI 0)
        · refine ab_e_go 1 (46, [(0, .ref 13), (1, .int a1), (2, .int a2), (3, .int a3)], [.int (nI 0)], (X1185, w)) rfl ?_
          exact ab_e_rt rfl rfl
    · refine ab_e_go 3 (38, [(0, .ref 13), (1, .int a1), (2, .int a2), (3, .int a3)], [], ((ab_up X 13 0 (nI 1)), w)) rfl ?_
      refine ab_e_letX (fun X1186 _ => ?_)
      refine ab_e_go 2 (42, [(0, .ref 13), (1, .int a1), (2, .int a2), (3, .int a3)], [.int (X1186 13 0)], (X1186, w)) rfl ?_
      refine ab_e_br (c := X1186 13 0 = nI 0) (47, [(0, .ref 13), (1, .int a1), (2, .int a2), (3, .int a3)], [], (X1186, w)) (45, [(0, .ref 13), (1, .int a1), (2, .int a2), (3, .int a3)], [], (X1186, w)) rfl (fun _ => ?_) (fun _ => ?_)
      · refine ab_e_go 2 (50, [(4, .int (nI 0)), (0, .ref 13), (1, .int a1), (2, .int a2), (3, .int a3)], [], (X1186, w)) rfl ?_
        refine ab_e_wk [(0, .ref 13), (1, .int a1), (2, .int a2), (3, .int a3), (4, .int (nI 0))] ⟨rfl, rfl, rfl, rfl, rfl, trivial⟩ ?_
        exact T_L_M_partner_50 S w ab_fu X1186 a1 a2 a3 (nI 0)
      · refine ab_e_go 1 (46, [(0, .ref 13), (1, .int a1), (2, .int a2), (3, .int a3)], [.int (nI 0)], (X1186, w)) rfl ?_
        exact ab_e_rt rfl rfl
def F_M_rotate (X : ab_XX) (a1 : Int32) (a2 : Int32) (a3 : Int32) (a4 : Int32) (a5 : Int32) (a6 : Int32) : Option (Unit × ab_XX) :=
  (F_M_isWorker X a1).bind fun v1187 =>
  if v1187 = nI 0 then
    (some (ab_up X 13 0 (nI 1))).bind fun X1188 =>
    if X1188 13 0 = nI 0 then
      ab_b3 (F_M_mayGet X1188 a1 a2 a6 (nI 1)) (fun v1189 X1190 =>
        if v1189 = nI 0 then
          (some (ab_up X1190 13 0 (nI 4))).bind fun X1191 =>
          some ((), X1191)
        else
          ab_b3 (F_M_mayGet X1190 a3 a4 a2 (nI 1)) (fun v1192 X1193 =>
            if v1192 = nI 0 then
              (some (ab_up X1193 13 0 (nI 4))).bind fun X1194 =>
              some ((), X1194)
            else
              ab_b3 (F_M_mayGet X1193 a5 a6 a4 (nI 1)) (fun v1195 X1196 =>
                if v1195 = nI 0 then
                  (some (ab_up X1196 13 0 (nI 4))).bind fun X1205 =>
                  some ((), X1205)
                else
                  ab_b3 (F_M_reasons X1196 (nI 0) (nI 0) (-1 : Int32)) (fun _ X1197 =>
                    ab_b3 (F_M_keeps X1197) (fun _ X1198 =>
                      (F_M_awardOf X1198 a1 a2).bind fun v1199 =>
                      (F_M_awardOf X1198 a3 a4).bind fun v1200 =>
                      (F_M_awardOf X1198 a5 a6).bind fun v1201 =>
                      if ab_in ((nI 309) + ((nI 2) * v1199)) 4455 = true then
                        (some (ab_up X1198 14 (((nI 309) + ((nI 2) * v1199)).toNatClampNeg) a3)).bind fun X1202 =>
                        if ab_in ((nI 309) + ((nI 2) * v1200)) 4455 = true then
                          (some (ab_up X1202 14 (((nI 309) + ((nI 2) * v1200)).toNatClampNeg) a5)).bind fun X1203 =>
                          if ab_in ((nI 309) + ((nI 2) * v1201)) 4455 = true then
                            (some (ab_up X1203 14 (((nI 309) + ((nI 2) * v1201)).toNatClampNeg) a1)).bind fun X1204 =>
                            some ((), X1204)
                          else none
                        else none
                      else none)))))
    else
      some ((), X1188)
  else
    (F_M_isShift X a2).bind fun v1206 =>
    if v1206 = nI 0 then
      (some (ab_up X 13 0 (nI 1))).bind fun X1207 =>
      if X1207 13 0 = nI 0 then
        ab_b3 (F_M_mayGet X1207 a1 a2 a6 (nI 1)) (fun v1208 X1209 =>
          if v1208 = nI 0 then
            (some (ab_up X1209 13 0 (nI 4))).bind fun X1210 =>
            some ((), X1210)
          else
            ab_b3 (F_M_mayGet X1209 a3 a4 a2 (nI 1)) (fun v1211 X1212 =>
              if v1211 = nI 0 then
                (some (ab_up X1212 13 0 (nI 4))).bind fun X1213 =>
                some ((), X1213)
              else
                ab_b3 (F_M_mayGet X1212 a5 a6 a4 (nI 1)) (fun v1214 X1215 =>
                  if v1214 = nI 0 then
                    (some (ab_up X1215 13 0 (nI 4))).bind fun X1224 =>
                    some ((), X1224)
                  else
                    ab_b3 (F_M_reasons X1215 (nI 0) (nI 0) (-1 : Int32)) (fun _ X1216 =>
                      ab_b3 (F_M_keeps X1216) (fun _ X1217 =>
                        (F_M_awardOf X1217 a1 a2).bind fun v1218 =>
                        (F_M_awardOf X1217 a3 a4).bind fun v1219 =>
                        (F_M_awardOf X1217 a5 a6).bind fun v1220 =>
                        if ab_in ((nI 309) + ((nI 2) * v1218)) 4455 = true then
                          (some (ab_up X1217 14 (((nI 309) + ((nI 2) * v1218)).toNatClampNeg) a3)).bind fun X1221 =>
                          if ab_in ((nI 309) + ((nI 2) * v1219)) 4455 = true then
                            (some (ab_up X1221 14 (((nI 309) + ((nI 2) * v1219)).toNatClampNeg) a5)).bind fun X1222 =>
                            if ab_in ((nI 309) + ((nI 2) * v1220)) 4455 = true then
                              (some (ab_up X1222 14 (((nI 309) + ((nI 2) * v1220)).toNatClampNeg) a1)).bind fun X1223 =>
                              some ((), X1223)
                            else none
                          else none
                        else none)))))
      else
        some ((), X1207)
    else
      (F_M_isWorker X a3).bind fun v1225 =>
      if v1225 = nI 0 then
        (some (ab_up X 13 0 (nI 1))).bind fun X1226 =>
        if X1226 13 0 = nI 0 then
          ab_b3 (F_M_mayGet X1226 a1 a2 a6 (nI 1)) (fun v1227 X1228 =>
            if v1227 = nI 0 then
              (some (ab_up X1228 13 0 (nI 4))).bind fun X1229 =>
              some ((), X1229)
            else
              ab_b3 (F_M_mayGet X1228 a3 a4 a2 (nI 1)) (fun v1230 X1231 =>
                if v1230 = nI 0 then
                  (some (ab_up X1231 13 0 (nI 4))).bind fun X1232 =>
                  some ((), X1232)
                else
                  ab_b3 (F_M_mayGet X1231 a5 a6 a4 (nI 1)) (fun v1233 X1234 =>
                    if v1233 = nI 0 then
                      (some (ab_up X1234 13 0 (nI 4))).bind fun X1243 =>
                      some ((), X1243)
                    else
                      ab_b3 (F_M_reasons X1234 (nI 0) (nI 0) (-1 : Int32)) (fun _ X1235 =>
                        ab_b3 (F_M_keeps X1235) (fun _ X1236 =>
                          (F_M_awardOf X1236 a1 a2).bind fun v1237 =>
                          (F_M_awardOf X1236 a3 a4).bind fun v1238 =>
                          (F_M_awardOf X1236 a5 a6).bind fun v1239 =>
                          if ab_in ((nI 309) + ((nI 2) * v1237)) 4455 = true then
                            (some (ab_up X1236 14 (((nI 309) + ((nI 2) * v1237)).toNatClampNeg) a3)).bind fun X1240 =>
                            if ab_in ((nI 309) + ((nI 2) * v1238)) 4455 = true then
                              (some (ab_up X1240 14 (((nI 309) + ((nI 2) * v1238)).toNatClampNeg) a5)).bind fun X1241 =>
                              if ab_in ((nI 309) + ((nI 2) * v1239)) 4455 = true then
                                (some (ab_up X1241 14 (((nI 309) + ((nI 2) * v1239)).toNatClampNeg) a1)).bind fun X1242 =>
                                some ((), X1242)
                              else none
                            else none
                          else none)))))
        else
          some ((), X1226)
      else
        (F_M_isShift X a4).bind fun v1244 =>
        if v1244 = nI 0 then
          (some (ab_up X 13 0 (nI 1))).bind fun X1245 =>
          if X1245 13 0 = nI 0 then
            ab_b3 (F_M_mayGet X1245 a1 a2 a6 (nI 1)) (fun v1246 X1247 =>
              if v1246 = nI 0 then
                (some (ab_up X1247 13 0 (nI 4))).bind fun X1248 =>
                some ((), X1248)
              else
                ab_b3 (F_M_mayGet X1247 a3 a4 a2 (nI 1)) (fun v1249 X1250 =>
                  if v1249 = nI 0 then
                    (some (ab_up X1250 13 0 (nI 4))).bind fun X1251 =>
                    some ((), X1251)
                  else
                    ab_b3 (F_M_mayGet X1250 a5 a6 a4 (nI 1)) (fun v1252 X1253 =>
                      if v1252 = nI 0 then
                        (some (ab_up X1253 13 0 (nI 4))).bind fun X1262 =>
                        some ((), X1262)
                      else
                        ab_b3 (F_M_reasons X1253 (nI 0) (nI 0) (-1 : Int32)) (fun _ X1254 =>
                          ab_b3 (F_M_keeps X1254) (fun _ X1255 =>
                            (F_M_awardOf X1255 a1 a2).bind fun v1256 =>
                            (F_M_awardOf X1255 a3 a4).bind fun v1257 =>
                            (F_M_awardOf X1255 a5 a6).bind fun v1258 =>
                            if ab_in ((nI 309) + ((nI 2) * v1256)) 4455 = true then
                              (some (ab_up X1255 14 (((nI 309) + ((nI 2) * v1256)).toNatClampNeg) a3)).bind fun X1259 =>
                              if ab_in ((nI 309) + ((nI 2) * v1257)) 4455 = true then
                                (some (ab_up X1259 14 (((nI 309) + ((nI 2) * v1257)).toNatClampNeg) a5)).bind fun X1260 =>
                                if ab_in ((nI 309) + ((nI 2) * v1258)) 4455 = true then
                                  (some (ab_up X1260 14 (((nI 309) + ((nI 2) * v1258)).toNatClampNeg) a1)).bind fun X1261 =>
                                  some ((), X1261)
                                else none
                              else none
                            else none)))))
          else
            some ((), X1245)
        else
          (F_M_isWorker X a5).bind fun v1263 =>
          if v1263 = nI 0 then
            (some (ab_up X 13 0 (nI 1))).bind fun X1264 =>
            if X1264 13 0 = nI 0 then
              ab_b3 (F_M_mayGet X1264 a1 a2 a6 (nI 1)) (fun v1265 X1266 =>
                if v1265 = nI 0 then
                  (some (ab_up X1266 13 0 (nI 4))).bind fun X1267 =>
                  some ((), X1267)
                else
                  ab_b3 (F_M_mayGet X1266 a3 a4 a2 (nI 1)) (fun v1268 X1269 =>
                    if v1268 = nI 0 then
                      (some (ab_up X1269 13 0 (nI 4))).bind fun X1270 =>
                      some ((), X1270)
                    else
                      ab_b3 (F_M_mayGet X1269 a5 a6 a4 (nI 1)) (fun v1271 X1272 =>
                        if v1271 = nI 0 then
                          (some (ab_up X1272 13 0 (nI 4))).bind fun X1281 =>
                          some ((), X1281)
                        else
                          ab_b3 (F_M_reasons X1272 (nI 0) (nI 0) (-1 : Int32)) (fun _ X1273 =>
                            ab_b3 (F_M_keeps X1273) (fun _ X1274 =>
                              (F_M_awardOf X1274 a1 a2).bind fun v1275 =>
                              (F_M_awardOf X1274 a3 a4).bind fun v1276 =>
                              (F_M_awardOf X1274 a5 a6).bind fun v1277 =>
                              if ab_in ((nI 309) + ((nI 2) * v1275)) 4455 = true then
                                (some (ab_up X1274 14 (((nI 309) + ((nI 2) * v1275)).toNatClampNeg) a3)).bind fun X1278 =>
                                if ab_in ((nI 309) + ((nI 2) * v1276)) 4455 = true then
                                  (some (ab_up X1278 14 (((nI 309) + ((nI 2) * v1276)).toNatClampNeg) a5)).bind fun X1279 =>
                                  if ab_in ((nI 309) + ((nI 2) * v1277)) 4455 = true then
                                    (some (ab_up X1279 14 (((nI 309) + ((nI 2) * v1277)).toNatClampNeg) a1)).bind fun X1280 =>
                                    some ((), X1280)
                                  else none
                                else none
                              else none)))))
            else
              some ((), X1264)
          else
            (F_M_isShift X a6).bind fun v1282 =>
            if v1282 = nI 0 then
              (some (ab_up X 13 0 (nI 1))).bind fun X1283 =>
              if X1283 13 0 = nI 0 then
                ab_b3 (F_M_mayGet X1283 a1 a2 a6 (nI 1)) (fun v1284 X1285 =>
                  if v1284 = nI 0 then
                    (some (ab_up X1285 13 0 (nI 4))).bind fun X1286 =>
                    some ((), X1286)
                  else
                    ab_b3 (F_M_mayGet X1285 a3 a4 a2 (nI 1)) (fun v1287 X1288 =>
                      if v1287 = nI 0 then
                        (some (ab_up X1288 13 0 (nI 4))).bind fun X1289 =>
                        some ((), X1289)
                      else
                        ab_b3 (F_M_mayGet X1288 a5 a6 a4 (nI 1)) (fun v1290 X1291 =>
                          if v1290 = nI 0 then
                            (some (ab_up X1291 13 0 (nI 4))).bind fun X1300 =>
                            some ((), X1300)
                          else
                            ab_b3 (F_M_reasons X1291 (nI 0) (nI 0) (-1 : Int32)) (fun _ X1292 =>
                              ab_b3 (F_M_keeps X1292) (fun _ X1293 =>
                                (F_M_awardOf X1293 a1 a2).bind fun v1294 =>
                                (F_M_awardOf X1293 a3 a4).bind fun v1295 =>
                                (F_M_awardOf X1293 a5 a6).bind fun v1296 =>
                                if ab_in ((nI 309) + ((nI 2) * v1294)) 4455 = true then
                                  (some (ab_up X1293 14 (((nI 309) + ((nI 2) * v1294)).toNatClampNeg) a3)).bind fun X1297 =>
                                  if ab_in ((nI 309) + ((nI 2) * v1295)) 4455 = true then
                                    (some (ab_up X1297 14 (((nI 309) + ((nI 2) * v1295)).toNatClampNeg) a5)).bind fun X1298 =>
                                    if ab_in ((nI 309) + ((nI 2) * v1296)) 4455 = true then
                                      (some (ab_up X1298 14 (((nI 309) + ((nI 2) * v1296)).toNatClampNeg) a1)).bind fun X1299 =>
                                      some ((), X1299)
                                    else none
                                  else none
                                else none)))))
              else
                some ((), X1283)
            else
              if a1 = a3 then
                (some (ab_up X 13 0 (nI 2))).bind fun X1301 =>
                if X1301 13 0 = nI 0 then
                  ab_b3 (F_M_mayGet X1301 a1 a2 a6 (nI 1)) (fun v1302 X1303 =>
                    if v1302 = nI 0 then
                      (some (ab_up X1303 13 0 (nI 4))).bind fun X1304 =>
                      some ((), X1304)
                    else
                      ab_b3 (F_M_mayGet X1303 a3 a4 a2 (nI 1)) (fun v1305 X1306 =>
                        if v1305 = nI 0 then
                          (some (ab_up X1306 13 0 (nI 4))).bind fun X1307 =>
                          some ((), X1307)
                        else
                          ab_b3 (F_M_mayGet X1306 a5 a6 a4 (nI 1)) (fun v1308 X1309 =>
                            if v1308 = nI 0 then
                              (some (ab_up X1309 13 0 (nI 4))).bind fun X1318 =>
                              some ((), X1318)
                            else
                              ab_b3 (F_M_reasons X1309 (nI 0) (nI 0) (-1 : Int32)) (fun _ X1310 =>
                                ab_b3 (F_M_keeps X1310) (fun _ X1311 =>
                                  (F_M_awardOf X1311 a1 a2).bind fun v1312 =>
                                  (F_M_awardOf X1311 a3 a4).bind fun v1313 =>
                                  (F_M_awardOf X1311 a5 a6).bind fun v1314 =>
                                  if ab_in ((nI 309) + ((nI 2) * v1312)) 4455 = true then
                                    (some (ab_up X1311 14 (((nI 309) + ((nI 2) * v1312)).toNatClampNeg) a3)).bind fun X1315 =>
                                    if ab_in ((nI 309) + ((nI 2) * v1313)) 4455 = true then
                                      (some (ab_up X1315 14 (((nI 309) + ((nI 2) * v1313)).toNatClampNeg) a5)).bind fun X1316 =>
                                      if ab_in ((nI 309) + ((nI 2) * v1314)) 4455 = true then
                                        (some (ab_up X1316 14 (((nI 309) + ((nI 2) * v1314)).toNatClampNeg) a1)).bind fun X1317 =>
                                        some ((), X1317)
                                      else none
                                    else none
                                  else none)))))
                else
                  some ((), X1301)
              else
                if a1 = a5 then
                  (some (ab_up X 13 0 (nI 2))).bind fun X1319 =>
                  if X1319 13 0 = nI 0 then
                    ab_b3 (F_M_mayGet X1319 a1 a2 a6 (nI 1)) (fun v1320 X1321 =>
                      if v1320 = nI 0 then
                        (some (ab_up X1321 13 0 (nI 4))).bind fun X1322 =>
                        some ((), X1322)
                      else
                        ab_b3 (F_M_mayGet X1321 a3 a4 a2 (nI 1)) (fun v1323 X1324 =>
                          if v1323 = nI 0 then
                            (some (ab_up X1324 13 0 (nI 4))).bind fun X1325 =>
                            some ((), X1325)
                          else
                            ab_b3 (F_M_mayGet X1324 a5 a6 a4 (nI 1)) (fun v1326 X1327 =>
                              if v1326 = nI 0 then
                                (some (ab_up X1327 13 0 (nI 4))).bind fun X1336 =>
                                some ((), X1336)
                              else
                                ab_b3 (F_M_reasons X1327 (nI 0) (nI 0) (-1 : Int32)) (fun _ X1328 =>
                                  ab_b3 (F_M_keeps X1328) (fun _ X1329 =>
                                    (F_M_awardOf X1329 a1 a2).bind fun v1330 =>
                                    (F_M_awardOf X1329 a3 a4).bind fun v1331 =>
                                    (F_M_awardOf X1329 a5 a6).bind fun v1332 =>
                                    if ab_in ((nI 309) + ((nI 2) * v1330)) 4455 = true then
                                      (some (ab_up X1329 14 (((nI 309) + ((nI 2) * v1330)).toNatClampNeg) a3)).bind fun X1333 =>
                                      if ab_in ((nI 309) + ((nI 2) * v1331)) 4455 = true then
                                        (some (ab_up X1333 14 (((nI 309) + ((nI 2) * v1331)).toNatClampNeg) a5)).bind fun X1334 =>
                                        if ab_in ((nI 309) + ((nI 2) * v1332)) 4455 = true then
                                          (some (ab_up X1334 14 (((nI 309) + ((nI 2) * v1332)).toNatClampNeg) a1)).bind fun X1335 =>
                                          some ((), X1335)
                                        else none
                                      else none
                                    else none)))))
                  else
                    some ((), X1319)
                else
                  if a3 = a5 then
                    (some (ab_up X 13 0 (nI 2))).bind fun X1412 =>
                    if X1412 13 0 = nI 0 then
                      ab_b3 (F_M_mayGet X1412 a1 a2 a6 (nI 1)) (fun v1413 X1414 =>
                        if v1413 = nI 0 then
                          (some (ab_up X1414 13 0 (nI 4))).bind fun X1415 =>
                          some ((), X1415)
                        else
                          ab_b3 (F_M_mayGet X1414 a3 a4 a2 (nI 1)) (fun v1416 X1417 =>
                            if v1416 = nI 0 then
                              (some (ab_up X1417 13 0 (nI 4))).bind fun X1418 =>
                              some ((), X1418)
                            else
                              ab_b3 (F_M_mayGet X1417 a5 a6 a4 (nI 1)) (fun v1419 X1420 =>
                                if v1419 = nI 0 then
                                  (some (ab_up X1420 13 0 (nI 4))).bind fun X1429 =>
                                  some ((), X1429)
                                else
                                  ab_b3 (F_M_reasons X1420 (nI 0) (nI 0) (-1 : Int32)) (fun _ X1421 =>
                                    ab_b3 (F_M_keeps X1421) (fun _ X1422 =>
                                      (F_M_awardOf X1422 a1 a2).bind fun v1423 =>
                                      (F_M_awardOf X1422 a3 a4).bind fun v1424 =>
                                      (F_M_awardOf X1422 a5 a6).bind fun v1425 =>
                                      if ab_in ((nI 309) + ((nI 2) * v1423)) 4455 = true then
                                        (some (ab_up X1422 14 (((nI 309) + ((nI 2) * v1423)).toNatClampNeg) a3)).bind fun X1426 =>
                                        if ab_in ((nI 309) + ((nI 2) * v1424)) 4455 = true then
                                          (some (ab_up X1426 14 (((nI 309) + ((nI 2) * v1424)).toNatClampNeg) a5)).bind fun X1427 =>
                                          if ab_in ((nI 309) + ((nI 2) * v1425)) 4455 = true then
                                            (some (ab_up X1427 14 (((nI 309) + ((nI 2) * v1425)).toNatClampNeg) a1)).bind fun X1428 =>
                                            some ((), X1428)
                                          else none
                                        else none
                                      else none)))))
                    else
                      some ((), X1412)
                  else
                    (F_M_awardOf X a1 a2).bind fun v1337 =>
                    if v1337 < nI 0 then
                      (some (ab_up X 13 0 (nI 3))).bind fun X1338 =>
                      if X1338 13 0 = nI 0 then
                        ab_b3 (F_M_mayGet X1338 a1 a2 a6 (nI 1)) (fun v1339 X1340 =>
                          if v1339 = nI 0 then
                            (some (ab_up X1340 13 0 (nI 4))).bind fun X1341 =>
                            some ((), X1341)
                          else
                            ab_b3 (F_M_mayGet X1340 a3 a4 a2 (nI 1)) (fun v1342 X1343 =>
                              if v1342 = nI 0 then
                                (some (ab_up X1343 13 0 (nI 4))).bind fun X1344 =>
                                some ((), X1344)
                              else
                                ab_b3 (F_M_mayGet X1343 a5 a6 a4 (nI 1)) (fun v1345 X1346 =>
                                  if v1345 = nI 0 then
                                    (some (ab_up X1346 13 0 (nI 4))).bind fun X1355 =>
                                    some ((), X1355)
                                  else
                                    ab_b3 (F_M_reasons X1346 (nI 0) (nI 0) (-1 : Int32)) (fun _ X1347 =>
                                      ab_b3 (F_M_keeps X1347) (fun _ X1348 =>
                                        (F_M_awardOf X1348 a1 a2).bind fun v1349 =>
                                        (F_M_awardOf X1348 a3 a4).bind fun v1350 =>
                                        (F_M_awardOf X1348 a5 a6).bind fun v1351 =>
                                        if ab_in ((nI 309) + ((nI 2) * v1349)) 4455 = true then
                                          (some (ab_up X1348 14 (((nI 309) + ((nI 2) * v1349)).toNatClampNeg) a3)).bind fun X1352 =>
                                          if ab_in ((nI 309) + ((nI 2) * v1350)) 4455 = true then
                                            (some (ab_up X1352 14 (((nI 309) + ((nI 2) * v1350)).toNatClampNeg) a5)).bind fun X1353 =>
                                            if ab_in ((nI 309) + ((nI 2) * v1351)) 4455 = true then
                                              (some (ab_up X1353 14 (((nI 309) + ((nI 2) * v1351)).toNatClampNeg) a1)).bind fun X1354 =>
                                              some ((), X1354)
                                            else none
                                          else none
                                        else none)))))
                      else
                        some ((), X1338)
                    else
                      (F_M_awardOf X a3 a4).bind fun v1356 =>
                      if v1356 < nI 0 then
                        (some (ab_up X 13 0 (nI 3))).bind fun X1357 =>
                        if X1357 13 0 = nI 0 then
                          ab_b3 (F_M_mayGet X1357 a1 a2 a6 (nI 1)) (fun v1358 X1359 =>
                            if v1358 = nI 0 then
                              (some (ab_up X1359 13 0 (nI 4))).bind fun X1360 =>
                              some ((), X1360)
                            else
                              ab_b3 (F_M_mayGet X1359 a3 a4 a2 (nI 1)) (fun v1361 X1362 =>
                                if v1361 = nI 0 then
                                  (some (ab_up X1362 13 0 (nI 4))).bind fun X1363 =>
                                  some ((), X1363)
                                else
                                  ab_b3 (F_M_mayGet X1362 a5 a6 a4 (nI 1)) (fun v1364 X1365 =>
                                    if v1364 = nI 0 then
                                      (some (ab_up X1365 13 0 (nI 4))).bind fun X1374 =>
                                      some ((), X1374)
                                    else
                                      ab_b3 (F_M_reasons X1365 (nI 0) (nI 0) (-1 : Int32)) (fun _ X1366 =>
                                        ab_b3 (F_M_keeps X1366) (fun _ X1367 =>
                                          (F_M_awardOf X1367 a1 a2).bind fun v1368 =>
                                          (F_M_awardOf X1367 a3 a4).bind fun v1369 =>
                                          (F_M_awardOf X1367 a5 a6).bind fun v1370 =>
                                          if ab_in ((nI 309) + ((nI 2) * v1368)) 4455 = true then
                                            (some (ab_up X1367 14 (((nI 309) + ((nI 2) * v1368)).toNatClampNeg) a3)).bind fun X1371 =>
                                            if ab_in ((nI 309) + ((nI 2) * v1369)) 4455 = true then
                                              (some (ab_up X1371 14 (((nI 309) + ((nI 2) * v1369)).toNatClampNeg) a5)).bind fun X1372 =>
                                              if ab_in ((nI 309) + ((nI 2) * v1370)) 4455 = true then
                                                (some (ab_up X1372 14 (((nI 309) + ((nI 2) * v1370)).toNatClampNeg) a1)).bind fun X1373 =>
                                                some ((), X1373)
                                              else none
                                            else none
                                          else none)))))
                        else
                          some ((), X1357)
                      else
                        (F_M_awardOf X a5 a6).bind fun v1375 =>
                        if nI 0 ≤ v1375 then
                          (some (ab_up X 13 0 (nI 0))).bind fun X1376 =>
                          if X1376 13 0 = nI 0 then
                            ab_b3 (F_M_mayGet X1376 a1 a2 a6 (nI 1)) (fun v1377 X1378 =>
                              if v1377 = nI 0 then
                                (some (ab_up X1378 13 0 (nI 4))).bind fun X1379 =>
                                some ((), X1379)
                              else
                                ab_b3 (F_M_mayGet X1378 a3 a4 a2 (nI 1)) (fun v1380 X1381 =>
                                  if v1380 = nI 0 then
                                    (some (ab_up X1381 13 0 (nI 4))).bind fun X1382 =>
                                    some ((), X1382)
                                  else
                                    ab_b3 (F_M_mayGet X1381 a5 a6 a4 (nI 1)) (fun v1383 X1384 =>
                                      if v1383 = nI 0 then
                                        (some (ab_up X1384 13 0 (nI 4))).bind fun X1393 =>
                                        some ((), X1393)
                                      else
                                        ab_b3 (F_M_reasons X1384 (nI 0) (nI 0) (-1 : Int32)) (fun _ X1385 =>
                                          ab_b3 (F_M_keeps X1385) (fun _ X1386 =>
                                            (F_M_awardOf X1386 a1 a2).bind fun v1387 =>
                                            (F_M_awardOf X1386 a3 a4).bind fun v1388 =>
                                            (F_M_awardOf X1386 a5 a6).bind fun v1389 =>
                                            if ab_in ((nI 309) + ((nI 2) * v1387)) 4455 = true then
                                              (some (ab_up X1386 14 (((nI 309) + ((nI 2) * v1387)).toNatClampNeg) a3)).bind fun X1390 =>
                                              if ab_in ((nI 309) + ((nI 2) * v1388)) 4455 = true then
                                                (some (ab_up X1390 14 (((nI 309) + ((nI 2) * v1388)).toNatClampNeg) a5)).bind fun X1391 =>
                                                if ab_in ((nI 309) + ((nI 2) * v1389)) 4455 = true then
                                                  (some (ab_up X1391 14 (((nI 309) + ((nI 2) * v1389)).toNatClampNeg) a1)).bind fun X1392 =>
                                                  some ((), X1392)
                                                else none
                                              else none
                                            else none)))))
                          else
                            some ((), X1376)
                        else
                          (some (ab_up X 13 0 (nI 3))).bind fun X1394 =>
                          if X1394 13 0 = nI 0 then
                            ab_b3 (F_M_mayGet X1394 a1 a2 a6 (nI 1)) (fun v1395 X1396 =>
                              if v1395 = nI 0 then
                                (some (ab_up X1396 13 0 (nI 4))).bind fun X1397 =>
                                some ((), X1397)
                              else
                                ab_b3 (F_M_mayGet X1396 a3 a4 a2 (nI 1)) (fun v1398 X1399 =>
                                  if v1398 = nI 0 then
                                    (some (ab_up X1399 13 0 (nI 4))).bind fun X1400 =>
                                    some ((), X1400)
                                  else
                                    ab_b3 (F_M_mayGet X1399 a5 a6 a4 (nI 1)) (fun v1401 X1402 =>
                                      if v1401 = nI 0 then
                                        (some (ab_up X1402 13 0 (nI 4))).bind fun X1411 =>
                                        some ((), X1411)
                                      else
                                        ab_b3 (F_M_reasons X1402 (nI 0) (nI 0) (-1 : Int32)) (fun _ X1403 =>
                                          ab_b3 (F_M_keeps X1403) (fun _ X1404 =>
                                            (F_M_awardOf X1404 a1 a2).bind fun v1405 =>
                                            (F_M_awardOf X1404 a3 a4).bind fun v1406 =>
                                            (F_M_awardOf X1404 a5 a6).bind fun v1407 =>
                                            if ab_in ((nI 309) + ((nI 2) * v1405)) 4455 = true then
                                              (some (ab_up X1404 14 (((nI 309) + ((nI 2) * v1405)).toNatClampNeg) a3)).bind fun X1408 =>
                                              if ab_in ((nI 309) + ((nI 2) * v1406)) 4455 = true then
                                                (some (ab_up X1408 14 (((nI 309) + ((nI 2) * v1406)).toNatClampNeg) a5)).bind fun X1409 =>
                                                if ab_in ((nI 309) + ((nI 2) * v1407)) 4455 = true then
                                                  (some (ab_up X1409 14 (((nI 309) + ((nI 2) * v1407)).toNatClampNeg) a1)).bind fun X1410 =>
                                                  some ((), X1410)
                                                else none
                                              else none
                                            else none)))))
                          else
                            some ((), X1394)
set_option maxRecDepth 4000 in
theorem T_M_rotate (S : Nat × (Nat → Int32)) (w : ab_WW) (X : ab_XX) (a1 : Int32) (a2 : Int32) (a3 : Int32) (a4 : Int32) (a5 : Int32) (a6 : Int32) : ab_Eg (ab_m3 ab_fU w) S 248 (0, lv_args 0 [.ref 13, .int a1, .int a2, .int a3, .int a4, .int a5, .int a6], [], (X, w)) (F_M_rotate X a1 a2 a3 a4 a5 a6) := by
  show ab_Eg (ab_m3 ab_fU w) S 248 (0, [(0, .ref 13), (1, .int a1), (2, .int a2), (3, .int a3), (4, .int a4), (5, .int a5), (6, .int a6)], [], (X, w)) _
  unfold F_M_rotate
  refine ab_e_go 2 (2, [(0, .ref 13), (1, .int a1), (2, .int a2), (3, .int a3), (4, .int a4), (5, .int a5), (6, .int a6)], [.int a1, .ref 13], (X, w)) rfl ?_
  refine ab_e_c1 (k2 := 98) (as := [.ref 13, .int a1]) (rest := []) rfl rfl (T_M_isWorker S w X a1) (fun v1187 => ?_)
  refine ab_e_br (c := v1187 = nI 0) (55, [(0, .ref 13), (1, .int a1), (2, .int a2), (3, .int a3), (4, .int a4), (5, .int a5), (6, .int a6)], [], (X, w)) (8, [(0, .ref 13), (1, .int a1), (2, .int a2), (3, .int a3), (4, .int a4), (5, .int a5), (6, .int a6)], [], (X, w)) rfl (fun _ => ?_) (fun _ => ?_)
  · refine ab_e_go 8 (127, [(7, .int (nI 0)), (0, .ref 13), (1, .int a1), (2, .int a2), (3, .int a3), (4, .int a4), (5, .int a5), (6, .int a6)], [], ((ab_up X 13 0 (nI 1)), w)) rfl ?_
    refine ab_e_letX (fun X1188 _ => ?_)
    refine ab_e_go 2 (131, [(7, .int (nI 0)), (0, .ref 13), (1, .int a1), (2, .int a2), (3, .int a3), (4, .int a4), (5, .int a5), (6, .int a6)], [.int (X1188 13 0)], (X1188, w)) rfl ?_
    refine ab_e_br (c := X1188 13 0 = nI 0) (135, [(7, .int (nI 0)), (0, .ref 13), (1, .int a1), (2, .int a2), (3, .int a3), (4, .int a4), (5, .int a5), (6, .int a6)], [], (X1188, w)) (134, [(7, .int (nI 0)), (0, .ref 13), (1, .int a1), (2, .int a2), (3, .int a3), (4, .int a4), (5, .int a5), (6, .int a6)], [], (X1188, w)) rfl (fun _ => ?_) (fun _ => ?_)
    · refine ab_e_go 5 (141, [(7, .int (nI 0)), (0, .ref 13), (1, .int a1), (2, .int a2), (3, .int a3), (4, .int a4), (5, .int a5), (6, .int a6)], [.int (nI 1), .int a6, .int a2, .int a1, .ref 13], (X1188, w)) rfl ?_
      refine ab_e_c3 (k2 := 241) (as := [.ref 13, .int a1, .int a2, .int a6, .int (nI 1)]) (rest := []) rfl rfl (T_M_mayGet S w X1188 a1 a2 a6 (nI 1)) (fun v1189 X1190 => ?_)
      refine ab_e_br (c := v1189 = nI 0) (173, [(7, .int (nI 0)), (0, .ref 13), (1, .int a1), (2, .int a2), (3, .int a3), (4, .int a4), (5, .int a5), (6, .int a6)], [], (X1190, w)) (147, [(7, .int (nI 0)), (0, .ref 13), (1, .int a1), (2, .int a2), (3, .int a3), (4, .int a4), (5, .int a5), (6, .int a6)], [], (X1190, w)) rfl (fun _ => ?_) (fun _ => ?_)
      · refine ab_e_go 3 (178, [(7, .int (nI 0)), (0, .ref 13), (1, .int a1), (2, .int a2), (3, .int a3), (4, .int a4), (5, .int a5), (6, .int a6)], [], ((ab_up X1190 13 0 (nI 4)), w)) rfl ?_
        refine ab_e_letX (fun X1191 _ => ?_)
        exact ab_e_rt rfl rfl
      · refine ab_e_go 5 (153, [(7, .int (nI 0)), (0, .ref 13), (1, .int a1), (2, .int a2), (3, .int a3), (4, .int a4), (5, .int a5), (6, .int a6)], [.int (nI 1), .int a2, .int a4, .int a3, .ref 13], (X1190, w)) rfl ?_
        refine ab_e_c3 (k2 := 241) (as := [.ref 13, .int a3, .int a4, .int a2, .int (nI 1)]) (rest := []) rfl rfl (T_M_mayGet S w X1190 a3 a4 a2 (nI 1)) (fun v1192 X1193 => ?_)
        refine ab_e_br (c := v1192 = nI 0) (173, [(7, .int (nI 0)), (0, .ref 13), (1, .int a1), (2, .int a2), (3, .int a3), (4, .int a4), (5, .int a5), (6, .int a6)], [], (X1193, w)) (159, [(7, .int (nI 0)), (0, .ref 13), (1, .int a1), (2, .int a2), (3, .int a3), (4, .int a4), (5, .int a5), (6, .int a6)], [], (X1193, w)) rfl (fun _ => ?_) (fun _ => ?_)
        · refine ab_e_go 3 (178, [(7, .int (nI 0)), (0, .ref 13), (1, .int a1), (2, .int a2), (3, .int a3), (4, .int a4), (5, .int a5), (6, .int a6)], [], ((ab_up X1193 13 0 (nI 4)), w)) rfl ?_
          refine ab_e_letX (fun X1194 _ => ?_)
          exact ab_e_rt rfl rfl
        · refine ab_e_go 5 (167, [(7, .int (nI 0)), (0, .ref 13), (1, .int a1), (2, .int a2), (3, .int a3), (4, .int a4), (5, .int a5), (6, .int a6)], [.int (nI 1), .int a4, .int a6, .int a5, .ref 13], (X1193, w)) rfl ?_
          refine ab_e_c3 (k2 := 241) (as := [.ref 13, .int a5, .int a6, .int a4, .int (nI 1)]) (rest := []) rfl rfl (T_M_mayGet S w X1193 a5 a6 a4 (nI 1)) (fun v1195 X1196 => ?_)
          refine ab_e_bn (c := v1195 = nI 0) (179, [(7, .int (nI 0)), (0, .ref 13), (1, .int a1), (2, .int a2), (3, .int a3), (4, .int a4), (5, .int a5), (6, .int a6)], [], (X1196, w)) (173, [(7, .int (nI 0)), (0, .ref 13), (1, .int a1), (2, .int a2), (3, .int a3), (4, .int a4), (5, .int a5), (6, .int a6)], [], (X1196, w)) rfl (fun _ => ?_) (fun _ => ?_)
          · refine ab_e_go 4 (183, [(7, .int (nI 0)), (0, .ref 13), (1, .int a1), (2, .int a2), (3, .int a3), (4, .int a4), (5, .int a5), (6, .int a6)], [.int (-1 : Int32), .int (nI 0), .int (nI 0), .ref 13], (X1196, w)) rfl ?_
            refine ab_e_c3 (k2 := 42) (as := [.ref 13, .int (nI 0), .int (nI 0), .int (-1 : Int32)]) (rest := []) rfl rfl (T_M_reasons S w X1196 (nI 0) (nI 0) (-1 : Int32)) (fun _ X1197 => ?_)
            refine ab_e_go 1 (187, [(7, .int (nI 0)), (0, .ref 13), (1, .int a1), (2, .int a2), (3, .int a3), (4, .int a4), (5, .int a5), (6, .int a6)], [.ref 13], (X1197, w)) rfl ?_
            refine ab_e_c3 (k2 := 99) (as := [.ref 13]) (rest := []) rfl rfl (T_M_keeps S w X1197) (fun _ X1198 => ?_)
            refine ab_e_go 3 (193, [(7, .int (nI 0)), (0, .ref 13), (1, .int a1), (2, .int a2), (3, .int a3), (4, .int a4), (5, .int a5), (6, .int a6)], [.int a2, .int a1, .ref 13], (X1198, w)) rfl ?_
            refine ab_e_c1 (k2 := 87) (as := [.ref 13, .int a1, .int a2]) (rest := []) rfl rfl (T_M_awardOf S w X1198 a1 a2) (fun v1199 => ?_)
            refine ab_e_go 4 (202, [(8, .int v1199), (7, .int (nI 0)), (0, .ref 13), (1, .int a1), (2, .int a2), (3, .int a3), (4, .int a4), (5, .int a5), (6, .int a6)], [.int a4, .int a3, .ref 13], (X1198, w)) rfl ?_
            refine ab_e_c1 (k2 := 87) (as := [.ref 13, .int a3, .int a4]) (rest := []) rfl rfl (T_M_awardOf S w X1198 a3 a4) (fun v1200 => ?_)
            refine ab_e_go 4 (212, [(9, .int v1200), (8, .int v1199), (7, .int (nI 0)), (0, .ref 13), (1, .int a1), (2, .int a2), (3, .int a3), (4, .int a4), (5, .int a5), (6, .int a6)], [.int a6, .int a5, .ref 13], (X1198, w)) rfl ?_
            refine ab_e_c1 (k2 := 87) (as := [.ref 13, .int a5, .int a6]) (rest := []) rfl rfl (T_M_awardOf S w X1198 a5 a6) (fun v1201 => ?_)
            refine ab_e_go 9 (230, [(10, .int v1201), (9, .int v1200), (8, .int v1199), (7, .int (nI 0)), (0, .ref 13), (1, .int a1), (2, .int a2), (3, .int a3), (4, .int a4), (5, .int a5), (6, .int a6)], [.int a3, .int ((nI 309) + ((nI 2) * v1199)), .ref 14], (X1198, w)) rfl ?_
            refine ab_e_gd (231, [(10, .int v1201), (9, .int v1200), (8, .int v1199), (7, .int (nI 0)), (0, .ref 13), (1, .int a1), (2, .int a2), (3, .int a3), (4, .int a4), (5, .int a5), (6, .int a6)], [], ((ab_up X1198 14 (((nI 309) + ((nI 2) * v1199)).toNatClampNeg) a3), w)) rfl ?_
            refine ab_e_letX (fun X1202 _ => ?_)
            refine ab_e_go 8 (245, [(10, .int v1201), (9, .int v1200), (8, .int v1199), (7, .int (nI 0)), (0, .ref 13), (1, .int a1), (2, .int a2), (3, .int a3), (4, .int a4), (5, .int a5), (6, .int a6)], [.int a5, .int ((nI 309) + ((nI 2) * v1200)), .ref 14], (X1202, w)) rfl ?_
            refine ab_e_gd (246, [(10, .int v1201), (9, .int v1200), (8, .int v1199), (7, .int (nI 0)), (0, .ref 13), (1, .int a1), (2, .int a2), (3, .int a3), (4, .int a4), (5, .int a5), (6, .int a6)], [], ((ab_up X1202 14 (((nI 309) + ((nI 2) * v1200)).toNatClampNeg) a5), w)) rfl ?_
            refine ab_e_letX (fun X1203 _ => ?_)
            refine ab_e_go 8 (259, [(10, .int v1201), (9, .int v1200), (8, .int v1199), (7, .int (nI 0)), (0, .ref 13), (1, .int a1), (2, .int a2), (3, .int a3), (4, .int a4), (5, .int a5), (6, .int a6)], [.int a1, .int ((nI 309) + ((nI 2) * v1201)), .ref 14], (X1203, w)) rfl ?_
            refine ab_e_gd (260, [(10, .int v1201), (9, .int v1200), (8, .int v1199), (7, .int (nI 0)), (0, .ref 13), (1, .int a1), (2, .int a2), (3, .int a3), (4, .int a4), (5, .int a5), (6, .int a6)], [], ((ab_up X1203 14 (((nI 309) + ((nI 2) * v1201)).toNatClampNeg) a1), w)) rfl ?_
            refine ab_e_letX (fun X1204 _ => ?_)
            exact ab_e_rt rfl rfl
          · refine ab_e_go 3 (178, [(7, .int (nI 0)), (0, .ref 13), (1, .int a1), (2, .int a2), (3, .int a3), (4, .int a4), (5, .int a5), (6, .int a6)], [], ((ab_up X1196 13 0 (nI 4)), w)) rfl ?_
            refine ab_e_letX (fun X1205 _ => ?_)
            exact ab_e_rt rfl rfl
    · exact ab_e_rt rfl rfl
  · refine ab_e_go 2 (10, [(0, .ref 13), (1, .int a1), (2, .int a2), (3, .int a3), (4, .int a4), (5, .int a5), (6, .int a6)], [.int a2, .ref 13], (X, w)) rfl ?_
    refine ab_e_c1 (k2 := 97) (as := [.ref 13, .int a2]) (rest := []) rfl rfl (T_M_isShift S w X a2) (fun v1206 => ?_)
    refine ab_e_br (c := v1206 = nI 0) (55, [(0, .ref 13), (1, .int a1), (2, .int a2), (3, .int a3), (4, .int a4), (5, .int a5), (6, .int a6)], [], (X, w)) (16, [(0, .ref 13), (1, .int a1), (2, .int a2), (3, .int a3), (4, .int a4), (5, .int a5), (6, .int a6)], [], (X, w)) rfl (fun _ => ?_) (fun _ => ?_)
    · refine ab_e_go 8 (127, [(7, .int (nI 0)), (0, .ref 13), (1, .int a1), (2, .int a2), (3, .int a3), (4, .int a4), (5, .int a5), (6, .int a6)], [], ((ab_up X 13 0 (nI 1)), w)) rfl ?_
      refine ab_e_letX (fun X1207 _ => ?_)
      refine ab_e_go 2 (131, [(7, .int (nI 0)), (0, .ref 13), (1, .int a1), (2, .int a2), (3, .int a3), (4, .int a4), (5, .int a5), (6, .int a6)], [.int (X1207 13 0)], (X1207, w)) rfl ?_
      refine ab_e_br (c := X1207 13 0 = nI 0) (135, [(7, .int (nI 0)), (0, .ref 13), (1, .int a1), (2, .int a2), (3, .int a3), (4, .int a4), (5, .int a5), (6, .int a6)], [], (X1207, w)) (134, [(7, .int (nI 0)), (0, .ref 13), (1, .int a1), (2, .int a2), (3, .int a3), (4, .int a4), (5, .int a5), (6, .int a6)], [], (X1207, w)) rfl (fun _ => ?_) (fun _ => ?_)
      · refine ab_e_go 5 (141, [(7, .int (nI 0)), (0, .ref 13), (1, .int a1), (2, .int a2), (3, .int a3), (4, .int a4), (5, .int a5), (6, .int a6)], [.int (nI 1), .int a6, .int a2, .int a1, .ref 13], (X1207, w)) rfl ?_
        refine ab_e_c3 (k2 := 241) (as := [.ref 13, .int a1, .int a2, .int a6, .int (nI 1)]) (rest := []) rfl rfl (T_M_mayGet S w X1207 a1 a2 a6 (nI 1)) (fun v1208 X1209 => ?_)
        refine ab_e_br (c := v1208 = nI 0) (173, [(7, .int (nI 0)), (0, .ref 13), (1, .int a1), (2, .int a2), (3, .int a3), (4, .int a4), (5, .int a5), (6, .int a6)], [], (X1209, w)) (147, [(7, .int (nI 0)), (0, .ref 13), (1, .int a1), (2, .int a2), (3, .int a3), (4, .int a4), (5, .int a5), (6, .int a6)], [], (X1209, w)) rfl (fun _ => ?_) (fun _ => ?_)
        · refine ab_e_go 3 (178, [(7, .int (nI 0)), (0, .ref 13), (1, .int a1), (2, .int a2), (3, .int a3), (4, .int a4), (5, .int a5), (6, .int a6)], [], ((ab_up X1209 13 0 (nI 4)), w)) rfl ?_
          refine ab_e_letX (fun X1210 _ => ?_)
          exact ab_e_rt rfl rfl
        · refine ab_e_go 5 (153, [(7, .int (nI 0)), (0, .ref 13), (1, .int a1), (2, .int a2), (3, .int a3), (4, .int a4), (5, .int a5), (6, .int a6)], [.int (nI 1), .int a2, .int a4, .int a3, .ref 13], (X1209, w)) rfl ?_
          refine ab_e_c3 (k2 := 241) (as := [.ref 13, .int a3, .int a4, .int a2, .int (nI 1)]) (rest := []) rfl rfl (T_M_mayGet S w X1209 a3 a4 a2 (nI 1)) (fun v1211 X1212 => ?_)
          refine ab_e_br (c := v1211 = nI 0) (173, [(7, .int (nI 0)), (0, .ref 13), (1, .int a1), (2, .int a2), (3, .int a3), (4, .int a4), (5, .int a5), (6, .int a6)], [], (X1212, w)) (159, [(7, .int (nI 0)), (0, .ref 13), (1, .int a1), (2, .int a2), (3, .int a3), (4, .int a4), (5, .int a5), (6, .int a6)], [], (X1212, w)) rfl (fun _ => ?_) (fun _ => ?_)
          · refine ab_e_go 3 (178, [(7, .int (nI 0)), (0, .ref 13), (1, .int a1), (2, .int a2), (3, .int a3), (4, .int a4), (5, .int a5), (6, .int a6)], [], ((ab_up X1212 13 0 (nI 4)), w)) rfl ?_
            refine ab_e_letX (fun X1213 _ => ?_)
            exact ab_e_rt rfl rfl
          · refine ab_e_go 5 (167, [(7, .int (nI 0)), (0, .ref 13), (1, .int a1), (2, .int a2), (3, .int a3), (4, .int a4), (5, .int a5), (6, .int a6)], [.int (nI 1), .int a4, .int a6, .int a5, .ref 13], (X1212, w)) rfl ?_
            refine ab_e_c3 (k2 := 241) (as := [.ref 13, .int a5, .int a6, .int a4, .int (nI 1)]) (rest := []) rfl rfl (T_M_mayGet S w X1212 a5 a6 a4 (nI 1)) (fun v1214 X1215 => ?_)
            refine ab_e_bn (c := v1214 = nI 0) (179, [(7, .int (nI 0)), (0, .ref 13), (1, .int a1), (2, .int a2), (3, .int a3), (4, .int a4), (5, .int a5), (6, .int a6)], [], (X1215, w)) (173, [(7, .int (nI 0)), (0, .ref 13), (1, .int a1), (2, .int a2), (3, .int a3), (4, .int a4), (5, .int a5), (6, .int a6)], [], (X1215, w)) rfl (fun _ => ?_) (fun _ => ?_)
            · refine ab_e_go 4 (183, [(7, .int (nI 0)), (0, .ref 13), (1, .int a1), (2, .int a2), (3, .int a3), (4, .int a4), (5, .int a5), (6, .int a6)], [.int (-1 : Int32), .int (nI 0), .int (nI 0), .ref 13], (X1215, w)) rfl ?_
              refine ab_e_c3 (k2 := 42) (as := [.ref 13, .int (nI 0), .int (nI 0), .int (-1 : Int32)]) (rest := []) rfl rfl (T_M_reasons S w X1215 (nI 0) (nI 0) (-1 : Int32)) (fun _ X1216 => ?_)
              refine ab_e_go 1 (187, [(7, .int (nI 0)), (0, .ref 13), (1, .int a1), (2, .int a2), (3, .int a3), (4, .int a4), (5, .int a5), (6, .int a6)], [.ref 13], (X1216, w)) rfl ?_
              refine ab_e_c3 (k2 := 99) (as := [.ref 13]) (rest := []) rfl rfl (T_M_keeps S w X1216) (fun _ X1217 => ?_)
              refine ab_e_go 3 (193, [(7, .int (nI 0)), (0, .ref 13), (1, .int a1), (2, .int a2), (3, .int a3), (4, .int a4), (5, .int a5), (6, .int a6)], [.int a2, .int a1, .ref 13], (X1217, w)) rfl ?_
              refine ab_e_c1 (k2 := 87) (as := [.ref 13, .int a1, .int a2]) (rest := []) rfl rfl (T_M_awardOf S w X1217 a1 a2) (fun v1218 => ?_)
              refine ab_e_go 4 (202, [(8, .int v1218), (7, .int (nI 0)), (0, .ref 13), (1, .int a1), (2, .int a2), (3, .int a3), (4, .int a4), (5, .int a5), (6, .int a6)], [.int a4, .int a3, .ref 13], (X1217, w)) rfl ?_
              refine ab_e_c1 (k2 := 87) (as := [.ref 13, .int a3, .int a4]) (rest := []) rfl rfl (T_M_awardOf S w X1217 a3 a4) (fun v1219 => ?_)
              refine ab_e_go 4 (212, [(9, .int v1219), (8, .int v1218), (7, .int (nI 0)), (0, .ref 13), (1, .int a1), (2, .int a2), (3, .int a3), (4, .int a4), (5, .int a5), (6, .int a6)], [.int a6, .int a5, .ref 13], (X1217, w)) rfl ?_
              refine ab_e_c1 (k2 := 87) (as := [.ref 13, .int a5, .int a6]) (rest := []) rfl rfl (T_M_awardOf S w X1217 a5 a6) (fun v1220 => ?_)
              refine ab_e_go 9 (230, [(10, .int v1220), (9, .int v1219), (8, .int v1218), (7, .int (nI 0)), (0, .ref 13), (1, .int a1), (2, .int a2), (3, .int a3), (4, .int a4), (5, .int a5), (6, .int a6)], [.int a3, .int ((nI 309) + ((nI 2) * v1218)), .ref 14], (X1217, w)) rfl ?_
              refine ab_e_gd (231, [(10, .int v1220), (9, .int v1219), (8, .int v1218), (7, .int (nI 0)), (0, .ref 13), (1, .int a1), (2, .int a2), (3, .int a3), (4, .int a4), (5, .int a5), (6, .int a6)], [], ((ab_up X1217 14 (((nI 309) + ((nI 2) * v1218)).toNatClampNeg) a3), w)) rfl ?_
              refine ab_e_letX (fun X1221 _ => ?_)
              refine ab_e_go 8 (245, [(10, .int v1220), (9, .int v1219), (8, .int v1218), (7, .int (nI 0)), (0, .ref 13), (1, .int a1), (2, .int a2), (3, .int a3), (4, .int a4), (5, .int a5), (6, .int a6)], [.int a5, .int ((nI 309) + ((nI 2) * v1219)), .ref 14], (X1221, w)) rfl ?_
              refine ab_e_gd (246, [(10, .int v1220), (9, .int v1219), (8, .int v1218), (7, .int (nI 0)), (0, .ref 13), (1, .int a1), (2, .int a2), (3, .int a3), (4, .int a4), (5, .int a5), (6, .int a6)], [], ((ab_up X1221 14 (((nI 309) + ((nI 2) * v1219)).toNatClampNeg) a5), w)) rfl ?_
              refine ab_e_letX (fun X1222 _ => ?_)
              refine ab_e_go 8 (259, [(10, .int v1220), (9, .int v1219), (8, .int v1218), (7, .int (nI 0)), (0, .ref 13), (1, .int a1), (2, .int a2), (3, .int a3), (4, .int a4), (5, .int a5), (6, .int a6)], [.int a1, .int ((nI 309) + ((nI 2) * v1220)), .ref 14], (X1222, w)) rfl ?_
              refine ab_e_gd (260, [(10, .int v1220), (9, .int v1219), (8, .int v1218), (7, .int (nI 0)), (0, .ref 13), (1, .int a1), (2, .int a2), (3, .int a3), (4, .int a4), (5, .int a5), (6, .int a6)], [], ((ab_up X1222 14 (((nI 309) + ((nI 2) * v1220)).toNatClampNeg) a1), w)) rfl ?_
              refine ab_e_letX (fun X1223 _ => ?_)
              exact ab_e_rt rfl rfl
            · refine ab_e_go 3 (178, [(7, .int (nI 0)), (0, .ref 13), (1, .int a1), (2, .int a2), (3, .int a3), (4, .int a4), (5, .int a5), (6, .int a6)], [], ((ab_up X1215 13 0 (nI 4)), w)) rfl ?_
              refine ab_e_letX (fun X1224 _ => ?_)
              exact ab_e_rt rfl rfl
      · exact ab_e_rt rfl rfl
    · refine ab_e_go 2 (18, [(0, .ref 13), (1, .int a1), (2, .int a2), (3, .int a3), (4, .int a4), (5, .int a5), (6, .int a6)], [.int a3, .ref 13], (X, w)) rfl ?_
      refine ab_e_c1 (k2 := 98) (as := [.ref 13, .int a3]) (rest := []) rfl rfl (T_M_isWorker S w X a3) (fun v1225 => ?_)
      refine ab_e_br (c := v1225 = nI 0) (55, [(0, .ref 13), (1, .int a1), (2, .int a2), (3, .int a3), (4, .int a4), (5, .int a5), (6, .int a6)], [], (X, w)) (24, [(0, .ref 13), (1, .int a1), (2, .int a2), (3, .int a3), (4, .int a4), (5, .int a5), (6, .int a6)], [], (X, w)) rfl (fun _ => ?_) (fun _ => ?_)
      · refine ab_e_go 8 (127, [(7, .int (nI 0)), (0, .ref 13), (1, .int a1), (2, .int a2), (3, .int a3), (4, .int a4), (5, .int a5), (6, .int a6)], [], ((ab_up X 13 0 (nI 1)), w)) rfl ?_
        refine ab_e_letX (fun X1226 _ => ?_)
        refine ab_e_go 2 (131, [(7, .int (nI 0)), (0, .ref 13), (1, .int a1), (2, .int a2), (3, .int a3), (4, .int a4), (5, .int a5), (6, .int a6)], [.int (X1226 13 0)], (X1226, w)) rfl ?_
        refine ab_e_br (c := X1226 13 0 = nI 0) (135, [(7, .int (nI 0)), (0, .ref 13), (1, .int a1), (2, .int a2), (3, .int a3), (4, .int a4), (5, .int a5), (6, .int a6)], [], (X1226, w)) (134, [(7, .int (nI 0)), (0, .ref 13), (1, .int a1), (2, .int a2), (3, .int a3), (4, .int a4), (5, .int a5), (6, .int a6)], [], (X1226, w)) rfl (fun _ => ?_) (fun _ => ?_)
        · refine ab_e_go 5 (141, [(7, .int (nI 0)), (0, .ref 13), (1, .int a1), (2, .int a2), (3, .int a3), (4, .int a4), (5, .int a5), (6, .int a6)], [.int (nI 1), .int a6, .int a2, .int a1, .ref 13], (X1226, w)) rfl ?_
          refine ab_e_c3 (k2 := 241) (as := [.ref 13, .int a1, .int a2, .int a6, .int (nI 1)]) (rest := []) rfl rfl (T_M_mayGet S w X1226 a1 a2 a6 (nI 1)) (fun v1227 X1228 => ?_)
          refine ab_e_br (c := v1227 = nI 0) (173, [(7, .int (nI 0)), (0, .ref 13), (1, .int a1), (2, .int a2), (3, .int a3), (4, .int a4), (5, .int a5), (6, .int a6)], [], (X1228, w)) (147, [(7, .int (nI 0)), (0, .ref 13), (1, .int a1), (2, .int a2), (3, .int a3), (4, .int a4), (5, .int a5), (6, .int a6)], [], (X1228, w)) rfl (fun _ => ?_) (fun _ => ?_)
          · refine ab_e_go 3 (178, [(7, .int (nI 0)), (0, .ref 13), (1, .int a1), (2, .int a2), (3, .int a3), (4, .int a4), (5, .int a5), (6, .int a6)], [], ((ab_up X1228 13 0 (nI 4)), w)) rfl ?_
            refine ab_e_letX (fun X1229 _ => ?_)
            exact ab_e_rt rfl rfl
          · refine ab_e_go 5 (153, [(7, .int (nI 0)), (0, .ref 13), (1, .int a1), (2, .int a2), (3, .int a3), (4, .int a4), (5, .int a5), (6, .int a6)], [.int (nI 1), .int a2, .int a4, .int a3, .ref 13], (X1228, w)) rfl ?_
            refine ab_e_c3 (k2 := 241) (as := [.ref 13, .int a3, .int a4, .int a2, .int (nI 1)]) (rest := []) rfl rfl (T_M_mayGet S w X1228 a3 a4 a2 (nI 1)) (fun v1230 X1231 => ?_)
            refine ab_e_br (c := v1230 = nI 0) (173, [(7, .int (nI 0)), (0, .ref 13), (1, .int a1), (2, .int a2), (3, .int a3), (4, .int a4), (5, .int a5), (6, .int a6)], [], (X1231, w)) (159, [(7, .int (nI 0)), (0, .ref 13), (1, .int a1), (2, .int a2), (3, .int a3), (4, .int a4), (5, .int a5), (6, .int a6)], [], (X1231, w)) rfl (fun _ => ?_) (fun _ => ?_)
            · refine ab_e_go 3 (178, [(7, .int (nI 0)), (0, .ref 13), (1, .int a1), (2, .int a2), (3, .int a3), (4, .int a4), (5, .int a5), (6, .int a6)], [], ((ab_up X1231 13 0 (nI 4)), w)) rfl ?_
              refine ab_e_letX (fun X1232 _ => ?_)
              exact ab_e_rt rfl rfl
            · refine ab_e_go 5 (167, [(7, .int (nI 0)), (0, .ref 13), (1, .int a1), (2, .int a2), (3, .int a3), (4, .int a4), (5, .int a5), (6, .int a6)], [.int (nI 1), .int a4, .int a6, .int a5, .ref 13], (X1231, w)) rfl ?_
              refine ab_e_c3 (k2 := 241) (as := [.ref 13, .int a5, .int a6, .int a4, .int (nI 1)]) (rest := []) rfl rfl (T_M_mayGet S w X1231 a5 a6 a4 (nI 1)) (fun v1233 X1234 => ?_)
              refine ab_e_bn (c := v1233 = nI 0) (179, [(7, .int (nI 0)), (0, .ref 13), (1, .int a1), (2, .int a2), (3, .int a3), (4, .int a4), (5, .int a5), (6, .int a6)], [], (X1234, w)) (173, [(7, .int (nI 0)), (0, .ref 13), (1, .int a1), (2, .int a2), (3, .int a3), (4, .int a4), (5, .int a5), (6, .int a6)], [], (X1234, w)) rfl (fun _ => ?_) (fun _ => ?_)
              · refine ab_e_go 4 (183, [(7, .int (nI 0)), (0, .ref 13), (1, .int a1), (2, .int a2), (3, .int a3), (4, .int a4), (5, .int a5), (6, .int a6)], [.int (-1 : Int32), .int (nI 0), .int (nI 0), .ref 13], (X1234, w)) rfl ?_
                refine ab_e_c3 (k2 := 42) (as := [.ref 13, .int (nI 0), .int (nI 0), .int (-1 : Int32)]) (rest := []) rfl rfl (T_M_reasons S w X1234 (nI 0) (nI 0) (-1 : Int32)) (fun _ X1235 => ?_)
                refine ab_e_go 1 (187, [(7, .int (nI 0)), (0, .ref 13), (1, .int a1), (2, .int a2), (3, .int a3), (4, .int a4), (5, .int a5), (6, .int a6)], [.ref 13], (X1235, w)) rfl ?_
                refine ab_e_c3 (k2 := 99) (as := [.ref 13]) (rest := []) rfl rfl (T_M_keeps S w X1235) (fun _ X1236 => ?_)
                refine ab_e_go 3 (193, [(7, .int (nI 0)), (0, .ref 13), (1, .int a1), (2, .int a2), (3, .int a3), (4, .int a4), (5, .int a5), (6, .int a6)], [.int a2, .int a1, .ref 13], (X1236, w)) rfl ?_
                refine ab_e_c1 (k2 := 87) (as := [.ref 13, .int a1, .int a2]) (rest := []) rfl rfl (T_M_awardOf S w X1236 a1 a2) (fun v1237 => ?_)
                refine ab_e_go 4 (202, [(8, .int v1237), (7, .int (nI 0)), (0, .ref 13), (1, .int a1), (2, .int a2), (3, .int a3), (4, .int a4), (5, .int a5), (6, .int a6)], [.int a4, .int a3, .ref 13], (X1236, w)) rfl ?_
                refine ab_e_c1 (k2 := 87) (as := [.ref 13, .int a3, .int a4]) (rest := []) rfl rfl (T_M_awardOf S w X1236 a3 a4) (fun v1238 => ?_)
                refine ab_e_go 4 (212, [(9, .int v1238), (8, .int v1237), (7, .int (nI 0)), (0, .ref 13), (1, .int a1), (2, .int a2), (3, .int a3), (4, .int a4), (5, .int a5), (6, .int a6)], [.int a6, .int a5, .ref 13], (X1236, w)) rfl ?_
                refine ab_e_c1 (k2 := 87) (as := [.ref 13, .int a5, .int a6]) (rest := []) rfl rfl (T_M_awardOf S w X1236 a5 a6) (fun v1239 => ?_)
                refine ab_e_go 9 (230, [(10, .int v1239), (9, .int v1238), (8, .int v1237), (7, .int (nI 0)), (0, .ref 13), (1, .int a1), (2, .int a2), (3, .int a3), (4, .int a4), (5, .int a5), (6, .int a6)], [.int a3, .int ((nI 309) + ((nI 2) * v1237)), .ref 14], (X1236, w)) rfl ?_
                refine ab_e_gd (231, [(10, .int v1239), (9, .int v1238), (8, .int v1237), (7, .int (nI 0)), (0, .ref 13), (1, .int a1), (2, .int a2), (3, .int a3), (4, .int a4), (5, .int a5), (6, .int a6)], [], ((ab_up X1236 14 (((nI 309) + ((nI 2) * v1237)).toNatClampNeg) a3), w)) rfl ?_
                refine ab_e_letX (fun X1240 _ => ?_)
                refine ab_e_go 8 (245, [(10, .int v1239), (9, .int v1238), (8, .int v1237), (7, .int (nI 0)), (0, .ref 13), (1, .int a1), (2, .int a2), (3, .int a3), (4, .int a4), (5, .int a5), (6, .int a6)], [.int a5, .int ((nI 309) + ((nI 2) * v1238)), .ref 14], (X1240, w)) rfl ?_
                refine ab_e_gd (246, [(10, .int v1239), (9, .int v1238), (8, .int v1237), (7, .int (nI 0)), (0, .ref 13), (1, .int a1), (2, .int a2), (3, .int a3), (4, .int a4), (5, .int a5), (6, .int a6)], [], ((ab_up X1240 14 (((nI 309) + ((nI 2) * v1238)).toNatClampNeg) a5), w)) rfl ?_
                refine ab_e_letX (fun X1241 _ => ?_)
                refine ab_e_go 8 (259, [(10, .int v1239), (9, .int v1238), (8, .int v1237), (7, .int (nI 0)), (0, .ref 13), (1, .int a1), (2, .int a2), (3, .int a3), (4, .int a4), (5, .int a5), (6, .int a6)], [.int a1, .int ((nI 309) + ((nI 2) * v1239)), .ref 14], (X1241, w)) rfl ?_
                refine ab_e_gd (260, [(10, .int v1239), (9, .int v1238), (8, .int v1237), (7, .int (nI 0)), (0, .ref 13), (1, .int a1), (2, .int a2), (3, .int a3), (4, .int a4), (5, .int a5), (6, .int a6)], [], ((ab_up X1241 14 (((nI 309) + ((nI 2) * v1239)).toNatClampNeg) a1), w)) rfl ?_
                refine ab_e_letX (fun X1242 _ => ?_)
                exact ab_e_rt rfl rfl
              · refine ab_e_go 3 (178, [(7, .int (nI 0)), (0, .ref 13), (1, .int a1), (2, .int a2), (3, .int a3), (4, .int a4), (5, .int a5), (6, .int a6)], [], ((ab_up X1234 13 0 (nI 4)), w)) rfl ?_
                refine ab_e_letX (fun X1243 _ => ?_)
                exact ab_e_rt rfl rfl
        · exact ab_e_rt rfl rfl
      · refine ab_e_go 2 (27, [(0, .ref 13), (1, .int a1), (2, .int a2), (3, .int a3), (4, .int a4), (5, .int a5), (6, .int a6)], [.int a4, .ref 13], (X, w)) rfl ?_
        refine ab_e_c1 (k2 := 97) (as := [.ref 13, .int a4]) (rest := []) rfl rfl (T_M_isShift S w X a4) (fun v1244 => ?_)
        refine ab_e_br (c := v1244 = nI 0) (55, [(0, .ref 13), (1, .int a1), (2, .int a2), (3, .int a3), (4, .int a4), (5, .int a5), (6, .int a6)], [], (X, w)) (33, [(0, .ref 13), (1, .int a1), (2, .int a2), (3, .int a3), (4, .int a4), (5, .int a5), (6, .int a6)], [], (X, w)) rfl (fun _ => ?_) (fun _ => ?_)
        · refine ab_e_go 8 (127, [(7, .int (nI 0)), (0, .ref 13), (1, .int a1), (2, .int a2), (3, .int a3), (4, .int a4), (5, .int a5), (6, .int a6)], [], ((ab_up X 13 0 (nI 1)), w)) rfl ?_
          refine ab_e_letX (fun X1245 _ => ?_)
          refine ab_e_go 2 (131, [(7, .int (nI 0)), (0, .ref 13), (1, .int a1), (2, .int a2), (3, .int a3), (4, .int a4), (5, .int a5), (6, .int a6)], [.int (X1245 13 0)], (X1245, w)) rfl ?_
          refine ab_e_br (c := X1245 13 0 = nI 0) (135, [(7, .int (nI 0)), (0, .ref 13), (1, .int a1), (2, .int a2), (3, .int a3), (4, .int a4), (5, .int a5), (6, .int a6)], [], (X1245, w)) (134, [(7, .int (nI 0)), (0, .ref 13), (1, .int a1), (2, .int a2), (3, .int a3), (4, .int a4), (5, .int a5), (6, .int a6)], [], (X1245, w)) rfl (fun _ => ?_) (fun _ => ?_)
          · refine ab_e_go 5 (141, [(7, .int (nI 0)), (0, .ref 13), (1, .int a1), (2, .int a2), (3, .int a3), (4, .int a4), (5, .int a5), (6, .int a6)], [.int (nI 1), .int a6, .int a2, .int a1, .ref 13], (X1245, w)) rfl ?_
            refine ab_e_c3 (k2 := 241) (as := [.ref 13, .int a1, .int a2, .int a6, .int (nI 1)]) (rest := []) rfl rfl (T_M_mayGet S w X1245 a1 a2 a6 (nI 1)) (fun v1246 X1247 => ?_)
            refine ab_e_br (c := v1246 = nI 0) (173, [(7, .int (nI 0)), (0, .ref 13), (1, .int a1), (2, .int a2), (3, .int a3), (4, .int a4), (5, .int a5), (6, .int a6)], [], (X1247, w)) (147, [(7, .int (nI 0)), (0, .ref 13), (1, .int a1), (2, .int a2), (3, .int a3), (4, .int a4), (5, .int a5), (6, .int a6)], [], (X1247, w)) rfl (fun _ => ?_) (fun _ => ?_)
            · refine ab_e_go 3 (178, [(7, .int (nI 0)), (0, .ref 13), (1, .int a1), (2, .int a2), (3, .int a3), (4, .int a4), (5, .int a5), (6, .int a6)], [], ((ab_up X1247 13 0 (nI 4)), w)) rfl ?_
              refine ab_e_letX (fun X1248 _ => ?_)
              exact ab_e_rt rfl rfl
            · refine ab_e_go 5 (153, [(7, .int (nI 0)), (0, .ref 13), (1, .int a1), (2, .int a2), (3, .int a3), (4, .int a4), (5, .int a5), (6, .int a6)], [.int (nI 1), .int a2, .int a4, .int a3, .ref 13], (X1247, w)) rfl ?_
              refine ab_e_c3 (k2 := 241) (as := [.ref 13, .int a3, .int a4, .int a2, .int (nI 1)]) (rest := []) rfl rfl (T_M_mayGet S w X1247 a3 a4 a2 (nI 1)) (fun v1249 X1250 => ?_)
              refine ab_e_br (c := v1249 = nI 0) (173, [(7, .int (nI 0)), (0, .ref 13), (1, .int a1), (2, .int a2), (3, .int a3), (4, .int a4), (5, .int a5), (6, .int a6)], [], (X1250, w)) (159, [(7, .int (nI 0)), (0, .ref 13), (1, .int a1), (2, .int a2), (3, .int a3), (4, .int a4), (5, .int a5), (6, .int a6)], [], (X1250, w)) rfl (fun _ => ?_) (fun _ => ?_)
              · refine ab_e_go 3 (178, [(7, .int (nI 0)), (0, .ref 13), (1, .int a1), (2, .int a2), (3, .int a3), (4, .int a4), (5, .int a5), (6, .int a6)], [], ((ab_up X1250 13 0 (nI 4)), w)) rfl ?_
                refine ab_e_letX (fun X1251 _ => ?_)
                exact ab_e_rt rfl rfl
              · refine ab_e_go 5 (167, [(7, .int (nI 0)), (0, .ref 13), (1, .int a1), (2, .int a2), (3, .int a3), (4, .int a4), (5, .int a5), (6, .int a6)], [.int (nI 1), .int a4, .int a6, .int a5, .ref 13], (X1250, w)) rfl ?_
                refine ab_e_c3 (k2 := 241) (as := [.ref 13, .int a5, .int a6, .int a4, .int (nI 1)]) (rest := []) rfl rfl (T_M_mayGet S w X1250 a5 a6 a4 (nI 1)) (fun v1252 X1253 => ?_)
                refine ab_e_bn (c := v1252 = nI 0) (179, [(7, .int (nI 0)), (0, .ref 13), (1, .int a1), (2, .int a2), (3, .int a3), (4, .int a4), (5, .int a5), (6, .int a6)], [], (X1253, w)) (173, [(7, .int (nI 0)), (0, .ref 13), (1, .int a1), (2, .int a2), (3, .int a3), (4, .int a4), (5, .int a5), (6, .int a6)], [], (X1253, w)) rfl (fun _ => ?_) (fun _ => ?_)
                · refine ab_e_go 4 (183, [(7, .int (nI 0)), (0, .ref 13), (1, .int a1), (2, .int a2), (3, .int a3), (4, .int a4), (5, .int a5), (6, .int a6)], [.int (-1 : Int32), .int (nI 0), .int (nI 0), .ref 13], (X1253, w)) rfl ?_
                  refine ab_e_c3 (k2 := 42) (as := [.ref 13, .int (nI 0), .int (nI 0), .int (-1 : Int32)]) (rest := []) rfl rfl (T_M_reasons S w X1253 (nI 0) (nI 0) (-1 : Int32)) (fun _ X1254 => ?_)
                  refine ab_e_go 1 (187, [(7, .int (nI 0)), (0, .ref 13), (1, .int a1), (2, .int a2), (3, .int a3), (4, .int a4), (5, .int a5), (6, .int a6)], [.ref 13], (X1254, w)) rfl ?_
                  refine ab_e_c3 (k2 := 99) (as := [.ref 13]) (rest := []) rfl rfl (T_M_keeps S w X1254) (fun _ X1255 => ?_)
                  refine ab_e_go 3 (193, [(7, .int (nI 0)), (0, .ref 13), (1, .int a1), (2, .int a2), (3, .int a3), (4, .int a4), (5, .int a5), (6, .int a6)], [.int a2, .int a1, .ref 13], (X1255, w)) rfl ?_
                  refine ab_e_c1 (k2 := 87) (as := [.ref 13, .int a1, .int a2]) (rest := []) rfl rfl (T_M_awardOf S w X1255 a1 a2) (fun v1256 => ?_)
                  refine ab_e_go 4 (202, [(8, .int v1256), (7, .int (nI 0)), (0, .ref 13), (1, .int a1), (2, .int a2), (3, .int a3), (4, .int a4), (5, .int a5), (6, .int a6)], [.int a4, .int a3, .ref 13], (X1255, w)) rfl ?_
                  refine ab_e_c1 (k2 := 87) (as := [.ref 13, .int a3, .int a4]) (rest := []) rfl rfl (T_M_awardOf S w X1255 a3 a4) (fun v1257 => ?_)
                  refine ab_e_go 4 (212, [(9, .int v1257), (8, .int v1256), (7, .int (nI 0)), (0, .ref 13), (1, .int a1), (2, .int a2), (3, .int a3), (4, .int a4), (5, .int a5), (6, .int a6)], [.int a6, .int a5, .ref 13], (X1255, w)) rfl ?_
                  refine ab_e_c1 (k2 := 87) (as := [.ref 13, .int a5, .int a6]) (rest := []) rfl rfl (T_M_awardOf S w X1255 a5 a6) (fun v1258 => ?_)
                  refine ab_e_go 9 (230, [(10, .int v1258), (9, .int v1257), (8, .int v1256), (7, .int (nI 0)), (0, .ref 13), (1, .int a1), (2, .int a2), (3, .int a3), (4, .int a4), (5, .int a5), (6, .int a6)], [.int a3, .int ((nI 309) + ((nI 2) * v1256)), .ref 14], (X1255, w)) rfl ?_
                  refine ab_e_gd (231, [(10, .int v1258), (9, .int v1257), (8, .int v1256), (7, .int (nI 0)), (0, .ref 13), (1, .int a1), (2, .int a2), (3, .int a3), (4, .int a4), (5, .int a5), (6, .int a6)], [], ((ab_up X1255 14 (((nI 309) + ((nI 2) * v1256)).toNatClampNeg) a3), w)) rfl ?_
                  refine ab_e_letX (fun X1259 _ => ?_)
                  refine ab_e_go 8 (245, [(10, .int v1258), (9, .int v1257), (8, .int v1256), (7, .int (nI 0)), (0, .ref 13), (1, .int a1), (2, .int a2), (3, .int a3), (4, .int a4), (5, .int a5), (6, .int a6)], [.int a5, .int ((nI 309) + ((nI 2) * v1257)), .ref 14], (X1259, w)) rfl ?_
                  refine ab_e_gd (246, [(10, .int v1258), (9, .int v1257), (8, .int v1256), (7, .int (nI 0)), (0, .ref 13), (1, .int a1), (2, .int a2), (3, .int a3), (4, .int a4), (5, .int a5), (6, .int a6)], [], ((ab_up X1259 14 (((nI 309) + ((nI 2) * v1257)).toNatClampNeg) a5), w)) rfl ?_
                  refine ab_e_letX (fun X1260 _ => ?_)
                  refine ab_e_go 8 (259, [(10, .int v1258), (9, .int v1257), (8, .int v1256), (7, .int (nI 0)), (0, .ref 13), (1, .int a1), (2, .int a2), (3, .int a3), (4, .int a4), (5, .int a5), (6, .int a6)], [.int a1, .int ((nI 309) + ((nI 2) * v1258)), .ref 14], (X1260, w)) rfl ?_
                  refine ab_e_gd (260, [(10, .int v1258), (9, .int v1257), (8, .int v1256), (7, .int (nI 0)), (0, .ref 13), (1, .int a1), (2, .int a2), (3, .int a3), (4, .int a4), (5, .int a5), (6, .int a6)], [], ((ab_up X1260 14 (((nI 309) + ((nI 2) * v1258)).toNatClampNeg) a1), w)) rfl ?_
                  refine ab_e_letX (fun X1261 _ => ?_)
                  exact ab_e_rt rfl rfl
                · refine ab_e_go 3 (178, [(7, .int (nI 0)), (0, .ref 13), (1, .int a1), (2, .int a2), (3, .int a3), (4, .int a4), (5, .int a5), (6, .int a6)], [], ((ab_up X1253 13 0 (nI 4)), w)) rfl ?_
                  refine ab_e_letX (fun X1262 _ => ?_)
                  exact ab_e_rt rfl rfl
          · exact ab_e_rt rfl rfl
        · refine ab_e_go 2 (36, [(0, .ref 13), (1, .int a1), (2, .int a2), (3, .int a3), (4, .int a4), (5, .int a5), (6, .int a6)], [.int a5, .ref 13], (X, w)) rfl ?_
          refine ab_e_c1 (k2 := 98) (as := [.ref 13, .int a5]) (rest := []) rfl rfl (T_M_isWorker S w X a5) (fun v1263 => ?_)
          refine ab_e_br (c := v1263 = nI 0) (55, [(0, .ref 13), (1, .int a1), (2, .int a2), (3, .int a3), (4, .int a4), (5, .int a5), (6, .int a6)], [], (X, w)) (42, [(0, .ref 13), (1, .int a1), (2, .int a2), (3, .int a3), (4, .int a4), (5, .int a5), (6, .int a6)], [], (X, w)) rfl (fun _ => ?_) (fun _ => ?_)
          · refine ab_e_go 8 (127, [(7, .int (nI 0)), (0, .ref 13), (1, .int a1), (2, .int a2), (3, .int a3), (4, .int a4), (5, .int a5), (6, .int a6)], [], ((ab_up X 13 0 (nI 1)), w)) rfl ?_
            refine ab_e_letX (fun X1264 _ => ?_)
            refine ab_e_go 2 (131, [(7, .int (nI 0)), (0, .ref 13), (1, .int a1), (2, .int a2), (3, .int a3), (4, .int a4), (5, .int a5), (6, .int a6)], [.int (X1264 13 0)], (X1264, w)) rfl ?_
            refine ab_e_br (c := X1264 13 0 = nI 0) (135, [(7, .int (nI 0)), (0, .ref 13), (1, .int a1), (2, .int a2), (3, .int a3), (4, .int a4), (5, .int a5), (6, .int a6)], [], (X1264, w)) (134, [(7, .int (nI 0)), (0, .ref 13), (1, .int a1), (2, .int a2), (3, .int a3), (4, .int a4), (5, .int a5), (6, .int a6)], [], (X1264, w)) rfl (fun _ => ?_) (fun _ => ?_)
            · refine ab_e_go 5 (141, [(7, .int (nI 0)), (0, .ref 13), (1, .int a1), (2, .int a2), (3, .int a3), (4, .int a4), (5, .int a5), (6, .int a6)], [.int (nI 1), .int a6, .int a2, .int a1, .ref 13], (X1264, w)) rfl ?_
              refine ab_e_c3 (k2 := 241) (as := [.ref 13, .int a1, .int a2, .int a6, .int (nI 1)]) (rest := []) rfl rfl (T_M_mayGet S w X1264 a1 a2 a6 (nI 1)) (fun v1265 X1266 => ?_)
              refine ab_e_br (c := v1265 = nI 0) (173, [(7, .int (nI 0)), (0, .ref 13), (1, .int a1), (2, .int a2), (3, .int a3), (4, .int a4), (5, .int a5), (6, .int a6)], [], (X1266, w)) (147, [(7, .int (nI 0)), (0, .ref 13), (1, .int a1), (2, .int a2), (3, .int a3), (4, .int a4), (5, .int a5), (6, .int a6)], [], (X1266, w)) rfl (fun _ => ?_) (fun _ => ?_)
              · refine ab_e_go 3 (178, [(7, .int (nI 0)), (0, .ref 13), (1, .int a1), (2, .int a2), (3, .int a3), (4, .int a4), (5, .int a5), (6, .int a6)], [], ((ab_up X1266 13 0 (nI 4)), w)) rfl ?_
                refine ab_e_letX (fun X1267 _ => ?_)
                exact ab_e_rt rfl rfl
              · refine ab_e_go 5 (153, [(7, .int (nI 0)), (0, .ref 13), (1, .int a1), (2, .int a2), (3, .int a3), (4, .int a4), (5, .int a5), (6, .int a6)], [.int (nI 1), .int a2, .int a4, .int a3, .ref 13], (X1266, w)) rfl ?_
                refine ab_e_c3 (k2 := 241) (as := [.ref 13, .int a3, .int a4, .int a2, .int (nI 1)]) (rest := []) rfl rfl (T_M_mayGet S w X1266 a3 a4 a2 (nI 1)) (fun v1268 X1269 => ?_)
                refine ab_e_br (c := v1268 = nI 0) (173, [(7, .int (nI 0)), (0, .ref 13), (1, .int a1), (2, .int a2), (3, .int a3), (4, .int a4), (5, .int a5), (6, .int a6)], [], (X1269, w)) (159, [(7, .int (nI 0)), (0, .ref 13), (1, .int a1), (2, .int a2), (3, .int a3), (4, .int a4), (5, .int a5), (6, .int a6)], [], (X1269, w)) rfl (fun _ => ?_) (fun _ => ?_)
                · refine ab_e_go 3 (178, [(7, .int (nI 0)), (0, .ref 13), (1, .int a1), (2, .int a2), (3, .int a3), (4, .int a4), (5, .int a5), (6, .int a6)], [], ((ab_up X1269 13 0 (nI 4)), w)) rfl ?_
                  refine ab_e_letX (fun X1270 _ => ?_)
                  exact ab_e_rt rfl rfl
                · refine ab_e_go 5 (167, [(7, .int (nI 0)), (0, .ref 13), (1, .int a1), (2, .int a2), (3, .int a3), (4, .int a4), (5, .int a5), (6, .int a6)], [.int (nI 1), .int a4, .int a6, .int a5, .ref 13], (X1269, w)) rfl ?_
                  refine ab_e_c3 (k2 := 241) (as := [.ref 13, .int a5, .int a6, .int a4, .int (nI 1)]) (rest := []) rfl rfl (T_M_mayGet S w X1269 a5 a6 a4 (nI 1)) (fun v1271 X1272 => ?_)
                  refine ab_e_bn (c := v1271 = nI 0) (179, [(7, .int (nI 0)), (0, .ref 13), (1, .int a1), (2, .int a2), (3, .int a3), (4, .int a4), (5, .int a5), (6, .int a6)], [], (X1272, w)) (173, [(7, .int (nI 0)), (0, .ref 13), (1, .int a1), (2, .int a2), (3, .int a3), (4, .int a4), (5, .int a5), (6, .int a6)], [], (X1272, w)) rfl (fun _ => ?_) (fun _ => ?_)
                  · refine ab_e_go 4 (183, [(7, .int (nI 0)), (0, .ref 13), (1, .int a1), (2, .int a2), (3, .int a3), (4, .int a4), (5, .int a5), (6, .int a6)], [.int (-1 : Int32), .int (nI 0), .int (nI 0), .ref 13], (X1272, w)) rfl ?_
                    refine ab_e_c3 (k2 := 42) (as := [.ref 13, .int (nI 0), .int (nI 0), .int (-1 : Int32)]) (rest := []) rfl rfl (T_M_reasons S w X1272 (nI 0) (nI 0) (-1 : Int32)) (fun _ X1273 => ?_)
                    refine ab_e_go 1 (187, [(7, .int (nI 0)), (0, .ref 13), (1, .int a1), (2, .int a2), (3, .int a3), (4, .int a4), (5, .int a5), (6, .int a6)], [.ref 13], (X1273, w)) rfl ?_
                    refine ab_e_c3 (k2 := 99) (as := [.ref 13]) (rest := []) rfl rfl (T_M_keeps S w X1273) (fun _ X1274 => ?_)
                    refine ab_e_go 3 (193, [(7, .int (nI 0)), (0, .ref 13), (1, .int a1), (2, .int a2), (3, .int a3), (4, .int a4), (5, .int a5), (6, .int a6)], [.int a2, .int a1, .ref 13], (X1274, w)) rfl ?_
                    refine ab_e_c1 (k2 := 87) (as := [.ref 13, .int a1, .int a2]) (rest := []) rfl rfl (T_M_awardOf S w X1274 a1 a2) (fun v1275 => ?_)
                    refine ab_e_go 4 (202, [(8, .int v1275), (7, .int (nI 0)), (0, .ref 13), (1, .int a1), (2, .int a2), (3, .int a3), (4, .int a4), (5, .int a5), (6, .int a6)], [.int a4, .int a3, .ref 13], (X1274, w)) rfl ?_
                    refine ab_e_c1 (k2 := 87) (as := [.ref 13, .int a3, .int a4]) (rest := []) rfl rfl (T_M_awardOf S w X1274 a3 a4) (fun v1276 => ?_)
                    refine ab_e_go 4 (212, [(9, .int v1276), (8, .int v1275), (7, .int (nI 0)), (0, .ref 13), (1, .int a1), (2, .int a2), (3, .int a3), (4, .int a4), (5, .int a5), (6, .int a6)], [.int a6, .int a5, .ref 13], (X1274, w)) rfl ?_
                    refine ab_e_c1 (k2 := 87) (as := [.ref 13, .int a5, .int a6]) (rest := []) rfl rfl (T_M_awardOf S w X1274 a5 a6) (fun v1277 => ?_)
                    refine ab_e_go 9 (230, [(10, .int v1277), (9, .int v1276), (8, .int v1275), (7, .int (nI 0)), (0, .ref 13), (1, .int a1), (2, .int a2), (3, .int a3), (4, .int a4), (5, .int a5), (6, .int a6)], [.int a3, .int ((nI 309) + ((nI 2) * v1275)), .ref 14], (X1274, w)) rfl ?_
                    refine ab_e_gd (231, [(10, .int v1277), (9, .int v1276), (8, .int v1275), (7, .int (nI 0)), (0, .ref 13), (1, .int a1), (2, .int a2), (3, .int a3), (4, .int a4), (5, .int a5), (6, .int a6)], [], ((ab_up X1274 14 (((nI 309) + ((nI 2) * v1275)).toNatClampNeg) a3), w)) rfl ?_
                    refine ab_e_letX (fun X1278 _ => ?_)
                    refine ab_e_go 8 (245, [(10, .int v1277), (9, .int v1276), (8, .int v1275), (7, .int (nI 0)), (0, .ref 13), (1, .int a1), (2, .int a2), (3, .int a3), (4, .int a4), (5, .int a5), (6, .int a6)], [.int a5, .int ((nI 309) + ((nI 2) * v1276)), .ref 14], (X1278, w)) rfl ?_
                    refine ab_e_gd (246, [(10, .int v1277), (9, .int v1276), (8, .int v1275), (7, .int (nI 0)), (0, .ref 13), (1, .int a1), (2, .int a2), (3, .int a3), (4, .int a4), (5, .int a5), (6, .int a6)], [], ((ab_up X1278 14 (((nI 309) + ((nI 2) * v1276)).toNatClampNeg) a5), w)) rfl ?_
                    refine ab_e_letX (fun X1279 _ => ?_)
                    refine ab_e_go 8 (259, [(10, .int v1277), (9, .int v1276), (8, .int v1275), (7, .int (nI 0)), (0, .ref 13), (1, .int a1), (2, .int a2), (3, .int a3), (4, .int a4), (5, .int a5), (6, .int a6)], [.int a1, .int ((nI 309) + ((nI 2) * v1277)), .ref 14], (X1279, w)) rfl ?_
                    refine ab_e_gd (260, [(10, .int v1277), (9, .int v1276), (8, .int v1275), (7, .int (nI 0)), (0, .ref 13), (1, .int a1), (2, .int a2), (3, .int a3), (4, .int a4), (5, .int a5), (6, .int a6)], [], ((ab_up X1279 14 (((nI 309) + ((nI 2) * v1277)).toNatClampNeg) a1), w)) rfl ?_
                    refine ab_e_letX (fun X1280 _ => ?_)
                    exact ab_e_rt rfl rfl
                  · refine ab_e_go 3 (178, [(7, .int (nI 0)), (0, .ref 13), (1, .int a1), (2, .int a2), (3, .int a3), (4, .int a4), (5, .int a5), (6, .int a6)], [], ((ab_up X1272 13 0 (nI 4)), w)) rfl ?_
                    refine ab_e_letX (fun X1281 _ => ?_)
                    exact ab_e_rt rfl rfl
            · exact ab_e_rt rfl rfl
          · refine ab_e_go 2 (45, [(0, .ref 13), (1, .int a1), (2, .int a2), (3, .int a3), (4, .int a4), (5, .int a5), (6, .int a6)], [.int a6, .ref 13], (X, w)) rfl ?_
            refine ab_e_c1 (k2 := 97) (as := [.ref 13, .int a6]) (rest := []) rfl rfl (T_M_isShift S w X a6) (fun v1282 => ?_)
            refine ab_e_br (c := v1282 = nI 0) (55, [(0, .ref 13), (1, .int a1), (2, .int a2), (3, .int a3), (4, .int a4), (5, .int a5), (6, .int a6)], [], (X, w)) (51, [(0, .ref 13), (1, .int a1), (2, .int a2), (3, .int a3), (4, .int a4), (5, .int a5), (6, .int a6)], [], (X, w)) rfl (fun _ => ?_) (fun _ => ?_)
            · refine ab_e_go 8 (127, [(7, .int (nI 0)), (0, .ref 13), (1, .int a1), (2, .int a2), (3, .int a3), (4, .int a4), (5, .int a5), (6, .int a6)], [], ((ab_up X 13 0 (nI 1)), w)) rfl ?_
              refine ab_e_letX (fun X1283 _ => ?_)
              refine ab_e_go 2 (131, [(7, .int (nI 0)), (0, .ref 13), (1, .int a1), (2, .int a2), (3, .int a3), (4, .int a4), (5, .int a5), (6, .int a6)], [.int (X1283 13 0)], (X1283, w)) rfl ?_
              refine ab_e_br (c := X1283 13 0 = nI 0) (135, [(7, .int (nI 0)), (0, .ref 13), (1, .int a1), (2, .int a2), (3, .int a3), (4, .int a4), (5, .int a5), (6, .int a6)], [], (X1283, w)) (134, [(7, .int (nI 0)), (0, .ref 13), (1, .int a1), (2, .int a2), (3, .int a3), (4, .int a4), (5, .int a5), (6, .int a6)], [], (X1283, w)) rfl (fun _ => ?_) (fun _ => ?_)
              · refine ab_e_go 5 (141, [(7, .int (nI 0)), (0, .ref 13), (1, .int a1), (2, .int a2), (3, .int a3), (4, .int a4), (5, .int a5), (6, .int a6)], [.int (nI 1), .int a6, .int a2, .int a1, .ref 13], (X1283, w)) rfl ?_
                refine ab_e_c3 (k2 := 241) (as := [.ref 13, .int a1, .int a2, .int a6, .int (nI 1)]) (rest := []) rfl rfl (T_M_mayGet S w X1283 a1 a2 a6 (nI 1)) (fun v1284 X1285 => ?_)
                refine ab_e_br (c := v1284 = nI 0) (173, [(7, .int (nI 0)), (0, .ref 13), (1, .int a1), (2, .int a2), (3, .int a3), (4, .int a4), (5, .int a5), (6, .int a6)], [], (X1285, w)) (147, [(7, .int (nI 0)), (0, .ref 13), (1, .int a1), (2, .int a2), (3, .int a3), (4, .int a4), (5, .int a5), (6, .int a6)], [], (X1285, w)) rfl (fun _ => ?_) (fun _ => ?_)
                · refine ab_e_go 3 (178, [(7, .int (nI 0)), (0, .ref 13), (1, .int a1), (2, .int a2), (3, .int a3), (4, .int a4), (5, .int a5), (6, .int a6)], [], ((ab_up X1285 13 0 (nI 4)), w)) rfl ?_
                  refine ab_e_letX (fun X1286 _ => ?_)
                  exact ab_e_rt rfl rfl
                · refine ab_e_go 5 (153, [(7, .int (nI 0)), (0, .ref 13), (1, .int a1), (2, .int a2), (3, .int a3), (4, .int a4), (5, .int a5), (6, .int a6)], [.int (nI 1), .int a2, .int a4, .int a3, .ref 13], (X1285, w)) rfl ?_
                  refine ab_e_c3 (k2 := 241) (as := [.ref 13, .int a3, .int a4, .int a2, .int (nI 1)]) (rest := []) rfl rfl (T_M_mayGet S w X1285 a3 a4 a2 (nI 1)) (fun v1287 X1288 => ?_)
                  refine ab_e_br (c := v1287 = nI 0) (173, [(7, .int (nI 0)), (0, .ref 13), (1, .int a1), (2, .int a2), (3, .int a3), (4, .int a4), (5, .int a5), (6, .int a6)], [], (X1288, w)) (159, [(7, .int (nI 0)), (0, .ref 13), (1, .int a1), (2, .int a2), (3, .int a3), (4, .int a4), (5, .int a5), (6, .int a6)], [], (X1288, w)) rfl (fun _ => ?_) (fun _ => ?_)
                  · refine ab_e_go 3 (178, [(7, .int (nI 0)), (0, .ref 13), (1, .int a1), (2, .int a2), (3, .int a3), (4, .int a4), (5, .int a5), (6, .int a6)], [], ((ab_up X1288 13 0 (nI 4)), w)) rfl ?_
                    refine ab_e_letX (fun X1289 _ => ?_)
                    exact ab_e_rt rfl rfl
                  · refine ab_e_go 5 (167, [(7, .int (nI 0)), (0, .ref 13), (1, .int a1), (2, .int a2), (3, .int a3), (4, .int a4), (5, .int a5), (6, .int a6)], [.int (nI 1), .int a4, .int a6, .int a5, .ref 13], (X1288, w)) rfl ?_
                    refine ab_e_c3 (k2 := 241) (as := [.ref 13, .int a5, .int a6, .int a4, .int (nI 1)]) (rest := []) rfl rfl (T_M_mayGet S w X1288 a5 a6 a4 (nI 1)) (fun v1290 X1291 => ?_)
                    refine ab_e_bn (c := v1290 = nI 0) (179, [(7, .int (nI 0)), (0, .ref 13), (1, .int a1), (2, .int a2), (3, .int a3), (4, .int a4), (5, .int a5), (6, .int a6)], [], (X1291, w)) (173, [(7, .int (nI 0)), (0, .ref 13), (1, .int a1), (2, .int a2), (3, .int a3), (4, .int a4), (5, .int a5), (6, .int a6)], [], (X1291, w)) rfl (fun _ => ?_) (fun _ => ?_)
                    · refine ab_e_go 4 (183, [(7, .int (nI 0)), (0, .ref 13), (1, .int a1), (2, .int a2), (3, .int a3), (4, .int a4), (5, .int a5), (6, .int a6)], [.int (-1 : Int32), .int (nI 0), .int (nI 0), .ref 13], (X1291, w)) rfl ?_
                      refine ab_e_c3 (k2 := 42) (as := [.ref 13, .int (nI 0), .int (nI 0), .int (-1 : Int32)]) (rest := []) rfl rfl (T_M_reasons S w X1291 (nI 0) (nI 0) (-1 : Int32)) (fun _ X1292 => ?_)
                      refine ab_e_go 1 (187, [(7, .int (nI 0)), (0, .ref 13), (1, .int a1), (2, .int a2), (3, .int a3), (4, .int a4), (5, .int a5), (6, .int a6)], [.ref 13], (X1292, w)) rfl ?_
                      refine ab_e_c3 (k2 := 99) (as := [.ref 13]) (rest := []) rfl rfl (T_M_keeps S w X1292) (fun _ X1293 => ?_)
                      refine ab_e_go 3 (193, [(7, .int (nI 0)), (0, .ref 13), (1, .int a1), (2, .int a2), (3, .int a3), (4, .int a4), (5, .int a5), (6, .int a6)], [.int a2, .int a1, .ref 13], (X1293, w)) rfl ?_
                      refine ab_e_c1 (k2 := 87) (as := [.ref 13, .int a1, .int a2]) (rest := []) rfl rfl (T_M_awardOf S w X1293 a1 a2) (fun v1294 => ?_)
                      refine ab_e_go 4 (202, [(8, .int v1294), (7, .int (nI 0)), (0, .ref 13), (1, .int a1), (2, .int a2), (3, .int a3), (4, .int a4), (5, .int a5), (6, .int a6)], [.int a4, .int a3, .ref 13], (X1293, w)) rfl ?_
                      refine ab_e_c1 (k2 := 87) (as := [.ref 13, .int a3, .int a4]) (rest := []) rfl rfl (T_M_awardOf S w X1293 a3 a4) (fun v1295 => ?_)
                      refine ab_e_go 4 (212, [(9, .int v1295), (8, .int v1294), (7, .int (nI 0)), (0, .ref 13), (1, .int a1), (2, .int a2), (3, .int a3), (4, .int a4), (5, .int a5), (6, .int a6)], [.int a6, .int a5, .ref 13], (X1293, w)) rfl ?_
                      refine ab_e_c1 (k2 := 87) (as := [.ref 13, .int a5, .int a6]) (rest := []) rfl rfl (T_M_awardOf S w X1293 a5 a6) (fun v1296 => ?_)
                      refine ab_e_go 9 (230, [(10, .int v1296), (9, .int v1295), (8, .int v1294), (7, .int (nI 0)), (0, .ref 13), (1, .int a1), (2, .int a2), (3, .int a3), (4, .int a4), (5, .int a5), (6, .int a6)], [.int a3, .int ((nI 309) + ((nI 2) * v1294)), .ref 14], (X1293, w)) rfl ?_
                      refine ab_e_gd (231, [(10, .int v1296), (9, .int v1295), (8, .int v1294), (7, .int (nI 0)), (0, .ref 13), (1, .int a1), (2, .int a2), (3, .int a3), (4, .int a4), (5, .int a5), (6, .int a6)], [], ((ab_up X1293 14 (((nI 309) + ((nI 2) * v1294)).toNatClampNeg) a3), w)) rfl ?_
                      refine ab_e_letX (fun X1297 _ => ?_)
                      refine ab_e_go 8 (245, [(10, .int v1296), (9, .int v1295), (8, .int v1294), (7, .int (nI 0)), (0, .ref 13), (1, .int a1), (2, .int a2), (3, .int a3), (4, .int a4), (5, .int a5), (6, .int a6)], [.int a5, .int ((nI 309) + ((nI 2) * v1295)), .ref 14], (X1297, w)) rfl ?_
                      refine ab_e_gd (246, [(10, .int v1296), (9, .int v1295), (8, .int v1294), (7, .int (nI 0)), (0, .ref 13), (1, .int a1), (2, .int a2), (3, .int a3), (4, .int a4), (5, .int a5), (6, .int a6)], [], ((ab_up X1297 14 (((nI 309) + ((nI 2) * v1295)).toNatClampNeg) a5), w)) rfl ?_
                      refine ab_e_letX (fun X1298 _ => ?_)
                      refine ab_e_go 8 (259, [(10, .int v1296), (9, .int v1295), (8, .int v1294), (7, .int (nI 0)), (0, .ref 13), (1, .int a1), (2, .int a2), (3, .int a3), (4, .int a4), (5, .int a5), (6, .int a6)], [.int a1, .int ((nI 309) + ((nI 2) * v1296)), .ref 14], (X1298, w)) rfl ?_
                      refine ab_e_gd (260, [(10, .int v1296), (9, .int v1295), (8, .int v1294), (7, .int (nI 0)), (0, .ref 13), (1, .int a1), (2, .int a2), (3, .int a3), (4, .int a4), (5, .int a5), (6, .int a6)], [], ((ab_up X1298 14 (((nI 309) + ((nI 2) * v1296)).toNatClampNeg) a1), w)) rfl ?_
                      refine ab_e_letX (fun X1299 _ => ?_)
                      exact ab_e_rt rfl rfl
                    · refine ab_e_go 3 (178, [(7, .int (nI 0)), (0, .ref 13), (1, .int a1), (2, .int a2), (3, .int a3), (4, .int a4), (5, .int a5), (6, .int a6)], [], ((ab_up X1291 13 0 (nI 4)), w)) rfl ?_
                      refine ab_e_letX (fun X1300 _ => ?_)
                      exact ab_e_rt rfl rfl
              · exact ab_e_rt rfl rfl
            · refine ab_e_go 8 (70, [(7, .int (nI 1)), (0, .ref 13), (1, .int a1), (2, .int a2), (3, .int a3), (4, .int a4), (5, .int a5), (6, .int a6)], [.int a3, .int a1, .ref 13], (X, w)) rfl ?_
              refine ab_e_br (c := a1 = a3) (85, [(7, .int (nI 1)), (0, .ref 13), (1, .int a1), (2, .int a2), (3, .int a3), (4, .int a4), (5, .int a5), (6, .int a6)], [.ref 13], (X, w)) (73, [(7, .int (nI 1)), (0, .ref 13), (1, .int a1), (2, .int a2), (3, .int a3), (4, .int a4), (5, .int a5), (6, .int a6)], [.ref 13], (X, w)) rfl (fun _ => ?_) (fun _ => ?_)
              · refine ab_e_go 3 (127, [(7, .int (nI 1)), (0, .ref 13), (1, .int a1), (2, .int a2), (3, .int a3), (4, .int a4), (5, .int a5), (6, .int a6)], [], ((ab_up X 13 0 (nI 2)), w)) rfl ?_
                refine ab_e_letX (fun X1301 _ => ?_)
                refine ab_e_go 2 (131, [(7, .int (nI 1)), (0, .ref 13), (1, .int a1), (2, .int a2), (3, .int a3), (4, .int a4), (5, .int a5), (6, .int a6)], [.int (X1301 13 0)], (X1301, w)) rfl ?_
                refine ab_e_br (c := X1301 13 0 = nI 0) (135, [(7, .int (nI 1)), (0, .ref 13), (1, .int a1), (2, .int a2), (3, .int a3), (4, .int a4), (5, .int a5), (6, .int a6)], [], (X1301, w)) (134, [(7, .int (nI 1)), (0, .ref 13), (1, .int a1), (2, .int a2), (3, .int a3), (4, .int a4), (5, .int a5), (6, .int a6)], [], (X1301, w)) rfl (fun _ => ?_) (fun _ => ?_)
                · refine ab_e_go 5 (141, [(7, .int (nI 1)), (0, .ref 13), (1, .int a1), (2, .int a2), (3, .int a3), (4, .int a4), (5, .int a5), (6, .int a6)], [.int (nI 1), .int a6, .int a2, .int a1, .ref 13], (X1301, w)) rfl ?_
                  refine ab_e_c3 (k2 := 241) (as := [.ref 13, .int a1, .int a2, .int a6, .int (nI 1)]) (rest := []) rfl rfl (T_M_mayGet S w X1301 a1 a2 a6 (nI 1)) (fun v1302 X1303 => ?_)
                  refine ab_e_br (c := v1302 = nI 0) (173, [(7, .int (nI 1)), (0, .ref 13), (1, .int a1), (2, .int a2), (3, .int a3), (4, .int a4), (5, .int a5), (6, .int a6)], [], (X1303, w)) (147, [(7, .int (nI 1)), (0, .ref 13), (1, .int a1), (2, .int a2), (3, .int a3), (4, .int a4), (5, .int a5), (6, .int a6)], [], (X1303, w)) rfl (fun _ => ?_) (fun _ => ?_)
                  · refine ab_e_go 3 (178, [(7, .int (nI 1)), (0, .ref 13), (1, .int a1), (2, .int a2), (3, .int a3), (4, .int a4), (5, .int a5), (6, .int a6)], [], ((ab_up X1303 13 0 (nI 4)), w)) rfl ?_
                    refine ab_e_letX (fun X1304 _ => ?_)
                    exact ab_e_rt rfl rfl
                  · refine ab_e_go 5 (153, [(7, .int (nI 1)), (0, .ref 13), (1, .int a1), (2, .int a2), (3, .int a3), (4, .int a4), (5, .int a5), (6, .int a6)], [.int (nI 1), .int a2, .int a4, .int a3, .ref 13], (X1303, w)) rfl ?_
                    refine ab_e_c3 (k2 := 241) (as := [.ref 13, .int a3, .int a4, .int a2, .int (nI 1)]) (rest := []) rfl rfl (T_M_mayGet S w X1303 a3 a4 a2 (nI 1)) (fun v1305 X1306 => ?_)
                    refine ab_e_br (c := v1305 = nI 0) (173, [(7, .int (nI 1)), (0, .ref 13), (1, .int a1), (2, .int a2), (3, .int a3), (4, .int a4), (5, .int a5), (6, .int a6)], [], (X1306, w)) (159, [(7, .int (nI 1)), (0, .ref 13), (1, .int a1), (2, .int a2), (3, .int a3), (4, .int a4), (5, .int a5), (6, .int a6)], [], (X1306, w)) rfl (fun _ => ?_) (fun _ => ?_)
                    · refine ab_e_go 3 (178, [(7, .int (nI 1)), (0, .ref 13), (1, .int a1), (2, .int a2), (3, .int a3), (4, .int a4), (5, .int a5), (6, .int a6)], [], ((ab_up X1306 13 0 (nI 4)), w)) rfl ?_
                      refine ab_e_letX (fun X1307 _ => ?_)
                      exact ab_e_rt rfl rfl
                    · refine ab_e_go 5 (167, [(7, .int (nI 1)), (0, .ref 13), (1, .int a1), (2, .int a2), (3, .int a3), (4, .int a4), (5, .int a5), (6, .int a6)], [.int (nI 1), .int a4, .int a6, .int a5, .ref 13], (X1306, w)) rfl ?_
                      refine ab_e_c3 (k2 := 241) (as := [.ref 13, .int a5, .int a6, .int a4, .int (nI 1)]) (rest := []) rfl rfl (T_M_mayGet S w X1306 a5 a6 a4 (nI 1)) (fun v1308 X1309 => ?_)
                      refine ab_e_bn (c := v1308 = nI 0) (179, [(7, .int (nI 1)), (0, .ref 13), (1, .int a1), (2, .int a2), (3, .int a3), (4, .int a4), (5, .int a5), (6, .int a6)], [], (X1309, w)) (173, [(7, .int (nI 1)), (0, .ref 13), (1, .int a1), (2, .int a2), (3, .int a3), (4, .int a4), (5, .int a5), (6, .int a6)], [], (X1309, w)) rfl (fun _ => ?_) (fun _ => ?_)
                      · refine ab_e_go 4 (183, [(7, .int (nI 1)), (0, .ref 13), (1, .int a1), (2, .int a2), (3, .int a3), (4, .int a4), (5, .int a5), (6, .int a6)], [.int (-1 : Int32), .int (nI 0), .int (nI 0), .ref 13], (X1309, w)) rfl ?_
                        refine ab_e_c3 (k2 := 42) (as := [.ref 13, .int (nI 0), .int (nI 0), .int (-1 : Int32)]) (rest := []) rfl rfl (T_M_reasons S w X1309 (nI 0) (nI 0) (-1 : Int32)) (fun _ X1310 => ?_)
                        refine ab_e_go 1 (187, [(7, .int (nI 1)), (0, .ref 13), (1, .int a1), (2, .int a2), (3, .int a3), (4, .int a4), (5, .int a5), (6, .int a6)], [.ref 13], (X1310, w)) rfl ?_
                        refine ab_e_c3 (k2 := 99) (as := [.ref 13]) (rest := []) rfl rfl (T_M_keeps S w X1310) (fun _ X1311 => ?_)
                        refine ab_e_go 3 (193, [(7, .int (nI 1)), (0, .ref 13), (1, .int a1), (2, .int a2), (3, .int a3), (4, .int a4), (5, .int a5), (6, .int a6)], [.int a2, .int a1, .ref 13], (X1311, w)) rfl ?_
                        refine ab_e_c1 (k2 := 87) (as := [.ref 13, .int a1, .int a2]) (rest := []) rfl rfl (T_M_awardOf S w X1311 a1 a2) (fun v1312 => ?_)
                        refine ab_e_go 4 (202, [(8, .int v1312), (7, .int (nI 1)), (0, .ref 13), (1, .int a1), (2, .int a2), (3, .int a3), (4, .int a4), (5, .int a5), (6, .int a6)], [.int a4, .int a3, .ref 13], (X1311, w)) rfl ?_
                        refine ab_e_c1 (k2 := 87) (as := [.ref 13, .int a3, .int a4]) (rest := []) rfl rfl (T_M_awardOf S w X1311 a3 a4) (fun v1313 => ?_)
                        refine ab_e_go 4 (212, [(9, .int v1313), (8, .int v1312), (7, .int (nI 1)), (0, .ref 13), (1, .int a1), (2, .int a2), (3, .int a3), (4, .int a4), (5, .int a5), (6, .int a6)], [.int a6, .int a5, .ref 13], (X1311, w)) rfl ?_
                        refine ab_e_c1 (k2 := 87) (as := [.ref 13, .int a5, .int a6]) (rest := []) rfl rfl (T_M_awardOf S w X1311 a5 a6) (fun v1314 => ?_)
                        refine ab_e_go 9 (230, [(10, .int v1314), (9, .int v1313), (8, .int v1312), (7, .int (nI 1)), (0, .ref 13), (1, .int a1), (2, .int a2), (3, .int a3), (4, .int a4), (5, .int a5), (6, .int a6)], [.int a3, .int ((nI 309) + ((nI 2) * v1312)), .ref 14], (X1311, w)) rfl ?_
                        refine ab_e_gd (231, [(10, .int v1314), (9, .int v1313), (8, .int v1312), (7, .int (nI 1)), (0, .ref 13), (1, .int a1), (2, .int a2), (3, .int a3), (4, .int a4), (5, .int a5), (6, .int a6)], [], ((ab_up X1311 14 (((nI 309) + ((nI 2) * v1312)).toNatClampNeg) a3), w)) rfl ?_
                        refine ab_e_letX (fun X1315 _ => ?_)
                        refine ab_e_go 8 (245, [(10, .int v1314), (9, .int v1313), (8, .int v1312), (7, .int (nI 1)), (0, .ref 13), (1, .int a1), (2, .int a2), (3, .int a3), (4, .int a4), (5, .int a5), (6, .int a6)], [.int a5, .int ((nI 309) + ((nI 2) * v1313)), .ref 14], (X1315, w)) rfl ?_
                        refine ab_e_gd (246, [(10, .int v1314), (9, .int v1313), (8, .int v1312), (7, .int (nI 1)), (0, .ref 13), (1, .int a1), (2, .int a2), (3, .int a3), (4, .int a4), (5, .int a5), (6, .int a6)], [], ((ab_up X1315 14 (((nI 309) + ((nI 2) * v1313)).toNatClampNeg) a5), w)) rfl ?_
                        refine ab_e_letX (fun X1316 _ => ?_)
                        refine ab_e_go 8 (259, [(10, .int v1314), (9, .int v1313), (8, .int v1312), (7, .int (nI 1)), (0, .ref 13), (1, .int a1), (2, .int a2), (3, .int a3), (4, .int a4), (5, .int a5), (6, .int a6)], [.int a1, .int ((nI 309) + ((nI 2) * v1314)), .ref 14], (X1316, w)) rfl ?_
                        refine ab_e_gd (260, [(10, .int v1314), (9, .int v1313), (8, .int v1312), (7, .int (nI 1)), (0, .ref 13), (1, .int a1), (2, .int a2), (3, .int a3), (4, .int a4), (5, .int a5), (6, .int a6)], [], ((ab_up X1316 14 (((nI 309) + ((nI 2) * v1314)).toNatClampNeg) a1), w)) rfl ?_
                        refine ab_e_letX (fun X1317 _ => ?_)
                        exact ab_e_rt rfl rfl
                      · refine ab_e_go 3 (178, [(7, .int (nI 1)), (0, .ref 13), (1, .int a1), (2, .int a2), (3, .int a3), (4, .int a4), (5, .int a5), (6, .int a6)], [], ((ab_up X1309 13 0 (nI 4)), w)) rfl ?_
                        refine ab_e_letX (fun X1318 _ => ?_)
                        exact ab_e_rt rfl rfl
                · exact ab_e_rt rfl rfl
              · refine ab_e_go 2 (76, [(7, .int (nI 1)), (0, .ref 13), (1, .int a1), (2, .int a2), (3, .int a3), (4, .int a4), (5, .int a5), (6, .int a6)], [.int a5, .int a1, .ref 13], (X, w)) rfl ?_
                refine ab_e_br (c := a1 = a5) (85, [(7, .int (nI 1)), (0, .ref 13), (1, .int a1), (2, .int a2), (3, .int a3), (4, .int a4), (5, .int a5), (6, .int a6)], [.ref 13], (X, w)) (79, [(7, .int (nI 1)), (0, .ref 13), (1, .int a1), (2, .int a2), (3, .int a3), (4, .int a4), (5, .int a5), (6, .int a6)], [.ref 13], (X, w)) rfl (fun _ => ?_) (fun _ => ?_)
                · refine ab_e_go 3 (127, [(7, .int (nI 1)), (0, .ref 13), (1, .int a1), (2, .int a2), (3, .int a3), (4, .int a4), (5, .int a5), (6, .int a6)], [], ((ab_up X 13 0 (nI 2)), w)) rfl ?_
                  refine ab_e_letX (fun X1319 _ => ?_)
                  refine ab_e_go 2 (131, [(7, .int (nI 1)), (0, .ref 13), (1, .int a1), (2, .int a2), (3, .int a3), (4, .int a4), (5, .int a5), (6, .int a6)], [.int (X1319 13 0)], (X1319, w)) rfl ?_
                  refine ab_e_br (c := X1319 13 0 = nI 0) (135, [(7, .int (nI 1)), (0, .ref 13), (1, .int a1), (2, .int a2), (3, .int a3), (4, .int a4), (5, .int a5), (6, .int a6)], [], (X1319, w)) (134, [(7, .int (nI 1)), (0, .ref 13), (1, .int a1), (2, .int a2), (3, .int a3), (4, .int a4), (5, .int a5), (6, .int a6)], [], (X1319, w)) rfl (fun _ => ?_) (fun _ => ?_)
                  · refine ab_e_go 5 (141, [(7, .int (nI 1)), (0, .ref 13), (1, .int a1), (2, .int a2), (3, .int a3), (4, .int a4), (5, .int a5), (6, .int a6)], [.int (nI 1), .int a6, .int a2, .int a1, .ref 13], (X1319, w)) rfl ?_
                    refine ab_e_c3 (k2 := 241) (as := [.ref 13, .int a1, .int a2, .int a6, .int (nI 1)]) (rest := []) rfl rfl (T_M_mayGet S w X1319 a1 a2 a6 (nI 1)) (fun v1320 X1321 => ?_)
                    refine ab_e_br (c := v1320 = nI 0) (173, [(7, .int (nI 1)), (0, .ref 13), (1, .int a1), (2, .int a2), (3, .int a3), (4, .int a4), (5, .int a5), (6, .int a6)], [], (X1321, w)) (147, [(7, .int (nI 1)), (0, .ref 13), (1, .int a1), (2, .int a2), (3, .int a3), (4, .int a4), (5, .int a5), (6, .int a6)], [], (X1321, w)) rfl (fun _ => ?_) (fun _ => ?_)
                    · refine ab_e_go 3 (178, [(7, .int (nI 1)), (0, .ref 13), (1, .int a1), (2, .int a2), (3, .int a3), (4, .int a4), (5, .int a5), (6, .int a6)], [], ((ab_up X1321 13 0 (nI 4)), w)) rfl ?_
                      refine ab_e_letX (fun X1322 _ => ?_)
                      exact ab_e_rt rfl rfl
                    · refine ab_e_go 5 (153, [(7, .int (nI 1)), (0, .ref 13), (1, .int a1), (2, .int a2), (3, .int a3), (4, .int a4), (5, .int a5), (6, .int a6)], [.int (nI 1), .int a2, .int a4, .int a3, .ref 13], (X1321, w)) rfl ?_
                      refine ab_e_c3 (k2 := 241) (as := [.ref 13, .int a3, .int a4, .int a2, .int (nI 1)]) (rest := []) rfl rfl (T_M_mayGet S w X1321 a3 a4 a2 (nI 1)) (fun v1323 X1324 => ?_)
                      refine ab_e_br (c := v1323 = nI 0) (173, [(7, .int (nI 1)), (0, .ref 13), (1, .int a1), (2, .int a2), (3, .int a3), (4, .int a4), (5, .int a5), (6, .int a6)], [], (X1324, w)) (159, [(7, .int (nI 1)), (0, .ref 13), (1, .int a1), (2, .int a2), (3, .int a3), (4, .int a4), (5, .int a5), (6, .int a6)], [], (X1324, w)) rfl (fun _ => ?_) (fun _ => ?_)
                      · refine ab_e_go 3 (178, [(7, .int (nI 1)), (0, .ref 13), (1, .int a1), (2, .int a2), (3, .int a3), (4, .int a4), (5, .int a5), (6, .int a6)], [], ((ab_up X1324 13 0 (nI 4)), w)) rfl ?_
                        refine ab_e_letX (fun X1325 _ => ?_)
                        exact ab_e_rt rfl rfl
                      · refine ab_e_go 5 (167, [(7, .int (nI 1)), (0, .ref 13), (1, .int a1), (2, .int a2), (3, .int a3), (4, .int a4), (5, .int a5), (6, .int a6)], [.int (nI 1), .int a4, .int a6, .int a5, .ref 13], (X1324, w)) rfl ?_
                        refine ab_e_c3 (k2 := 241) (as := [.ref 13, .int a5, .int a6, .int a4, .int (nI 1)]) (rest := []) rfl rfl (T_M_mayGet S w X1324 a5 a6 a4 (nI 1)) (fun v1326 X1327 => ?_)
                        refine ab_e_bn (c := v1326 = nI 0) (179, [(7, .int (nI 1)), (0, .ref 13), (1, .int a1), (2, .int a2), (3, .int a3), (4, .int a4), (5, .int a5), (6, .int a6)], [], (X1327, w)) (173, [(7, .int (nI 1)), (0, .ref 13), (1, .int a1), (2, .int a2), (3, .int a3), (4, .int a4), (5, .int a5), (6, .int a6)], [], (X1327, w)) rfl (fun _ => ?_) (fun _ => ?_)
                        · refine ab_e_go 4 (183, [(7, .int (nI 1)), (0, .ref 13), (1, .int a1), (2, .int a2), (3, .int a3), (4, .int a4), (5, .int a5), (6, .int a6)], [.int (-1 : Int32), .int (nI 0), .int (nI 0), .ref 13], (X1327, w)) rfl ?_
                          refine ab_e_c3 (k2 := 42) (as := [.ref 13, .int (nI 0), .int (nI 0), .int (-1 : Int32)]) (rest := []) rfl rfl (T_M_reasons S w X1327 (nI 0) (nI 0) (-1 : Int32)) (fun _ X1328 => ?_)
                          refine ab_e_go 1 (187, [(7, .int (nI 1)), (0, .ref 13), (1, .int a1), (2, .int a2), (3, .int a3), (4, .int a4), (5, .int a5), (6, .int a6)], [.ref 13], (X1328, w)) rfl ?_
                          refine ab_e_c3 (k2 := 99) (as := [.ref 13]) (rest := []) rfl rfl (T_M_keeps S w X1328) (fun _ X1329 => ?_)
                          refine ab_e_go 3 (193, [(7, .int (nI 1)), (0, .ref 13), (1, .int a1), (2, .int a2), (3, .int a3), (4, .int a4), (5, .int a5), (6, .int a6)], [.int a2, .int a1, .ref 13], (X1329, w)) rfl ?_
                          refine ab_e_c1 (k2 := 87) (as := [.ref 13, .int a1, .int a2]) (rest := []) rfl rfl (T_M_awardOf S w X1329 a1 a2) (fun v1330 => ?_)
                          refine ab_e_go 4 (202, [(8, .int v1330), (7, .int (nI 1)), (0, .ref 13), (1, .int a1), (2, .int a2), (3, .int a3), (4, .int a4), (5, .int a5), (6, .int a6)], [.int a4, .int a3, .ref 13], (X1329, w)) rfl ?_
                          refine ab_e_c1 (k2 := 87) (as := [.ref 13, .int a3, .int a4]) (rest := []) rfl rfl (T_M_awardOf S w X1329 a3 a4) (fun v1331 => ?_)
                          refine ab_e_go 4 (212, [(9, .int v1331), (8, .int v1330), (7, .int (nI 1)), (0, .ref 13), (1, .int a1), (2, .int a2), (3, .int a3), (4, .int a4), (5, .int a5), (6, .int a6)], [.int a6, .int a5, .ref 13], (X1329, w)) rfl ?_
                          refine ab_e_c1 (k2 := 87) (as := [.ref 13, .int a5, .int a6]) (rest := []) rfl rfl (T_M_awardOf S w X1329 a5 a6) (fun v1332 => ?_)
                          refine ab_e_go 9 (230, [(10, .int v1332), (9, .int v1331), (8, .int v1330), (7, .int (nI 1)), (0, .ref 13), (1, .int a1), (2, .int a2), (3, .int a3), (4, .int a4), (5, .int a5), (6, .int a6)], [.int a3, .int ((nI 309) + ((nI 2) * v1330)), .ref 14], (X1329, w)) rfl ?_
                          refine ab_e_gd (231, [(10, .int v1332), (9, .int v1331), (8, .int v1330), (7, .int (nI 1)), (0, .ref 13), (1, .int a1), (2, .int a2), (3, .int a3), (4, .int a4), (5, .int a5), (6, .int a6)], [], ((ab_up X1329 14 (((nI 309) + ((nI 2) * v1330)).toNatClampNeg) a3), w)) rfl ?_
                          refine ab_e_letX (fun X1333 _ => ?_)
                          refine ab_e_go 8 (245, [(10, .int v1332), (9, .int v1331), (8, .int v1330), (7, .int (nI 1)), (0, .ref 13), (1, .int a1), (2, .int a2), (3, .int a3), (4, .int a4), (5, .int a5), (6, .int a6)], [.int a5, .int ((nI 309) + ((nI 2) * v1331)), .ref 14], (X1333, w)) rfl ?_
                          refine ab_e_gd (246, [(10, .int v1332), (9, .int v1331), (8, .int v1330), (7, .int (nI 1)), (0, .ref 13), (1, .int a1), (2, .int a2), (3, .int a3), (4, .int a4), (5, .int a5), (6, .int a6)], [], ((ab_up X1333 14 (((nI 309) + ((nI 2) * v1331)).toNatClampNeg) a5), w)) rfl ?_
                          refine ab_e_letX (fun X1334 _ => ?_)
                          refine ab_e_go 8 (259, [(10, .int v1332), (9, .int v1331), (8, .int v1330), (7, .int (nI 1)), (0, .ref 13), (1, .int a1), (2, .int a2), (3, .int a3), (4, .int a4), (5, .int a5), (6, .int a6)], [.int a1, .int ((nI 309) + ((nI 2) * v1332)), .ref 14], (X1334, w)) rfl ?_
                          refine ab_e_gd (260, [(10, .int v1332), (9, .int v1331), (8, .int v1330), (7, .int (nI 1)), (0, .ref 13), (1, .int a1), (2, .int a2), (3, .int a3), (4, .int a4), (5, .int a5), (6, .int a6)], [], ((ab_up X1334 14 (((nI 309) + ((nI 2) * v1332)).toNatClampNeg) a1), w)) rfl ?_
                          refine ab_e_letX (fun X1335 _ => ?_)
                          exact ab_e_rt rfl rfl
                        · refine ab_e_go 3 (178, [(7, .int (nI 1)), (0, .ref 13), (1, .int a1), (2, .int a2), (3, .int a3), (4, .int a4), (5, .int a5), (6, .int a6)], [], ((ab_up X1327 13 0 (nI 4)), w)) rfl ?_
                          refine ab_e_letX (fun X1336 _ => ?_)
                          exact ab_e_rt rfl rfl
                  · exact ab_e_rt rfl rfl
                · refine ab_e_go 2 (82, [(7, .int (nI 1)), (0, .ref 13), (1, .int a1), (2, .int a2), (3, .int a3), (4, .int a4), (5, .int a5), (6, .int a6)], [.int a5, .int a3, .ref 13], (X, w)) rfl ?_
                  refine ab_e_bn (c := a3 = a5) (89, [(7, .int (nI 1)), (0, .ref 13), (1, .int a1), (2, .int a2), (3, .int a3), (4, .int a4), (5, .int a5), (6, .int a6)], [.ref 13], (X, w)) (85, [(7, .int (nI 1)), (0, .ref 13), (1, .int a1), (2, .int a2), (3, .int a3), (4, .int a4), (5, .int a5), (6, .int a6)], [.ref 13], (X, w)) rfl (fun _ => ?_) (fun _ => ?_)
                  · refine ab_e_go 3 (92, [(7, .int (nI 1)), (0, .ref 13), (1, .int a1), (2, .int a2), (3, .int a3), (4, .int a4), (5, .int a5), (6, .int a6)], [.int a2, .int a1, .ref 13, .ref 13], (X, w)) rfl ?_
                    refine ab_e_c1 (k2 := 87) (as := [.ref 13, .int a1, .int a2]) (rest := [.ref 13]) rfl rfl (T_M_awardOf S w X a1 a2) (fun v1337 => ?_)
                    refine ab_e_br (c := v1337 < nI 0) (119, [(7, .int (nI 1)), (0, .ref 13), (1, .int a1), (2, .int a2), (3, .int a3), (4, .int a4), (5, .int a5), (6, .int a6)], [.ref 13], (X, w)) (98, [(7, .int (nI 1)), (0, .ref 13), (1, .int a1), (2, .int a2), (3, .int a3), (4, .int a4), (5, .int a5), (6, .int a6)], [.ref 13], (X, w)) rfl (fun _ => ?_) (fun _ => ?_)
                    · refine ab_e_go 3 (127, [(7, .int (nI 1)), (0, .ref 13), (1, .int a1), (2, .int a2), (3, .int a3), (4, .int a4), (5, .int a5), (6, .int a6)], [], ((ab_up X 13 0 (nI 3)), w)) rfl ?_
                      refine ab_e_letX (fun X1338 _ => ?_)
                      refine ab_e_go 2 (131, [(7, .int (nI 1)), (0, .ref 13), (1, .int a1), (2, .int a2), (3, .int a3), (4, .int a4), (5, .int a5), (6, .int a6)], [.int (X1338 13 0)], (X1338, w)) rfl ?_
                      refine ab_e_br (c := X1338 13 0 = nI 0) (135, [(7, .int (nI 1)), (0, .ref 13), (1, .int a1), (2, .int a2), (3, .int a3), (4, .int a4), (5, .int a5), (6, .int a6)], [], (X1338, w)) (134, [(7, .int (nI 1)), (0, .ref 13), (1, .int a1), (2, .int a2), (3, .int a3), (4, .int a4), (5, .int a5), (6, .int a6)], [], (X1338, w)) rfl (fun _ => ?_) (fun _ => ?_)
                      · refine ab_e_go 5 (141, [(7, .int (nI 1)), (0, .ref 13), (1, .int a1), (2, .int a2), (3, .int a3), (4, .int a4), (5, .int a5), (6, .int a6)], [.int (nI 1), .int a6, .int a2, .int a1, .ref 13], (X1338, w)) rfl ?_
                        refine ab_e_c3 (k2 := 241) (as := [.ref 13, .int a1, .int a2, .int a6, .int (nI 1)]) (rest := []) rfl rfl (T_M_mayGet S w X1338 a1 a2 a6 (nI 1)) (fun v1339 X1340 => ?_)
                        refine ab_e_br (c := v1339 = nI 0) (173, [(7, .int (nI 1)), (0, .ref 13), (1, .int a1), (2, .int a2), (3, .int a3), (4, .int a4), (5, .int a5), (6, .int a6)], [], (X1340, w)) (147, [(7, .int (nI 1)), (0, .ref 13), (1, .int a1), (2, .int a2), (3, .int a3), (4, .int a4), (5, .int a5), (6, .int a6)], [], (X1340, w)) rfl (fun _ => ?_) (fun _ => ?_)
                        · refine ab_e_go 3 (178, [(7, .int (nI 1)), (0, .ref 13), (1, .int a1), (2, .int a2), (3, .int a3), (4, .int a4), (5, .int a5), (6, .int a6)], [], ((ab_up X1340 13 0 (nI 4)), w)) rfl ?_
                          refine ab_e_letX (fun X1341 _ => ?_)
                          exact ab_e_rt rfl rfl
                        · refine ab_e_go 5 (153, [(7, .int (nI 1)), (0, .ref 13), (1, .int a1), (2, .int a2), (3, .int a3), (4, .int a4), (5, .int a5), (6, .int a6)], [.int (nI 1), .int a2, .int a4, .int a3, .ref 13], (X1340, w)) rfl ?_
                          refine ab_e_c3 (k2 := 241) (as := [.ref 13, .int a3, .int a4, .int a2, .int (nI 1)]) (rest := []) rfl rfl (T_M_mayGet S w X1340 a3 a4 a2 (nI 1)) (fun v1342 X1343 => ?_)
                          refine ab_e_br (c := v1342 = nI 0) (173, [(7, .int (nI 1)), (0, .ref 13), (1, .int a1), (2, .int a2), (3, .int a3), (4, .int a4), (5, .int a5), (6, .int a6)], [], (X1343, w)) (159, [(7, .int (nI 1)), (0, .ref 13), (1, .int a1), (2, .int a2), (3, .int a3), (4, .int a4), (5, .int a5), (6, .int a6)], [], (X1343, w)) rfl (fun _ => ?_) (fun _ => ?_)
                          · refine ab_e_go 3 (178, [(7, .int (nI 1)), (0, .ref 13), (1, .int a1), (2, .int a2), (3, .int a3), (4, .int a4), (5, .int a5), (6, .int a6)], [], ((ab_up X1343 13 0 (nI 4)), w)) rfl ?_
                            refine ab_e_letX (fun X1344 _ => ?_)
                            exact ab_e_rt rfl rfl
                          · refine ab_e_go 5 (167, [(7, .int (nI 1)), (0, .ref 13), (1, .int a1), (2, .int a2), (3, .int a3), (4, .int a4), (5, .int a5), (6, .int a6)], [.int (nI 1), .int a4, .int a6, .int a5, .ref 13], (X1343, w)) rfl ?_
                            refine ab_e_c3 (k2 := 241) (as := [.ref 13, .int a5, .int a6, .int a4, .int (nI 1)]) (rest := []) rfl rfl (T_M_mayGet S w X1343 a5 a6 a4 (nI 1)) (fun v1345 X1346 => ?_)
                            refine ab_e_bn (c := v1345 = nI 0) (179, [(7, .int (nI 1)), (0, .ref 13), (1, .int a1), (2, .int a2), (3, .int a3), (4, .int a4), (5, .int a5), (6, .int a6)], [], (X1346, w)) (173, [(7, .int (nI 1)), (0, .ref 13), (1, .int a1), (2, .int a2), (3, .int a3), (4, .int a4), (5, .int a5), (6, .int a6)], [], (X1346, w)) rfl (fun _ => ?_) (fun _ => ?_)
                            · refine ab_e_go 4 (183, [(7, .int (nI 1)), (0, .ref 13), (1, .int a1), (2, .int a2), (3, .int a3), (4, .int a4), (5, .int a5), (6, .int a6)], [.int (-1 : Int32), .int (nI 0), .int (nI 0), .ref 13], (X1346, w)) rfl ?_
                              refine ab_e_c3 (k2 := 42) (as := [.ref 13, .int (nI 0), .int (nI 0), .int (-1 : Int32)]) (rest := []) rfl rfl (T_M_reasons S w X1346 (nI 0) (nI 0) (-1 : Int32)) (fun _ X1347 => ?_)
                              refine ab_e_go 1 (187, [(7, .int (nI 1)), (0, .ref 13), (1, .int a1), (2, .int a2), (3, .int a3), (4, .int a4), (5, .int a5), (6, .int a6)], [.ref 13], (X1347, w)) rfl ?_
                              refine ab_e_c3 (k2 := 99) (as := [.ref 13]) (rest := []) rfl rfl (T_M_keeps S w X1347) (fun _ X1348 => ?_)
                              refine ab_e_go 3 (193, [(7, .int (nI 1)), (0, .ref 13), (1, .int a1), (2, .int a2), (3, .int a3), (4, .int a4), (5, .int a5), (6, .int a6)], [.int a2, .int a1, .ref 13], (X1348, w)) rfl ?_
                              refine ab_e_c1 (k2 := 87) (as := [.ref 13, .int a1, .int a2]) (rest := []) rfl rfl (T_M_awardOf S w X1348 a1 a2) (fun v1349 => ?_)
                              refine ab_e_go 4 (202, [(8, .int v1349), (7, .int (nI 1)), (0, .ref 13), (1, .int a1), (2, .int a2), (3, .int a3), (4, .int a4), (5, .int a5), (6, .int a6)], [.int a4, .int a3, .ref 13], (X1348, w)) rfl ?_
                              refine ab_e_c1 (k2 := 87) (as := [.ref 13, .int a3, .int a4]) (rest := []) rfl rfl (T_M_awardOf S w X1348 a3 a4) (fun v1350 => ?_)
                              refine ab_e_go 4 (212, [(9, .int v1350), (8, .int v1349), (7, .int (nI 1)), (0, .ref 13), (1, .int a1), (2, .int a2), (3, .int a3), (4, .int a4), (5, .int a5), (6, .int a6)], [.int a6, .int a5, .ref 13], (X1348, w)) rfl ?_
                              refine ab_e_c1 (k2 := 87) (as := [.ref 13, .int a5, .int a6]) (rest := []) rfl rfl (T_M_awardOf S w X1348 a5 a6) (fun v1351 => ?_)
                              refine ab_e_go 9 (230, [(10, .int v1351), (9, .int v1350), (8, .int v1349), (7, .int (nI 1)), (0, .ref 13), (1, .int a1), (2, .int a2), (3, .int a3), (4, .int a4), (5, .int a5), (6, .int a6)], [.int a3, .int ((nI 309) + ((nI 2) * v1349)), .ref 14], (X1348, w)) rfl ?_
                              refine ab_e_gd (231, [(10, .int v1351), (9, .int v1350), (8, .int v1349), (7, .int (nI 1)), (0, .ref 13), (1, .int a1), (2, .int a2), (3, .int a3), (4, .int a4), (5, .int a5), (6, .int a6)], [], ((ab_up X1348 14 (((nI 309) + ((nI 2) * v1349)).toNatClampNeg) a3), w)) rfl ?_
                              refine ab_e_letX (fun X1352 _ => ?_)
                              refine ab_e_go 8 (245, [(10, .int v1351), (9, .int v1350), (8, .int v1349), (7, .int (nI 1)), (0, .ref 13), (1, .int a1), (2, .int a2), (3, .int a3), (4, .int a4), (5, .int a5), (6, .int a6)], [.int a5, .int ((nI 309) + ((nI 2) * v1350)), .ref 14], (X1352, w)) rfl ?_
                              refine ab_e_gd (246, [(10, .int v1351), (9, .int v1350), (8, .int v1349), (7, .int (nI 1)), (0, .ref 13), (1, .int a1), (2, .int a2), (3, .int a3), (4, .int a4), (5, .int a5), (6, .int a6)], [], ((ab_up X1352 14 (((nI 309) + ((nI 2) * v1350)).toNatClampNeg) a5), w)) rfl ?_
                              refine ab_e_letX (fun X1353 _ => ?_)
                              refine ab_e_go 8 (259, [(10, .int v1351), (9, .int v1350), (8, .int v1349), (7, .int (nI 1)), (0, .ref 13), (1, .int a1), (2, .int a2), (3, .int a3), (4, .int a4), (5, .int a5), (6, .int a6)], [.int a1, .int ((nI 309) + ((nI 2) * v1351)), .ref 14], (X1353, w)) rfl ?_
                              refine ab_e_gd (260, [(10, .int v1351), (9, .int v1350), (8, .int v1349), (7, .int (nI 1)), (0, .ref 13), (1, .int a1), (2, .int a2), (3, .int a3), (4, .int a4), (5, .int a5), (6, .int a6)], [], ((ab_up X1353 14 (((nI 309) + ((nI 2) * v1351)).toNatClampNeg) a1), w)) rfl ?_
                              refine ab_e_letX (fun X1354 _ => ?_)
                              exact ab_e_rt rfl rfl
                            · refine ab_e_go 3 (178, [(7, .int (nI 1)), (0, .ref 13), (1, .int a1), (2, .int a2), (3, .int a3), (4, .int a4), (5, .int a5), (6, .int a6)], [], ((ab_up X1346 13 0 (nI 4)), w)) rfl ?_
                              refine ab_e_letX (fun X1355 _ => ?_)
                              exact ab_e_rt rfl rfl
                      · exact ab_e_rt rfl rfl
                    · refine ab_e_go 3 (102, [(7, .int (nI 1)), (0, .ref 13), (1, .int a1), (2, .int a2), (3, .int a3), (4, .int a4), (5, .int a5), (6, .int a6)], [.int a4, .int a3, .ref 13, .ref 13], (X, w)) rfl ?_
                      refine ab_e_c1 (k2 := 87) (as := [.ref 13, .int a3, .int a4]) (rest := [.ref 13]) rfl rfl (T_M_awardOf S w X a3 a4) (fun v1356 => ?_)
                      refine ab_e_br (c := v1356 < nI 0) (119, [(7, .int (nI 1)), (0, .ref 13), (1, .int a1), (2, .int a2), (3, .int a3), (4, .int a4), (5, .int a5), (6, .int a6)], [.ref 13], (X, w)) (108, [(7, .int (nI 1)), (0, .ref 13), (1, .int a1), (2, .int a2), (3, .int a3), (4, .int a4), (5, .int a5), (6, .int a6)], [.ref 13], (X, w)) rfl (fun _ => ?_) (fun _ => ?_)
                      · refine ab_e_go 3 (127, [(7, .int (nI 1)), (0, .ref 13), (1, .int a1), (2, .int a2), (3, .int a3), (4, .int a4), (5, .int a5), (6, .int a6)], [], ((ab_up X 13 0 (nI 3)), w)) rfl ?_
                        refine ab_e_letX (fun X1357 _ => ?_)
                        refine ab_e_go 2 (131, [(7, .int (nI 1)), (0, .ref 13), (1, .int a1), (2, .int a2), (3, .int a3), (4, .int a4), (5, .int a5), (6, .int a6)], [.int (X1357 13 0)], (X1357, w)) rfl ?_
                        refine ab_e_br (c := X1357 13 0 = nI 0) (135, [(7, .int (nI 1)), (0, .ref 13), (1, .int a1), (2, .int a2), (3, .int a3), (4, .int a4), (5, .int a5), (6, .int a6)], [], (X1357, w)) (134, [(7, .int (nI 1)), (0, .ref 13), (1, .int a1), (2, .int a2), (3, .int a3), (4, .int a4), (5, .int a5), (6, .int a6)], [], (X1357, w)) rfl (fun _ => ?_) (fun _ => ?_)
                        · refine ab_e_go 5 (141, [(7, .int (nI 1)), (0, .ref 13), (1, .int a1), (2, .int a2), (3, .int a3), (4, .int a4), (5, .int a5), (6, .int a6)], [.int (nI 1), .int a6, .int a2, .int a1, .ref 13], (X1357, w)) rfl ?_
                          refine ab_e_c3 (k2 := 241) (as := [.ref 13, .int a1, .int a2, .int a6, .int (nI 1)]) (rest := []) rfl rfl (T_M_mayGet S w X1357 a1 a2 a6 (nI 1)) (fun v1358 X1359 => ?_)
                          refine ab_e_br (c := v1358 = nI 0) (173, [(7, .int (nI 1)), (0, .ref 13), (1, .int a1), (2, .int a2), (3, .int a3), (4, .int a4), (5, .int a5), (6, .int a6)], [], (X1359, w)) (147, [(7, .int (nI 1)), (0, .ref 13), (1, .int a1), (2, .int a2), (3, .int a3), (4, .int a4), (5, .int a5), (6, .int a6)], [], (X1359, w)) rfl (fun _ => ?_) (fun _ => ?_)
                          · refine ab_e_go 3 (178, [(7, .int (nI 1)), (0, .ref 13), (1, .int a1), (2, .int a2), (3, .int a3), (4, .int a4), (5, .int a5), (6, .int a6)], [], ((ab_up X1359 13 0 (nI 4)), w)) rfl ?_
                            refine ab_e_letX (fun X1360 _ => ?_)
                            exact ab_e_rt rfl rfl
                          · refine ab_e_go 5 (153, [(7, .int (nI 1)), (0, .ref 13), (1, .int a1), (2, .int a2), (3, .int a3), (4, .int a4), (5, .int a5), (6, .int a6)], [.int (nI 1), .int a2, .int a4, .int a3, .ref 13], (X1359, w)) rfl ?_
                            refine ab_e_c3 (k2 := 241) (as := [.ref 13, .int a3, .int a4, .int a2, .int (nI 1)]) (rest := []) rfl rfl (T_M_mayGet S w X1359 a3 a4 a2 (nI 1)) (fun v1361 X1362 => ?_)
                            refine ab_e_br (c := v1361 = nI 0) (173, [(7, .int (nI 1)), (0, .ref 13), (1, .int a1), (2, .int a2), (3, .int a3), (4, .int a4), (5, .int a5), (6, .int a6)], [], (X1362, w)) (159, [(7, .int (nI 1)), (0, .ref 13), (1, .int a1), (2, .int a2), (3, .int a3), (4, .int a4), (5, .int a5), (6, .int a6)], [], (X1362, w)) rfl (fun _ => ?_) (fun _ => ?_)
                            · refine ab_e_go 3 (178, [(7, .int (nI 1)), (0, .ref 13), (1, .int a1), (2, .int a2), (3, .int a3), (4, .int a4), (5, .int a5), (6, .int a6)], [], ((ab_up X1362 13 0 (nI 4)), w)) rfl ?_
                              refine ab_e_letX (fun X1363 _ => ?_)
                              exact ab_e_rt rfl rfl
                            · refine ab_e_go 5 (167, [(7, .int (nI 1)), (0, .ref 13), (1, .int a1), (2, .int a2), (3, .int a3), (4, .int a4), (5, .int a5), (6, .int a6)], [.int (nI 1), .int a4, .int a6, .int a5, .ref 13], (X1362, w)) rfl ?_
                              refine ab_e_c3 (k2 := 241) (as := [.ref 13, .int a5, .int a6, .int a4, .int (nI 1)]) (rest := []) rfl rfl (T_M_mayGet S w X1362 a5 a6 a4 (nI 1)) (fun v1364 X1365 => ?_)
                              refine ab_e_bn (c := v1364 = nI 0) (179, [(7, .int (nI 1)), (0, .ref 13), (1, .int a1), (2, .int a2), (3, .int a3), (4, .int a4), (5, .int a5), (6, .int a6)], [], (X1365, w)) (173, [(7, .int (nI 1)), (0, .ref 13), (1, .int a1), (2, .int a2), (3, .int a3), (4, .int a4), (5, .int a5), (6, .int a6)], [], (X1365, w)) rfl (fun _ => ?_) (fun _ => ?_)
                              · refine ab_e_go 4 (183, [(7, .int (nI 1)), (0, .ref 13), (1, .int a1), (2, .int a2), (3, .int a3), (4, .int a4), (5, .int a5), (6, .int a6)], [.int (-1 : Int32), .int (nI 0), .int (nI 0), .ref 13], (X1365, w)) rfl ?_
                                refine ab_e_c3 (k2 := 42) (as := [.ref 13, .int (nI 0), .int (nI 0), .int (-1 : Int32)]) (rest := []) rfl rfl (T_M_reasons S w X1365 (nI 0) (nI 0) (-1 : Int32)) (fun _ X1366 => ?_)
                                refine ab_e_go 1 (187, [(7, .int (nI 1)), (0, .ref 13), (1, .int a1), (2, .int a2), (3, .int a3), (4, .int a4), (5, .int a5), (6, .int a6)], [.ref 13], (X1366, w)) rfl ?_
                                refine ab_e_c3 (k2 := 99) (as := [.ref 13]) (rest := []) rfl rfl (T_M_keeps S w X1366) (fun _ X1367 => ?_)
                                refine ab_e_go 3 (193, [(7, .int (nI 1)), (0, .ref 13), (1, .int a1), (2, .int a2), (3, .int a3), (4, .int a4), (5, .int a5), (6, .int a6)], [.int a2, .int a1, .ref 13], (X1367, w)) rfl ?_
                                refine ab_e_c1 (k2 := 87) (as := [.ref 13, .int a1, .int a2]) (rest := []) rfl rfl (T_M_awardOf S w X1367 a1 a2) (fun v1368 => ?_)
                                refine ab_e_go 4 (202, [(8, .int v1368), (7, .int (nI 1)), (0, .ref 13), (1, .int a1), (2, .int a2), (3, .int a3), (4, .int a4), (5, .int a5), (6, .int a6)], [.int a4, .int a3, .ref 13], (X1367, w)) rfl ?_
                                refine ab_e_c1 (k2 := 87) (as := [.ref 13, .int a3, .int a4]) (rest := []) rfl rfl (T_M_awardOf S w X1367 a3 a4) (fun v1369 => ?_)
                                refine ab_e_go 4 (212, [(9, .int v1369), (8, .int v1368), (7, .int (nI 1)), (0, .ref 13), (1, .int a1), (2, .int a2), (3, .int a3), (4, .int a4), (5, .int a5), (6, .int a6)], [.int a6, .int a5, .ref 13], (X1367, w)) rfl ?_
                                refine ab_e_c1 (k2 := 87) (as := [.ref 13, .int a5, .int a6]) (rest := []) rfl rfl (T_M_awardOf S w X1367 a5 a6) (fun v1370 => ?_)
                                refine ab_e_go 9 (230, [(10, .int v1370), (9, .int v1369), (8, .int v1368), (7, .int (nI 1)), (0, .ref 13), (1, .int a1), (2, .int a2), (3, .int a3), (4, .int a4), (5, .int a5), (6, .int a6)], [.int a3, .int ((nI 309) + ((nI 2) * v1368)), .ref 14], (X1367, w)) rfl ?_
                                refine ab_e_gd (231, [(10, .int v1370), (9, .int v1369), (8, .int v1368), (7, .int (nI 1)), (0, .ref 13), (1, .int a1), (2, .int a2), (3, .int a3), (4, .int a4), (5, .int a5), (6, .int a6)], [], ((ab_up X1367 14 (((nI 309) + ((nI 2) * v1368)).toNatClampNeg) a3), w)) rfl ?_
                                refine ab_e_letX (fun X1371 _ => ?_)
                                refine ab_e_go 8 (245, [(10, .int v1370), (9, .int v1369), (8, .int v1368), (7, .int (nI 1)), (0, .ref 13), (1, .int a1), (2, .int a2), (3, .int a3), (4, .int a4), (5, .int a5), (6, .int a6)], [.int a5, .int ((nI 309) + ((nI 2) * v1369)), .ref 14], (X1371, w)) rfl ?_
                                refine ab_e_gd (246, [(10, .int v1370), (9, .int v1369), (8, .int v1368), (7, .int (nI 1)), (0, .ref 13), (1, .int a1), (2, .int a2), (3, .int a3), (4, .int a4), (5, .int a5), (6, .int a6)], [], ((ab_up X1371 14 (((nI 309) + ((nI 2) * v1369)).toNatClampNeg) a5), w)) rfl ?_
                                refine ab_e_letX (fun X1372 _ => ?_)
                                refine ab_e_go 8 (259, [(10, .int v1370), (9, .int v1369), (8, .int v1368), (7, .int (nI 1)), (0, .ref 13), (1, .int a1), (2, .int a2), (3, .int a3), (4, .int a4), (5, .int a5), (6, .int a6)], [.int a1, .int ((nI 309) + ((nI 2) * v1370)), .ref 14], (X1372, w)) rfl ?_
                                refine ab_e_gd (260, [(10, .int v1370), (9, .int v1369), (8, .int v1368), (7, .int (nI 1)), (0, .ref 13), (1, .int a1), (2, .int a2), (3, .int a3), (4, .int a4), (5, .int a5), (6, .int a6)], [], ((ab_up X1372 14 (((nI 309) + ((nI 2) * v1370)).toNatClampNeg) a1), w)) rfl ?_
                                refine ab_e_letX (fun X1373 _ => ?_)
                                exact ab_e_rt rfl rfl
                              · refine ab_e_go 3 (178, [(7, .int (nI 1)), (0, .ref 13), (1, .int a1), (2, .int a2), (3, .int a3), (4, .int a4), (5, .int a5), (6, .int a6)], [], ((ab_up X1365 13 0 (nI 4)), w)) rfl ?_
                                refine ab_e_letX (fun X1374 _ => ?_)
                                exact ab_e_rt rfl rfl
                        · exact ab_e_rt rfl rfl
                      · refine ab_e_go 3 (113, [(7, .int (nI 1)), (0, .ref 13), (1, .int a1), (2, .int a2), (3, .int a3), (4, .int a4), (5, .int a5), (6, .int a6)], [.int a6, .int a5, .ref 13, .ref 13], (X, w)) rfl ?_
                        refine ab_e_c1 (k2 := 87) (as := [.ref 13, .int a5, .int a6]) (rest := [.ref 13]) rfl rfl (T_M_awardOf S w X a5 a6) (fun v1375 => ?_)
                        refine ab_e_br (c := nI 0 ≤ v1375) (123, [(7, .int (nI 1)), (0, .ref 13), (1, .int a1), (2, .int a2), (3, .int a3), (4, .int a4), (5, .int a5), (6, .int a6)], [.ref 13], (X, w)) (119, [(7, .int (nI 1)), (0, .ref 13), (1, .int a1), (2, .int a2), (3, .int a3), (4, .int a4), (5, .int a5), (6, .int a6)], [.ref 13], (X, w)) rfl (fun _ => ?_) (fun _ => ?_)
                        · refine ab_e_go 2 (127, [(7, .int (nI 1)), (0, .ref 13), (1, .int a1), (2, .int a2), (3, .int a3), (4, .int a4), (5, .int a5), (6, .int a6)], [], ((ab_up X 13 0 (nI 0)), w)) rfl ?_
                          refine ab_e_letX (fun X1376 _ => ?_)
                          refine ab_e_go 2 (131, [(7, .int (nI 1)), (0, .ref 13), (1, .int a1), (2, .int a2), (3, .int a3), (4, .int a4), (5, .int a5), (6, .int a6)], [.int (X1376 13 0)], (X1376, w)) rfl ?_
                          refine ab_e_br (c := X1376 13 0 = nI 0) (135, [(7, .int (nI 1)), (0, .ref 13), (1, .int a1), (2, .int a2), (3, .int a3), (4, .int a4), (5, .int a5), (6, .int a6)], [], (X1376, w)) (134, [(7, .int (nI 1)), (0, .ref 13), (1, .int a1), (2, .int a2), (3, .int a3), (4, .int a4), (5, .int a5), (6, .int a6)], [], (X1376, w)) rfl (fun _ => ?_) (fun _ => ?_)
                          · refine ab_e_go 5 (141, [(7, .int (nI 1)), (0, .ref 13), (1, .int a1), (2, .int a2), (3, .int a3), (4, .int a4), (5, .int a5), (6, .int a6)], [.int (nI 1), .int a6, .int a2, .int a1, .ref 13], (X1376, w)) rfl ?_
                            refine ab_e_c3 (k2 := 241) (as := [.ref 13, .int a1, .int a2, .int a6, .int (nI 1)]) (rest := []) rfl rfl (T_M_mayGet S w X1376 a1 a2 a6 (nI 1)) (fun v1377 X1378 => ?_)
                            refine ab_e_br (c := v1377 = nI 0) (173, [(7, .int (nI 1)), (0, .ref 13), (1, .int a1), (2, .int a2), (3, .int a3), (4, .int a4), (5, .int a5), (6, .int a6)], [], (X1378, w)) (147, [(7, .int (nI 1)), (0, .ref 13), (1, .int a1), (2, .int a2), (3, .int a3), (4, .int a4), (5, .int a5), (6, .int a6)], [], (X1378, w)) rfl (fun _ => ?_) (fun _ => ?_)
                            · refine ab_e_go 3 (178, [(7, .int (nI 1)), (0, .ref 13), (1, .int a1), (2, .int a2), (3, .int a3), (4, .int a4), (5, .int a5), (6, .int a6)], [], ((ab_up X1378 13 0 (nI 4)), w)) rfl ?_
                              refine ab_e_letX (fun X1379 _ => ?_)
                              exact ab_e_rt rfl rfl
                            · refine ab_e_go 5 (153, [(7, .int (nI 1)), (0, .ref 13), (1, .int a1), (2, .int a2), (3, .int a3), (4, .int a4), (5, .int a5), (6, .int a6)], [.int (nI 1), .int a2, .int a4, .int a3, .ref 13], (X1378, w)) rfl ?_
                              refine ab_e_c3 (k2 := 241) (as := [.ref 13, .int a3, .int a4, .int a2, .int (nI 1)]) (rest := []) rfl rfl (T_M_mayGet S w X1378 a3 a4 a2 (nI 1)) (fun v1380 X1381 => ?_)
                              refine ab_e_br (c := v1380 = nI 0) (173, [(7, .int (nI 1)), (0, .ref 13), (1, .int a1), (2, .int a2), (3, .int a3), (4, .int a4), (5, .int a5), (6, .int a6)], [], (X1381, w)) (159, [(7, .int (nI 1)), (0, .ref 13), (1, .int a1), (2, .int a2), (3, .int a3), (4, .int a4), (5, .int a5), (6, .int a6)], [], (X1381, w)) rfl (fun _ => ?_) (fun _ => ?_)
                              · refine ab_e_go 3 (178, [(7, .int (nI 1)), (0, .ref 13), (1, .int a1), (2, .int a2), (3, .int a3), (4, .int a4), (5, .int a5), (6, .int a6)], [], ((ab_up X1381 13 0 (nI 4)), w)) rfl ?_
                                refine ab_e_letX (fun X1382 _ => ?_)
                                exact ab_e_rt rfl rfl
                              · refine ab_e_go 5 (167, [(7, .int (nI 1)), (0, .ref 13), (1, .int a1), (2, .int a2), (3, .int a3), (4, .int a4), (5, .int a5), (6, .int a6)], [.int (nI 1), .int a4, .int a6, .int a5, .ref 13], (X1381, w)) rfl ?_
                                refine ab_e_c3 (k2 := 241) (as := [.ref 13, .int a5, .int a6, .int a4, .int (nI 1)]) (rest := []) rfl rfl (T_M_mayGet S w X1381 a5 a6 a4 (nI 1)) (fun v1383 X1384 => ?_)
                                refine ab_e_bn (c := v1383 = nI 0) (179, [(7, .int (nI 1)), (0, .ref 13), (1, .int a1), (2, .int a2), (3, .int a3), (4, .int a4), (5, .int a5), (6, .int a6)], [], (X1384, w)) (173, [(7, .int (nI 1)), (0, .ref 13), (1, .int a1), (2, .int a2), (3, .int a3), (4, .int a4), (5, .int a5), (6, .int a6)], [], (X1384, w)) rfl (fun _ => ?_) (fun _ => ?_)
                                · refine ab_e_go 4 (183, [(7, .int (nI 1)), (0, .ref 13), (1, .int a1), (2, .int a2), (3, .int a3), (4, .int a4), (5, .int a5), (6, .int a6)], [.int (-1 : Int32), .int (nI 0), .int (nI 0), .ref 13], (X1384, w)) rfl ?_
                                  refine ab_e_c3 (k2 := 42) (as := [.ref 13, .int (nI 0), .int (nI 0), .int (-1 : Int32)]) (rest := []) rfl rfl (T_M_reasons S w X1384 (nI 0) (nI 0) (-1 : Int32)) (fun _ X1385 => ?_)
                                  refine ab_e_go 1 (187, [(7, .int (nI 1)), (0, .ref 13), (1, .int a1), (2, .int a2), (3, .int a3), (4, .int a4), (5, .int a5), (6, .int a6)], [.ref 13], (X1385, w)) rfl ?_
                                  refine ab_e_c3 (k2 := 99) (as := [.ref 13]) (rest := []) rfl rfl (T_M_keeps S w X1385) (fun _ X1386 => ?_)
                                  refine ab_e_go 3 (193, [(7, .int (nI 1)), (0, .ref 13), (1, .int a1), (2, .int a2), (3, .int a3), (4, .int a4), (5, .int a5), (6, .int a6)], [.int a2, .int a1, .ref 13], (X1386, w)) rfl ?_
                                  refine ab_e_c1 (k2 := 87) (as := [.ref 13, .int a1, .int a2]) (rest := []) rfl rfl (T_M_awardOf S w X1386 a1 a2) (fun v1387 => ?_)
                                  refine ab_e_go 4 (202, [(8, .int v1387), (7, .int (nI 1)), (0, .ref 13), (1, .int a1), (2, .int a2), (3, .int a3), (4, .int a4), (5, .int a5), (6, .int a6)], [.int a4, .int a3, .ref 13], (X1386, w)) rfl ?_
                                  refine ab_e_c1 (k2 := 87) (as := [.ref 13, .int a3, .int a4]) (rest := []) rfl rfl (T_M_awardOf S w X1386 a3 a4) (fun v1388 => ?_)
                                  refine ab_e_go 4 (212, [(9, .int v1388), (8, .int v1387), (7, .int (nI 1)), (0, .ref 13), (1, .int a1), (2, .int a2), (3, .int a3), (4, .int a4), (5, .int a5), (6, .int a6)], [.int a6, .int a5, .ref 13], (X1386, w)) rfl ?_
                                  refine ab_e_c1 (k2 := 87) (as := [.ref 13, .int a5, .int a6]) (rest := []) rfl rfl (T_M_awardOf S w X1386 a5 a6) (fun v1389 => ?_)
                                  refine ab_e_go 9 (230, [(10, .int v1389), (9, .int v1388), (8, .int v1387), (7, .int (nI 1)), (0, .ref 13), (1, .int a1), (2, .int a2), (3, .int a3), (4, .int a4), (5, .int a5), (6, .int a6)], [.int a3, .int ((nI 309) + ((nI 2) * v1387)), .ref 14], (X1386, w)) rfl ?_
                                  refine ab_e_gd (231, [(10, .int v1389), (9, .int v1388), (8, .int v1387), (7, .int (nI 1)), (0, .ref 13), (1, .int a1), (2, .int a2), (3, .int a3), (4, .int a4), (5, .int a5), (6, .int a6)], [], ((ab_up X1386 14 (((nI 309) + ((nI 2) * v1387)).toNatClampNeg) a3), w)) rfl ?_
                                  refine ab_e_letX (fun X1390 _ => ?_)
                                  refine ab_e_go 8 (245, [(10, .int v1389), (9, .int v1388), (8, .int v1387), (7, .int (nI 1)), (0, .ref 13), (1, .int a1), (2, .int a2), (3, .int a3), (4, .int a4), (5, .int a5), (6, .int a6)], [.int a5, .int ((nI 309) + ((nI 2) * v1388)), .ref 14], (X1390, w)) rfl ?_
                                  refine ab_e_gd (246, [(10, .int v1389), (9, .int v1388), (8, .int v1387), (7, .int (nI 1)), (0, .ref 13), (1, .int a1), (2, .int a2), (3, .int a3), (4, .int a4), (5, .int a5), (6, .int a6)], [], ((ab_up X1390 14 (((nI 309) + ((nI 2) * v1388)).toNatClampNeg) a5), w)) rfl ?_
                                  refine ab_e_letX (fun X1391 _ => ?_)
                                  refine ab_e_go 8 (259, [(10, .int v1389), (9, .int v1388), (8, .int v1387), (7, .int (nI 1)), (0, .ref 13), (1, .int a1), (2, .int a2), (3, .int a3), (4, .int a4), (5, .int a5), (6, .int a6)], [.int a1, .int ((nI 309) + ((nI 2) * v1389)), .ref 14], (X1391, w)) rfl ?_
                                  refine ab_e_gd (260, [(10, .int v1389), (9, .int v1388), (8, .int v1387), (7, .int (nI 1)), (0, .ref 13), (1, .int a1), (2, .int a2), (3, .int a3), (4, .int a4), (5, .int a5), (6, .int a6)], [], ((ab_up X1391 14 (((nI 309) + ((nI 2) * v1389)).toNatClampNeg) a1), w)) rfl ?_
                                  refine ab_e_letX (fun X1392 _ => ?_)
                                  exact ab_e_rt rfl rfl
                                · refine ab_e_go 3 (178, [(7, .int (nI 1)), (0, .ref 13), (1, .int a1), (2, .int a2), (3, .int a3), (4, .int a4), (5, .int a5), (6, .int a6)], [], ((ab_up X1384 13 0 (nI 4)), w)) rfl ?_
                                  refine ab_e_letX (fun X1393 _ => ?_)
                                  exact ab_e_rt rfl rfl
                          · exact ab_e_rt rfl rfl
                        · refine ab_e_go 3 (127, [(7, .int (nI 1)), (0, .ref 13), (1, .int a1), (2, .int a2), (3, .int a3), (4, .int a4), (5, .int a5), (6, .int a6)], [], ((ab_up X 13 0 (nI 3)), w)) rfl ?_
                          refine ab_e_letX (fun X1394 _ => ?_)
                          refine ab_e_go 2 (131, [(7, .int (nI 1)), (0, .ref 13), (1, .int a1), (2, .int a2), (3, .int a3), (4, .int a4), (5, .int a5), (6, .int a6)], [.int (X1394 13 0)], (X1394, w)) rfl ?_
                          refine ab_e_br (c := X1394 13 0 = nI 0) (135, [(7, .int (nI 1)), (0, .ref 13), (1, .int a1), (2, .int a2), (3, .int a3), (4, .int a4), (5, .int a5), (6, .int a6)], [], (X1394, w)) (134, [(7, .int (nI 1)), (0, .ref 13), (1, .int a1), (2, .int a2), (3, .int a3), (4, .int a4), (5, .int a5), (6, .int a6)], [], (X1394, w)) rfl (fun _ => ?_) (fun _ => ?_)
                          · refine ab_e_go 5 (141, [(7, .int (nI 1)), (0, .ref 13), (1, .int a1), (2, .int a2), (3, .int a3), (4, .int a4), (5, .int a5), (6, .int a6)], [.int (nI 1), .int a6, .int a2, .int a1, .ref 13], (X1394, w)) rfl ?_
                            refine ab_e_c3 (k2 := 241) (as := [.ref 13, .int a1, .int a2, .int a6, .int (nI 1)]) (rest := []) rfl rfl (T_M_mayGet S w X1394 a1 a2 a6 (nI 1)) (fun v1395 X1396 => ?_)
                            refine ab_e_br (c := v1395 = nI 0) (173, [(7, .int (nI 1)), (0, .ref 13), (1, .int a1), (2, .int a2), (3, .int a3), (4, .int a4), (5, .int a5), (6, .int a6)], [], (X1396, w)) (147, [(7, .int (nI 1)), (0, .ref 13), (1, .int a1), (2, .int a2), (3, .int a3), (4, .int a4), (5, .int a5), (6, .int a6)], [], (X1396, w)) rfl (fun _ => ?_) (fun _ => ?_)
                            · refine ab_e_go 3 (178, [(7, .int (nI 1)), (0, .ref 13), (1, .int a1), (2, .int a2), (3, .int a3), (4, .int a4), (5, .int a5), (6, .int a6)], [], ((ab_up X1396 13 0 (nI 4)), w)) rfl ?_
                              refine ab_e_letX (fun X1397 _ => ?_)
                              exact ab_e_rt rfl rfl
                            · refine ab_e_go 5 (153, [(7, .int (nI 1)), (0, .ref 13), (1, .int a1), (2, .int a2), (3, .int a3), (4, .int a4), (5, .int a5), (6, .int a6)], [.int (nI 1), .int a2, .int a4, .int a3, .ref 13], (X1396, w)) rfl ?_
                              refine ab_e_c3 (k2 := 241) (as := [.ref 13, .int a3, .int a4, .int a2, .int (nI 1)]) (rest := []) rfl rfl (T_M_mayGet S w X1396 a3 a4 a2 (nI 1)) (fun v1398 X1399 => ?_)
                              refine ab_e_br (c := v1398 = nI 0) (173, [(7, .int (nI 1)), (0, .ref 13), (1, .int a1), (2, .int a2), (3, .int a3), (4, .int a4), (5, .int a5), (6, .int a6)], [], (X1399, w)) (159, [(7, .int (nI 1)), (0, .ref 13), (1, .int a1), (2, .int a2), (3, .int a3), (4, .int a4), (5, .int a5), (6, .int a6)], [], (X1399, w)) rfl (fun _ => ?_) (fun _ => ?_)
                              · refine ab_e_go 3 (178, [(7, .int (nI 1)), (0, .ref 13), (1, .int a1), (2, .int a2), (3, .int a3), (4, .int a4), (5, .int a5), (6, .int a6)], [], ((ab_up X1399 13 0 (nI 4)), w)) rfl ?_
                                refine ab_e_letX (fun X1400 _ => ?_)
                                exact ab_e_rt rfl rfl
                              · refine ab_e_go 5 (167, [(7, .int (nI 1)), (0, .ref 13), (1, .int a1), (2, .int a2), (3, .int a3), (4, .int a4), (5, .int a5), (6, .int a6)], [.int (nI 1), .int a4, .int a6, .int a5, .ref 13], (X1399, w)) rfl ?_
                                refine ab_e_c3 (k2 := 241) (as := [.ref 13, .int a5, .int a6, .int a4, .int (nI 1)]) (rest := []) rfl rfl (T_M_mayGet S w X1399 a5 a6 a4 (nI 1)) (fun v1401 X1402 => ?_)
                                refine ab_e_bn (c := v1401 = nI 0) (179, [(7, .int (nI 1)), (0, .ref 13), (1, .int a1), (2, .int a2), (3, .int a3), (4, .int a4), (5, .int a5), (6, .int a6)], [], (X1402, w)) (173, [(7, .int (nI 1)), (0, .ref 13), (1, .int a1), (2, .int a2), (3, .int a3), (4, .int a4), (5, .int a5), (6, .int a6)], [], (X1402, w)) rfl (fun _ => ?_) (fun _ => ?_)
                                · refine ab_e_go 4 (183, [(7, .int (nI 1)), (0, .ref 13), (1, .int a1), (2, .int a2), (3, .int a3), (4, .int a4), (5, .int a5), (6, .int a6)], [.int (-1 : Int32), .int (nI 0), .int (nI 0), .ref 13], (X1402, w)) rfl ?_
                                  refine ab_e_c3 (k2 := 42) (as := [.ref 13, .int (nI 0), .int (nI 0), .int (-1 : Int32)]) (rest := []) rfl rfl (T_M_reasons S w X1402 (nI 0) (nI 0) (-1 : Int32)) (fun _ X1403 => ?_)
                                  refine ab_e_go 1 (187, [(7, .int (nI 1)), (0, .ref 13), (1, .int a1), (2, .int a2), (3, .int a3), (4, .int a4), (5, .int a5), (6, .int a6)], [.ref 13], (X1403, w)) rfl ?_
                                  refine ab_e_c3 (k2 := 99) (as := [.ref 13]) (rest := []) rfl rfl (T_M_keeps S w X1403) (fun _ X1404 => ?_)
                                  refine ab_e_go 3 (193, [(7, .int (nI 1)), (0, .ref 13), (1, .int a1), (2, .int a2), (3, .int a3), (4, .int a4), (5, .int a5), (6, .int a6)], [.int a2, .int a1, .ref 13], (X1404, w)) rfl ?_
                                  refine ab_e_c1 (k2 := 87) (as := [.ref 13, .int a1, .int a2]) (rest := []) rfl rfl (T_M_awardOf S w X1404 a1 a2) (fun v1405 => ?_)
                                  refine ab_e_go 4 (202, [(8, .int v1405), (7, .int (nI 1)), (0, .ref 13), (1, .int a1), (2, .int a2), (3, .int a3), (4, .int a4), (5, .int a5), (6, .int a6)], [.int a4, .int a3, .ref 13], (X1404, w)) rfl ?_
                                  refine ab_e_c1 (k2 := 87) (as := [.ref 13, .int a3, .int a4]) (rest := []) rfl rfl (T_M_awardOf S w X1404 a3 a4) (fun v1406 => ?_)
                                  refine ab_e_go 4 (212, [(9, .int v1406), (8, .int v1405), (7, .int (nI 1)), (0, .ref 13), (1, .int a1), (2, .int a2), (3, .int a3), (4, .int a4), (5, .int a5), (6, .int a6)], [.int a6, .int a5, .ref 13], (X1404, w)) rfl ?_
                                  refine ab_e_c1 (k2 := 87) (as := [.ref 13, .int a5, .int a6]) (rest := []) rfl rfl (T_M_awardOf S w X1404 a5 a6) (fun v1407 => ?_)
                                  refine ab_e_go 9 (230, [(10, .int v1407), (9, .int v1406), (8, .int v1405), (7, .int (nI 1)), (0, .ref 13), (1, .int a1), (2, .int a2), (3, .int a3), (4, .int a4), (5, .int a5), (6, .int a6)], [.int a3, .int ((nI 309) + ((nI 2) * v1405)), .ref 14], (X1404, w)) rfl ?_
                                  refine ab_e_gd (231, [(10, .int v1407), (9, .int v1406), (8, .int v1405), (7, .int (nI 1)), (0, .ref 13), (1, .int a1), (2, .int a2), (3, .int a3), (4, .int a4), (5, .int a5), (6, .int a6)], [], ((ab_up X1404 14 (((nI 309) + ((nI 2) * v1405)).toNatClampNeg) a3), w)) rfl ?_
                                  refine ab_e_letX (fun X1408 _ => ?_)
                                  refine ab_e_go 8 (245, [(10, .int v1407), (9, .int v1406), (8, .int v1405), (7, .int (nI 1)), (0, .ref 13), (1, .int a1), (2, .int a2), (3, .int a3), (4, .int a4), (5, .int a5), (6, .int a6)], [.int a5, .int ((nI 309) + ((nI 2) * v1406)), .ref 14], (X1408, w)) rfl ?_
                                  refine ab_e_gd (246, [(10, .int v1407), (9, .int v1406), (8, .int v1405), (7, .int (nI 1)), (0, .ref 13), (1, .int a1), (2, .int a2), (3, .int a3), (4, .int a4), (5, .int a5), (6, .int a6)], [], ((ab_up X1408 14 (((nI 309) + ((nI 2) * v1406)).toNatClampNeg) a5), w)) rfl ?_
                                  refine ab_e_letX (fun X1409 _ => ?_)
                                  refine ab_e_go 8 (259, [(10, .int v1407), (9, .int v1406), (8, .int v1405), (7, .int (nI 1)), (0, .ref 13), (1, .int a1), (2, .int a2), (3, .int a3), (4, .int a4), (5, .int a5), (6, .int a6)], [.int a1, .int ((nI 309) + ((nI 2) * v1407)), .ref 14], (X1409, w)) rfl ?_
                                  refine ab_e_gd (260, [(10, .int v1407), (9, .int v1406), (8, .int v1405), (7, .int (nI 1)), (0, .ref 13), (1, .int a1), (2, .int a2), (3, .int a3), (4, .int a4), (5, .int a5), (6, .int a6)], [], ((ab_up X1409 14 (((nI 309) + ((nI 2) * v1407)).toNatClampNeg) a1), w)) rfl ?_
                                  refine ab_e_letX (fun X1410 _ => ?_)
                                  exact ab_e_rt rfl rfl
                                · refine ab_e_go 3 (178, [(7, .int (nI 1)), (0, .ref 13), (1, .int a1), (2, .int a2), (3, .int a3), (4, .int a4), (5, .int a5), (6, .int a6)], [], ((ab_up X1402 13 0 (nI 4)), w)) rfl ?_
                                  refine ab_e_letX (fun X1411 _ => ?_)
                                  exact ab_e_rt rfl rfl
                          · exact ab_e_rt rfl rfl
                  · refine ab_e_go 3 (127, [(7, .int (nI 1)), (0, .ref 13), (1, .int a1), (2, .int a2), (3, .int a3), (4, .int a4), (5, .int a5), (6, .int a6)], [], ((ab_up X 13 0 (nI 2)), w)) rfl ?_
                    refine ab_e_letX (fun X1412 _ => ?_)
                    refine ab_e_go 2 (131, [(7, .int (nI 1)), (0, .ref 13), (1, .int a1), (2, .int a2), (3, .int a3), (4, .int a4), (5, .int a5), (6, .int a6)], [.int (X1412 13 0)], (X1412, w)) rfl ?_
                    refine ab_e_br (c := X1412 13 0 = nI 0) (135, [(7, .int (nI 1)), (0, .ref 13), (1, .int a1), (2, .int a2), (3, .int a3), (4, .int a4), (5, .int a5), (6, .int a6)], [], (X1412, w)) (134, [(7, .int (nI 1)), (0, .ref 13), (1, .int a1), (2, .int a2), (3, .int a3), (4, .int a4), (5, .int a5), (6, .int a6)], [], (X1412, w)) rfl (fun _ => ?_) (fun _ => ?_)
                    · refine ab_e_go 5 (141, [(7, .int (nI 1)), (0, .ref 13), (1, .int a1), (2, .int a2), (3, .int a3), (4, .int a4), (5, .int a5), (6, .int a6)], [.int (nI 1), .int a6, .int a2, .int a1, .ref 13], (X1412, w)) rfl ?_
                      refine ab_e_c3 (k2 := 241) (as := [.ref 13, .int a1, .int a2, .int a6, .int (nI 1)]) (rest := []) rfl rfl (T_M_mayGet S w X1412 a1 a2 a6 (nI 1)) (fun v1413 X1414 => ?_)
                      refine ab_e_br (c := v1413 = nI 0) (173, [(7, .int (nI 1)), (0, .ref 13), (1, .int a1), (2, .int a2), (3, .int a3), (4, .int a4), (5, .int a5), (6, .int a6)], [], (X1414, w)) (147, [(7, .int (nI 1)), (0, .ref 13), (1, .int a1), (2, .int a2), (3, .int a3), (4, .int a4), (5, .int a5), (6, .int a6)], [], (X1414, w)) rfl (fun _ => ?_) (fun _ => ?_)
                      · refine ab_e_go 3 (178, [(7, .int (nI 1)), (0, .ref 13), (1, .int a1), (2, .int a2), (3, .int a3), (4, .int a4), (5, .int a5), (6, .int a6)], [], ((ab_up X1414 13 0 (nI 4)), w)) rfl ?_
                        refine ab_e_letX (fun X1415 _ => ?_)
                        exact ab_e_rt rfl rfl
                      · refine ab_e_go 5 (153, [(7, .int (nI 1)), (0, .ref 13), (1, .int a1), (2, .int a2), (3, .int a3), (4, .int a4), (5, .int a5), (6, .int a6)], [.int (nI 1), .int a2, .int a4, .int a3, .ref 13], (X1414, w)) rfl ?_
                        refine ab_e_c3 (k2 := 241) (as := [.ref 13, .int a3, .int a4, .int a2, .int (nI 1)]) (rest := []) rfl rfl (T_M_mayGet S w X1414 a3 a4 a2 (nI 1)) (fun v1416 X1417 => ?_)
                        refine ab_e_br (c := v1416 = nI 0) (173, [(7, .int (nI 1)), (0, .ref 13), (1, .int a1), (2, .int a2), (3, .int a3), (4, .int a4), (5, .int a5), (6, .int a6)], [], (X1417, w)) (159, [(7, .int (nI 1)), (0, .ref 13), (1, .int a1), (2, .int a2), (3, .int a3), (4, .int a4), (5, .int a5), (6, .int a6)], [], (X1417, w)) rfl (fun _ => ?_) (fun _ => ?_)
                        · refine ab_e_go 3 (178, [(7, .int (nI 1)), (0, .ref 13), (1, .int a1), (2, .int a2), (3, .int a3), (4, .int a4), (5, .int a5), (6, .int a6)], [], ((ab_up X1417 13 0 (nI 4)), w)) rfl ?_
                          refine ab_e_letX (fun X1418 _ => ?_)
                          exact ab_e_rt rfl rfl
                        · refine ab_e_go 5 (167, [(7, .int (nI 1)), (0, .ref 13), (1, .int a1), (2, .int a2), (3, .int a3), (4, .int a4), (5, .int a5), (6, .int a6)], [.int (nI 1), .int a4, .int a6, .int a5, .ref 13], (X1417, w)) rfl ?_
                          refine ab_e_c3 (k2 := 241) (as := [.ref 13, .int a5, .int a6, .int a4, .int (nI 1)]) (rest := []) rfl rfl (T_M_mayGet S w X1417 a5 a6 a4 (nI 1)) (fun v1419 X1420 => ?_)
                          refine ab_e_bn (c := v1419 = nI 0) (179, [(7, .int (nI 1)), (0, .ref 13), (1, .int a1), (2, .int a2), (3, .int a3), (4, .int a4), (5, .int a5), (6, .int a6)], [], (X1420, w)) (173, [(7, .int (nI 1)), (0, .ref 13), (1, .int a1), (2, .int a2), (3, .int a3), (4, .int a4), (5, .int a5), (6, .int a6)], [], (X1420, w)) rfl (fun _ => ?_) (fun _ => ?_)
                          · refine ab_e_go 4 (183, [(7, .int (nI 1)), (0, .ref 13), (1, .int a1), (2, .int a2), (3, .int a3), (4, .int a4), (5, .int a5), (6, .int a6)], [.int (-1 : Int32), .int (nI 0), .int (nI 0), .ref 13], (X1420, w)) rfl ?_
                            refine ab_e_c3 (k2 := 42) (as := [.ref 13, .int (nI 0), .int (nI 0), .int (-1 : Int32)]) (rest := []) rfl rfl (T_M_reasons S w X1420 (nI 0) (nI 0) (-1 : Int32)) (fun _ X1421 => ?_)
                            refine ab_e_go 1 (187, [(7, .int (nI 1)), (0, .ref 13), (1, .int a1), (2, .int a2), (3, .int a3), (4, .int a4), (5, .int a5), (6, .int a6)], [.ref 13], (X1421, w)) rfl ?_
                            refine ab_e_c3 (k2 := 99) (as := [.ref 13]) (rest := []) rfl rfl (T_M_keeps S w X1421) (fun _ X1422 => ?_)
                            refine ab_e_go 3 (193, [(7, .int (nI 1)), (0, .ref 13), (1, .int a1), (2, .int a2), (3, .int a3), (4, .int a4), (5, .int a5), (6, .int a6)], [.int a2, .int a1, .ref 13], (X1422, w)) rfl ?_
                            refine ab_e_c1 (k2 := 87) (as := [.ref 13, .int a1, .int a2]) (rest := []) rfl rfl (T_M_awardOf S w X1422 a1 a2) (fun v1423 => ?_)
                            refine ab_e_go 4 (202, [(8, .int v1423), (7, .int (nI 1)), (0, .ref 13), (1, .int a1), (2, .int a2), (3, .int a3), (4, .int a4), (5, .int a5), (6, .int a6)], [.int a4, .int a3, .ref 13], (X1422, w)) rfl ?_
                            refine ab_e_c1 (k2 := 87) (as := [.ref 13, .int a3, .int a4]) (rest := []) rfl rfl (T_M_awardOf S w X1422 a3 a4) (fun v1424 => ?_)
                            refine ab_e_go 4 (212, [(9, .int v1424), (8, .int v1423), (7, .int (nI 1)), (0, .ref 13), (1, .int a1), (2, .int a2), (3, .int a3), (4, .int a4), (5, .int a5), (6, .int a6)], [.int a6, .int a5, .ref 13], (X1422, w)) rfl ?_
                            refine ab_e_c1 (k2 := 87) (as := [.ref 13, .int a5, .int a6]) (rest := []) rfl rfl (T_M_awardOf S w X1422 a5 a6) (fun v1425 => ?_)
                            refine ab_e_go 9 (230, [(10, .int v1425), (9, .int v1424), (8, .int v1423), (7, .int (nI 1)), (0, .ref 13), (1, .int a1), (2, .int a2), (3, .int a3), (4, .int a4), (5, .int a5), (6, .int a6)], [.int a3, .int ((nI 309) + ((nI 2) * v1423)), .ref 14], (X1422, w)) rfl ?_
                            refine ab_e_gd (231, [(10, .int v1425), (9, .int v1424), (8, .int v1423), (7, .int (nI 1)), (0, .ref 13), (1, .int a1), (2, .int a2), (3, .int a3), (4, .int a4), (5, .int a5), (6, .int a6)], [], ((ab_up X1422 14 (((nI 309) + ((nI 2) * v1423)).toNatClampNeg) a3), w)) rfl ?_
                            refine ab_e_letX (fun X1426 _ => ?_)
                            refine ab_e_go 8 (245, [(10, .int v1425), (9, .int v1424), (8, .int v1423), (7, .int (nI 1)), (0, .ref 13), (1, .int a1), (2, .int a2), (3, .int a3), (4, .int a4), (5, .int a5), (6, .int a6)], [.int a5, .int ((nI 309) + ((nI 2) * v1424)), .ref 14], (X1426, w)) rfl ?_
                            refine ab_e_gd (246, [(10, .int v1425), (9, .int v1424), (8, .int v1423), (7, .int (nI 1)), (0, .ref 13), (1, .int a1), (2, .int a2), (3, .int a3), (4, .int a4), (5, .int a5), (6, .int a6)], [], ((ab_up X1426 14 (((nI 309) + ((nI 2) * v1424)).toNatClampNeg) a5), w)) rfl ?_
                            refine ab_e_letX (fun X1427 _ => ?_)
                            refine ab_e_go 8 (259, [(10, .int v1425), (9, .int v1424), (8, .int v1423), (7, .int (nI 1)), (0, .ref 13), (1, .int a1), (2, .int a2), (3, .int a3), (4, .int a4), (5, .int a5), (6, .int a6)], [.int a1, .int ((nI 309) + ((nI 2) * v1425)), .ref 14], (X1427, w)) rfl ?_
                            refine ab_e_gd (260, [(10, .int v1425), (9, .int v1424), (8, .int v1423), (7, .int (nI 1)), (0, .ref 13), (1, .int a1), (2, .int a2), (3, .int a3), (4, .int a4), (5, .int a5), (6, .int a6)], [], ((ab_up X1427 14 (((nI 309) + ((nI 2) * v1425)).toNatClampNeg) a1), w)) rfl ?_
                            refine ab_e_letX (fun X1428 _ => ?_)
                            exact ab_e_rt rfl rfl
                          · refine ab_e_go 3 (178, [(7, .int (nI 1)), (0, .ref 13), (1, .int a1), (2, .int a2), (3, .int a3), (4, .int a4), (5, .int a5), (6, .int a6)], [], ((ab_up X1420 13 0 (nI 4)), w)) rfl ?_
                            refine ab_e_letX (fun X1429 _ => ?_)
                            exact ab_e_rt rfl rfl
                    · exact ab_e_rt rfl rfl
