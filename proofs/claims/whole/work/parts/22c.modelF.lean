/-! ===== what the methods of the reference compute, part 3 (by program: wip/whole/tools/dec.py) ===== -/
def F_M_hoursIn (X : ab_XX) (a1 : Int32) (a2 : Int32) : Option Int32 :=
  L_M_hoursIn_5 X ab_fu a1 a2 (nI 0) (nI 0)
set_option maxRecDepth 4000 in
theorem T_M_hoursIn (S : Nat × (Nat → Int32)) (w : ab_WW) (X : ab_XX) (a1 : Int32) (a2 : Int32) : ab_Eg (ab_m1 ab_fI (X, w)) S 145 (0, lv_args 0 [.ref 13, .int a1, .int a2], [], (X, w)) (F_M_hoursIn X a1 a2) := by
  show ab_Eg (ab_m1 ab_fI (X, w)) S 145 (0, [(0, .ref 13), (1, .int a1), (2, .int a2)], [], (X, w)) _
  unfold F_M_hoursIn
  refine ab_e_go 4 (5, [(4, .int (nI 0)), (3, .int (nI 0)), (0, .ref 13), (1, .int a1), (2, .int a2)], [], (X, w)) rfl ?_
  refine ab_e_wk [(0, .ref 13), (1, .int a1), (2, .int a2), (3, .int (nI 0)), (4, .int (nI 0))] ⟨rfl, rfl, rfl, rfl, rfl, trivial⟩ ?_
  exact T_L_M_hoursIn_5 S w X ab_fu a1 a2 (nI 0) (nI 0)
def F_M_hours (X : ab_XX) (a1 : Int32) (a2 : Int32) : Option (Int32 × ab_XX) :=
  (F_M_isWorker X a1).bind fun v666 =>
  if v666 = nI 0 then
    (some (ab_up X 13 0 (nI 1))).bind fun X679 =>
    if X679 13 0 = nI 0 then
      (F_M_heldBy X679 a1).bind fun v680 =>
      (F_M_hoursIn X679 v680 a2).bind fun v681 =>
      some (v681, X679)
    else
      some (nI 0, X679)
  else
    (F_M_in a2 (-1 : Int32) (nI 3)).bind fun v667 =>
    if v667 = nI 0 then
      (some (ab_up X 13 0 (nI 2))).bind fun X668 =>
      if X668 13 0 = nI 0 then
        (F_M_heldBy X668 a1).bind fun v669 =>
        (F_M_hoursIn X668 v669 a2).bind fun v675 =>
        some (v675, X668)
      else
        some (nI 0, X668)
    else
      (some (ab_up X 13 0 (nI 0))).bind fun X676 =>
      if X676 13 0 = nI 0 then
        (F_M_heldBy X676 a1).bind fun v677 =>
        (F_M_hoursIn X676 v677 a2).bind fun v678 =>
        some (v678, X676)
      else
        some (nI 0, X676)
set_option maxRecDepth 4000 in
theorem T_M_hours (S : Nat × (Nat → Int32)) (w : ab_WW) (X : ab_XX) (a1 : Int32) (a2 : Int32) : ab_Eg (ab_m3 ab_fI w) S 182 (0, lv_args 0 [.ref 13, .int a1, .int a2], [], (X, w)) (F_M_hours X a1 a2) := by
  show ab_Eg (ab_m3 ab_fI w) S 182 (0, [(0, .ref 13), (1, .int a1), (2, .int a2)], [], (X, w)) _
  unfold F_M_hours
  refine ab_e_go 3 (3, [(0, .ref 13), (1, .int a1), (2, .int a2)], [.int a1, .ref 13, .ref 13], (X, w)) rfl ?_
  refine ab_e_c1 (k2 := 98) (as := [.ref 13, .int a1]) (rest := [.ref 13]) rfl rfl (T_M_isWorker S w X a1) (fun v666 => ?_)
  refine ab_e_bn (c := v666 = nI 0) (13, [(0, .ref 13), (1, .int a1), (2, .int a2)], [.ref 13], (X, w)) (9, [(0, .ref 13), (1, .int a1), (2, .int a2)], [.ref 13], (X, w)) rfl (fun _ => ?_) (fun _ => ?_)
  · refine ab_e_go 3 (16, [(0, .ref 13), (1, .int a1), (2, .int a2)], [.int (nI 3), .int (-1 : Int32), .int a2, .ref 13], (X, w)) rfl ?_
    refine ab_e_c1 (k2 := 39) (as := [.int a2, .int (-1 : Int32), .int (nI 3)]) (rest := [.ref 13]) rfl rfl (T_M_in S w X a2 (-1 : Int32) (nI 3)) (fun v667 => ?_)
    refine ab_e_br (c := v667 = nI 0) (26, [(0, .ref 13), (1, .int a1), (2, .int a2)], [.ref 13], (X, w)) (22, [(0, .ref 13), (1, .int a1), (2, .int a2)], [.ref 13], (X, w)) rfl (fun _ => ?_) (fun _ => ?_)
    · refine ab_e_go 2 (30, [(0, .ref 13), (1, .int a1), (2, .int a2)], [], ((ab_up X 13 0 (nI 2)), w)) rfl ?_
      refine ab_e_letX (fun X668 _ => ?_)
      refine ab_e_go 2 (34, [(0, .ref 13), (1, .int a1), (2, .int a2)], [.int (X668 13 0)], (X668, w)) rfl ?_
      refine ab_e_bn (c := X668 13 0 = nI 0) (50, [(0, .ref 13), (1, .int a1), (2, .int a2)], [], (X668, w)) (37, [(0, .ref 13), (1, .int a1), (2, .int a2)], [], (X668, w)) rfl (fun _ => ?_) (fun _ => ?_)
      · refine ab_e_go 1 (51, [(0, .ref 13), (1, .int a1), (2, .int a2)], [.int (nI 0)], (X668, w)) rfl ?_
        exact ab_e_rt rfl rfl
      · refine ab_e_go 3 (40, [(0, .ref 13), (1, .int a1), (2, .int a2)], [.int a1, .ref 13, .ref 13], (X668, w)) rfl ?_
        refine ab_e_c1 (k2 := 94) (as := [.ref 13, .int a1]) (rest := [.ref 13]) rfl rfl (T_M_heldBy S w X668 a1) (fun v669 => ?_)
        refine ab_e_go 1 (44, [(0, .ref 13), (1, .int a1), (2, .int a2)], [.int a2, .int v669, .ref 13], (X668, w)) rfl ?_
        refine ab_e_c1 (k2 := 145) (as := [.ref 13, .int v669, .int a2]) (rest := []) rfl rfl (T_M_hoursIn S w X668 v669 a2) (fun v675 => ?_)
        refine ab_e_go 1 (51, [(0, .ref 13), (1, .int a1), (2, .int a2)], [.int v675], (X668, w)) rfl ?_
        exact ab_e_rt rfl rfl
    · refine ab_e_go 3 (30, [(0, .ref 13), (1, .int a1), (2, .int a2)], [], ((ab_up X 13 0 (nI 0)), w)) rfl ?_
      refine ab_e_letX (fun X676 _ => ?_)
      refine ab_e_go 2 (34, [(0, .ref 13), (1, .int a1), (2, .int a2)], [.int (X676 13 0)], (X676, w)) rfl ?_
      refine ab_e_bn (c := X676 13 0 = nI 0) (50, [(0, .ref 13), (1, .int a1), (2, .int a2)], [], (X676, w)) (37, [(0, .ref 13), (1, .int a1), (2, .int a2)], [], (X676, w)) rfl (fun _ => ?_) (fun _ => ?_)
      · refine ab_e_go 1 (51, [(0, .ref 13), (1, .int a1), (2, .int a2)], [.int (nI 0)], (X676, w)) rfl ?_
        exact ab_e_rt rfl rfl
      · refine ab_e_go 3 (40, [(0, .ref 13), (1, .int a1), (2, .int a2)], [.int a1, .ref 13, .ref 13], (X676, w)) rfl ?_
        refine ab_e_c1 (k2 := 94) (as := [.ref 13, .int a1]) (rest := [.ref 13]) rfl rfl (T_M_heldBy S w X676 a1) (fun v677 => ?_)
        refine ab_e_go 1 (44, [(0, .ref 13), (1, .int a1), (2, .int a2)], [.int a2, .int v677, .ref 13], (X676, w)) rfl ?_
        refine ab_e_c1 (k2 := 145) (as := [.ref 13, .int v677, .int a2]) (rest := []) rfl rfl (T_M_hoursIn S w X676 v677 a2) (fun v678 => ?_)
        refine ab_e_go 1 (51, [(0, .ref 13), (1, .int a1), (2, .int a2)], [.int v678], (X676, w)) rfl ?_
        exact ab_e_rt rfl rfl
  · refine ab_e_go 3 (30, [(0, .ref 13), (1, .int a1), (2, .int a2)], [], ((ab_up X 13 0 (nI 1)), w)) rfl ?_
    refine ab_e_letX (fun X679 _ => ?_)
    refine ab_e_go 2 (34, [(0, .ref 13), (1, .int a1), (2, .int a2)], [.int (X679 13 0)], (X679, w)) rfl ?_
    refine ab_e_bn (c := X679 13 0 = nI 0) (50, [(0, .ref 13), (1, .int a1), (2, .int a2)], [], (X679, w)) (37, [(0, .ref 13), (1, .int a1), (2, .int a2)], [], (X679, w)) rfl (fun _ => ?_) (fun _ => ?_)
    · refine ab_e_go 1 (51, [(0, .ref 13), (1, .int a1), (2, .int a2)], [.int (nI 0)], (X679, w)) rfl ?_
      exact ab_e_rt rfl rfl
    · refine ab_e_go 3 (40, [(0, .ref 13), (1, .int a1), (2, .int a2)], [.int a1, .ref 13, .ref 13], (X679, w)) rfl ?_
      refine ab_e_c1 (k2 := 94) (as := [.ref 13, .int a1]) (rest := [.ref 13]) rfl rfl (T_M_heldBy S w X679 a1) (fun v680 => ?_)
      refine ab_e_go 1 (44, [(0, .ref 13), (1, .int a1), (2, .int a2)], [.int a2, .int v680, .ref 13], (X679, w)) rfl ?_
      refine ab_e_c1 (k2 := 145) (as := [.ref 13, .int v680, .int a2]) (rest := []) rfl rfl (T_M_hoursIn S w X679 v680 a2) (fun v681 => ?_)
      refine ab_e_go 1 (51, [(0, .ref 13), (1, .int a1), (2, .int a2)], [.int v681], (X679, w)) rfl ?_
      exact ab_e_rt rfl rfl
def F_M_isAhead (X : ab_XX) (a1 : Int32) (a2 : Int32) : Option Int32 :=
  (F_M_of X a1 (nI 0)).bind fun v687 =>
  (F_M_of X a2 (nI 0)).bind fun v688 =>
  if v688 < v687 then
    some (nI 1)
  else
    (F_M_of X a1 (nI 0)).bind fun v689 =>
    (F_M_of X a2 (nI 0)).bind fun v690 =>
    if v689 = v690 then
      if a2 ≤ a1 then
        some (nI 0)
      else
        some (nI 1)
    else
      some (nI 0)
set_option maxRecDepth 4000 in
theorem T_M_isAhead (S : Nat × (Nat → Int32)) (w : ab_WW) (X : ab_XX) (a1 : Int32) (a2 : Int32) : ab_Eg (ab_m1 ab_fI (X, w)) S 95 (0, lv_args 0 [.ref 13, .int a1, .int a2], [], (X, w)) (F_M_isAhead X a1 a2) := by
  show ab_Eg (ab_m1 ab_fI (X, w)) S 95 (0, [(0, .ref 13), (1, .int a1), (2, .int a2)], [], (X, w)) _
  unfold F_M_isAhead
  refine ab_e_go 3 (3, [(0, .ref 13), (1, .int a1), (2, .int a2)], [.int (nI 0), .int a1, .ref 13], (X, w)) rfl ?_
  refine ab_e_c1 (k2 := 40) (as := [.ref 13, .int a1, .int (nI 0)]) (rest := []) rfl rfl (T_M_of S w X a1 (nI 0)) (fun v687 => ?_)
  refine ab_e_go 3 (9, [(0, .ref 13), (1, .int a1), (2, .int a2)], [.int (nI 0), .int a2, .ref 13, .int v687], (X, w)) rfl ?_
  refine ab_e_c1 (k2 := 40) (as := [.ref 13, .int a2, .int (nI 0)]) (rest := [.int v687]) rfl rfl (T_M_of S w X a2 (nI 0)) (fun v688 => ?_)
  refine ab_e_br (c := v688 < v687) (35, [(0, .ref 13), (1, .int a1), (2, .int a2)], [], (X, w)) (15, [(0, .ref 13), (1, .int a1), (2, .int a2)], [], (X, w)) rfl (fun _ => ?_) (fun _ => ?_)
  · refine ab_e_go 2 (40, [(0, .ref 13), (1, .int a1), (2, .int a2)], [.int (nI 1)], (X, w)) rfl ?_
    exact ab_e_rt rfl rfl
  · refine ab_e_go 3 (18, [(0, .ref 13), (1, .int a1), (2, .int a2)], [.int (nI 0), .int a1, .ref 13], (X, w)) rfl ?_
    refine ab_e_c1 (k2 := 40) (as := [.ref 13, .int a1, .int (nI 0)]) (rest := []) rfl rfl (T_M_of S w X a1 (nI 0)) (fun v689 => ?_)
    refine ab_e_go 3 (24, [(0, .ref 13), (1, .int a1), (2, .int a2)], [.int (nI 0), .int a2, .ref 13, .int v689], (X, w)) rfl ?_
    refine ab_e_c1 (k2 := 40) (as := [.ref 13, .int a2, .int (nI 0)]) (rest := [.int v689]) rfl rfl (T_M_of S w X a2 (nI 0)) (fun v690 => ?_)
    refine ab_e_bn (c := v689 = v690) (39, [(0, .ref 13), (1, .int a1), (2, .int a2)], [], (X, w)) (30, [(0, .ref 13), (1, .int a1), (2, .int a2)], [], (X, w)) rfl (fun _ => ?_) (fun _ => ?_)
    · refine ab_e_go 1 (40, [(0, .ref 13), (1, .int a1), (2, .int a2)], [.int (nI 0)], (X, w)) rfl ?_
      exact ab_e_rt rfl rfl
    · refine ab_e_go 2 (32, [(0, .ref 13), (1, .int a1), (2, .int a2)], [.int a2, .int a1], (X, w)) rfl ?_
      refine ab_e_br (c := a2 ≤ a1) (39, [(0, .ref 13), (1, .int a1), (2, .int a2)], [], (X, w)) (35, [(0, .ref 13), (1, .int a1), (2, .int a2)], [], (X, w)) rfl (fun _ => ?_) (fun _ => ?_)
      · refine ab_e_go 1 (40, [(0, .ref 13), (1, .int a1), (2, .int a2)], [.int (nI 0)], (X, w)) rfl ?_
        exact ab_e_rt rfl rfl
      · refine ab_e_go 2 (40, [(0, .ref 13), (1, .int a1), (2, .int a2)], [.int (nI 1)], (X, w)) rfl ?_
        exact ab_e_rt rfl rfl
def L_M_atRank_15 (X : ab_XX) (K2 : Int32 → Int32 → Option Int32) : Nat → Int32 → Int32 → Int32 → Int32 → Option Int32
  | 0, _, _, _, _ => none
  | n + 1, a1, a2, a3, a4 =>
    (F_M_workers X).bind fun v686 =>
    if v686 ≤ a4 then
      if a3 = a1 then
        some a2
      else
        K2 a1 (a2 + (nI 1))
    else
      if a4 = a2 then
        L_M_atRank_15 X K2 n a1 a2 (a3 + (nI 0)) (a4 + (nI 1))
      else
        (F_M_isAhead X a4 a2).bind fun v691 =>
        if v691 = nI 0 then
          L_M_atRank_15 X K2 n a1 a2 (a3 + (nI 0)) (a4 + (nI 1))
        else
          L_M_atRank_15 X K2 n a1 a2 (a3 + (nI 1)) (a4 + (nI 1))
set_option maxRecDepth 4000 in
theorem T_L_M_atRank_15 (S : Nat × (Nat → Int32)) (w : ab_WW) (X : ab_XX) (K2 : Int32 → Int32 → Option Int32) (hK2 : ∀ (a1 : Int32) (a2 : Int32), ab_Eg (ab_m1 ab_fI (X, w)) S 139 (2, [(0, .ref 13), (1, .int a1), (2, .int a2)], [], (X, w)) (K2 a1 a2)) : ∀ (n : Nat) (a1 : Int32) (a2 : Int32) (a3 : Int32) (a4 : Int32), ab_Eg (ab_m1 ab_fI (X, w)) S 139 (15, [(0, .ref 13), (1, .int a1), (2, .int a2), (3, .int a3), (4, .int a4)], [], (X, w)) (L_M_atRank_15 X K2 n a1 a2 a3 a4) := by
  intro n
  induction n with
  | zero => intro a1 a2 a3 a4; exact ab_e_none
  | succ n ih =>
    intro a1 a2 a3 a4
    unfold L_M_atRank_15
    refine ab_e_go 2 (18, [(0, .ref 13), (1, .int a1), (2, .int a2), (3, .int a3), (4, .int a4)], [.ref 13, .int a4], (X, w)) rfl ?_
    refine ab_e_c1 (k2 := 45) (as := [.ref 13]) (rest := [.int a4]) rfl rfl (T_M_workers S w X) (fun v686 => ?_)
    refine ab_e_br (c := v686 ≤ a4) (54, [(0, .ref 13), (1, .int a1), (2, .int a2), (3, .int a3), (4, .int a4)], [], (X, w)) (24, [(0, .ref 13), (1, .int a1), (2, .int a2), (3, .int a3), (4, .int a4)], [], (X, w)) rfl (fun _ => ?_) (fun _ => ?_)
    · refine ab_e_go 2 (56, [(0, .ref 13), (1, .int a1), (2, .int a2), (3, .int a3), (4, .int a4)], [.int a1, .int a3], (X, w)) rfl ?_
      refine ab_e_bn (c := a3 = a1) (61, [(0, .ref 13), (1, .int a1), (2, .int a2), (3, .int a3), (4, .int a4)], [], (X, w)) (59, [(0, .ref 13), (1, .int a1), (2, .int a2), (3, .int a3), (4, .int a4)], [], (X, w)) rfl (fun _ => ?_) (fun _ => ?_)
      · refine ab_e_go 2 (2, [(2, .int (a2 + (nI 1))), (0, .ref 13), (1, .int a1), (3, .int a3), (4, .int a4)], [], (X, w)) rfl ?_
        refine ab_e_wk [(0, .ref 13), (1, .int a1), (2, .int (a2 + (nI 1)))] ⟨rfl, rfl, rfl, trivial⟩ ?_
        exact hK2 a1 (a2 + (nI 1))
      · refine ab_e_go 1 (60, [(0, .ref 13), (1, .int a1), (2, .int a2), (3, .int a3), (4, .int a4)], [.int a2], (X, w)) rfl ?_
        exact ab_e_rt rfl rfl
    · refine ab_e_go 3 (28, [(0, .ref 13), (1, .int a1), (2, .int a2), (3, .int a3), (4, .int a4)], [.int a2, .int a4, .int a3], (X, w)) rfl ?_
      refine ab_e_br (c := a4 = a2) (45, [(0, .ref 13), (1, .int a1), (2, .int a2), (3, .int a3), (4, .int a4)], [.int a3], (X, w)) (31, [(0, .ref 13), (1, .int a1), (2, .int a2), (3, .int a3), (4, .int a4)], [.int a3], (X, w)) rfl (fun _ => ?_) (fun _ => ?_)
      · refine ab_e_go 5 (15, [(4, .int (a4 + (nI 1))), (3, .int (a3 + (nI 0))), (0, .ref 13), (1, .int a1), (2, .int a2)], [], (X, w)) rfl ?_
        refine ab_e_wk [(0, .ref 13), (1, .int a1), (2, .int a2), (3, .int (a3 + (nI 0))), (4, .int (a4 + (nI 1)))] ⟨rfl, rfl, rfl, rfl, rfl, trivial⟩ ?_
        exact ih a1 a2 (a3 + (nI 0)) (a4 + (nI 1))
      · refine ab_e_go 3 (35, [(0, .ref 13), (1, .int a1), (2, .int a2), (3, .int a3), (4, .int a4)], [.int a2, .int a4, .ref 13, .int a3], (X, w)) rfl ?_
        refine ab_e_c1 (k2 := 95) (as := [.ref 13, .int a4, .int a2]) (rest := [.int a3]) rfl rfl (T_M_isAhead S w X a4 a2) (fun v691 => ?_)
        refine ab_e_br (c := v691 = nI 0) (45, [(0, .ref 13), (1, .int a1), (2, .int a2), (3, .int a3), (4, .int a4)], [.int a3], (X, w)) (41, [(0, .ref 13), (1, .int a1), (2, .int a2), (3, .int a3), (4, .int a4)], [.int a3], (X, w)) rfl (fun _ => ?_) (fun _ => ?_)
        · refine ab_e_go 5 (15, [(4, .int (a4 + (nI 1))), (3, .int (a3 + (nI 0))), (0, .ref 13), (1, .int a1), (2, .int a2)], [], (X, w)) rfl ?_
          refine ab_e_wk [(0, .ref 13), (1, .int a1), (2, .int a2), (3, .int (a3 + (nI 0))), (4, .int (a4 + (nI 1)))] ⟨rfl, rfl, rfl, rfl, rfl, trivial⟩ ?_
          exact ih a1 a2 (a3 + (nI 0)) (a4 + (nI 1))
        · refine ab_e_go 6 (15, [(4, .int (a4 + (nI 1))), (3, .int (a3 + (nI 1))), (0, .ref 13), (1, .int a1), (2, .int a2)], [], (X, w)) rfl ?_
          refine ab_e_wk [(0, .ref 13), (1, .int a1), (2, .int a2), (3, .int (a3 + (nI 1))), (4, .int (a4 + (nI 1)))] ⟨rfl, rfl, rfl, rfl, rfl, trivial⟩ ?_
          exact ih a1 a2 (a3 + (nI 1)) (a4 + (nI 1))
def L_M_atRank_2 (X : ab_XX) : Nat → Int32 → Int32 → Option Int32
  | 0, _, _ => none
  | n + 1, a1, a2 =>
    (F_M_workers X).bind fun v685 =>
    if v685 ≤ a2 then
      some (-1 : Int32)
    else
      L_M_atRank_15 X (fun b1 b2 => L_M_atRank_2 X n b1 b2) ab_fu a1 a2 (nI 0) (nI 0)
set_option maxRecDepth 4000 in
theorem T_L_M_atRank_2 (S : Nat × (Nat → Int32)) (w : ab_WW) (X : ab_XX) : ∀ (n : Nat) (a1 : Int32) (a2 : Int32), ab_Eg (ab_m1 ab_fI (X, w)) S 139 (2, [(0, .ref 13), (1, .int a1), (2, .int a2)], [], (X, w)) (L_M_atRank_2 X n a1 a2) := by
  intro n
  induction n with
  | zero => intro a1 a2; exact ab_e_none
  | succ n ih =>
    intro a1 a2
    unfold L_M_atRank_2
    refine ab_e_go 2 (4, [(0, .ref 13), (1, .int a1), (2, .int a2)], [.ref 13, .int a2], (X, w)) rfl ?_
    refine ab_e_c1 (k2 := 45) (as := [.ref 13]) (rest := [.int a2]) rfl rfl (T_M_workers S w X) (fun v685 => ?_)
    refine ab_e_br (c := v685 ≤ a2) (67, [(0, .ref 13), (1, .int a1), (2, .int a2)], [], (X, w)) (10, [(0, .ref 13), (1, .int a1), (2, .int a2)], [], (X, w)) rfl (fun _ => ?_) (fun _ => ?_)
    · refine ab_e_go 1 (68, [(0, .ref 13), (1, .int a1), (2, .int a2)], [.int (-1 : Int32)], (X, w)) rfl ?_
      exact ab_e_rt rfl rfl
    · refine ab_e_go 4 (15, [(4, .int (nI 0)), (3, .int (nI 0)), (0, .ref 13), (1, .int a1), (2, .int a2)], [], (X, w)) rfl ?_
      refine ab_e_wk [(0, .ref 13), (1, .int a1), (2, .int a2), (3, .int (nI 0)), (4, .int (nI 0))] ⟨rfl, rfl, rfl, rfl, rfl, trivial⟩ ?_
      exact T_L_M_atRank_15 S w X _ (fun b1 b2 => ih b1 b2) ab_fu a1 a2 (nI 0) (nI 0)
def F_M_atRank (X : ab_XX) (a1 : Int32) : Option Int32 :=
  L_M_atRank_2 X ab_fu a1 (nI 0)
set_option maxRecDepth 4000 in
theorem T_M_atRank (S : Nat × (Nat → Int32)) (w : ab_WW) (X : ab_XX) (a1 : Int32) : ab_Eg (ab_m1 ab_fI (X, w)) S 139 (0, lv_args 0 [.ref 13, .int a1], [], (X, w)) (F_M_atRank X a1) := by
  show ab_Eg (ab_m1 ab_fI (X, w)) S 139 (0, [(0, .ref 13), (1, .int a1)], [], (X, w)) _
  unfold F_M_atRank
  refine ab_e_go 2 (2, [(2, .int (nI 0)), (0, .ref 13), (1, .int a1)], [], (X, w)) rfl ?_
  refine ab_e_wk [(0, .ref 13), (1, .int a1), (2, .int (nI 0))] ⟨rfl, rfl, rfl, trivial⟩ ?_
  exact T_L_M_atRank_2 S w X ab_fu a1 (nI 0)
def F_M_order (X : ab_XX) (a1 : Int32) : Option (Int32 × ab_XX) :=
  (F_M_workers X).bind fun v682 =>
  (F_M_in a1 (nI 0) (v682 - (nI 1))).bind fun v683 =>
  if v683 = nI 0 then
    (some (ab_up X 13 0 (nI 1))).bind fun X684 =>
    if X684 13 0 = nI 0 then
      (F_M_atRank X684 a1).bind fun v692 =>
      some (v692, X684)
    else
      some (nI 0, X684)
  else
    (some (ab_up X 13 0 (nI 0))).bind fun X693 =>
    if X693 13 0 = nI 0 then
      (F_M_atRank X693 a1).bind fun v694 =>
      some (v694, X693)
    else
      some (nI 0, X693)
set_option maxRecDepth 4000 in
theorem T_M_order (S : Nat × (Nat → Int32)) (w : ab_WW) (X : ab_XX) (a1 : Int32) : ab_Eg (ab_m3 ab_fI w) S 185 (0, lv_args 0 [.ref 13, .int a1], [], (X, w)) (F_M_order X a1) := by
  show ab_Eg (ab_m3 ab_fI w) S 185 (0, [(0, .ref 13), (1, .int a1)], [], (X, w)) _
  unfold F_M_order
  refine ab_e_go 4 (4, [(0, .ref 13), (1, .int a1)], [.ref 13, .int (nI 0), .int a1, .ref 13], (X, w)) rfl ?_
  refine ab_e_c1 (k2 := 45) (as := [.ref 13]) (rest := [.int (nI 0), .int a1, .ref 13]) rfl rfl (T_M_workers S w X) (fun v682 => ?_)
  refine ab_e_go 2 (9, [(0, .ref 13), (1, .int a1)], [.int (v682 - (nI 1)), .int (nI 0), .int a1, .ref 13], (X, w)) rfl ?_
  refine ab_e_c1 (k2 := 39) (as := [.int a1, .int (nI 0), .int (v682 - (nI 1))]) (rest := [.ref 13]) rfl rfl (T_M_in S w X a1 (nI 0) (v682 - (nI 1))) (fun v683 => ?_)
  refine ab_e_br (c := v683 = nI 0) (19, [(0, .ref 13), (1, .int a1)], [.ref 13], (X, w)) (15, [(0, .ref 13), (1, .int a1)], [.ref 13], (X, w)) rfl (fun _ => ?_) (fun _ => ?_)
  · refine ab_e_go 2 (23, [(0, .ref 13), (1, .int a1)], [], ((ab_up X 13 0 (nI 1)), w)) rfl ?_
    refine ab_e_letX (fun X684 _ => ?_)
    refine ab_e_go 2 (27, [(0, .ref 13), (1, .int a1)], [.int (X684 13 0)], (X684, w)) rfl ?_
    refine ab_e_bn (c := X684 13 0 = nI 0) (38, [(0, .ref 13), (1, .int a1)], [], (X684, w)) (30, [(0, .ref 13), (1, .int a1)], [], (X684, w)) rfl (fun _ => ?_) (fun _ => ?_)
    · refine ab_e_go 1 (39, [(0, .ref 13), (1, .int a1)], [.int (nI 0)], (X684, w)) rfl ?_
      exact ab_e_rt rfl rfl
    · refine ab_e_go 2 (32, [(0, .ref 13), (1, .int a1)], [.int a1, .ref 13], (X684, w)) rfl ?_
      refine ab_e_c1 (k2 := 139) (as := [.ref 13, .int a1]) (rest := []) rfl rfl (T_M_atRank S w X684 a1) (fun v692 => ?_)
      refine ab_e_go 1 (39, [(0, .ref 13), (1, .int a1)], [.int v692], (X684, w)) rfl ?_
      exact ab_e_rt rfl rfl
  · refine ab_e_go 3 (23, [(0, .ref 13), (1, .int a1)], [], ((ab_up X 13 0 (nI 0)), w)) rfl ?_
    refine ab_e_letX (fun X693 _ => ?_)
    refine ab_e_go 2 (27, [(0, .ref 13), (1, .int a1)], [.int (X693 13 0)], (X693, w)) rfl ?_
    refine ab_e_bn (c := X693 13 0 = nI 0) (38, [(0, .ref 13), (1, .int a1)], [], (X693, w)) (30, [(0, .ref 13), (1, .int a1)], [], (X693, w)) rfl (fun _ => ?_) (fun _ => ?_)
    · refine ab_e_go 1 (39, [(0, .ref 13), (1, .int a1)], [.int (nI 0)], (X693, w)) rfl ?_
      exact ab_e_rt rfl rfl
    · refine ab_e_go 2 (32, [(0, .ref 13), (1, .int a1)], [.int a1, .ref 13], (X693, w)) rfl ?_
      refine ab_e_c1 (k2 := 139) (as := [.ref 13, .int a1]) (rest := []) rfl rfl (T_M_atRank S w X693 a1) (fun v694 => ?_)
      refine ab_e_go 1 (39, [(0, .ref 13), (1, .int a1)], [.int v694], (X693, w)) rfl ?_
      exact ab_e_rt rfl rfl
def F_M_bidThrown (X : ab_XX) (a1 : Int32) (a2 : Int32) (a3 : Int32) : Option Int32 :=
  (F_M_isWorker X a1).bind fun v695 =>
  if v695 = nI 0 then
    some (nI 1)
  else
    (F_M_isShift X a2).bind fun v696 =>
    if v696 = nI 0 then
      some (nI 1)
    else
      (F_M_in a3 (nI 0) (nI 9)).bind fun v697 =>
      if v697 = nI 0 then
        some (nI 2)
      else
        if a3 ≤ nI 0 then
          some (nI 0)
        else
          (F_M_bidOf X a1 a2).bind fun v698 =>
          if v698 = nI 0 then
            (F_M_bidsOf X a1).bind fun v699 =>
            if v699 = nI 8 then
              some (nI 3)
            else
              some (nI 0)
          else
            some (nI 0)
set_option maxRecDepth 4000 in
theorem T_M_bidThrown (S : Nat × (Nat → Int32)) (w : ab_WW) (X : ab_XX) (a1 : Int32) (a2 : Int32) (a3 : Int32) : ab_Eg (ab_m1 ab_fI (X, w)) S 141 (0, lv_args 0 [.ref 13, .int a1, .int a2, .int a3], [], (X, w)) (F_M_bidThrown X a1 a2 a3) := by
  show ab_Eg (ab_m1 ab_fI (X, w)) S 141 (0, [(0, .ref 13), (1, .int a1), (2, .int a2), (3, .int a3)], [], (X, w)) _
  unfold F_M_bidThrown
  refine ab_e_go 2 (2, [(0, .ref 13), (1, .int a1), (2, .int a2), (3, .int a3)], [.int a1, .ref 13], (X, w)) rfl ?_
  refine ab_e_c1 (k2 := 98) (as := [.ref 13, .int a1]) (rest := []) rfl rfl (T_M_isWorker S w X a1) (fun v695 => ?_)
  refine ab_e_br (c := v695 = nI 0) (16, [(0, .ref 13), (1, .int a1), (2, .int a2), (3, .int a3)], [], (X, w)) (8, [(0, .ref 13), (1, .int a1), (2, .int a2), (3, .int a3)], [], (X, w)) rfl (fun _ => ?_) (fun _ => ?_)
  · refine ab_e_go 1 (17, [(0, .ref 13), (1, .int a1), (2, .int a2), (3, .int a3)], [.int (nI 1)], (X, w)) rfl ?_
    exact ab_e_rt rfl rfl
  · refine ab_e_go 2 (10, [(0, .ref 13), (1, .int a1), (2, .int a2), (3, .int a3)], [.int a2, .ref 13], (X, w)) rfl ?_
    refine ab_e_c1 (k2 := 97) (as := [.ref 13, .int a2]) (rest := []) rfl rfl (T_M_isShift S w X a2) (fun v696 => ?_)
    refine ab_e_bn (c := v696 = nI 0) (18, [(0, .ref 13), (1, .int a1), (2, .int a2), (3, .int a3)], [], (X, w)) (16, [(0, .ref 13), (1, .int a1), (2, .int a2), (3, .int a3)], [], (X, w)) rfl (fun _ => ?_) (fun _ => ?_)
    · refine ab_e_go 3 (22, [(0, .ref 13), (1, .int a1), (2, .int a2), (3, .int a3)], [.int (nI 9), .int (nI 0), .int a3], (X, w)) rfl ?_
      refine ab_e_c1 (k2 := 39) (as := [.int a3, .int (nI 0), .int (nI 9)]) (rest := []) rfl rfl (T_M_in S w X a3 (nI 0) (nI 9)) (fun v697 => ?_)
      refine ab_e_bn (c := v697 = nI 0) (32, [(0, .ref 13), (1, .int a1), (2, .int a2), (3, .int a3)], [], (X, w)) (28, [(0, .ref 13), (1, .int a1), (2, .int a2), (3, .int a3)], [], (X, w)) rfl (fun _ => ?_) (fun _ => ?_)
      · refine ab_e_go 1 (33, [(0, .ref 13), (1, .int a1), (2, .int a2), (3, .int a3)], [.int a3], (X, w)) rfl ?_
        refine ab_e_br (c := a3 ≤ nI 0) (59, [(0, .ref 13), (1, .int a1), (2, .int a2), (3, .int a3)], [], (X, w)) (36, [(0, .ref 13), (1, .int a1), (2, .int a2), (3, .int a3)], [], (X, w)) rfl (fun _ => ?_) (fun _ => ?_)
        · refine ab_e_go 1 (60, [(0, .ref 13), (1, .int a1), (2, .int a2), (3, .int a3)], [.int (nI 0)], (X, w)) rfl ?_
          exact ab_e_rt rfl rfl
        · refine ab_e_go 3 (39, [(0, .ref 13), (1, .int a1), (2, .int a2), (3, .int a3)], [.int a2, .int a1, .ref 13], (X, w)) rfl ?_
          refine ab_e_c1 (k2 := 34) (as := [.ref 13, .int a1, .int a2]) (rest := []) rfl rfl (T_M_bidOf S w X a1 a2) (fun v698 => ?_)
          refine ab_e_bn (c := v698 = nI 0) (59, [(0, .ref 13), (1, .int a1), (2, .int a2), (3, .int a3)], [], (X, w)) (45, [(0, .ref 13), (1, .int a1), (2, .int a2), (3, .int a3)], [], (X, w)) rfl (fun _ => ?_) (fun _ => ?_)
          · refine ab_e_go 1 (60, [(0, .ref 13), (1, .int a1), (2, .int a2), (3, .int a3)], [.int (nI 0)], (X, w)) rfl ?_
            exact ab_e_rt rfl rfl
          · refine ab_e_go 2 (47, [(0, .ref 13), (1, .int a1), (2, .int a2), (3, .int a3)], [.int a1, .ref 13], (X, w)) rfl ?_
            refine ab_e_c1 (k2 := 89) (as := [.ref 13, .int a1]) (rest := []) rfl rfl (T_M_bidsOf S w X a1) (fun v699 => ?_)
            refine ab_e_go 1 (52, [(0, .ref 13), (1, .int a1), (2, .int a2), (3, .int a3)], [.int (nI 8), .int v699], (X, w)) rfl ?_
            refine ab_e_bn (c := v699 = nI 8) (59, [(0, .ref 13), (1, .int a1), (2, .int a2), (3, .int a3)], [], (X, w)) (55, [(0, .ref 13), (1, .int a1), (2, .int a2), (3, .int a3)], [], (X, w)) rfl (fun _ => ?_) (fun _ => ?_)
            · refine ab_e_go 1 (60, [(0, .ref 13), (1, .int a1), (2, .int a2), (3, .int a3)], [.int (nI 0)], (X, w)) rfl ?_
              exact ab_e_rt rfl rfl
            · refine ab_e_go 2 (60, [(0, .ref 13), (1, .int a1), (2, .int a2), (3, .int a3)], [.int (nI 3)], (X, w)) rfl ?_
              exact ab_e_rt rfl rfl
      · refine ab_e_go 2 (60, [(0, .ref 13), (1, .int a1), (2, .int a2), (3, .int a3)], [.int (nI 2)], (X, w)) rfl ?_
        exact ab_e_rt rfl rfl
    · refine ab_e_go 1 (17, [(0, .ref 13), (1, .int a1), (2, .int a2), (3, .int a3)], [.int (nI 1)], (X, w)) rfl ?_
      exact ab_e_rt rfl rfl
def F_M_laysBid (X : ab_XX) (a1 : Int32) (a2 : Int32) (a3 : Int32) : Option (Int32 × ab_XX) :=
  (F_M_bidOf X a1 a2).bind fun v703 =>
  if ab_in (((nI 148) + ((nI 16) * a1)) + a2) 4455 = true then
    (some (ab_up X 14 ((((nI 148) + ((nI 16) * a1)) + a2).toNatClampNeg) a3)).bind fun X704 =>
    some (v703, X704)
  else none
set_option maxRecDepth 4000 in
theorem T_M_laysBid (S : Nat × (Nat → Int32)) (w : ab_WW) (X : ab_XX) (a1 : Int32) (a2 : Int32) (a3 : Int32) : ab_Eg (ab_m3 ab_fI w) S 100 (0, lv_args 0 [.ref 13, .int a1, .int a2, .int a3], [], (X, w)) (F_M_laysBid X a1 a2 a3) := by
  show ab_Eg (ab_m3 ab_fI w) S 100 (0, [(0, .ref 13), (1, .int a1), (2, .int a2), (3, .int a3)], [], (X, w)) _
  unfold F_M_laysBid
  refine ab_e_go 3 (3, [(0, .ref 13), (1, .int a1), (2, .int a2), (3, .int a3)], [.int a2, .int a1, .ref 13], (X, w)) rfl ?_
  refine ab_e_c1 (k2 := 34) (as := [.ref 13, .int a1, .int a2]) (rest := []) rfl rfl (T_M_bidOf S w X a1 a2) (fun v703 => ?_)
  refine ab_e_go 11 (23, [(4, .int v703), (0, .ref 13), (1, .int a1), (2, .int a2), (3, .int a3)], [.int a3, .int (((nI 148) + ((nI 16) * a1)) + a2), .ref 14], (X, w)) rfl ?_
  refine ab_e_gd (24, [(4, .int v703), (0, .ref 13), (1, .int a1), (2, .int a2), (3, .int a3)], [], ((ab_up X 14 ((((nI 148) + ((nI 16) * a1)) + a2).toNatClampNeg) a3), w)) rfl ?_
  refine ab_e_letX (fun X704 _ => ?_)
  refine ab_e_go 1 (26, [(4, .int v703), (0, .ref 13), (1, .int a1), (2, .int a2), (3, .int a3)], [.int v703], (X704, w)) rfl ?_
  exact ab_e_rt rfl rfl
def F_M_setBid (X : ab_XX) (a1 : Int32) (a2 : Int32) (a3 : Int32) : Option (Int32 × ab_XX) :=
  (F_M_bidThrown X a1 a2 a3).bind fun v700 =>
  (some (ab_up X 13 0 v700)).bind fun X701 =>
  if X701 13 0 = nI 0 then
    ab_b3 (F_M_keeps X701) (fun _ X702 =>
      ab_b3 (F_M_laysBid X702 a1 a2 a3) (fun v705 X706 =>
        some (v705, X706)))
  else
    some (nI 0, X701)
set_option maxRecDepth 4000 in
theorem T_M_setBid (S : Nat × (Nat → Int32)) (w : ab_WW) (X : ab_XX) (a1 : Int32) (a2 : Int32) (a3 : Int32) : ab_Eg (ab_m3 ab_fI w) S 186 (0, lv_args 0 [.ref 13, .int a1, .int a2, .int a3], [], (X, w)) (F_M_setBid X a1 a2 a3) := by
  show ab_Eg (ab_m3 ab_fI w) S 186 (0, [(0, .ref 13), (1, .int a1), (2, .int a2), (3, .int a3)], [], (X, w)) _
  unfold F_M_setBid
  refine ab_e_go 5 (5, [(0, .ref 13), (1, .int a1), (2, .int a2), (3, .int a3)], [.int a3, .int a2, .int a1, .ref 13, .ref 13], (X, w)) rfl ?_
  refine ab_e_c1 (k2 := 141) (as := [.ref 13, .int a1, .int a2, .int a3]) (rest := [.ref 13]) rfl rfl (T_M_bidThrown S w X a1 a2 a3) (fun v700 => ?_)
  refine ab_e_go 1 (11, [(0, .ref 13), (1, .int a1), (2, .int a2), (3, .int a3)], [], ((ab_up X 13 0 v700), w)) rfl ?_
  refine ab_e_letX (fun X701 _ => ?_)
  refine ab_e_go 2 (15, [(0, .ref 13), (1, .int a1), (2, .int a2), (3, .int a3)], [.int (X701 13 0)], (X701, w)) rfl ?_
  refine ab_e_br (c := X701 13 0 = nI 0) (20, [(0, .ref 13), (1, .int a1), (2, .int a2), (3, .int a3)], [], (X701, w)) (18, [(0, .ref 13), (1, .int a1), (2, .int a2), (3, .int a3)], [], (X701, w)) rfl (fun _ => ?_) (fun _ => ?_)
  · refine ab_e_go 1 (21, [(0, .ref 13), (1, .int a1), (2, .int a2), (3, .int a3)], [.ref 13], (X701, w)) rfl ?_
    refine ab_e_c3 (k2 := 99) (as := [.ref 13]) (rest := []) rfl rfl (T_M_keeps S w X701) (fun _ X702 => ?_)
    refine ab_e_go 4 (28, [(0, .ref 13), (1, .int a1), (2, .int a2), (3, .int a3)], [.int a3, .int a2, .int a1, .ref 13], (X702, w)) rfl ?_
    refine ab_e_c3 (k2 := 100) (as := [.ref 13, .int a1, .int a2, .int a3]) (rest := []) rfl rfl (T_M_laysBid S w X702 a1 a2 a3) (fun v705 X706 => ?_)
    exact ab_e_rt rfl rfl
  · refine ab_e_go 1 (19, [(0, .ref 13), (1, .int a1), (2, .int a2), (3, .int a3)], [.int (nI 0)], (X701, w)) rfl ?_
    exact ab_e_rt rfl rfl
def F_M_begin (X : ab_XX) (a1 : Int32) : Option Int32 :=
  (F_M_ofShift X a1 (nI 0)).bind fun v711 =>
  (F_M_ofShift X a1 (nI 1)).bind fun v712 =>
  some (((nI 24) * v711) + v712)
set_option maxRecDepth 4000 in
theorem T_M_begin (S : Nat × (Nat → Int32)) (w : ab_WW) (X : ab_XX) (a1 : Int32) : ab_Eg (ab_m1 ab_fI (X, w)) S 88 (0, lv_args 0 [.ref 13, .int a1], [], (X, w)) (F_M_begin X a1) := by
  show ab_Eg (ab_m1 ab_fI (X, w)) S 88 (0, [(0, .ref 13), (1, .int a1)], [], (X, w)) _
  unfold F_M_begin
  refine ab_e_go 4 (5, [(0, .ref 13), (1, .int a1)], [.int (nI 0), .int a1, .ref 13, .int (nI 24)], (X, w)) rfl ?_
  refine ab_e_c1 (k2 := 41) (as := [.ref 13, .int a1, .int (nI 0)]) (rest := [.int (nI 24)]) rfl rfl (T_M_ofShift S w X a1 (nI 0)) (fun v711 => ?_)
  refine ab_e_go 4 (12, [(0, .ref 13), (1, .int a1)], [.int (nI 1), .int a1, .ref 13, .int ((nI 24) * v711)], (X, w)) rfl ?_
  refine ab_e_c1 (k2 := 41) (as := [.ref 13, .int a1, .int (nI 1)]) (rest := [.int ((nI 24) * v711)]) rfl rfl (T_M_ofShift S w X a1 (nI 1)) (fun v712 => ?_)
  refine ab_e_go 1 (16, [(0, .ref 13), (1, .int a1)], [.int (((nI 24) * v711) + v712)], (X, w)) rfl ?_
  exact ab_e_rt rfl rfl
def F_M_end (X : ab_XX) (a1 : Int32) : Option Int32 :=
  (F_M_begin X a1).bind fun v713 =>
  (F_M_ofShift X a1 (nI 2)).bind fun v714 =>
  some (v713 + v714)
set_option maxRecDepth 4000 in
theorem T_M_end (S : Nat × (Nat → Int32)) (w : ab_WW) (X : ab_XX) (a1 : Int32) : ab_Eg (ab_m1 ab_fI (X, w)) S 142 (0, lv_args 0 [.ref 13, .int a1], [], (X, w)) (F_M_end X a1) := by
  show ab_Eg (ab_m1 ab_fI (X, w)) S 142 (0, [(0, .ref 13), (1, .int a1)], [], (X, w)) _
  unfold F_M_end
  refine ab_e_go 2 (2, [(0, .ref 13), (1, .int a1)], [.int a1, .ref 13], (X, w)) rfl ?_
  refine ab_e_c1 (k2 := 88) (as := [.ref 13, .int a1]) (rest := []) rfl rfl (T_M_begin S w X a1) (fun v713 => ?_)
  refine ab_e_go 3 (8, [(0, .ref 13), (1, .int a1)], [.int (nI 2), .int a1, .ref 13, .int v713], (X, w)) rfl ?_
  refine ab_e_c1 (k2 := 41) (as := [.ref 13, .int a1, .int (nI 2)]) (rest := [.int v713]) rfl rfl (T_M_ofShift S w X a1 (nI 2)) (fun v714 => ?_)
  refine ab_e_go 1 (12, [(0, .ref 13), (1, .int a1)], [.int (v713 + v714)], (X, w)) rfl ?_
  exact ab_e_rt rfl rfl
def F_M_shift (X : ab_XX) (a1 : Int32) (a2 : Int32) : Option (Int32 × ab_XX) :=
  (F_M_isShift X a1).bind fun v707 =>
  if v707 = nI 0 then
    (some (ab_up X 13 0 (nI 1))).bind fun X721 =>
    if X721 13 0 = nI 0 then
      if a2 = nI 6 then
        (F_M_coverage X721 a1).bind fun v724 =>
        some (v724, X721)
      else
        if a2 = nI 7 then
          (F_M_end X721 a1).bind fun v723 =>
          some (v723, X721)
        else
          (F_M_ofShift X721 a1 a2).bind fun v722 =>
          some (v722, X721)
    else
      some (nI 0, X721)
  else
    (F_M_in a2 (nI 0) (nI 7)).bind fun v708 =>
    if v708 = nI 0 then
      (some (ab_up X 13 0 (nI 2))).bind fun X709 =>
      if X709 13 0 = nI 0 then
        if a2 = nI 6 then
          (F_M_coverage X709 a1).bind fun v716 =>
          some (v716, X709)
        else
          if a2 = nI 7 then
            (F_M_end X709 a1).bind fun v715 =>
            some (v715, X709)
          else
            (F_M_ofShift X709 a1 a2).bind fun v710 =>
            some (v710, X709)
      else
        some (nI 0, X709)
    else
      (some (ab_up X 13 0 (nI 0))).bind fun X717 =>
      if X717 13 0 = nI 0 then
        if a2 = nI 6 then
          (F_M_coverage X717 a1).bind fun v720 =>
          some (v720, X717)
        else
          if a2 = nI 7 then
            (F_M_end X717 a1).bind fun v719 =>
            some (v719, X717)
          else
            (F_M_ofShift X717 a1 a2).bind fun v718 =>
            some (v718, X717)
      else
        some (nI 0, X717)
set_option maxRecDepth 4000 in
theorem T_M_shift (S : Nat × (Nat → Int32)) (w : ab_WW) (X : ab_XX) (a1 : Int32) (a2 : Int32) : ab_Eg (ab_m3 ab_fI w) S 187 (0, lv_args 0 [.ref 13, .int a1, .int a2], [], (X, w)) (F_M_shift X a1 a2) := by
  show ab_Eg (ab_m3 ab_fI w) S 187 (0, [(0, .ref 13), (1, .int a1), (2, .int a2)], [], (X, w)) _
  unfold F_M_shift
  refine ab_e_go 3 (3, [(0, .ref 13), (1, .int a1), (2, .int a2)], [.int a1, .ref 13, .ref 13], (X, w)) rfl ?_
  refine ab_e_c1 (k2 := 97) (as := [.ref 13, .int a1]) (rest := [.ref 13]) rfl rfl (T_M_isShift S w X a1) (fun v707 => ?_)
  refine ab_e_bn (c := v707 = nI 0) (13, [(0, .ref 13), (1, .int a1), (2, .int a2)], [.ref 13], (X, w)) (9, [(0, .ref 13), (1, .int a1), (2, .int a2)], [.ref 13], (X, w)) rfl (fun _ => ?_) (fun _ => ?_)
  · refine ab_e_go 3 (17, [(0, .ref 13), (1, .int a1), (2, .int a2)], [.int (nI 7), .int (nI 0), .int a2, .ref 13], (X, w)) rfl ?_
    refine ab_e_c1 (k2 := 39) (as := [.int a2, .int (nI 0), .int (nI 7)]) (rest := [.ref 13]) rfl rfl (T_M_in S w X a2 (nI 0) (nI 7)) (fun v708 => ?_)
    refine ab_e_br (c := v708 = nI 0) (27, [(0, .ref 13), (1, .int a1), (2, .int a2)], [.ref 13], (X, w)) (23, [(0, .ref 13), (1, .int a1), (2, .int a2)], [.ref 13], (X, w)) rfl (fun _ => ?_) (fun _ => ?_)
    · refine ab_e_go 2 (31, [(0, .ref 13), (1, .int a1), (2, .int a2)], [], ((ab_up X 13 0 (nI 2)), w)) rfl ?_
      refine ab_e_letX (fun X709 _ => ?_)
      refine ab_e_go 2 (35, [(0, .ref 13), (1, .int a1), (2, .int a2)], [.int (X709 13 0)], (X709, w)) rfl ?_
      refine ab_e_br (c := X709 13 0 = nI 0) (42, [(0, .ref 13), (1, .int a1), (2, .int a2)], [], (X709, w)) (38, [(0, .ref 13), (1, .int a1), (2, .int a2)], [], (X709, w)) rfl (fun _ => ?_) (fun _ => ?_)
      · refine ab_e_go 2 (45, [(0, .ref 13), (1, .int a1), (2, .int a2)], [.int (nI 6), .int a2], (X709, w)) rfl ?_
        refine ab_e_bn (c := a2 = nI 6) (56, [(0, .ref 13), (1, .int a1), (2, .int a2)], [], (X709, w)) (48, [(0, .ref 13), (1, .int a1), (2, .int a2)], [], (X709, w)) rfl (fun _ => ?_) (fun _ => ?_)
        · refine ab_e_go 2 (59, [(0, .ref 13), (1, .int a1), (2, .int a2)], [.int (nI 7), .int a2], (X709, w)) rfl ?_
          refine ab_e_bn (c := a2 = nI 7) (70, [(0, .ref 13), (1, .int a1), (2, .int a2)], [], (X709, w)) (62, [(0, .ref 13), (1, .int a1), (2, .int a2)], [], (X709, w)) rfl (fun _ => ?_) (fun _ => ?_)
          · refine ab_e_go 3 (73, [(0, .ref 13), (1, .int a1), (2, .int a2)], [.int a2, .int a1, .ref 13], (X709, w)) rfl ?_
            refine ab_e_c1 (k2 := 41) (as := [.ref 13, .int a1, .int a2]) (rest := []) rfl rfl (T_M_ofShift S w X709 a1 a2) (fun v710 => ?_)
            exact ab_e_rt rfl rfl
          · refine ab_e_go 2 (64, [(0, .ref 13), (1, .int a1), (2, .int a2)], [.int a1, .ref 13], (X709, w)) rfl ?_
            refine ab_e_c1 (k2 := 142) (as := [.ref 13, .int a1]) (rest := []) rfl rfl (T_M_end S w X709 a1) (fun v715 => ?_)
            refine ab_e_go 1 (76, [(0, .ref 13), (1, .int a1), (2, .int a2)], [.int v715], (X709, w)) rfl ?_
            exact ab_e_rt rfl rfl
        · refine ab_e_go 2 (50, [(0, .ref 13), (1, .int a1), (2, .int a2)], [.int a1, .ref 13], (X709, w)) rfl ?_
          refine ab_e_c1 (k2 := 90) (as := [.ref 13, .int a1]) (rest := []) rfl rfl (T_M_coverage S w X709 a1) (fun v716 => ?_)
          refine ab_e_go 1 (76, [(0, .ref 13), (1, .int a1), (2, .int a2)], [.int v716], (X709, w)) rfl ?_
          exact ab_e_rt rfl rfl
      · refine ab_e_go 2 (76, [(0, .ref 13), (1, .int a1), (2, .int a2)], [.int (nI 0)], (X709, w)) rfl ?_
        exact ab_e_rt rfl rfl
    · refine ab_e_go 3 (31, [(0, .ref 13), (1, .int a1), (2, .int a2)], [], ((ab_up X 13 0 (nI 0)), w)) rfl ?_
      refine ab_e_letX (fun X717 _ => ?_)
      refine ab_e_go 2 (35, [(0, .ref 13), (1, .int a1), (2, .int a2)], [.int (X717 13 0)], (X717, w)) rfl ?_
      refine ab_e_br (c := X717 13 0 = nI 0) (42, [(0, .ref 13), (1, .int a1), (2, .int a2)], [], (X717, w)) (38, [(0, .ref 13), (1, .int a1), (2, .int a2)], [], (X717, w)) rfl (fun _ => ?_) (fun _ => ?_)
      · refine ab_e_go 2 (45, [(0, .ref 13), (1, .int a1), (2, .int a2)], [.int (nI 6), .int a2], (X717, w)) rfl ?_
        refine ab_e_bn (c := a2 = nI 6) (56, [(0, .ref 13), (1, .int a1), (2, .int a2)], [], (X717, w)) (48, [(0, .ref 13), (1, .int a1), (2, .int a2)], [], (X717, w)) rfl (fun _ => ?_) (fun _ => ?_)
        · refine ab_e_go 2 (59, [(0, .ref 13), (1, .int a1), (2, .int a2)], [.int (nI 7), .int a2], (X717, w)) rfl ?_
          refine ab_e_bn (c := a2 = nI 7) (70, [(0, .ref 13), (1, .int a1), (2, .int a2)], [], (X717, w)) (62, [(0, .ref 13), (1, .int a1), (2, .int a2)], [], (X717, w)) rfl (fun _ => ?_) (fun _ => ?_)
          · refine ab_e_go 3 (73, [(0, .ref 13), (1, .int a1), (2, .int a2)], [.int a2, .int a1, .ref 13], (X717, w)) rfl ?_
            refine ab_e_c1 (k2 := 41) (as := [.ref 13, .int a1, .int a2]) (rest := []) rfl rfl (T_M_ofShift S w X717 a1 a2) (fun v718 => ?_)
            exact ab_e_rt rfl rfl
          · refine ab_e_go 2 (64, [(0, .ref 13), (1, .int a1), (2, .int a2)], [.int a1, .ref 13], (X717, w)) rfl ?_
            refine ab_e_c1 (k2 := 142) (as := [.ref 13, .int a1]) (rest := []) rfl rfl (T_M_end S w X717 a1) (fun v719 => ?_)
            refine ab_e_go 1 (76, [(0, .ref 13), (1, .int a1), (2, .int a2)], [.int v719], (X717, w)) rfl ?_
            exact ab_e_rt rfl rfl
        · refine ab_e_go 2 (50, [(0, .ref 13), (1, .int a1), (2, .int a2)], [.int a1, .ref 13], (X717, w)) rfl ?_
          refine ab_e_c1 (k2 := 90) (as := [.ref 13, .int a1]) (rest := []) rfl rfl (T_M_coverage S w X717 a1) (fun v720 => ?_)
          refine ab_e_go 1 (76, [(0, .ref 13), (1, .int a1), (2, .int a2)], [.int v720], (X717, w)) rfl ?_
          exact ab_e_rt rfl rfl
      · refine ab_e_go 2 (76, [(0, .ref 13), (1, .int a1), (2, .int a2)], [.int (nI 0)], (X717, w)) rfl ?_
        exact ab_e_rt rfl rfl
  · refine ab_e_go 3 (31, [(0, .ref 13), (1, .int a1), (2, .int a2)], [], ((ab_up X 13 0 (nI 1)), w)) rfl ?_
    refine ab_e_letX (fun X721 _ => ?_)
    refine ab_e_go 2 (35, [(0, .ref 13), (1, .int a1), (2, .int a2)], [.int (X721 13 0)], (X721, w)) rfl ?_
    refine ab_e_br (c := X721 13 0 = nI 0) (42, [(0, .ref 13), (1, .int a1), (2, .int a2)], [], (X721, w)) (38, [(0, .ref 13), (1, .int a1), (2, .int a2)], [], (X721, w)) rfl (fun _ => ?_) (fun _ => ?_)
    · refine ab_e_go 2 (45, [(0, .ref 13), (1, .int a1), (2, .int a2)], [.int (nI 6), .int a2], (X721, w)) rfl ?_
      refine ab_e_bn (c := a2 = nI 6) (56, [(0, .ref 13), (1, .int a1), (2, .int a2)], [], (X721, w)) (48, [(0, .ref 13), (1, .int a1), (2, .int a2)], [], (X721, w)) rfl (fun _ => ?_) (fun _ => ?_)
      · refine ab_e_go 2 (59, [(0, .ref 13), (1, .int a1), (2, .int a2)], [.int (nI 7), .int a2], (X721, w)) rfl ?_
        refine ab_e_bn (c := a2 = nI 7) (70, [(0, .ref 13), (1, .int a1), (2, .int a2)], [], (X721, w)) (62, [(0, .ref 13), (1, .int a1), (2, .int a2)], [], (X721, w)) rfl (fun _ => ?_) (fun _ => ?_)
        · refine ab_e_go 3 (73, [(0, .ref 13), (1, .int a1), (2, .int a2)], [.int a2, .int a1, .ref 13], (X721, w)) rfl ?_
          refine ab_e_c1 (k2 := 41) (as := [.ref 13, .int a1, .int a2]) (rest := []) rfl rfl (T_M_ofShift S w X721 a1 a2) (fun v722 => ?_)
          exact ab_e_rt rfl rfl
        · refine ab_e_go 2 (64, [(0, .ref 13), (1, .int a1), (2, .int a2)], [.int a1, .ref 13], (X721, w)) rfl ?_
          refine ab_e_c1 (k2 := 142) (as := [.ref 13, .int a1]) (rest := []) rfl rfl (T_M_end S w X721 a1) (fun v723 => ?_)
          refine ab_e_go 1 (76, [(0, .ref 13), (1, .int a1), (2, .int a2)], [.int v723], (X721, w)) rfl ?_
          exact ab_e_rt rfl rfl
      · refine ab_e_go 2 (50, [(0, .ref 13), (1, .int a1), (2, .int a2)], [.int a1, .ref 13], (X721, w)) rfl ?_
        refine ab_e_c1 (k2 := 90) (as := [.ref 13, .int a1]) (rest := []) rfl rfl (T_M_coverage S w X721 a1) (fun v724 => ?_)
        refine ab_e_go 1 (76, [(0, .ref 13), (1, .int a1), (2, .int a2)], [.int v724], (X721, w)) rfl ?_
        exact ab_e_rt rfl rfl
    · refine ab_e_go 2 (76, [(0, .ref 13), (1, .int a1), (2, .int a2)], [.int (nI 0)], (X721, w)) rfl ?_
      exact ab_e_rt rfl rfl
def L_M_shortestRest_54 (K43 : ab_XX → Int32 → Int32 → Int32 → Int32 → Int32 → Option (Int32 × ab_XX)) : Nat → ab_XX → Int32 → Int32 → Int32 → Int32 → Int32 → Int32 → Option (Int32 × ab_XX)
  | 0, _, _, _, _, _, _, _ => none
  | n + 1, X, a2, a3, a4, a5, a6, a7 =>
    (F_M_shifts X).bind fun v730 =>
    if v730 ≤ a7 then
      K43 X a2 a3 a4 a5 (a6 + (nI 1))
    else
      if ((a2 >>> (a7 &&& 31)) &&& (nI 1)) = nI 0 then
        L_M_shortestRest_54 K43 n X a2 a3 a4 a5 a6 (a7 + (nI 1))
      else
        (F_M_begin X a7).bind fun v731 =>
        if v731 = a6 then
          if a4 < nI 0 then
            L_M_shortestRest_54 K43 n X a2 a3 a7 (a5 + (nI 1)) a6 (a7 + (nI 1))
          else
            if a5 = nI 1 then
              (F_M_begin X a7).bind fun v732 =>
              (F_M_end X a4).bind fun v733 =>
              L_M_shortestRest_54 K43 n X a2 (v732 - v733) a7 (a5 + (nI 1)) a6 (a7 + (nI 1))
            else
              (F_M_begin X a7).bind fun v734 =>
              (F_M_end X a4).bind fun v735 =>
              if a3 ≤ (v734 - v735) then
                L_M_shortestRest_54 K43 n X a2 a3 a7 (a5 + (nI 1)) a6 (a7 + (nI 1))
              else
                (F_M_begin X a7).bind fun v736 =>
                (F_M_end X a4).bind fun v737 =>
                L_M_shortestRest_54 K43 n X a2 (v736 - v737) a7 (a5 + (nI 1)) a6 (a7 + (nI 1))
        else
          L_M_shortestRest_54 K43 n X a2 a3 a4 a5 a6 (a7 + (nI 1))
set_option maxRecDepth 4000 in
theorem T_L_M_shortestRest_54 (S : Nat × (Nat → Int32)) (w : ab_WW) (K43 : ab_XX → Int32 → Int32 → Int32 → Int32 → Int32 → Option (Int32 × ab_XX)) (hK43 : ∀ (X : ab_XX) (a2 : Int32) (a3 : Int32) (a4 : Int32) (a5 : Int32) (a6 : Int32), ab_Eg (ab_m3 ab_fI w) S 188 (43, [(0, .ref 13), (2, .int a2), (3, .int a3), (4, .int a4), (5, .int a5), (6, .int a6)], [], (X, w)) (K43 X a2 a3 a4 a5 a6)) : ∀ (n : Nat) (X : ab_XX) (a2 : Int32) (a3 : Int32) (a4 : Int32) (a5 : Int32) (a6 : Int32) (a7 : Int32), ab_Eg (ab_m3 ab_fI w) S 188 (54, [(0, .ref 13), (2, .int a2), (3, .int a3), (4, .int a4), (5, .int a5), (6, .int a6), (7, .int a7)], [], (X, w)) (L_M_shortestRest_54 K43 n X a2 a3 a4 a5 a6 a7) := by
  intro n
  induction n with
  | zero => intro X a2 a3 a4 a5 a6 a7; exact ab_e_none
  | succ n ih =>
    intro X a2 a3 a4 a5 a6 a7
    unfold L_M_shortestRest_54
    refine ab_e_go 2 (57, [(0, .ref 13), (2, .int a2), (3, .int a3), (4, .int a4), (5, .int a5), (6, .int a6), (7, .int a7)], [.ref 13, .int a7], (X, w)) rfl ?_
    refine ab_e_c1 (k2 := 43) (as := [.ref 13]) (rest := [.int a7]) rfl rfl (T_M_shifts S w X) (fun v730 => ?_)
    refine ab_e_br (c := v730 ≤ a7) (145, [(0, .ref 13), (2, .int a2), (3, .int a3), (4, .int a4), (5, .int a5), (6, .int a6), (7, .int a7)], [], (X, w)) (63, [(0, .ref 13), (2, .int a2), (3, .int a3), (4, .int a4), (5, .int a5), (6, .int a6), (7, .int a7)], [], (X, w)) rfl (fun _ => ?_) (fun _ => ?_)
    · refine ab_e_go 2 (43, [(6, .int (a6 + (nI 1))), (0, .ref 13), (2, .int a2), (3, .int a3), (4, .int a4), (5, .int a5), (7, .int a7)], [], (X, w)) rfl ?_
      refine ab_e_wk [(0, .ref 13), (2, .int a2), (3, .int a3), (4, .int a4), (5, .int a5), (6, .int (a6 + (nI 1)))] ⟨rfl, rfl, rfl, rfl, rfl, rfl, trivial⟩ ?_
      exact hK43 X a2 a3 a4 a5 (a6 + (nI 1))
    · refine ab_e_go 5 (69, [(0, .ref 13), (2, .int a2), (3, .int a3), (4, .int a4), (5, .int a5), (6, .int a6), (7, .int a7)], [.int ((a2 >>> (a7 &&& 31)) &&& (nI 1))], (X, w)) rfl ?_
      refine ab_e_br (c := ((a2 >>> (a7 &&& 31)) &&& (nI 1)) = nI 0) (139, [(0, .ref 13), (2, .int a2), (3, .int a3), (4, .int a4), (5, .int a5), (6, .int a6), (7, .int a7)], [], (X, w)) (72, [(0, .ref 13), (2, .int a2), (3, .int a3), (4, .int a4), (5, .int a5), (6, .int a6), (7, .int a7)], [], (X, w)) rfl (fun _ => ?_) (fun _ => ?_)
      · refine ab_e_go 2 (54, [(7, .int (a7 + (nI 1))), (0, .ref 13), (2, .int a2), (3, .int a3), (4, .int a4), (5, .int a5), (6, .int a6)], [], (X, w)) rfl ?_
        refine ab_e_wk [(0, .ref 13), (2, .int a2), (3, .int a3), (4, .int a4), (5, .int a5), (6, .int a6), (7, .int (a7 + (nI 1)))] ⟨rfl, rfl, rfl, rfl, rfl, rfl, rfl, trivial⟩ ?_
        exact ih X a2 a3 a4 a5 a6 (a7 + (nI 1))
      · refine ab_e_go 2 (75, [(0, .ref 13), (2, .int a2), (3, .int a3), (4, .int a4), (5, .int a5), (6, .int a6), (7, .int a7)], [.int a7, .ref 13], (X, w)) rfl ?_
        refine ab_e_c1 (k2 := 88) (as := [.ref 13, .int a7]) (rest := []) rfl rfl (T_M_begin S w X a7) (fun v731 => ?_)
        refine ab_e_go 1 (80, [(0, .ref 13), (2, .int a2), (3, .int a3), (4, .int a4), (5, .int a5), (6, .int a6), (7, .int a7)], [.int a6, .int v731], (X, w)) rfl ?_
        refine ab_e_br (c := v731 = a6) (86, [(0, .ref 13), (2, .int a2), (3, .int a3), (4, .int a4), (5, .int a5), (6, .int a6), (7, .int a7)], [], (X, w)) (83, [(0, .ref 13), (2, .int a2), (3, .int a3), (4, .int a4), (5, .int a5), (6, .int a6), (7, .int a7)], [], (X, w)) rfl (fun _ => ?_) (fun _ => ?_)
        · refine ab_e_go 1 (88, [(0, .ref 13), (2, .int a2), (3, .int a3), (4, .int a4), (5, .int a5), (6, .int a6), (7, .int a7)], [.int a4], (X, w)) rfl ?_
          refine ab_e_br (c := a4 < nI 0) (132, [(0, .ref 13), (2, .int a2), (3, .int a3), (4, .int a4), (5, .int a5), (6, .int a6), (7, .int a7)], [], (X, w)) (91, [(0, .ref 13), (2, .int a2), (3, .int a3), (4, .int a4), (5, .int a5), (6, .int a6), (7, .int a7)], [], (X, w)) rfl (fun _ => ?_) (fun _ => ?_)
          · refine ab_e_go 5 (54, [(7, .int (a7 + (nI 1))), (5, .int (a5 + (nI 1))), (4, .int a7), (0, .ref 13), (2, .int a2), (3, .int a3), (6, .int a6)], [], (X, w)) rfl ?_
            refine ab_e_wk [(0, .ref 13), (2, .int a2), (3, .int a3), (4, .int a7), (5, .int (a5 + (nI 1))), (6, .int a6), (7, .int (a7 + (nI 1)))] ⟨rfl, rfl, rfl, rfl, rfl, rfl, rfl, trivial⟩ ?_
            exact ih X a2 a3 a7 (a5 + (nI 1)) a6 (a7 + (nI 1))
          · refine ab_e_go 2 (94, [(0, .ref 13), (2, .int a2), (3, .int a3), (4, .int a4), (5, .int a5), (6, .int a6), (7, .int a7)], [.int (nI 1), .int a5], (X, w)) rfl ?_
            refine ab_e_br (c := a5 = nI 1) (114, [(0, .ref 13), (2, .int a2), (3, .int a3), (4, .int a4), (5, .int a5), (6, .int a6), (7, .int a7)], [], (X, w)) (97, [(0, .ref 13), (2, .int a2), (3, .int a3), (4, .int a4), (5, .int a5), (6, .int a6), (7, .int a7)], [], (X, w)) rfl (fun _ => ?_) (fun _ => ?_)
            · refine ab_e_go 2 (117, [(0, .ref 13), (2, .int a2), (3, .int a3), (4, .int a4), (5, .int a5), (6, .int a6), (7, .int a7)], [.int a7, .ref 13], (X, w)) rfl ?_
              refine ab_e_c1 (k2 := 88) (as := [.ref 13, .int a7]) (rest := []) rfl rfl (T_M_begin S w X a7) (fun v732 => ?_)
              refine ab_e_go 2 (123, [(0, .ref 13), (2, .int a2), (3, .int a3), (4, .int a4), (5, .int a5), (6, .int a6), (7, .int a7)], [.int a4, .ref 13, .int v732], (X, w)) rfl ?_
              refine ab_e_c1 (k2 := 142) (as := [.ref 13, .int a4]) (rest := [.int v732]) rfl rfl (T_M_end S w X a4) (fun v733 => ?_)
              refine ab_e_go 8 (54, [(7, .int (a7 + (nI 1))), (5, .int (a5 + (nI 1))), (4, .int a7), (3, .int (v732 - v733)), (0, .ref 13), (2, .int a2), (6, .int a6)], [], (X, w)) rfl ?_
              refine ab_e_wk [(0, .ref 13), (2, .int a2), (3, .int (v732 - v733)), (4, .int a7), (5, .int (a5 + (nI 1))), (6, .int a6), (7, .int (a7 + (nI 1)))] ⟨rfl, rfl, rfl, rfl, rfl, rfl, rfl, trivial⟩ ?_
              exact ih X a2 (v732 - v733) a7 (a5 + (nI 1)) a6 (a7 + (nI 1))
            · refine ab_e_go 2 (100, [(0, .ref 13), (2, .int a2), (3, .int a3), (4, .int a4), (5, .int a5), (6, .int a6), (7, .int a7)], [.int a7, .ref 13], (X, w)) rfl ?_
              refine ab_e_c1 (k2 := 88) (as := [.ref 13, .int a7]) (rest := []) rfl rfl (T_M_begin S w X a7) (fun v734 => ?_)
              refine ab_e_go 2 (106, [(0, .ref 13), (2, .int a2), (3, .int a3), (4, .int a4), (5, .int a5), (6, .int a6), (7, .int a7)], [.int a4, .ref 13, .int v734], (X, w)) rfl ?_
              refine ab_e_c1 (k2 := 142) (as := [.ref 13, .int a4]) (rest := [.int v734]) rfl rfl (T_M_end S w X a4) (fun v735 => ?_)
              refine ab_e_go 2 (111, [(0, .ref 13), (2, .int a2), (3, .int a3), (4, .int a4), (5, .int a5), (6, .int a6), (7, .int a7)], [.int a3, .int (v734 - v735)], (X, w)) rfl ?_
              refine ab_e_br (c := a3 ≤ (v734 - v735)) (130, [(0, .ref 13), (2, .int a2), (3, .int a3), (4, .int a4), (5, .int a5), (6, .int a6), (7, .int a7)], [], (X, w)) (114, [(0, .ref 13), (2, .int a2), (3, .int a3), (4, .int a4), (5, .int a5), (6, .int a6), (7, .int a7)], [], (X, w)) rfl (fun _ => ?_) (fun _ => ?_)
              · refine ab_e_go 7 (54, [(7, .int (a7 + (nI 1))), (5, .int (a5 + (nI 1))), (4, .int a7), (3, .int a3), (0, .ref 13), (2, .int a2), (6, .int a6)], [], (X, w)) rfl ?_
                refine ab_e_wk [(0, .ref 13), (2, .int a2), (3, .int a3), (4, .int a7), (5, .int (a5 + (nI 1))), (6, .int a6), (7, .int (a7 + (nI 1)))] ⟨rfl, rfl, rfl, rfl, rfl, rfl, rfl, trivial⟩ ?_
                exact ih X a2 a3 a7 (a5 + (nI 1)) a6 (a7 + (nI 1))
              · refine ab_e_go 2 (117, [(0, .ref 13), (2, .int a2), (3, .int a3), (4, .int a4), (5, .int a5), (6, .int a6), (7, .int a7)], [.int a7, .ref 13], (X, w)) rfl ?_
                refine ab_e_c1 (k2 := 88) (as := [.ref 13, .int a7]) (rest := []) rfl rfl (T_M_begin S w X a7) (fun v736 => ?_)
                refine ab_e_go 2 (123, [(0, .ref 13), (2, .int a2), (3, .int a3), (4, .int a4), (5, .int a5), (6, .int a6), (7, .int a7)], [.int a4, .ref 13, .int v736], (X, w)) rfl ?_
                refine ab_e_c1 (k2 := 142) (as := [.ref 13, .int a4]) (rest := [.int v736]) rfl rfl (T_M_end S w X a4) (fun v737 => ?_)
                refine ab_e_go 8 (54, [(7, .int (a7 + (nI 1))), (5, .int (a5 + (nI 1))), (4, .int a7), (3, .int (v736 - v737)), (0, .ref 13), (2, .int a2), (6, .int a6)], [], (X, w)) rfl ?_
                refine ab_e_wk [(0, .ref 13), (2, .int a2), (3, .int (v736 - v737)), (4, .int a7), (5, .int (a5 + (nI 1))), (6, .int a6), (7, .int (a7 + (nI 1)))] ⟨rfl, rfl, rfl, rfl, rfl, rfl, rfl, trivial⟩ ?_
                exact ih X a2 (v736 - v737) a7 (a5 + (nI 1)) a6 (a7 + (nI 1))
        · refine ab_e_go 3 (54, [(7, .int (a7 + (nI 1))), (0, .ref 13), (2, .int a2), (3, .int a3), (4, .int a4), (5, .int a5), (6, .int a6)], [], (X, w)) rfl ?_
          refine ab_e_wk [(0, .ref 13), (2, .int a2), (3, .int a3), (4, .int a4), (5, .int a5), (6, .int a6), (7, .int (a7 + (nI 1)))] ⟨rfl, rfl, rfl, rfl, rfl, rfl, rfl, trivial⟩ ?_
          exact ih X a2 a3 a4 a5 a6 (a7 + (nI 1))
def L_M_shortestRest_43 : Nat → ab_XX → Int32 → Int32 → Int32 → Int32 → Int32 → Option (Int32 × ab_XX)
  | 0, _, _, _, _, _, _ => none
  | n + 1, X, a2, a3, a4, a5, a6 =>
    if nI 672 ≤ a6 then
      if nI 2 ≤ a5 then
        (some (ab_up X 13 0 (nI 0))).bind fun X728 =>
        if X728 13 0 = nI 0 then
          some (a3, X728)
        else
          some (nI 0, X728)
      else
        (some (ab_up X 13 0 (nI 2))).bind fun X729 =>
        if X729 13 0 = nI 0 then
          some (a3, X729)
        else
          some (nI 0, X729)
    else
      L_M_shortestRest_54 (fun X9 b2 b3 b4 b5 b6 => L_M_shortestRest_43 n X9 b2 b3 b4 b5 b6) ab_fu X a2 a3 a4 a5 a6 (nI 0)
set_option maxRecDepth 4000 in
theorem T_L_M_shortestRest_43 (S : Nat × (Nat → Int32)) (w : ab_WW) : ∀ (n : Nat) (X : ab_XX) (a2 : Int32) (a3 : Int32) (a4 : Int32) (a5 : Int32) (a6 : Int32), ab_Eg (ab_m3 ab_fI w) S 188 (43, [(0, .ref 13), (2, .int a2), (3, .int a3), (4, .int a4), (5, .int a5), (6, .int a6)], [], (X, w)) (L_M_shortestRest_43 n X a2 a3 a4 a5 a6) := by
  intro n
  induction n with
  | zero => intro X a2 a3 a4 a5 a6; exact ab_e_none
  | succ n ih =>
    intro X a2 a3 a4 a5 a6
    unfold L_M_shortestRest_43
    refine ab_e_go 2 (48, [(0, .ref 13), (2, .int a2), (3, .int a3), (4, .int a4), (5, .int a5), (6, .int a6)], [.int (nI 672), .int a6], (X, w)) rfl ?_
    refine ab_e_br (c := nI 672 ≤ a6) (151, [(0, .ref 13), (2, .int a2), (3, .int a3), (4, .int a4), (5, .int a5), (6, .int a6)], [], (X, w)) (51, [(0, .ref 13), (2, .int a2), (3, .int a3), (4, .int a4), (5, .int a5), (6, .int a6)], [], (X, w)) rfl (fun _ => ?_) (fun _ => ?_)
    · refine ab_e_go 3 (155, [(0, .ref 13), (2, .int a2), (3, .int a3), (4, .int a4), (5, .int a5), (6, .int a6)], [.int (nI 2), .int a5, .ref 13], (X, w)) rfl ?_
      refine ab_e_br (c := nI 2 ≤ a5) (162, [(0, .ref 13), (2, .int a2), (3, .int a3), (4, .int a4), (5, .int a5), (6, .int a6)], [.ref 13], (X, w)) (158, [(0, .ref 13), (2, .int a2), (3, .int a3), (4, .int a4), (5, .int a5), (6, .int a6)], [.ref 13], (X, w)) rfl (fun _ => ?_) (fun _ => ?_)
      · refine ab_e_go 2 (166, [(0, .ref 13), (2, .int a2), (3, .int a3), (4, .int a4), (5, .int a5), (6, .int a6)], [], ((ab_up X 13 0 (nI 0)), w)) rfl ?_
        refine ab_e_letX (fun X728 _ => ?_)
        refine ab_e_go 2 (170, [(0, .ref 13), (2, .int a2), (3, .int a3), (4, .int a4), (5, .int a5), (6, .int a6)], [.int (X728 13 0)], (X728, w)) rfl ?_
        refine ab_e_bn (c := X728 13 0 = nI 0) (177, [(0, .ref 13), (2, .int a2), (3, .int a3), (4, .int a4), (5, .int a5), (6, .int a6)], [], (X728, w)) (173, [(0, .ref 13), (2, .int a2), (3, .int a3), (4, .int a4), (5, .int a5), (6, .int a6)], [], (X728, w)) rfl (fun _ => ?_) (fun _ => ?_)
        · refine ab_e_go 1 (178, [(0, .ref 13), (2, .int a2), (3, .int a3), (4, .int a4), (5, .int a5), (6, .int a6)], [.int (nI 0)], (X728, w)) rfl ?_
          exact ab_e_rt rfl rfl
        · refine ab_e_go 2 (178, [(0, .ref 13), (2, .int a2), (3, .int a3), (4, .int a4), (5, .int a5), (6, .int a6)], [.int a3], (X728, w)) rfl ?_
          exact ab_e_rt rfl rfl
      · refine ab_e_go 3 (166, [(0, .ref 13), (2, .int a2), (3, .int a3), (4, .int a4), (5, .int a5), (6, .int a6)], [], ((ab_up X 13 0 (nI 2)), w)) rfl ?_
        refine ab_e_letX (fun X729 _ => ?_)
        refine ab_e_go 2 (170, [(0, .ref 13), (2, .int a2), (3, .int a3), (4, .int a4), (5, .int a5), (6, .int a6)], [.int (X729 13 0)], (X729, w)) rfl ?_
        refine ab_e_bn (c := X729 13 0 = nI 0) (177, [(0, .ref 13), (2, .int a2), (3, .int a3), (4, .int a4), (5, .int a5), (6, .int a6)], [], (X729, w)) (173, [(0, .ref 13), (2, .int a2), (3, .int a3), (4, .int a4), (5, .int a5), (6, .int a6)], [], (X729, w)) rfl (fun _ => ?_) (fun _ => ?_)
        · refine ab_e_go 1 (178, [(0, .ref 13), (2, .int a2), (3, .int a3), (4, .int a4), (5, .int a5), (6, .int a6)], [.int (nI 0)], (X729, w)) rfl ?_
          exact ab_e_rt rfl rfl
        · refine ab_e_go 2 (178, [(0, .ref 13), (2, .int a2), (3, .int a3), (4, .int a4), (5, .int a5), (6, .int a6)], [.int a3], (X729, w)) rfl ?_
          exact ab_e_rt rfl rfl
    · refine ab_e_go 2 (54, [(7, .int (nI 0)), (0, .ref 13), (2, .int a2), (3, .int a3), (4, .int a4), (5, .int a5), (6, .int a6)], [], (X, w)) rfl ?_
      refine ab_e_wk [(0, .ref 13), (2, .int a2), (3, .int a3), (4, .int a4), (5, .int a5), (6, .int a6), (7, .int (nI 0))] ⟨rfl, rfl, rfl, rfl, rfl, rfl, rfl, trivial⟩ ?_
      exact T_L_M_shortestRest_54 S w _ (fun X9 b2 b3 b4 b5 b6 => ih X9 b2 b3 b4 b5 b6) ab_fu X a2 a3 a4 a5 a6 (nI 0)
def F_M_shortestRest (X : ab_XX) (a1 : Int32) : Option (Int32 × ab_XX) :=
  (F_M_isWorker X a1).bind fun v725 =>
  if v725 = nI 0 then
    (some (ab_up X 13 0 (nI 1))).bind fun X726 =>
    if X726 13 0 = nI 0 then
      (F_M_heldBy X726 a1).bind fun v727 =>
      L_M_shortestRest_43 ab_fu X726 v727 (-1 : Int32) (-1 : Int32) (nI 0) (nI 0)
    else
      some (nI 0, X726)
  else
    (some (ab_up X 13 0 (nI 0))).bind fun X738 =>
    if X738 13 0 = nI 0 then
      (F_M_heldBy X738 a1).bind fun v739 =>
      L_M_shortestRest_43 ab_fu X738 v739 (-1 : Int32) (-1 : Int32) (nI 0) (nI 0)
    else
      some (nI 0, X738)
set_option maxRecDepth 4000 in
theorem T_M_shortestRest (S : Nat × (Nat → Int32)) (w : ab_WW) (X : ab_XX) (a1 : Int32) : ab_Eg (ab_m3 ab_fI w) S 188 (0, lv_args 0 [.ref 13, .int a1], [], (X, w)) (F_M_shortestRest X a1) := by
  show ab_Eg (ab_m3 ab_fI w) S 188 (0, [(0, .ref 13), (1, .int a1)], [], (X, w)) _
  unfold F_M_shortestRest
  refine ab_e_go 3 (3, [(0, .ref 13), (1, .int a1)], [.int a1, .ref 13, .ref 13], (X, w)) rfl ?_
  refine ab_e_c1 (k2 := 98) (as := [.ref 13, .int a1]) (rest := [.ref 13]) rfl rfl (T_M_isWorker S w X a1) (fun v725 => ?_)
  refine ab_e_br (c := v725 = nI 0) (13, [(0, .ref 13), (1, .int a1)], [.ref 13], (X, w)) (9, [(0, .ref 13), (1, .int a1)], [.ref 13], (X, w)) rfl (fun _ => ?_) (fun _ => ?_)
  · refine ab_e_go 2 (17, [(0, .ref 13), (1, .int a1)], [], ((ab_up X 13 0 (nI 1)), w)) rfl ?_
    refine ab_e_letX (fun X726 _ => ?_)
    refine ab_e_go 2 (21, [(0, .ref 13), (1, .int a1)], [.int (X726 13 0)], (X726, w)) rfl ?_
    refine ab_e_br (c := X726 13 0 = nI 0) (26, [(0, .ref 13), (1, .int a1)], [], (X726, w)) (24, [(0, .ref 13), (1, .int a1)], [], (X726, w)) rfl (fun _ => ?_) (fun _ => ?_)
    · refine ab_e_go 2 (28, [(0, .ref 13), (1, .int a1)], [.int a1, .ref 13], (X726, w)) rfl ?_
      refine ab_e_c1 (k2 := 94) (as := [.ref 13, .int a1]) (rest := []) rfl rfl (T_M_heldBy S w X726 a1) (fun v727 => ?_)
      refine ab_e_go 9 (43, [(6, .int (nI 0)), (5, .int (nI 0)), (4, .int (-1 : Int32)), (3, .int (-1 : Int32)), (2, .int v727), (0, .ref 13), (1, .int a1)], [], (X726, w)) rfl ?_
      refine ab_e_wk [(0, .ref 13), (2, .int v727), (3, .int (-1 : Int32)), (4, .int (-1 : Int32)), (5, .int (nI 0)), (6, .int (nI 0))] ⟨rfl, rfl, rfl, rfl, rfl, rfl, trivial⟩ ?_
      exact T_L_M_shortestRest_43 S w ab_fu X726 v727 (-1 : Int32) (-1 : Int32) (nI 0) (nI 0)
    · refine ab_e_go 1 (25, [(0, .ref 13), (1, .int a1)], [.int (nI 0)], (X726, w)) rfl ?_
      exact ab_e_rt rfl rfl
  · refine ab_e_go 3 (17, [(0, .ref 13), (1, .int a1)], [], ((ab_up X 13 0 (nI 0)), w)) rfl ?_
    refine ab_e_letX (fun X738 _ => ?_)
    refine ab_e_go 2 (21, [(0, .ref 13), (1, .int a1)], [.int (X738 13 0)], (X738, w)) rfl ?_
    refine ab_e_br (c := X738 13 0 = nI 0) (26, [(0, .ref 13), (1, .int a1)], [], (X738, w)) (24, [(0, .ref 13), (1, .int a1)], [], (X738, w)) rfl (fun _ => ?_) (fun _ => ?_)
    · refine ab_e_go 2 (28, [(0, .ref 13), (1, .int a1)], [.int a1, .ref 13], (X738, w)) rfl ?_
      refine ab_e_c1 (k2 := 94) (as := [.ref 13, .int a1]) (rest := []) rfl rfl (T_M_heldBy S w X738 a1) (fun v739 => ?_)
      refine ab_e_go 9 (43, [(6, .int (nI 0)), (5, .int (nI 0)), (4, .int (-1 : Int32)), (3, .int (-1 : Int32)), (2, .int v739), (0, .ref 13), (1, .int a1)], [], (X738, w)) rfl ?_
      refine ab_e_wk [(0, .ref 13), (2, .int v739), (3, .int (-1 : Int32)), (4, .int (-1 : Int32)), (5, .int (nI 0)), (6, .int (nI 0))] ⟨rfl, rfl, rfl, rfl, rfl, rfl, trivial⟩ ?_
      exact T_L_M_shortestRest_43 S w ab_fu X738 v739 (-1 : Int32) (-1 : Int32) (nI 0) (nI 0)
    · refine ab_e_go 1 (25, [(0, .ref 13), (1, .int a1)], [.int (nI 0)], (X738, w)) rfl ?_
      exact ab_e_rt rfl rfl
def F_M_here (X : ab_XX) : Option Int32 :=
  if X 13 5 ≤ X 13 6 then
    some (-1 : Int32)
  else
    if ab_in (X 13 6) 80 = true then
      (some (X 15 (X 13 6).toNatClampNeg)).bind fun v744 =>
      some v744
    else none
set_option maxRecDepth 4000 in
theorem T_M_here (S : Nat × (Nat → Int32)) (w : ab_WW) (X : ab_XX) : ab_Eg (ab_m1 ab_fI (X, w)) S 38 (0, lv_args 0 [.ref 13], [], (X, w)) (F_M_here X) := by
  show ab_Eg (ab_m1 ab_fI (X, w)) S 38 (0, [(0, .ref 13)], [], (X, w)) _
  unfold F_M_here
  refine ab_e_go 4 (8, [(0, .ref 13)], [.int (X 13 5), .int (X 13 6)], (X, w)) rfl ?_
  refine ab_e_br (c := X 13 5 ≤ X 13 6) (23, [(0, .ref 13)], [], (X, w)) (11, [(0, .ref 13)], [], (X, w)) rfl (fun _ => ?_) (fun _ => ?_)
  · refine ab_e_go 1 (24, [(0, .ref 13)], [.int (-1 : Int32)], (X, w)) rfl ?_
    exact ab_e_rt rfl rfl
  · refine ab_e_go 4 (19, [(0, .ref 13)], [.int (X 13 6), .ref 15], (X, w)) rfl ?_
    refine ab_e_gd (20, [(0, .ref 13)], [.int (X 15 (X 13 6).toNatClampNeg)], (X, w)) rfl ?_
    refine ab_e_letI (fun v744 _ => ?_)
    refine ab_e_go 1 (24, [(0, .ref 13)], [.int v744], (X, w)) rfl ?_
    exact ab_e_rt rfl rfl
def L_M_number_33 : Nat → ab_XX → Int32 → Int32 → Option (Int32 × ab_XX)
  | 0, _, _, _ => none
  | n + 1, X, a1, a2 =>
    if nI 3 ≤ a2 then
      some (a1, X)
    else
      if nI 0 ≤ X 13 7 then
        some (a1, X)
      else
        (F_M_here X).bind fun v751 =>
        (F_M_in v751 (nI 48) (nI 57)).bind fun v752 =>
        if v752 = nI 0 then
          some (a1, X)
        else
          (F_M_here X).bind fun v753 =>
          (some (ab_up X 13 6 ((X 13 6) + (nI 1)))).bind fun X754 =>
          L_M_number_33 n X754 ((((nI 10) * a1) + v753) - (nI 48)) (a2 + (nI 1))
set_option maxRecDepth 4000 in
theorem T_L_M_number_33 (S : Nat × (Nat → Int32)) (w : ab_WW) : ∀ (n : Nat) (X : ab_XX) (a1 : Int32) (a2 : Int32), ab_Eg (ab_m3 ab_fI w) S 101 (33, [(0, .ref 13), (1, .int a1), (2, .int a2)], [], (X, w)) (L_M_number_33 n X a1 a2) := by
  intro n
  induction n with
  | zero => intro X a1 a2; exact ab_e_none
  | succ n ih =>
    intro X a1 a2
    unfold L_M_number_33
    refine ab_e_go 2 (35, [(0, .ref 13), (1, .int a1), (2, .int a2)], [.int (nI 3), .int a2], (X, w)) rfl ?_
    refine ab_e_br (c := nI 3 ≤ a2) (88, [(0, .ref 13), (1, .int a1), (2, .int a2)], [], (X, w)) (38, [(0, .ref 13), (1, .int a1), (2, .int a2)], [], (X, w)) rfl (fun _ => ?_) (fun _ => ?_)
    · refine ab_e_go 1 (89, [(0, .ref 13), (1, .int a1), (2, .int a2)], [.int a1], (X, w)) rfl ?_
      exact ab_e_rt rfl rfl
    · refine ab_e_go 2 (42, [(0, .ref 13), (1, .int a1), (2, .int a2)], [.int (X 13 7)], (X, w)) rfl ?_
      refine ab_e_br (c := nI 0 ≤ X 13 7) (88, [(0, .ref 13), (1, .int a1), (2, .int a2)], [], (X, w)) (45, [(0, .ref 13), (1, .int a1), (2, .int a2)], [], (X, w)) rfl (fun _ => ?_) (fun _ => ?_)
      · refine ab_e_go 1 (89, [(0, .ref 13), (1, .int a1), (2, .int a2)], [.int a1], (X, w)) rfl ?_
        exact ab_e_rt rfl rfl
      · refine ab_e_go 1 (46, [(0, .ref 13), (1, .int a1), (2, .int a2)], [.ref 13], (X, w)) rfl ?_
        refine ab_e_c1 (k2 := 38) (as := [.ref 13]) (rest := []) rfl rfl (T_M_here S w X) (fun v751 => ?_)
        refine ab_e_go 2 (53, [(0, .ref 13), (1, .int a1), (2, .int a2)], [.int (nI 57), .int (nI 48), .int v751], (X, w)) rfl ?_
        refine ab_e_c1 (k2 := 39) (as := [.int v751, .int (nI 48), .int (nI 57)]) (rest := []) rfl rfl (T_M_in S w X v751 (nI 48) (nI 57)) (fun v752 => ?_)
        refine ab_e_br (c := v752 = nI 0) (88, [(0, .ref 13), (1, .int a1), (2, .int a2)], [], (X, w)) (59, [(0, .ref 13), (1, .int a1), (2, .int a2)], [], (X, w)) rfl (fun _ => ?_) (fun _ => ?_)
        · refine ab_e_go 1 (89, [(0, .ref 13), (1, .int a1), (2, .int a2)], [.int a1], (X, w)) rfl ?_
          exact ab_e_rt rfl rfl
        · refine ab_e_go 4 (64, [(0, .ref 13), (1, .int a1), (2, .int a2)], [.ref 13, .int ((nI 10) * a1)], (X, w)) rfl ?_
          refine ab_e_c1 (k2 := 38) (as := [.ref 13]) (rest := [.int ((nI 10) * a1)]) rfl rfl (T_M_here S w X) (fun v753 => ?_)
          refine ab_e_go 10 (82, [(1, .int ((((nI 10) * a1) + v753) - (nI 48))), (0, .ref 13), (2, .int a2)], [], ((ab_up X 13 6 ((X 13 6) + (nI 1))), w)) rfl ?_
          refine ab_e_letX (fun X754 _ => ?_)
          refine ab_e_go 2 (33, [(2, .int (a2 + (nI 1))), (1, .int ((((nI 10) * a1) + v753) - (nI 48))), (0, .ref 13)], [], (X754, w)) rfl ?_
          refine ab_e_wk [(0, .ref 13), (1, .int ((((nI 10) * a1) + v753) - (nI 48))), (2, .int (a2 + (nI 1)))] ⟨rfl, rfl, rfl, trivial⟩ ?_
          exact ih X754 ((((nI 10) * a1) + v753) - (nI 48)) (a2 + (nI 1))
def F_M_number (X : ab_XX) : Option (Int32 × ab_XX) :=
  if nI 0 ≤ X 13 7 then
    L_M_number_33 ab_fu X (nI 0) (nI 0)
  else
    (F_M_here X).bind fun v755 =>
    (F_M_in v755 (nI 48) (nI 57)).bind fun v756 =>
    if v756 = nI 0 then
      (some (ab_up X 13 7 (X 13 6))).bind fun X757 =>
      L_M_number_33 ab_fu X757 (nI 0) (nI 0)
    else
      L_M_number_33 ab_fu X (nI 0) (nI 0)
set_option maxRecDepth 4000 in
theorem T_M_number (S : Nat × (Nat → Int32)) (w : ab_WW) (X : ab_XX) : ab_Eg (ab_m3 ab_fI w) S 101 (0, lv_args 0 [.ref 13], [], (X, w)) (F_M_number X) := by
  show ab_Eg (ab_m3 ab_fI w) S 101 (0, [(0, .ref 13)], [], (X, w)) _
  unfold F_M_number
  refine ab_e_go 2 (4, [(0, .ref 13)], [.int (X 13 7)], (X, w)) rfl ?_
  refine ab_e_br (c := nI 0 ≤ X 13 7) (29, [(0, .ref 13)], [], (X, w)) (7, [(0, .ref 13)], [], (X, w)) rfl (fun _ => ?_) (fun _ => ?_)
  · refine ab_e_go 4 (33, [(2, .int (nI 0)), (1, .int (nI 0)), (0, .ref 13)], [], (X, w)) rfl ?_
    refine ab_e_wk [(0, .ref 13), (1, .int (nI 0)), (2, .int (nI 0))] ⟨rfl, rfl, rfl, trivial⟩ ?_
    exact T_L_M_number_33 S w ab_fu X (nI 0) (nI 0)
  · refine ab_e_go 1 (8, [(0, .ref 13)], [.ref 13], (X, w)) rfl ?_
    refine ab_e_c1 (k2 := 38) (as := [.ref 13]) (rest := []) rfl rfl (T_M_here S w X) (fun v755 => ?_)
    refine ab_e_go 2 (15, [(0, .ref 13)], [.int (nI 57), .int (nI 48), .int v755], (X, w)) rfl ?_
    refine ab_e_c1 (k2 := 39) (as := [.int v755, .int (nI 48), .int (nI 57)]) (rest := []) rfl rfl (T_M_in S w X v755 (nI 48) (nI 57)) (fun v756 => ?_)
    refine ab_e_bn (c := v756 = nI 0) (29, [(0, .ref 13)], [], (X, w)) (21, [(0, .ref 13)], [], (X, w)) rfl (fun _ => ?_) (fun _ => ?_)
    · refine ab_e_go 4 (33, [(2, .int (nI 0)), (1, .int (nI 0)), (0, .ref 13)], [], (X, w)) rfl ?_
      refine ab_e_wk [(0, .ref 13), (1, .int (nI 0)), (2, .int (nI 0))] ⟨rfl, rfl, rfl, trivial⟩ ?_
      exact T_L_M_number_33 S w ab_fu X (nI 0) (nI 0)
    · refine ab_e_go 4 (29, [(0, .ref 13)], [], ((ab_up X 13 7 (X 13 6)), w)) rfl ?_
      refine ab_e_letX (fun X757 _ => ?_)
      refine ab_e_go 4 (33, [(2, .int (nI 0)), (1, .int (nI 0)), (0, .ref 13)], [], (X757, w)) rfl ?_
      refine ab_e_wk [(0, .ref 13), (1, .int (nI 0)), (2, .int (nI 0))] ⟨rfl, rfl, rfl, trivial⟩ ?_
      exact T_L_M_number_33 S w ab_fu X757 (nI 0) (nI 0)
def L_M_item_87 : Nat → ab_XX → Int32 → Int32 → Option (Unit × ab_XX)
  | 0, _, _, _ => none
  | n + 1, X, a3, a4 =>
    if a3 ≤ a4 then
      (some (ab_up X 13 10 ((X 13 10) + (nI 1)))).bind fun X749 =>
      some ((), X749)
    else
      if nI 0 ≤ X 13 7 then
        (some (ab_up X 13 10 ((X 13 10) + (nI 1)))).bind fun X750 =>
        some ((), X750)
      else
        if a4 ≤ nI 0 then
          ab_b3 (F_M_number X) (fun v758 X759 =>
            if ab_in ((((nI 6) * (X 13 10)) + (nI 1)) + a4) 480 = true then
              (some (ab_up X759 16 (((((nI 6) * (X 13 10)) + (nI 1)) + a4).toNatClampNeg) v758)).bind fun X760 =>
              L_M_item_87 n X760 a3 (a4 + (nI 1))
            else none)
        else
          (F_M_here X).bind fun v761 =>
          if v761 = nI 44 then
            (some (ab_up X 13 6 ((X 13 6) + (nI 1)))).bind fun X762 =>
            ab_b3 (F_M_number X762) (fun v763 X764 =>
              if ab_in ((((nI 6) * (X762 13 10)) + (nI 1)) + a4) 480 = true then
                (some (ab_up X764 16 (((((nI 6) * (X762 13 10)) + (nI 1)) + a4).toNatClampNeg) v763)).bind fun X765 =>
                L_M_item_87 n X765 a3 (a4 + (nI 1))
              else none)
          else
            (some (ab_up X 13 7 (X 13 6))).bind fun X766 =>
            (some (ab_up X766 13 6 ((X766 13 6) + (nI 1)))).bind fun X767 =>
            ab_b3 (F_M_number X767) (fun v768 X769 =>
              if ab_in ((((nI 6) * (X767 13 10)) + (nI 1)) + a4) 480 = true then
                (some (ab_up X769 16 (((((nI 6) * (X767 13 10)) + (nI 1)) + a4).toNatClampNeg) v768)).bind fun X770 =>
                L_M_item_87 n X770 a3 (a4 + (nI 1))
              else none)
set_option maxRecDepth 4000 in
theorem T_L_M_item_87 (S : Nat × (Nat → Int32)) (w : ab_WW) : ∀ (n : Nat) (X : ab_XX) (a3 : Int32) (a4 : Int32), ab_Eg (ab_m3 ab_fU w) S 146 (87, [(0, .ref 13), (3, .int a3), (4, .int a4)], [], (X, w)) (L_M_item_87 n X a3 a4) := by
  intro n
  induction n with
  | zero => intro X a3 a4; exact ab_e_none
  | succ n ih =>
    intro X a3 a4
    unfold L_M_item_87
    refine ab_e_go 2 (90, [(0, .ref 13), (3, .int a3), (4, .int a4)], [.int a3, .int a4], (X, w)) rfl ?_
    refine ab_e_br (c := a3 ≤ a4) (159, [(0, .ref 13), (3, .int a3), (4, .int a4)], [], (X, w)) (93, [(0, .ref 13), (3, .int a3), (4, .int a4)], [], (X, w)) rfl (fun _ => ?_) (fun _ => ?_)
    · refine ab_e_go 6 (169, [(0, .ref 13), (3, .int a3), (4, .int a4)], [], ((ab_up X 13 10 ((X 13 10) + (nI 1))), w)) rfl ?_
      refine ab_e_letX (fun X749 _ => ?_)
      exact ab_e_rt rfl rfl
    · refine ab_e_go 2 (97, [(0, .ref 13), (3, .int a3), (4, .int a4)], [.int (X 13 7)], (X, w)) rfl ?_
      refine ab_e_br (c := nI 0 ≤ X 13 7) (159, [(0, .ref 13), (3, .int a3), (4, .int a4)], [], (X, w)) (100, [(0, .ref 13), (3, .int a3), (4, .int a4)], [], (X, w)) rfl (fun _ => ?_) (fun _ => ?_)
      · refine ab_e_go 6 (169, [(0, .ref 13), (3, .int a3), (4, .int a4)], [], ((ab_up X 13 10 ((X 13 10) + (nI 1))), w)) rfl ?_
        refine ab_e_letX (fun X750 _ => ?_)
        exact ab_e_rt rfl rfl
      · refine ab_e_go 1 (102, [(0, .ref 13), (3, .int a3), (4, .int a4)], [.int a4], (X, w)) rfl ?_
        refine ab_e_br (c := a4 ≤ nI 0) (132, [(0, .ref 13), (3, .int a3), (4, .int a4)], [], (X, w)) (105, [(0, .ref 13), (3, .int a3), (4, .int a4)], [], (X, w)) rfl (fun _ => ?_) (fun _ => ?_)
        · refine ab_e_go 11 (149, [(0, .ref 13), (3, .int a3), (4, .int a4)], [.ref 13, .int ((((nI 6) * (X 13 10)) + (nI 1)) + a4), .ref 16], (X, w)) rfl ?_
          refine ab_e_c3 (k2 := 101) (as := [.ref 13]) (rest := [.int ((((nI 6) * (X 13 10)) + (nI 1)) + a4), .ref 16]) rfl rfl (T_M_number S w X) (fun v758 X759 => ?_)
          refine ab_e_gd (153, [(0, .ref 13), (3, .int a3), (4, .int a4)], [], ((ab_up X759 16 (((((nI 6) * (X 13 10)) + (nI 1)) + a4).toNatClampNeg) v758), w)) rfl ?_
          refine ab_e_letX (fun X760 _ => ?_)
          refine ab_e_go 2 (87, [(4, .int (a4 + (nI 1))), (0, .ref 13), (3, .int a3)], [], (X760, w)) rfl ?_
          refine ab_e_wk [(0, .ref 13), (3, .int a3), (4, .int (a4 + (nI 1)))] ⟨rfl, rfl, rfl, trivial⟩ ?_
          exact ih X760 a3 (a4 + (nI 1))
        · refine ab_e_go 1 (106, [(0, .ref 13), (3, .int a3), (4, .int a4)], [.ref 13], (X, w)) rfl ?_
          refine ab_e_c1 (k2 := 38) (as := [.ref 13]) (rest := []) rfl rfl (T_M_here S w X) (fun v761 => ?_)
          refine ab_e_go 1 (111, [(0, .ref 13), (3, .int a3), (4, .int a4)], [.int (nI 44), .int v761], (X, w)) rfl ?_
          refine ab_e_br (c := v761 = nI 44) (122, [(0, .ref 13), (3, .int a3), (4, .int a4)], [], (X, w)) (114, [(0, .ref 13), (3, .int a3), (4, .int a4)], [], (X, w)) rfl (fun _ => ?_) (fun _ => ?_)
          · refine ab_e_go 6 (132, [(0, .ref 13), (3, .int a3), (4, .int a4)], [], ((ab_up X 13 6 ((X 13 6) + (nI 1))), w)) rfl ?_
            refine ab_e_letX (fun X762 _ => ?_)
            refine ab_e_go 11 (149, [(0, .ref 13), (3, .int a3), (4, .int a4)], [.ref 13, .int ((((nI 6) * (X762 13 10)) + (nI 1)) + a4), .ref 16], (X762, w)) rfl ?_
            refine ab_e_c3 (k2 := 101) (as := [.ref 13]) (rest := [.int ((((nI 6) * (X762 13 10)) + (nI 1)) + a4), .ref 16]) rfl rfl (T_M_number S w X762) (fun v763 X764 => ?_)
            refine ab_e_gd (153, [(0, .ref 13), (3, .int a3), (4, .int a4)], [], ((ab_up X764 16 (((((nI 6) * (X762 13 10)) + (nI 1)) + a4).toNatClampNeg) v763), w)) rfl ?_
            refine ab_e_letX (fun X765 _ => ?_)
            refine ab_e_go 2 (87, [(4, .int (a4 + (nI 1))), (0, .ref 13), (3, .int a3)], [], (X765, w)) rfl ?_
            refine ab_e_wk [(0, .ref 13), (3, .int a3), (4, .int (a4 + (nI 1)))] ⟨rfl, rfl, rfl, trivial⟩ ?_
            exact ih X765 a3 (a4 + (nI 1))
          · refine ab_e_go 4 (122, [(0, .ref 13), (3, .int a3), (4, .int a4)], [], ((ab_up X 13 7 (X 13 6)), w)) rfl ?_
            refine ab_e_letX (fun X766 _ => ?_)
            refine ab_e_go 6 (132, [(0, .ref 13), (3, .int a3), (4, .int a4)], [], ((ab_up X766 13 6 ((X766 13 6) + (nI 1))), w)) rfl ?_
            refine ab_e_letX (fun X767 _ => ?_)
            refine ab_e_go 11 (149, [(0, .ref 13), (3, .int a3), (4, .int a4)], [.ref 13, .int ((((nI 6) * (X767 13 10)) + (nI 1)) + a4), .ref 16], (X767, w)) rfl ?_
            refine ab_e_c3 (k2 := 101) (as := [.ref 13]) (rest := [.int ((((nI 6) * (X767 13 10)) + (nI 1)) + a4), .ref 16]) rfl rfl (T_M_number S w X767) (fun v768 X769 => ?_)
            refine ab_e_gd (153, [(0, .ref 13), (3, .int a3), (4, .int a4)], [], ((ab_up X769 16 (((((nI 6) * (X767 13 10)) + (nI 1)) + a4).toNatClampNeg) v768), w)) rfl ?_
            refine ab_e_letX (fun X770 _ => ?_)
            refine ab_e_go 2 (87, [(4, .int (a4 + (nI 1))), (0, .ref 13), (3, .int a3)], [], (X770, w)) rfl ?_
            refine ab_e_wk [(0, .ref 13), (3, .int a3), (4, .int (a4 + (nI 1)))] ⟨rfl, rfl, rfl, trivial⟩ ?_
            exact ih X770 a3 (a4 + (nI 1))
def F_M_item (X : ab_XX) : Option (Unit × ab_XX) :=
  (F_M_here X).bind fun v745 =>
  if v745 = nI 119 then
    (some (ab_up X 13 6 ((X 13 6) + (nI 1)))).bind fun X773 =>
    if ab_in ((nI 6) * (X773 13 10)) 480 = true then
      (some (ab_up X773 16 (((nI 6) * (X773 13 10)).toNatClampNeg) (nI 0))).bind fun X774 =>
      L_M_item_87 ab_fu X774 (nI 5) (nI 0)
    else none
  else
    if v745 = nI 115 then
      (some (ab_up X 13 6 ((X 13 6) + (nI 1)))).bind fun X771 =>
      if ab_in ((nI 6) * (X771 13 10)) 480 = true then
        (some (ab_up X771 16 (((nI 6) * (X771 13 10)).toNatClampNeg) (nI 1))).bind fun X772 =>
        L_M_item_87 ab_fu X772 (nI 5) (nI 0)
      else none
    else
      if v745 = nI 98 then
        (some (ab_up X 13 6 ((X 13 6) + (nI 1)))).bind fun X747 =>
        if ab_in ((nI 6) * (X747 13 10)) 480 = true then
          (some (ab_up X747 16 (((nI 6) * (X747 13 10)).toNatClampNeg) (nI 2))).bind fun X748 =>
          L_M_item_87 ab_fu X748 (nI 3) (nI 0)
        else none
      else
        (some (ab_up X 13 7 (X 13 6))).bind fun X746 =>
        some ((), X746)
set_option maxRecDepth 4000 in
theorem T_M_item (S : Nat × (Nat → Int32)) (w : ab_WW) (X : ab_XX) : ab_Eg (ab_m3 ab_fU w) S 146 (0, lv_args 0 [.ref 13], [], (X, w)) (F_M_item X) := by
  show ab_Eg (ab_m3 ab_fU w) S 146 (0, [(0, .ref 13)], [], (X, w)) _
  unfold F_M_item
  refine ab_e_go 1 (1, [(0, .ref 13)], [.ref 13], (X, w)) rfl ?_
  refine ab_e_c1 (k2 := 38) (as := [.ref 13]) (rest := []) rfl rfl (T_M_here S w X) (fun v745 => ?_)
  refine ab_e_go 3 (8, [(1, .int v745), (0, .ref 13)], [.int (nI 119), .int v745], (X, w)) rfl ?_
  refine ab_e_bn (c := v745 = nI 119) (15, [(1, .int v745), (0, .ref 13)], [], (X, w)) (11, [(1, .int v745), (0, .ref 13)], [], (X, w)) rfl (fun _ => ?_) (fun _ => ?_)
  · refine ab_e_go 2 (18, [(1, .int v745), (0, .ref 13)], [.int (nI 115), .int v745], (X, w)) rfl ?_
    refine ab_e_bn (c := v745 = nI 115) (25, [(1, .int v745), (0, .ref 13)], [], (X, w)) (21, [(1, .int v745), (0, .ref 13)], [], (X, w)) rfl (fun _ => ?_) (fun _ => ?_)
    · refine ab_e_go 2 (28, [(1, .int v745), (0, .ref 13)], [.int (nI 98), .int v745], (X, w)) rfl ?_
      refine ab_e_bn (c := v745 = nI 98) (35, [(1, .int v745), (0, .ref 13)], [], (X, w)) (31, [(1, .int v745), (0, .ref 13)], [], (X, w)) rfl (fun _ => ?_) (fun _ => ?_)
      · refine ab_e_go 8 (49, [(2, .int (-1 : Int32)), (1, .int v745), (0, .ref 13)], [], ((ab_up X 13 7 (X 13 6)), w)) rfl ?_
        refine ab_e_letX (fun X746 _ => ?_)
        exact ab_e_rt rfl rfl
      · refine ab_e_go 11 (60, [(2, .int (nI 2)), (1, .int v745), (0, .ref 13)], [], ((ab_up X 13 6 ((X 13 6) + (nI 1))), w)) rfl ?_
        refine ab_e_letX (fun X747 _ => ?_)
        refine ab_e_go 7 (72, [(2, .int (nI 2)), (1, .int v745), (0, .ref 13)], [.int (nI 2), .int ((nI 6) * (X747 13 10)), .ref 16], (X747, w)) rfl ?_
        refine ab_e_gd (73, [(2, .int (nI 2)), (1, .int v745), (0, .ref 13)], [], ((ab_up X747 16 (((nI 6) * (X747 13 10)).toNatClampNeg) (nI 2)), w)) rfl ?_
        refine ab_e_letX (fun X748 _ => ?_)
        refine ab_e_go 8 (87, [(4, .int (nI 0)), (3, .int (nI 3)), (2, .int (nI 2)), (1, .int v745), (0, .ref 13)], [], (X748, w)) rfl ?_
        refine ab_e_wk [(0, .ref 13), (3, .int (nI 3)), (4, .int (nI 0))] ⟨rfl, rfl, rfl, trivial⟩ ?_
        exact T_L_M_item_87 S w ab_fu X748 (nI 3) (nI 0)
    · refine ab_e_go 11 (60, [(2, .int (nI 1)), (1, .int v745), (0, .ref 13)], [], ((ab_up X 13 6 ((X 13 6) + (nI 1))), w)) rfl ?_
      refine ab_e_letX (fun X771 _ => ?_)
      refine ab_e_go 7 (72, [(2, .int (nI 1)), (1, .int v745), (0, .ref 13)], [.int (nI 1), .int ((nI 6) * (X771 13 10)), .ref 16], (X771, w)) rfl ?_
      refine ab_e_gd (73, [(2, .int (nI 1)), (1, .int v745), (0, .ref 13)], [], ((ab_up X771 16 (((nI 6) * (X771 13 10)).toNatClampNeg) (nI 1)), w)) rfl ?_
      refine ab_e_letX (fun X772 _ => ?_)
      refine ab_e_go 7 (87, [(4, .int (nI 0)), (3, .int (nI 5)), (2, .int (nI 1)), (1, .int v745), (0, .ref 13)], [], (X772, w)) rfl ?_
      refine ab_e_wk [(0, .ref 13), (3, .int (nI 5)), (4, .int (nI 0))] ⟨rfl, rfl, rfl, trivial⟩ ?_
      exact T_L_M_item_87 S w ab_fu X772 (nI 5) (nI 0)
  · refine ab_e_go 11 (60, [(2, .int (nI 0)), (1, .int v745), (0, .ref 13)], [], ((ab_up X 13 6 ((X 13 6) + (nI 1))), w)) rfl ?_
    refine ab_e_letX (fun X773 _ => ?_)
    refine ab_e_go 7 (72, [(2, .int (nI 0)), (1, .int v745), (0, .ref 13)], [.int (nI 0), .int ((nI 6) * (X773 13 10)), .ref 16], (X773, w)) rfl ?_
    refine ab_e_gd (73, [(2, .int (nI 0)), (1, .int v745), (0, .ref 13)], [], ((ab_up X773 16 (((nI 6) * (X773 13 10)).toNatClampNeg) (nI 0)), w)) rfl ?_
    refine ab_e_letX (fun X774 _ => ?_)
    refine ab_e_go 7 (87, [(4, .int (nI 0)), (3, .int (nI 5)), (2, .int (nI 0)), (1, .int v745), (0, .ref 13)], [], (X774, w)) rfl ?_
    refine ab_e_wk [(0, .ref 13), (3, .int (nI 5)), (4, .int (nI 0))] ⟨rfl, rfl, rfl, trivial⟩ ?_
    exact T_L_M_item_87 S w ab_fu X774 (nI 5) (nI 0)
def F_M_isDone (X : ab_XX) (a1 : Int32) : Option (Int32 × ab_XX) :=
  if ab_in ((nI 6) * a1) 480 = true then
    (some (X 16 ((nI 6) * a1).toNatClampNeg)).bind fun v787 =>
    if v787 = nI 0 then
      if ab_in (((nI 6) * a1) + (nI 1)) 480 = true then
        (some (X 16 (((nI 6) * a1) + (nI 1)).toNatClampNeg)).bind fun v841 =>
        if ab_in (((nI 6) * a1) + (nI 2)) 480 = true then
          (some (X 16 (((nI 6) * a1) + (nI 2)).toNatClampNeg)).bind fun v842 =>
          if ab_in (((nI 6) * a1) + (nI 3)) 480 = true then
            (some (X 16 (((nI 6) * a1) + (nI 3)).toNatClampNeg)).bind fun v843 =>
            if ab_in (((nI 6) * a1) + (nI 4)) 480 = true then
              (some (X 16 (((nI 6) * a1) + (nI 4)).toNatClampNeg)).bind fun v844 =>
              if ab_in (((nI 6) * a1) + (nI 5)) 480 = true then
                (some (X 16 (((nI 6) * a1) + (nI 5)).toNatClampNeg)).bind fun v845 =>
                (F_M_workerThrown X v841 v842 v843 v844 v845).bind fun v846 =>
                if v846 = nI 0 then
                  if ab_in ((nI 6) * a1) 480 = true then
                    (some (X 16 ((nI 6) * a1).toNatClampNeg)).bind fun v847 =>
                    if v847 = nI 0 then
                      if ab_in (((nI 6) * a1) + (nI 1)) 480 = true then
                        (some (X 16 (((nI 6) * a1) + (nI 1)).toNatClampNeg)).bind fun v861 =>
                        if ab_in (((nI 6) * a1) + (nI 2)) 480 = true then
                          (some (X 16 (((nI 6) * a1) + (nI 2)).toNatClampNeg)).bind fun v862 =>
                          if ab_in (((nI 6) * a1) + (nI 3)) 480 = true then
                            (some (X 16 (((nI 6) * a1) + (nI 3)).toNatClampNeg)).bind fun v863 =>
                            if ab_in (((nI 6) * a1) + (nI 4)) 480 = true then
                              (some (X 16 (((nI 6) * a1) + (nI 4)).toNatClampNeg)).bind fun v864 =>
                              if ab_in (((nI 6) * a1) + (nI 5)) 480 = true then
                                (some (X 16 (((nI 6) * a1) + (nI 5)).toNatClampNeg)).bind fun v865 =>
                                ab_b3 (F_M_opensWorker X v861 v862 v863 v864 v865) (fun v866 X867 =>
                                  if v866 < nI 0 then
                                    some (nI 0, X867)
                                  else
                                    some (nI 1, X867))
                              else none
                            else none
                          else none
                        else none
                      else none
                    else
                      if ab_in ((nI 6) * a1) 480 = true then
                        (some (X 16 ((nI 6) * a1).toNatClampNeg)).bind fun v848 =>
                        if v848 = nI 1 then
                          if ab_in (((nI 6) * a1) + (nI 1)) 480 = true then
                            (some (X 16 (((nI 6) * a1) + (nI 1)).toNatClampNeg)).bind fun v854 =>
                            if ab_in (((nI 6) * a1) + (nI 2)) 480 = true then
                              (some (X 16 (((nI 6) * a1) + (nI 2)).toNatClampNeg)).bind fun v855 =>
                              if ab_in (((nI 6) * a1) + (nI 3)) 480 = true then
                                (some (X 16 (((nI 6) * a1) + (nI 3)).toNatClampNeg)).bind fun v856 =>
                                if ab_in (((nI 6) * a1) + (nI 4)) 480 = true then
                                  (some (X 16 (((nI 6) * a1) + (nI 4)).toNatClampNeg)).bind fun v857 =>
                                  if ab_in (((nI 6) * a1) + (nI 5)) 480 = true then
                                    (some (X 16 (((nI 6) * a1) + (nI 5)).toNatClampNeg)).bind fun v858 =>
                                    ab_b3 (F_M_opensShift X v854 v855 v856 v857 v858) (fun v859 X860 =>
                                      if v859 < nI 0 then
                                        some (nI 0, X860)
                                      else
                                        some (nI 1, X860))
                                  else none
                                else none
                              else none
                            else none
                          else none
                        else
                          if ab_in (((nI 6) * a1) + (nI 1)) 480 = true then
                            (some (X 16 (((nI 6) * a1) + (nI 1)).toNatClampNeg)).bind fun v849 =>
                            if ab_in (((nI 6) * a1) + (nI 2)) 480 = true then
                              (some (X 16 (((nI 6) * a1) + (nI 2)).toNatClampNeg)).bind fun v850 =>
                              if ab_in (((nI 6) * a1) + (nI 3)) 480 = true then
                                (some (X 16 (((nI 6) * a1) + (nI 3)).toNatClampNeg)).bind fun v851 =>
                                ab_b3 (F_M_laysBid X v849 v850 v851) (fun v852 X853 =>
                                  if v852 < nI 0 then
                                    some (nI 0, X853)
                                  else
                                    some (nI 1, X853))
                              else none
                            else none
                          else none
                      else none
                  else none
                else
                  some (nI 0, X)
              else none
            else none
          else none
        else none
      else none
    else
      if ab_in ((nI 6) * a1) 480 = true then
        (some (X 16 ((nI 6) * a1).toNatClampNeg)).bind fun v788 =>
        if v788 = nI 1 then
          if ab_in (((nI 6) * a1) + (nI 1)) 480 = true then
            (some (X 16 (((nI 6) * a1) + (nI 1)).toNatClampNeg)).bind fun v814 =>
            if ab_in (((nI 6) * a1) + (nI 2)) 480 = true then
              (some (X 16 (((nI 6) * a1) + (nI 2)).toNatClampNeg)).bind fun v815 =>
              if ab_in (((nI 6) * a1) + (nI 3)) 480 = true then
                (some (X 16 (((nI 6) * a1) + (nI 3)).toNatClampNeg)).bind fun v816 =>
                if ab_in (((nI 6) * a1) + (nI 4)) 480 = true then
                  (some (X 16 (((nI 6) * a1) + (nI 4)).toNatClampNeg)).bind fun v817 =>
                  if ab_in (((nI 6) * a1) + (nI 5)) 480 = true then
                    (some (X 16 (((nI 6) * a1) + (nI 5)).toNatClampNeg)).bind fun v818 =>
                    (F_M_shiftThrown X v814 v815 v816 v817 v818).bind fun v819 =>
                    if v819 = nI 0 then
                      if ab_in ((nI 6) * a1) 480 = true then
                        (some (X 16 ((nI 6) * a1).toNatClampNeg)).bind fun v820 =>
                        if v820 = nI 0 then
                          if ab_in (((nI 6) * a1) + (nI 1)) 480 = true then
                            (some (X 16 (((nI 6) * a1) + (nI 1)).toNatClampNeg)).bind fun v834 =>
                            if ab_in (((nI 6) * a1) + (nI 2)) 480 = true then
                              (some (X 16 (((nI 6) * a1) + (nI 2)).toNatClampNeg)).bind fun v835 =>
                              if ab_in (((nI 6) * a1) + (nI 3)) 480 = true then
                                (some (X 16 (((nI 6) * a1) + (nI 3)).toNatClampNeg)).bind fun v836 =>
                                if ab_in (((nI 6) * a1) + (nI 4)) 480 = true then
                                  (some (X 16 (((nI 6) * a1) + (nI 4)).toNatClampNeg)).bind fun v837 =>
                                  if ab_in (((nI 6) * a1) + (nI 5)) 480 = true then
                                    (some (X 16 (((nI 6) * a1) + (nI 5)).toNatClampNeg)).bind fun v838 =>
                                    ab_b3 (F_M_opensWorker X v834 v835 v836 v837 v838) (fun v839 X840 =>
                                      if v839 < nI 0 then
                                        some (nI 0, X840)
                                      else
                                        some (nI 1, X840))
                                  else none
                                else none
                              else none
                            else none
                          else none
                        else
                          if ab_in ((nI 6) * a1) 480 = true then
                            (some (X 16 ((nI 6) * a1).toNatClampNeg)).bind fun v821 =>
                            if v821 = nI 1 then
                              if ab_in (((nI 6) * a1) + (nI 1)) 480 = true then
                                (some (X 16 (((nI 6) * a1) + (nI 1)).toNatClampNeg)).bind fun v827 =>
                                if ab_in (((nI 6) * a1) + (nI 2)) 480 = true then
                                  (some (X 16 (((nI 6) * a1) + (nI 2)).toNatClampNeg)).bind fun v828 =>
                                  if ab_in (((nI 6) * a1) + (nI 3)) 480 = true then
                                    (some (X 16 (((nI 6) * a1) + (nI 3)).toNatClampNeg)).bind fun v829 =>
                                    if ab_in (((nI 6) * a1) + (nI 4)) 480 = true then
                                      (some (X 16 (((nI 6) * a1) + (nI 4)).toNatClampNeg)).bind fun v830 =>
                                      if ab_in (((nI 6) * a1) + (nI 5)) 480 = true then
                                        (some (X 16 (((nI 6) * a1) + (nI 5)).toNatClampNeg)).bind fun v831 =>
                                        ab_b3 (F_M_opensShift X v827 v828 v829 v830 v831) (fun v832 X833 =>
                                          if v832 < nI 0 then
                                            some (nI 0, X833)
                                          else
                                            some (nI 1, X833))
                                      else none
                                    else none
                                  else none
                                else none
                              else none
                            else
                              if ab_in (((nI 6) * a1) + (nI 1)) 480 = true then
                                (some (X 16 (((nI 6) * a1) + (nI 1)).toNatClampNeg)).bind fun v822 =>
                                if ab_in (((nI 6) * a1) + (nI 2)) 480 = true then
                                  (some (X 16 (((nI 6) * a1) + (nI 2)).toNatClampNeg)).bind fun v823 =>
                                  if ab_in (((nI 6) * a1) + (nI 3)) 480 = true then
                                    (some (X 16 (((nI 6) * a1) + (nI 3)).toNatClampNeg)).bind fun v824 =>
                                    ab_b3 (F_M_laysBid X v822 v823 v824) (fun v825 X826 =>
                                      if v825 < nI 0 then
                                        some (nI 0, X826)
                                      else
                                        some (nI 1, X826))
                                  else none
                                else none
                              else none
                          else none
                      else none
                    else
                      some (nI 0, X)
                  else none
                else none
              else none
            else none
          else none
        else
          if ab_in (((nI 6) * a1) + (nI 1)) 480 = true then
            (some (X 16 (((nI 6) * a1) + (nI 1)).toNatClampNeg)).bind fun v789 =>
            if ab_in (((nI 6) * a1) + (nI 2)) 480 = true then
              (some (X 16 (((nI 6) * a1) + (nI 2)).toNatClampNeg)).bind fun v790 =>
              if ab_in (((nI 6) * a1) + (nI 3)) 480 = true then
                (some (X 16 (((nI 6) * a1) + (nI 3)).toNatClampNeg)).bind fun v791 =>
                (F_M_bidThrown X v789 v790 v791).bind fun v792 =>
                if v792 = nI 0 then
                  if ab_in ((nI 6) * a1) 480 = true then
                    (some (X 16 ((nI 6) * a1).toNatClampNeg)).bind fun v793 =>
                    if v793 = nI 0 then
                      if ab_in (((nI 6) * a1) + (nI 1)) 480 = true then
                        (some (X 16 (((nI 6) * a1) + (nI 1)).toNatClampNeg)).bind fun v807 =>
                        if ab_in (((nI 6) * a1) + (nI 2)) 480 = true then
                          (some (X 16 (((nI 6) * a1) + (nI 2)).toNatClampNeg)).bind fun v808 =>
                          if ab_in (((nI 6) * a1) + (nI 3)) 480 = true then
                            (some (X 16 (((nI 6) * a1) + (nI 3)).toNatClampNeg)).bind fun v809 =>
                            if ab_in (((nI 6) * a1) + (nI 4)) 480 = true then
                              (some (X 16 (((nI 6) * a1) + (nI 4)).toNatClampNeg)).bind fun v810 =>
                              if ab_in (((nI 6) * a1) + (nI 5)) 480 = true then
                                (some (X 16 (((nI 6) * a1) + (nI 5)).toNatClampNeg)).bind fun v811 =>
                                ab_b3 (F_M_opensWorker X v807 v808 v809 v810 v811) (fun v812 X813 =>
                                  if v812 < nI 0 then
                                    some (nI 0, X813)
                                  else
                                    some (nI 1, X813))
                              else none
                            else none
                          else none
                        else none
                      else none
                    else
                      if ab_in ((nI 6) * a1) 480 = true then
                        (some (X 16 ((nI 6) * a1).toNatClampNeg)).bind fun v794 =>
                        if v794 = nI 1 then
                          if ab_in (((nI 6) * a1) + (nI 1)) 480 = true then
                            (some (X 16 (((nI 6) * a1) + (nI 1)).toNatClampNeg)).bind fun v800 =>
                            if ab_in (((nI 6) * a1) + (nI 2)) 480 = true then
                              (some (X 16 (((nI 6) * a1) + (nI 2)).toNatClampNeg)).bind fun v801 =>
                              if ab_in (((nI 6) * a1) + (nI 3)) 480 = true then
                                (some (X 16 (((nI 6) * a1) + (nI 3)).toNatClampNeg)).bind fun v802 =>
                                if ab_in (((nI 6) * a1) + (nI 4)) 480 = true then
                                  (some (X 16 (((nI 6) * a1) + (nI 4)).toNatClampNeg)).bind fun v803 =>
                                  if ab_in (((nI 6) * a1) + (nI 5)) 480 = true then
                                    (some (X 16 (((nI 6) * a1) + (nI 5)).toNatClampNeg)).bind fun v804 =>
                                    ab_b3 (F_M_opensShift X v800 v801 v802 v803 v804) (fun v805 X806 =>
                                      if v805 < nI 0 then
                                        some (nI 0, X806)
                                      else
                                        some (nI 1, X806))
                                  else none
                                else none
                              else none
                            else none
                          else none
                        else
                          if ab_in (((nI 6) * a1) + (nI 1)) 480 = true then
                            (some (X 16 (((nI 6) * a1) + (nI 1)).toNatClampNeg)).bind fun v795 =>
                            if ab_in (((nI 6) * a1) + (nI 2)) 480 = true then
                              (some (X 16 (((nI 6) * a1) + (nI 2)).toNatClampNeg)).bind fun v796 =>
                              if ab_in (((nI 6) * a1) + (nI 3)) 480 = true then
                                (some (X 16 (((nI 6) * a1) + (nI 3)).toNatClampNeg)).bind fun v797 =>
                                ab_b3 (F_M_laysBid X v795 v796 v797) (fun v798 X799 =>
                                  if v798 < nI 0 then
                                    some (nI 0, X799)
                                  else
                                    some (nI 1, X799))
                              else none
                            else none
                          else none
                      else none
                  else none
                else
                  some (nI 0, X)
              else none
            else none
          else none
      else none
  else none
