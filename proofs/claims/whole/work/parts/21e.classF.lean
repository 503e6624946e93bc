/-! ===== what the methods of the class compute, part 5 (by program: wip/whole/tools/dec.py) ===== -/
def L_C_makeRound_10 : Nat → ab_XX → Int32 → Int32 → Option (Int32 × ab_XX)
  | 0, _, _, _ => none
  | n + 1, X, a1, a2 =>
    (F_K_workerTotal X).bind fun v401 =>
    if v401 ≤ a2 then
      (F_K_awardTotal X).bind fun v402 =>
      some ((v402 - a1), X)
    else
      (F_K_workerAtRank X a2).bind fun v403 =>
      (F_U_choiceOf X v403).bind fun v404 =>
      if v404 = (-1 : Int32) then
        L_C_makeRound_10 n X a1 (a2 + (nI 1))
      else
        ab_b3 (F_K_enterAward X v403 v404) (fun _ X405 =>
          L_C_makeRound_10 n X405 a1 (a2 + (nI 1)))
set_option maxRecDepth 4000 in
theorem T_L_C_makeRound_10 (S : Nat × (Nat → Int32)) (w : ab_WW) : ∀ (n : Nat) (X : ab_XX) (a1 : Int32) (a2 : Int32), ab_Eg (ab_m3 ab_fI w) S 214 (10, [(0, .ref 0), (1, .int a1), (2, .int a2)], [], (X, w)) (L_C_makeRound_10 n X a1 a2) := by
  intro n
  induction n with
  | zero => intro X a1 a2; exact ab_e_none
  | succ n ih =>
    intro X a1 a2
    unfold L_C_makeRound_10
    refine ab_e_go 3 (15, [(0, .ref 0), (1, .int a1), (2, .int a2)], [.ref 2, .int a2], (X, w)) rfl ?_
    refine ab_e_c1 (k2 := 27) (as := [.ref 2]) (rest := [.int a2]) rfl rfl (T_K_workerTotal S w X) (fun v401 => ?_)
    refine ab_e_br (c := v401 ≤ a2) (62, [(0, .ref 0), (1, .int a1), (2, .int a2)], [], (X, w)) (21, [(0, .ref 0), (1, .int a1), (2, .int a2)], [], (X, w)) rfl (fun _ => ?_) (fun _ => ?_)
    · refine ab_e_go 2 (66, [(0, .ref 0), (1, .int a1), (2, .int a2)], [.ref 2], (X, w)) rfl ?_
      refine ab_e_c1 (k2 := 12) (as := [.ref 2]) (rest := []) rfl rfl (T_K_awardTotal S w X) (fun v402 => ?_)
      refine ab_e_go 2 (71, [(0, .ref 0), (1, .int a1), (2, .int a2)], [.int (v402 - a1)], (X, w)) rfl ?_
      exact ab_e_rt rfl rfl
    · refine ab_e_go 3 (26, [(0, .ref 0), (1, .int a1), (2, .int a2)], [.int a2, .ref 2], (X, w)) rfl ?_
      refine ab_e_c1 (k2 := 167) (as := [.ref 2, .int a2]) (rest := []) rfl rfl (T_K_workerAtRank S w X a2) (fun v403 => ?_)
      refine ab_e_go 4 (35, [(3, .int v403), (0, .ref 0), (1, .int a1), (2, .int a2)], [.int v403, .ref 1], (X, w)) rfl ?_
      refine ab_e_c1 (k2 := 193) (as := [.ref 1, .int v403]) (rest := []) rfl rfl (T_U_choiceOf S w X v403) (fun v404 => ?_)
      refine ab_e_go 3 (43, [(4, .int v404), (3, .int v403), (0, .ref 0), (1, .int a1), (2, .int a2)], [.int (-1 : Int32), .int v404], (X, w)) rfl ?_
      refine ab_e_br (c := v404 = (-1 : Int32)) (56, [(4, .int v404), (3, .int v403), (0, .ref 0), (1, .int a1), (2, .int a2)], [], (X, w)) (46, [(4, .int v404), (3, .int v403), (0, .ref 0), (1, .int a1), (2, .int a2)], [], (X, w)) rfl (fun _ => ?_) (fun _ => ?_)
      · refine ab_e_go 2 (10, [(2, .int (a2 + (nI 1))), (4, .int v404), (3, .int v403), (0, .ref 0), (1, .int a1)], [], (X, w)) rfl ?_
        refine ab_e_wk [(0, .ref 0), (1, .int a1), (2, .int (a2 + (nI 1)))] ⟨rfl, rfl, rfl, trivial⟩ ?_
        exact ih X a1 (a2 + (nI 1))
      · refine ab_e_go 4 (53, [(4, .int v404), (3, .int v403), (0, .ref 0), (1, .int a1), (2, .int a2)], [.int v404, .int v403, .ref 2], (X, w)) rfl ?_
        refine ab_e_c3 (k2 := 61) (as := [.ref 2, .int v403, .int v404]) (rest := []) rfl rfl (T_K_enterAward S w X v403 v404) (fun _ X405 => ?_)
        refine ab_e_go 2 (10, [(2, .int (a2 + (nI 1))), (4, .int v404), (3, .int v403), (0, .ref 0), (1, .int a1)], [], (X405, w)) rfl ?_
        refine ab_e_wk [(0, .ref 0), (1, .int a1), (2, .int (a2 + (nI 1)))] ⟨rfl, rfl, rfl, trivial⟩ ?_
        exact ih X405 a1 (a2 + (nI 1))
def F_C_makeRound (X : ab_XX) : Option (Int32 × ab_XX) :=
  (F_K_awardTotal X).bind fun v400 =>
  L_C_makeRound_10 ab_fu X v400 (nI 0)
set_option maxRecDepth 4000 in
theorem T_C_makeRound (S : Nat × (Nat → Int32)) (w : ab_WW) (X : ab_XX) : ab_Eg (ab_m3 ab_fI w) S 214 (0, lv_args 0 [.ref 0], [], (X, w)) (F_C_makeRound X) := by
  show ab_Eg (ab_m3 ab_fI w) S 214 (0, [(0, .ref 0)], [], (X, w)) _
  unfold F_C_makeRound
  refine ab_e_go 2 (4, [(0, .ref 0)], [.ref 2], (X, w)) rfl ?_
  refine ab_e_c1 (k2 := 12) (as := [.ref 2]) (rest := []) rfl rfl (T_K_awardTotal S w X) (fun v400 => ?_)
  refine ab_e_go 3 (10, [(2, .int (nI 0)), (1, .int v400), (0, .ref 0)], [], (X, w)) rfl ?_
  refine ab_e_wk [(0, .ref 0), (1, .int v400), (2, .int (nI 0))] ⟨rfl, rfl, rfl, trivial⟩ ?_
  exact T_L_C_makeRound_10 S w ab_fu X v400 (nI 0)
def F_C_round (X : ab_XX) : Option (Int32 × ab_XX) :=
  ab_b3 (F_H_remember_3 X) (fun _ X399 =>
    ab_b3 (F_C_makeRound X399) (fun v406 X407 =>
      some (v406, X407)))
set_option maxRecDepth 4000 in
theorem T_C_round (S : Nat × (Nat → Int32)) (w : ab_WW) (X : ab_XX) : ab_Eg (ab_m3 ab_fI w) S 224 (0, lv_args 0 [.ref 0], [], (X, w)) (F_C_round X) := by
  show ab_Eg (ab_m3 ab_fI w) S 224 (0, [(0, .ref 0)], [], (X, w)) _
  unfold F_C_round
  refine ab_e_go 5 (11, [(0, .ref 0)], [.ref 3, .ref 4], (X, w)) rfl ?_
  refine ab_e_c3 (k2 := 123) (as := [.ref 4, .ref 3]) (rest := []) rfl rfl (T_H_remember_3 S w X) (fun _ X399 => ?_)
  refine ab_e_go 1 (15, [(0, .ref 0)], [.ref 0], (X399, w)) rfl ?_
  refine ab_e_c3 (k2 := 214) (as := [.ref 0]) (rest := []) rfl rfl (T_C_makeRound S w X399) (fun v406 X407 => ?_)
  exact ab_e_rt rfl rfl
def L_C_runAll_24 : Nat → ab_XX → Int32 → Int32 → Option (Int32 × ab_XX)
  | 0, _, _, _ => none
  | n + 1, X, a1, a2 =>
    if nI 48 < a2 then
      (F_K_awardTotal X).bind fun v410 =>
      some ((v410 - a1), X)
    else
      ab_b3 (F_C_makeRound X) (fun v411 X412 =>
        if v411 = nI 0 then
          (F_K_awardTotal X412).bind fun v413 =>
          some ((v413 - a1), X412)
        else
          L_C_runAll_24 n X412 a1 (a2 + (nI 1)))
set_option maxRecDepth 4000 in
theorem T_L_C_runAll_24 (S : Nat × (Nat → Int32)) (w : ab_WW) : ∀ (n : Nat) (X : ab_XX) (a1 : Int32) (a2 : Int32), ab_Eg (ab_m3 ab_fI w) S 225 (24, [(0, .ref 0), (1, .int a1), (2, .int a2)], [], (X, w)) (L_C_runAll_24 n X a1 a2) := by
  intro n
  induction n with
  | zero => intro X a1 a2; exact ab_e_none
  | succ n ih =>
    intro X a1 a2
    unfold L_C_runAll_24
    refine ab_e_go 2 (27, [(0, .ref 0), (1, .int a1), (2, .int a2)], [.int (nI 48), .int a2], (X, w)) rfl ?_
    refine ab_e_br (c := nI 48 < a2) (46, [(0, .ref 0), (1, .int a1), (2, .int a2)], [], (X, w)) (30, [(0, .ref 0), (1, .int a1), (2, .int a2)], [], (X, w)) rfl (fun _ => ?_) (fun _ => ?_)
    · refine ab_e_go 2 (50, [(0, .ref 0), (1, .int a1), (2, .int a2)], [.ref 2], (X, w)) rfl ?_
      refine ab_e_c1 (k2 := 12) (as := [.ref 2]) (rest := []) rfl rfl (T_K_awardTotal S w X) (fun v410 => ?_)
      refine ab_e_go 2 (55, [(0, .ref 0), (1, .int a1), (2, .int a2)], [.int (v410 - a1)], (X, w)) rfl ?_
      exact ab_e_rt rfl rfl
    · refine ab_e_go 1 (31, [(0, .ref 0), (1, .int a1), (2, .int a2)], [.ref 0], (X, w)) rfl ?_
      refine ab_e_c3 (k2 := 214) (as := [.ref 0]) (rest := []) rfl rfl (T_C_makeRound S w X) (fun v411 X412 => ?_)
      refine ab_e_bn (c := v411 = nI 0) (40, [(0, .ref 0), (1, .int a1), (2, .int a2)], [], (X412, w)) (37, [(0, .ref 0), (1, .int a1), (2, .int a2)], [], (X412, w)) rfl (fun _ => ?_) (fun _ => ?_)
      · refine ab_e_go 2 (24, [(2, .int (a2 + (nI 1))), (0, .ref 0), (1, .int a1)], [], (X412, w)) rfl ?_
        refine ab_e_wk [(0, .ref 0), (1, .int a1), (2, .int (a2 + (nI 1)))] ⟨rfl, rfl, rfl, trivial⟩ ?_
        exact ih X412 a1 (a2 + (nI 1))
      · refine ab_e_go 3 (50, [(0, .ref 0), (1, .int a1), (2, .int a2)], [.ref 2], (X412, w)) rfl ?_
        refine ab_e_c1 (k2 := 12) (as := [.ref 2]) (rest := []) rfl rfl (T_K_awardTotal S w X412) (fun v413 => ?_)
        refine ab_e_go 2 (55, [(0, .ref 0), (1, .int a1), (2, .int a2)], [.int (v413 - a1)], (X412, w)) rfl ?_
        exact ab_e_rt rfl rfl
def F_C_runAll (X : ab_XX) : Option (Int32 × ab_XX) :=
  ab_b3 (F_H_remember_3 X) (fun _ X408 =>
    (F_K_awardTotal X408).bind fun v409 =>
    L_C_runAll_24 ab_fu X408 v409 (nI 0))
set_option maxRecDepth 4000 in
theorem T_C_runAll (S : Nat × (Nat → Int32)) (w : ab_WW) (X : ab_XX) : ab_Eg (ab_m3 ab_fI w) S 225 (0, lv_args 0 [.ref 0], [], (X, w)) (F_C_runAll X) := by
  show ab_Eg (ab_m3 ab_fI w) S 225 (0, [(0, .ref 0)], [], (X, w)) _
  unfold F_C_runAll
  refine ab_e_go 5 (11, [(0, .ref 0)], [.ref 3, .ref 4], (X, w)) rfl ?_
  refine ab_e_c3 (k2 := 123) (as := [.ref 4, .ref 3]) (rest := []) rfl rfl (T_H_remember_3 S w X) (fun _ X408 => ?_)
  refine ab_e_go 2 (18, [(0, .ref 0)], [.ref 2], (X408, w)) rfl ?_
  refine ab_e_c1 (k2 := 12) (as := [.ref 2]) (rest := []) rfl rfl (T_K_awardTotal S w X408) (fun v409 => ?_)
  refine ab_e_go 3 (24, [(2, .int (nI 0)), (1, .int v409), (0, .ref 0)], [], (X408, w)) rfl ?_
  refine ab_e_wk [(0, .ref 0), (1, .int v409), (2, .int (nI 0))] ⟨rfl, rfl, rfl, trivial⟩ ?_
  exact T_L_C_runAll_24 S w ab_fu X408 v409 (nI 0)
