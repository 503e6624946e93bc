/-! ===== the law's wrappers (by program: wip/whole/tools/law.py) ===== -/
set_option maxRecDepth 4000 in
theorem W_appendCharacter_ok (S : Nat × (Nat → Int32)) (w : ab_WW) (X X1 : ab_XX) (a1 : Int32) (v : Int32) (h : ab_Ec S 47 (0, lv_args 0 [.ref 0, .int a1], [], (X, w)) (.inl (some (.int v)), (X1, w)) 0) : ab_Ec S 135 (0, lv_args 0 [.ref 0, .int a1, .ref 17], [], (X, w)) (.inl (some (.int (nI 0))), (X1, (vp_updL w.1 0 v.toInt64, w.2))) 0 := by
  show ab_Ec S 135 (0, [(0, .ref 0), (1, .int a1), (2, .ref 17)], [], (X, w)) _ (0 + 0)
  refine ab_ec_go 4 (t := (4, [(0, .ref 0), (1, .int a1), (2, .ref 17)], [.int a1, .ref 0, .int (nI 0), .ref 17], (X, w))) rfl ?_
  refine ab_ec_ca (k2 := 47) (as := [.ref 0, .int a1]) (rest := [.int (nI 0), .ref 17]) rfl rfl h ?_
  refine ab_ec_go 4 (t := (19, [(0, .ref 0), (1, .int a1), (2, .ref 17)], [.int (nI 0)], (X1, (vp_updL w.1 0 v.toInt64, w.2)))) rfl ?_
  exact ab_ec_end rfl
set_option maxRecDepth 4000 in
theorem W_appendCharacter_x0 (S : Nat × (Nat → Int32)) (w : ab_WW) (X X1 : ab_XX) (a1 : Int32) (h : ab_Ec S 47 (0, lv_args 0 [.ref 0, .int a1], [], (X, w)) (.inr 0, (X1, w)) 1) : ab_Ec S 135 (0, lv_args 0 [.ref 0, .int a1, .ref 17], [], (X, w)) (.inl (some (.int (nI 1))), (X1, w)) 1 := by
  show ab_Ec S 135 (0, [(0, .ref 0), (1, .int a1), (2, .ref 17)], [], (X, w)) _ (1 + 0)
  refine ab_ec_go 4 (t := (4, [(0, .ref 0), (1, .int a1), (2, .ref 17)], [.int a1, .ref 0, .int (nI 0), .ref 17], (X, w))) rfl ?_
  refine ab_ec_cx (p2 := 13) (i := 3) (k2 := 47) (as := [.ref 0, .int a1]) (rest := [.int (nI 0), .ref 17]) rfl rfl h rfl rfl ?_
  refine ab_ec_go 1 (t := (14, [(0, .ref 0), (1, .int a1), (2, .ref 17)], [.int (nI 1)], (X1, w))) rfl ?_
  exact ab_ec_end rfl
set_option maxRecDepth 4000 in
theorem W_appendCharacter_x1 (S : Nat × (Nat → Int32)) (w : ab_WW) (X X1 : ab_XX) (a1 : Int32) (h : ab_Ec S 47 (0, lv_args 0 [.ref 0, .int a1], [], (X, w)) (.inr 1, (X1, w)) 1) : ab_Ec S 135 (0, lv_args 0 [.ref 0, .int a1, .ref 17], [], (X, w)) (.inl (some (.int (nI 2))), (X1, w)) 1 := by
  show ab_Ec S 135 (0, [(0, .ref 0), (1, .int a1), (2, .ref 17)], [], (X, w)) _ (1 + 0)
  refine ab_ec_go 4 (t := (4, [(0, .ref 0), (1, .int a1), (2, .ref 17)], [.int a1, .ref 0, .int (nI 0), .ref 17], (X, w))) rfl ?_
  refine ab_ec_cx (p2 := 16) (i := 3) (k2 := 47) (as := [.ref 0, .int a1]) (rest := [.int (nI 0), .ref 17]) rfl rfl h rfl rfl ?_
  refine ab_ec_go 1 (t := (17, [(0, .ref 0), (1, .int a1), (2, .ref 17)], [.int (nI 2)], (X1, w))) rfl ?_
  exact ab_ec_end rfl
set_option maxRecDepth 4000 in
theorem W_coveredShare_ok (S : Nat × (Nat → Int32)) (w : ab_WW) (X X1 : ab_XX) (v : UInt32) (hg : ab_n64 (FP.f2d v) = true) (h : ab_Ec S 49 (0, lv_args 0 [.ref 0], [], (X, w)) (.inl (some (.float v)), (X1, w)) 0) : ab_Ec S 136 (0, lv_args 0 [.ref 0, .ref 18], [], (X, w)) (.inl (some (.int (nI 0))), (X1, (w.1, vf_upd w.2 0 (FP.f2d v)))) 0 := by
  show ab_Ec S 136 (0, [(0, .ref 0), (1, .ref 18)], [], (X, w)) _ (0 + 0)
  refine ab_ec_go 3 (t := (3, [(0, .ref 0), (1, .ref 18)], [.ref 0, .int (nI 0), .ref 18], (X, w))) rfl ?_
  refine ab_ec_ca (k2 := 49) (as := [.ref 0]) (rest := [.int (nI 0), .ref 18]) rfl rfl h ?_
  refine ab_ec_gd (t := (7, [(0, .ref 0), (1, .ref 18)], [.double (FP.f2d v), .int (nI 0), .ref 18], (X1, w))) hg rfl ?_
  refine ab_ec_go 3 (t := (15, [(0, .ref 0), (1, .ref 18)], [.int (nI 0)], (X1, (w.1, vf_upd w.2 0 (FP.f2d v))))) rfl ?_
  exact ab_ec_end rfl
set_option maxRecDepth 4000 in
theorem W_coveredShare_x5 (S : Nat × (Nat → Int32)) (w : ab_WW) (X X1 : ab_XX) (h : ab_Ec S 49 (0, lv_args 0 [.ref 0], [], (X, w)) (.inr 5, (X1, w)) 1) : ab_Ec S 136 (0, lv_args 0 [.ref 0, .ref 18], [], (X, w)) (.inl (some (.int (nI 1))), (X1, w)) 1 := by
  show ab_Ec S 136 (0, [(0, .ref 0), (1, .ref 18)], [], (X, w)) _ (1 + 0)
  refine ab_ec_go 3 (t := (3, [(0, .ref 0), (1, .ref 18)], [.ref 0, .int (nI 0), .ref 18], (X, w))) rfl ?_
  refine ab_ec_cx (p2 := 12) (i := 2) (k2 := 49) (as := [.ref 0]) (rest := [.int (nI 0), .ref 18]) rfl rfl h rfl rfl ?_
  refine ab_ec_go 1 (t := (13, [(0, .ref 0), (1, .ref 18)], [.int (nI 1)], (X1, w))) rfl ?_
  exact ab_ec_end rfl
set_option maxRecDepth 4000 in
theorem W_averageHours_ok (S : Nat × (Nat → Int32)) (w : ab_WW) (X X1 : ab_XX) (v : UInt64) (h : ab_Ec S 113 (0, lv_args 0 [.ref 0], [], (X, w)) (.inl (some (.double v)), (X1, w)) 0) : ab_Ec S 171 (0, lv_args 0 [.ref 0, .ref 18], [], (X, w)) (.inl (some (.int (nI 0))), (X1, (w.1, vf_upd w.2 0 v))) 0 := by
  show ab_Ec S 171 (0, [(0, .ref 0), (1, .ref 18)], [], (X, w)) _ (0 + 0)
  refine ab_ec_go 3 (t := (3, [(0, .ref 0), (1, .ref 18)], [.ref 0, .int (nI 0), .ref 18], (X, w))) rfl ?_
  refine ab_ec_ca (k2 := 113) (as := [.ref 0]) (rest := [.int (nI 0), .ref 18]) rfl rfl h ?_
  refine ab_ec_go 3 (t := (14, [(0, .ref 0), (1, .ref 18)], [.int (nI 0)], (X1, (w.1, vf_upd w.2 0 v)))) rfl ?_
  exact ab_ec_end rfl
set_option maxRecDepth 4000 in
theorem W_averageHours_x5 (S : Nat × (Nat → Int32)) (w : ab_WW) (X X1 : ab_XX) (h : ab_Ec S 113 (0, lv_args 0 [.ref 0], [], (X, w)) (.inr 5, (X1, w)) 1) : ab_Ec S 171 (0, lv_args 0 [.ref 0, .ref 18], [], (X, w)) (.inl (some (.int (nI 1))), (X1, w)) 1 := by
  show ab_Ec S 171 (0, [(0, .ref 0), (1, .ref 18)], [], (X, w)) _ (1 + 0)
  refine ab_ec_go 3 (t := (3, [(0, .ref 0), (1, .ref 18)], [.ref 0, .int (nI 0), .ref 18], (X, w))) rfl ?_
  refine ab_ec_cx (p2 := 11) (i := 2) (k2 := 113) (as := [.ref 0]) (rest := [.int (nI 0), .ref 18]) rfl rfl h rfl rfl ?_
  refine ab_ec_go 1 (t := (12, [(0, .ref 0), (1, .ref 18)], [.int (nI 1)], (X1, w))) rfl ?_
  exact ab_ec_end rfl
set_option maxRecDepth 4000 in
theorem W_awardAt_ok (S : Nat × (Nat → Int32)) (w : ab_WW) (X X1 : ab_XX) (a1 : Int32) (a2 : Int32) (v : Int32) (h : ab_Ec S 114 (0, lv_args 0 [.ref 0, .int a1, .int a2], [], (X, w)) (.inl (some (.int v)), (X1, w)) 0) : ab_Ec S 172 (0, lv_args 0 [.ref 0, .int a1, .int a2, .ref 17], [], (X, w)) (.inl (some (.int (nI 0))), (X1, (vp_updL w.1 0 v.toInt64, w.2))) 0 := by
  show ab_Ec S 172 (0, [(0, .ref 0), (1, .int a1), (2, .int a2), (3, .ref 17)], [], (X, w)) _ (0 + 0)
  refine ab_ec_go 5 (t := (5, [(0, .ref 0), (1, .int a1), (2, .int a2), (3, .ref 17)], [.int a2, .int a1, .ref 0, .int (nI 0), .ref 17], (X, w))) rfl ?_
  refine ab_ec_ca (k2 := 114) (as := [.ref 0, .int a1, .int a2]) (rest := [.int (nI 0), .ref 17]) rfl rfl h ?_
  refine ab_ec_go 4 (t := (22, [(0, .ref 0), (1, .int a1), (2, .int a2), (3, .ref 17)], [.int (nI 0)], (X1, (vp_updL w.1 0 v.toInt64, w.2)))) rfl ?_
  exact ab_ec_end rfl
set_option maxRecDepth 4000 in
theorem W_awardAt_x2 (S : Nat × (Nat → Int32)) (w : ab_WW) (X X1 : ab_XX) (a1 : Int32) (a2 : Int32) (h : ab_Ec S 114 (0, lv_args 0 [.ref 0, .int a1, .int a2], [], (X, w)) (.inr 2, (X1, w)) 1) : ab_Ec S 172 (0, lv_args 0 [.ref 0, .int a1, .int a2, .ref 17], [], (X, w)) (.inl (some (.int (nI 1))), (X1, w)) 1 := by
  show ab_Ec S 172 (0, [(0, .ref 0), (1, .int a1), (2, .int a2), (3, .ref 17)], [], (X, w)) _ (1 + 0)
  refine ab_ec_go 5 (t := (5, [(0, .ref 0), (1, .int a1), (2, .int a2), (3, .ref 17)], [.int a2, .int a1, .ref 0, .int (nI 0), .ref 17], (X, w))) rfl ?_
  refine ab_ec_cx (p2 := 15) (i := 4) (k2 := 114) (as := [.ref 0, .int a1, .int a2]) (rest := [.int (nI 0), .ref 17]) rfl rfl h rfl rfl ?_
  refine ab_ec_go 1 (t := (16, [(0, .ref 0), (1, .int a1), (2, .int a2), (3, .ref 17)], [.int (nI 1)], (X1, w))) rfl ?_
  exact ab_ec_end rfl
set_option maxRecDepth 4000 in
theorem W_awardAt_x0 (S : Nat × (Nat → Int32)) (w : ab_WW) (X X1 : ab_XX) (a1 : Int32) (a2 : Int32) (h : ab_Ec S 114 (0, lv_args 0 [.ref 0, .int a1, .int a2], [], (X, w)) (.inr 0, (X1, w)) 1) : ab_Ec S 172 (0, lv_args 0 [.ref 0, .int a1, .int a2, .ref 17], [], (X, w)) (.inl (some (.int (nI 2))), (X1, w)) 1 := by
  show ab_Ec S 172 (0, [(0, .ref 0), (1, .int a1), (2, .int a2), (3, .ref 17)], [], (X, w)) _ (1 + 0)
  refine ab_ec_go 5 (t := (5, [(0, .ref 0), (1, .int a1), (2, .int a2), (3, .ref 17)], [.int a2, .int a1, .ref 0, .int (nI 0), .ref 17], (X, w))) rfl ?_
  refine ab_ec_cx (p2 := 19) (i := 4) (k2 := 114) (as := [.ref 0, .int a1, .int a2]) (rest := [.int (nI 0), .ref 17]) rfl rfl h rfl rfl ?_
  refine ab_ec_go 1 (t := (20, [(0, .ref 0), (1, .int a1), (2, .int a2), (3, .ref 17)], [.int (nI 2)], (X1, w))) rfl ?_
  exact ab_ec_end rfl
set_option maxRecDepth 4000 in
theorem W_held_ok (S : Nat × (Nat → Int32)) (w : ab_WW) (X X1 : ab_XX) (a1 : Int32) (v : Int32) (h : ab_Ec S 115 (0, lv_args 0 [.ref 0, .int a1], [], (X, w)) (.inl (some (.int v)), (X1, w)) 0) : ab_Ec S 173 (0, lv_args 0 [.ref 0, .int a1, .ref 17], [], (X, w)) (.inl (some (.int (nI 0))), (X1, (vp_updL w.1 0 v.toInt64, w.2))) 0 := by
  show ab_Ec S 173 (0, [(0, .ref 0), (1, .int a1), (2, .ref 17)], [], (X, w)) _ (0 + 0)
  refine ab_ec_go 4 (t := (4, [(0, .ref 0), (1, .int a1), (2, .ref 17)], [.int a1, .ref 0, .int (nI 0), .ref 17], (X, w))) rfl ?_
  refine ab_ec_ca (k2 := 115) (as := [.ref 0, .int a1]) (rest := [.int (nI 0), .ref 17]) rfl rfl h ?_
  refine ab_ec_go 4 (t := (16, [(0, .ref 0), (1, .int a1), (2, .ref 17)], [.int (nI 0)], (X1, (vp_updL w.1 0 v.toInt64, w.2)))) rfl ?_
  exact ab_ec_end rfl
set_option maxRecDepth 4000 in
theorem W_held_x2 (S : Nat × (Nat → Int32)) (w : ab_WW) (X X1 : ab_XX) (a1 : Int32) (h : ab_Ec S 115 (0, lv_args 0 [.ref 0, .int a1], [], (X, w)) (.inr 2, (X1, w)) 1) : ab_Ec S 173 (0, lv_args 0 [.ref 0, .int a1, .ref 17], [], (X, w)) (.inl (some (.int (nI 1))), (X1, w)) 1 := by
  show ab_Ec S 173 (0, [(0, .ref 0), (1, .int a1), (2, .ref 17)], [], (X, w)) _ (1 + 0)
  refine ab_ec_go 4 (t := (4, [(0, .ref 0), (1, .int a1), (2, .ref 17)], [.int a1, .ref 0, .int (nI 0), .ref 17], (X, w))) rfl ?_
  refine ab_ec_cx (p2 := 13) (i := 3) (k2 := 115) (as := [.ref 0, .int a1]) (rest := [.int (nI 0), .ref 17]) rfl rfl h rfl rfl ?_
  refine ab_ec_go 1 (t := (14, [(0, .ref 0), (1, .int a1), (2, .ref 17)], [.int (nI 1)], (X1, w))) rfl ?_
  exact ab_ec_end rfl
set_option maxRecDepth 4000 in
theorem W_holders_ok (S : Nat × (Nat → Int32)) (w : ab_WW) (X X1 : ab_XX) (a1 : Int32) (v : Int32) (h : ab_Ec S 116 (0, lv_args 0 [.ref 0, .int a1], [], (X, w)) (.inl (some (.int v)), (X1, w)) 0) : ab_Ec S 174 (0, lv_args 0 [.ref 0, .int a1, .ref 17], [], (X, w)) (.inl (some (.int (nI 0))), (X1, (vp_updL w.1 0 v.toInt64, w.2))) 0 := by
  show ab_Ec S 174 (0, [(0, .ref 0), (1, .int a1), (2, .ref 17)], [], (X, w)) _ (0 + 0)
  refine ab_ec_go 4 (t := (4, [(0, .ref 0), (1, .int a1), (2, .ref 17)], [.int a1, .ref 0, .int (nI 0), .ref 17], (X, w))) rfl ?_
  refine ab_ec_ca (k2 := 116) (as := [.ref 0, .int a1]) (rest := [.int (nI 0), .ref 17]) rfl rfl h ?_
  refine ab_ec_go 4 (t := (16, [(0, .ref 0), (1, .int a1), (2, .ref 17)], [.int (nI 0)], (X1, (vp_updL w.1 0 v.toInt64, w.2)))) rfl ?_
  exact ab_ec_end rfl
set_option maxRecDepth 4000 in
theorem W_holders_x2 (S : Nat × (Nat → Int32)) (w : ab_WW) (X X1 : ab_XX) (a1 : Int32) (h : ab_Ec S 116 (0, lv_args 0 [.ref 0, .int a1], [], (X, w)) (.inr 2, (X1, w)) 1) : ab_Ec S 174 (0, lv_args 0 [.ref 0, .int a1, .ref 17], [], (X, w)) (.inl (some (.int (nI 1))), (X1, w)) 1 := by
  show ab_Ec S 174 (0, [(0, .ref 0), (1, .int a1), (2, .ref 17)], [], (X, w)) _ (1 + 0)
  refine ab_ec_go 4 (t := (4, [(0, .ref 0), (1, .int a1), (2, .ref 17)], [.int a1, .ref 0, .int (nI 0), .ref 17], (X, w))) rfl ?_
  refine ab_ec_cx (p2 := 13) (i := 3) (k2 := 116) (as := [.ref 0, .int a1]) (rest := [.int (nI 0), .ref 17]) rfl rfl h rfl rfl ?_
  refine ab_ec_go 1 (t := (14, [(0, .ref 0), (1, .int a1), (2, .ref 17)], [.int (nI 1)], (X1, w))) rfl ?_
  exact ab_ec_end rfl
set_option maxRecDepth 4000 in
theorem W_hours_ok (S : Nat × (Nat → Int32)) (w : ab_WW) (X X1 : ab_XX) (a1 : Int32) (a2 : Int32) (v : Int32) (h : ab_Ec S 117 (0, lv_args 0 [.ref 0, .int a1, .int a2], [], (X, w)) (.inl (some (.int v)), (X1, w)) 0) : ab_Ec S 175 (0, lv_args 0 [.ref 0, .int a1, .int a2, .ref 17], [], (X, w)) (.inl (some (.int (nI 0))), (X1, (vp_updL w.1 0 v.toInt64, w.2))) 0 := by
  show ab_Ec S 175 (0, [(0, .ref 0), (1, .int a1), (2, .int a2), (3, .ref 17)], [], (X, w)) _ (0 + 0)
  refine ab_ec_go 5 (t := (5, [(0, .ref 0), (1, .int a1), (2, .int a2), (3, .ref 17)], [.int a2, .int a1, .ref 0, .int (nI 0), .ref 17], (X, w))) rfl ?_
  refine ab_ec_ca (k2 := 117) (as := [.ref 0, .int a1, .int a2]) (rest := [.int (nI 0), .ref 17]) rfl rfl h ?_
  refine ab_ec_go 4 (t := (22, [(0, .ref 0), (1, .int a1), (2, .int a2), (3, .ref 17)], [.int (nI 0)], (X1, (vp_updL w.1 0 v.toInt64, w.2)))) rfl ?_
  exact ab_ec_end rfl
set_option maxRecDepth 4000 in
theorem W_hours_x2 (S : Nat × (Nat → Int32)) (w : ab_WW) (X X1 : ab_XX) (a1 : Int32) (a2 : Int32) (h : ab_Ec S 117 (0, lv_args 0 [.ref 0, .int a1, .int a2], [], (X, w)) (.inr 2, (X1, w)) 1) : ab_Ec S 175 (0, lv_args 0 [.ref 0, .int a1, .int a2, .ref 17], [], (X, w)) (.inl (some (.int (nI 1))), (X1, w)) 1 := by
  show ab_Ec S 175 (0, [(0, .ref 0), (1, .int a1), (2, .int a2), (3, .ref 17)], [], (X, w)) _ (1 + 0)
  refine ab_ec_go 5 (t := (5, [(0, .ref 0), (1, .int a1), (2, .int a2), (3, .ref 17)], [.int a2, .int a1, .ref 0, .int (nI 0), .ref 17], (X, w))) rfl ?_
  refine ab_ec_cx (p2 := 15) (i := 4) (k2 := 117) (as := [.ref 0, .int a1, .int a2]) (rest := [.int (nI 0), .ref 17]) rfl rfl h rfl rfl ?_
  refine ab_ec_go 1 (t := (16, [(0, .ref 0), (1, .int a1), (2, .int a2), (3, .ref 17)], [.int (nI 1)], (X1, w))) rfl ?_
  exact ab_ec_end rfl
set_option maxRecDepth 4000 in
theorem W_hours_x0 (S : Nat × (Nat → Int32)) (w : ab_WW) (X X1 : ab_XX) (a1 : Int32) (a2 : Int32) (h : ab_Ec S 117 (0, lv_args 0 [.ref 0, .int a1, .int a2], [], (X, w)) (.inr 0, (X1, w)) 1) : ab_Ec S 175 (0, lv_args 0 [.ref 0, .int a1, .int a2, .ref 17], [], (X, w)) (.inl (some (.int (nI 2))), (X1, w)) 1 := by
  show ab_Ec S 175 (0, [(0, .ref 0), (1, .int a1), (2, .int a2), (3, .ref 17)], [], (X, w)) _ (1 + 0)
  refine ab_ec_go 5 (t := (5, [(0, .ref 0), (1, .int a1), (2, .int a2), (3, .ref 17)], [.int a2, .int a1, .ref 0, .int (nI 0), .ref 17], (X, w))) rfl ?_
  refine ab_ec_cx (p2 := 19) (i := 4) (k2 := 117) (as := [.ref 0, .int a1, .int a2]) (rest := [.int (nI 0), .ref 17]) rfl rfl h rfl rfl ?_
  refine ab_ec_go 1 (t := (20, [(0, .ref 0), (1, .int a1), (2, .int a2), (3, .ref 17)], [.int (nI 2)], (X1, w))) rfl ?_
  exact ab_ec_end rfl
set_option maxRecDepth 4000 in
theorem W_points_ok (S : Nat × (Nat → Int32)) (w : ab_WW) (X X1 : ab_XX) (a1 : Int32) (v : Int32) (h : ab_Ec S 118 (0, lv_args 0 [.ref 0, .int a1], [], (X, w)) (.inl (some (.int v)), (X1, w)) 0) : ab_Ec S 176 (0, lv_args 0 [.ref 0, .int a1, .ref 17], [], (X, w)) (.inl (some (.int (nI 0))), (X1, (vp_updL w.1 0 v.toInt64, w.2))) 0 := by
  show ab_Ec S 176 (0, [(0, .ref 0), (1, .int a1), (2, .ref 17)], [], (X, w)) _ (0 + 0)
  refine ab_ec_go 4 (t := (4, [(0, .ref 0), (1, .int a1), (2, .ref 17)], [.int a1, .ref 0, .int (nI 0), .ref 17], (X, w))) rfl ?_
  refine ab_ec_ca (k2 := 118) (as := [.ref 0, .int a1]) (rest := [.int (nI 0), .ref 17]) rfl rfl h ?_
  refine ab_ec_go 4 (t := (16, [(0, .ref 0), (1, .int a1), (2, .ref 17)], [.int (nI 0)], (X1, (vp_updL w.1 0 v.toInt64, w.2)))) rfl ?_
  exact ab_ec_end rfl
set_option maxRecDepth 4000 in
theorem W_points_x2 (S : Nat × (Nat → Int32)) (w : ab_WW) (X X1 : ab_XX) (a1 : Int32) (h : ab_Ec S 118 (0, lv_args 0 [.ref 0, .int a1], [], (X, w)) (.inr 2, (X1, w)) 1) : ab_Ec S 176 (0, lv_args 0 [.ref 0, .int a1, .ref 17], [], (X, w)) (.inl (some (.int (nI 1))), (X1, w)) 1 := by
  show ab_Ec S 176 (0, [(0, .ref 0), (1, .int a1), (2, .ref 17)], [], (X, w)) _ (1 + 0)
  refine ab_ec_go 4 (t := (4, [(0, .ref 0), (1, .int a1), (2, .ref 17)], [.int a1, .ref 0, .int (nI 0), .ref 17], (X, w))) rfl ?_
  refine ab_ec_cx (p2 := 13) (i := 3) (k2 := 118) (as := [.ref 0, .int a1]) (rest := [.int (nI 0), .ref 17]) rfl rfl h rfl rfl ?_
  refine ab_ec_go 1 (t := (14, [(0, .ref 0), (1, .int a1), (2, .ref 17)], [.int (nI 1)], (X1, w))) rfl ?_
  exact ab_ec_end rfl
set_option maxRecDepth 4000 in
theorem W_reason_ok (S : Nat × (Nat → Int32)) (w : ab_WW) (X X1 : ab_XX) (a1 : Int32) (v : Int32) (h : ab_Ec S 119 (0, lv_args 0 [.ref 0, .int a1], [], (X, w)) (.inl (some (.int v)), (X1, w)) 0) : ab_Ec S 177 (0, lv_args 0 [.ref 0, .int a1, .ref 17], [], (X, w)) (.inl (some (.int (nI 0))), (X1, (vp_updL w.1 0 v.toInt64, w.2))) 0 := by
  show ab_Ec S 177 (0, [(0, .ref 0), (1, .int a1), (2, .ref 17)], [], (X, w)) _ (0 + 0)
  refine ab_ec_go 4 (t := (4, [(0, .ref 0), (1, .int a1), (2, .ref 17)], [.int a1, .ref 0, .int (nI 0), .ref 17], (X, w))) rfl ?_
  refine ab_ec_ca (k2 := 119) (as := [.ref 0, .int a1]) (rest := [.int (nI 0), .ref 17]) rfl rfl h ?_
  refine ab_ec_go 4 (t := (16, [(0, .ref 0), (1, .int a1), (2, .ref 17)], [.int (nI 0)], (X1, (vp_updL w.1 0 v.toInt64, w.2)))) rfl ?_
  exact ab_ec_end rfl
set_option maxRecDepth 4000 in
theorem W_reason_x0 (S : Nat × (Nat → Int32)) (w : ab_WW) (X X1 : ab_XX) (a1 : Int32) (h : ab_Ec S 119 (0, lv_args 0 [.ref 0, .int a1], [], (X, w)) (.inr 0, (X1, w)) 1) : ab_Ec S 177 (0, lv_args 0 [.ref 0, .int a1, .ref 17], [], (X, w)) (.inl (some (.int (nI 1))), (X1, w)) 1 := by
  show ab_Ec S 177 (0, [(0, .ref 0), (1, .int a1), (2, .ref 17)], [], (X, w)) _ (1 + 0)
  refine ab_ec_go 4 (t := (4, [(0, .ref 0), (1, .int a1), (2, .ref 17)], [.int a1, .ref 0, .int (nI 0), .ref 17], (X, w))) rfl ?_
  refine ab_ec_cx (p2 := 13) (i := 3) (k2 := 119) (as := [.ref 0, .int a1]) (rest := [.int (nI 0), .ref 17]) rfl rfl h rfl rfl ?_
  refine ab_ec_go 1 (t := (14, [(0, .ref 0), (1, .int a1), (2, .ref 17)], [.int (nI 1)], (X1, w))) rfl ?_
  exact ab_ec_end rfl
set_option maxRecDepth 4000 in
theorem W_shortestRest_ok (S : Nat × (Nat → Int32)) (w : ab_WW) (X X1 : ab_XX) (a1 : Int32) (v : Int32) (h : ab_Ec S 121 (0, lv_args 0 [.ref 0, .int a1], [], (X, w)) (.inl (some (.int v)), (X1, w)) 0) : ab_Ec S 178 (0, lv_args 0 [.ref 0, .int a1, .ref 17], [], (X, w)) (.inl (some (.int (nI 0))), (X1, (vp_updL w.1 0 v.toInt64, w.2))) 0 := by
  show ab_Ec S 178 (0, [(0, .ref 0), (1, .int a1), (2, .ref 17)], [], (X, w)) _ (0 + 0)
  refine ab_ec_go 4 (t := (4, [(0, .ref 0), (1, .int a1), (2, .ref 17)], [.int a1, .ref 0, .int (nI 0), .ref 17], (X, w))) rfl ?_
  refine ab_ec_ca (k2 := 121) (as := [.ref 0, .int a1]) (rest := [.int (nI 0), .ref 17]) rfl rfl h ?_
  refine ab_ec_go 4 (t := (19, [(0, .ref 0), (1, .int a1), (2, .ref 17)], [.int (nI 0)], (X1, (vp_updL w.1 0 v.toInt64, w.2)))) rfl ?_
  exact ab_ec_end rfl
set_option maxRecDepth 4000 in
theorem W_shortestRest_x2 (S : Nat × (Nat → Int32)) (w : ab_WW) (X X1 : ab_XX) (a1 : Int32) (h : ab_Ec S 121 (0, lv_args 0 [.ref 0, .int a1], [], (X, w)) (.inr 2, (X1, w)) 1) : ab_Ec S 178 (0, lv_args 0 [.ref 0, .int a1, .ref 17], [], (X, w)) (.inl (some (.int (nI 1))), (X1, w)) 1 := by
  show ab_Ec S 178 (0, [(0, .ref 0), (1, .int a1), (2, .ref 17)], [], (X, w)) _ (1 + 0)
  refine ab_ec_go 4 (t := (4, [(0, .ref 0), (1, .int a1), (2, .ref 17)], [.int a1, .ref 0, .int (nI 0), .ref 17], (X, w))) rfl ?_
  refine ab_ec_cx (p2 := 13) (i := 3) (k2 := 121) (as := [.ref 0, .int a1]) (rest := [.int (nI 0), .ref 17]) rfl rfl h rfl rfl ?_
  refine ab_ec_go 1 (t := (14, [(0, .ref 0), (1, .int a1), (2, .ref 17)], [.int (nI 1)], (X1, w))) rfl ?_
  exact ab_ec_end rfl
set_option maxRecDepth 4000 in
theorem W_shortestRest_x4 (S : Nat × (Nat → Int32)) (w : ab_WW) (X X1 : ab_XX) (a1 : Int32) (h : ab_Ec S 121 (0, lv_args 0 [.ref 0, .int a1], [], (X, w)) (.inr 4, (X1, w)) 1) : ab_Ec S 178 (0, lv_args 0 [.ref 0, .int a1, .ref 17], [], (X, w)) (.inl (some (.int (nI 2))), (X1, w)) 1 := by
  show ab_Ec S 178 (0, [(0, .ref 0), (1, .int a1), (2, .ref 17)], [], (X, w)) _ (1 + 0)
  refine ab_ec_go 4 (t := (4, [(0, .ref 0), (1, .int a1), (2, .ref 17)], [.int a1, .ref 0, .int (nI 0), .ref 17], (X, w))) rfl ?_
  refine ab_ec_cx (p2 := 16) (i := 3) (k2 := 121) (as := [.ref 0, .int a1]) (rest := [.int (nI 0), .ref 17]) rfl rfl h rfl rfl ?_
  refine ab_ec_go 1 (t := (17, [(0, .ref 0), (1, .int a1), (2, .ref 17)], [.int (nI 2)], (X1, w))) rfl ?_
  exact ab_ec_end rfl
set_option maxRecDepth 4000 in
theorem W_worker_ok (S : Nat × (Nat → Int32)) (w : ab_WW) (X X1 : ab_XX) (a1 : Int32) (a2 : Int32) (v : Int32) (h : ab_Ec S 122 (0, lv_args 0 [.ref 0, .int a1, .int a2], [], (X, w)) (.inl (some (.int v)), (X1, w)) 0) : ab_Ec S 179 (0, lv_args 0 [.ref 0, .int a1, .int a2, .ref 17], [], (X, w)) (.inl (some (.int (nI 0))), (X1, (vp_updL w.1 0 v.toInt64, w.2))) 0 := by
  show ab_Ec S 179 (0, [(0, .ref 0), (1, .int a1), (2, .int a2), (3, .ref 17)], [], (X, w)) _ (0 + 0)
  refine ab_ec_go 5 (t := (5, [(0, .ref 0), (1, .int a1), (2, .int a2), (3, .ref 17)], [.int a2, .int a1, .ref 0, .int (nI 0), .ref 17], (X, w))) rfl ?_
  refine ab_ec_ca (k2 := 122) (as := [.ref 0, .int a1, .int a2]) (rest := [.int (nI 0), .ref 17]) rfl rfl h ?_
  refine ab_ec_go 4 (t := (22, [(0, .ref 0), (1, .int a1), (2, .int a2), (3, .ref 17)], [.int (nI 0)], (X1, (vp_updL w.1 0 v.toInt64, w.2)))) rfl ?_
  exact ab_ec_end rfl
set_option maxRecDepth 4000 in
theorem W_worker_x2 (S : Nat × (Nat → Int32)) (w : ab_WW) (X X1 : ab_XX) (a1 : Int32) (a2 : Int32) (h : ab_Ec S 122 (0, lv_args 0 [.ref 0, .int a1, .int a2], [], (X, w)) (.inr 2, (X1, w)) 1) : ab_Ec S 179 (0, lv_args 0 [.ref 0, .int a1, .int a2, .ref 17], [], (X, w)) (.inl (some (.int (nI 1))), (X1, w)) 1 := by
  show ab_Ec S 179 (0, [(0, .ref 0), (1, .int a1), (2, .int a2), (3, .ref 17)], [], (X, w)) _ (1 + 0)
  refine ab_ec_go 5 (t := (5, [(0, .ref 0), (1, .int a1), (2, .int a2), (3, .ref 17)], [.int a2, .int a1, .ref 0, .int (nI 0), .ref 17], (X, w))) rfl ?_
  refine ab_ec_cx (p2 := 15) (i := 4) (k2 := 122) (as := [.ref 0, .int a1, .int a2]) (rest := [.int (nI 0), .ref 17]) rfl rfl h rfl rfl ?_
  refine ab_ec_go 1 (t := (16, [(0, .ref 0), (1, .int a1), (2, .int a2), (3, .ref 17)], [.int (nI 1)], (X1, w))) rfl ?_
  exact ab_ec_end rfl
set_option maxRecDepth 4000 in
theorem W_worker_x0 (S : Nat × (Nat → Int32)) (w : ab_WW) (X X1 : ab_XX) (a1 : Int32) (a2 : Int32) (h : ab_Ec S 122 (0, lv_args 0 [.ref 0, .int a1, .int a2], [], (X, w)) (.inr 0, (X1, w)) 1) : ab_Ec S 179 (0, lv_args 0 [.ref 0, .int a1, .int a2, .ref 17], [], (X, w)) (.inl (some (.int (nI 2))), (X1, w)) 1 := by
  show ab_Ec S 179 (0, [(0, .ref 0), (1, .int a1), (2, .int a2), (3, .ref 17)], [], (X, w)) _ (1 + 0)
  refine ab_ec_go 5 (t := (5, [(0, .ref 0), (1, .int a1), (2, .int a2), (3, .ref 17)], [.int a2, .int a1, .ref 0, .int (nI 0), .ref 17], (X, w))) rfl ?_
  refine ab_ec_cx (p2 := 19) (i := 4) (k2 := 122) (as := [.ref 0, .int a1, .int a2]) (rest := [.int (nI 0), .ref 17]) rfl rfl h rfl rfl ?_
  refine ab_ec_go 1 (t := (20, [(0, .ref 0), (1, .int a1), (2, .int a2), (3, .ref 17)], [.int (nI 2)], (X1, w))) rfl ?_
  exact ab_ec_end rfl
set_option maxRecDepth 4000 in
theorem W_addShift_ok (S : Nat × (Nat → Int32)) (w : ab_WW) (X X1 : ab_XX) (a1 : Int32) (a2 : Int32) (a3 : Int32) (a4 : Int32) (a5 : Int32) (v : Int32) (h : ab_Ec S 154 (0, lv_args 0 [.ref 0, .int a1, .int a2, .int a3, .int a4, .int a5], [], (X, w)) (.inl (some (.int v)), (X1, w)) 0) : ab_Ec S 197 (0, lv_args 0 [.ref 0, .int a1, .int a2, .int a3, .int a4, .int a5, .ref 17], [], (X, w)) (.inl (some (.int (nI 0))), (X1, (vp_updL w.1 0 v.toInt64, w.2))) 0 := by
  show ab_Ec S 197 (0, [(0, .ref 0), (1, .int a1), (2, .int a2), (3, .int a3), (4, .int a4), (5, .int a5), (6, .ref 17)], [], (X, w)) _ (0 + 0)
  refine ab_ec_go 8 (t := (11, [(0, .ref 0), (1, .int a1), (2, .int a2), (3, .int a3), (4, .int a4), (5, .int a5), (6, .ref 17)], [.int a5, .int a4, .int a3, .int a2, .int a1, .ref 0, .int (nI 0), .ref 17], (X, w))) rfl ?_
  refine ab_ec_ca (k2 := 154) (as := [.ref 0, .int a1, .int a2, .int a3, .int a4, .int a5]) (rest := [.int (nI 0), .ref 17]) rfl rfl h ?_
  refine ab_ec_go 4 (t := (28, [(0, .ref 0), (1, .int a1), (2, .int a2), (3, .int a3), (4, .int a4), (5, .int a5), (6, .ref 17)], [.int (nI 0)], (X1, (vp_updL w.1 0 v.toInt64, w.2)))) rfl ?_
  exact ab_ec_end rfl
set_option maxRecDepth 4000 in
theorem W_addShift_x0 (S : Nat × (Nat → Int32)) (w : ab_WW) (X X1 : ab_XX) (a1 : Int32) (a2 : Int32) (a3 : Int32) (a4 : Int32) (a5 : Int32) (h : ab_Ec S 154 (0, lv_args 0 [.ref 0, .int a1, .int a2, .int a3, .int a4, .int a5], [], (X, w)) (.inr 0, (X1, w)) 1) : ab_Ec S 197 (0, lv_args 0 [.ref 0, .int a1, .int a2, .int a3, .int a4, .int a5, .ref 17], [], (X, w)) (.inl (some (.int (nI 1))), (X1, w)) 1 := by
  show ab_Ec S 197 (0, [(0, .ref 0), (1, .int a1), (2, .int a2), (3, .int a3), (4, .int a4), (5, .int a5), (6, .ref 17)], [], (X, w)) _ (1 + 0)
  refine ab_ec_go 8 (t := (11, [(0, .ref 0), (1, .int a1), (2, .int a2), (3, .int a3), (4, .int a4), (5, .int a5), (6, .ref 17)], [.int a5, .int a4, .int a3, .int a2, .int a1, .ref 0, .int (nI 0), .ref 17], (X, w))) rfl ?_
  refine ab_ec_cx (p2 := 21) (i := 7) (k2 := 154) (as := [.ref 0, .int a1, .int a2, .int a3, .int a4, .int a5]) (rest := [.int (nI 0), .ref 17]) rfl rfl h rfl rfl ?_
  refine ab_ec_go 1 (t := (22, [(0, .ref 0), (1, .int a1), (2, .int a2), (3, .int a3), (4, .int a4), (5, .int a5), (6, .ref 17)], [.int (nI 1)], (X1, w))) rfl ?_
  exact ab_ec_end rfl
set_option maxRecDepth 4000 in
theorem W_addShift_x1 (S : Nat × (Nat → Int32)) (w : ab_WW) (X X1 : ab_XX) (a1 : Int32) (a2 : Int32) (a3 : Int32) (a4 : Int32) (a5 : Int32) (h : ab_Ec S 154 (0, lv_args 0 [.ref 0, .int a1, .int a2, .int a3, .int a4, .int a5], [], (X, w)) (.inr 1, (X1, w)) 1) : ab_Ec S 197 (0, lv_args 0 [.ref 0, .int a1, .int a2, .int a3, .int a4, .int a5, .ref 17], [], (X, w)) (.inl (some (.int (nI 2))), (X1, w)) 1 := by
  show ab_Ec S 197 (0, [(0, .ref 0), (1, .int a1), (2, .int a2), (3, .int a3), (4, .int a4), (5, .int a5), (6, .ref 17)], [], (X, w)) _ (1 + 0)
  refine ab_ec_go 8 (t := (11, [(0, .ref 0), (1, .int a1), (2, .int a2), (3, .int a3), (4, .int a4), (5, .int a5), (6, .ref 17)], [.int a5, .int a4, .int a3, .int a2, .int a1, .ref 0, .int (nI 0), .ref 17], (X, w))) rfl ?_
  refine ab_ec_cx (p2 := 25) (i := 7) (k2 := 154) (as := [.ref 0, .int a1, .int a2, .int a3, .int a4, .int a5]) (rest := [.int (nI 0), .ref 17]) rfl rfl h rfl rfl ?_
  refine ab_ec_go 1 (t := (26, [(0, .ref 0), (1, .int a1), (2, .int a2), (3, .int a3), (4, .int a4), (5, .int a5), (6, .ref 17)], [.int (nI 2)], (X1, w))) rfl ?_
  exact ab_ec_end rfl
set_option maxRecDepth 4000 in
theorem W_addWorker_ok (S : Nat × (Nat → Int32)) (w : ab_WW) (X X1 : ab_XX) (a1 : Int32) (a2 : Int32) (a3 : Int32) (a4 : Int32) (a5 : Int32) (v : Int32) (h : ab_Ec S 155 (0, lv_args 0 [.ref 0, .int a1, .int a2, .int a3, .int a4, .int a5], [], (X, w)) (.inl (some (.int v)), (X1, w)) 0) : ab_Ec S 198 (0, lv_args 0 [.ref 0, .int a1, .int a2, .int a3, .int a4, .int a5, .ref 17], [], (X, w)) (.inl (some (.int (nI 0))), (X1, (vp_updL w.1 0 v.toInt64, w.2))) 0 := by
  show ab_Ec S 198 (0, [(0, .ref 0), (1, .int a1), (2, .int a2), (3, .int a3), (4, .int a4), (5, .int a5), (6, .ref 17)], [], (X, w)) _ (0 + 0)
  refine ab_ec_go 8 (t := (11, [(0, .ref 0), (1, .int a1), (2, .int a2), (3, .int a3), (4, .int a4), (5, .int a5), (6, .ref 17)], [.int a5, .int a4, .int a3, .int a2, .int a1, .ref 0, .int (nI 0), .ref 17], (X, w))) rfl ?_
  refine ab_ec_ca (k2 := 155) (as := [.ref 0, .int a1, .int a2, .int a3, .int a4, .int a5]) (rest := [.int (nI 0), .ref 17]) rfl rfl h ?_
  refine ab_ec_go 4 (t := (28, [(0, .ref 0), (1, .int a1), (2, .int a2), (3, .int a3), (4, .int a4), (5, .int a5), (6, .ref 17)], [.int (nI 0)], (X1, (vp_updL w.1 0 v.toInt64, w.2)))) rfl ?_
  exact ab_ec_end rfl
set_option maxRecDepth 4000 in
theorem W_addWorker_x0 (S : Nat × (Nat → Int32)) (w : ab_WW) (X X1 : ab_XX) (a1 : Int32) (a2 : Int32) (a3 : Int32) (a4 : Int32) (a5 : Int32) (h : ab_Ec S 155 (0, lv_args 0 [.ref 0, .int a1, .int a2, .int a3, .int a4, .int a5], [], (X, w)) (.inr 0, (X1, w)) 1) : ab_Ec S 198 (0, lv_args 0 [.ref 0, .int a1, .int a2, .int a3, .int a4, .int a5, .ref 17], [], (X, w)) (.inl (some (.int (nI 1))), (X1, w)) 1 := by
  show ab_Ec S 198 (0, [(0, .ref 0), (1, .int a1), (2, .int a2), (3, .int a3), (4, .int a4), (5, .int a5), (6, .ref 17)], [], (X, w)) _ (1 + 0)
  refine ab_ec_go 8 (t := (11, [(0, .ref 0), (1, .int a1), (2, .int a2), (3, .int a3), (4, .int a4), (5, .int a5), (6, .ref 17)], [.int a5, .int a4, .int a3, .int a2, .int a1, .ref 0, .int (nI 0), .ref 17], (X, w))) rfl ?_
  refine ab_ec_cx (p2 := 21) (i := 7) (k2 := 155) (as := [.ref 0, .int a1, .int a2, .int a3, .int a4, .int a5]) (rest := [.int (nI 0), .ref 17]) rfl rfl h rfl rfl ?_
  refine ab_ec_go 1 (t := (22, [(0, .ref 0), (1, .int a1), (2, .int a2), (3, .int a3), (4, .int a4), (5, .int a5), (6, .ref 17)], [.int (nI 1)], (X1, w))) rfl ?_
  exact ab_ec_end rfl
set_option maxRecDepth 4000 in
theorem W_addWorker_x1 (S : Nat × (Nat → Int32)) (w : ab_WW) (X X1 : ab_XX) (a1 : Int32) (a2 : Int32) (a3 : Int32) (a4 : Int32) (a5 : Int32) (h : ab_Ec S 155 (0, lv_args 0 [.ref 0, .int a1, .int a2, .int a3, .int a4, .int a5], [], (X, w)) (.inr 1, (X1, w)) 1) : ab_Ec S 198 (0, lv_args 0 [.ref 0, .int a1, .int a2, .int a3, .int a4, .int a5, .ref 17], [], (X, w)) (.inl (some (.int (nI 2))), (X1, w)) 1 := by
  show ab_Ec S 198 (0, [(0, .ref 0), (1, .int a1), (2, .int a2), (3, .int a3), (4, .int a4), (5, .int a5), (6, .ref 17)], [], (X, w)) _ (1 + 0)
  refine ab_ec_go 8 (t := (11, [(0, .ref 0), (1, .int a1), (2, .int a2), (3, .int a3), (4, .int a4), (5, .int a5), (6, .ref 17)], [.int a5, .int a4, .int a3, .int a2, .int a1, .ref 0, .int (nI 0), .ref 17], (X, w))) rfl ?_
  refine ab_ec_cx (p2 := 25) (i := 7) (k2 := 155) (as := [.ref 0, .int a1, .int a2, .int a3, .int a4, .int a5]) (rest := [.int (nI 0), .ref 17]) rfl rfl h rfl rfl ?_
  refine ab_ec_go 1 (t := (26, [(0, .ref 0), (1, .int a1), (2, .int a2), (3, .int a3), (4, .int a4), (5, .int a5), (6, .ref 17)], [.int (nI 2)], (X1, w))) rfl ?_
  exact ab_ec_end rfl
set_option maxRecDepth 4000 in
theorem W_bid_ok (S : Nat × (Nat → Int32)) (w : ab_WW) (X X1 : ab_XX) (a1 : Int32) (a2 : Int32) (v : Int32) (h : ab_Ec S 156 (0, lv_args 0 [.ref 0, .int a1, .int a2], [], (X, w)) (.inl (some (.int v)), (X1, w)) 0) : ab_Ec S 199 (0, lv_args 0 [.ref 0, .int a1, .int a2, .ref 17], [], (X, w)) (.inl (some (.int (nI 0))), (X1, (vp_updL w.1 0 v.toInt64, w.2))) 0 := by
  show ab_Ec S 199 (0, [(0, .ref 0), (1, .int a1), (2, .int a2), (3, .ref 17)], [], (X, w)) _ (0 + 0)
  refine ab_ec_go 5 (t := (5, [(0, .ref 0), (1, .int a1), (2, .int a2), (3, .ref 17)], [.int a2, .int a1, .ref 0, .int (nI 0), .ref 17], (X, w))) rfl ?_
  refine ab_ec_ca (k2 := 156) (as := [.ref 0, .int a1, .int a2]) (rest := [.int (nI 0), .ref 17]) rfl rfl h ?_
  refine ab_ec_go 4 (t := (18, [(0, .ref 0), (1, .int a1), (2, .int a2), (3, .ref 17)], [.int (nI 0)], (X1, (vp_updL w.1 0 v.toInt64, w.2)))) rfl ?_
  exact ab_ec_end rfl
set_option maxRecDepth 4000 in
theorem W_bid_x2 (S : Nat × (Nat → Int32)) (w : ab_WW) (X X1 : ab_XX) (a1 : Int32) (a2 : Int32) (h : ab_Ec S 156 (0, lv_args 0 [.ref 0, .int a1, .int a2], [], (X, w)) (.inr 2, (X1, w)) 1) : ab_Ec S 199 (0, lv_args 0 [.ref 0, .int a1, .int a2, .ref 17], [], (X, w)) (.inl (some (.int (nI 1))), (X1, w)) 1 := by
  show ab_Ec S 199 (0, [(0, .ref 0), (1, .int a1), (2, .int a2), (3, .ref 17)], [], (X, w)) _ (1 + 0)
  refine ab_ec_go 5 (t := (5, [(0, .ref 0), (1, .int a1), (2, .int a2), (3, .ref 17)], [.int a2, .int a1, .ref 0, .int (nI 0), .ref 17], (X, w))) rfl ?_
  refine ab_ec_cx (p2 := 15) (i := 4) (k2 := 156) (as := [.ref 0, .int a1, .int a2]) (rest := [.int (nI 0), .ref 17]) rfl rfl h rfl rfl ?_
  refine ab_ec_go 1 (t := (16, [(0, .ref 0), (1, .int a1), (2, .int a2), (3, .ref 17)], [.int (nI 1)], (X1, w))) rfl ?_
  exact ab_ec_end rfl
set_option maxRecDepth 4000 in
theorem W_daysInRow_ok (S : Nat × (Nat → Int32)) (w : ab_WW) (X X1 : ab_XX) (a1 : Int32) (v : Int32) (h : ab_Ec S 158 (0, lv_args 0 [.ref 0, .int a1], [], (X, w)) (.inl (some (.int v)), (X1, w)) 0) : ab_Ec S 200 (0, lv_args 0 [.ref 0, .int a1, .ref 17], [], (X, w)) (.inl (some (.int (nI 0))), (X1, (vp_updL w.1 0 v.toInt64, w.2))) 0 := by
  show ab_Ec S 200 (0, [(0, .ref 0), (1, .int a1), (2, .ref 17)], [], (X, w)) _ (0 + 0)
  refine ab_ec_go 4 (t := (4, [(0, .ref 0), (1, .int a1), (2, .ref 17)], [.int a1, .ref 0, .int (nI 0), .ref 17], (X, w))) rfl ?_
  refine ab_ec_ca (k2 := 158) (as := [.ref 0, .int a1]) (rest := [.int (nI 0), .ref 17]) rfl rfl h ?_
  refine ab_ec_go 4 (t := (16, [(0, .ref 0), (1, .int a1), (2, .ref 17)], [.int (nI 0)], (X1, (vp_updL w.1 0 v.toInt64, w.2)))) rfl ?_
  exact ab_ec_end rfl
set_option maxRecDepth 4000 in
theorem W_daysInRow_x2 (S : Nat × (Nat → Int32)) (w : ab_WW) (X X1 : ab_XX) (a1 : Int32) (h : ab_Ec S 158 (0, lv_args 0 [.ref 0, .int a1], [], (X, w)) (.inr 2, (X1, w)) 1) : ab_Ec S 200 (0, lv_args 0 [.ref 0, .int a1, .ref 17], [], (X, w)) (.inl (some (.int (nI 1))), (X1, w)) 1 := by
  show ab_Ec S 200 (0, [(0, .ref 0), (1, .int a1), (2, .ref 17)], [], (X, w)) _ (1 + 0)
  refine ab_ec_go 4 (t := (4, [(0, .ref 0), (1, .int a1), (2, .ref 17)], [.int a1, .ref 0, .int (nI 0), .ref 17], (X, w))) rfl ?_
  refine ab_ec_cx (p2 := 13) (i := 3) (k2 := 158) (as := [.ref 0, .int a1]) (rest := [.int (nI 0), .ref 17]) rfl rfl h rfl rfl ?_
  refine ab_ec_go 1 (t := (14, [(0, .ref 0), (1, .int a1), (2, .ref 17)], [.int (nI 1)], (X1, w))) rfl ?_
  exact ab_ec_end rfl
set_option maxRecDepth 4000 in
theorem W_restore_ok (S : Nat × (Nat → Int32)) (w : ab_WW) (X X1 : ab_XX) (v : Int32) (h : ab_Ec S 160 (0, lv_args 0 [.ref 0], [], (X, w)) (.inl (some (.int v)), (X1, w)) 0) : ab_Ec S 201 (0, lv_args 0 [.ref 0, .ref 17], [], (X, w)) (.inl (some (.int (nI 0))), (X1, (vp_updL w.1 0 v.toInt64, w.2))) 0 := by
  show ab_Ec S 201 (0, [(0, .ref 0), (1, .ref 17)], [], (X, w)) _ (0 + 0)
  refine ab_ec_go 3 (t := (3, [(0, .ref 0), (1, .ref 17)], [.ref 0, .int (nI 0), .ref 17], (X, w))) rfl ?_
  refine ab_ec_ca (k2 := 160) (as := [.ref 0]) (rest := [.int (nI 0), .ref 17]) rfl rfl h ?_
  refine ab_ec_go 4 (t := (15, [(0, .ref 0), (1, .ref 17)], [.int (nI 0)], (X1, (vp_updL w.1 0 v.toInt64, w.2)))) rfl ?_
  exact ab_ec_end rfl
set_option maxRecDepth 4000 in
theorem W_restore_x1 (S : Nat × (Nat → Int32)) (w : ab_WW) (X X1 : ab_XX) (h : ab_Ec S 160 (0, lv_args 0 [.ref 0], [], (X, w)) (.inr 1, (X1, w)) 1) : ab_Ec S 201 (0, lv_args 0 [.ref 0, .ref 17], [], (X, w)) (.inl (some (.int (nI 1))), (X1, w)) 1 := by
  show ab_Ec S 201 (0, [(0, .ref 0), (1, .ref 17)], [], (X, w)) _ (1 + 0)
  refine ab_ec_go 3 (t := (3, [(0, .ref 0), (1, .ref 17)], [.ref 0, .int (nI 0), .ref 17], (X, w))) rfl ?_
  refine ab_ec_cx (p2 := 12) (i := 2) (k2 := 160) (as := [.ref 0]) (rest := [.int (nI 0), .ref 17]) rfl rfl h rfl rfl ?_
  refine ab_ec_go 1 (t := (13, [(0, .ref 0), (1, .ref 17)], [.int (nI 1)], (X1, w))) rfl ?_
  exact ab_ec_end rfl
set_option maxRecDepth 4000 in
theorem W_setBid_ok (S : Nat × (Nat → Int32)) (w : ab_WW) (X X1 : ab_XX) (a1 : Int32) (a2 : Int32) (a3 : Int32) (v : Int32) (h : ab_Ec S 162 (0, lv_args 0 [.ref 0, .int a1, .int a2, .int a3], [], (X, w)) (.inl (some (.int v)), (X1, w)) 0) : ab_Ec S 202 (0, lv_args 0 [.ref 0, .int a1, .int a2, .int a3, .ref 17], [], (X, w)) (.inl (some (.int (nI 0))), (X1, (vp_updL w.1 0 v.toInt64, w.2))) 0 := by
  show ab_Ec S 202 (0, [(0, .ref 0), (1, .int a1), (2, .int a2), (3, .int a3), (4, .ref 17)], [], (X, w)) _ (0 + 0)
  refine ab_ec_go 6 (t := (7, [(0, .ref 0), (1, .int a1), (2, .int a2), (3, .int a3), (4, .ref 17)], [.int a3, .int a2, .int a1, .ref 0, .int (nI 0), .ref 17], (X, w))) rfl ?_
  refine ab_ec_ca (k2 := 162) (as := [.ref 0, .int a1, .int a2, .int a3]) (rest := [.int (nI 0), .ref 17]) rfl rfl h ?_
  refine ab_ec_go 4 (t := (28, [(0, .ref 0), (1, .int a1), (2, .int a2), (3, .int a3), (4, .ref 17)], [.int (nI 0)], (X1, (vp_updL w.1 0 v.toInt64, w.2)))) rfl ?_
  exact ab_ec_end rfl
set_option maxRecDepth 4000 in
theorem W_setBid_x2 (S : Nat × (Nat → Int32)) (w : ab_WW) (X X1 : ab_XX) (a1 : Int32) (a2 : Int32) (a3 : Int32) (h : ab_Ec S 162 (0, lv_args 0 [.ref 0, .int a1, .int a2, .int a3], [], (X, w)) (.inr 2, (X1, w)) 1) : ab_Ec S 202 (0, lv_args 0 [.ref 0, .int a1, .int a2, .int a3, .ref 17], [], (X, w)) (.inl (some (.int (nI 1))), (X1, w)) 1 := by
  show ab_Ec S 202 (0, [(0, .ref 0), (1, .int a1), (2, .int a2), (3, .int a3), (4, .ref 17)], [], (X, w)) _ (1 + 0)
  refine ab_ec_go 6 (t := (7, [(0, .ref 0), (1, .int a1), (2, .int a2), (3, .int a3), (4, .ref 17)], [.int a3, .int a2, .int a1, .ref 0, .int (nI 0), .ref 17], (X, w))) rfl ?_
  refine ab_ec_cx (p2 := 17) (i := 5) (k2 := 162) (as := [.ref 0, .int a1, .int a2, .int a3]) (rest := [.int (nI 0), .ref 17]) rfl rfl h rfl rfl ?_
  refine ab_ec_go 1 (t := (18, [(0, .ref 0), (1, .int a1), (2, .int a2), (3, .int a3), (4, .ref 17)], [.int (nI 1)], (X1, w))) rfl ?_
  exact ab_ec_end rfl
set_option maxRecDepth 4000 in
theorem W_setBid_x0 (S : Nat × (Nat → Int32)) (w : ab_WW) (X X1 : ab_XX) (a1 : Int32) (a2 : Int32) (a3 : Int32) (h : ab_Ec S 162 (0, lv_args 0 [.ref 0, .int a1, .int a2, .int a3], [], (X, w)) (.inr 0, (X1, w)) 1) : ab_Ec S 202 (0, lv_args 0 [.ref 0, .int a1, .int a2, .int a3, .ref 17], [], (X, w)) (.inl (some (.int (nI 2))), (X1, w)) 1 := by
  show ab_Ec S 202 (0, [(0, .ref 0), (1, .int a1), (2, .int a2), (3, .int a3), (4, .ref 17)], [], (X, w)) _ (1 + 0)
  refine ab_ec_go 6 (t := (7, [(0, .ref 0), (1, .int a1), (2, .int a2), (3, .int a3), (4, .ref 17)], [.int a3, .int a2, .int a1, .ref 0, .int (nI 0), .ref 17], (X, w))) rfl ?_
  refine ab_ec_cx (p2 := 21) (i := 5) (k2 := 162) (as := [.ref 0, .int a1, .int a2, .int a3]) (rest := [.int (nI 0), .ref 17]) rfl rfl h rfl rfl ?_
  refine ab_ec_go 1 (t := (22, [(0, .ref 0), (1, .int a1), (2, .int a2), (3, .int a3), (4, .ref 17)], [.int (nI 2)], (X1, w))) rfl ?_
  exact ab_ec_end rfl
set_option maxRecDepth 4000 in
theorem W_setBid_x1 (S : Nat × (Nat → Int32)) (w : ab_WW) (X X1 : ab_XX) (a1 : Int32) (a2 : Int32) (a3 : Int32) (h : ab_Ec S 162 (0, lv_args 0 [.ref 0, .int a1, .int a2, .int a3], [], (X, w)) (.inr 1, (X1, w)) 1) : ab_Ec S 202 (0, lv_args 0 [.ref 0, .int a1, .int a2, .int a3, .ref 17], [], (X, w)) (.inl (some (.int (nI 3))), (X1, w)) 1 := by
  show ab_Ec S 202 (0, [(0, .ref 0), (1, .int a1), (2, .int a2), (3, .int a3), (4, .ref 17)], [], (X, w)) _ (1 + 0)
  refine ab_ec_go 6 (t := (7, [(0, .ref 0), (1, .int a1), (2, .int a2), (3, .int a3), (4, .ref 17)], [.int a3, .int a2, .int a1, .ref 0, .int (nI 0), .ref 17], (X, w))) rfl ?_
  refine ab_ec_cx (p2 := 25) (i := 5) (k2 := 162) (as := [.ref 0, .int a1, .int a2, .int a3]) (rest := [.int (nI 0), .ref 17]) rfl rfl h rfl rfl ?_
  refine ab_ec_go 1 (t := (26, [(0, .ref 0), (1, .int a1), (2, .int a2), (3, .int a3), (4, .ref 17)], [.int (nI 3)], (X1, w))) rfl ?_
  exact ab_ec_end rfl
set_option maxRecDepth 4000 in
theorem W_setGuarantee_ok (S : Nat × (Nat → Int32)) (w : ab_WW) (X X1 : ab_XX) (a1 : Int32) (a2 : Int32) (v : Int32) (h : ab_Ec S 163 (0, lv_args 0 [.ref 0, .int a1, .int a2], [], (X, w)) (.inl (some (.int v)), (X1, w)) 0) : ab_Ec S 203 (0, lv_args 0 [.ref 0, .int a1, .int a2, .ref 17], [], (X, w)) (.inl (some (.int (nI 0))), (X1, (vp_updL w.1 0 v.toInt64, w.2))) 0 := by
  show ab_Ec S 203 (0, [(0, .ref 0), (1, .int a1), (2, .int a2), (3, .ref 17)], [], (X, w)) _ (0 + 0)
  refine ab_ec_go 5 (t := (5, [(0, .ref 0), (1, .int a1), (2, .int a2), (3, .ref 17)], [.int a2, .int a1, .ref 0, .int (nI 0), .ref 17], (X, w))) rfl ?_
  refine ab_ec_ca (k2 := 163) (as := [.ref 0, .int a1, .int a2]) (rest := [.int (nI 0), .ref 17]) rfl rfl h ?_
  refine ab_ec_go 4 (t := (26, [(0, .ref 0), (1, .int a1), (2, .int a2), (3, .ref 17)], [.int (nI 0)], (X1, (vp_updL w.1 0 v.toInt64, w.2)))) rfl ?_
  exact ab_ec_end rfl
set_option maxRecDepth 4000 in
theorem W_setGuarantee_x2 (S : Nat × (Nat → Int32)) (w : ab_WW) (X X1 : ab_XX) (a1 : Int32) (a2 : Int32) (h : ab_Ec S 163 (0, lv_args 0 [.ref 0, .int a1, .int a2], [], (X, w)) (.inr 2, (X1, w)) 1) : ab_Ec S 203 (0, lv_args 0 [.ref 0, .int a1, .int a2, .ref 17], [], (X, w)) (.inl (some (.int (nI 1))), (X1, w)) 1 := by
  show ab_Ec S 203 (0, [(0, .ref 0), (1, .int a1), (2, .int a2), (3, .ref 17)], [], (X, w)) _ (1 + 0)
  refine ab_ec_go 5 (t := (5, [(0, .ref 0), (1, .int a1), (2, .int a2), (3, .ref 17)], [.int a2, .int a1, .ref 0, .int (nI 0), .ref 17], (X, w))) rfl ?_
  refine ab_ec_cx (p2 := 15) (i := 4) (k2 := 163) (as := [.ref 0, .int a1, .int a2]) (rest := [.int (nI 0), .ref 17]) rfl rfl h rfl rfl ?_
  refine ab_ec_go 1 (t := (16, [(0, .ref 0), (1, .int a1), (2, .int a2), (3, .ref 17)], [.int (nI 1)], (X1, w))) rfl ?_
  exact ab_ec_end rfl
set_option maxRecDepth 4000 in
theorem W_setGuarantee_x0 (S : Nat × (Nat → Int32)) (w : ab_WW) (X X1 : ab_XX) (a1 : Int32) (a2 : Int32) (h : ab_Ec S 163 (0, lv_args 0 [.ref 0, .int a1, .int a2], [], (X, w)) (.inr 0, (X1, w)) 1) : ab_Ec S 203 (0, lv_args 0 [.ref 0, .int a1, .int a2, .ref 17], [], (X, w)) (.inl (some (.int (nI 2))), (X1, w)) 1 := by
  show ab_Ec S 203 (0, [(0, .ref 0), (1, .int a1), (2, .int a2), (3, .ref 17)], [], (X, w)) _ (1 + 0)
  refine ab_ec_go 5 (t := (5, [(0, .ref 0), (1, .int a1), (2, .int a2), (3, .ref 17)], [.int a2, .int a1, .ref 0, .int (nI 0), .ref 17], (X, w))) rfl ?_
  refine ab_ec_cx (p2 := 19) (i := 4) (k2 := 163) (as := [.ref 0, .int a1, .int a2]) (rest := [.int (nI 0), .ref 17]) rfl rfl h rfl rfl ?_
  refine ab_ec_go 1 (t := (20, [(0, .ref 0), (1, .int a1), (2, .int a2), (3, .ref 17)], [.int (nI 2)], (X1, w))) rfl ?_
  exact ab_ec_end rfl
set_option maxRecDepth 4000 in
theorem W_setGuarantee_x1 (S : Nat × (Nat → Int32)) (w : ab_WW) (X X1 : ab_XX) (a1 : Int32) (a2 : Int32) (h : ab_Ec S 163 (0, lv_args 0 [.ref 0, .int a1, .int a2], [], (X, w)) (.inr 1, (X1, w)) 1) : ab_Ec S 203 (0, lv_args 0 [.ref 0, .int a1, .int a2, .ref 17], [], (X, w)) (.inl (some (.int (nI 3))), (X1, w)) 1 := by
  show ab_Ec S 203 (0, [(0, .ref 0), (1, .int a1), (2, .int a2), (3, .ref 17)], [], (X, w)) _ (1 + 0)
  refine ab_ec_go 5 (t := (5, [(0, .ref 0), (1, .int a1), (2, .int a2), (3, .ref 17)], [.int a2, .int a1, .ref 0, .int (nI 0), .ref 17], (X, w))) rfl ?_
  refine ab_ec_cx (p2 := 23) (i := 4) (k2 := 163) (as := [.ref 0, .int a1, .int a2]) (rest := [.int (nI 0), .ref 17]) rfl rfl h rfl rfl ?_
  refine ab_ec_go 1 (t := (24, [(0, .ref 0), (1, .int a1), (2, .int a2), (3, .ref 17)], [.int (nI 3)], (X1, w))) rfl ?_
  exact ab_ec_end rfl
set_option maxRecDepth 4000 in
theorem W_shift_ok (S : Nat × (Nat → Int32)) (w : ab_WW) (X X1 : ab_XX) (a1 : Int32) (a2 : Int32) (v : Int32) (h : ab_Ec S 164 (0, lv_args 0 [.ref 0, .int a1, .int a2], [], (X, w)) (.inl (some (.int v)), (X1, w)) 0) : ab_Ec S 204 (0, lv_args 0 [.ref 0, .int a1, .int a2, .ref 17], [], (X, w)) (.inl (some (.int (nI 0))), (X1, (vp_updL w.1 0 v.toInt64, w.2))) 0 := by
  show ab_Ec S 204 (0, [(0, .ref 0), (1, .int a1), (2, .int a2), (3, .ref 17)], [], (X, w)) _ (0 + 0)
  refine ab_ec_go 5 (t := (5, [(0, .ref 0), (1, .int a1), (2, .int a2), (3, .ref 17)], [.int a2, .int a1, .ref 0, .int (nI 0), .ref 17], (X, w))) rfl ?_
  refine ab_ec_ca (k2 := 164) (as := [.ref 0, .int a1, .int a2]) (rest := [.int (nI 0), .ref 17]) rfl rfl h ?_
  refine ab_ec_go 4 (t := (22, [(0, .ref 0), (1, .int a1), (2, .int a2), (3, .ref 17)], [.int (nI 0)], (X1, (vp_updL w.1 0 v.toInt64, w.2)))) rfl ?_
  exact ab_ec_end rfl
set_option maxRecDepth 4000 in
theorem W_shift_x2 (S : Nat × (Nat → Int32)) (w : ab_WW) (X X1 : ab_XX) (a1 : Int32) (a2 : Int32) (h : ab_Ec S 164 (0, lv_args 0 [.ref 0, .int a1, .int a2], [], (X, w)) (.inr 2, (X1, w)) 1) : ab_Ec S 204 (0, lv_args 0 [.ref 0, .int a1, .int a2, .ref 17], [], (X, w)) (.inl (some (.int (nI 1))), (X1, w)) 1 := by
  show ab_Ec S 204 (0, [(0, .ref 0), (1, .int a1), (2, .int a2), (3, .ref 17)], [], (X, w)) _ (1 + 0)
  refine ab_ec_go 5 (t := (5, [(0, .ref 0), (1, .int a1), (2, .int a2), (3, .ref 17)], [.int a2, .int a1, .ref 0, .int (nI 0), .ref 17], (X, w))) rfl ?_
  refine ab_ec_cx (p2 := 15) (i := 4) (k2 := 164) (as := [.ref 0, .int a1, .int a2]) (rest := [.int (nI 0), .ref 17]) rfl rfl h rfl rfl ?_
  refine ab_ec_go 1 (t := (16, [(0, .ref 0), (1, .int a1), (2, .int a2), (3, .ref 17)], [.int (nI 1)], (X1, w))) rfl ?_
  exact ab_ec_end rfl
set_option maxRecDepth 4000 in
theorem W_shift_x0 (S : Nat × (Nat → Int32)) (w : ab_WW) (X X1 : ab_XX) (a1 : Int32) (a2 : Int32) (h : ab_Ec S 164 (0, lv_args 0 [.ref 0, .int a1, .int a2], [], (X, w)) (.inr 0, (X1, w)) 1) : ab_Ec S 204 (0, lv_args 0 [.ref 0, .int a1, .int a2, .ref 17], [], (X, w)) (.inl (some (.int (nI 2))), (X1, w)) 1 := by
  show ab_Ec S 204 (0, [(0, .ref 0), (1, .int a1), (2, .int a2), (3, .ref 17)], [], (X, w)) _ (1 + 0)
  refine ab_ec_go 5 (t := (5, [(0, .ref 0), (1, .int a1), (2, .int a2), (3, .ref 17)], [.int a2, .int a1, .ref 0, .int (nI 0), .ref 17], (X, w))) rfl ?_
  refine ab_ec_cx (p2 := 19) (i := 4) (k2 := 164) (as := [.ref 0, .int a1, .int a2]) (rest := [.int (nI 0), .ref 17]) rfl rfl h rfl rfl ?_
  refine ab_ec_go 1 (t := (20, [(0, .ref 0), (1, .int a1), (2, .int a2), (3, .ref 17)], [.int (nI 2)], (X1, w))) rfl ?_
  exact ab_ec_end rfl
set_option maxRecDepth 4000 in
theorem W_undo_ok (S : Nat × (Nat → Int32)) (w : ab_WW) (X X1 : ab_XX) (v : Int32) (h : ab_Ec S 165 (0, lv_args 0 [.ref 0], [], (X, w)) (.inl (some (.int v)), (X1, w)) 0) : ab_Ec S 205 (0, lv_args 0 [.ref 0, .ref 17], [], (X, w)) (.inl (some (.int (nI 0))), (X1, (vp_updL w.1 0 v.toInt64, w.2))) 0 := by
  show ab_Ec S 205 (0, [(0, .ref 0), (1, .ref 17)], [], (X, w)) _ (0 + 0)
  refine ab_ec_go 3 (t := (3, [(0, .ref 0), (1, .ref 17)], [.ref 0, .int (nI 0), .ref 17], (X, w))) rfl ?_
  refine ab_ec_ca (k2 := 165) (as := [.ref 0]) (rest := [.int (nI 0), .ref 17]) rfl rfl h ?_
  refine ab_ec_go 4 (t := (15, [(0, .ref 0), (1, .ref 17)], [.int (nI 0)], (X1, (vp_updL w.1 0 v.toInt64, w.2)))) rfl ?_
  exact ab_ec_end rfl
set_option maxRecDepth 4000 in
theorem W_undo_x1 (S : Nat × (Nat → Int32)) (w : ab_WW) (X X1 : ab_XX) (h : ab_Ec S 165 (0, lv_args 0 [.ref 0], [], (X, w)) (.inr 1, (X1, w)) 1) : ab_Ec S 205 (0, lv_args 0 [.ref 0, .ref 17], [], (X, w)) (.inl (some (.int (nI 1))), (X1, w)) 1 := by
  show ab_Ec S 205 (0, [(0, .ref 0), (1, .ref 17)], [], (X, w)) _ (1 + 0)
  refine ab_ec_go 3 (t := (3, [(0, .ref 0), (1, .ref 17)], [.ref 0, .int (nI 0), .ref 17], (X, w))) rfl ?_
  refine ab_ec_cx (p2 := 12) (i := 2) (k2 := 165) (as := [.ref 0]) (rest := [.int (nI 0), .ref 17]) rfl rfl h rfl rfl ?_
  refine ab_ec_go 1 (t := (13, [(0, .ref 0), (1, .ref 17)], [.int (nI 1)], (X1, w))) rfl ?_
  exact ab_ec_end rfl
set_option maxRecDepth 4000 in
theorem W_order_ok (S : Nat × (Nat → Int32)) (w : ab_WW) (X X1 : ab_XX) (a1 : Int32) (v : Int32) (h : ab_Ec S 191 (0, lv_args 0 [.ref 0, .int a1], [], (X, w)) (.inl (some (.int v)), (X1, w)) 0) : ab_Ec S 218 (0, lv_args 0 [.ref 0, .int a1, .ref 17], [], (X, w)) (.inl (some (.int (nI 0))), (X1, (vp_updL w.1 0 v.toInt64, w.2))) 0 := by
  show ab_Ec S 218 (0, [(0, .ref 0), (1, .int a1), (2, .ref 17)], [], (X, w)) _ (0 + 0)
  refine ab_ec_go 4 (t := (4, [(0, .ref 0), (1, .int a1), (2, .ref 17)], [.int a1, .ref 0, .int (nI 0), .ref 17], (X, w))) rfl ?_
  refine ab_ec_ca (k2 := 191) (as := [.ref 0, .int a1]) (rest := [.int (nI 0), .ref 17]) rfl rfl h ?_
  refine ab_ec_go 4 (t := (16, [(0, .ref 0), (1, .int a1), (2, .ref 17)], [.int (nI 0)], (X1, (vp_updL w.1 0 v.toInt64, w.2)))) rfl ?_
  exact ab_ec_end rfl
set_option maxRecDepth 4000 in
theorem W_order_x2 (S : Nat × (Nat → Int32)) (w : ab_WW) (X X1 : ab_XX) (a1 : Int32) (h : ab_Ec S 191 (0, lv_args 0 [.ref 0, .int a1], [], (X, w)) (.inr 2, (X1, w)) 1) : ab_Ec S 218 (0, lv_args 0 [.ref 0, .int a1, .ref 17], [], (X, w)) (.inl (some (.int (nI 1))), (X1, w)) 1 := by
  show ab_Ec S 218 (0, [(0, .ref 0), (1, .int a1), (2, .ref 17)], [], (X, w)) _ (1 + 0)
  refine ab_ec_go 4 (t := (4, [(0, .ref 0), (1, .int a1), (2, .ref 17)], [.int a1, .ref 0, .int (nI 0), .ref 17], (X, w))) rfl ?_
  refine ab_ec_cx (p2 := 13) (i := 3) (k2 := 191) (as := [.ref 0, .int a1]) (rest := [.int (nI 0), .ref 17]) rfl rfl h rfl rfl ?_
  refine ab_ec_go 1 (t := (14, [(0, .ref 0), (1, .int a1), (2, .ref 17)], [.int (nI 1)], (X1, w))) rfl ?_
  exact ab_ec_end rfl
set_option maxRecDepth 4000 in
theorem W_revoke_ok (S : Nat × (Nat → Int32)) (w : ab_WW) (X X1 : ab_XX) (a1 : Int32) (a2 : Int32) (v : Int32) (h : ab_Ec S 192 (0, lv_args 0 [.ref 0, .int a1, .int a2], [], (X, w)) (.inl (some (.int v)), (X1, w)) 0) : ab_Ec S 219 (0, lv_args 0 [.ref 0, .int a1, .int a2, .ref 17], [], (X, w)) (.inl (some (.int (nI 0))), (X1, (vp_updL w.1 0 v.toInt64, w.2))) 0 := by
  show ab_Ec S 219 (0, [(0, .ref 0), (1, .int a1), (2, .int a2), (3, .ref 17)], [], (X, w)) _ (0 + 0)
  refine ab_ec_go 5 (t := (5, [(0, .ref 0), (1, .int a1), (2, .int a2), (3, .ref 17)], [.int a2, .int a1, .ref 0, .int (nI 0), .ref 17], (X, w))) rfl ?_
  refine ab_ec_ca (k2 := 192) (as := [.ref 0, .int a1, .int a2]) (rest := [.int (nI 0), .ref 17]) rfl rfl h ?_
  refine ab_ec_go 4 (t := (26, [(0, .ref 0), (1, .int a1), (2, .int a2), (3, .ref 17)], [.int (nI 0)], (X1, (vp_updL w.1 0 v.toInt64, w.2)))) rfl ?_
  exact ab_ec_end rfl
set_option maxRecDepth 4000 in
theorem W_revoke_x2 (S : Nat × (Nat → Int32)) (w : ab_WW) (X X1 : ab_XX) (a1 : Int32) (a2 : Int32) (h : ab_Ec S 192 (0, lv_args 0 [.ref 0, .int a1, .int a2], [], (X, w)) (.inr 2, (X1, w)) 1) : ab_Ec S 219 (0, lv_args 0 [.ref 0, .int a1, .int a2, .ref 17], [], (X, w)) (.inl (some (.int (nI 1))), (X1, w)) 1 := by
  show ab_Ec S 219 (0, [(0, .ref 0), (1, .int a1), (2, .int a2), (3, .ref 17)], [], (X, w)) _ (1 + 0)
  refine ab_ec_go 5 (t := (5, [(0, .ref 0), (1, .int a1), (2, .int a2), (3, .ref 17)], [.int a2, .int a1, .ref 0, .int (nI 0), .ref 17], (X, w))) rfl ?_
  refine ab_ec_cx (p2 := 15) (i := 4) (k2 := 192) (as := [.ref 0, .int a1, .int a2]) (rest := [.int (nI 0), .ref 17]) rfl rfl h rfl rfl ?_
  refine ab_ec_go 1 (t := (16, [(0, .ref 0), (1, .int a1), (2, .int a2), (3, .ref 17)], [.int (nI 1)], (X1, w))) rfl ?_
  exact ab_ec_end rfl
set_option maxRecDepth 4000 in
theorem W_revoke_x4 (S : Nat × (Nat → Int32)) (w : ab_WW) (X X1 : ab_XX) (a1 : Int32) (a2 : Int32) (h : ab_Ec S 192 (0, lv_args 0 [.ref 0, .int a1, .int a2], [], (X, w)) (.inr 4, (X1, w)) 1) : ab_Ec S 219 (0, lv_args 0 [.ref 0, .int a1, .int a2, .ref 17], [], (X, w)) (.inl (some (.int (nI 2))), (X1, w)) 1 := by
  show ab_Ec S 219 (0, [(0, .ref 0), (1, .int a1), (2, .int a2), (3, .ref 17)], [], (X, w)) _ (1 + 0)
  refine ab_ec_go 5 (t := (5, [(0, .ref 0), (1, .int a1), (2, .int a2), (3, .ref 17)], [.int a2, .int a1, .ref 0, .int (nI 0), .ref 17], (X, w))) rfl ?_
  refine ab_ec_cx (p2 := 19) (i := 4) (k2 := 192) (as := [.ref 0, .int a1, .int a2]) (rest := [.int (nI 0), .ref 17]) rfl rfl h rfl rfl ?_
  refine ab_ec_go 1 (t := (20, [(0, .ref 0), (1, .int a1), (2, .int a2), (3, .ref 17)], [.int (nI 2)], (X1, w))) rfl ?_
  exact ab_ec_end rfl
set_option maxRecDepth 4000 in
theorem W_revoke_x3 (S : Nat × (Nat → Int32)) (w : ab_WW) (X X1 : ab_XX) (a1 : Int32) (a2 : Int32) (h : ab_Ec S 192 (0, lv_args 0 [.ref 0, .int a1, .int a2], [], (X, w)) (.inr 3, (X1, w)) 1) : ab_Ec S 219 (0, lv_args 0 [.ref 0, .int a1, .int a2, .ref 17], [], (X, w)) (.inl (some (.int (nI 3))), (X1, w)) 1 := by
  show ab_Ec S 219 (0, [(0, .ref 0), (1, .int a1), (2, .int a2), (3, .ref 17)], [], (X, w)) _ (1 + 0)
  refine ab_ec_go 5 (t := (5, [(0, .ref 0), (1, .int a1), (2, .int a2), (3, .ref 17)], [.int a2, .int a1, .ref 0, .int (nI 0), .ref 17], (X, w))) rfl ?_
  refine ab_ec_cx (p2 := 23) (i := 4) (k2 := 192) (as := [.ref 0, .int a1, .int a2]) (rest := [.int (nI 0), .ref 17]) rfl rfl h rfl rfl ?_
  refine ab_ec_go 1 (t := (24, [(0, .ref 0), (1, .int a1), (2, .int a2), (3, .ref 17)], [.int (nI 3)], (X1, w))) rfl ?_
  exact ab_ec_end rfl
set_option maxRecDepth 4000 in
theorem W_addItems_ok (S : Nat × (Nat → Int32)) (w : ab_WW) (X X1 : ab_XX) (v : Int32) (h : ab_Ec S 209 (0, lv_args 0 [.ref 0], [], (X, w)) (.inl (some (.int v)), (X1, w)) 0) : ab_Ec S 226 (0, lv_args 0 [.ref 0, .ref 17], [], (X, w)) (.inl (some (.int (nI 0))), (X1, (vp_updL w.1 0 v.toInt64, w.2))) 0 := by
  show ab_Ec S 226 (0, [(0, .ref 0), (1, .ref 17)], [], (X, w)) _ (0 + 0)
  refine ab_ec_go 3 (t := (3, [(0, .ref 0), (1, .ref 17)], [.ref 0, .int (nI 0), .ref 17], (X, w))) rfl ?_
  refine ab_ec_ca (k2 := 209) (as := [.ref 0]) (rest := [.int (nI 0), .ref 17]) rfl rfl h ?_
  refine ab_ec_go 4 (t := (18, [(0, .ref 0), (1, .ref 17)], [.int (nI 0)], (X1, (vp_updL w.1 0 v.toInt64, w.2)))) rfl ?_
  exact ab_ec_end rfl
set_option maxRecDepth 4000 in
theorem W_addItems_x0 (S : Nat × (Nat → Int32)) (w : ab_WW) (X X1 : ab_XX) (h : ab_Ec S 209 (0, lv_args 0 [.ref 0], [], (X, w)) (.inr 0, (X1, w)) 1) : ab_Ec S 226 (0, lv_args 0 [.ref 0, .ref 17], [], (X, w)) (.inl (some (.int (nI 1))), (X1, w)) 1 := by
  show ab_Ec S 226 (0, [(0, .ref 0), (1, .ref 17)], [], (X, w)) _ (1 + 0)
  refine ab_ec_go 3 (t := (3, [(0, .ref 0), (1, .ref 17)], [.ref 0, .int (nI 0), .ref 17], (X, w))) rfl ?_
  refine ab_ec_cx (p2 := 12) (i := 2) (k2 := 209) (as := [.ref 0]) (rest := [.int (nI 0), .ref 17]) rfl rfl h rfl rfl ?_
  refine ab_ec_go 1 (t := (13, [(0, .ref 0), (1, .ref 17)], [.int (nI 1)], (X1, w))) rfl ?_
  exact ab_ec_end rfl
set_option maxRecDepth 4000 in
theorem W_addItems_x1 (S : Nat × (Nat → Int32)) (w : ab_WW) (X X1 : ab_XX) (h : ab_Ec S 209 (0, lv_args 0 [.ref 0], [], (X, w)) (.inr 1, (X1, w)) 1) : ab_Ec S 226 (0, lv_args 0 [.ref 0, .ref 17], [], (X, w)) (.inl (some (.int (nI 2))), (X1, w)) 1 := by
  show ab_Ec S 226 (0, [(0, .ref 0), (1, .ref 17)], [], (X, w)) _ (1 + 0)
  refine ab_ec_go 3 (t := (3, [(0, .ref 0), (1, .ref 17)], [.ref 0, .int (nI 0), .ref 17], (X, w))) rfl ?_
  refine ab_ec_cx (p2 := 15) (i := 2) (k2 := 209) (as := [.ref 0]) (rest := [.int (nI 0), .ref 17]) rfl rfl h rfl rfl ?_
  refine ab_ec_go 1 (t := (16, [(0, .ref 0), (1, .ref 17)], [.int (nI 2)], (X1, w))) rfl ?_
  exact ab_ec_end rfl
set_option maxRecDepth 4000 in
theorem W_award_ok (S : Nat × (Nat → Int32)) (w : ab_WW) (X X1 : ab_XX) (a1 : Int32) (a2 : Int32) (v : Int32) (h : ab_Ec S 210 (0, lv_args 0 [.ref 0, .int a1, .int a2], [], (X, w)) (.inl (some (.int v)), (X1, w)) 0) : ab_Ec S 227 (0, lv_args 0 [.ref 0, .int a1, .int a2, .ref 17], [], (X, w)) (.inl (some (.int (nI 0))), (X1, (vp_updL w.1 0 v.toInt64, w.2))) 0 := by
  show ab_Ec S 227 (0, [(0, .ref 0), (1, .int a1), (2, .int a2), (3, .ref 17)], [], (X, w)) _ (0 + 0)
  refine ab_ec_go 5 (t := (5, [(0, .ref 0), (1, .int a1), (2, .int a2), (3, .ref 17)], [.int a2, .int a1, .ref 0, .int (nI 0), .ref 17], (X, w))) rfl ?_
  refine ab_ec_ca (k2 := 210) (as := [.ref 0, .int a1, .int a2]) (rest := [.int (nI 0), .ref 17]) rfl rfl h ?_
  refine ab_ec_go 4 (t := (22, [(0, .ref 0), (1, .int a1), (2, .int a2), (3, .ref 17)], [.int (nI 0)], (X1, (vp_updL w.1 0 v.toInt64, w.2)))) rfl ?_
  exact ab_ec_end rfl
set_option maxRecDepth 4000 in
theorem W_award_x2 (S : Nat × (Nat → Int32)) (w : ab_WW) (X X1 : ab_XX) (a1 : Int32) (a2 : Int32) (h : ab_Ec S 210 (0, lv_args 0 [.ref 0, .int a1, .int a2], [], (X, w)) (.inr 2, (X1, w)) 1) : ab_Ec S 227 (0, lv_args 0 [.ref 0, .int a1, .int a2, .ref 17], [], (X, w)) (.inl (some (.int (nI 1))), (X1, w)) 1 := by
  show ab_Ec S 227 (0, [(0, .ref 0), (1, .int a1), (2, .int a2), (3, .ref 17)], [], (X, w)) _ (1 + 0)
  refine ab_ec_go 5 (t := (5, [(0, .ref 0), (1, .int a1), (2, .int a2), (3, .ref 17)], [.int a2, .int a1, .ref 0, .int (nI 0), .ref 17], (X, w))) rfl ?_
  refine ab_ec_cx (p2 := 15) (i := 4) (k2 := 210) (as := [.ref 0, .int a1, .int a2]) (rest := [.int (nI 0), .ref 17]) rfl rfl h rfl rfl ?_
  refine ab_ec_go 1 (t := (16, [(0, .ref 0), (1, .int a1), (2, .int a2), (3, .ref 17)], [.int (nI 1)], (X1, w))) rfl ?_
  exact ab_ec_end rfl
set_option maxRecDepth 4000 in
theorem W_award_x3 (S : Nat × (Nat → Int32)) (w : ab_WW) (X X1 : ab_XX) (a1 : Int32) (a2 : Int32) (h : ab_Ec S 210 (0, lv_args 0 [.ref 0, .int a1, .int a2], [], (X, w)) (.inr 3, (X1, w)) 1) : ab_Ec S 227 (0, lv_args 0 [.ref 0, .int a1, .int a2, .ref 17], [], (X, w)) (.inl (some (.int (nI 2))), (X1, w)) 1 := by
  show ab_Ec S 227 (0, [(0, .ref 0), (1, .int a1), (2, .int a2), (3, .ref 17)], [], (X, w)) _ (1 + 0)
  refine ab_ec_go 5 (t := (5, [(0, .ref 0), (1, .int a1), (2, .int a2), (3, .ref 17)], [.int a2, .int a1, .ref 0, .int (nI 0), .ref 17], (X, w))) rfl ?_
  refine ab_ec_cx (p2 := 19) (i := 4) (k2 := 210) (as := [.ref 0, .int a1, .int a2]) (rest := [.int (nI 0), .ref 17]) rfl rfl h rfl rfl ?_
  refine ab_ec_go 1 (t := (20, [(0, .ref 0), (1, .int a1), (2, .int a2), (3, .ref 17)], [.int (nI 2)], (X1, w))) rfl ?_
  exact ab_ec_end rfl
set_option maxRecDepth 4000 in
theorem W_bestPoints_ok (S : Nat × (Nat → Int32)) (w : ab_WW) (X X1 : ab_XX) (a1 : Int32) (v : Int32) (h : ab_Ec S 211 (0, lv_args 0 [.ref 0, .int a1], [], (X, w)) (.inl (some (.int v)), (X1, w)) 0) : ab_Ec S 228 (0, lv_args 0 [.ref 0, .int a1, .ref 17], [], (X, w)) (.inl (some (.int (nI 0))), (X1, (vp_updL w.1 0 v.toInt64, w.2))) 0 := by
  show ab_Ec S 228 (0, [(0, .ref 0), (1, .int a1), (2, .ref 17)], [], (X, w)) _ (0 + 0)
  refine ab_ec_go 4 (t := (4, [(0, .ref 0), (1, .int a1), (2, .ref 17)], [.int a1, .ref 0, .int (nI 0), .ref 17], (X, w))) rfl ?_
  refine ab_ec_ca (k2 := 211) (as := [.ref 0, .int a1]) (rest := [.int (nI 0), .ref 17]) rfl rfl h ?_
  refine ab_ec_go 4 (t := (16, [(0, .ref 0), (1, .int a1), (2, .ref 17)], [.int (nI 0)], (X1, (vp_updL w.1 0 v.toInt64, w.2)))) rfl ?_
  exact ab_ec_end rfl
set_option maxRecDepth 4000 in
theorem W_bestPoints_x2 (S : Nat × (Nat → Int32)) (w : ab_WW) (X X1 : ab_XX) (a1 : Int32) (h : ab_Ec S 211 (0, lv_args 0 [.ref 0, .int a1], [], (X, w)) (.inr 2, (X1, w)) 1) : ab_Ec S 228 (0, lv_args 0 [.ref 0, .int a1, .ref 17], [], (X, w)) (.inl (some (.int (nI 1))), (X1, w)) 1 := by
  show ab_Ec S 228 (0, [(0, .ref 0), (1, .int a1), (2, .ref 17)], [], (X, w)) _ (1 + 0)
  refine ab_ec_go 4 (t := (4, [(0, .ref 0), (1, .int a1), (2, .ref 17)], [.int a1, .ref 0, .int (nI 0), .ref 17], (X, w))) rfl ?_
  refine ab_ec_cx (p2 := 13) (i := 3) (k2 := 211) (as := [.ref 0, .int a1]) (rest := [.int (nI 0), .ref 17]) rfl rfl h rfl rfl ?_
  refine ab_ec_go 1 (t := (14, [(0, .ref 0), (1, .int a1), (2, .ref 17)], [.int (nI 1)], (X1, w))) rfl ?_
  exact ab_ec_end rfl
set_option maxRecDepth 4000 in
theorem W_bestSet_ok (S : Nat × (Nat → Int32)) (w : ab_WW) (X X1 : ab_XX) (a1 : Int32) (v : Int32) (h : ab_Ec S 212 (0, lv_args 0 [.ref 0, .int a1], [], (X, w)) (.inl (some (.int v)), (X1, w)) 0) : ab_Ec S 229 (0, lv_args 0 [.ref 0, .int a1, .ref 17], [], (X, w)) (.inl (some (.int (nI 0))), (X1, (vp_updL w.1 0 v.toInt64, w.2))) 0 := by
  show ab_Ec S 229 (0, [(0, .ref 0), (1, .int a1), (2, .ref 17)], [], (X, w)) _ (0 + 0)
  refine ab_ec_go 4 (t := (4, [(0, .ref 0), (1, .int a1), (2, .ref 17)], [.int a1, .ref 0, .int (nI 0), .ref 17], (X, w))) rfl ?_
  refine ab_ec_ca (k2 := 212) (as := [.ref 0, .int a1]) (rest := [.int (nI 0), .ref 17]) rfl rfl h ?_
  refine ab_ec_go 4 (t := (16, [(0, .ref 0), (1, .int a1), (2, .ref 17)], [.int (nI 0)], (X1, (vp_updL w.1 0 v.toInt64, w.2)))) rfl ?_
  exact ab_ec_end rfl
set_option maxRecDepth 4000 in
theorem W_bestSet_x2 (S : Nat × (Nat → Int32)) (w : ab_WW) (X X1 : ab_XX) (a1 : Int32) (h : ab_Ec S 212 (0, lv_args 0 [.ref 0, .int a1], [], (X, w)) (.inr 2, (X1, w)) 1) : ab_Ec S 229 (0, lv_args 0 [.ref 0, .int a1, .ref 17], [], (X, w)) (.inl (some (.int (nI 1))), (X1, w)) 1 := by
  show ab_Ec S 229 (0, [(0, .ref 0), (1, .int a1), (2, .ref 17)], [], (X, w)) _ (1 + 0)
  refine ab_ec_go 4 (t := (4, [(0, .ref 0), (1, .int a1), (2, .ref 17)], [.int a1, .ref 0, .int (nI 0), .ref 17], (X, w))) rfl ?_
  refine ab_ec_cx (p2 := 13) (i := 3) (k2 := 212) (as := [.ref 0, .int a1]) (rest := [.int (nI 0), .ref 17]) rfl rfl h rfl rfl ?_
  refine ab_ec_go 1 (t := (14, [(0, .ref 0), (1, .int a1), (2, .ref 17)], [.int (nI 1)], (X1, w))) rfl ?_
  exact ab_ec_end rfl
set_option maxRecDepth 4000 in
theorem W_nextChoice_ok (S : Nat × (Nat → Int32)) (w : ab_WW) (X X1 : ab_XX) (a1 : Int32) (v : Int32) (h : ab_Ec S 215 (0, lv_args 0 [.ref 0, .int a1], [], (X, w)) (.inl (some (.int v)), (X1, w)) 0) : ab_Ec S 230 (0, lv_args 0 [.ref 0, .int a1, .ref 17], [], (X, w)) (.inl (some (.int (nI 0))), (X1, (vp_updL w.1 0 v.toInt64, w.2))) 0 := by
  show ab_Ec S 230 (0, [(0, .ref 0), (1, .int a1), (2, .ref 17)], [], (X, w)) _ (0 + 0)
  refine ab_ec_go 4 (t := (4, [(0, .ref 0), (1, .int a1), (2, .ref 17)], [.int a1, .ref 0, .int (nI 0), .ref 17], (X, w))) rfl ?_
  refine ab_ec_ca (k2 := 215) (as := [.ref 0, .int a1]) (rest := [.int (nI 0), .ref 17]) rfl rfl h ?_
  refine ab_ec_go 4 (t := (19, [(0, .ref 0), (1, .int a1), (2, .ref 17)], [.int (nI 0)], (X1, (vp_updL w.1 0 v.toInt64, w.2)))) rfl ?_
  exact ab_ec_end rfl
set_option maxRecDepth 4000 in
theorem W_nextChoice_x2 (S : Nat × (Nat → Int32)) (w : ab_WW) (X X1 : ab_XX) (a1 : Int32) (h : ab_Ec S 215 (0, lv_args 0 [.ref 0, .int a1], [], (X, w)) (.inr 2, (X1, w)) 1) : ab_Ec S 230 (0, lv_args 0 [.ref 0, .int a1, .ref 17], [], (X, w)) (.inl (some (.int (nI 1))), (X1, w)) 1 := by
  show ab_Ec S 230 (0, [(0, .ref 0), (1, .int a1), (2, .ref 17)], [], (X, w)) _ (1 + 0)
  refine ab_ec_go 4 (t := (4, [(0, .ref 0), (1, .int a1), (2, .ref 17)], [.int a1, .ref 0, .int (nI 0), .ref 17], (X, w))) rfl ?_
  refine ab_ec_cx (p2 := 13) (i := 3) (k2 := 215) (as := [.ref 0, .int a1]) (rest := [.int (nI 0), .ref 17]) rfl rfl h rfl rfl ?_
  refine ab_ec_go 1 (t := (14, [(0, .ref 0), (1, .int a1), (2, .ref 17)], [.int (nI 1)], (X1, w))) rfl ?_
  exact ab_ec_end rfl
set_option maxRecDepth 4000 in
theorem W_nextChoice_x4 (S : Nat × (Nat → Int32)) (w : ab_WW) (X X1 : ab_XX) (a1 : Int32) (h : ab_Ec S 215 (0, lv_args 0 [.ref 0, .int a1], [], (X, w)) (.inr 4, (X1, w)) 1) : ab_Ec S 230 (0, lv_args 0 [.ref 0, .int a1, .ref 17], [], (X, w)) (.inl (some (.int (nI 2))), (X1, w)) 1 := by
  show ab_Ec S 230 (0, [(0, .ref 0), (1, .int a1), (2, .ref 17)], [], (X, w)) _ (1 + 0)
  refine ab_ec_go 4 (t := (4, [(0, .ref 0), (1, .int a1), (2, .ref 17)], [.int a1, .ref 0, .int (nI 0), .ref 17], (X, w))) rfl ?_
  refine ab_ec_cx (p2 := 16) (i := 3) (k2 := 215) (as := [.ref 0, .int a1]) (rest := [.int (nI 0), .ref 17]) rfl rfl h rfl rfl ?_
  refine ab_ec_go 1 (t := (17, [(0, .ref 0), (1, .int a1), (2, .ref 17)], [.int (nI 2)], (X1, w))) rfl ?_
  exact ab_ec_end rfl
set_option maxRecDepth 4000 in
theorem W_obstacle_ok (S : Nat × (Nat → Int32)) (w : ab_WW) (X X1 : ab_XX) (a1 : Int32) (a2 : Int32) (a3 : Int32) (v : Int32) (h : ab_Ec S 216 (0, lv_args 0 [.ref 0, .int a1, .int a2, .int a3], [], (X, w)) (.inl (some (.int v)), (X1, w)) 0) : ab_Ec S 231 (0, lv_args 0 [.ref 0, .int a1, .int a2, .int a3, .ref 17], [], (X, w)) (.inl (some (.int (nI 0))), (X1, (vp_updL w.1 0 v.toInt64, w.2))) 0 := by
  show ab_Ec S 231 (0, [(0, .ref 0), (1, .int a1), (2, .int a2), (3, .int a3), (4, .ref 17)], [], (X, w)) _ (0 + 0)
  refine ab_ec_go 6 (t := (7, [(0, .ref 0), (1, .int a1), (2, .int a2), (3, .int a3), (4, .ref 17)], [.int a3, .int a2, .int a1, .ref 0, .int (nI 0), .ref 17], (X, w))) rfl ?_
  refine ab_ec_ca (k2 := 216) (as := [.ref 0, .int a1, .int a2, .int a3]) (rest := [.int (nI 0), .ref 17]) rfl rfl h ?_
  refine ab_ec_go 4 (t := (24, [(0, .ref 0), (1, .int a1), (2, .int a2), (3, .int a3), (4, .ref 17)], [.int (nI 0)], (X1, (vp_updL w.1 0 v.toInt64, w.2)))) rfl ?_
  exact ab_ec_end rfl
set_option maxRecDepth 4000 in
theorem W_obstacle_x2 (S : Nat × (Nat → Int32)) (w : ab_WW) (X X1 : ab_XX) (a1 : Int32) (a2 : Int32) (a3 : Int32) (h : ab_Ec S 216 (0, lv_args 0 [.ref 0, .int a1, .int a2, .int a3], [], (X, w)) (.inr 2, (X1, w)) 1) : ab_Ec S 231 (0, lv_args 0 [.ref 0, .int a1, .int a2, .int a3, .ref 17], [], (X, w)) (.inl (some (.int (nI 1))), (X1, w)) 1 := by
  show ab_Ec S 231 (0, [(0, .ref 0), (1, .int a1), (2, .int a2), (3, .int a3), (4, .ref 17)], [], (X, w)) _ (1 + 0)
  refine ab_ec_go 6 (t := (7, [(0, .ref 0), (1, .int a1), (2, .int a2), (3, .int a3), (4, .ref 17)], [.int a3, .int a2, .int a1, .ref 0, .int (nI 0), .ref 17], (X, w))) rfl ?_
  refine ab_ec_cx (p2 := 17) (i := 5) (k2 := 216) (as := [.ref 0, .int a1, .int a2, .int a3]) (rest := [.int (nI 0), .ref 17]) rfl rfl h rfl rfl ?_
  refine ab_ec_go 1 (t := (18, [(0, .ref 0), (1, .int a1), (2, .int a2), (3, .int a3), (4, .ref 17)], [.int (nI 1)], (X1, w))) rfl ?_
  exact ab_ec_end rfl
set_option maxRecDepth 4000 in
theorem W_obstacle_x0 (S : Nat × (Nat → Int32)) (w : ab_WW) (X X1 : ab_XX) (a1 : Int32) (a2 : Int32) (a3 : Int32) (h : ab_Ec S 216 (0, lv_args 0 [.ref 0, .int a1, .int a2, .int a3], [], (X, w)) (.inr 0, (X1, w)) 1) : ab_Ec S 231 (0, lv_args 0 [.ref 0, .int a1, .int a2, .int a3, .ref 17], [], (X, w)) (.inl (some (.int (nI 2))), (X1, w)) 1 := by
  show ab_Ec S 231 (0, [(0, .ref 0), (1, .int a1), (2, .int a2), (3, .int a3), (4, .ref 17)], [], (X, w)) _ (1 + 0)
  refine ab_ec_go 6 (t := (7, [(0, .ref 0), (1, .int a1), (2, .int a2), (3, .int a3), (4, .ref 17)], [.int a3, .int a2, .int a1, .ref 0, .int (nI 0), .ref 17], (X, w))) rfl ?_
  refine ab_ec_cx (p2 := 21) (i := 5) (k2 := 216) (as := [.ref 0, .int a1, .int a2, .int a3]) (rest := [.int (nI 0), .ref 17]) rfl rfl h rfl rfl ?_
  refine ab_ec_go 1 (t := (22, [(0, .ref 0), (1, .int a1), (2, .int a2), (3, .int a3), (4, .ref 17)], [.int (nI 2)], (X1, w))) rfl ?_
  exact ab_ec_end rfl
set_option maxRecDepth 4000 in
theorem W_exchange_ok (S : Nat × (Nat → Int32)) (w : ab_WW) (X X1 : ab_XX) (a1 : Int32) (a2 : Int32) (a3 : Int32) (a4 : Int32) (h : ab_Ec S 221 (0, lv_args 0 [.ref 0, .int a1, .int a2, .int a3, .int a4], [], (X, w)) (.inl (none), (X1, w)) 0) : ab_Ec S 234 (0, lv_args 0 [.ref 0, .int a1, .int a2, .int a3, .int a4], [], (X, w)) (.inl (some (.int (nI 0))), (X1, w)) 0 := by
  show ab_Ec S 234 (0, [(0, .ref 0), (1, .int a1), (2, .int a2), (3, .int a3), (4, .int a4)], [], (X, w)) _ (0 + 0)
  refine ab_ec_go 5 (t := (6, [(0, .ref 0), (1, .int a1), (2, .int a2), (3, .int a3), (4, .int a4)], [.int a4, .int a3, .int a2, .int a1, .ref 0], (X, w))) rfl ?_
  refine ab_ec_ca (k2 := 221) (as := [.ref 0, .int a1, .int a2, .int a3, .int a4]) (rest := []) rfl rfl h ?_
  refine ab_ec_go 2 (t := (29, [(0, .ref 0), (1, .int a1), (2, .int a2), (3, .int a3), (4, .int a4)], [.int (nI 0)], (X1, w))) rfl ?_
  exact ab_ec_end rfl
set_option maxRecDepth 4000 in
theorem W_exchange_x2 (S : Nat × (Nat → Int32)) (w : ab_WW) (X X1 : ab_XX) (a1 : Int32) (a2 : Int32) (a3 : Int32) (a4 : Int32) (h : ab_Ec S 221 (0, lv_args 0 [.ref 0, .int a1, .int a2, .int a3, .int a4], [], (X, w)) (.inr 2, (X1, w)) 1) : ab_Ec S 234 (0, lv_args 0 [.ref 0, .int a1, .int a2, .int a3, .int a4], [], (X, w)) (.inl (some (.int (nI 1))), (X1, w)) 1 := by
  show ab_Ec S 234 (0, [(0, .ref 0), (1, .int a1), (2, .int a2), (3, .int a3), (4, .int a4)], [], (X, w)) _ (1 + 0)
  refine ab_ec_go 5 (t := (6, [(0, .ref 0), (1, .int a1), (2, .int a2), (3, .int a3), (4, .int a4)], [.int a4, .int a3, .int a2, .int a1, .ref 0], (X, w))) rfl ?_
  refine ab_ec_cx (p2 := 14) (i := 5) (k2 := 221) (as := [.ref 0, .int a1, .int a2, .int a3, .int a4]) (rest := []) rfl rfl h rfl rfl ?_
  refine ab_ec_go 1 (t := (15, [(0, .ref 0), (1, .int a1), (2, .int a2), (3, .int a3), (4, .int a4)], [.int (nI 1)], (X1, w))) rfl ?_
  exact ab_ec_end rfl
set_option maxRecDepth 4000 in
theorem W_exchange_x0 (S : Nat × (Nat → Int32)) (w : ab_WW) (X X1 : ab_XX) (a1 : Int32) (a2 : Int32) (a3 : Int32) (a4 : Int32) (h : ab_Ec S 221 (0, lv_args 0 [.ref 0, .int a1, .int a2, .int a3, .int a4], [], (X, w)) (.inr 0, (X1, w)) 1) : ab_Ec S 234 (0, lv_args 0 [.ref 0, .int a1, .int a2, .int a3, .int a4], [], (X, w)) (.inl (some (.int (nI 2))), (X1, w)) 1 := by
  show ab_Ec S 234 (0, [(0, .ref 0), (1, .int a1), (2, .int a2), (3, .int a3), (4, .int a4)], [], (X, w)) _ (1 + 0)
  refine ab_ec_go 5 (t := (6, [(0, .ref 0), (1, .int a1), (2, .int a2), (3, .int a3), (4, .int a4)], [.int a4, .int a3, .int a2, .int a1, .ref 0], (X, w))) rfl ?_
  refine ab_ec_cx (p2 := 18) (i := 5) (k2 := 221) (as := [.ref 0, .int a1, .int a2, .int a3, .int a4]) (rest := []) rfl rfl h rfl rfl ?_
  refine ab_ec_go 1 (t := (19, [(0, .ref 0), (1, .int a1), (2, .int a2), (3, .int a3), (4, .int a4)], [.int (nI 2)], (X1, w))) rfl ?_
  exact ab_ec_end rfl
set_option maxRecDepth 4000 in
theorem W_exchange_x4 (S : Nat × (Nat → Int32)) (w : ab_WW) (X X1 : ab_XX) (a1 : Int32) (a2 : Int32) (a3 : Int32) (a4 : Int32) (h : ab_Ec S 221 (0, lv_args 0 [.ref 0, .int a1, .int a2, .int a3, .int a4], [], (X, w)) (.inr 4, (X1, w)) 1) : ab_Ec S 234 (0, lv_args 0 [.ref 0, .int a1, .int a2, .int a3, .int a4], [], (X, w)) (.inl (some (.int (nI 3))), (X1, w)) 1 := by
  show ab_Ec S 234 (0, [(0, .ref 0), (1, .int a1), (2, .int a2), (3, .int a3), (4, .int a4)], [], (X, w)) _ (1 + 0)
  refine ab_ec_go 5 (t := (6, [(0, .ref 0), (1, .int a1), (2, .int a2), (3, .int a3), (4, .int a4)], [.int a4, .int a3, .int a2, .int a1, .ref 0], (X, w))) rfl ?_
  refine ab_ec_cx (p2 := 22) (i := 5) (k2 := 221) (as := [.ref 0, .int a1, .int a2, .int a3, .int a4]) (rest := []) rfl rfl h rfl rfl ?_
  refine ab_ec_go 1 (t := (23, [(0, .ref 0), (1, .int a1), (2, .int a2), (3, .int a3), (4, .int a4)], [.int (nI 3)], (X1, w))) rfl ?_
  exact ab_ec_end rfl
set_option maxRecDepth 4000 in
theorem W_exchange_x3 (S : Nat × (Nat → Int32)) (w : ab_WW) (X X1 : ab_XX) (a1 : Int32) (a2 : Int32) (a3 : Int32) (a4 : Int32) (h : ab_Ec S 221 (0, lv_args 0 [.ref 0, .int a1, .int a2, .int a3, .int a4], [], (X, w)) (.inr 3, (X1, w)) 1) : ab_Ec S 234 (0, lv_args 0 [.ref 0, .int a1, .int a2, .int a3, .int a4], [], (X, w)) (.inl (some (.int (nI 4))), (X1, w)) 1 := by
  show ab_Ec S 234 (0, [(0, .ref 0), (1, .int a1), (2, .int a2), (3, .int a3), (4, .int a4)], [], (X, w)) _ (1 + 0)
  refine ab_ec_go 5 (t := (6, [(0, .ref 0), (1, .int a1), (2, .int a2), (3, .int a3), (4, .int a4)], [.int a4, .int a3, .int a2, .int a1, .ref 0], (X, w))) rfl ?_
  refine ab_ec_cx (p2 := 26) (i := 5) (k2 := 221) (as := [.ref 0, .int a1, .int a2, .int a3, .int a4]) (rest := []) rfl rfl h rfl rfl ?_
  refine ab_ec_go 1 (t := (27, [(0, .ref 0), (1, .int a1), (2, .int a2), (3, .int a3), (4, .int a4)], [.int (nI 4)], (X1, w))) rfl ?_
  exact ab_ec_end rfl
set_option maxRecDepth 4000 in
theorem W_partner_ok (S : Nat × (Nat → Int32)) (w : ab_WW) (X X1 : ab_XX) (a1 : Int32) (a2 : Int32) (a3 : Int32) (v : Int32) (h : ab_Ec S 222 (0, lv_args 0 [.ref 0, .int a1, .int a2, .int a3], [], (X, w)) (.inl (some (.int v)), (X1, w)) 0) : ab_Ec S 235 (0, lv_args 0 [.ref 0, .int a1, .int a2, .int a3, .ref 17], [], (X, w)) (.inl (some (.int (nI 0))), (X1, (vp_updL w.1 0 v.toInt64, w.2))) 0 := by
  show ab_Ec S 235 (0, [(0, .ref 0), (1, .int a1), (2, .int a2), (3, .int a3), (4, .ref 17)], [], (X, w)) _ (0 + 0)
  refine ab_ec_go 6 (t := (7, [(0, .ref 0), (1, .int a1), (2, .int a2), (3, .int a3), (4, .ref 17)], [.int a3, .int a2, .int a1, .ref 0, .int (nI 0), .ref 17], (X, w))) rfl ?_
  refine ab_ec_ca (k2 := 222) (as := [.ref 0, .int a1, .int a2, .int a3]) (rest := [.int (nI 0), .ref 17]) rfl rfl h ?_
  refine ab_ec_go 4 (t := (28, [(0, .ref 0), (1, .int a1), (2, .int a2), (3, .int a3), (4, .ref 17)], [.int (nI 0)], (X1, (vp_updL w.1 0 v.toInt64, w.2)))) rfl ?_
  exact ab_ec_end rfl
set_option maxRecDepth 4000 in
theorem W_partner_x2 (S : Nat × (Nat → Int32)) (w : ab_WW) (X X1 : ab_XX) (a1 : Int32) (a2 : Int32) (a3 : Int32) (h : ab_Ec S 222 (0, lv_args 0 [.ref 0, .int a1, .int a2, .int a3], [], (X, w)) (.inr 2, (X1, w)) 1) : ab_Ec S 235 (0, lv_args 0 [.ref 0, .int a1, .int a2, .int a3, .ref 17], [], (X, w)) (.inl (some (.int (nI 1))), (X1, w)) 1 := by
  show ab_Ec S 235 (0, [(0, .ref 0), (1, .int a1), (2, .int a2), (3, .int a3), (4, .ref 17)], [], (X, w)) _ (1 + 0)
  refine ab_ec_go 6 (t := (7, [(0, .ref 0), (1, .int a1), (2, .int a2), (3, .int a3), (4, .ref 17)], [.int a3, .int a2, .int a1, .ref 0, .int (nI 0), .ref 17], (X, w))) rfl ?_
  refine ab_ec_cx (p2 := 17) (i := 5) (k2 := 222) (as := [.ref 0, .int a1, .int a2, .int a3]) (rest := [.int (nI 0), .ref 17]) rfl rfl h rfl rfl ?_
  refine ab_ec_go 1 (t := (18, [(0, .ref 0), (1, .int a1), (2, .int a2), (3, .int a3), (4, .ref 17)], [.int (nI 1)], (X1, w))) rfl ?_
  exact ab_ec_end rfl
set_option maxRecDepth 4000 in
theorem W_partner_x0 (S : Nat × (Nat → Int32)) (w : ab_WW) (X X1 : ab_XX) (a1 : Int32) (a2 : Int32) (a3 : Int32) (h : ab_Ec S 222 (0, lv_args 0 [.ref 0, .int a1, .int a2, .int a3], [], (X, w)) (.inr 0, (X1, w)) 1) : ab_Ec S 235 (0, lv_args 0 [.ref 0, .int a1, .int a2, .int a3, .ref 17], [], (X, w)) (.inl (some (.int (nI 2))), (X1, w)) 1 := by
  show ab_Ec S 235 (0, [(0, .ref 0), (1, .int a1), (2, .int a2), (3, .int a3), (4, .ref 17)], [], (X, w)) _ (1 + 0)
  refine ab_ec_go 6 (t := (7, [(0, .ref 0), (1, .int a1), (2, .int a2), (3, .int a3), (4, .ref 17)], [.int a3, .int a2, .int a1, .ref 0, .int (nI 0), .ref 17], (X, w))) rfl ?_
  refine ab_ec_cx (p2 := 21) (i := 5) (k2 := 222) (as := [.ref 0, .int a1, .int a2, .int a3]) (rest := [.int (nI 0), .ref 17]) rfl rfl h rfl rfl ?_
  refine ab_ec_go 1 (t := (22, [(0, .ref 0), (1, .int a1), (2, .int a2), (3, .int a3), (4, .ref 17)], [.int (nI 2)], (X1, w))) rfl ?_
  exact ab_ec_end rfl
set_option maxRecDepth 4000 in
theorem W_partner_x4 (S : Nat × (Nat → Int32)) (w : ab_WW) (X X1 : ab_XX) (a1 : Int32) (a2 : Int32) (a3 : Int32) (h : ab_Ec S 222 (0, lv_args 0 [.ref 0, .int a1, .int a2, .int a3], [], (X, w)) (.inr 4, (X1, w)) 1) : ab_Ec S 235 (0, lv_args 0 [.ref 0, .int a1, .int a2, .int a3, .ref 17], [], (X, w)) (.inl (some (.int (nI 3))), (X1, w)) 1 := by
  show ab_Ec S 235 (0, [(0, .ref 0), (1, .int a1), (2, .int a2), (3, .int a3), (4, .ref 17)], [], (X, w)) _ (1 + 0)
  refine ab_ec_go 6 (t := (7, [(0, .ref 0), (1, .int a1), (2, .int a2), (3, .int a3), (4, .ref 17)], [.int a3, .int a2, .int a1, .ref 0, .int (nI 0), .ref 17], (X, w))) rfl ?_
  refine ab_ec_cx (p2 := 25) (i := 5) (k2 := 222) (as := [.ref 0, .int a1, .int a2, .int a3]) (rest := [.int (nI 0), .ref 17]) rfl rfl h rfl rfl ?_
  refine ab_ec_go 1 (t := (26, [(0, .ref 0), (1, .int a1), (2, .int a2), (3, .int a3), (4, .ref 17)], [.int (nI 3)], (X1, w))) rfl ?_
  exact ab_ec_end rfl
set_option maxRecDepth 4000 in
theorem W_rotate_ok (S : Nat × (Nat → Int32)) (w : ab_WW) (X X1 : ab_XX) (a1 : Int32) (a2 : Int32) (a3 : Int32) (a4 : Int32) (a5 : Int32) (a6 : Int32) (h : ab_Ec S 223 (0, lv_args 0 [.ref 0, .int a1, .int a2, .int a3, .int a4, .int a5, .int a6], [], (X, w)) (.inl (none), (X1, w)) 0) : ab_Ec S 236 (0, lv_args 0 [.ref 0, .int a1, .int a2, .int a3, .int a4, .int a5, .int a6], [], (X, w)) (.inl (some (.int (nI 0))), (X1, w)) 0 := by
  show ab_Ec S 236 (0, [(0, .ref 0), (1, .int a1), (2, .int a2), (3, .int a3), (4, .int a4), (5, .int a5), (6, .int a6)], [], (X, w)) _ (0 + 0)
  refine ab_ec_go 7 (t := (10, [(0, .ref 0), (1, .int a1), (2, .int a2), (3, .int a3), (4, .int a4), (5, .int a5), (6, .int a6)], [.int a6, .int a5, .int a4, .int a3, .int a2, .int a1, .ref 0], (X, w))) rfl ?_
  refine ab_ec_ca (k2 := 223) (as := [.ref 0, .int a1, .int a2, .int a3, .int a4, .int a5, .int a6]) (rest := []) rfl rfl h ?_
  refine ab_ec_go 2 (t := (33, [(0, .ref 0), (1, .int a1), (2, .int a2), (3, .int a3), (4, .int a4), (5, .int a5), (6, .int a6)], [.int (nI 0)], (X1, w))) rfl ?_
  exact ab_ec_end rfl
set_option maxRecDepth 4000 in
theorem W_rotate_x2 (S : Nat × (Nat → Int32)) (w : ab_WW) (X X1 : ab_XX) (a1 : Int32) (a2 : Int32) (a3 : Int32) (a4 : Int32) (a5 : Int32) (a6 : Int32) (h : ab_Ec S 223 (0, lv_args 0 [.ref 0, .int a1, .int a2, .int a3, .int a4, .int a5, .int a6], [], (X, w)) (.inr 2, (X1, w)) 1) : ab_Ec S 236 (0, lv_args 0 [.ref 0, .int a1, .int a2, .int a3, .int a4, .int a5, .int a6], [], (X, w)) (.inl (some (.int (nI 1))), (X1, w)) 1 := by
  show ab_Ec S 236 (0, [(0, .ref 0), (1, .int a1), (2, .int a2), (3, .int a3), (4, .int a4), (5, .int a5), (6, .int a6)], [], (X, w)) _ (1 + 0)
  refine ab_ec_go 7 (t := (10, [(0, .ref 0), (1, .int a1), (2, .int a2), (3, .int a3), (4, .int a4), (5, .int a5), (6, .int a6)], [.int a6, .int a5, .int a4, .int a3, .int a2, .int a1, .ref 0], (X, w))) rfl ?_
  refine ab_ec_cx (p2 := 18) (i := 7) (k2 := 223) (as := [.ref 0, .int a1, .int a2, .int a3, .int a4, .int a5, .int a6]) (rest := []) rfl rfl h rfl rfl ?_
  refine ab_ec_go 1 (t := (19, [(0, .ref 0), (1, .int a1), (2, .int a2), (3, .int a3), (4, .int a4), (5, .int a5), (6, .int a6)], [.int (nI 1)], (X1, w))) rfl ?_
  exact ab_ec_end rfl
set_option maxRecDepth 4000 in
theorem W_rotate_x0 (S : Nat × (Nat → Int32)) (w : ab_WW) (X X1 : ab_XX) (a1 : Int32) (a2 : Int32) (a3 : Int32) (a4 : Int32) (a5 : Int32) (a6 : Int32) (h : ab_Ec S 223 (0, lv_args 0 [.ref 0, .int a1, .int a2, .int a3, .int a4, .int a5, .int a6], [], (X, w)) (.inr 0, (X1, w)) 1) : ab_Ec S 236 (0, lv_args 0 [.ref 0, .int a1, .int a2, .int a3, .int a4, .int a5, .int a6], [], (X, w)) (.inl (some (.int (nI 2))), (X1, w)) 1 := by
  show ab_Ec S 236 (0, [(0, .ref 0), (1, .int a1), (2, .int a2), (3, .int a3), (4, .int a4), (5, .int a5), (6, .int a6)], [], (X, w)) _ (1 + 0)
  refine ab_ec_go 7 (t := (10, [(0, .ref 0), (1, .int a1), (2, .int a2), (3, .int a3), (4, .int a4), (5, .int a5), (6, .int a6)], [.int a6, .int a5, .int a4, .int a3, .int a2, .int a1, .ref 0], (X, w))) rfl ?_
  refine ab_ec_cx (p2 := 22) (i := 7) (k2 := 223) (as := [.ref 0, .int a1, .int a2, .int a3, .int a4, .int a5, .int a6]) (rest := []) rfl rfl h rfl rfl ?_
  refine ab_ec_go 1 (t := (23, [(0, .ref 0), (1, .int a1), (2, .int a2), (3, .int a3), (4, .int a4), (5, .int a5), (6, .int a6)], [.int (nI 2)], (X1, w))) rfl ?_
  exact ab_ec_end rfl
set_option maxRecDepth 4000 in
theorem W_rotate_x4 (S : Nat × (Nat → Int32)) (w : ab_WW) (X X1 : ab_XX) (a1 : Int32) (a2 : Int32) (a3 : Int32) (a4 : Int32) (a5 : Int32) (a6 : Int32) (h : ab_Ec S 223 (0, lv_args 0 [.ref 0, .int a1, .int a2, .int a3, .int a4, .int a5, .int a6], [], (X, w)) (.inr 4, (X1, w)) 1) : ab_Ec S 236 (0, lv_args 0 [.ref 0, .int a1, .int a2, .int a3, .int a4, .int a5, .int a6], [], (X, w)) (.inl (some (.int (nI 3))), (X1, w)) 1 := by
  show ab_Ec S 236 (0, [(0, .ref 0), (1, .int a1), (2, .int a2), (3, .int a3), (4, .int a4), (5, .int a5), (6, .int a6)], [], (X, w)) _ (1 + 0)
  refine ab_ec_go 7 (t := (10, [(0, .ref 0), (1, .int a1), (2, .int a2), (3, .int a3), (4, .int a4), (5, .int a5), (6, .int a6)], [.int a6, .int a5, .int a4, .int a3, .int a2, .int a1, .ref 0], (X, w))) rfl ?_
  refine ab_ec_cx (p2 := 26) (i := 7) (k2 := 223) (as := [.ref 0, .int a1, .int a2, .int a3, .int a4, .int a5, .int a6]) (rest := []) rfl rfl h rfl rfl ?_
  refine ab_ec_go 1 (t := (27, [(0, .ref 0), (1, .int a1), (2, .int a2), (3, .int a3), (4, .int a4), (5, .int a5), (6, .int a6)], [.int (nI 3)], (X1, w))) rfl ?_
  exact ab_ec_end rfl
set_option maxRecDepth 4000 in
theorem W_rotate_x3 (S : Nat × (Nat → Int32)) (w : ab_WW) (X X1 : ab_XX) (a1 : Int32) (a2 : Int32) (a3 : Int32) (a4 : Int32) (a5 : Int32) (a6 : Int32) (h : ab_Ec S 223 (0, lv_args 0 [.ref 0, .int a1, .int a2, .int a3, .int a4, .int a5, .int a6], [], (X, w)) (.inr 3, (X1, w)) 1) : ab_Ec S 236 (0, lv_args 0 [.ref 0, .int a1, .int a2, .int a3, .int a4, .int a5, .int a6], [], (X, w)) (.inl (some (.int (nI 4))), (X1, w)) 1 := by
  show ab_Ec S 236 (0, [(0, .ref 0), (1, .int a1), (2, .int a2), (3, .int a3), (4, .int a4), (5, .int a5), (6, .int a6)], [], (X, w)) _ (1 + 0)
  refine ab_ec_go 7 (t := (10, [(0, .ref 0), (1, .int a1), (2, .int a2), (3, .int a3), (4, .int a4), (5, .int a5), (6, .int a6)], [.int a6, .int a5, .int a4, .int a3, .int a2, .int a1, .ref 0], (X, w))) rfl ?_
  refine ab_ec_cx (p2 := 30) (i := 7) (k2 := 223) (as := [.ref 0, .int a1, .int a2, .int a3, .int a4, .int a5, .int a6]) (rest := []) rfl rfl h rfl rfl ?_
  refine ab_ec_go 1 (t := (31, [(0, .ref 0), (1, .int a1), (2, .int a2), (3, .int a3), (4, .int a4), (5, .int a5), (6, .int a6)], [.int (nI 4)], (X1, w))) rfl ?_
  exact ab_ec_end rfl
