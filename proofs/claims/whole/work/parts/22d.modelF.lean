/-! ===== what the methods of the reference compute, part 4 (by program: wip/whole/tools/dec.py) ===== -/
set_option maxRecDepth 4000 in
theorem T_M_isDone (S : Nat × (Nat → Int32)) (w : ab_WW) (X : ab_XX) (a1 : Int32) : ab_Eg (ab_m3 ab_fI w) S 183 (0, lv_args 0 [.ref 13, .int a1], [], (X, w)) (F_M_isDone X a1) := by
  show ab_Eg (ab_m3 ab_fI w) S 183 (0, [(0, .ref 13), (1, .int a1)], [], (X, w)) _
  unfold F_M_isDone
  refine ab_e_go 7 (10, [(2, .int ((nI 6) * a1)), (0, .ref 13), (1, .int a1)], [.int ((nI 6) * a1), .ref 16], (X, w)) rfl ?_
  refine ab_e_gd (11, [(2, .int ((nI 6) * a1)), (0, .ref 13), (1, .int a1)], [.int (X 16 ((nI 6) * a1).toNatClampNeg)], (X, w)) rfl ?_
  refine ab_e_letI (fun v787 _ => ?_)
  refine ab_e_bn (c := v787 = nI 0) (61, [(2, .int ((nI 6) * a1)), (0, .ref 13), (1, .int a1)], [], (X, w)) (14, [(2, .int ((nI 6) * a1)), (0, .ref 13), (1, .int a1)], [], (X, w)) rfl (fun _ => ?_) (fun _ => ?_)
  · refine ab_e_go 3 (66, [(2, .int ((nI 6) * a1)), (0, .ref 13), (1, .int a1)], [.int ((nI 6) * a1), .ref 16], (X, w)) rfl ?_
    refine ab_e_gd (67, [(2, .int ((nI 6) * a1)), (0, .ref 13), (1, .int a1)], [.int (X 16 ((nI 6) * a1).toNatClampNeg)], (X, w)) rfl ?_
    refine ab_e_letI (fun v788 _ => ?_)
    refine ab_e_go 1 (68, [(2, .int ((nI 6) * a1)), (0, .ref 13), (1, .int a1)], [.int (nI 1), .int v788], (X, w)) rfl ?_
    refine ab_e_bn (c := v788 = nI 1) (118, [(2, .int ((nI 6) * a1)), (0, .ref 13), (1, .int a1)], [], (X, w)) (71, [(2, .int ((nI 6) * a1)), (0, .ref 13), (1, .int a1)], [], (X, w)) rfl (fun _ => ?_) (fun _ => ?_)
    · refine ab_e_go 6 (126, [(2, .int ((nI 6) * a1)), (0, .ref 13), (1, .int a1)], [.int (((nI 6) * a1) + (nI 1)), .ref 16, .ref 13], (X, w)) rfl ?_
      refine ab_e_gd (127, [(2, .int ((nI 6) * a1)), (0, .ref 13), (1, .int a1)], [.int (X 16 (((nI 6) * a1) + (nI 1)).toNatClampNeg), .ref 13], (X, w)) rfl ?_
      refine ab_e_letI (fun v789 _ => ?_)
      refine ab_e_go 5 (134, [(2, .int ((nI 6) * a1)), (0, .ref 13), (1, .int a1)], [.int (((nI 6) * a1) + (nI 2)), .ref 16, .int v789, .ref 13], (X, w)) rfl ?_
      refine ab_e_gd (135, [(2, .int ((nI 6) * a1)), (0, .ref 13), (1, .int a1)], [.int (X 16 (((nI 6) * a1) + (nI 2)).toNatClampNeg), .int v789, .ref 13], (X, w)) rfl ?_
      refine ab_e_letI (fun v790 _ => ?_)
      refine ab_e_go 5 (142, [(2, .int ((nI 6) * a1)), (0, .ref 13), (1, .int a1)], [.int (((nI 6) * a1) + (nI 3)), .ref 16, .int v790, .int v789, .ref 13], (X, w)) rfl ?_
      refine ab_e_gd (143, [(2, .int ((nI 6) * a1)), (0, .ref 13), (1, .int a1)], [.int (X 16 (((nI 6) * a1) + (nI 3)).toNatClampNeg), .int v790, .int v789, .ref 13], (X, w)) rfl ?_
      refine ab_e_letI (fun v791 _ => ?_)
      refine ab_e_c1 (k2 := 141) (as := [.ref 13, .int v789, .int v790, .int v791]) (rest := []) rfl rfl (T_M_bidThrown S w X v789 v790 v791) (fun v792 => ?_)
      refine ab_e_go 2 (148, [(3, .int v792), (2, .int ((nI 6) * a1)), (0, .ref 13), (1, .int a1)], [.int v792], (X, w)) rfl ?_
      refine ab_e_br (c := v792 = nI 0) (153, [(3, .int v792), (2, .int ((nI 6) * a1)), (0, .ref 13), (1, .int a1)], [], (X, w)) (151, [(3, .int v792), (2, .int ((nI 6) * a1)), (0, .ref 13), (1, .int a1)], [], (X, w)) rfl (fun _ => ?_) (fun _ => ?_)
      · refine ab_e_go 3 (158, [(3, .int v792), (2, .int ((nI 6) * a1)), (0, .ref 13), (1, .int a1)], [.int ((nI 6) * a1), .ref 16], (X, w)) rfl ?_
        refine ab_e_gd (159, [(3, .int v792), (2, .int ((nI 6) * a1)), (0, .ref 13), (1, .int a1)], [.int (X 16 ((nI 6) * a1).toNatClampNeg)], (X, w)) rfl ?_
        refine ab_e_letI (fun v793 _ => ?_)
        refine ab_e_bn (c := v793 = nI 0) (209, [(3, .int v792), (2, .int ((nI 6) * a1)), (0, .ref 13), (1, .int a1)], [], (X, w)) (162, [(3, .int v792), (2, .int ((nI 6) * a1)), (0, .ref 13), (1, .int a1)], [], (X, w)) rfl (fun _ => ?_) (fun _ => ?_)
        · refine ab_e_go 3 (214, [(3, .int v792), (2, .int ((nI 6) * a1)), (0, .ref 13), (1, .int a1)], [.int ((nI 6) * a1), .ref 16], (X, w)) rfl ?_
          refine ab_e_gd (215, [(3, .int v792), (2, .int ((nI 6) * a1)), (0, .ref 13), (1, .int a1)], [.int (X 16 ((nI 6) * a1).toNatClampNeg)], (X, w)) rfl ?_
          refine ab_e_letI (fun v794 _ => ?_)
          refine ab_e_go 1 (216, [(3, .int v792), (2, .int ((nI 6) * a1)), (0, .ref 13), (1, .int a1)], [.int (nI 1), .int v794], (X, w)) rfl ?_
          refine ab_e_bn (c := v794 = nI 1) (266, [(3, .int v792), (2, .int ((nI 6) * a1)), (0, .ref 13), (1, .int a1)], [], (X, w)) (219, [(3, .int v792), (2, .int ((nI 6) * a1)), (0, .ref 13), (1, .int a1)], [], (X, w)) rfl (fun _ => ?_) (fun _ => ?_)
          · refine ab_e_go 6 (274, [(3, .int v792), (2, .int ((nI 6) * a1)), (0, .ref 13), (1, .int a1)], [.int (((nI 6) * a1) + (nI 1)), .ref 16, .ref 13], (X, w)) rfl ?_
            refine ab_e_gd (275, [(3, .int v792), (2, .int ((nI 6) * a1)), (0, .ref 13), (1, .int a1)], [.int (X 16 (((nI 6) * a1) + (nI 1)).toNatClampNeg), .ref 13], (X, w)) rfl ?_
            refine ab_e_letI (fun v795 _ => ?_)
            refine ab_e_go 5 (282, [(3, .int v792), (2, .int ((nI 6) * a1)), (0, .ref 13), (1, .int a1)], [.int (((nI 6) * a1) + (nI 2)), .ref 16, .int v795, .ref 13], (X, w)) rfl ?_
            refine ab_e_gd (283, [(3, .int v792), (2, .int ((nI 6) * a1)), (0, .ref 13), (1, .int a1)], [.int (X 16 (((nI 6) * a1) + (nI 2)).toNatClampNeg), .int v795, .ref 13], (X, w)) rfl ?_
            refine ab_e_letI (fun v796 _ => ?_)
            refine ab_e_go 5 (290, [(3, .int v792), (2, .int ((nI 6) * a1)), (0, .ref 13), (1, .int a1)], [.int (((nI 6) * a1) + (nI 3)), .ref 16, .int v796, .int v795, .ref 13], (X, w)) rfl ?_
            refine ab_e_gd (291, [(3, .int v792), (2, .int ((nI 6) * a1)), (0, .ref 13), (1, .int a1)], [.int (X 16 (((nI 6) * a1) + (nI 3)).toNatClampNeg), .int v796, .int v795, .ref 13], (X, w)) rfl ?_
            refine ab_e_letI (fun v797 _ => ?_)
            refine ab_e_c3 (k2 := 100) (as := [.ref 13, .int v795, .int v796, .int v797]) (rest := []) rfl rfl (T_M_laysBid S w X v795 v796 v797) (fun v798 X799 => ?_)
            refine ab_e_go 2 (298, [(4, .int v798), (3, .int v792), (2, .int ((nI 6) * a1)), (0, .ref 13), (1, .int a1)], [.int v798], (X799, w)) rfl ?_
            refine ab_e_br (c := v798 < nI 0) (305, [(4, .int v798), (3, .int v792), (2, .int ((nI 6) * a1)), (0, .ref 13), (1, .int a1)], [], (X799, w)) (301, [(4, .int v798), (3, .int v792), (2, .int ((nI 6) * a1)), (0, .ref 13), (1, .int a1)], [], (X799, w)) rfl (fun _ => ?_) (fun _ => ?_)
            · refine ab_e_go 1 (306, [(4, .int v798), (3, .int v792), (2, .int ((nI 6) * a1)), (0, .ref 13), (1, .int a1)], [.int (nI 0)], (X799, w)) rfl ?_
              exact ab_e_rt rfl rfl
            · refine ab_e_go 2 (306, [(4, .int v798), (3, .int v792), (2, .int ((nI 6) * a1)), (0, .ref 13), (1, .int a1)], [.int (nI 1)], (X799, w)) rfl ?_
              exact ab_e_rt rfl rfl
          · refine ab_e_go 6 (227, [(3, .int v792), (2, .int ((nI 6) * a1)), (0, .ref 13), (1, .int a1)], [.int (((nI 6) * a1) + (nI 1)), .ref 16, .ref 13], (X, w)) rfl ?_
            refine ab_e_gd (228, [(3, .int v792), (2, .int ((nI 6) * a1)), (0, .ref 13), (1, .int a1)], [.int (X 16 (((nI 6) * a1) + (nI 1)).toNatClampNeg), .ref 13], (X, w)) rfl ?_
            refine ab_e_letI (fun v800 _ => ?_)
            refine ab_e_go 5 (235, [(3, .int v792), (2, .int ((nI 6) * a1)), (0, .ref 13), (1, .int a1)], [.int (((nI 6) * a1) + (nI 2)), .ref 16, .int v800, .ref 13], (X, w)) rfl ?_
            refine ab_e_gd (236, [(3, .int v792), (2, .int ((nI 6) * a1)), (0, .ref 13), (1, .int a1)], [.int (X 16 (((nI 6) * a1) + (nI 2)).toNatClampNeg), .int v800, .ref 13], (X, w)) rfl ?_
            refine ab_e_letI (fun v801 _ => ?_)
            refine ab_e_go 5 (243, [(3, .int v792), (2, .int ((nI 6) * a1)), (0, .ref 13), (1, .int a1)], [.int (((nI 6) * a1) + (nI 3)), .ref 16, .int v801, .int v800, .ref 13], (X, w)) rfl ?_
            refine ab_e_gd (244, [(3, .int v792), (2, .int ((nI 6) * a1)), (0, .ref 13), (1, .int a1)], [.int (X 16 (((nI 6) * a1) + (nI 3)).toNatClampNeg), .int v801, .int v800, .ref 13], (X, w)) rfl ?_
            refine ab_e_letI (fun v802 _ => ?_)
            refine ab_e_go 5 (251, [(3, .int v792), (2, .int ((nI 6) * a1)), (0, .ref 13), (1, .int a1)], [.int (((nI 6) * a1) + (nI 4)), .ref 16, .int v802, .int v801, .int v800, .ref 13], (X, w)) rfl ?_
            refine ab_e_gd (252, [(3, .int v792), (2, .int ((nI 6) * a1)), (0, .ref 13), (1, .int a1)], [.int (X 16 (((nI 6) * a1) + (nI 4)).toNatClampNeg), .int v802, .int v801, .int v800, .ref 13], (X, w)) rfl ?_
            refine ab_e_letI (fun v803 _ => ?_)
            refine ab_e_go 5 (259, [(3, .int v792), (2, .int ((nI 6) * a1)), (0, .ref 13), (1, .int a1)], [.int (((nI 6) * a1) + (nI 5)), .ref 16, .int v803, .int v802, .int v801, .int v800, .ref 13], (X, w)) rfl ?_
            refine ab_e_gd (260, [(3, .int v792), (2, .int ((nI 6) * a1)), (0, .ref 13), (1, .int a1)], [.int (X 16 (((nI 6) * a1) + (nI 5)).toNatClampNeg), .int v803, .int v802, .int v801, .int v800, .ref 13], (X, w)) rfl ?_
            refine ab_e_letI (fun v804 _ => ?_)
            refine ab_e_c3 (k2 := 102) (as := [.ref 13, .int v800, .int v801, .int v802, .int v803, .int v804]) (rest := []) rfl rfl (T_M_opensShift S w X v800 v801 v802 v803 v804) (fun v805 X806 => ?_)
            refine ab_e_go 3 (298, [(4, .int v805), (3, .int v792), (2, .int ((nI 6) * a1)), (0, .ref 13), (1, .int a1)], [.int v805], (X806, w)) rfl ?_
            refine ab_e_br (c := v805 < nI 0) (305, [(4, .int v805), (3, .int v792), (2, .int ((nI 6) * a1)), (0, .ref 13), (1, .int a1)], [], (X806, w)) (301, [(4, .int v805), (3, .int v792), (2, .int ((nI 6) * a1)), (0, .ref 13), (1, .int a1)], [], (X806, w)) rfl (fun _ => ?_) (fun _ => ?_)
            · refine ab_e_go 1 (306, [(4, .int v805), (3, .int v792), (2, .int ((nI 6) * a1)), (0, .ref 13), (1, .int a1)], [.int (nI 0)], (X806, w)) rfl ?_
              exact ab_e_rt rfl rfl
            · refine ab_e_go 2 (306, [(4, .int v805), (3, .int v792), (2, .int ((nI 6) * a1)), (0, .ref 13), (1, .int a1)], [.int (nI 1)], (X806, w)) rfl ?_
              exact ab_e_rt rfl rfl
        · refine ab_e_go 6 (170, [(3, .int v792), (2, .int ((nI 6) * a1)), (0, .ref 13), (1, .int a1)], [.int (((nI 6) * a1) + (nI 1)), .ref 16, .ref 13], (X, w)) rfl ?_
          refine ab_e_gd (171, [(3, .int v792), (2, .int ((nI 6) * a1)), (0, .ref 13), (1, .int a1)], [.int (X 16 (((nI 6) * a1) + (nI 1)).toNatClampNeg), .ref 13], (X, w)) rfl ?_
          refine ab_e_letI (fun v807 _ => ?_)
          refine ab_e_go 5 (178, [(3, .int v792), (2, .int ((nI 6) * a1)), (0, .ref 13), (1, .int a1)], [.int (((nI 6) * a1) + (nI 2)), .ref 16, .int v807, .ref 13], (X, w)) rfl ?_
          refine ab_e_gd (179, [(3, .int v792), (2, .int ((nI 6) * a1)), (0, .ref 13), (1, .int a1)], [.int (X 16 (((nI 6) * a1) + (nI 2)).toNatClampNeg), .int v807, .ref 13], (X, w)) rfl ?_
          refine ab_e_letI (fun v808 _ => ?_)
          refine ab_e_go 5 (186, [(3, .int v792), (2, .int ((nI 6) * a1)), (0, .ref 13), (1, .int a1)], [.int (((nI 6) * a1) + (nI 3)), .ref 16, .int v808, .int v807, .ref 13], (X, w)) rfl ?_
          refine ab_e_gd (187, [(3, .int v792), (2, .int ((nI 6) * a1)), (0, .ref 13), (1, .int a1)], [.int (X 16 (((nI 6) * a1) + (nI 3)).toNatClampNeg), .int v808, .int v807, .ref 13], (X, w)) rfl ?_
          refine ab_e_letI (fun v809 _ => ?_)
          refine ab_e_go 5 (194, [(3, .int v792), (2, .int ((nI 6) * a1)), (0, .ref 13), (1, .int a1)], [.int (((nI 6) * a1) + (nI 4)), .ref 16, .int v809, .int v808, .int v807, .ref 13], (X, w)) rfl ?_
          refine ab_e_gd (195, [(3, .int v792), (2, .int ((nI 6) * a1)), (0, .ref 13), (1, .int a1)], [.int (X 16 (((nI 6) * a1) + (nI 4)).toNatClampNeg), .int v809, .int v808, .int v807, .ref 13], (X, w)) rfl ?_
          refine ab_e_letI (fun v810 _ => ?_)
          refine ab_e_go 5 (202, [(3, .int v792), (2, .int ((nI 6) * a1)), (0, .ref 13), (1, .int a1)], [.int (((nI 6) * a1) + (nI 5)), .ref 16, .int v810, .int v809, .int v808, .int v807, .ref 13], (X, w)) rfl ?_
          refine ab_e_gd (203, [(3, .int v792), (2, .int ((nI 6) * a1)), (0, .ref 13), (1, .int a1)], [.int (X 16 (((nI 6) * a1) + (nI 5)).toNatClampNeg), .int v810, .int v809, .int v808, .int v807, .ref 13], (X, w)) rfl ?_
          refine ab_e_letI (fun v811 _ => ?_)
          refine ab_e_c3 (k2 := 103) (as := [.ref 13, .int v807, .int v808, .int v809, .int v810, .int v811]) (rest := []) rfl rfl (T_M_opensWorker S w X v807 v808 v809 v810 v811) (fun v812 X813 => ?_)
          refine ab_e_go 3 (298, [(4, .int v812), (3, .int v792), (2, .int ((nI 6) * a1)), (0, .ref 13), (1, .int a1)], [.int v812], (X813, w)) rfl ?_
          refine ab_e_br (c := v812 < nI 0) (305, [(4, .int v812), (3, .int v792), (2, .int ((nI 6) * a1)), (0, .ref 13), (1, .int a1)], [], (X813, w)) (301, [(4, .int v812), (3, .int v792), (2, .int ((nI 6) * a1)), (0, .ref 13), (1, .int a1)], [], (X813, w)) rfl (fun _ => ?_) (fun _ => ?_)
          · refine ab_e_go 1 (306, [(4, .int v812), (3, .int v792), (2, .int ((nI 6) * a1)), (0, .ref 13), (1, .int a1)], [.int (nI 0)], (X813, w)) rfl ?_
            exact ab_e_rt rfl rfl
          · refine ab_e_go 2 (306, [(4, .int v812), (3, .int v792), (2, .int ((nI 6) * a1)), (0, .ref 13), (1, .int a1)], [.int (nI 1)], (X813, w)) rfl ?_
            exact ab_e_rt rfl rfl
      · refine ab_e_go 1 (152, [(3, .int v792), (2, .int ((nI 6) * a1)), (0, .ref 13), (1, .int a1)], [.int (nI 0)], (X, w)) rfl ?_
        exact ab_e_rt rfl rfl
    · refine ab_e_go 6 (79, [(2, .int ((nI 6) * a1)), (0, .ref 13), (1, .int a1)], [.int (((nI 6) * a1) + (nI 1)), .ref 16, .ref 13], (X, w)) rfl ?_
      refine ab_e_gd (80, [(2, .int ((nI 6) * a1)), (0, .ref 13), (1, .int a1)], [.int (X 16 (((nI 6) * a1) + (nI 1)).toNatClampNeg), .ref 13], (X, w)) rfl ?_
      refine ab_e_letI (fun v814 _ => ?_)
      refine ab_e_go 5 (87, [(2, .int ((nI 6) * a1)), (0, .ref 13), (1, .int a1)], [.int (((nI 6) * a1) + (nI 2)), .ref 16, .int v814, .ref 13], (X, w)) rfl ?_
      refine ab_e_gd (88, [(2, .int ((nI 6) * a1)), (0, .ref 13), (1, .int a1)], [.int (X 16 (((nI 6) * a1) + (nI 2)).toNatClampNeg), .int v814, .ref 13], (X, w)) rfl ?_
      refine ab_e_letI (fun v815 _ => ?_)
      refine ab_e_go 5 (95, [(2, .int ((nI 6) * a1)), (0, .ref 13), (1, .int a1)], [.int (((nI 6) * a1) + (nI 3)), .ref 16, .int v815, .int v814, .ref 13], (X, w)) rfl ?_
      refine ab_e_gd (96, [(2, .int ((nI 6) * a1)), (0, .ref 13), (1, .int a1)], [.int (X 16 (((nI 6) * a1) + (nI 3)).toNatClampNeg), .int v815, .int v814, .ref 13], (X, w)) rfl ?_
      refine ab_e_letI (fun v816 _ => ?_)
      refine ab_e_go 5 (103, [(2, .int ((nI 6) * a1)), (0, .ref 13), (1, .int a1)], [.int (((nI 6) * a1) + (nI 4)), .ref 16, .int v816, .int v815, .int v814, .ref 13], (X, w)) rfl ?_
      refine ab_e_gd (104, [(2, .int ((nI 6) * a1)), (0, .ref 13), (1, .int a1)], [.int (X 16 (((nI 6) * a1) + (nI 4)).toNatClampNeg), .int v816, .int v815, .int v814, .ref 13], (X, w)) rfl ?_
      refine ab_e_letI (fun v817 _ => ?_)
      refine ab_e_go 5 (111, [(2, .int ((nI 6) * a1)), (0, .ref 13), (1, .int a1)], [.int (((nI 6) * a1) + (nI 5)), .ref 16, .int v817, .int v816, .int v815, .int v814, .ref 13], (X, w)) rfl ?_
      refine ab_e_gd (112, [(2, .int ((nI 6) * a1)), (0, .ref 13), (1, .int a1)], [.int (X 16 (((nI 6) * a1) + (nI 5)).toNatClampNeg), .int v817, .int v816, .int v815, .int v814, .ref 13], (X, w)) rfl ?_
      refine ab_e_letI (fun v818 _ => ?_)
      refine ab_e_c1 (k2 := 108) (as := [.ref 13, .int v814, .int v815, .int v816, .int v817, .int v818]) (rest := []) rfl rfl (T_M_shiftThrown S w X v814 v815 v816 v817 v818) (fun v819 => ?_)
      refine ab_e_go 3 (148, [(3, .int v819), (2, .int ((nI 6) * a1)), (0, .ref 13), (1, .int a1)], [.int v819], (X, w)) rfl ?_
      refine ab_e_br (c := v819 = nI 0) (153, [(3, .int v819), (2, .int ((nI 6) * a1)), (0, .ref 13), (1, .int a1)], [], (X, w)) (151, [(3, .int v819), (2, .int ((nI 6) * a1)), (0, .ref 13), (1, .int a1)], [], (X, w)) rfl (fun _ => ?_) (fun _ => ?_)
      · refine ab_e_go 3 (158, [(3, .int v819), (2, .int ((nI 6) * a1)), (0, .ref 13), (1, .int a1)], [.int ((nI 6) * a1), .ref 16], (X, w)) rfl ?_
        refine ab_e_gd (159, [(3, .int v819), (2, .int ((nI 6) * a1)), (0, .ref 13), (1, .int a1)], [.int (X 16 ((nI 6) * a1).toNatClampNeg)], (X, w)) rfl ?_
        refine ab_e_letI (fun v820 _ => ?_)
        refine ab_e_bn (c := v820 = nI 0) (209, [(3, .int v819), (2, .int ((nI 6) * a1)), (0, .ref 13), (1, .int a1)], [], (X, w)) (162, [(3, .int v819), (2, .int ((nI 6) * a1)), (0, .ref 13), (1, .int a1)], [], (X, w)) rfl (fun _ => ?_) (fun _ => ?_)
        · refine ab_e_go 3 (214, [(3, .int v819), (2, .int ((nI 6) * a1)), (0, .ref 13), (1, .int a1)], [.int ((nI 6) * a1), .ref 16], (X, w)) rfl ?_
          refine ab_e_gd (215, [(3, .int v819), (2, .int ((nI 6) * a1)), (0, .ref 13), (1, .int a1)], [.int (X 16 ((nI 6) * a1).toNatClampNeg)], (X, w)) rfl ?_
          refine ab_e_letI (fun v821 _ => ?_)
          refine ab_e_go 1 (216, [(3, .int v819), (2, .int ((nI 6) * a1)), (0, .ref 13), (1, .int a1)], [.int (nI 1), .int v821], (X, w)) rfl ?_
          refine ab_e_bn (c := v821 = nI 1) (266, [(3, .int v819), (2, .int ((nI 6) * a1)), (0, .ref 13), (1, .int a1)], [], (X, w)) (219, [(3, .int v819), (2, .int ((nI 6) * a1)), (0, .ref 13), (1, .int a1)], [], (X, w)) rfl (fun _ => ?_) (fun _ => ?_)
          · refine ab_e_go 6 (274, [(3, .int v819), (2, .int ((nI 6) * a1)), (0, .ref 13), (1, .int a1)], [.int (((nI 6) * a1) + (nI 1)), .ref 16, .ref 13], (X, w)) rfl ?_
            refine ab_e_gd (275, [(3, .int v819), (2, .int ((nI 6) * a1)), (0, .ref 13), (1, .int a1)], [.int (X 16 (((nI 6) * a1) + (nI 1)).toNatClampNeg), .ref 13], (X, w)) rfl ?_
            refine ab_e_letI (fun v822 _ => ?_)
            refine ab_e_go 5 (282, [(3, .int v819), (2, .int ((nI 6) * a1)), (0, .ref 13), (1, .int a1)], [.int (((nI 6) * a1) + (nI 2)), .ref 16, .int v822, .ref 13], (X, w)) rfl ?_
            refine ab_e_gd (283, [(3, .int v819), (2, .int ((nI 6) * a1)), (0, .ref 13), (1, .int a1)], [.int (X 16 (((nI 6) * a1) + (nI 2)).toNatClampNeg), .int v822, .ref 13], (X, w)) rfl ?_
            refine ab_e_letI (fun v823 _ => ?_)
            refine ab_e_go 5 (290, [(3, .int v819), (2, .int ((nI 6) * a1)), (0, .ref 13), (1, .int a1)], [.int (((nI 6) * a1) + (nI 3)), .ref 16, .int v823, .int v822, .ref 13], (X, w)) rfl ?_
            refine ab_e_gd (291, [(3, .int v819), (2, .int ((nI 6) * a1)), (0, .ref 13), (1, .int a1)], [.int (X 16 (((nI 6) * a1) + (nI 3)).toNatClampNeg), .int v823, .int v822, .ref 13], (X, w)) rfl ?_
            refine ab_e_letI (fun v824 _ => ?_)
            refine ab_e_c3 (k2 := 100) (as := [.ref 13, .int v822, .int v823, .int v824]) (rest := []) rfl rfl (T_M_laysBid S w X v822 v823 v824) (fun v825 X826 => ?_)
            refine ab_e_go 2 (298, [(4, .int v825), (3, .int v819), (2, .int ((nI 6) * a1)), (0, .ref 13), (1, .int a1)], [.int v825], (X826, w)) rfl ?_
            refine ab_e_br (c := v825 < nI 0) (305, [(4, .int v825), (3, .int v819), (2, .int ((nI 6) * a1)), (0, .ref 13), (1, .int a1)], [], (X826, w)) (301, [(4, .int v825), (3, .int v819), (2, .int ((nI 6) * a1)), (0, .ref 13), (1, .int a1)], [], (X826, w)) rfl (fun _ => ?_) (fun _ => ?_)
            · refine ab_e_go 1 (306, [(4, .int v825), (3, .int v819), (2, .int ((nI 6) * a1)), (0, .ref 13), (1, .int a1)], [.int (nI 0)], (X826, w)) rfl ?_
              exact ab_e_rt rfl rfl
            · refine ab_e_go 2 (306, [(4, .int v825), (3, .int v819), (2, .int ((nI 6) * a1)), (0, .ref 13), (1, .int a1)], [.int (nI 1)], (X826, w)) rfl ?_
              exact ab_e_rt rfl rfl
          · refine ab_e_go 6 (227, [(3, .int v819), (2, .int ((nI 6) * a1)), (0, .ref 13), (1, .int a1)], [.int (((nI 6) * a1) + (nI 1)), .ref 16, .ref 13], (X, w)) rfl ?_
            refine ab_e_gd (228, [(3, .int v819), (2, .int ((nI 6) * a1)), (0, .ref 13), (1, .int a1)], [.int (X 16 (((nI 6) * a1) + (nI 1)).toNatClampNeg), .ref 13], (X, w)) rfl ?_
            refine ab_e_letI (fun v827 _ => ?_)
            refine ab_e_go 5 (235, [(3, .int v819), (2, .int ((nI 6) * a1)), (0, .ref 13), (1, .int a1)], [.int (((nI 6) * a1) + (nI 2)), .ref 16, .int v827, .ref 13], (X, w)) rfl ?_
            refine ab_e_gd (236, [(3, .int v819), (2, .int ((nI 6) * a1)), (0, .ref 13), (1, .int a1)], [.int (X 16 (((nI 6) * a1) + (nI 2)).toNatClampNeg), .int v827, .ref 13], (X, w)) rfl ?_
            refine ab_e_letI (fun v828 _ => ?_)
            refine ab_e_go 5 (243, [(3, .int v819), (2, .int ((nI 6) * a1)), (0, .ref 13), (1, .int a1)], [.int (((nI 6) * a1) + (nI 3)), .ref 16, .int v828, .int v827, .ref 13], (X, w)) rfl ?_
            refine ab_e_gd (244, [(3, .int v819), (2, .int ((nI 6) * a1)), (0, .ref 13), (1, .int a1)], [.int (X 16 (((nI 6) * a1) + (nI 3)).toNatClampNeg), .int v828, .int v827, .ref 13], (X, w)) rfl ?_
            refine ab_e_letI (fun v829 _ => ?_)
            refine ab_e_go 5 (251, [(3, .int v819), (2, .int ((nI 6) * a1)), (0, .ref 13), (1, .int a1)], [.int (((nI 6) * a1) + (nI 4)), .ref 16, .int v829, .int v828, .int v827, .ref 13], (X, w)) rfl ?_
            refine ab_e_gd (252, [(3, .int v819), (2, .int ((nI 6) * a1)), (0, .ref 13), (1, .int a1)], [.int (X 16 (((nI 6) * a1) + (nI 4)).toNatClampNeg), .int v829, .int v828, .int v827, .ref 13], (X, w)) rfl ?_
            refine ab_e_letI (fun v830 _ => ?_)
            refine ab_e_go 5 (259, [(3, .int v819), (2, .int ((nI 6) * a1)), (0, .ref 13), (1, .int a1)], [.int (((nI 6) * a1) + (nI 5)), .ref 16, .int v830, .int v829, .int v828, .int v827, .ref 13], (X, w)) rfl ?_
            refine ab_e_gd (260, [(3, .int v819), (2, .int ((nI 6) * a1)), (0, .ref 13), (1, .int a1)], [.int (X 16 (((nI 6) * a1) + (nI 5)).toNatClampNeg), .int v830, .int v829, .int v828, .int v827, .ref 13], (X, w)) rfl ?_
            refine ab_e_letI (fun v831 _ => ?_)
            refine ab_e_c3 (k2 := 102) (as := [.ref 13, .int v827, .int v828, .int v829, .int v830, .int v831]) (rest := []) rfl rfl (T_M_opensShift S w X v827 v828 v829 v830 v831) (fun v832 X833 => ?_)
            refine ab_e_go 3 (298, [(4, .int v832), (3, .int v819), (2, .int ((nI 6) * a1)), (0, .ref 13), (1, .int a1)], [.int v832], (X833, w)) rfl ?_
            refine ab_e_br (c := v832 < nI 0) (305, [(4, .int v832), (3, .int v819), (2, .int ((nI 6) * a1)), (0, .ref 13), (1, .int a1)], [], (X833, w)) (301, [(4, .int v832), (3, .int v819), (2, .int ((nI 6) * a1)), (0, .ref 13), (1, .int a1)], [], (X833, w)) rfl (fun _ => ?_) (fun _ => ?_)
            · refine ab_e_go 1 (306, [(4, .int v832), (3, .int v819), (2, .int ((nI 6) * a1)), (0, .ref 13), (1, .int a1)], [.int (nI 0)], (X833, w)) rfl ?_
              exact ab_e_rt rfl rfl
            · refine ab_e_go 2 (306, [(4, .int v832), (3, .int v819), (2, .int ((nI 6) * a1)), (0, .ref 13), (1, .int a1)], [.int (nI 1)], (X833, w)) rfl ?_
              exact ab_e_rt rfl rfl
        · refine ab_e_go 6 (170, [(3, .int v819), (2, .int ((nI 6) * a1)), (0, .ref 13), (1, .int a1)], [.int (((nI 6) * a1) + (nI 1)), .ref 16, .ref 13], (X, w)) rfl ?_
          refine ab_e_gd (171, [(3, .int v819), (2, .int ((nI 6) * a1)), (0, .ref 13), (1, .int a1)], [.int (X 16 (((nI 6) * a1) + (nI 1)).toNatClampNeg), .ref 13], (X, w)) rfl ?_
          refine ab_e_letI (fun v834 _ => ?_)
          refine ab_e_go 5 (178, [(3, .int v819), (2, .int ((nI 6) * a1)), (0, .ref 13), (1, .int a1)], [.int (((nI 6) * a1) + (nI 2)), .ref 16, .int v834, .ref 13], (X, w)) rfl ?_
          refine ab_e_gd (179, [(3, .int v819), (2, .int ((nI 6) * a1)), (0, .ref 13), (1, .int a1)], [.int (X 16 (((nI 6) * a1) + (nI 2)).toNatClampNeg), .int v834, .ref 13], (X, w)) rfl ?_
          refine ab_e_letI (fun v835 _ => ?_)
          refine ab_e_go 5 (186, [(3, .int v819), (2, .int ((nI 6) * a1)), (0, .ref 13), (1, .int a1)], [.int (((nI 6) * a1) + (nI 3)), .ref 16, .int v835, .int v834, .ref 13], (X, w)) rfl ?_
          refine ab_e_gd (187, [(3, .int v819), (2, .int ((nI 6) * a1)), (0, .ref 13), (1, .int a1)], [.int (X 16 (((nI 6) * a1) + (nI 3)).toNatClampNeg), .int v835, .int v834, .ref 13], (X, w)) rfl ?_
          refine ab_e_letI (fun v836 _ => ?_)
          refine ab_e_go 5 (194, [(3, .int v819), (2, .int ((nI 6) * a1)), (0, .ref 13), (1, .int a1)], [.int (((nI 6) * a1) + (nI 4)), .ref 16, .int v836, .int v835, .int v834, .ref 13], (X, w)) rfl ?_
          refine ab_e_gd (195, [(3, .int v819), (2, .int ((nI 6) * a1)), (0, .ref 13), (1, .int a1)], [.int (X 16 (((nI 6) * a1) + (nI 4)).toNatClampNeg), .int v836, .int v835, .int v834, .ref 13], (X, w)) rfl ?_
          refine ab_e_letI (fun v837 _ => ?_)
          refine ab_e_go 5 (202, [(3, .int v819), (2, .int ((nI 6) * a1)), (0, .ref 13), (1, .int a1)], [.int (((nI 6) * a1) + (nI 5)), .ref 16, .int v837, .int v836, .int v835, .int v834, .ref 13], (X, w)) rfl ?_
          refine ab_e_gd (203, [(3, .int v819), (2, .int ((nI 6) * a1)), (0, .ref 13), (1, .int a1)], [.int (X 16 (((nI 6) * a1) + (nI 5)).toNatClampNeg), .int v837, .int v836, .int v835, .int v834, .ref 13], (X, w)) rfl ?_
          refine ab_e_letI (fun v838 _ => ?_)
          refine ab_e_c3 (k2 := 103) (as := [.ref 13, .int v834, .int v835, .int v836, .int v837, .int v838]) (rest := []) rfl rfl (T_M_opensWorker S w X v834 v835 v836 v837 v838) (fun v839 X840 => ?_)
          refine ab_e_go 3 (298, [(4, .int v839), (3, .int v819), (2, .int ((nI 6) * a1)), (0, .ref 13), (1, .int a1)], [.int v839], (X840, w)) rfl ?_
          refine ab_e_br (c := v839 < nI 0) (305, [(4, .int v839), (3, .int v819), (2, .int ((nI 6) * a1)), (0, .ref 13), (1, .int a1)], [], (X840, w)) (301, [(4, .int v839), (3, .int v819), (2, .int ((nI 6) * a1)), (0, .ref 13), (1, .int a1)], [], (X840, w)) rfl (fun _ => ?_) (fun _ => ?_)
          · refine ab_e_go 1 (306, [(4, .int v839), (3, .int v819), (2, .int ((nI 6) * a1)), (0, .ref 13), (1, .int a1)], [.int (nI 0)], (X840, w)) rfl ?_
            exact ab_e_rt rfl rfl
          · refine ab_e_go 2 (306, [(4, .int v839), (3, .int v819), (2, .int ((nI 6) * a1)), (0, .ref 13), (1, .int a1)], [.int (nI 1)], (X840, w)) rfl ?_
            exact ab_e_rt rfl rfl
      · refine ab_e_go 1 (152, [(3, .int v819), (2, .int ((nI 6) * a1)), (0, .ref 13), (1, .int a1)], [.int (nI 0)], (X, w)) rfl ?_
        exact ab_e_rt rfl rfl
  · refine ab_e_go 6 (22, [(2, .int ((nI 6) * a1)), (0, .ref 13), (1, .int a1)], [.int (((nI 6) * a1) + (nI 1)), .ref 16, .ref 13], (X, w)) rfl ?_
    refine ab_e_gd (23, [(2, .int ((nI 6) * a1)), (0, .ref 13), (1, .int a1)], [.int (X 16 (((nI 6) * a1) + (nI 1)).toNatClampNeg), .ref 13], (X, w)) rfl ?_
    refine ab_e_letI (fun v841 _ => ?_)
    refine ab_e_go 5 (30, [(2, .int ((nI 6) * a1)), (0, .ref 13), (1, .int a1)], [.int (((nI 6) * a1) + (nI 2)), .ref 16, .int v841, .ref 13], (X, w)) rfl ?_
    refine ab_e_gd (31, [(2, .int ((nI 6) * a1)), (0, .ref 13), (1, .int a1)], [.int (X 16 (((nI 6) * a1) + (nI 2)).toNatClampNeg), .int v841, .ref 13], (X, w)) rfl ?_
    refine ab_e_letI (fun v842 _ => ?_)
    refine ab_e_go 5 (38, [(2, .int ((nI 6) * a1)), (0, .ref 13), (1, .int a1)], [.int (((nI 6) * a1) + (nI 3)), .ref 16, .int v842, .int v841, .ref 13], (X, w)) rfl ?_
    refine ab_e_gd (39, [(2, .int ((nI 6) * a1)), (0, .ref 13), (1, .int a1)], [.int (X 16 (((nI 6) * a1) + (nI 3)).toNatClampNeg), .int v842, .int v841, .ref 13], (X, w)) rfl ?_
    refine ab_e_letI (fun v843 _ => ?_)
    refine ab_e_go 5 (46, [(2, .int ((nI 6) * a1)), (0, .ref 13), (1, .int a1)], [.int (((nI 6) * a1) + (nI 4)), .ref 16, .int v843, .int v842, .int v841, .ref 13], (X, w)) rfl ?_
    refine ab_e_gd (47, [(2, .int ((nI 6) * a1)), (0, .ref 13), (1, .int a1)], [.int (X 16 (((nI 6) * a1) + (nI 4)).toNatClampNeg), .int v843, .int v842, .int v841, .ref 13], (X, w)) rfl ?_
    refine ab_e_letI (fun v844 _ => ?_)
    refine ab_e_go 5 (54, [(2, .int ((nI 6) * a1)), (0, .ref 13), (1, .int a1)], [.int (((nI 6) * a1) + (nI 5)), .ref 16, .int v844, .int v843, .int v842, .int v841, .ref 13], (X, w)) rfl ?_
    refine ab_e_gd (55, [(2, .int ((nI 6) * a1)), (0, .ref 13), (1, .int a1)], [.int (X 16 (((nI 6) * a1) + (nI 5)).toNatClampNeg), .int v844, .int v843, .int v842, .int v841, .ref 13], (X, w)) rfl ?_
    refine ab_e_letI (fun v845 _ => ?_)
    refine ab_e_c1 (k2 := 112) (as := [.ref 13, .int v841, .int v842, .int v843, .int v844, .int v845]) (rest := []) rfl rfl (T_M_workerThrown S w X v841 v842 v843 v844 v845) (fun v846 => ?_)
    refine ab_e_go 3 (148, [(3, .int v846), (2, .int ((nI 6) * a1)), (0, .ref 13), (1, .int a1)], [.int v846], (X, w)) rfl ?_
    refine ab_e_br (c := v846 = nI 0) (153, [(3, .int v846), (2, .int ((nI 6) * a1)), (0, .ref 13), (1, .int a1)], [], (X, w)) (151, [(3, .int v846), (2, .int ((nI 6) * a1)), (0, .ref 13), (1, .int a1)], [], (X, w)) rfl (fun _ => ?_) (fun _ => ?_)
    · refine ab_e_go 3 (158, [(3, .int v846), (2, .int ((nI 6) * a1)), (0, .ref 13), (1, .int a1)], [.int ((nI 6) * a1), .ref 16], (X, w)) rfl ?_
      refine ab_e_gd (159, [(3, .int v846), (2, .int ((nI 6) * a1)), (0, .ref 13), (1, .int a1)], [.int (X 16 ((nI 6) * a1).toNatClampNeg)], (X, w)) rfl ?_
      refine ab_e_letI (fun v847 _ => ?_)
      refine ab_e_bn (c := v847 = nI 0) (209, [(3, .int v846), (2, .int ((nI 6) * a1)), (0, .ref 13), (1, .int a1)], [], (X, w)) (162, [(3, .int v846), (2, .int ((nI 6) * a1)), (0, .ref 13), (1, .int a1)], [], (X, w)) rfl (fun _ => ?_) (fun _ => ?_)
      · refine ab_e_go 3 (214, [(3, .int v846), (2, .int ((nI 6) * a1)), (0, .ref 13), (1, .int a1)], [.int ((nI 6) * a1), .ref 16], (X, w)) rfl ?_
        refine ab_e_gd (215, [(3, .int v846), (2, .int ((nI 6) * a1)), (0, .ref 13), (1, .int a1)], [.int (X 16 ((nI 6) * a1).toNatClampNeg)], (X, w)) rfl ?_
        refine ab_e_letI (fun v848 _ => ?_)
        refine ab_e_go 1 (216, [(3, .int v846), (2, .int ((nI 6) * a1)), (0, .ref 13), (1, .int a1)], [.int (nI 1), .int v848], (X, w)) rfl ?_
        refine ab_e_bn (c := v848 = nI 1) (266, [(3, .int v846), (2, .int ((nI 6) * a1)), (0, .ref 13), (1, .int a1)], [], (X, w)) (219, [(3, .int v846), (2, .int ((nI 6) * a1)), (0, .ref 13), (1, .int a1)], [], (X, w)) rfl (fun _ => ?_) (fun _ => ?_)
        · refine ab_e_go 6 (274, [(3, .int v846), (2, .int ((nI 6) * a1)), (0, .ref 13), (1, .int a1)], [.int (((nI 6) * a1) + (nI 1)), .ref 16, .ref 13], (X, w)) rfl ?_
          refine ab_e_gd (275, [(3, .int v846), (2, .int ((nI 6) * a1)), (0, .ref 13), (1, .int a1)], [.int (X 16 (((nI 6) * a1) + (nI 1)).toNatClampNeg), .ref 13], (X, w)) rfl ?_
          refine ab_e_letI (fun v849 _ => ?_)
          refine ab_e_go 5 (282, [(3, .int v846), (2, .int ((nI 6) * a1)), (0, .ref 13), (1, .int a1)], [.int (((nI 6) * a1) + (nI 2)), .ref 16, .int v849, .ref 13], (X, w)) rfl ?_
          refine ab_e_gd (283, [(3, .int v846), (2, .int ((nI 6) * a1)), (0, .ref 13), (1, .int a1)], [.int (X 16 (((nI 6) * a1) + (nI 2)).toNatClampNeg), .int v849, .ref 13], (X, w)) rfl ?_
          refine ab_e_letI (fun v850 _ => ?_)
          refine ab_e_go 5 (290, [(3, .int v846), (2, .int ((nI 6) * a1)), (0, .ref 13), (1, .int a1)], [.int (((nI 6) * a1) + (nI 3)), .ref 16, .int v850, .int v849, .ref 13], (X, w)) rfl ?_
          refine ab_e_gd (291, [(3, .int v846), (2, .int ((nI 6) * a1)), (0, .ref 13), (1, .int a1)], [.int (X 16 (((nI 6) * a1) + (nI 3)).toNatClampNeg), .int v850, .int v849, .ref 13], (X, w)) rfl ?_
          refine ab_e_letI (fun v851 _ => ?_)
          refine ab_e_c3 (k2 := 100) (as := [.ref 13, .int v849, .int v850, .int v851]) (rest := []) rfl rfl (T_M_laysBid S w X v849 v850 v851) (fun v852 X853 => ?_)
          refine ab_e_go 2 (298, [(4, .int v852), (3, .int v846), (2, .int ((nI 6) * a1)), (0, .ref 13), (1, .int a1)], [.int v852], (X853, w)) rfl ?_
          refine ab_e_br (c := v852 < nI 0) (305, [(4, .int v852), (3, .int v846), (2, .int ((nI 6) * a1)), (0, .ref 13), (1, .int a1)], [], (X853, w)) (301, [(4, .int v852), (3, .int v846), (2, .int ((nI 6) * a1)), (0, .ref 13), (1, .int a1)], [], (X853, w)) rfl (fun _ => ?_) (fun _ => ?_)
          · refine ab_e_go 1 (306, [(4, .int v852), (3, .int v846), (2, .int ((nI 6) * a1)), (0, .ref 13), (1, .int a1)], [.int (nI 0)], (X853, w)) rfl ?_
            exact ab_e_rt rfl rfl
          · refine ab_e_go 2 (306, [(4, .int v852), (3, .int v846), (2, .int ((nI 6) * a1)), (0, .ref 13), (1, .int a1)], [.int (nI 1)], (X853, w)) rfl ?_
            exact ab_e_rt rfl rfl
        · refine ab_e_go 6 (227, [(3, .int v846), (2, .int ((nI 6) * a1)), (0, .ref 13), (1, .int a1)], [.int (((nI 6) * a1) + (nI 1)), .ref 16, .ref 13], (X, w)) rfl ?_
          refine ab_e_gd (228, [(3, .int v846), (2, .int ((nI 6) * a1)), (0, .ref 13), (1, .int a1)], [.int (X 16 (((nI 6) * a1) + (nI 1)).toNatClampNeg), .ref 13], (X, w)) rfl ?_
          refine ab_e_letI (fun v854 _ => ?_)
          refine ab_e_go 5 (235, [(3, .int v846), (2, .int ((nI 6) * a1)), (0, .ref 13), (1, .int a1)], [.int (((nI 6) * a1) + (nI 2)), .ref 16, .int v854, .ref 13], (X, w)) rfl ?_
          refine ab_e_gd (236, [(3, .int v846), (2, .int ((nI 6) * a1)), (0, .ref 13), (1, .int a1)], [.int (X 16 (((nI 6) * a1) + (nI 2)).toNatClampNeg), .int v854, .ref 13], (X, w)) rfl ?_
          refine ab_e_letI (fun v855 _ => ?_)
          refine ab_e_go 5 (243, [(3, .int v846), (2, .int ((nI 6) * a1)), (0, .ref 13), (1, .int a1)], [.int (((nI 6) * a1) + (nI 3)), .ref 16, .int v855, .int v854, .ref 13], (X, w)) rfl ?_
          refine ab_e_gd (244, [(3, .int v846), (2, .int ((nI 6) * a1)), (0, .ref 13), (1, .int a1)], [.int (X 16 (((nI 6) * a1) + (nI 3)).toNatClampNeg), .int v855, .int v854, .ref 13], (X, w)) rfl ?_
          refine ab_e_letI (fun v856 _ => ?_)
          refine ab_e_go 5 (251, [(3, .int v846), (2, .int ((nI 6) * a1)), (0, .ref 13), (1, .int a1)], [.int (((nI 6) * a1) + (nI 4)), .ref 16, .int v856, .int v855, .int v854, .ref 13], (X, w)) rfl ?_
          refine ab_e_gd (252, [(3, .int v846), (2, .int ((nI 6) * a1)), (0, .ref 13), (1, .int a1)], [.int (X 16 (((nI 6) * a1) + (nI 4)).toNatClampNeg), .int v856, .int v855, .int v854, .ref 13], (X, w)) rfl ?_
          refine ab_e_letI (fun v857 _ => ?_)
          refine ab_e_go 5 (259, [(3, .int v846), (2, .int ((nI 6) * a1)), (0, .ref 13), (1, .int a1)], [.int (((nI 6) * a1) + (nI 5)), .ref 16, .int v857, .int v856, .int v855, .int v854, .ref 13], (X, w)) rfl ?_
          refine ab_e_gd (260, [(3, .int v846), (2, .int ((nI 6) * a1)), (0, .ref 13), (1, .int a1)], [.int (X 16 (((nI 6) * a1) + (nI 5)).toNatClampNeg), .int v857, .int v856, .int v855, .int v854, .ref 13], (X, w)) rfl ?_
          refine ab_e_letI (fun v858 _ => ?_)
          refine ab_e_c3 (k2 := 102) (as := [.ref 13, .int v854, .int v855, .int v856, .int v857, .int v858]) (rest := []) rfl rfl (T_M_opensShift S w X v854 v855 v856 v857 v858) (fun v859 X860 => ?_)
          refine ab_e_go 3 (298, [(4, .int v859), (3, .int v846), (2, .int ((nI 6) * a1)), (0, .ref 13), (1, .int a1)], [.int v859], (X860, w)) rfl ?_
          refine ab_e_br (c := v859 < nI 0) (305, [(4, .int v859), (3, .int v846), (2, .int ((nI 6) * a1)), (0, .ref 13), (1, .int a1)], [], (X860, w)) (301, [(4, .int v859), (3, .int v846), (2, .int ((nI 6) * a1)), (0, .ref 13), (1, .int a1)], [], (X860, w)) rfl (fun _ => ?_) (fun _ => ?_)
          · refine ab_e_go 1 (306, [(4, .int v859), (3, .int v846), (2, .int ((nI 6) * a1)), (0, .ref 13), (1, .int a1)], [.int (nI 0)], (X860, w)) rfl ?_
            exact ab_e_rt rfl rfl
          · refine ab_e_go 2 (306, [(4, .int v859), (3, .int v846), (2, .int ((nI 6) * a1)), (0, .ref 13), (1, .int a1)], [.int (nI 1)], (X860, w)) rfl ?_
            exact ab_e_rt rfl rfl
      · refine ab_e_go 6 (170, [(3, .int v846), (2, .int ((nI 6) * a1)), (0, .ref 13), (1, .int a1)], [.int (((nI 6) * a1) + (nI 1)), .ref 16, .ref 13], (X, w)) rfl ?_
        refine ab_e_gd (171, [(3, .int v846), (2, .int ((nI 6) * a1)), (0, .ref 13), (1, .int a1)], [.int (X 16 (((nI 6) * a1) + (nI 1)).toNatClampNeg), .ref 13], (X, w)) rfl ?_
        refine ab_e_letI (fun v861 _ => ?_)
        refine ab_e_go 5 (178, [(3, .int v846), (2, .int ((nI 6) * a1)), (0, .ref 13), (1, .int a1)], [.int (((nI 6) * a1) + (nI 2)), .ref 16, .int v861, .ref 13], (X, w)) rfl ?_
        refine ab_e_gd (179, [(3, .int v846), (2, .int ((nI 6) * a1)), (0, .ref 13), (1, .int a1)], [.int (X 16 (((nI 6) * a1) + (nI 2)).toNatClampNeg), .int v861, .ref 13], (X, w)) rfl ?_
        refine ab_e_letI (fun v862 _ => ?_)
        refine ab_e_go 5 (186, [(3, .int v846), (2, .int ((nI 6) * a1)), (0, .ref 13), (1, .int a1)], [.int (((nI 6) * a1) + (nI 3)), .ref 16, .int v862, .int v861, .ref 13], (X, w)) rfl ?_
        refine ab_e_gd (187, [(3, .int v846), (2, .int ((nI 6) * a1)), (0, .ref 13), (1, .int a1)], [.int (X 16 (((nI 6) * a1) + (nI 3)).toNatClampNeg), .int v862, .int v861, .ref 13], (X, w)) rfl ?_
        refine ab_e_letI (fun v863 _ => ?_)
        refine ab_e_go 5 (194, [(3, .int v846), (2, .int ((nI 6) * a1)), (0, .ref 13), (1, .int a1)], [.int (((nI 6) * a1) + (nI 4)), .ref 16, .int v863, .int v862, .int v861, .ref 13], (X, w)) rfl ?_
        refine ab_e_gd (195, [(3, .int v846), (2, .int ((nI 6) * a1)), (0, .ref 13), (1, .int a1)], [.int (X 16 (((nI 6) * a1) + (nI 4)).toNatClampNeg), .int v863, .int v862, .int v861, .ref 13], (X, w)) rfl ?_
        refine ab_e_letI (fun v864 _ => ?_)
        refine ab_e_go 5 (202, [(3, .int v846), (2, .int ((nI 6) * a1)), (0, .ref 13), (1, .int a1)], [.int (((nI 6) * a1) + (nI 5)), .ref 16, .int v864, .int v863, .int v862, .int v861, .ref 13], (X, w)) rfl ?_
        refine ab_e_gd (203, [(3, .int v846), (2, .int ((nI 6) * a1)), (0, .ref 13), (1, .int a1)], [.int (X 16 (((nI 6) * a1) + (nI 5)).toNatClampNeg), .int v864, .int v863, .int v862, .int v861, .ref 13], (X, w)) rfl ?_
        refine ab_e_letI (fun v865 _ => ?_)
        refine ab_e_c3 (k2 := 103) (as := [.ref 13, .int v861, .int v862, .int v863, .int v864, .int v865]) (rest := []) rfl rfl (T_M_opensWorker S w X v861 v862 v863 v864 v865) (fun v866 X867 => ?_)
        refine ab_e_go 3 (298, [(4, .int v866), (3, .int v846), (2, .int ((nI 6) * a1)), (0, .ref 13), (1, .int a1)], [.int v866], (X867, w)) rfl ?_
        refine ab_e_br (c := v866 < nI 0) (305, [(4, .int v866), (3, .int v846), (2, .int ((nI 6) * a1)), (0, .ref 13), (1, .int a1)], [], (X867, w)) (301, [(4, .int v866), (3, .int v846), (2, .int ((nI 6) * a1)), (0, .ref 13), (1, .int a1)], [], (X867, w)) rfl (fun _ => ?_) (fun _ => ?_)
        · refine ab_e_go 1 (306, [(4, .int v866), (3, .int v846), (2, .int ((nI 6) * a1)), (0, .ref 13), (1, .int a1)], [.int (nI 0)], (X867, w)) rfl ?_
          exact ab_e_rt rfl rfl
        · refine ab_e_go 2 (306, [(4, .int v866), (3, .int v846), (2, .int ((nI 6) * a1)), (0, .ref 13), (1, .int a1)], [.int (nI 1)], (X867, w)) rfl ?_
          exact ab_e_rt rfl rfl
    · refine ab_e_go 1 (152, [(3, .int v846), (2, .int ((nI 6) * a1)), (0, .ref 13), (1, .int a1)], [.int (nI 0)], (X, w)) rfl ?_
      exact ab_e_rt rfl rfl
def L_M_addItems_122 : Nat → ab_XX → Int32 → Option (Int32 × ab_XX)
  | 0, _, _ => none
  | n + 1, X, a1 =>
    if X 13 10 ≤ a1 then
      if X 13 8 < nI 0 then
        ab_b3 (F_M_keeps X) (fun _ X779 =>
          ab_b3 (F_M_copies X779 (nI 10) (X779 13 2)) (fun _ X780 =>
            some (X780 13 10, X780)))
      else
        ab_b3 (F_M_copies X (nI 10) (nI 0)) (fun _ X781 =>
          (some (ab_up X781 13 0 (nI 2))).bind fun X782 =>
          some (nI 0, X782))
    else
      if nI 0 ≤ X 13 8 then
        if X 13 8 < nI 0 then
          ab_b3 (F_M_keeps X) (fun _ X783 =>
            ab_b3 (F_M_copies X783 (nI 10) (X783 13 2)) (fun _ X784 =>
              some (X784 13 10, X784)))
        else
          ab_b3 (F_M_copies X (nI 10) (nI 0)) (fun _ X785 =>
            (some (ab_up X785 13 0 (nI 2))).bind fun X786 =>
            some (nI 0, X786))
      else
        ab_b3 (F_M_isDone X a1) (fun v868 X869 =>
          if v868 = nI 0 then
            (some (ab_up X869 13 8 a1)).bind fun X870 =>
            L_M_addItems_122 n X870 (a1 + (nI 1))
          else
            (some (ab_up X869 13 8 (-1 : Int32))).bind fun X871 =>
            L_M_addItems_122 n X871 (a1 + (nI 1)))
set_option maxRecDepth 4000 in
theorem T_L_M_addItems_122 (S : Nat × (Nat → Int32)) (w : ab_WW) : ∀ (n : Nat) (X : ab_XX) (a1 : Int32), ab_Eg (ab_m3 ab_fI w) S 206 (122, [(0, .ref 13), (1, .int a1)], [], (X, w)) (L_M_addItems_122 n X a1) := by
  intro n
  induction n with
  | zero => intro X a1; exact ab_e_none
  | succ n ih =>
    intro X a1
    unfold L_M_addItems_122
    refine ab_e_go 3 (127, [(0, .ref 13), (1, .int a1)], [.int (X 13 10), .int a1], (X, w)) rfl ?_
    refine ab_e_br (c := X 13 10 ≤ a1) (160, [(0, .ref 13), (1, .int a1)], [], (X, w)) (130, [(0, .ref 13), (1, .int a1)], [], (X, w)) rfl (fun _ => ?_) (fun _ => ?_)
    · refine ab_e_go 2 (164, [(0, .ref 13), (1, .int a1)], [.int (X 13 8)], (X, w)) rfl ?_
      refine ab_e_br (c := X 13 8 < nI 0) (181, [(0, .ref 13), (1, .int a1)], [], (X, w)) (167, [(0, .ref 13), (1, .int a1)], [], (X, w)) rfl (fun _ => ?_) (fun _ => ?_)
      · refine ab_e_go 1 (182, [(0, .ref 13), (1, .int a1)], [.ref 13], (X, w)) rfl ?_
        refine ab_e_c3 (k2 := 99) (as := [.ref 13]) (rest := []) rfl rfl (T_M_keeps S w X) (fun _ X779 => ?_)
        refine ab_e_go 4 (192, [(0, .ref 13), (1, .int a1)], [.int (X779 13 2), .int (nI 10), .ref 13], (X779, w)) rfl ?_
        refine ab_e_c3 (k2 := 35) (as := [.ref 13, .int (nI 10), .int (X779 13 2)]) (rest := []) rfl rfl (T_M_copies S w X779 (nI 10) (X779 13 2)) (fun _ X780 => ?_)
        refine ab_e_go 2 (199, [(0, .ref 13), (1, .int a1)], [.int (X780 13 10)], (X780, w)) rfl ?_
        exact ab_e_rt rfl rfl
      · refine ab_e_go 3 (171, [(0, .ref 13), (1, .int a1)], [.int (nI 0), .int (nI 10), .ref 13], (X, w)) rfl ?_
        refine ab_e_c3 (k2 := 35) (as := [.ref 13, .int (nI 10), .int (nI 0)]) (rest := []) rfl rfl (T_M_copies S w X (nI 10) (nI 0)) (fun _ X781 => ?_)
        refine ab_e_go 3 (179, [(0, .ref 13), (1, .int a1)], [], ((ab_up X781 13 0 (nI 2)), w)) rfl ?_
        refine ab_e_letX (fun X782 _ => ?_)
        refine ab_e_go 1 (180, [(0, .ref 13), (1, .int a1)], [.int (nI 0)], (X782, w)) rfl ?_
        exact ab_e_rt rfl rfl
    · refine ab_e_go 2 (134, [(0, .ref 13), (1, .int a1)], [.int (X 13 8)], (X, w)) rfl ?_
      refine ab_e_br (c := nI 0 ≤ X 13 8) (160, [(0, .ref 13), (1, .int a1)], [], (X, w)) (137, [(0, .ref 13), (1, .int a1)], [], (X, w)) rfl (fun _ => ?_) (fun _ => ?_)
      · refine ab_e_go 2 (164, [(0, .ref 13), (1, .int a1)], [.int (X 13 8)], (X, w)) rfl ?_
        refine ab_e_br (c := X 13 8 < nI 0) (181, [(0, .ref 13), (1, .int a1)], [], (X, w)) (167, [(0, .ref 13), (1, .int a1)], [], (X, w)) rfl (fun _ => ?_) (fun _ => ?_)
        · refine ab_e_go 1 (182, [(0, .ref 13), (1, .int a1)], [.ref 13], (X, w)) rfl ?_
          refine ab_e_c3 (k2 := 99) (as := [.ref 13]) (rest := []) rfl rfl (T_M_keeps S w X) (fun _ X783 => ?_)
          refine ab_e_go 4 (192, [(0, .ref 13), (1, .int a1)], [.int (X783 13 2), .int (nI 10), .ref 13], (X783, w)) rfl ?_
          refine ab_e_c3 (k2 := 35) (as := [.ref 13, .int (nI 10), .int (X783 13 2)]) (rest := []) rfl rfl (T_M_copies S w X783 (nI 10) (X783 13 2)) (fun _ X784 => ?_)
          refine ab_e_go 2 (199, [(0, .ref 13), (1, .int a1)], [.int (X784 13 10)], (X784, w)) rfl ?_
          exact ab_e_rt rfl rfl
        · refine ab_e_go 3 (171, [(0, .ref 13), (1, .int a1)], [.int (nI 0), .int (nI 10), .ref 13], (X, w)) rfl ?_
          refine ab_e_c3 (k2 := 35) (as := [.ref 13, .int (nI 10), .int (nI 0)]) (rest := []) rfl rfl (T_M_copies S w X (nI 10) (nI 0)) (fun _ X785 => ?_)
          refine ab_e_go 3 (179, [(0, .ref 13), (1, .int a1)], [], ((ab_up X785 13 0 (nI 2)), w)) rfl ?_
          refine ab_e_letX (fun X786 _ => ?_)
          refine ab_e_go 1 (180, [(0, .ref 13), (1, .int a1)], [.int (nI 0)], (X786, w)) rfl ?_
          exact ab_e_rt rfl rfl
      · refine ab_e_go 3 (140, [(0, .ref 13), (1, .int a1)], [.int a1, .ref 13, .ref 13], (X, w)) rfl ?_
        refine ab_e_c3 (k2 := 183) (as := [.ref 13, .int a1]) (rest := [.ref 13]) rfl rfl (T_M_isDone S w X a1) (fun v868 X869 => ?_)
        refine ab_e_br (c := v868 = nI 0) (150, [(0, .ref 13), (1, .int a1)], [.ref 13], (X869, w)) (146, [(0, .ref 13), (1, .int a1)], [.ref 13], (X869, w)) rfl (fun _ => ?_) (fun _ => ?_)
        · refine ab_e_go 2 (154, [(0, .ref 13), (1, .int a1)], [], ((ab_up X869 13 8 a1), w)) rfl ?_
          refine ab_e_letX (fun X870 _ => ?_)
          refine ab_e_go 2 (122, [(1, .int (a1 + (nI 1))), (0, .ref 13)], [], (X870, w)) rfl ?_
          refine ab_e_wk [(0, .ref 13), (1, .int (a1 + (nI 1)))] ⟨rfl, rfl, trivial⟩ ?_
          exact ih X870 (a1 + (nI 1))
        · refine ab_e_go 3 (154, [(0, .ref 13), (1, .int a1)], [], ((ab_up X869 13 8 (-1 : Int32)), w)) rfl ?_
          refine ab_e_letX (fun X871 _ => ?_)
          refine ab_e_go 2 (122, [(1, .int (a1 + (nI 1))), (0, .ref 13)], [], (X871, w)) rfl ?_
          refine ab_e_wk [(0, .ref 13), (1, .int (a1 + (nI 1)))] ⟨rfl, rfl, trivial⟩ ?_
          exact ih X871 (a1 + (nI 1))
def L_M_addItems_24 : Nat → ab_XX → Option (Int32 × ab_XX)
  | 0, _ => none
  | n + 1, X =>
    if nI 0 ≤ X 13 7 then
      if nI 0 ≤ X 13 7 then
        (some (ab_up X 13 5 (nI 0))).bind fun X776 =>
        if X776 13 7 < nI 0 then
          (some (ab_up X776 13 0 (nI 0))).bind fun X777 =>
          if X777 13 0 = nI 0 then
            ab_b3 (F_M_copies X777 (nI 0) (nI 10)) (fun _ X778 =>
              L_M_addItems_122 ab_fu X778 (nI 0))
          else
            some (nI 0, X777)
        else
          (some (ab_up X776 13 0 (nI 1))).bind fun X872 =>
          if X872 13 0 = nI 0 then
            ab_b3 (F_M_copies X872 (nI 0) (nI 10)) (fun _ X873 =>
              L_M_addItems_122 ab_fu X873 (nI 0))
          else
            some (nI 0, X872)
      else
        if X 13 5 ≤ X 13 6 then
          (some (ab_up X 13 5 (nI 0))).bind fun X874 =>
          if X874 13 7 < nI 0 then
            (some (ab_up X874 13 0 (nI 0))).bind fun X875 =>
            if X875 13 0 = nI 0 then
              ab_b3 (F_M_copies X875 (nI 0) (nI 10)) (fun _ X876 =>
                L_M_addItems_122 ab_fu X876 (nI 0))
            else
              some (nI 0, X875)
          else
            (some (ab_up X874 13 0 (nI 1))).bind fun X877 =>
            if X877 13 0 = nI 0 then
              ab_b3 (F_M_copies X877 (nI 0) (nI 10)) (fun _ X878 =>
                L_M_addItems_122 ab_fu X878 (nI 0))
            else
              some (nI 0, X877)
        else
          (some (ab_up X 13 7 (X 13 6))).bind fun X879 =>
          (some (ab_up X879 13 5 (nI 0))).bind fun X880 =>
          if X880 13 7 < nI 0 then
            (some (ab_up X880 13 0 (nI 0))).bind fun X881 =>
            if X881 13 0 = nI 0 then
              ab_b3 (F_M_copies X881 (nI 0) (nI 10)) (fun _ X882 =>
                L_M_addItems_122 ab_fu X882 (nI 0))
            else
              some (nI 0, X881)
          else
            (some (ab_up X880 13 0 (nI 1))).bind fun X883 =>
            if X883 13 0 = nI 0 then
              ab_b3 (F_M_copies X883 (nI 0) (nI 10)) (fun _ X884 =>
                L_M_addItems_122 ab_fu X884 (nI 0))
            else
              some (nI 0, X883)
    else
      (F_M_here X).bind fun v885 =>
      if v885 = nI 59 then
        (some (ab_up X 13 6 ((X 13 6) + (nI 1)))).bind fun X902 =>
        ab_b3 (F_M_item X902) (fun _ X903 =>
          L_M_addItems_24 n X903)
      else
        if nI 0 ≤ X 13 7 then
          (some (ab_up X 13 5 (nI 0))).bind fun X886 =>
          if X886 13 7 < nI 0 then
            (some (ab_up X886 13 0 (nI 0))).bind fun X887 =>
            if X887 13 0 = nI 0 then
              ab_b3 (F_M_copies X887 (nI 0) (nI 10)) (fun _ X888 =>
                L_M_addItems_122 ab_fu X888 (nI 0))
            else
              some (nI 0, X887)
          else
            (some (ab_up X886 13 0 (nI 1))).bind fun X889 =>
            if X889 13 0 = nI 0 then
              ab_b3 (F_M_copies X889 (nI 0) (nI 10)) (fun _ X890 =>
                L_M_addItems_122 ab_fu X890 (nI 0))
            else
              some (nI 0, X889)
        else
          if X 13 5 ≤ X 13 6 then
            (some (ab_up X 13 5 (nI 0))).bind fun X891 =>
            if X891 13 7 < nI 0 then
              (some (ab_up X891 13 0 (nI 0))).bind fun X892 =>
              if X892 13 0 = nI 0 then
                ab_b3 (F_M_copies X892 (nI 0) (nI 10)) (fun _ X893 =>
                  L_M_addItems_122 ab_fu X893 (nI 0))
              else
                some (nI 0, X892)
            else
              (some (ab_up X891 13 0 (nI 1))).bind fun X894 =>
              if X894 13 0 = nI 0 then
                ab_b3 (F_M_copies X894 (nI 0) (nI 10)) (fun _ X895 =>
                  L_M_addItems_122 ab_fu X895 (nI 0))
              else
                some (nI 0, X894)
          else
            (some (ab_up X 13 7 (X 13 6))).bind fun X896 =>
            (some (ab_up X896 13 5 (nI 0))).bind fun X897 =>
            if X897 13 7 < nI 0 then
              (some (ab_up X897 13 0 (nI 0))).bind fun X898 =>
              if X898 13 0 = nI 0 then
                ab_b3 (F_M_copies X898 (nI 0) (nI 10)) (fun _ X899 =>
                  L_M_addItems_122 ab_fu X899 (nI 0))
              else
                some (nI 0, X898)
            else
              (some (ab_up X897 13 0 (nI 1))).bind fun X900 =>
              if X900 13 0 = nI 0 then
                ab_b3 (F_M_copies X900 (nI 0) (nI 10)) (fun _ X901 =>
                  L_M_addItems_122 ab_fu X901 (nI 0))
              else
                some (nI 0, X900)
set_option maxRecDepth 4000 in
theorem T_L_M_addItems_24 (S : Nat × (Nat → Int32)) (w : ab_WW) : ∀ (n : Nat) (X : ab_XX), ab_Eg (ab_m3 ab_fI w) S 206 (24, [(0, .ref 13)], [], (X, w)) (L_M_addItems_24 n X) := by
  intro n
  induction n with
  | zero => intro X; exact ab_e_none
  | succ n ih =>
    intro X
    unfold L_M_addItems_24
    refine ab_e_go 2 (28, [(0, .ref 13)], [.int (X 13 7)], (X, w)) rfl ?_
    refine ab_e_br (c := nI 0 ≤ X 13 7) (57, [(0, .ref 13)], [], (X, w)) (31, [(0, .ref 13)], [], (X, w)) rfl (fun _ => ?_) (fun _ => ?_)
    · refine ab_e_go 2 (61, [(0, .ref 13)], [.int (X 13 7)], (X, w)) rfl ?_
      refine ab_e_br (c := nI 0 ≤ X 13 7) (83, [(0, .ref 13)], [], (X, w)) (64, [(0, .ref 13)], [], (X, w)) rfl (fun _ => ?_) (fun _ => ?_)
      · refine ab_e_go 3 (88, [(0, .ref 13)], [], ((ab_up X 13 5 (nI 0)), w)) rfl ?_
        refine ab_e_letX (fun X776 _ => ?_)
        refine ab_e_go 3 (93, [(0, .ref 13)], [.int (X776 13 7), .ref 13], (X776, w)) rfl ?_
        refine ab_e_br (c := X776 13 7 < nI 0) (100, [(0, .ref 13)], [.ref 13], (X776, w)) (96, [(0, .ref 13)], [.ref 13], (X776, w)) rfl (fun _ => ?_) (fun _ => ?_)
        · refine ab_e_go 2 (104, [(0, .ref 13)], [], ((ab_up X776 13 0 (nI 0)), w)) rfl ?_
          refine ab_e_letX (fun X777 _ => ?_)
          refine ab_e_go 2 (108, [(0, .ref 13)], [.int (X777 13 0)], (X777, w)) rfl ?_
          refine ab_e_br (c := X777 13 0 = nI 0) (113, [(0, .ref 13)], [], (X777, w)) (111, [(0, .ref 13)], [], (X777, w)) rfl (fun _ => ?_) (fun _ => ?_)
          · refine ab_e_go 3 (117, [(0, .ref 13)], [.int (nI 10), .int (nI 0), .ref 13], (X777, w)) rfl ?_
            refine ab_e_c3 (k2 := 35) (as := [.ref 13, .int (nI 0), .int (nI 10)]) (rest := []) rfl rfl (T_M_copies S w X777 (nI 0) (nI 10)) (fun _ X778 => ?_)
            refine ab_e_go 2 (122, [(1, .int (nI 0)), (0, .ref 13)], [], (X778, w)) rfl ?_
            refine ab_e_wk [(0, .ref 13), (1, .int (nI 0))] ⟨rfl, rfl, trivial⟩ ?_
            exact T_L_M_addItems_122 S w ab_fu X778 (nI 0)
          · refine ab_e_go 1 (112, [(0, .ref 13)], [.int (nI 0)], (X777, w)) rfl ?_
            exact ab_e_rt rfl rfl
        · refine ab_e_go 3 (104, [(0, .ref 13)], [], ((ab_up X776 13 0 (nI 1)), w)) rfl ?_
          refine ab_e_letX (fun X872 _ => ?_)
          refine ab_e_go 2 (108, [(0, .ref 13)], [.int (X872 13 0)], (X872, w)) rfl ?_
          refine ab_e_br (c := X872 13 0 = nI 0) (113, [(0, .ref 13)], [], (X872, w)) (111, [(0, .ref 13)], [], (X872, w)) rfl (fun _ => ?_) (fun _ => ?_)
          · refine ab_e_go 3 (117, [(0, .ref 13)], [.int (nI 10), .int (nI 0), .ref 13], (X872, w)) rfl ?_
            refine ab_e_c3 (k2 := 35) (as := [.ref 13, .int (nI 0), .int (nI 10)]) (rest := []) rfl rfl (T_M_copies S w X872 (nI 0) (nI 10)) (fun _ X873 => ?_)
            refine ab_e_go 2 (122, [(1, .int (nI 0)), (0, .ref 13)], [], (X873, w)) rfl ?_
            refine ab_e_wk [(0, .ref 13), (1, .int (nI 0))] ⟨rfl, rfl, trivial⟩ ?_
            exact T_L_M_addItems_122 S w ab_fu X873 (nI 0)
          · refine ab_e_go 1 (112, [(0, .ref 13)], [.int (nI 0)], (X872, w)) rfl ?_
            exact ab_e_rt rfl rfl
      · refine ab_e_go 4 (72, [(0, .ref 13)], [.int (X 13 5), .int (X 13 6)], (X, w)) rfl ?_
        refine ab_e_br (c := X 13 5 ≤ X 13 6) (83, [(0, .ref 13)], [], (X, w)) (75, [(0, .ref 13)], [], (X, w)) rfl (fun _ => ?_) (fun _ => ?_)
        · refine ab_e_go 3 (88, [(0, .ref 13)], [], ((ab_up X 13 5 (nI 0)), w)) rfl ?_
          refine ab_e_letX (fun X874 _ => ?_)
          refine ab_e_go 3 (93, [(0, .ref 13)], [.int (X874 13 7), .ref 13], (X874, w)) rfl ?_
          refine ab_e_br (c := X874 13 7 < nI 0) (100, [(0, .ref 13)], [.ref 13], (X874, w)) (96, [(0, .ref 13)], [.ref 13], (X874, w)) rfl (fun _ => ?_) (fun _ => ?_)
          · refine ab_e_go 2 (104, [(0, .ref 13)], [], ((ab_up X874 13 0 (nI 0)), w)) rfl ?_
            refine ab_e_letX (fun X875 _ => ?_)
            refine ab_e_go 2 (108, [(0, .ref 13)], [.int (X875 13 0)], (X875, w)) rfl ?_
            refine ab_e_br (c := X875 13 0 = nI 0) (113, [(0, .ref 13)], [], (X875, w)) (111, [(0, .ref 13)], [], (X875, w)) rfl (fun _ => ?_) (fun _ => ?_)
            · refine ab_e_go 3 (117, [(0, .ref 13)], [.int (nI 10), .int (nI 0), .ref 13], (X875, w)) rfl ?_
              refine ab_e_c3 (k2 := 35) (as := [.ref 13, .int (nI 0), .int (nI 10)]) (rest := []) rfl rfl (T_M_copies S w X875 (nI 0) (nI 10)) (fun _ X876 => ?_)
              refine ab_e_go 2 (122, [(1, .int (nI 0)), (0, .ref 13)], [], (X876, w)) rfl ?_
              refine ab_e_wk [(0, .ref 13), (1, .int (nI 0))] ⟨rfl, rfl, trivial⟩ ?_
              exact T_L_M_addItems_122 S w ab_fu X876 (nI 0)
            · refine ab_e_go 1 (112, [(0, .ref 13)], [.int (nI 0)], (X875, w)) rfl ?_
              exact ab_e_rt rfl rfl
          · refine ab_e_go 3 (104, [(0, .ref 13)], [], ((ab_up X874 13 0 (nI 1)), w)) rfl ?_
            refine ab_e_letX (fun X877 _ => ?_)
            refine ab_e_go 2 (108, [(0, .ref 13)], [.int (X877 13 0)], (X877, w)) rfl ?_
            refine ab_e_br (c := X877 13 0 = nI 0) (113, [(0, .ref 13)], [], (X877, w)) (111, [(0, .ref 13)], [], (X877, w)) rfl (fun _ => ?_) (fun _ => ?_)
            · refine ab_e_go 3 (117, [(0, .ref 13)], [.int (nI 10), .int (nI 0), .ref 13], (X877, w)) rfl ?_
              refine ab_e_c3 (k2 := 35) (as := [.ref 13, .int (nI 0), .int (nI 10)]) (rest := []) rfl rfl (T_M_copies S w X877 (nI 0) (nI 10)) (fun _ X878 => ?_)
              refine ab_e_go 2 (122, [(1, .int (nI 0)), (0, .ref 13)], [], (X878, w)) rfl ?_
              refine ab_e_wk [(0, .ref 13), (1, .int (nI 0))] ⟨rfl, rfl, trivial⟩ ?_
              exact T_L_M_addItems_122 S w ab_fu X878 (nI 0)
            · refine ab_e_go 1 (112, [(0, .ref 13)], [.int (nI 0)], (X877, w)) rfl ?_
              exact ab_e_rt rfl rfl
        · refine ab_e_go 4 (83, [(0, .ref 13)], [], ((ab_up X 13 7 (X 13 6)), w)) rfl ?_
          refine ab_e_letX (fun X879 _ => ?_)
          refine ab_e_go 3 (88, [(0, .ref 13)], [], ((ab_up X879 13 5 (nI 0)), w)) rfl ?_
          refine ab_e_letX (fun X880 _ => ?_)
          refine ab_e_go 3 (93, [(0, .ref 13)], [.int (X880 13 7), .ref 13], (X880, w)) rfl ?_
          refine ab_e_br (c := X880 13 7 < nI 0) (100, [(0, .ref 13)], [.ref 13], (X880, w)) (96, [(0, .ref 13)], [.ref 13], (X880, w)) rfl (fun _ => ?_) (fun _ => ?_)
          · refine ab_e_go 2 (104, [(0, .ref 13)], [], ((ab_up X880 13 0 (nI 0)), w)) rfl ?_
            refine ab_e_letX (fun X881 _ => ?_)
            refine ab_e_go 2 (108, [(0, .ref 13)], [.int (X881 13 0)], (X881, w)) rfl ?_
            refine ab_e_br (c := X881 13 0 = nI 0) (113, [(0, .ref 13)], [], (X881, w)) (111, [(0, .ref 13)], [], (X881, w)) rfl (fun _ => ?_) (fun _ => ?_)
            · refine ab_e_go 3 (117, [(0, .ref 13)], [.int (nI 10), .int (nI 0), .ref 13], (X881, w)) rfl ?_
              refine ab_e_c3 (k2 := 35) (as := [.ref 13, .int (nI 0), .int (nI 10)]) (rest := []) rfl rfl (T_M_copies S w X881 (nI 0) (nI 10)) (fun _ X882 => ?_)
              refine ab_e_go 2 (122, [(1, .int (nI 0)), (0, .ref 13)], [], (X882, w)) rfl ?_
              refine ab_e_wk [(0, .ref 13), (1, .int (nI 0))] ⟨rfl, rfl, trivial⟩ ?_
              exact T_L_M_addItems_122 S w ab_fu X882 (nI 0)
            · refine ab_e_go 1 (112, [(0, .ref 13)], [.int (nI 0)], (X881, w)) rfl ?_
              exact ab_e_rt rfl rfl
          · refine ab_e_go 3 (104, [(0, .ref 13)], [], ((ab_up X880 13 0 (nI 1)), w)) rfl ?_
            refine ab_e_letX (fun X883 _ => ?_)
            refine ab_e_go 2 (108, [(0, .ref 13)], [.int (X883 13 0)], (X883, w)) rfl ?_
            refine ab_e_br (c := X883 13 0 = nI 0) (113, [(0, .ref 13)], [], (X883, w)) (111, [(0, .ref 13)], [], (X883, w)) rfl (fun _ => ?_) (fun _ => ?_)
            · refine ab_e_go 3 (117, [(0, .ref 13)], [.int (nI 10), .int (nI 0), .ref 13], (X883, w)) rfl ?_
              refine ab_e_c3 (k2 := 35) (as := [.ref 13, .int (nI 0), .int (nI 10)]) (rest := []) rfl rfl (T_M_copies S w X883 (nI 0) (nI 10)) (fun _ X884 => ?_)
              refine ab_e_go 2 (122, [(1, .int (nI 0)), (0, .ref 13)], [], (X884, w)) rfl ?_
              refine ab_e_wk [(0, .ref 13), (1, .int (nI 0))] ⟨rfl, rfl, trivial⟩ ?_
              exact T_L_M_addItems_122 S w ab_fu X884 (nI 0)
            · refine ab_e_go 1 (112, [(0, .ref 13)], [.int (nI 0)], (X883, w)) rfl ?_
              exact ab_e_rt rfl rfl
    · refine ab_e_go 1 (32, [(0, .ref 13)], [.ref 13], (X, w)) rfl ?_
      refine ab_e_c1 (k2 := 38) (as := [.ref 13]) (rest := []) rfl rfl (T_M_here S w X) (fun v885 => ?_)
      refine ab_e_go 1 (37, [(0, .ref 13)], [.int (nI 59), .int v885], (X, w)) rfl ?_
      refine ab_e_bn (c := v885 = nI 59) (57, [(0, .ref 13)], [], (X, w)) (40, [(0, .ref 13)], [], (X, w)) rfl (fun _ => ?_) (fun _ => ?_)
      · refine ab_e_go 2 (61, [(0, .ref 13)], [.int (X 13 7)], (X, w)) rfl ?_
        refine ab_e_br (c := nI 0 ≤ X 13 7) (83, [(0, .ref 13)], [], (X, w)) (64, [(0, .ref 13)], [], (X, w)) rfl (fun _ => ?_) (fun _ => ?_)
        · refine ab_e_go 3 (88, [(0, .ref 13)], [], ((ab_up X 13 5 (nI 0)), w)) rfl ?_
          refine ab_e_letX (fun X886 _ => ?_)
          refine ab_e_go 3 (93, [(0, .ref 13)], [.int (X886 13 7), .ref 13], (X886, w)) rfl ?_
          refine ab_e_br (c := X886 13 7 < nI 0) (100, [(0, .ref 13)], [.ref 13], (X886, w)) (96, [(0, .ref 13)], [.ref 13], (X886, w)) rfl (fun _ => ?_) (fun _ => ?_)
          · refine ab_e_go 2 (104, [(0, .ref 13)], [], ((ab_up X886 13 0 (nI 0)), w)) rfl ?_
            refine ab_e_letX (fun X887 _ => ?_)
            refine ab_e_go 2 (108, [(0, .ref 13)], [.int (X887 13 0)], (X887, w)) rfl ?_
            refine ab_e_br (c := X887 13 0 = nI 0) (113, [(0, .ref 13)], [], (X887, w)) (111, [(0, .ref 13)], [], (X887, w)) rfl (fun _ => ?_) (fun _ => ?_)
            · refine ab_e_go 3 (117, [(0, .ref 13)], [.int (nI 10), .int (nI 0), .ref 13], (X887, w)) rfl ?_
              refine ab_e_c3 (k2 := 35) (as := [.ref 13, .int (nI 0), .int (nI 10)]) (rest := []) rfl rfl (T_M_copies S w X887 (nI 0) (nI 10)) (fun _ X888 => ?_)
              refine ab_e_go 2 (122, [(1, .int (nI 0)), (0, .ref 13)], [], (X888, w)) rfl ?_
              refine ab_e_wk [(0, .ref 13), (1, .int (nI 0))] ⟨rfl, rfl, trivial⟩ ?_
              exact T_L_M_addItems_122 S w ab_fu X888 (nI 0)
            · refine ab_e_go 1 (112, [(0, .ref 13)], [.int (nI 0)], (X887, w)) rfl ?_
              exact ab_e_rt rfl rfl
          · refine ab_e_go 3 (104, [(0, .ref 13)], [], ((ab_up X886 13 0 (nI 1)), w)) rfl ?_
            refine ab_e_letX (fun X889 _ => ?_)
            refine ab_e_go 2 (108, [(0, .ref 13)], [.int (X889 13 0)], (X889, w)) rfl ?_
            refine ab_e_br (c := X889 13 0 = nI 0) (113, [(0, .ref 13)], [], (X889, w)) (111, [(0, .ref 13)], [], (X889, w)) rfl (fun _ => ?_) (fun _ => ?_)
            · refine ab_e_go 3 (117, [(0, .ref 13)], [.int (nI 10), .int (nI 0), .ref 13], (X889, w)) rfl ?_
              refine ab_e_c3 (k2 := 35) (as := [.ref 13, .int (nI 0), .int (nI 10)]) (rest := []) rfl rfl (T_M_copies S w X889 (nI 0) (nI 10)) (fun _ X890 => ?_)
              refine ab_e_go 2 (122, [(1, .int (nI 0)), (0, .ref 13)], [], (X890, w)) rfl ?_
              refine ab_e_wk [(0, .ref 13), (1, .int (nI 0))] ⟨rfl, rfl, trivial⟩ ?_
              exact T_L_M_addItems_122 S w ab_fu X890 (nI 0)
            · refine ab_e_go 1 (112, [(0, .ref 13)], [.int (nI 0)], (X889, w)) rfl ?_
              exact ab_e_rt rfl rfl
        · refine ab_e_go 4 (72, [(0, .ref 13)], [.int (X 13 5), .int (X 13 6)], (X, w)) rfl ?_
          refine ab_e_br (c := X 13 5 ≤ X 13 6) (83, [(0, .ref 13)], [], (X, w)) (75, [(0, .ref 13)], [], (X, w)) rfl (fun _ => ?_) (fun _ => ?_)
          · refine ab_e_go 3 (88, [(0, .ref 13)], [], ((ab_up X 13 5 (nI 0)), w)) rfl ?_
            refine ab_e_letX (fun X891 _ => ?_)
            refine ab_e_go 3 (93, [(0, .ref 13)], [.int (X891 13 7), .ref 13], (X891, w)) rfl ?_
            refine ab_e_br (c := X891 13 7 < nI 0) (100, [(0, .ref 13)], [.ref 13], (X891, w)) (96, [(0, .ref 13)], [.ref 13], (X891, w)) rfl (fun _ => ?_) (fun _ => ?_)
            · refine ab_e_go 2 (104, [(0, .ref 13)], [], ((ab_up X891 13 0 (nI 0)), w)) rfl ?_
              refine ab_e_letX (fun X892 _ => ?_)
              refine ab_e_go 2 (108, [(0, .ref 13)], [.int (X892 13 0)], (X892, w)) rfl ?_
              refine ab_e_br (c := X892 13 0 = nI 0) (113, [(0, .ref 13)], [], (X892, w)) (111, [(0, .ref 13)], [], (X892, w)) rfl (fun _ => ?_) (fun _ => ?_)
              · refine ab_e_go 3 (117, [(0, .ref 13)], [.int (nI 10), .int (nI 0), .ref 13], (X892, w)) rfl ?_
                refine ab_e_c3 (k2 := 35) (as := [.ref 13, .int (nI 0), .int (nI 10)]) (rest := []) rfl rfl (T_M_copies S w X892 (nI 0) (nI 10)) (fun _ X893 => ?_)
                refine ab_e_go 2 (122, [(1, .int (nI 0)), (0, .ref 13)], [], (X893, w)) rfl ?_
                refine ab_e_wk [(0, .ref 13), (1, .int (nI 0))] ⟨rfl, rfl, trivial⟩ ?_
                exact T_L_M_addItems_122 S w ab_fu X893 (nI 0)
              · refine ab_e_go 1 (112, [(0, .ref 13)], [.int (nI 0)], (X892, w)) rfl ?_
                exact ab_e_rt rfl rfl
            · refine ab_e_go 3 (104, [(0, .ref 13)], [], ((ab_up X891 13 0 (nI 1)), w)) rfl ?_
              refine ab_e_letX (fun X894 _ => ?_)
              refine ab_e_go 2 (108, [(0, .ref 13)], [.int (X894 13 0)], (X894, w)) rfl ?_
              refine ab_e_br (c := X894 13 0 = nI 0) (113, [(0, .ref 13)], [], (X894, w)) (111, [(0, .ref 13)], [], (X894, w)) rfl (fun _ => ?_) (fun _ => ?_)
              · refine ab_e_go 3 (117, [(0, .ref 13)], [.int (nI 10), .int (nI 0), .ref 13], (X894, w)) rfl ?_
                refine ab_e_c3 (k2 := 35) (as := [.ref 13, .int (nI 0), .int (nI 10)]) (rest := []) rfl rfl (T_M_copies S w X894 (nI 0) (nI 10)) (fun _ X895 => ?_)
                refine ab_e_go 2 (122, [(1, .int (nI 0)), (0, .ref 13)], [], (X895, w)) rfl ?_
                refine ab_e_wk [(0, .ref 13), (1, .int (nI 0))] ⟨rfl, rfl, trivial⟩ ?_
                exact T_L_M_addItems_122 S w ab_fu X895 (nI 0)
              · refine ab_e_go 1 (112, [(0, .ref 13)], [.int (nI 0)], (X894, w)) rfl ?_
                exact ab_e_rt rfl rfl
          · refine ab_e_go 4 (83, [(0, .ref 13)], [], ((ab_up X 13 7 (X 13 6)), w)) rfl ?_
            refine ab_e_letX (fun X896 _ => ?_)
            refine ab_e_go 3 (88, [(0, .ref 13)], [], ((ab_up X896 13 5 (nI 0)), w)) rfl ?_
            refine ab_e_letX (fun X897 _ => ?_)
            refine ab_e_go 3 (93, [(0, .ref 13)], [.int (X897 13 7), .ref 13], (X897, w)) rfl ?_
            refine ab_e_br (c := X897 13 7 < nI 0) (100, [(0, .ref 13)], [.ref 13], (X897, w)) (96, [(0, .ref 13)], [.ref 13], (X897, w)) rfl (fun _ => ?_) (fun _ => ?_)
            · refine ab_e_go 2 (104, [(0, .ref 13)], [], ((ab_up X897 13 0 (nI 0)), w)) rfl ?_
              refine ab_e_letX (fun X898 _ => ?_)
              refine ab_e_go 2 (108, [(0, .ref 13)], [.int (X898 13 0)], (X898, w)) rfl ?_
              refine ab_e_br (c := X898 13 0 = nI 0) (113, [(0, .ref 13)], [], (X898, w)) (111, [(0, .ref 13)], [], (X898, w)) rfl (fun _ => ?_) (fun _ => ?_)
              · refine ab_e_go 3 (117, [(0, .ref 13)], [.int (nI 10), .int (nI 0), .ref 13], (X898, w)) rfl ?_
                refine ab_e_c3 (k2 := 35) (as := [.ref 13, .int (nI 0), .int (nI 10)]) (rest := []) rfl rfl (T_M_copies S w X898 (nI 0) (nI 10)) (fun _ X899 => ?_)
                refine ab_e_go 2 (122, [(1, .int (nI 0)), (0, .ref 13)], [], (X899, w)) rfl ?_
                refine ab_e_wk [(0, .ref 13), (1, .int (nI 0))] ⟨rfl, rfl, trivial⟩ ?_
                exact T_L_M_addItems_122 S w ab_fu X899 (nI 0)
              · refine ab_e_go 1 (112, [(0, .ref 13)], [.int (nI 0)], (X898, w)) rfl ?_
                exact ab_e_rt rfl rfl
            · refine ab_e_go 3 (104, [(0, .ref 13)], [], ((ab_up X897 13 0 (nI 1)), w)) rfl ?_
              refine ab_e_letX (fun X900 _ => ?_)
              refine ab_e_go 2 (108, [(0, .ref 13)], [.int (X900 13 0)], (X900, w)) rfl ?_
              refine ab_e_br (c := X900 13 0 = nI 0) (113, [(0, .ref 13)], [], (X900, w)) (111, [(0, .ref 13)], [], (X900, w)) rfl (fun _ => ?_) (fun _ => ?_)
              · refine ab_e_go 3 (117, [(0, .ref 13)], [.int (nI 10), .int (nI 0), .ref 13], (X900, w)) rfl ?_
                refine ab_e_c3 (k2 := 35) (as := [.ref 13, .int (nI 0), .int (nI 10)]) (rest := []) rfl rfl (T_M_copies S w X900 (nI 0) (nI 10)) (fun _ X901 => ?_)
                refine ab_e_go 2 (122, [(1, .int (nI 0)), (0, .ref 13)], [], (X901, w)) rfl ?_
                refine ab_e_wk [(0, .ref 13), (1, .int (nI 0))] ⟨rfl, rfl, trivial⟩ ?_
                exact T_L_M_addItems_122 S w ab_fu X901 (nI 0)
              · refine ab_e_go 1 (112, [(0, .ref 13)], [.int (nI 0)], (X900, w)) rfl ?_
                exact ab_e_rt rfl rfl
      · refine ab_e_go 6 (50, [(0, .ref 13)], [], ((ab_up X 13 6 ((X 13 6) + (nI 1))), w)) rfl ?_
        refine ab_e_letX (fun X902 _ => ?_)
        refine ab_e_go 1 (51, [(0, .ref 13)], [.ref 13], (X902, w)) rfl ?_
        refine ab_e_c3 (k2 := 146) (as := [.ref 13]) (rest := []) rfl rfl (T_M_item S w X902) (fun _ X903 => ?_)
        refine ab_e_go 1 (24, [(0, .ref 13)], [], (X903, w)) rfl ?_
        refine ab_e_wk [(0, .ref 13)] ⟨rfl, trivial⟩ ?_
        exact ih X903
def F_M_addItems (X : ab_XX) : Option (Int32 × ab_XX) :=
  (some (ab_up X 13 6 (nI 0))).bind fun X740 =>
  (some (ab_up X740 13 7 (-1 : Int32))).bind fun X741 =>
  (some (ab_up X741 13 8 (-1 : Int32))).bind fun X742 =>
  (some (ab_up X742 13 10 (nI 0))).bind fun X743 =>
  ab_b3 (F_M_item X743) (fun _ X775 =>
    L_M_addItems_24 ab_fu X775)
set_option maxRecDepth 4000 in
theorem T_M_addItems (S : Nat × (Nat → Int32)) (w : ab_WW) (X : ab_XX) : ab_Eg (ab_m3 ab_fI w) S 206 (0, lv_args 0 [.ref 13], [], (X, w)) (F_M_addItems X) := by
  show ab_Eg (ab_m3 ab_fI w) S 206 (0, [(0, .ref 13)], [], (X, w)) _
  unfold F_M_addItems
  refine ab_e_go 3 (5, [(0, .ref 13)], [], ((ab_up X 13 6 (nI 0)), w)) rfl ?_
  refine ab_e_letX (fun X740 _ => ?_)
  refine ab_e_go 3 (10, [(0, .ref 13)], [], ((ab_up X740 13 7 (-1 : Int32)), w)) rfl ?_
  refine ab_e_letX (fun X741 _ => ?_)
  refine ab_e_go 3 (15, [(0, .ref 13)], [], ((ab_up X741 13 8 (-1 : Int32)), w)) rfl ?_
  refine ab_e_letX (fun X742 _ => ?_)
  refine ab_e_go 3 (20, [(0, .ref 13)], [], ((ab_up X742 13 10 (nI 0)), w)) rfl ?_
  refine ab_e_letX (fun X743 _ => ?_)
  refine ab_e_go 1 (21, [(0, .ref 13)], [.ref 13], (X743, w)) rfl ?_
  refine ab_e_c3 (k2 := 146) (as := [.ref 13]) (rest := []) rfl rfl (T_M_item S w X743) (fun _ X775 => ?_)
  refine ab_e_wk [(0, .ref 13)] ⟨rfl, trivial⟩ ?_
  exact T_L_M_addItems_24 S w ab_fu X775
def F_M_hasSkill (X : ab_XX) (a1 : Int32) (a2 : Int32) : Option Int32 :=
  (F_M_of X a1 (nI 4)).bind fun v910 =>
  (F_M_ofShift X a2 (nI 3)).bind fun v911 =>
  if ((v910 >>> (v911 &&& 31)) &&& (nI 1)) = nI 1 then
    some (nI 1)
  else
    some (nI 0)
set_option maxRecDepth 4000 in
theorem T_M_hasSkill (S : Nat × (Nat → Int32)) (w : ab_WW) (X : ab_XX) (a1 : Int32) (a2 : Int32) : ab_Eg (ab_m1 ab_fI (X, w)) S 93 (0, lv_args 0 [.ref 13, .int a1, .int a2], [], (X, w)) (F_M_hasSkill X a1 a2) := by
  show ab_Eg (ab_m1 ab_fI (X, w)) S 93 (0, [(0, .ref 13), (1, .int a1), (2, .int a2)], [], (X, w)) _
  unfold F_M_hasSkill
  refine ab_e_go 3 (3, [(0, .ref 13), (1, .int a1), (2, .int a2)], [.int (nI 4), .int a1, .ref 13], (X, w)) rfl ?_
  refine ab_e_c1 (k2 := 40) (as := [.ref 13, .int a1, .int (nI 4)]) (rest := []) rfl rfl (T_M_of S w X a1 (nI 4)) (fun v910 => ?_)
  refine ab_e_go 3 (9, [(0, .ref 13), (1, .int a1), (2, .int a2)], [.int (nI 3), .int a2, .ref 13, .int v910], (X, w)) rfl ?_
  refine ab_e_c1 (k2 := 41) (as := [.ref 13, .int a2, .int (nI 3)]) (rest := [.int v910]) rfl rfl (T_M_ofShift S w X a2 (nI 3)) (fun v911 => ?_)
  refine ab_e_go 4 (16, [(0, .ref 13), (1, .int a1), (2, .int a2)], [.int (nI 1), .int ((v910 >>> (v911 &&& 31)) &&& (nI 1))], (X, w)) rfl ?_
  refine ab_e_bn (c := ((v910 >>> (v911 &&& 31)) &&& (nI 1)) = nI 1) (23, [(0, .ref 13), (1, .int a1), (2, .int a2)], [], (X, w)) (19, [(0, .ref 13), (1, .int a1), (2, .int a2)], [], (X, w)) rfl (fun _ => ?_) (fun _ => ?_)
  · refine ab_e_go 1 (24, [(0, .ref 13), (1, .int a1), (2, .int a2)], [.int (nI 0)], (X, w)) rfl ?_
    exact ab_e_rt rfl rfl
  · refine ab_e_go 2 (24, [(0, .ref 13), (1, .int a1), (2, .int a2)], [.int (nI 1)], (X, w)) rfl ?_
    exact ab_e_rt rfl rfl
def F_M_isOver (X : ab_XX) (a1 : Int32) (a2 : Int32) : Option Int32 :=
  (F_M_begin X a1).bind fun v916 =>
  (F_M_end X a2).bind fun v917 =>
  if v917 ≤ v916 then
    some (nI 0)
  else
    (F_M_begin X a2).bind fun v918 =>
    (F_M_end X a1).bind fun v919 =>
    if v919 ≤ v918 then
      some (nI 0)
    else
      some (nI 1)
set_option maxRecDepth 4000 in
theorem T_M_isOver (S : Nat × (Nat → Int32)) (w : ab_WW) (X : ab_XX) (a1 : Int32) (a2 : Int32) : ab_Eg (ab_m1 ab_fI (X, w)) S 184 (0, lv_args 0 [.ref 13, .int a1, .int a2], [], (X, w)) (F_M_isOver X a1 a2) := by
  show ab_Eg (ab_m1 ab_fI (X, w)) S 184 (0, [(0, .ref 13), (1, .int a1), (2, .int a2)], [], (X, w)) _
  unfold F_M_isOver
  refine ab_e_go 2 (2, [(0, .ref 13), (1, .int a1), (2, .int a2)], [.int a1, .ref 13], (X, w)) rfl ?_
  refine ab_e_c1 (k2 := 88) (as := [.ref 13, .int a1]) (rest := []) rfl rfl (T_M_begin S w X a1) (fun v916 => ?_)
  refine ab_e_go 2 (7, [(0, .ref 13), (1, .int a1), (2, .int a2)], [.int a2, .ref 13, .int v916], (X, w)) rfl ?_
  refine ab_e_c1 (k2 := 142) (as := [.ref 13, .int a2]) (rest := [.int v916]) rfl rfl (T_M_end S w X a2) (fun v917 => ?_)
  refine ab_e_br (c := v917 ≤ v916) (30, [(0, .ref 13), (1, .int a1), (2, .int a2)], [], (X, w)) (13, [(0, .ref 13), (1, .int a1), (2, .int a2)], [], (X, w)) rfl (fun _ => ?_) (fun _ => ?_)
  · refine ab_e_go 1 (31, [(0, .ref 13), (1, .int a1), (2, .int a2)], [.int (nI 0)], (X, w)) rfl ?_
    exact ab_e_rt rfl rfl
  · refine ab_e_go 2 (15, [(0, .ref 13), (1, .int a1), (2, .int a2)], [.int a2, .ref 13], (X, w)) rfl ?_
    refine ab_e_c1 (k2 := 88) (as := [.ref 13, .int a2]) (rest := []) rfl rfl (T_M_begin S w X a2) (fun v918 => ?_)
    refine ab_e_go 2 (20, [(0, .ref 13), (1, .int a1), (2, .int a2)], [.int a1, .ref 13, .int v918], (X, w)) rfl ?_
    refine ab_e_c1 (k2 := 142) (as := [.ref 13, .int a1]) (rest := [.int v918]) rfl rfl (T_M_end S w X a1) (fun v919 => ?_)
    refine ab_e_br (c := v919 ≤ v918) (30, [(0, .ref 13), (1, .int a1), (2, .int a2)], [], (X, w)) (26, [(0, .ref 13), (1, .int a1), (2, .int a2)], [], (X, w)) rfl (fun _ => ?_) (fun _ => ?_)
    · refine ab_e_go 1 (31, [(0, .ref 13), (1, .int a1), (2, .int a2)], [.int (nI 0)], (X, w)) rfl ?_
      exact ab_e_rt rfl rfl
    · refine ab_e_go 2 (31, [(0, .ref 13), (1, .int a1), (2, .int a2)], [.int (nI 1)], (X, w)) rfl ?_
      exact ab_e_rt rfl rfl
def L_M_lowestOver_2 (X : ab_XX) : Nat → Int32 → Int32 → Int32 → Option Int32
  | 0, _, _, _ => none
  | n + 1, a1, a2, a3 =>
    (F_M_shifts X).bind fun v915 =>
    if v915 ≤ a3 then
      some (-1 : Int32)
    else
      if a3 = a1 then
        L_M_lowestOver_2 X n a1 a2 (a3 + (nI 1))
      else
        if ((a2 >>> (a3 &&& 31)) &&& (nI 1)) = nI 1 then
          (F_M_isOver X a1 a3).bind fun v920 =>
          if v920 = nI 0 then
            L_M_lowestOver_2 X n a1 a2 (a3 + (nI 1))
          else
            some a3
        else
          L_M_lowestOver_2 X n a1 a2 (a3 + (nI 1))
set_option maxRecDepth 4000 in
theorem T_L_M_lowestOver_2 (S : Nat × (Nat → Int32)) (w : ab_WW) (X : ab_XX) : ∀ (n : Nat) (a1 : Int32) (a2 : Int32) (a3 : Int32), ab_Eg (ab_m1 ab_fI (X, w)) S 208 (2, [(0, .ref 13), (1, .int a1), (2, .int a2), (3, .int a3)], [], (X, w)) (L_M_lowestOver_2 X n a1 a2 a3) := by
  intro n
  induction n with
  | zero => intro a1 a2 a3; exact ab_e_none
  | succ n ih =>
    intro a1 a2 a3
    unfold L_M_lowestOver_2
    refine ab_e_go 2 (4, [(0, .ref 13), (1, .int a1), (2, .int a2), (3, .int a3)], [.ref 13, .int a3], (X, w)) rfl ?_
    refine ab_e_c1 (k2 := 43) (as := [.ref 13]) (rest := [.int a3]) rfl rfl (T_M_shifts S w X) (fun v915 => ?_)
    refine ab_e_br (c := v915 ≤ a3) (41, [(0, .ref 13), (1, .int a1), (2, .int a2), (3, .int a3)], [], (X, w)) (10, [(0, .ref 13), (1, .int a1), (2, .int a2), (3, .int a3)], [], (X, w)) rfl (fun _ => ?_) (fun _ => ?_)
    · refine ab_e_go 1 (42, [(0, .ref 13), (1, .int a1), (2, .int a2), (3, .int a3)], [.int (-1 : Int32)], (X, w)) rfl ?_
      exact ab_e_rt rfl rfl
    · refine ab_e_go 2 (12, [(0, .ref 13), (1, .int a1), (2, .int a2), (3, .int a3)], [.int a1, .int a3], (X, w)) rfl ?_
      refine ab_e_br (c := a3 = a1) (35, [(0, .ref 13), (1, .int a1), (2, .int a2), (3, .int a3)], [], (X, w)) (15, [(0, .ref 13), (1, .int a1), (2, .int a2), (3, .int a3)], [], (X, w)) rfl (fun _ => ?_) (fun _ => ?_)
      · refine ab_e_go 2 (2, [(3, .int (a3 + (nI 1))), (0, .ref 13), (1, .int a1), (2, .int a2)], [], (X, w)) rfl ?_
        refine ab_e_wk [(0, .ref 13), (1, .int a1), (2, .int a2), (3, .int (a3 + (nI 1)))] ⟨rfl, rfl, rfl, rfl, trivial⟩ ?_
        exact ih a1 a2 (a3 + (nI 1))
      · refine ab_e_go 6 (21, [(0, .ref 13), (1, .int a1), (2, .int a2), (3, .int a3)], [.int (nI 1), .int ((a2 >>> (a3 &&& 31)) &&& (nI 1))], (X, w)) rfl ?_
        refine ab_e_bn (c := ((a2 >>> (a3 &&& 31)) &&& (nI 1)) = nI 1) (35, [(0, .ref 13), (1, .int a1), (2, .int a2), (3, .int a3)], [], (X, w)) (24, [(0, .ref 13), (1, .int a1), (2, .int a2), (3, .int a3)], [], (X, w)) rfl (fun _ => ?_) (fun _ => ?_)
        · refine ab_e_go 2 (2, [(3, .int (a3 + (nI 1))), (0, .ref 13), (1, .int a1), (2, .int a2)], [], (X, w)) rfl ?_
          refine ab_e_wk [(0, .ref 13), (1, .int a1), (2, .int a2), (3, .int (a3 + (nI 1)))] ⟨rfl, rfl, rfl, rfl, trivial⟩ ?_
          exact ih a1 a2 (a3 + (nI 1))
        · refine ab_e_go 3 (27, [(0, .ref 13), (1, .int a1), (2, .int a2), (3, .int a3)], [.int a3, .int a1, .ref 13], (X, w)) rfl ?_
          refine ab_e_c1 (k2 := 184) (as := [.ref 13, .int a1, .int a3]) (rest := []) rfl rfl (T_M_isOver S w X a1 a3) (fun v920 => ?_)
          refine ab_e_br (c := v920 = nI 0) (35, [(0, .ref 13), (1, .int a1), (2, .int a2), (3, .int a3)], [], (X, w)) (33, [(0, .ref 13), (1, .int a1), (2, .int a2), (3, .int a3)], [], (X, w)) rfl (fun _ => ?_) (fun _ => ?_)
          · refine ab_e_go 2 (2, [(3, .int (a3 + (nI 1))), (0, .ref 13), (1, .int a1), (2, .int a2)], [], (X, w)) rfl ?_
            refine ab_e_wk [(0, .ref 13), (1, .int a1), (2, .int a2), (3, .int (a3 + (nI 1)))] ⟨rfl, rfl, rfl, rfl, trivial⟩ ?_
            exact ih a1 a2 (a3 + (nI 1))
          · refine ab_e_go 1 (34, [(0, .ref 13), (1, .int a1), (2, .int a2), (3, .int a3)], [.int a3], (X, w)) rfl ?_
            exact ab_e_rt rfl rfl
def F_M_lowestOver (X : ab_XX) (a1 : Int32) (a2 : Int32) : Option Int32 :=
  L_M_lowestOver_2 X ab_fu a1 a2 (nI 0)
set_option maxRecDepth 4000 in
theorem T_M_lowestOver (S : Nat × (Nat → Int32)) (w : ab_WW) (X : ab_XX) (a1 : Int32) (a2 : Int32) : ab_Eg (ab_m1 ab_fI (X, w)) S 208 (0, lv_args 0 [.ref 13, .int a1, .int a2], [], (X, w)) (F_M_lowestOver X a1 a2) := by
  show ab_Eg (ab_m1 ab_fI (X, w)) S 208 (0, [(0, .ref 13), (1, .int a1), (2, .int a2)], [], (X, w)) _
  unfold F_M_lowestOver
  refine ab_e_go 2 (2, [(3, .int (nI 0)), (0, .ref 13), (1, .int a1), (2, .int a2)], [], (X, w)) rfl ?_
  refine ab_e_wk [(0, .ref 13), (1, .int a1), (2, .int a2), (3, .int (nI 0))] ⟨rfl, rfl, rfl, rfl, trivial⟩ ?_
  exact T_L_M_lowestOver_2 S w X ab_fu a1 a2 (nI 0)
def F_M_gap (X : ab_XX) (a1 : Int32) (a2 : Int32) : Option Int32 :=
  (F_M_begin X a1).bind fun v925 =>
  (F_M_begin X a2).bind fun v926 =>
  if v926 ≤ v925 then
    (F_M_begin X a1).bind fun v927 =>
    (F_M_end X a2).bind fun v928 =>
    some (v927 - v928)
  else
    (F_M_begin X a2).bind fun v929 =>
    (F_M_end X a1).bind fun v930 =>
    some (v929 - v930)
set_option maxRecDepth 4000 in
theorem T_M_gap (S : Nat × (Nat → Int32)) (w : ab_WW) (X : ab_XX) (a1 : Int32) (a2 : Int32) : ab_Eg (ab_m1 ab_fI (X, w)) S 181 (0, lv_args 0 [.ref 13, .int a1, .int a2], [], (X, w)) (F_M_gap X a1 a2) := by
  show ab_Eg (ab_m1 ab_fI (X, w)) S 181 (0, [(0, .ref 13), (1, .int a1), (2, .int a2)], [], (X, w)) _
  unfold F_M_gap
  refine ab_e_go 2 (2, [(0, .ref 13), (1, .int a1), (2, .int a2)], [.int a1, .ref 13], (X, w)) rfl ?_
  refine ab_e_c1 (k2 := 88) (as := [.ref 13, .int a1]) (rest := []) rfl rfl (T_M_begin S w X a1) (fun v925 => ?_)
  refine ab_e_go 2 (7, [(0, .ref 13), (1, .int a1), (2, .int a2)], [.int a2, .ref 13, .int v925], (X, w)) rfl ?_
  refine ab_e_c1 (k2 := 88) (as := [.ref 13, .int a2]) (rest := [.int v925]) rfl rfl (T_M_begin S w X a2) (fun v926 => ?_)
  refine ab_e_br (c := v926 ≤ v925) (27, [(0, .ref 13), (1, .int a1), (2, .int a2)], [], (X, w)) (13, [(0, .ref 13), (1, .int a1), (2, .int a2)], [], (X, w)) rfl (fun _ => ?_) (fun _ => ?_)
  · refine ab_e_go 2 (29, [(0, .ref 13), (1, .int a1), (2, .int a2)], [.int a1, .ref 13], (X, w)) rfl ?_
    refine ab_e_c1 (k2 := 88) (as := [.ref 13, .int a1]) (rest := []) rfl rfl (T_M_begin S w X a1) (fun v927 => ?_)
    refine ab_e_go 2 (34, [(0, .ref 13), (1, .int a1), (2, .int a2)], [.int a2, .ref 13, .int v927], (X, w)) rfl ?_
    refine ab_e_c1 (k2 := 142) (as := [.ref 13, .int a2]) (rest := [.int v927]) rfl rfl (T_M_end S w X a2) (fun v928 => ?_)
    refine ab_e_go 1 (38, [(0, .ref 13), (1, .int a1), (2, .int a2)], [.int (v927 - v928)], (X, w)) rfl ?_
    exact ab_e_rt rfl rfl
  · refine ab_e_go 2 (15, [(0, .ref 13), (1, .int a1), (2, .int a2)], [.int a2, .ref 13], (X, w)) rfl ?_
    refine ab_e_c1 (k2 := 88) (as := [.ref 13, .int a2]) (rest := []) rfl rfl (T_M_begin S w X a2) (fun v929 => ?_)
    refine ab_e_go 2 (20, [(0, .ref 13), (1, .int a1), (2, .int a2)], [.int a1, .ref 13, .int v929], (X, w)) rfl ?_
    refine ab_e_c1 (k2 := 142) (as := [.ref 13, .int a1]) (rest := [.int v929]) rfl rfl (T_M_end S w X a1) (fun v930 => ?_)
    refine ab_e_go 2 (38, [(0, .ref 13), (1, .int a1), (2, .int a2)], [.int (v929 - v930)], (X, w)) rfl ?_
    exact ab_e_rt rfl rfl
def L_M_lowestNear_3 (X : ab_XX) : Nat → Int32 → Int32 → Int32 → Int32 → Option Int32
  | 0, _, _, _, _ => none
  | n + 1, a1, a2, a3, a4 =>
    (F_M_shifts X).bind fun v924 =>
    if v924 ≤ a4 then
      some (-1 : Int32)
    else
      if a4 = a1 then
        L_M_lowestNear_3 X n a1 a2 a3 (a4 + (nI 1))
      else
        if ((a2 >>> (a4 &&& 31)) &&& (nI 1)) = nI 1 then
          (F_M_gap X a1 a4).bind fun v931 =>
          if a3 ≤ v931 then
            L_M_lowestNear_3 X n a1 a2 a3 (a4 + (nI 1))
          else
            some a4
        else
          L_M_lowestNear_3 X n a1 a2 a3 (a4 + (nI 1))
set_option maxRecDepth 4000 in
theorem T_L_M_lowestNear_3 (S : Nat × (Nat → Int32)) (w : ab_WW) (X : ab_XX) : ∀ (n : Nat) (a1 : Int32) (a2 : Int32) (a3 : Int32) (a4 : Int32), ab_Eg (ab_m1 ab_fI (X, w)) S 207 (3, [(0, .ref 13), (1, .int a1), (2, .int a2), (3, .int a3), (4, .int a4)], [], (X, w)) (L_M_lowestNear_3 X n a1 a2 a3 a4) := by
  intro n
  induction n with
  | zero => intro a1 a2 a3 a4; exact ab_e_none
  | succ n ih =>
    intro a1 a2 a3 a4
    unfold L_M_lowestNear_3
    refine ab_e_go 2 (6, [(0, .ref 13), (1, .int a1), (2, .int a2), (3, .int a3), (4, .int a4)], [.ref 13, .int a4], (X, w)) rfl ?_
    refine ab_e_c1 (k2 := 43) (as := [.ref 13]) (rest := [.int a4]) rfl rfl (T_M_shifts S w X) (fun v924 => ?_)
    refine ab_e_br (c := v924 ≤ a4) (48, [(0, .ref 13), (1, .int a1), (2, .int a2), (3, .int a3), (4, .int a4)], [], (X, w)) (12, [(0, .ref 13), (1, .int a1), (2, .int a2), (3, .int a3), (4, .int a4)], [], (X, w)) rfl (fun _ => ?_) (fun _ => ?_)
    · refine ab_e_go 1 (49, [(0, .ref 13), (1, .int a1), (2, .int a2), (3, .int a3), (4, .int a4)], [.int (-1 : Int32)], (X, w)) rfl ?_
      exact ab_e_rt rfl rfl
    · refine ab_e_go 2 (15, [(0, .ref 13), (1, .int a1), (2, .int a2), (3, .int a3), (4, .int a4)], [.int a1, .int a4], (X, w)) rfl ?_
      refine ab_e_br (c := a4 = a1) (42, [(0, .ref 13), (1, .int a1), (2, .int a2), (3, .int a3), (4, .int a4)], [], (X, w)) (18, [(0, .ref 13), (1, .int a1), (2, .int a2), (3, .int a3), (4, .int a4)], [], (X, w)) rfl (fun _ => ?_) (fun _ => ?_)
      · refine ab_e_go 2 (3, [(4, .int (a4 + (nI 1))), (0, .ref 13), (1, .int a1), (2, .int a2), (3, .int a3)], [], (X, w)) rfl ?_
        refine ab_e_wk [(0, .ref 13), (1, .int a1), (2, .int a2), (3, .int a3), (4, .int (a4 + (nI 1)))] ⟨rfl, rfl, rfl, rfl, rfl, trivial⟩ ?_
        exact ih a1 a2 a3 (a4 + (nI 1))
      · refine ab_e_go 6 (25, [(0, .ref 13), (1, .int a1), (2, .int a2), (3, .int a3), (4, .int a4)], [.int (nI 1), .int ((a2 >>> (a4 &&& 31)) &&& (nI 1))], (X, w)) rfl ?_
        refine ab_e_bn (c := ((a2 >>> (a4 &&& 31)) &&& (nI 1)) = nI 1) (42, [(0, .ref 13), (1, .int a1), (2, .int a2), (3, .int a3), (4, .int a4)], [], (X, w)) (28, [(0, .ref 13), (1, .int a1), (2, .int a2), (3, .int a3), (4, .int a4)], [], (X, w)) rfl (fun _ => ?_) (fun _ => ?_)
        · refine ab_e_go 2 (3, [(4, .int (a4 + (nI 1))), (0, .ref 13), (1, .int a1), (2, .int a2), (3, .int a3)], [], (X, w)) rfl ?_
          refine ab_e_wk [(0, .ref 13), (1, .int a1), (2, .int a2), (3, .int a3), (4, .int (a4 + (nI 1)))] ⟨rfl, rfl, rfl, rfl, rfl, trivial⟩ ?_
          exact ih a1 a2 a3 (a4 + (nI 1))
        · refine ab_e_go 3 (32, [(0, .ref 13), (1, .int a1), (2, .int a2), (3, .int a3), (4, .int a4)], [.int a4, .int a1, .ref 13], (X, w)) rfl ?_
          refine ab_e_c1 (k2 := 181) (as := [.ref 13, .int a1, .int a4]) (rest := []) rfl rfl (T_M_gap S w X a1 a4) (fun v931 => ?_)
          refine ab_e_go 1 (36, [(0, .ref 13), (1, .int a1), (2, .int a2), (3, .int a3), (4, .int a4)], [.int a3, .int v931], (X, w)) rfl ?_
          refine ab_e_br (c := a3 ≤ v931) (42, [(0, .ref 13), (1, .int a1), (2, .int a2), (3, .int a3), (4, .int a4)], [], (X, w)) (39, [(0, .ref 13), (1, .int a1), (2, .int a2), (3, .int a3), (4, .int a4)], [], (X, w)) rfl (fun _ => ?_) (fun _ => ?_)
          · refine ab_e_go 2 (3, [(4, .int (a4 + (nI 1))), (0, .ref 13), (1, .int a1), (2, .int a2), (3, .int a3)], [], (X, w)) rfl ?_
            refine ab_e_wk [(0, .ref 13), (1, .int a1), (2, .int a2), (3, .int a3), (4, .int (a4 + (nI 1)))] ⟨rfl, rfl, rfl, rfl, rfl, trivial⟩ ?_
            exact ih a1 a2 a3 (a4 + (nI 1))
          · refine ab_e_go 1 (41, [(0, .ref 13), (1, .int a1), (2, .int a2), (3, .int a3), (4, .int a4)], [.int a4], (X, w)) rfl ?_
            exact ab_e_rt rfl rfl
def F_M_lowestNear (X : ab_XX) (a1 : Int32) (a2 : Int32) (a3 : Int32) : Option Int32 :=
  L_M_lowestNear_3 X ab_fu a1 a2 a3 (nI 0)
set_option maxRecDepth 4000 in
theorem T_M_lowestNear (S : Nat × (Nat → Int32)) (w : ab_WW) (X : ab_XX) (a1 : Int32) (a2 : Int32) (a3 : Int32) : ab_Eg (ab_m1 ab_fI (X, w)) S 207 (0, lv_args 0 [.ref 13, .int a1, .int a2, .int a3], [], (X, w)) (F_M_lowestNear X a1 a2 a3) := by
  show ab_Eg (ab_m1 ab_fI (X, w)) S 207 (0, [(0, .ref 13), (1, .int a1), (2, .int a2), (3, .int a3)], [], (X, w)) _
  unfold F_M_lowestNear
  refine ab_e_go 2 (3, [(4, .int (nI 0)), (0, .ref 13), (1, .int a1), (2, .int a2), (3, .int a3)], [], (X, w)) rfl ?_
  refine ab_e_wk [(0, .ref 13), (1, .int a1), (2, .int a2), (3, .int a3), (4, .int (nI 0))] ⟨rfl, rfl, rfl, rfl, rfl, trivial⟩ ?_
  exact T_L_M_lowestNear_3 S w X ab_fu a1 a2 a3 (nI 0)
def F_M_clash (X : ab_XX) (a1 : Int32) (a2 : Int32) (a3 : Int32) : Option (Int32 × ab_XX) :=
  (F_M_lowestOver X a2 a3).bind fun v921 =>
  (some (ab_up X 13 11 v921)).bind fun X922 =>
  if X922 13 11 < nI 0 then
    (F_M_of X922 a1 (nI 1)).bind fun v923 =>
    (F_M_lowestNear X922 a2 a3 v923).bind fun v932 =>
    (some (ab_up X922 13 11 v932)).bind fun X933 =>
    if X933 13 11 < nI 0 then
      (F_M_week X933 a2).bind fun v934 =>
      (some (ab_up X933 13 11 v934)).bind fun X935 =>
      (F_M_hoursIn X935 (a3 ||| ((nI 1) <<< (a2 &&& 31))) (X935 13 11)).bind fun v936 =>
      (F_M_of X935 a1 (nI 2)).bind fun v937 =>
      if v936 ≤ v937 then
        (F_M_ofShift X935 a2 (nI 0)).bind fun v938 =>
        (F_M_rowAbout X935 (a3 ||| ((nI 1) <<< (a2 &&& 31))) v938).bind fun v939 =>
        (some (ab_up X935 13 11 v939)).bind fun X940 =>
        (F_M_of X940 a1 (nI 3)).bind fun v941 =>
        if X940 13 11 ≤ v941 then
          (some (ab_up X940 13 11 (nI 0))).bind fun X942 =>
          some (nI 0, X942)
        else
          some (nI 7, X940)
      else
        some (nI 6, X935)
    else
      some (nI 5, X933)
  else
    some (nI 4, X922)
set_option maxRecDepth 4000 in
theorem T_M_clash (S : Nat × (Nat → Int32)) (w : ab_WW) (X : ab_XX) (a1 : Int32) (a2 : Int32) (a3 : Int32) : ab_Eg (ab_m3 ab_fI w) S 220 (0, lv_args 0 [.ref 13, .int a1, .int a2, .int a3], [], (X, w)) (F_M_clash X a1 a2 a3) := by
  show ab_Eg (ab_m3 ab_fI w) S 220 (0, [(0, .ref 13), (1, .int a1), (2, .int a2), (3, .int a3)], [], (X, w)) _
  unfold F_M_clash
  refine ab_e_go 4 (4, [(0, .ref 13), (1, .int a1), (2, .int a2), (3, .int a3)], [.int a3, .int a2, .ref 13, .ref 13], (X, w)) rfl ?_
  refine ab_e_c1 (k2 := 208) (as := [.ref 13, .int a2, .int a3]) (rest := [.ref 13]) rfl rfl (T_M_lowestOver S w X a2 a3) (fun v921 => ?_)
  refine ab_e_go 1 (10, [(0, .ref 13), (1, .int a1), (2, .int a2), (3, .int a3)], [], ((ab_up X 13 11 v921), w)) rfl ?_
  refine ab_e_letX (fun X922 _ => ?_)
  refine ab_e_go 2 (14, [(0, .ref 13), (1, .int a1), (2, .int a2), (3, .int a3)], [.int (X922 13 11)], (X922, w)) rfl ?_
  refine ab_e_br (c := X922 13 11 < nI 0) (19, [(0, .ref 13), (1, .int a1), (2, .int a2), (3, .int a3)], [], (X922, w)) (17, [(0, .ref 13), (1, .int a1), (2, .int a2), (3, .int a3)], [], (X922, w)) rfl (fun _ => ?_) (fun _ => ?_)
  · refine ab_e_go 7 (26, [(0, .ref 13), (1, .int a1), (2, .int a2), (3, .int a3)], [.int (nI 1), .int a1, .ref 13, .int a3, .int a2, .ref 13, .ref 13], (X922, w)) rfl ?_
    refine ab_e_c1 (k2 := 40) (as := [.ref 13, .int a1, .int (nI 1)]) (rest := [.int a3, .int a2, .ref 13, .ref 13]) rfl rfl (T_M_of S w X922 a1 (nI 1)) (fun v923 => ?_)
    refine ab_e_c1 (k2 := 207) (as := [.ref 13, .int a2, .int a3, .int v923]) (rest := [.ref 13]) rfl rfl (T_M_lowestNear S w X922 a2 a3 v923) (fun v932 => ?_)
    refine ab_e_go 1 (35, [(0, .ref 13), (1, .int a1), (2, .int a2), (3, .int a3)], [], ((ab_up X922 13 11 v932), w)) rfl ?_
    refine ab_e_letX (fun X933 _ => ?_)
    refine ab_e_go 2 (39, [(0, .ref 13), (1, .int a1), (2, .int a2), (3, .int a3)], [.int (X933 13 11)], (X933, w)) rfl ?_
    refine ab_e_br (c := X933 13 11 < nI 0) (44, [(0, .ref 13), (1, .int a1), (2, .int a2), (3, .int a3)], [], (X933, w)) (42, [(0, .ref 13), (1, .int a1), (2, .int a2), (3, .int a3)], [], (X933, w)) rfl (fun _ => ?_) (fun _ => ?_)
    · refine ab_e_go 9 (54, [(4, .int (a3 ||| ((nI 1) <<< (a2 &&& 31)))), (0, .ref 13), (1, .int a1), (2, .int a2), (3, .int a3)], [.int a2, .ref 13, .ref 13], (X933, w)) rfl ?_
      refine ab_e_c1 (k2 := 110) (as := [.ref 13, .int a2]) (rest := [.ref 13]) rfl rfl (T_M_week S w X933 a2) (fun v934 => ?_)
      refine ab_e_go 1 (60, [(4, .int (a3 ||| ((nI 1) <<< (a2 &&& 31)))), (0, .ref 13), (1, .int a1), (2, .int a2), (3, .int a3)], [], ((ab_up X933 13 11 v934), w)) rfl ?_
      refine ab_e_letX (fun X935 _ => ?_)
      refine ab_e_go 4 (67, [(4, .int (a3 ||| ((nI 1) <<< (a2 &&& 31)))), (0, .ref 13), (1, .int a1), (2, .int a2), (3, .int a3)], [.int (X935 13 11), .int (a3 ||| ((nI 1) <<< (a2 &&& 31))), .ref 13], (X935, w)) rfl ?_
      refine ab_e_c1 (k2 := 145) (as := [.ref 13, .int (a3 ||| ((nI 1) <<< (a2 &&& 31))), .int (X935 13 11)]) (rest := []) rfl rfl (T_M_hoursIn S w X935 (a3 ||| ((nI 1) <<< (a2 &&& 31))) (X935 13 11)) (fun v936 => ?_)
      refine ab_e_go 3 (73, [(4, .int (a3 ||| ((nI 1) <<< (a2 &&& 31)))), (0, .ref 13), (1, .int a1), (2, .int a2), (3, .int a3)], [.int (nI 2), .int a1, .ref 13, .int v936], (X935, w)) rfl ?_
      refine ab_e_c1 (k2 := 40) (as := [.ref 13, .int a1, .int (nI 2)]) (rest := [.int v936]) rfl rfl (T_M_of S w X935 a1 (nI 2)) (fun v937 => ?_)
      refine ab_e_br (c := v936 ≤ v937) (82, [(4, .int (a3 ||| ((nI 1) <<< (a2 &&& 31)))), (0, .ref 13), (1, .int a1), (2, .int a2), (3, .int a3)], [], (X935, w)) (79, [(4, .int (a3 ||| ((nI 1) <<< (a2 &&& 31)))), (0, .ref 13), (1, .int a1), (2, .int a2), (3, .int a3)], [], (X935, w)) rfl (fun _ => ?_) (fun _ => ?_)
      · refine ab_e_go 6 (89, [(4, .int (a3 ||| ((nI 1) <<< (a2 &&& 31)))), (0, .ref 13), (1, .int a1), (2, .int a2), (3, .int a3)], [.int (nI 0), .int a2, .ref 13, .int (a3 ||| ((nI 1) <<< (a2 &&& 31))), .ref 13, .ref 13], (X935, w)) rfl ?_
        refine ab_e_c1 (k2 := 41) (as := [.ref 13, .int a2, .int (nI 0)]) (rest := [.int (a3 ||| ((nI 1) <<< (a2 &&& 31))), .ref 13, .ref 13]) rfl rfl (T_M_ofShift S w X935 a2 (nI 0)) (fun v938 => ?_)
        refine ab_e_c1 (k2 := 151) (as := [.ref 13, .int (a3 ||| ((nI 1) <<< (a2 &&& 31))), .int v938]) (rest := [.ref 13]) rfl rfl (T_M_rowAbout S w X935 (a3 ||| ((nI 1) <<< (a2 &&& 31))) v938) (fun v939 => ?_)
        refine ab_e_go 1 (98, [(4, .int (a3 ||| ((nI 1) <<< (a2 &&& 31)))), (0, .ref 13), (1, .int a1), (2, .int a2), (3, .int a3)], [], ((ab_up X935 13 11 v939), w)) rfl ?_
        refine ab_e_letX (fun X940 _ => ?_)
        refine ab_e_go 5 (105, [(4, .int (a3 ||| ((nI 1) <<< (a2 &&& 31)))), (0, .ref 13), (1, .int a1), (2, .int a2), (3, .int a3)], [.int (nI 3), .int a1, .ref 13, .int (X940 13 11)], (X940, w)) rfl ?_
        refine ab_e_c1 (k2 := 40) (as := [.ref 13, .int a1, .int (nI 3)]) (rest := [.int (X940 13 11)]) rfl rfl (T_M_of S w X940 a1 (nI 3)) (fun v941 => ?_)
        refine ab_e_br (c := X940 13 11 ≤ v941) (114, [(4, .int (a3 ||| ((nI 1) <<< (a2 &&& 31)))), (0, .ref 13), (1, .int a1), (2, .int a2), (3, .int a3)], [], (X940, w)) (111, [(4, .int (a3 ||| ((nI 1) <<< (a2 &&& 31)))), (0, .ref 13), (1, .int a1), (2, .int a2), (3, .int a3)], [], (X940, w)) rfl (fun _ => ?_) (fun _ => ?_)
        · refine ab_e_go 3 (119, [(4, .int (a3 ||| ((nI 1) <<< (a2 &&& 31)))), (0, .ref 13), (1, .int a1), (2, .int a2), (3, .int a3)], [], ((ab_up X940 13 11 (nI 0)), w)) rfl ?_
          refine ab_e_letX (fun X942 _ => ?_)
          refine ab_e_go 1 (120, [(4, .int (a3 ||| ((nI 1) <<< (a2 &&& 31)))), (0, .ref 13), (1, .int a1), (2, .int a2), (3, .int a3)], [.int (nI 0)], (X942, w)) rfl ?_
          exact ab_e_rt rfl rfl
        · refine ab_e_go 1 (113, [(4, .int (a3 ||| ((nI 1) <<< (a2 &&& 31)))), (0, .ref 13), (1, .int a1), (2, .int a2), (3, .int a3)], [.int (nI 7)], (X940, w)) rfl ?_
          exact ab_e_rt rfl rfl
      · refine ab_e_go 1 (81, [(4, .int (a3 ||| ((nI 1) <<< (a2 &&& 31)))), (0, .ref 13), (1, .int a1), (2, .int a2), (3, .int a3)], [.int (nI 6)], (X935, w)) rfl ?_
        exact ab_e_rt rfl rfl
    · refine ab_e_go 1 (43, [(0, .ref 13), (1, .int a1), (2, .int a2), (3, .int a3)], [.int (nI 5)], (X933, w)) rfl ?_
      exact ab_e_rt rfl rfl
  · refine ab_e_go 1 (18, [(0, .ref 13), (1, .int a1), (2, .int a2), (3, .int a3)], [.int (nI 4)], (X922, w)) rfl ?_
    exact ab_e_rt rfl rfl
