/-! ===== what the methods of the reference compute, part 5 (by program: wip/whole/tools/dec.py) ===== -/
def F_M_obstacleOf (X : ab_XX) (a1 : Int32) (a2 : Int32) (a3 : Int32) (a4 : Int32) : Option (Int32 × ab_XX) :=
  (some (ab_up X 13 11 a2)).bind fun X907 =>
  if ((a3 >>> (a2 &&& 31)) &&& (nI 1)) = nI 1 then
    some (nI 1, X907)
  else
    (F_M_ofShift X907 a2 (nI 3)).bind fun v908 =>
    (some (ab_up X907 13 11 v908)).bind fun X909 =>
    (F_M_hasSkill X909 a1 a2).bind fun v912 =>
    if v912 = nI 0 then
      some (nI 2, X909)
    else
      (F_M_ofShift X909 a2 (nI 4)).bind fun v913 =>
      (some (ab_up X909 13 11 v913)).bind fun X914 =>
      if a4 = nI 0 then
        (F_M_coverage X914 a2).bind fun v945 =>
        if v945 = X914 13 11 then
          some (nI 3, X914)
        else
          ab_b3 (F_M_clash X914 a1 a2 a3) (fun v946 X947 =>
            some (v946, X947))
      else
        ab_b3 (F_M_clash X914 a1 a2 a3) (fun v943 X944 =>
          some (v943, X944))
set_option maxRecDepth 4000 in
theorem T_M_obstacleOf (S : Nat × (Nat → Int32)) (w : ab_WW) (X : ab_XX) (a1 : Int32) (a2 : Int32) (a3 : Int32) (a4 : Int32) : ab_Eg (ab_m3 ab_fI w) S 232 (0, lv_args 0 [.ref 13, .int a1, .int a2, .int a3, .int a4], [], (X, w)) (F_M_obstacleOf X a1 a2 a3 a4) := by
  show ab_Eg (ab_m3 ab_fI w) S 232 (0, [(0, .ref 13), (1, .int a1), (2, .int a2), (3, .int a3), (4, .int a4)], [], (X, w)) _
  unfold F_M_obstacleOf
  refine ab_e_go 3 (5, [(0, .ref 13), (1, .int a1), (2, .int a2), (3, .int a3), (4, .int a4)], [], ((ab_up X 13 11 a2), w)) rfl ?_
  refine ab_e_letX (fun X907 _ => ?_)
  refine ab_e_go 6 (11, [(0, .ref 13), (1, .int a1), (2, .int a2), (3, .int a3), (4, .int a4)], [.int (nI 1), .int ((a3 >>> (a2 &&& 31)) &&& (nI 1))], (X907, w)) rfl ?_
  refine ab_e_bn (c := ((a3 >>> (a2 &&& 31)) &&& (nI 1)) = nI 1) (16, [(0, .ref 13), (1, .int a1), (2, .int a2), (3, .int a3), (4, .int a4)], [], (X907, w)) (14, [(0, .ref 13), (1, .int a1), (2, .int a2), (3, .int a3), (4, .int a4)], [], (X907, w)) rfl (fun _ => ?_) (fun _ => ?_)
  · refine ab_e_go 4 (20, [(0, .ref 13), (1, .int a1), (2, .int a2), (3, .int a3), (4, .int a4)], [.int (nI 3), .int a2, .ref 13, .ref 13], (X907, w)) rfl ?_
    refine ab_e_c1 (k2 := 41) (as := [.ref 13, .int a2, .int (nI 3)]) (rest := [.ref 13]) rfl rfl (T_M_ofShift S w X907 a2 (nI 3)) (fun v908 => ?_)
    refine ab_e_go 1 (26, [(0, .ref 13), (1, .int a1), (2, .int a2), (3, .int a3), (4, .int a4)], [], ((ab_up X907 13 11 v908), w)) rfl ?_
    refine ab_e_letX (fun X909 _ => ?_)
    refine ab_e_go 3 (29, [(0, .ref 13), (1, .int a1), (2, .int a2), (3, .int a3), (4, .int a4)], [.int a2, .int a1, .ref 13], (X909, w)) rfl ?_
    refine ab_e_c1 (k2 := 93) (as := [.ref 13, .int a1, .int a2]) (rest := []) rfl rfl (T_M_hasSkill S w X909 a1 a2) (fun v912 => ?_)
    refine ab_e_bn (c := v912 = nI 0) (37, [(0, .ref 13), (1, .int a1), (2, .int a2), (3, .int a3), (4, .int a4)], [], (X909, w)) (35, [(0, .ref 13), (1, .int a1), (2, .int a2), (3, .int a3), (4, .int a4)], [], (X909, w)) rfl (fun _ => ?_) (fun _ => ?_)
    · refine ab_e_go 4 (41, [(0, .ref 13), (1, .int a1), (2, .int a2), (3, .int a3), (4, .int a4)], [.int (nI 4), .int a2, .ref 13, .ref 13], (X909, w)) rfl ?_
      refine ab_e_c1 (k2 := 41) (as := [.ref 13, .int a2, .int (nI 4)]) (rest := [.ref 13]) rfl rfl (T_M_ofShift S w X909 a2 (nI 4)) (fun v913 => ?_)
      refine ab_e_go 1 (47, [(0, .ref 13), (1, .int a1), (2, .int a2), (3, .int a3), (4, .int a4)], [], ((ab_up X909 13 11 v913), w)) rfl ?_
      refine ab_e_letX (fun X914 _ => ?_)
      refine ab_e_go 1 (49, [(0, .ref 13), (1, .int a1), (2, .int a2), (3, .int a3), (4, .int a4)], [.int a4], (X914, w)) rfl ?_
      refine ab_e_bn (c := a4 = nI 0) (66, [(0, .ref 13), (1, .int a1), (2, .int a2), (3, .int a3), (4, .int a4)], [], (X914, w)) (52, [(0, .ref 13), (1, .int a1), (2, .int a2), (3, .int a3), (4, .int a4)], [], (X914, w)) rfl (fun _ => ?_) (fun _ => ?_)
      · refine ab_e_go 4 (70, [(0, .ref 13), (1, .int a1), (2, .int a2), (3, .int a3), (4, .int a4)], [.int a3, .int a2, .int a1, .ref 13], (X914, w)) rfl ?_
        refine ab_e_c3 (k2 := 220) (as := [.ref 13, .int a1, .int a2, .int a3]) (rest := []) rfl rfl (T_M_clash S w X914 a1 a2 a3) (fun v943 X944 => ?_)
        exact ab_e_rt rfl rfl
      · refine ab_e_go 2 (54, [(0, .ref 13), (1, .int a1), (2, .int a2), (3, .int a3), (4, .int a4)], [.int a2, .ref 13], (X914, w)) rfl ?_
        refine ab_e_c1 (k2 := 90) (as := [.ref 13, .int a2]) (rest := []) rfl rfl (T_M_coverage S w X914 a2) (fun v945 => ?_)
        refine ab_e_go 2 (61, [(0, .ref 13), (1, .int a1), (2, .int a2), (3, .int a3), (4, .int a4)], [.int (X914 13 11), .int v945], (X914, w)) rfl ?_
        refine ab_e_bn (c := v945 = X914 13 11) (66, [(0, .ref 13), (1, .int a1), (2, .int a2), (3, .int a3), (4, .int a4)], [], (X914, w)) (64, [(0, .ref 13), (1, .int a1), (2, .int a2), (3, .int a3), (4, .int a4)], [], (X914, w)) rfl (fun _ => ?_) (fun _ => ?_)
        · refine ab_e_go 4 (70, [(0, .ref 13), (1, .int a1), (2, .int a2), (3, .int a3), (4, .int a4)], [.int a3, .int a2, .int a1, .ref 13], (X914, w)) rfl ?_
          refine ab_e_c3 (k2 := 220) (as := [.ref 13, .int a1, .int a2, .int a3]) (rest := []) rfl rfl (T_M_clash S w X914 a1 a2 a3) (fun v946 X947 => ?_)
          exact ab_e_rt rfl rfl
        · refine ab_e_go 1 (65, [(0, .ref 13), (1, .int a1), (2, .int a2), (3, .int a3), (4, .int a4)], [.int (nI 3)], (X914, w)) rfl ?_
          exact ab_e_rt rfl rfl
    · refine ab_e_go 1 (36, [(0, .ref 13), (1, .int a1), (2, .int a2), (3, .int a3), (4, .int a4)], [.int (nI 2)], (X909, w)) rfl ?_
      exact ab_e_rt rfl rfl
  · refine ab_e_go 1 (15, [(0, .ref 13), (1, .int a1), (2, .int a2), (3, .int a3), (4, .int a4)], [.int (nI 1)], (X907, w)) rfl ?_
    exact ab_e_rt rfl rfl
def F_M_gives (X : ab_XX) (a1 : Int32) (a2 : Int32) : Option (Unit × ab_XX) :=
  (F_M_awards X).bind fun v952 =>
  (some (ab_up X 14 ((nI 308).toNatClampNeg) ((X 14 308) + (nI 1)))).bind fun X953 =>
  if ab_in ((nI 309) + ((nI 2) * v952)) 4455 = true then
    (some (ab_up X953 14 (((nI 309) + ((nI 2) * v952)).toNatClampNeg) a1)).bind fun X954 =>
    if ab_in (((nI 309) + ((nI 2) * v952)) + (nI 1)) 4455 = true then
      (some (ab_up X954 14 ((((nI 309) + ((nI 2) * v952)) + (nI 1)).toNatClampNeg) a2)).bind fun X955 =>
      some ((), X955)
    else none
  else none
set_option maxRecDepth 4000 in
theorem T_M_gives (S : Nat × (Nat → Int32)) (w : ab_WW) (X : ab_XX) (a1 : Int32) (a2 : Int32) : ab_Eg (ab_m3 ab_fU w) S 92 (0, lv_args 0 [.ref 13, .int a1, .int a2], [], (X, w)) (F_M_gives X a1 a2) := by
  show ab_Eg (ab_m3 ab_fU w) S 92 (0, [(0, .ref 13), (1, .int a1), (2, .int a2)], [], (X, w)) _
  unfold F_M_gives
  refine ab_e_go 1 (1, [(0, .ref 13), (1, .int a1), (2, .int a2)], [.ref 13], (X, w)) rfl ?_
  refine ab_e_c1 (k2 := 33) (as := [.ref 13]) (rest := []) rfl rfl (T_M_awards S w X) (fun v952 => ?_)
  refine ab_e_go 9 (17, [(3, .int v952), (0, .ref 13), (1, .int a1), (2, .int a2)], [], ((ab_up X 14 ((nI 308).toNatClampNeg) ((X 14 308) + (nI 1))), w)) rfl ?_
  refine ab_e_letX (fun X953 _ => ?_)
  refine ab_e_go 8 (29, [(3, .int v952), (0, .ref 13), (1, .int a1), (2, .int a2)], [.int a1, .int ((nI 309) + ((nI 2) * v952)), .ref 14], (X953, w)) rfl ?_
  refine ab_e_gd (30, [(3, .int v952), (0, .ref 13), (1, .int a1), (2, .int a2)], [], ((ab_up X953 14 (((nI 309) + ((nI 2) * v952)).toNatClampNeg) a1), w)) rfl ?_
  refine ab_e_letX (fun X954 _ => ?_)
  refine ab_e_go 10 (44, [(3, .int v952), (0, .ref 13), (1, .int a1), (2, .int a2)], [.int a2, .int (((nI 309) + ((nI 2) * v952)) + (nI 1)), .ref 14], (X954, w)) rfl ?_
  refine ab_e_gd (45, [(3, .int v952), (0, .ref 13), (1, .int a1), (2, .int a2)], [], ((ab_up X954 14 ((((nI 309) + ((nI 2) * v952)) + (nI 1)).toNatClampNeg) a2), w)) rfl ?_
  refine ab_e_letX (fun X955 _ => ?_)
  exact ab_e_rt rfl rfl
def F_M_award (X : ab_XX) (a1 : Int32) (a2 : Int32) : Option (Int32 × ab_XX) :=
  (F_M_isWorker X a1).bind fun v904 =>
  if v904 = nI 0 then
    (some (ab_up X 13 0 (nI 1))).bind fun X905 =>
    if X905 13 0 = nI 0 then
      (F_M_heldBy X905 a1).bind fun v906 =>
      ab_b3 (F_M_obstacleOf X905 a1 a2 v906 (nI 0)) (fun v948 X949 =>
        if v948 = nI 0 then
          ab_b3 (F_M_reasons X949 (nI 0) (nI 0) (-1 : Int32)) (fun _ X950 =>
            ab_b3 (F_M_keeps X950) (fun _ X951 =>
              ab_b3 (F_M_gives X951 a1 a2) (fun _ X956 =>
                (F_M_coverage X956 a2).bind fun v957 =>
                some (v957, X956))))
        else
          ab_b3 (F_M_reasons X949 v948 (X949 13 11) a1) (fun _ X958 =>
            (some (ab_up X958 13 0 (nI 2))).bind fun X959 =>
            some (nI 0, X959)))
    else
      some (nI 0, X905)
  else
    (F_M_isShift X a2).bind fun v960 =>
    if v960 = nI 0 then
      (some (ab_up X 13 0 (nI 1))).bind fun X961 =>
      if X961 13 0 = nI 0 then
        (F_M_heldBy X961 a1).bind fun v962 =>
        ab_b3 (F_M_obstacleOf X961 a1 a2 v962 (nI 0)) (fun v963 X964 =>
          if v963 = nI 0 then
            ab_b3 (F_M_reasons X964 (nI 0) (nI 0) (-1 : Int32)) (fun _ X965 =>
              ab_b3 (F_M_keeps X965) (fun _ X966 =>
                ab_b3 (F_M_gives X966 a1 a2) (fun _ X967 =>
                  (F_M_coverage X967 a2).bind fun v968 =>
                  some (v968, X967))))
          else
            ab_b3 (F_M_reasons X964 v963 (X964 13 11) a1) (fun _ X969 =>
              (some (ab_up X969 13 0 (nI 2))).bind fun X970 =>
              some (nI 0, X970)))
      else
        some (nI 0, X961)
    else
      (some (ab_up X 13 0 (nI 0))).bind fun X971 =>
      if X971 13 0 = nI 0 then
        (F_M_heldBy X971 a1).bind fun v972 =>
        ab_b3 (F_M_obstacleOf X971 a1 a2 v972 (nI 0)) (fun v973 X974 =>
          if v973 = nI 0 then
            ab_b3 (F_M_reasons X974 (nI 0) (nI 0) (-1 : Int32)) (fun _ X975 =>
              ab_b3 (F_M_keeps X975) (fun _ X976 =>
                ab_b3 (F_M_gives X976 a1 a2) (fun _ X977 =>
                  (F_M_coverage X977 a2).bind fun v978 =>
                  some (v978, X977))))
          else
            ab_b3 (F_M_reasons X974 v973 (X974 13 11) a1) (fun _ X979 =>
              (some (ab_up X979 13 0 (nI 2))).bind fun X980 =>
              some (nI 0, X980)))
      else
        some (nI 0, X971)
set_option maxRecDepth 4000 in
theorem T_M_award (S : Nat × (Nat → Int32)) (w : ab_WW) (X : ab_XX) (a1 : Int32) (a2 : Int32) : ab_Eg (ab_m3 ab_fI w) S 237 (0, lv_args 0 [.ref 13, .int a1, .int a2], [], (X, w)) (F_M_award X a1 a2) := by
  show ab_Eg (ab_m3 ab_fI w) S 237 (0, [(0, .ref 13), (1, .int a1), (2, .int a2)], [], (X, w)) _
  unfold F_M_award
  refine ab_e_go 3 (3, [(0, .ref 13), (1, .int a1), (2, .int a2)], [.int a1, .ref 13, .ref 13], (X, w)) rfl ?_
  refine ab_e_c1 (k2 := 98) (as := [.ref 13, .int a1]) (rest := [.ref 13]) rfl rfl (T_M_isWorker S w X a1) (fun v904 => ?_)
  refine ab_e_br (c := v904 = nI 0) (21, [(0, .ref 13), (1, .int a1), (2, .int a2)], [.ref 13], (X, w)) (9, [(0, .ref 13), (1, .int a1), (2, .int a2)], [.ref 13], (X, w)) rfl (fun _ => ?_) (fun _ => ?_)
  · refine ab_e_go 2 (25, [(0, .ref 13), (1, .int a1), (2, .int a2)], [], ((ab_up X 13 0 (nI 1)), w)) rfl ?_
    refine ab_e_letX (fun X905 _ => ?_)
    refine ab_e_go 2 (29, [(0, .ref 13), (1, .int a1), (2, .int a2)], [.int (X905 13 0)], (X905, w)) rfl ?_
    refine ab_e_br (c := X905 13 0 = nI 0) (34, [(0, .ref 13), (1, .int a1), (2, .int a2)], [], (X905, w)) (32, [(0, .ref 13), (1, .int a1), (2, .int a2)], [], (X905, w)) rfl (fun _ => ?_) (fun _ => ?_)
    · refine ab_e_go 5 (39, [(0, .ref 13), (1, .int a1), (2, .int a2)], [.int a1, .ref 13, .int a2, .int a1, .ref 13], (X905, w)) rfl ?_
      refine ab_e_c1 (k2 := 94) (as := [.ref 13, .int a1]) (rest := [.int a2, .int a1, .ref 13]) rfl rfl (T_M_heldBy S w X905 a1) (fun v906 => ?_)
      refine ab_e_go 1 (43, [(0, .ref 13), (1, .int a1), (2, .int a2)], [.int (nI 0), .int v906, .int a2, .int a1, .ref 13], (X905, w)) rfl ?_
      refine ab_e_c3 (k2 := 232) (as := [.ref 13, .int a1, .int a2, .int v906, .int (nI 0)]) (rest := []) rfl rfl (T_M_obstacleOf S w X905 a1 a2 v906 (nI 0)) (fun v948 X949 => ?_)
      refine ab_e_go 2 (48, [(3, .int v948), (0, .ref 13), (1, .int a1), (2, .int a2)], [.int v948], (X949, w)) rfl ?_
      refine ab_e_br (c := v948 = nI 0) (68, [(3, .int v948), (0, .ref 13), (1, .int a1), (2, .int a2)], [], (X949, w)) (51, [(3, .int v948), (0, .ref 13), (1, .int a1), (2, .int a2)], [], (X949, w)) rfl (fun _ => ?_) (fun _ => ?_)
      · refine ab_e_go 4 (72, [(3, .int v948), (0, .ref 13), (1, .int a1), (2, .int a2)], [.int (-1 : Int32), .int (nI 0), .int (nI 0), .ref 13], (X949, w)) rfl ?_
        refine ab_e_c3 (k2 := 42) (as := [.ref 13, .int (nI 0), .int (nI 0), .int (-1 : Int32)]) (rest := []) rfl rfl (T_M_reasons S w X949 (nI 0) (nI 0) (-1 : Int32)) (fun _ X950 => ?_)
        refine ab_e_go 1 (76, [(3, .int v948), (0, .ref 13), (1, .int a1), (2, .int a2)], [.ref 13], (X950, w)) rfl ?_
        refine ab_e_c3 (k2 := 99) (as := [.ref 13]) (rest := []) rfl rfl (T_M_keeps S w X950) (fun _ X951 => ?_)
        refine ab_e_go 3 (82, [(3, .int v948), (0, .ref 13), (1, .int a1), (2, .int a2)], [.int a2, .int a1, .ref 13], (X951, w)) rfl ?_
        refine ab_e_c3 (k2 := 92) (as := [.ref 13, .int a1, .int a2]) (rest := []) rfl rfl (T_M_gives S w X951 a1 a2) (fun _ X956 => ?_)
        refine ab_e_go 2 (87, [(3, .int v948), (0, .ref 13), (1, .int a1), (2, .int a2)], [.int a2, .ref 13], (X956, w)) rfl ?_
        refine ab_e_c1 (k2 := 90) (as := [.ref 13, .int a2]) (rest := []) rfl rfl (T_M_coverage S w X956 a2) (fun v957 => ?_)
        exact ab_e_rt rfl rfl
      · refine ab_e_go 5 (58, [(3, .int v948), (0, .ref 13), (1, .int a1), (2, .int a2)], [.int a1, .int (X949 13 11), .int v948, .ref 13], (X949, w)) rfl ?_
        refine ab_e_c3 (k2 := 42) (as := [.ref 13, .int v948, .int (X949 13 11), .int a1]) (rest := []) rfl rfl (T_M_reasons S w X949 v948 (X949 13 11) a1) (fun _ X958 => ?_)
        refine ab_e_go 3 (66, [(3, .int v948), (0, .ref 13), (1, .int a1), (2, .int a2)], [], ((ab_up X958 13 0 (nI 2)), w)) rfl ?_
        refine ab_e_letX (fun X959 _ => ?_)
        refine ab_e_go 1 (67, [(3, .int v948), (0, .ref 13), (1, .int a1), (2, .int a2)], [.int (nI 0)], (X959, w)) rfl ?_
        exact ab_e_rt rfl rfl
    · refine ab_e_go 1 (33, [(0, .ref 13), (1, .int a1), (2, .int a2)], [.int (nI 0)], (X905, w)) rfl ?_
      exact ab_e_rt rfl rfl
  · refine ab_e_go 2 (11, [(0, .ref 13), (1, .int a1), (2, .int a2)], [.int a2, .ref 13, .ref 13], (X, w)) rfl ?_
    refine ab_e_c1 (k2 := 97) (as := [.ref 13, .int a2]) (rest := [.ref 13]) rfl rfl (T_M_isShift S w X a2) (fun v960 => ?_)
    refine ab_e_br (c := v960 = nI 0) (21, [(0, .ref 13), (1, .int a1), (2, .int a2)], [.ref 13], (X, w)) (17, [(0, .ref 13), (1, .int a1), (2, .int a2)], [.ref 13], (X, w)) rfl (fun _ => ?_) (fun _ => ?_)
    · refine ab_e_go 2 (25, [(0, .ref 13), (1, .int a1), (2, .int a2)], [], ((ab_up X 13 0 (nI 1)), w)) rfl ?_
      refine ab_e_letX (fun X961 _ => ?_)
      refine ab_e_go 2 (29, [(0, .ref 13), (1, .int a1), (2, .int a2)], [.int (X961 13 0)], (X961, w)) rfl ?_
      refine ab_e_br (c := X961 13 0 = nI 0) (34, [(0, .ref 13), (1, .int a1), (2, .int a2)], [], (X961, w)) (32, [(0, .ref 13), (1, .int a1), (2, .int a2)], [], (X961, w)) rfl (fun _ => ?_) (fun _ => ?_)
      · refine ab_e_go 5 (39, [(0, .ref 13), (1, .int a1), (2, .int a2)], [.int a1, .ref 13, .int a2, .int a1, .ref 13], (X961, w)) rfl ?_
        refine ab_e_c1 (k2 := 94) (as := [.ref 13, .int a1]) (rest := [.int a2, .int a1, .ref 13]) rfl rfl (T_M_heldBy S w X961 a1) (fun v962 => ?_)
        refine ab_e_go 1 (43, [(0, .ref 13), (1, .int a1), (2, .int a2)], [.int (nI 0), .int v962, .int a2, .int a1, .ref 13], (X961, w)) rfl ?_
        refine ab_e_c3 (k2 := 232) (as := [.ref 13, .int a1, .int a2, .int v962, .int (nI 0)]) (rest := []) rfl rfl (T_M_obstacleOf S w X961 a1 a2 v962 (nI 0)) (fun v963 X964 => ?_)
        refine ab_e_go 2 (48, [(3, .int v963), (0, .ref 13), (1, .int a1), (2, .int a2)], [.int v963], (X964, w)) rfl ?_
        refine ab_e_br (c := v963 = nI 0) (68, [(3, .int v963), (0, .ref 13), (1, .int a1), (2, .int a2)], [], (X964, w)) (51, [(3, .int v963), (0, .ref 13), (1, .int a1), (2, .int a2)], [], (X964, w)) rfl (fun _ => ?_) (fun _ => ?_)
        · refine ab_e_go 4 (72, [(3, .int v963), (0, .ref 13), (1, .int a1), (2, .int a2)], [.int (-1 : Int32), .int (nI 0), .int (nI 0), .ref 13], (X964, w)) rfl ?_
          refine ab_e_c3 (k2 := 42) (as := [.ref 13, .int (nI 0), .int (nI 0), .int (-1 : Int32)]) (rest := []) rfl rfl (T_M_reasons S w X964 (nI 0) (nI 0) (-1 : Int32)) (fun _ X965 => ?_)
          refine ab_e_go 1 (76, [(3, .int v963), (0, .ref 13), (1, .int a1), (2, .int a2)], [.ref 13], (X965, w)) rfl ?_
          refine ab_e_c3 (k2 := 99) (as := [.ref 13]) (rest := []) rfl rfl (T_M_keeps S w X965) (fun _ X966 => ?_)
          refine ab_e_go 3 (82, [(3, .int v963), (0, .ref 13), (1, .int a1), (2, .int a2)], [.int a2, .int a1, .ref 13], (X966, w)) rfl ?_
          refine ab_e_c3 (k2 := 92) (as := [.ref 13, .int a1, .int a2]) (rest := []) rfl rfl (T_M_gives S w X966 a1 a2) (fun _ X967 => ?_)
          refine ab_e_go 2 (87, [(3, .int v963), (0, .ref 13), (1, .int a1), (2, .int a2)], [.int a2, .ref 13], (X967, w)) rfl ?_
          refine ab_e_c1 (k2 := 90) (as := [.ref 13, .int a2]) (rest := []) rfl rfl (T_M_coverage S w X967 a2) (fun v968 => ?_)
          exact ab_e_rt rfl rfl
        · refine ab_e_go 5 (58, [(3, .int v963), (0, .ref 13), (1, .int a1), (2, .int a2)], [.int a1, .int (X964 13 11), .int v963, .ref 13], (X964, w)) rfl ?_
          refine ab_e_c3 (k2 := 42) (as := [.ref 13, .int v963, .int (X964 13 11), .int a1]) (rest := []) rfl rfl (T_M_reasons S w X964 v963 (X964 13 11) a1) (fun _ X969 => ?_)
          refine ab_e_go 3 (66, [(3, .int v963), (0, .ref 13), (1, .int a1), (2, .int a2)], [], ((ab_up X969 13 0 (nI 2)), w)) rfl ?_
          refine ab_e_letX (fun X970 _ => ?_)
          refine ab_e_go 1 (67, [(3, .int v963), (0, .ref 13), (1, .int a1), (2, .int a2)], [.int (nI 0)], (X970, w)) rfl ?_
          exact ab_e_rt rfl rfl
      · refine ab_e_go 1 (33, [(0, .ref 13), (1, .int a1), (2, .int a2)], [.int (nI 0)], (X961, w)) rfl ?_
        exact ab_e_rt rfl rfl
    · refine ab_e_go 3 (25, [(0, .ref 13), (1, .int a1), (2, .int a2)], [], ((ab_up X 13 0 (nI 0)), w)) rfl ?_
      refine ab_e_letX (fun X971 _ => ?_)
      refine ab_e_go 2 (29, [(0, .ref 13), (1, .int a1), (2, .int a2)], [.int (X971 13 0)], (X971, w)) rfl ?_
      refine ab_e_br (c := X971 13 0 = nI 0) (34, [(0, .ref 13), (1, .int a1), (2, .int a2)], [], (X971, w)) (32, [(0, .ref 13), (1, .int a1), (2, .int a2)], [], (X971, w)) rfl (fun _ => ?_) (fun _ => ?_)
      · refine ab_e_go 5 (39, [(0, .ref 13), (1, .int a1), (2, .int a2)], [.int a1, .ref 13, .int a2, .int a1, .ref 13], (X971, w)) rfl ?_
        refine ab_e_c1 (k2 := 94) (as := [.ref 13, .int a1]) (rest := [.int a2, .int a1, .ref 13]) rfl rfl (T_M_heldBy S w X971 a1) (fun v972 => ?_)
        refine ab_e_go 1 (43, [(0, .ref 13), (1, .int a1), (2, .int a2)], [.int (nI 0), .int v972, .int a2, .int a1, .ref 13], (X971, w)) rfl ?_
        refine ab_e_c3 (k2 := 232) (as := [.ref 13, .int a1, .int a2, .int v972, .int (nI 0)]) (rest := []) rfl rfl (T_M_obstacleOf S w X971 a1 a2 v972 (nI 0)) (fun v973 X974 => ?_)
        refine ab_e_go 2 (48, [(3, .int v973), (0, .ref 13), (1, .int a1), (2, .int a2)], [.int v973], (X974, w)) rfl ?_
        refine ab_e_br (c := v973 = nI 0) (68, [(3, .int v973), (0, .ref 13), (1, .int a1), (2, .int a2)], [], (X974, w)) (51, [(3, .int v973), (0, .ref 13), (1, .int a1), (2, .int a2)], [], (X974, w)) rfl (fun _ => ?_) (fun _ => ?_)
        · refine ab_e_go 4 (72, [(3, .int v973), (0, .ref 13), (1, .int a1), (2, .int a2)], [.int (-1 : Int32), .int (nI 0), .int (nI 0), .ref 13], (X974, w)) rfl ?_
          refine ab_e_c3 (k2 := 42) (as := [.ref 13, .int (nI 0), .int (nI 0), .int (-1 : Int32)]) (rest := []) rfl rfl (T_M_reasons S w X974 (nI 0) (nI 0) (-1 : Int32)) (fun _ X975 => ?_)
          refine ab_e_go 1 (76, [(3, .int v973), (0, .ref 13), (1, .int a1), (2, .int a2)], [.ref 13], (X975, w)) rfl ?_
          refine ab_e_c3 (k2 := 99) (as := [.ref 13]) (rest := []) rfl rfl (T_M_keeps S w X975) (fun _ X976 => ?_)
          refine ab_e_go 3 (82, [(3, .int v973), (0, .ref 13), (1, .int a1), (2, .int a2)], [.int a2, .int a1, .ref 13], (X976, w)) rfl ?_
          refine ab_e_c3 (k2 := 92) (as := [.ref 13, .int a1, .int a2]) (rest := []) rfl rfl (T_M_gives S w X976 a1 a2) (fun _ X977 => ?_)
          refine ab_e_go 2 (87, [(3, .int v973), (0, .ref 13), (1, .int a1), (2, .int a2)], [.int a2, .ref 13], (X977, w)) rfl ?_
          refine ab_e_c1 (k2 := 90) (as := [.ref 13, .int a2]) (rest := []) rfl rfl (T_M_coverage S w X977 a2) (fun v978 => ?_)
          exact ab_e_rt rfl rfl
        · refine ab_e_go 5 (58, [(3, .int v973), (0, .ref 13), (1, .int a1), (2, .int a2)], [.int a1, .int (X974 13 11), .int v973, .ref 13], (X974, w)) rfl ?_
          refine ab_e_c3 (k2 := 42) (as := [.ref 13, .int v973, .int (X974 13 11), .int a1]) (rest := []) rfl rfl (T_M_reasons S w X974 v973 (X974 13 11) a1) (fun _ X979 => ?_)
          refine ab_e_go 3 (66, [(3, .int v973), (0, .ref 13), (1, .int a1), (2, .int a2)], [], ((ab_up X979 13 0 (nI 2)), w)) rfl ?_
          refine ab_e_letX (fun X980 _ => ?_)
          refine ab_e_go 1 (67, [(3, .int v973), (0, .ref 13), (1, .int a1), (2, .int a2)], [.int (nI 0)], (X980, w)) rfl ?_
          exact ab_e_rt rfl rfl
      · refine ab_e_go 1 (33, [(0, .ref 13), (1, .int a1), (2, .int a2)], [.int (nI 0)], (X971, w)) rfl ?_
        exact ab_e_rt rfl rfl
def L_M_isLegal_38 : Nat → ab_XX → Int32 → Option (Int32 × ab_XX)
  | 0, _, _ => none
  | n + 1, X, a1 =>
    (F_M_shifts X).bind fun v983 =>
    if v983 ≤ a1 then
      some (nI 1, X)
    else
      (F_M_coverage X a1).bind fun v984 =>
      (F_M_ofShift X a1 (nI 4)).bind fun v985 =>
      if v985 < v984 then
        some (nI 0, X)
      else
        (F_M_coverage X a1).bind fun v986 =>
        (F_M_ofShift X a1 (nI 5)).bind fun v987 =>
        if v987 ≤ v986 then
          L_M_isLegal_38 n X (a1 + (nI 1))
        else
          some (nI 0, X)
set_option maxRecDepth 4000 in
theorem T_L_M_isLegal_38 (S : Nat × (Nat → Int32)) (w : ab_WW) : ∀ (n : Nat) (X : ab_XX) (a1 : Int32), ab_Eg (ab_m3 ab_fI w) S 240 (38, [(0, .ref 13), (1, .int a1)], [], (X, w)) (L_M_isLegal_38 n X a1) := by
  intro n
  induction n with
  | zero => intro X a1; exact ab_e_none
  | succ n ih =>
    intro X a1
    unfold L_M_isLegal_38
    refine ab_e_go 2 (40, [(0, .ref 13), (1, .int a1)], [.ref 13, .int a1], (X, w)) rfl ?_
    refine ab_e_c1 (k2 := 43) (as := [.ref 13]) (rest := [.int a1]) rfl rfl (T_M_shifts S w X) (fun v983 => ?_)
    refine ab_e_br (c := v983 ≤ a1) (82, [(0, .ref 13), (1, .int a1)], [], (X, w)) (46, [(0, .ref 13), (1, .int a1)], [], (X, w)) rfl (fun _ => ?_) (fun _ => ?_)
    · refine ab_e_go 1 (83, [(0, .ref 13), (1, .int a1)], [.int (nI 1)], (X, w)) rfl ?_
      exact ab_e_rt rfl rfl
    · refine ab_e_go 2 (48, [(0, .ref 13), (1, .int a1)], [.int a1, .ref 13], (X, w)) rfl ?_
      refine ab_e_c1 (k2 := 90) (as := [.ref 13, .int a1]) (rest := []) rfl rfl (T_M_coverage S w X a1) (fun v984 => ?_)
      refine ab_e_go 3 (54, [(0, .ref 13), (1, .int a1)], [.int (nI 4), .int a1, .ref 13, .int v984], (X, w)) rfl ?_
      refine ab_e_c1 (k2 := 41) (as := [.ref 13, .int a1, .int (nI 4)]) (rest := [.int v984]) rfl rfl (T_M_ofShift S w X a1 (nI 4)) (fun v985 => ?_)
      refine ab_e_br (c := v985 < v984) (74, [(0, .ref 13), (1, .int a1)], [], (X, w)) (60, [(0, .ref 13), (1, .int a1)], [], (X, w)) rfl (fun _ => ?_) (fun _ => ?_)
      · refine ab_e_go 1 (75, [(0, .ref 13), (1, .int a1)], [.int (nI 0)], (X, w)) rfl ?_
        exact ab_e_rt rfl rfl
      · refine ab_e_go 2 (62, [(0, .ref 13), (1, .int a1)], [.int a1, .ref 13], (X, w)) rfl ?_
        refine ab_e_c1 (k2 := 90) (as := [.ref 13, .int a1]) (rest := []) rfl rfl (T_M_coverage S w X a1) (fun v986 => ?_)
        refine ab_e_go 3 (68, [(0, .ref 13), (1, .int a1)], [.int (nI 5), .int a1, .ref 13, .int v986], (X, w)) rfl ?_
        refine ab_e_c1 (k2 := 41) (as := [.ref 13, .int a1, .int (nI 5)]) (rest := [.int v986]) rfl rfl (T_M_ofShift S w X a1 (nI 5)) (fun v987 => ?_)
        refine ab_e_br (c := v987 ≤ v986) (76, [(0, .ref 13), (1, .int a1)], [], (X, w)) (74, [(0, .ref 13), (1, .int a1)], [], (X, w)) rfl (fun _ => ?_) (fun _ => ?_)
        · refine ab_e_go 2 (38, [(1, .int (a1 + (nI 1))), (0, .ref 13)], [], (X, w)) rfl ?_
          refine ab_e_wk [(0, .ref 13), (1, .int (a1 + (nI 1)))] ⟨rfl, rfl, trivial⟩ ?_
          exact ih X (a1 + (nI 1))
        · refine ab_e_go 1 (75, [(0, .ref 13), (1, .int a1)], [.int (nI 0)], (X, w)) rfl ?_
          exact ab_e_rt rfl rfl
def L_M_suits_2 : Nat → ab_XX → Int32 → Int32 → Int32 → Option (Int32 × ab_XX)
  | 0, _, _, _, _ => none
  | n + 1, X, a1, a2, a3 =>
    (F_M_shifts X).bind fun v989 =>
    if v989 ≤ a3 then
      some (nI 1, X)
    else
      if ((a2 >>> (a3 &&& 31)) &&& (nI 1)) = nI 1 then
        (F_M_hasSkill X a1 a3).bind fun v990 =>
        if v990 = nI 0 then
          some (nI 0, X)
        else
          ab_b3 (F_M_clash X a1 a3 (a2 &&& (((nI 1) <<< (a3 &&& 31)) ^^^ (-1 : Int32)))) (fun v991 X992 =>
            if v991 = nI 0 then
              L_M_suits_2 n X992 a1 a2 (a3 + (nI 1))
            else
              some (nI 0, X992))
      else
        L_M_suits_2 n X a1 a2 (a3 + (nI 1))
set_option maxRecDepth 4000 in
theorem T_L_M_suits_2 (S : Nat × (Nat → Int32)) (w : ab_WW) : ∀ (n : Nat) (X : ab_XX) (a1 : Int32) (a2 : Int32) (a3 : Int32), ab_Eg (ab_m3 ab_fI w) S 233 (2, [(0, .ref 13), (1, .int a1), (2, .int a2), (3, .int a3)], [], (X, w)) (L_M_suits_2 n X a1 a2 a3) := by
  intro n
  induction n with
  | zero => intro X a1 a2 a3; exact ab_e_none
  | succ n ih =>
    intro X a1 a2 a3
    unfold L_M_suits_2
    refine ab_e_go 2 (4, [(0, .ref 13), (1, .int a1), (2, .int a2), (3, .int a3)], [.ref 13, .int a3], (X, w)) rfl ?_
    refine ab_e_c1 (k2 := 43) (as := [.ref 13]) (rest := [.int a3]) rfl rfl (T_M_shifts S w X) (fun v989 => ?_)
    refine ab_e_br (c := v989 ≤ a3) (52, [(0, .ref 13), (1, .int a1), (2, .int a2), (3, .int a3)], [], (X, w)) (10, [(0, .ref 13), (1, .int a1), (2, .int a2), (3, .int a3)], [], (X, w)) rfl (fun _ => ?_) (fun _ => ?_)
    · refine ab_e_go 1 (53, [(0, .ref 13), (1, .int a1), (2, .int a2), (3, .int a3)], [.int (nI 1)], (X, w)) rfl ?_
      exact ab_e_rt rfl rfl
    · refine ab_e_go 6 (16, [(0, .ref 13), (1, .int a1), (2, .int a2), (3, .int a3)], [.int (nI 1), .int ((a2 >>> (a3 &&& 31)) &&& (nI 1))], (X, w)) rfl ?_
      refine ab_e_bn (c := ((a2 >>> (a3 &&& 31)) &&& (nI 1)) = nI 1) (46, [(0, .ref 13), (1, .int a1), (2, .int a2), (3, .int a3)], [], (X, w)) (19, [(0, .ref 13), (1, .int a1), (2, .int a2), (3, .int a3)], [], (X, w)) rfl (fun _ => ?_) (fun _ => ?_)
      · refine ab_e_go 2 (2, [(3, .int (a3 + (nI 1))), (0, .ref 13), (1, .int a1), (2, .int a2)], [], (X, w)) rfl ?_
        refine ab_e_wk [(0, .ref 13), (1, .int a1), (2, .int a2), (3, .int (a3 + (nI 1)))] ⟨rfl, rfl, rfl, rfl, trivial⟩ ?_
        exact ih X a1 a2 (a3 + (nI 1))
      · refine ab_e_go 3 (22, [(0, .ref 13), (1, .int a1), (2, .int a2), (3, .int a3)], [.int a3, .int a1, .ref 13], (X, w)) rfl ?_
        refine ab_e_c1 (k2 := 93) (as := [.ref 13, .int a1, .int a3]) (rest := []) rfl rfl (T_M_hasSkill S w X a1 a3) (fun v990 => ?_)
        refine ab_e_br (c := v990 = nI 0) (44, [(0, .ref 13), (1, .int a1), (2, .int a2), (3, .int a3)], [], (X, w)) (28, [(0, .ref 13), (1, .int a1), (2, .int a2), (3, .int a3)], [], (X, w)) rfl (fun _ => ?_) (fun _ => ?_)
        · refine ab_e_go 1 (45, [(0, .ref 13), (1, .int a1), (2, .int a2), (3, .int a3)], [.int (nI 0)], (X, w)) rfl ?_
          exact ab_e_rt rfl rfl
        · refine ab_e_go 10 (38, [(0, .ref 13), (1, .int a1), (2, .int a2), (3, .int a3)], [.int (a2 &&& (((nI 1) <<< (a3 &&& 31)) ^^^ (-1 : Int32))), .int a3, .int a1, .ref 13], (X, w)) rfl ?_
          refine ab_e_c3 (k2 := 220) (as := [.ref 13, .int a1, .int a3, .int (a2 &&& (((nI 1) <<< (a3 &&& 31)) ^^^ (-1 : Int32)))]) (rest := []) rfl rfl (T_M_clash S w X a1 a3 (a2 &&& (((nI 1) <<< (a3 &&& 31)) ^^^ (-1 : Int32)))) (fun v991 X992 => ?_)
          refine ab_e_br (c := v991 = nI 0) (46, [(0, .ref 13), (1, .int a1), (2, .int a2), (3, .int a3)], [], (X992, w)) (44, [(0, .ref 13), (1, .int a1), (2, .int a2), (3, .int a3)], [], (X992, w)) rfl (fun _ => ?_) (fun _ => ?_)
          · refine ab_e_go 2 (2, [(3, .int (a3 + (nI 1))), (0, .ref 13), (1, .int a1), (2, .int a2)], [], (X992, w)) rfl ?_
            refine ab_e_wk [(0, .ref 13), (1, .int a1), (2, .int a2), (3, .int (a3 + (nI 1)))] ⟨rfl, rfl, rfl, rfl, trivial⟩ ?_
            exact ih X992 a1 a2 (a3 + (nI 1))
          · refine ab_e_go 1 (45, [(0, .ref 13), (1, .int a1), (2, .int a2), (3, .int a3)], [.int (nI 0)], (X992, w)) rfl ?_
            exact ab_e_rt rfl rfl
def F_M_suits (X : ab_XX) (a1 : Int32) (a2 : Int32) : Option (Int32 × ab_XX) :=
  L_M_suits_2 ab_fu X a1 a2 (nI 0)
set_option maxRecDepth 4000 in
theorem T_M_suits (S : Nat × (Nat → Int32)) (w : ab_WW) (X : ab_XX) (a1 : Int32) (a2 : Int32) : ab_Eg (ab_m3 ab_fI w) S 233 (0, lv_args 0 [.ref 13, .int a1, .int a2], [], (X, w)) (F_M_suits X a1 a2) := by
  show ab_Eg (ab_m3 ab_fI w) S 233 (0, [(0, .ref 13), (1, .int a1), (2, .int a2)], [], (X, w)) _
  unfold F_M_suits
  refine ab_e_go 2 (2, [(3, .int (nI 0)), (0, .ref 13), (1, .int a1), (2, .int a2)], [], (X, w)) rfl ?_
  refine ab_e_wk [(0, .ref 13), (1, .int a1), (2, .int a2), (3, .int (nI 0))] ⟨rfl, rfl, rfl, rfl, trivial⟩ ?_
  exact T_L_M_suits_2 S w ab_fu X a1 a2 (nI 0)
def L_M_isLegal_7 : Nat → ab_XX → Int32 → Option (Int32 × ab_XX)
  | 0, _, _ => none
  | n + 1, X, a1 =>
    (F_M_workers X).bind fun v982 =>
    if v982 ≤ a1 then
      L_M_isLegal_38 ab_fu X (nI 0)
    else
      (F_M_heldBy X a1).bind fun v988 =>
      ab_b3 (F_M_suits X a1 v988) (fun v993 X994 =>
        if v993 = nI 0 then
          some (nI 0, X994)
        else
          L_M_isLegal_7 n X994 (a1 + (nI 1)))
set_option maxRecDepth 4000 in
theorem T_L_M_isLegal_7 (S : Nat × (Nat → Int32)) (w : ab_WW) : ∀ (n : Nat) (X : ab_XX) (a1 : Int32), ab_Eg (ab_m3 ab_fI w) S 240 (7, [(0, .ref 13), (1, .int a1)], [], (X, w)) (L_M_isLegal_7 n X a1) := by
  intro n
  induction n with
  | zero => intro X a1; exact ab_e_none
  | succ n ih =>
    intro X a1
    unfold L_M_isLegal_7
    refine ab_e_go 2 (9, [(0, .ref 13), (1, .int a1)], [.ref 13, .int a1], (X, w)) rfl ?_
    refine ab_e_c1 (k2 := 45) (as := [.ref 13]) (rest := [.int a1]) rfl rfl (T_M_workers S w X) (fun v982 => ?_)
    refine ab_e_br (c := v982 ≤ a1) (36, [(0, .ref 13), (1, .int a1)], [], (X, w)) (15, [(0, .ref 13), (1, .int a1)], [], (X, w)) rfl (fun _ => ?_) (fun _ => ?_)
    · refine ab_e_go 2 (38, [(1, .int (nI 0)), (0, .ref 13)], [], (X, w)) rfl ?_
      refine ab_e_wk [(0, .ref 13), (1, .int (nI 0))] ⟨rfl, rfl, trivial⟩ ?_
      exact T_L_M_isLegal_38 S w ab_fu X (nI 0)
    · refine ab_e_go 4 (19, [(0, .ref 13), (1, .int a1)], [.int a1, .ref 13, .int a1, .ref 13], (X, w)) rfl ?_
      refine ab_e_c1 (k2 := 94) (as := [.ref 13, .int a1]) (rest := [.int a1, .ref 13]) rfl rfl (T_M_heldBy S w X a1) (fun v988 => ?_)
      refine ab_e_c3 (k2 := 233) (as := [.ref 13, .int a1, .int v988]) (rest := []) rfl rfl (T_M_suits S w X a1 v988) (fun v993 X994 => ?_)
      refine ab_e_bn (c := v993 = nI 0) (30, [(0, .ref 13), (1, .int a1)], [], (X994, w)) (28, [(0, .ref 13), (1, .int a1)], [], (X994, w)) rfl (fun _ => ?_) (fun _ => ?_)
      · refine ab_e_go 2 (7, [(1, .int (a1 + (nI 1))), (0, .ref 13)], [], (X994, w)) rfl ?_
        refine ab_e_wk [(0, .ref 13), (1, .int (a1 + (nI 1)))] ⟨rfl, rfl, trivial⟩ ?_
        exact ih X994 (a1 + (nI 1))
      · refine ab_e_go 1 (29, [(0, .ref 13), (1, .int a1)], [.int (nI 0)], (X994, w)) rfl ?_
        exact ab_e_rt rfl rfl
def F_M_isLegal (X : ab_XX) : Option (Int32 × ab_XX) :=
  (some (ab_up X 13 0 (nI 0))).bind fun X981 =>
  L_M_isLegal_7 ab_fu X981 (nI 0)
set_option maxRecDepth 4000 in
theorem T_M_isLegal (S : Nat × (Nat → Int32)) (w : ab_WW) (X : ab_XX) : ab_Eg (ab_m3 ab_fI w) S 240 (0, lv_args 0 [.ref 13], [], (X, w)) (F_M_isLegal X) := by
  show ab_Eg (ab_m3 ab_fI w) S 240 (0, [(0, .ref 13)], [], (X, w)) _
  unfold F_M_isLegal
  refine ab_e_go 3 (5, [(0, .ref 13)], [], ((ab_up X 13 0 (nI 0)), w)) rfl ?_
  refine ab_e_letX (fun X981 _ => ?_)
  refine ab_e_go 2 (7, [(1, .int (nI 0)), (0, .ref 13)], [], (X981, w)) rfl ?_
  refine ab_e_wk [(0, .ref 13), (1, .int (nI 0))] ⟨rfl, rfl, trivial⟩ ?_
  exact T_L_M_isLegal_7 S w ab_fu X981 (nI 0)
def F_M_obstacle (X : ab_XX) (a1 : Int32) (a2 : Int32) (a3 : Int32) : Option (Int32 × ab_XX) :=
  (F_M_isWorker X a1).bind fun v995 =>
  if v995 = nI 0 then
    (some (ab_up X 13 0 (nI 1))).bind fun X996 =>
    if X996 13 0 = nI 0 then
      (F_M_heldBy X996 a1).bind fun v997 =>
      ab_b3 (F_M_obstacleOf X996 a1 a2 v997 (nI 0)) (fun v998 X999 =>
        if a3 = nI 0 then
          some (v998, X999)
        else
          some (X999 13 11, X999))
    else
      some (nI 0, X996)
  else
    (F_M_isShift X a2).bind fun v1000 =>
    if v1000 = nI 0 then
      (some (ab_up X 13 0 (nI 1))).bind fun X1010 =>
      if X1010 13 0 = nI 0 then
        (F_M_heldBy X1010 a1).bind fun v1011 =>
        ab_b3 (F_M_obstacleOf X1010 a1 a2 v1011 (nI 0)) (fun v1012 X1013 =>
          if a3 = nI 0 then
            some (v1012, X1013)
          else
            some (X1013 13 11, X1013))
      else
        some (nI 0, X1010)
    else
      (F_M_in a3 (nI 0) (nI 1)).bind fun v1001 =>
      if v1001 = nI 0 then
        (some (ab_up X 13 0 (nI 2))).bind fun X1002 =>
        if X1002 13 0 = nI 0 then
          (F_M_heldBy X1002 a1).bind fun v1003 =>
          ab_b3 (F_M_obstacleOf X1002 a1 a2 v1003 (nI 0)) (fun v1004 X1005 =>
            if a3 = nI 0 then
              some (v1004, X1005)
            else
              some (X1005 13 11, X1005))
        else
          some (nI 0, X1002)
      else
        (some (ab_up X 13 0 (nI 0))).bind fun X1006 =>
        if X1006 13 0 = nI 0 then
          (F_M_heldBy X1006 a1).bind fun v1007 =>
          ab_b3 (F_M_obstacleOf X1006 a1 a2 v1007 (nI 0)) (fun v1008 X1009 =>
            if a3 = nI 0 then
              some (v1008, X1009)
            else
              some (X1009 13 11, X1009))
        else
          some (nI 0, X1006)
set_option maxRecDepth 4000 in
theorem T_M_obstacle (S : Nat × (Nat → Int32)) (w : ab_WW) (X : ab_XX) (a1 : Int32) (a2 : Int32) (a3 : Int32) : ab_Eg (ab_m3 ab_fI w) S 242 (0, lv_args 0 [.ref 13, .int a1, .int a2, .int a3], [], (X, w)) (F_M_obstacle X a1 a2 a3) := by
  show ab_Eg (ab_m3 ab_fI w) S 242 (0, [(0, .ref 13), (1, .int a1), (2, .int a2), (3, .int a3)], [], (X, w)) _
  unfold F_M_obstacle
  refine ab_e_go 3 (3, [(0, .ref 13), (1, .int a1), (2, .int a2), (3, .int a3)], [.int a1, .ref 13, .ref 13], (X, w)) rfl ?_
  refine ab_e_c1 (k2 := 98) (as := [.ref 13, .int a1]) (rest := [.ref 13]) rfl rfl (T_M_isWorker S w X a1) (fun v995 => ?_)
  refine ab_e_br (c := v995 = nI 0) (17, [(0, .ref 13), (1, .int a1), (2, .int a2), (3, .int a3)], [.ref 13], (X, w)) (9, [(0, .ref 13), (1, .int a1), (2, .int a2), (3, .int a3)], [.ref 13], (X, w)) rfl (fun _ => ?_) (fun _ => ?_)
  · refine ab_e_go 3 (38, [(0, .ref 13), (1, .int a1), (2, .int a2), (3, .int a3)], [], ((ab_up X 13 0 (nI 1)), w)) rfl ?_
    refine ab_e_letX (fun X996 _ => ?_)
    refine ab_e_go 2 (42, [(0, .ref 13), (1, .int a1), (2, .int a2), (3, .int a3)], [.int (X996 13 0)], (X996, w)) rfl ?_
    refine ab_e_br (c := X996 13 0 = nI 0) (47, [(0, .ref 13), (1, .int a1), (2, .int a2), (3, .int a3)], [], (X996, w)) (45, [(0, .ref 13), (1, .int a1), (2, .int a2), (3, .int a3)], [], (X996, w)) rfl (fun _ => ?_) (fun _ => ?_)
    · refine ab_e_go 5 (52, [(0, .ref 13), (1, .int a1), (2, .int a2), (3, .int a3)], [.int a1, .ref 13, .int a2, .int a1, .ref 13], (X996, w)) rfl ?_
      refine ab_e_c1 (k2 := 94) (as := [.ref 13, .int a1]) (rest := [.int a2, .int a1, .ref 13]) rfl rfl (T_M_heldBy S w X996 a1) (fun v997 => ?_)
      refine ab_e_go 1 (56, [(0, .ref 13), (1, .int a1), (2, .int a2), (3, .int a3)], [.int (nI 0), .int v997, .int a2, .int a1, .ref 13], (X996, w)) rfl ?_
      refine ab_e_c3 (k2 := 232) (as := [.ref 13, .int a1, .int a2, .int v997, .int (nI 0)]) (rest := []) rfl rfl (T_M_obstacleOf S w X996 a1 a2 v997 (nI 0)) (fun v998 X999 => ?_)
      refine ab_e_go 2 (62, [(4, .int v998), (0, .ref 13), (1, .int a1), (2, .int a2), (3, .int a3)], [.int a3], (X999, w)) rfl ?_
      refine ab_e_bn (c := a3 = nI 0) (70, [(4, .int v998), (0, .ref 13), (1, .int a1), (2, .int a2), (3, .int a3)], [], (X999, w)) (65, [(4, .int v998), (0, .ref 13), (1, .int a1), (2, .int a2), (3, .int a3)], [], (X999, w)) rfl (fun _ => ?_) (fun _ => ?_)
      · refine ab_e_go 2 (74, [(4, .int v998), (0, .ref 13), (1, .int a1), (2, .int a2), (3, .int a3)], [.int (X999 13 11)], (X999, w)) rfl ?_
        exact ab_e_rt rfl rfl
      · refine ab_e_go 2 (74, [(4, .int v998), (0, .ref 13), (1, .int a1), (2, .int a2), (3, .int a3)], [.int v998], (X999, w)) rfl ?_
        exact ab_e_rt rfl rfl
    · refine ab_e_go 1 (46, [(0, .ref 13), (1, .int a1), (2, .int a2), (3, .int a3)], [.int (nI 0)], (X996, w)) rfl ?_
      exact ab_e_rt rfl rfl
  · refine ab_e_go 2 (11, [(0, .ref 13), (1, .int a1), (2, .int a2), (3, .int a3)], [.int a2, .ref 13, .ref 13], (X, w)) rfl ?_
    refine ab_e_c1 (k2 := 97) (as := [.ref 13, .int a2]) (rest := [.ref 13]) rfl rfl (T_M_isShift S w X a2) (fun v1000 => ?_)
    refine ab_e_bn (c := v1000 = nI 0) (21, [(0, .ref 13), (1, .int a1), (2, .int a2), (3, .int a3)], [.ref 13], (X, w)) (17, [(0, .ref 13), (1, .int a1), (2, .int a2), (3, .int a3)], [.ref 13], (X, w)) rfl (fun _ => ?_) (fun _ => ?_)
    · refine ab_e_go 3 (24, [(0, .ref 13), (1, .int a1), (2, .int a2), (3, .int a3)], [.int (nI 1), .int (nI 0), .int a3, .ref 13], (X, w)) rfl ?_
      refine ab_e_c1 (k2 := 39) (as := [.int a3, .int (nI 0), .int (nI 1)]) (rest := [.ref 13]) rfl rfl (T_M_in S w X a3 (nI 0) (nI 1)) (fun v1001 => ?_)
      refine ab_e_br (c := v1001 = nI 0) (34, [(0, .ref 13), (1, .int a1), (2, .int a2), (3, .int a3)], [.ref 13], (X, w)) (30, [(0, .ref 13), (1, .int a1), (2, .int a2), (3, .int a3)], [.ref 13], (X, w)) rfl (fun _ => ?_) (fun _ => ?_)
      · refine ab_e_go 2 (38, [(0, .ref 13), (1, .int a1), (2, .int a2), (3, .int a3)], [], ((ab_up X 13 0 (nI 2)), w)) rfl ?_
        refine ab_e_letX (fun X1002 _ => ?_)
        refine ab_e_go 2 (42, [(0, .ref 13), (1, .int a1), (2, .int a2), (3, .int a3)], [.int (X1002 13 0)], (X1002, w)) rfl ?_
        refine ab_e_br (c := X1002 13 0 = nI 0) (47, [(0, .ref 13), (1, .int a1), (2, .int a2), (3, .int a3)], [], (X1002, w)) (45, [(0, .ref 13), (1, .int a1), (2, .int a2), (3, .int a3)], [], (X1002, w)) rfl (fun _ => ?_) (fun _ => ?_)
        · refine ab_e_go 5 (52, [(0, .ref 13), (1, .int a1), (2, .int a2), (3, .int a3)], [.int a1, .ref 13, .int a2, .int a1, .ref 13], (X1002, w)) rfl ?_
          refine ab_e_c1 (k2 := 94) (as := [.ref 13, .int a1]) (rest := [.int a2, .int a1, .ref 13]) rfl rfl (T_M_heldBy S w X1002 a1) (fun v1003 => ?_)
          refine ab_e_go 1 (56, [(0, .ref 13), (1, .int a1), (2, .int a2), (3, .int a3)], [.int (nI 0), .int v1003, .int a2, .int a1, .ref 13], (X1002, w)) rfl ?_
          refine ab_e_c3 (k2 := 232) (as := [.ref 13, .int a1, .int a2, .int v1003, .int (nI 0)]) (rest := []) rfl rfl (T_M_obstacleOf S w X1002 a1 a2 v1003 (nI 0)) (fun v1004 X1005 => ?_)
          refine ab_e_go 2 (62, [(4, .int v1004), (0, .ref 13), (1, .int a1), (2, .int a2), (3, .int a3)], [.int a3], (X1005, w)) rfl ?_
          refine ab_e_bn (c := a3 = nI 0) (70, [(4, .int v1004), (0, .ref 13), (1, .int a1), (2, .int a2), (3, .int a3)], [], (X1005, w)) (65, [(4, .int v1004), (0, .ref 13), (1, .int a1), (2, .int a2), (3, .int a3)], [], (X1005, w)) rfl (fun _ => ?_) (fun _ => ?_)
          · refine ab_e_go 2 (74, [(4, .int v1004), (0, .ref 13), (1, .int a1), (2, .int a2), (3, .int a3)], [.int (X1005 13 11)], (X1005, w)) rfl ?_
            exact ab_e_rt rfl rfl
          · refine ab_e_go 2 (74, [(4, .int v1004), (0, .ref 13), (1, .int a1), (2, .int a2), (3, .int a3)], [.int v1004], (X1005, w)) rfl ?_
            exact ab_e_rt rfl rfl
        · refine ab_e_go 1 (46, [(0, .ref 13), (1, .int a1), (2, .int a2), (3, .int a3)], [.int (nI 0)], (X1002, w)) rfl ?_
          exact ab_e_rt rfl rfl
      · refine ab_e_go 3 (38, [(0, .ref 13), (1, .int a1), (2, .int a2), (3, .int a3)], [], ((ab_up X 13 0 (nI 0)), w)) rfl ?_
        refine ab_e_letX (fun X1006 _ => ?_)
        refine ab_e_go 2 (42, [(0, .ref 13), (1, .int a1), (2, .int a2), (3, .int a3)], [.int (X1006 13 0)], (X1006, w)) rfl ?_
        refine ab_e_br (c := X1006 13 0 = nI 0) (47, [(0, .ref 13), (1, .int a1), (2, .int a2), (3, .int a3)], [], (X1006, w)) (45, [(0, .ref 13), (1, .int a1), (2, .int a2), (3, .int a3)], [], (X1006, w)) rfl (fun _ => ?_) (fun _ => ?_)
        · refine ab_e_go 5 (52, [(0, .ref 13), (1, .int a1), (2, .int a2), (3, .int a3)], [.int a1, .ref 13, .int a2, .int a1, .ref 13], (X1006, w)) rfl ?_
          refine ab_e_c1 (k2 := 94) (as := [.ref 13, .int a1]) (rest := [.int a2, .int a1, .ref 13]) rfl rfl (T_M_heldBy S w X1006 a1) (fun v1007 => ?_)
          refine ab_e_go 1 (56, [(0, .ref 13), (1, .int a1), (2, .int a2), (3, .int a3)], [.int (nI 0), .int v1007, .int a2, .int a1, .ref 13], (X1006, w)) rfl ?_
          refine ab_e_c3 (k2 := 232) (as := [.ref 13, .int a1, .int a2, .int v1007, .int (nI 0)]) (rest := []) rfl rfl (T_M_obstacleOf S w X1006 a1 a2 v1007 (nI 0)) (fun v1008 X1009 => ?_)
          refine ab_e_go 2 (62, [(4, .int v1008), (0, .ref 13), (1, .int a1), (2, .int a2), (3, .int a3)], [.int a3], (X1009, w)) rfl ?_
          refine ab_e_bn (c := a3 = nI 0) (70, [(4, .int v1008), (0, .ref 13), (1, .int a1), (2, .int a2), (3, .int a3)], [], (X1009, w)) (65, [(4, .int v1008), (0, .ref 13), (1, .int a1), (2, .int a2), (3, .int a3)], [], (X1009, w)) rfl (fun _ => ?_) (fun _ => ?_)
          · refine ab_e_go 2 (74, [(4, .int v1008), (0, .ref 13), (1, .int a1), (2, .int a2), (3, .int a3)], [.int (X1009 13 11)], (X1009, w)) rfl ?_
            exact ab_e_rt rfl rfl
          · refine ab_e_go 2 (74, [(4, .int v1008), (0, .ref 13), (1, .int a1), (2, .int a2), (3, .int a3)], [.int v1008], (X1009, w)) rfl ?_
            exact ab_e_rt rfl rfl
        · refine ab_e_go 1 (46, [(0, .ref 13), (1, .int a1), (2, .int a2), (3, .int a3)], [.int (nI 0)], (X1006, w)) rfl ?_
          exact ab_e_rt rfl rfl
    · refine ab_e_go 3 (38, [(0, .ref 13), (1, .int a1), (2, .int a2), (3, .int a3)], [], ((ab_up X 13 0 (nI 1)), w)) rfl ?_
      refine ab_e_letX (fun X1010 _ => ?_)
      refine ab_e_go 2 (42, [(0, .ref 13), (1, .int a1), (2, .int a2), (3, .int a3)], [.int (X1010 13 0)], (X1010, w)) rfl ?_
      refine ab_e_br (c := X1010 13 0 = nI 0) (47, [(0, .ref 13), (1, .int a1), (2, .int a2), (3, .int a3)], [], (X1010, w)) (45, [(0, .ref 13), (1, .int a1), (2, .int a2), (3, .int a3)], [], (X1010, w)) rfl (fun _ => ?_) (fun _ => ?_)
      · refine ab_e_go 5 (52, [(0, .ref 13), (1, .int a1), (2, .int a2), (3, .int a3)], [.int a1, .ref 13, .int a2, .int a1, .ref 13], (X1010, w)) rfl ?_
        refine ab_e_c1 (k2 := 94) (as := [.ref 13, .int a1]) (rest := [.int a2, .int a1, .ref 13]) rfl rfl (T_M_heldBy S w X1010 a1) (fun v1011 => ?_)
        refine ab_e_go 1 (56, [(0, .ref 13), (1, .int a1), (2, .int a2), (3, .int a3)], [.int (nI 0), .int v1011, .int a2, .int a1, .ref 13], (X1010, w)) rfl ?_
        refine ab_e_c3 (k2 := 232) (as := [.ref 13, .int a1, .int a2, .int v1011, .int (nI 0)]) (rest := []) rfl rfl (T_M_obstacleOf S w X1010 a1 a2 v1011 (nI 0)) (fun v1012 X1013 => ?_)
        refine ab_e_go 2 (62, [(4, .int v1012), (0, .ref 13), (1, .int a1), (2, .int a2), (3, .int a3)], [.int a3], (X1013, w)) rfl ?_
        refine ab_e_bn (c := a3 = nI 0) (70, [(4, .int v1012), (0, .ref 13), (1, .int a1), (2, .int a2), (3, .int a3)], [], (X1013, w)) (65, [(4, .int v1012), (0, .ref 13), (1, .int a1), (2, .int a2), (3, .int a3)], [], (X1013, w)) rfl (fun _ => ?_) (fun _ => ?_)
        · refine ab_e_go 2 (74, [(4, .int v1012), (0, .ref 13), (1, .int a1), (2, .int a2), (3, .int a3)], [.int (X1013 13 11)], (X1013, w)) rfl ?_
          exact ab_e_rt rfl rfl
        · refine ab_e_go 2 (74, [(4, .int v1012), (0, .ref 13), (1, .int a1), (2, .int a2), (3, .int a3)], [.int v1012], (X1013, w)) rfl ?_
          exact ab_e_rt rfl rfl
      · refine ab_e_go 1 (46, [(0, .ref 13), (1, .int a1), (2, .int a2), (3, .int a3)], [.int (nI 0)], (X1010, w)) rfl ?_
        exact ab_e_rt rfl rfl
def L_M_bestOf_45 : Nat → ab_XX → Int32 → Int32 → Int32 → Int32 → Int32 → Option (Int32 × ab_XX)
  | 0, _, _, _, _, _, _ => none
  | n + 1, X, a1, a2, a3, a4, a5 =>
    if a5 < nI 0 then
      some (a3, X)
    else
      (F_M_pointsIn X a1 a5).bind fun v1017 =>
      if v1017 ≤ a4 then
        if a5 = a2 then
          L_M_bestOf_45 n X a1 a2 a3 a4 (-1 : Int32)
        else
          L_M_bestOf_45 n X a1 a2 a3 a4 ((a5 - a2) &&& a2)
      else
        ab_b3 (F_M_suits X a1 a5) (fun v1018 X1019 =>
          if v1018 = nI 0 then
            if a5 = a2 then
              L_M_bestOf_45 n X1019 a1 a2 a3 a4 (-1 : Int32)
            else
              L_M_bestOf_45 n X1019 a1 a2 a3 a4 ((a5 - a2) &&& a2)
          else
            if a5 = a2 then
              L_M_bestOf_45 n X1019 a1 a2 a5 v1017 (-1 : Int32)
            else
              L_M_bestOf_45 n X1019 a1 a2 a5 v1017 ((a5 - a2) &&& a2))
set_option maxRecDepth 4000 in
theorem T_L_M_bestOf_45 (S : Nat × (Nat → Int32)) (w : ab_WW) : ∀ (n : Nat) (X : ab_XX) (a1 : Int32) (a2 : Int32) (a3 : Int32) (a4 : Int32) (a5 : Int32), ab_Eg (ab_m3 ab_fI w) S 238 (45, [(0, .ref 13), (1, .int a1), (2, .int a2), (3, .int a3), (4, .int a4), (5, .int a5)], [], (X, w)) (L_M_bestOf_45 n X a1 a2 a3 a4 a5) := by
  intro n
  induction n with
  | zero => intro X a1 a2 a3 a4 a5; exact ab_e_none
  | succ n ih =>
    intro X a1 a2 a3 a4 a5
    unfold L_M_bestOf_45
    refine ab_e_go 1 (47, [(0, .ref 13), (1, .int a1), (2, .int a2), (3, .int a3), (4, .int a4), (5, .int a5)], [.int a5], (X, w)) rfl ?_
    refine ab_e_br (c := a5 < nI 0) (107, [(0, .ref 13), (1, .int a1), (2, .int a2), (3, .int a3), (4, .int a4), (5, .int a5)], [], (X, w)) (50, [(0, .ref 13), (1, .int a1), (2, .int a2), (3, .int a3), (4, .int a4), (5, .int a5)], [], (X, w)) rfl (fun _ => ?_) (fun _ => ?_)
    · refine ab_e_go 1 (108, [(0, .ref 13), (1, .int a1), (2, .int a2), (3, .int a3), (4, .int a4), (5, .int a5)], [.int a3], (X, w)) rfl ?_
      exact ab_e_rt rfl rfl
    · refine ab_e_go 3 (54, [(0, .ref 13), (1, .int a1), (2, .int a2), (3, .int a3), (4, .int a4), (5, .int a5)], [.int a5, .int a1, .ref 13], (X, w)) rfl ?_
      refine ab_e_c1 (k2 := 104) (as := [.ref 13, .int a1, .int a5]) (rest := []) rfl rfl (T_M_pointsIn S w X a1 a5) (fun v1017 => ?_)
      refine ab_e_go 3 (63, [(6, .int v1017), (0, .ref 13), (1, .int a1), (2, .int a2), (3, .int a3), (4, .int a4), (5, .int a5)], [.int a4, .int v1017], (X, w)) rfl ?_
      refine ab_e_br (c := v1017 ≤ a4) (86, [(6, .int v1017), (0, .ref 13), (1, .int a1), (2, .int a2), (3, .int a3), (4, .int a4), (5, .int a5)], [], (X, w)) (66, [(6, .int v1017), (0, .ref 13), (1, .int a1), (2, .int a2), (3, .int a3), (4, .int a4), (5, .int a5)], [], (X, w)) rfl (fun _ => ?_) (fun _ => ?_)
      · refine ab_e_go 2 (89, [(6, .int v1017), (0, .ref 13), (1, .int a1), (2, .int a2), (3, .int a3), (4, .int a4), (5, .int a5)], [.int a2, .int a5], (X, w)) rfl ?_
        refine ab_e_bn (c := a5 = a2) (96, [(6, .int v1017), (0, .ref 13), (1, .int a1), (2, .int a2), (3, .int a3), (4, .int a4), (5, .int a5)], [], (X, w)) (92, [(6, .int v1017), (0, .ref 13), (1, .int a1), (2, .int a2), (3, .int a3), (4, .int a4), (5, .int a5)], [], (X, w)) rfl (fun _ => ?_) (fun _ => ?_)
        · refine ab_e_go 7 (45, [(5, .int ((a5 - a2) &&& a2)), (6, .int v1017), (0, .ref 13), (1, .int a1), (2, .int a2), (3, .int a3), (4, .int a4)], [], (X, w)) rfl ?_
          refine ab_e_wk [(0, .ref 13), (1, .int a1), (2, .int a2), (3, .int a3), (4, .int a4), (5, .int ((a5 - a2) &&& a2))] ⟨rfl, rfl, rfl, rfl, rfl, rfl, trivial⟩ ?_
          exact ih X a1 a2 a3 a4 ((a5 - a2) &&& a2)
        · refine ab_e_go 4 (45, [(5, .int (-1 : Int32)), (6, .int v1017), (0, .ref 13), (1, .int a1), (2, .int a2), (3, .int a3), (4, .int a4)], [], (X, w)) rfl ?_
          refine ab_e_wk [(0, .ref 13), (1, .int a1), (2, .int a2), (3, .int a3), (4, .int a4), (5, .int (-1 : Int32))] ⟨rfl, rfl, rfl, rfl, rfl, rfl, trivial⟩ ?_
          exact ih X a1 a2 a3 a4 (-1 : Int32)
      · refine ab_e_go 3 (70, [(6, .int v1017), (0, .ref 13), (1, .int a1), (2, .int a2), (3, .int a3), (4, .int a4), (5, .int a5)], [.int a5, .int a1, .ref 13], (X, w)) rfl ?_
        refine ab_e_c3 (k2 := 233) (as := [.ref 13, .int a1, .int a5]) (rest := []) rfl rfl (T_M_suits S w X a1 a5) (fun v1018 X1019 => ?_)
        refine ab_e_bn (c := v1018 = nI 0) (79, [(6, .int v1017), (0, .ref 13), (1, .int a1), (2, .int a2), (3, .int a3), (4, .int a4), (5, .int a5)], [], (X1019, w)) (76, [(6, .int v1017), (0, .ref 13), (1, .int a1), (2, .int a2), (3, .int a3), (4, .int a4), (5, .int a5)], [], (X1019, w)) rfl (fun _ => ?_) (fun _ => ?_)
        · refine ab_e_go 6 (89, [(3, .int a5), (4, .int v1017), (6, .int v1017), (0, .ref 13), (1, .int a1), (2, .int a2), (5, .int a5)], [.int a2, .int a5], (X1019, w)) rfl ?_
          refine ab_e_bn (c := a5 = a2) (96, [(3, .int a5), (4, .int v1017), (6, .int v1017), (0, .ref 13), (1, .int a1), (2, .int a2), (5, .int a5)], [], (X1019, w)) (92, [(3, .int a5), (4, .int v1017), (6, .int v1017), (0, .ref 13), (1, .int a1), (2, .int a2), (5, .int a5)], [], (X1019, w)) rfl (fun _ => ?_) (fun _ => ?_)
          · refine ab_e_go 7 (45, [(5, .int ((a5 - a2) &&& a2)), (3, .int a5), (4, .int v1017), (6, .int v1017), (0, .ref 13), (1, .int a1), (2, .int a2)], [], (X1019, w)) rfl ?_
            refine ab_e_wk [(0, .ref 13), (1, .int a1), (2, .int a2), (3, .int a5), (4, .int v1017), (5, .int ((a5 - a2) &&& a2))] ⟨rfl, rfl, rfl, rfl, rfl, rfl, trivial⟩ ?_
            exact ih X1019 a1 a2 a5 v1017 ((a5 - a2) &&& a2)
          · refine ab_e_go 4 (45, [(5, .int (-1 : Int32)), (3, .int a5), (4, .int v1017), (6, .int v1017), (0, .ref 13), (1, .int a1), (2, .int a2)], [], (X1019, w)) rfl ?_
            refine ab_e_wk [(0, .ref 13), (1, .int a1), (2, .int a2), (3, .int a5), (4, .int v1017), (5, .int (-1 : Int32))] ⟨rfl, rfl, rfl, rfl, rfl, rfl, trivial⟩ ?_
            exact ih X1019 a1 a2 a5 v1017 (-1 : Int32)
        · refine ab_e_go 3 (89, [(6, .int v1017), (0, .ref 13), (1, .int a1), (2, .int a2), (3, .int a3), (4, .int a4), (5, .int a5)], [.int a2, .int a5], (X1019, w)) rfl ?_
          refine ab_e_bn (c := a5 = a2) (96, [(6, .int v1017), (0, .ref 13), (1, .int a1), (2, .int a2), (3, .int a3), (4, .int a4), (5, .int a5)], [], (X1019, w)) (92, [(6, .int v1017), (0, .ref 13), (1, .int a1), (2, .int a2), (3, .int a3), (4, .int a4), (5, .int a5)], [], (X1019, w)) rfl (fun _ => ?_) (fun _ => ?_)
          · refine ab_e_go 7 (45, [(5, .int ((a5 - a2) &&& a2)), (6, .int v1017), (0, .ref 13), (1, .int a1), (2, .int a2), (3, .int a3), (4, .int a4)], [], (X1019, w)) rfl ?_
            refine ab_e_wk [(0, .ref 13), (1, .int a1), (2, .int a2), (3, .int a3), (4, .int a4), (5, .int ((a5 - a2) &&& a2))] ⟨rfl, rfl, rfl, rfl, rfl, rfl, trivial⟩ ?_
            exact ih X1019 a1 a2 a3 a4 ((a5 - a2) &&& a2)
          · refine ab_e_go 4 (45, [(5, .int (-1 : Int32)), (6, .int v1017), (0, .ref 13), (1, .int a1), (2, .int a2), (3, .int a3), (4, .int a4)], [], (X1019, w)) rfl ?_
            refine ab_e_wk [(0, .ref 13), (1, .int a1), (2, .int a2), (3, .int a3), (4, .int a4), (5, .int (-1 : Int32))] ⟨rfl, rfl, rfl, rfl, rfl, rfl, trivial⟩ ?_
            exact ih X1019 a1 a2 a3 a4 (-1 : Int32)
def L_M_bestOf_4 : Nat → ab_XX → Int32 → Int32 → Int32 → Option (Int32 × ab_XX)
  | 0, _, _, _, _ => none
  | n + 1, X, a1, a2, a3 =>
    (F_M_shifts X).bind fun v1016 =>
    if v1016 ≤ a3 then
      L_M_bestOf_45 ab_fu X a1 a2 (nI 0) (nI 0) (nI 0)
    else
      (F_M_bidOf X a1 a3).bind fun v1020 =>
      if v1020 ≤ nI 0 then
        L_M_bestOf_4 n X a1 (a2 ||| (nI 0)) (a3 + (nI 1))
      else
        L_M_bestOf_4 n X a1 (a2 ||| ((nI 1) <<< (a3 &&& 31))) (a3 + (nI 1))
set_option maxRecDepth 4000 in
theorem T_L_M_bestOf_4 (S : Nat × (Nat → Int32)) (w : ab_WW) : ∀ (n : Nat) (X : ab_XX) (a1 : Int32) (a2 : Int32) (a3 : Int32), ab_Eg (ab_m3 ab_fI w) S 238 (4, [(0, .ref 13), (1, .int a1), (2, .int a2), (3, .int a3)], [], (X, w)) (L_M_bestOf_4 n X a1 a2 a3) := by
  intro n
  induction n with
  | zero => intro X a1 a2 a3; exact ab_e_none
  | succ n ih =>
    intro X a1 a2 a3
    unfold L_M_bestOf_4
    refine ab_e_go 2 (6, [(0, .ref 13), (1, .int a1), (2, .int a2), (3, .int a3)], [.ref 13, .int a3], (X, w)) rfl ?_
    refine ab_e_c1 (k2 := 43) (as := [.ref 13]) (rest := [.int a3]) rfl rfl (T_M_shifts S w X) (fun v1016 => ?_)
    refine ab_e_br (c := v1016 ≤ a3) (37, [(0, .ref 13), (1, .int a1), (2, .int a2), (3, .int a3)], [], (X, w)) (12, [(0, .ref 13), (1, .int a1), (2, .int a2), (3, .int a3)], [], (X, w)) rfl (fun _ => ?_) (fun _ => ?_)
    · refine ab_e_go 6 (45, [(5, .int (nI 0)), (4, .int (nI 0)), (3, .int (nI 0)), (0, .ref 13), (1, .int a1), (2, .int a2)], [], (X, w)) rfl ?_
      refine ab_e_wk [(0, .ref 13), (1, .int a1), (2, .int a2), (3, .int (nI 0)), (4, .int (nI 0)), (5, .int (nI 0))] ⟨rfl, rfl, rfl, rfl, rfl, rfl, trivial⟩ ?_
      exact T_L_M_bestOf_45 S w ab_fu X a1 a2 (nI 0) (nI 0) (nI 0)
    · refine ab_e_go 4 (16, [(0, .ref 13), (1, .int a1), (2, .int a2), (3, .int a3)], [.int a3, .int a1, .ref 13, .int a2], (X, w)) rfl ?_
      refine ab_e_c1 (k2 := 34) (as := [.ref 13, .int a1, .int a3]) (rest := [.int a2]) rfl rfl (T_M_bidOf S w X a1 a3) (fun v1020 => ?_)
      refine ab_e_br (c := v1020 ≤ nI 0) (28, [(0, .ref 13), (1, .int a1), (2, .int a2), (3, .int a3)], [.int a2], (X, w)) (22, [(0, .ref 13), (1, .int a1), (2, .int a2), (3, .int a3)], [.int a2], (X, w)) rfl (fun _ => ?_) (fun _ => ?_)
      · refine ab_e_go 5 (4, [(3, .int (a3 + (nI 1))), (2, .int (a2 ||| (nI 0))), (0, .ref 13), (1, .int a1)], [], (X, w)) rfl ?_
        refine ab_e_wk [(0, .ref 13), (1, .int a1), (2, .int (a2 ||| (nI 0))), (3, .int (a3 + (nI 1)))] ⟨rfl, rfl, rfl, rfl, trivial⟩ ?_
        exact ih X a1 (a2 ||| (nI 0)) (a3 + (nI 1))
      · refine ab_e_go 8 (4, [(3, .int (a3 + (nI 1))), (2, .int (a2 ||| ((nI 1) <<< (a3 &&& 31)))), (0, .ref 13), (1, .int a1)], [], (X, w)) rfl ?_
        refine ab_e_wk [(0, .ref 13), (1, .int a1), (2, .int (a2 ||| ((nI 1) <<< (a3 &&& 31)))), (3, .int (a3 + (nI 1)))] ⟨rfl, rfl, rfl, rfl, trivial⟩ ?_
        exact ih X a1 (a2 ||| ((nI 1) <<< (a3 &&& 31))) (a3 + (nI 1))
def F_M_bestOf (X : ab_XX) (a1 : Int32) : Option (Int32 × ab_XX) :=
  L_M_bestOf_4 ab_fu X a1 (nI 0) (nI 0)
set_option maxRecDepth 4000 in
theorem T_M_bestOf (S : Nat × (Nat → Int32)) (w : ab_WW) (X : ab_XX) (a1 : Int32) : ab_Eg (ab_m3 ab_fI w) S 238 (0, lv_args 0 [.ref 13, .int a1], [], (X, w)) (F_M_bestOf X a1) := by
  show ab_Eg (ab_m3 ab_fI w) S 238 (0, [(0, .ref 13), (1, .int a1)], [], (X, w)) _
  unfold F_M_bestOf
  refine ab_e_go 4 (4, [(3, .int (nI 0)), (2, .int (nI 0)), (0, .ref 13), (1, .int a1)], [], (X, w)) rfl ?_
  refine ab_e_wk [(0, .ref 13), (1, .int a1), (2, .int (nI 0)), (3, .int (nI 0))] ⟨rfl, rfl, rfl, rfl, trivial⟩ ?_
  exact T_L_M_bestOf_4 S w ab_fu X a1 (nI 0) (nI 0)
def F_M_bestPoints (X : ab_XX) (a1 : Int32) : Option (Int32 × ab_XX) :=
  (F_M_isWorker X a1).bind fun v1014 =>
  if v1014 = nI 0 then
    (some (ab_up X 13 0 (nI 1))).bind fun X1015 =>
    if X1015 13 0 = nI 0 then
      ab_b3 (F_M_bestOf X1015 a1) (fun v1021 X1022 =>
        (F_M_pointsIn X1022 a1 v1021).bind fun v1023 =>
        some (v1023, X1022))
    else
      some (nI 0, X1015)
  else
    (some (ab_up X 13 0 (nI 0))).bind fun X1024 =>
    if X1024 13 0 = nI 0 then
      ab_b3 (F_M_bestOf X1024 a1) (fun v1025 X1026 =>
        (F_M_pointsIn X1026 a1 v1025).bind fun v1027 =>
        some (v1027, X1026))
    else
      some (nI 0, X1024)
set_option maxRecDepth 4000 in
theorem T_M_bestPoints (S : Nat × (Nat → Int32)) (w : ab_WW) (X : ab_XX) (a1 : Int32) : ab_Eg (ab_m3 ab_fI w) S 243 (0, lv_args 0 [.ref 13, .int a1], [], (X, w)) (F_M_bestPoints X a1) := by
  show ab_Eg (ab_m3 ab_fI w) S 243 (0, [(0, .ref 13), (1, .int a1)], [], (X, w)) _
  unfold F_M_bestPoints
  refine ab_e_go 3 (3, [(0, .ref 13), (1, .int a1)], [.int a1, .ref 13, .ref 13], (X, w)) rfl ?_
  refine ab_e_c1 (k2 := 98) (as := [.ref 13, .int a1]) (rest := [.ref 13]) rfl rfl (T_M_isWorker S w X a1) (fun v1014 => ?_)
  refine ab_e_br (c := v1014 = nI 0) (13, [(0, .ref 13), (1, .int a1)], [.ref 13], (X, w)) (9, [(0, .ref 13), (1, .int a1)], [.ref 13], (X, w)) rfl (fun _ => ?_) (fun _ => ?_)
  · refine ab_e_go 2 (17, [(0, .ref 13), (1, .int a1)], [], ((ab_up X 13 0 (nI 1)), w)) rfl ?_
    refine ab_e_letX (fun X1015 _ => ?_)
    refine ab_e_go 2 (21, [(0, .ref 13), (1, .int a1)], [.int (X1015 13 0)], (X1015, w)) rfl ?_
    refine ab_e_bn (c := X1015 13 0 = nI 0) (37, [(0, .ref 13), (1, .int a1)], [], (X1015, w)) (24, [(0, .ref 13), (1, .int a1)], [], (X1015, w)) rfl (fun _ => ?_) (fun _ => ?_)
    · refine ab_e_go 1 (38, [(0, .ref 13), (1, .int a1)], [.int (nI 0)], (X1015, w)) rfl ?_
      exact ab_e_rt rfl rfl
    · refine ab_e_go 4 (28, [(0, .ref 13), (1, .int a1)], [.int a1, .ref 13, .int a1, .ref 13], (X1015, w)) rfl ?_
      refine ab_e_c3 (k2 := 238) (as := [.ref 13, .int a1]) (rest := [.int a1, .ref 13]) rfl rfl (T_M_bestOf S w X1015 a1) (fun v1021 X1022 => ?_)
      refine ab_e_c1 (k2 := 104) (as := [.ref 13, .int a1, .int v1021]) (rest := []) rfl rfl (T_M_pointsIn S w X1022 a1 v1021) (fun v1023 => ?_)
      refine ab_e_go 1 (38, [(0, .ref 13), (1, .int a1)], [.int v1023], (X1022, w)) rfl ?_
      exact ab_e_rt rfl rfl
  · refine ab_e_go 3 (17, [(0, .ref 13), (1, .int a1)], [], ((ab_up X 13 0 (nI 0)), w)) rfl ?_
    refine ab_e_letX (fun X1024 _ => ?_)
    refine ab_e_go 2 (21, [(0, .ref 13), (1, .int a1)], [.int (X1024 13 0)], (X1024, w)) rfl ?_
    refine ab_e_bn (c := X1024 13 0 = nI 0) (37, [(0, .ref 13), (1, .int a1)], [], (X1024, w)) (24, [(0, .ref 13), (1, .int a1)], [], (X1024, w)) rfl (fun _ => ?_) (fun _ => ?_)
    · refine ab_e_go 1 (38, [(0, .ref 13), (1, .int a1)], [.int (nI 0)], (X1024, w)) rfl ?_
      exact ab_e_rt rfl rfl
    · refine ab_e_go 4 (28, [(0, .ref 13), (1, .int a1)], [.int a1, .ref 13, .int a1, .ref 13], (X1024, w)) rfl ?_
      refine ab_e_c3 (k2 := 238) (as := [.ref 13, .int a1]) (rest := [.int a1, .ref 13]) rfl rfl (T_M_bestOf S w X1024 a1) (fun v1025 X1026 => ?_)
      refine ab_e_c1 (k2 := 104) (as := [.ref 13, .int a1, .int v1025]) (rest := []) rfl rfl (T_M_pointsIn S w X1026 a1 v1025) (fun v1027 => ?_)
      refine ab_e_go 1 (38, [(0, .ref 13), (1, .int a1)], [.int v1027], (X1026, w)) rfl ?_
      exact ab_e_rt rfl rfl
def F_M_bestSet (X : ab_XX) (a1 : Int32) : Option (Int32 × ab_XX) :=
  (F_M_isWorker X a1).bind fun v1028 =>
  if v1028 = nI 0 then
    (some (ab_up X 13 0 (nI 1))).bind fun X1029 =>
    if X1029 13 0 = nI 0 then
      ab_b3 (F_M_bestOf X1029 a1) (fun v1030 X1031 =>
        some (v1030, X1031))
    else
      some (nI 0, X1029)
  else
    (some (ab_up X 13 0 (nI 0))).bind fun X1032 =>
    if X1032 13 0 = nI 0 then
      ab_b3 (F_M_bestOf X1032 a1) (fun v1033 X1034 =>
        some (v1033, X1034))
    else
      some (nI 0, X1032)
set_option maxRecDepth 4000 in
theorem T_M_bestSet (S : Nat × (Nat → Int32)) (w : ab_WW) (X : ab_XX) (a1 : Int32) : ab_Eg (ab_m3 ab_fI w) S 244 (0, lv_args 0 [.ref 13, .int a1], [], (X, w)) (F_M_bestSet X a1) := by
  show ab_Eg (ab_m3 ab_fI w) S 244 (0, [(0, .ref 13), (1, .int a1)], [], (X, w)) _
  unfold F_M_bestSet
  refine ab_e_go 3 (3, [(0, .ref 13), (1, .int a1)], [.int a1, .ref 13, .ref 13], (X, w)) rfl ?_
  refine ab_e_c1 (k2 := 98) (as := [.ref 13, .int a1]) (rest := [.ref 13]) rfl rfl (T_M_isWorker S w X a1) (fun v1028 => ?_)
  refine ab_e_br (c := v1028 = nI 0) (13, [(0, .ref 13), (1, .int a1)], [.ref 13], (X, w)) (9, [(0, .ref 13), (1, .int a1)], [.ref 13], (X, w)) rfl (fun _ => ?_) (fun _ => ?_)
  · refine ab_e_go 2 (17, [(0, .ref 13), (1, .int a1)], [], ((ab_up X 13 0 (nI 1)), w)) rfl ?_
    refine ab_e_letX (fun X1029 _ => ?_)
    refine ab_e_go 2 (21, [(0, .ref 13), (1, .int a1)], [.int (X1029 13 0)], (X1029, w)) rfl ?_
    refine ab_e_bn (c := X1029 13 0 = nI 0) (32, [(0, .ref 13), (1, .int a1)], [], (X1029, w)) (24, [(0, .ref 13), (1, .int a1)], [], (X1029, w)) rfl (fun _ => ?_) (fun _ => ?_)
    · refine ab_e_go 1 (33, [(0, .ref 13), (1, .int a1)], [.int (nI 0)], (X1029, w)) rfl ?_
      exact ab_e_rt rfl rfl
    · refine ab_e_go 2 (26, [(0, .ref 13), (1, .int a1)], [.int a1, .ref 13], (X1029, w)) rfl ?_
      refine ab_e_c3 (k2 := 238) (as := [.ref 13, .int a1]) (rest := []) rfl rfl (T_M_bestOf S w X1029 a1) (fun v1030 X1031 => ?_)
      refine ab_e_go 1 (33, [(0, .ref 13), (1, .int a1)], [.int v1030], (X1031, w)) rfl ?_
      exact ab_e_rt rfl rfl
  · refine ab_e_go 3 (17, [(0, .ref 13), (1, .int a1)], [], ((ab_up X 13 0 (nI 0)), w)) rfl ?_
    refine ab_e_letX (fun X1032 _ => ?_)
    refine ab_e_go 2 (21, [(0, .ref 13), (1, .int a1)], [.int (X1032 13 0)], (X1032, w)) rfl ?_
    refine ab_e_bn (c := X1032 13 0 = nI 0) (32, [(0, .ref 13), (1, .int a1)], [], (X1032, w)) (24, [(0, .ref 13), (1, .int a1)], [], (X1032, w)) rfl (fun _ => ?_) (fun _ => ?_)
    · refine ab_e_go 1 (33, [(0, .ref 13), (1, .int a1)], [.int (nI 0)], (X1032, w)) rfl ?_
      exact ab_e_rt rfl rfl
    · refine ab_e_go 2 (26, [(0, .ref 13), (1, .int a1)], [.int a1, .ref 13], (X1032, w)) rfl ?_
      refine ab_e_c3 (k2 := 238) (as := [.ref 13, .int a1]) (rest := []) rfl rfl (T_M_bestOf S w X1032 a1) (fun v1033 X1034 => ?_)
      refine ab_e_go 1 (33, [(0, .ref 13), (1, .int a1)], [.int v1033], (X1034, w)) rfl ?_
      exact ab_e_rt rfl rfl
def F_M_mayGet (X : ab_XX) (a1 : Int32) (a2 : Int32) (a3 : Int32) (a4 : Int32) : Option (Int32 × ab_XX) :=
  (F_M_heldBy X a1).bind fun v1037 =>
  ab_b3 (F_M_obstacleOf X a1 a3 (v1037 &&& (((nI 1) <<< (a2 &&& 31)) ^^^ (-1 : Int32))) (nI 1)) (fun v1038 X1039 =>
    if v1038 = nI 0 then
      if v1038 = nI 0 then
        some (nI 1, X1039)
      else
        some (nI 0, X1039)
    else
      if a4 = nI 0 then
        if v1038 = nI 0 then
          some (nI 1, X1039)
        else
          some (nI 0, X1039)
      else
        ab_b3 (F_M_reasons X1039 v1038 (X1039 13 11) a1) (fun _ X1040 =>
          if v1038 = nI 0 then
            some (nI 1, X1040)
          else
            some (nI 0, X1040)))
set_option maxRecDepth 4000 in
theorem T_M_mayGet (S : Nat × (Nat → Int32)) (w : ab_WW) (X : ab_XX) (a1 : Int32) (a2 : Int32) (a3 : Int32) (a4 : Int32) : ab_Eg (ab_m3 ab_fI w) S 241 (0, lv_args 0 [.ref 13, .int a1, .int a2, .int a3, .int a4], [], (X, w)) (F_M_mayGet X a1 a2 a3 a4) := by
  show ab_Eg (ab_m3 ab_fI w) S 241 (0, [(0, .ref 13), (1, .int a1), (2, .int a2), (3, .int a3), (4, .int a4)], [], (X, w)) _
  unfold F_M_mayGet
  refine ab_e_go 5 (5, [(0, .ref 13), (1, .int a1), (2, .int a2), (3, .int a3), (4, .int a4)], [.int a1, .ref 13, .int a3, .int a1, .ref 13], (X, w)) rfl ?_
  refine ab_e_c1 (k2 := 94) (as := [.ref 13, .int a1]) (rest := [.int a3, .int a1, .ref 13]) rfl rfl (T_M_heldBy S w X a1) (fun v1037 => ?_)
  refine ab_e_go 7 (15, [(0, .ref 13), (1, .int a1), (2, .int a2), (3, .int a3), (4, .int a4)], [.int (nI 1), .int (v1037 &&& (((nI 1) <<< (a2 &&& 31)) ^^^ (-1 : Int32))), .int a3, .int a1, .ref 13], (X, w)) rfl ?_
  refine ab_e_c3 (k2 := 232) (as := [.ref 13, .int a1, .int a3, .int (v1037 &&& (((nI 1) <<< (a2 &&& 31)) ^^^ (-1 : Int32))), .int (nI 1)]) (rest := []) rfl rfl (T_M_obstacleOf S w X a1 a3 (v1037 &&& (((nI 1) <<< (a2 &&& 31)) ^^^ (-1 : Int32))) (nI 1)) (fun v1038 X1039 => ?_)
  refine ab_e_go 2 (22, [(5, .int v1038), (0, .ref 13), (1, .int a1), (2, .int a2), (3, .int a3), (4, .int a4)], [.int v1038], (X1039, w)) rfl ?_
  refine ab_e_br (c := v1038 = nI 0) (41, [(5, .int v1038), (0, .ref 13), (1, .int a1), (2, .int a2), (3, .int a3), (4, .int a4)], [], (X1039, w)) (25, [(5, .int v1038), (0, .ref 13), (1, .int a1), (2, .int a2), (3, .int a3), (4, .int a4)], [], (X1039, w)) rfl (fun _ => ?_) (fun _ => ?_)
  · refine ab_e_go 1 (43, [(5, .int v1038), (0, .ref 13), (1, .int a1), (2, .int a2), (3, .int a3), (4, .int a4)], [.int v1038], (X1039, w)) rfl ?_
    refine ab_e_bn (c := v1038 = nI 0) (50, [(5, .int v1038), (0, .ref 13), (1, .int a1), (2, .int a2), (3, .int a3), (4, .int a4)], [], (X1039, w)) (46, [(5, .int v1038), (0, .ref 13), (1, .int a1), (2, .int a2), (3, .int a3), (4, .int a4)], [], (X1039, w)) rfl (fun _ => ?_) (fun _ => ?_)
    · refine ab_e_go 1 (51, [(5, .int v1038), (0, .ref 13), (1, .int a1), (2, .int a2), (3, .int a3), (4, .int a4)], [.int (nI 0)], (X1039, w)) rfl ?_
      exact ab_e_rt rfl rfl
    · refine ab_e_go 2 (51, [(5, .int v1038), (0, .ref 13), (1, .int a1), (2, .int a2), (3, .int a3), (4, .int a4)], [.int (nI 1)], (X1039, w)) rfl ?_
      exact ab_e_rt rfl rfl
  · refine ab_e_go 1 (27, [(5, .int v1038), (0, .ref 13), (1, .int a1), (2, .int a2), (3, .int a3), (4, .int a4)], [.int a4], (X1039, w)) rfl ?_
    refine ab_e_br (c := a4 = nI 0) (41, [(5, .int v1038), (0, .ref 13), (1, .int a1), (2, .int a2), (3, .int a3), (4, .int a4)], [], (X1039, w)) (30, [(5, .int v1038), (0, .ref 13), (1, .int a1), (2, .int a2), (3, .int a3), (4, .int a4)], [], (X1039, w)) rfl (fun _ => ?_) (fun _ => ?_)
    · refine ab_e_go 1 (43, [(5, .int v1038), (0, .ref 13), (1, .int a1), (2, .int a2), (3, .int a3), (4, .int a4)], [.int v1038], (X1039, w)) rfl ?_
      refine ab_e_bn (c := v1038 = nI 0) (50, [(5, .int v1038), (0, .ref 13), (1, .int a1), (2, .int a2), (3, .int a3), (4, .int a4)], [], (X1039, w)) (46, [(5, .int v1038), (0, .ref 13), (1, .int a1), (2, .int a2), (3, .int a3), (4, .int a4)], [], (X1039, w)) rfl (fun _ => ?_) (fun _ => ?_)
      · refine ab_e_go 1 (51, [(5, .int v1038), (0, .ref 13), (1, .int a1), (2, .int a2), (3, .int a3), (4, .int a4)], [.int (nI 0)], (X1039, w)) rfl ?_
        exact ab_e_rt rfl rfl
      · refine ab_e_go 2 (51, [(5, .int v1038), (0, .ref 13), (1, .int a1), (2, .int a2), (3, .int a3), (4, .int a4)], [.int (nI 1)], (X1039, w)) rfl ?_
        exact ab_e_rt rfl rfl
    · refine ab_e_go 5 (38, [(5, .int v1038), (0, .ref 13), (1, .int a1), (2, .int a2), (3, .int a3), (4, .int a4)], [.int a1, .int (X1039 13 11), .int v1038, .ref 13], (X1039, w)) rfl ?_
      refine ab_e_c3 (k2 := 42) (as := [.ref 13, .int v1038, .int (X1039 13 11), .int a1]) (rest := []) rfl rfl (T_M_reasons S w X1039 v1038 (X1039 13 11) a1) (fun _ X1040 => ?_)
      refine ab_e_go 1 (43, [(5, .int v1038), (0, .ref 13), (1, .int a1), (2, .int a2), (3, .int a3), (4, .int a4)], [.int v1038], (X1040, w)) rfl ?_
      refine ab_e_bn (c := v1038 = nI 0) (50, [(5, .int v1038), (0, .ref 13), (1, .int a1), (2, .int a2), (3, .int a3), (4, .int a4)], [], (X1040, w)) (46, [(5, .int v1038), (0, .ref 13), (1, .int a1), (2, .int a2), (3, .int a3), (4, .int a4)], [], (X1040, w)) rfl (fun _ => ?_) (fun _ => ?_)
      · refine ab_e_go 1 (51, [(5, .int v1038), (0, .ref 13), (1, .int a1), (2, .int a2), (3, .int a3), (4, .int a4)], [.int (nI 0)], (X1040, w)) rfl ?_
        exact ab_e_rt rfl rfl
      · refine ab_e_go 2 (51, [(5, .int v1038), (0, .ref 13), (1, .int a1), (2, .int a2), (3, .int a3), (4, .int a4)], [.int (nI 1)], (X1040, w)) rfl ?_
        exact ab_e_rt rfl rfl
def F_M_exchange (X : ab_XX) (a1 : Int32) (a2 : Int32) (a3 : Int32) (a4 : Int32) : Option (Unit × ab_XX) :=
  (F_M_isWorker X a1).bind fun v1035 =>
  if v1035 = nI 0 then
    (some (ab_up X 13 0 (nI 1))).bind fun X1036 =>
    if X1036 13 0 = nI 0 then
      ab_b3 (F_M_mayGet X1036 a1 a2 a4 (nI 1)) (fun v1041 X1042 =>
        if v1041 = nI 0 then
          (some (ab_up X1042 13 0 (nI 4))).bind fun X1043 =>
          some ((), X1043)
        else
          ab_b3 (F_M_mayGet X1042 a3 a4 a2 (nI 1)) (fun v1044 X1045 =>
            if v1044 = nI 0 then
              (some (ab_up X1045 13 0 (nI 4))).bind fun X1052 =>
              some ((), X1052)
            else
              ab_b3 (F_M_reasons X1045 (nI 0) (nI 0) (-1 : Int32)) (fun _ X1046 =>
                ab_b3 (F_M_keeps X1046) (fun _ X1047 =>
                  (F_M_awardOf X1047 a1 a2).bind fun v1048 =>
                  (F_M_awardOf X1047 a3 a4).bind fun v1049 =>
                  if ab_in ((nI 309) + ((nI 2) * v1048)) 4455 = true then
                    (some (ab_up X1047 14 (((nI 309) + ((nI 2) * v1048)).toNatClampNeg) a3)).bind fun X1050 =>
                    if ab_in ((nI 309) + ((nI 2) * v1049)) 4455 = true then
                      (some (ab_up X1050 14 (((nI 309) + ((nI 2) * v1049)).toNatClampNeg) a1)).bind fun X1051 =>
                      some ((), X1051)
                    else none
                  else none))))
    else
      some ((), X1036)
  else
    (F_M_isShift X a2).bind fun v1053 =>
    if v1053 = nI 0 then
      (some (ab_up X 13 0 (nI 1))).bind fun X1054 =>
      if X1054 13 0 = nI 0 then
        ab_b3 (F_M_mayGet X1054 a1 a2 a4 (nI 1)) (fun v1055 X1056 =>
          if v1055 = nI 0 then
            (some (ab_up X1056 13 0 (nI 4))).bind fun X1057 =>
            some ((), X1057)
          else
            ab_b3 (F_M_mayGet X1056 a3 a4 a2 (nI 1)) (fun v1058 X1059 =>
              if v1058 = nI 0 then
                (some (ab_up X1059 13 0 (nI 4))).bind fun X1066 =>
                some ((), X1066)
              else
                ab_b3 (F_M_reasons X1059 (nI 0) (nI 0) (-1 : Int32)) (fun _ X1060 =>
                  ab_b3 (F_M_keeps X1060) (fun _ X1061 =>
                    (F_M_awardOf X1061 a1 a2).bind fun v1062 =>
                    (F_M_awardOf X1061 a3 a4).bind fun v1063 =>
                    if ab_in ((nI 309) + ((nI 2) * v1062)) 4455 = true then
                      (some (ab_up X1061 14 (((nI 309) + ((nI 2) * v1062)).toNatClampNeg) a3)).bind fun X1064 =>
                      if ab_in ((nI 309) + ((nI 2) * v1063)) 4455 = true then
                        (some (ab_up X1064 14 (((nI 309) + ((nI 2) * v1063)).toNatClampNeg) a1)).bind fun X1065 =>
                        some ((), X1065)
                      else none
                    else none))))
      else
        some ((), X1054)
    else
      (F_M_isWorker X a3).bind fun v1067 =>
      if v1067 = nI 0 then
        (some (ab_up X 13 0 (nI 1))).bind fun X1068 =>
        if X1068 13 0 = nI 0 then
          ab_b3 (F_M_mayGet X1068 a1 a2 a4 (nI 1)) (fun v1069 X1070 =>
            if v1069 = nI 0 then
              (some (ab_up X1070 13 0 (nI 4))).bind fun X1071 =>
              some ((), X1071)
            else
              ab_b3 (F_M_mayGet X1070 a3 a4 a2 (nI 1)) (fun v1072 X1073 =>
                if v1072 = nI 0 then
                  (some (ab_up X1073 13 0 (nI 4))).bind fun X1080 =>
                  some ((), X1080)
                else
                  ab_b3 (F_M_reasons X1073 (nI 0) (nI 0) (-1 : Int32)) (fun _ X1074 =>
                    ab_b3 (F_M_keeps X1074) (fun _ X1075 =>
                      (F_M_awardOf X1075 a1 a2).bind fun v1076 =>
                      (F_M_awardOf X1075 a3 a4).bind fun v1077 =>
                      if ab_in ((nI 309) + ((nI 2) * v1076)) 4455 = true then
                        (some (ab_up X1075 14 (((nI 309) + ((nI 2) * v1076)).toNatClampNeg) a3)).bind fun X1078 =>
                        if ab_in ((nI 309) + ((nI 2) * v1077)) 4455 = true then
                          (some (ab_up X1078 14 (((nI 309) + ((nI 2) * v1077)).toNatClampNeg) a1)).bind fun X1079 =>
                          some ((), X1079)
                        else none
                      else none))))
        else
          some ((), X1068)
      else
        (F_M_isShift X a4).bind fun v1081 =>
        if v1081 = nI 0 then
          (some (ab_up X 13 0 (nI 1))).bind fun X1136 =>
          if X1136 13 0 = nI 0 then
            ab_b3 (F_M_mayGet X1136 a1 a2 a4 (nI 1)) (fun v1137 X1138 =>
              if v1137 = nI 0 then
                (some (ab_up X1138 13 0 (nI 4))).bind fun X1139 =>
                some ((), X1139)
              else
                ab_b3 (F_M_mayGet X1138 a3 a4 a2 (nI 1)) (fun v1140 X1141 =>
                  if v1140 = nI 0 then
                    (some (ab_up X1141 13 0 (nI 4))).bind fun X1148 =>
                    some ((), X1148)
                  else
                    ab_b3 (F_M_reasons X1141 (nI 0) (nI 0) (-1 : Int32)) (fun _ X1142 =>
                      ab_b3 (F_M_keeps X1142) (fun _ X1143 =>
                        (F_M_awardOf X1143 a1 a2).bind fun v1144 =>
                        (F_M_awardOf X1143 a3 a4).bind fun v1145 =>
                        if ab_in ((nI 309) + ((nI 2) * v1144)) 4455 = true then
                          (some (ab_up X1143 14 (((nI 309) + ((nI 2) * v1144)).toNatClampNeg) a3)).bind fun X1146 =>
                          if ab_in ((nI 309) + ((nI 2) * v1145)) 4455 = true then
                            (some (ab_up X1146 14 (((nI 309) + ((nI 2) * v1145)).toNatClampNeg) a1)).bind fun X1147 =>
                            some ((), X1147)
                          else none
                        else none))))
          else
            some ((), X1136)
        else
          if a1 = a3 then
            (some (ab_up X 13 0 (nI 2))).bind fun X1123 =>
            if X1123 13 0 = nI 0 then
              ab_b3 (F_M_mayGet X1123 a1 a2 a4 (nI 1)) (fun v1124 X1125 =>
                if v1124 = nI 0 then
                  (some (ab_up X1125 13 0 (nI 4))).bind fun X1126 =>
                  some ((), X1126)
                else
                  ab_b3 (F_M_mayGet X1125 a3 a4 a2 (nI 1)) (fun v1127 X1128 =>
                    if v1127 = nI 0 then
                      (some (ab_up X1128 13 0 (nI 4))).bind fun X1135 =>
                      some ((), X1135)
                    else
                      ab_b3 (F_M_reasons X1128 (nI 0) (nI 0) (-1 : Int32)) (fun _ X1129 =>
                        ab_b3 (F_M_keeps X1129) (fun _ X1130 =>
                          (F_M_awardOf X1130 a1 a2).bind fun v1131 =>
                          (F_M_awardOf X1130 a3 a4).bind fun v1132 =>
                          if ab_in ((nI 309) + ((nI 2) * v1131)) 4455 = true then
                            (some (ab_up X1130 14 (((nI 309) + ((nI 2) * v1131)).toNatClampNeg) a3)).bind fun X1133 =>
                            if ab_in ((nI 309) + ((nI 2) * v1132)) 4455 = true then
                              (some (ab_up X1133 14 (((nI 309) + ((nI 2) * v1132)).toNatClampNeg) a1)).bind fun X1134 =>
                              some ((), X1134)
                            else none
                          else none))))
            else
              some ((), X1123)
          else
            (F_M_awardOf X a1 a2).bind fun v1082 =>
            if v1082 < nI 0 then
              (some (ab_up X 13 0 (nI 3))).bind fun X1083 =>
              if X1083 13 0 = nI 0 then
                ab_b3 (F_M_mayGet X1083 a1 a2 a4 (nI 1)) (fun v1084 X1085 =>
                  if v1084 = nI 0 then
                    (some (ab_up X1085 13 0 (nI 4))).bind fun X1086 =>
                    some ((), X1086)
                  else
                    ab_b3 (F_M_mayGet X1085 a3 a4 a2 (nI 1)) (fun v1087 X1088 =>
                      if v1087 = nI 0 then
                        (some (ab_up X1088 13 0 (nI 4))).bind fun X1095 =>
                        some ((), X1095)
                      else
                        ab_b3 (F_M_reasons X1088 (nI 0) (nI 0) (-1 : Int32)) (fun _ X1089 =>
                          ab_b3 (F_M_keeps X1089) (fun _ X1090 =>
                            (F_M_awardOf X1090 a1 a2).bind fun v1091 =>
                            (F_M_awardOf X1090 a3 a4).bind fun v1092 =>
                            if ab_in ((nI 309) + ((nI 2) * v1091)) 4455 = true then
                              (some (ab_up X1090 14 (((nI 309) + ((nI 2) * v1091)).toNatClampNeg) a3)).bind fun X1093 =>
                              if ab_in ((nI 309) + ((nI 2) * v1092)) 4455 = true then
                                (some (ab_up X1093 14 (((nI 309) + ((nI 2) * v1092)).toNatClampNeg) a1)).bind fun X1094 =>
                                some ((), X1094)
                              else none
                            else none))))
              else
                some ((), X1083)
            else
              (F_M_awardOf X a3 a4).bind fun v1096 =>
              if nI 0 ≤ v1096 then
                (some (ab_up X 13 0 (nI 0))).bind fun X1097 =>
                if X1097 13 0 = nI 0 then
                  ab_b3 (F_M_mayGet X1097 a1 a2 a4 (nI 1)) (fun v1098 X1099 =>
                    if v1098 = nI 0 then
                      (some (ab_up X1099 13 0 (nI 4))).bind fun X1100 =>
                      some ((), X1100)
                    else
                      ab_b3 (F_M_mayGet X1099 a3 a4 a2 (nI 1)) (fun v1101 X1102 =>
                        if v1101 = nI 0 then
                          (some (ab_up X1102 13 0 (nI 4))).bind fun X1109 =>
                          some ((), X1109)
                        else
                          ab_b3 (F_M_reasons X1102 (nI 0) (nI 0) (-1 : Int32)) (fun _ X1103 =>
                            ab_b3 (F_M_keeps X1103) (fun _ X1104 =>
                              (F_M_awardOf X1104 a1 a2).bind fun v1105 =>
                              (F_M_awardOf X1104 a3 a4).bind fun v1106 =>
                              if ab_in ((nI 309) + ((nI 2) * v1105)) 4455 = true then
                                (some (ab_up X1104 14 (((nI 309) + ((nI 2) * v1105)).toNatClampNeg) a3)).bind fun X1107 =>
                                if ab_in ((nI 309) + ((nI 2) * v1106)) 4455 = true then
                                  (some (ab_up X1107 14 (((nI 309) + ((nI 2) * v1106)).toNatClampNeg) a1)).bind fun X1108 =>
                                  some ((), X1108)
                                else none
                              else none))))
                else
                  some ((), X1097)
              else
                (some (ab_up X 13 0 (nI 3))).bind fun X1110 =>
                if X1110 13 0 = nI 0 then
                  ab_b3 (F_M_mayGet X1110 a1 a2 a4 (nI 1)) (fun v1111 X1112 =>
                    if v1111 = nI 0 then
                      (some (ab_up X1112 13 0 (nI 4))).bind fun X1113 =>
                      some ((), X1113)
                    else
                      ab_b3 (F_M_mayGet X1112 a3 a4 a2 (nI 1)) (fun v1114 X1115 =>
                        if v1114 = nI 0 then
                          (some (ab_up X1115 13 0 (nI 4))).bind fun X1122 =>
                          some ((), X1122)
                        else
                          ab_b3 (F_M_reasons X1115 (nI 0) (nI 0) (-1 : Int32)) (fun _ X1116 =>
                            ab_b3 (F_M_keeps X1116) (fun _ X1117 =>
                              (F_M_awardOf X1117 a1 a2).bind fun v1118 =>
                              (F_M_awardOf X1117 a3 a4).bind fun v1119 =>
                              if ab_in ((nI 309) + ((nI 2) * v1118)) 4455 = true then
                                (some (ab_up X1117 14 (((nI 309) + ((nI 2) * v1118)).toNatClampNeg) a3)).bind fun X1120 =>
                                if ab_in ((nI 309) + ((nI 2) * v1119)) 4455 = true then
                                  (some (ab_up X1120 14 (((nI 309) + ((nI 2) * v1119)).toNatClampNeg) a1)).bind fun X1121 =>
                                  some ((), X1121)
                                else none
                              else none))))
                else
                  some ((), X1110)
set_option maxRecDepth 4000 in
theorem T_M_exchange (S : Nat × (Nat → Int32)) (w : ab_WW) (X : ab_XX) (a1 : Int32) (a2 : Int32) (a3 : Int32) (a4 : Int32) : ab_Eg (ab_m3 ab_fU w) S 245 (0, lv_args 0 [.ref 13, .int a1, .int a2, .int a3, .int a4], [], (X, w)) (F_M_exchange X a1 a2 a3 a4) := by
  show ab_Eg (ab_m3 ab_fU w) S 245 (0, [(0, .ref 13), (1, .int a1), (2, .int a2), (3, .int a3), (4, .int a4)], [], (X, w)) _
  unfold F_M_exchange
  refine ab_e_go 3 (3, [(0, .ref 13), (1, .int a1), (2, .int a2), (3, .int a3), (4, .int a4)], [.int a1, .ref 13, .ref 13], (X, w)) rfl ?_
  refine ab_e_c1 (k2 := 98) (as := [.ref 13, .int a1]) (rest := [.ref 13]) rfl rfl (T_M_isWorker S w X a1) (fun v1035 => ?_)
  refine ab_e_br (c := v1035 = nI 0) (34, [(0, .ref 13), (1, .int a1), (2, .int a2), (3, .int a3), (4, .int a4)], [.ref 13], (X, w)) (9, [(0, .ref 13), (1, .int a1), (2, .int a2), (3, .int a3), (4, .int a4)], [.ref 13], (X, w)) rfl (fun _ => ?_) (fun _ => ?_)
  · refine ab_e_go 3 (74, [(0, .ref 13), (1, .int a1), (2, .int a2), (3, .int a3), (4, .int a4)], [], ((ab_up X 13 0 (nI 1)), w)) rfl ?_
    refine ab_e_letX (fun X1036 _ => ?_)
    refine ab_e_go 2 (78, [(0, .ref 13), (1, .int a1), (2, .int a2), (3, .int a3), (4, .int a4)], [.int (X1036 13 0)], (X1036, w)) rfl ?_
    refine ab_e_br (c := X1036 13 0 = nI 0) (82, [(0, .ref 13), (1, .int a1), (2, .int a2), (3, .int a3), (4, .int a4)], [], (X1036, w)) (81, [(0, .ref 13), (1, .int a1), (2, .int a2), (3, .int a3), (4, .int a4)], [], (X1036, w)) rfl (fun _ => ?_) (fun _ => ?_)
    · refine ab_e_go 5 (88, [(0, .ref 13), (1, .int a1), (2, .int a2), (3, .int a3), (4, .int a4)], [.int (nI 1), .int a4, .int a2, .int a1, .ref 13], (X1036, w)) rfl ?_
      refine ab_e_c3 (k2 := 241) (as := [.ref 13, .int a1, .int a2, .int a4, .int (nI 1)]) (rest := []) rfl rfl (T_M_mayGet S w X1036 a1 a2 a4 (nI 1)) (fun v1041 X1042 => ?_)
      refine ab_e_br (c := v1041 = nI 0) (106, [(0, .ref 13), (1, .int a1), (2, .int a2), (3, .int a3), (4, .int a4)], [], (X1042, w)) (94, [(0, .ref 13), (1, .int a1), (2, .int a2), (3, .int a3), (4, .int a4)], [], (X1042, w)) rfl (fun _ => ?_) (fun _ => ?_)
      · refine ab_e_go 3 (111, [(0, .ref 13), (1, .int a1), (2, .int a2), (3, .int a3), (4, .int a4)], [], ((ab_up X1042 13 0 (nI 4)), w)) rfl ?_
        refine ab_e_letX (fun X1043 _ => ?_)
        exact ab_e_rt rfl rfl
      · refine ab_e_go 5 (100, [(0, .ref 13), (1, .int a1), (2, .int a2), (3, .int a3), (4, .int a4)], [.int (nI 1), .int a2, .int a4, .int a3, .ref 13], (X1042, w)) rfl ?_
        refine ab_e_c3 (k2 := 241) (as := [.ref 13, .int a3, .int a4, .int a2, .int (nI 1)]) (rest := []) rfl rfl (T_M_mayGet S w X1042 a3 a4 a2 (nI 1)) (fun v1044 X1045 => ?_)
        refine ab_e_bn (c := v1044 = nI 0) (112, [(0, .ref 13), (1, .int a1), (2, .int a2), (3, .int a3), (4, .int a4)], [], (X1045, w)) (106, [(0, .ref 13), (1, .int a1), (2, .int a2), (3, .int a3), (4, .int a4)], [], (X1045, w)) rfl (fun _ => ?_) (fun _ => ?_)
        · refine ab_e_go 4 (116, [(0, .ref 13), (1, .int a1), (2, .int a2), (3, .int a3), (4, .int a4)], [.int (-1 : Int32), .int (nI 0), .int (nI 0), .ref 13], (X1045, w)) rfl ?_
          refine ab_e_c3 (k2 := 42) (as := [.ref 13, .int (nI 0), .int (nI 0), .int (-1 : Int32)]) (rest := []) rfl rfl (T_M_reasons S w X1045 (nI 0) (nI 0) (-1 : Int32)) (fun _ X1046 => ?_)
          refine ab_e_go 1 (120, [(0, .ref 13), (1, .int a1), (2, .int a2), (3, .int a3), (4, .int a4)], [.ref 13], (X1046, w)) rfl ?_
          refine ab_e_c3 (k2 := 99) (as := [.ref 13]) (rest := []) rfl rfl (T_M_keeps S w X1046) (fun _ X1047 => ?_)
          refine ab_e_go 3 (126, [(0, .ref 13), (1, .int a1), (2, .int a2), (3, .int a3), (4, .int a4)], [.int a2, .int a1, .ref 13], (X1047, w)) rfl ?_
          refine ab_e_c1 (k2 := 87) (as := [.ref 13, .int a1, .int a2]) (rest := []) rfl rfl (T_M_awardOf S w X1047 a1 a2) (fun v1048 => ?_)
          refine ab_e_go 4 (135, [(5, .int v1048), (0, .ref 13), (1, .int a1), (2, .int a2), (3, .int a3), (4, .int a4)], [.int a4, .int a3, .ref 13], (X1047, w)) rfl ?_
          refine ab_e_c1 (k2 := 87) (as := [.ref 13, .int a3, .int a4]) (rest := []) rfl rfl (T_M_awardOf S w X1047 a3 a4) (fun v1049 => ?_)
          refine ab_e_go 9 (153, [(6, .int v1049), (5, .int v1048), (0, .ref 13), (1, .int a1), (2, .int a2), (3, .int a3), (4, .int a4)], [.int a3, .int ((nI 309) + ((nI 2) * v1048)), .ref 14], (X1047, w)) rfl ?_
          refine ab_e_gd (154, [(6, .int v1049), (5, .int v1048), (0, .ref 13), (1, .int a1), (2, .int a2), (3, .int a3), (4, .int a4)], [], ((ab_up X1047 14 (((nI 309) + ((nI 2) * v1048)).toNatClampNeg) a3), w)) rfl ?_
          refine ab_e_letX (fun X1050 _ => ?_)
          refine ab_e_go 8 (167, [(6, .int v1049), (5, .int v1048), (0, .ref 13), (1, .int a1), (2, .int a2), (3, .int a3), (4, .int a4)], [.int a1, .int ((nI 309) + ((nI 2) * v1049)), .ref 14], (X1050, w)) rfl ?_
          refine ab_e_gd (168, [(6, .int v1049), (5, .int v1048), (0, .ref 13), (1, .int a1), (2, .int a2), (3, .int a3), (4, .int a4)], [], ((ab_up X1050 14 (((nI 309) + ((nI 2) * v1049)).toNatClampNeg) a1), w)) rfl ?_
          refine ab_e_letX (fun X1051 _ => ?_)
          exact ab_e_rt rfl rfl
        · refine ab_e_go 3 (111, [(0, .ref 13), (1, .int a1), (2, .int a2), (3, .int a3), (4, .int a4)], [], ((ab_up X1045 13 0 (nI 4)), w)) rfl ?_
          refine ab_e_letX (fun X1052 _ => ?_)
          exact ab_e_rt rfl rfl
    · exact ab_e_rt rfl rfl
  · refine ab_e_go 2 (11, [(0, .ref 13), (1, .int a1), (2, .int a2), (3, .int a3), (4, .int a4)], [.int a2, .ref 13, .ref 13], (X, w)) rfl ?_
    refine ab_e_c1 (k2 := 97) (as := [.ref 13, .int a2]) (rest := [.ref 13]) rfl rfl (T_M_isShift S w X a2) (fun v1053 => ?_)
    refine ab_e_br (c := v1053 = nI 0) (34, [(0, .ref 13), (1, .int a1), (2, .int a2), (3, .int a3), (4, .int a4)], [.ref 13], (X, w)) (17, [(0, .ref 13), (1, .int a1), (2, .int a2), (3, .int a3), (4, .int a4)], [.ref 13], (X, w)) rfl (fun _ => ?_) (fun _ => ?_)
    · refine ab_e_go 3 (74, [(0, .ref 13), (1, .int a1), (2, .int a2), (3, .int a3), (4, .int a4)], [], ((ab_up X 13 0 (nI 1)), w)) rfl ?_
      refine ab_e_letX (fun X1054 _ => ?_)
      refine ab_e_go 2 (78, [(0, .ref 13), (1, .int a1), (2, .int a2), (3, .int a3), (4, .int a4)], [.int (X1054 13 0)], (X1054, w)) rfl ?_
      refine ab_e_br (c := X1054 13 0 = nI 0) (82, [(0, .ref 13), (1, .int a1), (2, .int a2), (3, .int a3), (4, .int a4)], [], (X1054, w)) (81, [(0, .ref 13), (1, .int a1), (2, .int a2), (3, .int a3), (4, .int a4)], [], (X1054, w)) rfl (fun _ => ?_) (fun _ => ?_)
      · refine ab_e_go 5 (88, [(0, .ref 13), (1, .int a1), (2, .int a2), (3, .int a3), (4, .int a4)], [.int (nI 1), .int a4, .int a2, .int a1, .ref 13], (X1054, w)) rfl ?_
        refine ab_e_c3 (k2 := 241) (as := [.ref 13, .int a1, .int a2, .int a4, .int (nI 1)]) (rest := []) rfl rfl (T_M_mayGet S w X1054 a1 a2 a4 (nI 1)) (fun v1055 X1056 => ?_)
        refine ab_e_br (c := v1055 = nI 0) (106, [(0, .ref 13), (1, .int a1), (2, .int a2), (3, .int a3), (4, .int a4)], [], (X1056, w)) (94, [(0, .ref 13), (1, .int a1), (2, .int a2), (3, .int a3), (4, .int a4)], [], (X1056, w)) rfl (fun _ => ?_) (fun _ => ?_)
        · refine ab_e_go 3 (111, [(0, .ref 13), (1, .int a1), (2, .int a2), (3, .int a3), (4, .int a4)], [], ((ab_up X1056 13 0 (nI 4)), w)) rfl ?_
          refine ab_e_letX (fun X1057 _ => ?_)
          exact ab_e_rt rfl rfl
        · refine ab_e_go 5 (100, [(0, .ref 13), (1, .int a1), (2, .int a2), (3, .int a3), (4, .int a4)], [.int (nI 1), .int a2, .int a4, .int a3, .ref 13], (X1056, w)) rfl ?_
          refine ab_e_c3 (k2 := 241) (as := [.ref 13, .int a3, .int a4, .int a2, .int (nI 1)]) (rest := []) rfl rfl (T_M_mayGet S w X1056 a3 a4 a2 (nI 1)) (fun v1058 X1059 => ?_)
          refine ab_e_bn (c := v1058 = nI 0) (112, [(0, .ref 13), (1, .int a1), (2, .int a2), (3, .int a3), (4, .int a4)], [], (X1059, w)) (106, [(0, .ref 13), (1, .int a1), (2, .int a2), (3, .int a3), (4, .int a4)], [], (X1059, w)) rfl (fun _ => ?_) (fun _ => ?_)
          · refine ab_e_go 4 (116, [(0, .ref 13), (1, .int a1), (2, .int a2), (3, .int a3), (4, .int a4)], [.int (-1 : Int32), .int (nI 0), .int (nI 0), .ref 13], (X1059, w)) rfl ?_
            refine ab_e_c3 (k2 := 42) (as := [.ref 13, .int (nI 0), .int (nI 0), .int (-1 : Int32)]) (rest := []) rfl rfl (T_M_reasons S w X1059 (nI 0) (nI 0) (-1 : Int32)) (fun _ X1060 => ?_)
            refine ab_e_go 1 (120, [(0, .ref 13), (1, .int a1), (2, .int a2), (3, .int a3), (4, .int a4)], [.ref 13], (X1060, w)) rfl ?_
            refine ab_e_c3 (k2 := 99) (as := [.ref 13]) (rest := []) rfl rfl (T_M_keeps S w X1060) (fun _ X1061 => ?_)
            refine ab_e_go 3 (126, [(0, .ref 13), (1, .int a1), (2, .int a2), (3, .int a3), (4, .int a4)], [.int a2, .int a1, .ref 13], (X1061, w)) rfl ?_
            refine ab_e_c1 (k2 := 87) (as := [.ref 13, .int a1, .int a2]) (rest := []) rfl rfl (T_M_awardOf S w X1061 a1 a2) (fun v1062 => ?_)
            refine ab_e_go 4 (135, [(5, .int v1062), (0, .ref 13), (1, .int a1), (2, .int a2), (3, .int a3), (4, .int a4)], [.int a4, .int a3, .ref 13], (X1061, w)) rfl ?_
            refine ab_e_c1 (k2 := 87) (as := [.ref 13, .int a3, .int a4]) (rest := []) rfl rfl (T_M_awardOf S w X1061 a3 a4) (fun v1063 => ?_)
            refine ab_e_go 9 (153, [(6, .int v1063), (5, .int v1062), (0, .ref 13), (1, .int a1), (2, .int a2), (3, .int a3), (4, .int a4)], [.int a3, .int ((nI 309) + ((nI 2) * v1062)), .ref 14], (X1061, w)) rfl ?_
            refine ab_e_gd (154, [(6, .int v1063), (5, .int v1062), (0, .ref 13), (1, .int a1), (2, .int a2), (3, .int a3), (4, .int a4)], [], ((ab_up X1061 14 (((nI 309) + ((nI 2) * v1062)).toNatClampNeg) a3), w)) rfl ?_
            refine ab_e_letX (fun X1064 _ => ?_)
            refine ab_e_go 8 (167, [(6, .int v1063), (5, .int v1062), (0, .ref 13), (1, .int a1), (2, .int a2), (3, .int a3), (4, .int a4)], [.int a1, .int ((nI 309) + ((nI 2) * v1063)), .ref 14], (X1064, w)) rfl ?_
            refine ab_e_gd (168, [(6, .int v1063), (5, .int v1062), (0, .ref 13), (1, .int a1), (2, .int a2), (3, .int a3), (4, .int a4)], [], ((ab_up X1064 14 (((nI 309) + ((nI 2) * v1063)).toNatClampNeg) a1), w)) rfl ?_
            refine ab_e_letX (fun X1065 _ => ?_)
            exact ab_e_rt rfl rfl
          · refine ab_e_go 3 (111, [(0, .ref 13), (1, .int a1), (2, .int a2), (3, .int a3), (4, .int a4)], [], ((ab_up X1059 13 0 (nI 4)), w)) rfl ?_
            refine ab_e_letX (fun X1066 _ => ?_)
            exact ab_e_rt rfl rfl
      · exact ab_e_rt rfl rfl
    · refine ab_e_go 2 (19, [(0, .ref 13), (1, .int a1), (2, .int a2), (3, .int a3), (4, .int a4)], [.int a3, .ref 13, .ref 13], (X, w)) rfl ?_
      refine ab_e_c1 (k2 := 98) (as := [.ref 13, .int a3]) (rest := [.ref 13]) rfl rfl (T_M_isWorker S w X a3) (fun v1067 => ?_)
      refine ab_e_br (c := v1067 = nI 0) (34, [(0, .ref 13), (1, .int a1), (2, .int a2), (3, .int a3), (4, .int a4)], [.ref 13], (X, w)) (25, [(0, .ref 13), (1, .int a1), (2, .int a2), (3, .int a3), (4, .int a4)], [.ref 13], (X, w)) rfl (fun _ => ?_) (fun _ => ?_)
      · refine ab_e_go 3 (74, [(0, .ref 13), (1, .int a1), (2, .int a2), (3, .int a3), (4, .int a4)], [], ((ab_up X 13 0 (nI 1)), w)) rfl ?_
        refine ab_e_letX (fun X1068 _ => ?_)
        refine ab_e_go 2 (78, [(0, .ref 13), (1, .int a1), (2, .int a2), (3, .int a3), (4, .int a4)], [.int (X1068 13 0)], (X1068, w)) rfl ?_
        refine ab_e_br (c := X1068 13 0 = nI 0) (82, [(0, .ref 13), (1, .int a1), (2, .int a2), (3, .int a3), (4, .int a4)], [], (X1068, w)) (81, [(0, .ref 13), (1, .int a1), (2, .int a2), (3, .int a3), (4, .int a4)], [], (X1068, w)) rfl (fun _ => ?_) (fun _ => ?_)
        · refine ab_e_go 5 (88, [(0, .ref 13), (1, .int a1), (2, .int a2), (3, .int a3), (4, .int a4)], [.int (nI 1), .int a4, .int a2, .int a1, .ref 13], (X1068, w)) rfl ?_
          refine ab_e_c3 (k2 := 241) (as := [.ref 13, .int a1, .int a2, .int a4, .int (nI 1)]) (rest := []) rfl rfl (T_M_mayGet S w X1068 a1 a2 a4 (nI 1)) (fun v1069 X1070 => ?_)
          refine ab_e_br (c := v1069 = nI 0) (106, [(0, .ref 13), (1, .int a1), (2, .int a2), (3, .int a3), (4, .int a4)], [], (X1070, w)) (94, [(0, .ref 13), (1, .int a1), (2, .int a2), (3, .int a3), (4, .int a4)], [], (X1070, w)) rfl (fun _ => ?_) (fun _ => ?_)
          · refine ab_e_go 3 (111, [(0, .ref 13), (1, .int a1), (2, .int a2), (3, .int a3), (4, .int a4)], [], ((ab_up X1070 13 0 (nI 4)), w)) rfl ?_
            refine ab_e_letX (fun X1071 _ => ?_)
            exact ab_e_rt rfl rfl
          · refine ab_e_go 5 (100, [(0, .ref 13), (1, .int a1), (2, .int a2), (3, .int a3), (4, .int a4)], [.int (nI 1), .int a2, .int a4, .int a3, .ref 13], (X1070, w)) rfl ?_
            refine ab_e_c3 (k2 := 241) (as := [.ref 13, .int a3, .int a4, .int a2, .int (nI 1)]) (rest := []) rfl rfl (T_M_mayGet S w X1070 a3 a4 a2 (nI 1)) (fun v1072 X1073 => ?_)
            refine ab_e_bn (c := v1072 = nI 0) (112, [(0, .ref 13), (1, .int a1), (2, .int a2), (3, .int a3), (4, .int a4)], [], (X1073, w)) (106, [(0, .ref 13), (1, .int a1), (2, .int a2), (3, .int a3), (4, .int a4)], [], (X1073, w)) rfl (fun _ => ?_) (fun _ => ?_)
            · refine ab_e_go 4 (116, [(0, .ref 13), (1, .int a1), (2, .int a2), (3, .int a3), (4, .int a4)], [.int (-1 : Int32), .int (nI 0), .int (nI 0), .ref 13], (X1073, w)) rfl ?_
              refine ab_e_c3 (k2 := 42) (as := [.ref 13, .int (nI 0), .int (nI 0), .int (-1 : Int32)]) (rest := []) rfl rfl (T_M_reasons S w X1073 (nI 0) (nI 0) (-1 : Int32)) (fun _ X1074 => ?_)
              refine ab_e_go 1 (120, [(0, .ref 13), (1, .int a1), (2, .int a2), (3, .int a3), (4, .int a4)], [.ref 13], (X1074, w)) rfl ?_
              refine ab_e_c3 (k2 := 99) (as := [.ref 13]) (rest := []) rfl rfl (T_M_keeps S w X1074) (fun _ X1075 => ?_)
              refine ab_e_go 3 (126, [(0, .ref 13), (1, .int a1), (2, .int a2), (3, .int a3), (4, .int a4)], [.int a2, .int a1, .ref 13], (X1075, w)) rfl ?_
              refine ab_e_c1 (k2 := 87) (as := [.ref 13, .int a1, .int a2]) (rest := []) rfl rfl (T_M_awardOf S w X1075 a1 a2) (fun v1076 => ?_)
              refine ab_e_go 4 (135, [(5, .int v1076), (0, .ref 13), (1, .int a1), (2, .int a2), (3, .int a3), (4, .int a4)], [.int a4, .int a3, .ref 13], (X1075, w)) rfl ?_
              refine ab_e_c1 (k2 := 87) (as := [.ref 13, .int a3, .int a4]) (rest := []) rfl rfl (T_M_awardOf S w X1075 a3 a4) (fun v1077 => ?_)
              refine ab_e_go 9 (153, [(6, .int v1077), (5, .int v1076), (0, .ref 13), (1, .int a1), (2, .int a2), (3, .int a3), (4, .int a4)], [.int a3, .int ((nI 309) + ((nI 2) * v1076)), .ref 14], (X1075, w)) rfl ?_
              refine ab_e_gd (154, [(6, .int v1077), (5, .int v1076), (0, .ref 13), (1, .int a1), (2, .int a2), (3, .int a3), (4, .int a4)], [], ((ab_up X1075 14 (((nI 309) + ((nI 2) * v1076)).toNatClampNeg) a3), w)) rfl ?_
              refine ab_e_letX (fun X1078 _ => ?_)
              refine ab_e_go 8 (167, [(6, .int v1077), (5, .int v1076), (0, .ref 13), (1, .int a1), (2, .int a2), (3, .int a3), (4, .int a4)], [.int a1, .int ((nI 309) + ((nI 2) * v1077)), .ref 14], (X1078, w)) rfl ?_
              refine ab_e_gd (168, [(6, .int v1077), (5, .int v1076), (0, .ref 13), (1, .int a1), (2, .int a2), (3, .int a3), (4, .int a4)], [], ((ab_up X1078 14 (((nI 309) + ((nI 2) * v1077)).toNatClampNeg) a1), w)) rfl ?_
              refine ab_e_letX (fun X1079 _ => ?_)
              exact ab_e_rt rfl rfl
            · refine ab_e_go 3 (111, [(0, .ref 13), (1, .int a1), (2, .int a2), (3, .int a3), (4, .int a4)], [], ((ab_up X1073 13 0 (nI 4)), w)) rfl ?_
              refine ab_e_letX (fun X1080 _ => ?_)
              exact ab_e_rt rfl rfl
        · exact ab_e_rt rfl rfl
      · refine ab_e_go 2 (28, [(0, .ref 13), (1, .int a1), (2, .int a2), (3, .int a3), (4, .int a4)], [.int a4, .ref 13, .ref 13], (X, w)) rfl ?_
        refine ab_e_c1 (k2 := 97) (as := [.ref 13, .int a4]) (rest := [.ref 13]) rfl rfl (T_M_isShift S w X a4) (fun v1081 => ?_)
        refine ab_e_bn (c := v1081 = nI 0) (38, [(0, .ref 13), (1, .int a1), (2, .int a2), (3, .int a3), (4, .int a4)], [.ref 13], (X, w)) (34, [(0, .ref 13), (1, .int a1), (2, .int a2), (3, .int a3), (4, .int a4)], [.ref 13], (X, w)) rfl (fun _ => ?_) (fun _ => ?_)
        · refine ab_e_go 2 (40, [(0, .ref 13), (1, .int a1), (2, .int a2), (3, .int a3), (4, .int a4)], [.int a3, .int a1, .ref 13], (X, w)) rfl ?_
          refine ab_e_bn (c := a1 = a3) (47, [(0, .ref 13), (1, .int a1), (2, .int a2), (3, .int a3), (4, .int a4)], [.ref 13], (X, w)) (43, [(0, .ref 13), (1, .int a1), (2, .int a2), (3, .int a3), (4, .int a4)], [.ref 13], (X, w)) rfl (fun _ => ?_) (fun _ => ?_)
          · refine ab_e_go 3 (50, [(0, .ref 13), (1, .int a1), (2, .int a2), (3, .int a3), (4, .int a4)], [.int a2, .int a1, .ref 13, .ref 13], (X, w)) rfl ?_
            refine ab_e_c1 (k2 := 87) (as := [.ref 13, .int a1, .int a2]) (rest := [.ref 13]) rfl rfl (T_M_awardOf S w X a1 a2) (fun v1082 => ?_)
            refine ab_e_br (c := v1082 < nI 0) (66, [(0, .ref 13), (1, .int a1), (2, .int a2), (3, .int a3), (4, .int a4)], [.ref 13], (X, w)) (56, [(0, .ref 13), (1, .int a1), (2, .int a2), (3, .int a3), (4, .int a4)], [.ref 13], (X, w)) rfl (fun _ => ?_) (fun _ => ?_)
            · refine ab_e_go 3 (74, [(0, .ref 13), (1, .int a1), (2, .int a2), (3, .int a3), (4, .int a4)], [], ((ab_up X 13 0 (nI 3)), w)) rfl ?_
              refine ab_e_letX (fun X1083 _ => ?_)
              refine ab_e_go 2 (78, [(0, .ref 13), (1, .int a1), (2, .int a2), (3, .int a3), (4, .int a4)], [.int (X1083 13 0)], (X1083, w)) rfl ?_
              refine ab_e_br (c := X1083 13 0 = nI 0) (82, [(0, .ref 13), (1, .int a1), (2, .int a2), (3, .int a3), (4, .int a4)], [], (X1083, w)) (81, [(0, .ref 13), (1, .int a1), (2, .int a2), (3, .int a3), (4, .int a4)], [], (X1083, w)) rfl (fun _ => ?_) (fun _ => ?_)
              · refine ab_e_go 5 (88, [(0, .ref 13), (1, .int a1), (2, .int a2), (3, .int a3), (4, .int a4)], [.int (nI 1), .int a4, .int a2, .int a1, .ref 13], (X1083, w)) rfl ?_
                refine ab_e_c3 (k2 := 241) (as := [.ref 13, .int a1, .int a2, .int a4, .int (nI 1)]) (rest := []) rfl rfl (T_M_mayGet S w X1083 a1 a2 a4 (nI 1)) (fun v1084 X1085 => ?_)
                refine ab_e_br (c := v1084 = nI 0) (106, [(0, .ref 13), (1, .int a1), (2, .int a2), (3, .int a3), (4, .int a4)], [], (X1085, w)) (94, [(0, .ref 13), (1, .int a1), (2, .int a2), (3, .int a3), (4, .int a4)], [], (X1085, w)) rfl (fun _ => ?_) (fun _ => ?_)
                · refine ab_e_go 3 (111, [(0, .ref 13), (1, .int a1), (2, .int a2), (3, .int a3), (4, .int a4)], [], ((ab_up X1085 13 0 (nI 4)), w)) rfl ?_
                  refine ab_e_letX (fun X1086 _ => ?_)
                  exact ab_e_rt rfl rfl
                · refine ab_e_go 5 (100, [(0, .ref 13), (1, .int a1), (2, .int a2), (3, .int a3), (4, .int a4)], [.int (nI 1), .int a2, .int a4, .int a3, .ref 13], (X1085, w)) rfl ?_
                  refine ab_e_c3 (k2 := 241) (as := [.ref 13, .int a3, .int a4, .int a2, .int (nI 1)]) (rest := []) rfl rfl (T_M_mayGet S w X1085 a3 a4 a2 (nI 1)) (fun v1087 X1088 => ?_)
                  refine ab_e_bn (c := v1087 = nI 0) (112, [(0, .ref 13), (1, .int a1), (2, .int a2), (3, .int a3), (4, .int a4)], [], (X1088, w)) (106, [(0, .ref 13), (1, .int a1), (2, .int a2), (3, .int a3), (4, .int a4)], [], (X1088, w)) rfl (fun _ => ?_) (fun _ => ?_)
                  · refine ab_e_go 4 (116, [(0, .ref 13), (1, .int a1), (2, .int a2), (3, .int a3), (4, .int a4)], [.int (-1 : Int32), .int (nI 0), .int (nI 0), .ref 13], (X1088, w)) rfl ?_
                    refine ab_e_c3 (k2 := 42) (as := [.ref 13, .int (nI 0), .int (nI 0), .int (-1 : Int32)]) (rest := []) rfl rfl (T_M_reasons S w X1088 (nI 0) (nI 0) (-1 : Int32)) (fun _ X1089 => ?_)
                    refine ab_e_go 1 (120, [(0, .ref 13), (1, .int a1), (2, .int a2), (3, .int a3), (4, .int a4)], [.ref 13], (X1089, w)) rfl ?_
                    refine ab_e_c3 (k2 := 99) (as := [.ref 13]) (rest := []) rfl rfl (T_M_keeps S w X1089) (fun _ X1090 => ?_)
                    refine ab_e_go 3 (126, [(0, .ref 13), (1, .int a1), (2, .int a2), (3, .int a3), (4, .int a4)], [.int a2, .int a1, .ref 13], (X1090, w)) rfl ?_
                    refine ab_e_c1 (k2 := 87) (as := [.ref 13, .int a1, .int a2]) (rest := []) rfl rfl (T_M_awardOf S w X1090 a1 a2) (fun v1091 => ?_)
                    refine ab_e_go 4 (135, [(5, .int v1091), (0, .ref 13), (1, .int a1), (2, .int a2), (3, .int a3), (4, .int a4)], [.int a4, .int a3, .ref 13], (X1090, w)) rfl ?_
                    refine ab_e_c1 (k2 := 87) (as := [.ref 13, .int a3, .int a4]) (rest := []) rfl rfl (T_M_awardOf S w X1090 a3 a4) (fun v1092 => ?_)
                    refine ab_e_go 9 (153, [(6, .int v1092), (5, .int v1091), (0, .ref 13), (1, .int a1), (2, .int a2), (3, .int a3), (4, .int a4)], [.int a3, .int ((nI 309) + ((nI 2) * v1091)), .ref 14], (X1090, w)) rfl ?_
                    refine ab_e_gd (154, [(6, .int v1092), (5, .int v1091), (0, .ref 13), (1, .int a1), (2, .int a2), (3, .int a3), (4, .int a4)], [], ((ab_up X1090 14 (((nI 309) + ((nI 2) * v1091)).toNatClampNeg) a3), w)) rfl ?_
                    refine ab_e_letX (fun X1093 _ => ?_)
                    refine ab_e_go 8 (167, [(6, .int v1092), (5, .int v1091), (0, .ref 13), (1, .int a1), (2, .int a2), (3, .int a3), (4, .int a4)], [.int a1, .int ((nI 309) + ((nI 2) * v1092)), .ref 14], (X1093, w)) rfl ?_
                    refine ab_e_gd (168, [(6, .int v1092), (5, .int v1091), (0, .ref 13), (1, .int a1), (2, .int a2), (3, .int a3), (4, .int a4)], [], ((ab_up X1093 14 (((nI 309) + ((nI 2) * v1092)).toNatClampNeg) a1), w)) rfl ?_
                    refine ab_e_letX (fun X1094 _ => ?_)
                    exact ab_e_rt rfl rfl
                  · refine ab_e_go 3 (111, [(0, .ref 13), (1, .int a1), (2, .int a2), (3, .int a3), (4, .int a4)], [], ((ab_up X1088 13 0 (nI 4)), w)) rfl ?_
                    refine ab_e_letX (fun X1095 _ => ?_)
                    exact ab_e_rt rfl rfl
              · exact ab_e_rt rfl rfl
            · refine ab_e_go 3 (60, [(0, .ref 13), (1, .int a1), (2, .int a2), (3, .int a3), (4, .int a4)], [.int a4, .int a3, .ref 13, .ref 13], (X, w)) rfl ?_
              refine ab_e_c1 (k2 := 87) (as := [.ref 13, .int a3, .int a4]) (rest := [.ref 13]) rfl rfl (T_M_awardOf S w X a3 a4) (fun v1096 => ?_)
              refine ab_e_br (c := nI 0 ≤ v1096) (70, [(0, .ref 13), (1, .int a1), (2, .int a2), (3, .int a3), (4, .int a4)], [.ref 13], (X, w)) (66, [(0, .ref 13), (1, .int a1), (2, .int a2), (3, .int a3), (4, .int a4)], [.ref 13], (X, w)) rfl (fun _ => ?_) (fun _ => ?_)
              · refine ab_e_go 2 (74, [(0, .ref 13), (1, .int a1), (2, .int a2), (3, .int a3), (4, .int a4)], [], ((ab_up X 13 0 (nI 0)), w)) rfl ?_
                refine ab_e_letX (fun X1097 _ => ?_)
                refine ab_e_go 2 (78, [(0, .ref 13), (1, .int a1), (2, .int a2), (3, .int a3), (4, .int a4)], [.int (X1097 13 0)], (X1097, w)) rfl ?_
                refine ab_e_br (c := X1097 13 0 = nI 0) (82, [(0, .ref 13), (1, .int a1), (2, .int a2), (3, .int a3), (4, .int a4)], [], (X1097, w)) (81, [(0, .ref 13), (1, .int a1), (2, .int a2), (3, .int a3), (4, .int a4)], [], (X1097, w)) rfl (fun _ => ?_) (fun _ => ?_)
                · refine ab_e_go 5 (88, [(0, .ref 13), (1, .int a1), (2, .int a2), (3, .int a3), (4, .int a4)], [.int (nI 1), .int a4, .int a2, .int a1, .ref 13], (X1097, w)) rfl ?_
                  refine ab_e_c3 (k2 := 241) (as := [.ref 13, .int a1, .int a2, .int a4, .int (nI 1)]) (rest := []) rfl rfl (T_M_mayGet S w X1097 a1 a2 a4 (nI 1)) (fun v1098 X1099 => ?_)
                  refine ab_e_br (c := v1098 = nI 0) (106, [(0, .ref 13), (1, .int a1), (2, .int a2), (3, .int a3), (4, .int a4)], [], (X1099, w)) (94, [(0, .ref 13), (1, .int a1), (2, .int a2), (3, .int a3), (4, .int a4)], [], (X1099, w)) rfl (fun _ => ?_) (fun _ => ?_)
                  · refine ab_e_go 3 (111, [(0, .ref 13), (1, .int a1), (2, .int a2), (3, .int a3), (4, .int a4)], [], ((ab_up X1099 13 0 (nI 4)), w)) rfl ?_
                    refine ab_e_letX (fun X1100 _ => ?_)
                    exact ab_e_rt rfl rfl
                  · refine ab_e_go 5 (100, [(0, .ref 13), (1, .int a1), (2, .int a2), (3, .int a3), (4, .int a4)], [.int (nI 1), .int a2, .int a4, .int a3, .ref 13], (X1099, w)) rfl ?_
                    refine ab_e_c3 (k2 := 241) (as := [.ref 13, .int a3, .int a4, .int a2, .int (nI 1)]) (rest := []) rfl rfl (T_M_mayGet S w X1099 a3 a4 a2 (nI 1)) (fun v1101 X1102 => ?_)
                    refine ab_e_bn (c := v1101 = nI 0) (112, [(0, .ref 13), (1, .int a1), (2, .int a2), (3, .int a3), (4, .int a4)], [], (X1102, w)) (106, [(0, .ref 13), (1, .int a1), (2, .int a2), (3, .int a3), (4, .int a4)], [], (X1102, w)) rfl (fun _ => ?_) (fun _ => ?_)
                    · refine ab_e_go 4 (116, [(0, .ref 13), (1, .int a1), (2, .int a2), (3, .int a3), (4, .int a4)], [.int (-1 : Int32), .int (nI 0), .int (nI 0), .ref 13], (X1102, w)) rfl ?_
                      refine ab_e_c3 (k2 := 42) (as := [.ref 13, .int (nI 0), .int (nI 0), .int (-1 : Int32)]) (rest := []) rfl rfl (T_M_reasons S w X1102 (nI 0) (nI 0) (-1 : Int32)) (fun _ X1103 => ?_)
                      refine ab_e_go 1 (120, [(0, .ref 13), (1, .int a1), (2, .int a2), (3, .int a3), (4, .int a4)], [.ref 13], (X1103, w)) rfl ?_
                      refine ab_e_c3 (k2 := 99) (as := [.ref 13]) (rest := []) rfl rfl (T_M_keeps S w X1103) (fun _ X1104 => ?_)
                      refine ab_e_go 3 (126, [(0, .ref 13), (1, .int a1), (2, .int a2), (3, .int a3), (4, .int a4)], [.int a2, .int a1, .ref 13], (X1104, w)) rfl ?_
                      refine ab_e_c1 (k2 := 87) (as := [.ref 13, .int a1, .int a2]) (rest := []) rfl rfl (T_M_awardOf S w X1104 a1 a2) (fun v1105 => ?_)
                      refine ab_e_go 4 (135, [(5, .int v1105), (0, .ref 13), (1, .int a1), (2, .int a2), (3, .int a3), (4, .int a4)], [.int a4, .int a3, .ref 13], (X1104, w)) rfl ?_
                      refine ab_e_c1 (k2 := 87) (as := [.ref 13, .int a3, .int a4]) (rest := []) rfl rfl (T_M_awardOf S w X1104 a3 a4) (fun v1106 => ?_)
                      refine ab_e_go 9 (153, [(6, .int v1106), (5, .int v1105), (0, .ref 13), (1, .int a1), (2, .int a2), (3, .int a3), (4, .int a4)], [.int a3, .int ((nI 309) + ((nI 2) * v1105)), .ref 14], (X1104, w)) rfl ?_
                      refine ab_e_gd (154, [(6, .int v1106), (5, .int v1105), (0, .ref 13), (1, .int a1), (2, .int a2), (3, .int a3), (4, .int a4)], [], ((ab_up X1104 14 (((nI 309) + ((nI 2) * v1105)).toNatClampNeg) a3), w)) rfl ?_
                      refine ab_e_letX (fun X1107 _ => ?_)
                      refine ab_e_go 8 (167, [(6, .int v1106), (5, .int v1105), (0, .ref 13), (1, .int a1), (2, .int a2), (3, .int a3), (4, .int a4)], [.int a1, .int ((nI 309) + ((nI 2) * v1106)), .ref 14], (X1107, w)) rfl ?_
                      refine ab_e_gd (168, [(6, .int v1106), (5, .int v1105), (0, .ref 13), (1, .int a1), (2, .int a2), (3, .int a3), (4, .int a4)], [], ((ab_up X1107 14 (((nI 309) + ((nI 2) * v1106)).toNatClampNeg) a1), w)) rfl ?_
                      refine ab_e_letX (fun X1108 _ => ?_)
                      exact ab_e_rt rfl rfl
                    · refine ab_e_go 3 (111, [(0, .ref 13), (1, .int a1), (2, .int a2), (3, .int a3), (4, .int a4)], [], ((ab_up X1102 13 0 (nI 4)), w)) rfl ?_
                      refine ab_e_letX (fun X1109 _ => ?_)
                      exact ab_e_rt rfl rfl
                · exact ab_e_rt rfl rfl
              · refine ab_e_go 3 (74, [(0, .ref 13), (1, .int a1), (2, .int a2), (3, .int a3), (4, .int a4)], [], ((ab_up X 13 0 (nI 3)), w)) rfl ?_
                refine ab_e_letX (fun X1110 _ => ?_)
                refine ab_e_go 2 (78, [(0, .ref 13), (1, .int a1), (2, .int a2), (3, .int a3), (4, .int a4)], [.int (X1110 13 0)], (X1110, w)) rfl ?_
                refine ab_e_br (c := X1110 13 0 = nI 0) (82, [(0, .ref 13), (1, .int a1), (2, .int a2), (3, .int a3), (4, .int a4)], [], (X1110, w)) (81, [(0, .ref 13), (1, .int a1), (2, .int a2), (3, .int a3), (4, .int a4)], [], (X1110, w)) rfl (fun _ => ?_) (fun _ => ?_)
                · refine ab_e_go 5 (88, [(0, .ref 13), (1, .int a1), (2, .int a2), (3, .int a3), (4, .int a4)], [.int (nI 1), .int a4, .int a2, .int a1, .ref 13], (X1110, w)) rfl ?_
                  refine ab_e_c3 (k2 := 241) (as := [.ref 13, .int a1, .int a2, .int a4, .int (nI 1)]) (rest := []) rfl rfl (T_M_mayGet S w X1110 a1 a2 a4 (nI 1)) (fun v1111 X1112 => ?_)
                  refine ab_e_br (c := v1111 = nI 0) (106, [(0, .ref 13), (1, .int a1), (2, .int a2), (3, .int a3), (4, .int a4)], [], (X1112, w)) (94, [(0, .ref 13), (1, .int a1), (2, .int a2), (3, .int a3), (4, .int a4)], [], (X1112, w)) rfl (fun _ => ?_) (fun _ => ?_)
                  · refine ab_e_go 3 (111, [(0, .ref 13), (1, .int a1), (2, .int a2), (3, .int a3), (4, .int a4)], [], ((ab_up X1112 13 0 (nI 4)), w)) rfl ?_
                    refine ab_e_letX (fun X1113 _ => ?_)
                    exact ab_e_rt rfl rfl
                  · refine ab_e_go 5 (100, [(0, .ref 13), (1, .int a1), (2, .int a2), (3, .int a3), (4, .int a4)], [.int (nI 1), .int a2, .int a4, .int a3, .ref 13], (X1112, w)) rfl ?_
                    refine ab_e_c3 (k2 := 241) (as := [.ref 13, .int a3, .int a4, .int a2, .int (nI 1)]) (rest := []) rfl rfl (T_M_mayGet S w X1112 a3 a4 a2 (nI 1)) (fun v1114 X1115 => ?_)
                    refine ab_e_bn (c := v1114 = nI 0) (112, [(0, .ref 13), (1, .int a1), (2, .int a2), (3, .int a3), (4, .int a4)], [], (X1115, w)) (106, [(0, .ref 13), (1, .int a1), (2, .int a2), (3, .int a3), (4, .int a4)], [], (X1115, w)) rfl (fun _ => ?_) (fun _ => ?_)
                    · refine ab_e_go 4 (116, [(0, .ref 13), (1, .int a1), (2, .int a2), (3, .int a3), (4, .int a4)], [.int (-1 : Int32), .int (nI 0), .int (nI 0), .ref 13], (X1115, w)) rfl ?_
                      refine ab_e_c3 (k2 := 42) (as := [.ref 13, .int (nI 0), .int (nI 0), .int (-1 : Int32)]) (rest := []) rfl rfl (T_M_reasons S w X1115 (nI 0) (nI 0) (-1 : Int32)) (fun _ X1116 => ?_)
                      refine ab_e_go 1 (120, [(0, .ref 13), (1, .int a1), (2, .int a2), (3, .int a3), (4, .int a4)], [.ref 13], (X1116, w)) rfl ?_
                      refine ab_e_c3 (k2 := 99) (as := [.ref 13]) (rest := []) rfl rfl (T_M_keeps S w X1116) (fun _ X1117 => ?_)
                      refine ab_e_go 3 (126, [(0, .ref 13), (1, .int a1), (2, .int a2), (3, .int a3), (4, .int a4)], [.int a2, .int a1, .ref 13], (X1117, w)) rfl ?_
                      refine ab_e_c1 (k2 := 87) (as := [.ref 13, .int a1, .int a2]) (rest := []) rfl rfl (T_M_awardOf S w X1117 a1 a2) (fun v1118 => ?_)
                      refine ab_e_go 4 (135, [(5, .int v1118), (0, .ref 13), (1, .int a1), (2, .int a2), (3, .int a3), (4, .int a4)], [.int a4, .int a3, .ref 13], (X1117, w)) rfl ?_
                      refine ab_e_c1 (k2 := 87) (as := [.ref 13, .int a3, .int a4]) (rest := []) rfl rfl (T_M_awardOf S w X1117 a3 a4) (fun v1119 => ?_)
                      refine ab_e_go 9 (153, [(6, .int v1119), (5, .int v1118), (0, .ref 13), (1, .int a1), (2, .int a2), (3, .int a3), (4, .int a4)], [.int a3, .int ((nI 309) + ((nI 2) * v1118)), .ref 14], (X1117, w)) rfl ?_
                      refine ab_e_gd (154, [(6, .int v1119), (5, .int v1118), (0, .ref 13), (1, .int a1), (2, .int a2), (3, .int a3), (4, .int a4)], [], ((ab_up X1117 14 (((nI 309) + ((nI 2) * v1118)).toNatClampNeg) a3), w)) rfl ?_
                      refine ab_e_letX (fun X1120 _ => ?_)
                      refine ab_e_go 8 (167, [(6, .int v1119), (5, .int v1118), (0, .ref 13), (1, .int a1), (2, .int a2), (3, .int a3), (4, .int a4)], [.int a1, .int ((nI 309) + ((nI 2) * v1119)), .ref 14], (X1120, w)) rfl ?_
                      refine ab_e_gd (168, [(6, .int v1119), (5, .int v1118), (0, .ref 13), (1, .int a1), (2, .int a2), (3, .int a3), (4, .int a4)], [], ((ab_up X1120 14 (((nI 309) + ((nI 2) * v1119)).toNatClampNeg) a1), w)) rfl ?_
                      refine ab_e_letX (fun X1121 _ => ?_)
                      exact ab_e_rt rfl rfl
                    · refine ab_e_go 3 (111, [(0, .ref 13), (1, .int a1), (2, .int a2), (3, .int a3), (4, .int a4)], [], ((ab_up X1115 13 0 (nI 4)), w)) rfl ?_
                      refine ab_e_letX (fun X1122 _ => ?_)
                      exact ab_e_rt rfl rfl
                · exact ab_e_rt rfl rfl
          · refine ab_e_go 3 (74, [(0, .ref 13), (1, .int a1), (2, .int a2), (3, .int a3), (4, .int a4)], [], ((ab_up X 13 0 (nI 2)), w)) rfl ?_
            refine ab_e_letX (fun X1123 _ => ?_)
            refine ab_e_go 2 (78, [(0, .ref 13), (1, .int a1), (2, .int a2), (3, .int a3), (4, .int a4)], [.int (X1123 13 0)], (X1123, w)) rfl ?_
            refine ab_e_br (c := X1123 13 0 = nI 0) (82, [(0, .ref 13), (1, .int a1), (2, .int a2), (3, .int a3), (4, .int a4)], [], (X1123, w)) (81, [(0, .ref 13), (1, .int a1), (2, .int a2), (3, .int a3), (4, .int a4)], [], (X1123, w)) rfl (fun _ => ?_) (fun _ => ?_)
            · refine ab_e_go 5 (88, [(0, .ref 13), (1, .int a1), (2, .int a2), (3, .int a3), (4, .int a4)], [.int (nI 1), .int a4, .int a2, .int a1, .ref 13], (X1123, w)) rfl ?_
              refine ab_e_c3 (k2 := 241) (as := [.ref 13, .int a1, .int a2, .int a4, .int (nI 1)]) (rest := []) rfl rfl (T_M_mayGet S w X1123 a1 a2 a4 (nI 1)) (fun v1124 X1125 => ?_)
              refine ab_e_br (c := v1124 = nI 0) (106, [(0, .ref 13), (1, .int a1), (2, .int a2), (3, .int a3), (4, .int a4)], [], (X1125, w)) (94, [(0, .ref 13), (1, .int a1), (2, .int a2), (3, .int a3), (4, .int a4)], [], (X1125, w)) rfl (fun _ => ?_) (fun _ => ?_)
              · refine ab_e_go 3 (111, [(0, .ref 13), (1, .int a1), (2, .int a2), (3, .int a3), (4, .int a4)], [], ((ab_up X1125 13 0 (nI 4)), w)) rfl ?_
                refine ab_e_letX (fun X1126 _ => ?_)
                exact ab_e_rt rfl rfl
              · refine ab_e_go 5 (100, [(0, .ref 13), (1, .int a1), (2, .int a2), (3, .int a3), (4, .int a4)], [.int (nI 1), .int a2, .int a4, .int a3, .ref 13], (X1125, w)) rfl ?_
                refine ab_e_c3 (k2 := 241) (as := [.ref 13, .int a3, .int a4, .int a2, .int (nI 1)]) (rest := []) rfl rfl (T_M_mayGet S w X1125 a3 a4 a2 (nI 1)) (fun v1127 X1128 => ?_)
                refine ab_e_bn (c := v1127 = nI 0) (112, [(0, .ref 13), (1, .int a1), (2, .int a2), (3, .int a3), (4, .int a4)], [], (X1128, w)) (106, [(0, .ref 13), (1, .int a1), (2, .int a2), (3, .int a3), (4, .int a4)], [], (X1128, w)) rfl (fun _ => ?_) (fun _ => ?_)
                · refine ab_e_go 4 (116, [(0, .ref 13), (1, .int a1), (2, .int a2), (3, .int a3), (4, .int a4)], [.int (-1 : Int32), .int (nI 0), .int (nI 0), .ref 13], (X1128, w)) rfl ?_
                  refine ab_e_c3 (k2 := 42) (as := [.ref 13, .int (nI 0), .int (nI 0), .int (-1 : Int32)]) (rest := []) rfl rfl (T_M_reasons S w X1128 (nI 0) (nI 0) (-1 : Int32)) (fun _ X1129 => ?_)
                  refine ab_e_go 1 (120, [(0, .ref 13), (1, .int a1), (2, .int a2), (3, .int a3), (4, .int a4)], [.ref 13], (X1129, w)) rfl ?_
                  refine ab_e_c3 (k2 := 99) (as := [.ref 13]) (rest := []) rfl rfl (T_M_keeps S w X1129) (fun _ X1130 => ?_)
                  refine ab_e_go 3 (126, [(0, .ref 13), (1, .int a1), (2, .int a2), (3, .int a3), (4, .int a4)], [.int a2, .int a1, .ref 13], (X1130, w)) rfl ?_
                  refine ab_e_c1 (k2 := 87) (as := [.ref 13, .int a1, .int a2]) (rest := []) rfl rfl (T_M_awardOf S w X1130 a1 a2) (fun v1131 => ?_)
                  refine ab_e_go 4 (135, [(5, .int v1131), (0, .ref 13), (1, .int a1), (2, .int a2), (3, .int a3), (4, .int a4)], [.int a4, .int a3, .ref 13], (X1130, w)) rfl ?_
                  refine ab_e_c1 (k2 := 87) (as := [.ref 13, .int a3, .int a4]) (rest := []) rfl rfl (T_M_awardOf S w X1130 a3 a4) (fun v1132 => ?_)
                  refine ab_e_go 9 (153, [(6, .int v1132), (5, .int v1131), (0, .ref 13), (1, .int a1), (2, .int a2), (3, .int a3), (4, .int a4)], [.int a3, .int ((nI 309) + ((nI 2) * v1131)), .ref 14], (X1130, w)) rfl ?_
                  refine ab_e_gd (154, [(6, .int v1132), (5, .int v1131), (0, .ref 13), (1, .int a1), (2, .int a2), (3, .int a3), (4, .int a4)], [], ((ab_up X1130 14 (((nI 309) + ((nI 2) * v1131)).toNatClampNeg) a3), w)) rfl ?_
                  refine ab_e_letX (fun X1133 _ => ?_)
                  refine ab_e_go 8 (167, [(6, .int v1132), (5, .int v1131), (0, .ref 13), (1, .int a1), (2, .int a2), (3, .int a3), (4, .int a4)], [.int a1, .int ((nI 309) + ((nI 2) * v1132)), .ref 14], (X1133, w)) rfl ?_
                  refine ab_e_gd (168, [(6, .int v1132), (5, .int v1131), (0, .ref 13), (1, .int a1), (2, .int a2), (3, .int a3), (4, .int a4)], [], ((ab_up X1133 14 (((nI 309) + ((nI 2) * v1132)).toNatClampNeg) a1), w)) rfl ?_
                  refine ab_e_letX (fun X1134 _ => ?_)
                  exact ab_e_rt rfl rfl
                · refine ab_e_go 3 (111, [(0, .ref 13), (1, .int a1), (2, .int a2), (3, .int a3), (4, .int a4)], [], ((ab_up X1128 13 0 (nI 4)), w)) rfl ?_
                  refine ab_e_letX (fun X1135 _ => ?_)
                  exact ab_e_rt rfl rfl
            · exact ab_e_rt rfl rfl
        · refine ab_e_go 3 (74, [(0, .ref 13), (1, .int a1), (2, .int a2), (3, .int a3), (4, .int a4)], [], ((ab_up X 13 0 (nI 1)), w)) rfl ?_
          refine ab_e_letX (fun X1136 _ => ?_)
          refine ab_e_go 2 (78, [(0, .ref 13), (1, .int a1), (2, .int a2), (3, .int a3), (4, .int a4)], [.int (X1136 13 0)], (X1136, w)) rfl ?_
          refine ab_e_br (c := X1136 13 0 = nI 0) (82, [(0, .ref 13), (1, .int a1), (2, .int a2), (3, .int a3), (4, .int a4)], [], (X1136, w)) (81, [(0, .ref 13), (1, .int a1), (2, .int a2), (3, .int a3), (4, .int a4)], [], (X1136, w)) rfl (fun _ => ?_) (fun _ => ?_)
          · refine ab_e_go 5 (88, [(0, .ref 13), (1, .int a1), (2, .int a2), (3, .int a3), (4, .int a4)], [.int (nI 1), .int a4, .int a2, .int a1, .ref 13], (X1136, w)) rfl ?_
            refine ab_e_c3 (k2 := 241) (as := [.ref 13, .int a1, .int a2, .int a4, .int (nI 1)]) (rest := []) rfl rfl (T_M_mayGet S w X1136 a1 a2 a4 (nI 1)) (fun v1137 X1138 => ?_)
            refine ab_e_br (c := v1137 = nI 0) (106, [(0, .ref 13), (1, .int a1), (2, .int a2), (3, .int a3), (4, .int a4)], [], (X1138, w)) (94, [(0, .ref 13), (1, .int a1), (2, .int a2), (3, .int a3), (4, .int a4)], [], (X1138, w)) rfl (fun _ => ?_) (fun _ => ?_)
            · refine ab_e_go 3 (111, [(0, .ref 13), (1, .int a1), (2, .int a2), (3, .int a3), (4, .int a4)], [], ((ab_up X1138 13 0 (nI 4)), w)) rfl ?_
              refine ab_e_letX (fun X1139 _ => ?_)
              exact ab_e_rt rfl rfl
            · refine ab_e_go 5 (100, [(0, .ref 13), (1, .int a1), (2, .int a2), (3, .int a3), (4, .int a4)], [.int (nI 1), .int a2, .int a4, .int a3, .ref 13], (X1138, w)) rfl ?_
              refine ab_e_c3 (k2 := 241) (as := [.ref 13, .int a3, .int a4, .int a2, .int (nI 1)]) (rest := []) rfl rfl (T_M_mayGet S w X1138 a3 a4 a2 (nI 1)) (fun v1140 X1141 => ?_)
              refine ab_e_bn (c := v1140 = nI 0) (112, [(0, .ref 13), (1, .int a1), (2, .int a2), (3, .int a3), (4, .int a4)], [], (X1141, w)) (106, [(0, .ref 13), (1, .int a1), (2, .int a2), (3, .int a3), (4, .int a4)], [], (X1141, w)) rfl (fun _ => ?_) (fun _ => ?_)
              · refine ab_e_go 4 (116, [(0, .ref 13), (1, .int a1), (2, .int a2), (3, .int a3), (4, .int a4)], [.int (-1 : Int32), .int (nI 0), .int (nI 0), .ref 13], (X1141, w)) rfl ?_
                refine ab_e_c3 (k2 := 42) (as := [.ref 13, .int (nI 0), .int (nI 0), .int (-1 : Int32)]) (rest := []) rfl rfl (T_M_reasons S w X1141 (nI 0) (nI 0) (-1 : Int32)) (fun _ X1142 => ?_)
                refine ab_e_go 1 (120, [(0, .ref 13), (1, .int a1), (2, .int a2), (3, .int a3), (4, .int a4)], [.ref 13], (X1142, w)) rfl ?_
                refine ab_e_c3 (k2 := 99) (as := [.ref 13]) (rest := []) rfl rfl (T_M_keeps S w X1142) (fun _ X1143 => ?_)
                refine ab_e_go 3 (126, [(0, .ref 13), (1, .int a1), (2, .int a2), (3, .int a3), (4, .int a4)], [.int a2, .int a1, .ref 13], (X1143, w)) rfl ?_
                refine ab_e_c1 (k2 := 87) (as := [.ref 13, .int a1, .int a2]) (rest := []) rfl rfl (T_M_awardOf S w X1143 a1 a2) (fun v1144 => ?_)
                refine ab_e_go 4 (135, [(5, .int v1144), (0, .ref 13), (1, .int a1), (2, .int a2), (3, .int a3), (4, .int a4)], [.int a4, .int a3, .ref 13], (X1143, w)) rfl ?_
                refine ab_e_c1 (k2 := 87) (as := [.ref 13, .int a3, .int a4]) (rest := []) rfl rfl (T_M_awardOf S w X1143 a3 a4) (fun v1145 => ?_)
                refine ab_e_go 9 (153, [(6, .int v1145), (5, .int v1144), (0, .ref 13), (1, .int a1), (2, .int a2), (3, .int a3), (4, .int a4)], [.int a3, .int ((nI 309) + ((nI 2) * v1144)), .ref 14], (X1143, w)) rfl ?_
                refine ab_e_gd (154, [(6, .int v1145), (5, .int v1144), (0, .ref 13), (1, .int a1), (2, .int a2), (3, .int a3), (4, .int a4)], [], ((ab_up X1143 14 (((nI 309) + ((nI 2) * v1144)).toNatClampNeg) a3), w)) rfl ?_
                refine ab_e_letX (fun X1146 _ => ?_)
                refine ab_e_go 8 (167, [(6, .int v1145), (5, .int v1144), (0, .ref 13), (1, .int a1), (2, .int a2), (3, .int a3), (4, .int a4)], [.int a1, .int ((nI 309) + ((nI 2) * v1145)), .ref 14], (X1146, w)) rfl ?_
                refine ab_e_gd (168, [(6, .int v1145), (5, .int v1144), (0, .ref 13), (1, .int a1), (2, .int a2), (3, .int a3), (4, .int a4)], [], ((ab_up X1146 14 (((nI 309) + ((nI 2) * v1145)).toNatClampNeg) a1), w)) rfl ?_
                refine ab_e_letX (fun X1147 _ => ?_)
                exact ab_e_rt rfl rfl
              · refine ab_e_go 3 (111, [(0, .ref 13), (1, .int a1), (2, .int a2), (3, .int a3), (4, .int a4)], [], ((ab_up X1141 13 0 (nI 4)), w)) rfl ?_
                refine ab_e_letX (fun X1148 _ => ?_)
                exact ab_e_rt rfl rfl
          · exact ab_e_rt rfl rfl
