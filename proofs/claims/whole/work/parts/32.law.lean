/-! ===== the law's cases: one turn of its loop (by program: wip/whole/tools/law.py) ===== -/
set_option maxRecDepth 8000 in
set_option maxHeartbeats 1000000 in
theorem law_c0 (S : Nat × (Nat → Int32)) (w : ab_WW) (X : ab_XX) (i x0 : Int32) (hi : ¬ Int32.ofNat S.1 - nI 7 < i) (g0 : ab_in i S.1 = true) (e0 : S.2 i.toNatClampNeg = x0) (x1 : Int32) (g1 : ab_in (i + nI 1) S.1 = true) (e1 : S.2 (i + nI 1).toNatClampNeg = x1) (x2 : Int32) (g2 : ab_in (i + nI 2) S.1 = true) (e2 : S.2 (i + nI 2).toNatClampNeg = x2) (x3 : Int32) (g3 : ab_in (i + nI 3) S.1 = true) (e3 : S.2 (i + nI 3).toNatClampNeg = x3) (x4 : Int32) (g4 : ab_in (i + nI 4) S.1 = true) (e4 : S.2 (i + nI 4).toNatClampNeg = x4) (x5 : Int32) (g5 : ab_in (i + nI 5) S.1 = true) (e5 : S.2 (i + nI 5).toNatClampNeg = x5) (w1 : ab_WW) (X1 X2 : ab_XX) (kv : Int32) (b : Int32) (c : Nat) (hsw : x0 &&& nI 63 = nI 0) (hW : ab_Ec S 198 (0, lv_args 0 [.ref 0, .int x1, .int x2, .int x3, .int x4, .int x5, .ref 17], [], (X, w)) (.inl (some (.int kv)), (X1, w1)) c) (hM : ab_Ec S 138 (0, lv_args 0 [.ref 13, .int x1, .int x2, .int x3, .int x4, .int x5], [], (X1, w1)) (.inl (some (.int b)), (X2, w1)) 0) (ht : X2 13 0 = kv) (hb : kv = nI 0 → lg_cmp (w1.1 0) b.toInt64 = nI 0) : ab_Rc S 252 c (28, [(0, .ref 1000), (1, .ref 0), (2, .ref 13), (3, .ref 17), (4, .ref 18), (5, .int i)], [], (X, w)) (28, [(0, .ref 1000), (1, .ref 0), (2, .ref 13), (3, .ref 17), (4, .ref 18), (5, .int (i + nI 7))], [], (X2, w1)) := by
  rw [show c = c + (0 + (0 + 0)) by omega]
  refine ab_q_go 5 (35, [(0, .ref 1000), (1, .ref 0), (2, .ref 13), (3, .ref 17), (4, .ref 18), (5, .int i)], [.int (Int32.ofNat S.1 - nI 7), .int i], (X, w)) rfl ?_
  refine ab_q_f (d := Int32.ofNat S.1 - nI 7 < i) (38, [(0, .ref 1000), (1, .ref 0), (2, .ref 13), (3, .ref 17), (4, .ref 18), (5, .int i)], [], (X, w)) hi rfl ?_
  refine ab_q_go 2 (41, [(0, .ref 1000), (1, .ref 0), (2, .ref 13), (3, .ref 17), (4, .ref 18), (5, .int i)], [.int i, .ref 1000], (X, w)) rfl ?_
  refine ab_q_ld g0 e0 rfl ?_
  refine ab_q_go 2 (45, [(0, .ref 1000), (1, .ref 0), (2, .ref 13), (3, .ref 17), (4, .ref 18), (5, .int i)], [.int (x0 &&& (nI 63))], (X, w)) rfl ?_
  refine ab_q_go 1 (ab_tsw (x0 &&& nI 63) 2395, [(0, .ref 1000), (1, .ref 0), (2, .ref 13), (3, .ref 17), (4, .ref 18), (5, .int i)], [], (X, w)) rfl ?_
  refine ab_q_sw 224 hsw (by decide) ?_
  refine ab_q_go 5 (230, [(0, .ref 1000), (1, .ref 0), (2, .ref 13), (3, .ref 17), (4, .ref 18), (5, .int i)], [.int (i + (nI 1)), .ref 1000, .ref 0], (X, w)) rfl ?_
  refine ab_q_ld g1 e1 rfl ?_
  refine ab_q_go 4 (236, [(0, .ref 1000), (1, .ref 0), (2, .ref 13), (3, .ref 17), (4, .ref 18), (5, .int i)], [.int (i + (nI 2)), .ref 1000, .int x1, .ref 0], (X, w)) rfl ?_
  refine ab_q_ld g2 e2 rfl ?_
  refine ab_q_go 4 (242, [(0, .ref 1000), (1, .ref 0), (2, .ref 13), (3, .ref 17), (4, .ref 18), (5, .int i)], [.int (i + (nI 3)), .ref 1000, .int x2, .int x1, .ref 0], (X, w)) rfl ?_
  refine ab_q_ld g3 e3 rfl ?_
  refine ab_q_go 4 (248, [(0, .ref 1000), (1, .ref 0), (2, .ref 13), (3, .ref 17), (4, .ref 18), (5, .int i)], [.int (i + (nI 4)), .ref 1000, .int x3, .int x2, .int x1, .ref 0], (X, w)) rfl ?_
  refine ab_q_ld g4 e4 rfl ?_
  refine ab_q_go 4 (254, [(0, .ref 1000), (1, .ref 0), (2, .ref 13), (3, .ref 17), (4, .ref 18), (5, .int i)], [.int (i + (nI 5)), .ref 1000, .int x4, .int x3, .int x2, .int x1, .ref 0], (X, w)) rfl ?_
  refine ab_q_ld g5 e5 rfl ?_
  refine ab_q_go 1 (256, [(0, .ref 1000), (1, .ref 0), (2, .ref 13), (3, .ref 17), (4, .ref 18), (5, .int i)], [.ref 17, .int x5, .int x4, .int x3, .int x2, .int x1, .ref 0], (X, w)) rfl ?_
  refine ab_q_ca (k2 := 198) (as := [.ref 0, .int x1, .int x2, .int x3, .int x4, .int x5, .ref 17]) (rest := []) rfl rfl hW ?_
  refine ab_q_go 6 (267, [(6, .int kv), (0, .ref 1000), (1, .ref 0), (2, .ref 13), (3, .ref 17), (4, .ref 18), (5, .int i)], [.int (i + (nI 1)), .ref 1000, .ref 13], (X1, w1)) rfl ?_
  refine ab_q_ld g1 e1 rfl ?_
  refine ab_q_go 4 (273, [(6, .int kv), (0, .ref 1000), (1, .ref 0), (2, .ref 13), (3, .ref 17), (4, .ref 18), (5, .int i)], [.int (i + (nI 2)), .ref 1000, .int x1, .ref 13], (X1, w1)) rfl ?_
  refine ab_q_ld g2 e2 rfl ?_
  refine ab_q_go 4 (279, [(6, .int kv), (0, .ref 1000), (1, .ref 0), (2, .ref 13), (3, .ref 17), (4, .ref 18), (5, .int i)], [.int (i + (nI 3)), .ref 1000, .int x2, .int x1, .ref 13], (X1, w1)) rfl ?_
  refine ab_q_ld g3 e3 rfl ?_
  refine ab_q_go 4 (285, [(6, .int kv), (0, .ref 1000), (1, .ref 0), (2, .ref 13), (3, .ref 17), (4, .ref 18), (5, .int i)], [.int (i + (nI 4)), .ref 1000, .int x3, .int x2, .int x1, .ref 13], (X1, w1)) rfl ?_
  refine ab_q_ld g4 e4 rfl ?_
  refine ab_q_go 4 (291, [(6, .int kv), (0, .ref 1000), (1, .ref 0), (2, .ref 13), (3, .ref 17), (4, .ref 18), (5, .int i)], [.int (i + (nI 5)), .ref 1000, .int x4, .int x3, .int x2, .int x1, .ref 13], (X1, w1)) rfl ?_
  refine ab_q_ld g5 e5 rfl ?_
  refine ab_q_ca (k2 := 138) (as := [.ref 13, .int x1, .int x2, .int x3, .int x4, .int x5]) (rest := []) rfl rfl hM ?_
  refine ab_q_go 2 (298, [(7, .int b), (6, .int kv), (0, .ref 1000), (1, .ref 0), (2, .ref 13), (3, .ref 17), (4, .ref 18), (5, .int i)], [.ref 13], (X2, w1)) rfl ?_
  refine ab_q_ca (k2 := 44) (as := [.ref 13]) (rest := []) rfl rfl (ab_ec_of (T_M_thrown S w1 X2 _ rfl)) ?_
  refine ab_q_go 1 (303, [(7, .int b), (6, .int kv), (0, .ref 1000), (1, .ref 0), (2, .ref 13), (3, .ref 17), (4, .ref 18), (5, .int i)], [.int kv, .int (X2 13 0)], (X2, w1)) rfl ?_
  refine ab_q_t (d := X2 13 0 = kv) (308, [(7, .int b), (6, .int kv), (0, .ref 1000), (1, .ref 0), (2, .ref 13), (3, .ref 17), (4, .ref 18), (5, .int i)], [], (X2, w1)) ht rfl ?_
  refine ab_q_go 1 (310, [(7, .int b), (6, .int kv), (0, .ref 1000), (1, .ref 0), (2, .ref 13), (3, .ref 17), (4, .ref 18), (5, .int i)], [.int kv], (X2, w1)) rfl ?_
  by_cases hk : kv = nI 0
  · refine ab_q_f (d := ¬ kv = nI 0) (313, [(7, .int b), (6, .int kv), (0, .ref 1000), (1, .ref 0), (2, .ref 13), (3, .ref 17), (4, .ref 18), (5, .int i)], [], (X2, w1)) (fun z => z hk) rfl ?_
    refine ab_q_go 2 (315, [(7, .int b), (6, .int kv), (0, .ref 1000), (1, .ref 0), (2, .ref 13), (3, .ref 17), (4, .ref 18), (5, .int i)], [.int (nI 0), .ref 17], (X2, w1)) rfl ?_
    refine ab_q_go 1 (316, [(7, .int b), (6, .int kv), (0, .ref 1000), (1, .ref 0), (2, .ref 13), (3, .ref 17), (4, .ref 18), (5, .int i)], [.long (w1.1 0)], (X2, w1)) rfl ?_
    refine ab_q_go 2 (319, [(7, .int b), (6, .int kv), (0, .ref 1000), (1, .ref 0), (2, .ref 13), (3, .ref 17), (4, .ref 18), (5, .int i)], [.long b.toInt64, .long (w1.1 0)], (X2, w1)) rfl ?_
    refine ab_q_go 1 (320, [(7, .int b), (6, .int kv), (0, .ref 1000), (1, .ref 0), (2, .ref 13), (3, .ref 17), (4, .ref 18), (5, .int i)], [.int (lg_cmp (w1.1 0) b.toInt64)], (X2, w1)) rfl ?_
    refine ab_q_t (d := lg_cmp (w1.1 0) b.toInt64 = nI 0) (325, [(7, .int b), (6, .int kv), (0, .ref 1000), (1, .ref 0), (2, .ref 13), (3, .ref 17), (4, .ref 18), (5, .int i)], [], (X2, w1)) (hb hk) rfl ?_
    refine ab_q_go 1 (2395, [(7, .int b), (6, .int kv), (0, .ref 1000), (1, .ref 0), (2, .ref 13), (3, .ref 17), (4, .ref 18), (5, .int i)], [], (X2, w1)) rfl ?_
    refine ab_q_go 2 (28, [(5, .int (i + nI 7)), (7, .int b), (6, .int kv), (0, .ref 1000), (1, .ref 0), (2, .ref 13), (3, .ref 17), (4, .ref 18)], [], (X2, w1)) rfl ?_
    exact ab_q_wk (lv0 := [(0, .ref 1000), (1, .ref 0), (2, .ref 13), (3, .ref 17), (4, .ref 18), (5, .int (i + nI 7))]) ⟨rfl, rfl, rfl, rfl, rfl, rfl, trivial⟩ ab_q_rf
  · refine ab_q_t (d := ¬ kv = nI 0) (325, [(7, .int b), (6, .int kv), (0, .ref 1000), (1, .ref 0), (2, .ref 13), (3, .ref 17), (4, .ref 18), (5, .int i)], [], (X2, w1)) hk rfl ?_
    refine ab_q_go 1 (2395, [(7, .int b), (6, .int kv), (0, .ref 1000), (1, .ref 0), (2, .ref 13), (3, .ref 17), (4, .ref 18), (5, .int i)], [], (X2, w1)) rfl ?_
    refine ab_q_go 2 (28, [(5, .int (i + nI 7)), (7, .int b), (6, .int kv), (0, .ref 1000), (1, .ref 0), (2, .ref 13), (3, .ref 17), (4, .ref 18)], [], (X2, w1)) rfl ?_
    exact ab_q_wk (lv0 := [(0, .ref 1000), (1, .ref 0), (2, .ref 13), (3, .ref 17), (4, .ref 18), (5, .int (i + nI 7))]) ⟨rfl, rfl, rfl, rfl, rfl, rfl, trivial⟩ ab_q_rf
set_option maxRecDepth 8000 in
set_option maxHeartbeats 1000000 in
theorem law_c1 (S : Nat × (Nat → Int32)) (w : ab_WW) (X : ab_XX) (i x0 : Int32) (hi : ¬ Int32.ofNat S.1 - nI 7 < i) (g0 : ab_in i S.1 = true) (e0 : S.2 i.toNatClampNeg = x0) (x1 : Int32) (g1 : ab_in (i + nI 1) S.1 = true) (e1 : S.2 (i + nI 1).toNatClampNeg = x1) (x2 : Int32) (g2 : ab_in (i + nI 2) S.1 = true) (e2 : S.2 (i + nI 2).toNatClampNeg = x2) (x3 : Int32) (g3 : ab_in (i + nI 3) S.1 = true) (e3 : S.2 (i + nI 3).toNatClampNeg = x3) (x4 : Int32) (g4 : ab_in (i + nI 4) S.1 = true) (e4 : S.2 (i + nI 4).toNatClampNeg = x4) (x5 : Int32) (g5 : ab_in (i + nI 5) S.1 = true) (e5 : S.2 (i + nI 5).toNatClampNeg = x5) (w1 : ab_WW) (X1 X2 : ab_XX) (kv : Int32) (b : Int32) (c : Nat) (hsw : x0 &&& nI 63 = nI 1) (hW : ab_Ec S 197 (0, lv_args 0 [.ref 0, .int x1, .int x2, .int x3, .int x4, .int x5, .ref 17], [], (X, w)) (.inl (some (.int kv)), (X1, w1)) c) (hM : ab_Ec S 137 (0, lv_args 0 [.ref 13, .int x1, .int x2, .int x3, .int x4, .int x5], [], (X1, w1)) (.inl (some (.int b)), (X2, w1)) 0) (ht : X2 13 0 = kv) (hb : kv = nI 0 → lg_cmp (w1.1 0) b.toInt64 = nI 0) : ab_Rc S 252 c (28, [(0, .ref 1000), (1, .ref 0), (2, .ref 13), (3, .ref 17), (4, .ref 18), (5, .int i)], [], (X, w)) (28, [(0, .ref 1000), (1, .ref 0), (2, .ref 13), (3, .ref 17), (4, .ref 18), (5, .int (i + nI 7))], [], (X2, w1)) := by
  rw [show c = c + (0 + (0 + 0)) by omega]
  refine ab_q_go 5 (35, [(0, .ref 1000), (1, .ref 0), (2, .ref 13), (3, .ref 17), (4, .ref 18), (5, .int i)], [.int (Int32.ofNat S.1 - nI 7), .int i], (X, w)) rfl ?_
  refine ab_q_f (d := Int32.ofNat S.1 - nI 7 < i) (38, [(0, .ref 1000), (1, .ref 0), (2, .ref 13), (3, .ref 17), (4, .ref 18), (5, .int i)], [], (X, w)) hi rfl ?_
  refine ab_q_go 2 (41, [(0, .ref 1000), (1, .ref 0), (2, .ref 13), (3, .ref 17), (4, .ref 18), (5, .int i)], [.int i, .ref 1000], (X, w)) rfl ?_
  refine ab_q_ld g0 e0 rfl ?_
  refine ab_q_go 2 (45, [(0, .ref 1000), (1, .ref 0), (2, .ref 13), (3, .ref 17), (4, .ref 18), (5, .int i)], [.int (x0 &&& (nI 63))], (X, w)) rfl ?_
  refine ab_q_go 1 (ab_tsw (x0 &&& nI 63) 2395, [(0, .ref 1000), (1, .ref 0), (2, .ref 13), (3, .ref 17), (4, .ref 18), (5, .int i)], [], (X, w)) rfl ?_
  refine ab_q_sw 328 hsw (by decide) ?_
  refine ab_q_go 5 (334, [(0, .ref 1000), (1, .ref 0), (2, .ref 13), (3, .ref 17), (4, .ref 18), (5, .int i)], [.int (i + (nI 1)), .ref 1000, .ref 0], (X, w)) rfl ?_
  refine ab_q_ld g1 e1 rfl ?_
  refine ab_q_go 4 (340, [(0, .ref 1000), (1, .ref 0), (2, .ref 13), (3, .ref 17), (4, .ref 18), (5, .int i)], [.int (i + (nI 2)), .ref 1000, .int x1, .ref 0], (X, w)) rfl ?_
  refine ab_q_ld g2 e2 rfl ?_
  refine ab_q_go 4 (346, [(0, .ref 1000), (1, .ref 0), (2, .ref 13), (3, .ref 17), (4, .ref 18), (5, .int i)], [.int (i + (nI 3)), .ref 1000, .int x2, .int x1, .ref 0], (X, w)) rfl ?_
  refine ab_q_ld g3 e3 rfl ?_
  refine ab_q_go 4 (352, [(0, .ref 1000), (1, .ref 0), (2, .ref 13), (3, .ref 17), (4, .ref 18), (5, .int i)], [.int (i + (nI 4)), .ref 1000, .int x3, .int x2, .int x1, .ref 0], (X, w)) rfl ?_
  refine ab_q_ld g4 e4 rfl ?_
  refine ab_q_go 4 (358, [(0, .ref 1000), (1, .ref 0), (2, .ref 13), (3, .ref 17), (4, .ref 18), (5, .int i)], [.int (i + (nI 5)), .ref 1000, .int x4, .int x3, .int x2, .int x1, .ref 0], (X, w)) rfl ?_
  refine ab_q_ld g5 e5 rfl ?_
  refine ab_q_go 1 (360, [(0, .ref 1000), (1, .ref 0), (2, .ref 13), (3, .ref 17), (4, .ref 18), (5, .int i)], [.ref 17, .int x5, .int x4, .int x3, .int x2, .int x1, .ref 0], (X, w)) rfl ?_
  refine ab_q_ca (k2 := 197) (as := [.ref 0, .int x1, .int x2, .int x3, .int x4, .int x5, .ref 17]) (rest := []) rfl rfl hW ?_
  refine ab_q_go 6 (371, [(6, .int kv), (0, .ref 1000), (1, .ref 0), (2, .ref 13), (3, .ref 17), (4, .ref 18), (5, .int i)], [.int (i + (nI 1)), .ref 1000, .ref 13], (X1, w1)) rfl ?_
  refine ab_q_ld g1 e1 rfl ?_
  refine ab_q_go 4 (377, [(6, .int kv), (0, .ref 1000), (1, .ref 0), (2, .ref 13), (3, .ref 17), (4, .ref 18), (5, .int i)], [.int (i + (nI 2)), .ref 1000, .int x1, .ref 13], (X1, w1)) rfl ?_
  refine ab_q_ld g2 e2 rfl ?_
  refine ab_q_go 4 (383, [(6, .int kv), (0, .ref 1000), (1, .ref 0), (2, .ref 13), (3, .ref 17), (4, .ref 18), (5, .int i)], [.int (i + (nI 3)), .ref 1000, .int x2, .int x1, .ref 13], (X1, w1)) rfl ?_
  refine ab_q_ld g3 e3 rfl ?_
  refine ab_q_go 4 (389, [(6, .int kv), (0, .ref 1000), (1, .ref 0), (2, .ref 13), (3, .ref 17), (4, .ref 18), (5, .int i)], [.int (i + (nI 4)), .ref 1000, .int x3, .int x2, .int x1, .ref 13], (X1, w1)) rfl ?_
  refine ab_q_ld g4 e4 rfl ?_
  refine ab_q_go 4 (395, [(6, .int kv), (0, .ref 1000), (1, .ref 0), (2, .ref 13), (3, .ref 17), (4, .ref 18), (5, .int i)], [.int (i + (nI 5)), .ref 1000, .int x4, .int x3, .int x2, .int x1, .ref 13], (X1, w1)) rfl ?_
  refine ab_q_ld g5 e5 rfl ?_
  refine ab_q_ca (k2 := 137) (as := [.ref 13, .int x1, .int x2, .int x3, .int x4, .int x5]) (rest := []) rfl rfl hM ?_
  refine ab_q_go 2 (402, [(7, .int b), (6, .int kv), (0, .ref 1000), (1, .ref 0), (2, .ref 13), (3, .ref 17), (4, .ref 18), (5, .int i)], [.ref 13], (X2, w1)) rfl ?_
  refine ab_q_ca (k2 := 44) (as := [.ref 13]) (rest := []) rfl rfl (ab_ec_of (T_M_thrown S w1 X2 _ rfl)) ?_
  refine ab_q_go 1 (407, [(7, .int b), (6, .int kv), (0, .ref 1000), (1, .ref 0), (2, .ref 13), (3, .ref 17), (4, .ref 18), (5, .int i)], [.int kv, .int (X2 13 0)], (X2, w1)) rfl ?_
  refine ab_q_t (d := X2 13 0 = kv) (412, [(7, .int b), (6, .int kv), (0, .ref 1000), (1, .ref 0), (2, .ref 13), (3, .ref 17), (4, .ref 18), (5, .int i)], [], (X2, w1)) ht rfl ?_
  refine ab_q_go 1 (414, [(7, .int b), (6, .int kv), (0, .ref 1000), (1, .ref 0), (2, .ref 13), (3, .ref 17), (4, .ref 18), (5, .int i)], [.int kv], (X2, w1)) rfl ?_
  by_cases hk : kv = nI 0
  · refine ab_q_f (d := ¬ kv = nI 0) (417, [(7, .int b), (6, .int kv), (0, .ref 1000), (1, .ref 0), (2, .ref 13), (3, .ref 17), (4, .ref 18), (5, .int i)], [], (X2, w1)) (fun z => z hk) rfl ?_
    refine ab_q_go 2 (419, [(7, .int b), (6, .int kv), (0, .ref 1000), (1, .ref 0), (2, .ref 13), (3, .ref 17), (4, .ref 18), (5, .int i)], [.int (nI 0), .ref 17], (X2, w1)) rfl ?_
    refine ab_q_go 1 (420, [(7, .int b), (6, .int kv), (0, .ref 1000), (1, .ref 0), (2, .ref 13), (3, .ref 17), (4, .ref 18), (5, .int i)], [.long (w1.1 0)], (X2, w1)) rfl ?_
    refine ab_q_go 2 (423, [(7, .int b), (6, .int kv), (0, .ref 1000), (1, .ref 0), (2, .ref 13), (3, .ref 17), (4, .ref 18), (5, .int i)], [.long b.toInt64, .long (w1.1 0)], (X2, w1)) rfl ?_
    refine ab_q_go 1 (424, [(7, .int b), (6, .int kv), (0, .ref 1000), (1, .ref 0), (2, .ref 13), (3, .ref 17), (4, .ref 18), (5, .int i)], [.int (lg_cmp (w1.1 0) b.toInt64)], (X2, w1)) rfl ?_
    refine ab_q_t (d := lg_cmp (w1.1 0) b.toInt64 = nI 0) (429, [(7, .int b), (6, .int kv), (0, .ref 1000), (1, .ref 0), (2, .ref 13), (3, .ref 17), (4, .ref 18), (5, .int i)], [], (X2, w1)) (hb hk) rfl ?_
    refine ab_q_go 1 (2395, [(7, .int b), (6, .int kv), (0, .ref 1000), (1, .ref 0), (2, .ref 13), (3, .ref 17), (4, .ref 18), (5, .int i)], [], (X2, w1)) rfl ?_
    refine ab_q_go 2 (28, [(5, .int (i + nI 7)), (7, .int b), (6, .int kv), (0, .ref 1000), (1, .ref 0), (2, .ref 13), (3, .ref 17), (4, .ref 18)], [], (X2, w1)) rfl ?_
    exact ab_q_wk (lv0 := [(0, .ref 1000), (1, .ref 0), (2, .ref 13), (3, .ref 17), (4, .ref 18), (5, .int (i + nI 7))]) ⟨rfl, rfl, rfl, rfl, rfl, rfl, trivial⟩ ab_q_rf
  · refine ab_q_t (d := ¬ kv = nI 0) (429, [(7, .int b), (6, .int kv), (0, .ref 1000), (1, .ref 0), (2, .ref 13), (3, .ref 17), (4, .ref 18), (5, .int i)], [], (X2, w1)) hk rfl ?_
    refine ab_q_go 1 (2395, [(7, .int b), (6, .int kv), (0, .ref 1000), (1, .ref 0), (2, .ref 13), (3, .ref 17), (4, .ref 18), (5, .int i)], [], (X2, w1)) rfl ?_
    refine ab_q_go 2 (28, [(5, .int (i + nI 7)), (7, .int b), (6, .int kv), (0, .ref 1000), (1, .ref 0), (2, .ref 13), (3, .ref 17), (4, .ref 18)], [], (X2, w1)) rfl ?_
    exact ab_q_wk (lv0 := [(0, .ref 1000), (1, .ref 0), (2, .ref 13), (3, .ref 17), (4, .ref 18), (5, .int (i + nI 7))]) ⟨rfl, rfl, rfl, rfl, rfl, rfl, trivial⟩ ab_q_rf
set_option maxRecDepth 8000 in
set_option maxHeartbeats 1000000 in
theorem law_c2 (S : Nat × (Nat → Int32)) (w : ab_WW) (X : ab_XX) (i x0 : Int32) (hi : ¬ Int32.ofNat S.1 - nI 7 < i) (g0 : ab_in i S.1 = true) (e0 : S.2 i.toNatClampNeg = x0) (x1 : Int32) (g1 : ab_in (i + nI 1) S.1 = true) (e1 : S.2 (i + nI 1).toNatClampNeg = x1) (x2 : Int32) (g2 : ab_in (i + nI 2) S.1 = true) (e2 : S.2 (i + nI 2).toNatClampNeg = x2) (x3 : Int32) (g3 : ab_in (i + nI 3) S.1 = true) (e3 : S.2 (i + nI 3).toNatClampNeg = x3) (w1 : ab_WW) (X1 X2 : ab_XX) (kv : Int32) (b : Int32) (c : Nat) (hsw : x0 &&& nI 63 = nI 2) (hW : ab_Ec S 202 (0, lv_args 0 [.ref 0, .int x1, .int x2, .int x3, .ref 17], [], (X, w)) (.inl (some (.int kv)), (X1, w1)) c) (hM : ab_Ec S 186 (0, lv_args 0 [.ref 13, .int x1, .int x2, .int x3], [], (X1, w1)) (.inl (some (.int b)), (X2, w1)) 0) (ht : X2 13 0 = kv) (hb : kv = nI 0 → lg_cmp (w1.1 0) b.toInt64 = nI 0) : ab_Rc S 252 c (28, [(0, .ref 1000), (1, .ref 0), (2, .ref 13), (3, .ref 17), (4, .ref 18), (5, .int i)], [], (X, w)) (28, [(0, .ref 1000), (1, .ref 0), (2, .ref 13), (3, .ref 17), (4, .ref 18), (5, .int (i + nI 7))], [], (X2, w1)) := by
  rw [show c = c + (0 + (0 + 0)) by omega]
  refine ab_q_go 5 (35, [(0, .ref 1000), (1, .ref 0), (2, .ref 13), (3, .ref 17), (4, .ref 18), (5, .int i)], [.int (Int32.ofNat S.1 - nI 7), .int i], (X, w)) rfl ?_
  refine ab_q_f (d := Int32.ofNat S.1 - nI 7 < i) (38, [(0, .ref 1000), (1, .ref 0), (2, .ref 13), (3, .ref 17), (4, .ref 18), (5, .int i)], [], (X, w)) hi rfl ?_
  refine ab_q_go 2 (41, [(0, .ref 1000), (1, .ref 0), (2, .ref 13), (3, .ref 17), (4, .ref 18), (5, .int i)], [.int i, .ref 1000], (X, w)) rfl ?_
  refine ab_q_ld g0 e0 rfl ?_
  refine ab_q_go 2 (45, [(0, .ref 1000), (1, .ref 0), (2, .ref 13), (3, .ref 17), (4, .ref 18), (5, .int i)], [.int (x0 &&& (nI 63))], (X, w)) rfl ?_
  refine ab_q_go 1 (ab_tsw (x0 &&& nI 63) 2395, [(0, .ref 1000), (1, .ref 0), (2, .ref 13), (3, .ref 17), (4, .ref 18), (5, .int i)], [], (X, w)) rfl ?_
  refine ab_q_sw 432 hsw (by decide) ?_
  refine ab_q_go 5 (438, [(0, .ref 1000), (1, .ref 0), (2, .ref 13), (3, .ref 17), (4, .ref 18), (5, .int i)], [.int (i + (nI 1)), .ref 1000, .ref 0], (X, w)) rfl ?_
  refine ab_q_ld g1 e1 rfl ?_
  refine ab_q_go 4 (444, [(0, .ref 1000), (1, .ref 0), (2, .ref 13), (3, .ref 17), (4, .ref 18), (5, .int i)], [.int (i + (nI 2)), .ref 1000, .int x1, .ref 0], (X, w)) rfl ?_
  refine ab_q_ld g2 e2 rfl ?_
  refine ab_q_go 4 (450, [(0, .ref 1000), (1, .ref 0), (2, .ref 13), (3, .ref 17), (4, .ref 18), (5, .int i)], [.int (i + (nI 3)), .ref 1000, .int x2, .int x1, .ref 0], (X, w)) rfl ?_
  refine ab_q_ld g3 e3 rfl ?_
  refine ab_q_go 1 (452, [(0, .ref 1000), (1, .ref 0), (2, .ref 13), (3, .ref 17), (4, .ref 18), (5, .int i)], [.ref 17, .int x3, .int x2, .int x1, .ref 0], (X, w)) rfl ?_
  refine ab_q_ca (k2 := 202) (as := [.ref 0, .int x1, .int x2, .int x3, .ref 17]) (rest := []) rfl rfl hW ?_
  refine ab_q_go 6 (463, [(6, .int kv), (0, .ref 1000), (1, .ref 0), (2, .ref 13), (3, .ref 17), (4, .ref 18), (5, .int i)], [.int (i + (nI 1)), .ref 1000, .ref 13], (X1, w1)) rfl ?_
  refine ab_q_ld g1 e1 rfl ?_
  refine ab_q_go 4 (469, [(6, .int kv), (0, .ref 1000), (1, .ref 0), (2, .ref 13), (3, .ref 17), (4, .ref 18), (5, .int i)], [.int (i + (nI 2)), .ref 1000, .int x1, .ref 13], (X1, w1)) rfl ?_
  refine ab_q_ld g2 e2 rfl ?_
  refine ab_q_go 4 (475, [(6, .int kv), (0, .ref 1000), (1, .ref 0), (2, .ref 13), (3, .ref 17), (4, .ref 18), (5, .int i)], [.int (i + (nI 3)), .ref 1000, .int x2, .int x1, .ref 13], (X1, w1)) rfl ?_
  refine ab_q_ld g3 e3 rfl ?_
  refine ab_q_ca (k2 := 186) (as := [.ref 13, .int x1, .int x2, .int x3]) (rest := []) rfl rfl hM ?_
  refine ab_q_go 2 (482, [(7, .int b), (6, .int kv), (0, .ref 1000), (1, .ref 0), (2, .ref 13), (3, .ref 17), (4, .ref 18), (5, .int i)], [.ref 13], (X2, w1)) rfl ?_
  refine ab_q_ca (k2 := 44) (as := [.ref 13]) (rest := []) rfl rfl (ab_ec_of (T_M_thrown S w1 X2 _ rfl)) ?_
  refine ab_q_go 1 (487, [(7, .int b), (6, .int kv), (0, .ref 1000), (1, .ref 0), (2, .ref 13), (3, .ref 17), (4, .ref 18), (5, .int i)], [.int kv, .int (X2 13 0)], (X2, w1)) rfl ?_
  refine ab_q_t (d := X2 13 0 = kv) (492, [(7, .int b), (6, .int kv), (0, .ref 1000), (1, .ref 0), (2, .ref 13), (3, .ref 17), (4, .ref 18), (5, .int i)], [], (X2, w1)) ht rfl ?_
  refine ab_q_go 1 (494, [(7, .int b), (6, .int kv), (0, .ref 1000), (1, .ref 0), (2, .ref 13), (3, .ref 17), (4, .ref 18), (5, .int i)], [.int kv], (X2, w1)) rfl ?_
  by_cases hk : kv = nI 0
  · refine ab_q_f (d := ¬ kv = nI 0) (497, [(7, .int b), (6, .int kv), (0, .ref 1000), (1, .ref 0), (2, .ref 13), (3, .ref 17), (4, .ref 18), (5, .int i)], [], (X2, w1)) (fun z => z hk) rfl ?_
    refine ab_q_go 2 (499, [(7, .int b), (6, .int kv), (0, .ref 1000), (1, .ref 0), (2, .ref 13), (3, .ref 17), (4, .ref 18), (5, .int i)], [.int (nI 0), .ref 17], (X2, w1)) rfl ?_
    refine ab_q_go 1 (500, [(7, .int b), (6, .int kv), (0, .ref 1000), (1, .ref 0), (2, .ref 13), (3, .ref 17), (4, .ref 18), (5, .int i)], [.long (w1.1 0)], (X2, w1)) rfl ?_
    refine ab_q_go 2 (503, [(7, .int b), (6, .int kv), (0, .ref 1000), (1, .ref 0), (2, .ref 13), (3, .ref 17), (4, .ref 18), (5, .int i)], [.long b.toInt64, .long (w1.1 0)], (X2, w1)) rfl ?_
    refine ab_q_go 1 (504, [(7, .int b), (6, .int kv), (0, .ref 1000), (1, .ref 0), (2, .ref 13), (3, .ref 17), (4, .ref 18), (5, .int i)], [.int (lg_cmp (w1.1 0) b.toInt64)], (X2, w1)) rfl ?_
    refine ab_q_t (d := lg_cmp (w1.1 0) b.toInt64 = nI 0) (509, [(7, .int b), (6, .int kv), (0, .ref 1000), (1, .ref 0), (2, .ref 13), (3, .ref 17), (4, .ref 18), (5, .int i)], [], (X2, w1)) (hb hk) rfl ?_
    refine ab_q_go 1 (2395, [(7, .int b), (6, .int kv), (0, .ref 1000), (1, .ref 0), (2, .ref 13), (3, .ref 17), (4, .ref 18), (5, .int i)], [], (X2, w1)) rfl ?_
    refine ab_q_go 2 (28, [(5, .int (i + nI 7)), (7, .int b), (6, .int kv), (0, .ref 1000), (1, .ref 0), (2, .ref 13), (3, .ref 17), (4, .ref 18)], [], (X2, w1)) rfl ?_
    exact ab_q_wk (lv0 := [(0, .ref 1000), (1, .ref 0), (2, .ref 13), (3, .ref 17), (4, .ref 18), (5, .int (i + nI 7))]) ⟨rfl, rfl, rfl, rfl, rfl, rfl, trivial⟩ ab_q_rf
  · refine ab_q_t (d := ¬ kv = nI 0) (509, [(7, .int b), (6, .int kv), (0, .ref 1000), (1, .ref 0), (2, .ref 13), (3, .ref 17), (4, .ref 18), (5, .int i)], [], (X2, w1)) hk rfl ?_
    refine ab_q_go 1 (2395, [(7, .int b), (6, .int kv), (0, .ref 1000), (1, .ref 0), (2, .ref 13), (3, .ref 17), (4, .ref 18), (5, .int i)], [], (X2, w1)) rfl ?_
    refine ab_q_go 2 (28, [(5, .int (i + nI 7)), (7, .int b), (6, .int kv), (0, .ref 1000), (1, .ref 0), (2, .ref 13), (3, .ref 17), (4, .ref 18)], [], (X2, w1)) rfl ?_
    exact ab_q_wk (lv0 := [(0, .ref 1000), (1, .ref 0), (2, .ref 13), (3, .ref 17), (4, .ref 18), (5, .int (i + nI 7))]) ⟨rfl, rfl, rfl, rfl, rfl, rfl, trivial⟩ ab_q_rf
set_option maxRecDepth 8000 in
set_option maxHeartbeats 1000000 in
theorem law_c3 (S : Nat × (Nat → Int32)) (w : ab_WW) (X : ab_XX) (i x0 : Int32) (hi : ¬ Int32.ofNat S.1 - nI 7 < i) (g0 : ab_in i S.1 = true) (e0 : S.2 i.toNatClampNeg = x0) (x1 : Int32) (g1 : ab_in (i + nI 1) S.1 = true) (e1 : S.2 (i + nI 1).toNatClampNeg = x1) (w1 : ab_WW) (X1 X2 : ab_XX) (kv : Int32) (b : Int32) (c : Nat) (hsw : x0 &&& nI 63 = nI 3) (hW : ab_Ec S 135 (0, lv_args 0 [.ref 0, .int x1, .ref 17], [], (X, w)) (.inl (some (.int kv)), (X1, w1)) c) (hM : ab_Ec S 83 (0, lv_args 0 [.ref 13, .int x1], [], (X1, w1)) (.inl (some (.int b)), (X2, w1)) 0) (ht : X2 13 0 = kv) (hb : kv = nI 0 → lg_cmp (w1.1 0) b.toInt64 = nI 0) : ab_Rc S 252 c (28, [(0, .ref 1000), (1, .ref 0), (2, .ref 13), (3, .ref 17), (4, .ref 18), (5, .int i)], [], (X, w)) (28, [(0, .ref 1000), (1, .ref 0), (2, .ref 13), (3, .ref 17), (4, .ref 18), (5, .int (i + nI 7))], [], (X2, w1)) := by
  rw [show c = c + (0 + (0 + 0)) by omega]
  refine ab_q_go 5 (35, [(0, .ref 1000), (1, .ref 0), (2, .ref 13), (3, .ref 17), (4, .ref 18), (5, .int i)], [.int (Int32.ofNat S.1 - nI 7), .int i], (X, w)) rfl ?_
  refine ab_q_f (d := Int32.ofNat S.1 - nI 7 < i) (38, [(0, .ref 1000), (1, .ref 0), (2, .ref 13), (3, .ref 17), (4, .ref 18), (5, .int i)], [], (X, w)) hi rfl ?_
  refine ab_q_go 2 (41, [(0, .ref 1000), (1, .ref 0), (2, .ref 13), (3, .ref 17), (4, .ref 18), (5, .int i)], [.int i, .ref 1000], (X, w)) rfl ?_
  refine ab_q_ld g0 e0 rfl ?_
  refine ab_q_go 2 (45, [(0, .ref 1000), (1, .ref 0), (2, .ref 13), (3, .ref 17), (4, .ref 18), (5, .int i)], [.int (x0 &&& (nI 63))], (X, w)) rfl ?_
  refine ab_q_go 1 (ab_tsw (x0 &&& nI 63) 2395, [(0, .ref 1000), (1, .ref 0), (2, .ref 13), (3, .ref 17), (4, .ref 18), (5, .int i)], [], (X, w)) rfl ?_
  refine ab_q_sw 512 hsw (by decide) ?_
  refine ab_q_go 5 (518, [(0, .ref 1000), (1, .ref 0), (2, .ref 13), (3, .ref 17), (4, .ref 18), (5, .int i)], [.int (i + (nI 1)), .ref 1000, .ref 0], (X, w)) rfl ?_
  refine ab_q_ld g1 e1 rfl ?_
  refine ab_q_go 1 (520, [(0, .ref 1000), (1, .ref 0), (2, .ref 13), (3, .ref 17), (4, .ref 18), (5, .int i)], [.ref 17, .int x1, .ref 0], (X, w)) rfl ?_
  refine ab_q_ca (k2 := 135) (as := [.ref 0, .int x1, .ref 17]) (rest := []) rfl rfl hW ?_
  refine ab_q_go 6 (531, [(6, .int kv), (0, .ref 1000), (1, .ref 0), (2, .ref 13), (3, .ref 17), (4, .ref 18), (5, .int i)], [.int (i + (nI 1)), .ref 1000, .ref 13], (X1, w1)) rfl ?_
  refine ab_q_ld g1 e1 rfl ?_
  refine ab_q_ca (k2 := 83) (as := [.ref 13, .int x1]) (rest := []) rfl rfl hM ?_
  refine ab_q_go 2 (538, [(7, .int b), (6, .int kv), (0, .ref 1000), (1, .ref 0), (2, .ref 13), (3, .ref 17), (4, .ref 18), (5, .int i)], [.ref 13], (X2, w1)) rfl ?_
  refine ab_q_ca (k2 := 44) (as := [.ref 13]) (rest := []) rfl rfl (ab_ec_of (T_M_thrown S w1 X2 _ rfl)) ?_
  refine ab_q_go 1 (543, [(7, .int b), (6, .int kv), (0, .ref 1000), (1, .ref 0), (2, .ref 13), (3, .ref 17), (4, .ref 18), (5, .int i)], [.int kv, .int (X2 13 0)], (X2, w1)) rfl ?_
  refine ab_q_t (d := X2 13 0 = kv) (548, [(7, .int b), (6, .int kv), (0, .ref 1000), (1, .ref 0), (2, .ref 13), (3, .ref 17), (4, .ref 18), (5, .int i)], [], (X2, w1)) ht rfl ?_
  refine ab_q_go 1 (550, [(7, .int b), (6, .int kv), (0, .ref 1000), (1, .ref 0), (2, .ref 13), (3, .ref 17), (4, .ref 18), (5, .int i)], [.int kv], (X2, w1)) rfl ?_
  by_cases hk : kv = nI 0
  · refine ab_q_f (d := ¬ kv = nI 0) (553, [(7, .int b), (6, .int kv), (0, .ref 1000), (1, .ref 0), (2, .ref 13), (3, .ref 17), (4, .ref 18), (5, .int i)], [], (X2, w1)) (fun z => z hk) rfl ?_
    refine ab_q_go 2 (555, [(7, .int b), (6, .int kv), (0, .ref 1000), (1, .ref 0), (2, .ref 13), (3, .ref 17), (4, .ref 18), (5, .int i)], [.int (nI 0), .ref 17], (X2, w1)) rfl ?_
    refine ab_q_go 1 (556, [(7, .int b), (6, .int kv), (0, .ref 1000), (1, .ref 0), (2, .ref 13), (3, .ref 17), (4, .ref 18), (5, .int i)], [.long (w1.1 0)], (X2, w1)) rfl ?_
    refine ab_q_go 2 (559, [(7, .int b), (6, .int kv), (0, .ref 1000), (1, .ref 0), (2, .ref 13), (3, .ref 17), (4, .ref 18), (5, .int i)], [.long b.toInt64, .long (w1.1 0)], (X2, w1)) rfl ?_
    refine ab_q_go 1 (560, [(7, .int b), (6, .int kv), (0, .ref 1000), (1, .ref 0), (2, .ref 13), (3, .ref 17), (4, .ref 18), (5, .int i)], [.int (lg_cmp (w1.1 0) b.toInt64)], (X2, w1)) rfl ?_
    refine ab_q_t (d := lg_cmp (w1.1 0) b.toInt64 = nI 0) (565, [(7, .int b), (6, .int kv), (0, .ref 1000), (1, .ref 0), (2, .ref 13), (3, .ref 17), (4, .ref 18), (5, .int i)], [], (X2, w1)) (hb hk) rfl ?_
    refine ab_q_go 1 (2395, [(7, .int b), (6, .int kv), (0, .ref 1000), (1, .ref 0), (2, .ref 13), (3, .ref 17), (4, .ref 18), (5, .int i)], [], (X2, w1)) rfl ?_
    refine ab_q_go 2 (28, [(5, .int (i + nI 7)), (7, .int b), (6, .int kv), (0, .ref 1000), (1, .ref 0), (2, .ref 13), (3, .ref 17), (4, .ref 18)], [], (X2, w1)) rfl ?_
    exact ab_q_wk (lv0 := [(0, .ref 1000), (1, .ref 0), (2, .ref 13), (3, .ref 17), (4, .ref 18), (5, .int (i + nI 7))]) ⟨rfl, rfl, rfl, rfl, rfl, rfl, trivial⟩ ab_q_rf
  · refine ab_q_t (d := ¬ kv = nI 0) (565, [(7, .int b), (6, .int kv), (0, .ref 1000), (1, .ref 0), (2, .ref 13), (3, .ref 17), (4, .ref 18), (5, .int i)], [], (X2, w1)) hk rfl ?_
    refine ab_q_go 1 (2395, [(7, .int b), (6, .int kv), (0, .ref 1000), (1, .ref 0), (2, .ref 13), (3, .ref 17), (4, .ref 18), (5, .int i)], [], (X2, w1)) rfl ?_
    refine ab_q_go 2 (28, [(5, .int (i + nI 7)), (7, .int b), (6, .int kv), (0, .ref 1000), (1, .ref 0), (2, .ref 13), (3, .ref 17), (4, .ref 18)], [], (X2, w1)) rfl ?_
    exact ab_q_wk (lv0 := [(0, .ref 1000), (1, .ref 0), (2, .ref 13), (3, .ref 17), (4, .ref 18), (5, .int (i + nI 7))]) ⟨rfl, rfl, rfl, rfl, rfl, rfl, trivial⟩ ab_q_rf
set_option maxRecDepth 8000 in
set_option maxHeartbeats 1000000 in
theorem law_c4 (S : Nat × (Nat → Int32)) (w : ab_WW) (X : ab_XX) (i x0 : Int32) (hi : ¬ Int32.ofNat S.1 - nI 7 < i) (g0 : ab_in i S.1 = true) (e0 : S.2 i.toNatClampNeg = x0) (w1 : ab_WW) (X1 X2 : ab_XX) (kv : Int32) (b : Int32) (c : Nat) (hsw : x0 &&& nI 63 = nI 4) (hW : ab_Ec S 226 (0, lv_args 0 [.ref 0, .ref 17], [], (X, w)) (.inl (some (.int kv)), (X1, w1)) c) (hM : ab_Ec S 206 (0, lv_args 0 [.ref 13], [], (X1, w1)) (.inl (some (.int b)), (X2, w1)) 0) (ht : X2 13 0 = kv) (hb : kv = nI 0 → lg_cmp (w1.1 0) b.toInt64 = nI 0) : ab_Rc S 252 c (28, [(0, .ref 1000), (1, .ref 0), (2, .ref 13), (3, .ref 17), (4, .ref 18), (5, .int i)], [], (X, w)) (28, [(0, .ref 1000), (1, .ref 0), (2, .ref 13), (3, .ref 17), (4, .ref 18), (5, .int (i + nI 7))], [], (X2, w1)) := by
  rw [show c = c + (0 + (0 + 0)) by omega]
  refine ab_q_go 5 (35, [(0, .ref 1000), (1, .ref 0), (2, .ref 13), (3, .ref 17), (4, .ref 18), (5, .int i)], [.int (Int32.ofNat S.1 - nI 7), .int i], (X, w)) rfl ?_
  refine ab_q_f (d := Int32.ofNat S.1 - nI 7 < i) (38, [(0, .ref 1000), (1, .ref 0), (2, .ref 13), (3, .ref 17), (4, .ref 18), (5, .int i)], [], (X, w)) hi rfl ?_
  refine ab_q_go 2 (41, [(0, .ref 1000), (1, .ref 0), (2, .ref 13), (3, .ref 17), (4, .ref 18), (5, .int i)], [.int i, .ref 1000], (X, w)) rfl ?_
  refine ab_q_ld g0 e0 rfl ?_
  refine ab_q_go 2 (45, [(0, .ref 1000), (1, .ref 0), (2, .ref 13), (3, .ref 17), (4, .ref 18), (5, .int i)], [.int (x0 &&& (nI 63))], (X, w)) rfl ?_
  refine ab_q_go 1 (ab_tsw (x0 &&& nI 63) 2395, [(0, .ref 1000), (1, .ref 0), (2, .ref 13), (3, .ref 17), (4, .ref 18), (5, .int i)], [], (X, w)) rfl ?_
  refine ab_q_sw 568 hsw (by decide) ?_
  refine ab_q_go 2 (570, [(0, .ref 1000), (1, .ref 0), (2, .ref 13), (3, .ref 17), (4, .ref 18), (5, .int i)], [.ref 17, .ref 0], (X, w)) rfl ?_
  refine ab_q_ca (k2 := 226) (as := [.ref 0, .ref 17]) (rest := []) rfl rfl hW ?_
  refine ab_q_go 2 (576, [(6, .int kv), (0, .ref 1000), (1, .ref 0), (2, .ref 13), (3, .ref 17), (4, .ref 18), (5, .int i)], [.ref 13], (X1, w1)) rfl ?_
  refine ab_q_ca (k2 := 206) (as := [.ref 13]) (rest := []) rfl rfl hM ?_
  refine ab_q_go 2 (582, [(7, .int b), (6, .int kv), (0, .ref 1000), (1, .ref 0), (2, .ref 13), (3, .ref 17), (4, .ref 18), (5, .int i)], [.ref 13], (X2, w1)) rfl ?_
  refine ab_q_ca (k2 := 44) (as := [.ref 13]) (rest := []) rfl rfl (ab_ec_of (T_M_thrown S w1 X2 _ rfl)) ?_
  refine ab_q_go 1 (587, [(7, .int b), (6, .int kv), (0, .ref 1000), (1, .ref 0), (2, .ref 13), (3, .ref 17), (4, .ref 18), (5, .int i)], [.int kv, .int (X2 13 0)], (X2, w1)) rfl ?_
  refine ab_q_t (d := X2 13 0 = kv) (592, [(7, .int b), (6, .int kv), (0, .ref 1000), (1, .ref 0), (2, .ref 13), (3, .ref 17), (4, .ref 18), (5, .int i)], [], (X2, w1)) ht rfl ?_
  refine ab_q_go 1 (594, [(7, .int b), (6, .int kv), (0, .ref 1000), (1, .ref 0), (2, .ref 13), (3, .ref 17), (4, .ref 18), (5, .int i)], [.int kv], (X2, w1)) rfl ?_
  by_cases hk : kv = nI 0
  · refine ab_q_f (d := ¬ kv = nI 0) (597, [(7, .int b), (6, .int kv), (0, .ref 1000), (1, .ref 0), (2, .ref 13), (3, .ref 17), (4, .ref 18), (5, .int i)], [], (X2, w1)) (fun z => z hk) rfl ?_
    refine ab_q_go 2 (599, [(7, .int b), (6, .int kv), (0, .ref 1000), (1, .ref 0), (2, .ref 13), (3, .ref 17), (4, .ref 18), (5, .int i)], [.int (nI 0), .ref 17], (X2, w1)) rfl ?_
    refine ab_q_go 1 (600, [(7, .int b), (6, .int kv), (0, .ref 1000), (1, .ref 0), (2, .ref 13), (3, .ref 17), (4, .ref 18), (5, .int i)], [.long (w1.1 0)], (X2, w1)) rfl ?_
    refine ab_q_go 2 (603, [(7, .int b), (6, .int kv), (0, .ref 1000), (1, .ref 0), (2, .ref 13), (3, .ref 17), (4, .ref 18), (5, .int i)], [.long b.toInt64, .long (w1.1 0)], (X2, w1)) rfl ?_
    refine ab_q_go 1 (604, [(7, .int b), (6, .int kv), (0, .ref 1000), (1, .ref 0), (2, .ref 13), (3, .ref 17), (4, .ref 18), (5, .int i)], [.int (lg_cmp (w1.1 0) b.toInt64)], (X2, w1)) rfl ?_
    refine ab_q_t (d := lg_cmp (w1.1 0) b.toInt64 = nI 0) (609, [(7, .int b), (6, .int kv), (0, .ref 1000), (1, .ref 0), (2, .ref 13), (3, .ref 17), (4, .ref 18), (5, .int i)], [], (X2, w1)) (hb hk) rfl ?_
    refine ab_q_go 1 (2395, [(7, .int b), (6, .int kv), (0, .ref 1000), (1, .ref 0), (2, .ref 13), (3, .ref 17), (4, .ref 18), (5, .int i)], [], (X2, w1)) rfl ?_
    refine ab_q_go 2 (28, [(5, .int (i + nI 7)), (7, .int b), (6, .int kv), (0, .ref 1000), (1, .ref 0), (2, .ref 13), (3, .ref 17), (4, .ref 18)], [], (X2, w1)) rfl ?_
    exact ab_q_wk (lv0 := [(0, .ref 1000), (1, .ref 0), (2, .ref 13), (3, .ref 17), (4, .ref 18), (5, .int (i + nI 7))]) ⟨rfl, rfl, rfl, rfl, rfl, rfl, trivial⟩ ab_q_rf
  · refine ab_q_t (d := ¬ kv = nI 0) (609, [(7, .int b), (6, .int kv), (0, .ref 1000), (1, .ref 0), (2, .ref 13), (3, .ref 17), (4, .ref 18), (5, .int i)], [], (X2, w1)) hk rfl ?_
    refine ab_q_go 1 (2395, [(7, .int b), (6, .int kv), (0, .ref 1000), (1, .ref 0), (2, .ref 13), (3, .ref 17), (4, .ref 18), (5, .int i)], [], (X2, w1)) rfl ?_
    refine ab_q_go 2 (28, [(5, .int (i + nI 7)), (7, .int b), (6, .int kv), (0, .ref 1000), (1, .ref 0), (2, .ref 13), (3, .ref 17), (4, .ref 18)], [], (X2, w1)) rfl ?_
    exact ab_q_wk (lv0 := [(0, .ref 1000), (1, .ref 0), (2, .ref 13), (3, .ref 17), (4, .ref 18), (5, .int (i + nI 7))]) ⟨rfl, rfl, rfl, rfl, rfl, rfl, trivial⟩ ab_q_rf
set_option maxRecDepth 8000 in
set_option maxHeartbeats 1000000 in
theorem law_c5 (S : Nat × (Nat → Int32)) (w : ab_WW) (X : ab_XX) (i x0 : Int32) (hi : ¬ Int32.ofNat S.1 - nI 7 < i) (g0 : ab_in i S.1 = true) (e0 : S.2 i.toNatClampNeg = x0) (X1 X2 : ab_XX) (a b : Int32) (hsw : x0 &&& nI 63 = nI 5) (hC : ab_Ec S 1 (0, lv_args 0 [.ref 0], [], (X, w)) (.inl (some (.int a)), (X1, w)) 0) (hM : ab_Ec S 37 (0, lv_args 0 [.ref 13], [], (X1, w)) (.inl (some (.int b)), (X2, w)) 0) (hab : a = b) : ab_Rc S 252 0 (28, [(0, .ref 1000), (1, .ref 0), (2, .ref 13), (3, .ref 17), (4, .ref 18), (5, .int i)], [], (X, w)) (28, [(0, .ref 1000), (1, .ref 0), (2, .ref 13), (3, .ref 17), (4, .ref 18), (5, .int (i + nI 7))], [], (X2, w)) := by
  suffices z : ab_Rc S 252 (0 + (0 + 0)) (28, [(0, .ref 1000), (1, .ref 0), (2, .ref 13), (3, .ref 17), (4, .ref 18), (5, .int i)], [], (X, w)) (28, [(0, .ref 1000), (1, .ref 0), (2, .ref 13), (3, .ref 17), (4, .ref 18), (5, .int (i + nI 7))], [], (X2, w)) from z
  refine ab_q_go 5 (35, [(0, .ref 1000), (1, .ref 0), (2, .ref 13), (3, .ref 17), (4, .ref 18), (5, .int i)], [.int (Int32.ofNat S.1 - nI 7), .int i], (X, w)) rfl ?_
  refine ab_q_f (d := Int32.ofNat S.1 - nI 7 < i) (38, [(0, .ref 1000), (1, .ref 0), (2, .ref 13), (3, .ref 17), (4, .ref 18), (5, .int i)], [], (X, w)) hi rfl ?_
  refine ab_q_go 2 (41, [(0, .ref 1000), (1, .ref 0), (2, .ref 13), (3, .ref 17), (4, .ref 18), (5, .int i)], [.int i, .ref 1000], (X, w)) rfl ?_
  refine ab_q_ld g0 e0 rfl ?_
  refine ab_q_go 2 (45, [(0, .ref 1000), (1, .ref 0), (2, .ref 13), (3, .ref 17), (4, .ref 18), (5, .int i)], [.int (x0 &&& (nI 63))], (X, w)) rfl ?_
  refine ab_q_go 1 (ab_tsw (x0 &&& nI 63) 2395, [(0, .ref 1000), (1, .ref 0), (2, .ref 13), (3, .ref 17), (4, .ref 18), (5, .int i)], [], (X, w)) rfl ?_
  refine ab_q_sw 612 hsw (by decide) ?_
  refine ab_q_go 1 (613, [(0, .ref 1000), (1, .ref 0), (2, .ref 13), (3, .ref 17), (4, .ref 18), (5, .int i)], [.ref 0], (X, w)) rfl ?_
  refine ab_q_ca (k2 := 1) (as := [.ref 0]) (rest := []) rfl rfl hC ?_
  refine ab_q_go 1 (617, [(0, .ref 1000), (1, .ref 0), (2, .ref 13), (3, .ref 17), (4, .ref 18), (5, .int i)], [.ref 13, .int a], (X1, w)) rfl ?_
  refine ab_q_ca (k2 := 37) (as := [.ref 13]) (rest := [.int a]) rfl rfl hM ?_
  refine ab_q_t (d := a = b) (2395, [(0, .ref 1000), (1, .ref 0), (2, .ref 13), (3, .ref 17), (4, .ref 18), (5, .int i)], [], (X2, w)) hab rfl ?_
  refine ab_q_go 2 (28, [(5, .int (i + nI 7)), (0, .ref 1000), (1, .ref 0), (2, .ref 13), (3, .ref 17), (4, .ref 18)], [], (X2, w)) rfl ?_
  exact ab_q_wk (lv0 := [(0, .ref 1000), (1, .ref 0), (2, .ref 13), (3, .ref 17), (4, .ref 18), (5, .int (i + nI 7))]) ⟨rfl, rfl, rfl, rfl, rfl, rfl, trivial⟩ ab_q_rf
set_option maxRecDepth 8000 in
set_option maxHeartbeats 1000000 in
theorem law_c6 (S : Nat × (Nat → Int32)) (w : ab_WW) (X : ab_XX) (i x0 : Int32) (hi : ¬ Int32.ofNat S.1 - nI 7 < i) (g0 : ab_in i S.1 = true) (e0 : S.2 i.toNatClampNeg = x0) (X1 X2 : ab_XX) (a b : Int32) (hsw : x0 &&& nI 63 = nI 6) (hC : ab_Ec S 0 (0, lv_args 0 [.ref 0], [], (X, w)) (.inl (some (.int a)), (X1, w)) 0) (hM : ab_Ec S 36 (0, lv_args 0 [.ref 13], [], (X1, w)) (.inl (some (.int b)), (X2, w)) 0) (hab : a = b) : ab_Rc S 252 0 (28, [(0, .ref 1000), (1, .ref 0), (2, .ref 13), (3, .ref 17), (4, .ref 18), (5, .int i)], [], (X, w)) (28, [(0, .ref 1000), (1, .ref 0), (2, .ref 13), (3, .ref 17), (4, .ref 18), (5, .int (i + nI 7))], [], (X2, w)) := by
  suffices z : ab_Rc S 252 (0 + (0 + 0)) (28, [(0, .ref 1000), (1, .ref 0), (2, .ref 13), (3, .ref 17), (4, .ref 18), (5, .int i)], [], (X, w)) (28, [(0, .ref 1000), (1, .ref 0), (2, .ref 13), (3, .ref 17), (4, .ref 18), (5, .int (i + nI 7))], [], (X2, w)) from z
  refine ab_q_go 5 (35, [(0, .ref 1000), (1, .ref 0), (2, .ref 13), (3, .ref 17), (4, .ref 18), (5, .int i)], [.int (Int32.ofNat S.1 - nI 7), .int i], (X, w)) rfl ?_
  refine ab_q_f (d := Int32.ofNat S.1 - nI 7 < i) (38, [(0, .ref 1000), (1, .ref 0), (2, .ref 13), (3, .ref 17), (4, .ref 18), (5, .int i)], [], (X, w)) hi rfl ?_
  refine ab_q_go 2 (41, [(0, .ref 1000), (1, .ref 0), (2, .ref 13), (3, .ref 17), (4, .ref 18), (5, .int i)], [.int i, .ref 1000], (X, w)) rfl ?_
  refine ab_q_ld g0 e0 rfl ?_
  refine ab_q_go 2 (45, [(0, .ref 1000), (1, .ref 0), (2, .ref 13), (3, .ref 17), (4, .ref 18), (5, .int i)], [.int (x0 &&& (nI 63))], (X, w)) rfl ?_
  refine ab_q_go 1 (ab_tsw (x0 &&& nI 63) 2395, [(0, .ref 1000), (1, .ref 0), (2, .ref 13), (3, .ref 17), (4, .ref 18), (5, .int i)], [], (X, w)) rfl ?_
  refine ab_q_sw 625 hsw (by decide) ?_
  refine ab_q_go 1 (626, [(0, .ref 1000), (1, .ref 0), (2, .ref 13), (3, .ref 17), (4, .ref 18), (5, .int i)], [.ref 0], (X, w)) rfl ?_
  refine ab_q_ca (k2 := 0) (as := [.ref 0]) (rest := []) rfl rfl hC ?_
  refine ab_q_go 1 (630, [(0, .ref 1000), (1, .ref 0), (2, .ref 13), (3, .ref 17), (4, .ref 18), (5, .int i)], [.ref 13, .int a], (X1, w)) rfl ?_
  refine ab_q_ca (k2 := 36) (as := [.ref 13]) (rest := [.int a]) rfl rfl hM ?_
  refine ab_q_t (d := a = b) (2395, [(0, .ref 1000), (1, .ref 0), (2, .ref 13), (3, .ref 17), (4, .ref 18), (5, .int i)], [], (X2, w)) hab rfl ?_
  refine ab_q_go 2 (28, [(5, .int (i + nI 7)), (0, .ref 1000), (1, .ref 0), (2, .ref 13), (3, .ref 17), (4, .ref 18)], [], (X2, w)) rfl ?_
  exact ab_q_wk (lv0 := [(0, .ref 1000), (1, .ref 0), (2, .ref 13), (3, .ref 17), (4, .ref 18), (5, .int (i + nI 7))]) ⟨rfl, rfl, rfl, rfl, rfl, rfl, trivial⟩ ab_q_rf
set_option maxRecDepth 8000 in
set_option maxHeartbeats 1000000 in
theorem law_c7 (S : Nat × (Nat → Int32)) (w : ab_WW) (X : ab_XX) (i x0 : Int32) (hi : ¬ Int32.ofNat S.1 - nI 7 < i) (g0 : ab_in i S.1 = true) (e0 : S.2 i.toNatClampNeg = x0) (X1 X2 : ab_XX) (a b : Int32) (hsw : x0 &&& nI 63 = nI 7) (hC : ab_Ec S 54 (0, lv_args 0 [.ref 0], [], (X, w)) (.inl (some (.int a)), (X1, w)) 0) (hM : ab_Ec S 111 (0, lv_args 0 [.ref 13], [], (X1, w)) (.inl (some (.int b)), (X2, w)) 0) (hab : a = b) : ab_Rc S 252 0 (28, [(0, .ref 1000), (1, .ref 0), (2, .ref 13), (3, .ref 17), (4, .ref 18), (5, .int i)], [], (X, w)) (28, [(0, .ref 1000), (1, .ref 0), (2, .ref 13), (3, .ref 17), (4, .ref 18), (5, .int (i + nI 7))], [], (X2, w)) := by
  suffices z : ab_Rc S 252 (0 + (0 + 0)) (28, [(0, .ref 1000), (1, .ref 0), (2, .ref 13), (3, .ref 17), (4, .ref 18), (5, .int i)], [], (X, w)) (28, [(0, .ref 1000), (1, .ref 0), (2, .ref 13), (3, .ref 17), (4, .ref 18), (5, .int (i + nI 7))], [], (X2, w)) from z
  refine ab_q_go 5 (35, [(0, .ref 1000), (1, .ref 0), (2, .ref 13), (3, .ref 17), (4, .ref 18), (5, .int i)], [.int (Int32.ofNat S.1 - nI 7), .int i], (X, w)) rfl ?_
  refine ab_q_f (d := Int32.ofNat S.1 - nI 7 < i) (38, [(0, .ref 1000), (1, .ref 0), (2, .ref 13), (3, .ref 17), (4, .ref 18), (5, .int i)], [], (X, w)) hi rfl ?_
  refine ab_q_go 2 (41, [(0, .ref 1000), (1, .ref 0), (2, .ref 13), (3, .ref 17), (4, .ref 18), (5, .int i)], [.int i, .ref 1000], (X, w)) rfl ?_
  refine ab_q_ld g0 e0 rfl ?_
  refine ab_q_go 2 (45, [(0, .ref 1000), (1, .ref 0), (2, .ref 13), (3, .ref 17), (4, .ref 18), (5, .int i)], [.int (x0 &&& (nI 63))], (X, w)) rfl ?_
  refine ab_q_go 1 (ab_tsw (x0 &&& nI 63) 2395, [(0, .ref 1000), (1, .ref 0), (2, .ref 13), (3, .ref 17), (4, .ref 18), (5, .int i)], [], (X, w)) rfl ?_
  refine ab_q_sw 638 hsw (by decide) ?_
  refine ab_q_go 1 (639, [(0, .ref 1000), (1, .ref 0), (2, .ref 13), (3, .ref 17), (4, .ref 18), (5, .int i)], [.ref 0], (X, w)) rfl ?_
  refine ab_q_ca (k2 := 54) (as := [.ref 0]) (rest := []) rfl rfl hC ?_
  refine ab_q_go 1 (643, [(0, .ref 1000), (1, .ref 0), (2, .ref 13), (3, .ref 17), (4, .ref 18), (5, .int i)], [.ref 13, .int a], (X1, w)) rfl ?_
  refine ab_q_ca (k2 := 111) (as := [.ref 13]) (rest := [.int a]) rfl rfl hM ?_
  refine ab_q_t (d := a = b) (2395, [(0, .ref 1000), (1, .ref 0), (2, .ref 13), (3, .ref 17), (4, .ref 18), (5, .int i)], [], (X2, w)) hab rfl ?_
  refine ab_q_go 2 (28, [(5, .int (i + nI 7)), (0, .ref 1000), (1, .ref 0), (2, .ref 13), (3, .ref 17), (4, .ref 18)], [], (X2, w)) rfl ?_
  exact ab_q_wk (lv0 := [(0, .ref 1000), (1, .ref 0), (2, .ref 13), (3, .ref 17), (4, .ref 18), (5, .int (i + nI 7))]) ⟨rfl, rfl, rfl, rfl, rfl, rfl, trivial⟩ ab_q_rf
set_option maxRecDepth 8000 in
set_option maxHeartbeats 1000000 in
theorem law_c8 (S : Nat × (Nat → Int32)) (w : ab_WW) (X : ab_XX) (i x0 : Int32) (hi : ¬ Int32.ofNat S.1 - nI 7 < i) (g0 : ab_in i S.1 = true) (e0 : S.2 i.toNatClampNeg = x0) (x1 : Int32) (g1 : ab_in (i + nI 1) S.1 = true) (e1 : S.2 (i + nI 1).toNatClampNeg = x1) (x2 : Int32) (g2 : ab_in (i + nI 2) S.1 = true) (e2 : S.2 (i + nI 2).toNatClampNeg = x2) (w1 : ab_WW) (X1 X2 : ab_XX) (kv : Int32) (b : Int32) (c : Nat) (hsw : x0 &&& nI 63 = nI 8) (hW : ab_Ec S 179 (0, lv_args 0 [.ref 0, .int x1, .int x2, .ref 17], [], (X, w)) (.inl (some (.int kv)), (X1, w1)) c) (hM : ab_Ec S 153 (0, lv_args 0 [.ref 13, .int x1, .int x2], [], (X1, w1)) (.inl (some (.int b)), (X2, w1)) 0) (ht : X2 13 0 = kv) (hb : kv = nI 0 → lg_cmp (w1.1 0) b.toInt64 = nI 0) : ab_Rc S 252 c (28, [(0, .ref 1000), (1, .ref 0), (2, .ref 13), (3, .ref 17), (4, .ref 18), (5, .int i)], [], (X, w)) (28, [(0, .ref 1000), (1, .ref 0), (2, .ref 13), (3, .ref 17), (4, .ref 18), (5, .int (i + nI 7))], [], (X2, w1)) := by
  rw [show c = c + (0 + (0 + 0)) by omega]
  refine ab_q_go 5 (35, [(0, .ref 1000), (1, .ref 0), (2, .ref 13), (3, .ref 17), (4, .ref 18), (5, .int i)], [.int (Int32.ofNat S.1 - nI 7), .int i], (X, w)) rfl ?_
  refine ab_q_f (d := Int32.ofNat S.1 - nI 7 < i) (38, [(0, .ref 1000), (1, .ref 0), (2, .ref 13), (3, .ref 17), (4, .ref 18), (5, .int i)], [], (X, w)) hi rfl ?_
  refine ab_q_go 2 (41, [(0, .ref 1000), (1, .ref 0), (2, .ref 13), (3, .ref 17), (4, .ref 18), (5, .int i)], [.int i, .ref 1000], (X, w)) rfl ?_
  refine ab_q_ld g0 e0 rfl ?_
  refine ab_q_go 2 (45, [(0, .ref 1000), (1, .ref 0), (2, .ref 13), (3, .ref 17), (4, .ref 18), (5, .int i)], [.int (x0 &&& (nI 63))], (X, w)) rfl ?_
  refine ab_q_go 1 (ab_tsw (x0 &&& nI 63) 2395, [(0, .ref 1000), (1, .ref 0), (2, .ref 13), (3, .ref 17), (4, .ref 18), (5, .int i)], [], (X, w)) rfl ?_
  refine ab_q_sw 651 hsw (by decide) ?_
  refine ab_q_go 5 (657, [(0, .ref 1000), (1, .ref 0), (2, .ref 13), (3, .ref 17), (4, .ref 18), (5, .int i)], [.int (i + (nI 1)), .ref 1000, .ref 0], (X, w)) rfl ?_
  refine ab_q_ld g1 e1 rfl ?_
  refine ab_q_go 4 (663, [(0, .ref 1000), (1, .ref 0), (2, .ref 13), (3, .ref 17), (4, .ref 18), (5, .int i)], [.int (i + (nI 2)), .ref 1000, .int x1, .ref 0], (X, w)) rfl ?_
  refine ab_q_ld g2 e2 rfl ?_
  refine ab_q_go 1 (665, [(0, .ref 1000), (1, .ref 0), (2, .ref 13), (3, .ref 17), (4, .ref 18), (5, .int i)], [.ref 17, .int x2, .int x1, .ref 0], (X, w)) rfl ?_
  refine ab_q_ca (k2 := 179) (as := [.ref 0, .int x1, .int x2, .ref 17]) (rest := []) rfl rfl hW ?_
  refine ab_q_go 6 (676, [(6, .int kv), (0, .ref 1000), (1, .ref 0), (2, .ref 13), (3, .ref 17), (4, .ref 18), (5, .int i)], [.int (i + (nI 1)), .ref 1000, .ref 13], (X1, w1)) rfl ?_
  refine ab_q_ld g1 e1 rfl ?_
  refine ab_q_go 4 (682, [(6, .int kv), (0, .ref 1000), (1, .ref 0), (2, .ref 13), (3, .ref 17), (4, .ref 18), (5, .int i)], [.int (i + (nI 2)), .ref 1000, .int x1, .ref 13], (X1, w1)) rfl ?_
  refine ab_q_ld g2 e2 rfl ?_
  refine ab_q_ca (k2 := 153) (as := [.ref 13, .int x1, .int x2]) (rest := []) rfl rfl hM ?_
  refine ab_q_go 2 (689, [(7, .int b), (6, .int kv), (0, .ref 1000), (1, .ref 0), (2, .ref 13), (3, .ref 17), (4, .ref 18), (5, .int i)], [.ref 13], (X2, w1)) rfl ?_
  refine ab_q_ca (k2 := 44) (as := [.ref 13]) (rest := []) rfl rfl (ab_ec_of (T_M_thrown S w1 X2 _ rfl)) ?_
  refine ab_q_go 1 (694, [(7, .int b), (6, .int kv), (0, .ref 1000), (1, .ref 0), (2, .ref 13), (3, .ref 17), (4, .ref 18), (5, .int i)], [.int kv, .int (X2 13 0)], (X2, w1)) rfl ?_
  refine ab_q_t (d := X2 13 0 = kv) (699, [(7, .int b), (6, .int kv), (0, .ref 1000), (1, .ref 0), (2, .ref 13), (3, .ref 17), (4, .ref 18), (5, .int i)], [], (X2, w1)) ht rfl ?_
  refine ab_q_go 1 (701, [(7, .int b), (6, .int kv), (0, .ref 1000), (1, .ref 0), (2, .ref 13), (3, .ref 17), (4, .ref 18), (5, .int i)], [.int kv], (X2, w1)) rfl ?_
  by_cases hk : kv = nI 0
  · refine ab_q_f (d := ¬ kv = nI 0) (704, [(7, .int b), (6, .int kv), (0, .ref 1000), (1, .ref 0), (2, .ref 13), (3, .ref 17), (4, .ref 18), (5, .int i)], [], (X2, w1)) (fun z => z hk) rfl ?_
    refine ab_q_go 2 (706, [(7, .int b), (6, .int kv), (0, .ref 1000), (1, .ref 0), (2, .ref 13), (3, .ref 17), (4, .ref 18), (5, .int i)], [.int (nI 0), .ref 17], (X2, w1)) rfl ?_
    refine ab_q_go 1 (707, [(7, .int b), (6, .int kv), (0, .ref 1000), (1, .ref 0), (2, .ref 13), (3, .ref 17), (4, .ref 18), (5, .int i)], [.long (w1.1 0)], (X2, w1)) rfl ?_
    refine ab_q_go 2 (710, [(7, .int b), (6, .int kv), (0, .ref 1000), (1, .ref 0), (2, .ref 13), (3, .ref 17), (4, .ref 18), (5, .int i)], [.long b.toInt64, .long (w1.1 0)], (X2, w1)) rfl ?_
    refine ab_q_go 1 (711, [(7, .int b), (6, .int kv), (0, .ref 1000), (1, .ref 0), (2, .ref 13), (3, .ref 17), (4, .ref 18), (5, .int i)], [.int (lg_cmp (w1.1 0) b.toInt64)], (X2, w1)) rfl ?_
    refine ab_q_t (d := lg_cmp (w1.1 0) b.toInt64 = nI 0) (716, [(7, .int b), (6, .int kv), (0, .ref 1000), (1, .ref 0), (2, .ref 13), (3, .ref 17), (4, .ref 18), (5, .int i)], [], (X2, w1)) (hb hk) rfl ?_
    refine ab_q_go 1 (2395, [(7, .int b), (6, .int kv), (0, .ref 1000), (1, .ref 0), (2, .ref 13), (3, .ref 17), (4, .ref 18), (5, .int i)], [], (X2, w1)) rfl ?_
    refine ab_q_go 2 (28, [(5, .int (i + nI 7)), (7, .int b), (6, .int kv), (0, .ref 1000), (1, .ref 0), (2, .ref 13), (3, .ref 17), (4, .ref 18)], [], (X2, w1)) rfl ?_
    exact ab_q_wk (lv0 := [(0, .ref 1000), (1, .ref 0), (2, .ref 13), (3, .ref 17), (4, .ref 18), (5, .int (i + nI 7))]) ⟨rfl, rfl, rfl, rfl, rfl, rfl, trivial⟩ ab_q_rf
  · refine ab_q_t (d := ¬ kv = nI 0) (716, [(7, .int b), (6, .int kv), (0, .ref 1000), (1, .ref 0), (2, .ref 13), (3, .ref 17), (4, .ref 18), (5, .int i)], [], (X2, w1)) hk rfl ?_
    refine ab_q_go 1 (2395, [(7, .int b), (6, .int kv), (0, .ref 1000), (1, .ref 0), (2, .ref 13), (3, .ref 17), (4, .ref 18), (5, .int i)], [], (X2, w1)) rfl ?_
    refine ab_q_go 2 (28, [(5, .int (i + nI 7)), (7, .int b), (6, .int kv), (0, .ref 1000), (1, .ref 0), (2, .ref 13), (3, .ref 17), (4, .ref 18)], [], (X2, w1)) rfl ?_
    exact ab_q_wk (lv0 := [(0, .ref 1000), (1, .ref 0), (2, .ref 13), (3, .ref 17), (4, .ref 18), (5, .int (i + nI 7))]) ⟨rfl, rfl, rfl, rfl, rfl, rfl, trivial⟩ ab_q_rf
set_option maxRecDepth 8000 in
set_option maxHeartbeats 1000000 in
theorem law_c9 (S : Nat × (Nat → Int32)) (w : ab_WW) (X : ab_XX) (i x0 : Int32) (hi : ¬ Int32.ofNat S.1 - nI 7 < i) (g0 : ab_in i S.1 = true) (e0 : S.2 i.toNatClampNeg = x0) (X1 X2 : ab_XX) (a b : Int32) (hsw : x0 &&& nI 63 = nI 9) (hC : ab_Ec S 53 (0, lv_args 0 [.ref 0], [], (X, w)) (.inl (some (.int a)), (X1, w)) 0) (hM : ab_Ec S 107 (0, lv_args 0 [.ref 13], [], (X1, w)) (.inl (some (.int b)), (X2, w)) 0) (hab : a = b) : ab_Rc S 252 0 (28, [(0, .ref 1000), (1, .ref 0), (2, .ref 13), (3, .ref 17), (4, .ref 18), (5, .int i)], [], (X, w)) (28, [(0, .ref 1000), (1, .ref 0), (2, .ref 13), (3, .ref 17), (4, .ref 18), (5, .int (i + nI 7))], [], (X2, w)) := by
  suffices z : ab_Rc S 252 (0 + (0 + 0)) (28, [(0, .ref 1000), (1, .ref 0), (2, .ref 13), (3, .ref 17), (4, .ref 18), (5, .int i)], [], (X, w)) (28, [(0, .ref 1000), (1, .ref 0), (2, .ref 13), (3, .ref 17), (4, .ref 18), (5, .int (i + nI 7))], [], (X2, w)) from z
  refine ab_q_go 5 (35, [(0, .ref 1000), (1, .ref 0), (2, .ref 13), (3, .ref 17), (4, .ref 18), (5, .int i)], [.int (Int32.ofNat S.1 - nI 7), .int i], (X, w)) rfl ?_
  refine ab_q_f (d := Int32.ofNat S.1 - nI 7 < i) (38, [(0, .ref 1000), (1, .ref 0), (2, .ref 13), (3, .ref 17), (4, .ref 18), (5, .int i)], [], (X, w)) hi rfl ?_
  refine ab_q_go 2 (41, [(0, .ref 1000), (1, .ref 0), (2, .ref 13), (3, .ref 17), (4, .ref 18), (5, .int i)], [.int i, .ref 1000], (X, w)) rfl ?_
  refine ab_q_ld g0 e0 rfl ?_
  refine ab_q_go 2 (45, [(0, .ref 1000), (1, .ref 0), (2, .ref 13), (3, .ref 17), (4, .ref 18), (5, .int i)], [.int (x0 &&& (nI 63))], (X, w)) rfl ?_
  refine ab_q_go 1 (ab_tsw (x0 &&& nI 63) 2395, [(0, .ref 1000), (1, .ref 0), (2, .ref 13), (3, .ref 17), (4, .ref 18), (5, .int i)], [], (X, w)) rfl ?_
  refine ab_q_sw 719 hsw (by decide) ?_
  refine ab_q_go 1 (720, [(0, .ref 1000), (1, .ref 0), (2, .ref 13), (3, .ref 17), (4, .ref 18), (5, .int i)], [.ref 0], (X, w)) rfl ?_
  refine ab_q_ca (k2 := 53) (as := [.ref 0]) (rest := []) rfl rfl hC ?_
  refine ab_q_go 1 (724, [(0, .ref 1000), (1, .ref 0), (2, .ref 13), (3, .ref 17), (4, .ref 18), (5, .int i)], [.ref 13, .int a], (X1, w)) rfl ?_
  refine ab_q_ca (k2 := 107) (as := [.ref 13]) (rest := [.int a]) rfl rfl hM ?_
  refine ab_q_t (d := a = b) (2395, [(0, .ref 1000), (1, .ref 0), (2, .ref 13), (3, .ref 17), (4, .ref 18), (5, .int i)], [], (X2, w)) hab rfl ?_
  refine ab_q_go 2 (28, [(5, .int (i + nI 7)), (0, .ref 1000), (1, .ref 0), (2, .ref 13), (3, .ref 17), (4, .ref 18)], [], (X2, w)) rfl ?_
  exact ab_q_wk (lv0 := [(0, .ref 1000), (1, .ref 0), (2, .ref 13), (3, .ref 17), (4, .ref 18), (5, .int (i + nI 7))]) ⟨rfl, rfl, rfl, rfl, rfl, rfl, trivial⟩ ab_q_rf
set_option maxRecDepth 8000 in
set_option maxHeartbeats 1000000 in
theorem law_c10 (S : Nat × (Nat → Int32)) (w : ab_WW) (X : ab_XX) (i x0 : Int32) (hi : ¬ Int32.ofNat S.1 - nI 7 < i) (g0 : ab_in i S.1 = true) (e0 : S.2 i.toNatClampNeg = x0) (x1 : Int32) (g1 : ab_in (i + nI 1) S.1 = true) (e1 : S.2 (i + nI 1).toNatClampNeg = x1) (x2 : Int32) (g2 : ab_in (i + nI 2) S.1 = true) (e2 : S.2 (i + nI 2).toNatClampNeg = x2) (w1 : ab_WW) (X1 X2 : ab_XX) (kv : Int32) (b : Int32) (c : Nat) (hsw : x0 &&& nI 63 = nI 10) (hW : ab_Ec S 204 (0, lv_args 0 [.ref 0, .int x1, .int x2, .ref 17], [], (X, w)) (.inl (some (.int kv)), (X1, w1)) c) (hM : ab_Ec S 187 (0, lv_args 0 [.ref 13, .int x1, .int x2], [], (X1, w1)) (.inl (some (.int b)), (X2, w1)) 0) (ht : X2 13 0 = kv) (hb : kv = nI 0 → lg_cmp (w1.1 0) b.toInt64 = nI 0) : ab_Rc S 252 c (28, [(0, .ref 1000), (1, .ref 0), (2, .ref 13), (3, .ref 17), (4, .ref 18), (5, .int i)], [], (X, w)) (28, [(0, .ref 1000), (1, .ref 0), (2, .ref 13), (3, .ref 17), (4, .ref 18), (5, .int (i + nI 7))], [], (X2, w1)) := by
  rw [show c = c + (0 + (0 + 0)) by omega]
  refine ab_q_go 5 (35, [(0, .ref 1000), (1, .ref 0), (2, .ref 13), (3, .ref 17), (4, .ref 18), (5, .int i)], [.int (Int32.ofNat S.1 - nI 7), .int i], (X, w)) rfl ?_
  refine ab_q_f (d := Int32.ofNat S.1 - nI 7 < i) (38, [(0, .ref 1000), (1, .ref 0), (2, .ref 13), (3, .ref 17), (4, .ref 18), (5, .int i)], [], (X, w)) hi rfl ?_
  refine ab_q_go 2 (41, [(0, .ref 1000), (1, .ref 0), (2, .ref 13), (3, .ref 17), (4, .ref 18), (5, .int i)], [.int i, .ref 1000], (X, w)) rfl ?_
  refine ab_q_ld g0 e0 rfl ?_
  refine ab_q_go 2 (45, [(0, .ref 1000), (1, .ref 0), (2, .ref 13), (3, .ref 17), (4, .ref 18), (5, .int i)], [.int (x0 &&& (nI 63))], (X, w)) rfl ?_
  refine ab_q_go 1 (ab_tsw (x0 &&& nI 63) 2395, [(0, .ref 1000), (1, .ref 0), (2, .ref 13), (3, .ref 17), (4, .ref 18), (5, .int i)], [], (X, w)) rfl ?_
  refine ab_q_sw 732 hsw (by decide) ?_
  refine ab_q_go 5 (738, [(0, .ref 1000), (1, .ref 0), (2, .ref 13), (3, .ref 17), (4, .ref 18), (5, .int i)], [.int (i + (nI 1)), .ref 1000, .ref 0], (X, w)) rfl ?_
  refine ab_q_ld g1 e1 rfl ?_
  refine ab_q_go 4 (744, [(0, .ref 1000), (1, .ref 0), (2, .ref 13), (3, .ref 17), (4, .ref 18), (5, .int i)], [.int (i + (nI 2)), .ref 1000, .int x1, .ref 0], (X, w)) rfl ?_
  refine ab_q_ld g2 e2 rfl ?_
  refine ab_q_go 1 (746, [(0, .ref 1000), (1, .ref 0), (2, .ref 13), (3, .ref 17), (4, .ref 18), (5, .int i)], [.ref 17, .int x2, .int x1, .ref 0], (X, w)) rfl ?_
  refine ab_q_ca (k2 := 204) (as := [.ref 0, .int x1, .int x2, .ref 17]) (rest := []) rfl rfl hW ?_
  refine ab_q_go 6 (757, [(6, .int kv), (0, .ref 1000), (1, .ref 0), (2, .ref 13), (3, .ref 17), (4, .ref 18), (5, .int i)], [.int (i + (nI 1)), .ref 1000, .ref 13], (X1, w1)) rfl ?_
  refine ab_q_ld g1 e1 rfl ?_
  refine ab_q_go 4 (763, [(6, .int kv), (0, .ref 1000), (1, .ref 0), (2, .ref 13), (3, .ref 17), (4, .ref 18), (5, .int i)], [.int (i + (nI 2)), .ref 1000, .int x1, .ref 13], (X1, w1)) rfl ?_
  refine ab_q_ld g2 e2 rfl ?_
  refine ab_q_ca (k2 := 187) (as := [.ref 13, .int x1, .int x2]) (rest := []) rfl rfl hM ?_
  refine ab_q_go 2 (770, [(7, .int b), (6, .int kv), (0, .ref 1000), (1, .ref 0), (2, .ref 13), (3, .ref 17), (4, .ref 18), (5, .int i)], [.ref 13], (X2, w1)) rfl ?_
  refine ab_q_ca (k2 := 44) (as := [.ref 13]) (rest := []) rfl rfl (ab_ec_of (T_M_thrown S w1 X2 _ rfl)) ?_
  refine ab_q_go 1 (775, [(7, .int b), (6, .int kv), (0, .ref 1000), (1, .ref 0), (2, .ref 13), (3, .ref 17), (4, .ref 18), (5, .int i)], [.int kv, .int (X2 13 0)], (X2, w1)) rfl ?_
  refine ab_q_t (d := X2 13 0 = kv) (780, [(7, .int b), (6, .int kv), (0, .ref 1000), (1, .ref 0), (2, .ref 13), (3, .ref 17), (4, .ref 18), (5, .int i)], [], (X2, w1)) ht rfl ?_
  refine ab_q_go 1 (782, [(7, .int b), (6, .int kv), (0, .ref 1000), (1, .ref 0), (2, .ref 13), (3, .ref 17), (4, .ref 18), (5, .int i)], [.int kv], (X2, w1)) rfl ?_
  by_cases hk : kv = nI 0
  · refine ab_q_f (d := ¬ kv = nI 0) (785, [(7, .int b), (6, .int kv), (0, .ref 1000), (1, .ref 0), (2, .ref 13), (3, .ref 17), (4, .ref 18), (5, .int i)], [], (X2, w1)) (fun z => z hk) rfl ?_
    refine ab_q_go 2 (787, [(7, .int b), (6, .int kv), (0, .ref 1000), (1, .ref 0), (2, .ref 13), (3, .ref 17), (4, .ref 18), (5, .int i)], [.int (nI 0), .ref 17], (X2, w1)) rfl ?_
    refine ab_q_go 1 (788, [(7, .int b), (6, .int kv), (0, .ref 1000), (1, .ref 0), (2, .ref 13), (3, .ref 17), (4, .ref 18), (5, .int i)], [.long (w1.1 0)], (X2, w1)) rfl ?_
    refine ab_q_go 2 (791, [(7, .int b), (6, .int kv), (0, .ref 1000), (1, .ref 0), (2, .ref 13), (3, .ref 17), (4, .ref 18), (5, .int i)], [.long b.toInt64, .long (w1.1 0)], (X2, w1)) rfl ?_
    refine ab_q_go 1 (792, [(7, .int b), (6, .int kv), (0, .ref 1000), (1, .ref 0), (2, .ref 13), (3, .ref 17), (4, .ref 18), (5, .int i)], [.int (lg_cmp (w1.1 0) b.toInt64)], (X2, w1)) rfl ?_
    refine ab_q_t (d := lg_cmp (w1.1 0) b.toInt64 = nI 0) (797, [(7, .int b), (6, .int kv), (0, .ref 1000), (1, .ref 0), (2, .ref 13), (3, .ref 17), (4, .ref 18), (5, .int i)], [], (X2, w1)) (hb hk) rfl ?_
    refine ab_q_go 1 (2395, [(7, .int b), (6, .int kv), (0, .ref 1000), (1, .ref 0), (2, .ref 13), (3, .ref 17), (4, .ref 18), (5, .int i)], [], (X2, w1)) rfl ?_
    refine ab_q_go 2 (28, [(5, .int (i + nI 7)), (7, .int b), (6, .int kv), (0, .ref 1000), (1, .ref 0), (2, .ref 13), (3, .ref 17), (4, .ref 18)], [], (X2, w1)) rfl ?_
    exact ab_q_wk (lv0 := [(0, .ref 1000), (1, .ref 0), (2, .ref 13), (3, .ref 17), (4, .ref 18), (5, .int (i + nI 7))]) ⟨rfl, rfl, rfl, rfl, rfl, rfl, trivial⟩ ab_q_rf
  · refine ab_q_t (d := ¬ kv = nI 0) (797, [(7, .int b), (6, .int kv), (0, .ref 1000), (1, .ref 0), (2, .ref 13), (3, .ref 17), (4, .ref 18), (5, .int i)], [], (X2, w1)) hk rfl ?_
    refine ab_q_go 1 (2395, [(7, .int b), (6, .int kv), (0, .ref 1000), (1, .ref 0), (2, .ref 13), (3, .ref 17), (4, .ref 18), (5, .int i)], [], (X2, w1)) rfl ?_
    refine ab_q_go 2 (28, [(5, .int (i + nI 7)), (7, .int b), (6, .int kv), (0, .ref 1000), (1, .ref 0), (2, .ref 13), (3, .ref 17), (4, .ref 18)], [], (X2, w1)) rfl ?_
    exact ab_q_wk (lv0 := [(0, .ref 1000), (1, .ref 0), (2, .ref 13), (3, .ref 17), (4, .ref 18), (5, .int (i + nI 7))]) ⟨rfl, rfl, rfl, rfl, rfl, rfl, trivial⟩ ab_q_rf
set_option maxRecDepth 8000 in
set_option maxHeartbeats 1000000 in
theorem law_c11 (S : Nat × (Nat → Int32)) (w : ab_WW) (X : ab_XX) (i x0 : Int32) (hi : ¬ Int32.ofNat S.1 - nI 7 < i) (g0 : ab_in i S.1 = true) (e0 : S.2 i.toNatClampNeg = x0) (x1 : Int32) (g1 : ab_in (i + nI 1) S.1 = true) (e1 : S.2 (i + nI 1).toNatClampNeg = x1) (x2 : Int32) (g2 : ab_in (i + nI 2) S.1 = true) (e2 : S.2 (i + nI 2).toNatClampNeg = x2) (w1 : ab_WW) (X1 X2 : ab_XX) (kv : Int32) (b : Int32) (c : Nat) (hsw : x0 &&& nI 63 = nI 11) (hW : ab_Ec S 199 (0, lv_args 0 [.ref 0, .int x1, .int x2, .ref 17], [], (X, w)) (.inl (some (.int kv)), (X1, w1)) c) (hM : ab_Ec S 140 (0, lv_args 0 [.ref 13, .int x1, .int x2], [], (X1, w1)) (.inl (some (.int b)), (X2, w1)) 0) (ht : X2 13 0 = kv) (hb : kv = nI 0 → lg_cmp (w1.1 0) b.toInt64 = nI 0) : ab_Rc S 252 c (28, [(0, .ref 1000), (1, .ref 0), (2, .ref 13), (3, .ref 17), (4, .ref 18), (5, .int i)], [], (X, w)) (28, [(0, .ref 1000), (1, .ref 0), (2, .ref 13), (3, .ref 17), (4, .ref 18), (5, .int (i + nI 7))], [], (X2, w1)) := by
  rw [show c = c + (0 + (0 + 0)) by omega]
  refine ab_q_go 5 (35, [(0, .ref 1000), (1, .ref 0), (2, .ref 13), (3, .ref 17), (4, .ref 18), (5, .int i)], [.int (Int32.ofNat S.1 - nI 7), .int i], (X, w)) rfl ?_
  refine ab_q_f (d := Int32.ofNat S.1 - nI 7 < i) (38, [(0, .ref 1000), (1, .ref 0), (2, .ref 13), (3, .ref 17), (4, .ref 18), (5, .int i)], [], (X, w)) hi rfl ?_
  refine ab_q_go 2 (41, [(0, .ref 1000), (1, .ref 0), (2, .ref 13), (3, .ref 17), (4, .ref 18), (5, .int i)], [.int i, .ref 1000], (X, w)) rfl ?_
  refine ab_q_ld g0 e0 rfl ?_
  refine ab_q_go 2 (45, [(0, .ref 1000), (1, .ref 0), (2, .ref 13), (3, .ref 17), (4, .ref 18), (5, .int i)], [.int (x0 &&& (nI 63))], (X, w)) rfl ?_
  refine ab_q_go 1 (ab_tsw (x0 &&& nI 63) 2395, [(0, .ref 1000), (1, .ref 0), (2, .ref 13), (3, .ref 17), (4, .ref 18), (5, .int i)], [], (X, w)) rfl ?_
  refine ab_q_sw 800 hsw (by decide) ?_
  refine ab_q_go 5 (806, [(0, .ref 1000), (1, .ref 0), (2, .ref 13), (3, .ref 17), (4, .ref 18), (5, .int i)], [.int (i + (nI 1)), .ref 1000, .ref 0], (X, w)) rfl ?_
  refine ab_q_ld g1 e1 rfl ?_
  refine ab_q_go 4 (812, [(0, .ref 1000), (1, .ref 0), (2, .ref 13), (3, .ref 17), (4, .ref 18), (5, .int i)], [.int (i + (nI 2)), .ref 1000, .int x1, .ref 0], (X, w)) rfl ?_
  refine ab_q_ld g2 e2 rfl ?_
  refine ab_q_go 1 (814, [(0, .ref 1000), (1, .ref 0), (2, .ref 13), (3, .ref 17), (4, .ref 18), (5, .int i)], [.ref 17, .int x2, .int x1, .ref 0], (X, w)) rfl ?_
  refine ab_q_ca (k2 := 199) (as := [.ref 0, .int x1, .int x2, .ref 17]) (rest := []) rfl rfl hW ?_
  refine ab_q_go 6 (825, [(6, .int kv), (0, .ref 1000), (1, .ref 0), (2, .ref 13), (3, .ref 17), (4, .ref 18), (5, .int i)], [.int (i + (nI 1)), .ref 1000, .ref 13], (X1, w1)) rfl ?_
  refine ab_q_ld g1 e1 rfl ?_
  refine ab_q_go 4 (831, [(6, .int kv), (0, .ref 1000), (1, .ref 0), (2, .ref 13), (3, .ref 17), (4, .ref 18), (5, .int i)], [.int (i + (nI 2)), .ref 1000, .int x1, .ref 13], (X1, w1)) rfl ?_
  refine ab_q_ld g2 e2 rfl ?_
  refine ab_q_ca (k2 := 140) (as := [.ref 13, .int x1, .int x2]) (rest := []) rfl rfl hM ?_
  refine ab_q_go 2 (838, [(7, .int b), (6, .int kv), (0, .ref 1000), (1, .ref 0), (2, .ref 13), (3, .ref 17), (4, .ref 18), (5, .int i)], [.ref 13], (X2, w1)) rfl ?_
  refine ab_q_ca (k2 := 44) (as := [.ref 13]) (rest := []) rfl rfl (ab_ec_of (T_M_thrown S w1 X2 _ rfl)) ?_
  refine ab_q_go 1 (843, [(7, .int b), (6, .int kv), (0, .ref 1000), (1, .ref 0), (2, .ref 13), (3, .ref 17), (4, .ref 18), (5, .int i)], [.int kv, .int (X2 13 0)], (X2, w1)) rfl ?_
  refine ab_q_t (d := X2 13 0 = kv) (848, [(7, .int b), (6, .int kv), (0, .ref 1000), (1, .ref 0), (2, .ref 13), (3, .ref 17), (4, .ref 18), (5, .int i)], [], (X2, w1)) ht rfl ?_
  refine ab_q_go 1 (850, [(7, .int b), (6, .int kv), (0, .ref 1000), (1, .ref 0), (2, .ref 13), (3, .ref 17), (4, .ref 18), (5, .int i)], [.int kv], (X2, w1)) rfl ?_
  by_cases hk : kv = nI 0
  · refine ab_q_f (d := ¬ kv = nI 0) (853, [(7, .int b), (6, .int kv), (0, .ref 1000), (1, .ref 0), (2, .ref 13), (3, .ref 17), (4, .ref 18), (5, .int i)], [], (X2, w1)) (fun z => z hk) rfl ?_
    refine ab_q_go 2 (855, [(7, .int b), (6, .int kv), (0, .ref 1000), (1, .ref 0), (2, .ref 13), (3, .ref 17), (4, .ref 18), (5, .int i)], [.int (nI 0), .ref 17], (X2, w1)) rfl ?_
    refine ab_q_go 1 (856, [(7, .int b), (6, .int kv), (0, .ref 1000), (1, .ref 0), (2, .ref 13), (3, .ref 17), (4, .ref 18), (5, .int i)], [.long (w1.1 0)], (X2, w1)) rfl ?_
    refine ab_q_go 2 (859, [(7, .int b), (6, .int kv), (0, .ref 1000), (1, .ref 0), (2, .ref 13), (3, .ref 17), (4, .ref 18), (5, .int i)], [.long b.toInt64, .long (w1.1 0)], (X2, w1)) rfl ?_
    refine ab_q_go 1 (860, [(7, .int b), (6, .int kv), (0, .ref 1000), (1, .ref 0), (2, .ref 13), (3, .ref 17), (4, .ref 18), (5, .int i)], [.int (lg_cmp (w1.1 0) b.toInt64)], (X2, w1)) rfl ?_
    refine ab_q_t (d := lg_cmp (w1.1 0) b.toInt64 = nI 0) (865, [(7, .int b), (6, .int kv), (0, .ref 1000), (1, .ref 0), (2, .ref 13), (3, .ref 17), (4, .ref 18), (5, .int i)], [], (X2, w1)) (hb hk) rfl ?_
    refine ab_q_go 1 (2395, [(7, .int b), (6, .int kv), (0, .ref 1000), (1, .ref 0), (2, .ref 13), (3, .ref 17), (4, .ref 18), (5, .int i)], [], (X2, w1)) rfl ?_
    refine ab_q_go 2 (28, [(5, .int (i + nI 7)), (7, .int b), (6, .int kv), (0, .ref 1000), (1, .ref 0), (2, .ref 13), (3, .ref 17), (4, .ref 18)], [], (X2, w1)) rfl ?_
    exact ab_q_wk (lv0 := [(0, .ref 1000), (1, .ref 0), (2, .ref 13), (3, .ref 17), (4, .ref 18), (5, .int (i + nI 7))]) ⟨rfl, rfl, rfl, rfl, rfl, rfl, trivial⟩ ab_q_rf
  · refine ab_q_t (d := ¬ kv = nI 0) (865, [(7, .int b), (6, .int kv), (0, .ref 1000), (1, .ref 0), (2, .ref 13), (3, .ref 17), (4, .ref 18), (5, .int i)], [], (X2, w1)) hk rfl ?_
    refine ab_q_go 1 (2395, [(7, .int b), (6, .int kv), (0, .ref 1000), (1, .ref 0), (2, .ref 13), (3, .ref 17), (4, .ref 18), (5, .int i)], [], (X2, w1)) rfl ?_
    refine ab_q_go 2 (28, [(5, .int (i + nI 7)), (7, .int b), (6, .int kv), (0, .ref 1000), (1, .ref 0), (2, .ref 13), (3, .ref 17), (4, .ref 18)], [], (X2, w1)) rfl ?_
    exact ab_q_wk (lv0 := [(0, .ref 1000), (1, .ref 0), (2, .ref 13), (3, .ref 17), (4, .ref 18), (5, .int (i + nI 7))]) ⟨rfl, rfl, rfl, rfl, rfl, rfl, trivial⟩ ab_q_rf
set_option maxRecDepth 8000 in
set_option maxHeartbeats 1000000 in
theorem law_c12 (S : Nat × (Nat → Int32)) (w : ab_WW) (X : ab_XX) (i x0 : Int32) (hi : ¬ Int32.ofNat S.1 - nI 7 < i) (g0 : ab_in i S.1 = true) (e0 : S.2 i.toNatClampNeg = x0) (x1 : Int32) (g1 : ab_in (i + nI 1) S.1 = true) (e1 : S.2 (i + nI 1).toNatClampNeg = x1) (w1 : ab_WW) (X1 X2 : ab_XX) (kv : Int32) (b : Int32) (c : Nat) (hsw : x0 &&& nI 63 = nI 12) (hW : ab_Ec S 218 (0, lv_args 0 [.ref 0, .int x1, .ref 17], [], (X, w)) (.inl (some (.int kv)), (X1, w1)) c) (hM : ab_Ec S 185 (0, lv_args 0 [.ref 13, .int x1], [], (X1, w1)) (.inl (some (.int b)), (X2, w1)) 0) (ht : X2 13 0 = kv) (hb : kv = nI 0 → lg_cmp (w1.1 0) b.toInt64 = nI 0) : ab_Rc S 252 c (28, [(0, .ref 1000), (1, .ref 0), (2, .ref 13), (3, .ref 17), (4, .ref 18), (5, .int i)], [], (X, w)) (28, [(0, .ref 1000), (1, .ref 0), (2, .ref 13), (3, .ref 17), (4, .ref 18), (5, .int (i + nI 7))], [], (X2, w1)) := by
  rw [show c = c + (0 + (0 + 0)) by omega]
  refine ab_q_go 5 (35, [(0, .ref 1000), (1, .ref 0), (2, .ref 13), (3, .ref 17), (4, .ref 18), (5, .int i)], [.int (Int32.ofNat S.1 - nI 7), .int i], (X, w)) rfl ?_
  refine ab_q_f (d := Int32.ofNat S.1 - nI 7 < i) (38, [(0, .ref 1000), (1, .ref 0), (2, .ref 13), (3, .ref 17), (4, .ref 18), (5, .int i)], [], (X, w)) hi rfl ?_
  refine ab_q_go 2 (41, [(0, .ref 1000), (1, .ref 0), (2, .ref 13), (3, .ref 17), (4, .ref 18), (5, .int i)], [.int i, .ref 1000], (X, w)) rfl ?_
  refine ab_q_ld g0 e0 rfl ?_
  refine ab_q_go 2 (45, [(0, .ref 1000), (1, .ref 0), (2, .ref 13), (3, .ref 17), (4, .ref 18), (5, .int i)], [.int (x0 &&& (nI 63))], (X, w)) rfl ?_
  refine ab_q_go 1 (ab_tsw (x0 &&& nI 63) 2395, [(0, .ref 1000), (1, .ref 0), (2, .ref 13), (3, .ref 17), (4, .ref 18), (5, .int i)], [], (X, w)) rfl ?_
  refine ab_q_sw 868 hsw (by decide) ?_
  refine ab_q_go 5 (874, [(0, .ref 1000), (1, .ref 0), (2, .ref 13), (3, .ref 17), (4, .ref 18), (5, .int i)], [.int (i + (nI 1)), .ref 1000, .ref 0], (X, w)) rfl ?_
  refine ab_q_ld g1 e1 rfl ?_
  refine ab_q_go 1 (876, [(0, .ref 1000), (1, .ref 0), (2, .ref 13), (3, .ref 17), (4, .ref 18), (5, .int i)], [.ref 17, .int x1, .ref 0], (X, w)) rfl ?_
  refine ab_q_ca (k2 := 218) (as := [.ref 0, .int x1, .ref 17]) (rest := []) rfl rfl hW ?_
  refine ab_q_go 6 (887, [(6, .int kv), (0, .ref 1000), (1, .ref 0), (2, .ref 13), (3, .ref 17), (4, .ref 18), (5, .int i)], [.int (i + (nI 1)), .ref 1000, .ref 13], (X1, w1)) rfl ?_
  refine ab_q_ld g1 e1 rfl ?_
  refine ab_q_ca (k2 := 185) (as := [.ref 13, .int x1]) (rest := []) rfl rfl hM ?_
  refine ab_q_go 2 (894, [(7, .int b), (6, .int kv), (0, .ref 1000), (1, .ref 0), (2, .ref 13), (3, .ref 17), (4, .ref 18), (5, .int i)], [.ref 13], (X2, w1)) rfl ?_
  refine ab_q_ca (k2 := 44) (as := [.ref 13]) (rest := []) rfl rfl (ab_ec_of (T_M_thrown S w1 X2 _ rfl)) ?_
  refine ab_q_go 1 (899, [(7, .int b), (6, .int kv), (0, .ref 1000), (1, .ref 0), (2, .ref 13), (3, .ref 17), (4, .ref 18), (5, .int i)], [.int kv, .int (X2 13 0)], (X2, w1)) rfl ?_
  refine ab_q_t (d := X2 13 0 = kv) (904, [(7, .int b), (6, .int kv), (0, .ref 1000), (1, .ref 0), (2, .ref 13), (3, .ref 17), (4, .ref 18), (5, .int i)], [], (X2, w1)) ht rfl ?_
  refine ab_q_go 1 (906, [(7, .int b), (6, .int kv), (0, .ref 1000), (1, .ref 0), (2, .ref 13), (3, .ref 17), (4, .ref 18), (5, .int i)], [.int kv], (X2, w1)) rfl ?_
  by_cases hk : kv = nI 0
  · refine ab_q_f (d := ¬ kv = nI 0) (909, [(7, .int b), (6, .int kv), (0, .ref 1000), (1, .ref 0), (2, .ref 13), (3, .ref 17), (4, .ref 18), (5, .int i)], [], (X2, w1)) (fun z => z hk) rfl ?_
    refine ab_q_go 2 (911, [(7, .int b), (6, .int kv), (0, .ref 1000), (1, .ref 0), (2, .ref 13), (3, .ref 17), (4, .ref 18), (5, .int i)], [.int (nI 0), .ref 17], (X2, w1)) rfl ?_
    refine ab_q_go 1 (912, [(7, .int b), (6, .int kv), (0, .ref 1000), (1, .ref 0), (2, .ref 13), (3, .ref 17), (4, .ref 18), (5, .int i)], [.long (w1.1 0)], (X2, w1)) rfl ?_
    refine ab_q_go 2 (915, [(7, .int b), (6, .int kv), (0, .ref 1000), (1, .ref 0), (2, .ref 13), (3, .ref 17), (4, .ref 18), (5, .int i)], [.long b.toInt64, .long (w1.1 0)], (X2, w1)) rfl ?_
    refine ab_q_go 1 (916, [(7, .int b), (6, .int kv), (0, .ref 1000), (1, .ref 0), (2, .ref 13), (3, .ref 17), (4, .ref 18), (5, .int i)], [.int (lg_cmp (w1.1 0) b.toInt64)], (X2, w1)) rfl ?_
    refine ab_q_t (d := lg_cmp (w1.1 0) b.toInt64 = nI 0) (921, [(7, .int b), (6, .int kv), (0, .ref 1000), (1, .ref 0), (2, .ref 13), (3, .ref 17), (4, .ref 18), (5, .int i)], [], (X2, w1)) (hb hk) rfl ?_
    refine ab_q_go 1 (2395, [(7, .int b), (6, .int kv), (0, .ref 1000), (1, .ref 0), (2, .ref 13), (3, .ref 17), (4, .ref 18), (5, .int i)], [], (X2, w1)) rfl ?_
    refine ab_q_go 2 (28, [(5, .int (i + nI 7)), (7, .int b), (6, .int kv), (0, .ref 1000), (1, .ref 0), (2, .ref 13), (3, .ref 17), (4, .ref 18)], [], (X2, w1)) rfl ?_
    exact ab_q_wk (lv0 := [(0, .ref 1000), (1, .ref 0), (2, .ref 13), (3, .ref 17), (4, .ref 18), (5, .int (i + nI 7))]) ⟨rfl, rfl, rfl, rfl, rfl, rfl, trivial⟩ ab_q_rf
  · refine ab_q_t (d := ¬ kv = nI 0) (921, [(7, .int b), (6, .int kv), (0, .ref 1000), (1, .ref 0), (2, .ref 13), (3, .ref 17), (4, .ref 18), (5, .int i)], [], (X2, w1)) hk rfl ?_
    refine ab_q_go 1 (2395, [(7, .int b), (6, .int kv), (0, .ref 1000), (1, .ref 0), (2, .ref 13), (3, .ref 17), (4, .ref 18), (5, .int i)], [], (X2, w1)) rfl ?_
    refine ab_q_go 2 (28, [(5, .int (i + nI 7)), (7, .int b), (6, .int kv), (0, .ref 1000), (1, .ref 0), (2, .ref 13), (3, .ref 17), (4, .ref 18)], [], (X2, w1)) rfl ?_
    exact ab_q_wk (lv0 := [(0, .ref 1000), (1, .ref 0), (2, .ref 13), (3, .ref 17), (4, .ref 18), (5, .int (i + nI 7))]) ⟨rfl, rfl, rfl, rfl, rfl, rfl, trivial⟩ ab_q_rf
set_option maxRecDepth 8000 in
set_option maxHeartbeats 1000000 in
theorem law_c13 (S : Nat × (Nat → Int32)) (w : ab_WW) (X : ab_XX) (i x0 : Int32) (hi : ¬ Int32.ofNat S.1 - nI 7 < i) (g0 : ab_in i S.1 = true) (e0 : S.2 i.toNatClampNeg = x0) (x1 : Int32) (g1 : ab_in (i + nI 1) S.1 = true) (e1 : S.2 (i + nI 1).toNatClampNeg = x1) (x2 : Int32) (g2 : ab_in (i + nI 2) S.1 = true) (e2 : S.2 (i + nI 2).toNatClampNeg = x2) (x3 : Int32) (g3 : ab_in (i + nI 3) S.1 = true) (e3 : S.2 (i + nI 3).toNatClampNeg = x3) (w1 : ab_WW) (X1 X2 : ab_XX) (kv : Int32) (b : Int32) (c : Nat) (hsw : x0 &&& nI 63 = nI 13) (hW : ab_Ec S 231 (0, lv_args 0 [.ref 0, .int x1, .int x2, .int x3, .ref 17], [], (X, w)) (.inl (some (.int kv)), (X1, w1)) c) (hM : ab_Ec S 242 (0, lv_args 0 [.ref 13, .int x1, .int x2, .int x3], [], (X1, w1)) (.inl (some (.int b)), (X2, w1)) 0) (ht : X2 13 0 = kv) (hb : kv = nI 0 → lg_cmp (w1.1 0) b.toInt64 = nI 0) : ab_Rc S 252 c (28, [(0, .ref 1000), (1, .ref 0), (2, .ref 13), (3, .ref 17), (4, .ref 18), (5, .int i)], [], (X, w)) (28, [(0, .ref 1000), (1, .ref 0), (2, .ref 13), (3, .ref 17), (4, .ref 18), (5, .int (i + nI 7))], [], (X2, w1)) := by
  rw [show c = c + (0 + (0 + 0)) by omega]
  refine ab_q_go 5 (35, [(0, .ref 1000), (1, .ref 0), (2, .ref 13), (3, .ref 17), (4, .ref 18), (5, .int i)], [.int (Int32.ofNat S.1 - nI 7), .int i], (X, w)) rfl ?_
  refine ab_q_f (d := Int32.ofNat S.1 - nI 7 < i) (38, [(0, .ref 1000), (1, .ref 0), (2, .ref 13), (3, .ref 17), (4, .ref 18), (5, .int i)], [], (X, w)) hi rfl ?_
  refine ab_q_go 2 (41, [(0, .ref 1000), (1, .ref 0), (2, .ref 13), (3, .ref 17), (4, .ref 18), (5, .int i)], [.int i, .ref 1000], (X, w)) rfl ?_
  refine ab_q_ld g0 e0 rfl ?_
  refine ab_q_go 2 (45, [(0, .ref 1000), (1, .ref 0), (2, .ref 13), (3, .ref 17), (4, .ref 18), (5, .int i)], [.int (x0 &&& (nI 63))], (X, w)) rfl ?_
  refine ab_q_go 1 (ab_tsw (x0 &&& nI 63) 2395, [(0, .ref 1000), (1, .ref 0), (2, .ref 13), (3, .ref 17), (4, .ref 18), (5, .int i)], [], (X, w)) rfl ?_
  refine ab_q_sw 924 hsw (by decide) ?_
  refine ab_q_go 5 (930, [(0, .ref 1000), (1, .ref 0), (2, .ref 13), (3, .ref 17), (4, .ref 18), (5, .int i)], [.int (i + (nI 1)), .ref 1000, .ref 0], (X, w)) rfl ?_
  refine ab_q_ld g1 e1 rfl ?_
  refine ab_q_go 4 (936, [(0, .ref 1000), (1, .ref 0), (2, .ref 13), (3, .ref 17), (4, .ref 18), (5, .int i)], [.int (i + (nI 2)), .ref 1000, .int x1, .ref 0], (X, w)) rfl ?_
  refine ab_q_ld g2 e2 rfl ?_
  refine ab_q_go 4 (942, [(0, .ref 1000), (1, .ref 0), (2, .ref 13), (3, .ref 17), (4, .ref 18), (5, .int i)], [.int (i + (nI 3)), .ref 1000, .int x2, .int x1, .ref 0], (X, w)) rfl ?_
  refine ab_q_ld g3 e3 rfl ?_
  refine ab_q_go 1 (944, [(0, .ref 1000), (1, .ref 0), (2, .ref 13), (3, .ref 17), (4, .ref 18), (5, .int i)], [.ref 17, .int x3, .int x2, .int x1, .ref 0], (X, w)) rfl ?_
  refine ab_q_ca (k2 := 231) (as := [.ref 0, .int x1, .int x2, .int x3, .ref 17]) (rest := []) rfl rfl hW ?_
  refine ab_q_go 6 (955, [(6, .int kv), (0, .ref 1000), (1, .ref 0), (2, .ref 13), (3, .ref 17), (4, .ref 18), (5, .int i)], [.int (i + (nI 1)), .ref 1000, .ref 13], (X1, w1)) rfl ?_
  refine ab_q_ld g1 e1 rfl ?_
  refine ab_q_go 4 (961, [(6, .int kv), (0, .ref 1000), (1, .ref 0), (2, .ref 13), (3, .ref 17), (4, .ref 18), (5, .int i)], [.int (i + (nI 2)), .ref 1000, .int x1, .ref 13], (X1, w1)) rfl ?_
  refine ab_q_ld g2 e2 rfl ?_
  refine ab_q_go 4 (967, [(6, .int kv), (0, .ref 1000), (1, .ref 0), (2, .ref 13), (3, .ref 17), (4, .ref 18), (5, .int i)], [.int (i + (nI 3)), .ref 1000, .int x2, .int x1, .ref 13], (X1, w1)) rfl ?_
  refine ab_q_ld g3 e3 rfl ?_
  refine ab_q_ca (k2 := 242) (as := [.ref 13, .int x1, .int x2, .int x3]) (rest := []) rfl rfl hM ?_
  refine ab_q_go 2 (974, [(7, .int b), (6, .int kv), (0, .ref 1000), (1, .ref 0), (2, .ref 13), (3, .ref 17), (4, .ref 18), (5, .int i)], [.ref 13], (X2, w1)) rfl ?_
  refine ab_q_ca (k2 := 44) (as := [.ref 13]) (rest := []) rfl rfl (ab_ec_of (T_M_thrown S w1 X2 _ rfl)) ?_
  refine ab_q_go 1 (979, [(7, .int b), (6, .int kv), (0, .ref 1000), (1, .ref 0), (2, .ref 13), (3, .ref 17), (4, .ref 18), (5, .int i)], [.int kv, .int (X2 13 0)], (X2, w1)) rfl ?_
  refine ab_q_t (d := X2 13 0 = kv) (984, [(7, .int b), (6, .int kv), (0, .ref 1000), (1, .ref 0), (2, .ref 13), (3, .ref 17), (4, .ref 18), (5, .int i)], [], (X2, w1)) ht rfl ?_
  refine ab_q_go 1 (986, [(7, .int b), (6, .int kv), (0, .ref 1000), (1, .ref 0), (2, .ref 13), (3, .ref 17), (4, .ref 18), (5, .int i)], [.int kv], (X2, w1)) rfl ?_
  by_cases hk : kv = nI 0
  · refine ab_q_f (d := ¬ kv = nI 0) (989, [(7, .int b), (6, .int kv), (0, .ref 1000), (1, .ref 0), (2, .ref 13), (3, .ref 17), (4, .ref 18), (5, .int i)], [], (X2, w1)) (fun z => z hk) rfl ?_
    refine ab_q_go 2 (991, [(7, .int b), (6, .int kv), (0, .ref 1000), (1, .ref 0), (2, .ref 13), (3, .ref 17), (4, .ref 18), (5, .int i)], [.int (nI 0), .ref 17], (X2, w1)) rfl ?_
    refine ab_q_go 1 (992, [(7, .int b), (6, .int kv), (0, .ref 1000), (1, .ref 0), (2, .ref 13), (3, .ref 17), (4, .ref 18), (5, .int i)], [.long (w1.1 0)], (X2, w1)) rfl ?_
    refine ab_q_go 2 (995, [(7, .int b), (6, .int kv), (0, .ref 1000), (1, .ref 0), (2, .ref 13), (3, .ref 17), (4, .ref 18), (5, .int i)], [.long b.toInt64, .long (w1.1 0)], (X2, w1)) rfl ?_
    refine ab_q_go 1 (996, [(7, .int b), (6, .int kv), (0, .ref 1000), (1, .ref 0), (2, .ref 13), (3, .ref 17), (4, .ref 18), (5, .int i)], [.int (lg_cmp (w1.1 0) b.toInt64)], (X2, w1)) rfl ?_
    refine ab_q_t (d := lg_cmp (w1.1 0) b.toInt64 = nI 0) (1001, [(7, .int b), (6, .int kv), (0, .ref 1000), (1, .ref 0), (2, .ref 13), (3, .ref 17), (4, .ref 18), (5, .int i)], [], (X2, w1)) (hb hk) rfl ?_
    refine ab_q_go 1 (2395, [(7, .int b), (6, .int kv), (0, .ref 1000), (1, .ref 0), (2, .ref 13), (3, .ref 17), (4, .ref 18), (5, .int i)], [], (X2, w1)) rfl ?_
    refine ab_q_go 2 (28, [(5, .int (i + nI 7)), (7, .int b), (6, .int kv), (0, .ref 1000), (1, .ref 0), (2, .ref 13), (3, .ref 17), (4, .ref 18)], [], (X2, w1)) rfl ?_
    exact ab_q_wk (lv0 := [(0, .ref 1000), (1, .ref 0), (2, .ref 13), (3, .ref 17), (4, .ref 18), (5, .int (i + nI 7))]) ⟨rfl, rfl, rfl, rfl, rfl, rfl, trivial⟩ ab_q_rf
  · refine ab_q_t (d := ¬ kv = nI 0) (1001, [(7, .int b), (6, .int kv), (0, .ref 1000), (1, .ref 0), (2, .ref 13), (3, .ref 17), (4, .ref 18), (5, .int i)], [], (X2, w1)) hk rfl ?_
    refine ab_q_go 1 (2395, [(7, .int b), (6, .int kv), (0, .ref 1000), (1, .ref 0), (2, .ref 13), (3, .ref 17), (4, .ref 18), (5, .int i)], [], (X2, w1)) rfl ?_
    refine ab_q_go 2 (28, [(5, .int (i + nI 7)), (7, .int b), (6, .int kv), (0, .ref 1000), (1, .ref 0), (2, .ref 13), (3, .ref 17), (4, .ref 18)], [], (X2, w1)) rfl ?_
    exact ab_q_wk (lv0 := [(0, .ref 1000), (1, .ref 0), (2, .ref 13), (3, .ref 17), (4, .ref 18), (5, .int (i + nI 7))]) ⟨rfl, rfl, rfl, rfl, rfl, rfl, trivial⟩ ab_q_rf
set_option maxRecDepth 8000 in
set_option maxHeartbeats 1000000 in
theorem law_c14 (S : Nat × (Nat → Int32)) (w : ab_WW) (X : ab_XX) (i x0 : Int32) (hi : ¬ Int32.ofNat S.1 - nI 7 < i) (g0 : ab_in i S.1 = true) (e0 : S.2 i.toNatClampNeg = x0) (x1 : Int32) (g1 : ab_in (i + nI 1) S.1 = true) (e1 : S.2 (i + nI 1).toNatClampNeg = x1) (x2 : Int32) (g2 : ab_in (i + nI 2) S.1 = true) (e2 : S.2 (i + nI 2).toNatClampNeg = x2) (w1 : ab_WW) (X1 X2 : ab_XX) (kv : Int32) (b : Int32) (c : Nat) (hsw : x0 &&& nI 63 = nI 14) (hW : ab_Ec S 227 (0, lv_args 0 [.ref 0, .int x1, .int x2, .ref 17], [], (X, w)) (.inl (some (.int kv)), (X1, w1)) c) (hM : ab_Ec S 237 (0, lv_args 0 [.ref 13, .int x1, .int x2], [], (X1, w1)) (.inl (some (.int b)), (X2, w1)) 0) (ht : X2 13 0 = kv) (hb : kv = nI 0 → lg_cmp (w1.1 0) b.toInt64 = nI 0) : ab_Rc S 252 c (28, [(0, .ref 1000), (1, .ref 0), (2, .ref 13), (3, .ref 17), (4, .ref 18), (5, .int i)], [], (X, w)) (28, [(0, .ref 1000), (1, .ref 0), (2, .ref 13), (3, .ref 17), (4, .ref 18), (5, .int (i + nI 7))], [], (X2, w1)) := by
  rw [show c = c + (0 + (0 + 0)) by omega]
  refine ab_q_go 5 (35, [(0, .ref 1000), (1, .ref 0), (2, .ref 13), (3, .ref 17), (4, .ref 18), (5, .int i)], [.int (Int32.ofNat S.1 - nI 7), .int i], (X, w)) rfl ?_
  refine ab_q_f (d := Int32.ofNat S.1 - nI 7 < i) (38, [(0, .ref 1000), (1, .ref 0), (2, .ref 13), (3, .ref 17), (4, .ref 18), (5, .int i)], [], (X, w)) hi rfl ?_
  refine ab_q_go 2 (41, [(0, .ref 1000), (1, .ref 0), (2, .ref 13), (3, .ref 17), (4, .ref 18), (5, .int i)], [.int i, .ref 1000], (X, w)) rfl ?_
  refine ab_q_ld g0 e0 rfl ?_
  refine ab_q_go 2 (45, [(0, .ref 1000), (1, .ref 0), (2, .ref 13), (3, .ref 17), (4, .ref 18), (5, .int i)], [.int (x0 &&& (nI 63))], (X, w)) rfl ?_
  refine ab_q_go 1 (ab_tsw (x0 &&& nI 63) 2395, [(0, .ref 1000), (1, .ref 0), (2, .ref 13), (3, .ref 17), (4, .ref 18), (5, .int i)], [], (X, w)) rfl ?_
  refine ab_q_sw 1004 hsw (by decide) ?_
  refine ab_q_go 5 (1010, [(0, .ref 1000), (1, .ref 0), (2, .ref 13), (3, .ref 17), (4, .ref 18), (5, .int i)], [.int (i + (nI 1)), .ref 1000, .ref 0], (X, w)) rfl ?_
  refine ab_q_ld g1 e1 rfl ?_
  refine ab_q_go 4 (1016, [(0, .ref 1000), (1, .ref 0), (2, .ref 13), (3, .ref 17), (4, .ref 18), (5, .int i)], [.int (i + (nI 2)), .ref 1000, .int x1, .ref 0], (X, w)) rfl ?_
  refine ab_q_ld g2 e2 rfl ?_
  refine ab_q_go 1 (1018, [(0, .ref 1000), (1, .ref 0), (2, .ref 13), (3, .ref 17), (4, .ref 18), (5, .int i)], [.ref 17, .int x2, .int x1, .ref 0], (X, w)) rfl ?_
  refine ab_q_ca (k2 := 227) (as := [.ref 0, .int x1, .int x2, .ref 17]) (rest := []) rfl rfl hW ?_
  refine ab_q_go 6 (1029, [(6, .int kv), (0, .ref 1000), (1, .ref 0), (2, .ref 13), (3, .ref 17), (4, .ref 18), (5, .int i)], [.int (i + (nI 1)), .ref 1000, .ref 13], (X1, w1)) rfl ?_
  refine ab_q_ld g1 e1 rfl ?_
  refine ab_q_go 4 (1035, [(6, .int kv), (0, .ref 1000), (1, .ref 0), (2, .ref 13), (3, .ref 17), (4, .ref 18), (5, .int i)], [.int (i + (nI 2)), .ref 1000, .int x1, .ref 13], (X1, w1)) rfl ?_
  refine ab_q_ld g2 e2 rfl ?_
  refine ab_q_ca (k2 := 237) (as := [.ref 13, .int x1, .int x2]) (rest := []) rfl rfl hM ?_
  refine ab_q_go 2 (1042, [(7, .int b), (6, .int kv), (0, .ref 1000), (1, .ref 0), (2, .ref 13), (3, .ref 17), (4, .ref 18), (5, .int i)], [.ref 13], (X2, w1)) rfl ?_
  refine ab_q_ca (k2 := 44) (as := [.ref 13]) (rest := []) rfl rfl (ab_ec_of (T_M_thrown S w1 X2 _ rfl)) ?_
  refine ab_q_go 1 (1047, [(7, .int b), (6, .int kv), (0, .ref 1000), (1, .ref 0), (2, .ref 13), (3, .ref 17), (4, .ref 18), (5, .int i)], [.int kv, .int (X2 13 0)], (X2, w1)) rfl ?_
  refine ab_q_t (d := X2 13 0 = kv) (1052, [(7, .int b), (6, .int kv), (0, .ref 1000), (1, .ref 0), (2, .ref 13), (3, .ref 17), (4, .ref 18), (5, .int i)], [], (X2, w1)) ht rfl ?_
  refine ab_q_go 1 (1054, [(7, .int b), (6, .int kv), (0, .ref 1000), (1, .ref 0), (2, .ref 13), (3, .ref 17), (4, .ref 18), (5, .int i)], [.int kv], (X2, w1)) rfl ?_
  by_cases hk : kv = nI 0
  · refine ab_q_f (d := ¬ kv = nI 0) (1057, [(7, .int b), (6, .int kv), (0, .ref 1000), (1, .ref 0), (2, .ref 13), (3, .ref 17), (4, .ref 18), (5, .int i)], [], (X2, w1)) (fun z => z hk) rfl ?_
    refine ab_q_go 2 (1059, [(7, .int b), (6, .int kv), (0, .ref 1000), (1, .ref 0), (2, .ref 13), (3, .ref 17), (4, .ref 18), (5, .int i)], [.int (nI 0), .ref 17], (X2, w1)) rfl ?_
    refine ab_q_go 1 (1060, [(7, .int b), (6, .int kv), (0, .ref 1000), (1, .ref 0), (2, .ref 13), (3, .ref 17), (4, .ref 18), (5, .int i)], [.long (w1.1 0)], (X2, w1)) rfl ?_
    refine ab_q_go 2 (1063, [(7, .int b), (6, .int kv), (0, .ref 1000), (1, .ref 0), (2, .ref 13), (3, .ref 17), (4, .ref 18), (5, .int i)], [.long b.toInt64, .long (w1.1 0)], (X2, w1)) rfl ?_
    refine ab_q_go 1 (1064, [(7, .int b), (6, .int kv), (0, .ref 1000), (1, .ref 0), (2, .ref 13), (3, .ref 17), (4, .ref 18), (5, .int i)], [.int (lg_cmp (w1.1 0) b.toInt64)], (X2, w1)) rfl ?_
    refine ab_q_t (d := lg_cmp (w1.1 0) b.toInt64 = nI 0) (1069, [(7, .int b), (6, .int kv), (0, .ref 1000), (1, .ref 0), (2, .ref 13), (3, .ref 17), (4, .ref 18), (5, .int i)], [], (X2, w1)) (hb hk) rfl ?_
    refine ab_q_go 1 (2395, [(7, .int b), (6, .int kv), (0, .ref 1000), (1, .ref 0), (2, .ref 13), (3, .ref 17), (4, .ref 18), (5, .int i)], [], (X2, w1)) rfl ?_
    refine ab_q_go 2 (28, [(5, .int (i + nI 7)), (7, .int b), (6, .int kv), (0, .ref 1000), (1, .ref 0), (2, .ref 13), (3, .ref 17), (4, .ref 18)], [], (X2, w1)) rfl ?_
    exact ab_q_wk (lv0 := [(0, .ref 1000), (1, .ref 0), (2, .ref 13), (3, .ref 17), (4, .ref 18), (5, .int (i + nI 7))]) ⟨rfl, rfl, rfl, rfl, rfl, rfl, trivial⟩ ab_q_rf
  · refine ab_q_t (d := ¬ kv = nI 0) (1069, [(7, .int b), (6, .int kv), (0, .ref 1000), (1, .ref 0), (2, .ref 13), (3, .ref 17), (4, .ref 18), (5, .int i)], [], (X2, w1)) hk rfl ?_
    refine ab_q_go 1 (2395, [(7, .int b), (6, .int kv), (0, .ref 1000), (1, .ref 0), (2, .ref 13), (3, .ref 17), (4, .ref 18), (5, .int i)], [], (X2, w1)) rfl ?_
    refine ab_q_go 2 (28, [(5, .int (i + nI 7)), (7, .int b), (6, .int kv), (0, .ref 1000), (1, .ref 0), (2, .ref 13), (3, .ref 17), (4, .ref 18)], [], (X2, w1)) rfl ?_
    exact ab_q_wk (lv0 := [(0, .ref 1000), (1, .ref 0), (2, .ref 13), (3, .ref 17), (4, .ref 18), (5, .int (i + nI 7))]) ⟨rfl, rfl, rfl, rfl, rfl, rfl, trivial⟩ ab_q_rf
set_option maxRecDepth 8000 in
set_option maxHeartbeats 1000000 in
theorem law_c15 (S : Nat × (Nat → Int32)) (w : ab_WW) (X : ab_XX) (i x0 : Int32) (hi : ¬ Int32.ofNat S.1 - nI 7 < i) (g0 : ab_in i S.1 = true) (e0 : S.2 i.toNatClampNeg = x0) (x1 : Int32) (g1 : ab_in (i + nI 1) S.1 = true) (e1 : S.2 (i + nI 1).toNatClampNeg = x1) (x2 : Int32) (g2 : ab_in (i + nI 2) S.1 = true) (e2 : S.2 (i + nI 2).toNatClampNeg = x2) (w1 : ab_WW) (X1 X2 : ab_XX) (kv : Int32) (b : Int32) (c : Nat) (hsw : x0 &&& nI 63 = nI 15) (hW : ab_Ec S 219 (0, lv_args 0 [.ref 0, .int x1, .int x2, .ref 17], [], (X, w)) (.inl (some (.int kv)), (X1, w1)) c) (hM : ab_Ec S 150 (0, lv_args 0 [.ref 13, .int x1, .int x2], [], (X1, w1)) (.inl (some (.int b)), (X2, w1)) 0) (ht : X2 13 0 = kv) (hb : kv = nI 0 → lg_cmp (w1.1 0) b.toInt64 = nI 0) : ab_Rc S 252 c (28, [(0, .ref 1000), (1, .ref 0), (2, .ref 13), (3, .ref 17), (4, .ref 18), (5, .int i)], [], (X, w)) (28, [(0, .ref 1000), (1, .ref 0), (2, .ref 13), (3, .ref 17), (4, .ref 18), (5, .int (i + nI 7))], [], (X2, w1)) := by
  rw [show c = c + (0 + (0 + 0)) by omega]
  refine ab_q_go 5 (35, [(0, .ref 1000), (1, .ref 0), (2, .ref 13), (3, .ref 17), (4, .ref 18), (5, .int i)], [.int (Int32.ofNat S.1 - nI 7), .int i], (X, w)) rfl ?_
  refine ab_q_f (d := Int32.ofNat S.1 - nI 7 < i) (38, [(0, .ref 1000), (1, .ref 0), (2, .ref 13), (3, .ref 17), (4, .ref 18), (5, .int i)], [], (X, w)) hi rfl ?_
  refine ab_q_go 2 (41, [(0, .ref 1000), (1, .ref 0), (2, .ref 13), (3, .ref 17), (4, .ref 18), (5, .int i)], [.int i, .ref 1000], (X, w)) rfl ?_
  refine ab_q_ld g0 e0 rfl ?_
  refine ab_q_go 2 (45, [(0, .ref 1000), (1, .ref 0), (2, .ref 13), (3, .ref 17), (4, .ref 18), (5, .int i)], [.int (x0 &&& (nI 63))], (X, w)) rfl ?_
  refine ab_q_go 1 (ab_tsw (x0 &&& nI 63) 2395, [(0, .ref 1000), (1, .ref 0), (2, .ref 13), (3, .ref 17), (4, .ref 18), (5, .int i)], [], (X, w)) rfl ?_
  refine ab_q_sw 1072 hsw (by decide) ?_
  refine ab_q_go 5 (1078, [(0, .ref 1000), (1, .ref 0), (2, .ref 13), (3, .ref 17), (4, .ref 18), (5, .int i)], [.int (i + (nI 1)), .ref 1000, .ref 0], (X, w)) rfl ?_
  refine ab_q_ld g1 e1 rfl ?_
  refine ab_q_go 4 (1084, [(0, .ref 1000), (1, .ref 0), (2, .ref 13), (3, .ref 17), (4, .ref 18), (5, .int i)], [.int (i + (nI 2)), .ref 1000, .int x1, .ref 0], (X, w)) rfl ?_
  refine ab_q_ld g2 e2 rfl ?_
  refine ab_q_go 1 (1086, [(0, .ref 1000), (1, .ref 0), (2, .ref 13), (3, .ref 17), (4, .ref 18), (5, .int i)], [.ref 17, .int x2, .int x1, .ref 0], (X, w)) rfl ?_
  refine ab_q_ca (k2 := 219) (as := [.ref 0, .int x1, .int x2, .ref 17]) (rest := []) rfl rfl hW ?_
  refine ab_q_go 6 (1097, [(6, .int kv), (0, .ref 1000), (1, .ref 0), (2, .ref 13), (3, .ref 17), (4, .ref 18), (5, .int i)], [.int (i + (nI 1)), .ref 1000, .ref 13], (X1, w1)) rfl ?_
  refine ab_q_ld g1 e1 rfl ?_
  refine ab_q_go 4 (1103, [(6, .int kv), (0, .ref 1000), (1, .ref 0), (2, .ref 13), (3, .ref 17), (4, .ref 18), (5, .int i)], [.int (i + (nI 2)), .ref 1000, .int x1, .ref 13], (X1, w1)) rfl ?_
  refine ab_q_ld g2 e2 rfl ?_
  refine ab_q_ca (k2 := 150) (as := [.ref 13, .int x1, .int x2]) (rest := []) rfl rfl hM ?_
  refine ab_q_go 2 (1110, [(7, .int b), (6, .int kv), (0, .ref 1000), (1, .ref 0), (2, .ref 13), (3, .ref 17), (4, .ref 18), (5, .int i)], [.ref 13], (X2, w1)) rfl ?_
  refine ab_q_ca (k2 := 44) (as := [.ref 13]) (rest := []) rfl rfl (ab_ec_of (T_M_thrown S w1 X2 _ rfl)) ?_
  refine ab_q_go 1 (1115, [(7, .int b), (6, .int kv), (0, .ref 1000), (1, .ref 0), (2, .ref 13), (3, .ref 17), (4, .ref 18), (5, .int i)], [.int kv, .int (X2 13 0)], (X2, w1)) rfl ?_
  refine ab_q_t (d := X2 13 0 = kv) (1120, [(7, .int b), (6, .int kv), (0, .ref 1000), (1, .ref 0), (2, .ref 13), (3, .ref 17), (4, .ref 18), (5, .int i)], [], (X2, w1)) ht rfl ?_
  refine ab_q_go 1 (1122, [(7, .int b), (6, .int kv), (0, .ref 1000), (1, .ref 0), (2, .ref 13), (3, .ref 17), (4, .ref 18), (5, .int i)], [.int kv], (X2, w1)) rfl ?_
  by_cases hk : kv = nI 0
  · refine ab_q_f (d := ¬ kv = nI 0) (1125, [(7, .int b), (6, .int kv), (0, .ref 1000), (1, .ref 0), (2, .ref 13), (3, .ref 17), (4, .ref 18), (5, .int i)], [], (X2, w1)) (fun z => z hk) rfl ?_
    refine ab_q_go 2 (1127, [(7, .int b), (6, .int kv), (0, .ref 1000), (1, .ref 0), (2, .ref 13), (3, .ref 17), (4, .ref 18), (5, .int i)], [.int (nI 0), .ref 17], (X2, w1)) rfl ?_
    refine ab_q_go 1 (1128, [(7, .int b), (6, .int kv), (0, .ref 1000), (1, .ref 0), (2, .ref 13), (3, .ref 17), (4, .ref 18), (5, .int i)], [.long (w1.1 0)], (X2, w1)) rfl ?_
    refine ab_q_go 2 (1131, [(7, .int b), (6, .int kv), (0, .ref 1000), (1, .ref 0), (2, .ref 13), (3, .ref 17), (4, .ref 18), (5, .int i)], [.long b.toInt64, .long (w1.1 0)], (X2, w1)) rfl ?_
    refine ab_q_go 1 (1132, [(7, .int b), (6, .int kv), (0, .ref 1000), (1, .ref 0), (2, .ref 13), (3, .ref 17), (4, .ref 18), (5, .int i)], [.int (lg_cmp (w1.1 0) b.toInt64)], (X2, w1)) rfl ?_
    refine ab_q_t (d := lg_cmp (w1.1 0) b.toInt64 = nI 0) (1137, [(7, .int b), (6, .int kv), (0, .ref 1000), (1, .ref 0), (2, .ref 13), (3, .ref 17), (4, .ref 18), (5, .int i)], [], (X2, w1)) (hb hk) rfl ?_
    refine ab_q_go 1 (2395, [(7, .int b), (6, .int kv), (0, .ref 1000), (1, .ref 0), (2, .ref 13), (3, .ref 17), (4, .ref 18), (5, .int i)], [], (X2, w1)) rfl ?_
    refine ab_q_go 2 (28, [(5, .int (i + nI 7)), (7, .int b), (6, .int kv), (0, .ref 1000), (1, .ref 0), (2, .ref 13), (3, .ref 17), (4, .ref 18)], [], (X2, w1)) rfl ?_
    exact ab_q_wk (lv0 := [(0, .ref 1000), (1, .ref 0), (2, .ref 13), (3, .ref 17), (4, .ref 18), (5, .int (i + nI 7))]) ⟨rfl, rfl, rfl, rfl, rfl, rfl, trivial⟩ ab_q_rf
  · refine ab_q_t (d := ¬ kv = nI 0) (1137, [(7, .int b), (6, .int kv), (0, .ref 1000), (1, .ref 0), (2, .ref 13), (3, .ref 17), (4, .ref 18), (5, .int i)], [], (X2, w1)) hk rfl ?_
    refine ab_q_go 1 (2395, [(7, .int b), (6, .int kv), (0, .ref 1000), (1, .ref 0), (2, .ref 13), (3, .ref 17), (4, .ref 18), (5, .int i)], [], (X2, w1)) rfl ?_
    refine ab_q_go 2 (28, [(5, .int (i + nI 7)), (7, .int b), (6, .int kv), (0, .ref 1000), (1, .ref 0), (2, .ref 13), (3, .ref 17), (4, .ref 18)], [], (X2, w1)) rfl ?_
    exact ab_q_wk (lv0 := [(0, .ref 1000), (1, .ref 0), (2, .ref 13), (3, .ref 17), (4, .ref 18), (5, .int (i + nI 7))]) ⟨rfl, rfl, rfl, rfl, rfl, rfl, trivial⟩ ab_q_rf
set_option maxRecDepth 8000 in
set_option maxHeartbeats 1000000 in
theorem law_c16 (S : Nat × (Nat → Int32)) (w : ab_WW) (X : ab_XX) (i x0 : Int32) (hi : ¬ Int32.ofNat S.1 - nI 7 < i) (g0 : ab_in i S.1 = true) (e0 : S.2 i.toNatClampNeg = x0) (x1 : Int32) (g1 : ab_in (i + nI 1) S.1 = true) (e1 : S.2 (i + nI 1).toNatClampNeg = x1) (x2 : Int32) (g2 : ab_in (i + nI 2) S.1 = true) (e2 : S.2 (i + nI 2).toNatClampNeg = x2) (w1 : ab_WW) (X1 X2 : ab_XX) (kv : Int32) (b : Int32) (c : Nat) (hsw : x0 &&& nI 63 = nI 16) (hW : ab_Ec S 203 (0, lv_args 0 [.ref 0, .int x1, .int x2, .ref 17], [], (X, w)) (.inl (some (.int kv)), (X1, w1)) c) (hM : ab_Ec S 152 (0, lv_args 0 [.ref 13, .int x1, .int x2], [], (X1, w1)) (.inl (some (.int b)), (X2, w1)) 0) (ht : X2 13 0 = kv) (hb : kv = nI 0 → lg_cmp (w1.1 0) b.toInt64 = nI 0) : ab_Rc S 252 c (28, [(0, .ref 1000), (1, .ref 0), (2, .ref 13), (3, .ref 17), (4, .ref 18), (5, .int i)], [], (X, w)) (28, [(0, .ref 1000), (1, .ref 0), (2, .ref 13), (3, .ref 17), (4, .ref 18), (5, .int (i + nI 7))], [], (X2, w1)) := by
  rw [show c = c + (0 + (0 + 0)) by omega]
  refine ab_q_go 5 (35, [(0, .ref 1000), (1, .ref 0), (2, .ref 13), (3, .ref 17), (4, .ref 18), (5, .int i)], [.int (Int32.ofNat S.1 - nI 7), .int i], (X, w)) rfl ?_
  refine ab_q_f (d := Int32.ofNat S.1 - nI 7 < i) (38, [(0, .ref 1000), (1, .ref 0), (2, .ref 13), (3, .ref 17), (4, .ref 18), (5, .int i)], [], (X, w)) hi rfl ?_
  refine ab_q_go 2 (41, [(0, .ref 1000), (1, .ref 0), (2, .ref 13), (3, .ref 17), (4, .ref 18), (5, .int i)], [.int i, .ref 1000], (X, w)) rfl ?_
  refine ab_q_ld g0 e0 rfl ?_
  refine ab_q_go 2 (45, [(0, .ref 1000), (1, .ref 0), (2, .ref 13), (3, .ref 17), (4, .ref 18), (5, .int i)], [.int (x0 &&& (nI 63))], (X, w)) rfl ?_
  refine ab_q_go 1 (ab_tsw (x0 &&& nI 63) 2395, [(0, .ref 1000), (1, .ref 0), (2, .ref 13), (3, .ref 17), (4, .ref 18), (5, .int i)], [], (X, w)) rfl ?_
  refine ab_q_sw 1140 hsw (by decide) ?_
  refine ab_q_go 5 (1146, [(0, .ref 1000), (1, .ref 0), (2, .ref 13), (3, .ref 17), (4, .ref 18), (5, .int i)], [.int (i + (nI 1)), .ref 1000, .ref 0], (X, w)) rfl ?_
  refine ab_q_ld g1 e1 rfl ?_
  refine ab_q_go 4 (1152, [(0, .ref 1000), (1, .ref 0), (2, .ref 13), (3, .ref 17), (4, .ref 18), (5, .int i)], [.int (i + (nI 2)), .ref 1000, .int x1, .ref 0], (X, w)) rfl ?_
  refine ab_q_ld g2 e2 rfl ?_
  refine ab_q_go 1 (1154, [(0, .ref 1000), (1, .ref 0), (2, .ref 13), (3, .ref 17), (4, .ref 18), (5, .int i)], [.ref 17, .int x2, .int x1, .ref 0], (X, w)) rfl ?_
  refine ab_q_ca (k2 := 203) (as := [.ref 0, .int x1, .int x2, .ref 17]) (rest := []) rfl rfl hW ?_
  refine ab_q_go 6 (1165, [(6, .int kv), (0, .ref 1000), (1, .ref 0), (2, .ref 13), (3, .ref 17), (4, .ref 18), (5, .int i)], [.int (i + (nI 1)), .ref 1000, .ref 13], (X1, w1)) rfl ?_
  refine ab_q_ld g1 e1 rfl ?_
  refine ab_q_go 4 (1171, [(6, .int kv), (0, .ref 1000), (1, .ref 0), (2, .ref 13), (3, .ref 17), (4, .ref 18), (5, .int i)], [.int (i + (nI 2)), .ref 1000, .int x1, .ref 13], (X1, w1)) rfl ?_
  refine ab_q_ld g2 e2 rfl ?_
  refine ab_q_ca (k2 := 152) (as := [.ref 13, .int x1, .int x2]) (rest := []) rfl rfl hM ?_
  refine ab_q_go 2 (1178, [(7, .int b), (6, .int kv), (0, .ref 1000), (1, .ref 0), (2, .ref 13), (3, .ref 17), (4, .ref 18), (5, .int i)], [.ref 13], (X2, w1)) rfl ?_
  refine ab_q_ca (k2 := 44) (as := [.ref 13]) (rest := []) rfl rfl (ab_ec_of (T_M_thrown S w1 X2 _ rfl)) ?_
  refine ab_q_go 1 (1183, [(7, .int b), (6, .int kv), (0, .ref 1000), (1, .ref 0), (2, .ref 13), (3, .ref 17), (4, .ref 18), (5, .int i)], [.int kv, .int (X2 13 0)], (X2, w1)) rfl ?_
  refine ab_q_t (d := X2 13 0 = kv) (1188, [(7, .int b), (6, .int kv), (0, .ref 1000), (1, .ref 0), (2, .ref 13), (3, .ref 17), (4, .ref 18), (5, .int i)], [], (X2, w1)) ht rfl ?_
  refine ab_q_go 1 (1190, [(7, .int b), (6, .int kv), (0, .ref 1000), (1, .ref 0), (2, .ref 13), (3, .ref 17), (4, .ref 18), (5, .int i)], [.int kv], (X2, w1)) rfl ?_
  by_cases hk : kv = nI 0
  · refine ab_q_f (d := ¬ kv = nI 0) (1193, [(7, .int b), (6, .int kv), (0, .ref 1000), (1, .ref 0), (2, .ref 13), (3, .ref 17), (4, .ref 18), (5, .int i)], [], (X2, w1)) (fun z => z hk) rfl ?_
    refine ab_q_go 2 (1195, [(7, .int b), (6, .int kv), (0, .ref 1000), (1, .ref 0), (2, .ref 13), (3, .ref 17), (4, .ref 18), (5, .int i)], [.int (nI 0), .ref 17], (X2, w1)) rfl ?_
    refine ab_q_go 1 (1196, [(7, .int b), (6, .int kv), (0, .ref 1000), (1, .ref 0), (2, .ref 13), (3, .ref 17), (4, .ref 18), (5, .int i)], [.long (w1.1 0)], (X2, w1)) rfl ?_
    refine ab_q_go 2 (1199, [(7, .int b), (6, .int kv), (0, .ref 1000), (1, .ref 0), (2, .ref 13), (3, .ref 17), (4, .ref 18), (5, .int i)], [.long b.toInt64, .long (w1.1 0)], (X2, w1)) rfl ?_
    refine ab_q_go 1 (1200, [(7, .int b), (6, .int kv), (0, .ref 1000), (1, .ref 0), (2, .ref 13), (3, .ref 17), (4, .ref 18), (5, .int i)], [.int (lg_cmp (w1.1 0) b.toInt64)], (X2, w1)) rfl ?_
    refine ab_q_t (d := lg_cmp (w1.1 0) b.toInt64 = nI 0) (1205, [(7, .int b), (6, .int kv), (0, .ref 1000), (1, .ref 0), (2, .ref 13), (3, .ref 17), (4, .ref 18), (5, .int i)], [], (X2, w1)) (hb hk) rfl ?_
    refine ab_q_go 1 (2395, [(7, .int b), (6, .int kv), (0, .ref 1000), (1, .ref 0), (2, .ref 13), (3, .ref 17), (4, .ref 18), (5, .int i)], [], (X2, w1)) rfl ?_
    refine ab_q_go 2 (28, [(5, .int (i + nI 7)), (7, .int b), (6, .int kv), (0, .ref 1000), (1, .ref 0), (2, .ref 13), (3, .ref 17), (4, .ref 18)], [], (X2, w1)) rfl ?_
    exact ab_q_wk (lv0 := [(0, .ref 1000), (1, .ref 0), (2, .ref 13), (3, .ref 17), (4, .ref 18), (5, .int (i + nI 7))]) ⟨rfl, rfl, rfl, rfl, rfl, rfl, trivial⟩ ab_q_rf
  · refine ab_q_t (d := ¬ kv = nI 0) (1205, [(7, .int b), (6, .int kv), (0, .ref 1000), (1, .ref 0), (2, .ref 13), (3, .ref 17), (4, .ref 18), (5, .int i)], [], (X2, w1)) hk rfl ?_
    refine ab_q_go 1 (2395, [(7, .int b), (6, .int kv), (0, .ref 1000), (1, .ref 0), (2, .ref 13), (3, .ref 17), (4, .ref 18), (5, .int i)], [], (X2, w1)) rfl ?_
    refine ab_q_go 2 (28, [(5, .int (i + nI 7)), (7, .int b), (6, .int kv), (0, .ref 1000), (1, .ref 0), (2, .ref 13), (3, .ref 17), (4, .ref 18)], [], (X2, w1)) rfl ?_
    exact ab_q_wk (lv0 := [(0, .ref 1000), (1, .ref 0), (2, .ref 13), (3, .ref 17), (4, .ref 18), (5, .int (i + nI 7))]) ⟨rfl, rfl, rfl, rfl, rfl, rfl, trivial⟩ ab_q_rf
set_option maxRecDepth 8000 in
set_option maxHeartbeats 1000000 in
theorem law_c17 (S : Nat × (Nat → Int32)) (w : ab_WW) (X : ab_XX) (i x0 : Int32) (hi : ¬ Int32.ofNat S.1 - nI 7 < i) (g0 : ab_in i S.1 = true) (e0 : S.2 i.toNatClampNeg = x0) (x1 : Int32) (g1 : ab_in (i + nI 1) S.1 = true) (e1 : S.2 (i + nI 1).toNatClampNeg = x1) (w1 : ab_WW) (X1 X2 : ab_XX) (kv : Int32) (b : Int32) (c : Nat) (hsw : x0 &&& nI 63 = nI 17) (hW : ab_Ec S 177 (0, lv_args 0 [.ref 0, .int x1, .ref 17], [], (X, w)) (.inl (some (.int kv)), (X1, w1)) c) (hM : ab_Ec S 105 (0, lv_args 0 [.ref 13, .int x1], [], (X1, w1)) (.inl (some (.int b)), (X2, w1)) 0) (ht : X2 13 0 = kv) (hb : kv = nI 0 → lg_cmp (w1.1 0) b.toInt64 = nI 0) : ab_Rc S 252 c (28, [(0, .ref 1000), (1, .ref 0), (2, .ref 13), (3, .ref 17), (4, .ref 18), (5, .int i)], [], (X, w)) (28, [(0, .ref 1000), (1, .ref 0), (2, .ref 13), (3, .ref 17), (4, .ref 18), (5, .int (i + nI 7))], [], (X2, w1)) := by
  rw [show c = c + (0 + (0 + 0)) by omega]
  refine ab_q_go 5 (35, [(0, .ref 1000), (1, .ref 0), (2, .ref 13), (3, .ref 17), (4, .ref 18), (5, .int i)], [.int (Int32.ofNat S.1 - nI 7), .int i], (X, w)) rfl ?_
  refine ab_q_f (d := Int32.ofNat S.1 - nI 7 < i) (38, [(0, .ref 1000), (1, .ref 0), (2, .ref 13), (3, .ref 17), (4, .ref 18), (5, .int i)], [], (X, w)) hi rfl ?_
  refine ab_q_go 2 (41, [(0, .ref 1000), (1, .ref 0), (2, .ref 13), (3, .ref 17), (4, .ref 18), (5, .int i)], [.int i, .ref 1000], (X, w)) rfl ?_
  refine ab_q_ld g0 e0 rfl ?_
  refine ab_q_go 2 (45, [(0, .ref 1000), (1, .ref 0), (2, .ref 13), (3, .ref 17), (4, .ref 18), (5, .int i)], [.int (x0 &&& (nI 63))], (X, w)) rfl ?_
  refine ab_q_go 1 (ab_tsw (x0 &&& nI 63) 2395, [(0, .ref 1000), (1, .ref 0), (2, .ref 13), (3, .ref 17), (4, .ref 18), (5, .int i)], [], (X, w)) rfl ?_
  refine ab_q_sw 1208 hsw (by decide) ?_
  refine ab_q_go 5 (1214, [(0, .ref 1000), (1, .ref 0), (2, .ref 13), (3, .ref 17), (4, .ref 18), (5, .int i)], [.int (i + (nI 1)), .ref 1000, .ref 0], (X, w)) rfl ?_
  refine ab_q_ld g1 e1 rfl ?_
  refine ab_q_go 1 (1216, [(0, .ref 1000), (1, .ref 0), (2, .ref 13), (3, .ref 17), (4, .ref 18), (5, .int i)], [.ref 17, .int x1, .ref 0], (X, w)) rfl ?_
  refine ab_q_ca (k2 := 177) (as := [.ref 0, .int x1, .ref 17]) (rest := []) rfl rfl hW ?_
  refine ab_q_go 6 (1227, [(6, .int kv), (0, .ref 1000), (1, .ref 0), (2, .ref 13), (3, .ref 17), (4, .ref 18), (5, .int i)], [.int (i + (nI 1)), .ref 1000, .ref 13], (X1, w1)) rfl ?_
  refine ab_q_ld g1 e1 rfl ?_
  refine ab_q_ca (k2 := 105) (as := [.ref 13, .int x1]) (rest := []) rfl rfl hM ?_
  refine ab_q_go 2 (1234, [(7, .int b), (6, .int kv), (0, .ref 1000), (1, .ref 0), (2, .ref 13), (3, .ref 17), (4, .ref 18), (5, .int i)], [.ref 13], (X2, w1)) rfl ?_
  refine ab_q_ca (k2 := 44) (as := [.ref 13]) (rest := []) rfl rfl (ab_ec_of (T_M_thrown S w1 X2 _ rfl)) ?_
  refine ab_q_go 1 (1239, [(7, .int b), (6, .int kv), (0, .ref 1000), (1, .ref 0), (2, .ref 13), (3, .ref 17), (4, .ref 18), (5, .int i)], [.int kv, .int (X2 13 0)], (X2, w1)) rfl ?_
  refine ab_q_t (d := X2 13 0 = kv) (1244, [(7, .int b), (6, .int kv), (0, .ref 1000), (1, .ref 0), (2, .ref 13), (3, .ref 17), (4, .ref 18), (5, .int i)], [], (X2, w1)) ht rfl ?_
  refine ab_q_go 1 (1246, [(7, .int b), (6, .int kv), (0, .ref 1000), (1, .ref 0), (2, .ref 13), (3, .ref 17), (4, .ref 18), (5, .int i)], [.int kv], (X2, w1)) rfl ?_
  by_cases hk : kv = nI 0
  · refine ab_q_f (d := ¬ kv = nI 0) (1249, [(7, .int b), (6, .int kv), (0, .ref 1000), (1, .ref 0), (2, .ref 13), (3, .ref 17), (4, .ref 18), (5, .int i)], [], (X2, w1)) (fun z => z hk) rfl ?_
    refine ab_q_go 2 (1251, [(7, .int b), (6, .int kv), (0, .ref 1000), (1, .ref 0), (2, .ref 13), (3, .ref 17), (4, .ref 18), (5, .int i)], [.int (nI 0), .ref 17], (X2, w1)) rfl ?_
    refine ab_q_go 1 (1252, [(7, .int b), (6, .int kv), (0, .ref 1000), (1, .ref 0), (2, .ref 13), (3, .ref 17), (4, .ref 18), (5, .int i)], [.long (w1.1 0)], (X2, w1)) rfl ?_
    refine ab_q_go 2 (1255, [(7, .int b), (6, .int kv), (0, .ref 1000), (1, .ref 0), (2, .ref 13), (3, .ref 17), (4, .ref 18), (5, .int i)], [.long b.toInt64, .long (w1.1 0)], (X2, w1)) rfl ?_
    refine ab_q_go 1 (1256, [(7, .int b), (6, .int kv), (0, .ref 1000), (1, .ref 0), (2, .ref 13), (3, .ref 17), (4, .ref 18), (5, .int i)], [.int (lg_cmp (w1.1 0) b.toInt64)], (X2, w1)) rfl ?_
    refine ab_q_t (d := lg_cmp (w1.1 0) b.toInt64 = nI 0) (1261, [(7, .int b), (6, .int kv), (0, .ref 1000), (1, .ref 0), (2, .ref 13), (3, .ref 17), (4, .ref 18), (5, .int i)], [], (X2, w1)) (hb hk) rfl ?_
    refine ab_q_go 1 (2395, [(7, .int b), (6, .int kv), (0, .ref 1000), (1, .ref 0), (2, .ref 13), (3, .ref 17), (4, .ref 18), (5, .int i)], [], (X2, w1)) rfl ?_
    refine ab_q_go 2 (28, [(5, .int (i + nI 7)), (7, .int b), (6, .int kv), (0, .ref 1000), (1, .ref 0), (2, .ref 13), (3, .ref 17), (4, .ref 18)], [], (X2, w1)) rfl ?_
    exact ab_q_wk (lv0 := [(0, .ref 1000), (1, .ref 0), (2, .ref 13), (3, .ref 17), (4, .ref 18), (5, .int (i + nI 7))]) ⟨rfl, rfl, rfl, rfl, rfl, rfl, trivial⟩ ab_q_rf
  · refine ab_q_t (d := ¬ kv = nI 0) (1261, [(7, .int b), (6, .int kv), (0, .ref 1000), (1, .ref 0), (2, .ref 13), (3, .ref 17), (4, .ref 18), (5, .int i)], [], (X2, w1)) hk rfl ?_
    refine ab_q_go 1 (2395, [(7, .int b), (6, .int kv), (0, .ref 1000), (1, .ref 0), (2, .ref 13), (3, .ref 17), (4, .ref 18), (5, .int i)], [], (X2, w1)) rfl ?_
    refine ab_q_go 2 (28, [(5, .int (i + nI 7)), (7, .int b), (6, .int kv), (0, .ref 1000), (1, .ref 0), (2, .ref 13), (3, .ref 17), (4, .ref 18)], [], (X2, w1)) rfl ?_
    exact ab_q_wk (lv0 := [(0, .ref 1000), (1, .ref 0), (2, .ref 13), (3, .ref 17), (4, .ref 18), (5, .int (i + nI 7))]) ⟨rfl, rfl, rfl, rfl, rfl, rfl, trivial⟩ ab_q_rf
set_option maxRecDepth 8000 in
set_option maxHeartbeats 1000000 in
theorem law_c18 (S : Nat × (Nat → Int32)) (w : ab_WW) (X : ab_XX) (i x0 : Int32) (hi : ¬ Int32.ofNat S.1 - nI 7 < i) (g0 : ab_in i S.1 = true) (e0 : S.2 i.toNatClampNeg = x0) (x1 : Int32) (g1 : ab_in (i + nI 1) S.1 = true) (e1 : S.2 (i + nI 1).toNatClampNeg = x1) (w1 : ab_WW) (X1 X2 : ab_XX) (kv : Int32) (b : Int32) (c : Nat) (hsw : x0 &&& nI 63 = nI 18) (hW : ab_Ec S 230 (0, lv_args 0 [.ref 0, .int x1, .ref 17], [], (X, w)) (.inl (some (.int kv)), (X1, w1)) c) (hM : ab_Ec S 246 (0, lv_args 0 [.ref 13, .int x1], [], (X1, w1)) (.inl (some (.int b)), (X2, w1)) 0) (ht : X2 13 0 = kv) (hb : kv = nI 0 → lg_cmp (w1.1 0) b.toInt64 = nI 0) : ab_Rc S 252 c (28, [(0, .ref 1000), (1, .ref 0), (2, .ref 13), (3, .ref 17), (4, .ref 18), (5, .int i)], [], (X, w)) (28, [(0, .ref 1000), (1, .ref 0), (2, .ref 13), (3, .ref 17), (4, .ref 18), (5, .int (i + nI 7))], [], (X2, w1)) := by
  rw [show c = c + (0 + (0 + 0)) by omega]
  refine ab_q_go 5 (35, [(0, .ref 1000), (1, .ref 0), (2, .ref 13), (3, .ref 17), (4, .ref 18), (5, .int i)], [.int (Int32.ofNat S.1 - nI 7), .int i], (X, w)) rfl ?_
  refine ab_q_f (d := Int32.ofNat S.1 - nI 7 < i) (38, [(0, .ref 1000), (1, .ref 0), (2, .ref 13), (3, .ref 17), (4, .ref 18), (5, .int i)], [], (X, w)) hi rfl ?_
  refine ab_q_go 2 (41, [(0, .ref 1000), (1, .ref 0), (2, .ref 13), (3, .ref 17), (4, .ref 18), (5, .int i)], [.int i, .ref 1000], (X, w)) rfl ?_
  refine ab_q_ld g0 e0 rfl ?_
  refine ab_q_go 2 (45, [(0, .ref 1000), (1, .ref 0), (2, .ref 13), (3, .ref 17), (4, .ref 18), (5, .int i)], [.int (x0 &&& (nI 63))], (X, w)) rfl ?_
  refine ab_q_go 1 (ab_tsw (x0 &&& nI 63) 2395, [(0, .ref 1000), (1, .ref 0), (2, .ref 13), (3, .ref 17), (4, .ref 18), (5, .int i)], [], (X, w)) rfl ?_
  refine ab_q_sw 1264 hsw (by decide) ?_
  refine ab_q_go 5 (1270, [(0, .ref 1000), (1, .ref 0), (2, .ref 13), (3, .ref 17), (4, .ref 18), (5, .int i)], [.int (i + (nI 1)), .ref 1000, .ref 0], (X, w)) rfl ?_
  refine ab_q_ld g1 e1 rfl ?_
  refine ab_q_go 1 (1272, [(0, .ref 1000), (1, .ref 0), (2, .ref 13), (3, .ref 17), (4, .ref 18), (5, .int i)], [.ref 17, .int x1, .ref 0], (X, w)) rfl ?_
  refine ab_q_ca (k2 := 230) (as := [.ref 0, .int x1, .ref 17]) (rest := []) rfl rfl hW ?_
  refine ab_q_go 6 (1283, [(6, .int kv), (0, .ref 1000), (1, .ref 0), (2, .ref 13), (3, .ref 17), (4, .ref 18), (5, .int i)], [.int (i + (nI 1)), .ref 1000, .ref 13], (X1, w1)) rfl ?_
  refine ab_q_ld g1 e1 rfl ?_
  refine ab_q_ca (k2 := 246) (as := [.ref 13, .int x1]) (rest := []) rfl rfl hM ?_
  refine ab_q_go 2 (1290, [(7, .int b), (6, .int kv), (0, .ref 1000), (1, .ref 0), (2, .ref 13), (3, .ref 17), (4, .ref 18), (5, .int i)], [.ref 13], (X2, w1)) rfl ?_
  refine ab_q_ca (k2 := 44) (as := [.ref 13]) (rest := []) rfl rfl (ab_ec_of (T_M_thrown S w1 X2 _ rfl)) ?_
  refine ab_q_go 1 (1295, [(7, .int b), (6, .int kv), (0, .ref 1000), (1, .ref 0), (2, .ref 13), (3, .ref 17), (4, .ref 18), (5, .int i)], [.int kv, .int (X2 13 0)], (X2, w1)) rfl ?_
  refine ab_q_t (d := X2 13 0 = kv) (1300, [(7, .int b), (6, .int kv), (0, .ref 1000), (1, .ref 0), (2, .ref 13), (3, .ref 17), (4, .ref 18), (5, .int i)], [], (X2, w1)) ht rfl ?_
  refine ab_q_go 1 (1302, [(7, .int b), (6, .int kv), (0, .ref 1000), (1, .ref 0), (2, .ref 13), (3, .ref 17), (4, .ref 18), (5, .int i)], [.int kv], (X2, w1)) rfl ?_
  by_cases hk : kv = nI 0
  · refine ab_q_f (d := ¬ kv = nI 0) (1305, [(7, .int b), (6, .int kv), (0, .ref 1000), (1, .ref 0), (2, .ref 13), (3, .ref 17), (4, .ref 18), (5, .int i)], [], (X2, w1)) (fun z => z hk) rfl ?_
    refine ab_q_go 2 (1307, [(7, .int b), (6, .int kv), (0, .ref 1000), (1, .ref 0), (2, .ref 13), (3, .ref 17), (4, .ref 18), (5, .int i)], [.int (nI 0), .ref 17], (X2, w1)) rfl ?_
    refine ab_q_go 1 (1308, [(7, .int b), (6, .int kv), (0, .ref 1000), (1, .ref 0), (2, .ref 13), (3, .ref 17), (4, .ref 18), (5, .int i)], [.long (w1.1 0)], (X2, w1)) rfl ?_
    refine ab_q_go 2 (1311, [(7, .int b), (6, .int kv), (0, .ref 1000), (1, .ref 0), (2, .ref 13), (3, .ref 17), (4, .ref 18), (5, .int i)], [.long b.toInt64, .long (w1.1 0)], (X2, w1)) rfl ?_
    refine ab_q_go 1 (1312, [(7, .int b), (6, .int kv), (0, .ref 1000), (1, .ref 0), (2, .ref 13), (3, .ref 17), (4, .ref 18), (5, .int i)], [.int (lg_cmp (w1.1 0) b.toInt64)], (X2, w1)) rfl ?_
    refine ab_q_t (d := lg_cmp (w1.1 0) b.toInt64 = nI 0) (1317, [(7, .int b), (6, .int kv), (0, .ref 1000), (1, .ref 0), (2, .ref 13), (3, .ref 17), (4, .ref 18), (5, .int i)], [], (X2, w1)) (hb hk) rfl ?_
    refine ab_q_go 1 (2395, [(7, .int b), (6, .int kv), (0, .ref 1000), (1, .ref 0), (2, .ref 13), (3, .ref 17), (4, .ref 18), (5, .int i)], [], (X2, w1)) rfl ?_
    refine ab_q_go 2 (28, [(5, .int (i + nI 7)), (7, .int b), (6, .int kv), (0, .ref 1000), (1, .ref 0), (2, .ref 13), (3, .ref 17), (4, .ref 18)], [], (X2, w1)) rfl ?_
    exact ab_q_wk (lv0 := [(0, .ref 1000), (1, .ref 0), (2, .ref 13), (3, .ref 17), (4, .ref 18), (5, .int (i + nI 7))]) ⟨rfl, rfl, rfl, rfl, rfl, rfl, trivial⟩ ab_q_rf
  · refine ab_q_t (d := ¬ kv = nI 0) (1317, [(7, .int b), (6, .int kv), (0, .ref 1000), (1, .ref 0), (2, .ref 13), (3, .ref 17), (4, .ref 18), (5, .int i)], [], (X2, w1)) hk rfl ?_
    refine ab_q_go 1 (2395, [(7, .int b), (6, .int kv), (0, .ref 1000), (1, .ref 0), (2, .ref 13), (3, .ref 17), (4, .ref 18), (5, .int i)], [], (X2, w1)) rfl ?_
    refine ab_q_go 2 (28, [(5, .int (i + nI 7)), (7, .int b), (6, .int kv), (0, .ref 1000), (1, .ref 0), (2, .ref 13), (3, .ref 17), (4, .ref 18)], [], (X2, w1)) rfl ?_
    exact ab_q_wk (lv0 := [(0, .ref 1000), (1, .ref 0), (2, .ref 13), (3, .ref 17), (4, .ref 18), (5, .int (i + nI 7))]) ⟨rfl, rfl, rfl, rfl, rfl, rfl, trivial⟩ ab_q_rf
set_option maxRecDepth 8000 in
set_option maxHeartbeats 1000000 in
theorem law_c19 (S : Nat × (Nat → Int32)) (w : ab_WW) (X : ab_XX) (i x0 : Int32) (hi : ¬ Int32.ofNat S.1 - nI 7 < i) (g0 : ab_in i S.1 = true) (e0 : S.2 i.toNatClampNeg = x0) (X1 X2 : ab_XX) (a b : Int32) (hsw : x0 &&& nI 63 = nI 19) (hC : ab_Ec S 224 (0, lv_args 0 [.ref 0], [], (X, w)) (.inl (some (.int a)), (X1, w)) 0) (hM : ab_Ec S 250 (0, lv_args 0 [.ref 13], [], (X1, w)) (.inl (some (.int b)), (X2, w)) 0) (hab : a = b) : ab_Rc S 252 0 (28, [(0, .ref 1000), (1, .ref 0), (2, .ref 13), (3, .ref 17), (4, .ref 18), (5, .int i)], [], (X, w)) (28, [(0, .ref 1000), (1, .ref 0), (2, .ref 13), (3, .ref 17), (4, .ref 18), (5, .int (i + nI 7))], [], (X2, w)) := by
  suffices z : ab_Rc S 252 (0 + (0 + 0)) (28, [(0, .ref 1000), (1, .ref 0), (2, .ref 13), (3, .ref 17), (4, .ref 18), (5, .int i)], [], (X, w)) (28, [(0, .ref 1000), (1, .ref 0), (2, .ref 13), (3, .ref 17), (4, .ref 18), (5, .int (i + nI 7))], [], (X2, w)) from z
  refine ab_q_go 5 (35, [(0, .ref 1000), (1, .ref 0), (2, .ref 13), (3, .ref 17), (4, .ref 18), (5, .int i)], [.int (Int32.ofNat S.1 - nI 7), .int i], (X, w)) rfl ?_
  refine ab_q_f (d := Int32.ofNat S.1 - nI 7 < i) (38, [(0, .ref 1000), (1, .ref 0), (2, .ref 13), (3, .ref 17), (4, .ref 18), (5, .int i)], [], (X, w)) hi rfl ?_
  refine ab_q_go 2 (41, [(0, .ref 1000), (1, .ref 0), (2, .ref 13), (3, .ref 17), (4, .ref 18), (5, .int i)], [.int i, .ref 1000], (X, w)) rfl ?_
  refine ab_q_ld g0 e0 rfl ?_
  refine ab_q_go 2 (45, [(0, .ref 1000), (1, .ref 0), (2, .ref 13), (3, .ref 17), (4, .ref 18), (5, .int i)], [.int (x0 &&& (nI 63))], (X, w)) rfl ?_
  refine ab_q_go 1 (ab_tsw (x0 &&& nI 63) 2395, [(0, .ref 1000), (1, .ref 0), (2, .ref 13), (3, .ref 17), (4, .ref 18), (5, .int i)], [], (X, w)) rfl ?_
  refine ab_q_sw 1320 hsw (by decide) ?_
  refine ab_q_go 1 (1321, [(0, .ref 1000), (1, .ref 0), (2, .ref 13), (3, .ref 17), (4, .ref 18), (5, .int i)], [.ref 0], (X, w)) rfl ?_
  refine ab_q_ca (k2 := 224) (as := [.ref 0]) (rest := []) rfl rfl hC ?_
  refine ab_q_go 1 (1325, [(0, .ref 1000), (1, .ref 0), (2, .ref 13), (3, .ref 17), (4, .ref 18), (5, .int i)], [.ref 13, .int a], (X1, w)) rfl ?_
  refine ab_q_ca (k2 := 250) (as := [.ref 13]) (rest := [.int a]) rfl rfl hM ?_
  refine ab_q_t (d := a = b) (2395, [(0, .ref 1000), (1, .ref 0), (2, .ref 13), (3, .ref 17), (4, .ref 18), (5, .int i)], [], (X2, w)) hab rfl ?_
  refine ab_q_go 2 (28, [(5, .int (i + nI 7)), (0, .ref 1000), (1, .ref 0), (2, .ref 13), (3, .ref 17), (4, .ref 18)], [], (X2, w)) rfl ?_
  exact ab_q_wk (lv0 := [(0, .ref 1000), (1, .ref 0), (2, .ref 13), (3, .ref 17), (4, .ref 18), (5, .int (i + nI 7))]) ⟨rfl, rfl, rfl, rfl, rfl, rfl, trivial⟩ ab_q_rf
set_option maxRecDepth 8000 in
set_option maxHeartbeats 1000000 in
theorem law_c20 (S : Nat × (Nat → Int32)) (w : ab_WW) (X : ab_XX) (i x0 : Int32) (hi : ¬ Int32.ofNat S.1 - nI 7 < i) (g0 : ab_in i S.1 = true) (e0 : S.2 i.toNatClampNeg = x0) (X1 X2 : ab_XX) (a b : Int32) (hsw : x0 &&& nI 63 = nI 20) (hC : ab_Ec S 225 (0, lv_args 0 [.ref 0], [], (X, w)) (.inl (some (.int a)), (X1, w)) 0) (hM : ab_Ec S 251 (0, lv_args 0 [.ref 13], [], (X1, w)) (.inl (some (.int b)), (X2, w)) 0) (hab : a = b) : ab_Rc S 252 0 (28, [(0, .ref 1000), (1, .ref 0), (2, .ref 13), (3, .ref 17), (4, .ref 18), (5, .int i)], [], (X, w)) (28, [(0, .ref 1000), (1, .ref 0), (2, .ref 13), (3, .ref 17), (4, .ref 18), (5, .int (i + nI 7))], [], (X2, w)) := by
  suffices z : ab_Rc S 252 (0 + (0 + 0)) (28, [(0, .ref 1000), (1, .ref 0), (2, .ref 13), (3, .ref 17), (4, .ref 18), (5, .int i)], [], (X, w)) (28, [(0, .ref 1000), (1, .ref 0), (2, .ref 13), (3, .ref 17), (4, .ref 18), (5, .int (i + nI 7))], [], (X2, w)) from z
  refine ab_q_go 5 (35, [(0, .ref 1000), (1, .ref 0), (2, .ref 13), (3, .ref 17), (4, .ref 18), (5, .int i)], [.int (Int32.ofNat S.1 - nI 7), .int i], (X, w)) rfl ?_
  refine ab_q_f (d := Int32.ofNat S.1 - nI 7 < i) (38, [(0, .ref 1000), (1, .ref 0), (2, .ref 13), (3, .ref 17), (4, .ref 18), (5, .int i)], [], (X, w)) hi rfl ?_
  refine ab_q_go 2 (41, [(0, .ref 1000), (1, .ref 0), (2, .ref 13), (3, .ref 17), (4, .ref 18), (5, .int i)], [.int i, .ref 1000], (X, w)) rfl ?_
  refine ab_q_ld g0 e0 rfl ?_
  refine ab_q_go 2 (45, [(0, .ref 1000), (1, .ref 0), (2, .ref 13), (3, .ref 17), (4, .ref 18), (5, .int i)], [.int (x0 &&& (nI 63))], (X, w)) rfl ?_
  refine ab_q_go 1 (ab_tsw (x0 &&& nI 63) 2395, [(0, .ref 1000), (1, .ref 0), (2, .ref 13), (3, .ref 17), (4, .ref 18), (5, .int i)], [], (X, w)) rfl ?_
  refine ab_q_sw 1333 hsw (by decide) ?_
  refine ab_q_go 1 (1334, [(0, .ref 1000), (1, .ref 0), (2, .ref 13), (3, .ref 17), (4, .ref 18), (5, .int i)], [.ref 0], (X, w)) rfl ?_
  refine ab_q_ca (k2 := 225) (as := [.ref 0]) (rest := []) rfl rfl hC ?_
  refine ab_q_go 1 (1338, [(0, .ref 1000), (1, .ref 0), (2, .ref 13), (3, .ref 17), (4, .ref 18), (5, .int i)], [.ref 13, .int a], (X1, w)) rfl ?_
  refine ab_q_ca (k2 := 251) (as := [.ref 13]) (rest := [.int a]) rfl rfl hM ?_
  refine ab_q_t (d := a = b) (2395, [(0, .ref 1000), (1, .ref 0), (2, .ref 13), (3, .ref 17), (4, .ref 18), (5, .int i)], [], (X2, w)) hab rfl ?_
  refine ab_q_go 2 (28, [(5, .int (i + nI 7)), (0, .ref 1000), (1, .ref 0), (2, .ref 13), (3, .ref 17), (4, .ref 18)], [], (X2, w)) rfl ?_
  exact ab_q_wk (lv0 := [(0, .ref 1000), (1, .ref 0), (2, .ref 13), (3, .ref 17), (4, .ref 18), (5, .int (i + nI 7))]) ⟨rfl, rfl, rfl, rfl, rfl, rfl, trivial⟩ ab_q_rf
set_option maxRecDepth 8000 in
set_option maxHeartbeats 1000000 in
theorem law_c21 (S : Nat × (Nat → Int32)) (w : ab_WW) (X : ab_XX) (i x0 : Int32) (hi : ¬ Int32.ofNat S.1 - nI 7 < i) (g0 : ab_in i S.1 = true) (e0 : S.2 i.toNatClampNeg = x0) (x1 : Int32) (g1 : ab_in (i + nI 1) S.1 = true) (e1 : S.2 (i + nI 1).toNatClampNeg = x1) (x2 : Int32) (g2 : ab_in (i + nI 2) S.1 = true) (e2 : S.2 (i + nI 2).toNatClampNeg = x2) (x3 : Int32) (g3 : ab_in (i + nI 3) S.1 = true) (e3 : S.2 (i + nI 3).toNatClampNeg = x3) (x4 : Int32) (g4 : ab_in (i + nI 4) S.1 = true) (e4 : S.2 (i + nI 4).toNatClampNeg = x4) (w1 : ab_WW) (X1 X2 : ab_XX) (kv : Int32) (c : Nat) (hsw : x0 &&& nI 63 = nI 21) (hW : ab_Ec S 234 (0, lv_args 0 [.ref 0, .int x1, .int x2, .int x3, .int x4], [], (X, w)) (.inl (some (.int kv)), (X1, w1)) c) (hM : ab_Ec S 245 (0, lv_args 0 [.ref 13, .int x1, .int x2, .int x3, .int x4], [], (X1, w1)) (.inl (none), (X2, w1)) 0) (ht : X2 13 0 = kv) : ab_Rc S 252 c (28, [(0, .ref 1000), (1, .ref 0), (2, .ref 13), (3, .ref 17), (4, .ref 18), (5, .int i)], [], (X, w)) (28, [(0, .ref 1000), (1, .ref 0), (2, .ref 13), (3, .ref 17), (4, .ref 18), (5, .int (i + nI 7))], [], (X2, w1)) := by
  rw [show c = c + (0 + (0 + 0)) by omega]
  refine ab_q_go 5 (35, [(0, .ref 1000), (1, .ref 0), (2, .ref 13), (3, .ref 17), (4, .ref 18), (5, .int i)], [.int (Int32.ofNat S.1 - nI 7), .int i], (X, w)) rfl ?_
  refine ab_q_f (d := Int32.ofNat S.1 - nI 7 < i) (38, [(0, .ref 1000), (1, .ref 0), (2, .ref 13), (3, .ref 17), (4, .ref 18), (5, .int i)], [], (X, w)) hi rfl ?_
  refine ab_q_go 2 (41, [(0, .ref 1000), (1, .ref 0), (2, .ref 13), (3, .ref 17), (4, .ref 18), (5, .int i)], [.int i, .ref 1000], (X, w)) rfl ?_
  refine ab_q_ld g0 e0 rfl ?_
  refine ab_q_go 2 (45, [(0, .ref 1000), (1, .ref 0), (2, .ref 13), (3, .ref 17), (4, .ref 18), (5, .int i)], [.int (x0 &&& (nI 63))], (X, w)) rfl ?_
  refine ab_q_go 1 (ab_tsw (x0 &&& nI 63) 2395, [(0, .ref 1000), (1, .ref 0), (2, .ref 13), (3, .ref 17), (4, .ref 18), (5, .int i)], [], (X, w)) rfl ?_
  refine ab_q_sw 1346 hsw (by decide) ?_
  refine ab_q_go 5 (1352, [(0, .ref 1000), (1, .ref 0), (2, .ref 13), (3, .ref 17), (4, .ref 18), (5, .int i)], [.int (i + (nI 1)), .ref 1000, .ref 0], (X, w)) rfl ?_
  refine ab_q_ld g1 e1 rfl ?_
  refine ab_q_go 4 (1358, [(0, .ref 1000), (1, .ref 0), (2, .ref 13), (3, .ref 17), (4, .ref 18), (5, .int i)], [.int (i + (nI 2)), .ref 1000, .int x1, .ref 0], (X, w)) rfl ?_
  refine ab_q_ld g2 e2 rfl ?_
  refine ab_q_go 4 (1364, [(0, .ref 1000), (1, .ref 0), (2, .ref 13), (3, .ref 17), (4, .ref 18), (5, .int i)], [.int (i + (nI 3)), .ref 1000, .int x2, .int x1, .ref 0], (X, w)) rfl ?_
  refine ab_q_ld g3 e3 rfl ?_
  refine ab_q_go 4 (1370, [(0, .ref 1000), (1, .ref 0), (2, .ref 13), (3, .ref 17), (4, .ref 18), (5, .int i)], [.int (i + (nI 4)), .ref 1000, .int x3, .int x2, .int x1, .ref 0], (X, w)) rfl ?_
  refine ab_q_ld g4 e4 rfl ?_
  refine ab_q_ca (k2 := 234) (as := [.ref 0, .int x1, .int x2, .int x3, .int x4]) (rest := []) rfl rfl hW ?_
  refine ab_q_go 6 (1382, [(6, .int kv), (0, .ref 1000), (1, .ref 0), (2, .ref 13), (3, .ref 17), (4, .ref 18), (5, .int i)], [.int (i + (nI 1)), .ref 1000, .ref 13], (X1, w1)) rfl ?_
  refine ab_q_ld g1 e1 rfl ?_
  refine ab_q_go 4 (1388, [(6, .int kv), (0, .ref 1000), (1, .ref 0), (2, .ref 13), (3, .ref 17), (4, .ref 18), (5, .int i)], [.int (i + (nI 2)), .ref 1000, .int x1, .ref 13], (X1, w1)) rfl ?_
  refine ab_q_ld g2 e2 rfl ?_
  refine ab_q_go 4 (1394, [(6, .int kv), (0, .ref 1000), (1, .ref 0), (2, .ref 13), (3, .ref 17), (4, .ref 18), (5, .int i)], [.int (i + (nI 3)), .ref 1000, .int x2, .int x1, .ref 13], (X1, w1)) rfl ?_
  refine ab_q_ld g3 e3 rfl ?_
  refine ab_q_go 4 (1400, [(6, .int kv), (0, .ref 1000), (1, .ref 0), (2, .ref 13), (3, .ref 17), (4, .ref 18), (5, .int i)], [.int (i + (nI 4)), .ref 1000, .int x3, .int x2, .int x1, .ref 13], (X1, w1)) rfl ?_
  refine ab_q_ld g4 e4 rfl ?_
  refine ab_q_ca (k2 := 245) (as := [.ref 13, .int x1, .int x2, .int x3, .int x4]) (rest := []) rfl rfl hM ?_
  refine ab_q_go 1 (1405, [(6, .int kv), (0, .ref 1000), (1, .ref 0), (2, .ref 13), (3, .ref 17), (4, .ref 18), (5, .int i)], [.ref 13], (X2, w1)) rfl ?_
  refine ab_q_ca (k2 := 44) (as := [.ref 13]) (rest := []) rfl rfl (ab_ec_of (T_M_thrown S w1 X2 _ rfl)) ?_
  refine ab_q_go 1 (1410, [(6, .int kv), (0, .ref 1000), (1, .ref 0), (2, .ref 13), (3, .ref 17), (4, .ref 18), (5, .int i)], [.int kv, .int (X2 13 0)], (X2, w1)) rfl ?_
  refine ab_q_t (d := X2 13 0 = kv) (1415, [(6, .int kv), (0, .ref 1000), (1, .ref 0), (2, .ref 13), (3, .ref 17), (4, .ref 18), (5, .int i)], [], (X2, w1)) ht rfl ?_
  refine ab_q_go 1 (2395, [(6, .int kv), (0, .ref 1000), (1, .ref 0), (2, .ref 13), (3, .ref 17), (4, .ref 18), (5, .int i)], [], (X2, w1)) rfl ?_
  refine ab_q_go 2 (28, [(5, .int (i + nI 7)), (6, .int kv), (0, .ref 1000), (1, .ref 0), (2, .ref 13), (3, .ref 17), (4, .ref 18)], [], (X2, w1)) rfl ?_
  exact ab_q_wk (lv0 := [(0, .ref 1000), (1, .ref 0), (2, .ref 13), (3, .ref 17), (4, .ref 18), (5, .int (i + nI 7))]) ⟨rfl, rfl, rfl, rfl, rfl, rfl, trivial⟩ ab_q_rf
set_option maxRecDepth 8000 in
set_option maxHeartbeats 1000000 in
theorem law_c22 (S : Nat × (Nat → Int32)) (w : ab_WW) (X : ab_XX) (i x0 : Int32) (hi : ¬ Int32.ofNat S.1 - nI 7 < i) (g0 : ab_in i S.1 = true) (e0 : S.2 i.toNatClampNeg = x0) (x1 : Int32) (g1 : ab_in (i + nI 1) S.1 = true) (e1 : S.2 (i + nI 1).toNatClampNeg = x1) (x2 : Int32) (g2 : ab_in (i + nI 2) S.1 = true) (e2 : S.2 (i + nI 2).toNatClampNeg = x2) (x3 : Int32) (g3 : ab_in (i + nI 3) S.1 = true) (e3 : S.2 (i + nI 3).toNatClampNeg = x3) (x4 : Int32) (g4 : ab_in (i + nI 4) S.1 = true) (e4 : S.2 (i + nI 4).toNatClampNeg = x4) (x5 : Int32) (g5 : ab_in (i + nI 5) S.1 = true) (e5 : S.2 (i + nI 5).toNatClampNeg = x5) (x6 : Int32) (g6 : ab_in (i + nI 6) S.1 = true) (e6 : S.2 (i + nI 6).toNatClampNeg = x6) (w1 : ab_WW) (X1 X2 : ab_XX) (kv : Int32) (c : Nat) (hsw : x0 &&& nI 63 = nI 22) (hW : ab_Ec S 236 (0, lv_args 0 [.ref 0, .int x1, .int x2, .int x3, .int x4, .int x5, .int x6], [], (X, w)) (.inl (some (.int kv)), (X1, w1)) c) (hM : ab_Ec S 248 (0, lv_args 0 [.ref 13, .int x1, .int x2, .int x3, .int x4, .int x5, .int x6], [], (X1, w1)) (.inl (none), (X2, w1)) 0) (ht : X2 13 0 = kv) : ab_Rc S 252 c (28, [(0, .ref 1000), (1, .ref 0), (2, .ref 13), (3, .ref 17), (4, .ref 18), (5, .int i)], [], (X, w)) (28, [(0, .ref 1000), (1, .ref 0), (2, .ref 13), (3, .ref 17), (4, .ref 18), (5, .int (i + nI 7))], [], (X2, w1)) := by
  rw [show c = c + (0 + (0 + 0)) by omega]
  refine ab_q_go 5 (35, [(0, .ref 1000), (1, .ref 0), (2, .ref 13), (3, .ref 17), (4, .ref 18), (5, .int i)], [.int (Int32.ofNat S.1 - nI 7), .int i], (X, w)) rfl ?_
  refine ab_q_f (d := Int32.ofNat S.1 - nI 7 < i) (38, [(0, .ref 1000), (1, .ref 0), (2, .ref 13), (3, .ref 17), (4, .ref 18), (5, .int i)], [], (X, w)) hi rfl ?_
  refine ab_q_go 2 (41, [(0, .ref 1000), (1, .ref 0), (2, .ref 13), (3, .ref 17), (4, .ref 18), (5, .int i)], [.int i, .ref 1000], (X, w)) rfl ?_
  refine ab_q_ld g0 e0 rfl ?_
  refine ab_q_go 2 (45, [(0, .ref 1000), (1, .ref 0), (2, .ref 13), (3, .ref 17), (4, .ref 18), (5, .int i)], [.int (x0 &&& (nI 63))], (X, w)) rfl ?_
  refine ab_q_go 1 (ab_tsw (x0 &&& nI 63) 2395, [(0, .ref 1000), (1, .ref 0), (2, .ref 13), (3, .ref 17), (4, .ref 18), (5, .int i)], [], (X, w)) rfl ?_
  refine ab_q_sw 1418 hsw (by decide) ?_
  refine ab_q_go 5 (1424, [(0, .ref 1000), (1, .ref 0), (2, .ref 13), (3, .ref 17), (4, .ref 18), (5, .int i)], [.int (i + (nI 1)), .ref 1000, .ref 0], (X, w)) rfl ?_
  refine ab_q_ld g1 e1 rfl ?_
  refine ab_q_go 4 (1430, [(0, .ref 1000), (1, .ref 0), (2, .ref 13), (3, .ref 17), (4, .ref 18), (5, .int i)], [.int (i + (nI 2)), .ref 1000, .int x1, .ref 0], (X, w)) rfl ?_
  refine ab_q_ld g2 e2 rfl ?_
  refine ab_q_go 4 (1436, [(0, .ref 1000), (1, .ref 0), (2, .ref 13), (3, .ref 17), (4, .ref 18), (5, .int i)], [.int (i + (nI 3)), .ref 1000, .int x2, .int x1, .ref 0], (X, w)) rfl ?_
  refine ab_q_ld g3 e3 rfl ?_
  refine ab_q_go 4 (1442, [(0, .ref 1000), (1, .ref 0), (2, .ref 13), (3, .ref 17), (4, .ref 18), (5, .int i)], [.int (i + (nI 4)), .ref 1000, .int x3, .int x2, .int x1, .ref 0], (X, w)) rfl ?_
  refine ab_q_ld g4 e4 rfl ?_
  refine ab_q_go 4 (1448, [(0, .ref 1000), (1, .ref 0), (2, .ref 13), (3, .ref 17), (4, .ref 18), (5, .int i)], [.int (i + (nI 5)), .ref 1000, .int x4, .int x3, .int x2, .int x1, .ref 0], (X, w)) rfl ?_
  refine ab_q_ld g5 e5 rfl ?_
  refine ab_q_go 4 (1455, [(0, .ref 1000), (1, .ref 0), (2, .ref 13), (3, .ref 17), (4, .ref 18), (5, .int i)], [.int (i + (nI 6)), .ref 1000, .int x5, .int x4, .int x3, .int x2, .int x1, .ref 0], (X, w)) rfl ?_
  refine ab_q_ld g6 e6 rfl ?_
  refine ab_q_ca (k2 := 236) (as := [.ref 0, .int x1, .int x2, .int x3, .int x4, .int x5, .int x6]) (rest := []) rfl rfl hW ?_
  refine ab_q_go 6 (1467, [(6, .int kv), (0, .ref 1000), (1, .ref 0), (2, .ref 13), (3, .ref 17), (4, .ref 18), (5, .int i)], [.int (i + (nI 1)), .ref 1000, .ref 13], (X1, w1)) rfl ?_
  refine ab_q_ld g1 e1 rfl ?_
  refine ab_q_go 4 (1473, [(6, .int kv), (0, .ref 1000), (1, .ref 0), (2, .ref 13), (3, .ref 17), (4, .ref 18), (5, .int i)], [.int (i + (nI 2)), .ref 1000, .int x1, .ref 13], (X1, w1)) rfl ?_
  refine ab_q_ld g2 e2 rfl ?_
  refine ab_q_go 4 (1479, [(6, .int kv), (0, .ref 1000), (1, .ref 0), (2, .ref 13), (3, .ref 17), (4, .ref 18), (5, .int i)], [.int (i + (nI 3)), .ref 1000, .int x2, .int x1, .ref 13], (X1, w1)) rfl ?_
  refine ab_q_ld g3 e3 rfl ?_
  refine ab_q_go 4 (1485, [(6, .int kv), (0, .ref 1000), (1, .ref 0), (2, .ref 13), (3, .ref 17), (4, .ref 18), (5, .int i)], [.int (i + (nI 4)), .ref 1000, .int x3, .int x2, .int x1, .ref 13], (X1, w1)) rfl ?_
  refine ab_q_ld g4 e4 rfl ?_
  refine ab_q_go 4 (1491, [(6, .int kv), (0, .ref 1000), (1, .ref 0), (2, .ref 13), (3, .ref 17), (4, .ref 18), (5, .int i)], [.int (i + (nI 5)), .ref 1000, .int x4, .int x3, .int x2, .int x1, .ref 13], (X1, w1)) rfl ?_
  refine ab_q_ld g5 e5 rfl ?_
  refine ab_q_go 4 (1498, [(6, .int kv), (0, .ref 1000), (1, .ref 0), (2, .ref 13), (3, .ref 17), (4, .ref 18), (5, .int i)], [.int (i + (nI 6)), .ref 1000, .int x5, .int x4, .int x3, .int x2, .int x1, .ref 13], (X1, w1)) rfl ?_
  refine ab_q_ld g6 e6 rfl ?_
  refine ab_q_ca (k2 := 248) (as := [.ref 13, .int x1, .int x2, .int x3, .int x4, .int x5, .int x6]) (rest := []) rfl rfl hM ?_
  refine ab_q_go 1 (1503, [(6, .int kv), (0, .ref 1000), (1, .ref 0), (2, .ref 13), (3, .ref 17), (4, .ref 18), (5, .int i)], [.ref 13], (X2, w1)) rfl ?_
  refine ab_q_ca (k2 := 44) (as := [.ref 13]) (rest := []) rfl rfl (ab_ec_of (T_M_thrown S w1 X2 _ rfl)) ?_
  refine ab_q_go 1 (1508, [(6, .int kv), (0, .ref 1000), (1, .ref 0), (2, .ref 13), (3, .ref 17), (4, .ref 18), (5, .int i)], [.int kv, .int (X2 13 0)], (X2, w1)) rfl ?_
  refine ab_q_t (d := X2 13 0 = kv) (1513, [(6, .int kv), (0, .ref 1000), (1, .ref 0), (2, .ref 13), (3, .ref 17), (4, .ref 18), (5, .int i)], [], (X2, w1)) ht rfl ?_
  refine ab_q_go 1 (2395, [(6, .int kv), (0, .ref 1000), (1, .ref 0), (2, .ref 13), (3, .ref 17), (4, .ref 18), (5, .int i)], [], (X2, w1)) rfl ?_
  refine ab_q_go 2 (28, [(5, .int (i + nI 7)), (6, .int kv), (0, .ref 1000), (1, .ref 0), (2, .ref 13), (3, .ref 17), (4, .ref 18)], [], (X2, w1)) rfl ?_
  exact ab_q_wk (lv0 := [(0, .ref 1000), (1, .ref 0), (2, .ref 13), (3, .ref 17), (4, .ref 18), (5, .int (i + nI 7))]) ⟨rfl, rfl, rfl, rfl, rfl, rfl, trivial⟩ ab_q_rf
set_option maxRecDepth 8000 in
set_option maxHeartbeats 1000000 in
theorem law_c23 (S : Nat × (Nat → Int32)) (w : ab_WW) (X : ab_XX) (i x0 : Int32) (hi : ¬ Int32.ofNat S.1 - nI 7 < i) (g0 : ab_in i S.1 = true) (e0 : S.2 i.toNatClampNeg = x0) (x1 : Int32) (g1 : ab_in (i + nI 1) S.1 = true) (e1 : S.2 (i + nI 1).toNatClampNeg = x1) (x2 : Int32) (g2 : ab_in (i + nI 2) S.1 = true) (e2 : S.2 (i + nI 2).toNatClampNeg = x2) (x3 : Int32) (g3 : ab_in (i + nI 3) S.1 = true) (e3 : S.2 (i + nI 3).toNatClampNeg = x3) (w1 : ab_WW) (X1 X2 : ab_XX) (kv : Int32) (b : Int32) (c : Nat) (hsw : x0 &&& nI 63 = nI 23) (hW : ab_Ec S 235 (0, lv_args 0 [.ref 0, .int x1, .int x2, .int x3, .ref 17], [], (X, w)) (.inl (some (.int kv)), (X1, w1)) c) (hM : ab_Ec S 247 (0, lv_args 0 [.ref 13, .int x1, .int x2, .int x3], [], (X1, w1)) (.inl (some (.int b)), (X2, w1)) 0) (ht : X2 13 0 = kv) (hb : kv = nI 0 → lg_cmp (w1.1 0) b.toInt64 = nI 0) : ab_Rc S 252 c (28, [(0, .ref 1000), (1, .ref 0), (2, .ref 13), (3, .ref 17), (4, .ref 18), (5, .int i)], [], (X, w)) (28, [(0, .ref 1000), (1, .ref 0), (2, .ref 13), (3, .ref 17), (4, .ref 18), (5, .int (i + nI 7))], [], (X2, w1)) := by
  rw [show c = c + (0 + (0 + 0)) by omega]
  refine ab_q_go 5 (35, [(0, .ref 1000), (1, .ref 0), (2, .ref 13), (3, .ref 17), (4, .ref 18), (5, .int i)], [.int (Int32.ofNat S.1 - nI 7), .int i], (X, w)) rfl ?_
  refine ab_q_f (d := Int32.ofNat S.1 - nI 7 < i) (38, [(0, .ref 1000), (1, .ref 0), (2, .ref 13), (3, .ref 17), (4, .ref 18), (5, .int i)], [], (X, w)) hi rfl ?_
  refine ab_q_go 2 (41, [(0, .ref 1000), (1, .ref 0), (2, .ref 13), (3, .ref 17), (4, .ref 18), (5, .int i)], [.int i, .ref 1000], (X, w)) rfl ?_
  refine ab_q_ld g0 e0 rfl ?_
  refine ab_q_go 2 (45, [(0, .ref 1000), (1, .ref 0), (2, .ref 13), (3, .ref 17), (4, .ref 18), (5, .int i)], [.int (x0 &&& (nI 63))], (X, w)) rfl ?_
  refine ab_q_go 1 (ab_tsw (x0 &&& nI 63) 2395, [(0, .ref 1000), (1, .ref 0), (2, .ref 13), (3, .ref 17), (4, .ref 18), (5, .int i)], [], (X, w)) rfl ?_
  refine ab_q_sw 1516 hsw (by decide) ?_
  refine ab_q_go 5 (1522, [(0, .ref 1000), (1, .ref 0), (2, .ref 13), (3, .ref 17), (4, .ref 18), (5, .int i)], [.int (i + (nI 1)), .ref 1000, .ref 0], (X, w)) rfl ?_
  refine ab_q_ld g1 e1 rfl ?_
  refine ab_q_go 4 (1528, [(0, .ref 1000), (1, .ref 0), (2, .ref 13), (3, .ref 17), (4, .ref 18), (5, .int i)], [.int (i + (nI 2)), .ref 1000, .int x1, .ref 0], (X, w)) rfl ?_
  refine ab_q_ld g2 e2 rfl ?_
  refine ab_q_go 4 (1534, [(0, .ref 1000), (1, .ref 0), (2, .ref 13), (3, .ref 17), (4, .ref 18), (5, .int i)], [.int (i + (nI 3)), .ref 1000, .int x2, .int x1, .ref 0], (X, w)) rfl ?_
  refine ab_q_ld g3 e3 rfl ?_
  refine ab_q_go 1 (1536, [(0, .ref 1000), (1, .ref 0), (2, .ref 13), (3, .ref 17), (4, .ref 18), (5, .int i)], [.ref 17, .int x3, .int x2, .int x1, .ref 0], (X, w)) rfl ?_
  refine ab_q_ca (k2 := 235) (as := [.ref 0, .int x1, .int x2, .int x3, .ref 17]) (rest := []) rfl rfl hW ?_
  refine ab_q_go 6 (1547, [(6, .int kv), (0, .ref 1000), (1, .ref 0), (2, .ref 13), (3, .ref 17), (4, .ref 18), (5, .int i)], [.int (i + (nI 1)), .ref 1000, .ref 13], (X1, w1)) rfl ?_
  refine ab_q_ld g1 e1 rfl ?_
  refine ab_q_go 4 (1553, [(6, .int kv), (0, .ref 1000), (1, .ref 0), (2, .ref 13), (3, .ref 17), (4, .ref 18), (5, .int i)], [.int (i + (nI 2)), .ref 1000, .int x1, .ref 13], (X1, w1)) rfl ?_
  refine ab_q_ld g2 e2 rfl ?_
  refine ab_q_go 4 (1559, [(6, .int kv), (0, .ref 1000), (1, .ref 0), (2, .ref 13), (3, .ref 17), (4, .ref 18), (5, .int i)], [.int (i + (nI 3)), .ref 1000, .int x2, .int x1, .ref 13], (X1, w1)) rfl ?_
  refine ab_q_ld g3 e3 rfl ?_
  refine ab_q_ca (k2 := 247) (as := [.ref 13, .int x1, .int x2, .int x3]) (rest := []) rfl rfl hM ?_
  refine ab_q_go 2 (1566, [(7, .int b), (6, .int kv), (0, .ref 1000), (1, .ref 0), (2, .ref 13), (3, .ref 17), (4, .ref 18), (5, .int i)], [.ref 13], (X2, w1)) rfl ?_
  refine ab_q_ca (k2 := 44) (as := [.ref 13]) (rest := []) rfl rfl (ab_ec_of (T_M_thrown S w1 X2 _ rfl)) ?_
  refine ab_q_go 1 (1571, [(7, .int b), (6, .int kv), (0, .ref 1000), (1, .ref 0), (2, .ref 13), (3, .ref 17), (4, .ref 18), (5, .int i)], [.int kv, .int (X2 13 0)], (X2, w1)) rfl ?_
  refine ab_q_t (d := X2 13 0 = kv) (1576, [(7, .int b), (6, .int kv), (0, .ref 1000), (1, .ref 0), (2, .ref 13), (3, .ref 17), (4, .ref 18), (5, .int i)], [], (X2, w1)) ht rfl ?_
  refine ab_q_go 1 (1578, [(7, .int b), (6, .int kv), (0, .ref 1000), (1, .ref 0), (2, .ref 13), (3, .ref 17), (4, .ref 18), (5, .int i)], [.int kv], (X2, w1)) rfl ?_
  by_cases hk : kv = nI 0
  · refine ab_q_f (d := ¬ kv = nI 0) (1581, [(7, .int b), (6, .int kv), (0, .ref 1000), (1, .ref 0), (2, .ref 13), (3, .ref 17), (4, .ref 18), (5, .int i)], [], (X2, w1)) (fun z => z hk) rfl ?_
    refine ab_q_go 2 (1583, [(7, .int b), (6, .int kv), (0, .ref 1000), (1, .ref 0), (2, .ref 13), (3, .ref 17), (4, .ref 18), (5, .int i)], [.int (nI 0), .ref 17], (X2, w1)) rfl ?_
    refine ab_q_go 1 (1584, [(7, .int b), (6, .int kv), (0, .ref 1000), (1, .ref 0), (2, .ref 13), (3, .ref 17), (4, .ref 18), (5, .int i)], [.long (w1.1 0)], (X2, w1)) rfl ?_
    refine ab_q_go 2 (1587, [(7, .int b), (6, .int kv), (0, .ref 1000), (1, .ref 0), (2, .ref 13), (3, .ref 17), (4, .ref 18), (5, .int i)], [.long b.toInt64, .long (w1.1 0)], (X2, w1)) rfl ?_
    refine ab_q_go 1 (1588, [(7, .int b), (6, .int kv), (0, .ref 1000), (1, .ref 0), (2, .ref 13), (3, .ref 17), (4, .ref 18), (5, .int i)], [.int (lg_cmp (w1.1 0) b.toInt64)], (X2, w1)) rfl ?_
    refine ab_q_t (d := lg_cmp (w1.1 0) b.toInt64 = nI 0) (1593, [(7, .int b), (6, .int kv), (0, .ref 1000), (1, .ref 0), (2, .ref 13), (3, .ref 17), (4, .ref 18), (5, .int i)], [], (X2, w1)) (hb hk) rfl ?_
    refine ab_q_go 1 (2395, [(7, .int b), (6, .int kv), (0, .ref 1000), (1, .ref 0), (2, .ref 13), (3, .ref 17), (4, .ref 18), (5, .int i)], [], (X2, w1)) rfl ?_
    refine ab_q_go 2 (28, [(5, .int (i + nI 7)), (7, .int b), (6, .int kv), (0, .ref 1000), (1, .ref 0), (2, .ref 13), (3, .ref 17), (4, .ref 18)], [], (X2, w1)) rfl ?_
    exact ab_q_wk (lv0 := [(0, .ref 1000), (1, .ref 0), (2, .ref 13), (3, .ref 17), (4, .ref 18), (5, .int (i + nI 7))]) ⟨rfl, rfl, rfl, rfl, rfl, rfl, trivial⟩ ab_q_rf
  · refine ab_q_t (d := ¬ kv = nI 0) (1593, [(7, .int b), (6, .int kv), (0, .ref 1000), (1, .ref 0), (2, .ref 13), (3, .ref 17), (4, .ref 18), (5, .int i)], [], (X2, w1)) hk rfl ?_
    refine ab_q_go 1 (2395, [(7, .int b), (6, .int kv), (0, .ref 1000), (1, .ref 0), (2, .ref 13), (3, .ref 17), (4, .ref 18), (5, .int i)], [], (X2, w1)) rfl ?_
    refine ab_q_go 2 (28, [(5, .int (i + nI 7)), (7, .int b), (6, .int kv), (0, .ref 1000), (1, .ref 0), (2, .ref 13), (3, .ref 17), (4, .ref 18)], [], (X2, w1)) rfl ?_
    exact ab_q_wk (lv0 := [(0, .ref 1000), (1, .ref 0), (2, .ref 13), (3, .ref 17), (4, .ref 18), (5, .int (i + nI 7))]) ⟨rfl, rfl, rfl, rfl, rfl, rfl, trivial⟩ ab_q_rf
set_option maxRecDepth 8000 in
set_option maxHeartbeats 1000000 in
theorem law_c24 (S : Nat × (Nat → Int32)) (w : ab_WW) (X : ab_XX) (i x0 : Int32) (hi : ¬ Int32.ofNat S.1 - nI 7 < i) (g0 : ab_in i S.1 = true) (e0 : S.2 i.toNatClampNeg = x0) (x1 : Int32) (g1 : ab_in (i + nI 1) S.1 = true) (e1 : S.2 (i + nI 1).toNatClampNeg = x1) (w1 : ab_WW) (X1 X2 : ab_XX) (kv : Int32) (b : Int32) (c : Nat) (hsw : x0 &&& nI 63 = nI 24) (hW : ab_Ec S 173 (0, lv_args 0 [.ref 0, .int x1, .ref 17], [], (X, w)) (.inl (some (.int kv)), (X1, w1)) c) (hM : ab_Ec S 143 (0, lv_args 0 [.ref 13, .int x1], [], (X1, w1)) (.inl (some (.int b)), (X2, w1)) 0) (ht : X2 13 0 = kv) (hb : kv = nI 0 → lg_cmp (w1.1 0) b.toInt64 = nI 0) : ab_Rc S 252 c (28, [(0, .ref 1000), (1, .ref 0), (2, .ref 13), (3, .ref 17), (4, .ref 18), (5, .int i)], [], (X, w)) (28, [(0, .ref 1000), (1, .ref 0), (2, .ref 13), (3, .ref 17), (4, .ref 18), (5, .int (i + nI 7))], [], (X2, w1)) := by
  rw [show c = c + (0 + (0 + 0)) by omega]
  refine ab_q_go 5 (35, [(0, .ref 1000), (1, .ref 0), (2, .ref 13), (3, .ref 17), (4, .ref 18), (5, .int i)], [.int (Int32.ofNat S.1 - nI 7), .int i], (X, w)) rfl ?_
  refine ab_q_f (d := Int32.ofNat S.1 - nI 7 < i) (38, [(0, .ref 1000), (1, .ref 0), (2, .ref 13), (3, .ref 17), (4, .ref 18), (5, .int i)], [], (X, w)) hi rfl ?_
  refine ab_q_go 2 (41, [(0, .ref 1000), (1, .ref 0), (2, .ref 13), (3, .ref 17), (4, .ref 18), (5, .int i)], [.int i, .ref 1000], (X, w)) rfl ?_
  refine ab_q_ld g0 e0 rfl ?_
  refine ab_q_go 2 (45, [(0, .ref 1000), (1, .ref 0), (2, .ref 13), (3, .ref 17), (4, .ref 18), (5, .int i)], [.int (x0 &&& (nI 63))], (X, w)) rfl ?_
  refine ab_q_go 1 (ab_tsw (x0 &&& nI 63) 2395, [(0, .ref 1000), (1, .ref 0), (2, .ref 13), (3, .ref 17), (4, .ref 18), (5, .int i)], [], (X, w)) rfl ?_
  refine ab_q_sw 1596 hsw (by decide) ?_
  refine ab_q_go 5 (1602, [(0, .ref 1000), (1, .ref 0), (2, .ref 13), (3, .ref 17), (4, .ref 18), (5, .int i)], [.int (i + (nI 1)), .ref 1000, .ref 0], (X, w)) rfl ?_
  refine ab_q_ld g1 e1 rfl ?_
  refine ab_q_go 1 (1604, [(0, .ref 1000), (1, .ref 0), (2, .ref 13), (3, .ref 17), (4, .ref 18), (5, .int i)], [.ref 17, .int x1, .ref 0], (X, w)) rfl ?_
  refine ab_q_ca (k2 := 173) (as := [.ref 0, .int x1, .ref 17]) (rest := []) rfl rfl hW ?_
  refine ab_q_go 6 (1615, [(6, .int kv), (0, .ref 1000), (1, .ref 0), (2, .ref 13), (3, .ref 17), (4, .ref 18), (5, .int i)], [.int (i + (nI 1)), .ref 1000, .ref 13], (X1, w1)) rfl ?_
  refine ab_q_ld g1 e1 rfl ?_
  refine ab_q_ca (k2 := 143) (as := [.ref 13, .int x1]) (rest := []) rfl rfl hM ?_
  refine ab_q_go 2 (1622, [(7, .int b), (6, .int kv), (0, .ref 1000), (1, .ref 0), (2, .ref 13), (3, .ref 17), (4, .ref 18), (5, .int i)], [.ref 13], (X2, w1)) rfl ?_
  refine ab_q_ca (k2 := 44) (as := [.ref 13]) (rest := []) rfl rfl (ab_ec_of (T_M_thrown S w1 X2 _ rfl)) ?_
  refine ab_q_go 1 (1627, [(7, .int b), (6, .int kv), (0, .ref 1000), (1, .ref 0), (2, .ref 13), (3, .ref 17), (4, .ref 18), (5, .int i)], [.int kv, .int (X2 13 0)], (X2, w1)) rfl ?_
  refine ab_q_t (d := X2 13 0 = kv) (1632, [(7, .int b), (6, .int kv), (0, .ref 1000), (1, .ref 0), (2, .ref 13), (3, .ref 17), (4, .ref 18), (5, .int i)], [], (X2, w1)) ht rfl ?_
  refine ab_q_go 1 (1634, [(7, .int b), (6, .int kv), (0, .ref 1000), (1, .ref 0), (2, .ref 13), (3, .ref 17), (4, .ref 18), (5, .int i)], [.int kv], (X2, w1)) rfl ?_
  by_cases hk : kv = nI 0
  · refine ab_q_f (d := ¬ kv = nI 0) (1637, [(7, .int b), (6, .int kv), (0, .ref 1000), (1, .ref 0), (2, .ref 13), (3, .ref 17), (4, .ref 18), (5, .int i)], [], (X2, w1)) (fun z => z hk) rfl ?_
    refine ab_q_go 2 (1639, [(7, .int b), (6, .int kv), (0, .ref 1000), (1, .ref 0), (2, .ref 13), (3, .ref 17), (4, .ref 18), (5, .int i)], [.int (nI 0), .ref 17], (X2, w1)) rfl ?_
    refine ab_q_go 1 (1640, [(7, .int b), (6, .int kv), (0, .ref 1000), (1, .ref 0), (2, .ref 13), (3, .ref 17), (4, .ref 18), (5, .int i)], [.long (w1.1 0)], (X2, w1)) rfl ?_
    refine ab_q_go 2 (1643, [(7, .int b), (6, .int kv), (0, .ref 1000), (1, .ref 0), (2, .ref 13), (3, .ref 17), (4, .ref 18), (5, .int i)], [.long b.toInt64, .long (w1.1 0)], (X2, w1)) rfl ?_
    refine ab_q_go 1 (1644, [(7, .int b), (6, .int kv), (0, .ref 1000), (1, .ref 0), (2, .ref 13), (3, .ref 17), (4, .ref 18), (5, .int i)], [.int (lg_cmp (w1.1 0) b.toInt64)], (X2, w1)) rfl ?_
    refine ab_q_t (d := lg_cmp (w1.1 0) b.toInt64 = nI 0) (1649, [(7, .int b), (6, .int kv), (0, .ref 1000), (1, .ref 0), (2, .ref 13), (3, .ref 17), (4, .ref 18), (5, .int i)], [], (X2, w1)) (hb hk) rfl ?_
    refine ab_q_go 1 (2395, [(7, .int b), (6, .int kv), (0, .ref 1000), (1, .ref 0), (2, .ref 13), (3, .ref 17), (4, .ref 18), (5, .int i)], [], (X2, w1)) rfl ?_
    refine ab_q_go 2 (28, [(5, .int (i + nI 7)), (7, .int b), (6, .int kv), (0, .ref 1000), (1, .ref 0), (2, .ref 13), (3, .ref 17), (4, .ref 18)], [], (X2, w1)) rfl ?_
    exact ab_q_wk (lv0 := [(0, .ref 1000), (1, .ref 0), (2, .ref 13), (3, .ref 17), (4, .ref 18), (5, .int (i + nI 7))]) ⟨rfl, rfl, rfl, rfl, rfl, rfl, trivial⟩ ab_q_rf
  · refine ab_q_t (d := ¬ kv = nI 0) (1649, [(7, .int b), (6, .int kv), (0, .ref 1000), (1, .ref 0), (2, .ref 13), (3, .ref 17), (4, .ref 18), (5, .int i)], [], (X2, w1)) hk rfl ?_
    refine ab_q_go 1 (2395, [(7, .int b), (6, .int kv), (0, .ref 1000), (1, .ref 0), (2, .ref 13), (3, .ref 17), (4, .ref 18), (5, .int i)], [], (X2, w1)) rfl ?_
    refine ab_q_go 2 (28, [(5, .int (i + nI 7)), (7, .int b), (6, .int kv), (0, .ref 1000), (1, .ref 0), (2, .ref 13), (3, .ref 17), (4, .ref 18)], [], (X2, w1)) rfl ?_
    exact ab_q_wk (lv0 := [(0, .ref 1000), (1, .ref 0), (2, .ref 13), (3, .ref 17), (4, .ref 18), (5, .int (i + nI 7))]) ⟨rfl, rfl, rfl, rfl, rfl, rfl, trivial⟩ ab_q_rf
set_option maxRecDepth 8000 in
set_option maxHeartbeats 1000000 in
theorem law_c25 (S : Nat × (Nat → Int32)) (w : ab_WW) (X : ab_XX) (i x0 : Int32) (hi : ¬ Int32.ofNat S.1 - nI 7 < i) (g0 : ab_in i S.1 = true) (e0 : S.2 i.toNatClampNeg = x0) (x1 : Int32) (g1 : ab_in (i + nI 1) S.1 = true) (e1 : S.2 (i + nI 1).toNatClampNeg = x1) (w1 : ab_WW) (X1 X2 : ab_XX) (kv : Int32) (b : Int32) (c : Nat) (hsw : x0 &&& nI 63 = nI 25) (hW : ab_Ec S 174 (0, lv_args 0 [.ref 0, .int x1, .ref 17], [], (X, w)) (.inl (some (.int kv)), (X1, w1)) c) (hM : ab_Ec S 144 (0, lv_args 0 [.ref 13, .int x1], [], (X1, w1)) (.inl (some (.int b)), (X2, w1)) 0) (ht : X2 13 0 = kv) (hb : kv = nI 0 → lg_cmp (w1.1 0) b.toInt64 = nI 0) : ab_Rc S 252 c (28, [(0, .ref 1000), (1, .ref 0), (2, .ref 13), (3, .ref 17), (4, .ref 18), (5, .int i)], [], (X, w)) (28, [(0, .ref 1000), (1, .ref 0), (2, .ref 13), (3, .ref 17), (4, .ref 18), (5, .int (i + nI 7))], [], (X2, w1)) := by
  rw [show c = c + (0 + (0 + 0)) by omega]
  refine ab_q_go 5 (35, [(0, .ref 1000), (1, .ref 0), (2, .ref 13), (3, .ref 17), (4, .ref 18), (5, .int i)], [.int (Int32.ofNat S.1 - nI 7), .int i], (X, w)) rfl ?_
  refine ab_q_f (d := Int32.ofNat S.1 - nI 7 < i) (38, [(0, .ref 1000), (1, .ref 0), (2, .ref 13), (3, .ref 17), (4, .ref 18), (5, .int i)], [], (X, w)) hi rfl ?_
  refine ab_q_go 2 (41, [(0, .ref 1000), (1, .ref 0), (2, .ref 13), (3, .ref 17), (4, .ref 18), (5, .int i)], [.int i, .ref 1000], (X, w)) rfl ?_
  refine ab_q_ld g0 e0 rfl ?_
  refine ab_q_go 2 (45, [(0, .ref 1000), (1, .ref 0), (2, .ref 13), (3, .ref 17), (4, .ref 18), (5, .int i)], [.int (x0 &&& (nI 63))], (X, w)) rfl ?_
  refine ab_q_go 1 (ab_tsw (x0 &&& nI 63) 2395, [(0, .ref 1000), (1, .ref 0), (2, .ref 13), (3, .ref 17), (4, .ref 18), (5, .int i)], [], (X, w)) rfl ?_
  refine ab_q_sw 1652 hsw (by decide) ?_
  refine ab_q_go 5 (1658, [(0, .ref 1000), (1, .ref 0), (2, .ref 13), (3, .ref 17), (4, .ref 18), (5, .int i)], [.int (i + (nI 1)), .ref 1000, .ref 0], (X, w)) rfl ?_
  refine ab_q_ld g1 e1 rfl ?_
  refine ab_q_go 1 (1660, [(0, .ref 1000), (1, .ref 0), (2, .ref 13), (3, .ref 17), (4, .ref 18), (5, .int i)], [.ref 17, .int x1, .ref 0], (X, w)) rfl ?_
  refine ab_q_ca (k2 := 174) (as := [.ref 0, .int x1, .ref 17]) (rest := []) rfl rfl hW ?_
  refine ab_q_go 6 (1671, [(6, .int kv), (0, .ref 1000), (1, .ref 0), (2, .ref 13), (3, .ref 17), (4, .ref 18), (5, .int i)], [.int (i + (nI 1)), .ref 1000, .ref 13], (X1, w1)) rfl ?_
  refine ab_q_ld g1 e1 rfl ?_
  refine ab_q_ca (k2 := 144) (as := [.ref 13, .int x1]) (rest := []) rfl rfl hM ?_
  refine ab_q_go 2 (1678, [(7, .int b), (6, .int kv), (0, .ref 1000), (1, .ref 0), (2, .ref 13), (3, .ref 17), (4, .ref 18), (5, .int i)], [.ref 13], (X2, w1)) rfl ?_
  refine ab_q_ca (k2 := 44) (as := [.ref 13]) (rest := []) rfl rfl (ab_ec_of (T_M_thrown S w1 X2 _ rfl)) ?_
  refine ab_q_go 1 (1683, [(7, .int b), (6, .int kv), (0, .ref 1000), (1, .ref 0), (2, .ref 13), (3, .ref 17), (4, .ref 18), (5, .int i)], [.int kv, .int (X2 13 0)], (X2, w1)) rfl ?_
  refine ab_q_t (d := X2 13 0 = kv) (1688, [(7, .int b), (6, .int kv), (0, .ref 1000), (1, .ref 0), (2, .ref 13), (3, .ref 17), (4, .ref 18), (5, .int i)], [], (X2, w1)) ht rfl ?_
  refine ab_q_go 1 (1690, [(7, .int b), (6, .int kv), (0, .ref 1000), (1, .ref 0), (2, .ref 13), (3, .ref 17), (4, .ref 18), (5, .int i)], [.int kv], (X2, w1)) rfl ?_
  by_cases hk : kv = nI 0
  · refine ab_q_f (d := ¬ kv = nI 0) (1693, [(7, .int b), (6, .int kv), (0, .ref 1000), (1, .ref 0), (2, .ref 13), (3, .ref 17), (4, .ref 18), (5, .int i)], [], (X2, w1)) (fun z => z hk) rfl ?_
    refine ab_q_go 2 (1695, [(7, .int b), (6, .int kv), (0, .ref 1000), (1, .ref 0), (2, .ref 13), (3, .ref 17), (4, .ref 18), (5, .int i)], [.int (nI 0), .ref 17], (X2, w1)) rfl ?_
    refine ab_q_go 1 (1696, [(7, .int b), (6, .int kv), (0, .ref 1000), (1, .ref 0), (2, .ref 13), (3, .ref 17), (4, .ref 18), (5, .int i)], [.long (w1.1 0)], (X2, w1)) rfl ?_
    refine ab_q_go 2 (1699, [(7, .int b), (6, .int kv), (0, .ref 1000), (1, .ref 0), (2, .ref 13), (3, .ref 17), (4, .ref 18), (5, .int i)], [.long b.toInt64, .long (w1.1 0)], (X2, w1)) rfl ?_
    refine ab_q_go 1 (1700, [(7, .int b), (6, .int kv), (0, .ref 1000), (1, .ref 0), (2, .ref 13), (3, .ref 17), (4, .ref 18), (5, .int i)], [.int (lg_cmp (w1.1 0) b.toInt64)], (X2, w1)) rfl ?_
    refine ab_q_t (d := lg_cmp (w1.1 0) b.toInt64 = nI 0) (1705, [(7, .int b), (6, .int kv), (0, .ref 1000), (1, .ref 0), (2, .ref 13), (3, .ref 17), (4, .ref 18), (5, .int i)], [], (X2, w1)) (hb hk) rfl ?_
    refine ab_q_go 1 (2395, [(7, .int b), (6, .int kv), (0, .ref 1000), (1, .ref 0), (2, .ref 13), (3, .ref 17), (4, .ref 18), (5, .int i)], [], (X2, w1)) rfl ?_
    refine ab_q_go 2 (28, [(5, .int (i + nI 7)), (7, .int b), (6, .int kv), (0, .ref 1000), (1, .ref 0), (2, .ref 13), (3, .ref 17), (4, .ref 18)], [], (X2, w1)) rfl ?_
    exact ab_q_wk (lv0 := [(0, .ref 1000), (1, .ref 0), (2, .ref 13), (3, .ref 17), (4, .ref 18), (5, .int (i + nI 7))]) ⟨rfl, rfl, rfl, rfl, rfl, rfl, trivial⟩ ab_q_rf
  · refine ab_q_t (d := ¬ kv = nI 0) (1705, [(7, .int b), (6, .int kv), (0, .ref 1000), (1, .ref 0), (2, .ref 13), (3, .ref 17), (4, .ref 18), (5, .int i)], [], (X2, w1)) hk rfl ?_
    refine ab_q_go 1 (2395, [(7, .int b), (6, .int kv), (0, .ref 1000), (1, .ref 0), (2, .ref 13), (3, .ref 17), (4, .ref 18), (5, .int i)], [], (X2, w1)) rfl ?_
    refine ab_q_go 2 (28, [(5, .int (i + nI 7)), (7, .int b), (6, .int kv), (0, .ref 1000), (1, .ref 0), (2, .ref 13), (3, .ref 17), (4, .ref 18)], [], (X2, w1)) rfl ?_
    exact ab_q_wk (lv0 := [(0, .ref 1000), (1, .ref 0), (2, .ref 13), (3, .ref 17), (4, .ref 18), (5, .int (i + nI 7))]) ⟨rfl, rfl, rfl, rfl, rfl, rfl, trivial⟩ ab_q_rf
set_option maxRecDepth 8000 in
set_option maxHeartbeats 1000000 in
theorem law_c26 (S : Nat × (Nat → Int32)) (w : ab_WW) (X : ab_XX) (i x0 : Int32) (hi : ¬ Int32.ofNat S.1 - nI 7 < i) (g0 : ab_in i S.1 = true) (e0 : S.2 i.toNatClampNeg = x0) (x1 : Int32) (g1 : ab_in (i + nI 1) S.1 = true) (e1 : S.2 (i + nI 1).toNatClampNeg = x1) (x2 : Int32) (g2 : ab_in (i + nI 2) S.1 = true) (e2 : S.2 (i + nI 2).toNatClampNeg = x2) (w1 : ab_WW) (X1 X2 : ab_XX) (kv : Int32) (b : Int32) (c : Nat) (hsw : x0 &&& nI 63 = nI 26) (hW : ab_Ec S 175 (0, lv_args 0 [.ref 0, .int x1, .int x2, .ref 17], [], (X, w)) (.inl (some (.int kv)), (X1, w1)) c) (hM : ab_Ec S 182 (0, lv_args 0 [.ref 13, .int x1, .int x2], [], (X1, w1)) (.inl (some (.int b)), (X2, w1)) 0) (ht : X2 13 0 = kv) (hb : kv = nI 0 → lg_cmp (w1.1 0) b.toInt64 = nI 0) : ab_Rc S 252 c (28, [(0, .ref 1000), (1, .ref 0), (2, .ref 13), (3, .ref 17), (4, .ref 18), (5, .int i)], [], (X, w)) (28, [(0, .ref 1000), (1, .ref 0), (2, .ref 13), (3, .ref 17), (4, .ref 18), (5, .int (i + nI 7))], [], (X2, w1)) := by
  rw [show c = c + (0 + (0 + 0)) by omega]
  refine ab_q_go 5 (35, [(0, .ref 1000), (1, .ref 0), (2, .ref 13), (3, .ref 17), (4, .ref 18), (5, .int i)], [.int (Int32.ofNat S.1 - nI 7), .int i], (X, w)) rfl ?_
  refine ab_q_f (d := Int32.ofNat S.1 - nI 7 < i) (38, [(0, .ref 1000), (1, .ref 0), (2, .ref 13), (3, .ref 17), (4, .ref 18), (5, .int i)], [], (X, w)) hi rfl ?_
  refine ab_q_go 2 (41, [(0, .ref 1000), (1, .ref 0), (2, .ref 13), (3, .ref 17), (4, .ref 18), (5, .int i)], [.int i, .ref 1000], (X, w)) rfl ?_
  refine ab_q_ld g0 e0 rfl ?_
  refine ab_q_go 2 (45, [(0, .ref 1000), (1, .ref 0), (2, .ref 13), (3, .ref 17), (4, .ref 18), (5, .int i)], [.int (x0 &&& (nI 63))], (X, w)) rfl ?_
  refine ab_q_go 1 (ab_tsw (x0 &&& nI 63) 2395, [(0, .ref 1000), (1, .ref 0), (2, .ref 13), (3, .ref 17), (4, .ref 18), (5, .int i)], [], (X, w)) rfl ?_
  refine ab_q_sw 1708 hsw (by decide) ?_
  refine ab_q_go 5 (1714, [(0, .ref 1000), (1, .ref 0), (2, .ref 13), (3, .ref 17), (4, .ref 18), (5, .int i)], [.int (i + (nI 1)), .ref 1000, .ref 0], (X, w)) rfl ?_
  refine ab_q_ld g1 e1 rfl ?_
  refine ab_q_go 4 (1720, [(0, .ref 1000), (1, .ref 0), (2, .ref 13), (3, .ref 17), (4, .ref 18), (5, .int i)], [.int (i + (nI 2)), .ref 1000, .int x1, .ref 0], (X, w)) rfl ?_
  refine ab_q_ld g2 e2 rfl ?_
  refine ab_q_go 1 (1722, [(0, .ref 1000), (1, .ref 0), (2, .ref 13), (3, .ref 17), (4, .ref 18), (5, .int i)], [.ref 17, .int x2, .int x1, .ref 0], (X, w)) rfl ?_
  refine ab_q_ca (k2 := 175) (as := [.ref 0, .int x1, .int x2, .ref 17]) (rest := []) rfl rfl hW ?_
  refine ab_q_go 6 (1733, [(6, .int kv), (0, .ref 1000), (1, .ref 0), (2, .ref 13), (3, .ref 17), (4, .ref 18), (5, .int i)], [.int (i + (nI 1)), .ref 1000, .ref 13], (X1, w1)) rfl ?_
  refine ab_q_ld g1 e1 rfl ?_
  refine ab_q_go 4 (1739, [(6, .int kv), (0, .ref 1000), (1, .ref 0), (2, .ref 13), (3, .ref 17), (4, .ref 18), (5, .int i)], [.int (i + (nI 2)), .ref 1000, .int x1, .ref 13], (X1, w1)) rfl ?_
  refine ab_q_ld g2 e2 rfl ?_
  refine ab_q_ca (k2 := 182) (as := [.ref 13, .int x1, .int x2]) (rest := []) rfl rfl hM ?_
  refine ab_q_go 2 (1746, [(7, .int b), (6, .int kv), (0, .ref 1000), (1, .ref 0), (2, .ref 13), (3, .ref 17), (4, .ref 18), (5, .int i)], [.ref 13], (X2, w1)) rfl ?_
  refine ab_q_ca (k2 := 44) (as := [.ref 13]) (rest := []) rfl rfl (ab_ec_of (T_M_thrown S w1 X2 _ rfl)) ?_
  refine ab_q_go 1 (1751, [(7, .int b), (6, .int kv), (0, .ref 1000), (1, .ref 0), (2, .ref 13), (3, .ref 17), (4, .ref 18), (5, .int i)], [.int kv, .int (X2 13 0)], (X2, w1)) rfl ?_
  refine ab_q_t (d := X2 13 0 = kv) (1756, [(7, .int b), (6, .int kv), (0, .ref 1000), (1, .ref 0), (2, .ref 13), (3, .ref 17), (4, .ref 18), (5, .int i)], [], (X2, w1)) ht rfl ?_
  refine ab_q_go 1 (1758, [(7, .int b), (6, .int kv), (0, .ref 1000), (1, .ref 0), (2, .ref 13), (3, .ref 17), (4, .ref 18), (5, .int i)], [.int kv], (X2, w1)) rfl ?_
  by_cases hk : kv = nI 0
  · refine ab_q_f (d := ¬ kv = nI 0) (1761, [(7, .int b), (6, .int kv), (0, .ref 1000), (1, .ref 0), (2, .ref 13), (3, .ref 17), (4, .ref 18), (5, .int i)], [], (X2, w1)) (fun z => z hk) rfl ?_
    refine ab_q_go 2 (1763, [(7, .int b), (6, .int kv), (0, .ref 1000), (1, .ref 0), (2, .ref 13), (3, .ref 17), (4, .ref 18), (5, .int i)], [.int (nI 0), .ref 17], (X2, w1)) rfl ?_
    refine ab_q_go 1 (1764, [(7, .int b), (6, .int kv), (0, .ref 1000), (1, .ref 0), (2, .ref 13), (3, .ref 17), (4, .ref 18), (5, .int i)], [.long (w1.1 0)], (X2, w1)) rfl ?_
    refine ab_q_go 2 (1767, [(7, .int b), (6, .int kv), (0, .ref 1000), (1, .ref 0), (2, .ref 13), (3, .ref 17), (4, .ref 18), (5, .int i)], [.long b.toInt64, .long (w1.1 0)], (X2, w1)) rfl ?_
    refine ab_q_go 1 (1768, [(7, .int b), (6, .int kv), (0, .ref 1000), (1, .ref 0), (2, .ref 13), (3, .ref 17), (4, .ref 18), (5, .int i)], [.int (lg_cmp (w1.1 0) b.toInt64)], (X2, w1)) rfl ?_
    refine ab_q_t (d := lg_cmp (w1.1 0) b.toInt64 = nI 0) (1773, [(7, .int b), (6, .int kv), (0, .ref 1000), (1, .ref 0), (2, .ref 13), (3, .ref 17), (4, .ref 18), (5, .int i)], [], (X2, w1)) (hb hk) rfl ?_
    refine ab_q_go 1 (2395, [(7, .int b), (6, .int kv), (0, .ref 1000), (1, .ref 0), (2, .ref 13), (3, .ref 17), (4, .ref 18), (5, .int i)], [], (X2, w1)) rfl ?_
    refine ab_q_go 2 (28, [(5, .int (i + nI 7)), (7, .int b), (6, .int kv), (0, .ref 1000), (1, .ref 0), (2, .ref 13), (3, .ref 17), (4, .ref 18)], [], (X2, w1)) rfl ?_
    exact ab_q_wk (lv0 := [(0, .ref 1000), (1, .ref 0), (2, .ref 13), (3, .ref 17), (4, .ref 18), (5, .int (i + nI 7))]) ⟨rfl, rfl, rfl, rfl, rfl, rfl, trivial⟩ ab_q_rf
  · refine ab_q_t (d := ¬ kv = nI 0) (1773, [(7, .int b), (6, .int kv), (0, .ref 1000), (1, .ref 0), (2, .ref 13), (3, .ref 17), (4, .ref 18), (5, .int i)], [], (X2, w1)) hk rfl ?_
    refine ab_q_go 1 (2395, [(7, .int b), (6, .int kv), (0, .ref 1000), (1, .ref 0), (2, .ref 13), (3, .ref 17), (4, .ref 18), (5, .int i)], [], (X2, w1)) rfl ?_
    refine ab_q_go 2 (28, [(5, .int (i + nI 7)), (7, .int b), (6, .int kv), (0, .ref 1000), (1, .ref 0), (2, .ref 13), (3, .ref 17), (4, .ref 18)], [], (X2, w1)) rfl ?_
    exact ab_q_wk (lv0 := [(0, .ref 1000), (1, .ref 0), (2, .ref 13), (3, .ref 17), (4, .ref 18), (5, .int (i + nI 7))]) ⟨rfl, rfl, rfl, rfl, rfl, rfl, trivial⟩ ab_q_rf
set_option maxRecDepth 8000 in
set_option maxHeartbeats 1000000 in
theorem law_c27 (S : Nat × (Nat → Int32)) (w : ab_WW) (X : ab_XX) (i x0 : Int32) (hi : ¬ Int32.ofNat S.1 - nI 7 < i) (g0 : ab_in i S.1 = true) (e0 : S.2 i.toNatClampNeg = x0) (x1 : Int32) (g1 : ab_in (i + nI 1) S.1 = true) (e1 : S.2 (i + nI 1).toNatClampNeg = x1) (w1 : ab_WW) (X1 X2 : ab_XX) (kv : Int32) (b : Int32) (c : Nat) (hsw : x0 &&& nI 63 = nI 27) (hW : ab_Ec S 200 (0, lv_args 0 [.ref 0, .int x1, .ref 17], [], (X, w)) (.inl (some (.int kv)), (X1, w1)) c) (hM : ab_Ec S 180 (0, lv_args 0 [.ref 13, .int x1], [], (X1, w1)) (.inl (some (.int b)), (X2, w1)) 0) (ht : X2 13 0 = kv) (hb : kv = nI 0 → lg_cmp (w1.1 0) b.toInt64 = nI 0) : ab_Rc S 252 c (28, [(0, .ref 1000), (1, .ref 0), (2, .ref 13), (3, .ref 17), (4, .ref 18), (5, .int i)], [], (X, w)) (28, [(0, .ref 1000), (1, .ref 0), (2, .ref 13), (3, .ref 17), (4, .ref 18), (5, .int (i + nI 7))], [], (X2, w1)) := by
  rw [show c = c + (0 + (0 + 0)) by omega]
  refine ab_q_go 5 (35, [(0, .ref 1000), (1, .ref 0), (2, .ref 13), (3, .ref 17), (4, .ref 18), (5, .int i)], [.int (Int32.ofNat S.1 - nI 7), .int i], (X, w)) rfl ?_
  refine ab_q_f (d := Int32.ofNat S.1 - nI 7 < i) (38, [(0, .ref 1000), (1, .ref 0), (2, .ref 13), (3, .ref 17), (4, .ref 18), (5, .int i)], [], (X, w)) hi rfl ?_
  refine ab_q_go 2 (41, [(0, .ref 1000), (1, .ref 0), (2, .ref 13), (3, .ref 17), (4, .ref 18), (5, .int i)], [.int i, .ref 1000], (X, w)) rfl ?_
  refine ab_q_ld g0 e0 rfl ?_
  refine ab_q_go 2 (45, [(0, .ref 1000), (1, .ref 0), (2, .ref 13), (3, .ref 17), (4, .ref 18), (5, .int i)], [.int (x0 &&& (nI 63))], (X, w)) rfl ?_
  refine ab_q_go 1 (ab_tsw (x0 &&& nI 63) 2395, [(0, .ref 1000), (1, .ref 0), (2, .ref 13), (3, .ref 17), (4, .ref 18), (5, .int i)], [], (X, w)) rfl ?_
  refine ab_q_sw 1776 hsw (by decide) ?_
  refine ab_q_go 5 (1782, [(0, .ref 1000), (1, .ref 0), (2, .ref 13), (3, .ref 17), (4, .ref 18), (5, .int i)], [.int (i + (nI 1)), .ref 1000, .ref 0], (X, w)) rfl ?_
  refine ab_q_ld g1 e1 rfl ?_
  refine ab_q_go 1 (1784, [(0, .ref 1000), (1, .ref 0), (2, .ref 13), (3, .ref 17), (4, .ref 18), (5, .int i)], [.ref 17, .int x1, .ref 0], (X, w)) rfl ?_
  refine ab_q_ca (k2 := 200) (as := [.ref 0, .int x1, .ref 17]) (rest := []) rfl rfl hW ?_
  refine ab_q_go 6 (1795, [(6, .int kv), (0, .ref 1000), (1, .ref 0), (2, .ref 13), (3, .ref 17), (4, .ref 18), (5, .int i)], [.int (i + (nI 1)), .ref 1000, .ref 13], (X1, w1)) rfl ?_
  refine ab_q_ld g1 e1 rfl ?_
  refine ab_q_ca (k2 := 180) (as := [.ref 13, .int x1]) (rest := []) rfl rfl hM ?_
  refine ab_q_go 2 (1802, [(7, .int b), (6, .int kv), (0, .ref 1000), (1, .ref 0), (2, .ref 13), (3, .ref 17), (4, .ref 18), (5, .int i)], [.ref 13], (X2, w1)) rfl ?_
  refine ab_q_ca (k2 := 44) (as := [.ref 13]) (rest := []) rfl rfl (ab_ec_of (T_M_thrown S w1 X2 _ rfl)) ?_
  refine ab_q_go 1 (1807, [(7, .int b), (6, .int kv), (0, .ref 1000), (1, .ref 0), (2, .ref 13), (3, .ref 17), (4, .ref 18), (5, .int i)], [.int kv, .int (X2 13 0)], (X2, w1)) rfl ?_
  refine ab_q_t (d := X2 13 0 = kv) (1812, [(7, .int b), (6, .int kv), (0, .ref 1000), (1, .ref 0), (2, .ref 13), (3, .ref 17), (4, .ref 18), (5, .int i)], [], (X2, w1)) ht rfl ?_
  refine ab_q_go 1 (1814, [(7, .int b), (6, .int kv), (0, .ref 1000), (1, .ref 0), (2, .ref 13), (3, .ref 17), (4, .ref 18), (5, .int i)], [.int kv], (X2, w1)) rfl ?_
  by_cases hk : kv = nI 0
  · refine ab_q_f (d := ¬ kv = nI 0) (1817, [(7, .int b), (6, .int kv), (0, .ref 1000), (1, .ref 0), (2, .ref 13), (3, .ref 17), (4, .ref 18), (5, .int i)], [], (X2, w1)) (fun z => z hk) rfl ?_
    refine ab_q_go 2 (1819, [(7, .int b), (6, .int kv), (0, .ref 1000), (1, .ref 0), (2, .ref 13), (3, .ref 17), (4, .ref 18), (5, .int i)], [.int (nI 0), .ref 17], (X2, w1)) rfl ?_
    refine ab_q_go 1 (1820, [(7, .int b), (6, .int kv), (0, .ref 1000), (1, .ref 0), (2, .ref 13), (3, .ref 17), (4, .ref 18), (5, .int i)], [.long (w1.1 0)], (X2, w1)) rfl ?_
    refine ab_q_go 2 (1823, [(7, .int b), (6, .int kv), (0, .ref 1000), (1, .ref 0), (2, .ref 13), (3, .ref 17), (4, .ref 18), (5, .int i)], [.long b.toInt64, .long (w1.1 0)], (X2, w1)) rfl ?_
    refine ab_q_go 1 (1824, [(7, .int b), (6, .int kv), (0, .ref 1000), (1, .ref 0), (2, .ref 13), (3, .ref 17), (4, .ref 18), (5, .int i)], [.int (lg_cmp (w1.1 0) b.toInt64)], (X2, w1)) rfl ?_
    refine ab_q_t (d := lg_cmp (w1.1 0) b.toInt64 = nI 0) (1829, [(7, .int b), (6, .int kv), (0, .ref 1000), (1, .ref 0), (2, .ref 13), (3, .ref 17), (4, .ref 18), (5, .int i)], [], (X2, w1)) (hb hk) rfl ?_
    refine ab_q_go 1 (2395, [(7, .int b), (6, .int kv), (0, .ref 1000), (1, .ref 0), (2, .ref 13), (3, .ref 17), (4, .ref 18), (5, .int i)], [], (X2, w1)) rfl ?_
    refine ab_q_go 2 (28, [(5, .int (i + nI 7)), (7, .int b), (6, .int kv), (0, .ref 1000), (1, .ref 0), (2, .ref 13), (3, .ref 17), (4, .ref 18)], [], (X2, w1)) rfl ?_
    exact ab_q_wk (lv0 := [(0, .ref 1000), (1, .ref 0), (2, .ref 13), (3, .ref 17), (4, .ref 18), (5, .int (i + nI 7))]) ⟨rfl, rfl, rfl, rfl, rfl, rfl, trivial⟩ ab_q_rf
  · refine ab_q_t (d := ¬ kv = nI 0) (1829, [(7, .int b), (6, .int kv), (0, .ref 1000), (1, .ref 0), (2, .ref 13), (3, .ref 17), (4, .ref 18), (5, .int i)], [], (X2, w1)) hk rfl ?_
    refine ab_q_go 1 (2395, [(7, .int b), (6, .int kv), (0, .ref 1000), (1, .ref 0), (2, .ref 13), (3, .ref 17), (4, .ref 18), (5, .int i)], [], (X2, w1)) rfl ?_
    refine ab_q_go 2 (28, [(5, .int (i + nI 7)), (7, .int b), (6, .int kv), (0, .ref 1000), (1, .ref 0), (2, .ref 13), (3, .ref 17), (4, .ref 18)], [], (X2, w1)) rfl ?_
    exact ab_q_wk (lv0 := [(0, .ref 1000), (1, .ref 0), (2, .ref 13), (3, .ref 17), (4, .ref 18), (5, .int (i + nI 7))]) ⟨rfl, rfl, rfl, rfl, rfl, rfl, trivial⟩ ab_q_rf
set_option maxRecDepth 8000 in
set_option maxHeartbeats 1000000 in
theorem law_c28 (S : Nat × (Nat → Int32)) (w : ab_WW) (X : ab_XX) (i x0 : Int32) (hi : ¬ Int32.ofNat S.1 - nI 7 < i) (g0 : ab_in i S.1 = true) (e0 : S.2 i.toNatClampNeg = x0) (x1 : Int32) (g1 : ab_in (i + nI 1) S.1 = true) (e1 : S.2 (i + nI 1).toNatClampNeg = x1) (w1 : ab_WW) (X1 X2 : ab_XX) (kv : Int32) (b : Int32) (c : Nat) (hsw : x0 &&& nI 63 = nI 28) (hW : ab_Ec S 178 (0, lv_args 0 [.ref 0, .int x1, .ref 17], [], (X, w)) (.inl (some (.int kv)), (X1, w1)) c) (hM : ab_Ec S 188 (0, lv_args 0 [.ref 13, .int x1], [], (X1, w1)) (.inl (some (.int b)), (X2, w1)) 0) (ht : X2 13 0 = kv) (hb : kv = nI 0 → lg_cmp (w1.1 0) b.toInt64 = nI 0) : ab_Rc S 252 c (28, [(0, .ref 1000), (1, .ref 0), (2, .ref 13), (3, .ref 17), (4, .ref 18), (5, .int i)], [], (X, w)) (28, [(0, .ref 1000), (1, .ref 0), (2, .ref 13), (3, .ref 17), (4, .ref 18), (5, .int (i + nI 7))], [], (X2, w1)) := by
  rw [show c = c + (0 + (0 + 0)) by omega]
  refine ab_q_go 5 (35, [(0, .ref 1000), (1, .ref 0), (2, .ref 13), (3, .ref 17), (4, .ref 18), (5, .int i)], [.int (Int32.ofNat S.1 - nI 7), .int i], (X, w)) rfl ?_
  refine ab_q_f (d := Int32.ofNat S.1 - nI 7 < i) (38, [(0, .ref 1000), (1, .ref 0), (2, .ref 13), (3, .ref 17), (4, .ref 18), (5, .int i)], [], (X, w)) hi rfl ?_
  refine ab_q_go 2 (41, [(0, .ref 1000), (1, .ref 0), (2, .ref 13), (3, .ref 17), (4, .ref 18), (5, .int i)], [.int i, .ref 1000], (X, w)) rfl ?_
  refine ab_q_ld g0 e0 rfl ?_
  refine ab_q_go 2 (45, [(0, .ref 1000), (1, .ref 0), (2, .ref 13), (3, .ref 17), (4, .ref 18), (5, .int i)], [.int (x0 &&& (nI 63))], (X, w)) rfl ?_
  refine ab_q_go 1 (ab_tsw (x0 &&& nI 63) 2395, [(0, .ref 1000), (1, .ref 0), (2, .ref 13), (3, .ref 17), (4, .ref 18), (5, .int i)], [], (X, w)) rfl ?_
  refine ab_q_sw 1832 hsw (by decide) ?_
  refine ab_q_go 5 (1838, [(0, .ref 1000), (1, .ref 0), (2, .ref 13), (3, .ref 17), (4, .ref 18), (5, .int i)], [.int (i + (nI 1)), .ref 1000, .ref 0], (X, w)) rfl ?_
  refine ab_q_ld g1 e1 rfl ?_
  refine ab_q_go 1 (1840, [(0, .ref 1000), (1, .ref 0), (2, .ref 13), (3, .ref 17), (4, .ref 18), (5, .int i)], [.ref 17, .int x1, .ref 0], (X, w)) rfl ?_
  refine ab_q_ca (k2 := 178) (as := [.ref 0, .int x1, .ref 17]) (rest := []) rfl rfl hW ?_
  refine ab_q_go 6 (1851, [(6, .int kv), (0, .ref 1000), (1, .ref 0), (2, .ref 13), (3, .ref 17), (4, .ref 18), (5, .int i)], [.int (i + (nI 1)), .ref 1000, .ref 13], (X1, w1)) rfl ?_
  refine ab_q_ld g1 e1 rfl ?_
  refine ab_q_ca (k2 := 188) (as := [.ref 13, .int x1]) (rest := []) rfl rfl hM ?_
  refine ab_q_go 2 (1858, [(7, .int b), (6, .int kv), (0, .ref 1000), (1, .ref 0), (2, .ref 13), (3, .ref 17), (4, .ref 18), (5, .int i)], [.ref 13], (X2, w1)) rfl ?_
  refine ab_q_ca (k2 := 44) (as := [.ref 13]) (rest := []) rfl rfl (ab_ec_of (T_M_thrown S w1 X2 _ rfl)) ?_
  refine ab_q_go 1 (1863, [(7, .int b), (6, .int kv), (0, .ref 1000), (1, .ref 0), (2, .ref 13), (3, .ref 17), (4, .ref 18), (5, .int i)], [.int kv, .int (X2 13 0)], (X2, w1)) rfl ?_
  refine ab_q_t (d := X2 13 0 = kv) (1868, [(7, .int b), (6, .int kv), (0, .ref 1000), (1, .ref 0), (2, .ref 13), (3, .ref 17), (4, .ref 18), (5, .int i)], [], (X2, w1)) ht rfl ?_
  refine ab_q_go 1 (1870, [(7, .int b), (6, .int kv), (0, .ref 1000), (1, .ref 0), (2, .ref 13), (3, .ref 17), (4, .ref 18), (5, .int i)], [.int kv], (X2, w1)) rfl ?_
  by_cases hk : kv = nI 0
  · refine ab_q_f (d := ¬ kv = nI 0) (1873, [(7, .int b), (6, .int kv), (0, .ref 1000), (1, .ref 0), (2, .ref 13), (3, .ref 17), (4, .ref 18), (5, .int i)], [], (X2, w1)) (fun z => z hk) rfl ?_
    refine ab_q_go 2 (1875, [(7, .int b), (6, .int kv), (0, .ref 1000), (1, .ref 0), (2, .ref 13), (3, .ref 17), (4, .ref 18), (5, .int i)], [.int (nI 0), .ref 17], (X2, w1)) rfl ?_
    refine ab_q_go 1 (1876, [(7, .int b), (6, .int kv), (0, .ref 1000), (1, .ref 0), (2, .ref 13), (3, .ref 17), (4, .ref 18), (5, .int i)], [.long (w1.1 0)], (X2, w1)) rfl ?_
    refine ab_q_go 2 (1879, [(7, .int b), (6, .int kv), (0, .ref 1000), (1, .ref 0), (2, .ref 13), (3, .ref 17), (4, .ref 18), (5, .int i)], [.long b.toInt64, .long (w1.1 0)], (X2, w1)) rfl ?_
    refine ab_q_go 1 (1880, [(7, .int b), (6, .int kv), (0, .ref 1000), (1, .ref 0), (2, .ref 13), (3, .ref 17), (4, .ref 18), (5, .int i)], [.int (lg_cmp (w1.1 0) b.toInt64)], (X2, w1)) rfl ?_
    refine ab_q_t (d := lg_cmp (w1.1 0) b.toInt64 = nI 0) (1885, [(7, .int b), (6, .int kv), (0, .ref 1000), (1, .ref 0), (2, .ref 13), (3, .ref 17), (4, .ref 18), (5, .int i)], [], (X2, w1)) (hb hk) rfl ?_
    refine ab_q_go 1 (2395, [(7, .int b), (6, .int kv), (0, .ref 1000), (1, .ref 0), (2, .ref 13), (3, .ref 17), (4, .ref 18), (5, .int i)], [], (X2, w1)) rfl ?_
    refine ab_q_go 2 (28, [(5, .int (i + nI 7)), (7, .int b), (6, .int kv), (0, .ref 1000), (1, .ref 0), (2, .ref 13), (3, .ref 17), (4, .ref 18)], [], (X2, w1)) rfl ?_
    exact ab_q_wk (lv0 := [(0, .ref 1000), (1, .ref 0), (2, .ref 13), (3, .ref 17), (4, .ref 18), (5, .int (i + nI 7))]) ⟨rfl, rfl, rfl, rfl, rfl, rfl, trivial⟩ ab_q_rf
  · refine ab_q_t (d := ¬ kv = nI 0) (1885, [(7, .int b), (6, .int kv), (0, .ref 1000), (1, .ref 0), (2, .ref 13), (3, .ref 17), (4, .ref 18), (5, .int i)], [], (X2, w1)) hk rfl ?_
    refine ab_q_go 1 (2395, [(7, .int b), (6, .int kv), (0, .ref 1000), (1, .ref 0), (2, .ref 13), (3, .ref 17), (4, .ref 18), (5, .int i)], [], (X2, w1)) rfl ?_
    refine ab_q_go 2 (28, [(5, .int (i + nI 7)), (7, .int b), (6, .int kv), (0, .ref 1000), (1, .ref 0), (2, .ref 13), (3, .ref 17), (4, .ref 18)], [], (X2, w1)) rfl ?_
    exact ab_q_wk (lv0 := [(0, .ref 1000), (1, .ref 0), (2, .ref 13), (3, .ref 17), (4, .ref 18), (5, .int (i + nI 7))]) ⟨rfl, rfl, rfl, rfl, rfl, rfl, trivial⟩ ab_q_rf
set_option maxRecDepth 8000 in
set_option maxHeartbeats 1000000 in
theorem law_c29 (S : Nat × (Nat → Int32)) (w : ab_WW) (X : ab_XX) (i x0 : Int32) (hi : ¬ Int32.ofNat S.1 - nI 7 < i) (g0 : ab_in i S.1 = true) (e0 : S.2 i.toNatClampNeg = x0) (x1 : Int32) (g1 : ab_in (i + nI 1) S.1 = true) (e1 : S.2 (i + nI 1).toNatClampNeg = x1) (w1 : ab_WW) (X1 X2 : ab_XX) (kv : Int32) (b : Int32) (c : Nat) (hsw : x0 &&& nI 63 = nI 29) (hW : ab_Ec S 176 (0, lv_args 0 [.ref 0, .int x1, .ref 17], [], (X, w)) (.inl (some (.int kv)), (X1, w1)) c) (hM : ab_Ec S 148 (0, lv_args 0 [.ref 13, .int x1], [], (X1, w1)) (.inl (some (.int b)), (X2, w1)) 0) (ht : X2 13 0 = kv) (hb : kv = nI 0 → lg_cmp (w1.1 0) b.toInt64 = nI 0) : ab_Rc S 252 c (28, [(0, .ref 1000), (1, .ref 0), (2, .ref 13), (3, .ref 17), (4, .ref 18), (5, .int i)], [], (X, w)) (28, [(0, .ref 1000), (1, .ref 0), (2, .ref 13), (3, .ref 17), (4, .ref 18), (5, .int (i + nI 7))], [], (X2, w1)) := by
  rw [show c = c + (0 + (0 + 0)) by omega]
  refine ab_q_go 5 (35, [(0, .ref 1000), (1, .ref 0), (2, .ref 13), (3, .ref 17), (4, .ref 18), (5, .int i)], [.int (Int32.ofNat S.1 - nI 7), .int i], (X, w)) rfl ?_
  refine ab_q_f (d := Int32.ofNat S.1 - nI 7 < i) (38, [(0, .ref 1000), (1, .ref 0), (2, .ref 13), (3, .ref 17), (4, .ref 18), (5, .int i)], [], (X, w)) hi rfl ?_
  refine ab_q_go 2 (41, [(0, .ref 1000), (1, .ref 0), (2, .ref 13), (3, .ref 17), (4, .ref 18), (5, .int i)], [.int i, .ref 1000], (X, w)) rfl ?_
  refine ab_q_ld g0 e0 rfl ?_
  refine ab_q_go 2 (45, [(0, .ref 1000), (1, .ref 0), (2, .ref 13), (3, .ref 17), (4, .ref 18), (5, .int i)], [.int (x0 &&& (nI 63))], (X, w)) rfl ?_
  refine ab_q_go 1 (ab_tsw (x0 &&& nI 63) 2395, [(0, .ref 1000), (1, .ref 0), (2, .ref 13), (3, .ref 17), (4, .ref 18), (5, .int i)], [], (X, w)) rfl ?_
  refine ab_q_sw 1888 hsw (by decide) ?_
  refine ab_q_go 5 (1894, [(0, .ref 1000), (1, .ref 0), (2, .ref 13), (3, .ref 17), (4, .ref 18), (5, .int i)], [.int (i + (nI 1)), .ref 1000, .ref 0], (X, w)) rfl ?_
  refine ab_q_ld g1 e1 rfl ?_
  refine ab_q_go 1 (1896, [(0, .ref 1000), (1, .ref 0), (2, .ref 13), (3, .ref 17), (4, .ref 18), (5, .int i)], [.ref 17, .int x1, .ref 0], (X, w)) rfl ?_
  refine ab_q_ca (k2 := 176) (as := [.ref 0, .int x1, .ref 17]) (rest := []) rfl rfl hW ?_
  refine ab_q_go 6 (1907, [(6, .int kv), (0, .ref 1000), (1, .ref 0), (2, .ref 13), (3, .ref 17), (4, .ref 18), (5, .int i)], [.int (i + (nI 1)), .ref 1000, .ref 13], (X1, w1)) rfl ?_
  refine ab_q_ld g1 e1 rfl ?_
  refine ab_q_ca (k2 := 148) (as := [.ref 13, .int x1]) (rest := []) rfl rfl hM ?_
  refine ab_q_go 2 (1914, [(7, .int b), (6, .int kv), (0, .ref 1000), (1, .ref 0), (2, .ref 13), (3, .ref 17), (4, .ref 18), (5, .int i)], [.ref 13], (X2, w1)) rfl ?_
  refine ab_q_ca (k2 := 44) (as := [.ref 13]) (rest := []) rfl rfl (ab_ec_of (T_M_thrown S w1 X2 _ rfl)) ?_
  refine ab_q_go 1 (1919, [(7, .int b), (6, .int kv), (0, .ref 1000), (1, .ref 0), (2, .ref 13), (3, .ref 17), (4, .ref 18), (5, .int i)], [.int kv, .int (X2 13 0)], (X2, w1)) rfl ?_
  refine ab_q_t (d := X2 13 0 = kv) (1924, [(7, .int b), (6, .int kv), (0, .ref 1000), (1, .ref 0), (2, .ref 13), (3, .ref 17), (4, .ref 18), (5, .int i)], [], (X2, w1)) ht rfl ?_
  refine ab_q_go 1 (1926, [(7, .int b), (6, .int kv), (0, .ref 1000), (1, .ref 0), (2, .ref 13), (3, .ref 17), (4, .ref 18), (5, .int i)], [.int kv], (X2, w1)) rfl ?_
  by_cases hk : kv = nI 0
  · refine ab_q_f (d := ¬ kv = nI 0) (1929, [(7, .int b), (6, .int kv), (0, .ref 1000), (1, .ref 0), (2, .ref 13), (3, .ref 17), (4, .ref 18), (5, .int i)], [], (X2, w1)) (fun z => z hk) rfl ?_
    refine ab_q_go 2 (1931, [(7, .int b), (6, .int kv), (0, .ref 1000), (1, .ref 0), (2, .ref 13), (3, .ref 17), (4, .ref 18), (5, .int i)], [.int (nI 0), .ref 17], (X2, w1)) rfl ?_
    refine ab_q_go 1 (1932, [(7, .int b), (6, .int kv), (0, .ref 1000), (1, .ref 0), (2, .ref 13), (3, .ref 17), (4, .ref 18), (5, .int i)], [.long (w1.1 0)], (X2, w1)) rfl ?_
    refine ab_q_go 2 (1935, [(7, .int b), (6, .int kv), (0, .ref 1000), (1, .ref 0), (2, .ref 13), (3, .ref 17), (4, .ref 18), (5, .int i)], [.long b.toInt64, .long (w1.1 0)], (X2, w1)) rfl ?_
    refine ab_q_go 1 (1936, [(7, .int b), (6, .int kv), (0, .ref 1000), (1, .ref 0), (2, .ref 13), (3, .ref 17), (4, .ref 18), (5, .int i)], [.int (lg_cmp (w1.1 0) b.toInt64)], (X2, w1)) rfl ?_
    refine ab_q_t (d := lg_cmp (w1.1 0) b.toInt64 = nI 0) (1941, [(7, .int b), (6, .int kv), (0, .ref 1000), (1, .ref 0), (2, .ref 13), (3, .ref 17), (4, .ref 18), (5, .int i)], [], (X2, w1)) (hb hk) rfl ?_
    refine ab_q_go 1 (2395, [(7, .int b), (6, .int kv), (0, .ref 1000), (1, .ref 0), (2, .ref 13), (3, .ref 17), (4, .ref 18), (5, .int i)], [], (X2, w1)) rfl ?_
    refine ab_q_go 2 (28, [(5, .int (i + nI 7)), (7, .int b), (6, .int kv), (0, .ref 1000), (1, .ref 0), (2, .ref 13), (3, .ref 17), (4, .ref 18)], [], (X2, w1)) rfl ?_
    exact ab_q_wk (lv0 := [(0, .ref 1000), (1, .ref 0), (2, .ref 13), (3, .ref 17), (4, .ref 18), (5, .int (i + nI 7))]) ⟨rfl, rfl, rfl, rfl, rfl, rfl, trivial⟩ ab_q_rf
  · refine ab_q_t (d := ¬ kv = nI 0) (1941, [(7, .int b), (6, .int kv), (0, .ref 1000), (1, .ref 0), (2, .ref 13), (3, .ref 17), (4, .ref 18), (5, .int i)], [], (X2, w1)) hk rfl ?_
    refine ab_q_go 1 (2395, [(7, .int b), (6, .int kv), (0, .ref 1000), (1, .ref 0), (2, .ref 13), (3, .ref 17), (4, .ref 18), (5, .int i)], [], (X2, w1)) rfl ?_
    refine ab_q_go 2 (28, [(5, .int (i + nI 7)), (7, .int b), (6, .int kv), (0, .ref 1000), (1, .ref 0), (2, .ref 13), (3, .ref 17), (4, .ref 18)], [], (X2, w1)) rfl ?_
    exact ab_q_wk (lv0 := [(0, .ref 1000), (1, .ref 0), (2, .ref 13), (3, .ref 17), (4, .ref 18), (5, .int (i + nI 7))]) ⟨rfl, rfl, rfl, rfl, rfl, rfl, trivial⟩ ab_q_rf
set_option maxRecDepth 8000 in
set_option maxHeartbeats 1000000 in
theorem law_c30 (S : Nat × (Nat → Int32)) (w : ab_WW) (X : ab_XX) (i x0 : Int32) (hi : ¬ Int32.ofNat S.1 - nI 7 < i) (g0 : ab_in i S.1 = true) (e0 : S.2 i.toNatClampNeg = x0) (x1 : Int32) (g1 : ab_in (i + nI 1) S.1 = true) (e1 : S.2 (i + nI 1).toNatClampNeg = x1) (w1 : ab_WW) (X1 X2 : ab_XX) (kv : Int32) (b : Int32) (c : Nat) (hsw : x0 &&& nI 63 = nI 30) (hW : ab_Ec S 229 (0, lv_args 0 [.ref 0, .int x1, .ref 17], [], (X, w)) (.inl (some (.int kv)), (X1, w1)) c) (hM : ab_Ec S 244 (0, lv_args 0 [.ref 13, .int x1], [], (X1, w1)) (.inl (some (.int b)), (X2, w1)) 0) (ht : X2 13 0 = kv) (hb : kv = nI 0 → lg_cmp (w1.1 0) b.toInt64 = nI 0) : ab_Rc S 252 c (28, [(0, .ref 1000), (1, .ref 0), (2, .ref 13), (3, .ref 17), (4, .ref 18), (5, .int i)], [], (X, w)) (28, [(0, .ref 1000), (1, .ref 0), (2, .ref 13), (3, .ref 17), (4, .ref 18), (5, .int (i + nI 7))], [], (X2, w1)) := by
  rw [show c = c + (0 + (0 + 0)) by omega]
  refine ab_q_go 5 (35, [(0, .ref 1000), (1, .ref 0), (2, .ref 13), (3, .ref 17), (4, .ref 18), (5, .int i)], [.int (Int32.ofNat S.1 - nI 7), .int i], (X, w)) rfl ?_
  refine ab_q_f (d := Int32.ofNat S.1 - nI 7 < i) (38, [(0, .ref 1000), (1, .ref 0), (2, .ref 13), (3, .ref 17), (4, .ref 18), (5, .int i)], [], (X, w)) hi rfl ?_
  refine ab_q_go 2 (41, [(0, .ref 1000), (1, .ref 0), (2, .ref 13), (3, .ref 17), (4, .ref 18), (5, .int i)], [.int i, .ref 1000], (X, w)) rfl ?_
  refine ab_q_ld g0 e0 rfl ?_
  refine ab_q_go 2 (45, [(0, .ref 1000), (1, .ref 0), (2, .ref 13), (3, .ref 17), (4, .ref 18), (5, .int i)], [.int (x0 &&& (nI 63))], (X, w)) rfl ?_
  refine ab_q_go 1 (ab_tsw (x0 &&& nI 63) 2395, [(0, .ref 1000), (1, .ref 0), (2, .ref 13), (3, .ref 17), (4, .ref 18), (5, .int i)], [], (X, w)) rfl ?_
  refine ab_q_sw 1944 hsw (by decide) ?_
  refine ab_q_go 5 (1950, [(0, .ref 1000), (1, .ref 0), (2, .ref 13), (3, .ref 17), (4, .ref 18), (5, .int i)], [.int (i + (nI 1)), .ref 1000, .ref 0], (X, w)) rfl ?_
  refine ab_q_ld g1 e1 rfl ?_
  refine ab_q_go 1 (1952, [(0, .ref 1000), (1, .ref 0), (2, .ref 13), (3, .ref 17), (4, .ref 18), (5, .int i)], [.ref 17, .int x1, .ref 0], (X, w)) rfl ?_
  refine ab_q_ca (k2 := 229) (as := [.ref 0, .int x1, .ref 17]) (rest := []) rfl rfl hW ?_
  refine ab_q_go 6 (1963, [(6, .int kv), (0, .ref 1000), (1, .ref 0), (2, .ref 13), (3, .ref 17), (4, .ref 18), (5, .int i)], [.int (i + (nI 1)), .ref 1000, .ref 13], (X1, w1)) rfl ?_
  refine ab_q_ld g1 e1 rfl ?_
  refine ab_q_ca (k2 := 244) (as := [.ref 13, .int x1]) (rest := []) rfl rfl hM ?_
  refine ab_q_go 2 (1970, [(7, .int b), (6, .int kv), (0, .ref 1000), (1, .ref 0), (2, .ref 13), (3, .ref 17), (4, .ref 18), (5, .int i)], [.ref 13], (X2, w1)) rfl ?_
  refine ab_q_ca (k2 := 44) (as := [.ref 13]) (rest := []) rfl rfl (ab_ec_of (T_M_thrown S w1 X2 _ rfl)) ?_
  refine ab_q_go 1 (1975, [(7, .int b), (6, .int kv), (0, .ref 1000), (1, .ref 0), (2, .ref 13), (3, .ref 17), (4, .ref 18), (5, .int i)], [.int kv, .int (X2 13 0)], (X2, w1)) rfl ?_
  refine ab_q_t (d := X2 13 0 = kv) (1980, [(7, .int b), (6, .int kv), (0, .ref 1000), (1, .ref 0), (2, .ref 13), (3, .ref 17), (4, .ref 18), (5, .int i)], [], (X2, w1)) ht rfl ?_
  refine ab_q_go 1 (1982, [(7, .int b), (6, .int kv), (0, .ref 1000), (1, .ref 0), (2, .ref 13), (3, .ref 17), (4, .ref 18), (5, .int i)], [.int kv], (X2, w1)) rfl ?_
  by_cases hk : kv = nI 0
  · refine ab_q_f (d := ¬ kv = nI 0) (1985, [(7, .int b), (6, .int kv), (0, .ref 1000), (1, .ref 0), (2, .ref 13), (3, .ref 17), (4, .ref 18), (5, .int i)], [], (X2, w1)) (fun z => z hk) rfl ?_
    refine ab_q_go 2 (1987, [(7, .int b), (6, .int kv), (0, .ref 1000), (1, .ref 0), (2, .ref 13), (3, .ref 17), (4, .ref 18), (5, .int i)], [.int (nI 0), .ref 17], (X2, w1)) rfl ?_
    refine ab_q_go 1 (1988, [(7, .int b), (6, .int kv), (0, .ref 1000), (1, .ref 0), (2, .ref 13), (3, .ref 17), (4, .ref 18), (5, .int i)], [.long (w1.1 0)], (X2, w1)) rfl ?_
    refine ab_q_go 2 (1991, [(7, .int b), (6, .int kv), (0, .ref 1000), (1, .ref 0), (2, .ref 13), (3, .ref 17), (4, .ref 18), (5, .int i)], [.long b.toInt64, .long (w1.1 0)], (X2, w1)) rfl ?_
    refine ab_q_go 1 (1992, [(7, .int b), (6, .int kv), (0, .ref 1000), (1, .ref 0), (2, .ref 13), (3, .ref 17), (4, .ref 18), (5, .int i)], [.int (lg_cmp (w1.1 0) b.toInt64)], (X2, w1)) rfl ?_
    refine ab_q_t (d := lg_cmp (w1.1 0) b.toInt64 = nI 0) (1997, [(7, .int b), (6, .int kv), (0, .ref 1000), (1, .ref 0), (2, .ref 13), (3, .ref 17), (4, .ref 18), (5, .int i)], [], (X2, w1)) (hb hk) rfl ?_
    refine ab_q_go 1 (2395, [(7, .int b), (6, .int kv), (0, .ref 1000), (1, .ref 0), (2, .ref 13), (3, .ref 17), (4, .ref 18), (5, .int i)], [], (X2, w1)) rfl ?_
    refine ab_q_go 2 (28, [(5, .int (i + nI 7)), (7, .int b), (6, .int kv), (0, .ref 1000), (1, .ref 0), (2, .ref 13), (3, .ref 17), (4, .ref 18)], [], (X2, w1)) rfl ?_
    exact ab_q_wk (lv0 := [(0, .ref 1000), (1, .ref 0), (2, .ref 13), (3, .ref 17), (4, .ref 18), (5, .int (i + nI 7))]) ⟨rfl, rfl, rfl, rfl, rfl, rfl, trivial⟩ ab_q_rf
  · refine ab_q_t (d := ¬ kv = nI 0) (1997, [(7, .int b), (6, .int kv), (0, .ref 1000), (1, .ref 0), (2, .ref 13), (3, .ref 17), (4, .ref 18), (5, .int i)], [], (X2, w1)) hk rfl ?_
    refine ab_q_go 1 (2395, [(7, .int b), (6, .int kv), (0, .ref 1000), (1, .ref 0), (2, .ref 13), (3, .ref 17), (4, .ref 18), (5, .int i)], [], (X2, w1)) rfl ?_
    refine ab_q_go 2 (28, [(5, .int (i + nI 7)), (7, .int b), (6, .int kv), (0, .ref 1000), (1, .ref 0), (2, .ref 13), (3, .ref 17), (4, .ref 18)], [], (X2, w1)) rfl ?_
    exact ab_q_wk (lv0 := [(0, .ref 1000), (1, .ref 0), (2, .ref 13), (3, .ref 17), (4, .ref 18), (5, .int (i + nI 7))]) ⟨rfl, rfl, rfl, rfl, rfl, rfl, trivial⟩ ab_q_rf
set_option maxRecDepth 8000 in
set_option maxHeartbeats 1000000 in
theorem law_c31 (S : Nat × (Nat → Int32)) (w : ab_WW) (X : ab_XX) (i x0 : Int32) (hi : ¬ Int32.ofNat S.1 - nI 7 < i) (g0 : ab_in i S.1 = true) (e0 : S.2 i.toNatClampNeg = x0) (x1 : Int32) (g1 : ab_in (i + nI 1) S.1 = true) (e1 : S.2 (i + nI 1).toNatClampNeg = x1) (w1 : ab_WW) (X1 X2 : ab_XX) (kv : Int32) (b : Int32) (c : Nat) (hsw : x0 &&& nI 63 = nI 31) (hW : ab_Ec S 228 (0, lv_args 0 [.ref 0, .int x1, .ref 17], [], (X, w)) (.inl (some (.int kv)), (X1, w1)) c) (hM : ab_Ec S 243 (0, lv_args 0 [.ref 13, .int x1], [], (X1, w1)) (.inl (some (.int b)), (X2, w1)) 0) (ht : X2 13 0 = kv) (hb : kv = nI 0 → lg_cmp (w1.1 0) b.toInt64 = nI 0) : ab_Rc S 252 c (28, [(0, .ref 1000), (1, .ref 0), (2, .ref 13), (3, .ref 17), (4, .ref 18), (5, .int i)], [], (X, w)) (28, [(0, .ref 1000), (1, .ref 0), (2, .ref 13), (3, .ref 17), (4, .ref 18), (5, .int (i + nI 7))], [], (X2, w1)) := by
  rw [show c = c + (0 + (0 + 0)) by omega]
  refine ab_q_go 5 (35, [(0, .ref 1000), (1, .ref 0), (2, .ref 13), (3, .ref 17), (4, .ref 18), (5, .int i)], [.int (Int32.ofNat S.1 - nI 7), .int i], (X, w)) rfl ?_
  refine ab_q_f (d := Int32.ofNat S.1 - nI 7 < i) (38, [(0, .ref 1000), (1, .ref 0), (2, .ref 13), (3, .ref 17), (4, .ref 18), (5, .int i)], [], (X, w)) hi rfl ?_
  refine ab_q_go 2 (41, [(0, .ref 1000), (1, .ref 0), (2, .ref 13), (3, .ref 17), (4, .ref 18), (5, .int i)], [.int i, .ref 1000], (X, w)) rfl ?_
  refine ab_q_ld g0 e0 rfl ?_
  refine ab_q_go 2 (45, [(0, .ref 1000), (1, .ref 0), (2, .ref 13), (3, .ref 17), (4, .ref 18), (5, .int i)], [.int (x0 &&& (nI 63))], (X, w)) rfl ?_
  refine ab_q_go 1 (ab_tsw (x0 &&& nI 63) 2395, [(0, .ref 1000), (1, .ref 0), (2, .ref 13), (3, .ref 17), (4, .ref 18), (5, .int i)], [], (X, w)) rfl ?_
  refine ab_q_sw 2000 hsw (by decide) ?_
  refine ab_q_go 5 (2006, [(0, .ref 1000), (1, .ref 0), (2, .ref 13), (3, .ref 17), (4, .ref 18), (5, .int i)], [.int (i + (nI 1)), .ref 1000, .ref 0], (X, w)) rfl ?_
  refine ab_q_ld g1 e1 rfl ?_
  refine ab_q_go 1 (2008, [(0, .ref 1000), (1, .ref 0), (2, .ref 13), (3, .ref 17), (4, .ref 18), (5, .int i)], [.ref 17, .int x1, .ref 0], (X, w)) rfl ?_
  refine ab_q_ca (k2 := 228) (as := [.ref 0, .int x1, .ref 17]) (rest := []) rfl rfl hW ?_
  refine ab_q_go 6 (2019, [(6, .int kv), (0, .ref 1000), (1, .ref 0), (2, .ref 13), (3, .ref 17), (4, .ref 18), (5, .int i)], [.int (i + (nI 1)), .ref 1000, .ref 13], (X1, w1)) rfl ?_
  refine ab_q_ld g1 e1 rfl ?_
  refine ab_q_ca (k2 := 243) (as := [.ref 13, .int x1]) (rest := []) rfl rfl hM ?_
  refine ab_q_go 2 (2026, [(7, .int b), (6, .int kv), (0, .ref 1000), (1, .ref 0), (2, .ref 13), (3, .ref 17), (4, .ref 18), (5, .int i)], [.ref 13], (X2, w1)) rfl ?_
  refine ab_q_ca (k2 := 44) (as := [.ref 13]) (rest := []) rfl rfl (ab_ec_of (T_M_thrown S w1 X2 _ rfl)) ?_
  refine ab_q_go 1 (2031, [(7, .int b), (6, .int kv), (0, .ref 1000), (1, .ref 0), (2, .ref 13), (3, .ref 17), (4, .ref 18), (5, .int i)], [.int kv, .int (X2 13 0)], (X2, w1)) rfl ?_
  refine ab_q_t (d := X2 13 0 = kv) (2036, [(7, .int b), (6, .int kv), (0, .ref 1000), (1, .ref 0), (2, .ref 13), (3, .ref 17), (4, .ref 18), (5, .int i)], [], (X2, w1)) ht rfl ?_
  refine ab_q_go 1 (2038, [(7, .int b), (6, .int kv), (0, .ref 1000), (1, .ref 0), (2, .ref 13), (3, .ref 17), (4, .ref 18), (5, .int i)], [.int kv], (X2, w1)) rfl ?_
  by_cases hk : kv = nI 0
  · refine ab_q_f (d := ¬ kv = nI 0) (2041, [(7, .int b), (6, .int kv), (0, .ref 1000), (1, .ref 0), (2, .ref 13), (3, .ref 17), (4, .ref 18), (5, .int i)], [], (X2, w1)) (fun z => z hk) rfl ?_
    refine ab_q_go 2 (2043, [(7, .int b), (6, .int kv), (0, .ref 1000), (1, .ref 0), (2, .ref 13), (3, .ref 17), (4, .ref 18), (5, .int i)], [.int (nI 0), .ref 17], (X2, w1)) rfl ?_
    refine ab_q_go 1 (2044, [(7, .int b), (6, .int kv), (0, .ref 1000), (1, .ref 0), (2, .ref 13), (3, .ref 17), (4, .ref 18), (5, .int i)], [.long (w1.1 0)], (X2, w1)) rfl ?_
    refine ab_q_go 2 (2047, [(7, .int b), (6, .int kv), (0, .ref 1000), (1, .ref 0), (2, .ref 13), (3, .ref 17), (4, .ref 18), (5, .int i)], [.long b.toInt64, .long (w1.1 0)], (X2, w1)) rfl ?_
    refine ab_q_go 1 (2048, [(7, .int b), (6, .int kv), (0, .ref 1000), (1, .ref 0), (2, .ref 13), (3, .ref 17), (4, .ref 18), (5, .int i)], [.int (lg_cmp (w1.1 0) b.toInt64)], (X2, w1)) rfl ?_
    refine ab_q_t (d := lg_cmp (w1.1 0) b.toInt64 = nI 0) (2053, [(7, .int b), (6, .int kv), (0, .ref 1000), (1, .ref 0), (2, .ref 13), (3, .ref 17), (4, .ref 18), (5, .int i)], [], (X2, w1)) (hb hk) rfl ?_
    refine ab_q_go 1 (2395, [(7, .int b), (6, .int kv), (0, .ref 1000), (1, .ref 0), (2, .ref 13), (3, .ref 17), (4, .ref 18), (5, .int i)], [], (X2, w1)) rfl ?_
    refine ab_q_go 2 (28, [(5, .int (i + nI 7)), (7, .int b), (6, .int kv), (0, .ref 1000), (1, .ref 0), (2, .ref 13), (3, .ref 17), (4, .ref 18)], [], (X2, w1)) rfl ?_
    exact ab_q_wk (lv0 := [(0, .ref 1000), (1, .ref 0), (2, .ref 13), (3, .ref 17), (4, .ref 18), (5, .int (i + nI 7))]) ⟨rfl, rfl, rfl, rfl, rfl, rfl, trivial⟩ ab_q_rf
  · refine ab_q_t (d := ¬ kv = nI 0) (2053, [(7, .int b), (6, .int kv), (0, .ref 1000), (1, .ref 0), (2, .ref 13), (3, .ref 17), (4, .ref 18), (5, .int i)], [], (X2, w1)) hk rfl ?_
    refine ab_q_go 1 (2395, [(7, .int b), (6, .int kv), (0, .ref 1000), (1, .ref 0), (2, .ref 13), (3, .ref 17), (4, .ref 18), (5, .int i)], [], (X2, w1)) rfl ?_
    refine ab_q_go 2 (28, [(5, .int (i + nI 7)), (7, .int b), (6, .int kv), (0, .ref 1000), (1, .ref 0), (2, .ref 13), (3, .ref 17), (4, .ref 18)], [], (X2, w1)) rfl ?_
    exact ab_q_wk (lv0 := [(0, .ref 1000), (1, .ref 0), (2, .ref 13), (3, .ref 17), (4, .ref 18), (5, .int (i + nI 7))]) ⟨rfl, rfl, rfl, rfl, rfl, rfl, trivial⟩ ab_q_rf
set_option maxRecDepth 8000 in
set_option maxHeartbeats 1000000 in
theorem law_c32 (S : Nat × (Nat → Int32)) (w : ab_WW) (X : ab_XX) (i x0 : Int32) (hi : ¬ Int32.ofNat S.1 - nI 7 < i) (g0 : ab_in i S.1 = true) (e0 : S.2 i.toNatClampNeg = x0) (X1 X2 : ab_XX) (a b : Int32) (hsw : x0 &&& nI 63 = nI 32) (hC : ab_Ec S 159 (0, lv_args 0 [.ref 0], [], (X, w)) (.inl (some (.int a)), (X1, w)) 0) (hM : ab_Ec S 147 (0, lv_args 0 [.ref 13], [], (X1, w)) (.inl (some (.int b)), (X2, w)) 0) (hab : a = b) : ab_Rc S 252 0 (28, [(0, .ref 1000), (1, .ref 0), (2, .ref 13), (3, .ref 17), (4, .ref 18), (5, .int i)], [], (X, w)) (28, [(0, .ref 1000), (1, .ref 0), (2, .ref 13), (3, .ref 17), (4, .ref 18), (5, .int (i + nI 7))], [], (X2, w)) := by
  suffices z : ab_Rc S 252 (0 + (0 + 0)) (28, [(0, .ref 1000), (1, .ref 0), (2, .ref 13), (3, .ref 17), (4, .ref 18), (5, .int i)], [], (X, w)) (28, [(0, .ref 1000), (1, .ref 0), (2, .ref 13), (3, .ref 17), (4, .ref 18), (5, .int (i + nI 7))], [], (X2, w)) from z
  refine ab_q_go 5 (35, [(0, .ref 1000), (1, .ref 0), (2, .ref 13), (3, .ref 17), (4, .ref 18), (5, .int i)], [.int (Int32.ofNat S.1 - nI 7), .int i], (X, w)) rfl ?_
  refine ab_q_f (d := Int32.ofNat S.1 - nI 7 < i) (38, [(0, .ref 1000), (1, .ref 0), (2, .ref 13), (3, .ref 17), (4, .ref 18), (5, .int i)], [], (X, w)) hi rfl ?_
  refine ab_q_go 2 (41, [(0, .ref 1000), (1, .ref 0), (2, .ref 13), (3, .ref 17), (4, .ref 18), (5, .int i)], [.int i, .ref 1000], (X, w)) rfl ?_
  refine ab_q_ld g0 e0 rfl ?_
  refine ab_q_go 2 (45, [(0, .ref 1000), (1, .ref 0), (2, .ref 13), (3, .ref 17), (4, .ref 18), (5, .int i)], [.int (x0 &&& (nI 63))], (X, w)) rfl ?_
  refine ab_q_go 1 (ab_tsw (x0 &&& nI 63) 2395, [(0, .ref 1000), (1, .ref 0), (2, .ref 13), (3, .ref 17), (4, .ref 18), (5, .int i)], [], (X, w)) rfl ?_
  refine ab_q_sw 2056 hsw (by decide) ?_
  refine ab_q_go 1 (2057, [(0, .ref 1000), (1, .ref 0), (2, .ref 13), (3, .ref 17), (4, .ref 18), (5, .int i)], [.ref 0], (X, w)) rfl ?_
  refine ab_q_ca (k2 := 159) (as := [.ref 0]) (rest := []) rfl rfl hC ?_
  refine ab_q_go 1 (2061, [(0, .ref 1000), (1, .ref 0), (2, .ref 13), (3, .ref 17), (4, .ref 18), (5, .int i)], [.ref 13, .int a], (X1, w)) rfl ?_
  refine ab_q_ca (k2 := 147) (as := [.ref 13]) (rest := [.int a]) rfl rfl hM ?_
  refine ab_q_t (d := a = b) (2395, [(0, .ref 1000), (1, .ref 0), (2, .ref 13), (3, .ref 17), (4, .ref 18), (5, .int i)], [], (X2, w)) hab rfl ?_
  refine ab_q_go 2 (28, [(5, .int (i + nI 7)), (0, .ref 1000), (1, .ref 0), (2, .ref 13), (3, .ref 17), (4, .ref 18)], [], (X2, w)) rfl ?_
  exact ab_q_wk (lv0 := [(0, .ref 1000), (1, .ref 0), (2, .ref 13), (3, .ref 17), (4, .ref 18), (5, .int (i + nI 7))]) ⟨rfl, rfl, rfl, rfl, rfl, rfl, trivial⟩ ab_q_rf
set_option maxRecDepth 8000 in
set_option maxHeartbeats 1000000 in
theorem law_c33 (S : Nat × (Nat → Int32)) (w : ab_WW) (X : ab_XX) (i x0 : Int32) (hi : ¬ Int32.ofNat S.1 - nI 7 < i) (g0 : ab_in i S.1 = true) (e0 : S.2 i.toNatClampNeg = x0) (X1 X2 : ab_XX) (a b : Int32) (hsw : x0 &&& nI 63 = nI 33) (hC : ab_Ec S 48 (0, lv_args 0 [.ref 0], [], (X, w)) (.inl (some (.int a)), (X1, w)) 0) (hM : ab_Ec S 86 (0, lv_args 0 [.ref 13], [], (X1, w)) (.inl (some (.int b)), (X2, w)) 0) (hab : a = b) : ab_Rc S 252 0 (28, [(0, .ref 1000), (1, .ref 0), (2, .ref 13), (3, .ref 17), (4, .ref 18), (5, .int i)], [], (X, w)) (28, [(0, .ref 1000), (1, .ref 0), (2, .ref 13), (3, .ref 17), (4, .ref 18), (5, .int (i + nI 7))], [], (X2, w)) := by
  suffices z : ab_Rc S 252 (0 + (0 + 0)) (28, [(0, .ref 1000), (1, .ref 0), (2, .ref 13), (3, .ref 17), (4, .ref 18), (5, .int i)], [], (X, w)) (28, [(0, .ref 1000), (1, .ref 0), (2, .ref 13), (3, .ref 17), (4, .ref 18), (5, .int (i + nI 7))], [], (X2, w)) from z
  refine ab_q_go 5 (35, [(0, .ref 1000), (1, .ref 0), (2, .ref 13), (3, .ref 17), (4, .ref 18), (5, .int i)], [.int (Int32.ofNat S.1 - nI 7), .int i], (X, w)) rfl ?_
  refine ab_q_f (d := Int32.ofNat S.1 - nI 7 < i) (38, [(0, .ref 1000), (1, .ref 0), (2, .ref 13), (3, .ref 17), (4, .ref 18), (5, .int i)], [], (X, w)) hi rfl ?_
  refine ab_q_go 2 (41, [(0, .ref 1000), (1, .ref 0), (2, .ref 13), (3, .ref 17), (4, .ref 18), (5, .int i)], [.int i, .ref 1000], (X, w)) rfl ?_
  refine ab_q_ld g0 e0 rfl ?_
  refine ab_q_go 2 (45, [(0, .ref 1000), (1, .ref 0), (2, .ref 13), (3, .ref 17), (4, .ref 18), (5, .int i)], [.int (x0 &&& (nI 63))], (X, w)) rfl ?_
  refine ab_q_go 1 (ab_tsw (x0 &&& nI 63) 2395, [(0, .ref 1000), (1, .ref 0), (2, .ref 13), (3, .ref 17), (4, .ref 18), (5, .int i)], [], (X, w)) rfl ?_
  refine ab_q_sw 2069 hsw (by decide) ?_
  refine ab_q_go 1 (2070, [(0, .ref 1000), (1, .ref 0), (2, .ref 13), (3, .ref 17), (4, .ref 18), (5, .int i)], [.ref 0], (X, w)) rfl ?_
  refine ab_q_ca (k2 := 48) (as := [.ref 0]) (rest := []) rfl rfl hC ?_
  refine ab_q_go 1 (2074, [(0, .ref 1000), (1, .ref 0), (2, .ref 13), (3, .ref 17), (4, .ref 18), (5, .int i)], [.ref 13, .int a], (X1, w)) rfl ?_
  refine ab_q_ca (k2 := 86) (as := [.ref 13]) (rest := [.int a]) rfl rfl hM ?_
  refine ab_q_t (d := a = b) (2395, [(0, .ref 1000), (1, .ref 0), (2, .ref 13), (3, .ref 17), (4, .ref 18), (5, .int i)], [], (X2, w)) hab rfl ?_
  refine ab_q_go 2 (28, [(5, .int (i + nI 7)), (0, .ref 1000), (1, .ref 0), (2, .ref 13), (3, .ref 17), (4, .ref 18)], [], (X2, w)) rfl ?_
  exact ab_q_wk (lv0 := [(0, .ref 1000), (1, .ref 0), (2, .ref 13), (3, .ref 17), (4, .ref 18), (5, .int (i + nI 7))]) ⟨rfl, rfl, rfl, rfl, rfl, rfl, trivial⟩ ab_q_rf
set_option maxRecDepth 8000 in
set_option maxHeartbeats 1000000 in
theorem law_c34 (S : Nat × (Nat → Int32)) (w : ab_WW) (X : ab_XX) (i x0 : Int32) (hi : ¬ Int32.ofNat S.1 - nI 7 < i) (g0 : ab_in i S.1 = true) (e0 : S.2 i.toNatClampNeg = x0) (x1 : Int32) (g1 : ab_in (i + nI 1) S.1 = true) (e1 : S.2 (i + nI 1).toNatClampNeg = x1) (x2 : Int32) (g2 : ab_in (i + nI 2) S.1 = true) (e2 : S.2 (i + nI 2).toNatClampNeg = x2) (w1 : ab_WW) (X1 X2 : ab_XX) (kv : Int32) (b : Int32) (c : Nat) (hsw : x0 &&& nI 63 = nI 34) (hW : ab_Ec S 172 (0, lv_args 0 [.ref 0, .int x1, .int x2, .ref 17], [], (X, w)) (.inl (some (.int kv)), (X1, w1)) c) (hM : ab_Ec S 85 (0, lv_args 0 [.ref 13, .int x1, .int x2], [], (X1, w1)) (.inl (some (.int b)), (X2, w1)) 0) (ht : X2 13 0 = kv) (hb : kv = nI 0 → lg_cmp (w1.1 0) b.toInt64 = nI 0) : ab_Rc S 252 c (28, [(0, .ref 1000), (1, .ref 0), (2, .ref 13), (3, .ref 17), (4, .ref 18), (5, .int i)], [], (X, w)) (28, [(0, .ref 1000), (1, .ref 0), (2, .ref 13), (3, .ref 17), (4, .ref 18), (5, .int (i + nI 7))], [], (X2, w1)) := by
  rw [show c = c + (0 + (0 + 0)) by omega]
  refine ab_q_go 5 (35, [(0, .ref 1000), (1, .ref 0), (2, .ref 13), (3, .ref 17), (4, .ref 18), (5, .int i)], [.int (Int32.ofNat S.1 - nI 7), .int i], (X, w)) rfl ?_
  refine ab_q_f (d := Int32.ofNat S.1 - nI 7 < i) (38, [(0, .ref 1000), (1, .ref 0), (2, .ref 13), (3, .ref 17), (4, .ref 18), (5, .int i)], [], (X, w)) hi rfl ?_
  refine ab_q_go 2 (41, [(0, .ref 1000), (1, .ref 0), (2, .ref 13), (3, .ref 17), (4, .ref 18), (5, .int i)], [.int i, .ref 1000], (X, w)) rfl ?_
  refine ab_q_ld g0 e0 rfl ?_
  refine ab_q_go 2 (45, [(0, .ref 1000), (1, .ref 0), (2, .ref 13), (3, .ref 17), (4, .ref 18), (5, .int i)], [.int (x0 &&& (nI 63))], (X, w)) rfl ?_
  refine ab_q_go 1 (ab_tsw (x0 &&& nI 63) 2395, [(0, .ref 1000), (1, .ref 0), (2, .ref 13), (3, .ref 17), (4, .ref 18), (5, .int i)], [], (X, w)) rfl ?_
  refine ab_q_sw 2082 hsw (by decide) ?_
  refine ab_q_go 5 (2088, [(0, .ref 1000), (1, .ref 0), (2, .ref 13), (3, .ref 17), (4, .ref 18), (5, .int i)], [.int (i + (nI 1)), .ref 1000, .ref 0], (X, w)) rfl ?_
  refine ab_q_ld g1 e1 rfl ?_
  refine ab_q_go 4 (2094, [(0, .ref 1000), (1, .ref 0), (2, .ref 13), (3, .ref 17), (4, .ref 18), (5, .int i)], [.int (i + (nI 2)), .ref 1000, .int x1, .ref 0], (X, w)) rfl ?_
  refine ab_q_ld g2 e2 rfl ?_
  refine ab_q_go 1 (2096, [(0, .ref 1000), (1, .ref 0), (2, .ref 13), (3, .ref 17), (4, .ref 18), (5, .int i)], [.ref 17, .int x2, .int x1, .ref 0], (X, w)) rfl ?_
  refine ab_q_ca (k2 := 172) (as := [.ref 0, .int x1, .int x2, .ref 17]) (rest := []) rfl rfl hW ?_
  refine ab_q_go 6 (2107, [(6, .int kv), (0, .ref 1000), (1, .ref 0), (2, .ref 13), (3, .ref 17), (4, .ref 18), (5, .int i)], [.int (i + (nI 1)), .ref 1000, .ref 13], (X1, w1)) rfl ?_
  refine ab_q_ld g1 e1 rfl ?_
  refine ab_q_go 4 (2113, [(6, .int kv), (0, .ref 1000), (1, .ref 0), (2, .ref 13), (3, .ref 17), (4, .ref 18), (5, .int i)], [.int (i + (nI 2)), .ref 1000, .int x1, .ref 13], (X1, w1)) rfl ?_
  refine ab_q_ld g2 e2 rfl ?_
  refine ab_q_ca (k2 := 85) (as := [.ref 13, .int x1, .int x2]) (rest := []) rfl rfl hM ?_
  refine ab_q_go 2 (2120, [(7, .int b), (6, .int kv), (0, .ref 1000), (1, .ref 0), (2, .ref 13), (3, .ref 17), (4, .ref 18), (5, .int i)], [.ref 13], (X2, w1)) rfl ?_
  refine ab_q_ca (k2 := 44) (as := [.ref 13]) (rest := []) rfl rfl (ab_ec_of (T_M_thrown S w1 X2 _ rfl)) ?_
  refine ab_q_go 1 (2125, [(7, .int b), (6, .int kv), (0, .ref 1000), (1, .ref 0), (2, .ref 13), (3, .ref 17), (4, .ref 18), (5, .int i)], [.int kv, .int (X2 13 0)], (X2, w1)) rfl ?_
  refine ab_q_t (d := X2 13 0 = kv) (2130, [(7, .int b), (6, .int kv), (0, .ref 1000), (1, .ref 0), (2, .ref 13), (3, .ref 17), (4, .ref 18), (5, .int i)], [], (X2, w1)) ht rfl ?_
  refine ab_q_go 1 (2132, [(7, .int b), (6, .int kv), (0, .ref 1000), (1, .ref 0), (2, .ref 13), (3, .ref 17), (4, .ref 18), (5, .int i)], [.int kv], (X2, w1)) rfl ?_
  by_cases hk : kv = nI 0
  · refine ab_q_f (d := ¬ kv = nI 0) (2135, [(7, .int b), (6, .int kv), (0, .ref 1000), (1, .ref 0), (2, .ref 13), (3, .ref 17), (4, .ref 18), (5, .int i)], [], (X2, w1)) (fun z => z hk) rfl ?_
    refine ab_q_go 2 (2137, [(7, .int b), (6, .int kv), (0, .ref 1000), (1, .ref 0), (2, .ref 13), (3, .ref 17), (4, .ref 18), (5, .int i)], [.int (nI 0), .ref 17], (X2, w1)) rfl ?_
    refine ab_q_go 1 (2138, [(7, .int b), (6, .int kv), (0, .ref 1000), (1, .ref 0), (2, .ref 13), (3, .ref 17), (4, .ref 18), (5, .int i)], [.long (w1.1 0)], (X2, w1)) rfl ?_
    refine ab_q_go 2 (2141, [(7, .int b), (6, .int kv), (0, .ref 1000), (1, .ref 0), (2, .ref 13), (3, .ref 17), (4, .ref 18), (5, .int i)], [.long b.toInt64, .long (w1.1 0)], (X2, w1)) rfl ?_
    refine ab_q_go 1 (2142, [(7, .int b), (6, .int kv), (0, .ref 1000), (1, .ref 0), (2, .ref 13), (3, .ref 17), (4, .ref 18), (5, .int i)], [.int (lg_cmp (w1.1 0) b.toInt64)], (X2, w1)) rfl ?_
    refine ab_q_t (d := lg_cmp (w1.1 0) b.toInt64 = nI 0) (2147, [(7, .int b), (6, .int kv), (0, .ref 1000), (1, .ref 0), (2, .ref 13), (3, .ref 17), (4, .ref 18), (5, .int i)], [], (X2, w1)) (hb hk) rfl ?_
    refine ab_q_go 1 (2395, [(7, .int b), (6, .int kv), (0, .ref 1000), (1, .ref 0), (2, .ref 13), (3, .ref 17), (4, .ref 18), (5, .int i)], [], (X2, w1)) rfl ?_
    refine ab_q_go 2 (28, [(5, .int (i + nI 7)), (7, .int b), (6, .int kv), (0, .ref 1000), (1, .ref 0), (2, .ref 13), (3, .ref 17), (4, .ref 18)], [], (X2, w1)) rfl ?_
    exact ab_q_wk (lv0 := [(0, .ref 1000), (1, .ref 0), (2, .ref 13), (3, .ref 17), (4, .ref 18), (5, .int (i + nI 7))]) ⟨rfl, rfl, rfl, rfl, rfl, rfl, trivial⟩ ab_q_rf
  · refine ab_q_t (d := ¬ kv = nI 0) (2147, [(7, .int b), (6, .int kv), (0, .ref 1000), (1, .ref 0), (2, .ref 13), (3, .ref 17), (4, .ref 18), (5, .int i)], [], (X2, w1)) hk rfl ?_
    refine ab_q_go 1 (2395, [(7, .int b), (6, .int kv), (0, .ref 1000), (1, .ref 0), (2, .ref 13), (3, .ref 17), (4, .ref 18), (5, .int i)], [], (X2, w1)) rfl ?_
    refine ab_q_go 2 (28, [(5, .int (i + nI 7)), (7, .int b), (6, .int kv), (0, .ref 1000), (1, .ref 0), (2, .ref 13), (3, .ref 17), (4, .ref 18)], [], (X2, w1)) rfl ?_
    exact ab_q_wk (lv0 := [(0, .ref 1000), (1, .ref 0), (2, .ref 13), (3, .ref 17), (4, .ref 18), (5, .int (i + nI 7))]) ⟨rfl, rfl, rfl, rfl, rfl, rfl, trivial⟩ ab_q_rf
set_option maxRecDepth 8000 in
set_option maxHeartbeats 1000000 in
theorem law_c35 (S : Nat × (Nat → Int32)) (w : ab_WW) (X : ab_XX) (i x0 : Int32) (hi : ¬ Int32.ofNat S.1 - nI 7 < i) (g0 : ab_in i S.1 = true) (e0 : S.2 i.toNatClampNeg = x0) (X1 X2 : ab_XX) (a b : Int32) (hsw : x0 &&& nI 63 = nI 35) (hC : ab_Ec S 190 (0, lv_args 0 [.ref 0], [], (X, w)) (.inl (some (.int a)), (X1, w)) 0) (hM : ab_Ec S 240 (0, lv_args 0 [.ref 13], [], (X1, w)) (.inl (some (.int b)), (X2, w)) 0) (hab : a = b) : ab_Rc S 252 0 (28, [(0, .ref 1000), (1, .ref 0), (2, .ref 13), (3, .ref 17), (4, .ref 18), (5, .int i)], [], (X, w)) (28, [(0, .ref 1000), (1, .ref 0), (2, .ref 13), (3, .ref 17), (4, .ref 18), (5, .int (i + nI 7))], [], (X2, w)) := by
  suffices z : ab_Rc S 252 (0 + (0 + 0)) (28, [(0, .ref 1000), (1, .ref 0), (2, .ref 13), (3, .ref 17), (4, .ref 18), (5, .int i)], [], (X, w)) (28, [(0, .ref 1000), (1, .ref 0), (2, .ref 13), (3, .ref 17), (4, .ref 18), (5, .int (i + nI 7))], [], (X2, w)) from z
  refine ab_q_go 5 (35, [(0, .ref 1000), (1, .ref 0), (2, .ref 13), (3, .ref 17), (4, .ref 18), (5, .int i)], [.int (Int32.ofNat S.1 - nI 7), .int i], (X, w)) rfl ?_
  refine ab_q_f (d := Int32.ofNat S.1 - nI 7 < i) (38, [(0, .ref 1000), (1, .ref 0), (2, .ref 13), (3, .ref 17), (4, .ref 18), (5, .int i)], [], (X, w)) hi rfl ?_
  refine ab_q_go 2 (41, [(0, .ref 1000), (1, .ref 0), (2, .ref 13), (3, .ref 17), (4, .ref 18), (5, .int i)], [.int i, .ref 1000], (X, w)) rfl ?_
  refine ab_q_ld g0 e0 rfl ?_
  refine ab_q_go 2 (45, [(0, .ref 1000), (1, .ref 0), (2, .ref 13), (3, .ref 17), (4, .ref 18), (5, .int i)], [.int (x0 &&& (nI 63))], (X, w)) rfl ?_
  refine ab_q_go 1 (ab_tsw (x0 &&& nI 63) 2395, [(0, .ref 1000), (1, .ref 0), (2, .ref 13), (3, .ref 17), (4, .ref 18), (5, .int i)], [], (X, w)) rfl ?_
  refine ab_q_sw 2150 hsw (by decide) ?_
  refine ab_q_go 1 (2151, [(0, .ref 1000), (1, .ref 0), (2, .ref 13), (3, .ref 17), (4, .ref 18), (5, .int i)], [.ref 0], (X, w)) rfl ?_
  refine ab_q_ca (k2 := 190) (as := [.ref 0]) (rest := []) rfl rfl hC ?_
  refine ab_q_go 1 (2155, [(0, .ref 1000), (1, .ref 0), (2, .ref 13), (3, .ref 17), (4, .ref 18), (5, .int i)], [.ref 13, .int a], (X1, w)) rfl ?_
  refine ab_q_ca (k2 := 240) (as := [.ref 13]) (rest := [.int a]) rfl rfl hM ?_
  refine ab_q_t (d := a = b) (2395, [(0, .ref 1000), (1, .ref 0), (2, .ref 13), (3, .ref 17), (4, .ref 18), (5, .int i)], [], (X2, w)) hab rfl ?_
  refine ab_q_go 2 (28, [(5, .int (i + nI 7)), (0, .ref 1000), (1, .ref 0), (2, .ref 13), (3, .ref 17), (4, .ref 18)], [], (X2, w)) rfl ?_
  exact ab_q_wk (lv0 := [(0, .ref 1000), (1, .ref 0), (2, .ref 13), (3, .ref 17), (4, .ref 18), (5, .int (i + nI 7))]) ⟨rfl, rfl, rfl, rfl, rfl, rfl, trivial⟩ ab_q_rf
set_option maxRecDepth 8000 in
set_option maxHeartbeats 1000000 in
theorem law_c36 (S : Nat × (Nat → Int32)) (w : ab_WW) (X : ab_XX) (i x0 : Int32) (hi : ¬ Int32.ofNat S.1 - nI 7 < i) (g0 : ab_in i S.1 = true) (e0 : S.2 i.toNatClampNeg = x0) (w1 : ab_WW) (X1 X2 : ab_XX) (kv : Int32) (b : UInt64) (c : Nat) (hsw : x0 &&& nI 63 = nI 36) (hW : ab_Ec S 171 (0, lv_args 0 [.ref 0, .ref 18], [], (X, w)) (.inl (some (.int kv)), (X1, w1)) c) (hM : ab_Ec S 84 (0, lv_args 0 [.ref 13], [], (X1, w1)) (.inl (some (.double b)), (X2, w1)) 0) (ht : X2 13 0 = kv) (hb : kv = nI 0 → Op.cmpValue (FP.dcmp (w1.2 0) b) .l = nI 0) : ab_Rc S 252 c (28, [(0, .ref 1000), (1, .ref 0), (2, .ref 13), (3, .ref 17), (4, .ref 18), (5, .int i)], [], (X, w)) (28, [(0, .ref 1000), (1, .ref 0), (2, .ref 13), (3, .ref 17), (4, .ref 18), (5, .int (i + nI 7))], [], (X2, w1)) := by
  rw [show c = c + (0 + (0 + 0)) by omega]
  refine ab_q_go 5 (35, [(0, .ref 1000), (1, .ref 0), (2, .ref 13), (3, .ref 17), (4, .ref 18), (5, .int i)], [.int (Int32.ofNat S.1 - nI 7), .int i], (X, w)) rfl ?_
  refine ab_q_f (d := Int32.ofNat S.1 - nI 7 < i) (38, [(0, .ref 1000), (1, .ref 0), (2, .ref 13), (3, .ref 17), (4, .ref 18), (5, .int i)], [], (X, w)) hi rfl ?_
  refine ab_q_go 2 (41, [(0, .ref 1000), (1, .ref 0), (2, .ref 13), (3, .ref 17), (4, .ref 18), (5, .int i)], [.int i, .ref 1000], (X, w)) rfl ?_
  refine ab_q_ld g0 e0 rfl ?_
  refine ab_q_go 2 (45, [(0, .ref 1000), (1, .ref 0), (2, .ref 13), (3, .ref 17), (4, .ref 18), (5, .int i)], [.int (x0 &&& (nI 63))], (X, w)) rfl ?_
  refine ab_q_go 1 (ab_tsw (x0 &&& nI 63) 2395, [(0, .ref 1000), (1, .ref 0), (2, .ref 13), (3, .ref 17), (4, .ref 18), (5, .int i)], [], (X, w)) rfl ?_
  refine ab_q_sw 2163 hsw (by decide) ?_
  refine ab_q_go 2 (2166, [(0, .ref 1000), (1, .ref 0), (2, .ref 13), (3, .ref 17), (4, .ref 18), (5, .int i)], [.ref 18, .ref 0], (X, w)) rfl ?_
  refine ab_q_ca (k2 := 171) (as := [.ref 0, .ref 18]) (rest := []) rfl rfl hW ?_
  refine ab_q_go 2 (2172, [(6, .int kv), (0, .ref 1000), (1, .ref 0), (2, .ref 13), (3, .ref 17), (4, .ref 18), (5, .int i)], [.ref 13], (X1, w1)) rfl ?_
  refine ab_q_ca (k2 := 84) (as := [.ref 13]) (rest := []) rfl rfl hM ?_
  refine ab_q_go 2 (2178, [(7, .double b), (6, .int kv), (0, .ref 1000), (1, .ref 0), (2, .ref 13), (3, .ref 17), (4, .ref 18), (5, .int i)], [.ref 13], (X2, w1)) rfl ?_
  refine ab_q_ca (k2 := 44) (as := [.ref 13]) (rest := []) rfl rfl (ab_ec_of (T_M_thrown S w1 X2 _ rfl)) ?_
  refine ab_q_go 1 (2183, [(7, .double b), (6, .int kv), (0, .ref 1000), (1, .ref 0), (2, .ref 13), (3, .ref 17), (4, .ref 18), (5, .int i)], [.int kv, .int (X2 13 0)], (X2, w1)) rfl ?_
  refine ab_q_t (d := X2 13 0 = kv) (2188, [(7, .double b), (6, .int kv), (0, .ref 1000), (1, .ref 0), (2, .ref 13), (3, .ref 17), (4, .ref 18), (5, .int i)], [], (X2, w1)) ht rfl ?_
  refine ab_q_go 1 (2190, [(7, .double b), (6, .int kv), (0, .ref 1000), (1, .ref 0), (2, .ref 13), (3, .ref 17), (4, .ref 18), (5, .int i)], [.int kv], (X2, w1)) rfl ?_
  by_cases hk : kv = nI 0
  · refine ab_q_f (d := ¬ kv = nI 0) (2193, [(7, .double b), (6, .int kv), (0, .ref 1000), (1, .ref 0), (2, .ref 13), (3, .ref 17), (4, .ref 18), (5, .int i)], [], (X2, w1)) (fun z => z hk) rfl ?_
    refine ab_q_go 2 (2196, [(7, .double b), (6, .int kv), (0, .ref 1000), (1, .ref 0), (2, .ref 13), (3, .ref 17), (4, .ref 18), (5, .int i)], [.int (nI 0), .ref 18], (X2, w1)) rfl ?_
    refine ab_q_go 1 (2197, [(7, .double b), (6, .int kv), (0, .ref 1000), (1, .ref 0), (2, .ref 13), (3, .ref 17), (4, .ref 18), (5, .int i)], [.double (w1.2 0)], (X2, w1)) rfl ?_
    refine ab_q_go 1 (2199, [(7, .double b), (6, .int kv), (0, .ref 1000), (1, .ref 0), (2, .ref 13), (3, .ref 17), (4, .ref 18), (5, .int i)], [.double b, .double (w1.2 0)], (X2, w1)) rfl ?_
    refine ab_q_go 1 (2200, [(7, .double b), (6, .int kv), (0, .ref 1000), (1, .ref 0), (2, .ref 13), (3, .ref 17), (4, .ref 18), (5, .int i)], [.int (Op.cmpValue (FP.dcmp (w1.2 0) b) .l)], (X2, w1)) rfl ?_
    refine ab_q_t (d := Op.cmpValue (FP.dcmp (w1.2 0) b) .l = nI 0) (2225, [(7, .double b), (6, .int kv), (0, .ref 1000), (1, .ref 0), (2, .ref 13), (3, .ref 17), (4, .ref 18), (5, .int i)], [], (X2, w1)) (hb hk) rfl ?_
    refine ab_q_go 1 (2395, [(7, .double b), (6, .int kv), (0, .ref 1000), (1, .ref 0), (2, .ref 13), (3, .ref 17), (4, .ref 18), (5, .int i)], [], (X2, w1)) rfl ?_
    refine ab_q_go 2 (28, [(5, .int (i + nI 7)), (7, .double b), (6, .int kv), (0, .ref 1000), (1, .ref 0), (2, .ref 13), (3, .ref 17), (4, .ref 18)], [], (X2, w1)) rfl ?_
    exact ab_q_wk (lv0 := [(0, .ref 1000), (1, .ref 0), (2, .ref 13), (3, .ref 17), (4, .ref 18), (5, .int (i + nI 7))]) ⟨rfl, rfl, rfl, rfl, rfl, rfl, trivial⟩ ab_q_rf
  · refine ab_q_t (d := ¬ kv = nI 0) (2225, [(7, .double b), (6, .int kv), (0, .ref 1000), (1, .ref 0), (2, .ref 13), (3, .ref 17), (4, .ref 18), (5, .int i)], [], (X2, w1)) hk rfl ?_
    refine ab_q_go 1 (2395, [(7, .double b), (6, .int kv), (0, .ref 1000), (1, .ref 0), (2, .ref 13), (3, .ref 17), (4, .ref 18), (5, .int i)], [], (X2, w1)) rfl ?_
    refine ab_q_go 2 (28, [(5, .int (i + nI 7)), (7, .double b), (6, .int kv), (0, .ref 1000), (1, .ref 0), (2, .ref 13), (3, .ref 17), (4, .ref 18)], [], (X2, w1)) rfl ?_
    exact ab_q_wk (lv0 := [(0, .ref 1000), (1, .ref 0), (2, .ref 13), (3, .ref 17), (4, .ref 18), (5, .int (i + nI 7))]) ⟨rfl, rfl, rfl, rfl, rfl, rfl, trivial⟩ ab_q_rf
set_option maxRecDepth 8000 in
set_option maxHeartbeats 1000000 in
theorem law_c37 (S : Nat × (Nat → Int32)) (w : ab_WW) (X : ab_XX) (i x0 : Int32) (hi : ¬ Int32.ofNat S.1 - nI 7 < i) (g0 : ab_in i S.1 = true) (e0 : S.2 i.toNatClampNeg = x0) (w1 : ab_WW) (X1 X2 : ab_XX) (kv : Int32) (b : UInt32) (c : Nat) (hsw : x0 &&& nI 63 = nI 37) (hW : ab_Ec S 136 (0, lv_args 0 [.ref 0, .ref 18], [], (X, w)) (.inl (some (.int kv)), (X1, w1)) c) (hM : ab_Ec S 91 (0, lv_args 0 [.ref 13], [], (X1, w1)) (.inl (some (.float b)), (X2, w1)) 0) (ht : X2 13 0 = kv) (hg : kv = nI 0 → ab_n64 (FP.f2d b) = true) (hb : kv = nI 0 → Op.cmpValue (FP.dcmp (w1.2 0) (FP.f2d b)) .l = nI 0) : ab_Rc S 252 c (28, [(0, .ref 1000), (1, .ref 0), (2, .ref 13), (3, .ref 17), (4, .ref 18), (5, .int i)], [], (X, w)) (28, [(0, .ref 1000), (1, .ref 0), (2, .ref 13), (3, .ref 17), (4, .ref 18), (5, .int (i + nI 7))], [], (X2, w1)) := by
  rw [show c = c + (0 + (0 + 0)) by omega]
  refine ab_q_go 5 (35, [(0, .ref 1000), (1, .ref 0), (2, .ref 13), (3, .ref 17), (4, .ref 18), (5, .int i)], [.int (Int32.ofNat S.1 - nI 7), .int i], (X, w)) rfl ?_
  refine ab_q_f (d := Int32.ofNat S.1 - nI 7 < i) (38, [(0, .ref 1000), (1, .ref 0), (2, .ref 13), (3, .ref 17), (4, .ref 18), (5, .int i)], [], (X, w)) hi rfl ?_
  refine ab_q_go 2 (41, [(0, .ref 1000), (1, .ref 0), (2, .ref 13), (3, .ref 17), (4, .ref 18), (5, .int i)], [.int i, .ref 1000], (X, w)) rfl ?_
  refine ab_q_ld g0 e0 rfl ?_
  refine ab_q_go 2 (45, [(0, .ref 1000), (1, .ref 0), (2, .ref 13), (3, .ref 17), (4, .ref 18), (5, .int i)], [.int (x0 &&& (nI 63))], (X, w)) rfl ?_
  refine ab_q_go 1 (ab_tsw (x0 &&& nI 63) 2395, [(0, .ref 1000), (1, .ref 0), (2, .ref 13), (3, .ref 17), (4, .ref 18), (5, .int i)], [], (X, w)) rfl ?_
  refine ab_q_sw 2228 hsw (by decide) ?_
  refine ab_q_go 2 (2231, [(0, .ref 1000), (1, .ref 0), (2, .ref 13), (3, .ref 17), (4, .ref 18), (5, .int i)], [.ref 18, .ref 0], (X, w)) rfl ?_
  refine ab_q_ca (k2 := 136) (as := [.ref 0, .ref 18]) (rest := []) rfl rfl hW ?_
  refine ab_q_go 2 (2237, [(6, .int kv), (0, .ref 1000), (1, .ref 0), (2, .ref 13), (3, .ref 17), (4, .ref 18), (5, .int i)], [.ref 13], (X1, w1)) rfl ?_
  refine ab_q_ca (k2 := 91) (as := [.ref 13]) (rest := []) rfl rfl hM ?_
  refine ab_q_go 2 (2243, [(7, .float b), (6, .int kv), (0, .ref 1000), (1, .ref 0), (2, .ref 13), (3, .ref 17), (4, .ref 18), (5, .int i)], [.ref 13], (X2, w1)) rfl ?_
  refine ab_q_ca (k2 := 44) (as := [.ref 13]) (rest := []) rfl rfl (ab_ec_of (T_M_thrown S w1 X2 _ rfl)) ?_
  refine ab_q_go 1 (2248, [(7, .float b), (6, .int kv), (0, .ref 1000), (1, .ref 0), (2, .ref 13), (3, .ref 17), (4, .ref 18), (5, .int i)], [.int kv, .int (X2 13 0)], (X2, w1)) rfl ?_
  refine ab_q_t (d := X2 13 0 = kv) (2253, [(7, .float b), (6, .int kv), (0, .ref 1000), (1, .ref 0), (2, .ref 13), (3, .ref 17), (4, .ref 18), (5, .int i)], [], (X2, w1)) ht rfl ?_
  refine ab_q_go 1 (2255, [(7, .float b), (6, .int kv), (0, .ref 1000), (1, .ref 0), (2, .ref 13), (3, .ref 17), (4, .ref 18), (5, .int i)], [.int kv], (X2, w1)) rfl ?_
  by_cases hk : kv = nI 0
  · refine ab_q_f (d := ¬ kv = nI 0) (2258, [(7, .float b), (6, .int kv), (0, .ref 1000), (1, .ref 0), (2, .ref 13), (3, .ref 17), (4, .ref 18), (5, .int i)], [], (X2, w1)) (fun z => z hk) rfl ?_
    refine ab_q_go 2 (2261, [(7, .float b), (6, .int kv), (0, .ref 1000), (1, .ref 0), (2, .ref 13), (3, .ref 17), (4, .ref 18), (5, .int i)], [.int (nI 0), .ref 18], (X2, w1)) rfl ?_
    refine ab_q_go 1 (2262, [(7, .float b), (6, .int kv), (0, .ref 1000), (1, .ref 0), (2, .ref 13), (3, .ref 17), (4, .ref 18), (5, .int i)], [.double (w1.2 0)], (X2, w1)) rfl ?_
    refine ab_q_go 1 (2264, [(7, .float b), (6, .int kv), (0, .ref 1000), (1, .ref 0), (2, .ref 13), (3, .ref 17), (4, .ref 18), (5, .int i)], [.float b, .double (w1.2 0)], (X2, w1)) rfl ?_
    refine ab_q_gd (t := (2265, [(7, .float b), (6, .int kv), (0, .ref 1000), (1, .ref 0), (2, .ref 13), (3, .ref 17), (4, .ref 18), (5, .int i)], [.double (FP.f2d b), .double (w1.2 0)], (X2, w1))) (hg hk) rfl ?_
    refine ab_q_go 1 (2266, [(7, .float b), (6, .int kv), (0, .ref 1000), (1, .ref 0), (2, .ref 13), (3, .ref 17), (4, .ref 18), (5, .int i)], [.int (Op.cmpValue (FP.dcmp (w1.2 0) (FP.f2d b)) .l)], (X2, w1)) rfl ?_
    refine ab_q_t (d := Op.cmpValue (FP.dcmp (w1.2 0) (FP.f2d b)) .l = nI 0) (2291, [(7, .float b), (6, .int kv), (0, .ref 1000), (1, .ref 0), (2, .ref 13), (3, .ref 17), (4, .ref 18), (5, .int i)], [], (X2, w1)) (hb hk) rfl ?_
    refine ab_q_go 1 (2395, [(7, .float b), (6, .int kv), (0, .ref 1000), (1, .ref 0), (2, .ref 13), (3, .ref 17), (4, .ref 18), (5, .int i)], [], (X2, w1)) rfl ?_
    refine ab_q_go 2 (28, [(5, .int (i + nI 7)), (7, .float b), (6, .int kv), (0, .ref 1000), (1, .ref 0), (2, .ref 13), (3, .ref 17), (4, .ref 18)], [], (X2, w1)) rfl ?_
    exact ab_q_wk (lv0 := [(0, .ref 1000), (1, .ref 0), (2, .ref 13), (3, .ref 17), (4, .ref 18), (5, .int (i + nI 7))]) ⟨rfl, rfl, rfl, rfl, rfl, rfl, trivial⟩ ab_q_rf
  · refine ab_q_t (d := ¬ kv = nI 0) (2291, [(7, .float b), (6, .int kv), (0, .ref 1000), (1, .ref 0), (2, .ref 13), (3, .ref 17), (4, .ref 18), (5, .int i)], [], (X2, w1)) hk rfl ?_
    refine ab_q_go 1 (2395, [(7, .float b), (6, .int kv), (0, .ref 1000), (1, .ref 0), (2, .ref 13), (3, .ref 17), (4, .ref 18), (5, .int i)], [], (X2, w1)) rfl ?_
    refine ab_q_go 2 (28, [(5, .int (i + nI 7)), (7, .float b), (6, .int kv), (0, .ref 1000), (1, .ref 0), (2, .ref 13), (3, .ref 17), (4, .ref 18)], [], (X2, w1)) rfl ?_
    exact ab_q_wk (lv0 := [(0, .ref 1000), (1, .ref 0), (2, .ref 13), (3, .ref 17), (4, .ref 18), (5, .int (i + nI 7))]) ⟨rfl, rfl, rfl, rfl, rfl, rfl, trivial⟩ ab_q_rf
set_option maxRecDepth 8000 in
set_option maxHeartbeats 1000000 in
theorem law_c38 (S : Nat × (Nat → Int32)) (w : ab_WW) (X : ab_XX) (i x0 : Int32) (hi : ¬ Int32.ofNat S.1 - nI 7 < i) (g0 : ab_in i S.1 = true) (e0 : S.2 i.toNatClampNeg = x0) (w1 : ab_WW) (X1 X2 : ab_XX) (kv : Int32) (b : Int32) (c : Nat) (hsw : x0 &&& nI 63 = nI 38) (hW : ab_Ec S 205 (0, lv_args 0 [.ref 0, .ref 17], [], (X, w)) (.inl (some (.int kv)), (X1, w1)) c) (hM : ab_Ec S 109 (0, lv_args 0 [.ref 13], [], (X1, w1)) (.inl (some (.int b)), (X2, w1)) 0) (ht : X2 13 0 = kv) (hb : kv = nI 0 → lg_cmp (w1.1 0) b.toInt64 = nI 0) : ab_Rc S 252 c (28, [(0, .ref 1000), (1, .ref 0), (2, .ref 13), (3, .ref 17), (4, .ref 18), (5, .int i)], [], (X, w)) (28, [(0, .ref 1000), (1, .ref 0), (2, .ref 13), (3, .ref 17), (4, .ref 18), (5, .int (i + nI 7))], [], (X2, w1)) := by
  rw [show c = c + (0 + (0 + 0)) by omega]
  refine ab_q_go 5 (35, [(0, .ref 1000), (1, .ref 0), (2, .ref 13), (3, .ref 17), (4, .ref 18), (5, .int i)], [.int (Int32.ofNat S.1 - nI 7), .int i], (X, w)) rfl ?_
  refine ab_q_f (d := Int32.ofNat S.1 - nI 7 < i) (38, [(0, .ref 1000), (1, .ref 0), (2, .ref 13), (3, .ref 17), (4, .ref 18), (5, .int i)], [], (X, w)) hi rfl ?_
  refine ab_q_go 2 (41, [(0, .ref 1000), (1, .ref 0), (2, .ref 13), (3, .ref 17), (4, .ref 18), (5, .int i)], [.int i, .ref 1000], (X, w)) rfl ?_
  refine ab_q_ld g0 e0 rfl ?_
  refine ab_q_go 2 (45, [(0, .ref 1000), (1, .ref 0), (2, .ref 13), (3, .ref 17), (4, .ref 18), (5, .int i)], [.int (x0 &&& (nI 63))], (X, w)) rfl ?_
  refine ab_q_go 1 (ab_tsw (x0 &&& nI 63) 2395, [(0, .ref 1000), (1, .ref 0), (2, .ref 13), (3, .ref 17), (4, .ref 18), (5, .int i)], [], (X, w)) rfl ?_
  refine ab_q_sw 2294 hsw (by decide) ?_
  refine ab_q_go 2 (2296, [(0, .ref 1000), (1, .ref 0), (2, .ref 13), (3, .ref 17), (4, .ref 18), (5, .int i)], [.ref 17, .ref 0], (X, w)) rfl ?_
  refine ab_q_ca (k2 := 205) (as := [.ref 0, .ref 17]) (rest := []) rfl rfl hW ?_
  refine ab_q_go 2 (2302, [(6, .int kv), (0, .ref 1000), (1, .ref 0), (2, .ref 13), (3, .ref 17), (4, .ref 18), (5, .int i)], [.ref 13], (X1, w1)) rfl ?_
  refine ab_q_ca (k2 := 109) (as := [.ref 13]) (rest := []) rfl rfl hM ?_
  refine ab_q_go 2 (2308, [(7, .int b), (6, .int kv), (0, .ref 1000), (1, .ref 0), (2, .ref 13), (3, .ref 17), (4, .ref 18), (5, .int i)], [.ref 13], (X2, w1)) rfl ?_
  refine ab_q_ca (k2 := 44) (as := [.ref 13]) (rest := []) rfl rfl (ab_ec_of (T_M_thrown S w1 X2 _ rfl)) ?_
  refine ab_q_go 1 (2313, [(7, .int b), (6, .int kv), (0, .ref 1000), (1, .ref 0), (2, .ref 13), (3, .ref 17), (4, .ref 18), (5, .int i)], [.int kv, .int (X2 13 0)], (X2, w1)) rfl ?_
  refine ab_q_t (d := X2 13 0 = kv) (2318, [(7, .int b), (6, .int kv), (0, .ref 1000), (1, .ref 0), (2, .ref 13), (3, .ref 17), (4, .ref 18), (5, .int i)], [], (X2, w1)) ht rfl ?_
  refine ab_q_go 1 (2320, [(7, .int b), (6, .int kv), (0, .ref 1000), (1, .ref 0), (2, .ref 13), (3, .ref 17), (4, .ref 18), (5, .int i)], [.int kv], (X2, w1)) rfl ?_
  by_cases hk : kv = nI 0
  · refine ab_q_f (d := ¬ kv = nI 0) (2323, [(7, .int b), (6, .int kv), (0, .ref 1000), (1, .ref 0), (2, .ref 13), (3, .ref 17), (4, .ref 18), (5, .int i)], [], (X2, w1)) (fun z => z hk) rfl ?_
    refine ab_q_go 2 (2325, [(7, .int b), (6, .int kv), (0, .ref 1000), (1, .ref 0), (2, .ref 13), (3, .ref 17), (4, .ref 18), (5, .int i)], [.int (nI 0), .ref 17], (X2, w1)) rfl ?_
    refine ab_q_go 1 (2326, [(7, .int b), (6, .int kv), (0, .ref 1000), (1, .ref 0), (2, .ref 13), (3, .ref 17), (4, .ref 18), (5, .int i)], [.long (w1.1 0)], (X2, w1)) rfl ?_
    refine ab_q_go 2 (2329, [(7, .int b), (6, .int kv), (0, .ref 1000), (1, .ref 0), (2, .ref 13), (3, .ref 17), (4, .ref 18), (5, .int i)], [.long b.toInt64, .long (w1.1 0)], (X2, w1)) rfl ?_
    refine ab_q_go 1 (2330, [(7, .int b), (6, .int kv), (0, .ref 1000), (1, .ref 0), (2, .ref 13), (3, .ref 17), (4, .ref 18), (5, .int i)], [.int (lg_cmp (w1.1 0) b.toInt64)], (X2, w1)) rfl ?_
    refine ab_q_t (d := lg_cmp (w1.1 0) b.toInt64 = nI 0) (2335, [(7, .int b), (6, .int kv), (0, .ref 1000), (1, .ref 0), (2, .ref 13), (3, .ref 17), (4, .ref 18), (5, .int i)], [], (X2, w1)) (hb hk) rfl ?_
    refine ab_q_go 1 (2395, [(7, .int b), (6, .int kv), (0, .ref 1000), (1, .ref 0), (2, .ref 13), (3, .ref 17), (4, .ref 18), (5, .int i)], [], (X2, w1)) rfl ?_
    refine ab_q_go 2 (28, [(5, .int (i + nI 7)), (7, .int b), (6, .int kv), (0, .ref 1000), (1, .ref 0), (2, .ref 13), (3, .ref 17), (4, .ref 18)], [], (X2, w1)) rfl ?_
    exact ab_q_wk (lv0 := [(0, .ref 1000), (1, .ref 0), (2, .ref 13), (3, .ref 17), (4, .ref 18), (5, .int (i + nI 7))]) ⟨rfl, rfl, rfl, rfl, rfl, rfl, trivial⟩ ab_q_rf
  · refine ab_q_t (d := ¬ kv = nI 0) (2335, [(7, .int b), (6, .int kv), (0, .ref 1000), (1, .ref 0), (2, .ref 13), (3, .ref 17), (4, .ref 18), (5, .int i)], [], (X2, w1)) hk rfl ?_
    refine ab_q_go 1 (2395, [(7, .int b), (6, .int kv), (0, .ref 1000), (1, .ref 0), (2, .ref 13), (3, .ref 17), (4, .ref 18), (5, .int i)], [], (X2, w1)) rfl ?_
    refine ab_q_go 2 (28, [(5, .int (i + nI 7)), (7, .int b), (6, .int kv), (0, .ref 1000), (1, .ref 0), (2, .ref 13), (3, .ref 17), (4, .ref 18)], [], (X2, w1)) rfl ?_
    exact ab_q_wk (lv0 := [(0, .ref 1000), (1, .ref 0), (2, .ref 13), (3, .ref 17), (4, .ref 18), (5, .int (i + nI 7))]) ⟨rfl, rfl, rfl, rfl, rfl, rfl, trivial⟩ ab_q_rf
set_option maxRecDepth 8000 in
set_option maxHeartbeats 1000000 in
theorem law_c39 (S : Nat × (Nat → Int32)) (w : ab_WW) (X : ab_XX) (i x0 : Int32) (hi : ¬ Int32.ofNat S.1 - nI 7 < i) (g0 : ab_in i S.1 = true) (e0 : S.2 i.toNatClampNeg = x0) (X1 X2 : ab_XX) (a b : Int32) (hsw : x0 &&& nI 63 = nI 39) (hC : ab_Ec S 161 (0, lv_args 0 [.ref 0], [], (X, w)) (.inl (some (.int a)), (X1, w)) 0) (hM : ab_Ec S 106 (0, lv_args 0 [.ref 13], [], (X1, w)) (.inl (some (.int b)), (X2, w)) 0) (hab : a = b) : ab_Rc S 252 0 (28, [(0, .ref 1000), (1, .ref 0), (2, .ref 13), (3, .ref 17), (4, .ref 18), (5, .int i)], [], (X, w)) (28, [(0, .ref 1000), (1, .ref 0), (2, .ref 13), (3, .ref 17), (4, .ref 18), (5, .int (i + nI 7))], [], (X2, w)) := by
  suffices z : ab_Rc S 252 (0 + (0 + 0)) (28, [(0, .ref 1000), (1, .ref 0), (2, .ref 13), (3, .ref 17), (4, .ref 18), (5, .int i)], [], (X, w)) (28, [(0, .ref 1000), (1, .ref 0), (2, .ref 13), (3, .ref 17), (4, .ref 18), (5, .int (i + nI 7))], [], (X2, w)) from z
  refine ab_q_go 5 (35, [(0, .ref 1000), (1, .ref 0), (2, .ref 13), (3, .ref 17), (4, .ref 18), (5, .int i)], [.int (Int32.ofNat S.1 - nI 7), .int i], (X, w)) rfl ?_
  refine ab_q_f (d := Int32.ofNat S.1 - nI 7 < i) (38, [(0, .ref 1000), (1, .ref 0), (2, .ref 13), (3, .ref 17), (4, .ref 18), (5, .int i)], [], (X, w)) hi rfl ?_
  refine ab_q_go 2 (41, [(0, .ref 1000), (1, .ref 0), (2, .ref 13), (3, .ref 17), (4, .ref 18), (5, .int i)], [.int i, .ref 1000], (X, w)) rfl ?_
  refine ab_q_ld g0 e0 rfl ?_
  refine ab_q_go 2 (45, [(0, .ref 1000), (1, .ref 0), (2, .ref 13), (3, .ref 17), (4, .ref 18), (5, .int i)], [.int (x0 &&& (nI 63))], (X, w)) rfl ?_
  refine ab_q_go 1 (ab_tsw (x0 &&& nI 63) 2395, [(0, .ref 1000), (1, .ref 0), (2, .ref 13), (3, .ref 17), (4, .ref 18), (5, .int i)], [], (X, w)) rfl ?_
  refine ab_q_sw 2338 hsw (by decide) ?_
  refine ab_q_go 1 (2339, [(0, .ref 1000), (1, .ref 0), (2, .ref 13), (3, .ref 17), (4, .ref 18), (5, .int i)], [.ref 0], (X, w)) rfl ?_
  refine ab_q_ca (k2 := 161) (as := [.ref 0]) (rest := []) rfl rfl hC ?_
  refine ab_q_go 1 (2343, [(0, .ref 1000), (1, .ref 0), (2, .ref 13), (3, .ref 17), (4, .ref 18), (5, .int i)], [.ref 13, .int a], (X1, w)) rfl ?_
  refine ab_q_ca (k2 := 106) (as := [.ref 13]) (rest := [.int a]) rfl rfl hM ?_
  refine ab_q_t (d := a = b) (2395, [(0, .ref 1000), (1, .ref 0), (2, .ref 13), (3, .ref 17), (4, .ref 18), (5, .int i)], [], (X2, w)) hab rfl ?_
  refine ab_q_go 2 (28, [(5, .int (i + nI 7)), (0, .ref 1000), (1, .ref 0), (2, .ref 13), (3, .ref 17), (4, .ref 18)], [], (X2, w)) rfl ?_
  exact ab_q_wk (lv0 := [(0, .ref 1000), (1, .ref 0), (2, .ref 13), (3, .ref 17), (4, .ref 18), (5, .int (i + nI 7))]) ⟨rfl, rfl, rfl, rfl, rfl, rfl, trivial⟩ ab_q_rf
set_option maxRecDepth 8000 in
set_option maxHeartbeats 1000000 in
theorem law_c40 (S : Nat × (Nat → Int32)) (w : ab_WW) (X : ab_XX) (i x0 : Int32) (hi : ¬ Int32.ofNat S.1 - nI 7 < i) (g0 : ab_in i S.1 = true) (e0 : S.2 i.toNatClampNeg = x0) (w1 : ab_WW) (X1 X2 : ab_XX) (kv : Int32) (b : Int32) (c : Nat) (hsw : x0 &&& nI 63 = nI 40) (hW : ab_Ec S 201 (0, lv_args 0 [.ref 0, .ref 17], [], (X, w)) (.inl (some (.int kv)), (X1, w1)) c) (hM : ab_Ec S 149 (0, lv_args 0 [.ref 13], [], (X1, w1)) (.inl (some (.int b)), (X2, w1)) 0) (ht : X2 13 0 = kv) (hb : kv = nI 0 → lg_cmp (w1.1 0) b.toInt64 = nI 0) : ab_Rc S 252 c (28, [(0, .ref 1000), (1, .ref 0), (2, .ref 13), (3, .ref 17), (4, .ref 18), (5, .int i)], [], (X, w)) (28, [(0, .ref 1000), (1, .ref 0), (2, .ref 13), (3, .ref 17), (4, .ref 18), (5, .int (i + nI 7))], [], (X2, w1)) := by
  rw [show c = c + (0 + (0 + 0)) by omega]
  refine ab_q_go 5 (35, [(0, .ref 1000), (1, .ref 0), (2, .ref 13), (3, .ref 17), (4, .ref 18), (5, .int i)], [.int (Int32.ofNat S.1 - nI 7), .int i], (X, w)) rfl ?_
  refine ab_q_f (d := Int32.ofNat S.1 - nI 7 < i) (38, [(0, .ref 1000), (1, .ref 0), (2, .ref 13), (3, .ref 17), (4, .ref 18), (5, .int i)], [], (X, w)) hi rfl ?_
  refine ab_q_go 2 (41, [(0, .ref 1000), (1, .ref 0), (2, .ref 13), (3, .ref 17), (4, .ref 18), (5, .int i)], [.int i, .ref 1000], (X, w)) rfl ?_
  refine ab_q_ld g0 e0 rfl ?_
  refine ab_q_go 2 (45, [(0, .ref 1000), (1, .ref 0), (2, .ref 13), (3, .ref 17), (4, .ref 18), (5, .int i)], [.int (x0 &&& (nI 63))], (X, w)) rfl ?_
  refine ab_q_go 1 (ab_tsw (x0 &&& nI 63) 2395, [(0, .ref 1000), (1, .ref 0), (2, .ref 13), (3, .ref 17), (4, .ref 18), (5, .int i)], [], (X, w)) rfl ?_
  refine ab_q_sw 2351 hsw (by decide) ?_
  refine ab_q_go 2 (2353, [(0, .ref 1000), (1, .ref 0), (2, .ref 13), (3, .ref 17), (4, .ref 18), (5, .int i)], [.ref 17, .ref 0], (X, w)) rfl ?_
  refine ab_q_ca (k2 := 201) (as := [.ref 0, .ref 17]) (rest := []) rfl rfl hW ?_
  refine ab_q_go 2 (2359, [(6, .int kv), (0, .ref 1000), (1, .ref 0), (2, .ref 13), (3, .ref 17), (4, .ref 18), (5, .int i)], [.ref 13], (X1, w1)) rfl ?_
  refine ab_q_ca (k2 := 149) (as := [.ref 13]) (rest := []) rfl rfl hM ?_
  refine ab_q_go 2 (2365, [(7, .int b), (6, .int kv), (0, .ref 1000), (1, .ref 0), (2, .ref 13), (3, .ref 17), (4, .ref 18), (5, .int i)], [.ref 13], (X2, w1)) rfl ?_
  refine ab_q_ca (k2 := 44) (as := [.ref 13]) (rest := []) rfl rfl (ab_ec_of (T_M_thrown S w1 X2 _ rfl)) ?_
  refine ab_q_go 1 (2370, [(7, .int b), (6, .int kv), (0, .ref 1000), (1, .ref 0), (2, .ref 13), (3, .ref 17), (4, .ref 18), (5, .int i)], [.int kv, .int (X2 13 0)], (X2, w1)) rfl ?_
  refine ab_q_t (d := X2 13 0 = kv) (2375, [(7, .int b), (6, .int kv), (0, .ref 1000), (1, .ref 0), (2, .ref 13), (3, .ref 17), (4, .ref 18), (5, .int i)], [], (X2, w1)) ht rfl ?_
  refine ab_q_go 1 (2377, [(7, .int b), (6, .int kv), (0, .ref 1000), (1, .ref 0), (2, .ref 13), (3, .ref 17), (4, .ref 18), (5, .int i)], [.int kv], (X2, w1)) rfl ?_
  by_cases hk : kv = nI 0
  · refine ab_q_f (d := ¬ kv = nI 0) (2380, [(7, .int b), (6, .int kv), (0, .ref 1000), (1, .ref 0), (2, .ref 13), (3, .ref 17), (4, .ref 18), (5, .int i)], [], (X2, w1)) (fun z => z hk) rfl ?_
    refine ab_q_go 2 (2382, [(7, .int b), (6, .int kv), (0, .ref 1000), (1, .ref 0), (2, .ref 13), (3, .ref 17), (4, .ref 18), (5, .int i)], [.int (nI 0), .ref 17], (X2, w1)) rfl ?_
    refine ab_q_go 1 (2383, [(7, .int b), (6, .int kv), (0, .ref 1000), (1, .ref 0), (2, .ref 13), (3, .ref 17), (4, .ref 18), (5, .int i)], [.long (w1.1 0)], (X2, w1)) rfl ?_
    refine ab_q_go 2 (2386, [(7, .int b), (6, .int kv), (0, .ref 1000), (1, .ref 0), (2, .ref 13), (3, .ref 17), (4, .ref 18), (5, .int i)], [.long b.toInt64, .long (w1.1 0)], (X2, w1)) rfl ?_
    refine ab_q_go 1 (2387, [(7, .int b), (6, .int kv), (0, .ref 1000), (1, .ref 0), (2, .ref 13), (3, .ref 17), (4, .ref 18), (5, .int i)], [.int (lg_cmp (w1.1 0) b.toInt64)], (X2, w1)) rfl ?_
    refine ab_q_t (d := lg_cmp (w1.1 0) b.toInt64 = nI 0) (2392, [(7, .int b), (6, .int kv), (0, .ref 1000), (1, .ref 0), (2, .ref 13), (3, .ref 17), (4, .ref 18), (5, .int i)], [], (X2, w1)) (hb hk) rfl ?_
    refine ab_q_go 1 (2395, [(7, .int b), (6, .int kv), (0, .ref 1000), (1, .ref 0), (2, .ref 13), (3, .ref 17), (4, .ref 18), (5, .int i)], [], (X2, w1)) rfl ?_
    refine ab_q_go 2 (28, [(5, .int (i + nI 7)), (7, .int b), (6, .int kv), (0, .ref 1000), (1, .ref 0), (2, .ref 13), (3, .ref 17), (4, .ref 18)], [], (X2, w1)) rfl ?_
    exact ab_q_wk (lv0 := [(0, .ref 1000), (1, .ref 0), (2, .ref 13), (3, .ref 17), (4, .ref 18), (5, .int (i + nI 7))]) ⟨rfl, rfl, rfl, rfl, rfl, rfl, trivial⟩ ab_q_rf
  · refine ab_q_t (d := ¬ kv = nI 0) (2392, [(7, .int b), (6, .int kv), (0, .ref 1000), (1, .ref 0), (2, .ref 13), (3, .ref 17), (4, .ref 18), (5, .int i)], [], (X2, w1)) hk rfl ?_
    refine ab_q_go 1 (2395, [(7, .int b), (6, .int kv), (0, .ref 1000), (1, .ref 0), (2, .ref 13), (3, .ref 17), (4, .ref 18), (5, .int i)], [], (X2, w1)) rfl ?_
    refine ab_q_go 2 (28, [(5, .int (i + nI 7)), (7, .int b), (6, .int kv), (0, .ref 1000), (1, .ref 0), (2, .ref 13), (3, .ref 17), (4, .ref 18)], [], (X2, w1)) rfl ?_
    exact ab_q_wk (lv0 := [(0, .ref 1000), (1, .ref 0), (2, .ref 13), (3, .ref 17), (4, .ref 18), (5, .int (i + nI 7))]) ⟨rfl, rfl, rfl, rfl, rfl, rfl, trivial⟩ ab_q_rf
set_option maxRecDepth 8000 in
set_option maxHeartbeats 1000000 in
theorem law_cd (S : Nat × (Nat → Int32)) (w : ab_WW) (X : ab_XX) (i x0 : Int32) (hi : ¬ Int32.ofNat S.1 - nI 7 < i) (g0 : ab_in i S.1 = true) (e0 : S.2 i.toNatClampNeg = x0) (hsw : ab_tsw (x0 &&& nI 63) 2395 = 2395) : ab_Rc S 252 0 (28, [(0, .ref 1000), (1, .ref 0), (2, .ref 13), (3, .ref 17), (4, .ref 18), (5, .int i)], [], (X, w)) (28, [(0, .ref 1000), (1, .ref 0), (2, .ref 13), (3, .ref 17), (4, .ref 18), (5, .int (i + nI 7))], [], (X, w)) := by
  refine ab_q_go 5 (35, [(0, .ref 1000), (1, .ref 0), (2, .ref 13), (3, .ref 17), (4, .ref 18), (5, .int i)], [.int (Int32.ofNat S.1 - nI 7), .int i], (X, w)) rfl ?_
  refine ab_q_f (d := Int32.ofNat S.1 - nI 7 < i) (38, [(0, .ref 1000), (1, .ref 0), (2, .ref 13), (3, .ref 17), (4, .ref 18), (5, .int i)], [], (X, w)) hi rfl ?_
  refine ab_q_go 2 (41, [(0, .ref 1000), (1, .ref 0), (2, .ref 13), (3, .ref 17), (4, .ref 18), (5, .int i)], [.int i, .ref 1000], (X, w)) rfl ?_
  refine ab_q_ld g0 e0 rfl ?_
  refine ab_q_go 2 (45, [(0, .ref 1000), (1, .ref 0), (2, .ref 13), (3, .ref 17), (4, .ref 18), (5, .int i)], [.int (x0 &&& (nI 63))], (X, w)) rfl ?_
  refine ab_q_go 1 (ab_tsw (x0 &&& nI 63) 2395, [(0, .ref 1000), (1, .ref 0), (2, .ref 13), (3, .ref 17), (4, .ref 18), (5, .int i)], [], (X, w)) rfl ?_
  refine ab_q_sw 2395 rfl hsw ?_
  refine ab_q_go 2 (28, [(5, .int (i + nI 7)), (0, .ref 1000), (1, .ref 0), (2, .ref 13), (3, .ref 17), (4, .ref 18)], [], (X, w)) rfl ?_
  exact ab_q_wk (lv0 := [(0, .ref 1000), (1, .ref 0), (2, .ref 13), (3, .ref 17), (4, .ref 18), (5, .int (i + nI 7))]) ⟨rfl, rfl, rfl, rfl, rfl, rfl, trivial⟩ ab_q_rf
