/-! ===== THE ABSTRACT MACHINE: a fixed set of 19 objects, whose ints are X c i; what an instruction does, by a kind ===== -/
abbrev ab_H : Type := (Nat → Nat → Int32) × (Nat → Int64) × (Nat → UInt64)
abbrev ab_L : Type := List (Nat × Value)
/-- kind, length, r, q, z, v -/
abbrev ab_E : Type := Nat × Nat × Nat × Nat × Nat × Int32
abbrev ab_S : Type := Nat × ab_L × List Value × ab_H
/-- next; a guard or a branch -/
abbrev ab_G : Type := ab_S ⊕ (Bool × ab_S × Option ab_S)
/-- a call: callee, arguments, rest -/
abbrev ab_J : Type := Nat × List Value × List Value
abbrev ab_Z : Type := Bool × (Option Value ⊕ Nat)
abbrev ab_R : Type := ab_G ⊕ ab_J ⊕ ab_Z
def ab_clsL : List Nat := [5, 4, 2, 99, 0, 99, 1, 99, 99, 99, 3, 99, 99, 6, 99, 99, 99, 99, 99]
def ab_cls (c : Nat) : Nat := ab_clsL.getD c 99
def ab_lenL : List Nat := [0, 0, 0, 453, 0, 3624, 0, 80, 12, 60, 0, 453, 453, 0, 4455, 80, 480, 0, 0]
def ab_len (c : Nat) : Nat := ab_lenL.getD c 0
def ab_rfL : List (List (Option Nat)) := [[some 1, some 2, some 4, some 6, some 10, some 11, some 12], [some 2], [some 3], [], [some 5], [], [some 7, none, none, some 8, some 9], [], [], [], [], [], [], [none, some 14, none, none, some 15, none, none, none, none, some 16]]
def ab_rf (c k : Nat) : Option Nat := (ab_rfL.getD c []).getD k none
def ab_fv (X : Nat → Nat → Int32) (c k : Nat) : Value := match ab_rf c k with
  | some t => .ref t
  | none => .int (X c k)
def ab_up (X : Nat → Nat → Int32) (c i : Nat) (v : Int32) : Nat → Nat → Int32 := fun d => if d = c then upd (X c) i v else X d
def ab_cpy (X : Nat → Nat → Int32) (s d sp dp n : Nat) : Nat → Nat → Int32 := fun c => if c = d then va_cpy (X s) (X d) sp dp n else X c
def ab_in (i : Int32) (n : Nat) : Bool := decide (¬ (i < 0 ∨ n ≤ i.toNatClampNeg))
def ab_ty (q : Nat) (v : Value) : Bool := match v with
  | .int _ => Nat.beq q 0
  | .ref _ => Nat.beq q 1
  | .float _ => Nat.beq q 2
  | .double _ => Nat.beq q 3
  | _ => false
def ab_lk : ab_L → Nat → Option Value
  | [], _ => none
  | (i, x) :: t, r => bif Nat.beq i r then some x else ab_lk t r
def ab_st1 (i : Nat) (v : Value) (l : ab_L) : ab_L := (i, v) :: l.filter (fun q => !(q.1 == i) && !(q.1 + 1 == i && q.2.category == 2))
def ab_st2 (i : Nat) (v : Value) (l : ab_L) : ab_L := (i, v) :: l.filter (fun q => !(q.1 == i) && (!(q.1 == i + 1) && !(q.1 + 1 == i && q.2.category == 2)))
def ab_dr (i : Nat) (l : ab_L) : ab_L := l.filter (fun q => !(q.1 == i) && !(q.1 + 1 == i && q.2.category == 2))
def ab_bin (q : Nat) (x y : Int32) : Int32 :=
  bif Nat.beq q 0 then x + y else bif Nat.beq q 1 then x - y else bif Nat.beq q 2 then x * y else bif Nat.beq q 3 then x &&& y else
  bif Nat.beq q 4 then x ||| y else bif Nat.beq q 5 then x ^^^ y else bif Nat.beq q 6 then x <<< (y &&& 31) else bif Nat.beq q 7 then x >>> (y &&& 31) else
  (x.toUInt32 >>> (y.toUInt32 &&& Int32.toUInt32 31)).toInt32
def ab_cmp (q : Nat) (x y : Int32) : Bool :=
  bif Nat.beq q 0 then decide (x = y) else bif Nat.beq q 1 then decide (¬ x = y) else bif Nat.beq q 2 then decide (x < y) else
  bif Nat.beq q 3 then decide (y ≤ x) else bif Nat.beq q 4 then decide (y < x) else decide (x ≤ y)
/-- n values off the stack, in the order in which they were pushed -/
def ab_pop : Nat → List Value → List Value → Option (List Value × List Value)
  | 0, st, a => some (a, st)
  | n + 1, x :: st, a => ab_pop n st (x :: a)
  | _ + 1, [], _ => none
def ab_tswL : List Nat := [224, 328, 432, 512, 568, 612, 625, 638, 651, 719, 732, 800, 868, 924, 1004, 1072, 1140, 1208, 1264, 1320, 1333, 1346, 1418, 1516, 1596, 1652, 1708, 1776, 1832, 1888, 1944, 2000, 2056, 2069, 2082, 2150, 2163, 2228, 2294, 2338, 2351]
def ab_tsw (x : Int32) (r : Nat) : Nat := if x.toInt < 0 ∨ 40 < x.toInt then r else ab_tswL.getD x.toInt.toNat 0
def ab_lsw (x : Int32) (r : Nat) : Nat := if x = 115 then 132 else if x = 119 then 88 else r
def ab_next (s : ab_S) : Option ab_G := some (.inl s)
def ab_grd (b : Bool) (s : ab_S) : Option ab_G := some (.inr (b, s, none))
def ab_a1 (len : Nat) (v : Int32) (pc : Nat) (lv : ab_L) (st : List Value) (h : ab_H) : Option ab_G := ab_next (pc + len, lv, .int v :: st, h)
def ab_a2 (len r q : Nat) (pc : Nat) (lv : ab_L) (st : List Value) (h : ab_H) : Option ab_G := match ab_lk lv r with
  | some x => bif ab_ty q x then ab_next (pc + len, lv, x :: st, h) else none
  | none => none
def ab_a3 (len r q : Nat) (pc : Nat) (lv : ab_L) (st : List Value) (h : ab_H) : Option ab_G := match st with
  | x :: rest => bif ab_ty q x then ab_next (pc + len, ab_st1 r x lv, rest, h) else none
  | _ => none
def ab_a4 (len r q : Nat) (pc : Nat) (lv : ab_L) (st : List Value) (h : ab_H) : Option ab_G := match st with
  | x :: rest => bif ab_ty q x then ab_next (pc + len, ab_st2 r x lv, rest, h) else none
  | _ => none
def ab_a5 (q : Nat) (pc : Nat) (lv : ab_L) (st : List Value) (h : ab_H) : Option ab_G := match st with
  | .int y :: .int x :: rest => ab_next (pc + 1, lv, .int (ab_bin q x y) :: rest, h)
  | _ => none
def ab_a6 (r : Nat) (v : Int32) (pc : Nat) (lv : ab_L) (st : List Value) (h : ab_H) : Option ab_G := match ab_lk lv r with
  | some (.int x) => ab_next (pc + 3, ab_st1 r (.int (x + v)) lv, st, h)
  | _ => none
def ab_a7 (r : Nat) (lv : ab_L) (st : List Value) (h : ab_H) : Option ab_G := ab_next (r, lv, st, h)
def ab_a8 (r q : Nat) (pc : Nat) (lv : ab_L) (st : List Value) (h : ab_H) : Option ab_G := match st with
  | .int x :: rest => some (.inr (ab_cmp q x 0, (r, lv, rest, h), some (pc + 3, lv, rest, h)))
  | _ => none
def ab_a9 (r q : Nat) (pc : Nat) (lv : ab_L) (st : List Value) (h : ab_H) : Option ab_G := match st with
  | .int y :: .int x :: rest => some (.inr (ab_cmp q x y, (r, lv, rest, h), some (pc + 3, lv, rest, h)))
  | _ => none
def ab_a10 (pc : Nat) (lv : ab_L) (st : List Value) (h : ab_H) : Option ab_G := match st with
  | x :: rest => bif Nat.beq x.category 1 then ab_next (pc + 1, lv, x :: x :: rest, h) else none
  | _ => none
def ab_a11 (pc : Nat) (lv : ab_L) (st : List Value) (h : ab_H) : Option ab_G := match st with
  | x :: rest => bif Nat.beq x.category 1 then ab_next (pc + 1, lv, rest, h) else none
  | _ => none
def ab_a12 (pc : Nat) (lv : ab_L) (st : List Value) (h : ab_H) : Option ab_G := match st with
  | x :: y :: rest => bif Nat.beq x.category 1 && Nat.beq y.category 1 then ab_next (pc + 1, lv, x :: y :: x :: y :: rest, h) else none
  | _ => none
def ab_a13 (r q : Nat) (pc : Nat) (lv : ab_L) (st : List Value) (h : ab_H) : Option ab_G := match st with
  | .ref c :: rest => bif Nat.beq (ab_cls c) q then ab_next (pc + 3, lv, ab_fv h.1 c r :: rest, h) else none
  | _ => none
/-- z = 1: a boolean field -/
def ab_a14 (r q : Nat) (z : Int32) (pc : Nat) (lv : ab_L) (st : List Value) (h : ab_H) : Option ab_G := match st with
  | .int x :: .ref c :: rest => bif Nat.beq (ab_cls c) q && (ab_rf c r).isNone then (bif z == 0 || (x == 0 || x == 1) then ab_next (pc + 3, lv, rest, (ab_up h.1 c r x, h.2)) else none) else none
  | _ => none
def ab_a15 (S : Nat × (Nat → Int32)) (lw : Bool) (pc : Nat) (lv : ab_L) (st : List Value) (h : ab_H) : Option ab_G := match st with
  | .int i :: .ref c :: rest => bif Nat.beq c 1000 then (bif lw then ab_grd (ab_in i S.1) (pc + 1, lv, .int (S.2 i.toNatClampNeg) :: rest, h) else none)
      else bif Nat.beq (ab_len c) 0 then none else ab_grd (ab_in i (ab_len c)) (pc + 1, lv, .int (h.1 c i.toNatClampNeg) :: rest, h)
  | _ => none
def ab_a16 (pc : Nat) (lv : ab_L) (st : List Value) (h : ab_H) : Option ab_G := match st with
  | .int x :: .int i :: .ref c :: rest => bif Nat.beq (ab_len c) 0 then none else ab_grd (ab_in i (ab_len c)) (pc + 1, lv, rest, (ab_up h.1 c i.toNatClampNeg x, h.2))
  | _ => none
def ab_a17 (pc : Nat) (lv : ab_L) (st : List Value) (h : ab_H) : Option ab_G := match st with
  | .int i :: .ref c :: rest => bif Nat.beq c 17 && i == 0 then ab_next (pc + 1, lv, .long (h.2.1 0) :: rest, h) else none
  | _ => none
def ab_a18 (pc : Nat) (lv : ab_L) (st : List Value) (h : ab_H) : Option ab_G := match st with
  | .long x :: .int i :: .ref c :: rest => bif Nat.beq c 17 && i == 0 then ab_next (pc + 1, lv, rest, (h.1, vp_updL h.2.1 0 x, h.2.2)) else none
  | _ => none
def ab_a19 (pc : Nat) (lv : ab_L) (st : List Value) (h : ab_H) : Option ab_G := match st with
  | .int i :: .ref c :: rest => bif Nat.beq c 18 && i == 0 then ab_next (pc + 1, lv, .double (h.2.2 0) :: rest, h) else none
  | _ => none
def ab_a20 (pc : Nat) (lv : ab_L) (st : List Value) (h : ab_H) : Option ab_G := match st with
  | .double x :: .int i :: .ref c :: rest => bif Nat.beq c 18 && i == 0 then ab_next (pc + 1, lv, rest, (h.1, h.2.1, vf_upd h.2.2 0 x)) else none
  | _ => none
def ab_a21 (S : Nat × (Nat → Int32)) (lw : Bool) (pc : Nat) (lv : ab_L) (st : List Value) (h : ab_H) : Option ab_G := match st with
  | .ref c :: rest => bif Nat.beq c 1000 then (bif lw then ab_next (pc + 1, lv, .int (Int32.ofNat S.1) :: rest, h) else none)
      else bif Nat.beq (ab_len c) 0 then none else ab_next (pc + 1, lv, .int (Int32.ofNat (ab_len c)) :: rest, h)
  | _ => none
def ab_a22 (pc : Nat) (lv : ab_L) (st : List Value) (h : ab_H) : Option ab_G := match st with
  | .int x :: rest => ab_next (pc + 1, lv, .long x.toInt64 :: rest, h)
  | _ => none
def ab_a23 (pc : Nat) (lv : ab_L) (st : List Value) (h : ab_H) : Option ab_G := match st with
  | .long y :: .long x :: rest => ab_next (pc + 1, lv, .int (lg_cmp x y) :: rest, h)
  | _ => none
def ab_a24 (pc : Nat) (lv : ab_L) (st : List Value) (h : ab_H) : Option ab_G := match st with
  | .int x :: rest => ab_next (pc + 1, lv, .double (FP.i2d x) :: rest, h)
  | _ => none
def ab_a25 (pc : Nat) (lv : ab_L) (st : List Value) (h : ab_H) : Option ab_G := match st with
  | .int x :: rest => ab_next (pc + 1, lv, .float (FP.i2f x) :: rest, h)
  | _ => none
def ab_n64 (r : UInt64) : Bool := decide (r &&& 0x7fffffffffffffff ≤ 0x7ff0000000000000)
def ab_n32 (r : UInt32) : Bool := decide (r &&& 0x7fffffff ≤ 0x7f800000)
def ab_a26 (pc : Nat) (lv : ab_L) (st : List Value) (h : ab_H) : Option ab_G := match st with
  | .float x :: rest => ab_grd (ab_n64 (FP.f2d x)) (pc + 1, lv, .double (FP.f2d x) :: rest, h)
  | _ => none
def ab_a27 (pc : Nat) (lv : ab_L) (st : List Value) (h : ab_H) : Option ab_G := match st with
  | .double y :: .double x :: rest => ab_grd (ab_n64 (FP.ddiv x y)) (pc + 1, lv, .double (FP.ddiv x y) :: rest, h)
  | _ => none
def ab_a28 (pc : Nat) (lv : ab_L) (st : List Value) (h : ab_H) : Option ab_G := match st with
  | .float y :: .float x :: rest => ab_grd (ab_n32 (FP.fdiv x y)) (pc + 1, lv, .float (FP.fdiv x y) :: rest, h)
  | _ => none
def ab_a29 (pc : Nat) (lv : ab_L) (st : List Value) (h : ab_H) : Option ab_G := match st with
  | .double y :: .double x :: rest => ab_next (pc + 1, lv, .int (Op.cmpValue (FP.dcmp x y) .l) :: rest, h)
  | _ => none
def ab_a30 (pc : Nat) (lv : ab_L) (st : List Value) (h : ab_H) : Option ab_G := match st with
  | .float y :: .float x :: rest => ab_next (pc + 1, lv, .int (Op.cmpValue (FP.fcmp x y) .l) :: rest, h)
  | _ => none
def ab_a31 (pc : Nat) (lv : ab_L) (st : List Value) (h : ab_H) : Option ab_G := ab_next (pc + 1, lv, .float FP.fconst0 :: st, h)
def ab_a32 (pc : Nat) (lv : ab_L) (st : List Value) (h : ab_H) : Option ab_G := ab_next (pc + 1, lv, .double FP.dconst0 :: st, h)
def ab_a33 (pc : Nat) (lv : ab_L) (st : List Value) (h : ab_H) : Option ab_G := match st with
  | .int y :: .int x :: rest => ab_grd (decide (¬ y = 0)) (pc + 1, lv, .int (x / y) :: rest, h)
  | _ => none
def ab_a34 (pc : Nat) (lv : ab_L) (st : List Value) (h : ab_H) : Option ab_G := match st with
  | .int y :: .int x :: rest => ab_grd (decide (¬ y = 0)) (pc + 1, lv, .int (x - x / y * y) :: rest, h)
  | _ => none
def ab_a35 (r : Nat) (lv : ab_L) (st : List Value) (h : ab_H) : Option ab_G := match st with
  | .int x :: rest => ab_next (ab_tsw x r, lv, rest, h)
  | _ => none
def ab_a36 (r : Nat) (lv : ab_L) (st : List Value) (h : ab_H) : Option ab_G := match st with
  | .int x :: rest => ab_next (ab_lsw x r, lv, rest, h)
  | _ => none
def ab_a37 (pc : Nat) (lv : ab_L) (st : List Value) (h : ab_H) : Option ab_G := match st with
  | .ref _ :: rest => ab_next (pc + 3, lv, rest, h)
  | _ => none
def ab_a38 (r q : Nat) (rc : Nat) (st : List Value) : Option ab_J := match ab_pop q st [] with
  | some (as, .ref c :: rest) => bif Nat.beq (ab_cls c) rc then some (r, .ref c :: as, rest) else none
  | _ => none
def ab_a39 (r q : Nat) (st : List Value) : Option ab_J := match ab_pop q st [] with
  | some (as, rest) => some (r, as, rest)
  | none => none
def ab_a40 (pc : Nat) (lv : ab_L) (st : List Value) (h : ab_H) : Option ab_G := match st with
  | .int n :: .int dp :: .ref d :: .int sp :: .ref s :: rest =>
      bif Nat.beq (ab_len s) 0 || Nat.beq (ab_len d) 0 || !(Nat.ble (rest.map fun v => v.category).sum 8) then none else
      ab_grd (decide (¬ sp < 0 ∧ ¬ dp < 0 ∧ ¬ n < 0 ∧ sp.toNatClampNeg + n.toNatClampNeg ≤ ab_len s ∧ dp.toNatClampNeg + n.toNatClampNeg ≤ ab_len d))
        (pc + 3, lv, rest, (ab_cpy h.1 s d sp.toNatClampNeg dp.toNatClampNeg n.toNatClampNeg, h.2))
  | _ => none
/-- q = 1: a boolean is answered -/
def ab_a41 (q : Nat) (st : List Value) : Option ab_Z := match st with
  | [.int x] => some (bif Nat.beq q 0 then true else decide (x &&& 1 = x), .inl (some (.int x)))
  | _ => none
def ab_a42 (st : List Value) : Option ab_Z := match st with
  | [] => some (true, .inl none)
  | _ => none
def ab_a43 (st : List Value) : Option ab_Z := match st with
  | [.float x] => some (true, .inl (some (.float x)))
  | _ => none
def ab_a44 (st : List Value) : Option ab_Z := match st with
  | [.double x] => some (true, .inl (some (.double x)))
  | _ => none
def ab_a45 (r : Nat) (st : List Value) : Option ab_Z := bif Nat.ble (st.map fun v => v.category).sum 8 then some (true, .inr r) else none
def ab_a46 (pc : Nat) (lv : ab_L) (st : List Value) (h : ab_H) : Option ab_G := match st with
  | .int y :: .int x :: rest => bif Nat.ble (rest.map fun v => v.category).sum 8 then ab_next (pc + 3, lv, .int (if x < y then y else x) :: rest, h) else none
  | _ => none
def ab_a47 (pc : Nat) (lv : ab_L) (st : List Value) (h : ab_H) : Option ab_G := match st with
  | .int y :: .int x :: rest => bif Nat.ble (rest.map fun v => v.category).sum 8 then ab_next (pc + 3, lv, .int (if y < x then y else x) :: rest, h) else none
  | _ => none
def ab_act (S : Nat × (Nat → Int32)) (lw : Bool) (e : ab_E) (pc : Nat) (lv : ab_L) (st : List Value) (h : ab_H) : Option ab_G :=
  match e with
  | (k, len, r, q, z, v) =>
   bif Nat.ble k 20 then
    bif Nat.ble k 10 then
     bif Nat.ble k 5 then
      bif Nat.ble k 2 then
       bif Nat.ble k 1 then
        bif Nat.beq k 1 then ab_a1 len v pc lv st h else none
       else
        bif Nat.beq k 2 then ab_a2 len r q pc lv st h else none
      else
       bif Nat.ble k 3 then
        bif Nat.beq k 3 then ab_a3 len r q pc lv st h else none
       else
        bif Nat.ble k 4 then
         bif Nat.beq k 4 then ab_a4 len r q pc lv st h else none
        else
         bif Nat.beq k 5 then ab_a5 q pc lv st h else none
     else
      bif Nat.ble k 7 then
       bif Nat.ble k 6 then
        bif Nat.beq k 6 then ab_a6 r v pc lv st h else none
       else
        bif Nat.beq k 7 then ab_a7 r lv st h else none
      else
       bif Nat.ble k 8 then
        bif Nat.beq k 8 then ab_a8 r q pc lv st h else none
       else
        bif Nat.ble k 9 then
         bif Nat.beq k 9 then ab_a9 r q pc lv st h else none
        else
         bif Nat.beq k 10 then ab_a10 pc lv st h else none
    else
     bif Nat.ble k 15 then
      bif Nat.ble k 12 then
       bif Nat.ble k 11 then
        bif Nat.beq k 11 then ab_a11 pc lv st h else none
       else
        bif Nat.beq k 12 then ab_a12 pc lv st h else none
      else
       bif Nat.ble k 13 then
        bif Nat.beq k 13 then ab_a13 r q pc lv st h else none
       else
        bif Nat.ble k 14 then
         bif Nat.beq k 14 then ab_a14 r q v pc lv st h else none
        else
         bif Nat.beq k 15 then ab_a15 S lw pc lv st h else none
     else
      bif Nat.ble k 17 then
       bif Nat.ble k 16 then
        bif Nat.beq k 16 then ab_a16 pc lv st h else none
       else
        bif Nat.beq k 17 then ab_a17 pc lv st h else none
      else
       bif Nat.ble k 18 then
        bif Nat.beq k 18 then ab_a18 pc lv st h else none
       else
        bif Nat.ble k 19 then
         bif Nat.beq k 19 then ab_a19 pc lv st h else none
        else
         bif Nat.beq k 20 then ab_a20 pc lv st h else none
   else
    bif Nat.ble k 30 then
     bif Nat.ble k 25 then
      bif Nat.ble k 22 then
       bif Nat.ble k 21 then
        bif Nat.beq k 21 then ab_a21 S lw pc lv st h else none
       else
        bif Nat.beq k 22 then ab_a22 pc lv st h else none
      else
       bif Nat.ble k 23 then
        bif Nat.beq k 23 then ab_a23 pc lv st h else none
       else
        bif Nat.ble k 24 then
         bif Nat.beq k 24 then ab_a24 pc lv st h else none
        else
         bif Nat.beq k 25 then ab_a25 pc lv st h else none
     else
      bif Nat.ble k 27 then
       bif Nat.ble k 26 then
        bif Nat.beq k 26 then ab_a26 pc lv st h else none
       else
        bif Nat.beq k 27 then ab_a27 pc lv st h else none
      else
       bif Nat.ble k 28 then
        bif Nat.beq k 28 then ab_a28 pc lv st h else none
       else
        bif Nat.ble k 29 then
         bif Nat.beq k 29 then ab_a29 pc lv st h else none
        else
         bif Nat.beq k 30 then ab_a30 pc lv st h else none
    else
     bif Nat.ble k 35 then
      bif Nat.ble k 32 then
       bif Nat.ble k 31 then
        bif Nat.beq k 31 then ab_a31 pc lv st h else none
       else
        bif Nat.beq k 32 then ab_a32 pc lv st h else none
      else
       bif Nat.ble k 33 then
        bif Nat.beq k 33 then ab_a33 pc lv st h else none
       else
        bif Nat.ble k 34 then
         bif Nat.beq k 34 then ab_a34 pc lv st h else none
        else
         bif Nat.beq k 35 then ab_a35 r lv st h else none
     else
      bif Nat.ble k 37 then
       bif Nat.ble k 36 then
        bif Nat.beq k 36 then ab_a36 r lv st h else none
       else
        bif Nat.beq k 37 then ab_a37 pc lv st h else none
      else
       bif Nat.ble k 40 then
        bif Nat.beq k 40 then ab_a40 pc lv st h else none
       else
        bif Nat.ble k 46 then
         bif Nat.beq k 46 then ab_a46 pc lv st h else none
        else
         bif Nat.beq k 47 then ab_a47 pc lv st h else none
/-- rc: the class of the receiver of a virtual call -/
def ab_cal (rc : Nat → Nat) (e : ab_E) (st : List Value) : Option ab_J :=
  match e with
  | (k, len, r, q, z, v) => bif Nat.beq k 38 then ab_a38 r q (rc r) st else ab_a39 r q st
def ab_end (e : ab_E) (st : List Value) : Option ab_Z :=
  match e with
  | (k, len, r, q, z, v) => bif Nat.beq k 41 then ab_a41 q st else bif Nat.beq k 42 then ab_a42 st else bif Nat.beq k 43 then ab_a43 st else bif Nat.beq k 44 then ab_a44 st else ab_a45 r st
def ab_any (S : Nat × (Nat → Int32)) (lw : Bool) (rc : Nat → Nat) (e : ab_E) (pc : Nat) (lv : ab_L) (st : List Value) (h : ab_H) : Option ab_R :=
  bif Nat.beq e.1 38 || Nat.beq e.1 39 then (match ab_cal rc e st with
    | some j => some (.inr (.inl j))
    | none => none)
  else bif Nat.ble 41 e.1 && Nat.ble e.1 45 then (match ab_end e st with
    | some z => some (.inr (.inr z))
    | none => none)
  else (match ab_act S lw e pc lv st h with
    | some g => some (.inl g)
    | none => none)
