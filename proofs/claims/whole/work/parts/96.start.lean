/-! THE CLAIM OUT OF ONE WALK OF THE LAW'S BODY. Your part is whole_start (and what it stands on); all else here is the same for every law, but numbers. -/
def R_law : String := "ShiftMarketLaw"
def lw_P (b : Addr) (xs : List Int32) (args : Array Value) (s : State) : Prop := args = #[.ref b] ∧ s.IntsAt b xs ∧ xs.length ≤ 3584 ∧ (Jvm.Cond.and given_1 narrow_1).before args s = true
/-- what a walk over the start with the record d0 says of its end, said of the start itself -/
theorem lw_closed {s t : State} {o : Outcome} {d0 : Drawn} {L : List Loc} {k n : Nat} (hd0 : s.drawn.sameBut d0 lw_cs) (hv : ∃ v, o = .returned v) (hW : (s.setDrawn d0).WarmedH t.vm) (hs : (s.setDrawn d0).sameButNew ({ t with vm := s.vm } : State) L k n) : State.butDraws s t lw_cs (fun t1 => Framed s o t1 L k n) := by
  have h2 : t.drawn = d0 := congrArg State.drawn hs.1
  refine ⟨⟨hv, hW, State.sameButNew.setDrawn hs s.drawn⟩, ?_, by decide⟩
  rw [h2]
  exact hd0
def lw_Q (_ : Array Value) (s : State) (o : Outcome) (t : State) : Prop := o = .returned (some (.int 1)) ∧ State.butDraws s t lw_cs (fun t1 => Framed s o t1 [] 3125 129179)
def lw_Z (below : List Frame) (a : Array Value) (s : State) : State → Prop := fun t => ∃ o, t.status = .running ∧ Ended t below o ∧ lw_Q a s o t
/-- the law's own end, with 1 on the stack, nothing written that was there before, its room as the claim has it; d0: the record of draws at this point (at the entry s.drawn: begin with 'refine W.base ?_' and 'have hd0 := Drawn.sameBut.refl s.drawn lw_cs') -/
theorem lw_ret {p : Program} {l : Launch} {e : Env} {s : State} {m : MethodId} {below : List Frame} {meth : Method} {c : Code} {b : Nat} {d0 : Drawn} (hd0 : s.drawn.sameBut d0 lw_cs) (hx : p.tables.exec = Jvm.exec) (hb : c.code = code) (hr : meth.sig.returnType = ret) (hlocks : meth.locks = false) {pc : Nat} {H : Heap} {ls : Array Slot} (hdg : decode code pc = .ok (.ireturn, 1)) : W p l e room_1 (s.setDrawn d0) m #[Value.ref b] below meth c H [] 3125 129179 (lw_Z below #[Value.ref b] s) (F0 m pc ls [.int 1]) := by
  intro T hT X
  obtain ⟨fs, hret, hrun, hended, hW, hframe⟩ := X.leave (v := some (.int 1)) (hlocks := hlocks) (fun h => by rw [hr] at h; cases h)
  have hmeth' : T.vm.method? m = some meth := X.method'
  refine ⟨T.setFrames fs, ?_, .returned (some (.int 1)), hrun, hended, rfl, lw_closed hd0 ⟨_, rfl⟩ hW hframe⟩
  jvm_step X.here [X.here.top, hx, hb, hdg, hmeth', hr, ret, narrow_b1]
  (try refine ⟨rfl, ?_⟩); (try refine ⟨rfl, ?_⟩)
  first | (intro acts; rw [hret _ acts rfl rfl rfl]) | rw [hret _ _ rfl rfl rfl]
  exact Steps.refl _
/-- what holds at the law's entry: the machine, the code, the tables' words (any of lw_tbl by 'hts w (by decide +kernel)'), the script of L ints xs at the cell b, what the Statement gives of the start (any of its parts by flat_of_before) -/
def lw_At (p : Program) (s : State) (m : MethodId) (meth : Method) (c : Code) (b L : Nat) (xs : Nat → Int32) : Prop :=
  p.tables.exec = Jvm.exec ∧ c.code = code ∧ meth.sig.returnType = ret ∧ c.maxLocals = 9 ∧ s.vm.findClass R_law = some m.cls ∧ (∀ w ∈ lw_tbl, w.before #[Value.ref b] s = true) ∧ va_X b L xs s s.heap ∧ b < s.heap.size ∧ meth.locks = false ∧ (Jvm.Cond.and given_1 narrow_1).before #[Value.ref b] s = true
/-! ===== the first world ===== -/
def X00 : ab_XX := fun o => match o with
  | 0 => fun j => match j with
    | 8 => -1
    | 9 => -1
    | _ => 0
  | 10 => fun j => match j with
    | 2 => -1
    | _ => 0
  | 13 => fun j => match j with
    | 7 => -1
    | 8 => -1
    | 14 => -1
    | _ => 0
  | _ => fun _ => 0
def w00 : ab_WW := (fun _ => 0, fun _ => 0)
theorem inv00 : Inv X00 := by
  have z : VV (fun _ => 0) := by
    refine ⟨⟨by decide, by decide, by decide⟩, fun w h => absurd h (Nat.not_lt_zero _), fun s h => absurd h (Nat.not_lt_zero _), fun w s _ _ => ⟨Nat.zero_le _, fun _ => rfl⟩, fun i h => absurd h (Nat.not_lt_zero _), fun s h => absurd h (Nat.not_lt_zero _), fun i j _ h => absurd h (Nat.not_lt_zero _)⟩
  refine ⟨⟨fun _ => 0, z, fun w h => absurd h (Nat.not_lt_zero _), fun j _ => rfl, ⟨rfl, rfl, rfl, fun _ _ _ _ => rfl, fun _ _ _ _ => rfl, fun _ _ _ _ => rfl, fun _ _ _ _ => rfl⟩⟩, ⟨0, 0, by decide, by decide, rfl, rfl, rfl, fun i h1 h2 => by omega⟩, ⟨rfl, fun h => absurd rfl h⟩, ⟨⟨0, Nat.zero_le _, rfl, rfl, fun j hj => by omega⟩, rfl, rfl⟩, rfl, rfl, rfl⟩
theorem ct_arrL (cA : ClassId) (n : Nat) : vp_cell cA (n, .inr (.inl (fun _ => 0))) = arrV cA n (fun _ => defaultValue .long) := rfl
theorem ct_arrD (cA : ClassId) (n : Nat) : vp_cell cA (n, .inr (.inr (.inr (.inl (fun _ => 0))))) = arrV cA n (fun _ => defaultValue .double) := rfl
/-- the end of a run of the law, said as the claim has it -/
theorem lw_fin {s : State} {below : List Frame} {a : Nat → Nat} {cI cJ cD : ClassId} {D : va_G} {h : ab_H} {c b : Nat} (hc : c ≤ 3125) (hs : 6 * c ≤ 129179) (t : State) (H : vx_MQ below (ab_Qc a cI cJ cD D (fun q : Nat => s.heap.size ≤ q) (.inl (some (.int (nI 1))), h, c)) (ab_XC a cI cJ cD D (fun q : Nat => s.heap.size ≤ q) (.inl (some (.int (nI 1))), h, c)) #[Value.ref b] s c (6 * c) (fun q : Nat => s.heap.size ≤ q) t) : lw_Z below #[Value.ref b] s t := by
  obtain ⟨o, h1, h2, h3⟩ := H
  rcases h3 with ⟨⟨v, e1, e2, _⟩, L, ⟨g1, g2, g3⟩, g4⟩ | ⟨q, _, E, ce, L, ⟨x, e1, _⟩, _⟩
  · cases e1
    have hs2 : s.sameButNew ({ t with vm := s.vm } : State) [] 3125 129179 := by
      obtain ⟨k1, k2, k3, k4, k5, k6⟩ := g3
      refine ⟨k1, k2, Nat.le_trans k3 (Nat.add_le_add_left hc _), k4, Nat.le_trans k5 hs, fun x y hx => ?_⟩
      obtain ⟨c2, m1, m2, m3, m4⟩ := k6 x y hx
      refine ⟨c2, m1, m2, m3, fun i _ => m4 i (fun hm => ?_)⟩
      have h9 := g4 _ hm
      have h10 := (Array.getElem?_eq_some_iff.mp hx).1
      exact absurd h9 (Nat.not_le.mpr h10)
    refine ⟨o, h1, h2, e2, ?_⟩
    exact lw_closed (d0 := s.drawn) (Drawn.sameBut.refl s.drawn lw_cs) g1 g2 hs2
  · cases e1
theorem W_mono {p : Program} {l : Launch} {e : Env} {R : Room} {s : State} {m : MethodId} {args : Array Value} {below : List Frame} {meth : Method} {c : Code} {H : Heap} {locs : List Loc} {cells slots : Nat} {Q Q2 : State → Prop} {g : JFrame} (h : ∀ t, Q t → Q2 t) (k : W p l e R s m args below meth c H locs cells slots Q g) : W p l e R s m args below meth c H locs cells slots Q2 g := fun T hT X => by
  obtain ⟨t, h1, h2⟩ := k T hT X
  exact ⟨t, h1, h t h2⟩
