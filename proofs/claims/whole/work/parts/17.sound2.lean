/-! ===== SOUND, by induction on the steps ===== -/
section ABZ
variable {p : Program} {l : Launch} {en : Env} {R : Room} {s : State} {m : MethodId} {args : Array Value} {below : List Frame} {meth : Method} {c : Code} {H : Heap} {locs : List Loc} {cells slots mc ms : Nat} {Q : State → Prop}
variable {A A1 : Nat → Prop} {pc : Nat} {a : Nat → Nat} {cI cJ cD : ClassId} {D : va_G} {ls : Array Slot} {st0 rest : List Value} {v1 : Array Value}
theorem ab_ofRun {r : ab_O} (hr : vx_Run p l en R s m args below meth c H locs cells slots mc ms (F0 m pc ls st0) rest (ab_Qc a cI cJ cD D A1 r v1) (ab_XC a cI cJ cD D A1 r) A1) (hS : va_S A s.heap H locs) (hA : ∀ q, A1 q → A q)
    (kk : ∀ (v : Option Value) (H1 : Heap) (locs1 : List Loc), r.1 = .inl v → va_P D ab_cl (ab_ws a cI cJ cD r.2.1) H1 → va_S A s.heap H1 locs1 → W p l en R s m args below meth c H1 locs1 (cells + mc) (slots + ms) Q (F0 m (pc + 3) ls ((v.map (ab_cv a)).toList ++ rest)))
    (kx : ∀ (x : Nat) (H1 : Heap) (locs1 : List Loc) (q9 : Addr) (ce : Cell), r.1 = .inr x → x < 6 → va_P D ab_cl (ab_ws a cI cJ cD r.2.1) H1 → va_S A s.heap H1 locs1 → H1[q9]? = some ce → ce.vm = .none → s.vm.findClass (ab_ex x) = some ce.cls → vx_W p l en R s m args below meth c H1 locs1 (cells + mc) (slots + ms) Q (F0 m pc ls rest) q9) :
    W p l en R s m args below meth c H locs cells slots Q (F0 m pc ls st0) := by
  intro T hT X
  rcases hr T hT X with ⟨v, st₀, t, T', L, h0, X', hL, e1, e2, ⟨v', hv, ho, hP, hF⟩, st⟩ | ⟨q, st₀, t, T', L, E, ce, h0, X', hL, e1, e2, ⟨x, hv, hx6, rfl, hP, hF⟩, hce, hcv, hcl, st⟩
  · have hvv : v = v'.map (ab_cv a) := by injection ho
    subst hvv
    obtain ⟨k1, k2, k3⟩ := vx_keep h0 e1 hS (fun q _ h => hA q h) hA hL hF
    obtain ⟨t2, a1, b1⟩ := kk v' T'.heap (locs ++ L) hv (by rw [e1]; exact hP) k3 T' rfl X'
    exact ⟨t2, st t2 a1, b1⟩
  · obtain ⟨k1, k2, k3⟩ := vx_keep h0 e1 hS (fun q _ h => hA q h) hA hL hF
    obtain ⟨t2, a1, b1⟩ := kx x T'.heap (locs ++ L) q ce hv hx6 (by rw [e1]; exact hP) k3 (by rw [e1]; exact hce) hcv hcl T' rfl X'
    exact ⟨t2, st.trans a1, b1⟩
end ABZ
theorem ab_cal_inv {k pc : Nat} {st : List Value} {k2 : Nat} {as rest : List Value} (hck : ab_chk k pc = true) (hkd : (ab_cd k pc).1 = 38 ∨ (ab_cd k pc).1 = 39) (hc : ab_cal ab_rc (ab_cd k pc) st = some (k2, as, rest)) :
    (∃ (x : Nat) (d : Nat) (as2 : List Value), decode (ab_by k) pc = .ok (.invokevirtual x, 3) ∧ k2 < 252 ∧ ab_sta k2 = false ∧ ab_np k2 = some as2.length ∧ Cond.methodLink (ab_own k) x (ab_y k2) ∈ ab_tbl ∧ as = .ref d :: as2 ∧ st = as2.reverse ++ .ref d :: rest ∧ ab_cls d = ab_rc k2) ∨
    (∃ (x : Nat), decode (ab_by k) pc = .ok (.invokestatic x, 3) ∧ k2 < 252 ∧ ab_sta k2 = true ∧ ab_np k2 = some as.length ∧ Cond.methodLink (ab_own k) x (ab_y k2) ∈ ab_tbl ∧ st = as.reverse ++ rest) := by
  obtain ⟨i, ln, hd, hok⟩ := ab_kd hck (by omega)
  generalize ab_cd k pc = e1 at hkd hc hok
  obtain ⟨kd, len, r, q, z, v⟩ := e1
  dsimp only at hkd
  rcases hkd with rfl | rfl
  · left
    obtain ⟨x, rfl, rfl, h1, h2, h3, h4⟩ := ab_inv38 hok
    replace hc : ab_a38 r q (ab_rc r) st = some (k2, as, rest) := hc
    unfold ab_a38 at hc
    split at hc
    · rename_i as2 d rest2 hp
      cases hb : Nat.beq (ab_cls d) (ab_rc r) with
      | false => rw [hb] at hc; cases hc
      | true =>
        rw [hb] at hc
        cases hc
        obtain ⟨g1, g2, g3, g4⟩ := ab_pop_some q st [] as2 _ hp
        have hl : as2.length = q := by simpa using g3
        have ht : as2.take q = as2 := by rw [← hl]; exact List.take_length
        rw [ht] at g2
        exact ⟨x, d, as2, hd, h1, h2, by rw [h3, hl], h4, rfl, g2, Nat.eq_of_beq_eq_true hb⟩
    · cases hc
  · right
    obtain ⟨x, rfl, rfl, h1, h2, h3, h4⟩ := ab_inv39 hok
    replace hc : ab_a39 r q st = some (k2, as, rest) := hc
    unfold ab_a39 at hc
    split at hc
    · rename_i as2 rest2 hp
      cases hc
      obtain ⟨g1, g2, g3, g4⟩ := ab_pop_some q st [] as _ hp
      have hl : as.length = q := by simpa using g3
      have ht : as.take q = as := by rw [← hl]; exact List.take_length
      rw [ht] at g2
      exact ⟨x, hd, h1, h2, by rw [h3, hl], h4, g2⟩
    · cases hc
set_option maxHeartbeats 4000000 in
theorem ab_sound {l : Launch} (hlst : l.stackTraces = false) (hck : ∀ k, k < 253 → ∀ pc, ab_chk k pc = true) (hmk : ∀ k, k < 252 → ab_mchk k = true) (S : Nat × (Nat → Int32)) : ∀ n, ab_snd l S n := by
  intro n
  induction n with
  | zero => intro k pc lv st h e r hr; simp [ab_run] at hr
  | succ n ih =>
    intro k pc lv st h e r hr hk p en R s m args below meth c A a cI cJ cD D H locs ls cx hRc hRs
    have hmono := ab_mono S _ _ _ _ _ _ _ _ hr
    have hck1 := hck k hk pc
    have hF := cx.1
    obtain ⟨hx, hb, hml, hrt, hown, hts, hlk, htab, hA, hE, hR, hAd, hlst2, hlaw⟩ := id hF
    have hP := cx.2.1
    have hS := cx.2.2.1
    have hl := cx.2.2.2
    -- what goes on from an abstract state
    have go : ∀ (t : ab_S), ab_run S n k t.1 t.2.1 t.2.2.1 t.2.2.2 e = some r → ab_K p l en R s m args below meth c e (6 * e) (vx_MQ below (ab_Qc a cI cJ cD D A r) (ab_XC a cI cJ cD D A r) args s r.2.2 (6 * r.2.2) A) A k a cI cJ cD D t := by
      intro t ht H2 locs2 ls2 hP2 hS2 hl2
      exact ih k t.1 t.2.1 t.2.2.1 t.2.2.2 e r ht hk p en R s m args below meth c A a cI cJ cD D H2 locs2 ls2 ⟨hF, hP2, hS2, hl2⟩ hRc hRs
    unfold ab_run at hr
    have key : ∀ (rr : ab_R), ab_at S k pc lv st h = some rr →
        (∀ g, rr = .inl g → ab_act S (Nat.beq k ab_law) (ab_cd k pc) pc lv st h = some g) ∧ (∀ j, rr = .inr (.inl j) → ((ab_cd k pc).1 = 38 ∨ (ab_cd k pc).1 = 39) ∧ ab_cal ab_rc (ab_cd k pc) st = some j) ∧
        (∀ z, rr = .inr (.inr z) → (41 ≤ (ab_cd k pc).1 ∧ (ab_cd k pc).1 ≤ 45) ∧ ab_end (ab_cd k pc) st = some z) := by
      intro rr hat
      unfold ab_at ab_any at hat
      cases h1 : (Nat.beq (ab_cd k pc).1 38 || Nat.beq (ab_cd k pc).1 39) with
      | true =>
        rw [h1] at hat
        simp only [cond_true] at hat
        split at hat
        · rename_i j hj
          cases hat
          simp only [Bool.or_eq_true] at h1
          refine ⟨fun g hg => (by cases hg), fun j2 hj2 => ?_, fun z hz => (by cases hz)⟩
          cases hj2
          exact ⟨h1.imp Nat.eq_of_beq_eq_true Nat.eq_of_beq_eq_true, hj⟩
        · cases hat
      | false =>
        rw [h1] at hat
        simp only [cond_false] at hat
        cases h2 : (Nat.ble 41 (ab_cd k pc).1 && Nat.ble (ab_cd k pc).1 45) with
        | true =>
          rw [h2] at hat
          simp only [cond_true] at hat
          split at hat
          · rename_i z hz
            cases hat
            simp only [Bool.and_eq_true] at h2
            refine ⟨fun g hg => (by cases hg), fun j hj => (by cases hj), fun z2 hz2 => ?_⟩
            cases hz2
            exact ⟨⟨Nat.le_of_ble_eq_true h2.1, Nat.le_of_ble_eq_true h2.2⟩, hz⟩
          · cases hat
        | false =>
          rw [h2] at hat
          simp only [cond_false] at hat
          split at hat
          · rename_i g hg
            cases hat
            refine ⟨fun g2 hg2 => ?_, fun j hj => (by cases hj), fun z hz => (by cases hz)⟩
            cases hg2
            exact hg
          · cases hat
    split at hr
    · cases hr
    · rename_i t hat
      exact ab_step cx hck1 (by omega) (by omega) ((key _ hat).1 _ rfl) (go t hr)
    · rename_i t t2 hat
      exact ab_step cx hck1 (by omega) (by omega) ((key _ hat).1 _ rfl) ⟨fun _ => go t hr, fun h => (by cases h)⟩
    · cases hr
    · rename_i t2 t hat
      exact ab_step cx hck1 (by omega) (by omega) ((key _ hat).1 _ rfl) ⟨fun h => (by cases h), fun _ => ⟨t, rfl, go t hr⟩⟩
    · rename_i k2 as rest hat
      obtain ⟨hkd, hcal⟩ := (key _ hat).2.1 _ rfl
      cases hm : ab_may k k2 as rest with
      | false => rw [hm] at hr; cases hr
      | true =>
        rw [hm] at hr
        simp only [cond_true] at hr
        unfold ab_may at hm
        simp only [Bool.and_eq_true] at hm
        obtain ⟨⟨hm1, hm2⟩, hm3⟩ := hm
        have hm1 : ab_dep k2 < ab_dep k := Nat.le_of_ble_eq_true hm1
        have hm2 : ab_cat rest ≤ 8 := Nat.le_of_ble_eq_true hm2
        have hm3 : ab_cat as ≤ ab_ml k2 := Nat.le_of_ble_eq_true hm3
        have hcatr : ((rest.map (ab_cv a)).map fun v => v.category).sum ≤ 8 := by rw [ab_cat_cv]; exact hm2
        -- the callee's run
        cases hr2 : ab_run S n k2 0 (lv_args 0 as) [] h 0 with
        | none => rw [hr2] at hr; cases hr
        | some r2 =>
          have hk2 : k2 < 252 := by
            rcases ab_cal_inv hck1 hkd hcal with ⟨x, d, as2, -, h1, -⟩ | ⟨x, -, h1, -⟩
            · exact h1
            · exact h1
          have hmk2 := hmk k2 hk2
          obtain ⟨m1, m2, m3, m4, m5, m6, m7, m8⟩ := ab_mw hmk2
          -- the callee's cells
          have hA1 : ∀ q, va_A (ab_ws a cI cJ cD h) H.size q → A q := by
            rintro q (⟨i, w, hq⟩ | hq)
            · exact (hAd.D cI cJ cD h).2 i _ hq
            · exact hA q (Nat.le_trans hS.1 hq)
          have hAd1 : ab_Ad a (va_A (ab_ws a cI cJ cD h) H.size) := ⟨hAd.1, fun i hi => Or.inl ⟨i, _, ab_ws_at a cI cJ cD h hi⟩⟩
          have hM := ab_met hlst ih hk2 hmk2 hr2 hm3 hAd1 (cI := cI) (cJ := cJ) (cD := cD) (D := D) (sz := H.size) (fun q hq => Or.inr hq)
          have hpre : ∀ U : State, U.heap = H → s.WarmedH U.vm → ab_Pc a cI cJ cD D (va_A (ab_ws a cI cJ cD h) H.size) h as H.size (as.map (ab_cv a)).toArray U := fun U hU hW => ⟨rfl, by rw [hU], by rw [hU]; exact hP, hE.call hS hU hW hA1⟩
          have hroom : (ab_rm k2 r2).frames + 1 ≤ R.frames ∧ 8 + (ab_ml k2 + 11) + (ab_rm k2 r2).locals ≤ R.locals := by
            have g1 := hR.1
            have g2 := hR.2
            refine ⟨by show ab_dep k2 + 6 + 1 ≤ _; omega, by show 8 + (ab_ml k2 + 11) + (60 * ab_dep k2 + 100) ≤ _; omega⟩
          have hcells : e + r2.2.2 ≤ r.2.2 := by
            obtain ⟨o2, h2, e2⟩ := r2
            rw [hr2] at hr
            cases o2 with
            | inl v => exact ab_mono S _ _ _ _ _ _ _ _ hr
            | inr x =>
              dsimp only at hr
              cases hh : (ab_hh k).isEmpty with
              | true => rw [hh] at hr; cases hr; exact Nat.le_refl _
              | false =>
                rw [hh] at hr
                simp only [cond_false] at hr
                split at hr
                · cases hr
                · exact ab_mono S _ _ _ _ _ _ _ _ hr
          have hfit : e + r2.2.2 ≤ R.cells ∧ 6 * e + 6 * r2.2.2 ≤ R.slots := ⟨by omega, by omega⟩
          have hS1 : CallFix p m c (ab_by k) (ab_ml k) s args ab_tbl (ab_own k) := ⟨hx, hb, hml, hown, hts⟩
          -- the run of the call
          have hrun : vx_Run p l en R s m args below meth c H locs e (6 * e) r2.2.2 (6 * r2.2.2) (F0 m pc ls (st.map (ab_cv a))) (rest.map (ab_cv a)) (ab_Qc a cI cJ cD D (va_A (ab_ws a cI cJ cD h) H.size) r2 (as.map (ab_cv a)).toArray) (ab_XC a cI cJ cD D (va_A (ab_ws a cI cJ cD h) H.size) r2) (va_A (ab_ws a cI cJ cD h) H.size) := by
            rcases ab_cal_inv hck1 hkd hcal with ⟨x, d, as2, hd, -, hst, hnp, hw, rfl, rfl, hcls⟩ | ⟨x, hd, -, hst, hnp, hw, rfl⟩
            · obtain ⟨w1, w2, w3, w4, w5⟩ := m5 hst
              have hd9 : ab_head k2 = .code (ab_y k2) (ab_by k2) (ab_ml k2) (ab_rt k2) := by unfold ab_head; rw [w3]; rfl
              have cb : CallB R s args (ab_own k) x (ab_y k2) (ab_by k2) (ab_ml k2) (ab_rt k2) (ab_head k2 :: ab_tbl) (ab_rm k2 r2) r2.2.2 (6 * r2.2.2) as2.length :=
                callB_of as2.length hts (ab_goodIn hmk2) (by rw [hd9]) rfl rfl (hts _ m3) (hts _ hw) ⟨m6.1, m6.2, hnp⟩ hroom
              have hcl7 : ab_cls d < 7 := by rw [hcls]; exact w5
              have hat2 := ab_ws_at a cI cJ cD h (ab_cls_lt hcl7)
              rw [ab_ce_obj a cI cJ cD h hcl7] at hat2
              have hrecv := va_recv hE.1 hP (ab_cl_at _ hcl7) hat2
              have hnm : (ab_cl.getD (ab_cls d) ("", TX0, 0)).1 = ab_own k2 := by
                have g1 := w4
                rw [← hcls, ab_cl_at _ hcl7] at g1
                exact Option.some.inj g1
              rw [hnm] at hrecv
              have hgo := vx_runV (e := en) (C := ab_own k2) (b := a d) (As := as2.map (ab_cv a)) (rest := rest.map (ab_cv a)) (g := F0 m pc ls ((as2.reverse ++ .ref d :: rest).map (ab_cv a))) (cells := e) (slots := 6 * e) (locs := locs) (below := below) (meth := meth) (l := l) hS1 hM ⟨cb, hts _ w1, hts _ w2⟩ ⟨ab_Pc_blind, hrecv, hpre⟩ rfl (by simp) hl.1 (by simp [ab_cv]) (lv_room hcatr) hd hfit
              exact hgo
            · cases hh2 : (ab_hh k2).isEmpty with
              | true =>
                have hd9 : ab_head k2 = .code (ab_y k2) (ab_by k2) (ab_ml k2) (ab_rt k2) := by unfold ab_head; rw [hh2]; rfl
                have cb : CallB R s args (ab_own k) x (ab_y k2) (ab_by k2) (ab_ml k2) (ab_rt k2) (ab_head k2 :: ab_tbl) (ab_rm k2 r2) r2.2.2 (6 * r2.2.2) as.length :=
                  callB_of as.length hts (ab_goodIn hmk2) (by rw [hd9]) rfl rfl (hts _ m3) (hts _ hw) ⟨m6.1, m6.2, hnp⟩ hroom
                exact vx_runS (As := as.map (ab_cv a)) (rest := rest.map (ab_cv a)) (g := F0 m pc ls ((as.reverse ++ rest).map (ab_cv a))) hS1 hM ⟨cb, hts _ (m4 hst)⟩ ⟨ab_Pc_blind, hpre⟩ rfl (by simp) hl.1 (by simp) (lv_room hcatr) hd hfit
              | false =>
                have hd9 : ab_head k2 = .codeWith (ab_y k2) (ab_by k2) (ab_ml k2) (ab_rt k2) (ab_ht k2) := by unfold ab_head; rw [hh2]; rfl
                have cb : vx_CSW R s args (ab_own k) x (ab_y k2) (ab_by k2) (ab_ml k2) (ab_rt k2) (ab_ht k2) (ab_head k2 :: ab_tbl) (ab_rm k2 r2) r2.2.2 (6 * r2.2.2) as.length :=
                  vx_cwSW as.length hts (fun w hw2 => by
                    unfold va_wsS at hw2
                    rcases List.mem_append.mp hw2 with hw2 | hw2
                    · refine ab_tbl_good w ?_
                      rcases List.mem_cons.mp hw2 with rfl | hw2
                      · exact hw
                      · rcases List.mem_cons.mp hw2 with rfl | hw2
                        · exact m4 hst
                        · rcases List.mem_cons.mp hw2 with rfl | hw2
                          · exact m3
                          · cases hw2
                    · exact ab_goodIn hmk2 w hw2) (by rw [hd9]) rfl rfl ⟨m6.1, m6.2, hnp⟩ hroom
                exact vx_runSX (As := as.map (ab_cv a)) (rest := rest.map (ab_cv a)) (g := F0 m pc ls ((as.reverse ++ rest).map (ab_cv a))) hS1 hM cb ⟨ab_Pc_blind, hpre⟩ rfl (by simp) hl.1 (by simp) (lv_room hcatr) hd hfit
          rw [hr2] at hr
          obtain ⟨o2, h2, e2⟩ := r2
          have hsl : 6 * e + 6 * e2 = 6 * (e + e2) := by omega
          refine ab_ofRun hrun hS hA1 (fun v H1 locs1 hv hP1 hS1 => ?_) (fun x H1 locs1 q9 ce hv hx6 hP1 hS1 hce hcv hcl => ?_)
          · dsimp only at hv hr hP1 ⊢
            subst hv
            dsimp only at hr
            rw [hsl]
            have h9 := ih k (pc + 3) lv (v.toList ++ rest) h2 (e + e2) r hr hk p en R s m args below meth c A a cI cJ cD D H1 locs1 ls ⟨hF, hP1, hS1, hl⟩ hRc hRs
            have hst9 : (v.map (ab_cv a)).toList ++ rest.map (ab_cv a) = (v.toList ++ rest).map (ab_cv a) := by cases v <;> simp
            rw [hst9]
            exact h9
          · dsimp only at hv hr hP1 ⊢
            subst hv
            dsimp only at hr
            rw [hsl]
            cases hh : (ab_hh k).isEmpty with
            | true =>
              rw [hh] at hr
              cases hr
              have htl : c.exceptionTable.toList = [] := by
                rw [htab]
                unfold ab_ht
                rw [List.isEmpty_iff.mp hh]
                rfl
              exact vx_out (E := ab_ex x) (fun y hy => by rw [htl] at hy; cases hy) hlk hce hcv hcl (fun t ht _ => ⟨x, rfl, hx6, rfl, by rw [ht]; exact hP1, hS1.F ht⟩) hS1.2.2 (Nat.le_refl _) (Nat.le_refl _)
            | false =>
              rw [hh] at hr
              simp only [cond_false] at hr
              split at hr
              · cases hr
              · rename_i p2 i2 hhd
                obtain ⟨pre, y, suf, e1, e3, e4, e5, e6, e7⟩ := ab_hd_some _ _ _ _ _ hhd
                have hk3 : k < 252 := by
                  rcases Nat.lt_or_ge k 252 with q | q
                  · exact q
                  · have : k = 252 := by omega
                    subst this
                    have : (ab_hh 252).isEmpty = true := by decide +kernel
                    rw [this] at hh
                    cases hh
                obtain ⟨-, -, -, -, -, -, -, n8⟩ := ab_mw (hmk k hk3)
                obtain ⟨y1, y2, y3, y4, y5, y6, y7⟩ := n8 y (by rw [e1]; simp)
                have hsplit : c.exceptionTable.toList = pre.map (fun z => (⟨z.1.1, z.1.2.1, z.1.2.2.1, z.1.2.2.2⟩ : ExceptionTableEntry)) ++ (⟨y.1.1, y.1.2.1, y.1.2.2.1, y.1.2.2.2⟩ : ExceptionTableEntry) :: suf.map (fun z => (⟨z.1.1, z.1.2.1, z.1.2.2.1, z.1.2.2.2⟩ : ExceptionTableEntry)) := by
                  rw [htab]
                  unfold ab_ht tableOf
                  rw [e1]
                  simp [Function.comp_def]
                have hcast : (Cond.castable (ab_ex x) (ab_ex x)).before args s = true := by
                  have hb9 : ∀ x, x < 6 → Cond.castable (ab_ex x) (ab_ex x) ∈ ab_bad := by
                    intro x hx
                    unfold ab_bad
                    exact List.mem_append_left _ (List.mem_map.mpr ⟨x, List.mem_range.mpr hx, rfl⟩)
                  exact va_Nw.use rfl (hE.2.2.2.2.1 _ (hb9 x hx6))
                refine vx_catch (own := ab_own k) (name := ab_ex x) (E := ab_ex x) (ce := ce) hown _ _ _ hsplit (fun z hz => ?_) (by simp [covers, e5, e6]) y2 (by rw [← e3]; exact hts _ y3) hcast hce hcv hcl ?_
                · obtain ⟨w, hw, rfl⟩ := List.mem_map.mp hz
                  rcases e7 w hw with g | g
                  · left
                    simp only [covers, Bool.and_eq_false_iff, decide_eq_false_iff_not]
                    by_cases g1 : w.1.1 ≤ pc
                    · exact Or.inr (fun g2 => g ⟨g1, g2⟩)
                    · exact Or.inl g1
                  · right
                    obtain ⟨w1, w2, w3, -⟩ := n8 w (by rw [e1]; simp [hw])
                    exact ⟨w2, ab_ex w.2.1, hts _ w3, hE.2.2.2.2.2 x w.2.1 hx6 w1 (Ne.symm g)⟩
                · -- the handler's store
                  have hck2 := hck k hk y.1.2.2.1
                  obtain ⟨i, ln, hd, hok⟩ := ab_kd hck2 (by omega)
                  obtain ⟨q1, q2⟩ := Prod.mk.inj e4
                  generalize hcd : ab_cd k y.1.2.2.1 = e1 at y4 y5 y6 y7 hok
                  obtain ⟨kd, len, r3, q3, z3, v3⟩ := e1
                  dsimp only at y4 y5 y6 y7
                  subst y4; subst y6
                  obtain ⟨hi, hlen, hrl⟩ := ab_inv3 hok
                  have h9 : ∀ ls' : Array Slot, lv_has ls' (ab_ml k) ((r3, Value.ref q9) :: ab_cl1 a (ab_dr r3 lv)) → W p l en R s m args below meth c H1 locs1 (e + e2) (6 * (e + e2)) (vx_MQ below (ab_Qc a cI cJ cD D A r) (ab_XC a cI cJ cD D A r) args s r.2.2 (6 * r.2.2) A) (F0 m (y.1.2.2.1 + len) ls' []) := by
                    intro ls' hl'
                    rw [y7, q1]
                    have hl2 : lv_has ls' (ab_ml k) (ab_cl1 a (ab_dr r3 lv)) := ⟨hl'.1, hl'.2.1, fun q hq => hl'.2.2 q (List.mem_cons_of_mem _ hq)⟩
                    rw [y5, q2] at hl2
                    exact ih k p2 (ab_dr i2 lv) [] h2 (e + e2) r hr hk p en R s m args below meth c A a cI cJ cD D H1 locs1 ls' ⟨hF, hP1, hS1, hl2⟩ hRc hRs
                  rcases hi with ⟨n4, rfl, rfl, hn4⟩ | ⟨rfl, rfl⟩
                  · subst hlen
                    exact lv_astore_n hx hb hd hn4.symm hl hrl (by rw [ab_dr_cv]) h9
                  · subst hlen
                    exact lv_astore hx hb hd hl hrl (by rw [ab_dr_cv]) h9
    · rename_i v hat
      obtain ⟨⟨hk1, hk2⟩, hz⟩ := (key _ hat).2.2 _ rfl
      cases hr
      exact ab_ret cx hck1 hk1 hk2 hz
    · rename_i x hat
      obtain ⟨⟨hk1, hk2⟩, hz⟩ := (key _ hat).2.2 _ rfl
      cases hr
      exact ab_throw cx hck1 hk1 hk2 hz hRc hRs
    · cases hr
