/-! RANK, called by the law -/
theorem ok_Ls_rank (l : Launch) : mm_Pok l RX11 6 p_Ls_rank := (mm_Pok_of (List.forall_mem_cons.mpr ⟨k_X11_77, (List.forall_mem_cons.mpr ⟨k_X11_108, (List.forall_mem_cons.mpr ⟨k_X11_245, (fun _ h => absurd h List.not_mem_nil)⟩)⟩)⟩) (List.forall_mem_cons.mpr ⟨v_Rw_hasCome l q_960 (by decide), (List.forall_mem_cons.mpr ⟨v_Ls_isIndex l q_974 (by decide), (List.forall_mem_cons.mpr ⟨v_St_readable l q_1343 (by decide), (List.forall_mem_cons.mpr ⟨v_St_codeOf l q_1359 (by decide), (fun _ h => absurd h List.not_mem_nil)⟩)⟩)⟩)⟩) (fun _ h => absurd h List.not_mem_nil) (fun _ h => absurd h List.not_mem_nil))
set_option maxRecDepth 100000 in
theorem cd_Ls_rank : p_Ls_rank.1.all (mm_okI cX11_rank 7 p_Ls_rank) = true := by decide +kernel
abbrev xPc (D : va_G) (tA : Nat → ClassId) (φ : Nat → Nat) (z : Nat) (h : mm_H) (as : List Value) : Array Value → State → Prop := va_Pc (as.map (mm_v φ)) (fun U => (mm_R D tA φ z h U U.heap ∧ mm_K D tA U) ∧ xR z U)
theorem xPc_bl {D : va_G} {tA : Nat → ClassId} {φ : Nat → Nat} {z : Nat} {h : mm_H} {as : List Value} : FrameBlind (xPc D tA φ z h as) := by
  intro a U g mk hq
  obtain ⟨q0, ⟨q1, q2⟩, q3⟩ := hq
  exact ⟨q0, ⟨mm_R.moved (s := U) (u := U.calling g mk a) (Vm.Alike.refl U.vm) q1.2.2.2.2 q1, mm_K.same (s := U) (U := U.calling g mk a) rfl q2⟩, xR.same (s := U) (U := U.calling g mk a) rfl rfl q3⟩
theorem xPc_pre {D : va_G} {tA : Nat → ClassId} {φ : Nat → Nat} {z : Nat} {h : mm_H} {as : List Value} {s : State} {H : Heap} {locs : List Loc} (hK : mm_K D tA s) (hx : xR z s) (hR : mm_R D tA φ z h s H) (hS : va_S (mm_A z) s.heap H locs) : ∀ U : State, U.heap = H → s.WarmedH U.vm → xPc D tA φ z h as (as.map (mm_v φ)).toArray U := by
  intro U hU hW
  refine ⟨rfl, ⟨?_, mm_K.warm hW hK⟩, hx.at hW (by rw [hU]; exact hS.2.1)⟩
  rw [hU]
  exact hR.moved hW.alike (by rw [hU]; exact Nat.le_trans hR.2.2.2.2 hS.1)
/-- where no row is there: it throws -/
theorem c_rank_f (l : Launch) (hl : l.stackTraces = false) (D : va_G) (tA : Nat → ClassId) (φ : Nat → Nat) (z : Nat) {h : mm_H} {x y : Int32} (hv : mm_one p_Ls_rank kNon kOne 0 [.ref 1, .int x, .int y] [] h = some (43, [], [], h)) :
    vx_Met l yX11_rank (Cond.code yX11_rank cX11_rank 7 (some .int) :: mm_tbl) (mx_rm 6 1 6) (xPc D tA φ z h [.ref 1, .int x, .int y]) (va_Qi (S := Unit) (fun _ _ => False) (fun _ _ => True) (mm_A z)) (vx_X (S := Unit) (fun _ => True) (fun E _ t => E = xN ∧ mm_R D tA φ z h t t.heap) (mm_A z)) 1 6 (mm_A z) := by
  refine vx_ofW (cc := cX11_rank) (maxL := 7) (ret := some .int) (by decide) rfl ?_
  intro p e s m args below meth c s₁ B hml hno hpre
  obtain ⟨rfl, ⟨hR, hK⟩, hx⟩ := hpre
  have hts0 := atoms_spec (ws := Cond.code yX11_rank cX11_rank 7 (some .int) :: mm_tbl) B.pre
  have hts : ∀ w ∈ mm_tbl, w.before (([.ref 1, .int x, .int y] : List Value).map (mm_v φ)).toArray s = true := fun w hw => hts0 w (List.mem_cons_of_mem _ hw)
  have hown : s.vm.findClass RX11 = some m.cls := findClass_of_methodNamed B.named
  have X : mm_X p s m (([.ref 1, .int x, .int y] : List Value).map (mm_v φ)).toArray c cX11_rank RX11 7 D tA := ⟨B.exec, B.bytes, hml, hown, hts, hK⟩
  have hlocks := B.notSynchronized
  have hS : va_S (mm_A z) s.heap s.heap [] := va_S.rf
  have hZ := mm_one_ok (p := p) (l := l) (e := e) (R := (headSpec (Cond.code yX11_rank cX11_rank 7 (some .int) :: mm_tbl) (mx_rm 6 1 6)).room) (below := below) (meth := meth) (cells := 0) (slots := 0) (φ := φ) (z := z)
    (Q := vx_MQ below (va_Qi (S := Unit) (fun _ _ => False) (fun _ _ => True) (mm_A z)) (vx_X (S := Unit) (fun _ => True) (fun E _ t => E = xN ∧ mm_R D tA φ z h t t.heap) (mm_A z)) (([.ref 1, .int x, .int y] : List Value).map (mm_v φ)).toArray s 1 6 (mm_A z))
    X mm_cls_ok mm_sys_ok (ok_Ls_rank l) ⟨Nat.le_refl _, Nat.le_refl _⟩ ⟨Nat.zero_le _, Nat.zero_le _⟩ (fun q hq => List.all_eq_true.mp cd_Ls_rank q hq) (kr := kNon) (kc := kOne) (res := (43, [], [], h)) (fun r h hh => by cases hh) (fun pc vs st h1 ix hi hh => by
      cases hh
      intro H locs ls hR1 hS1 hl1
      exact x_throw B.exec B.bytes hl hown (z := z) hts hx hS1 (hl1.1.trans hml.symm) hno (Nat.le_of_ble_eq_true rfl) (Nat.le_of_ble_eq_true rfl) (Nat.le_refl _) (Nat.le_refl _) hlocks
        (fun t hal h1 h2 => ⟨(), trivial, ⟨rfl, (hR1.grow h2).moved hal (Nat.le_trans (Nat.le_trans hR.2.2.2.2 hS1.1) h1)⟩, ⟨Nat.le_trans hS1.1 h1, fun q g1 g2 => (h2 q (Nat.lt_of_lt_of_le g1 hS1.1)).trans (hS1.2.1 q g1 g2)⟩⟩)
        (fun q hq => hS1.2.2 q hq) (Nat.le_refl _) (Nat.le_refl _)) (ix := [0, 1, 2]) rfl hv
  have hlv := lv_entry (([.ref 1, .int x, .int y] : List Value).map (mm_v φ)) (n := 7) (Nat.le_of_ble_eq_true rfl)
  rw [lg_entry_eq]
  exact hZ s.heap [] _ hR hS hlv
/-- the law's own rank -/
def p_Lr : mm_P := ([(0, .aload_n 3, 1, 0), (1, .iconst 0, 1, 0), (2, .aload_n 0, 1, 0), (3, .iload_n 1, 1, 0), (4, .iload_n 2, 1, 0), (5, .invokevirtual 7, 3, 0), (8, .i2l, 1, 0), (9, .lastore, 1, 0), (10, .goto 7, 3, 0), (17, .iconst 0, 1, 0), (18, .ireturn, 1, 0)], [], [(7, 0, 2, 1, f_Ls_rank)], [], [], [(0, [0, 1, 2, 3])], [], 2)
theorem ok_Lr (l : Launch) : mm_Pok l RL 8 p_Lr := mm_Pok_of (fun _ h => absurd h List.not_mem_nil) (List.forall_mem_cons.mpr ⟨v_Ls_rank l q_1605 (by decide), fun _ h => absurd h List.not_mem_nil⟩) (fun _ h => absurd h List.not_mem_nil) (fun _ h => absurd h List.not_mem_nil)
theorem cd_Lr : p_Lr.1.all (mm_okI cL_rank 5 p_Lr) = true := by decide +kernel
theorem o_Lr {ρ : Type} (kr : Option Value → mm_H → Option ρ) (kc : Nat → List Value → List Value → mm_H → Option ρ) (v0 : Nat) (v1 v2 : Int32) (v3 : Nat) (h : mm_H) : mm_one p_Lr kr kc 0 [.ref v0, .int v1, .int v2, .ref v3] [] h =
  mm_ci (f_Ls_rank [.ref v0, .int v1, .int v2] h) fun x h1 =>
  (mm_sl h1 v3 0 x.toInt64).bind fun h2 =>
  kr (some (.int 0)) h2 := rfl
abbrev wsLr : List Cond := Cond.codeWith yL_rank cL_rank 5 (some .int) [(0, 10, 13, 13)] :: mm_tbl
abbrev lrQ (D : va_G) (tA : Nat → ClassId) (φ : Nat → Nat) (z : Nat) (r : Int32) (h' : mm_H) : Array Value → State → Outcome → State → Prop := fun _ st o t => o = .returned (some (.int r)) ∧ mm_R D tA φ z h' t t.heap ∧ va_F (mm_A z) st t
theorem Met_ofWH {l : Launch} {y : MethodName} {ws ws' : List Cond} {rm : Room} {Pc : Array Value → State → Prop} {Qc : Array Value → State → Outcome → State → Prop} {mc ms : Nat} {free : Addr → Prop} {cc : ByteArray} {maxL : Nat} {ret : Option FieldType} {hh : List (Nat × Nat × Nat × Nat)}
    (hy : plainName y.cls = true) (hw : ws = Cond.codeWith y cc maxL ret hh :: ws')
    (body : ∀ p e s m args below meth c s₁, BodyLoose p l y (headSpec ws rm) cc maxL ret e s m args below meth c s₁ → c.maxLocals = maxL → Pc args s →
      W p l e (headSpec ws rm).room s m args below meth c s.heap [] 0 0 (MQ below Qc args s mc ms free) (entryFrame m args maxL)) : Met l y ws rm Pc Qc mc ms free := by
  refine MetFree.of_bodyS (code := cc) (maxLocals := maxL) (ret := ret) hy ?_ ?_
  · intro args s m h hn
    obtain ⟨m9, meth, c, hn9, h1, h2, h3, h4, -, h5, h6, -⟩ := Cond.codeWith_spec (atoms_spec (ws := ws) h _ (by rw [hw]; exact List.mem_cons_self))
    cases hn.symm.trans hn9
    exact ⟨meth, c, h1, h2, h3, h4, h5, h6⟩
  · intro p e s m args below meth c s₁ B hml hP _
    have hh0 : s₁.heap = s.heap := by rw [B.state]; rfl
    obtain ⟨t, a1, o, b1, b2, b3⟩ := body p e s m args below meth c s₁ B hml hP s₁ hh0 (Stand.of_body B)
    exact ⟨t, o, a1, b1, b2, ⟨b3.1, b3.2⟩⟩
/-- rank is there -/
theorem c_lr_t (l : Launch) (D : va_G) (tA : Nat → ClassId) (φ : Nat → Nat) (z : Nat) {h h1 h2 : mm_H} {x y r : Int32} (hv : f_Ls_rank [.ref 1, .int x, .int y] h = some (some (.int r), h1)) (hs : mm_sl h1 634 0 r.toInt64 = some h2) :
    Met l yL_rank wsLr (mx_rm 8 1 6) (xPc D tA φ z h [.ref 1, .int x, .int y, .ref 634]) (lrQ D tA φ z 0 h2) 1 6 (mm_A z) := by
  refine Met_ofWH (cc := cL_rank) (maxL := 5) (ret := some .int) (by decide) rfl ?_
  intro p e s m args below meth c s₁ B hml hpre
  obtain ⟨rfl, ⟨hR, hK⟩, hx⟩ := hpre
  have hts0 := atoms_spec (ws := wsLr) B.pre
  have hts : ∀ w ∈ mm_tbl, w.before (([.ref 1, .int x, .int y, .ref 634] : List Value).map (mm_v φ)).toArray s = true := fun w hw => hts0 w (List.mem_cons_of_mem _ hw)
  have hown : s.vm.findClass RL = some m.cls := findClass_of_methodNamed B.named
  have X : mm_X p s m (([.ref 1, .int x, .int y, .ref 634] : List Value).map (mm_v φ)).toArray c cL_rank RL 5 D tA := ⟨B.exec, B.bytes, hml, hown, hts, hK⟩
  have hlocks := B.notSynchronized
  have hr := B.returns
  have hS : va_S (mm_A z) s.heap s.heap [] := va_S.rf
  have hv2 : mm_one p_Lr (fun r h => some (r, h)) (fun _ _ _ _ => none) 0 [.ref 1, .int x, .int y, .ref 634] [] h = some (some (.int 0), h2) := by
    rw [o_Lr, hv, ci_some, hs]
    rfl
  have hZ := mm_one_ok (p := p) (l := l) (e := e) (R := (headSpec wsLr (mx_rm 8 1 6)).room) (below := below) (meth := meth) (cells := 0) (slots := 0) (φ := φ) (z := z)
    (Q := MQ below (lrQ D tA φ z 0 h2) (([.ref 1, .int x, .int y, .ref 634] : List Value).map (mm_v φ)).toArray s 1 6 (mm_A z))
    X mm_cls_ok mm_sys_ok (ok_Lr l) ⟨Nat.le_refl _, Nat.le_refl _⟩ ⟨Nat.zero_le _, Nat.zero_le _⟩ (fun q hq => List.all_eq_true.mp cd_Lr q hq) (kr := fun r h => some (r, h)) (kc := fun _ _ _ _ => none) (res := (some (.int 0), h2)) (fun r h3 hh => by
      cases hh
      intro H locs ls pc hR1 hS1 hcase
      rcases hcase with ⟨c1, -, -⟩ | ⟨x0, c1, c2, -⟩
      · cases c1
      · cases c1
        refine W.widen (k := 1) (n := 6) (by decide) (by decide) ?_
        exact W.iret B.exec B.bytes hr (fun t ht hW => ⟨rfl, by rw [ht]; exact hR1.moved hW.alike (by rw [ht]; exact Nat.le_trans hR.2.2.2.2 hS1.1), hS1.F ht⟩) (fun q hq => hS1.2.2 q hq) c2) (fun pc vs st h3 ix hi hh => by cases hh) (ix := [0, 1, 2, 3]) rfl hv2
  have hlv := lv_entry (([.ref 1, .int x, .int y, .ref 634] : List Value).map (mm_v φ)) (n := 5) (Nat.le_of_ble_eq_true rfl)
  rw [lg_entry_eq]
  exact hZ s.heap [] _ hR hS hlv
theorem dq_5 : decode cL_rank 5 = .ok (.invokevirtual 7, 3) := by decide +kernel
theorem dq_13 : decode cL_rank 13 = .ok (.astore 4, 2) := by decide +kernel
theorem dq_15 : decode cL_rank 15 = .ok (.iconst 1, 1) := by decide +kernel
theorem dq_16 : decode cL_rank 16 = .ok (.ireturn, 1) := by decide +kernel
set_option maxHeartbeats 1000000 in
/-- rank is not there: what is thrown is caught -/
theorem c_lr_f (l : Launch) (hl : l.stackTraces = false) (D : va_G) (tA : Nat → ClassId) (φ : Nat → Nat) (z : Nat) {h : mm_H} {fs : List Value} {x y : Int32} (hob : h 1 = some (.inr (11, fs))) (hv : mm_one p_Ls_rank kNon kOne 0 [.ref 1, .int x, .int y] [] h = some (43, [], [], h)) :
    Met l yL_rank wsLr (mx_rm 8 1 6) (xPc D tA φ z h [.ref 1, .int x, .int y, .ref 634]) (lrQ D tA φ z 1 h) 1 6 (mm_A z) := by
  refine Met_ofWH (cc := cL_rank) (maxL := 5) (ret := some .int) (by decide) rfl ?_
  intro p e s m args below meth c s₁ B hml hpre
  obtain ⟨rfl, ⟨hR, hK⟩, hx⟩ := hpre
  have hts0 := atoms_spec (ws := wsLr) B.pre
  have hts : ∀ w ∈ mm_tbl, w.before (([.ref 1, .int x, .int y, .ref 634] : List Value).map (mm_v φ)).toArray s = true := fun w hw => hts0 w (List.mem_cons_of_mem _ hw)
  have hown : s.vm.findClass RL = some m.cls := findClass_of_methodNamed B.named
  have X : mm_X p s m (([.ref 1, .int x, .int y, .ref 634] : List Value).map (mm_v φ)).toArray c cL_rank RL 5 D tA := ⟨B.exec, B.bytes, hml, hown, hts, hK⟩
  have hlocks := B.notSynchronized
  have hr := B.returns
  have htab := vx_table (x := yL_rank) B (hts0 _ List.mem_cons_self)
  have hS : va_S (mm_A z) s.heap s.heap [] := va_S.rf
  have hcd : ∀ q ∈ p_Lr.1, mm_okI cL_rank 5 p_Lr q = true := fun q hq => List.all_eq_true.mp cd_Lr q hq
  have hRo : 8 ≤ (headSpec wsLr (mx_rm 8 1 6)).room.frames ∧ 40 * 8 ≤ (headSpec wsLr (mx_rm 8 1 6)).room.locals := ⟨Nat.le_refl _, Nat.le_refl _⟩
  have k5 : mm_Z p l e (headSpec wsLr (mx_rm 8 1 6)).room s m (([.ref 1, .int x, .int y, .ref 634] : List Value).map (mm_v φ)).toArray below meth c 0 0 (MQ below (lrQ D tA φ z 1 h) (([.ref 1, .int x, .int y, .ref 634] : List Value).map (mm_v φ)).toArray s 1 6 (mm_A z)) D tA φ z 5 5 [(0, .ref 1), (1, .int x), (2, .int y), (3, .ref 634)] [.int y, .int x, .ref 1, .int 0, .ref 634] h := by
    intro H locs ls hR1 hS1 hl1
    obtain ⟨Nn, hN⟩ := hR1.2.2.2.1
    obtain ⟨q0, hq0⟩ := mm_ws_at (tA := tA) (φ := φ) (hN 1 _ hob) hob rfl
    have hrec := va_recv hK.1 (mm_ws_P hR1 (N := Nn)) (q := (RX11, TX11, 16)) rfl hq0
    have hG : GoodIn mm_tbl (Cond.code yX11_rank cX11_rank 7 (some .int) :: mm_tbl) := mm_good_ws (fun v hv => by
      rcases List.mem_cons.mp hv with rfl | hv
      · exact q_1608
      · exact hv)
    have hlen : ∀ sig, parseMethodDescriptor yX11_rank.desc = some sig → 2 = sig.parameters.length := fun sig hs => by
      have h5 : (parseMethodDescriptor yX11_rank.desc).map (fun d => d.parameters.length) = some 2 := by decide +kernel
      rw [hs] at h5
      exact (Option.some.inj h5).symm
    have hr2 := vx_runV (p := p) (e := e) (R := (headSpec wsLr (mx_rm 8 1 6)).room) (below := below) (meth := meth) (H := H) (locs := locs) (cells := 0) (slots := 0) (index := 7) (C := RX11) (b := φ 1) (As := [.int x, .int y]) (rest := [.int 0, .ref (φ 634)]) (g := F0 m 5 ls [.int y, .int x, .ref (φ 1), .int 0, .ref (φ 634)]) (Ts := mm_tbl)
      ⟨B.exec, B.bytes, hml, hown, hts⟩ (c_rank_f l hl D tA φ z hv)
      ⟨⟨rfl, rfl, Nat.le_of_ble_eq_true rfl, Nat.le_of_ble_eq_true rfl, pay_in hts hG, List.mem_cons_self, hts _ q_1608, hts _ q_163, ⟨by decide, by decide⟩, hlen, hts _ q_1605⟩, hts _ q_1606, hts _ q_1607⟩
      ⟨xPc_bl, hrec, xPc_pre (as := [.ref 1, .int x, .int y]) hK hx hR1 hS1⟩ rfl rfl hl1.1 rfl (show 2 * 0 + 2 ≤ 8 by decide) dq_5 ⟨Nat.le_refl _, Nat.le_refl _⟩
    refine vx_calli (A0 := mm_A z) (H0 := s.heap) hr2 hS1 (fun _ _ h => h) (fun _ h => h) (fun _ _ h => h) (fun E ce q9 u t H1 locs1 ht hal _ hB _ _ hS2 hce hcv hcl => ?_) (fun r u t H1 locs1 _ _ hf => hf.elim)
    obtain ⟨rfl, hRt⟩ := hB
    have hRs : mm_R D tA φ z h s H1 := by rw [← ht]; exact hRt.moved hal.symm hR.2.2.2.2
    refine vx_catch (own := RL) (name := xN) hown [] ⟨0, 10, 13, 13⟩ [] htab (fun z hz => by cases hz) rfl (by decide) (hts _ x_k13) (xB_at (Vm.Alike.refl s.vm) (by simp [xB]) (hx.2.2.2 (Cond.castable xN xN) (by simp [xB]))) hce hcv hcl ?_
    refine lv_astore (x := q9) (lv' := [(4, .ref q9), (0, .ref (φ 1)), (1, .int x), (2, .int y), (3, .ref (φ 634))]) B.exec B.bytes dq_13 hl1 (by decide) rfl (fun ls2 hl2 => ?_)
    refine lv_iconst (v := 1) B.exec B.bytes dq_15 (by decide) ?_
    exact W.iret B.exec B.bytes hr (fun t ht hW => ⟨rfl, by rw [ht]; exact hRs.moved hW.alike (by rw [ht]; exact Nat.le_trans hR.2.2.2.2 hS2.1), hS2.F ht⟩) (fun q hq => hS2.2.2 q hq) dq_16
  have k4 := mm_step (lv := [(0, .ref 1), (1, .int x), (2, .int y), (3, .ref 634)]) (st := [.int x, .ref 1, .int 0, .ref 634]) X (ok_Lr l) hRo ⟨Nat.zero_le _, Nat.zero_le _⟩ (hcd (4, .iload_n 2, 1, 0) (by simp [p_Lr])) rfl k5
  have k3 := mm_step (lv := [(0, .ref 1), (1, .int x), (2, .int y), (3, .ref 634)]) (st := [.ref 1, .int 0, .ref 634]) X (ok_Lr l) hRo ⟨Nat.zero_le _, Nat.zero_le _⟩ (hcd (3, .iload_n 1, 1, 0) (by simp [p_Lr])) rfl k4
  have k2 := mm_step (lv := [(0, .ref 1), (1, .int x), (2, .int y), (3, .ref 634)]) (st := [.int 0, .ref 634]) X (ok_Lr l) hRo ⟨Nat.zero_le _, Nat.zero_le _⟩ (hcd (2, .aload_n 0, 1, 0) (by simp [p_Lr])) rfl k3
  have k1 := mm_step (lv := [(0, .ref 1), (1, .int x), (2, .int y), (3, .ref 634)]) (st := [.ref 634]) X (ok_Lr l) hRo ⟨Nat.zero_le _, Nat.zero_le _⟩ (hcd (1, .iconst 0, 1, 0) (by simp [p_Lr])) rfl k2
  have k0 := mm_step (lv := [(0, .ref 1), (1, .int x), (2, .int y), (3, .ref 634)]) (st := []) X (ok_Lr l) hRo ⟨Nat.zero_le _, Nat.zero_le _⟩ (hcd (0, .aload_n 3, 1, 0) (by simp [p_Lr])) rfl k1
  have hlv := lv_entry (([.ref 1, .int x, .int y, .ref 634] : List Value).map (mm_v φ)) (n := 5) (Nat.le_of_ble_eq_true rfl)
  rw [lg_entry_eq]
  exact k0 s.heap [] _ hR hS hlv
