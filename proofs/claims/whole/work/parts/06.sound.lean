/-! THE SMALL MACHINE IS SOUND: one instruction, a stretch, a method. -/
section SND
variable {p : Program} {l : Launch} {e : Env} {R : Room} {s : State} {m : MethodId} {args : Array Value} {below : List Frame} {meth : Method} {c : Code} {cells slots : Nat} {Q : State → Prop}
variable {D : va_G} {tA : Nat → ClassId} {φ : Nat → Nat} {z : Nat} {cc : ByteArray} {own : String} {nL n0 : Nat}
/-- what stays the same in a method's walk -/
def mm_X (p : Program) (s : State) (m : MethodId) (args : Array Value) (c : Code) (cc : ByteArray) (own : String) (nL : Nat) (D : va_G) (tA : Nat → ClassId) : Prop :=
  p.tables.exec = Jvm.exec ∧ c.code = cc ∧ c.maxLocals = nL ∧ s.vm.findClass own = some m.cls ∧ (∀ w ∈ mm_tbl, w.before args s = true) ∧ mm_K D tA s
/-- the machine goes on well from a point of the small one -/
def mm_Z (p : Program) (l : Launch) (e : Env) (R : Room) (s : State) (m : MethodId) (args : Array Value) (below : List Frame) (meth : Method) (c : Code) (cells slots : Nat) (Q : State → Prop) (D : va_G) (tA : Nat → ClassId) (φ : Nat → Nat) (z nL : Nat)
    (pc : Nat) (lv : mm_L) (st : List Value) (h : mm_H) : Prop :=
  ∀ (H : Heap) (locs : List Loc) (ls : Array Slot), mm_R D tA φ z h s H → va_S (mm_A z) s.heap H locs → lv_has ls nL (lv.map fun q => (q.1, mm_v φ q.2)) →
    W p l e R s m args below meth c H locs cells slots Q (F0 m pc ls (st.map (mm_v φ)))
theorem mm_lv_at {ls : Array Slot} {lv : mm_L} (hl : lv_has ls nL (lv.map fun q => (q.1, mm_v φ q.2))) {i : Nat} {v : Value} (h : mm_ld lv i = some v) : ls[i]? = some (.val (mm_v φ v)) :=
  hl.2.2 (i, mm_v φ v) (List.mem_map.mpr ⟨(i, v), mm_lk_mem h, rfl⟩)
theorem mm_v_cat (v : Value) : (mm_v φ v).category = v.category := by cases v <;> rfl
theorem mm_s1_map (lv : mm_L) (i : Nat) (v : Value) : (i, mm_v φ v) :: (lv.map fun q => (q.1, mm_v φ q.2)).filter (fun q => !(q.1 == i) && !(q.1 + 1 == i && q.2.category == 2)) = (mm_s1 lv i v).map fun q => (q.1, mm_v φ q.2) := by
  simp only [mm_s1, List.map_cons, List.filter_map]
  congr 2
  apply List.filter_congr
  intro q _
  simp only [Function.comp, mm_v_cat]
theorem mm_s2_map (lv : mm_L) (i : Nat) (v : Value) : (i, mm_v φ v) :: (lv.map fun q => (q.1, mm_v φ q.2)).filter (fun q => !(q.1 == i) && (!(q.1 == i + 1) && !(q.1 + 1 == i && q.2.category == 2))) = (mm_s2 lv i v).map fun q => (q.1, mm_v φ q.2) := by
  simp only [mm_s2, List.map_cons, List.filter_map]
  congr 2
  apply List.filter_congr
  intro q _
  simp only [Function.comp, mm_v_cat]
theorem mm_wt_map (st : List Value) : ((st.map (mm_v φ)).map fun v => v.category).sum = mm_wt st := by
  simp only [mm_wt, List.map_map]
  congr 1
  apply List.map_congr_left
  intro v _
  exact mm_v_cat v
theorem mm_tg_ok {pc : Nat} {off : Int} (h : 0 ≤ (pc : Int) + off) : (pc : Int) + off = (mm_tg pc off : Int) := by
  unfold mm_tg; omega
theorem mm_nar {x : Int32} (h : x = 0 ∨ x = 1) : narrow .boolean (.int x) = .int x := by
  rcases h with rfl | rfl <;> rfl
theorem mm_fits {x : Int32} (h : x = 0 ∨ x = 1) : fits .boolean (.int x) = true := by
  rcases h with rfl | rfl <;> rfl
/-- putfield -/
theorem mm_zput {P : mm_P} (X : mm_X p s m args c cc own nL D tA) (hcls : mm_cls) {pc i : Nat} {w : Nat × Nat × Nat} (hw : mm_fok own i w) {lv : mm_L} {st : List Value} {h h' : mm_H} {a : Nat} {v : Value} (h4 : w.2.2 ≠ 4)
    (hty : ∀ ty, mm_fty w.2.2 ty = true → narrow ty (mm_v φ v) = mm_v φ v ∧ fits ty (mm_v φ v) = true) (hdg : decode cc pc = .ok (.putfield i, 3)) (hp : mm_pf w.1 w.2.1 v h a = some h')
    (k : mm_Z p l e R s m args below meth c cells slots Q D tA φ z nL (pc + 3) lv st h') : mm_Z p l e R s m args below meth c cells slots Q D tA φ z nL pc lv (v :: .ref a :: st) h := by
  intro H locs ls hR hS hl
  obtain ⟨hx, hb, hml, hown, hts, hK⟩ := X
  obtain ⟨C, T, N, ty, c1, c2, c3, c4, c5, c6⟩ := hw
  obtain ⟨fs, ha, hk, rfl⟩ := mm_pf_inv hp
  obtain ⟨d1, ⟨ty0, d2⟩, d3⟩ := hcls _ _ _ _ c1
  obtain ⟨Nn, hN⟩ := hR.2.2.2.1
  obtain ⟨q0, hq0⟩ := mm_ws_at (tA := tA) (φ := φ) (hN a _ ha) ha rfl
  obtain ⟨n1, n2⟩ := hty ty c5
  refine va_put (own := own) (ref := (T w.2.1).1) (C := C) (T := T) (N := N) (ci := w.1) (index := i) (Ts := mm_tbl) hx hb hts d1 ty0 d2 d3 hown hK.1 (mm_ws_P hR (N := Nn)) (mm_ws_D hR (N := Nn)) hS q0 (fs := fs.map (mm_v φ)) hq0 c1 w.2.1 c2 (hts _ c3) (fun _ hh => hh) (c6.resolve_left h4) c4 n1 n2 (by rw [List.length_map]; exact hk) hdg (fun H1 locs1 hP1 hD1 hS1 => ?_)
  rw [← List.map_set] at hP1
  exact k H1 locs1 ls (mm_R_set hR hN ha rfl rfl hq0 hS hP1 hS1) hS1 hl
theorem mm_zget (X : mm_X p s m args c cc own nL D tA) (hcls : mm_cls) {pc i : Nat} {w : Nat × Nat × Nat} (hw : mm_fok own i w) {lv : mm_L} {st : List Value} {h : mm_H} {a : Nat} {fs : List Value} {v : Value} (ha : h a = some (.inr (w.1, fs))) (hv : fs[w.2.1]? = some v) (hdg : decode cc pc = .ok (.getfield i, 3))
    (k : mm_Z p l e R s m args below meth c cells slots Q D tA φ z nL (pc + 3) lv (v :: st) h) : mm_Z p l e R s m args below meth c cells slots Q D tA φ z nL pc lv (.ref a :: st) h := by
  intro H locs ls hR hS hl
  obtain ⟨hx, hb, hml, hown, hts, hK⟩ := X
  obtain ⟨C, T, N, ty, c1, c2, c3, c4, c5, c6⟩ := hw
  obtain ⟨d1, ⟨ty0, d2⟩, d3⟩ := hcls _ _ _ _ c1
  obtain ⟨Nn, hN⟩ := hR.2.2.2.1
  obtain ⟨q0, hq0⟩ := mm_ws_at (tA := tA) (φ := φ) (hN a _ ha) ha rfl
  exact va_get (own := own) (ref := (T w.2.1).1) (C := C) (T := T) (N := N) (ci := w.1) (index := i) (Ts := mm_tbl) hx hb hts d1 hown hK.1 (mm_ws_P hR (N := Nn)) q0 (fs := fs.map (mm_v φ)) hq0 c1 w.2.1 c2 (hts _ c3) (fun _ hh => hh) (v := mm_v φ v) (by rw [List.getElem?_map, hv]; rfl) hdg (k H locs ls hR hS hl)
/-- behind a call -/
theorem mm_called {H : Heap} {locs : List Loc} {ls : Array Slot} {pc : Nat} {st0 rest : List Value} {v : Option Value} {h' : mm_H} (hz : z ≤ s.heap.size)
    (hr : va_Run p l e R s m args below meth c H locs cells slots 0 0 (F0 m pc ls st0) rest (fun st o t => o = .returned v ∧ mm_R D tA φ z h' t t.heap ∧ va_F (mm_A z) st t) (mm_A z)) (hS : va_S (mm_A z) s.heap H locs)
    (kk : ∀ (H1 : Heap) (locs1 : List Loc), mm_R D tA φ z h' s H1 → va_S (mm_A z) s.heap H1 locs1 → W p l e R s m args below meth c H1 locs1 cells slots Q (F0 m (pc + 3) ls (v.toList ++ rest))) :
    W p l e R s m args below meth c H locs cells slots Q (F0 m pc ls st0) := by
  intro T hT X
  obtain ⟨v', st₀, t, T', L, h0, X', hL, e1, e2, ⟨hv, hRt, hz1, hk⟩, st⟩ := hr T hT X
  cases hv
  rw [h0] at hz1 hk
  have hal : s.vm.Alike t.vm := by rw [← e2]; exact X'.warmed.alike
  obtain ⟨t2, a1, b1⟩ := kk T'.heap (locs ++ L) (by rw [e1]; exact hRt.moved hal.symm hz)
    ⟨Nat.le_trans hS.1 (by rw [e1]; exact hz1), fun q h1 h2 => by rw [e1, hk q (Nat.lt_of_lt_of_le h1 hS.1) h2]; exact hS.2.1 q h1 h2, fun q hq => by
      rcases List.mem_append.mp hq with h | h
      · exact hS.2.2 q h
      · exact hL q h⟩ T' rfl X'
  exact ⟨t2, st t2 a1, b1⟩
theorem mm_blind {av : List Value} {h : mm_H} : FrameBlind (va_Pc av (fun U => mm_R D tA φ z h U U.heap ∧ mm_K D tA U)) := by
  intro a U g mk hq
  obtain ⟨q0, q1, q2⟩ := hq
  exact ⟨q0, mm_R.moved (s := U) (u := U.calling g mk a) (Vm.Alike.refl U.vm) q1.2.2.2.2 q1, mm_K.same (s := U) (U := U.calling g mk a) rfl q2⟩
theorem mm_pre {H : Heap} {h : mm_H} {locs : List Loc} (hK : mm_K D tA s) (hR : mm_R D tA φ z h s H) (hS : va_S (mm_A z) s.heap H locs) (av : List Value) : ∀ U : State, U.heap = H → s.WarmedH U.vm → va_Pc av (fun U => mm_R D tA φ z h U U.heap ∧ mm_K D tA U) av.toArray U := by
  intro U hU hW
  refine ⟨rfl, ?_, mm_K.warm hW hK⟩
  rw [hU]
  exact hR.moved hW.alike (by rw [hU]; exact Nat.le_trans hR.2.2.2.2 hS.1)
theorem mm_good_ws {ws : List Cond} (h : ∀ v ∈ ws, v ∈ mm_tbl) : GoodIn mm_tbl ws := fun v hv => ⟨h v hv, mm_tbl_good v (h v hv)⟩
theorem mm_back {y : MethodName} {bytes : ByteArray} {maxL : Nat} {ret : Option FieldType} {n : Nat} {Pc : Array Value → State → Prop} {Qc : Array Value → State → Outcome → State → Prop} (hM : Met l y (Cond.code y bytes maxL ret :: mm_tbl) (mm_rm n) Pc Qc 0 0 (mm_A z)) (hbl : FrameBlind Pc)
    (hts : ∀ w ∈ mm_tbl, w.before args s = true) (hRo : n + 1 ≤ R.frames ∧ 16 + (maxL + 11) + 40 * n ≤ R.locals) (h3 : Cond.initialized y.cls ∈ mm_tbl) (h4 : Cond.code y bytes maxL ret ∈ mm_tbl) : Back l R p e below s args y 3 16 (PreOf R 0 0 Pc) (PostOf Qc 0 0 (mm_A z)) := by
  have hG : GoodIn mm_tbl (Cond.code y bytes maxL ret :: mm_tbl) := mm_good_ws (fun v hv => by
    rcases List.mem_cons.mp hv with rfl | hv
    · exact h4
    · exact hv)
  exact back_of (bytes := bytes) (maxL := maxL) (ret := ret) hM hbl rfl rfl hRo.1 hRo.2 (pay_in hts hG) List.mem_cons_self (fun a' U hW => word_at hW (mm_tbl_good _ h3) (hts _ h3))
theorem mm_zstat (X : mm_X p s m args c cc own nL D tA) {pc i k : Nat} {y : MethodName} {bytes : ByteArray} {maxL : Nat} {ret : Option FieldType} {n : Nat} {f : mm_F} (hI : mm_Imp l y bytes maxL ret n f) (hRo : n + 1 ≤ R.frames ∧ 16 + (maxL + 11) + 40 * n ≤ R.locals) (hy : mm_yok y k = true)
    (h1 : Cond.methodLink own i y ∈ mm_tbl ∨ ∃ host, Cond.methodLinkNest own i y host ∈ mm_nest) (h2 : Cond.static y ∈ mm_tbl) (h3 : Cond.initialized y.cls ∈ mm_tbl) (h4 : Cond.code y bytes maxL ret ∈ mm_tbl) (hf : cells ≤ R.cells ∧ slots ≤ R.slots)
    {lv : mm_L} {as st : List Value} {h h' : mm_H} {r : Option Value} (hn : as.length = k) (hwt : mm_wt st ≤ 16) (hv : f as h = some (r, h')) (hdg : decode cc pc = .ok (.invokestatic i, 3))
    (kk : mm_Z p l e R s m args below meth c cells slots Q D tA φ z nL (pc + 3) lv (r.toList ++ st) h') : mm_Z p l e R s m args below meth c cells slots Q D tA φ z nL pc lv (as.reverse ++ st) h := by
  intro H locs ls hR hS hl
  obtain ⟨hx, hb, hml, hown, hts, hK⟩ := X
  simp only [mm_yok, Bool.and_eq_true, decide_eq_true_eq] at hy
  have hst : (as.reverse ++ st).map (mm_v φ) = (as.map (mm_v φ)).reverse ++ st.map (mm_v φ) := by simp [List.map_reverse]
  have hwt2 : 2 * 0 + ((st.map (mm_v φ)).map fun v => v.category).sum ≤ 16 := by rw [mm_wt_map]; omega
  have hlen : ∀ sig, parseMethodDescriptor y.desc = some sig → (as.map (mm_v φ)).length = sig.parameters.length := fun sig hs => by
    have h5 := hy.2
    rw [hs] at h5
    rw [List.length_map, hn]
    exact (Option.some.inj h5).symm
  have hBk := mm_back (p := p) (e := e) (below := below) (R := R) (hI D tA φ z as h r h' hv) mm_blind hts hRo h3 h4
  have hpre := mm_pre hK hR hS (as.map (mm_v φ))
  have hr : va_Run p l e R s m args below meth c H locs cells slots 0 0 (F0 m pc ls ((as.reverse ++ st).map (mm_v φ))) (st.map (mm_v φ)) (fun st o t => o = .returned (r.map (mm_v φ)) ∧ mm_R D tA φ z h' t t.heap ∧ va_F (mm_A z) st t) (mm_A z) := by
    intro T hT X1
    rcases h1 with h1 | ⟨host, h1⟩
    · obtain ⟨v, vm₁, ⟨U', l2, c2, s2⟩, hW₁, X', ⟨g', mk, t, L, e1, e2, hq, q1, hL, q2, q3⟩, st1⟩ := callS X1 hx (bytes := bytes) (maxL := maxL) (ret := ret) hown (hts _ h1) (hts _ h2) (hts _ h3) (hts _ h4) ⟨hy.1.1, hy.1.2⟩ hBk (g := F0 m pc ls ((as.reverse ++ st).map (mm_v φ))) rfl (hl.1.trans hml.symm) (argsL := as.map (mm_v φ)) (rest := st.map (mm_v φ)) hlen hst hwt2 (by rw [hb]; exact hdg) (fun vm₁ hW₁ => ⟨hf.1, hf.2, hpre (T.setVm vm₁) hT hW₁⟩)
      dsimp only [Pt.U, Pt.locs, Pt.cells, Pt.slots] at X' e1 e2 q1 q2 q3 st1
      subst q1; subst q2; subst q3
      exact ⟨v, (T.setVm vm₁).calling g' mk (as.map (mm_v φ)).toArray, t, U', L, hT, X', hL, e1, e2, hq, st1⟩
    · obtain ⟨v, vm₁, ⟨U', l2, c2, s2⟩, hW₁, X', ⟨g', mk, t, L, e1, e2, hq, q1, hL, q2, q3⟩, st1⟩ := va_callSN X1 hx (bytes := bytes) (maxL := maxL) (ret := ret) hown (va_Nw.use rfl (hK.2 _ h1)) (hts _ h2) (hts _ h3) (hts _ h4) ⟨hy.1.1, hy.1.2⟩ hBk (g := F0 m pc ls ((as.reverse ++ st).map (mm_v φ))) rfl (hl.1.trans hml.symm) (argsL := as.map (mm_v φ)) (rest := st.map (mm_v φ)) hlen hst hwt2 (by rw [hb]; exact hdg) (fun vm₁ hW₁ => ⟨hf.1, hf.2, hpre (T.setVm vm₁) hT hW₁⟩)
      dsimp only [Pt.U, Pt.locs, Pt.cells, Pt.slots] at X' e1 e2 q1 q2 q3 st1
      subst q1; subst q2; subst q3
      exact ⟨v, (T.setVm vm₁).calling g' mk (as.map (mm_v φ)).toArray, t, U', L, hT, X', hL, e1, e2, hq, st1⟩
  refine mm_called hR.2.2.2.2 hr hS (fun H1 locs1 hR1 hS1 => ?_)
  have := kk H1 locs1 ls hR1 hS1 hl
  cases r <;> exact this
theorem mm_zvirt (X : mm_X p s m args c cc own nL D tA) {pc i k : Nat} {y : MethodName} {bytes : ByteArray} {maxL : Nat} {ret : Option FieldType} {n ci : Nat} {T : u_T} {N : Nat} {f : mm_F} (hI : mm_Imp l y bytes maxL ret n f) (hRo : n + 1 ≤ R.frames ∧ 16 + (maxL + 11) + 40 * n ≤ R.locals) (hy : mm_yok y k = true) (hc : vwCl[ci]? = some (y.cls, T, N))
    (h1 : Cond.methodLink own i y ∈ mm_tbl) (h2 : Cond.instanceMethod y ∈ mm_tbl) (h3 : Cond.selects y.cls y y ∈ mm_tbl) (h4 : Cond.initialized y.cls ∈ mm_tbl) (h5 : Cond.code y bytes maxL ret ∈ mm_tbl) (hf : cells ≤ R.cells ∧ slots ≤ R.slots)
    {lv : mm_L} {as st : List Value} {b : Nat} {fs : List Value} {h h' : mm_H} {r : Option Value} (hn : as.length = k) (hwt : mm_wt st ≤ 16) (hv : f (.ref b :: as) h = some (r, h')) (hob : h b = some (.inr (ci, fs))) (hdg : decode cc pc = .ok (.invokevirtual i, 3))
    (kk : mm_Z p l e R s m args below meth c cells slots Q D tA φ z nL (pc + 3) lv (r.toList ++ st) h') : mm_Z p l e R s m args below meth c cells slots Q D tA φ z nL pc lv (as.reverse ++ .ref b :: st) h := by
  intro H locs ls hR hS hl
  obtain ⟨hx, hb, hml, hown, hts, hK⟩ := X
  simp only [mm_yok, Bool.and_eq_true, decide_eq_true_eq] at hy
  have hst : (as.reverse ++ .ref b :: st).map (mm_v φ) = (as.map (mm_v φ)).reverse ++ .ref (φ b) :: st.map (mm_v φ) := by simp [List.map_reverse, mm_v]
  have hwt2 : 2 * 0 + ((st.map (mm_v φ)).map fun v => v.category).sum ≤ 16 := by rw [mm_wt_map]; omega
  have hlen : ∀ sig, parseMethodDescriptor y.desc = some sig → (as.map (mm_v φ)).length = sig.parameters.length := fun sig hs => by
    have h5 := hy.2
    rw [hs] at h5
    rw [List.length_map, hn]
    exact (Option.some.inj h5).symm
  have hBk := mm_back (p := p) (e := e) (below := below) (R := R) (hI D tA φ z (.ref b :: as) h r h' hv) mm_blind hts hRo h4 h5
  have hpre := mm_pre hK hR hS (.ref (φ b) :: as.map (mm_v φ))
  obtain ⟨Nn, hN⟩ := hR.2.2.2.1
  obtain ⟨q0, hq0⟩ := mm_ws_at (tA := tA) (φ := φ) (hN b _ hob) hob rfl
  obtain ⟨cellB, hcB, hoB, hclB⟩ := va_recv hK.1 (mm_ws_P hR (N := Nn)) (q := (y.cls, T, N)) hc hq0
  have hr : va_Run p l e R s m args below meth c H locs cells slots 0 0 (F0 m pc ls ((as.reverse ++ .ref b :: st).map (mm_v φ))) (st.map (mm_v φ)) (fun st o t => o = .returned (r.map (mm_v φ)) ∧ mm_R D tA φ z h' t t.heap ∧ va_F (mm_A z) st t) (mm_A z) := by
    intro T hT X1
    obtain ⟨v, vm₁, ⟨U', l2, c2, s2⟩, hW₁, X', ⟨g', mk, t, L, e1, e2, hq, q1, hL, q2, q3⟩, st1⟩ := callV X1 hx (C := y.cls) (bytes := bytes) (maxL := maxL) (ret := ret) hown (hts _ h1) (hts _ h2) (hts _ h3) (hts _ h5) ⟨hy.1.1, hy.1.2⟩ hBk (by rw [hT]; exact hcB) hoB hclB (g := F0 m pc ls ((as.reverse ++ .ref b :: st).map (mm_v φ))) rfl (hl.1.trans hml.symm) (argsL := as.map (mm_v φ)) (rest := st.map (mm_v φ)) hlen hst hwt2 (by rw [hb]; exact hdg) (fun vm₁ hW₁ => ⟨hf.1, hf.2, hpre (T.setVm vm₁) hT hW₁⟩)
    dsimp only [Pt.U, Pt.locs, Pt.cells, Pt.slots] at X' e1 e2 q1 q2 q3 st1
    subst q1; subst q2; subst q3
    exact ⟨v, (T.setVm vm₁).calling g' mk (Value.ref (φ b) :: as.map (mm_v φ)).toArray, t, U', L, hT, X', hL, e1, e2, hq, st1⟩
  refine mm_called hR.2.2.2.2 hr hS (fun H1 locs1 hR1 hS1 => ?_)
  have := kk H1 locs1 ls hR1 hS1 hl
  cases r <;> exact this
end SND
