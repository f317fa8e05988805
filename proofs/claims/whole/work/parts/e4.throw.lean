/-! RANK THROWS: its exception is made and leaves (the library's law for that knows constructors that pass the text by entry 7 alone; this one passes it by entry 13) -/
section XTH
variable {p : Program} {l : Launch} {e : Env} {R : Room} {s : State} {m : MethodId} {args : Array Value} {below : List Frame} {meth : Method} {c : Code} {V : State} {locs : List Loc} {cells slots : Nat}
theorem x_fit : Bundle.fit xN = true := by decide +kernel
theorem x_fits : ∀ n ∈ xNs, Bundle.fit n = true := by decide +kernel
set_option maxHeartbeats 2000000 in
theorem x_ctor (X : Stand p l e R s m args below meth c V locs cells slots) (hexec : p.tables.exec = Jvm.exec) (htr : e.platform.stackTraces = false) (hown : s.vm.findClass RX11 = some m.cls) (h : ∀ w ∈ xOwn, w.before args s = true)
    (hlocs : ∀ x ∈ locs, ∀ cell, s.heap[x.base]? = some cell → cell.vm.isStatics = false) {a : Addr} {cX : ClassId} {kX : Class} (hfX : s.vm.findClass xN = some cX) (hkX : s.vm.classes[cX]? = some kX) (hcell : V.heap[a]? = some (freshCell cX kX)) (hnew : s.heap.size ≤ a)
    {msg : Value} (hmsg : msg.isRef = true) {g : JFrame} (hg : g.method = m) (hsize : g.locals.size = c.maxLocals) (hlocked : g.locked = none) (hentered : g.entered = []) {rest : List Value} (hstack : g.stack = msg :: .ref a :: .ref a :: rest)
    (hd6 : decode c.code g.pc = .ok (.invokespecial 261, 3)) (hd9 : decode c.code (g.pc + 3) = .ok (.athrow, 1)) (hout : ∀ x ∈ c.exceptionTable.toList, covers x (g.pc + 3) = false)
    (hRf : 5 < R.frames) (hRl : 2 * g.monitorRoom + ((Value.ref a :: rest).map fun v => v.category).sum + 81 ≤ R.locals) (hlocks : meth.locks = false) :
    ∃ U : State, Steps p.tables e below (V.setTop g) U ∧ U.status = .running ∧ Ended U below (.threw a) ∧ s.WarmedH U.vm ∧ s.sameButNew ({ U with vm := s.vm } : State) locs cells slots ∧ ∃ ce, U.heap[a]? = some ce ∧ ce.cls = cX ∧ ce.vm = .none := by
  have howns : e.platform.frameOwnsMonitors = true := by rw [X.admits.platform]
  have hfin : e.platform.finalization = false := by rw [X.admits.platform]
  have hpl : e.platform.magicAccessors = ({} : Platform).magicAccessors := by rw [X.admits.platform]
  have hw : ∀ w, w ∈ Bundle.ownAtomsX RX11 261 xN 13 xrx xNs → w.holds args s none s [] = true := fun w hx => h w hx
  obtain ⟨T, Z0, TL, -, Y⟩ := ThrowableC.of_atoms (args := args) howns hfin hpl (fun w hx => h w (by simp [xOwn, Bundle.ownAtomsX, hx]))
  obtain ⟨Z, M, LZ, LM, hnZ⟩ := Init0T.ofS_atoms (args := args) hpl TL Y (fun w hx => h w (by simp [xOwn, Bundle.ownAtomsX, hx]))
  obtain ⟨P1, Ps, hlen, L1, hL, hm1, hk1, hk2⟩ := Bundle.chainSX (args := args) hpl hnZ (ix := 13) (rx := xrx) (by decide +kernel) (by decide +kernel) (by decide +kernel) (by decide +kernel) xNs xN x_fit x_fits (fun w hx => h w (by simp [xOwn, Bundle.ownAtomsX, hx]))
  have hfd : s.vm.findClass xN = some P1.m.cls := findClass_of_methodNamed hm1
  cases Option.some.inj (hfX.symm.trans hfd)
  obtain ⟨c1, k1, hc1, hk, hord, -, -, hn6⟩ := Cond.instantiable_spec (hw (.instantiable xN 6) (by simp [Bundle.ownAtomsX]))
  cases Option.some.inj (hc1.symm.trans hfd)
  cases Option.some.inj (hkX.symm.trans hk)
  have sel0 : selectMethod e.platform s.vm P1.m.cls T.fill0 = .method T.fill0 := by
    obtain ⟨c2, r2, m2, q1, q2, q3, q4, -⟩ := Cond.selects_spec (hw (.selects xN Bundle.tFill0 Bundle.tFill0) (by simp [Bundle.ownAtomsX]))
    cases Option.some.inj (q1.symm.trans hfd)
    cases Option.some.inj (q2.symm.trans (State.methodFound?_of_named Y.fill0 (by decide)))
    cases Option.some.inj (q3.symm.trans Y.fill0)
    rw [Launch.admits_selectMethod X.admits]; exact q4
  have selF : selectMethod e.platform s.vm P1.m.cls T.fill = .method T.fill := by
    obtain ⟨c2, r2, m2, q1, q2, q3, q4, -⟩ := Cond.selects_spec (hw (.selects xN Bundle.tFill Bundle.tFill) (by simp [Bundle.ownAtomsX]))
    cases Option.some.inj (q1.symm.trans hfd)
    cases Option.some.inj (q2.symm.trans (State.methodFound?_of_named Y.fill (by decide)))
    cases Option.some.inj (q3.symm.trans Y.fill)
    rw [Launch.admits_selectMethod X.admits]; exact q4
  obtain ⟨cS0, hcS0, hiss⟩ := Y.statics
  obtain ⟨u0, hu0⟩ := Cond.staticRefV Y.unassigned TL.unassignedStatic TL.statics hcS0 hiss (hw (.isRef (.static Bundle.tN "UNASSIGNED_STACK" Bundle.steD)) (by simp [Bundle.ownAtomsX]))
  obtain ⟨sen, hsen⟩ := Cond.staticRefV Y.sentinel TL.sentinelStatic TL.statics hcS0 hiss (hw (.isRef (.static Bundle.tN "SUPPRESSED_SENTINEL" Bundle.listD)) (by simp [Bundle.ownAtomsX]))
  obtain ⟨ciB, iB, fB, hkB, hgB, haB, hsB, -, hnB, htB, hfB⟩ := Cond.ownField (t := .object "java/lang/Object") Y.found TL.cls (by decide +kernel) (hw (.fieldLink Bundle.tN 198 Bundle.tN "backtrace" "Ljava/lang/Object;") (by simp [Bundle.ownAtomsX])) (hw (.lays Bundle.tN Bundle.tN "backtrace" "Ljava/lang/Object;") (by simp [Bundle.ownAtomsX])) e.platform hpl
  obtain ⟨cS, hcS, heS, -, hkeep⟩ := X.same.2.2.2.2.2 T.aS cS0 hcS0
  have hcS2 : V.heap[T.aS]? = some cS := hcS
  have hnotin : ∀ i, (⟨T.aS, i⟩ : Loc) ∉ locs := fun i hmem => by
    have := hlocs _ hmem cS0 hcS0
    rw [hiss] at this; cases this
  have hkn : cS.vm ≠ .unknown := by
    rw [heS]; intro hu
    rw [show cS0.vm = .unknown from hu] at hiss
    cases hiss
  have hne : T.aS ≠ a := Nat.ne_of_lt (Nat.lt_of_lt_of_le (Array.getElem?_eq_some_iff.mp hcS0).1 hnew)
  obtain ⟨iM, hfM⟩ := Y.msg
  obtain ⟨tyC, dC, hdC, hdnC⟩ := Cond.laysAt hfd hk Y.cause (hw (.lays xN Bundle.tN "cause" "Ljava/lang/Throwable;") (by simp [Bundle.ownAtomsX]))
  obtain ⟨tyS, dS, hdS, hdnS⟩ := Cond.laysAt hfd hk Y.stack (hw (.lays xN Bundle.tN "stackTrace" Bundle.steD) (by simp [Bundle.ownAtomsX]))
  obtain ⟨tyP, dP, hdP, hdnP⟩ := Cond.laysAt hfd hk Y.supp (hw (.lays xN Bundle.tN "suppressedExceptions" Bundle.listD) (by simp [Bundle.ownAtomsX]))
  obtain ⟨tyM, dM, hdM, hdnM⟩ := Cond.laysAt hfd hk hfM (hw (.lays xN Bundle.tN "detailMessage" "Ljava/lang/String;") (by simp [Bundle.ownAtomsX]))
  obtain ⟨tyB, dB, hdB, hdnB⟩ := Cond.laysAt hfd hk hfB (hw (.lays xN Bundle.tN "backtrace" "Ljava/lang/Object;") (by simp [Bundle.ownAtomsX]))
  have bC := Cond.laysApart hdB hdC hdnB hdnC (by rw [hnB, Y.causeName]; decide)
  have bS := Cond.laysApart hdB hdS hdnB hdnS (by rw [hnB, Y.stackName]; decide)
  have bP := Cond.laysApart hdB hdP hdnB hdnP (by rw [hnB, Y.suppName]; decide)
  have hskip : SkipFacts T e.platform s (fun u => u) u0 ((preparedCellV T.toThrowableT (freshCell P1.m.cls kX) a u0 sen).withEntry V.cur) :=
    ⟨{ ci198 := ciB, i198 := iB, fBack := fB }, ⟨hkB, hgB, haB, hsB⟩, by
      have := fresh_default (c := P1.m.cls) tyB
      rw [htB] at this
      simpa [preparedCellV, Cell.setSlot, Cell.withEntry, Array.getElem?_setIfInBounds, bC, bS, bP, bC.symm, bS.symm, bP.symm, defaultValue] using this, fun _ _ => rfl⟩
  have hin : Cond.instanceMethod (Bundle.initS xN) ∈ xOwn := by simp [xOwn, Bundle.ownAtomsX, Bundle.chainSAtomsX, Bundle.passSAtoms]
  have hco : Cond.code (Bundle.initS xN) xrx 2 none ∈ xOwn := by simp [xOwn, Bundle.ownAtomsX, Bundle.chainSAtomsX, Bundle.passSAtoms]
  obtain ⟨tm, methC, cdC, kC, vm₁, hnC, -, -, -, -, -, -, -, hW₁, st1⟩ := Steps.initColdS (tb := p.tables) (e := e) (below := below) (s := s) (U := V) X.here hexec X.warmed hpl hown (t := Bundle.initS xN) rfl rfl (Bundle.fit_spec x_fit).2
    (hw (.methodLink RX11 261 (Bundle.initS xN)) (by simp [Bundle.ownAtomsX])) (h _ hin) (bytes := xrx) (maxL := 2) (h _ hco) (f := g) hg (a := a) (msg := msg) (rest := .ref a :: rest) hstack hd6
  cases Option.some.inj (hnC.symm.trans hm1)
  have X₁ := X.noted hW₁
  have hlen2 : (P1 :: Ps).length = 3 := by rw [List.length_cons, hlen]; rfl
  obtain ⟨vm₂, X₂, st2⟩ := X₁.ctorMessageOffV hexec (g := { g with stack := .ref a :: rest }) hg hsize T TL Z LZ M LM (P1 :: Ps)
    (fun P hP => by rcases List.mem_cons.mp hP with rfl | hP; exact L1; exact hL P hP) ⟨hk1, hk2⟩ (u0 := u0) (sen := sen) (self := a) hmsg (cell := freshCell P1.m.cls kX) (cellS := cS)
    hcell (fun _ => by simp) (by simp) rfl rfl sel0 selF hcS2 hne hkn (by rw [hkeep _ (hnotin _)]; exact hu0) (by rw [hkeep _ (hnotin _)]; exact hsen)
    (Takes.of_laid hk hord tyC (by rw [Y.causeType]; rfl)) (Takes.of_laid hk hord tyS (by rw [Y.stackType]; exact fits_refV_array _ u0)) (Takes.of_laid hk hord tyP (by rw [Y.suppType]; exact fits_refV_object _ sen))
    (Takes.of_laid hk hord tyM (by rw [Y.msgType]; exact fits_refV_object _ ⟨msg, hmsg⟩)) Y.objLocals hskip htr [] hd6
    (by rw [hlen2]; omega) (by rw [hlen2]; exact hRl)
  obtain ⟨hwalk, hrun, hended, hWU, hsame⟩ := X₂.athrowLeaves hexec (g := { g with stack := .ref a :: rest, pc := g.pc + 3 }) hg hlocked hentered hout (a := a) (rest := rest) rfl hd9
  have hlt : a < ((V.setVm vm₁).setVm vm₂).heap.size := (Array.getElem?_eq_some_iff.mp hcell).1
  have hU := heapAt_setCell_self (s := (V.setVm vm₁).setVm vm₂) (plainBareV T.toThrowableT (freshCell P1.m.cls kX) a u0 sen msg) hlt
  refine ⟨_, st1 _ (fun acts => ?_), hrun, hended, hWU, hsame.weaken (fun y hy hlt' => ?_) (Nat.le_refl _) (Nat.le_refl _), _, hU, rfl, rfl⟩
  · rw [doInvoke_state]
    exact st2 _ hwalk
  · rcases List.mem_append.mp hy with h1 | h1
    · exact h1
    · exfalso
      have hb : y.base = a := by
        simp only [List.mem_cons, List.not_mem_nil, or_false] at h1
        rcases h1 with rfl | rfl | rfl | rfl | rfl <;> rfl
      rw [hb] at hlt'
      exact Nat.not_lt.mpr hnew hlt'
end XTH
/-- what is given where rank may throw -/
def xR (z : Nat) (U : State) : Prop := (∃ sb, vk_R RX11 259 xT sb U) ∧ vx_Zq Bundle.tN "UNASSIGNED_STACK" Bundle.steD (mm_A z) U U.heap ∧ vx_Zq Bundle.tN "SUPPRESSED_SENTINEL" Bundle.listD (mm_A z) U U.heap ∧ ∀ w ∈ xB, w.before #[] U = true
theorem xB_at {s U : State} {A A' : Array Value} (hv : s.vm.Alike U.vm) {w : Cond} (hw : w ∈ xB) (h : w.before A s = true) : w.before A' U = true := by
  have h0 := List.all_eq_true.mp xB_ok w hw
  simp only [Bool.and_eq_true] at h0
  exact va_tabs (u := s.setVm U.vm) h0.2 rfl (Cond.faceAtom_setVm hv w h0.1 h)
theorem xR.at {z : Nat} {s U : State} (hW : s.WarmedH U.vm) (hq : ∀ a : Nat, a < s.heap.size → ¬ mm_A z a → U.heap[a]? = s.heap[a]?) (h : xR z s) : xR z U := by
  obtain ⟨⟨sb, h1⟩, h2, h3, h4⟩ := h
  exact ⟨⟨sb, vk_R.warm hW h1⟩, vx_Zq.moved hW.alike (h2.kept hq), vx_Zq.moved hW.alike (h3.kept hq), fun w hw => xB_at hW.alike hw (h4 w hw)⟩
theorem xR.same {z : Nat} {s U : State} (hv : U.vm = s.vm) (hh : U.heap = s.heap) (h : xR z s) : xR z U := by
  obtain ⟨⟨sb, h1⟩, h2, h3, h4⟩ := h
  have ha : s.vm.Alike U.vm := by rw [hv]; exact Vm.Alike.refl _
  exact ⟨⟨sb, vk_R.same hv h1⟩, by rw [hh]; exact vx_Zq.moved ha h2, by rw [hh]; exact vx_Zq.moved ha h3, fun w hw => xB_at ha hw (h4 w hw)⟩
theorem mm_R.grow {D : va_G} {tA : Nat → ClassId} {φ : Nat → Nat} {z : Nat} {h : mm_H} {s : State} {H H1 : Heap} (hR : mm_R D tA φ z h s H) (hk : ∀ q : Nat, q < H.size → H1[q]? = H[q]?) : mm_R D tA φ z h s H1 :=
  ⟨fun n c hc hr => ⟨(hR.1 n c hc hr).1.kept (hk _ (hR.1 n c hc hr).1.lt), (hR.1 n c hc hr).2⟩, fun n L xs hc => ⟨(hR.2.1 n L xs hc).1.kept (hk _ (by
    obtain ⟨scr, y1, -⟩ := (hR.2.1 n L xs hc).1
    exact (Array.getElem?_eq_some_iff.mp y1).1)), (hR.2.1 n L xs hc).2⟩, hR.2.2.1, hR.2.2.2.1, hR.2.2.2.2⟩
theorem dr_43 : decode cX11_rank 43 = .ok (.new 257, 3) := by decide +kernel
theorem dr_46 : decode cX11_rank 46 = .ok (.dup, 1) := by decide +kernel
theorem dr_47 : decode cX11_rank 47 = .ok (.ldc_w 259, 3) := by decide +kernel
theorem dr_50 : decode cX11_rank 50 = .ok (.invokespecial 261, 3) := by decide +kernel
theorem dr_53 : decode cX11_rank 53 = .ok (.athrow, 1) := by decide +kernel
section XTW
variable {p : Program} {l : Launch} {e : Env} {R : Room} {s : State} {m : MethodId} {args : Array Value} {below : List Frame} {meth : Method} {c : Code} {H : Heap} {locs : List Loc} {cells slots : Nat} {free : Addr → Prop} {Qc : Array Value → State → Outcome → State → Prop} {XC : String → State → State → Prop}
/-- pc 43: the exception is made and leaves -/
theorem x_throw (hexec : p.tables.exec = Jvm.exec) (hb : c.code = cX11_rank) (hl : l.stackTraces = false) (hown : s.vm.findClass RX11 = some m.cls) {z mc ms : Nat} (hts : ∀ w ∈ mm_tbl, w.before args s = true) (hx : xR z s) (hS : va_S (mm_A z) s.heap H locs) {ls : Array Slot} (hsize : ls.size = c.maxLocals)
    (hout : ∀ x ∈ c.exceptionTable.toList, False) (hRf : 5 < R.frames) (hRl : 82 ≤ R.locals) (hRc : cells + 1 ≤ R.cells) (hRs : slots + 6 ≤ R.slots) (hlocks : meth.locks = false)
    (hX : ∀ t : State, s.vm.Alike t.vm → H.size ≤ t.heap.size → (∀ q : Nat, q < H.size → t.heap[q]? = H[q]?) → XC xN s t) (hf : ∀ z ∈ locs, free z.base) (hc : cells + 1 ≤ mc) (hs : slots + 6 ≤ ms) :
    W p l e R s m args below meth c H locs cells slots (vx_MQ below Qc XC args s mc ms free) (F0 m 43 ls []) := by
  intro T hT X
  obtain ⟨⟨sa, hstr⟩, hU, hN, hbad⟩ := hx
  have htr : e.platform.stackTraces = false := (show e.platform.stackTraces = l.stackTraces by rw [X.admits.platform]).trans hl
  have Y := vx_rebase X (R' := { frames := R.frames, locals := R.locals, cells := 1, slots := 6 }) (Nat.le_refl _) (Nat.le_refl _) hRc hRs
  obtain ⟨s', hA⟩ : ∃ z, z = (T.setVm s.vm).setFrames (.invoking m args :: below) := ⟨_, rfl⟩
  rw [← hA] at Y
  have hvm : s'.vm = s.vm := by rw [hA]; rfl
  have hhp : s'.heap = H := by rw [hA]; exact hT
  have hW0 : s.WarmedH s'.vm := by rw [hvm]; exact State.WarmedH.refl s
  have hot : ∀ w ∈ Cond.classLink RX11 257 xN :: Cond.initialized xN :: xOwn.filter vx_no, vx_ot w = true := fun w hw => List.all_eq_true.mp x_ot w hw
  have hat : ∀ w ∈ xOwn.filter vx_no, w.before args s = true := fun w hw => by
    obtain ⟨h1, h2⟩ := List.mem_filter.mp hw
    cases hg : goodWord w with
    | true => exact hts w (xg_all w h1 h2 hg)
    | false => exact xB_at (Vm.Alike.refl s.vm) (xb_all w h1 h2 hg) (hbad w (xb_all w h1 h2 hg))
  have hat' : ∀ w ∈ xOwn.filter vx_no, w.before args s' = true := fun w hw => vx_ot_at hW0 hvm.symm (hot w (List.mem_cons_of_mem _ (List.mem_cons_of_mem _ hw))) (hat w hw)
  have hk' : (Cond.classLink RX11 257 xN).before args s' = true := vx_ot_at hW0 hvm.symm (hot _ List.mem_cons_self) (hts _ x_cl)
  have hini' : (Cond.initialized xN).before args s' = true := vx_ot_at hW0 hvm.symm (hot _ (List.mem_cons_of_mem _ List.mem_cons_self)) (hts _ x_in)
  have hU' : vx_Zq Bundle.tN "UNASSIGNED_STACK" Bundle.steD (mm_A z) s' s'.heap := by rw [hhp]; exact vx_Zq.moved hW0.alike (hU.kept hS.2.1)
  have hN' : vx_Zq Bundle.tN "SUPPRESSED_SENTINEL" Bundle.listD (mm_A z) s' s'.heap := by rw [hhp]; exact vx_Zq.moved hW0.alike (hN.kept hS.2.1)
  have h : ∀ w ∈ xOwn, w.before args s' = true := vx_own hat' (vx_isRefq hU'.1) (vx_isRefq hN'.1) hU'.2.word hN'.2.word
  have hown' : s'.vm.findClass RX11 = some m.cls := by rw [hvm]; exact hown
  have hins : (Cond.instantiable xN 6).before args s' = true := h _ (by simp [xOwn, Bundle.ownAtomsX])
  obtain ⟨vm₁, cX, kX, hfX, hkX, -, -, X₁, st1⟩ := Y.newCold hexec (own := RX11) (C := xN) (index := 257) (n := 6) hown' hk' hins hini'
    (g := F0 m 43 ls []) rfl (by rw [hb]; exact dr_43) (Nat.le_refl _) (Nat.le_refl _)
  generalize hT1 : (T.setVm vm₁).pushCell { cls := cX, slots := kX.instanceTypes.map defaultValue, vm := .none } = T1 at X₁ st1
  have hcellA : T1.heap[T.heap.size]? = some (freshCell cX kX) := by rw [← hT1]; exact State.heap_pushCell_size _ _
  have d3' : decode c.code (43 + 3) = .ok (.dup, 1) := by rw [hb]; exact dr_46
  have d4' : decode c.code (43 + 4) = .ok (.ldc_w 259, 3) := by rw [hb]; exact dr_47
  have hstr' : vk_R RX11 259 xT sa s' := vk_R.warm hW0 hstr
  obtain ⟨U, hsteps, hrun, hend, hW, hsame, ce, hce, hO1, hO2⟩ := x_ctor X₁ hexec htr hown' h (fun x hx => nomatch hx) hfX hkX hcellA (by rw [hhp, hT]; exact Nat.le_refl _) (msg := .ref sa) rfl
    (g := { method := m, pc := 43 + 7, locals := ls, stack := .ref sa :: .ref T.heap.size :: .ref T.heap.size :: [], locked := none }) rfl hsize rfl rfl (rest := []) rfl
    (by rw [hb]; exact dr_50) (by rw [hb]; exact dr_53) (fun x hx => (hout x hx).elim) hRf (show 2 * 0 + 1 + 81 ≤ R.locals by omega) hlocks
  obtain ⟨f1, f2⟩ := vx_frame hsame
  rw [hhp] at f1 f2
  have hWs : s.WarmedH U.vm := State.WarmedH.trans hW0 hW
  have hcl : s.vm.findClass xN = some ce.cls := by
    rw [hO1, ← hvm]
    exact hfX
  have hall : s.sameButNew ({ U with vm := s.vm } : State) locs mc ms := by
    subst hA
    obtain ⟨e1, e2⟩ := hsame
    rw [State.setFrames_setFrames] at e1
    have h2 : (T.setVm s.vm).sameButNew ({ U with vm := s.vm } : State) [] (0 + 1) (0 + 6) := ⟨e1, e2⟩
    have h3 := X.same.trans h2
    rw [List.append_nil] at h3
    exact h3.mono hc hs
  refine ⟨U, ?_, .threw T.heap.size, hrun, hend, Or.inr ⟨T.heap.size, rfl, xN, ce, locs, hX U hWs.alike f1 (fun q hq => f2 q hq (fun z hz => nomatch hz)), hce, hO2, hcl, hWs, hall, hf⟩⟩
  refine st1 _ ?_
  show Steps p.tables e below (T1.setTop { method := m, pc := 43 + 3, locals := ls, stack := .ref T.heap.size :: [], locked := none }) _
  jvm_step X₁.here [X₁.here.top, hexec, d3', Value.category]
  exact X₁.ldcStringW hexec (own := RX11) (text := xT) (index := 259) (a := sa) hown' hstr'.1 hstr'.2
    (g := { method := m, pc := 43 + 4, locals := ls, stack := .ref T.heap.size :: .ref T.heap.size :: [], locked := none }) rfl d4' _ hsteps
end XTW
