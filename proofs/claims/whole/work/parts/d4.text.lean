/-! A TEXT: how long it is, a sign of it (the JDK's own methods) -/
def xQ (r : Option Value) : Array Value → State → Outcome → State → Prop := fun _ st o t => o = .returned r ∧ t.heap = st.heap
section TXT
variable {p : Program} {l : Launch} {e : Env} {R : Room} {s : State} {m : MethodId} {args : Array Value} {below : List Frame} {meth : Method} {c : Code} {cells slots : Nat} {Q : State → Prop}
variable {D : va_G} {tA : Nat → ClassId} {φ : Nat → Nat} {z : Nat} {cc : ByteArray} {own : String} {nL n0 : Nat} {h : mm_H} {H : Heap} {locs : List Loc} {ls : Array Slot} {pc i n maxL : Nat} {y : MethodName} {bytes : ByteArray} {ret : Option FieldType} {rest : List Value} {Bp : State → Prop} {r : Option Value}
theorem jj_back {av : List Value} (hM : Met l y (Cond.code y bytes maxL ret :: mm_tbl) (mm_rm n) (va_Pc av Bp) (xQ r) 0 0 (fun _ => False)) (hbl : ∀ U g mk, Bp U → Bp (U.calling g mk av.toArray)) (hts : ∀ w ∈ mm_tbl, w.before args s = true) (hRo : n + 1 ≤ R.frames ∧ 16 + (maxL + 11) + 40 * n ≤ R.locals)
    (h3 : Cond.initialized y.cls ∈ mm_tbl) (h4 : Cond.code y bytes maxL ret ∈ mm_tbl) : Back l R p e below s args y 3 16 (PreOf R 0 0 (va_Pc av Bp)) (PostOf (xQ r) 0 0 (fun _ => False)) := by
  have hG : GoodIn mm_tbl (Cond.code y bytes maxL ret :: mm_tbl) := mm_good_ws (fun v hv => by
    rcases List.mem_cons.mp hv with rfl | hv
    · exact h4
    · exact hv)
  refine back_of (bytes := bytes) (maxL := maxL) (ret := ret) hM ?_ rfl rfl hRo.1 hRo.2 (pay_in hts hG) List.mem_cons_self (fun a' U hW => word_at hW (mm_tbl_good _ h3) (hts _ h3))
  intro a U g mk hq
  obtain ⟨rfl, q1⟩ := hq
  exact ⟨rfl, hbl U g mk q1⟩
theorem jj_nil {L : List Loc} (h : ∀ q ∈ L, (fun _ : Addr => False) q.base) : L = [] := by
  cases L with
  | nil => rfl
  | cons a b => exact absurd (h a List.mem_cons_self) (fun x => x)
theorem jj_stat {av : List Value} (hM : Met l y (Cond.code y bytes maxL ret :: mm_tbl) (mm_rm n) (va_Pc av Bp) (xQ r) 0 0 (fun _ => False)) (hbl : ∀ U g mk, Bp U → Bp (U.calling g mk av.toArray)) (hts : ∀ w ∈ mm_tbl, w.before args s = true) (hRo : n + 1 ≤ R.frames ∧ 16 + (maxL + 11) + 40 * n ≤ R.locals)
    (h1 : Cond.methodLink own i y ∈ mm_tbl) (h2 : Cond.static y ∈ mm_tbl) (h3 : Cond.initialized y.cls ∈ mm_tbl) (h4 : Cond.code y bytes maxL ret ∈ mm_tbl) (hy : mm_yok y av.length = true) (hx : p.tables.exec = Jvm.exec) (hb : c.code = cc) (hml : c.maxLocals = ls.size) (hown : s.vm.findClass own = some m.cls) (hf : cells ≤ R.cells ∧ slots ≤ R.slots)
    (hpre : ∀ U : State, U.heap = H → s.WarmedH U.vm → Bp U) (hwt : (rest.map fun v => v.category).sum ≤ 16) (hdg : decode cc pc = .ok (.invokestatic i, 3))
    (k : W p l e R s m args below meth c H locs cells slots Q (F0 m (pc + 3) ls (r.toList ++ rest))) : W p l e R s m args below meth c H locs cells slots Q (F0 m pc ls (av.reverse ++ rest)) := by
  simp only [mm_yok, Bool.and_eq_true, decide_eq_true_eq] at hy
  have hlen : ∀ sig, parseMethodDescriptor y.desc = some sig → av.length = sig.parameters.length := fun sig hs => by
    have h5 := hy.2
    rw [hs] at h5
    exact (Option.some.inj h5).symm
  intro T hT X1
  obtain ⟨v, vm₁, ⟨U', l2, c2, s2⟩, hW₁, X', ⟨g', mk, t, L, e1, e2, hq, q1, hL, q2, q3⟩, st1⟩ := callS X1 hx (bytes := bytes) (maxL := maxL) (ret := ret) hown (hts _ h1) (hts _ h2) (hts _ h3) (hts _ h4) ⟨hy.1.1, hy.1.2⟩ (jj_back (p := p) (e := e) (below := below) hM hbl hts hRo h3 h4) (g := F0 m pc ls (av.reverse ++ rest)) rfl hml.symm (argsL := av) (rest := rest) hlen rfl (show 2 * 0 + (rest.map fun v => v.category).sum ≤ 16 by omega) (by rw [hb]; exact hdg) (fun vm₁ hW₁ => ⟨hf.1, hf.2, rfl, hpre (T.setVm vm₁) hT hW₁⟩)
  dsimp only [Pt.U, Pt.locs, Pt.cells, Pt.slots] at X' e1 e2 q1 q2 q3 st1
  subst q1; subst q2; subst q3
  cases jj_nil hL
  rw [List.append_nil] at X'
  obtain ⟨hv, hh⟩ := hq
  cases hv
  obtain ⟨t2, a1, b1⟩ := k U' (by rw [e1, hh]; exact hT) X'
  exact ⟨t2, st1 t2 a1, b1⟩
theorem jj_virt {b : Nat} {av : List Value} (hM : Met l y (Cond.code y bytes maxL ret :: mm_tbl) (mm_rm n) (va_Pc (.ref b :: av) Bp) (xQ r) 0 0 (fun _ => False)) (hbl : ∀ U g mk, Bp U → Bp (U.calling g mk (Value.ref b :: av).toArray)) (hts : ∀ w ∈ mm_tbl, w.before args s = true) (hRo : n + 1 ≤ R.frames ∧ 16 + (maxL + 11) + 40 * n ≤ R.locals)
    (h1 : Cond.methodLink own i y ∈ mm_tbl) (h2 : Cond.instanceMethod y ∈ mm_tbl) (h3 : Cond.selects y.cls y y ∈ mm_tbl) (h4 : Cond.initialized y.cls ∈ mm_tbl) (h5 : Cond.code y bytes maxL ret ∈ mm_tbl) (hy : mm_yok y av.length = true) (hx : p.tables.exec = Jvm.exec) (hb : c.code = cc) (hml : c.maxLocals = ls.size) (hown : s.vm.findClass own = some m.cls) (hf : cells ≤ R.cells ∧ slots ≤ R.slots)
    (hrec : ∃ cell : Cell, H[b]? = some cell ∧ cell.vm.isStatics = false ∧ s.vm.findClass y.cls = some cell.cls)
    (hpre : ∀ U : State, U.heap = H → s.WarmedH U.vm → Bp U) (hwt : (rest.map fun v => v.category).sum ≤ 16) (hdg : decode cc pc = .ok (.invokevirtual i, 3))
    (k : W p l e R s m args below meth c H locs cells slots Q (F0 m (pc + 3) ls (r.toList ++ rest))) : W p l e R s m args below meth c H locs cells slots Q (F0 m pc ls (av.reverse ++ .ref b :: rest)) := by
  simp only [mm_yok, Bool.and_eq_true, decide_eq_true_eq] at hy
  have hlen : ∀ sig, parseMethodDescriptor y.desc = some sig → av.length = sig.parameters.length := fun sig hs => by
    have h5 := hy.2
    rw [hs] at h5
    exact (Option.some.inj h5).symm
  obtain ⟨cell, hc1, hc2, hc3⟩ := hrec
  intro T hT X1
  obtain ⟨v, vm₁, ⟨U', l2, c2, s2⟩, hW₁, X', ⟨g', mk, t, L, e1, e2, hq, q1, hL, q2, q3⟩, st1⟩ := callV X1 hx (C := y.cls) (bytes := bytes) (maxL := maxL) (ret := ret) hown (hts _ h1) (hts _ h2) (hts _ h3) (hts _ h5) ⟨hy.1.1, hy.1.2⟩ (jj_back (p := p) (e := e) (below := below) hM hbl hts hRo h4 h5) (by rw [hT]; exact hc1) hc2 hc3 (g := F0 m pc ls (av.reverse ++ .ref b :: rest)) rfl hml.symm (argsL := av) (rest := rest) hlen rfl (show 2 * 0 + (rest.map fun v => v.category).sum ≤ 16 by omega) (by rw [hb]; exact hdg) (fun vm₁ hW₁ => ⟨hf.1, hf.2, rfl, hpre (T.setVm vm₁) hT hW₁⟩)
  dsimp only [Pt.U, Pt.locs, Pt.cells, Pt.slots] at X' e1 e2 q1 q2 q3 st1
  subst q1; subst q2; subst q3
  cases jj_nil hL
  rw [List.append_nil] at X'
  obtain ⟨hv, hh⟩ := hq
  cases hv
  obtain ⟨t2, a1, b1⟩ := k U' (by rw [e1, hh]; exact hT) X'
  exact ⟨t2, st1 t2 a1, b1⟩
theorem xS.rec (hX : xS φ z s) (hS : va_S (mm_A z) s.heap H locs) : ∃ cell : Cell, H[φ 1000]? = some cell ∧ cell.vm.isStatics = false ∧ s.vm.findClass "java/lang/String" = some cell.cls := by
  obtain ⟨cell, h1, h2, h3, -⟩ := hX.2.1.kept hS.2.1
  exact ⟨cell, h1, h2, h3⟩
end TXT
theorem xS.call {φ : Nat → Nat} {z : Nat} (av : List Value) : ∀ (U : State) g mk, xS φ z U → xS φ z (U.calling g mk av.toArray) := fun U g mk h => xS.same (s := U) (U := U.calling g mk av.toArray) rfl rfl h
theorem j_coder (l : Launch) (φ : Nat → Nat) (z : Nat) : Met l yJ0_coder_7d493 (Cond.code yJ0_coder_7d493 cJ0_coder_7d493 1 (some .byte) :: mm_tbl) (mm_rm 1) (va_Pc [.ref (φ 1000)] (xS φ z)) (xQ (some (.int 0))) 0 0 (fun _ => False) := by
  refine Met.ofW (cc := cJ0_coder_7d493) (maxL := 1) (ret := (some .byte)) (by decide) rfl ?_
  intro p e s m args below meth c s₁ B hml hpre
  obtain ⟨rfl, hX⟩ := hpre
  have hts0 := atoms_spec (ws := Cond.code yJ0_coder_7d493 cJ0_coder_7d493 1 (some .byte) :: mm_tbl) B.pre
  have hts : ∀ w ∈ mm_tbl, w.before ([.ref (φ 1000)] : List Value).toArray s = true := fun w hw => hts0 w (List.mem_cons_of_mem _ hw)
  have hown : s.vm.findClass RJ0 = some m.cls := findClass_of_methodNamed B.named
  have hx := B.exec
  have hb := B.bytes
  have hlocks := B.notSynchronized
  have hr := B.returns
  have hS : va_S (mm_A z) s.heap s.heap [] := va_S.rf
  have hl := lv_entry ([.ref (φ 1000)]) (n := 1) (Nat.le_of_ble_eq_true rfl)
  rw [lg_entry_eq]
  generalize (lg_sl ([.ref (φ 1000)]) ++ List.replicate (1 - (lg_sl ([.ref (φ 1000)])).length) Slot.unset).toArray = ls at hl ⊢
  have hl : lv_has ls 1 [(0, .ref (φ 1000))] := hl
  refine va_gets hx hb hX.2.2.2.2.1 hS hown (hts _ q_210) (fun _ h => h) dJ0_coder_7d493_0 ?_
  refine lv_if_eq (tgt := 13) hx hb dJ0_coder_7d493_3 (by decide) (fun cx => absurd cx (by decide)) (fun _ => ?_)
  refine lv_aload_n (x := φ 1000) hx hb (k := 0) dJ0_coder_7d493_6 rfl (lv_at hl 0 rfl) ?_
  refine vk_getf hx hb hX.2.2.1 hS hown (hts _ q_2525) (fun _ h => h) dJ0_coder_7d493_7 ?_
  refine lv_goto (tgt := 14) hx hb dJ0_coder_7d493_10 (by decide) ?_
  exact W.zret hx hb hr rfl (fun t ht hW => ⟨rfl, ht⟩) (fun q hq => by cases hq) dJ0_coder_7d493_14
theorem j_isLatin1 (l : Launch) (φ : Nat → Nat) (z : Nat) : Met l yJ0_isLatin1_aae02 (Cond.code yJ0_isLatin1_aae02 cJ0_isLatin1_aae02 1 (some .boolean) :: mm_tbl) (mm_rm 1) (va_Pc [.ref (φ 1000)] (xS φ z)) (xQ (some (.int 1))) 0 0 (fun _ => False) := by
  refine Met.ofW (cc := cJ0_isLatin1_aae02) (maxL := 1) (ret := (some .boolean)) (by decide) rfl ?_
  intro p e s m args below meth c s₁ B hml hpre
  obtain ⟨rfl, hX⟩ := hpre
  have hts0 := atoms_spec (ws := Cond.code yJ0_isLatin1_aae02 cJ0_isLatin1_aae02 1 (some .boolean) :: mm_tbl) B.pre
  have hts : ∀ w ∈ mm_tbl, w.before ([.ref (φ 1000)] : List Value).toArray s = true := fun w hw => hts0 w (List.mem_cons_of_mem _ hw)
  have hown : s.vm.findClass RJ0 = some m.cls := findClass_of_methodNamed B.named
  have hx := B.exec
  have hb := B.bytes
  have hlocks := B.notSynchronized
  have hr := B.returns
  have hS : va_S (mm_A z) s.heap s.heap [] := va_S.rf
  have hl := lv_entry ([.ref (φ 1000)]) (n := 1) (Nat.le_of_ble_eq_true rfl)
  rw [lg_entry_eq]
  generalize (lg_sl ([.ref (φ 1000)]) ++ List.replicate (1 - (lg_sl ([.ref (φ 1000)])).length) Slot.unset).toArray = ls at hl ⊢
  have hl : lv_has ls 1 [(0, .ref (φ 1000))] := hl
  refine va_gets hx hb hX.2.2.2.2.1 hS hown (hts _ q_210) (fun _ h => h) dJ0_isLatin1_aae02_0 ?_
  refine lv_if_eq (tgt := 17) hx hb dJ0_isLatin1_aae02_3 (by decide) (fun cx => absurd cx (by decide)) (fun _ => ?_)
  refine lv_aload_n (x := φ 1000) hx hb (k := 0) dJ0_isLatin1_aae02_6 rfl (lv_at hl 0 rfl) ?_
  refine vk_getf hx hb hX.2.2.1 hS hown (hts _ q_2525) (fun _ h => h) dJ0_isLatin1_aae02_7 ?_
  refine lv_if_ne (tgt := 17) hx hb dJ0_isLatin1_aae02_10 (by decide) (fun cx => absurd rfl cx) (fun _ => ?_)
  refine lv_iconst (v := 1) hx hb dJ0_isLatin1_aae02_13 (by decide) ?_
  refine lv_goto (tgt := 18) hx hb dJ0_isLatin1_aae02_14 (by decide) ?_
  exact W.zret hx hb hr rfl (fun t ht hW => ⟨rfl, ht⟩) (fun q hq => by cases hq) dJ0_isLatin1_aae02_18
theorem j_length (l : Launch) (φ : Nat → Nat) (z : Nat) : Met l yJ0_length_8abf5 (Cond.code yJ0_length_8abf5 cJ0_length_8abf5 1 (some .int) :: mm_tbl) (mm_rm 2) (va_Pc [.ref (φ 1000)] (xS φ z)) (xQ (some (.int 193))) 0 0 (fun _ => False) := by
  refine Met.ofW (cc := cJ0_length_8abf5) (maxL := 1) (ret := (some .int)) (by decide) rfl ?_
  intro p e s m args below meth c s₁ B hml hpre
  obtain ⟨rfl, hX⟩ := hpre
  have hts0 := atoms_spec (ws := Cond.code yJ0_length_8abf5 cJ0_length_8abf5 1 (some .int) :: mm_tbl) B.pre
  have hts : ∀ w ∈ mm_tbl, w.before ([.ref (φ 1000)] : List Value).toArray s = true := fun w hw => hts0 w (List.mem_cons_of_mem _ hw)
  have hown : s.vm.findClass RJ0 = some m.cls := findClass_of_methodNamed B.named
  have hx := B.exec
  have hb := B.bytes
  have hlocks := B.notSynchronized
  have hr := B.returns
  have hS : va_S (mm_A z) s.heap s.heap [] := va_S.rf
  have hl := lv_entry ([.ref (φ 1000)]) (n := 1) (Nat.le_of_ble_eq_true rfl)
  rw [lg_entry_eq]
  generalize (lg_sl ([.ref (φ 1000)]) ++ List.replicate (1 - (lg_sl ([.ref (φ 1000)])).length) Slot.unset).toArray = ls at hl ⊢
  have hl : lv_has ls 1 [(0, .ref (φ 1000))] := hl
  obtain ⟨t, hV, hT⟩ := hX.2.2.2.1
  refine lv_aload_n (x := φ 1000) hx hb (k := 0) dJ0_length_8abf5_0 rfl (lv_at hl 0 rfl) ?_
  refine vk_getf hx hb hV hS hown (hts _ q_2524) (fun _ h => h) dJ0_length_8abf5_1 ?_
  refine va_tlen hx hb hT hS (v := 193) (by decide +kernel) dJ0_length_8abf5_4 ?_
  refine lv_aload_n (x := φ 1000) hx hb (k := 0) dJ0_length_8abf5_5 rfl (lv_at hl 0 rfl) ?_
  refine jj_virt (y := yJ0_coder_7d493) (b := φ 1000) (av := []) (rest := [.int 193]) (i := 335) (j_coder l φ z) (xS.call _) hts ⟨Nat.le_of_ble_eq_true rfl, Nat.le_of_ble_eq_true rfl⟩ q_206 q_207 q_208 q_165 q_209 (by decide +kernel) hx hb (hml.trans hl.1.symm) hown ⟨Nat.zero_le _, Nat.zero_le _⟩ (hX.rec hS) (fun U hU hW => hX.at hW (fun a _ _ => by rw [hU])) (by decide) dJ0_length_8abf5_6 ?_
  refine lv_ishr (x := 193) (y := 0) hx hb dJ0_length_8abf5_9 ?_
  exact W.iret hx hb hr (fun t ht hW => ⟨rfl, ht⟩) (fun q hq => by cases hq) dJ0_length_8abf5_10
theorem j_pre (l : Launch) {i n : Int32} {v : Value} (hv : v = .null ∨ ∃ t, v = .ref t) (h0 : ¬ i < 0) (h1 : i < n) : Met l yJ3_checkIndex_8e157 (Cond.code yJ3_checkIndex_8e157 cJ3_checkIndex_8e157 3 (some .int) :: mm_tbl) (mm_rm 1) (va_Pc [.int i, .int n, v] (fun _ => True)) (xQ (some (.int i))) 0 0 (fun _ => False) := by
  refine Met.ofW (cc := cJ3_checkIndex_8e157) (maxL := 3) (ret := (some .int)) (by decide) rfl ?_
  intro p e s m args below meth c s₁ B hml hpre
  obtain ⟨rfl, hX⟩ := hpre
  have hts0 := atoms_spec (ws := Cond.code yJ3_checkIndex_8e157 cJ3_checkIndex_8e157 3 (some .int) :: mm_tbl) B.pre
  have hts : ∀ w ∈ mm_tbl, w.before ([.int i, .int n, v] : List Value).toArray s = true := fun w hw => hts0 w (List.mem_cons_of_mem _ hw)
  have hown : s.vm.findClass RJ3 = some m.cls := findClass_of_methodNamed B.named
  have hx := B.exec
  have hb := B.bytes
  have hlocks := B.notSynchronized
  have hr := B.returns
  have hl := lv_entry ([.int i, .int n, v]) (n := 3) (by rcases hv with rfl | ⟨t, rfl⟩ <;> exact Nat.le_of_ble_eq_true rfl)
  rw [lg_entry_eq]
  generalize (lg_sl ([.int i, .int n, v]) ++ List.replicate (3 - (lg_sl ([.int i, .int n, v])).length) Slot.unset).toArray = ls at hl ⊢
  have hl : lv_has ls 3 [(0, .int i), (1, .int n), (2, v)] := hl
  refine lv_iload_n (x := i) hx hb (k := 0) dJ3_checkIndex_8e157_0 rfl (lv_at hl 0 rfl) ?_
  refine lv_if_lt (tgt := 9) hx hb dJ3_checkIndex_8e157_1 (by decide) (fun cx => absurd cx h0) (fun _ => ?_)
  refine lv_iload_n (x := i) hx hb (k := 0) dJ3_checkIndex_8e157_4 rfl (lv_at hl 0 rfl) ?_
  refine lv_iload_n (x := n) hx hb (k := 1) dJ3_checkIndex_8e157_5 rfl (lv_at hl 1 rfl) ?_
  refine lv_icmp_lt (tgt := 16) hx hb dJ3_checkIndex_8e157_6 (by decide) (fun _ => ?_) (fun cx => absurd h1 cx)
  refine lv_iload_n (x := i) hx hb (k := 0) dJ3_checkIndex_8e157_16 rfl (lv_at hl 0 rfl) ?_
  exact W.iret hx hb hr (fun t ht hW => ⟨rfl, ht⟩) (fun q hq => by cases hq) dJ3_checkIndex_8e157_17
theorem j_check (l : Launch) (φ : Nat → Nat) (z : Nat) {i n : Int32} (h0 : ¬ i < 0) (h1 : i < n) : Met l yJ0_checkIndex_df160 (Cond.code yJ0_checkIndex_df160 cJ0_checkIndex_df160 2 none :: mm_tbl) (mm_rm 2) (va_Pc [.int i, .int n] (xS φ z)) (xQ none) 0 0 (fun _ => False) := by
  refine Met.ofW (cc := cJ0_checkIndex_df160) (maxL := 2) (ret := none) (by decide) rfl ?_
  intro p e s m args below meth c s₁ B hml hpre
  obtain ⟨rfl, hX⟩ := hpre
  have hts0 := atoms_spec (ws := Cond.code yJ0_checkIndex_df160 cJ0_checkIndex_df160 2 none :: mm_tbl) B.pre
  have hts : ∀ w ∈ mm_tbl, w.before ([.int i, .int n] : List Value).toArray s = true := fun w hw => hts0 w (List.mem_cons_of_mem _ hw)
  have hown : s.vm.findClass RJ0 = some m.cls := findClass_of_methodNamed B.named
  have hx := B.exec
  have hb := B.bytes
  have hlocks := B.notSynchronized
  have hr := B.returns
  have hS : va_S (mm_A z) s.heap s.heap [] := va_S.rf
  have hl := lv_entry ([.int i, .int n]) (n := 2) (Nat.le_of_ble_eq_true rfl)
  rw [lg_entry_eq]
  generalize (lg_sl ([.int i, .int n]) ++ List.replicate (2 - (lg_sl ([.int i, .int n])).length) Slot.unset).toArray = ls at hl ⊢
  have hl : lv_has ls 2 [(0, .int i), (1, .int n)] := hl
  obtain ⟨v, hv, hZ⟩ : ∃ v : Value, (v = .null ∨ ∃ t, v = .ref t) ∧ va_Z "jdk/internal/util/Preconditions" "SIOOBE_FORMATTER" "Ljava/util/function/BiFunction;" v (mm_A z) s s.heap := by
    rcases hX.2.2.2.2.2 with h | ⟨t, h⟩
    · exact ⟨_, Or.inl rfl, h⟩
    · exact ⟨_, Or.inr ⟨t, rfl⟩, h⟩
  refine lv_iload_n (x := i) hx hb (k := 0) dJ0_checkIndex_df160_0 rfl (lv_at hl 0 rfl) ?_
  refine lv_iload_n (x := n) hx hb (k := 1) dJ0_checkIndex_df160_1 rfl (lv_at hl 1 rfl) ?_
  refine va_gets hx hb hZ hS hown (hts _ q_226) (fun _ h => h) dJ0_checkIndex_df160_2 ?_
  refine jj_stat (y := yJ3_checkIndex_8e157) (av := [.int i, .int n, v]) (rest := []) (i := 1059) (j_pre l hv h0 h1) (fun _ _ _ _ => trivial) hts ⟨Nat.le_of_ble_eq_true rfl, Nat.le_of_ble_eq_true rfl⟩ q_228 q_229 q_167 q_230 (show mm_yok yJ3_checkIndex_8e157 3 = true by decide +kernel) hx hb (hml.trans hl.1.symm) hown ⟨Nat.zero_le _, Nat.zero_le _⟩ (fun _ _ _ => trivial) (by decide) dJ0_checkIndex_df160_5 ?_
  refine lv_pop hx hb (va := .int i) dJ0_checkIndex_df160_8 rfl ?_
  exact W.vret hx hb hr (fun t ht hW => ⟨rfl, ht⟩) (fun q hq => by cases hq) dJ0_checkIndex_df160_9
theorem xByt_ok : xByt.all (fun b => decide (((b &&& 255).toUInt32 % 65536).toInt32 = b) && decide (narrow .char (.int b) = .int b)) = true := by decide +kernel
theorem xByt_at {k : Nat} (hk : k < 193) : (((xByt.getD k 0) &&& 255).toUInt32 % 65536).toInt32 = xByt.getD k 0 ∧ narrow .char (.int (xByt.getD k 0)) = .int (xByt.getD k 0) := by
  have h := List.all_eq_true.mp xByt_ok (xByt.getD k 0) (by
    have h2 : k < xByt.length := hk
    rw [List.getD_eq_getElem?_getD, List.getElem?_eq_getElem h2]
    exact List.getElem_mem h2)
  simpa only [Bool.and_eq_true, decide_eq_true_eq] using h
theorem j_lat (l : Launch) (φ : Nat → Nat) (z : Nat) {t k : Nat} (hk : k < 193) : Met l yJ1_charAt_3b067 (Cond.code yJ1_charAt_3b067 cJ1_charAt_3b067 2 (some .char) :: mm_tbl) (mm_rm 3) (va_Pc [.ref t, .int (nI k)] (fun U => xS φ z U ∧ va_T .byte t 193 (fun j => .int (xByt.getD j 0)) (mm_A z) U U.heap)) (xQ (some (.int (xByt.getD k 0)))) 0 0 (fun _ => False) := by
  refine Met.ofW (cc := cJ1_charAt_3b067) (maxL := 2) (ret := (some .char)) (by decide) rfl ?_
  intro p e s m args below meth c s₁ B hml hpre
  obtain ⟨rfl, hX⟩ := hpre
  have hts0 := atoms_spec (ws := Cond.code yJ1_charAt_3b067 cJ1_charAt_3b067 2 (some .char) :: mm_tbl) B.pre
  have hts : ∀ w ∈ mm_tbl, w.before ([.ref t, .int (nI k)] : List Value).toArray s = true := fun w hw => hts0 w (List.mem_cons_of_mem _ hw)
  have hown : s.vm.findClass RJ1 = some m.cls := findClass_of_methodNamed B.named
  have hx := B.exec
  have hb := B.bytes
  have hlocks := B.notSynchronized
  have hr := B.returns
  have hS : va_S (mm_A z) s.heap s.heap [] := va_S.rf
  have hl := lv_entry ([.ref t, .int (nI k)]) (n := 2) (Nat.le_of_ble_eq_true rfl)
  rw [lg_entry_eq]
  generalize (lg_sl ([.ref t, .int (nI k)]) ++ List.replicate (2 - (lg_sl ([.ref t, .int (nI k)])).length) Slot.unset).toArray = ls at hl ⊢
  have hl : lv_has ls 2 [(0, .ref t), (1, .int (nI k))] := hl
  obtain ⟨hX, hT⟩ := hX
  obtain ⟨b1, b2⟩ := xByt_at hk
  have h0 : ¬ nI k < 0 := lm (n := 0) (Nat.zero_le _) (by omega)
  have h1 : nI k < 193 := lp (n := 193) hk (by omega)
  refine lv_iload_n (x := nI k) hx hb (k := 1) dJ1_charAt_3b067_0 rfl (lv_at hl 1 rfl) ?_
  refine lv_aload_n (x := t) hx hb (k := 0) dJ1_charAt_3b067_1 rfl (lv_at hl 0 rfl) ?_
  refine va_tlen hx hb hT hS (v := 193) (by decide +kernel) dJ1_charAt_3b067_2 ?_
  refine jj_stat (y := yJ0_checkIndex_df160) (av := [.int (nI k), .int 193]) (rest := []) (i := 9) (j_check l φ z h0 h1) (xS.call _) hts ⟨Nat.le_of_ble_eq_true rfl, Nat.le_of_ble_eq_true rfl⟩ q_223 q_224 q_165 q_225 (show mm_yok yJ0_checkIndex_df160 2 = true by decide +kernel) hx hb (hml.trans hl.1.symm) hown ⟨Nat.zero_le _, Nat.zero_le _⟩ (fun U hU hW => hX.at hW (fun a _ _ => by rw [hU])) (by decide) dJ1_charAt_3b067_3 ?_
  refine lv_aload_n (x := t) hx hb (k := 0) dJ1_charAt_3b067_6 rfl (lv_at hl 0 rfl) ?_
  refine lv_iload_n (x := nI k) hx hb (k := 1) dJ1_charAt_3b067_7 rfl (lv_at hl 1 rfl) ?_
  refine va_tb hx hb hT hS (i := nI k) (v := .int (xByt.getD k 0)) (by unfold vp_in; rw [nI_tn (by omega)]; exact fun hh => hh.elim h0 (by omega)) (by rw [nI_tn (by omega)]) dJ1_charAt_3b067_8 ?_
  refine lv_sipush (v := 255) hx hb dJ1_charAt_3b067_9 (by decide) ?_
  refine lv_iand hx hb dJ1_charAt_3b067_12 ?_
  refine lv_i2c (v := xByt.getD k 0) hx hb dJ1_charAt_3b067_13 b1 ?_
  exact W.zret hx hb hr b2 (fun t ht hW => ⟨rfl, ht⟩) (fun q hq => by cases hq) dJ1_charAt_3b067_14
theorem j_charAt (l : Launch) (φ : Nat → Nat) (z : Nat) {k : Nat} (hk : k < 193) : Met l yJ0_charAt_5068e (Cond.code yJ0_charAt_5068e cJ0_charAt_5068e 2 (some .char) :: mm_tbl) (mm_rm 4) (va_Pc [.ref (φ 1000), .int (nI k)] (xS φ z)) (xQ (some (.int (xByt.getD k 0)))) 0 0 (fun _ => False) := by
  refine Met.ofW (cc := cJ0_charAt_5068e) (maxL := 2) (ret := (some .char)) (by decide) rfl ?_
  intro p e s m args below meth c s₁ B hml hpre
  obtain ⟨rfl, hX⟩ := hpre
  have hts0 := atoms_spec (ws := Cond.code yJ0_charAt_5068e cJ0_charAt_5068e 2 (some .char) :: mm_tbl) B.pre
  have hts : ∀ w ∈ mm_tbl, w.before ([.ref (φ 1000), .int (nI k)] : List Value).toArray s = true := fun w hw => hts0 w (List.mem_cons_of_mem _ hw)
  have hown : s.vm.findClass RJ0 = some m.cls := findClass_of_methodNamed B.named
  have hx := B.exec
  have hb := B.bytes
  have hlocks := B.notSynchronized
  have hr := B.returns
  have hS : va_S (mm_A z) s.heap s.heap [] := va_S.rf
  have hl := lv_entry ([.ref (φ 1000), .int (nI k)]) (n := 2) (Nat.le_of_ble_eq_true rfl)
  rw [lg_entry_eq]
  generalize (lg_sl ([.ref (φ 1000), .int (nI k)]) ++ List.replicate (2 - (lg_sl ([.ref (φ 1000), .int (nI k)])).length) Slot.unset).toArray = ls at hl ⊢
  have hl : lv_has ls 2 [(0, .ref (φ 1000)), (1, .int (nI k))] := hl
  obtain ⟨t, hV, hT⟩ := hX.2.2.2.1
  obtain ⟨b1, b2⟩ := xByt_at hk
  refine lv_aload_n (x := φ 1000) hx hb (k := 0) dJ0_charAt_5068e_0 rfl (lv_at hl 0 rfl) ?_
  refine jj_virt (y := yJ0_isLatin1_aae02) (b := φ 1000) (av := []) (rest := []) (i := 492) (j_isLatin1 l φ z) (xS.call _) hts ⟨Nat.le_of_ble_eq_true rfl, Nat.le_of_ble_eq_true rfl⟩ q_216 q_217 q_218 q_165 q_219 (by decide +kernel) hx hb (hml.trans hl.1.symm) hown ⟨Nat.zero_le _, Nat.zero_le _⟩ (hX.rec hS) (fun U hU hW => hX.at hW (fun a _ _ => by rw [hU])) (by decide) dJ0_charAt_5068e_1 ?_
  refine lv_if_eq (tgt := 16) hx hb dJ0_charAt_5068e_4 (by decide) (fun cx => absurd cx (by decide)) (fun _ => ?_)
  refine lv_aload_n (x := φ 1000) hx hb (k := 0) dJ0_charAt_5068e_7 rfl (lv_at hl 0 rfl) ?_
  refine vk_getf hx hb hV hS hown (hts _ q_2524) (fun _ h => h) dJ0_charAt_5068e_8 ?_
  refine lv_iload_n (x := nI k) hx hb (k := 1) dJ0_charAt_5068e_11 rfl (lv_at hl 1 rfl) ?_
  refine jj_stat (y := yJ1_charAt_3b067) (av := [.ref t, .int (nI k)]) (rest := []) (i := 495) (j_lat l φ z (t := t) hk) (fun U g mk h => ⟨xS.call _ U g mk h.1, va_T.moved (u := U) (U := U.calling g mk _) (Vm.Alike.refl U.vm) h.2⟩) hts ⟨Nat.le_of_ble_eq_true rfl, Nat.le_of_ble_eq_true rfl⟩ q_220 q_221 q_166 q_222 (show mm_yok yJ1_charAt_3b067 2 = true by decide +kernel) hx hb (hml.trans hl.1.symm) hown ⟨Nat.zero_le _, Nat.zero_le _⟩ (fun U hU hW => ⟨hX.at hW (fun a _ _ => by rw [hU]), va_T.moved hW.alike (by rw [hU]; exact hT)⟩) (by decide) dJ0_charAt_5068e_12 ?_
  exact W.zret hx hb hr b2 (fun t ht hW => ⟨rfl, ht⟩) (fun q hq => by cases hq) dJ0_charAt_5068e_15
section TXZ
variable {p : Program} {l : Launch} {e : Env} {R : Room} {s : State} {m : MethodId} {args : Array Value} {below : List Frame} {meth : Method} {c : Code} {cells slots : Nat} {Q : State → Prop}
variable {D : va_G} {tA : Nat → ClassId} {φ : Nat → Nat} {z : Nat} {cc : ByteArray} {own : String} {nL n0 : Nat} {h : mm_H} {pc i : Nat} {lv : mm_L} {st : List Value}
theorem mx_zldc (X : mm_X p s m args c cc RX9 nL D tA) (hX : xS φ z s) (hdg : decode cc pc = .ok (.ldc 42, 2)) (k : mm_Z p l e R s m args below meth c cells slots Q D tA φ z nL (pc + 2) lv (.ref 1000 :: st) h) : mm_Z p l e R s m args below meth c cells slots Q D tA φ z nL pc lv st h := by
  intro H locs ls hR hS hls
  obtain ⟨hx, hb, hml, hown, hts, hK⟩ := X
  exact va_ldcS hx hb hown hX.1 hdg (k H locs ls hR hS hls)
theorem mx_zlen (X : mm_X p s m args c cc own nL D tA) (hX : xS φ z s) (hlk : Cond.methodLink own i yJ0_length_8abf5 ∈ mm_tbl) (hRo : 3 ≤ R.frames ∧ 120 ≤ R.locals) (hf : cells ≤ R.cells ∧ slots ≤ R.slots) (hwt : mm_wt st ≤ 16) (hdg : decode cc pc = .ok (.invokevirtual i, 3)) (k : mm_Z p l e R s m args below meth c cells slots Q D tA φ z nL (pc + 3) lv (.int 193 :: st) h) : mm_Z p l e R s m args below meth c cells slots Q D tA φ z nL pc lv (.ref 1000 :: st) h := by
  intro H locs ls hR hS hls
  obtain ⟨hx, hb, hml, hown, hts, hK⟩ := X
  exact jj_virt (y := yJ0_length_8abf5) (b := φ 1000) (av := []) (rest := st.map (mm_v φ)) (j_length l φ z) (xS.call _) hts ⟨by omega, by omega⟩ hlk q_203 q_204 q_165 q_205 (by decide +kernel) hx hb (hml.trans hls.1.symm) hown hf (hX.rec hS) (fun U hU hW => hX.at hW (by rw [hU]; exact hS.2.1)) (by rw [mm_wt_map]; exact hwt) hdg (k H locs ls hR hS hls)
theorem mx_zchar {x : Int32} (X : mm_X p s m args c cc own nL D tA) (hX : xS φ z s) (hlk : Cond.methodLink own i yJ0_charAt_5068e ∈ mm_tbl) (hRo : 5 ≤ R.frames ∧ 200 ≤ R.locals) (hf : cells ≤ R.cells ∧ slots ≤ R.slots) (hwt : mm_wt st ≤ 16) (h0 : ¬ x < 0) (h1 : x.toNatClampNeg < 193) (hdg : decode cc pc = .ok (.invokevirtual i, 3)) (k : mm_Z p l e R s m args below meth c cells slots Q D tA φ z nL (pc + 3) lv (.int (xByt.getD x.toNatClampNeg 0) :: st) h) : mm_Z p l e R s m args below meth c cells slots Q D tA φ z nL pc lv (.int x :: .ref 1000 :: st) h := by
  intro H locs ls hR hS hls
  obtain ⟨hx, hb, hml, hown, hts, hK⟩ := X
  obtain ⟨j, hj, rfl⟩ := (n_cases x).resolve_left h0
  rw [nI_tn hj] at h1 k
  exact jj_virt (y := yJ0_charAt_5068e) (b := φ 1000) (av := [.int (nI j)]) (rest := st.map (mm_v φ)) (j_charAt l φ z h1) (xS.call _) hts ⟨by omega, by omega⟩ hlk q_213 q_214 q_165 q_215 (show mm_yok yJ0_charAt_5068e 1 = true by decide +kernel) hx hb (hml.trans hls.1.symm) hown hf (hX.rec hS) (fun U hU hW => hX.at hW (by rw [hU]; exact hS.2.1)) (by rw [mm_wt_map]; exact hwt) hdg (k H locs ls hR hS hls)
end TXZ
