/-! THE SMALL MACHINE THAT MAKES CELLS -/
abbrev mx_F : Type := List Value → mm_H → Nat → Option mm_H
/-- objects (index: class, its fields as they are born); arrays of references (index: tag); constructors (index: kind 0 Object's 1 a class's; arguments, cells, slots, what it does); texts (index: 0); what is asked of a text (index: 0 how long, 1 a sign) -/
abbrev mx_T : Type := List (Nat × Nat × List Value) × List (Nat × Nat) × List (Nat × Nat × Nat × Nat × Nat × mx_F) × List (Nat × Nat) × List (Nat × Nat)
abbrev mx_G (ρ : Type) : Type := Nat → mm_L → List Value → mm_H → Nat → Nat → Option ρ
/-- may a cell be made: from which cell on this method makes them, up to which, up to how many slots -/
def mx_ok (h : mm_H) (B : Nat × Nat × Nat) (N N' S' : Nat) : Bool := (Nat.beq B.1 N || mx_live h N) && (Nat.ble 1 N && (Nat.ble N 990 && (Nat.ble N' B.2.1 && Nat.ble S' B.2.2)))
def xLang : String := "page batch index on row point at choose part insert remove change begin step stop crash resume pack plain down once partial firm loose bound a b c from to is over every twin pointed not and or "
def xByt : List Int32 := [112, 97, 103, 101, 32, 98, 97, 116, 99, 104, 32, 105, 110, 100, 101, 120, 32, 111, 110, 32, 114, 111, 119, 32, 112, 111, 105, 110, 116, 32, 97, 116, 32, 99, 104, 111, 111, 115, 101, 32, 112, 97, 114, 116, 32, 105, 110, 115, 101, 114, 116, 32, 114, 101, 109, 111, 118, 101, 32, 99, 104, 97, 110, 103, 101, 32, 98, 101, 103, 105, 110, 32, 115, 116, 101, 112, 32, 115, 116, 111, 112, 32, 99, 114, 97, 115, 104, 32, 114, 101, 115, 117, 109, 101, 32, 112, 97, 99, 107, 32, 112, 108, 97, 105, 110, 32, 100, 111, 119, 110, 32, 111, 110, 99, 101, 32, 112, 97, 114, 116, 105, 97, 108, 32, 102, 105, 114, 109, 32, 108, 111, 111, 115, 101, 32, 98, 111, 117, 110, 100, 32, 97, 32, 98, 32, 99, 32, 102, 114, 111, 109, 32, 116, 111, 32, 105, 115, 32, 111, 118, 101, 114, 32, 101, 118, 101, 114, 121, 32, 116, 119, 105, 110, 32, 112, 111, 105, 110, 116, 101, 100, 32, 110, 111, 116, 32, 97, 110, 100, 32, 111, 114, 32]
/-- the first is an object -/
def mx_ref {ρ : Type} (as : List Value) (o : Option ρ) : Option ρ := match as with
  | .ref _ :: _ => o
  | _ => none
def mx_st {ρ : Type} (P : mm_P) (X : mx_T) (B : Nat × Nat × Nat) (go : mx_G ρ) (q : mm_I) (lv : mm_L) (st : List Value) (h : mm_H) (N S : Nat) : Option ρ := match q.2.1 with
  | .new i => (mm_lk X.1 i).bind fun w => if mx_ok h B N (N + 1) (S + w.2.length) = true then go (q.1 + 3) lv (.ref N :: st) (mm_up h N (.inr w)) (N + 1) (S + w.2.length) else none
  | .newarray ty => mm_i1 st fun n r => (mx_arr ty n.toNatClampNeg).bind fun w => if n < 0 then none else if Nat.ble n.toNatClampNeg 10000 = true then (if mx_ok h B N (N + 1) (S + n.toNatClampNeg) = true then go (q.1 + 2) lv (.ref N :: r) (mm_up h N (.inl w)) (N + 1) (S + n.toNatClampNeg) else none) else none
  | .anewarray i => mm_i1 st fun n r => (mm_lk X.2.1 i).bind fun t => if n < 0 then none else if Nat.ble n.toNatClampNeg 10000 = true then (if mx_ok h B N (N + 1) (S + n.toNatClampNeg) = true then go (q.1 + 3) lv (.ref N :: r) (mm_up h N (.inl (t, n.toNatClampNeg, .inr (.inr (.inr (.inr (fun _ => none))))))) (N + 1) (S + n.toNatClampNeg) else none) else none
  | .invokespecial i => (mm_lk X.2.2.1 i).bind fun w => (match w.1 with
    | 0 => mm_r1 st fun _ r => if mm_wt r ≤ 16 then go (q.1 + 3) lv r h N S else none
    | _ => mm_pop (w.2.1 + 1) [] st fun as r => if mm_wt r ≤ 16 then (if mx_ok h B N (N + w.2.2.1) (S + w.2.2.2.1) = true then mx_ref as ((w.2.2.2.2 as h N).bind fun h' => go (q.1 + 3) lv r h' (N + w.2.2.1) (S + w.2.2.2.1)) else none) else none)
  | .putfield i => (mm_lk P.2.1 i).bind fun w => (match w.2.2 with
    | 4 => mm_rr st fun a x r => (mm_pf w.1 w.2.1 (.ref x) h a).bind fun h' => go (q.1 + 3) lv r h' N S
    | _ => mm_st P (fun _ _ => none) (fun pc lv st h => go pc lv st h N S) q lv st h)
  | .ldc i => (match mm_lk X.2.2.2.1 i with
    | some _ => go (q.1 + 2) lv (.ref 1000 :: st) h N S
    | none => mm_st P (fun _ _ => none) (fun pc lv st h => go pc lv st h N S) q lv st h)
  | .invokevirtual i => (match mm_lk X.2.2.2.2 i with
    | some 0 => mm_r1 st fun a r => if a = 1000 ∧ mm_wt r ≤ 8 then go (q.1 + 3) lv (.int (193) :: r) h N S else none
    | some _ => mm_ri2 st fun a k r => if a = 1000 ∧ mm_wt r ≤ 8 ∧ ¬ k < 0 ∧ k.toNatClampNeg < 193 then go (q.1 + 3) lv (.int (xByt.getD k.toNatClampNeg 0) :: r) h N S else none
    | none => mm_st P (fun _ _ => none) (fun pc lv st h => go pc lv st h N S) q lv st h)
  | _ => mm_st P (fun _ _ => none) (fun pc lv st h => go pc lv st h N S) q lv st h
/-- from one place to another -/
def mx_in (P : mm_P) (X : mx_T) (B : Nat × Nat × Nat) (stop : Nat) : Nat → Nat → List mm_I → mm_L → List Value → mm_H → Nat → Nat → Option (mm_L × List Value × mm_H × Nat × Nat)
  | 0, _, _, _, _, _, _, _ => none
  | F + 1, pc, cs, lv, st, h, N, S => match Nat.beq pc stop with
    | true => some (lv, st, h, N, S)
    | false => (match cs with
      | [] => none
      | q :: r => mx_st P X B (fun pc' lv' st' h' N' S' => mx_in P X B stop F pc' (mm_seek P.1 r pc') lv' st' h' N' S') q lv st h N S)
/-- what a constructor does, its return at stop -/
def mx_f (P : mm_P) (X : mx_T) (cats : List Nat) (stop mc ms : Nat) : mx_F := fun args h N => if mm_cats args = cats then (mx_in P X (N, N + mc, ms) stop 20000 0 P.1 (List.zip (mm_ixc 0 cats) args) [] h N 0).bind fun r => if Nat.beq r.2.2.2.1 (N + mc) = true ∧ r.2.1 = [] then some r.2.2.1 else none else none
/-- what is given of the text -/
def xS (φ : Nat → Nat) (z : Nat) (U : State) : Prop := vk_R RX9 42 xLang (φ 1000) U ∧ va_O "java/lang/String" (φ 1000) (mm_A z) U U.heap ∧ va_OF "java/lang/String" "coder" "B" (.int 0) (φ 1000) (mm_A z) U U.heap ∧
  (∃ t, va_OF "java/lang/String" "value" "[B" (.ref t) (φ 1000) (mm_A z) U U.heap ∧ va_T .byte t 193 (fun j => .int (xByt.getD j 0)) (mm_A z) U U.heap) ∧ va_Z "java/lang/String" "COMPACT_STRINGS" "Z" (.int 1) (mm_A z) U U.heap ∧ va_Zq "jdk/internal/util/Preconditions" "SIOOBE_FORMATTER" "Ljava/util/function/BiFunction;" (mm_A z) U U.heap
def xK (φ : Nat → Nat) (z : Nat) (U : State) : Prop := (va_AO RX2 U ∧ va_AO RX8 U) ∧ xS φ z U
theorem xS.at {φ : Nat → Nat} {z : Nat} {s U : State} (hW : s.WarmedH U.vm) (hq : ∀ a : Nat, a < s.heap.size → ¬ mm_A z a → U.heap[a]? = s.heap[a]?) (h : xS φ z s) : xS φ z U := by
  obtain ⟨h3, h4, h5, ⟨t, h6, h7⟩, h8, h9⟩ := h
  have hv := hW.alike
  exact ⟨vk_R.warm hW h3, va_O.moved hv (h4.kept hq), va_OF.moved hv (h5.kept hq), ⟨t, va_OF.moved hv (h6.kept hq), va_T.moved hv (h7.kept hq)⟩, va_Z.moved hv (h8.kept hq), va_Zq.moved hv (va_Zq.kept h9 hq)⟩
theorem xS.same {φ : Nat → Nat} {z : Nat} {s U : State} (hv : U.vm = s.vm) (hh : U.heap = s.heap) (h : xS φ z s) : xS φ z U := by
  obtain ⟨h3, h4, h5, ⟨t, h6, h7⟩, h8, h9⟩ := h
  have ha : s.vm.Alike U.vm := by rw [hv]; exact Vm.Alike.refl _
  refine ⟨vk_R.same hv h3, ?_, ?_, ⟨t, ?_, ?_⟩, ?_, ?_⟩ <;> rw [hh]
  · exact va_O.moved ha h4
  · exact va_OF.moved ha h5
  · exact va_OF.moved ha h6
  · exact va_T.moved ha h7
  · exact va_Z.moved ha h8
  · exact va_Zq.moved ha h9
theorem xK.at {φ : Nat → Nat} {z : Nat} {s U : State} (hW : s.WarmedH U.vm) (hq : ∀ a : Nat, a < s.heap.size → ¬ mm_A z a → U.heap[a]? = s.heap[a]?) (h : xK φ z s) : xK φ z U :=
  ⟨⟨va_AO.moved hW.alike h.1.1, va_AO.moved hW.alike h.1.2⟩, h.2.at hW hq⟩
theorem xK.same {φ : Nat → Nat} {z : Nat} {s U : State} (hv : U.vm = s.vm) (hh : U.heap = s.heap) (h : xK φ z s) : xK φ z U := by
  have ha : s.vm.Alike U.vm := by rw [hv]; exact Vm.Alike.refl _
  exact ⟨⟨va_AO.moved ha h.1.1, va_AO.moved ha h.1.2⟩, h.2.same hv hh⟩
def mx_rm (n mc ms : Nat) : Room := { frames := n, cells := mc, slots := ms, locals := 40 * n }
/-- a constructor does what a function says -/
def mx_Imp (l : Launch) (y : MethodName) (bytes : ByteArray) (maxL n mc ms : Nat) (f : mx_F) : Prop :=
  ∀ (D : va_G) (tA : Nat → ClassId) (φ : Nat → Nat) (β z : Nat) (as : List Value) (h : mm_H) (N : Nat) (h' : mm_H), f as h N = some h' → mx_adr φ β z →
    Met l y (Cond.code y bytes maxL none :: mm_tbl) (mx_rm n mc ms) (va_Pc (as.map (mm_v φ)) (fun U => (mm_R D tA φ z h U U.heap ∧ mm_K D tA U) ∧ U.heap.size + 1 = β + N ∧ xK φ z U))
      (fun _ st o t => o = .returned none ∧ mm_R D tA φ z h' t t.heap ∧ va_F (mm_A z) st t) mc ms (mm_A z)
def mx_cok (l : Launch) (own : String) (n0 i : Nat) (w : Nat × Nat × Nat × Nat × mx_F) : Prop :=
  (w.1 = 0 ∧ Cond.methodLink own i Lib.objectInit ∈ mm_tbl) ∨
  (w.1 = 1 ∧ ∃ (y : MethodName) (bytes : ByteArray) (maxL n : Nat), mx_Imp l y bytes maxL n w.2.2.1 w.2.2.2.1 w.2.2.2.2 ∧ n + 1 ≤ n0 ∧ maxL ≤ 13 ∧ mm_yok y w.2.1 = true ∧ y.name = "<init>" ∧
    (Cond.methodLink own i y ∈ mm_tbl ∨ ∃ host, Cond.methodLinkNest own i y host ∈ mm_nest) ∧ Cond.instanceMethod y ∈ mm_tbl ∧ Cond.initialized y.cls ∈ mm_tbl ∧ Cond.code y bytes maxL none ∈ mm_tbl)
def mx_obj : Prop := Cond.instanceMethod Lib.objectInit ∈ mm_tbl ∧ Cond.code Lib.objectInit ⟨#[0xb1]⟩ 1 none ∈ mm_tbl
section CTR
variable {p : Program} {l : Launch} {e : Env} {R : Room} {s : State} {m : MethodId} {args : Array Value} {below : List Frame} {meth : Method} {c : Code} {cells slots : Nat} {Q : State → Prop}
variable {D : va_G} {tA : Nat → ClassId} {φ : Nat → Nat} {β z : Nat} {cc : ByteArray} {own : String} {nL n0 : Nat} {h : mm_H} {H : Heap} {locs : List Loc}
theorem mx_called {ls : Array Slot} {pc mc ms : Nat} {st0 rest : List Value} {v : Option Value} {h' : mm_H} (hz : z ≤ s.heap.size)
    (hr : va_Run p l e R s m args below meth c H locs cells slots mc ms (F0 m pc ls st0) rest (fun st o t => o = .returned v ∧ mm_R D tA φ z h' t t.heap ∧ va_F (mm_A z) st t) (mm_A z)) (hS : va_S (mm_A z) s.heap H locs)
    (kk : ∀ (H1 : Heap) (locs1 : List Loc), mm_R D tA φ z h' s H1 → va_S (mm_A z) s.heap H1 locs1 → W p l e R s m args below meth c H1 locs1 (cells + mc) (slots + ms) Q (F0 m (pc + 3) ls (v.toList ++ rest))) :
    W p l e R s m args below meth c H locs cells slots Q (F0 m pc ls st0) := by
  intro T hT X
  obtain ⟨v', st₀, t, T', L, h0, X', hL, e1, e2, ⟨hv, hRt, hz1, hk⟩, st⟩ := hr T hT X
  cases hv
  rw [h0] at hz1 hk
  have hal : s.vm.Alike t.vm := by rw [← e2]; exact X'.warmed.alike
  obtain ⟨t2, a1, b1⟩ := kk T'.heap (locs ++ L) (by rw [e1]; exact hRt.moved hal.symm hz)
    ⟨Nat.le_trans hS.1 (by rw [e1]; exact hz1), fun q h1 h2 => by rw [e1, hk q (Nat.lt_of_lt_of_le h1 hS.1) h2]; exact hS.2.1 q h1 h2, fun q hq => by
      rcases List.mem_append.mp hq with h | h
      · exact hS.2.2 q h
      · exact hL q h⟩ T' rfl X'
  exact ⟨t2, st t2 a1, b1⟩
theorem mx_zctor (X : mm_X p s m args c cc own nL D tA) (hK0 : xK φ z s) (ha : mx_adr φ β z) {pc i k N mc ms : Nat} {y : MethodName} {bytes : ByteArray} {maxL n : Nat} {f : mx_F} (hI : mx_Imp l y bytes maxL n mc ms f) (hRo : n + 1 ≤ R.frames ∧ 16 + (maxL + 11) + 40 * n ≤ R.locals) (hy : mm_yok y k = true) (hy2 : y.name = "<init>")
    (h1 : Cond.methodLink own i y ∈ mm_tbl ∨ ∃ host, Cond.methodLinkNest own i y host ∈ mm_nest) (h2 : Cond.instanceMethod y ∈ mm_tbl) (h3 : Cond.initialized y.cls ∈ mm_tbl) (h4 : Cond.code y bytes maxL none ∈ mm_tbl) (hf : cells + mc ≤ R.cells ∧ slots + ms ≤ R.slots)
    (g2 : s.heap.size + 1 + cells = β + N) (g3 : 1 ≤ N ∧ N < 1000) (hl : cells = 0 ∨ mx_live h N = true)
    {lv : mm_L} {as st : List Value} {b : Nat} {h' : mm_H} (hn : as.length = k) (hwt : mm_wt st ≤ 16) (hv : f (.ref b :: as) h N = some h') (hdg : decode cc pc = .ok (.invokespecial i, 3))
    (kk : mm_Z p l e R s m args below meth c (cells + mc) (slots + ms) Q D tA φ z nL (pc + 3) lv st h') : mm_Z p l e R s m args below meth c cells slots Q D tA φ z nL pc lv (as.reverse ++ .ref b :: st) h := by
  intro H locs ls hR hS hls
  refine mx_W (fun hsz => ?_)
  have hsz := mx_size ha hR hS hsz g2 g3 hl
  obtain ⟨hx, hb, hml, hown, hts, hK⟩ := X
  simp only [mm_yok, Bool.and_eq_true, decide_eq_true_eq] at hy
  have hst : (as.reverse ++ .ref b :: st).map (mm_v φ) = (as.map (mm_v φ)).reverse ++ .ref (φ b) :: st.map (mm_v φ) := by simp [List.map_reverse, mm_v]
  have hwt2 : 2 * 0 + ((st.map (mm_v φ)).map fun v => v.category).sum ≤ 16 := by rw [mm_wt_map]; omega
  have hlen : ∀ sig, parseMethodDescriptor y.desc = some sig → (as.map (mm_v φ)).length = sig.parameters.length := fun sig hs => by
    have h5 := hy.2
    rw [hs] at h5
    rw [List.length_map, hn]
    exact (Option.some.inj h5).symm
  have hG : GoodIn mm_tbl (Cond.code y bytes maxL none :: mm_tbl) := mm_good_ws (fun v hv => by
    rcases List.mem_cons.mp hv with rfl | hv
    · exact h4
    · exact hv)
  have hbl : FrameBlind (va_Pc ((Value.ref b :: as).map (mm_v φ)) (fun U => (mm_R D tA φ z h U U.heap ∧ mm_K D tA U) ∧ U.heap.size + 1 = β + N ∧ xK φ z U)) := by
    intro a U g mk hq
    obtain ⟨q0, ⟨q1, q2⟩, q3, q4⟩ := hq
    exact ⟨q0, ⟨mm_R.moved (s := U) (u := U.calling g mk a) (Vm.Alike.refl U.vm) q1.2.2.2.2 q1, mm_K.same (s := U) (U := U.calling g mk a) rfl q2⟩, q3, xK.same (s := U) (U := U.calling g mk a) rfl rfl q4⟩
  have hBk : Back l R p e below s args y 3 16 (PreOf R mc ms (va_Pc ((Value.ref b :: as).map (mm_v φ)) (fun U => (mm_R D tA φ z h U U.heap ∧ mm_K D tA U) ∧ U.heap.size + 1 = β + N ∧ xK φ z U))) (PostOf (fun _ st o t => o = .returned none ∧ mm_R D tA φ z h' t t.heap ∧ va_F (mm_A z) st t) mc ms (mm_A z)) :=
    back_of (bytes := bytes) (maxL := maxL) (ret := none) (hI D tA φ β z (.ref b :: as) h N h' hv ha) hbl rfl rfl hRo.1 hRo.2 (pay_in hts hG) List.mem_cons_self (fun a' U hW => word_at hW (mm_tbl_good _ h3) (hts _ h3))
  have hpre : ∀ U : State, U.heap = H → s.WarmedH U.vm → va_Pc ((Value.ref b :: as).map (mm_v φ)) (fun U => (mm_R D tA φ z h U U.heap ∧ mm_K D tA U) ∧ U.heap.size + 1 = β + N ∧ xK φ z U) ((Value.ref b :: as).map (mm_v φ)).toArray U := by
    intro U hU hW
    refine ⟨rfl, ⟨?_, mm_K.warm hW hK⟩, by rw [hU, hsz]; exact ha.1 N g3.1 g3.2, xK.at hW (by rw [hU]; exact hS.2.1) hK0⟩
    rw [hU]
    exact hR.moved hW.alike (by rw [hU]; exact Nat.le_trans hR.2.2.2.2 hS.1)
  have hr : va_Run p l e R s m args below meth c H locs cells slots mc ms (F0 m pc ls ((as.reverse ++ .ref b :: st).map (mm_v φ))) (st.map (mm_v φ)) (fun st o t => o = .returned none ∧ mm_R D tA φ z h' t t.heap ∧ va_F (mm_A z) st t) (mm_A z) := by
    intro T hT X1
    rcases h1 with h1 | ⟨host, h1⟩
    · obtain ⟨v, vm₁, ⟨U', l2, c2, s2⟩, hW₁, X', ⟨g', mk, t, L, e1, e2, hq, q1, hL, q2, q3⟩, st1⟩ := callI X1 hx (bytes := bytes) (maxL := maxL) hown hy2 (hts _ h1) (hts _ h2) (hts _ h4) ⟨hy.1.1, hy.1.2⟩ hBk (g := F0 m pc ls ((as.reverse ++ .ref b :: st).map (mm_v φ))) rfl (hls.1.trans hml.symm) (a := φ b) (argsL := as.map (mm_v φ)) (rest := st.map (mm_v φ)) hlen hst hwt2 (by rw [hb]; exact hdg) (fun vm₁ hW₁ => ⟨hf.1, hf.2, hpre (T.setVm vm₁) hT hW₁⟩)
      dsimp only [Pt.U, Pt.locs, Pt.cells, Pt.slots] at X' e1 e2 q1 q2 q3 st1
      subst q1; subst q2; subst q3
      exact ⟨v, (T.setVm vm₁).calling g' mk (Value.ref (φ b) :: as.map (mm_v φ)).toArray, t, U', L, hT, X', hL, e1, e2, hq, st1⟩
    · obtain ⟨v, vm₁, ⟨U', l2, c2, s2⟩, hW₁, X', ⟨g', mk, t, L, e1, e2, hq, q1, hL, q2, q3⟩, st1⟩ := va_callIN X1 hx (bytes := bytes) (maxL := maxL) hown hy2 (va_Nw.use rfl (hK.2 _ h1)) (hts _ h2) (hts _ h4) ⟨hy.1.1, hy.1.2⟩ hBk (g := F0 m pc ls ((as.reverse ++ .ref b :: st).map (mm_v φ))) rfl (hls.1.trans hml.symm) (a := φ b) (argsL := as.map (mm_v φ)) (rest := st.map (mm_v φ)) hlen hst hwt2 (by rw [hb]; exact hdg) (fun vm₁ hW₁ => ⟨hf.1, hf.2, hpre (T.setVm vm₁) hT hW₁⟩)
      dsimp only [Pt.U, Pt.locs, Pt.cells, Pt.slots] at X' e1 e2 q1 q2 q3 st1
      subst q1; subst q2; subst q3
      exact ⟨v, (T.setVm vm₁).calling g' mk (Value.ref (φ b) :: as.map (mm_v φ)).toArray, t, U', L, hT, X', hL, e1, e2, hq, st1⟩
  exact mx_called hR.2.2.2.2 hr hS (fun H1 locs1 hR1 hS1 => kk H1 locs1 ls hR1 hS1 hls)
end CTR
