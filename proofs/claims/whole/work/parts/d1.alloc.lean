/-! CONSTRUCTORS: new cells lie at small addresses one behind the other; the machine's address of the small address n is z + n - 1, the text of the language lies at 1000. -/
def mx_live (h : mm_H) (N : Nat) : Bool := match N with
  | n + 2 => (match h (n + 1) with
    | some c => !mm_ro c
    | none => false)
  | _ => false
/-- what the addresses are -/
def mx_adr (φ : Nat → Nat) (β z : Nat) : Prop := (∀ n, 1 ≤ n → n < 1000 → φ n + 1 = β + n) ∧ ∀ n, n = 0 ∨ 1000 ≤ n → φ n < z
theorem mx_adr.inj {φ : Nat → Nat} {β z n N : Nat} (ha : mx_adr φ β z) (h1 : 1 ≤ N) (h2 : N < 1000) (hz : z ≤ φ N) (he : φ n = φ N) : n = N := by
  have h3 := ha.1 N h1 h2
  by_cases h4 : n = 0 ∨ 1000 ≤ n
  · have := ha.2 n h4
    omega
  · have := ha.1 n (by omega) (by omega)
    omega
section ALC
variable {p : Program} {l : Launch} {e : Env} {R : Room} {s : State} {m : MethodId} {args : Array Value} {below : List Frame} {meth : Method} {c : Code} {cells slots : Nat} {Q : State → Prop}
variable {D : va_G} {tA : Nat → ClassId} {φ : Nat → Nat} {β z : Nat} {cc : ByteArray} {own : String} {nL n0 : Nat} {h : mm_H} {H : Heap} {locs : List Loc}
theorem mx_W {g : JFrame} (k : H.size ≤ s.heap.size + cells → W p l e R s m args below meth c H locs cells slots Q g) : W p l e R s m args below meth c H locs cells slots Q g := fun T hT X => k (by rw [← hT]; exact X.heapSize) T hT X
theorem mx_live_inv {N : Nat} (hl : mx_live h N = true) : 2 ≤ N ∧ ∃ c, h (N - 1) = some c ∧ mm_ro c = false := by
  unfold mx_live at hl
  split at hl
  · rename_i n
    split at hl
    · rename_i c hc
      exact ⟨by omega, c, hc, by simpa using hl⟩
    · cases hl
  · cases hl
/-- how large the heap is -/
theorem mx_size {N : Nat} (ha : mx_adr φ β z) (hR : mm_R D tA φ z h s H) (hS : va_S (mm_A z) s.heap H locs) (h1 : H.size ≤ s.heap.size + cells) (h2 : s.heap.size + 1 + cells = β + N) (h3 : 1 ≤ N ∧ N < 1000) (hl : cells = 0 ∨ mx_live h N = true) : H.size = φ N := by
  have h5 := hR.2.2.2.2
  have hN : φ N + 1 = β + N := ha.1 N h3.1 h3.2
  rcases hl with hl | hl
  · have := hS.1
    omega
  · obtain ⟨h4, c, hc, hr⟩ := mx_live_inv hl
    have h7 : φ (N - 1) + 1 = β + (N - 1) := ha.1 (N - 1) (by omega) (by omega)
    have h8 : φ (N - 1) < H.size := (hR.1 _ c hc hr).1.lt
    omega
theorem mm_R_new {N : Nat} {c1 : mm_C} {H1 : Heap} (ha : mx_adr φ β z) (h3 : 1 ≤ N ∧ N < 1000) (hR : mm_R D tA φ z h s H) (hr1 : mm_ro c1 = false) (hN : H.size = φ N) (hz : z ≤ H.size) (ho : ∀ q, q < φ N → H1[q]? = H[q]?) (hat : va_at D vwCl (φ N, mm_e tA φ c1) H1) : mm_R D tA φ z (mm_up h N c1) s H1 := by
  refine ⟨fun n c hc hr => ?_, fun n L xs hc => ?_, fun n n' c c' hc hc' he => ?_, ?_, hR.2.2.2.2⟩
  · by_cases hna : n = N
    · subst hna
      simp only [mm_up, if_pos] at hc
      cases hc
      exact ⟨hat, by rw [← hN]; exact hz⟩
    · simp only [mm_up, if_neg hna] at hc
      have h8 : φ n < H.size := (hR.1 n c hc hr).1.lt
      exact ⟨(hR.1 n c hc hr).1.kept (ho _ (by rw [← hN]; exact h8)), (hR.1 n c hc hr).2⟩
  · by_cases hna : n = N
    · subst hna
      simp only [mm_up, if_pos] at hc
      cases hc
      simp [mm_ro] at hr1
    · simp only [mm_up, if_neg hna] at hc
      obtain ⟨hX, hlt2⟩ := hR.2.1 n L xs hc
      exact ⟨hX.kept (ho _ (by rw [← hN]; exact Nat.lt_of_lt_of_le hlt2 hz)), hlt2⟩
  · by_cases hnb : n' = N
    · rw [hnb] at he ⊢
      exact ha.inj h3.1 h3.2 (by rw [← hN]; exact hz) he
    · by_cases hna : n = N
      · rw [hna] at he ⊢
        exact (ha.inj h3.1 h3.2 (by rw [← hN]; exact hz) he.symm).symm
      · simp only [mm_up, if_neg hna] at hc
        simp only [mm_up, if_neg hnb] at hc'
        exact hR.2.2.1 n n' c c' hc hc' he
  · obtain ⟨B, hB⟩ := hR.2.2.2.1
    refine ⟨B + N + 1, fun n c hc => ?_⟩
    by_cases hna : n = N
    · omega
    · simp only [mm_up, if_neg hna] at hc
      have := hB n c hc
      omega
/-- what is born -/
def mx_born (ci : Nat) (fs : List Value) : Prop := ∃ (C : String) (T : u_T) (ty0 : Nat → FieldType), vwCl[ci]? = some (C, T, fs.length) ∧ (∀ k, k < fs.length → parseFieldDescriptor (T k).2.2.1 = some (ty0 k)) ∧ (∀ j, j < fs.length → defaultValue (ty0 j) = vp_V fs j) ∧ (∀ ψ : Nat → Nat, fs.map (mm_v ψ) = fs) ∧ Cond.instantiable C fs.length ∈ mm_tbl ∧ Cond.initialized C ∈ mm_tbl
theorem mx_znew (X : mm_X p s m args c cc own nL D tA) (hcls : mm_cls) (ha : mx_adr φ β z) {N pc i ci : Nat} {fs : List Value} (hb : mx_born ci fs) (hlk : ∃ (C : String) (T : u_T) (n : Nat), vwCl[ci]? = some (C, T, n) ∧ Cond.classLink own i C ∈ mm_tbl) (h2 : s.heap.size + 1 + cells = β + N) (h3 : 1 ≤ N ∧ N < 1000) (hl : cells = 0 ∨ mx_live h N = true) (hcb : cells + 1 ≤ R.cells ∧ slots + fs.length ≤ R.slots)
    {lv : mm_L} {st : List Value} (hdg : decode cc pc = .ok (.new i, 3)) (k : mm_Z p l e R s m args below meth c (cells + 1) (slots + fs.length) Q D tA φ z nL (pc + 3) lv (.ref N :: st) (mm_up h N (.inr (ci, fs)))) : mm_Z p l e R s m args below meth c cells slots Q D tA φ z nL pc lv st h := by
  intro H locs ls hR hS hls
  refine mx_W (fun h1 => ?_)
  have hsz := mx_size ha hR hS h1 h2 h3 hl
  obtain ⟨hx, hb0, hml, hown, hts, hK⟩ := X
  obtain ⟨C, T, ty0, c1, c2, c3, c4, c5, c6⟩ := hb
  obtain ⟨C', T', n', c7, c8⟩ := hlk
  cases c1.symm.trans c7
  obtain ⟨d1, -, -⟩ := hcls _ _ _ _ c1
  have hKn := hK.1.1 ci _ c1
  refine W.newcK hx hb0 hown (hts _ c8) (hts _ c5) (hts _ c6) rfl hdg hcb.1 hcb.2 hKn.2.1 hsz fun H1 kC hkC e1 z1 o1 => ?_
  have hz : z ≤ H.size := Nat.le_trans hR.2.2.2.2 hS.1
  refine k H1 locs ls (mm_R_new ha h3 hR rfl hsz hz o1 ?_) ⟨by have := hS.1; omega, fun q q1 q2 => (o1 q (by have := hS.1; omega)).trans (hS.2.1 q q1 q2), hS.2.2⟩ hls
  show va_at D vwCl (φ N, .inr (ci, fs.map (mm_v φ))) H1
  rw [c4]
  exact ⟨_, c1, (u_born ty0 hts d1 hKn hkC e1 c2).to c3⟩
/-- an array of numbers, as it is born -/
def mx_arr : ArrayType → Nat → Option (Nat × vp_A)
  | .int, n => some (0, n, .inl (fun _ => 0))
  | .long, n => some (1, n, .inr (.inl (fun _ => 0)))
  | .byte, n => some (2, n, .inl (fun _ => 0))
  | .boolean, n => some (3, n, .inl (fun _ => 0))
  | _, _ => none
def mx_aok : Prop := Cond.arrayClass .int ∈ mm_tbl ∧ Cond.arrayClass .long ∈ mm_tbl ∧ Cond.arrayClass .byte ∈ mm_tbl ∧ Cond.arrayClass .boolean ∈ mm_tbl
theorem mx_znewa (X : mm_X p s m args c cc own nL D tA) (hao : mx_aok) (ha : mx_adr φ β z) {N pc : Nat} {n : Int32} {at0 : ArrayType} {cl : Nat × vp_A} (hcl : mx_arr at0 n.toNatClampNeg = some cl) (hn : ¬ n < 0) (hn2 : n.toNatClampNeg ≤ 10000) (h2 : s.heap.size + 1 + cells = β + N) (h3 : 1 ≤ N ∧ N < 1000) (hl : cells = 0 ∨ mx_live h N = true) (hcb : cells + 1 ≤ R.cells ∧ slots + n.toNatClampNeg ≤ R.slots)
    {lv : mm_L} {st : List Value} (hdg : decode cc pc = .ok (.newarray at0, 2)) (k : mm_Z p l e R s m args below meth c (cells + 1) (slots + n.toNatClampNeg) Q D tA φ z nL (pc + 2) lv (.ref N :: st) (mm_up h N (.inl cl))) : mm_Z p l e R s m args below meth c cells slots Q D tA φ z nL pc lv (.int n :: st) h := by
  intro H locs ls hR hS hls
  refine mx_W (fun h1 => ?_)
  have hsz := mx_size ha hR hS h1 h2 h3 hl
  obtain ⟨hx, hb0, hml, hown, hts, hK⟩ := X
  have hz : z ≤ H.size := Nat.le_trans hR.2.2.2.2 hS.1
  have fin : ∀ (H1 : Heap), H1.size = φ N + 1 → (∀ q, q < φ N → H1[q]? = H[q]?) → mm_ro (.inl cl) = false → H1[φ N]? = some (vp_cell (tA cl.1) (mm_a φ cl.2)) → W p l e R s m args below meth c H1 locs (cells + 1) (slots + n.toNatClampNeg) Q (F0 m (pc + 2) ls ((Value.ref N :: st).map (mm_v φ))) := by
    intro H1 z1 o1 hro e1
    exact k H1 locs ls (mm_R_new ha h3 hR hro hsz hz o1 e1) ⟨by have := hS.1; omega, fun q q1 q2 => (o1 q (by have := hS.1; omega)).trans (hS.2.1 q q1 q2), hS.2.2⟩ hls
  cases at0 with
  | int =>
    cases hcl
    refine va_newaK (atype := .int) hx hb0 (hts _ hao.1) rfl hdg rfl hn rfl (Nat.le_trans (Nat.mul_le_mul_right _ hn2) (Nat.le_of_ble_eq_true rfl)) hcb.1 hcb.2 hsz fun H1 cA e1 z1 o1 hAr hNm => ?_
    have hcA : cA = tA 0 := Option.some.inj (hNm.symm.trans (hK.1.2 0 (tA 0, .int) rfl).2)
    subst hcA
    exact fin H1 z1 o1 rfl e1
  | long =>
    cases hcl
    refine va_newaK (atype := .long) hx hb0 (hts _ hao.2.1) rfl hdg rfl hn rfl (Nat.le_trans (Nat.mul_le_mul_right _ hn2) (Nat.le_of_ble_eq_true rfl)) hcb.1 hcb.2 hsz fun H1 cA e1 z1 o1 hAr hNm => ?_
    have hcA : cA = tA 1 := Option.some.inj (hNm.symm.trans (hK.1.2 1 (tA 1, .long) rfl).2)
    subst hcA
    exact fin H1 z1 o1 rfl e1
  | byte =>
    cases hcl
    refine va_newaK (atype := .byte) hx hb0 (hts _ hao.2.2.1) rfl hdg rfl hn rfl (Nat.le_trans (Nat.mul_le_mul_right _ hn2) (Nat.le_of_ble_eq_true rfl)) hcb.1 hcb.2 hsz fun H1 cA e1 z1 o1 hAr hNm => ?_
    have hcA : cA = tA 2 := Option.some.inj (hNm.symm.trans (hK.1.2 2 (tA 2, .byte) rfl).2)
    subst hcA
    exact fin H1 z1 o1 rfl e1
  | boolean =>
    cases hcl
    refine va_newaK (atype := .boolean) hx hb0 (hts _ hao.2.2.2) rfl hdg rfl hn rfl (Nat.le_trans (Nat.mul_le_mul_right _ hn2) (Nat.le_of_ble_eq_true rfl)) hcb.1 hcb.2 hsz fun H1 cA e1 z1 o1 hAr hNm => ?_
    have hcA : cA = tA 3 := Option.some.inj (hNm.symm.trans (hK.1.2 3 (tA 3, .boolean) rfl).2)
    subst hcA
    exact fin H1 z1 o1 rfl e1
  | char => cases hcl
  | float => cases hcl
  | double => cases hcl
  | short => cases hcl
/-- an array of references, as it is born -/
theorem mx_znewq (X : mm_X p s m args c cc own nL D tA) (ha : mx_adr φ β z) {N pc i t : Nat} {n : Int32} (ht : (t = 4 ∧ Cond.classLink own i RX8 ∈ mm_tbl ∧ va_AO RX8 s) ∨ (t = 5 ∧ Cond.classLink own i RX2 ∈ mm_tbl ∧ va_AO RX2 s)) (hn : ¬ n < 0) (hn2 : n.toNatClampNeg ≤ 10000) (h2 : s.heap.size + 1 + cells = β + N) (h3 : 1 ≤ N ∧ N < 1000) (hl : cells = 0 ∨ mx_live h N = true) (hcb : cells + 1 ≤ R.cells ∧ slots + n.toNatClampNeg ≤ R.slots)
    {lv : mm_L} {st : List Value} (hdg : decode cc pc = .ok (.anewarray i, 3)) (k : mm_Z p l e R s m args below meth c (cells + 1) (slots + n.toNatClampNeg) Q D tA φ z nL (pc + 3) lv (.ref N :: st) (mm_up h N (.inl (t, n.toNatClampNeg, .inr (.inr (.inr (.inr (fun _ => none)))))))) : mm_Z p l e R s m args below meth c cells slots Q D tA φ z nL pc lv (.int n :: st) h := by
  intro H locs ls hR hS hls
  refine mx_W (fun h1 => ?_)
  have hsz := mx_size ha hR hS h1 h2 h3 hl
  obtain ⟨hx, hb0, hml, hown, hts, hK⟩ := X
  have hz : z ≤ H.size := Nat.le_trans hR.2.2.2.2 hS.1
  have hby : n.toNatClampNeg * 4 ≤ 536870912 := Nat.le_trans (Nat.mul_le_mul_right _ hn2) (Nat.le_of_ble_eq_true rfl)
  have fin : ∀ cA : ClassId, t = 4 ∨ t = 5 → cA = tA t → W p l e R s m args below meth c (H.push { cls := cA, slots := Array.replicate n.toNatClampNeg .null, vm := .none }) locs (cells + 1) (slots + n.toNatClampNeg) Q (F0 m (pc + 3) ls (.ref H.size :: st.map (mm_v φ))) := by
    intro cA ht2 hcA
    have hro : mm_ro (.inl (t, n.toNatClampNeg, .inr (.inr (.inr (.inr (fun _ => none)))))) = false := by
      rcases ht2 with rfl | rfl <;> rfl
    generalize hH1 : H.push ({ cls := cA, slots := Array.replicate n.toNatClampNeg .null, vm := .none } : Cell) = H1
    have z1 : H1.size = H.size + 1 := by rw [← hH1, Array.size_push]
    have e1 : H1[H.size]? = some (arrV cA n.toNatClampNeg (fun _ => .null)) := by rw [← hH1, Array.getElem?_push_size, ← arrV_new]
    have o1 : ∀ q : Nat, q < H.size → H1[q]? = H[q]? := fun q hq => by rw [← hH1, Array.getElem?_push, if_neg (Nat.ne_of_lt hq)]
    have kk := k H1 locs ls (mm_R_new ha h3 hR hro hsz hz (by rw [← hsz]; exact o1) (by
      show H1[φ N]? = some (vp_cell (tA t) (n.toNatClampNeg, .inr (.inr (.inr (.inr (fun _ => Option.map φ none))))))
      rw [← hsz, ← hcA]
      exact e1)) ⟨by have := hS.1; omega, fun q q1 q2 => (o1 q (by have := hS.1; omega)).trans (hS.2.1 q q1 q2), hS.2.2⟩ hls
    rw [List.map_cons, show mm_v φ (.ref N) = .ref (φ N) from rfl, ← hsz] at kk
    exact kk
  rcases ht with ⟨rfl, t1, t2⟩ | ⟨rfl, t1, t2⟩
  · refine W.anew hx hb0 hown (hts _ t1) (va_AO.use t2) rfl hdg rfl hn hby hcb.1 hcb.2 fun cA kA comp f1 f2 f3 f4 => ?_
    obtain ⟨_, _, _, _, _, g1⟩ := (hK.1.2 4 (tA 4, .object RX8) rfl).2
    exact fin cA (Or.inl rfl) (Option.some.inj (f1.symm.trans g1))
  · refine W.anew hx hb0 hown (hts _ t1) (va_AO.use t2) rfl hdg rfl hn hby hcb.1 hcb.2 fun cA kA comp f1 f2 f3 f4 => ?_
    obtain ⟨_, _, _, _, _, g1⟩ := (hK.1.2 5 (tA 5, .object RX2) rfl).2
    exact fin cA (Or.inr rfl) (Option.some.inj (f1.symm.trans g1))
/-- Object's own -/
theorem mx_zobj (X : mm_X p s m args c cc own nL D tA) {pc i : Nat} (w1 : Cond.methodLink own i Lib.objectInit ∈ mm_tbl) (w2 : Cond.instanceMethod Lib.objectInit ∈ mm_tbl) (w3 : Cond.code Lib.objectInit ⟨#[0xb1]⟩ 1 none ∈ mm_tbl) (hRo : 1 ≤ R.frames ∧ 40 ≤ R.locals) {lv : mm_L} {st : List Value} {a : Nat} (hwt : mm_wt st ≤ 16) (hdg : decode cc pc = .ok (.invokespecial i, 3))
    (k : mm_Z p l e R s m args below meth c cells slots Q D tA φ z nL (pc + 3) lv st h) : mm_Z p l e R s m args below meth c cells slots Q D tA φ z nL pc lv (.ref a :: st) h := by
  intro H locs ls hR hS hls
  obtain ⟨hx, hb0, hml, hown, hts, hK⟩ := X
  refine W.objInit hx hb0 hown (hts _ w1) (hts _ w2) (hts _ w3) (g := F0 m pc ls ((Value.ref a :: st).map (mm_v φ))) rfl (hls.1.trans hml.symm) (a := φ a) (rest := st.map (mm_v φ)) rfl hdg hRo.1 ?_ (k H locs ls hR hS hls)
  rw [mm_wt_map]
  show 2 * 0 + mm_wt st + 12 ≤ R.locals
  omega
/-- putfield of a final field, in a constructor -/
theorem mx_zputF (X : mm_X p s m args c cc own nL D tA) (hcls : mm_cls) (hin : meth.name = "<init>") {pc i : Nat} {w : Nat × Nat × Nat} (hw : mm_fok own i w) (hw2 : ∃ (C : String) (T : u_T) (N : Nat), vwCl[w.1]? = some (C, T, N) ∧ (T w.2.1).2.2.2 = true ∧ (T w.2.1).1 = own) (h4 : w.2.2 = 4) {lv : mm_L} {st : List Value} {h' : mm_H} {a v : Nat}
    (hdg : decode cc pc = .ok (.putfield i, 3)) (hp : mm_pf w.1 w.2.1 (.ref v) h a = some h')
    (k : mm_Z p l e R s m args below meth c cells slots Q D tA φ z nL (pc + 3) lv st h') : mm_Z p l e R s m args below meth c cells slots Q D tA φ z nL pc lv (.ref v :: .ref a :: st) h := by
  intro H locs ls hR hS hl
  obtain ⟨hx, hb, hml, hown, hts, hK⟩ := X
  obtain ⟨C, T, N, ty, c1, c2, c3, c4, c5, c6⟩ := hw
  obtain ⟨C', T', N', c7, c8, c9⟩ := hw2
  cases c1.symm.trans c7
  obtain ⟨fs, ha, hk, rfl⟩ := mm_pf_inv hp
  obtain ⟨d1, ⟨ty0, d2⟩, d3⟩ := hcls _ _ _ _ c1
  obtain ⟨Nn, hN⟩ := hR.2.2.2.1
  obtain ⟨q0, hq0⟩ := mm_ws_at (tA := tA) (φ := φ) (hN a _ ha) ha rfl
  have n12 : narrow ty (.ref (φ v)) = .ref (φ v) ∧ fits ty (.ref (φ v)) = true := by
    rw [h4] at c5
    cases ty <;> first | exact ⟨rfl, rfl⟩ | cases c5
  refine va_putF (own := own) (ref := (T w.2.1).1) (C := C) (T := T) (N := N) (ci := w.1) (index := i) (Ts := mm_tbl) hx hb hts d1 ty0 d2 d3 hown hK.1 (mm_ws_P hR (N := Nn)) (mm_ws_D hR (N := Nn)) hS q0 (fs := fs.map (mm_v φ)) hq0 c1 w.2.1 c2 (hts _ c3) (fun _ hh => hh) c8 hin c9 c4 n12.1 n12.2 (by rw [List.length_map]; exact hk) hdg (fun H1 locs1 hP1 hD1 hS1 => ?_)
  rw [← List.map_set] at hP1
  exact k H1 locs1 ls (mm_R_set hR hN ha rfl rfl hq0 hS hP1 hS1) hS1 hl
end ALC
