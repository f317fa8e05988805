/-! THE LAW'S START: what the Statement gives of it -/
abbrev gvn : Cond := Jvm.Cond.and given_1 narrow_1
def elC (j : Nat) : Cond := .eq (.elem (.field (.string "LeafSweep$Tape" 42) "java/lang/String" "value" "[B") (.int (Int32.ofNat j))) (.int (xByt.getD j 0))
theorem el_in : (List.range 193).all (fun j => decide ((flatC gvn)[58 + j]? = some (elC j))) = true := by decide +kernel
theorem gv_4 : Cond.eq (.static "java/lang/String" "COMPACT_STRINGS" "Z") (.int 1) ∈ flatC gvn := List.mem_of_getElem? (i := 4) (by decide +kernel)
theorem gv_5 : Cond.isRef (.static "jdk/internal/util/Preconditions" "SIOOBE_FORMATTER" "Ljava/util/function/BiFunction;") ∈ flatC gvn := List.mem_of_getElem? (i := 5) (by decide +kernel)
theorem gv_9 : Cond.isRef (.static Bundle.tN "UNASSIGNED_STACK" Bundle.steD) ∈ flatC gvn := List.mem_of_getElem? (i := 9) (by decide +kernel)
theorem gv_10 : Cond.isRef (.static Bundle.tN "SUPPRESSED_SENTINEL" Bundle.listD) ∈ flatC gvn := List.mem_of_getElem? (i := 10) (by decide +kernel)
theorem gv_54 : Cond.exactly (.string "LeafSweep$Tape" 42) "java/lang/String" ∈ flatC gvn := List.mem_of_getElem? (i := 54) (by decide +kernel)
theorem gv_55 : Cond.eq (.field (.string "LeafSweep$Tape" 42) "java/lang/String" "coder" "B") (.int 0) ∈ flatC gvn := List.mem_of_getElem? (i := 55) (by decide +kernel)
theorem gv_56 : Cond.arrayOf (.field (.string "LeafSweep$Tape" 42) "java/lang/String" "value" "[B") .byte ∈ flatC gvn := List.mem_of_getElem? (i := 56) (by decide +kernel)
theorem gv_57 : Cond.eq (.length (.field (.string "LeafSweep$Tape" 42) "java/lang/String" "value" "[B")) (.int (Int32.ofNat 193)) ∈ flatC gvn := List.mem_of_getElem? (i := 57) (by decide +kernel)
theorem gv_251 : Cond.exactly (.string "LeafSweep" 259) "java/lang/String" ∈ flatC gvn := List.mem_of_getElem? (i := 251) (by decide +kernel)
section STA
variable {s : State} {args : Array Value}
theorem in_ok {k : Nat} {q : vw_C} (h : vwCl[k]? = some q) : Cond.instantiable q.1 q.2.2 ∈ mm_tbl := by
  have g : ∀ fs : List Value, mx_born k fs → Cond.instantiable q.1 q.2.2 ∈ mm_tbl := fun fs hb => by
    obtain ⟨C, T, ty0, c1, -, -, -, c5, -⟩ := hb
    cases c1.symm.trans h
    exact c5
  match k, h, g with
  | 0, _, g => exact g _ bn_0
  | 1, _, g => exact g _ bn_1
  | 2, _, g => exact g _ bn_2
  | 3, _, g => exact g _ bn_3
  | 4, _, g => exact g _ bn_4
  | 5, _, g => exact g _ bn_5
  | 6, _, g => exact g _ bn_6
  | 7, _, g => exact g _ bn_7
  | 8, _, g => exact g _ bn_8
  | 9, _, g => exact g _ bn_9
  | 10, _, g => exact g _ bn_10
  | 11, _, g => exact g _ bn_11
  | 12, _, g => exact g _ bn_12
  | k + 13, h, _ => simp [vwCl] at h
theorem st_K (hts : ∀ w ∈ lw_tbl, w.before args s = true) : ∃ (D : va_G) (tA : Nat → ClassId), mm_K D tA s := by
  have htm : ∀ w ∈ mm_tbl, w.before args s = true := fun w hw => hts w (List.mem_filter.mp hw).1
  have h1 : ∀ k : Nat, ∃ d : ClassId × (Nat → Nat), ∀ q, vwCl[k]? = some q → u_Kn s q.1 q.2.1 q.2.2 d.1 d.2 := by
    intro k
    cases hq : vwCl[k]? with
    | none => exact ⟨(0, fun _ => 0), fun q h => by cases h⟩
    | some q =>
      obtain ⟨cC, iS, hKn⟩ := u_known (C := q.1) (T := q.2.1) (N := q.2.2) (n := q.2.2) htm (mm_cls_ok k q.1 q.2.1 q.2.2 hq).1 (htm _ (in_ok hq))
      exact ⟨(cC, iS), fun q2 h => by cases h; exact hKn⟩
  obtain ⟨d, hd⟩ := Classical.axiomOfChoice h1
  have ar : ∀ ty : FieldType, Cond.arrayClass ty ∈ mm_tbl → ∃ cA : ClassId, ArrOfT s cA ty ∧ s.vm.findClass ("[" ++ ty.toString) = some cA := fun ty hw => by
    obtain ⟨cA, kA, comp, f1, f2, f3⟩ := Cond.arrayClass_spec (htm _ hw)
    exact ⟨cA, fun N z => ⟨(fun k h => by cases h), kA, f2, comp, f3⟩, f1⟩
  have ao : ∀ C : String, Cond.arrayOver (.object C) ∈ lw_tbl → ∃ cA : ClassId, ArrOfT s cA (.object C) ∧ va_RA s cA (.object C) := fun C hw => by
    obtain ⟨comp, cA, kA, f4, -, f2, f3, f1⟩ := Cond.arrayOver_spec (hts _ hw)
    exact ⟨cA, fun N z => ⟨(fun k h => by cases h), kA, f2, comp, f3⟩, kA, comp, f2, f3, f4, f1⟩
  obtain ⟨a0, x0, y0⟩ := ar .int mx_aok_ok.1
  obtain ⟨a1, x1, y1⟩ := ar .long mx_aok_ok.2.1
  obtain ⟨a2, x2, y2⟩ := ar .byte mx_aok_ok.2.2.1
  obtain ⟨a3, x3, y3⟩ := ar .boolean mx_aok_ok.2.2.2
  obtain ⟨a4, x4, y4⟩ := ao RX8 r_471
  obtain ⟨a5, x5, y5⟩ := ao RX2 r_535
  refine ⟨(fun k => (d k).1, fun k => (d k).2), fun k => if k = 0 then a0 else if k = 1 then a1 else if k = 2 then a2 else if k = 3 then a3 else if k = 4 then a4 else a5, ⟨fun k q hq => hd k q hq, fun k q hq => ?_⟩, fun w hw => ?_⟩
  · match k, hq with
    | 0, hq => cases hq; exact ⟨x0, y0⟩
    | 1, hq => cases hq; exact ⟨x1, y1⟩
    | 2, hq => cases hq; exact ⟨x2, y2⟩
    | 3, hq => cases hq; exact ⟨x3, y3⟩
    | 4, hq => cases hq; exact ⟨x4, y4⟩
    | 5, hq => cases hq; exact ⟨x5, y5⟩
    | k + 6, hq => simp [mm_ty] at hq
  · have h2 := hts w (nest_in w hw)
    obtain ⟨a, i, x, ho, rfl⟩ := mm_nest_form w hw
    exact va_tabs (u := s) rfl rfl h2
theorem st_X (hts : ∀ w ∈ lw_tbl, w.before args s = true) (hgv : gvn.before args s = true) : ∃ sa : Nat, sa < s.heap.size ∧ ∀ φ : Nat → Nat, φ 1000 = sa → xK φ s.heap.size s := by
  have hgs := flat_of_before _ hgv
  have hA : ∀ a : Nat, a < s.heap.size → ¬ mm_A s.heap.size a := fun a h => Nat.not_le.mpr h
  obtain ⟨adK, adV, hV, hE⟩ := vk_Sof (args := args) (s := s) (N := 1) (tm := fun _ => .string "LeafSweep$Tape" 42) (len := [193]) (byt := [xByt]) (A := mm_A s.heap.size)
    (fun i hi => by rw [show i = 0 by omega]; decide) (fun i hi => hgs _ gv_54) (fun i hi => hgs _ gv_55) (fun i hi => hgs _ gv_56) (fun i hi => by rw [show i = 0 by omega]; exact hgs _ gv_57)
    (fun i hi j hj => by
      rw [show i = 0 by omega] at hj ⊢
      exact hgs _ (List.mem_of_getElem? (of_decide_eq_true (all_range el_in (i := j) hj))))
    (fun i j hi hj hne => absurd (show i = j by omega) hne) hA
  obtain ⟨v1, v2, v3, v4⟩ := hV.1 0 (by decide)
  refine ⟨adK 0, ?_, fun φ hφ => ⟨⟨va_AO.of (hts _ r_535), va_AO.of (hts _ r_471)⟩, ?_⟩⟩
  · obtain ⟨cell, g1, -⟩ := v1
    exact (Array.getElem?_eq_some_iff.mp g1).1
  · unfold xS
    rw [hφ]
    exact ⟨vk_R.of (hts _ r_201) (hE 0 (by decide)), v1, v2, ⟨adV 0, v3, v4⟩, va_Zof (hts _ r_211) (hts _ r_165) (va_eqt (hgs _ gv_4)) hA, va_Zqof (hts _ r_227) (hts _ r_167) (hgs _ gv_5) hA⟩
theorem st_R (hts : ∀ w ∈ lw_tbl, w.before args s = true) (hgv : gvn.before args s = true) : xR s.heap.size s := by
  have hgs := flat_of_before _ hgv
  have hA : ∀ a : Nat, a < s.heap.size → ¬ mm_A s.heap.size a := fun a h => Nat.not_le.mpr h
  obtain ⟨a, c, cA, kA, q1, -⟩ := Cond.exactly_spec (args := args) (first := s) (o := none) (s := s) (idx := []) (t := .string "LeafSweep" 259) (cls := "java/lang/String") (hgs _ gv_251)
  exact ⟨⟨a, vk_R.of (hts _ r_1648) q1⟩, vx_Zqof (hts _ r_1636) (hts _ r_183) (hgs _ gv_9) hA, vx_Zqof (hts _ r_1638) (hts _ r_183) (hgs _ gv_10) hA, fun w hw => xB_at (Vm.Alike.refl s.vm) hw (hts w (xB_in w hw))⟩
end STA
