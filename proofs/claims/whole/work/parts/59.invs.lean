/-! what holds at every time: a STEP, a stop, a beginning -/
section INS
variable {P : PP} {A : AS}
/-- the next that goes: its ROW, its ENTRY -/
def nxR (A : AS) (J : JB) : Nat := (leftsW (wayOf (jWy J)) (aC A) (aL A (jAt J))).headD 0
def nxC (A : AS) (J : JB) : Nat := ((aL A (jAt J)).flatten.find? (fun c => decide (c % 32 = nxR A J))).getD 0
theorem nx_ok (h : INV P A) {J : JB} (hJ : aJ A = some J) (ha : jAt J < pNi P) : (∃ rs, leftsW (wayOf (jWy J)) (aC A) (aL A (jAt J)) = nxR A J :: rs) ∧ nxR A J < 30 ∧ (aL A (jAt J)).flatten.find? (fun c => decide (c % 32 = nxR A J)) = some (nxC A J) ∧ nxC A J ∈ (aL A (jAt J)).flatten ∧ nxC A J % 32 = nxR A J ∧ bt (aC A) (nxR A J) = true := by
  obtain ⟨-, -, -, -, iJ⟩ := id h
  obtain ⟨-, j2, -⟩ := iJ J hJ
  obtain ⟨-, -, -, a7, -⟩ := j2 ha
  have hk := h.kl ha
  have hex : ∃ c, c ∈ (aL A (jAt J)).flatten ∧ bt (aC A) (c % 32) = true := by
    apply Classical.byContradiction
    intro q
    have : leftN (aC A) (aL A (jAt J)) = 0 := left_0.mpr (fun c hc => by
      cases e : bt (aC A) (c % 32)
      · rfl
      · exact absurd ⟨c, hc, e⟩ q)
    omega
  have hlist : ∀ r ∈ leftsW (wayOf (jWy J)) (aC A) (aL A (jAt J)), ∃ c, c ∈ (aL A (jAt J)).flatten ∧ bt (aC A) (c % 32) = true ∧ c % 32 = r := fun r hr => by
    unfold leftsW at hr
    split at hr
    · unfold leftsP at hr
      obtain ⟨c, hc, e⟩ := List.mem_map.mp hr
      have := List.mem_filter.mp hc
      exact ⟨c, this.1, this.2, e⟩
    · unfold leftsR at hr
      have := List.mem_filter.mp hr
      have h30 := List.mem_range.mp this.1
      have hb := this.2
      rw [b_and, bt_rb _ (by omega)] at hb
      simp only [Bool.and_eq_true, decide_eq_true_eq] at hb
      obtain ⟨c, hc, e⟩ := List.mem_map.mp hb.1
      exact ⟨c, hc, by rw [e]; exact hb.2, e⟩
  have hne : leftsW (wayOf (jWy J)) (aC A) (aL A (jAt J)) ≠ [] := by
    obtain ⟨c, hc, hc2⟩ := hex
    unfold leftsW
    split
    · unfold leftsP
      intro e
      have : c % 32 ∈ ((aL A (jAt J)).flatten.filter (fun c => bt (aC A) (c % 32))).map (· % 32) := List.mem_map.mpr ⟨c, List.mem_filter.mpr ⟨hc, hc2⟩, rfl⟩
      rw [e] at this
      exact absurd this (by simp)
    · unfold leftsR
      intro e
      have : c % 32 ∈ (List.range 30).filter (fun r => bt (rb (aL A (jAt J)) &&& aC A) r) := List.mem_filter.mpr ⟨List.mem_range.mpr (hk.2.2.2.1 c hc).2, by rw [bt_rbd _ _ hc]; exact hc2⟩
      rw [e] at this
      exact absurd this (by simp)
  obtain ⟨r, rs, e⟩ := List.exists_cons_of_ne_nil hne
  have er : nxR A J = r := by unfold nxR; rw [e]; rfl
  obtain ⟨c, c1, c2, c3⟩ := hlist r (by rw [e]; exact List.mem_cons_self)
  have hr30 : r < 30 := by rw [← c3]; exact (hk.2.2.2.1 c c1).2
  have hfs : ∃ d, (aL A (jAt J)).flatten.find? (fun c => decide (c % 32 = nxR A J)) = some d := by
    cases hf : (aL A (jAt J)).flatten.find? (fun c => decide (c % 32 = nxR A J)) with
    | some d => exact ⟨d, rfl⟩
    | none =>
      have := List.find?_eq_none.mp hf c c1
      rw [er, c3] at this
      simp at this
  obtain ⟨d, hd⟩ := hfs
  have ed : nxC A J = d := by unfold nxC; rw [hd]; rfl
  have d1 := List.mem_of_find?_eq_some hd
  have d2 : d % 32 = nxR A J := by have := List.find?_some hd; simpa using this
  rw [ed]
  refine ⟨⟨rs, by rw [er]; exact e⟩, by rw [er]; exact hr30, hd, d1, d2, ?_⟩
  rw [er, ← c3]
  exact c2
theorem rpl_more {i : Nat} {K : Nat → Prop} : ∀ {xs : List Int32} {D W : Nat → Prop}, rpl P i D xs W → (∀ x ∈ xs, ∀ c, K c → c % 32 ≠ sdN x / 1000) → rpl P i (fun c => D c ∨ K c) xs (fun c => W c ∨ K c)
  | [], D, W, r, _ => fun c => or_congr (r c) Iff.rfl
  | x :: xs, D, W, r, h => by
    refine ⟨r.1, fun q => Or.inl (r.2.1 q), fun q c hc => hc.elim (r.2.2.1 q c) (h x List.mem_cons_self c), ?_⟩
    refine rpl_l (fun c => ?_) (rpl_more r.2.2.2 (fun y hy => h y (List.mem_cons_of_mem _ hy)))
    have hs := (sdC_ok (P := P) (i := i) r.1).2.1
    unfold stp
    split
    · constructor
      · rintro (q | q)
        · exact ⟨Or.inl q.1, q.2⟩
        · exact ⟨Or.inr q, fun e => h x List.mem_cons_self c q (by rw [e]; exact hs)⟩
      · rintro ⟨q | q, hc⟩
        · exact Or.inl ⟨q, hc⟩
        · exact Or.inr q
    · constructor
      · rintro ((q | q) | q)
        · exact Or.inl (Or.inl q)
        · exact Or.inr q
        · exact Or.inl (Or.inr q)
      · rintro ((q | q) | q)
        · exact Or.inl (Or.inl q)
        · exact Or.inr q
        · exact Or.inl (Or.inr q)
/-- what the STEP leaves of the tree -/
theorem last_rpl (h : INV P A) {J : JB} (hJ : aJ A = some J) (ha : jAt J < pNi P) (hl : lastA A J (nxC A J) = true) : rpl P (jAt J) (fun c => c ∈ (takL (nxC A J) (aL A (jAt J))).flatten) (jSd J) (okV P A (jAt J)) := by
  obtain ⟨-, -, -, -, iJ⟩ := id h
  obtain ⟨-, j2, -⟩ := iJ J hJ
  obtain ⟨⟨a1, -⟩, -⟩ := j2 ha
  obtain ⟨-, -, -, n4, n5, n6⟩ := nx_ok h hJ ha
  have hk := h.kl ha
  unfold lastA at hl
  rw [decide_eq_true_eq, rb_0 (tak_ok (c := nxC A J) hk), left_0] at hl
  refine rpl_l (fun c => ?_) a1
  unfold baseA
  rw [tak_mem]
  constructor
  · intro q
    refine ⟨q.1, fun e => ?_⟩
    rw [e, n5] at q
    exact b_no n6 q.2
  · intro q
    exact ⟨q.1, hl c (tak_mem.mpr q)⟩
theorem step_inv (h : INV P A) {J : JB} (hJ : aJ A = some J) (ha : jAt J < pNi P) : INV P (advA P A J (nxC A J)) := by
  obtain ⟨⟨hP, k1, k2, k3, k4⟩, ⟨iP, iO, iC⟩, iT, iN, iJ⟩ := id h
  have hn := hP.2.1
  rw [hJ] at k4
  obtain ⟨q1, q2, q3, q4, q5, q6, q7⟩ := k4
  obtain ⟨j1, j2, j3, j4, j5⟩ := iJ J hJ
  obtain ⟨⟨a1, a0⟩, a2, ⟨a3, a4, a5, a6, a6b⟩, a7, a8, a9, a10⟩ := j2 ha
  obtain ⟨-, n2, n3, n4, n5, n6⟩ := nx_ok h hJ ha
  have hlr := last_rpl h hJ ha
  have hk := h.kl ha
  generalize nxC A J = c0 at *
  have hat : ∀ i, isAtA A i = decide (jAt J = i) := fun i => by unfold isAtA; rw [hJ]; exact (show atO (some J) i = decide (jAt J = i) from rfl)
  have hatN : atN (aJ A) = jAt J := by rw [hJ]; rfl
  have hlt := left_tak hk n4 (show bt (aC A) (c0 % 32) = true by rw [n5]; exact n6)
  have hktak := tak_ok (c := c0) hk
  have hs := sum_set (A := A) ha (takL c0 (aL A (jAt J)))
  have eL : ∀ j, aL (stepA A J c0) j = if j = jAt J then takL c0 (aL A (jAt J)) else aL A j := fun j => rfl
  have eLa : aL (stepA A J c0) (jAt J) = takL c0 (aL A (jAt J)) := if_pos rfl
  have hkL : ∀ i, i < 4 → okL (pPg P) (aL (stepA A J c0) i) := fun i hi => by
    rw [eL]
    split
    · exact hktak
    · exact k3 i hi
  have esum : sumL P (stepA A J c0) + 1 = sumL P A := by
    have : sumL P (stepA A J c0) = sumL P (setL A (jAt J) (takL c0 (aL A (jAt J)))) := rfl
    omega
  have hbase : ∀ c, baseA A (jAt J) c ↔ (c ∈ (takL c0 (aL A (jAt J))).flatten ∧ bt (aC A) (c % 32) = false) := fun c => by
    unfold baseA
    rw [tak_mem]
    constructor
    · intro q
      refine ⟨⟨q.1, fun e => ?_⟩, q.2⟩
      rw [e, n5] at q
      exact b_no n6 q.2
    · intro q
      exact ⟨q.1.1, q.2⟩
  have hT : ∀ i, i < pNi P → jAt J ≠ i → ∀ c, c ∈ (aL (stepA A J c0) i).flatten ↔ okV P A i c ∨ (okC P A i c ∧ jAt J < i) := fun i hi hne c => by
    rw [eL, if_neg (fun e => hne e.symm)]
    have := iT i hi (by rw [hat]; exact decide_eq_false hne) c
    rw [hatN] at this
    exact this
  unfold advA
  by_cases hb : lastA A J c0 = false ∧ jSi J + 1 < pBt P
  · rw [if_pos hb]
    have hl0 : 1 ≤ leftN (aC A) (takL c0 (aL A (jAt J))) := by
      have := hb.1
      unfold lastA at this
      rw [decide_eq_false_iff_not, rb_0 hktak] at this
      omega
    refine ⟨⟨hP, k1, k2, hkL, q1, q2, q3, by show jGo J + 1 ≤ 30; omega, by show jSi J + 1 ≤ 30; omega, q6, q7⟩, ⟨iP, iO, iC⟩, fun i hi hia c => ?_, fun q => absurd q (by simp [stepA, setJ, aJ]), fun J' hJ' => ?_⟩
    · have hne : jAt J ≠ i := by
        have : decide (jAt J = i) = false := hia
        simpa using this
      exact hT i hi hne c
    · have e : stepJ J = J' := Option.some.inj hJ'
      subst e
      refine ⟨Or.inl ha, fun _ => ⟨⟨?_, a0⟩, ?_, ⟨a3, ?_, a5, ?_, ?_⟩, ?_, ?_, ?_, a10⟩, ?_, j4, j5⟩
      · refine rpl_l (fun c => ?_) a1
        rw [hbase c]
        show _ ↔ (c ∈ (aL (stepA A J c0) (jAt J)).flatten ∧ bt (aC A) (c % 32) = false)
        rw [eLa]
      · intro c hc hc2
        rw [show jAt (stepJ J) = jAt J from rfl, eLa, tak_mem] at hc
        exact a2 c hc.1 hc2
      · intro c hc
        rw [show jAt (stepJ J) = jAt J from rfl, eLa]
        have hc' : bt (aC A) (c % 32) = false := hc
        refine (a4 c hc').trans ⟨fun q => ((hbase c).mp ⟨q, hc'⟩).1, fun q => ((hbase c).mpr ⟨q, hc'⟩).1⟩
      · show leftN (aC A) (jSt J) = leftN (aC A) (aL (stepA A J c0) (jAt J)) + (jSi J + 1)
        rw [eLa]; omega
      · intro q
        exact absurd (show jSi J + 1 = 0 from q) (by omega)
      · show 1 ≤ leftN (aC A) (aL (stepA A J c0) (jAt J))
        rw [eLa]; exact hl0
      · show jGo J + 1 + leftN (aC A) (aL (stepA A J c0) (jAt J)) ≤ 30
        rw [eLa]; omega
      · show jSi J + 1 ≤ jGo J + 1
        omega
      · show (jRe J).length + (jSi J + 1) + sumL P (stepA A J c0) ≤ 120
        omega
  · rw [if_neg hb]
    have hk4 : ∀ x L, okJ (recJ (stepJ J) x L) := fun x L => by
      refine ⟨q1, ?_, q3, by show jGo J + 1 ≤ 30; omega, Nat.zero_le _, ?_, q7⟩
      · show (jRe J ++ [(jAt J, jGo J + 1, x)]).length ≤ 120
        rw [List.length_append]
        simp only [List.length_cons, List.length_nil]
        omega
      · intro r hr
        rcases List.mem_append.mp (show r ∈ jRe J ++ [(jAt J, jGo J + 1, x)] from hr) with g | g
        · exact q6 r g
        · rw [List.mem_singleton] at g
          subst g
          exact ⟨by show jAt J ≤ 3; omega, by show jGo J + 1 ≤ 30; omega⟩
    have hre : ∀ x L, jRe (recJ (stepJ J) x L) = jRe J ++ [(jAt J, jGo J + 1, x)] := fun _ _ => rfl
    have hrene : ∀ x L, ¬ jRe (recJ (stepJ J) x L) = [] := fun x L e => by rw [hre] at e; simp at e
    have hrel : ∀ x L, (jRe (recJ (stepJ J) x L)).length = (jRe J).length + 1 := fun x L => by rw [hre, List.length_append]; rfl
    unfold stepEnd
    cases hl : lastA A J c0
    · rw [if_neg (by decide)]
      have hl0 : 1 ≤ leftN (aC A) (takL c0 (aL A (jAt J))) := by
        unfold lastA at hl
        rw [decide_eq_false_iff_not, rb_0 hktak] at hl
        omega
      have e0 : jAt (stepJ J) = jAt J := rfl
      have eX : aX (stepA A J c0) = aX A := rfl
      unfold recA
      rw [e0, eLa, eX]
      refine ⟨⟨hP, k1, k2, hkL, hk4 _ _⟩, ⟨iP, iO, iC⟩, fun i hi hia c => ?_, fun q => absurd q (by simp [setJ, aJ]), fun J' hJ' => ?_⟩
      · have hne : jAt J ≠ i := by
          have : decide (jAt J = i) = false := hia
          simpa using this
        exact hT i hi hne c
      · have e : recJ (stepJ J) (aX A + 1) (takL c0 (aL A (jAt J))) = J' := Option.some.inj hJ'
        subst e
        refine ⟨Or.inl ha, fun _ => ⟨⟨?_, a0⟩, ?_, ⟨hktak, ?_, ?_, ?_, ?_⟩, ?_, ?_, Nat.zero_le _, a10⟩, ?_, j4, fun hr0 => absurd hr0 (hrene _ _)⟩
        · refine rpl_l (fun c => ?_) a1
          rw [hbase c]
          show _ ↔ (c ∈ (aL (stepA A J c0) (jAt J)).flatten ∧ bt (aC A) (c % 32) = false)
          rw [eLa]
        · intro c hc hc2
          have hc' : c ∈ (aL (stepA A J c0) (jAt J)).flatten := hc
          rw [eLa, tak_mem] at hc'
          exact a2 c hc'.1 hc2
        · intro c _
          show c ∈ (takL c0 (aL A (jAt J))).flatten ↔ c ∈ (aL (stepA A J c0) (jAt J)).flatten
          rw [eLa]
        · intro c hc hc2
          have hc' : c ∈ (takL c0 (aL A (jAt J))).flatten := hc
          rw [tak_mem] at hc'
          exact a2 c hc'.1 hc2
        · show leftN (aC A) (takL c0 (aL A (jAt J))) = leftN (aC A) (aL (stepA A J c0) (jAt J)) + 0
          rw [eLa]; rfl
        · intro _
          exact eLa.symm
        · show 1 ≤ leftN (aC A) (aL (stepA A J c0) (jAt J))
          rw [eLa]; exact hl0
        · show jGo J + 1 + leftN (aC A) (aL (stepA A J c0) (jAt J)) ≤ 30
          rw [eLa]; omega
        · show (jRe (recJ (stepJ J) (aX A + 1) (takL c0 (aL A (jAt J))))).length + 0 + sumL P (stepA A J c0) ≤ 120
          rw [hrel]; omega
    · rw [if_pos rfl]
      obtain ⟨r1, r2, r3⟩ := rpl_car hktak (hlr hl)
      have e0 : jAt (stepJ J) = jAt J := rfl
      have eX : aX (stepA A J c0) = aX A := rfl
      unfold recA
      rw [e0, eLa, eX]
      generalize hR : recJ (stepJ J) (aX A + 1) (takL c0 (aL A (jAt J))) = R
      have hRat : jAt R = jAt J := by rw [← hR]; rfl
      have hRsd : jSd R = jSd J := by rw [← hR]; rfl
      have hRre : (jRe R).length = (jRe J).length + 1 := by rw [← hR]; exact hrel _ _
      have hRne : ¬ jRe R = [] := by rw [← hR]; exact hrene _ _
      have hRk := hk4 (aX A + 1) (takL c0 (aL A (jAt J)))
      rw [hR] at hRk
      have hRsi : jSi R = 0 := by rw [← hR]; rfl
      unfold carA
      rw [hRat, if_pos ha, hRsd]
      generalize hC : (jSd J).foldl (carS P (jAt J)) (aL (setJ (setX (stepA A J c0) (aX A + 1)) (some R)) (jAt J), aX (setJ (setX (stepA A J c0) (aX A + 1)) (some R))) = C
      have hC1 : C.1 = (jSd J).foldl (carL P (jAt J)) (takL c0 (aL A (jAt J))) := by
        rw [← hC, carS_L]
        show (jSd J).foldl (carL P (jAt J)) (aL (stepA A J c0) (jAt J)) = _
        rw [eLa]
      rw [← hC1] at r2 r3
      have eLc : ∀ j, aL (setJ (carT P (setJ (setX (stepA A J c0) (aX A + 1)) (some R)) (jAt J) C) (some (jNoSd R))) j = if j = jAt J then C.1 else aL A j := fun j => by
        show (if j = jAt J then C.1 else aL (stepA A J c0) j) = _
        by_cases e : j = jAt J
        · rw [if_pos e, if_pos e]
        · rw [if_neg e, if_neg e, eL, if_neg e]
      refine come_inv (A := setJ (carT P (setJ (setX (stepA A J c0) (aX A + 1)) (some R)) (jAt J) C) (some (jNoSd R))) (J := jNoSd R) (n := jAt J + 1) hP k1 k2 (fun i hi => ?_) ?_ ?_ rfl hRsi iP iO iC j4 (fun i hi hlt c => ?_) (fun i hi hge c => ?_) ?_ (fun q => absurd q hRne)
      · rw [eLc]
        split
        · exact r2
        · exact k3 i hi
      · exact hRk.2.1
      · exact hRk.2.2.2.2.2.1
      · rw [eLc]
        by_cases e : i = jAt J
        · rw [if_pos e, r3, e]
          exact Iff.rfl
        · rw [if_neg e]
          have := iT i hi (by rw [hat]; exact decide_eq_false (fun q => e q.symm)) c
          rw [hatN] at this
          exact this.trans ⟨fun q => q.resolve_right (fun q2 => by omega), Or.inl⟩
      · rw [eLc, if_neg (by omega)]
        have := iT i hi (by rw [hat]; exact decide_eq_false (by omega)) c
        rw [hatN] at this
        exact this.trans ⟨fun q => q.imp id (fun q2 => q2.1), fun q => q.imp id (fun q2 => ⟨q2, by omega⟩)⟩
      · have hs2 := sum_set (A := A) ha C.1
        have e1 : sumL P (setJ (carT P (setJ (setX (stepA A J c0) (aX A + 1)) (some R)) (jAt J) C) (some (jNoSd R))) = sumL P (setL A (jAt J) C.1) := by
          unfold sumL
          refine congrArg List.sum (List.map_congr_left (fun j _ => ?_))
          rw [eLc]
          rfl
        have hc0 : leftN (aC A) C.1 = 0 := left_0.mpr (fun c hc => okV_not ((r3 c).mp hc))
        rw [e1]
        show (jRe R).length + _ ≤ 120
        rw [hRre]
        omega
end INS
