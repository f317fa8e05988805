/-! Leaves: what is read, 2 -/
theorem flat_at : ∀ (L : LL) (k i : Nat) (hk : k < L.length), i < L[k].length → L.flatten[(L.take k).flatten.length + i]? = L[k][i]?
  | [], k, i, hk, _ => by simp at hk
  | l :: L, 0, i, hk, hi => by simp at hi ⊢; rw [List.getElem?_append_left hi]
  | l :: L, k + 1, i, hk, hi => by
    simp only [List.getElem_cons_succ] at hi
    have h := flat_at L k i (by simpa using hk) hi
    simp only [List.take_succ_cons, List.flatten_cons, List.length_append, List.getElem_cons_succ]
    rw [List.getElem?_append_right (by omega), show l.length + (L.take k).flatten.length + i - l.length = (L.take k).flatten.length + i by omega]
    exact h
theorem flat_lt {L : LL} {k i : Nat} (hk : k < L.length) (hi : i < L[k].length) : (L.take k).flatten.length + i < L.flatten.length := by
  have h := flat_at L k i hk hi
  rw [List.getElem?_eq_getElem hi] at h
  exact (List.getElem?_eq_some_iff.mp h).1
theorem flat_get {L : LL} {k i : Nat} (hk : k < L.length) (hi : i < L[k].length) : L.flatten[(L.take k).flatten.length + i]'(flat_lt hk hi) = L[k][i] := by
  have h := flat_at L k i hk hi
  rw [List.getElem?_eq_getElem hi, List.getElem?_eq_getElem (flat_lt hk hi)] at h
  exact Option.some.inj h
def rowAtS (L : LL) (k i : Int32) : Int32 := if k < 0 then -1 else match L[k.toNatClampNeg]? with
  | none => -1
  | some l => if i < 0 then -1 else match l[i.toNatClampNeg]? with
    | none => -1
    | some c => nI (c % 32)
def leftInS (d : Int32) (L : LL) (k : Int32) : Int32 := if k < 0 then -1 else match L[k.toNatClampNeg]? with
  | none => -1
  | some l => nI (l.filter (fun c => bt d (c % 32))).length
section LVR
variable {G : GG} {t page : Nat} {down : Bool} {L : LL}
theorem s_Lv_rowAt (ho : okLv t) (hi : isLv G t page down L) (hk : okL page L) (k i : Int32) : f_Lv_rowAt [.ref t, .int k, .int i] (hp G) = some (some (.int (rowAtS L k i)), hp G) := by
  have hln := hk.len
  have hn := hk.2.1
  have hp8 := hk.1
  rw [e_Lv_rowAt t _ _ _ (ob_Lv G ho)]
  unfold rowAtS
  by_cases hk0 : k < 0
  · rw [if_pos hk0, if_pos hk0]
  · rw [if_neg hk0, if_neg hk0]
    obtain ⟨kn, hkn, rfl⟩ := (n_cases k).resolve_left hk0
    simp (disch := omega) only [gg_Lv_leaves _ ho, hi.1.2.1, Option.bind_some, n_lt, nI_tn]
    by_cases hkl : kn < L.length
    · have hz : L[kn].length ≤ page := (hk.2.2.1 _ (List.getElem_mem hkl)).2
      rw [if_pos hkl, List.getElem?_eq_getElem hkl]
      simp only
      by_cases hi0 : i < 0
      · rw [if_pos hi0, if_pos hi0]
      · rw [if_neg hi0, if_neg hi0]
        obtain ⟨j, hj, rfl⟩ := (n_cases i).resolve_left hi0
        simp (disch := omega) only [gg_Lv_size _ ho, rr_Lv_size _ ho, hi.2.2 kn hkl, Option.bind_some, n_lt, nI_tn]
        by_cases hjl : j < L[kn].length
        · have hlt := flat_lt hkl hjl
          rw [if_pos hjl, List.getElem?_eq_getElem hjl]
          simp (disch := omega) only [gg_Lv_entry _ ho, Option.bind_some, s_Lv_firstOf ho hi hln (Nat.le_of_lt hkl), ci_some, nI_add, rr_Lv_entry _ ho, hi.2.1 _ hlt, s_Lv_rowIn, flat_get hkl hjl]
        · rw [if_neg hjl, List.getElem?_eq_none (by omega)]
    · rw [if_neg hkl, List.getElem?_eq_none (by omega)]
theorem s_Lv_withValue (ho : okLv t) (hi : isLv G t page down L) (hk : okL page L) (v m : Int32) : f_Lv_withValue [.ref t, .int v, .int m] (hp G) = some (some (.int (nI (L.flatten.filter (fun c => decide (nI (valD down c) = v) && bt m (c % 32))).length)), hp G) := by
  have hn := hk.2.1
  rw [e_Lv_withValue t _ _ _ (ob_Lv G ho)]
  have h := for_list L.flatten (fun f i a => mm_run p_Lv_withValue f 5 [.ref t, .int v, .int m, .int (nI a), .int (nI i)] [] (hp G)) (fun a c => a + (if decide (nI (valD down c) = v) && bt m (c % 32) then 1 else 0)) (fun a => some (some (.int (nI a)), hp G)) (fun f i a hil => ?_) (fun f a => ?_) 0 (f := mm_fu) (fu_lt (by omega))
  · rw [foldl_count, Nat.zero_add] at h
    exact h
  · have hc := hk.cod hil
    simp (disch := omega) only [e_Lv_withValue_5, gg_Lv_entries _ ho, gg_Lv_entry _ ho, rr_Lv_entry _ ho, hi.1.1, hi.2.1 i hil, Option.bind_some, n_lt, s_Lv_valueIn ho hi hc, ci_some, s_Lv_rowIn, nI_1]
    rw [if_pos hil]
    have hb := bt_shr1 m (r := L.flatten[i] % 32) (Nat.mod_lt _ (by decide))
    rw [hb]
    by_cases h1 : nI (valD down L.flatten[i]) = v <;> by_cases h2 : bt m (L.flatten[i] % 32) = true <;> simp [h1, h2]
  · simp (disch := omega) only [e_Lv_withValue_5, gg_Lv_entries _ ho, hi.1.1, Option.bind_some, n_lt]
    rw [if_neg (by omega)]
theorem s_Lv_leftIn (ho : okLv t) (hi : isLv G t page down L) (hk : okL page L) (k d : Int32) : f_Lv_leftIn [.ref t, .int k, .int d] (hp G) = some (some (.int (leftInS d L k)), hp G) := by
  have hln := hk.len
  have hn := hk.2.1
  have hp8 := hk.1
  rw [e_Lv_leftIn t _ _ _ (ob_Lv G ho)]
  unfold leftInS
  by_cases hk0 : k < 0
  · rw [if_pos hk0, if_pos hk0]
  · rw [if_neg hk0, if_neg hk0]
    obtain ⟨kn, hkn, rfl⟩ := (n_cases k).resolve_left hk0
    simp (disch := omega) only [gg_Lv_leaves _ ho, hi.1.2.1, Option.bind_some, n_lt, nI_tn]
    by_cases hkl : kn < L.length
    · have hz : L[kn].length ≤ page := (hk.2.2.1 _ (List.getElem_mem hkl)).2
      rw [if_pos hkl, List.getElem?_eq_getElem hkl]
      simp only [s_Lv_firstOf ho hi hln (Nat.le_of_lt hkl), ci_some]
      have hfull : ∀ i, i < L[kn].length → (L.take kn).flatten.length + i < L.flatten.length := fun i hil => flat_lt hkl hil
      have htk : (L.take kn).flatten.length ≤ L.flatten.length := by
        have := (List.take_append_drop kn L)
        rw [← this, List.flatten_append, List.length_append]
        rw [this]; omega
      have h := for_list L[kn] (fun f i a => mm_run p_Lv_leftIn f 26 [.ref t, .int (nI kn), .int d, .int (nI (L.take kn).flatten.length), .int (nI a), .int (nI ((L.take kn).flatten.length + i))] [] (hp G)) (fun a c => a + (if bt d (c % 32) then 1 else 0)) (fun a => some (some (.int (nI a)), hp G)) (fun f i a hil => ?_) (fun f a => ?_) 0 (f := mm_fu) (fu_lt (by omega))
      · rw [foldl_count, Nat.zero_add] at h
        exact h
      · have hlt := hfull i hil
        simp (disch := omega) only [e_Lv_leftIn_26, gg_Lv_entries _ ho, gg_Lv_entry _ ho, gg_Lv_size _ ho, rr_Lv_size _ ho, hi.2.2 kn hkl, rr_Lv_entry _ ho, hi.1.1, hi.2.1 _ hlt, Option.bind_some, nI_add, n_lt, ci_some, s_Lv_rowIn, nI_1, flat_get hkl hil]
        rw [if_pos (by omega), if_pos hlt, bt_shr1 d (r := L[kn][i] % 32) (Nat.mod_lt _ (by decide)), i01n, nI_add]
        congr 6
      · simp (disch := omega) only [e_Lv_leftIn_26, gg_Lv_size _ ho, rr_Lv_size _ ho, hi.2.2 kn hkl, Option.bind_some, nI_add, n_lt]
        rw [if_neg (by omega)]
    · rw [if_neg hkl, List.getElem?_eq_none (by omega)]
theorem s_Lv_codeWith (ho : okLv t) (hi : isLv G t page down L) (hk : okL page L) {r : Nat} (hr : r < 32) : f_Lv_codeWith [.ref t, .int (nI r)] (hp G) = some (some (.int (match L.flatten.find? (fun c => decide (c % 32 = r)) with
    | some c => nI c
    | none => -1)), hp G) := by
  have hn := hk.2.1
  have loop : ∀ (m i f : Nat), i + m = L.flatten.length → m < f → mm_run p_Lv_codeWith f 2 [.ref t, .int (nI r), .int (nI i)] [] (hp G) = some (some (.int (match (L.flatten.drop i).find? (fun c => decide (c % 32 = r)) with
    | some c => nI c
    | none => -1)), hp G) := by
    intro m
    induction m with
    | zero =>
      intro i f h1 h2
      obtain ⟨f, rfl⟩ : ∃ g, f = g + 1 := ⟨f - 1, by omega⟩
      rw [e_Lv_codeWith_2]
      simp (disch := omega) only [gg_Lv_entries _ ho, hi.1.1, Option.bind_some, n_lt]
      rw [if_neg (by omega), List.drop_of_length_le (by omega)]
      rfl
    | succ m ih =>
      intro i f h1 h2
      obtain ⟨f, rfl⟩ : ∃ g, f = g + 1 := ⟨f - 1, by omega⟩
      have hil : i < L.flatten.length := by omega
      have hm : L.flatten[i] % 32 < 32 := Nat.mod_lt _ (by decide)
      rw [e_Lv_codeWith_2]
      simp (disch := omega) only [gg_Lv_entries _ ho, gg_Lv_entry _ ho, rr_Lv_entry _ ho, hi.1.1, hi.2.1 i hil, Option.bind_some, n_lt, n_eq, nI_1, ci_some, s_Lv_rowIn]
      rw [if_pos hil, ih (i + 1) f (by omega) (by omega), drop_cons hil, List.find?_cons]
      by_cases hc : L.flatten[i] % 32 = r <;> simp [hc]
  rw [e_Lv_codeWith t _ _ (ob_Lv G ho), show (0 : Int32) = nI 0 from rfl, loop _ 0 mm_fu (Nat.zero_add _) (fu_lt (by omega))]
  simp
theorem rb_bt : ∀ (l : List Nat) (a : Int32) {i : Nat}, i < 32 → bt (l.foldl (fun a c => a ||| sbit (c % 32)) a) i = (bt a i || decide (i ∈ l.map (· % 32)))
  | [], a, i, _ => by simp
  | c :: l, a, i, hi => by
    rw [List.foldl_cons, rb_bt l _ hi, b_or, bt_sbit (Nat.mod_lt _ (by decide)) hi]
    simp only [List.map_cons, List.mem_cons, Bool.decide_or]
    cases bt a i <;> simp
theorem bt_rb (L : LL) {i : Nat} (hi : i < 32) : bt (rb L) i = decide (i ∈ L.flatten.map (· % 32)) := by
  unfold rb
  rw [rb_bt _ _ hi, b_0]
  simp
theorem bt_rbd (L : LL) (d : Int32) {c : Nat} (hc : c ∈ L.flatten) : bt (rb L &&& d) (c % 32) = bt d (c % 32) := by
  rw [b_and, bt_rb L (Nat.mod_lt _ (by decide))]
  have : c % 32 ∈ L.flatten.map (· % 32) := List.mem_map.mpr ⟨c, hc, rfl⟩
  simp only [this, decide_true, Bool.true_and]
theorem s_Lv_leftAt (ho : okLv t) (hi : isLv G t page down L) (hk : okL page L) (v d : Int32) {w : Nat} (hw : w ≤ 1) : f_Lv_leftAt [.ref t, .int v, .int d, .int (nI w)] (hp G) = some (some (.int (lk v 0 (leftsW w d L))), hp G) := by
  have hn := hk.2.1
  rw [e_Lv_leftAt t _ _ _ _ (ob_Lv G ho)]
  simp (disch := omega) only [s_Lv_rowBits ho hi hn, ci_some, gg_Lv_entries _ ho, hi.1.1, Option.bind_some]
  by_cases hw0 : w = 0
  · subst hw0
    rw [if_pos (show nI 0 = 0 from rfl)]
    have loop : ∀ (m i s f : Nat), i + m = L.flatten.length → m < f → s ≤ i → mm_run p_Lv_leftAt f 29 [.ref t, .int v, .int (nI 0), .int (rb L &&& d), .int (nI s), .int (nI L.flatten.length), .int (nI i)] [] (hp G) = some (some (.int (lk v s (((L.flatten.drop i).filter (fun c => bt d (c % 32))).map (· % 32)))), hp G) := by
      intro m
      induction m with
      | zero =>
        intro i s f h1 h2 h3
        obtain ⟨f, rfl⟩ : ∃ g, f = g + 1 := ⟨f - 1, by omega⟩
        rw [e_Lv_leftAt_29]
        simp (disch := omega) only [n_lt]
        rw [if_neg (by omega), List.drop_of_length_le (by omega)]
        rfl
      | succ m ih =>
        intro i s f h1 h2 h3
        obtain ⟨f, rfl⟩ : ∃ g, f = g + 1 := ⟨f - 1, by omega⟩
        have hil : i < L.flatten.length := by omega
        rw [e_Lv_leftAt_29]
        simp (disch := omega) only [n_lt, gg_Lv_entry _ ho, rr_Lv_entry _ ho, hi.2.1 i hil, Option.bind_some, nI_1, ci_some, s_Lv_rowIn]
        rw [if_pos hil, if_pos (show nI 0 = 0 from rfl), bt_shr1 _ (r := L.flatten[i] % 32) (Nat.mod_lt _ (by decide)), bt_rbd L d (List.getElem_mem hil), drop_cons hil, List.filter_cons]
        by_cases hc : bt d (L.flatten[i] % 32) = true
        · rw [if_pos hc, if_neg (by decide), if_pos hc, List.map_cons, lk, ih (i + 1) (s + 1) f (by omega) (by omega) (by omega)]
          split <;> rfl
        · rw [if_neg hc, if_pos rfl, if_neg hc, ih (i + 1) s f (by omega) (by omega) (by omega)]
    have h := loop L.flatten.length 0 0 mm_fu (Nat.zero_add _) (fu_lt (by omega)) (Nat.le_refl _)
    exact h
  · have hw1 : w = 1 := by omega
    subst hw1
    rw [if_neg (by decide)]
    have loop : ∀ (m i s f : Nat), i + m = 30 → m < f → s ≤ i → mm_run p_Lv_leftAt f 29 [.ref t, .int v, .int (nI 1), .int (rb L &&& d), .int (nI s), .int (nI 30), .int (nI i)] [] (hp G) = some (some (.int (lk v s ((List.range' i m).filter (fun r => bt (rb L &&& d) r)))), hp G) := by
      intro m
      induction m with
      | zero =>
        intro i s f h1 h2 h3
        obtain ⟨f, rfl⟩ : ∃ g, f = g + 1 := ⟨f - 1, by omega⟩
        rw [e_Lv_leftAt_29]
        simp (disch := omega) only [n_lt]
        rw [if_neg (by omega)]
        rfl
      | succ m ih =>
        intro i s f h1 h2 h3
        obtain ⟨f, rfl⟩ : ∃ g, f = g + 1 := ⟨f - 1, by omega⟩
        rw [e_Lv_leftAt_29]
        simp (disch := omega) only [n_lt, nI_1]
        rw [if_pos (by omega), if_neg (by decide), bt_shr1 _ (r := i) (by omega), List.range'_succ, List.filter_cons]
        by_cases hc : bt (rb L &&& d) i = true
        · rw [if_pos hc, if_neg (by decide), if_pos hc, lk, ih (i + 1) (s + 1) f (by omega) (by omega) (by omega)]
          split <;> rfl
        · rw [if_neg hc, if_pos rfl, if_neg hc, ih (i + 1) s f (by omega) (by omega) (by omega)]
    have h := loop 30 0 0 mm_fu (by omega) (fu_lt (by omega)) (Nat.le_refl _)
    rw [← List.range_eq_range'] at h
    exact h
end LVR
