theorem mm_tp0 {w : Cond} (j : Nat) (h0 : (k2_sels lw_privs_1)[j]? = some w) (hg : goodWord w = true) : w ∈ mm_tbl := by
  have h : w ∈ k2_sels lw_privs_1 := List.mem_of_getElem? h0
  have h2 : w ∈ k2_sels lw_privs := by
    obtain ⟨x, hx, rfl⟩ := List.mem_map.mp h
    refine List.mem_map.mpr ⟨x, ?_, rfl⟩
    unfold lw_privs
    simp only [List.mem_append]
    simp [hx]
  exact List.mem_filter.mpr ⟨List.mem_append_left _ h2, hg⟩
theorem mm_tp1 {w : Cond} (j : Nat) (h0 : (k2_sels lw_privs_2)[j]? = some w) (hg : goodWord w = true) : w ∈ mm_tbl := by
  have h : w ∈ k2_sels lw_privs_2 := List.mem_of_getElem? h0
  have h2 : w ∈ k2_sels lw_privs := by
    obtain ⟨x, hx, rfl⟩ := List.mem_map.mp h
    refine List.mem_map.mpr ⟨x, ?_, rfl⟩
    unfold lw_privs
    simp only [List.mem_append]
    simp [hx]
  exact List.mem_filter.mpr ⟨List.mem_append_left _ h2, hg⟩
theorem mm_tp2 {w : Cond} (j : Nat) (h0 : (k2_sels lw_privs_3)[j]? = some w) (hg : goodWord w = true) : w ∈ mm_tbl := by
  have h : w ∈ k2_sels lw_privs_3 := List.mem_of_getElem? h0
  have h2 : w ∈ k2_sels lw_privs := by
    obtain ⟨x, hx, rfl⟩ := List.mem_map.mp h
    refine List.mem_map.mpr ⟨x, ?_, rfl⟩
    unfold lw_privs
    simp only [List.mem_append]
    simp [hx]
  exact List.mem_filter.mpr ⟨List.mem_append_left _ h2, hg⟩
theorem mm_tp3 {w : Cond} (j : Nat) (h0 : (k2_sels lw_privs_4)[j]? = some w) (hg : goodWord w = true) : w ∈ mm_tbl := by
  have h : w ∈ k2_sels lw_privs_4 := List.mem_of_getElem? h0
  have h2 : w ∈ k2_sels lw_privs := by
    obtain ⟨x, hx, rfl⟩ := List.mem_map.mp h
    refine List.mem_map.mpr ⟨x, ?_, rfl⟩
    unfold lw_privs
    simp only [List.mem_append]
    simp [hx]
  exact List.mem_filter.mpr ⟨List.mem_append_left _ h2, hg⟩
theorem mm_tp4 {w : Cond} (j : Nat) (h0 : (k2_sels lw_privs_5)[j]? = some w) (hg : goodWord w = true) : w ∈ mm_tbl := by
  have h : w ∈ k2_sels lw_privs_5 := List.mem_of_getElem? h0
  have h2 : w ∈ k2_sels lw_privs := by
    obtain ⟨x, hx, rfl⟩ := List.mem_map.mp h
    refine List.mem_map.mpr ⟨x, ?_, rfl⟩
    unfold lw_privs
    simp only [List.mem_append]
    simp [hx]
  exact List.mem_filter.mpr ⟨List.mem_append_left _ h2, hg⟩
theorem mm_tp5 {w : Cond} (j : Nat) (h0 : (k2_sels lw_privs_6)[j]? = some w) (hg : goodWord w = true) : w ∈ mm_tbl := by
  have h : w ∈ k2_sels lw_privs_6 := List.mem_of_getElem? h0
  have h2 : w ∈ k2_sels lw_privs := by
    obtain ⟨x, hx, rfl⟩ := List.mem_map.mp h
    refine List.mem_map.mpr ⟨x, ?_, rfl⟩
    unfold lw_privs
    simp only [List.mem_append]
    simp [hx]
  exact List.mem_filter.mpr ⟨List.mem_append_left _ h2, hg⟩
theorem mm_tp6 {w : Cond} (j : Nat) (h0 : (k2_sels lw_privs_7)[j]? = some w) (hg : goodWord w = true) : w ∈ mm_tbl := by
  have h : w ∈ k2_sels lw_privs_7 := List.mem_of_getElem? h0
  have h2 : w ∈ k2_sels lw_privs := by
    obtain ⟨x, hx, rfl⟩ := List.mem_map.mp h
    refine List.mem_map.mpr ⟨x, ?_, rfl⟩
    unfold lw_privs
    simp only [List.mem_append]
    simp [hx]
  exact List.mem_filter.mpr ⟨List.mem_append_left _ h2, hg⟩
theorem mm_tp7 {w : Cond} (j : Nat) (h0 : (k2_sels lw_privs_8)[j]? = some w) (hg : goodWord w = true) : w ∈ mm_tbl := by
  have h : w ∈ k2_sels lw_privs_8 := List.mem_of_getElem? h0
  have h2 : w ∈ k2_sels lw_privs := by
    obtain ⟨x, hx, rfl⟩ := List.mem_map.mp h
    refine List.mem_map.mpr ⟨x, ?_, rfl⟩
    unfold lw_privs
    simp only [List.mem_append]
    simp [hx]
  exact List.mem_filter.mpr ⟨List.mem_append_left _ h2, hg⟩
theorem mm_tp8 {w : Cond} (j : Nat) (h0 : (k2_sels lw_privs_9)[j]? = some w) (hg : goodWord w = true) : w ∈ mm_tbl := by
  have h : w ∈ k2_sels lw_privs_9 := List.mem_of_getElem? h0
  have h2 : w ∈ k2_sels lw_privs := by
    obtain ⟨x, hx, rfl⟩ := List.mem_map.mp h
    refine List.mem_map.mpr ⟨x, ?_, rfl⟩
    unfold lw_privs
    simp only [List.mem_append]
    simp [hx]
  exact List.mem_filter.mpr ⟨List.mem_append_left _ h2, hg⟩
theorem mm_tp9 {w : Cond} (j : Nat) (h0 : (k2_sels lw_privs_10)[j]? = some w) (hg : goodWord w = true) : w ∈ mm_tbl := by
  have h : w ∈ k2_sels lw_privs_10 := List.mem_of_getElem? h0
  have h2 : w ∈ k2_sels lw_privs := by
    obtain ⟨x, hx, rfl⟩ := List.mem_map.mp h
    refine List.mem_map.mpr ⟨x, ?_, rfl⟩
    unfold lw_privs
    simp only [List.mem_append]
    simp [hx]
  exact List.mem_filter.mpr ⟨List.mem_append_left _ h2, hg⟩
theorem mm_tp10 {w : Cond} (j : Nat) (h0 : (k2_sels lw_privs_11)[j]? = some w) (hg : goodWord w = true) : w ∈ mm_tbl := by
  have h : w ∈ k2_sels lw_privs_11 := List.mem_of_getElem? h0
  have h2 : w ∈ k2_sels lw_privs := by
    obtain ⟨x, hx, rfl⟩ := List.mem_map.mp h
    refine List.mem_map.mpr ⟨x, ?_, rfl⟩
    unfold lw_privs
    simp only [List.mem_append]
    simp [hx]
  exact List.mem_filter.mpr ⟨List.mem_append_left _ h2, hg⟩
theorem mm_tt0 {w : Cond} (j : Nat) (h0 : tables_1_1[j]? = some w) (hg : goodWord w = true) : w ∈ mm_tbl := by
  have h : w ∈ tables_1_1 := List.mem_of_getElem? h0
  have h2 : w ∈ tables_1 := by
    unfold tables_1
    exact List.mem_append_left _ h
  exact List.mem_filter.mpr ⟨List.mem_append_right _ h2, hg⟩
theorem mm_tt1 {w : Cond} (j : Nat) (h0 : tables_1_2[j]? = some w) (hg : goodWord w = true) : w ∈ mm_tbl := by
  have h : w ∈ tables_1_2 := List.mem_of_getElem? h0
  have h2 : w ∈ tables_1 := by
    unfold tables_1
    exact List.mem_append_right _ (List.mem_append_left _ h)
  exact List.mem_filter.mpr ⟨List.mem_append_right _ h2, hg⟩
theorem mm_tt2 {w : Cond} (j : Nat) (h0 : tables_1_3[j]? = some w) (hg : goodWord w = true) : w ∈ mm_tbl := by
  have h : w ∈ tables_1_3 := List.mem_of_getElem? h0
  have h2 : w ∈ tables_1 := by
    unfold tables_1
    exact List.mem_append_right _ (List.mem_append_right _ (List.mem_append_left _ h))
  exact List.mem_filter.mpr ⟨List.mem_append_right _ h2, hg⟩
theorem mm_tt3 {w : Cond} (j : Nat) (h0 : tables_1_4[j]? = some w) (hg : goodWord w = true) : w ∈ mm_tbl := by
  have h : w ∈ tables_1_4 := List.mem_of_getElem? h0
  have h2 : w ∈ tables_1 := by
    unfold tables_1
    exact List.mem_append_right _ (List.mem_append_right _ (List.mem_append_right _ (List.mem_append_left _ h)))
  exact List.mem_filter.mpr ⟨List.mem_append_right _ h2, hg⟩
theorem mm_tt4 {w : Cond} (j : Nat) (h0 : tables_1_5[j]? = some w) (hg : goodWord w = true) : w ∈ mm_tbl := by
  have h : w ∈ tables_1_5 := List.mem_of_getElem? h0
  have h2 : w ∈ tables_1 := by
    unfold tables_1
    exact List.mem_append_right _ (List.mem_append_right _ (List.mem_append_right _ (List.mem_append_right _ (List.mem_append_left _ h))))
  exact List.mem_filter.mpr ⟨List.mem_append_right _ h2, hg⟩
theorem mm_tt5 {w : Cond} (j : Nat) (h0 : tables_1_6[j]? = some w) (hg : goodWord w = true) : w ∈ mm_tbl := by
  have h : w ∈ tables_1_6 := List.mem_of_getElem? h0
  have h2 : w ∈ tables_1 := by
    unfold tables_1
    exact List.mem_append_right _ (List.mem_append_right _ (List.mem_append_right _ (List.mem_append_right _ (List.mem_append_right _ (List.mem_append_left _ h)))))
  exact List.mem_filter.mpr ⟨List.mem_append_right _ h2, hg⟩
theorem mm_tt6 {w : Cond} (j : Nat) (h0 : tables_1_7[j]? = some w) (hg : goodWord w = true) : w ∈ mm_tbl := by
  have h : w ∈ tables_1_7 := List.mem_of_getElem? h0
  have h2 : w ∈ tables_1 := by
    unfold tables_1
    exact List.mem_append_right _ (List.mem_append_right _ (List.mem_append_right _ (List.mem_append_right _ (List.mem_append_right _ (List.mem_append_right _ (List.mem_append_left _ h))))))
  exact List.mem_filter.mpr ⟨List.mem_append_right _ h2, hg⟩
theorem mm_tt7 {w : Cond} (j : Nat) (h0 : tables_1_8[j]? = some w) (hg : goodWord w = true) : w ∈ mm_tbl := by
  have h : w ∈ tables_1_8 := List.mem_of_getElem? h0
  have h2 : w ∈ tables_1 := by
    unfold tables_1
    exact List.mem_append_right _ (List.mem_append_right _ (List.mem_append_right _ (List.mem_append_right _ (List.mem_append_right _ (List.mem_append_right _ (List.mem_append_right _ (List.mem_append_left _ h)))))))
  exact List.mem_filter.mpr ⟨List.mem_append_right _ h2, hg⟩
theorem mm_tt8 {w : Cond} (j : Nat) (h0 : tables_1_9[j]? = some w) (hg : goodWord w = true) : w ∈ mm_tbl := by
  have h : w ∈ tables_1_9 := List.mem_of_getElem? h0
  have h2 : w ∈ tables_1 := by
    unfold tables_1
    exact List.mem_append_right _ (List.mem_append_right _ (List.mem_append_right _ (List.mem_append_right _ (List.mem_append_right _ (List.mem_append_right _ (List.mem_append_right _ (List.mem_append_right _ (List.mem_append_left _ h))))))))
  exact List.mem_filter.mpr ⟨List.mem_append_right _ h2, hg⟩
theorem mm_tt9 {w : Cond} (j : Nat) (h0 : tables_1_10[j]? = some w) (hg : goodWord w = true) : w ∈ mm_tbl := by
  have h : w ∈ tables_1_10 := List.mem_of_getElem? h0
  have h2 : w ∈ tables_1 := by
    unfold tables_1
    exact List.mem_append_right _ (List.mem_append_right _ (List.mem_append_right _ (List.mem_append_right _ (List.mem_append_right _ (List.mem_append_right _ (List.mem_append_right _ (List.mem_append_right _ (List.mem_append_right _ (h)))))))))
  exact List.mem_filter.mpr ⟨List.mem_append_right _ h2, hg⟩
theorem q_0 : Cond.selects "LeafSweep$Tape" ⟨"LeafSweep$Tape", "readSigns", "()V"⟩ ⟨"LeafSweep$Tape", "readSigns", "()V"⟩ ∈ mm_tbl := mm_tp0 0 rfl rfl
theorem q_1 : Cond.selects "LeafSweep$Reader" ⟨"LeafSweep$Reader", "pageLine", "()Z"⟩ ⟨"LeafSweep$Reader", "pageLine", "()Z"⟩ ∈ mm_tbl := mm_tp0 1 rfl rfl
theorem q_2 : Cond.selects "LeafSweep$Reader" ⟨"LeafSweep$Reader", "takeSingle", "()Z"⟩ ⟨"LeafSweep$Reader", "takeSingle", "()Z"⟩ ∈ mm_tbl := mm_tp0 2 rfl rfl
theorem q_3 : Cond.selects "LeafSweep$Reader" ⟨"LeafSweep$Reader", "wrong", "(I)Z"⟩ ⟨"LeafSweep$Reader", "wrong", "(I)Z"⟩ ∈ mm_tbl := mm_tp0 3 rfl rfl
theorem q_4 : Cond.selects "LeafSweep$Reader" ⟨"LeafSweep$Reader", "takeNumber", "(II)Z"⟩ ⟨"LeafSweep$Reader", "takeNumber", "(II)Z"⟩ ∈ mm_tbl := mm_tp0 4 rfl rfl
theorem q_5 : Cond.selects "LeafSweep$Reader" ⟨"LeafSweep$Reader", "takeMark", "()Z"⟩ ⟨"LeafSweep$Reader", "takeMark", "()Z"⟩ ∈ mm_tbl := mm_tp0 5 rfl rfl
theorem q_6 : Cond.selects "LeafSweep$Reader" ⟨"LeafSweep$Reader", "batchLine", "()Z"⟩ ⟨"LeafSweep$Reader", "batchLine", "()Z"⟩ ∈ mm_tbl := mm_tp0 6 rfl rfl
theorem q_7 : Cond.selects "LeafSweep$Reader" ⟨"LeafSweep$Reader", "indexLine", "()Z"⟩ ⟨"LeafSweep$Reader", "indexLine", "()Z"⟩ ∈ mm_tbl := mm_tp0 7 rfl rfl
theorem q_8 : Cond.selects "LeafSweep$Reader" ⟨"LeafSweep$Reader", "takeOneOf", "(II)Z"⟩ ⟨"LeafSweep$Reader", "takeOneOf", "(II)Z"⟩ ∈ mm_tbl := mm_tp0 8 rfl rfl
theorem q_9 : Cond.selects "LeafSweep$Reader" ⟨"LeafSweep$Reader", "takeWord", "(I)Z"⟩ ⟨"LeafSweep$Reader", "takeWord", "(I)Z"⟩ ∈ mm_tbl := mm_tp0 9 rfl rfl
theorem q_10 : Cond.selects "LeafSweep$Reader" ⟨"LeafSweep$Reader", "rowLine", "()Z"⟩ ⟨"LeafSweep$Reader", "rowLine", "()Z"⟩ ∈ mm_tbl := mm_tp0 10 rfl rfl
theorem q_11 : Cond.selects "LeafSweep$Reader" ⟨"LeafSweep$Reader", "pointLine", "()Z"⟩ ⟨"LeafSweep$Reader", "pointLine", "()Z"⟩ ∈ mm_tbl := mm_tp0 11 rfl rfl
theorem q_12 : Cond.selects "LeafSweep$Reader" ⟨"LeafSweep$Reader", "whereLine", "(LLeafSweep$Where;Z)Z"⟩ ⟨"LeafSweep$Reader", "whereLine", "(LLeafSweep$Where;Z)Z"⟩ ∈ mm_tbl := mm_tp0 12 rfl rfl
theorem q_13 : Cond.selects "LeafSweep$Reader" ⟨"LeafSweep$Reader", "openLimit", "(LLeafSweep$Where;ZZ)Z"⟩ ⟨"LeafSweep$Reader", "openLimit", "(LLeafSweep$Where;ZZ)Z"⟩ ∈ mm_tbl := mm_tp0 13 rfl rfl
theorem q_14 : Cond.selects "LeafSweep$Reader" ⟨"LeafSweep$Reader", "startsLimit", "(Z)Z"⟩ ⟨"LeafSweep$Reader", "startsLimit", "(Z)Z"⟩ ∈ mm_tbl := mm_tp0 14 rfl rfl
theorem q_15 : Cond.selects "LeafSweep$Reader" ⟨"LeafSweep$Reader", "columnLimit", "(LLeafSweep$Where;I)Z"⟩ ⟨"LeafSweep$Reader", "columnLimit", "(LLeafSweep$Where;I)Z"⟩ ∈ mm_tbl := mm_tp0 15 rfl rfl
theorem q_16 : Cond.selects "LeafSweep$Reader" ⟨"LeafSweep$Reader", "otherLimit", "(LLeafSweep$Where;I)Z"⟩ ⟨"LeafSweep$Reader", "otherLimit", "(LLeafSweep$Where;I)Z"⟩ ∈ mm_tbl := mm_tp1 0 rfl rfl
theorem q_17 : Cond.selects "LeafSweep$State" ⟨"LeafSweep$State", "seat", "(III)V"⟩ ⟨"LeafSweep$State", "seat", "(III)V"⟩ ∈ mm_tbl := mm_tp1 1 rfl rfl
theorem q_18 : Cond.selects "LeafSweep$Where" ⟨"LeafSweep$Where", "isSo", "(ILLeafSweep$State;I)Z"⟩ ⟨"LeafSweep$Where", "isSo", "(ILLeafSweep$State;I)Z"⟩ ∈ mm_tbl := mm_tp1 2 rfl rfl
theorem q_19 : Cond.selects "LeafSweep$State" ⟨"LeafSweep$State", "entriesOf", "(IZ[I)V"⟩ ⟨"LeafSweep$State", "entriesOf", "(IZ[I)V"⟩ ∈ mm_tbl := mm_tp1 3 rfl rfl
theorem q_20 : Cond.selects "LeafSweep$State" ⟨"LeafSweep$State", "noEntries", "([I)V"⟩ ⟨"LeafSweep$State", "noEntries", "([I)V"⟩ ∈ mm_tbl := mm_tp1 4 rfl rfl
theorem q_21 : Cond.selects "LeafSweep$Leaves" ⟨"LeafSweep$Leaves", "leafFor", "(I)I"⟩ ⟨"LeafSweep$Leaves", "leafFor", "(I)I"⟩ ∈ mm_tbl := mm_tp1 5 rfl rfl
theorem q_22 : Cond.selects "LeafSweep$Leaves" ⟨"LeafSweep$Leaves", "placeOf", "(I)I"⟩ ⟨"LeafSweep$Leaves", "placeOf", "(I)I"⟩ ∈ mm_tbl := mm_tp1 6 rfl rfl
theorem q_23 : Cond.selects "LeafSweep$Leaves" ⟨"LeafSweep$Leaves", "cut", "(I)V"⟩ ⟨"LeafSweep$Leaves", "cut", "(I)V"⟩ ∈ mm_tbl := mm_tp1 7 rfl rfl
theorem q_24 : Cond.selects "LeafSweep$Reader" ⟨"LeafSweep$Reader", "workLine", "()Z"⟩ ⟨"LeafSweep$Reader", "workLine", "()Z"⟩ ∈ mm_tbl := mm_tp1 8 rfl rfl
theorem q_25 : Cond.selects "LeafSweep$Reader" ⟨"LeafSweep$Reader", "workNumbers", "(I)Z"⟩ ⟨"LeafSweep$Reader", "workNumbers", "(I)Z"⟩ ∈ mm_tbl := mm_tp1 9 rfl rfl
theorem q_26 : Cond.selects "LeafSweep$Reader" ⟨"LeafSweep$Reader", "takeIndexName", "()Z"⟩ ⟨"LeafSweep$Reader", "takeIndexName", "()Z"⟩ ∈ mm_tbl := mm_tp1 10 rfl rfl
theorem q_27 : Cond.selects "LeafSweep" ⟨"LeafSweep", "isIndex", "(I)Z"⟩ ⟨"LeafSweep", "isIndex", "(I)Z"⟩ ∈ mm_tbl := mm_tp1 11 rfl rfl
theorem q_28 : Cond.selects "LeafSweep$Leaves" ⟨"LeafSweep$Leaves", "firstOf", "(I)I"⟩ ⟨"LeafSweep$Leaves", "firstOf", "(I)I"⟩ ∈ mm_tbl := mm_tp1 12 rfl rfl
theorem q_29 : Cond.selects "LeafSweep$State" ⟨"LeafSweep$State", "isOnceOn", "(II)Z"⟩ ⟨"LeafSweep$State", "isOnceOn", "(II)Z"⟩ ∈ mm_tbl := mm_tp1 13 rfl rfl
theorem q_30 : Cond.selects "LeafSweep$State" ⟨"LeafSweep$State", "fitAside", "()Z"⟩ ⟨"LeafSweep$State", "fitAside", "()Z"⟩ ∈ mm_tbl := mm_tp1 14 rfl rfl
theorem q_31 : Cond.selects "LeafSweep$State" ⟨"LeafSweep$State", "moveEntries", "(I)V"⟩ ⟨"LeafSweep$State", "moveEntries", "(I)V"⟩ ∈ mm_tbl := mm_tp1 15 rfl rfl
theorem q_32 : Cond.selects "LeafSweep$State" ⟨"LeafSweep$State", "takeEntry", "(III)V"⟩ ⟨"LeafSweep$State", "takeEntry", "(III)V"⟩ ∈ mm_tbl := mm_tp2 0 rfl rfl
theorem q_33 : Cond.selects "LeafSweep$Leaves" ⟨"LeafSweep$Leaves", "closeUp", "(I)V"⟩ ⟨"LeafSweep$Leaves", "closeUp", "(I)V"⟩ ∈ mm_tbl := mm_tp2 1 rfl rfl
theorem q_34 : Cond.selects "LeafSweep$State" ⟨"LeafSweep$State", "putEntry", "(III)V"⟩ ⟨"LeafSweep$State", "putEntry", "(III)V"⟩ ∈ mm_tbl := mm_tp2 2 rfl rfl
theorem q_35 : Cond.selects "LeafSweep" ⟨"LeafSweep", "remember", "()V"⟩ ⟨"LeafSweep", "remember", "()V"⟩ ∈ mm_tbl := mm_tp2 3 rfl rfl
theorem q_36 : Cond.selects "LeafSweep$State" ⟨"LeafSweep$State", "isAlone", "(II)Z"⟩ ⟨"LeafSweep$State", "isAlone", "(II)Z"⟩ ∈ mm_tbl := mm_tp2 4 rfl rfl
theorem q_37 : Cond.selects "LeafSweep" ⟨"LeafSweep", "rememberIf", "(Z)Z"⟩ ⟨"LeafSweep", "rememberIf", "(Z)Z"⟩ ∈ mm_tbl := mm_tp2 5 rfl rfl
theorem q_38 : Cond.selects "LeafSweep$State" ⟨"LeafSweep$State", "isHeld", "(II)Z"⟩ ⟨"LeafSweep$State", "isHeld", "(II)Z"⟩ ∈ mm_tbl := mm_tp2 6 rfl rfl
theorem q_39 : Cond.selects "LeafSweep$State" ⟨"LeafSweep$State", "loosenForJob", "()V"⟩ ⟨"LeafSweep$State", "loosenForJob", "()V"⟩ ∈ mm_tbl := mm_tp2 7 rfl rfl
theorem q_40 : Cond.selects "LeafSweep$State" ⟨"LeafSweep$State", "comeTo", "(I)V"⟩ ⟨"LeafSweep$State", "comeTo", "(I)V"⟩ ∈ mm_tbl := mm_tp2 8 rfl rfl
theorem q_41 : Cond.selects "LeafSweep$State" ⟨"LeafSweep$State", "endJob", "()V"⟩ ⟨"LeafSweep$State", "endJob", "()V"⟩ ∈ mm_tbl := mm_tp2 9 rfl rfl
theorem q_42 : Cond.selects "LeafSweep$State" ⟨"LeafSweep$State", "carryOut", "()V"⟩ ⟨"LeafSweep$State", "carryOut", "()V"⟩ ∈ mm_tbl := mm_tp2 10 rfl rfl
theorem q_43 : Cond.selects "LeafSweep$State" ⟨"LeafSweep$State", "wouldDouble", "()Z"⟩ ⟨"LeafSweep$State", "wouldDouble", "()Z"⟩ ∈ mm_tbl := mm_tp2 11 rfl rfl
theorem q_44 : Cond.selects "LeafSweep" ⟨"LeafSweep", "isAheadOfKey", "(I)Z"⟩ ⟨"LeafSweep", "isAheadOfKey", "(I)Z"⟩ ∈ mm_tbl := mm_tp2 12 rfl rfl
theorem q_45 : Cond.selects "LeafSweep" ⟨"LeafSweep", "sorted", "(II)Z"⟩ ⟨"LeafSweep", "sorted", "(II)Z"⟩ ∈ mm_tbl := mm_tp2 13 rfl rfl
theorem q_46 : Cond.selects "LeafSweep$Bench" ⟨"LeafSweep$Bench", "gather", "(LLeafSweep$Leaves;I)I"⟩ ⟨"LeafSweep$Bench", "gather", "(LLeafSweep$Leaves;I)I"⟩ ∈ mm_tbl := mm_tp2 14 rfl rfl
theorem q_47 : Cond.selects "LeafSweep$Bench" ⟨"LeafSweep$Bench", "firstBehind", "(II)I"⟩ ⟨"LeafSweep$Bench", "firstBehind", "(II)I"⟩ ∈ mm_tbl := mm_tp2 15 rfl rfl
theorem q_49 : Cond.selects "LeafSweepModel" ⟨"LeafSweepModel", "lay", "(J)V"⟩ ⟨"LeafSweepModel", "lay", "(J)V"⟩ ∈ mm_tbl := mm_tp3 1 rfl rfl
theorem q_50 : Cond.selects "LeafSweepModel" ⟨"LeafSweepModel", "standsAsAlways", "(I)V"⟩ ⟨"LeafSweepModel", "standsAsAlways", "(I)V"⟩ ∈ mm_tbl := mm_tp3 2 rfl rfl
theorem q_51 : Cond.selects "LeafSweepModel" ⟨"LeafSweepModel", "begins", "()V"⟩ ⟨"LeafSweepModel", "begins", "()V"⟩ ∈ mm_tbl := mm_tp3 3 rfl rfl
theorem q_52 : Cond.selects "LeafSweepModel" ⟨"LeafSweepModel", "starts", "(I)V"⟩ ⟨"LeafSweepModel", "starts", "(I)V"⟩ ∈ mm_tbl := mm_tp3 4 rfl rfl
theorem q_53 : Cond.selects "LeafSweepModel" ⟨"LeafSweepModel", "indexes", "()I"⟩ ⟨"LeafSweepModel", "indexes", "()I"⟩ ∈ mm_tbl := mm_tp3 5 rfl rfl
theorem q_54 : Cond.selects "LeafSweepModel" ⟨"LeafSweepModel", "belongs", "(III)Z"⟩ ⟨"LeafSweepModel", "belongs", "(III)Z"⟩ ∈ mm_tbl := mm_tp3 6 rfl rfl
theorem q_55 : Cond.selects "LeafSweepModel" ⟨"LeafSweepModel", "kindOf", "(I)I"⟩ ⟨"LeafSweepModel", "kindOf", "(I)I"⟩ ∈ mm_tbl := mm_tp3 7 rfl rfl
theorem q_56 : Cond.selects "LeafSweepModel" ⟨"LeafSweepModel", "isSo", "(III)Z"⟩ ⟨"LeafSweepModel", "isSo", "(III)Z"⟩ ∈ mm_tbl := mm_tp3 8 rfl rfl
theorem q_57 : Cond.selects "LeafSweepModel" ⟨"LeafSweepModel", "isLimited", "(III)Z"⟩ ⟨"LeafSweepModel", "isLimited", "(III)Z"⟩ ∈ mm_tbl := mm_tp3 9 rfl rfl
theorem q_58 : Cond.selects "LeafSweepModel" ⟨"LeafSweepModel", "valueOf", "(III)I"⟩ ⟨"LeafSweepModel", "valueOf", "(III)I"⟩ ∈ mm_tbl := mm_tp3 10 rfl rfl
theorem q_59 : Cond.selects "LeafSweepModel" ⟨"LeafSweepModel", "visible", "(I)I"⟩ ⟨"LeafSweepModel", "visible", "(I)I"⟩ ∈ mm_tbl := mm_tp3 11 rfl rfl
theorem q_60 : Cond.selects "LeafSweepModel" ⟨"LeafSweepModel", "having", "(IIII)I"⟩ ⟨"LeafSweepModel", "having", "(IIII)I"⟩ ∈ mm_tbl := mm_tp3 12 rfl rfl
theorem q_61 : Cond.selects "LeafSweepModel" ⟨"LeafSweepModel", "isPointed", "(II)Z"⟩ ⟨"LeafSweepModel", "isPointed", "(II)Z"⟩ ∈ mm_tbl := mm_tp3 13 rfl rfl
theorem q_62 : Cond.selects "LeafSweepModel" ⟨"LeafSweepModel", "columnAt", "(I)I"⟩ ⟨"LeafSweepModel", "columnAt", "(I)I"⟩ ∈ mm_tbl := mm_tp3 14 rfl rfl
theorem q_63 : Cond.selects "LeafSweepModel" ⟨"LeafSweepModel", "entryOf", "(III)I"⟩ ⟨"LeafSweepModel", "entryOf", "(III)I"⟩ ∈ mm_tbl := mm_tp3 15 rfl rfl
theorem q_64 : Cond.selects "LeafSweepModel" ⟨"LeafSweepModel", "puts", "(III)V"⟩ ⟨"LeafSweepModel", "puts", "(III)V"⟩ ∈ mm_tbl := mm_tp4 0 rfl rfl
theorem q_65 : Cond.selects "LeafSweepModel" ⟨"LeafSweepModel", "height", "(II)I"⟩ ⟨"LeafSweepModel", "height", "(II)I"⟩ ∈ mm_tbl := mm_tp4 1 rfl rfl
theorem q_66 : Cond.selects "LeafSweepModel" ⟨"LeafSweepModel", "leaves", "(II)I"⟩ ⟨"LeafSweepModel", "leaves", "(II)I"⟩ ∈ mm_tbl := mm_tp4 2 rfl rfl
theorem q_67 : Cond.selects "LeafSweepModel" ⟨"LeafSweepModel", "entries", "(II)I"⟩ ⟨"LeafSweepModel", "entries", "(II)I"⟩ ∈ mm_tbl := mm_tp4 3 rfl rfl
theorem q_68 : Cond.selects "LeafSweepModel" ⟨"LeafSweepModel", "startOf", "(II)I"⟩ ⟨"LeafSweepModel", "startOf", "(II)I"⟩ ∈ mm_tbl := mm_tp4 4 rfl rfl
theorem q_69 : Cond.selects "LeafSweepModel" ⟨"LeafSweepModel", "isFirst", "(III)Z"⟩ ⟨"LeafSweepModel", "isFirst", "(III)Z"⟩ ∈ mm_tbl := mm_tp4 5 rfl rfl
theorem q_70 : Cond.selects "LeafSweepModel" ⟨"LeafSweepModel", "page", "()I"⟩ ⟨"LeafSweepModel", "page", "()I"⟩ ∈ mm_tbl := mm_tp4 6 rfl rfl
theorem q_71 : Cond.selects "LeafSweepModel" ⟨"LeafSweepModel", "placeFor", "(III)I"⟩ ⟨"LeafSweepModel", "placeFor", "(III)I"⟩ ∈ mm_tbl := mm_tp4 7 rfl rfl
theorem q_72 : Cond.selects "LeafSweepModel" ⟨"LeafSweepModel", "entryAt", "(III)I"⟩ ⟨"LeafSweepModel", "entryAt", "(III)I"⟩ ∈ mm_tbl := mm_tp4 8 rfl rfl
theorem q_73 : Cond.selects "LeafSweepModel" ⟨"LeafSweepModel", "leafAround", "(III)V"⟩ ⟨"LeafSweepModel", "leafAround", "(III)V"⟩ ∈ mm_tbl := mm_tp4 9 rfl rfl
theorem q_74 : Cond.selects "LeafSweepModel" ⟨"LeafSweepModel", "cutAll", "()V"⟩ ⟨"LeafSweepModel", "cutAll", "()V"⟩ ∈ mm_tbl := mm_tp4 10 rfl rfl
theorem q_75 : Cond.selects "LeafSweepModel" ⟨"LeafSweepModel", "readLine", "()V"⟩ ⟨"LeafSweepModel", "readLine", "()V"⟩ ∈ mm_tbl := mm_tp4 11 rfl rfl
theorem q_76 : Cond.selects "LeafSweepModel" ⟨"LeafSweepModel", "wordHere", "(II)I"⟩ ⟨"LeafSweepModel", "wordHere", "(II)I"⟩ ∈ mm_tbl := mm_tp4 12 rfl rfl
theorem q_77 : Cond.selects "LeafSweepModel" ⟨"LeafSweepModel", "isWord", "(I)Z"⟩ ⟨"LeafSweepModel", "isWord", "(I)Z"⟩ ∈ mm_tbl := mm_tp4 13 rfl rfl
theorem q_78 : Cond.selects "LeafSweepModel" ⟨"LeafSweepModel", "told", "(I)I"⟩ ⟨"LeafSweepModel", "told", "(I)I"⟩ ∈ mm_tbl := mm_tp4 14 rfl rfl
theorem q_79 : Cond.selects "LeafSweepModel" ⟨"LeafSweepModel", "wrong", "(I)V"⟩ ⟨"LeafSweepModel", "wrong", "(I)V"⟩ ∈ mm_tbl := mm_tp4 15 rfl rfl
theorem q_80 : Cond.selects "LeafSweepModel" ⟨"LeafSweepModel", "is", "(II)V"⟩ ⟨"LeafSweepModel", "is", "(II)V"⟩ ∈ mm_tbl := mm_tp5 0 rfl rfl
theorem q_81 : Cond.selects "LeafSweepModel" ⟨"LeafSweepModel", "reads", "(I)V"⟩ ⟨"LeafSweepModel", "reads", "(I)V"⟩ ∈ mm_tbl := mm_tp5 1 rfl rfl
theorem q_82 : Cond.selects "LeafSweepModel" ⟨"LeafSweepModel", "takeNumber", "(II)I"⟩ ⟨"LeafSweepModel", "takeNumber", "(II)I"⟩ ∈ mm_tbl := mm_tp5 2 rfl rfl
theorem q_83 : Cond.selects "LeafSweepModel" ⟨"LeafSweepModel", "readIndex", "()V"⟩ ⟨"LeafSweepModel", "readIndex", "()V"⟩ ∈ mm_tbl := mm_tp5 3 rfl rfl
theorem q_84 : Cond.selects "LeafSweepModel" ⟨"LeafSweepModel", "isName", "()Z"⟩ ⟨"LeafSweepModel", "isName", "()Z"⟩ ∈ mm_tbl := mm_tp5 4 rfl rfl
theorem q_85 : Cond.selects "LeafSweepModel" ⟨"LeafSweepModel", "nameAt", "(II)I"⟩ ⟨"LeafSweepModel", "nameAt", "(II)I"⟩ ∈ mm_tbl := mm_tp5 5 rfl rfl
theorem q_86 : Cond.selects "LeafSweepModel" ⟨"LeafSweepModel", "takeOne", "(II)I"⟩ ⟨"LeafSweepModel", "takeOne", "(II)I"⟩ ∈ mm_tbl := mm_tp5 6 rfl rfl
theorem q_87 : Cond.selects "LeafSweepModel" ⟨"LeafSweepModel", "takeWord", "(I)V"⟩ ⟨"LeafSweepModel", "takeWord", "(I)V"⟩ ∈ mm_tbl := mm_tp5 7 rfl rfl
theorem q_88 : Cond.selects "LeafSweepModel" ⟨"LeafSweepModel", "hasWord", "(I)Z"⟩ ⟨"LeafSweepModel", "hasWord", "(I)Z"⟩ ∈ mm_tbl := mm_tp5 8 rfl rfl
theorem q_89 : Cond.selects "LeafSweepModel" ⟨"LeafSweepModel", "readRow", "()V"⟩ ⟨"LeafSweepModel", "readRow", "()V"⟩ ∈ mm_tbl := mm_tp5 9 rfl rfl
theorem q_90 : Cond.selects "LeafSweepModel" ⟨"LeafSweepModel", "takeOf", "(I)I"⟩ ⟨"LeafSweepModel", "takeOf", "(I)I"⟩ ∈ mm_tbl := mm_tp5 10 rfl rfl
theorem q_91 : Cond.selects "LeafSweepModel" ⟨"LeafSweepModel", "readPoint", "()V"⟩ ⟨"LeafSweepModel", "readPoint", "()V"⟩ ∈ mm_tbl := mm_tp5 11 rfl rfl
theorem q_92 : Cond.selects "LeafSweepModel" ⟨"LeafSweepModel", "readWhere", "(I)V"⟩ ⟨"LeafSweepModel", "readWhere", "(I)V"⟩ ∈ mm_tbl := mm_tp5 12 rfl rfl
theorem q_93 : Cond.selects "LeafSweepModel" ⟨"LeafSweepModel", "readLimit", "(III)V"⟩ ⟨"LeafSweepModel", "readLimit", "(III)V"⟩ ∈ mm_tbl := mm_tp5 13 rfl rfl
theorem q_94 : Cond.selects "LeafSweepModel" ⟨"LeafSweepModel", "isLimitHere", "(I)Z"⟩ ⟨"LeafSweepModel", "isLimitHere", "(I)Z"⟩ ∈ mm_tbl := mm_tp5 14 rfl rfl
theorem q_95 : Cond.selects "LeafSweepModel" ⟨"LeafSweepModel", "readColumn", "(I)V"⟩ ⟨"LeafSweepModel", "readColumn", "(I)V"⟩ ∈ mm_tbl := mm_tp5 15 rfl rfl
theorem q_96 : Cond.selects "LeafSweepModel" ⟨"LeafSweepModel", "takeAfter", "(III)I"⟩ ⟨"LeafSweepModel", "takeAfter", "(III)I"⟩ ∈ mm_tbl := mm_tp6 0 rfl rfl
theorem q_97 : Cond.selects "LeafSweepModel" ⟨"LeafSweepModel", "takeSign", "(I)V"⟩ ⟨"LeafSweepModel", "takeSign", "(I)V"⟩ ∈ mm_tbl := mm_tp6 1 rfl rfl
theorem q_98 : Cond.selects "LeafSweepModel" ⟨"LeafSweepModel", "isSign", "(I)Z"⟩ ⟨"LeafSweepModel", "isSign", "(I)Z"⟩ ∈ mm_tbl := mm_tp6 2 rfl rfl
theorem q_99 : Cond.selects "LeafSweepModel" ⟨"LeafSweepModel", "readsLine", "(I)V"⟩ ⟨"LeafSweepModel", "readsLine", "(I)V"⟩ ∈ mm_tbl := mm_tp6 3 rfl rfl
theorem q_100 : Cond.selects "LeafSweepModel" ⟨"LeafSweepModel", "takeTold", "(II)I"⟩ ⟨"LeafSweepModel", "takeTold", "(II)I"⟩ ∈ mm_tbl := mm_tp6 4 rfl rfl
theorem q_101 : Cond.selects "LeafSweepModel" ⟨"LeafSweepModel", "aside", "()V"⟩ ⟨"LeafSweepModel", "aside", "()V"⟩ ∈ mm_tbl := mm_tp6 5 rfl rfl
theorem q_102 : Cond.selects "LeafSweepModel" ⟨"LeafSweepModel", "copies", "(III)V"⟩ ⟨"LeafSweepModel", "copies", "(III)V"⟩ ∈ mm_tbl := mm_tp6 6 rfl rfl
theorem q_103 : Cond.selects "LeafSweepModel" ⟨"LeafSweepModel", "inserted", "(IIII)I"⟩ ⟨"LeafSweepModel", "inserted", "(IIII)I"⟩ ∈ mm_tbl := mm_tp6 7 rfl rfl
theorem q_104 : Cond.selects "LeafSweepModel" ⟨"LeafSweepModel", "onceClash", "(IIII)I"⟩ ⟨"LeafSweepModel", "onceClash", "(IIII)I"⟩ ∈ mm_tbl := mm_tp6 8 rfl rfl
theorem q_105 : Cond.selects "LeafSweepModel" ⟨"LeafSweepModel", "asideBy", "(IIZZZ)I"⟩ ⟨"LeafSweepModel", "asideBy", "(IIZZZ)I"⟩ ∈ mm_tbl := mm_tp6 9 rfl rfl
theorem q_106 : Cond.selects "LeafSweepModel" ⟨"LeafSweepModel", "isAt", "(II)Z"⟩ ⟨"LeafSweepModel", "isAt", "(II)Z"⟩ ∈ mm_tbl := mm_tp6 10 rfl rfl
theorem q_107 : Cond.selects "LeafSweepModel" ⟨"LeafSweepModel", "entersIndex", "(IIII)V"⟩ ⟨"LeafSweepModel", "entersIndex", "(IIII)V"⟩ ∈ mm_tbl := mm_tp6 11 rfl rfl
theorem q_108 : Cond.selects "LeafSweepModel" ⟨"LeafSweepModel", "lays", "(II)V"⟩ ⟨"LeafSweepModel", "lays", "(II)V"⟩ ∈ mm_tbl := mm_tp6 12 rfl rfl
theorem q_109 : Cond.selects "LeafSweepModel" ⟨"LeafSweepModel", "done", "(I)I"⟩ ⟨"LeafSweepModel", "done", "(I)I"⟩ ∈ mm_tbl := mm_tp6 13 rfl rfl
theorem q_110 : Cond.selects "LeafSweepModel" ⟨"LeafSweepModel", "keeps", "()V"⟩ ⟨"LeafSweepModel", "keeps", "()V"⟩ ∈ mm_tbl := mm_tp6 14 rfl rfl
theorem q_111 : Cond.selects "LeafSweepModel" ⟨"LeafSweepModel", "removed", "(II)Z"⟩ ⟨"LeafSweepModel", "removed", "(II)Z"⟩ ∈ mm_tbl := mm_tp6 15 rfl rfl
theorem q_112 : Cond.selects "LeafSweepModel" ⟨"LeafSweepModel", "isVisible", "(II)Z"⟩ ⟨"LeafSweepModel", "isVisible", "(II)Z"⟩ ∈ mm_tbl := mm_tp7 0 rfl rfl
theorem q_113 : Cond.selects "LeafSweepModel" ⟨"LeafSweepModel", "canGo", "(II)Z"⟩ ⟨"LeafSweepModel", "canGo", "(II)Z"⟩ ∈ mm_tbl := mm_tp7 1 rfl rfl
theorem q_114 : Cond.selects "LeafSweepModel" ⟨"LeafSweepModel", "letsGo", "(II)V"⟩ ⟨"LeafSweepModel", "letsGo", "(II)V"⟩ ∈ mm_tbl := mm_tp7 2 rfl rfl
theorem q_115 : Cond.selects "LeafSweepModel" ⟨"LeafSweepModel", "leavesIndex", "(IIII)V"⟩ ⟨"LeafSweepModel", "leavesIndex", "(IIII)V"⟩ ∈ mm_tbl := mm_tp7 3 rfl rfl
theorem q_116 : Cond.selects "LeafSweepModel" ⟨"LeafSweepModel", "takes", "(III)V"⟩ ⟨"LeafSweepModel", "takes", "(III)V"⟩ ∈ mm_tbl := mm_tp7 4 rfl rfl
theorem q_117 : Cond.selects "LeafSweepModel" ⟨"LeafSweepModel", "goesOut", "(III)V"⟩ ⟨"LeafSweepModel", "goesOut", "(III)V"⟩ ∈ mm_tbl := mm_tp7 5 rfl rfl
theorem q_118 : Cond.selects "LeafSweepModel" ⟨"LeafSweepModel", "isDone", "(Z)Z"⟩ ⟨"LeafSweepModel", "isDone", "(Z)Z"⟩ ∈ mm_tbl := mm_tp7 6 rfl rfl
theorem q_119 : Cond.selects "LeafSweepModel" ⟨"LeafSweepModel", "changed", "(IIII)Z"⟩ ⟨"LeafSweepModel", "changed", "(IIII)Z"⟩ ∈ mm_tbl := mm_tp7 7 rfl rfl
theorem q_120 : Cond.selects "LeafSweepModel" ⟨"LeafSweepModel", "isPointer", "(I)Z"⟩ ⟨"LeafSweepModel", "isPointer", "(I)Z"⟩ ∈ mm_tbl := mm_tp7 8 rfl rfl
theorem q_121 : Cond.selects "LeafSweepModel" ⟨"LeafSweepModel", "wouldChoose", "(I)I"⟩ ⟨"LeafSweepModel", "wouldChoose", "(I)I"⟩ ∈ mm_tbl := mm_tp7 9 rfl rfl
theorem q_122 : Cond.selects "LeafSweepModel" ⟨"LeafSweepModel", "isIndex", "(I)Z"⟩ ⟨"LeafSweepModel", "isIndex", "(I)Z"⟩ ∈ mm_tbl := mm_tp7 10 rfl rfl
theorem q_123 : Cond.selects "LeafSweepModel" ⟨"LeafSweepModel", "rowAt", "(III)I"⟩ ⟨"LeafSweepModel", "rowAt", "(III)I"⟩ ∈ mm_tbl := mm_tp7 11 rfl rfl
theorem q_124 : Cond.selects "LeafSweepModel" ⟨"LeafSweepModel", "valueIn", "(II)I"⟩ ⟨"LeafSweepModel", "valueIn", "(II)I"⟩ ∈ mm_tbl := mm_tp7 12 rfl rfl
theorem q_125 : Cond.selects "LeafSweepModel" ⟨"LeafSweepModel", "begun", "(II)I"⟩ ⟨"LeafSweepModel", "begun", "(II)I"⟩ ∈ mm_tbl := mm_tp7 13 rfl rfl
theorem q_126 : Cond.selects "LeafSweepModel" ⟨"LeafSweepModel", "hindering", "(II)I"⟩ ⟨"LeafSweepModel", "hindering", "(II)I"⟩ ∈ mm_tbl := mm_tp7 14 rfl rfl
theorem q_127 : Cond.selects "LeafSweepModel" ⟨"LeafSweepModel", "hinders", "(III)Z"⟩ ⟨"LeafSweepModel", "hinders", "(III)Z"⟩ ∈ mm_tbl := mm_tp7 15 rfl rfl
theorem q_128 : Cond.selects "LeafSweepModel" ⟨"LeafSweepModel", "comes", "(II)V"⟩ ⟨"LeafSweepModel", "comes", "(II)V"⟩ ∈ mm_tbl := mm_tp8 0 rfl rfl
theorem q_129 : Cond.selects "LeafSweepModel" ⟨"LeafSweepModel", "leftMany", "(III)I"⟩ ⟨"LeafSweepModel", "leftMany", "(III)I"⟩ ∈ mm_tbl := mm_tp8 1 rfl rfl
theorem q_130 : Cond.selects "LeafSweepModel" ⟨"LeafSweepModel", "wayBy", "(III)I"⟩ ⟨"LeafSweepModel", "wayBy", "(III)I"⟩ ∈ mm_tbl := mm_tp8 2 rfl rfl
theorem q_131 : Cond.selects "LeafSweepModel" ⟨"LeafSweepModel", "passCost", "(III)I"⟩ ⟨"LeafSweepModel", "passCost", "(III)I"⟩ ∈ mm_tbl := mm_tp8 3 rfl rfl
theorem q_132 : Cond.selects "LeafSweepModel" ⟨"LeafSweepModel", "probeCost", "(III)I"⟩ ⟨"LeafSweepModel", "probeCost", "(III)I"⟩ ∈ mm_tbl := mm_tp8 4 rfl rfl
theorem q_133 : Cond.selects "LeafSweepModel" ⟨"LeafSweepModel", "stands", "(I)V"⟩ ⟨"LeafSweepModel", "stands", "(I)V"⟩ ∈ mm_tbl := mm_tp8 5 rfl rfl
theorem q_134 : Cond.selects "LeafSweepModel" ⟨"LeafSweepModel", "stepped", "(I)I"⟩ ⟨"LeafSweepModel", "stepped", "(I)I"⟩ ∈ mm_tbl := mm_tp8 6 rfl rfl
theorem q_135 : Cond.selects "LeafSweepModel" ⟨"LeafSweepModel", "isGoing", "(I)Z"⟩ ⟨"LeafSweepModel", "isGoing", "(I)Z"⟩ ∈ mm_tbl := mm_tp8 7 rfl rfl
theorem q_136 : Cond.selects "LeafSweepModel" ⟨"LeafSweepModel", "ends", "(I)V"⟩ ⟨"LeafSweepModel", "ends", "(I)V"⟩ ∈ mm_tbl := mm_tp8 8 rfl rfl
theorem q_137 : Cond.selects "LeafSweepModel" ⟨"LeafSweepModel", "leftAt", "(IIII)I"⟩ ⟨"LeafSweepModel", "leftAt", "(IIII)I"⟩ ∈ mm_tbl := mm_tp8 9 rfl rfl
theorem q_138 : Cond.selects "LeafSweepModel" ⟨"LeafSweepModel", "chosenBy", "(I)I"⟩ ⟨"LeafSweepModel", "chosenBy", "(I)I"⟩ ∈ mm_tbl := mm_tp8 10 rfl rfl
theorem q_139 : Cond.selects "LeafSweepModel" ⟨"LeafSweepModel", "records", "(I)V"⟩ ⟨"LeafSweepModel", "records", "(I)V"⟩ ∈ mm_tbl := mm_tp8 11 rfl rfl
theorem q_140 : Cond.selects "LeafSweepModel" ⟨"LeafSweepModel", "carries", "(I)V"⟩ ⟨"LeafSweepModel", "carries", "(I)V"⟩ ∈ mm_tbl := mm_tp8 12 rfl rfl
theorem q_141 : Cond.selects "LeafSweepModel" ⟨"LeafSweepModel", "stopped", "(I)Z"⟩ ⟨"LeafSweepModel", "stopped", "(I)Z"⟩ ∈ mm_tbl := mm_tp8 13 rfl rfl
theorem q_142 : Cond.selects "LeafSweepModel" ⟨"LeafSweepModel", "crashed", "(I)I"⟩ ⟨"LeafSweepModel", "crashed", "(I)I"⟩ ∈ mm_tbl := mm_tp8 14 rfl rfl
theorem q_143 : Cond.selects "LeafSweepModel" ⟨"LeafSweepModel", "resumed", "(I)I"⟩ ⟨"LeafSweepModel", "resumed", "(I)I"⟩ ∈ mm_tbl := mm_tp8 15 rfl rfl
theorem q_144 : Cond.selects "LeafSweepModel" ⟨"LeafSweepModel", "packs", "(II)I"⟩ ⟨"LeafSweepModel", "packs", "(II)I"⟩ ∈ mm_tbl := mm_tp9 0 rfl rfl
theorem q_145 : Cond.selects "LeafSweepModel" ⟨"LeafSweepModel", "lineDone", "(II)Z"⟩ ⟨"LeafSweepModel", "lineDone", "(II)Z"⟩ ∈ mm_tbl := mm_tp9 1 rfl rfl
theorem q_146 : Cond.selects "LeafSweepModel" ⟨"LeafSweepModel", "begunOfAll", "(I)I"⟩ ⟨"LeafSweepModel", "begunOfAll", "(I)I"⟩ ∈ mm_tbl := mm_tp9 2 rfl rfl
theorem q_147 : Cond.selects "LeafSweepModel" ⟨"LeafSweepModel", "goes", "(II)Z"⟩ ⟨"LeafSweepModel", "goes", "(II)Z"⟩ ∈ mm_tbl := mm_tp9 3 rfl rfl
theorem q_148 : Cond.selects "LeafSweepModel" ⟨"LeafSweepModel", "leafStart", "(III)I"⟩ ⟨"LeafSweepModel", "leafStart", "(III)I"⟩ ∈ mm_tbl := mm_tp9 4 rfl rfl
theorem q_149 : Cond.selects "LeafSweepModel" ⟨"LeafSweepModel", "belongSet", "(I)I"⟩ ⟨"LeafSweepModel", "belongSet", "(I)I"⟩ ∈ mm_tbl := mm_tp9 5 rfl rfl
theorem q_150 : Cond.selects "LeafSweepModel" ⟨"LeafSweepModel", "entryNow", "(II)I"⟩ ⟨"LeafSweepModel", "entryNow", "(II)I"⟩ ∈ mm_tbl := mm_tp9 6 rfl rfl
theorem q_151 : Cond.selects "LeafSweepModel" ⟨"LeafSweepModel", "staleBy", "(I)I"⟩ ⟨"LeafSweepModel", "staleBy", "(I)I"⟩ ∈ mm_tbl := mm_tp9 7 rfl rfl
theorem q_152 : Cond.selects "LeafSweepModel" ⟨"LeafSweepModel", "aheadOf", "(II)I"⟩ ⟨"LeafSweepModel", "aheadOf", "(II)I"⟩ ∈ mm_tbl := mm_tp9 8 rfl rfl
theorem q_153 : Cond.selects "LeafSweepModel" ⟨"LeafSweepModel", "wayAt", "(II)I"⟩ ⟨"LeafSweepModel", "wayAt", "(II)I"⟩ ∈ mm_tbl := mm_tp9 9 rfl rfl
theorem q_154 : Cond.selects "LeafSweepModel" ⟨"LeafSweepModel", "foretells", "()V"⟩ ⟨"LeafSweepModel", "foretells", "()V"⟩ ∈ mm_tbl := mm_tp9 10 rfl rfl
theorem q_155 : Cond.selects "LeafSweepModel" ⟨"LeafSweepModel", "allLeaves", "(I)I"⟩ ⟨"LeafSweepModel", "allLeaves", "(I)I"⟩ ∈ mm_tbl := mm_tp9 11 rfl rfl
theorem q_156 : Cond.selects "LeafSweepModel" ⟨"LeafSweepModel", "runsOf", "(II)I"⟩ ⟨"LeafSweepModel", "runsOf", "(II)I"⟩ ∈ mm_tbl := mm_tp9 12 rfl rfl
theorem q_157 : Cond.selects "LeafSweepModel" ⟨"LeafSweepModel", "queued", "(I)I"⟩ ⟨"LeafSweepModel", "queued", "(I)I"⟩ ∈ mm_tbl := mm_tp9 13 rfl rfl
theorem q_158 : Cond.selects "LeafSweepModel" ⟨"LeafSweepModel", "leastAbove", "(II)I"⟩ ⟨"LeafSweepModel", "leastAbove", "(II)I"⟩ ∈ mm_tbl := mm_tp9 14 rfl rfl
theorem q_159 : Cond.selects "LeafSweepModel" ⟨"LeafSweepModel", "takeLeast", "(I)I"⟩ ⟨"LeafSweepModel", "takeLeast", "(I)I"⟩ ∈ mm_tbl := mm_tp9 15 rfl rfl
theorem q_160 : Cond.selects "LeafSweepModel" ⟨"LeafSweepModel", "bulk", "(I)I"⟩ ⟨"LeafSweepModel", "bulk", "(I)I"⟩ ∈ mm_tbl := mm_tp10 0 rfl rfl
theorem q_161 : Cond.selects "LeafSweepModel" ⟨"LeafSweepModel", "firmAt", "(I)I"⟩ ⟨"LeafSweepModel", "firmAt", "(I)I"⟩ ∈ mm_tbl := mm_tp10 1 rfl rfl
theorem q_163 : (Jvm.Cond.initialized "LeafSweep") ∈ mm_tbl := mm_tt0 1 rfl rfl
theorem q_164 : (Jvm.Cond.initialized "LeafSweep$Tape") ∈ mm_tbl := mm_tt0 2 rfl rfl
theorem q_169 : (Jvm.Cond.initialized "LeafSweep$Reader") ∈ mm_tbl := mm_tt0 7 rfl rfl
theorem q_170 : (Jvm.Cond.initialized "LeafSweep$Plan") ∈ mm_tbl := mm_tt0 8 rfl rfl
theorem q_171 : (Jvm.Cond.initialized "LeafSweep$Where") ∈ mm_tbl := mm_tt0 9 rfl rfl
theorem q_172 : (Jvm.Cond.initialized "LeafSweep$Lines") ∈ mm_tbl := mm_tt0 10 rfl rfl
theorem q_173 : (Jvm.Cond.initialized "LeafSweep$Bench") ∈ mm_tbl := mm_tt0 11 rfl rfl
theorem q_174 : (Jvm.Cond.initialized "LeafSweep$State") ∈ mm_tbl := mm_tt0 12 rfl rfl
theorem q_175 : (Jvm.Cond.initialized "LeafSweep$Rows") ∈ mm_tbl := mm_tt0 13 rfl rfl
theorem q_176 : (Jvm.Cond.initialized "LeafSweep$Points") ∈ mm_tbl := mm_tt0 14 rfl rfl
theorem q_177 : (Jvm.Cond.initialized "LeafSweep$Job") ∈ mm_tbl := mm_tt0 15 rfl rfl
theorem q_178 : (Jvm.Cond.initialized "LeafSweep$Leaves") ∈ mm_tbl := mm_tt0 16 rfl rfl
theorem q_179 : (Jvm.Cond.initialized "LeafSweepModel") ∈ mm_tbl := mm_tt0 17 rfl rfl
theorem q_180 : (Jvm.Cond.initialized "java/lang/System") ∈ mm_tbl := mm_tt0 18 rfl rfl
theorem q_181 : (Jvm.Cond.initialized "java/lang/Integer") ∈ mm_tbl := mm_tt0 19 rfl rfl
theorem q_182 : (Jvm.Cond.initialized "java/lang/Math") ∈ mm_tbl := mm_tt0 20 rfl rfl
theorem q_250 : (Jvm.Cond.constantLong "LeafSweep$Tape" (53 : Nat) (32 : Int64)) ∈ mm_tbl := mm_tt0 88 rfl rfl
theorem q_251 : (Jvm.Cond.fieldLink "LeafSweep$Tape" (9 : Nat) "LeafSweep$Tape" "sign" "[B") ∈ mm_tbl := mm_tt0 89 rfl rfl
theorem q_252 : (Jvm.Cond.fieldLink "LeafSweep$Tape" (15 : Nat) "LeafSweep$Tape" "sortOf" "[B") ∈ mm_tbl := mm_tt0 90 rfl rfl
theorem q_253 : (Jvm.Cond.fieldLink "LeafSweep$Tape" (18 : Nat) "LeafSweep$Tape" "keys" "[J") ∈ mm_tbl := mm_tt0 91 rfl rfl
theorem q_254 : (Jvm.Cond.fieldLink "LeafSweep$Tape" (22 : Nat) "LeafSweep$Tape" "length" "I") ∈ mm_tbl := mm_tt0 92 rfl rfl
theorem q_255 : (Jvm.Cond.fieldLink "LeafSweep" (91 : Nat) "LeafSweep$Tape" "length" "I") ∈ mm_tbl := mm_tt0 93 rfl rfl
theorem q_256 : (Jvm.Cond.fieldLink "LeafSweep$Tape" (26 : Nat) "LeafSweep$Tape" "place" "I") ∈ mm_tbl := mm_tt0 94 rfl rfl
theorem q_257 : (Jvm.Cond.fieldLink "LeafSweep$Reader" (93 : Nat) "LeafSweep$Tape" "place" "I") ∈ mm_tbl := mm_tt0 95 rfl rfl
theorem q_258 : (Jvm.Cond.fieldLink "LeafSweep$Tape" (29 : Nat) "LeafSweep$Tape" "behind" "I") ∈ mm_tbl := mm_tt0 96 rfl rfl
theorem q_259 : (Jvm.Cond.fieldLink "LeafSweep$Tape" (32 : Nat) "LeafSweep$Tape" "sort" "I") ∈ mm_tbl := mm_tt0 97 rfl rfl
theorem q_260 : (Jvm.Cond.fieldLink "LeafSweep$Reader" (47 : Nat) "LeafSweep$Tape" "sort" "I") ∈ mm_tbl := mm_tt0 98 rfl rfl
theorem q_261 : (Jvm.Cond.fieldLink "LeafSweep$Tape" (35 : Nat) "LeafSweep$Tape" "value" "I") ∈ mm_tbl := mm_tt0 99 rfl rfl
theorem q_262 : (Jvm.Cond.fieldLink "LeafSweep$Reader" (50 : Nat) "LeafSweep$Tape" "value" "I") ∈ mm_tbl := mm_tt0 100 rfl rfl
theorem q_263 : (Jvm.Cond.fieldLink "LeafSweep$Tape" (38 : Nat) "LeafSweep$Tape" "letters" "J") ∈ mm_tbl := mm_tt0 101 rfl rfl
theorem q_264 : (Jvm.Cond.fieldLink "LeafSweep$Reader" (127 : Nat) "LeafSweep$Tape" "letters" "J") ∈ mm_tbl := mm_tt0 102 rfl rfl
theorem q_265 : (Jvm.Cond.laysFinal "LeafSweep$Tape" "LeafSweep$Tape" "sign" "[B") ∈ mm_tbl := mm_tt0 103 rfl rfl
theorem q_267 : (Jvm.Cond.laysFinal "LeafSweep$Tape" "LeafSweep$Tape" "sortOf" "[B") ∈ mm_tbl := mm_tt0 105 rfl rfl
theorem q_269 : (Jvm.Cond.laysFinal "LeafSweep$Tape" "LeafSweep$Tape" "keys" "[J") ∈ mm_tbl := mm_tt0 107 rfl rfl
theorem q_271 : (Jvm.Cond.lays "LeafSweep$Tape" "LeafSweep$Tape" "length" "I") ∈ mm_tbl := mm_tt0 109 rfl rfl
theorem q_273 : (Jvm.Cond.lays "LeafSweep$Tape" "LeafSweep$Tape" "place" "I") ∈ mm_tbl := mm_tt0 111 rfl rfl
theorem q_275 : (Jvm.Cond.lays "LeafSweep$Tape" "LeafSweep$Tape" "behind" "I") ∈ mm_tbl := mm_tt0 113 rfl rfl
theorem q_277 : (Jvm.Cond.lays "LeafSweep$Tape" "LeafSweep$Tape" "sort" "I") ∈ mm_tbl := mm_tt0 115 rfl rfl
theorem q_279 : (Jvm.Cond.lays "LeafSweep$Tape" "LeafSweep$Tape" "value" "I") ∈ mm_tbl := mm_tt0 117 rfl rfl
theorem q_281 : (Jvm.Cond.lays "LeafSweep$Tape" "LeafSweep$Tape" "letters" "J") ∈ mm_tbl := mm_tt0 119 rfl rfl
theorem q_304 : (Jvm.Cond.fieldLink "LeafSweep$Where" (9 : Nat) "LeafSweep$Where" "kind" "[I") ∈ mm_tbl := mm_tt0 142 rfl rfl
theorem q_305 : (Jvm.Cond.fieldLink "LeafSweep$Reader" (196 : Nat) "LeafSweep$Where" "kind" "[I") ∈ mm_tbl := mm_tt0 143 rfl rfl
theorem q_306 : (Jvm.Cond.fieldLink "LeafSweep$Where" (15 : Nat) "LeafSweep$Where" "column" "[I") ∈ mm_tbl := mm_tt0 144 rfl rfl
theorem q_307 : (Jvm.Cond.fieldLink "LeafSweep$Where" (18 : Nat) "LeafSweep$Where" "low" "[I") ∈ mm_tbl := mm_tt0 145 rfl rfl
theorem q_308 : (Jvm.Cond.fieldLink "LeafSweep$Where" (21 : Nat) "LeafSweep$Where" "high" "[I") ∈ mm_tbl := mm_tt0 146 rfl rfl
theorem q_309 : (Jvm.Cond.fieldLink "LeafSweep$Where" (24 : Nat) "LeafSweep$Where" "not" "[Z") ∈ mm_tbl := mm_tt0 147 rfl rfl
theorem q_310 : (Jvm.Cond.fieldLink "LeafSweep$Reader" (189 : Nat) "LeafSweep$Where" "not" "[Z") ∈ mm_tbl := mm_tt0 148 rfl rfl
theorem q_311 : (Jvm.Cond.fieldLink "LeafSweep$Where" (28 : Nat) "LeafSweep$Where" "opens" "[Z") ∈ mm_tbl := mm_tt0 149 rfl rfl
theorem q_312 : (Jvm.Cond.fieldLink "LeafSweep$Reader" (193 : Nat) "LeafSweep$Where" "opens" "[Z") ∈ mm_tbl := mm_tt0 150 rfl rfl
theorem q_313 : (Jvm.Cond.fieldLink "LeafSweep$Where" (31 : Nat) "LeafSweep$Where" "limits" "I") ∈ mm_tbl := mm_tt0 151 rfl rfl
theorem q_314 : (Jvm.Cond.fieldLink "LeafSweep$Plan" (57 : Nat) "LeafSweep$Where" "limits" "I") ∈ mm_tbl := mm_tt0 152 rfl rfl
theorem q_315 : (Jvm.Cond.fieldLink "LeafSweep$Reader" (173 : Nat) "LeafSweep$Where" "limits" "I") ∈ mm_tbl := mm_tt0 153 rfl rfl
theorem q_316 : (Jvm.Cond.laysFinal "LeafSweep$Where" "LeafSweep$Where" "kind" "[I") ∈ mm_tbl := mm_tt0 154 rfl rfl
theorem q_318 : (Jvm.Cond.laysFinal "LeafSweep$Where" "LeafSweep$Where" "column" "[I") ∈ mm_tbl := mm_tt0 156 rfl rfl
theorem q_320 : (Jvm.Cond.laysFinal "LeafSweep$Where" "LeafSweep$Where" "low" "[I") ∈ mm_tbl := mm_tt0 158 rfl rfl
theorem q_322 : (Jvm.Cond.laysFinal "LeafSweep$Where" "LeafSweep$Where" "high" "[I") ∈ mm_tbl := mm_tt0 160 rfl rfl
theorem q_324 : (Jvm.Cond.laysFinal "LeafSweep$Where" "LeafSweep$Where" "not" "[Z") ∈ mm_tbl := mm_tt0 162 rfl rfl
theorem q_326 : (Jvm.Cond.laysFinal "LeafSweep$Where" "LeafSweep$Where" "opens" "[Z") ∈ mm_tbl := mm_tt0 164 rfl rfl
theorem q_328 : (Jvm.Cond.lays "LeafSweep$Where" "LeafSweep$Where" "limits" "I") ∈ mm_tbl := mm_tt0 166 rfl rfl
theorem q_333 : (Jvm.Cond.fieldLink "LeafSweep$Plan" (9 : Nat) "LeafSweep$Plan" "kind" "[I") ∈ mm_tbl := mm_tt0 171 rfl rfl
theorem q_334 : (Jvm.Cond.fieldLink "LeafSweep$State" (90 : Nat) "LeafSweep$Plan" "kind" "[I") ∈ mm_tbl := mm_tt0 172 rfl rfl
theorem q_335 : (Jvm.Cond.fieldLink "LeafSweep" (139 : Nat) "LeafSweep$Plan" "kind" "[I") ∈ mm_tbl := mm_tt0 173 rfl rfl
theorem q_336 : (Jvm.Cond.fieldLink "LeafSweep$Reader" (142 : Nat) "LeafSweep$Plan" "kind" "[I") ∈ mm_tbl := mm_tt0 174 rfl rfl
theorem q_337 : (Jvm.Cond.fieldLink "LeafSweep$Plan" (15 : Nat) "LeafSweep$Plan" "column" "[I") ∈ mm_tbl := mm_tt0 175 rfl rfl
theorem q_338 : (Jvm.Cond.fieldLink "LeafSweep" (143 : Nat) "LeafSweep$Plan" "column" "[I") ∈ mm_tbl := mm_tt0 176 rfl rfl
theorem q_339 : (Jvm.Cond.fieldLink "LeafSweep$State" (144 : Nat) "LeafSweep$Plan" "column" "[I") ∈ mm_tbl := mm_tt0 177 rfl rfl
theorem q_340 : (Jvm.Cond.fieldLink "LeafSweep$Reader" (149 : Nat) "LeafSweep$Plan" "column" "[I") ∈ mm_tbl := mm_tt0 178 rfl rfl
theorem q_341 : (Jvm.Cond.fieldLink "LeafSweep$Plan" (18 : Nat) "LeafSweep$Plan" "name" "[J") ∈ mm_tbl := mm_tt0 179 rfl rfl
theorem q_342 : (Jvm.Cond.fieldLink "LeafSweep$Reader" (135 : Nat) "LeafSweep$Plan" "name" "[J") ∈ mm_tbl := mm_tt0 180 rfl rfl
theorem q_343 : (Jvm.Cond.fieldLink "LeafSweep$Plan" (22 : Nat) "LeafSweep$Plan" "row" "[I") ∈ mm_tbl := mm_tt0 181 rfl rfl
theorem q_344 : (Jvm.Cond.fieldLink "LeafSweep$State" (98 : Nat) "LeafSweep$Plan" "row" "[I") ∈ mm_tbl := mm_tt0 182 rfl rfl
theorem q_345 : (Jvm.Cond.fieldLink "LeafSweep$Reader" (155 : Nat) "LeafSweep$Plan" "row" "[I") ∈ mm_tbl := mm_tt0 183 rfl rfl
theorem q_347 : (Jvm.Cond.fieldLink "LeafSweep$State" (107 : Nat) "LeafSweep$Plan" "sort" "[I") ∈ mm_tbl := mm_tt0 185 rfl rfl
theorem q_348 : (Jvm.Cond.fieldLink "LeafSweep$Reader" (161 : Nat) "LeafSweep$Plan" "sort" "[I") ∈ mm_tbl := mm_tt0 186 rfl rfl
theorem q_350 : (Jvm.Cond.fieldLink "LeafSweep$State" (110 : Nat) "LeafSweep$Plan" "target" "[I") ∈ mm_tbl := mm_tt0 188 rfl rfl
theorem q_351 : (Jvm.Cond.fieldLink "LeafSweep$Reader" (166 : Nat) "LeafSweep$Plan" "target" "[I") ∈ mm_tbl := mm_tt0 189 rfl rfl
theorem q_352 : (Jvm.Cond.fieldLink "LeafSweep$Plan" (34 : Nat) "LeafSweep$Plan" "choose" "LLeafSweep$Where;") ∈ mm_tbl := mm_tt0 190 rfl rfl
theorem q_353 : (Jvm.Cond.fieldLink "LeafSweep$Reader" (72 : Nat) "LeafSweep$Plan" "choose" "LLeafSweep$Where;") ∈ mm_tbl := mm_tt0 191 rfl rfl
theorem q_354 : (Jvm.Cond.fieldLink "LeafSweep$State" (191 : Nat) "LeafSweep$Plan" "choose" "LLeafSweep$Where;") ∈ mm_tbl := mm_tt0 192 rfl rfl
theorem q_355 : (Jvm.Cond.fieldLink "LeafSweep" (393 : Nat) "LeafSweep$Plan" "choose" "LLeafSweep$Where;") ∈ mm_tbl := mm_tt0 193 rfl rfl
theorem q_356 : (Jvm.Cond.fieldLink "LeafSweep$Plan" (38 : Nat) "LeafSweep$Plan" "part" "LLeafSweep$Where;") ∈ mm_tbl := mm_tt0 194 rfl rfl
theorem q_357 : (Jvm.Cond.fieldLink "LeafSweep$Reader" (80 : Nat) "LeafSweep$Plan" "part" "LLeafSweep$Where;") ∈ mm_tbl := mm_tt0 195 rfl rfl
theorem q_358 : (Jvm.Cond.fieldLink "LeafSweep$State" (120 : Nat) "LeafSweep$Plan" "part" "LLeafSweep$Where;") ∈ mm_tbl := mm_tt0 196 rfl rfl
theorem q_359 : (Jvm.Cond.fieldLink "LeafSweep" (403 : Nat) "LeafSweep$Plan" "part" "LLeafSweep$Where;") ∈ mm_tbl := mm_tt0 197 rfl rfl
theorem q_360 : (Jvm.Cond.fieldLink "LeafSweep$Plan" (41 : Nat) "LeafSweep$Plan" "page" "I") ∈ mm_tbl := mm_tt0 198 rfl rfl
theorem q_361 : (Jvm.Cond.fieldLink "LeafSweep$State" (87 : Nat) "LeafSweep$Plan" "page" "I") ∈ mm_tbl := mm_tt0 199 rfl rfl
theorem q_362 : (Jvm.Cond.fieldLink "LeafSweep$Reader" (109 : Nat) "LeafSweep$Plan" "page" "I") ∈ mm_tbl := mm_tt0 200 rfl rfl
theorem q_363 : (Jvm.Cond.fieldLink "LeafSweep" (296 : Nat) "LeafSweep$Plan" "page" "I") ∈ mm_tbl := mm_tt0 201 rfl rfl
theorem q_364 : (Jvm.Cond.fieldLink "LeafSweep$State" (53 : Nat) "LeafSweep$Plan" "batch" "I") ∈ mm_tbl := mm_tt0 202 rfl rfl
theorem q_365 : (Jvm.Cond.fieldLink "LeafSweep$Plan" (45 : Nat) "LeafSweep$Plan" "batch" "I") ∈ mm_tbl := mm_tt0 203 rfl rfl
theorem q_366 : (Jvm.Cond.fieldLink "LeafSweep$Reader" (115 : Nat) "LeafSweep$Plan" "batch" "I") ∈ mm_tbl := mm_tt0 204 rfl rfl
theorem q_367 : (Jvm.Cond.fieldLink "LeafSweep" (412 : Nat) "LeafSweep$Plan" "batch" "I") ∈ mm_tbl := mm_tt0 205 rfl rfl
theorem q_368 : (Jvm.Cond.fieldLink "LeafSweep$Plan" (48 : Nat) "LeafSweep$Plan" "indexes" "I") ∈ mm_tbl := mm_tt0 206 rfl rfl
theorem q_369 : (Jvm.Cond.fieldLink "LeafSweep$State" (134 : Nat) "LeafSweep$Plan" "indexes" "I") ∈ mm_tbl := mm_tt0 207 rfl rfl
theorem q_370 : (Jvm.Cond.fieldLink "LeafSweep$Reader" (118 : Nat) "LeafSweep$Plan" "indexes" "I") ∈ mm_tbl := mm_tt0 208 rfl rfl
theorem q_371 : (Jvm.Cond.fieldLink "LeafSweep" (311 : Nat) "LeafSweep$Plan" "indexes" "I") ∈ mm_tbl := mm_tt0 209 rfl rfl
theorem q_372 : (Jvm.Cond.fieldLink "LeafSweep$Plan" (51 : Nat) "LeafSweep$Plan" "rows" "I") ∈ mm_tbl := mm_tt0 210 rfl rfl
theorem q_373 : (Jvm.Cond.fieldLink "LeafSweep$State" (96 : Nat) "LeafSweep$Plan" "rows" "I") ∈ mm_tbl := mm_tt0 211 rfl rfl
theorem q_374 : (Jvm.Cond.fieldLink "LeafSweep$Reader" (121 : Nat) "LeafSweep$Plan" "rows" "I") ∈ mm_tbl := mm_tt0 212 rfl rfl
theorem q_375 : (Jvm.Cond.fieldLink "LeafSweep$Plan" (54 : Nat) "LeafSweep$Plan" "points" "I") ∈ mm_tbl := mm_tt0 213 rfl rfl
theorem q_376 : (Jvm.Cond.fieldLink "LeafSweep$State" (105 : Nat) "LeafSweep$Plan" "points" "I") ∈ mm_tbl := mm_tt0 214 rfl rfl
theorem q_377 : (Jvm.Cond.fieldLink "LeafSweep$Reader" (158 : Nat) "LeafSweep$Plan" "points" "I") ∈ mm_tbl := mm_tt0 215 rfl rfl
theorem q_378 : (Jvm.Cond.laysFinal "LeafSweep$Plan" "LeafSweep$Plan" "kind" "[I") ∈ mm_tbl := mm_tt0 216 rfl rfl
theorem q_380 : (Jvm.Cond.laysFinal "LeafSweep$Plan" "LeafSweep$Plan" "column" "[I") ∈ mm_tbl := mm_tt0 218 rfl rfl
theorem q_382 : (Jvm.Cond.laysFinal "LeafSweep$Plan" "LeafSweep$Plan" "name" "[J") ∈ mm_tbl := mm_tt0 220 rfl rfl
theorem q_384 : (Jvm.Cond.laysFinal "LeafSweep$Plan" "LeafSweep$Plan" "row" "[I") ∈ mm_tbl := mm_tt0 222 rfl rfl
theorem q_386 : (Jvm.Cond.laysFinal "LeafSweep$Plan" "LeafSweep$Plan" "sort" "[I") ∈ mm_tbl := mm_tt0 224 rfl rfl
theorem q_388 : (Jvm.Cond.laysFinal "LeafSweep$Plan" "LeafSweep$Plan" "target" "[I") ∈ mm_tbl := mm_tt0 226 rfl rfl
theorem q_390 : (Jvm.Cond.laysFinal "LeafSweep$Plan" "LeafSweep$Plan" "choose" "LLeafSweep$Where;") ∈ mm_tbl := mm_tt0 228 rfl rfl
theorem q_392 : (Jvm.Cond.laysFinal "LeafSweep$Plan" "LeafSweep$Plan" "part" "LLeafSweep$Where;") ∈ mm_tbl := mm_tt0 230 rfl rfl
theorem q_394 : (Jvm.Cond.lays "LeafSweep$Plan" "LeafSweep$Plan" "page" "I") ∈ mm_tbl := mm_tt0 232 rfl rfl
theorem q_396 : (Jvm.Cond.lays "LeafSweep$Plan" "LeafSweep$Plan" "batch" "I") ∈ mm_tbl := mm_tt0 234 rfl rfl
theorem q_398 : (Jvm.Cond.lays "LeafSweep$Plan" "LeafSweep$Plan" "indexes" "I") ∈ mm_tbl := mm_tt0 236 rfl rfl
theorem q_400 : (Jvm.Cond.lays "LeafSweep$Plan" "LeafSweep$Plan" "rows" "I") ∈ mm_tbl := mm_tt0 238 rfl rfl
theorem q_402 : (Jvm.Cond.lays "LeafSweep$Plan" "LeafSweep$Plan" "points" "I") ∈ mm_tbl := mm_tt1 0 rfl rfl
theorem q_411 : (Jvm.Cond.fieldLink "LeafSweep$Lines" (9 : Nat) "LeafSweep$Lines" "word" "[I") ∈ mm_tbl := mm_tt1 9 rfl rfl
theorem q_412 : (Jvm.Cond.fieldLink "LeafSweep$Reader" (204 : Nat) "LeafSweep$Lines" "word" "[I") ∈ mm_tbl := mm_tt1 10 rfl rfl
theorem q_413 : (Jvm.Cond.fieldLink "LeafSweep$Lines" (15 : Nat) "LeafSweep$Lines" "number" "[I") ∈ mm_tbl := mm_tt1 11 rfl rfl
theorem q_415 : (Jvm.Cond.fieldLink "LeafSweep$Reader" (87 : Nat) "LeafSweep$Lines" "told" "I") ∈ mm_tbl := mm_tt1 13 rfl rfl
theorem q_416 : (Jvm.Cond.fieldLink "LeafSweep" (101 : Nat) "LeafSweep$Lines" "told" "I") ∈ mm_tbl := mm_tt1 14 rfl rfl
theorem q_417 : (Jvm.Cond.laysFinal "LeafSweep$Lines" "LeafSweep$Lines" "word" "[I") ∈ mm_tbl := mm_tt1 15 rfl rfl
theorem q_419 : (Jvm.Cond.laysFinal "LeafSweep$Lines" "LeafSweep$Lines" "number" "[I") ∈ mm_tbl := mm_tt1 17 rfl rfl
theorem q_421 : (Jvm.Cond.lays "LeafSweep$Lines" "LeafSweep$Lines" "told" "I") ∈ mm_tbl := mm_tt1 19 rfl rfl
theorem q_424 : (Jvm.Cond.fieldLink "LeafSweep$Reader" (35 : Nat) "LeafSweep$Reader" "tape" "LLeafSweep$Tape;") ∈ mm_tbl := mm_tt1 22 rfl rfl
theorem q_425 : (Jvm.Cond.fieldLink "LeafSweep$Reader" (12 : Nat) "LeafSweep$Reader" "plan" "LLeafSweep$Plan;") ∈ mm_tbl := mm_tt1 23 rfl rfl
theorem q_426 : (Jvm.Cond.fieldLink "LeafSweep$Reader" (21 : Nat) "LeafSweep$Reader" "lines" "LLeafSweep$Lines;") ∈ mm_tbl := mm_tt1 24 rfl rfl
theorem q_427 : (Jvm.Cond.fieldLink "LeafSweep$Reader" (25 : Nat) "LeafSweep$Reader" "fault" "I") ∈ mm_tbl := mm_tt1 25 rfl rfl
theorem q_428 : (Jvm.Cond.fieldLink "LeafSweep$Reader" (29 : Nat) "LeafSweep$Reader" "number" "I") ∈ mm_tbl := mm_tt1 26 rfl rfl
theorem q_429 : (Jvm.Cond.fieldLink "LeafSweep$Reader" (32 : Nat) "LeafSweep$Reader" "been" "I") ∈ mm_tbl := mm_tt1 27 rfl rfl
theorem q_430 : (Jvm.Cond.laysFinal "LeafSweep$Reader" "LeafSweep$Reader" "tape" "LLeafSweep$Tape;") ∈ mm_tbl := mm_tt1 28 rfl rfl
theorem q_432 : (Jvm.Cond.lays "LeafSweep$Reader" "LeafSweep$Reader" "plan" "LLeafSweep$Plan;") ∈ mm_tbl := mm_tt1 30 rfl rfl
theorem q_434 : (Jvm.Cond.lays "LeafSweep$Reader" "LeafSweep$Reader" "lines" "LLeafSweep$Lines;") ∈ mm_tbl := mm_tt1 32 rfl rfl
theorem q_436 : (Jvm.Cond.lays "LeafSweep$Reader" "LeafSweep$Reader" "fault" "I") ∈ mm_tbl := mm_tt1 34 rfl rfl
theorem q_438 : (Jvm.Cond.lays "LeafSweep$Reader" "LeafSweep$Reader" "number" "I") ∈ mm_tbl := mm_tt1 36 rfl rfl
theorem q_440 : (Jvm.Cond.lays "LeafSweep$Reader" "LeafSweep$Reader" "been" "I") ∈ mm_tbl := mm_tt1 38 rfl rfl
theorem q_449 : (Jvm.Cond.fieldLink "LeafSweep$Bench" (9 : Nat) "LeafSweep$Bench" "coming" "[I") ∈ mm_tbl := mm_tt1 47 rfl rfl
theorem q_450 : (Jvm.Cond.fieldLink "LeafSweep$Bench" (15 : Nat) "LeafSweep$Bench" "memory" "[I") ∈ mm_tbl := mm_tt1 48 rfl rfl
theorem q_451 : (Jvm.Cond.fieldLink "LeafSweep$Bench" (18 : Nat) "LeafSweep$Bench" "length" "[I") ∈ mm_tbl := mm_tt1 49 rfl rfl
theorem q_452 : (Jvm.Cond.fieldLink "LeafSweep" (372 : Nat) "LeafSweep$Bench" "length" "[I") ∈ mm_tbl := mm_tt1 50 rfl rfl
theorem q_453 : (Jvm.Cond.fieldLink "LeafSweep$Bench" (21 : Nat) "LeafSweep$Bench" "left" "[I") ∈ mm_tbl := mm_tt1 51 rfl rfl
theorem q_454 : (Jvm.Cond.fieldLink "LeafSweep$Bench" (24 : Nat) "LeafSweep$Bench" "right" "[I") ∈ mm_tbl := mm_tt1 52 rfl rfl
theorem q_455 : (Jvm.Cond.fieldLink "LeafSweep$Bench" (27 : Nat) "LeafSweep$Bench" "runs" "I") ∈ mm_tbl := mm_tt1 53 rfl rfl
theorem q_456 : (Jvm.Cond.fieldLink "LeafSweep" (369 : Nat) "LeafSweep$Bench" "runs" "I") ∈ mm_tbl := mm_tt1 54 rfl rfl
theorem q_457 : (Jvm.Cond.laysFinal "LeafSweep$Bench" "LeafSweep$Bench" "coming" "[I") ∈ mm_tbl := mm_tt1 55 rfl rfl
theorem q_459 : (Jvm.Cond.laysFinal "LeafSweep$Bench" "LeafSweep$Bench" "memory" "[I") ∈ mm_tbl := mm_tt1 57 rfl rfl
theorem q_461 : (Jvm.Cond.laysFinal "LeafSweep$Bench" "LeafSweep$Bench" "length" "[I") ∈ mm_tbl := mm_tt1 59 rfl rfl
theorem q_463 : (Jvm.Cond.laysFinal "LeafSweep$Bench" "LeafSweep$Bench" "left" "[I") ∈ mm_tbl := mm_tt1 61 rfl rfl
theorem q_465 : (Jvm.Cond.laysFinal "LeafSweep$Bench" "LeafSweep$Bench" "right" "[I") ∈ mm_tbl := mm_tt1 63 rfl rfl
theorem q_467 : (Jvm.Cond.lays "LeafSweep$Bench" "LeafSweep$Bench" "runs" "I") ∈ mm_tbl := mm_tt1 65 rfl rfl
theorem q_487 : (Jvm.Cond.fieldLink "LeafSweep$Rows" (9 : Nat) "LeafSweep$Rows" "value" "[I") ∈ mm_tbl := mm_tt1 85 rfl rfl
theorem q_488 : (Jvm.Cond.fieldLink "LeafSweep$Rows" (15 : Nat) "LeafSweep$Rows" "come" "I") ∈ mm_tbl := mm_tt1 86 rfl rfl
theorem q_489 : (Jvm.Cond.fieldLink "LeafSweep$Bench" (85 : Nat) "LeafSweep$Rows" "come" "I") ∈ mm_tbl := mm_tt1 87 rfl rfl
theorem q_490 : (Jvm.Cond.fieldLink "LeafSweep$State" (150 : Nat) "LeafSweep$Rows" "come" "I") ∈ mm_tbl := mm_tt1 88 rfl rfl
theorem q_491 : (Jvm.Cond.fieldLink "LeafSweep" (245 : Nat) "LeafSweep$Rows" "come" "I") ∈ mm_tbl := mm_tt1 89 rfl rfl
theorem q_492 : (Jvm.Cond.fieldLink "LeafSweep$Rows" (19 : Nat) "LeafSweep$Rows" "there" "I") ∈ mm_tbl := mm_tt1 90 rfl rfl
theorem q_493 : (Jvm.Cond.fieldLink "LeafSweep" (122 : Nat) "LeafSweep$Rows" "there" "I") ∈ mm_tbl := mm_tt1 91 rfl rfl
theorem q_494 : (Jvm.Cond.fieldLink "LeafSweep$State" (173 : Nat) "LeafSweep$Rows" "there" "I") ∈ mm_tbl := mm_tt1 92 rfl rfl
theorem q_495 : (Jvm.Cond.fieldLink "LeafSweep$Rows" (22 : Nat) "LeafSweep$Rows" "chosen" "I") ∈ mm_tbl := mm_tt1 93 rfl rfl
theorem q_496 : (Jvm.Cond.fieldLink "LeafSweep" (125 : Nat) "LeafSweep$Rows" "chosen" "I") ∈ mm_tbl := mm_tt1 94 rfl rfl
theorem q_497 : (Jvm.Cond.fieldLink "LeafSweep$State" (198 : Nat) "LeafSweep$Rows" "chosen" "I") ∈ mm_tbl := mm_tt1 95 rfl rfl
theorem q_498 : (Jvm.Cond.laysFinal "LeafSweep$Rows" "LeafSweep$Rows" "value" "[I") ∈ mm_tbl := mm_tt1 96 rfl rfl
theorem q_500 : (Jvm.Cond.lays "LeafSweep$Rows" "LeafSweep$Rows" "come" "I") ∈ mm_tbl := mm_tt1 98 rfl rfl
theorem q_502 : (Jvm.Cond.lays "LeafSweep$Rows" "LeafSweep$Rows" "there" "I") ∈ mm_tbl := mm_tt1 100 rfl rfl
theorem q_504 : (Jvm.Cond.lays "LeafSweep$Rows" "LeafSweep$Rows" "chosen" "I") ∈ mm_tbl := mm_tt1 102 rfl rfl
theorem q_513 : (Jvm.Cond.fieldLink "LeafSweep$Points" (9 : Nat) "LeafSweep$Points" "sort" "[I") ∈ mm_tbl := mm_tt1 111 rfl rfl
theorem q_514 : (Jvm.Cond.fieldLink "LeafSweep" (168 : Nat) "LeafSweep$Points" "sort" "[I") ∈ mm_tbl := mm_tt1 112 rfl rfl
theorem q_515 : (Jvm.Cond.fieldLink "LeafSweep$Points" (15 : Nat) "LeafSweep$Points" "target" "[I") ∈ mm_tbl := mm_tt1 113 rfl rfl
theorem q_516 : (Jvm.Cond.fieldLink "LeafSweep$Bench" (78 : Nat) "LeafSweep$Points" "target" "[I") ∈ mm_tbl := mm_tt1 114 rfl rfl
theorem q_517 : (Jvm.Cond.fieldLink "LeafSweep" (171 : Nat) "LeafSweep$Points" "target" "[I") ∈ mm_tbl := mm_tt1 115 rfl rfl
theorem q_518 : (Jvm.Cond.fieldLink "LeafSweep$State" (218 : Nat) "LeafSweep$Points" "target" "[I") ∈ mm_tbl := mm_tt1 116 rfl rfl
theorem q_519 : (Jvm.Cond.fieldLink "LeafSweep$Points" (18 : Nat) "LeafSweep$Points" "before" "[I") ∈ mm_tbl := mm_tt1 117 rfl rfl
theorem q_520 : (Jvm.Cond.fieldLink "LeafSweep$State" (306 : Nat) "LeafSweep$Points" "before" "[I") ∈ mm_tbl := mm_tt1 118 rfl rfl
theorem q_521 : (Jvm.Cond.fieldLink "LeafSweep$Points" (21 : Nat) "LeafSweep$Points" "come" "I") ∈ mm_tbl := mm_tt1 119 rfl rfl
theorem q_522 : (Jvm.Cond.fieldLink "LeafSweep$State" (83 : Nat) "LeafSweep$Points" "come" "I") ∈ mm_tbl := mm_tt1 120 rfl rfl
theorem q_523 : (Jvm.Cond.fieldLink "LeafSweep$Bench" (69 : Nat) "LeafSweep$Points" "come" "I") ∈ mm_tbl := mm_tt1 121 rfl rfl
theorem q_524 : (Jvm.Cond.fieldLink "LeafSweep" (413 : Nat) "LeafSweep$Points" "come" "I") ∈ mm_tbl := mm_tt1 122 rfl rfl
theorem q_525 : (Jvm.Cond.laysFinal "LeafSweep$Points" "LeafSweep$Points" "sort" "[I") ∈ mm_tbl := mm_tt1 123 rfl rfl
theorem q_527 : (Jvm.Cond.laysFinal "LeafSweep$Points" "LeafSweep$Points" "target" "[I") ∈ mm_tbl := mm_tt1 125 rfl rfl
theorem q_529 : (Jvm.Cond.laysFinal "LeafSweep$Points" "LeafSweep$Points" "before" "[I") ∈ mm_tbl := mm_tt1 127 rfl rfl
theorem q_531 : (Jvm.Cond.lays "LeafSweep$Points" "LeafSweep$Points" "come" "I") ∈ mm_tbl := mm_tt1 129 rfl rfl
theorem q_548 : (Jvm.Cond.fieldLink "LeafSweep$Leaves" (9 : Nat) "LeafSweep$Leaves" "entry" "[I") ∈ mm_tbl := mm_tt1 146 rfl rfl
theorem q_549 : (Jvm.Cond.fieldLink "LeafSweep$State" (166 : Nat) "LeafSweep$Leaves" "entry" "[I") ∈ mm_tbl := mm_tt1 147 rfl rfl
theorem q_550 : (Jvm.Cond.fieldLink "LeafSweep$Leaves" (15 : Nat) "LeafSweep$Leaves" "size" "[I") ∈ mm_tbl := mm_tt1 148 rfl rfl
theorem q_551 : (Jvm.Cond.fieldLink "LeafSweep$Leaves" (18 : Nat) "LeafSweep$Leaves" "entries" "I") ∈ mm_tbl := mm_tt1 149 rfl rfl
theorem q_552 : (Jvm.Cond.fieldLink "LeafSweep" (146 : Nat) "LeafSweep$Leaves" "entries" "I") ∈ mm_tbl := mm_tt1 150 rfl rfl
theorem q_553 : (Jvm.Cond.fieldLink "LeafSweep$State" (163 : Nat) "LeafSweep$Leaves" "entries" "I") ∈ mm_tbl := mm_tt1 151 rfl rfl
theorem q_554 : (Jvm.Cond.fieldLink "LeafSweep$Leaves" (22 : Nat) "LeafSweep$Leaves" "leaves" "I") ∈ mm_tbl := mm_tt1 152 rfl rfl
theorem q_555 : (Jvm.Cond.fieldLink "LeafSweep" (151 : Nat) "LeafSweep$Leaves" "leaves" "I") ∈ mm_tbl := mm_tt1 153 rfl rfl
theorem q_556 : (Jvm.Cond.fieldLink "LeafSweep$State" (185 : Nat) "LeafSweep$Leaves" "leaves" "I") ∈ mm_tbl := mm_tt1 154 rfl rfl
theorem q_557 : (Jvm.Cond.fieldLink "LeafSweep$Leaves" (25 : Nat) "LeafSweep$Leaves" "page" "I") ∈ mm_tbl := mm_tt1 155 rfl rfl
theorem q_558 : (Jvm.Cond.fieldLink "LeafSweep$Leaves" (28 : Nat) "LeafSweep$Leaves" "down" "Z") ∈ mm_tbl := mm_tt1 156 rfl rfl
theorem q_559 : (Jvm.Cond.laysFinal "LeafSweep$Leaves" "LeafSweep$Leaves" "entry" "[I") ∈ mm_tbl := mm_tt1 157 rfl rfl
theorem q_561 : (Jvm.Cond.laysFinal "LeafSweep$Leaves" "LeafSweep$Leaves" "size" "[I") ∈ mm_tbl := mm_tt1 159 rfl rfl
theorem q_563 : (Jvm.Cond.lays "LeafSweep$Leaves" "LeafSweep$Leaves" "entries" "I") ∈ mm_tbl := mm_tt1 161 rfl rfl
theorem q_565 : (Jvm.Cond.lays "LeafSweep$Leaves" "LeafSweep$Leaves" "leaves" "I") ∈ mm_tbl := mm_tt1 163 rfl rfl
theorem q_567 : (Jvm.Cond.lays "LeafSweep$Leaves" "LeafSweep$Leaves" "page" "I") ∈ mm_tbl := mm_tt1 165 rfl rfl
theorem q_569 : (Jvm.Cond.lays "LeafSweep$Leaves" "LeafSweep$Leaves" "down" "Z") ∈ mm_tbl := mm_tt1 167 rfl rfl
theorem q_572 : (Jvm.Cond.fieldLink "LeafSweep$Job" (9 : Nat) "LeafSweep$Job" "record" "[I") ∈ mm_tbl := mm_tt1 170 rfl rfl
theorem q_573 : (Jvm.Cond.fieldLink "LeafSweep" (350 : Nat) "LeafSweep$Job" "record" "[I") ∈ mm_tbl := mm_tt1 171 rfl rfl
theorem q_574 : (Jvm.Cond.fieldLink "LeafSweep$Job" (15 : Nat) "LeafSweep$Job" "side" "[I") ∈ mm_tbl := mm_tt1 172 rfl rfl
theorem q_575 : (Jvm.Cond.fieldLink "LeafSweep" (287 : Nat) "LeafSweep$Job" "side" "[I") ∈ mm_tbl := mm_tt1 173 rfl rfl
theorem q_576 : (Jvm.Cond.fieldLink "LeafSweep$State" (357 : Nat) "LeafSweep$Job" "side" "[I") ∈ mm_tbl := mm_tt1 174 rfl rfl
theorem q_577 : (Jvm.Cond.fieldLink "LeafSweep$Job" (21 : Nat) "LeafSweep$Job" "stand" "LLeafSweep$Leaves;") ∈ mm_tbl := mm_tt1 175 rfl rfl
theorem q_578 : (Jvm.Cond.fieldLink "LeafSweep$State" (329 : Nat) "LeafSweep$Job" "stand" "LLeafSweep$Leaves;") ∈ mm_tbl := mm_tt1 176 rfl rfl
theorem q_579 : (Jvm.Cond.fieldLink "LeafSweep$Job" (25 : Nat) "LeafSweep$Job" "on" "Z") ∈ mm_tbl := mm_tt1 177 rfl rfl
theorem q_580 : (Jvm.Cond.fieldLink "LeafSweep$State" (194 : Nat) "LeafSweep$Job" "on" "Z") ∈ mm_tbl := mm_tt1 178 rfl rfl
theorem q_581 : (Jvm.Cond.fieldLink "LeafSweep" (277 : Nat) "LeafSweep$Job" "on" "Z") ∈ mm_tbl := mm_tt1 179 rfl rfl
theorem q_582 : (Jvm.Cond.fieldLink "LeafSweep$Job" (29 : Nat) "LeafSweep$Job" "down" "Z") ∈ mm_tbl := mm_tt1 180 rfl rfl
theorem q_583 : (Jvm.Cond.fieldLink "LeafSweep" (347 : Nat) "LeafSweep$Job" "down" "Z") ∈ mm_tbl := mm_tt1 181 rfl rfl
theorem q_584 : (Jvm.Cond.fieldLink "LeafSweep$State" (369 : Nat) "LeafSweep$Job" "down" "Z") ∈ mm_tbl := mm_tt1 182 rfl rfl
theorem q_585 : (Jvm.Cond.fieldLink "LeafSweep$Job" (32 : Nat) "LeafSweep$Job" "at" "I") ∈ mm_tbl := mm_tt1 183 rfl rfl
theorem q_586 : (Jvm.Cond.fieldLink "LeafSweep$State" (207 : Nat) "LeafSweep$Job" "at" "I") ∈ mm_tbl := mm_tt1 184 rfl rfl
theorem q_587 : (Jvm.Cond.fieldLink "LeafSweep" (329 : Nat) "LeafSweep$Job" "at" "I") ∈ mm_tbl := mm_tt1 185 rfl rfl
theorem q_588 : (Jvm.Cond.fieldLink "LeafSweep$Job" (36 : Nat) "LeafSweep$Job" "way" "I") ∈ mm_tbl := mm_tt1 186 rfl rfl
theorem q_589 : (Jvm.Cond.fieldLink "LeafSweep$State" (312 : Nat) "LeafSweep$Job" "way" "I") ∈ mm_tbl := mm_tt1 187 rfl rfl
theorem q_590 : (Jvm.Cond.fieldLink "LeafSweep" (335 : Nat) "LeafSweep$Job" "way" "I") ∈ mm_tbl := mm_tt1 188 rfl rfl
theorem q_591 : (Jvm.Cond.fieldLink "LeafSweep$Job" (39 : Nat) "LeafSweep$Job" "since" "I") ∈ mm_tbl := mm_tt1 189 rfl rfl
theorem q_592 : (Jvm.Cond.fieldLink "LeafSweep$State" (345 : Nat) "LeafSweep$Job" "since" "I") ∈ mm_tbl := mm_tt1 190 rfl rfl
theorem q_593 : (Jvm.Cond.fieldLink "LeafSweep" (341 : Nat) "LeafSweep$Job" "since" "I") ∈ mm_tbl := mm_tt1 191 rfl rfl
theorem q_594 : (Jvm.Cond.fieldLink "LeafSweep$Job" (42 : Nat) "LeafSweep$Job" "gone" "I") ∈ mm_tbl := mm_tt1 192 rfl rfl
theorem q_595 : (Jvm.Cond.fieldLink "LeafSweep$State" (315 : Nat) "LeafSweep$Job" "gone" "I") ∈ mm_tbl := mm_tt1 193 rfl rfl
theorem q_596 : (Jvm.Cond.fieldLink "LeafSweep$Job" (45 : Nat) "LeafSweep$Job" "records" "I") ∈ mm_tbl := mm_tt1 194 rfl rfl
theorem q_597 : (Jvm.Cond.fieldLink "LeafSweep" (344 : Nat) "LeafSweep$Job" "records" "I") ∈ mm_tbl := mm_tt1 195 rfl rfl
theorem q_598 : (Jvm.Cond.fieldLink "LeafSweep$State" (360 : Nat) "LeafSweep$Job" "records" "I") ∈ mm_tbl := mm_tt1 196 rfl rfl
theorem q_599 : (Jvm.Cond.fieldLink "LeafSweep$Job" (48 : Nat) "LeafSweep$Job" "sides" "I") ∈ mm_tbl := mm_tt1 197 rfl rfl
theorem q_600 : (Jvm.Cond.fieldLink "LeafSweep" (283 : Nat) "LeafSweep$Job" "sides" "I") ∈ mm_tbl := mm_tt1 198 rfl rfl
theorem q_601 : (Jvm.Cond.fieldLink "LeafSweep$State" (275 : Nat) "LeafSweep$Job" "sides" "I") ∈ mm_tbl := mm_tt1 199 rfl rfl
theorem q_602 : (Jvm.Cond.laysFinal "LeafSweep$Job" "LeafSweep$Job" "record" "[I") ∈ mm_tbl := mm_tt1 200 rfl rfl
theorem q_604 : (Jvm.Cond.laysFinal "LeafSweep$Job" "LeafSweep$Job" "side" "[I") ∈ mm_tbl := mm_tt1 202 rfl rfl
theorem q_606 : (Jvm.Cond.laysFinal "LeafSweep$Job" "LeafSweep$Job" "stand" "LLeafSweep$Leaves;") ∈ mm_tbl := mm_tt1 204 rfl rfl
theorem q_608 : (Jvm.Cond.lays "LeafSweep$Job" "LeafSweep$Job" "on" "Z") ∈ mm_tbl := mm_tt1 206 rfl rfl
theorem q_610 : (Jvm.Cond.lays "LeafSweep$Job" "LeafSweep$Job" "down" "Z") ∈ mm_tbl := mm_tt1 208 rfl rfl
theorem q_612 : (Jvm.Cond.lays "LeafSweep$Job" "LeafSweep$Job" "at" "I") ∈ mm_tbl := mm_tt1 210 rfl rfl
theorem q_614 : (Jvm.Cond.lays "LeafSweep$Job" "LeafSweep$Job" "way" "I") ∈ mm_tbl := mm_tt1 212 rfl rfl
theorem q_616 : (Jvm.Cond.lays "LeafSweep$Job" "LeafSweep$Job" "since" "I") ∈ mm_tbl := mm_tt1 214 rfl rfl
theorem q_618 : (Jvm.Cond.lays "LeafSweep$Job" "LeafSweep$Job" "gone" "I") ∈ mm_tbl := mm_tt1 216 rfl rfl
theorem q_620 : (Jvm.Cond.lays "LeafSweep$Job" "LeafSweep$Job" "records" "I") ∈ mm_tbl := mm_tt1 218 rfl rfl
theorem q_622 : (Jvm.Cond.lays "LeafSweep$Job" "LeafSweep$Job" "sides" "I") ∈ mm_tbl := mm_tt1 220 rfl rfl
theorem q_626 : (Jvm.Cond.fieldLink "LeafSweep$State" (12 : Nat) "LeafSweep$State" "rows" "LLeafSweep$Rows;") ∈ mm_tbl := mm_tt1 224 rfl rfl
theorem q_627 : (Jvm.Cond.fieldLink "LeafSweep$Where" (39 : Nat) "LeafSweep$State" "rows" "LLeafSweep$Rows;") ∈ mm_tbl := mm_tt1 225 rfl rfl
theorem q_628 : (Jvm.Cond.fieldLink "LeafSweep" (108 : Nat) "LeafSweep$State" "rows" "LLeafSweep$Rows;") ∈ mm_tbl := mm_tt1 226 rfl rfl
theorem q_629 : (Jvm.Cond.fieldLink "LeafSweep$Bench" (81 : Nat) "LeafSweep$State" "rows" "LLeafSweep$Rows;") ∈ mm_tbl := mm_tt1 227 rfl rfl
theorem q_630 : (Jvm.Cond.fieldLink "LeafSweep$State" (21 : Nat) "LeafSweep$State" "points" "LLeafSweep$Points;") ∈ mm_tbl := mm_tt1 228 rfl rfl
theorem q_631 : (Jvm.Cond.fieldLink "LeafSweep$Where" (54 : Nat) "LeafSweep$State" "points" "LLeafSweep$Points;") ∈ mm_tbl := mm_tt1 229 rfl rfl
theorem q_632 : (Jvm.Cond.fieldLink "LeafSweep$Bench" (63 : Nat) "LeafSweep$State" "points" "LLeafSweep$Points;") ∈ mm_tbl := mm_tt1 230 rfl rfl
theorem q_633 : (Jvm.Cond.fieldLink "LeafSweep" (161 : Nat) "LeafSweep$State" "points" "LLeafSweep$Points;") ∈ mm_tbl := mm_tt1 231 rfl rfl
theorem q_634 : (Jvm.Cond.fieldLink "LeafSweep$State" (27 : Nat) "LeafSweep$State" "trees" "[LLeafSweep$Leaves;") ∈ mm_tbl := mm_tt1 232 rfl rfl
theorem q_635 : (Jvm.Cond.fieldLink "LeafSweep" (135 : Nat) "LeafSweep$State" "trees" "[LLeafSweep$Leaves;") ∈ mm_tbl := mm_tt1 233 rfl rfl
theorem q_636 : (Jvm.Cond.fieldLink "LeafSweep$State" (34 : Nat) "LeafSweep$State" "job" "LLeafSweep$Job;") ∈ mm_tbl := mm_tt1 234 rfl rfl
theorem q_637 : (Jvm.Cond.fieldLink "LeafSweep" (273 : Nat) "LeafSweep$State" "job" "LLeafSweep$Job;") ∈ mm_tbl := mm_tt1 235 rfl rfl
theorem q_638 : (Jvm.Cond.fieldLink "LeafSweep$State" (38 : Nat) "LeafSweep$State" "was" "[I") ∈ mm_tbl := mm_tt1 236 rfl rfl
theorem q_639 : (Jvm.Cond.fieldLink "LeafSweep$State" (42 : Nat) "LeafSweep$State" "willBe" "[I") ∈ mm_tbl := mm_tt1 237 rfl rfl
theorem q_640 : (Jvm.Cond.fieldLink "LeafSweep$State" (49 : Nat) "LeafSweep$State" "plan" "LLeafSweep$Plan;") ∈ mm_tbl := mm_tt1 238 rfl rfl
theorem q_641 : (Jvm.Cond.fieldLink "LeafSweep$State" (58 : Nat) "LeafSweep$State" "batch" "I") ∈ mm_tbl := mm_tt1 239 rfl rfl
theorem q_642 : (Jvm.Cond.fieldLink "LeafSweep" (362 : Nat) "LeafSweep$State" "batch" "I") ∈ mm_tbl := mm_tt2 0 rfl rfl
theorem q_643 : (Jvm.Cond.fieldLink "LeafSweep$State" (45 : Nat) "LeafSweep$State" "spent" "I") ∈ mm_tbl := mm_tt2 1 rfl rfl
theorem q_644 : (Jvm.Cond.fieldLink "LeafSweep" (236 : Nat) "LeafSweep$State" "spent" "I") ∈ mm_tbl := mm_tt2 2 rfl rfl
theorem q_645 : (Jvm.Cond.laysFinal "LeafSweep$State" "LeafSweep$State" "rows" "LLeafSweep$Rows;") ∈ mm_tbl := mm_tt2 3 rfl rfl
theorem q_647 : (Jvm.Cond.laysFinal "LeafSweep$State" "LeafSweep$State" "points" "LLeafSweep$Points;") ∈ mm_tbl := mm_tt2 5 rfl rfl
theorem q_649 : (Jvm.Cond.laysFinal "LeafSweep$State" "LeafSweep$State" "trees" "[LLeafSweep$Leaves;") ∈ mm_tbl := mm_tt2 7 rfl rfl
theorem q_651 : (Jvm.Cond.laysFinal "LeafSweep$State" "LeafSweep$State" "job" "LLeafSweep$Job;") ∈ mm_tbl := mm_tt2 9 rfl rfl
theorem q_653 : (Jvm.Cond.laysFinal "LeafSweep$State" "LeafSweep$State" "was" "[I") ∈ mm_tbl := mm_tt2 11 rfl rfl
theorem q_655 : (Jvm.Cond.laysFinal "LeafSweep$State" "LeafSweep$State" "willBe" "[I") ∈ mm_tbl := mm_tt2 13 rfl rfl
theorem q_657 : (Jvm.Cond.lays "LeafSweep$State" "LeafSweep$State" "plan" "LLeafSweep$Plan;") ∈ mm_tbl := mm_tt2 15 rfl rfl
theorem q_659 : (Jvm.Cond.lays "LeafSweep$State" "LeafSweep$State" "batch" "I") ∈ mm_tbl := mm_tt2 17 rfl rfl
theorem q_661 : (Jvm.Cond.lays "LeafSweep$State" "LeafSweep$State" "spent" "I") ∈ mm_tbl := mm_tt2 19 rfl rfl
theorem q_664 : (Jvm.Cond.fieldLink "LeafSweep" (12 : Nat) "LeafSweep" "tape" "LLeafSweep$Tape;") ∈ mm_tbl := mm_tt2 22 rfl rfl
theorem q_665 : (Jvm.Cond.fieldLink "LeafSweep" (21 : Nat) "LeafSweep" "reader" "LLeafSweep$Reader;") ∈ mm_tbl := mm_tt2 23 rfl rfl
theorem q_666 : (Jvm.Cond.fieldLink "LeafSweep" (28 : Nat) "LeafSweep" "bench" "LLeafSweep$Bench;") ∈ mm_tbl := mm_tt2 24 rfl rfl
theorem q_667 : (Jvm.Cond.fieldLink "LeafSweep" (34 : Nat) "LeafSweep" "past" "[LLeafSweep$State;") ∈ mm_tbl := mm_tt2 25 rfl rfl
theorem q_668 : (Jvm.Cond.fieldLink "LeafSweep" (38 : Nat) "LeafSweep" "oldest" "I") ∈ mm_tbl := mm_tt2 26 rfl rfl
theorem q_669 : (Jvm.Cond.fieldLink "LeafSweep" (42 : Nat) "LeafSweep" "kept" "I") ∈ mm_tbl := mm_tt2 27 rfl rfl
theorem q_670 : (Jvm.Cond.fieldLink "LeafSweep" (45 : Nat) "LeafSweep" "cursorIndex" "I") ∈ mm_tbl := mm_tt2 28 rfl rfl
theorem q_671 : (Jvm.Cond.fieldLink "LeafSweep" (48 : Nat) "LeafSweep" "cursorKey" "I") ∈ mm_tbl := mm_tt2 29 rfl rfl
theorem q_672 : (Jvm.Cond.fieldLink "LeafSweep" (51 : Nat) "LeafSweep" "fetched" "I") ∈ mm_tbl := mm_tt2 30 rfl rfl
theorem q_673 : (Jvm.Cond.fieldLink "LeafSweep" (57 : Nat) "LeafSweep" "plan" "LLeafSweep$Plan;") ∈ mm_tbl := mm_tt2 31 rfl rfl
theorem q_674 : (Jvm.Cond.fieldLink "LeafSweep" (61 : Nat) "LeafSweep" "draftPlan" "LLeafSweep$Plan;") ∈ mm_tbl := mm_tt2 32 rfl rfl
theorem q_675 : (Jvm.Cond.fieldLink "LeafSweep" (67 : Nat) "LeafSweep" "lines" "LLeafSweep$Lines;") ∈ mm_tbl := mm_tt2 33 rfl rfl
theorem q_676 : (Jvm.Cond.fieldLink "LeafSweep" (71 : Nat) "LeafSweep" "draftLines" "LLeafSweep$Lines;") ∈ mm_tbl := mm_tt2 34 rfl rfl
theorem q_677 : (Jvm.Cond.fieldLink "LeafSweep" (77 : Nat) "LeafSweep" "now" "LLeafSweep$State;") ∈ mm_tbl := mm_tt2 35 rfl rfl
theorem q_678 : (Jvm.Cond.fieldLink "LeafSweep" (81 : Nat) "LeafSweep" "spare" "LLeafSweep$State;") ∈ mm_tbl := mm_tt2 36 rfl rfl
theorem q_679 : (Jvm.Cond.fieldLink "LeafSweep" (84 : Nat) "LeafSweep" "trial" "LLeafSweep$State;") ∈ mm_tbl := mm_tt2 37 rfl rfl
theorem q_680 : (Jvm.Cond.laysFinal "LeafSweep" "LeafSweep" "tape" "LLeafSweep$Tape;") ∈ mm_tbl := mm_tt2 38 rfl rfl
theorem q_682 : (Jvm.Cond.laysFinal "LeafSweep" "LeafSweep" "reader" "LLeafSweep$Reader;") ∈ mm_tbl := mm_tt2 40 rfl rfl
theorem q_684 : (Jvm.Cond.laysFinal "LeafSweep" "LeafSweep" "bench" "LLeafSweep$Bench;") ∈ mm_tbl := mm_tt2 42 rfl rfl
theorem q_686 : (Jvm.Cond.laysFinal "LeafSweep" "LeafSweep" "past" "[LLeafSweep$State;") ∈ mm_tbl := mm_tt2 44 rfl rfl
theorem q_688 : (Jvm.Cond.lays "LeafSweep" "LeafSweep" "oldest" "I") ∈ mm_tbl := mm_tt2 46 rfl rfl
theorem q_690 : (Jvm.Cond.lays "LeafSweep" "LeafSweep" "kept" "I") ∈ mm_tbl := mm_tt2 48 rfl rfl
theorem q_692 : (Jvm.Cond.lays "LeafSweep" "LeafSweep" "cursorIndex" "I") ∈ mm_tbl := mm_tt2 50 rfl rfl
theorem q_694 : (Jvm.Cond.lays "LeafSweep" "LeafSweep" "cursorKey" "I") ∈ mm_tbl := mm_tt2 52 rfl rfl
theorem q_696 : (Jvm.Cond.lays "LeafSweep" "LeafSweep" "fetched" "I") ∈ mm_tbl := mm_tt2 54 rfl rfl
theorem q_698 : (Jvm.Cond.lays "LeafSweep" "LeafSweep" "plan" "LLeafSweep$Plan;") ∈ mm_tbl := mm_tt2 56 rfl rfl
theorem q_700 : (Jvm.Cond.lays "LeafSweep" "LeafSweep" "draftPlan" "LLeafSweep$Plan;") ∈ mm_tbl := mm_tt2 58 rfl rfl
theorem q_702 : (Jvm.Cond.lays "LeafSweep" "LeafSweep" "lines" "LLeafSweep$Lines;") ∈ mm_tbl := mm_tt2 60 rfl rfl
theorem q_704 : (Jvm.Cond.lays "LeafSweep" "LeafSweep" "draftLines" "LLeafSweep$Lines;") ∈ mm_tbl := mm_tt2 62 rfl rfl
theorem q_706 : (Jvm.Cond.lays "LeafSweep" "LeafSweep" "now" "LLeafSweep$State;") ∈ mm_tbl := mm_tt2 64 rfl rfl
theorem q_708 : (Jvm.Cond.lays "LeafSweep" "LeafSweep" "spare" "LLeafSweep$State;") ∈ mm_tbl := mm_tt2 66 rfl rfl
theorem q_710 : (Jvm.Cond.laysFinal "LeafSweep" "LeafSweep" "trial" "LLeafSweep$State;") ∈ mm_tbl := mm_tt2 68 rfl rfl
theorem q_714 : (Jvm.Cond.instanceMethod ({ cls := "LeafSweep", name := "feed", desc := "(JJJ)I" } : Jvm.MethodName)) ∈ mm_tbl := mm_tt2 72 rfl rfl
theorem q_715 : (Jvm.Cond.selects "LeafSweep" ({ cls := "LeafSweep", name := "feed", desc := "(JJJ)I" } : Jvm.MethodName) ({ cls := "LeafSweep", name := "feed", desc := "(JJJ)I" } : Jvm.MethodName)) ∈ mm_tbl := mm_tt2 73 rfl rfl
theorem q_716 : (Jvm.Cond.code ({ cls := "LeafSweep", name := "feed", desc := "(JJJ)I" } : Jvm.MethodName) prog_1_method_2_code (7 : Nat) (Option.some Jvm.ClassFile.FieldType.int)) ∈ mm_tbl := mm_tt2 74 rfl rfl
theorem q_717 : (Jvm.Cond.methodLink "LeafSweep" (87 : Nat) ({ cls := "LeafSweep$Tape", name := "lay", desc := "(J)V" } : Jvm.MethodName)) ∈ mm_tbl := mm_tt2 75 rfl rfl
theorem q_718 : (Jvm.Cond.instanceMethod ({ cls := "LeafSweep$Tape", name := "lay", desc := "(J)V" } : Jvm.MethodName)) ∈ mm_tbl := mm_tt2 76 rfl rfl
theorem q_719 : (Jvm.Cond.selects "LeafSweep$Tape" ({ cls := "LeafSweep$Tape", name := "lay", desc := "(J)V" } : Jvm.MethodName) ({ cls := "LeafSweep$Tape", name := "lay", desc := "(J)V" } : Jvm.MethodName)) ∈ mm_tbl := mm_tt2 77 rfl rfl
theorem q_720 : (Jvm.Cond.code ({ cls := "LeafSweep$Tape", name := "lay", desc := "(J)V" } : Jvm.MethodName) prog_11_method_2_code (5 : Nat) (Option.none : Option Jvm.ClassFile.FieldType)) ∈ mm_tbl := mm_tt2 78 rfl rfl
theorem q_721 : (Jvm.Cond.constantLong "LeafSweep$Tape" (55 : Nat) (255 : Int64)) ∈ mm_tbl := mm_tt2 79 rfl rfl
theorem q_722 : (Jvm.Cond.methodLink "LeafSweep$Tape" (57 : Nat) ({ cls := "LeafSweep$Tape", name := "sortFor", desc := "(I)I" } : Jvm.MethodName)) ∈ mm_tbl := mm_tt2 80 rfl rfl
theorem q_723 : (Jvm.Cond.static ({ cls := "LeafSweep$Tape", name := "sortFor", desc := "(I)I" } : Jvm.MethodName)) ∈ mm_tbl := mm_tt2 81 rfl rfl
theorem q_724 : (Jvm.Cond.code ({ cls := "LeafSweep$Tape", name := "sortFor", desc := "(I)I" } : Jvm.MethodName) prog_11_method_3_code (1 : Nat) (Option.some Jvm.ClassFile.FieldType.int)) ∈ mm_tbl := mm_tt2 82 rfl rfl
theorem q_726 : (Jvm.Cond.instanceMethod ({ cls := "LeafSweep", name := "table", desc := "()I" } : Jvm.MethodName)) ∈ mm_tbl := mm_tt2 84 rfl rfl
theorem q_727 : (Jvm.Cond.selects "LeafSweep" ({ cls := "LeafSweep", name := "table", desc := "()I" } : Jvm.MethodName) ({ cls := "LeafSweep", name := "table", desc := "()I" } : Jvm.MethodName)) ∈ mm_tbl := mm_tt2 85 rfl rfl
theorem q_728 : (Jvm.Cond.code ({ cls := "LeafSweep", name := "table", desc := "()I" } : Jvm.MethodName) prog_1_method_3_code (3 : Nat) (Option.some Jvm.ClassFile.FieldType.int)) ∈ mm_tbl := mm_tt2 86 rfl rfl
theorem q_729 : (Jvm.Cond.methodLink "LeafSweep" (94 : Nat) ({ cls := "LeafSweep$Reader", name := "readPlan", desc := "(LLeafSweep$Plan;)I" } : Jvm.MethodName)) ∈ mm_tbl := mm_tt2 87 rfl rfl
theorem q_730 : (Jvm.Cond.instanceMethod ({ cls := "LeafSweep$Reader", name := "readPlan", desc := "(LLeafSweep$Plan;)I" } : Jvm.MethodName)) ∈ mm_tbl := mm_tt2 88 rfl rfl
theorem q_731 : (Jvm.Cond.selects "LeafSweep$Reader" ({ cls := "LeafSweep$Reader", name := "readPlan", desc := "(LLeafSweep$Plan;)I" } : Jvm.MethodName) ({ cls := "LeafSweep$Reader", name := "readPlan", desc := "(LLeafSweep$Plan;)I" } : Jvm.MethodName)) ∈ mm_tbl := mm_tt2 89 rfl rfl
theorem q_732 : (Jvm.Cond.code ({ cls := "LeafSweep$Reader", name := "readPlan", desc := "(LLeafSweep$Plan;)I" } : Jvm.MethodName) prog_8_method_2_code (4 : Nat) (Option.some Jvm.ClassFile.FieldType.int)) ∈ mm_tbl := mm_tt2 90 rfl rfl
theorem q_733 : (Jvm.Cond.methodLink "LeafSweep$Reader" (39 : Nat) ({ cls := "LeafSweep$Plan", name := "clear", desc := "()V" } : Jvm.MethodName)) ∈ mm_tbl := mm_tt2 91 rfl rfl
theorem q_734 : (Jvm.Cond.instanceMethod ({ cls := "LeafSweep$Plan", name := "clear", desc := "()V" } : Jvm.MethodName)) ∈ mm_tbl := mm_tt2 92 rfl rfl
theorem q_735 : (Jvm.Cond.selects "LeafSweep$Plan" ({ cls := "LeafSweep$Plan", name := "clear", desc := "()V" } : Jvm.MethodName) ({ cls := "LeafSweep$Plan", name := "clear", desc := "()V" } : Jvm.MethodName)) ∈ mm_tbl := mm_tt2 93 rfl rfl
theorem q_736 : (Jvm.Cond.code ({ cls := "LeafSweep$Plan", name := "clear", desc := "()V" } : Jvm.MethodName) prog_6_method_2_code (1 : Nat) (Option.none : Option Jvm.ClassFile.FieldType)) ∈ mm_tbl := mm_tt2 94 rfl rfl
theorem q_737 : (Jvm.Cond.methodLink "LeafSweep$Reader" (42 : Nat) ({ cls := "LeafSweep$Tape", name := "rewind", desc := "()V" } : Jvm.MethodName)) ∈ mm_tbl := mm_tt2 95 rfl rfl
theorem q_738 : (Jvm.Cond.instanceMethod ({ cls := "LeafSweep$Tape", name := "rewind", desc := "()V" } : Jvm.MethodName)) ∈ mm_tbl := mm_tt2 96 rfl rfl
theorem q_739 : (Jvm.Cond.selects "LeafSweep$Tape" ({ cls := "LeafSweep$Tape", name := "rewind", desc := "()V" } : Jvm.MethodName) ({ cls := "LeafSweep$Tape", name := "rewind", desc := "()V" } : Jvm.MethodName)) ∈ mm_tbl := mm_tt2 97 rfl rfl
theorem q_740 : (Jvm.Cond.code ({ cls := "LeafSweep$Tape", name := "rewind", desc := "()V" } : Jvm.MethodName) prog_11_method_4_code (1 : Nat) (Option.none : Option Jvm.ClassFile.FieldType)) ∈ mm_tbl := mm_tt2 98 rfl rfl
theorem q_741 : (Jvm.Cond.methodLink "LeafSweep$Tape" (61 : Nat) ({ cls := "LeafSweep$Tape", name := "readOn", desc := "()V" } : Jvm.MethodName)) ∈ mm_tbl := mm_tt2 99 rfl rfl
theorem q_742 : (Jvm.Cond.instanceMethod ({ cls := "LeafSweep$Tape", name := "readOn", desc := "()V" } : Jvm.MethodName)) ∈ mm_tbl := mm_tt2 100 rfl rfl
theorem q_743 : (Jvm.Cond.selects "LeafSweep$Tape" ({ cls := "LeafSweep$Tape", name := "readOn", desc := "()V" } : Jvm.MethodName) ({ cls := "LeafSweep$Tape", name := "readOn", desc := "()V" } : Jvm.MethodName)) ∈ mm_tbl := mm_tt2 101 rfl rfl
theorem q_744 : (Jvm.Cond.code ({ cls := "LeafSweep$Tape", name := "readOn", desc := "()V" } : Jvm.MethodName) prog_11_method_5_code (2 : Nat) (Option.none : Option Jvm.ClassFile.FieldType)) ∈ mm_tbl := mm_tt2 102 rfl rfl
theorem q_745 : (Jvm.Cond.methodLink "LeafSweep$Tape" (64 : Nat) ({ cls := "LeafSweep$Tape", name := "readSigns", desc := "()V" } : Jvm.MethodName)) ∈ mm_tbl := mm_tt2 103 rfl rfl
theorem q_747 : (Jvm.Cond.instanceMethod ({ cls := "LeafSweep$Tape", name := "readSigns", desc := "()V" } : Jvm.MethodName)) ∈ mm_tbl := mm_tt2 105 rfl rfl
theorem q_748 : (Jvm.Cond.code ({ cls := "LeafSweep$Tape", name := "readSigns", desc := "()V" } : Jvm.MethodName) prog_11_method_6_code (3 : Nat) (Option.none : Option Jvm.ClassFile.FieldType)) ∈ mm_tbl := mm_tt2 106 rfl rfl
theorem q_749 : (Jvm.Cond.methodLink "LeafSweep$Reader" (53 : Nat) ({ cls := "LeafSweep$Reader", name := "pageLine", desc := "()Z" } : Jvm.MethodName)) ∈ mm_tbl := mm_tt2 107 rfl rfl
theorem q_751 : (Jvm.Cond.instanceMethod ({ cls := "LeafSweep$Reader", name := "pageLine", desc := "()Z" } : Jvm.MethodName)) ∈ mm_tbl := mm_tt2 109 rfl rfl
theorem q_752 : (Jvm.Cond.code ({ cls := "LeafSweep$Reader", name := "pageLine", desc := "()Z" } : Jvm.MethodName) prog_8_method_10_code (1 : Nat) (Option.some Jvm.ClassFile.FieldType.boolean)) ∈ mm_tbl := mm_tt2 110 rfl rfl
theorem q_753 : (Jvm.Cond.methodLink "LeafSweep$Reader" (69 : Nat) ({ cls := "LeafSweep$Reader", name := "takeSingle", desc := "()Z" } : Jvm.MethodName)) ∈ mm_tbl := mm_tt2 111 rfl rfl
theorem q_755 : (Jvm.Cond.instanceMethod ({ cls := "LeafSweep$Reader", name := "takeSingle", desc := "()Z" } : Jvm.MethodName)) ∈ mm_tbl := mm_tt2 113 rfl rfl
theorem q_756 : (Jvm.Cond.code ({ cls := "LeafSweep$Reader", name := "takeSingle", desc := "()Z" } : Jvm.MethodName) prog_8_method_9_code (2 : Nat) (Option.some Jvm.ClassFile.FieldType.boolean)) ∈ mm_tbl := mm_tt2 114 rfl rfl
theorem q_757 : (Jvm.Cond.methodLink "LeafSweep$Reader" (83 : Nat) ({ cls := "LeafSweep$Reader", name := "wrong", desc := "(I)Z" } : Jvm.MethodName)) ∈ mm_tbl := mm_tt2 115 rfl rfl
theorem q_759 : (Jvm.Cond.instanceMethod ({ cls := "LeafSweep$Reader", name := "wrong", desc := "(I)Z" } : Jvm.MethodName)) ∈ mm_tbl := mm_tt2 117 rfl rfl
theorem q_760 : (Jvm.Cond.code ({ cls := "LeafSweep$Reader", name := "wrong", desc := "(I)Z" } : Jvm.MethodName) prog_8_method_4_code (2 : Nat) (Option.some Jvm.ClassFile.FieldType.boolean)) ∈ mm_tbl := mm_tt2 118 rfl rfl
theorem q_761 : (Jvm.Cond.methodLink "LeafSweep$Reader" (99 : Nat) ({ cls := "LeafSweep$Tape", name := "readOn", desc := "()V" } : Jvm.MethodName)) ∈ mm_tbl := mm_tt2 119 rfl rfl
theorem q_762 : (Jvm.Cond.methodLink "LeafSweep$Reader" (106 : Nat) ({ cls := "LeafSweep$Reader", name := "takeNumber", desc := "(II)Z" } : Jvm.MethodName)) ∈ mm_tbl := mm_tt2 120 rfl rfl
theorem q_764 : (Jvm.Cond.instanceMethod ({ cls := "LeafSweep$Reader", name := "takeNumber", desc := "(II)Z" } : Jvm.MethodName)) ∈ mm_tbl := mm_tt2 122 rfl rfl
theorem q_765 : (Jvm.Cond.code ({ cls := "LeafSweep$Reader", name := "takeNumber", desc := "(II)Z" } : Jvm.MethodName) prog_8_method_8_code (3 : Nat) (Option.some Jvm.ClassFile.FieldType.boolean)) ∈ mm_tbl := mm_tt2 123 rfl rfl
theorem q_766 : (Jvm.Cond.methodLink "LeafSweep$Reader" (112 : Nat) ({ cls := "LeafSweep$Reader", name := "takeMark", desc := "()Z" } : Jvm.MethodName)) ∈ mm_tbl := mm_tt2 124 rfl rfl
theorem q_768 : (Jvm.Cond.instanceMethod ({ cls := "LeafSweep$Reader", name := "takeMark", desc := "()Z" } : Jvm.MethodName)) ∈ mm_tbl := mm_tt2 126 rfl rfl
theorem q_769 : (Jvm.Cond.code ({ cls := "LeafSweep$Reader", name := "takeMark", desc := "()Z" } : Jvm.MethodName) prog_8_method_6_code (1 : Nat) (Option.some Jvm.ClassFile.FieldType.boolean)) ∈ mm_tbl := mm_tt2 127 rfl rfl
theorem q_770 : (Jvm.Cond.methodLink "LeafSweep$Reader" (57 : Nat) ({ cls := "LeafSweep$Reader", name := "batchLine", desc := "()Z" } : Jvm.MethodName)) ∈ mm_tbl := mm_tt2 128 rfl rfl
theorem q_772 : (Jvm.Cond.instanceMethod ({ cls := "LeafSweep$Reader", name := "batchLine", desc := "()Z" } : Jvm.MethodName)) ∈ mm_tbl := mm_tt2 130 rfl rfl
theorem q_773 : (Jvm.Cond.code ({ cls := "LeafSweep$Reader", name := "batchLine", desc := "()Z" } : Jvm.MethodName) prog_8_method_11_code (1 : Nat) (Option.some Jvm.ClassFile.FieldType.boolean)) ∈ mm_tbl := mm_tt2 131 rfl rfl
theorem q_774 : (Jvm.Cond.methodLink "LeafSweep$Reader" (60 : Nat) ({ cls := "LeafSweep$Reader", name := "indexLine", desc := "()Z" } : Jvm.MethodName)) ∈ mm_tbl := mm_tt2 132 rfl rfl
theorem q_776 : (Jvm.Cond.instanceMethod ({ cls := "LeafSweep$Reader", name := "indexLine", desc := "()Z" } : Jvm.MethodName)) ∈ mm_tbl := mm_tt2 134 rfl rfl
theorem q_777 : (Jvm.Cond.code ({ cls := "LeafSweep$Reader", name := "indexLine", desc := "()Z" } : Jvm.MethodName) prog_8_method_12_code (2 : Nat) (Option.some Jvm.ClassFile.FieldType.boolean)) ∈ mm_tbl := mm_tt2 135 rfl rfl
theorem q_778 : (Jvm.Cond.methodLink "LeafSweep$Reader" (124 : Nat) ({ cls := "LeafSweep$Tape", name := "isName", desc := "()Z" } : Jvm.MethodName)) ∈ mm_tbl := mm_tt2 136 rfl rfl
theorem q_779 : (Jvm.Cond.instanceMethod ({ cls := "LeafSweep$Tape", name := "isName", desc := "()Z" } : Jvm.MethodName)) ∈ mm_tbl := mm_tt2 137 rfl rfl
theorem q_780 : (Jvm.Cond.selects "LeafSweep$Tape" ({ cls := "LeafSweep$Tape", name := "isName", desc := "()Z" } : Jvm.MethodName) ({ cls := "LeafSweep$Tape", name := "isName", desc := "()Z" } : Jvm.MethodName)) ∈ mm_tbl := mm_tt2 138 rfl rfl
theorem q_781 : (Jvm.Cond.code ({ cls := "LeafSweep$Tape", name := "isName", desc := "()Z" } : Jvm.MethodName) prog_11_method_9_code (1 : Nat) (Option.some Jvm.ClassFile.FieldType.boolean)) ∈ mm_tbl := mm_tt2 139 rfl rfl
theorem q_782 : (Jvm.Cond.methodLink "LeafSweep$Reader" (131 : Nat) ({ cls := "LeafSweep$Plan", name := "named", desc := "(J)I" } : Jvm.MethodName)) ∈ mm_tbl := mm_tt2 140 rfl rfl
theorem q_783 : (Jvm.Cond.instanceMethod ({ cls := "LeafSweep$Plan", name := "named", desc := "(J)I" } : Jvm.MethodName)) ∈ mm_tbl := mm_tt2 141 rfl rfl
theorem q_784 : (Jvm.Cond.selects "LeafSweep$Plan" ({ cls := "LeafSweep$Plan", name := "named", desc := "(J)I" } : Jvm.MethodName) ({ cls := "LeafSweep$Plan", name := "named", desc := "(J)I" } : Jvm.MethodName)) ∈ mm_tbl := mm_tt2 142 rfl rfl
theorem q_785 : (Jvm.Cond.code ({ cls := "LeafSweep$Plan", name := "named", desc := "(J)I" } : Jvm.MethodName) prog_6_method_3_code (4 : Nat) (Option.some Jvm.ClassFile.FieldType.int)) ∈ mm_tbl := mm_tt2 143 rfl rfl
theorem q_786 : (Jvm.Cond.methodLink "LeafSweep$Reader" (139 : Nat) ({ cls := "LeafSweep$Reader", name := "takeOneOf", desc := "(II)Z" } : Jvm.MethodName)) ∈ mm_tbl := mm_tt2 144 rfl rfl
theorem q_788 : (Jvm.Cond.instanceMethod ({ cls := "LeafSweep$Reader", name := "takeOneOf", desc := "(II)Z" } : Jvm.MethodName)) ∈ mm_tbl := mm_tt2 146 rfl rfl
theorem q_789 : (Jvm.Cond.code ({ cls := "LeafSweep$Reader", name := "takeOneOf", desc := "(II)Z" } : Jvm.MethodName) prog_8_method_7_code (3 : Nat) (Option.some Jvm.ClassFile.FieldType.boolean)) ∈ mm_tbl := mm_tt2 147 rfl rfl
theorem q_790 : (Jvm.Cond.methodLink "LeafSweep$Reader" (102 : Nat) ({ cls := "LeafSweep$Tape", name := "isBetween", desc := "(II)Z" } : Jvm.MethodName)) ∈ mm_tbl := mm_tt2 148 rfl rfl
theorem q_791 : (Jvm.Cond.instanceMethod ({ cls := "LeafSweep$Tape", name := "isBetween", desc := "(II)Z" } : Jvm.MethodName)) ∈ mm_tbl := mm_tt2 149 rfl rfl
theorem q_792 : (Jvm.Cond.selects "LeafSweep$Tape" ({ cls := "LeafSweep$Tape", name := "isBetween", desc := "(II)Z" } : Jvm.MethodName) ({ cls := "LeafSweep$Tape", name := "isBetween", desc := "(II)Z" } : Jvm.MethodName)) ∈ mm_tbl := mm_tt2 150 rfl rfl
theorem q_793 : (Jvm.Cond.code ({ cls := "LeafSweep$Tape", name := "isBetween", desc := "(II)Z" } : Jvm.MethodName) prog_11_method_8_code (3 : Nat) (Option.some Jvm.ClassFile.FieldType.boolean)) ∈ mm_tbl := mm_tt2 151 rfl rfl
theorem q_794 : (Jvm.Cond.methodLink "LeafSweep$Reader" (146 : Nat) ({ cls := "LeafSweep$Reader", name := "takeWord", desc := "(I)Z" } : Jvm.MethodName)) ∈ mm_tbl := mm_tt2 152 rfl rfl
theorem q_796 : (Jvm.Cond.instanceMethod ({ cls := "LeafSweep$Reader", name := "takeWord", desc := "(I)Z" } : Jvm.MethodName)) ∈ mm_tbl := mm_tt2 154 rfl rfl
theorem q_797 : (Jvm.Cond.code ({ cls := "LeafSweep$Reader", name := "takeWord", desc := "(I)Z" } : Jvm.MethodName) prog_8_method_5_code (2 : Nat) (Option.some Jvm.ClassFile.FieldType.boolean)) ∈ mm_tbl := mm_tt2 155 rfl rfl
theorem q_798 : (Jvm.Cond.methodLink "LeafSweep$Reader" (96 : Nat) ({ cls := "LeafSweep$Tape", name := "isWord", desc := "(I)Z" } : Jvm.MethodName)) ∈ mm_tbl := mm_tt2 156 rfl rfl
theorem q_799 : (Jvm.Cond.instanceMethod ({ cls := "LeafSweep$Tape", name := "isWord", desc := "(I)Z" } : Jvm.MethodName)) ∈ mm_tbl := mm_tt2 157 rfl rfl
theorem q_800 : (Jvm.Cond.selects "LeafSweep$Tape" ({ cls := "LeafSweep$Tape", name := "isWord", desc := "(I)Z" } : Jvm.MethodName) ({ cls := "LeafSweep$Tape", name := "isWord", desc := "(I)Z" } : Jvm.MethodName)) ∈ mm_tbl := mm_tt2 158 rfl rfl
theorem q_801 : (Jvm.Cond.code ({ cls := "LeafSweep$Tape", name := "isWord", desc := "(I)Z" } : Jvm.MethodName) prog_11_method_7_code (2 : Nat) (Option.some Jvm.ClassFile.FieldType.boolean)) ∈ mm_tbl := mm_tt2 159 rfl rfl
theorem q_802 : (Jvm.Cond.methodLink "LeafSweep$Reader" (63 : Nat) ({ cls := "LeafSweep$Reader", name := "rowLine", desc := "()Z" } : Jvm.MethodName)) ∈ mm_tbl := mm_tt2 160 rfl rfl
theorem q_804 : (Jvm.Cond.instanceMethod ({ cls := "LeafSweep$Reader", name := "rowLine", desc := "()Z" } : Jvm.MethodName)) ∈ mm_tbl := mm_tt2 162 rfl rfl
theorem q_805 : (Jvm.Cond.code ({ cls := "LeafSweep$Reader", name := "rowLine", desc := "()Z" } : Jvm.MethodName) prog_8_method_13_code (2 : Nat) (Option.some Jvm.ClassFile.FieldType.boolean)) ∈ mm_tbl := mm_tt2 163 rfl rfl
theorem q_806 : (Jvm.Cond.methodLink "LeafSweep$Reader" (152 : Nat) ({ cls := "LeafSweep$Plan", name := "onceHas", desc := "(II)Z" } : Jvm.MethodName)) ∈ mm_tbl := mm_tt2 164 rfl rfl
theorem q_807 : (Jvm.Cond.instanceMethod ({ cls := "LeafSweep$Plan", name := "onceHas", desc := "(II)Z" } : Jvm.MethodName)) ∈ mm_tbl := mm_tt2 165 rfl rfl
theorem q_808 : (Jvm.Cond.selects "LeafSweep$Plan" ({ cls := "LeafSweep$Plan", name := "onceHas", desc := "(II)Z" } : Jvm.MethodName) ({ cls := "LeafSweep$Plan", name := "onceHas", desc := "(II)Z" } : Jvm.MethodName)) ∈ mm_tbl := mm_tt2 166 rfl rfl
theorem q_809 : (Jvm.Cond.code ({ cls := "LeafSweep$Plan", name := "onceHas", desc := "(II)Z" } : Jvm.MethodName) prog_6_method_5_code (4 : Nat) (Option.some Jvm.ClassFile.FieldType.boolean)) ∈ mm_tbl := mm_tt2 167 rfl rfl
theorem q_810 : (Jvm.Cond.methodLink "LeafSweep$Plan" (60 : Nat) ({ cls := "LeafSweep$Plan", name := "has", desc := "(II)Z" } : Jvm.MethodName)) ∈ mm_tbl := mm_tt2 168 rfl rfl
theorem q_811 : (Jvm.Cond.instanceMethod ({ cls := "LeafSweep$Plan", name := "has", desc := "(II)Z" } : Jvm.MethodName)) ∈ mm_tbl := mm_tt2 169 rfl rfl
theorem q_812 : (Jvm.Cond.selects "LeafSweep$Plan" ({ cls := "LeafSweep$Plan", name := "has", desc := "(II)Z" } : Jvm.MethodName) ({ cls := "LeafSweep$Plan", name := "has", desc := "(II)Z" } : Jvm.MethodName)) ∈ mm_tbl := mm_tt2 170 rfl rfl
theorem q_813 : (Jvm.Cond.code ({ cls := "LeafSweep$Plan", name := "has", desc := "(II)Z" } : Jvm.MethodName) prog_6_method_4_code (4 : Nat) (Option.some Jvm.ClassFile.FieldType.boolean)) ∈ mm_tbl := mm_tt2 171 rfl rfl
theorem q_814 : (Jvm.Cond.methodLink "LeafSweep$Reader" (66 : Nat) ({ cls := "LeafSweep$Reader", name := "pointLine", desc := "()Z" } : Jvm.MethodName)) ∈ mm_tbl := mm_tt2 172 rfl rfl
theorem q_816 : (Jvm.Cond.instanceMethod ({ cls := "LeafSweep$Reader", name := "pointLine", desc := "()Z" } : Jvm.MethodName)) ∈ mm_tbl := mm_tt2 174 rfl rfl
theorem q_817 : (Jvm.Cond.code ({ cls := "LeafSweep$Reader", name := "pointLine", desc := "()Z" } : Jvm.MethodName) prog_8_method_14_code (2 : Nat) (Option.some Jvm.ClassFile.FieldType.boolean)) ∈ mm_tbl := mm_tt2 175 rfl rfl
theorem q_818 : (Jvm.Cond.methodLink "LeafSweep$Reader" (163 : Nat) ({ cls := "LeafSweep$Plan", name := "has", desc := "(II)Z" } : Jvm.MethodName)) ∈ mm_tbl := mm_tt2 176 rfl rfl
theorem q_819 : (Jvm.Cond.methodLink "LeafSweep$Reader" (76 : Nat) ({ cls := "LeafSweep$Reader", name := "whereLine", desc := "(LLeafSweep$Where;Z)Z" } : Jvm.MethodName)) ∈ mm_tbl := mm_tt2 177 rfl rfl
theorem q_821 : (Jvm.Cond.instanceMethod ({ cls := "LeafSweep$Reader", name := "whereLine", desc := "(LLeafSweep$Where;Z)Z" } : Jvm.MethodName)) ∈ mm_tbl := mm_tt2 179 rfl rfl
theorem q_822 : (Jvm.Cond.code ({ cls := "LeafSweep$Reader", name := "whereLine", desc := "(LLeafSweep$Where;Z)Z" } : Jvm.MethodName) prog_8_method_15_code (7 : Nat) (Option.some Jvm.ClassFile.FieldType.boolean)) ∈ mm_tbl := mm_tt2 180 rfl rfl
theorem q_823 : (Jvm.Cond.methodLink "LeafSweep$Reader" (169 : Nat) ({ cls := "LeafSweep$Reader", name := "openLimit", desc := "(LLeafSweep$Where;ZZ)Z" } : Jvm.MethodName)) ∈ mm_tbl := mm_tt2 181 rfl rfl
theorem q_825 : (Jvm.Cond.instanceMethod ({ cls := "LeafSweep$Reader", name := "openLimit", desc := "(LLeafSweep$Where;ZZ)Z" } : Jvm.MethodName)) ∈ mm_tbl := mm_tt2 183 rfl rfl
theorem q_826 : (Jvm.Cond.code ({ cls := "LeafSweep$Reader", name := "openLimit", desc := "(LLeafSweep$Where;ZZ)Z" } : Jvm.MethodName) prog_8_method_17_code (6 : Nat) (Option.some Jvm.ClassFile.FieldType.boolean)) ∈ mm_tbl := mm_tt2 184 rfl rfl
theorem q_827 : (Jvm.Cond.methodLink "LeafSweep$Reader" (185 : Nat) ({ cls := "LeafSweep$Reader", name := "startsLimit", desc := "(Z)Z" } : Jvm.MethodName)) ∈ mm_tbl := mm_tt2 185 rfl rfl
theorem q_829 : (Jvm.Cond.instanceMethod ({ cls := "LeafSweep$Reader", name := "startsLimit", desc := "(Z)Z" } : Jvm.MethodName)) ∈ mm_tbl := mm_tt2 187 rfl rfl
theorem q_830 : (Jvm.Cond.code ({ cls := "LeafSweep$Reader", name := "startsLimit", desc := "(Z)Z" } : Jvm.MethodName) prog_8_method_16_code (2 : Nat) (Option.some Jvm.ClassFile.FieldType.boolean)) ∈ mm_tbl := mm_tt2 188 rfl rfl
theorem q_831 : (Jvm.Cond.methodLink "LeafSweep$Reader" (178 : Nat) ({ cls := "LeafSweep$Reader", name := "columnLimit", desc := "(LLeafSweep$Where;I)Z" } : Jvm.MethodName)) ∈ mm_tbl := mm_tt2 189 rfl rfl
theorem q_833 : (Jvm.Cond.instanceMethod ({ cls := "LeafSweep$Reader", name := "columnLimit", desc := "(LLeafSweep$Where;I)Z" } : Jvm.MethodName)) ∈ mm_tbl := mm_tt2 191 rfl rfl
theorem q_834 : (Jvm.Cond.code ({ cls := "LeafSweep$Reader", name := "columnLimit", desc := "(LLeafSweep$Where;I)Z" } : Jvm.MethodName) prog_8_method_19_code (4 : Nat) (Option.some Jvm.ClassFile.FieldType.boolean)) ∈ mm_tbl := mm_tt2 192 rfl rfl
theorem q_835 : (Jvm.Cond.methodLink "LeafSweep$Reader" (201 : Nat) ({ cls := "LeafSweep$Where", name := "keepColumn", desc := "(II)Z" } : Jvm.MethodName)) ∈ mm_tbl := mm_tt2 193 rfl rfl
theorem q_836 : (Jvm.Cond.instanceMethod ({ cls := "LeafSweep$Where", name := "keepColumn", desc := "(II)Z" } : Jvm.MethodName)) ∈ mm_tbl := mm_tt2 194 rfl rfl
theorem q_837 : (Jvm.Cond.selects "LeafSweep$Where" ({ cls := "LeafSweep$Where", name := "keepColumn", desc := "(II)Z" } : Jvm.MethodName) ({ cls := "LeafSweep$Where", name := "keepColumn", desc := "(II)Z" } : Jvm.MethodName)) ∈ mm_tbl := mm_tt2 195 rfl rfl
theorem q_838 : (Jvm.Cond.code ({ cls := "LeafSweep$Where", name := "keepColumn", desc := "(II)Z" } : Jvm.MethodName) prog_12_method_2_code (3 : Nat) (Option.some Jvm.ClassFile.FieldType.boolean)) ∈ mm_tbl := mm_tt2 196 rfl rfl
theorem q_839 : (Jvm.Cond.methodLink "LeafSweep$Reader" (197 : Nat) ({ cls := "LeafSweep$Where", name := "keepBounds", desc := "(III)Z" } : Jvm.MethodName)) ∈ mm_tbl := mm_tt2 197 rfl rfl
theorem q_840 : (Jvm.Cond.instanceMethod ({ cls := "LeafSweep$Where", name := "keepBounds", desc := "(III)Z" } : Jvm.MethodName)) ∈ mm_tbl := mm_tt2 198 rfl rfl
theorem q_841 : (Jvm.Cond.selects "LeafSweep$Where" ({ cls := "LeafSweep$Where", name := "keepBounds", desc := "(III)Z" } : Jvm.MethodName) ({ cls := "LeafSweep$Where", name := "keepBounds", desc := "(III)Z" } : Jvm.MethodName)) ∈ mm_tbl := mm_tt2 199 rfl rfl
theorem q_842 : (Jvm.Cond.code ({ cls := "LeafSweep$Where", name := "keepBounds", desc := "(III)Z" } : Jvm.MethodName) prog_12_method_3_code (4 : Nat) (Option.some Jvm.ClassFile.FieldType.boolean)) ∈ mm_tbl := mm_tt2 200 rfl rfl
theorem q_843 : (Jvm.Cond.methodLink "LeafSweep$Reader" (182 : Nat) ({ cls := "LeafSweep$Reader", name := "otherLimit", desc := "(LLeafSweep$Where;I)Z" } : Jvm.MethodName)) ∈ mm_tbl := mm_tt2 201 rfl rfl
theorem q_845 : (Jvm.Cond.instanceMethod ({ cls := "LeafSweep$Reader", name := "otherLimit", desc := "(LLeafSweep$Where;I)Z" } : Jvm.MethodName)) ∈ mm_tbl := mm_tt2 203 rfl rfl
theorem q_846 : (Jvm.Cond.code ({ cls := "LeafSweep$Reader", name := "otherLimit", desc := "(LLeafSweep$Where;I)Z" } : Jvm.MethodName) prog_8_method_18_code (4 : Nat) (Option.some Jvm.ClassFile.FieldType.boolean)) ∈ mm_tbl := mm_tt2 204 rfl rfl
theorem q_847 : (Jvm.Cond.methodLink "LeafSweep" (98 : Nat) ({ cls := "LeafSweep$State", name := "startFrom", desc := "(LLeafSweep$Plan;)V" } : Jvm.MethodName)) ∈ mm_tbl := mm_tt2 205 rfl rfl
theorem q_848 : (Jvm.Cond.instanceMethod ({ cls := "LeafSweep$State", name := "startFrom", desc := "(LLeafSweep$Plan;)V" } : Jvm.MethodName)) ∈ mm_tbl := mm_tt2 206 rfl rfl
theorem q_849 : (Jvm.Cond.selects "LeafSweep$State" ({ cls := "LeafSweep$State", name := "startFrom", desc := "(LLeafSweep$Plan;)V" } : Jvm.MethodName) ({ cls := "LeafSweep$State", name := "startFrom", desc := "(LLeafSweep$Plan;)V" } : Jvm.MethodName)) ∈ mm_tbl := mm_tt2 207 rfl rfl
theorem q_850 : (Jvm.Cond.code ({ cls := "LeafSweep$State", name := "startFrom", desc := "(LLeafSweep$Plan;)V" } : Jvm.MethodName) prog_10_method_4_code (3 : Nat) (Option.none : Option Jvm.ClassFile.FieldType)) ∈ mm_tbl := mm_tt2 208 rfl rfl
theorem q_851 : (Jvm.Cond.methodLink "LeafSweep$State" (80 : Nat) ({ cls := "LeafSweep$Rows", name := "clear", desc := "()V" } : Jvm.MethodName)) ∈ mm_tbl := mm_tt2 209 rfl rfl
theorem q_852 : (Jvm.Cond.instanceMethod ({ cls := "LeafSweep$Rows", name := "clear", desc := "()V" } : Jvm.MethodName)) ∈ mm_tbl := mm_tt2 210 rfl rfl
theorem q_853 : (Jvm.Cond.selects "LeafSweep$Rows" ({ cls := "LeafSweep$Rows", name := "clear", desc := "()V" } : Jvm.MethodName) ({ cls := "LeafSweep$Rows", name := "clear", desc := "()V" } : Jvm.MethodName)) ∈ mm_tbl := mm_tt2 211 rfl rfl
theorem q_854 : (Jvm.Cond.code ({ cls := "LeafSweep$Rows", name := "clear", desc := "()V" } : Jvm.MethodName) prog_9_method_2_code (1 : Nat) (Option.none : Option Jvm.ClassFile.FieldType)) ∈ mm_tbl := mm_tt2 212 rfl rfl
theorem q_855 : (Jvm.Cond.methodLink "LeafSweep$State" (86 : Nat) ({ cls := "LeafSweep$Job", name := "clear", desc := "()V" } : Jvm.MethodName)) ∈ mm_tbl := mm_tt2 213 rfl rfl
theorem q_856 : (Jvm.Cond.instanceMethod ({ cls := "LeafSweep$Job", name := "clear", desc := "()V" } : Jvm.MethodName)) ∈ mm_tbl := mm_tt2 214 rfl rfl
theorem q_857 : (Jvm.Cond.selects "LeafSweep$Job" ({ cls := "LeafSweep$Job", name := "clear", desc := "()V" } : Jvm.MethodName) ({ cls := "LeafSweep$Job", name := "clear", desc := "()V" } : Jvm.MethodName)) ∈ mm_tbl := mm_tt2 215 rfl rfl
theorem q_858 : (Jvm.Cond.code ({ cls := "LeafSweep$Job", name := "clear", desc := "()V" } : Jvm.MethodName) prog_3_method_2_code (1 : Nat) (Option.none : Option Jvm.ClassFile.FieldType)) ∈ mm_tbl := mm_tt2 216 rfl rfl
theorem q_859 : (Jvm.Cond.methodLink "LeafSweep$State" (93 : Nat) ({ cls := "LeafSweep$Leaves", name := "clear", desc := "(IZ)V" } : Jvm.MethodName)) ∈ mm_tbl := mm_tt2 217 rfl rfl
theorem q_860 : (Jvm.Cond.instanceMethod ({ cls := "LeafSweep$Leaves", name := "clear", desc := "(IZ)V" } : Jvm.MethodName)) ∈ mm_tbl := mm_tt2 218 rfl rfl
theorem q_861 : (Jvm.Cond.selects "LeafSweep$Leaves" ({ cls := "LeafSweep$Leaves", name := "clear", desc := "(IZ)V" } : Jvm.MethodName) ({ cls := "LeafSweep$Leaves", name := "clear", desc := "(IZ)V" } : Jvm.MethodName)) ∈ mm_tbl := mm_tt2 219 rfl rfl
theorem q_862 : (Jvm.Cond.code ({ cls := "LeafSweep$Leaves", name := "clear", desc := "(IZ)V" } : Jvm.MethodName) prog_4_method_2_code (3 : Nat) (Option.none : Option Jvm.ClassFile.FieldType)) ∈ mm_tbl := mm_tt2 220 rfl rfl
theorem q_863 : (Jvm.Cond.methodLink "LeafSweep$State" (101 : Nat) ({ cls := "LeafSweep$State", name := "seat", desc := "(III)V" } : Jvm.MethodName)) ∈ mm_tbl := mm_tt2 221 rfl rfl
theorem q_865 : (Jvm.Cond.instanceMethod ({ cls := "LeafSweep$State", name := "seat", desc := "(III)V" } : Jvm.MethodName)) ∈ mm_tbl := mm_tt2 223 rfl rfl
theorem q_866 : (Jvm.Cond.code ({ cls := "LeafSweep$State", name := "seat", desc := "(III)V" } : Jvm.MethodName) prog_10_method_5_code (6 : Nat) (Option.none : Option Jvm.ClassFile.FieldType)) ∈ mm_tbl := mm_tt2 224 rfl rfl
theorem q_867 : (Jvm.Cond.methodLink "LeafSweep$State" (117 : Nat) ({ cls := "LeafSweep$Rows", name := "add", desc := "(III)I" } : Jvm.MethodName)) ∈ mm_tbl := mm_tt2 225 rfl rfl
theorem q_868 : (Jvm.Cond.instanceMethod ({ cls := "LeafSweep$Rows", name := "add", desc := "(III)I" } : Jvm.MethodName)) ∈ mm_tbl := mm_tt2 226 rfl rfl
theorem q_869 : (Jvm.Cond.selects "LeafSweep$Rows" ({ cls := "LeafSweep$Rows", name := "add", desc := "(III)I" } : Jvm.MethodName) ({ cls := "LeafSweep$Rows", name := "add", desc := "(III)I" } : Jvm.MethodName)) ∈ mm_tbl := mm_tt2 227 rfl rfl
theorem q_870 : (Jvm.Cond.code ({ cls := "LeafSweep$Rows", name := "add", desc := "(III)I" } : Jvm.MethodName) prog_9_method_10_code (5 : Nat) (Option.some Jvm.ClassFile.FieldType.int)) ∈ mm_tbl := mm_tt2 228 rfl rfl
theorem q_871 : (Jvm.Cond.methodLink "LeafSweep$Rows" (39 : Nat) ({ cls := "LeafSweep$Rows", name := "setValue", desc := "(III)V" } : Jvm.MethodName)) ∈ mm_tbl := mm_tt2 229 rfl rfl
theorem q_872 : (Jvm.Cond.instanceMethod ({ cls := "LeafSweep$Rows", name := "setValue", desc := "(III)V" } : Jvm.MethodName)) ∈ mm_tbl := mm_tt2 230 rfl rfl
theorem q_873 : (Jvm.Cond.selects "LeafSweep$Rows" ({ cls := "LeafSweep$Rows", name := "setValue", desc := "(III)V" } : Jvm.MethodName) ({ cls := "LeafSweep$Rows", name := "setValue", desc := "(III)V" } : Jvm.MethodName)) ∈ mm_tbl := mm_tt2 231 rfl rfl
theorem q_874 : (Jvm.Cond.code ({ cls := "LeafSweep$Rows", name := "setValue", desc := "(III)V" } : Jvm.MethodName) prog_9_method_8_code (4 : Nat) (Option.none : Option Jvm.ClassFile.FieldType)) ∈ mm_tbl := mm_tt2 232 rfl rfl
theorem q_875 : (Jvm.Cond.methodLink "LeafSweep$Rows" (31 : Nat) ({ cls := "LeafSweep$Rows", name := "hasCome", desc := "(I)Z" } : Jvm.MethodName)) ∈ mm_tbl := mm_tt2 233 rfl rfl
theorem q_876 : (Jvm.Cond.instanceMethod ({ cls := "LeafSweep$Rows", name := "hasCome", desc := "(I)Z" } : Jvm.MethodName)) ∈ mm_tbl := mm_tt2 234 rfl rfl
theorem q_877 : (Jvm.Cond.selects "LeafSweep$Rows" ({ cls := "LeafSweep$Rows", name := "hasCome", desc := "(I)Z" } : Jvm.MethodName) ({ cls := "LeafSweep$Rows", name := "hasCome", desc := "(I)Z" } : Jvm.MethodName)) ∈ mm_tbl := mm_tt2 235 rfl rfl
theorem q_878 : (Jvm.Cond.code ({ cls := "LeafSweep$Rows", name := "hasCome", desc := "(I)Z" } : Jvm.MethodName) prog_9_method_4_code (2 : Nat) (Option.some Jvm.ClassFile.FieldType.boolean)) ∈ mm_tbl := mm_tt2 236 rfl rfl
theorem q_879 : (Jvm.Cond.methodLink "LeafSweep$State" (124 : Nat) ({ cls := "LeafSweep$Where", name := "holds", desc := "(LLeafSweep$State;I)Z" } : Jvm.MethodName)) ∈ mm_tbl := mm_tt2 237 rfl rfl
theorem q_880 : (Jvm.Cond.instanceMethod ({ cls := "LeafSweep$Where", name := "holds", desc := "(LLeafSweep$State;I)Z" } : Jvm.MethodName)) ∈ mm_tbl := mm_tt2 238 rfl rfl
theorem q_881 : (Jvm.Cond.selects "LeafSweep$Where" ({ cls := "LeafSweep$Where", name := "holds", desc := "(LLeafSweep$State;I)Z" } : Jvm.MethodName) ({ cls := "LeafSweep$Where", name := "holds", desc := "(LLeafSweep$State;I)Z" } : Jvm.MethodName)) ∈ mm_tbl := mm_tt2 239 rfl rfl
theorem q_882 : (Jvm.Cond.code ({ cls := "LeafSweep$Where", name := "holds", desc := "(LLeafSweep$State;I)Z" } : Jvm.MethodName) prog_12_method_4_code (5 : Nat) (Option.some Jvm.ClassFile.FieldType.boolean)) ∈ mm_tbl := mm_tt3 0 rfl rfl
theorem q_883 : (Jvm.Cond.methodLink "LeafSweep$Where" (35 : Nat) ({ cls := "LeafSweep$Where", name := "isSo", desc := "(ILLeafSweep$State;I)Z" } : Jvm.MethodName)) ∈ mm_tbl := mm_tt3 1 rfl rfl
theorem q_885 : (Jvm.Cond.instanceMethod ({ cls := "LeafSweep$Where", name := "isSo", desc := "(ILLeafSweep$State;I)Z" } : Jvm.MethodName)) ∈ mm_tbl := mm_tt3 3 rfl rfl
theorem q_886 : (Jvm.Cond.code ({ cls := "LeafSweep$Where", name := "isSo", desc := "(ILLeafSweep$State;I)Z" } : Jvm.MethodName) prog_12_method_5_code (5 : Nat) (Option.some Jvm.ClassFile.FieldType.boolean)) ∈ mm_tbl := mm_tt3 4 rfl rfl
theorem q_887 : (Jvm.Cond.methodLink "LeafSweep$Where" (45 : Nat) ({ cls := "LeafSweep$Rows", name := "valueOf", desc := "(II)I" } : Jvm.MethodName)) ∈ mm_tbl := mm_tt3 5 rfl rfl
theorem q_888 : (Jvm.Cond.instanceMethod ({ cls := "LeafSweep$Rows", name := "valueOf", desc := "(II)I" } : Jvm.MethodName)) ∈ mm_tbl := mm_tt3 6 rfl rfl
theorem q_889 : (Jvm.Cond.selects "LeafSweep$Rows" ({ cls := "LeafSweep$Rows", name := "valueOf", desc := "(II)I" } : Jvm.MethodName) ({ cls := "LeafSweep$Rows", name := "valueOf", desc := "(II)I" } : Jvm.MethodName)) ∈ mm_tbl := mm_tt3 7 rfl rfl
theorem q_890 : (Jvm.Cond.code ({ cls := "LeafSweep$Rows", name := "valueOf", desc := "(II)I" } : Jvm.MethodName) prog_9_method_7_code (3 : Nat) (Option.some Jvm.ClassFile.FieldType.int)) ∈ mm_tbl := mm_tt3 8 rfl rfl
theorem q_891 : (Jvm.Cond.methodLink "LeafSweep$Where" (51 : Nat) ({ cls := "LeafSweep$Rows", name := "having", desc := "(II)I" } : Jvm.MethodName)) ∈ mm_tbl := mm_tt3 9 rfl rfl
theorem q_892 : (Jvm.Cond.instanceMethod ({ cls := "LeafSweep$Rows", name := "having", desc := "(II)I" } : Jvm.MethodName)) ∈ mm_tbl := mm_tt3 10 rfl rfl
theorem q_893 : (Jvm.Cond.selects "LeafSweep$Rows" ({ cls := "LeafSweep$Rows", name := "having", desc := "(II)I" } : Jvm.MethodName) ({ cls := "LeafSweep$Rows", name := "having", desc := "(II)I" } : Jvm.MethodName)) ∈ mm_tbl := mm_tt3 11 rfl rfl
theorem q_894 : (Jvm.Cond.code ({ cls := "LeafSweep$Rows", name := "having", desc := "(II)I" } : Jvm.MethodName) prog_9_method_9_code (5 : Nat) (Option.some Jvm.ClassFile.FieldType.int)) ∈ mm_tbl := mm_tt3 12 rfl rfl
theorem q_895 : (Jvm.Cond.methodLink "LeafSweep$Where" (58 : Nat) ({ cls := "LeafSweep$Points", name := "anyAt", desc := "(I)Z" } : Jvm.MethodName)) ∈ mm_tbl := mm_tt3 13 rfl rfl
theorem q_896 : (Jvm.Cond.instanceMethod ({ cls := "LeafSweep$Points", name := "anyAt", desc := "(I)Z" } : Jvm.MethodName)) ∈ mm_tbl := mm_tt3 14 rfl rfl
theorem q_897 : (Jvm.Cond.selects "LeafSweep$Points" ({ cls := "LeafSweep$Points", name := "anyAt", desc := "(I)Z" } : Jvm.MethodName) ({ cls := "LeafSweep$Points", name := "anyAt", desc := "(I)Z" } : Jvm.MethodName)) ∈ mm_tbl := mm_tt3 15 rfl rfl
theorem q_898 : (Jvm.Cond.code ({ cls := "LeafSweep$Points", name := "anyAt", desc := "(I)Z" } : Jvm.MethodName) prog_7_method_6_code (3 : Nat) (Option.some Jvm.ClassFile.FieldType.boolean)) ∈ mm_tbl := mm_tt3 16 rfl rfl
theorem q_899 : (Jvm.Cond.methodLink "LeafSweep$State" (130 : Nat) ({ cls := "LeafSweep$State", name := "entriesOf", desc := "(IZ[I)V" } : Jvm.MethodName)) ∈ mm_tbl := mm_tt3 17 rfl rfl
theorem q_901 : (Jvm.Cond.instanceMethod ({ cls := "LeafSweep$State", name := "entriesOf", desc := "(IZ[I)V" } : Jvm.MethodName)) ∈ mm_tbl := mm_tt3 19 rfl rfl
theorem q_902 : (Jvm.Cond.code ({ cls := "LeafSweep$State", name := "entriesOf", desc := "(IZ[I)V" } : Jvm.MethodName) prog_10_method_28_code (5 : Nat) (Option.none : Option Jvm.ClassFile.FieldType)) ∈ mm_tbl := mm_tt3 20 rfl rfl
theorem q_903 : (Jvm.Cond.methodLink "LeafSweep$State" (238 : Nat) ({ cls := "LeafSweep$State", name := "noEntries", desc := "([I)V" } : Jvm.MethodName)) ∈ mm_tbl := mm_tt3 21 rfl rfl
theorem q_905 : (Jvm.Cond.instanceMethod ({ cls := "LeafSweep$State", name := "noEntries", desc := "([I)V" } : Jvm.MethodName)) ∈ mm_tbl := mm_tt3 23 rfl rfl
theorem q_906 : (Jvm.Cond.code ({ cls := "LeafSweep$State", name := "noEntries", desc := "([I)V" } : Jvm.MethodName) prog_10_method_27_code (3 : Nat) (Option.none : Option Jvm.ClassFile.FieldType)) ∈ mm_tbl := mm_tt3 24 rfl rfl
theorem q_907 : (Jvm.Cond.methodLink "LeafSweep$State" (147 : Nat) ({ cls := "LeafSweep$Rows", name := "valueOf", desc := "(II)I" } : Jvm.MethodName)) ∈ mm_tbl := mm_tt3 25 rfl rfl
theorem q_908 : (Jvm.Cond.methodLink "LeafSweep$State" (137 : Nat) ({ cls := "LeafSweep$Leaves", name := "code", desc := "(II)I" } : Jvm.MethodName)) ∈ mm_tbl := mm_tt3 26 rfl rfl
theorem q_909 : (Jvm.Cond.instanceMethod ({ cls := "LeafSweep$Leaves", name := "code", desc := "(II)I" } : Jvm.MethodName)) ∈ mm_tbl := mm_tt3 27 rfl rfl
theorem q_910 : (Jvm.Cond.selects "LeafSweep$Leaves" ({ cls := "LeafSweep$Leaves", name := "code", desc := "(II)I" } : Jvm.MethodName) ({ cls := "LeafSweep$Leaves", name := "code", desc := "(II)I" } : Jvm.MethodName)) ∈ mm_tbl := mm_tt3 28 rfl rfl
theorem q_911 : (Jvm.Cond.code ({ cls := "LeafSweep$Leaves", name := "code", desc := "(II)I" } : Jvm.MethodName) prog_4_method_4_code (3 : Nat) (Option.some Jvm.ClassFile.FieldType.int)) ∈ mm_tbl := mm_tt3 29 rfl rfl
theorem q_912 : (Jvm.Cond.methodLink "LeafSweep$State" (140 : Nat) ({ cls := "LeafSweep$Leaves", name := "put", desc := "(I)V" } : Jvm.MethodName)) ∈ mm_tbl := mm_tt3 30 rfl rfl
theorem q_913 : (Jvm.Cond.instanceMethod ({ cls := "LeafSweep$Leaves", name := "put", desc := "(I)V" } : Jvm.MethodName)) ∈ mm_tbl := mm_tt3 31 rfl rfl
theorem q_914 : (Jvm.Cond.selects "LeafSweep$Leaves" ({ cls := "LeafSweep$Leaves", name := "put", desc := "(I)V" } : Jvm.MethodName) ({ cls := "LeafSweep$Leaves", name := "put", desc := "(I)V" } : Jvm.MethodName)) ∈ mm_tbl := mm_tt3 32 rfl rfl
theorem q_915 : (Jvm.Cond.code ({ cls := "LeafSweep$Leaves", name := "put", desc := "(I)V" } : Jvm.MethodName) prog_4_method_13_code (5 : Nat) (Option.none : Option Jvm.ClassFile.FieldType)) ∈ mm_tbl := mm_tt3 33 rfl rfl
theorem q_916 : (Jvm.Cond.methodLink "LeafSweep$Leaves" (42 : Nat) ({ cls := "LeafSweep$Leaves", name := "leafFor", desc := "(I)I" } : Jvm.MethodName)) ∈ mm_tbl := mm_tt3 34 rfl rfl
theorem q_918 : (Jvm.Cond.instanceMethod ({ cls := "LeafSweep$Leaves", name := "leafFor", desc := "(I)I" } : Jvm.MethodName)) ∈ mm_tbl := mm_tt3 36 rfl rfl
theorem q_919 : (Jvm.Cond.code ({ cls := "LeafSweep$Leaves", name := "leafFor", desc := "(I)I" } : Jvm.MethodName) prog_4_method_11_code (5 : Nat) (Option.some Jvm.ClassFile.FieldType.int)) ∈ mm_tbl := mm_tt3 37 rfl rfl
theorem q_920 : (Jvm.Cond.methodLink "LeafSweep$Leaves" (38 : Nat) ({ cls := "LeafSweep$Leaves", name := "placeOf", desc := "(I)I" } : Jvm.MethodName)) ∈ mm_tbl := mm_tt3 38 rfl rfl
theorem q_922 : (Jvm.Cond.instanceMethod ({ cls := "LeafSweep$Leaves", name := "placeOf", desc := "(I)I" } : Jvm.MethodName)) ∈ mm_tbl := mm_tt3 40 rfl rfl
theorem q_923 : (Jvm.Cond.code ({ cls := "LeafSweep$Leaves", name := "placeOf", desc := "(I)I" } : Jvm.MethodName) prog_4_method_10_code (3 : Nat) (Option.some Jvm.ClassFile.FieldType.int)) ∈ mm_tbl := mm_tt3 41 rfl rfl
theorem q_924 : (Jvm.Cond.methodLink "LeafSweep$Leaves" (45 : Nat) ({ cls := "LeafSweep$Leaves", name := "cut", desc := "(I)V" } : Jvm.MethodName)) ∈ mm_tbl := mm_tt3 42 rfl rfl
theorem q_926 : (Jvm.Cond.instanceMethod ({ cls := "LeafSweep$Leaves", name := "cut", desc := "(I)V" } : Jvm.MethodName)) ∈ mm_tbl := mm_tt3 44 rfl rfl
theorem q_927 : (Jvm.Cond.code ({ cls := "LeafSweep$Leaves", name := "cut", desc := "(I)V" } : Jvm.MethodName) prog_4_method_14_code (4 : Nat) (Option.none : Option Jvm.ClassFile.FieldType)) ∈ mm_tbl := mm_tt3 45 rfl rfl
theorem q_928 : (Jvm.Cond.methodLink "LeafSweep$State" (113 : Nat) ({ cls := "LeafSweep$Points", name := "add", desc := "(II)I" } : Jvm.MethodName)) ∈ mm_tbl := mm_tt3 46 rfl rfl
theorem q_929 : (Jvm.Cond.instanceMethod ({ cls := "LeafSweep$Points", name := "add", desc := "(II)I" } : Jvm.MethodName)) ∈ mm_tbl := mm_tt3 47 rfl rfl
theorem q_930 : (Jvm.Cond.selects "LeafSweep$Points" ({ cls := "LeafSweep$Points", name := "add", desc := "(II)I" } : Jvm.MethodName) ({ cls := "LeafSweep$Points", name := "add", desc := "(II)I" } : Jvm.MethodName)) ∈ mm_tbl := mm_tt3 48 rfl rfl
theorem q_931 : (Jvm.Cond.code ({ cls := "LeafSweep$Points", name := "add", desc := "(II)I" } : Jvm.MethodName) prog_7_method_4_code (4 : Nat) (Option.some Jvm.ClassFile.FieldType.int)) ∈ mm_tbl := mm_tt3 49 rfl rfl
theorem q_933 : (Jvm.Cond.instanceMethod ({ cls := "LeafSweep", name := "work", desc := "()I" } : Jvm.MethodName)) ∈ mm_tbl := mm_tt3 51 rfl rfl
theorem q_934 : (Jvm.Cond.selects "LeafSweep" ({ cls := "LeafSweep", name := "work", desc := "()I" } : Jvm.MethodName) ({ cls := "LeafSweep", name := "work", desc := "()I" } : Jvm.MethodName)) ∈ mm_tbl := mm_tt3 52 rfl rfl
theorem q_935 : (Jvm.Cond.code ({ cls := "LeafSweep", name := "work", desc := "()I" } : Jvm.MethodName) prog_1_method_4_code (3 : Nat) (Option.some Jvm.ClassFile.FieldType.int)) ∈ mm_tbl := mm_tt3 53 rfl rfl
theorem q_936 : (Jvm.Cond.methodLink "LeafSweep" (104 : Nat) ({ cls := "LeafSweep$Reader", name := "readLines", desc := "(LLeafSweep$Plan;LLeafSweep$Lines;)I" } : Jvm.MethodName)) ∈ mm_tbl := mm_tt3 54 rfl rfl
theorem q_937 : (Jvm.Cond.instanceMethod ({ cls := "LeafSweep$Reader", name := "readLines", desc := "(LLeafSweep$Plan;LLeafSweep$Lines;)I" } : Jvm.MethodName)) ∈ mm_tbl := mm_tt3 55 rfl rfl
theorem q_938 : (Jvm.Cond.selects "LeafSweep$Reader" ({ cls := "LeafSweep$Reader", name := "readLines", desc := "(LLeafSweep$Plan;LLeafSweep$Lines;)I" } : Jvm.MethodName) ({ cls := "LeafSweep$Reader", name := "readLines", desc := "(LLeafSweep$Plan;LLeafSweep$Lines;)I" } : Jvm.MethodName)) ∈ mm_tbl := mm_tt3 56 rfl rfl
theorem q_939 : (Jvm.Cond.code ({ cls := "LeafSweep$Reader", name := "readLines", desc := "(LLeafSweep$Plan;LLeafSweep$Lines;)I" } : Jvm.MethodName) prog_8_method_3_code (4 : Nat) (Option.some Jvm.ClassFile.FieldType.int)) ∈ mm_tbl := mm_tt3 57 rfl rfl
theorem q_940 : (Jvm.Cond.methodLink "LeafSweep$Reader" (90 : Nat) ({ cls := "LeafSweep$Reader", name := "workLine", desc := "()Z" } : Jvm.MethodName)) ∈ mm_tbl := mm_tt3 58 rfl rfl
theorem q_942 : (Jvm.Cond.instanceMethod ({ cls := "LeafSweep$Reader", name := "workLine", desc := "()Z" } : Jvm.MethodName)) ∈ mm_tbl := mm_tt3 60 rfl rfl
theorem q_943 : (Jvm.Cond.code ({ cls := "LeafSweep$Reader", name := "workLine", desc := "()Z" } : Jvm.MethodName) prog_8_method_20_code (2 : Nat) (Option.some Jvm.ClassFile.FieldType.boolean)) ∈ mm_tbl := mm_tt3 61 rfl rfl
theorem q_944 : (Jvm.Cond.methodLink "LeafSweep$Reader" (207 : Nat) ({ cls := "LeafSweep$Reader", name := "workNumbers", desc := "(I)Z" } : Jvm.MethodName)) ∈ mm_tbl := mm_tt3 62 rfl rfl
theorem q_946 : (Jvm.Cond.instanceMethod ({ cls := "LeafSweep$Reader", name := "workNumbers", desc := "(I)Z" } : Jvm.MethodName)) ∈ mm_tbl := mm_tt3 64 rfl rfl
theorem q_947 : (Jvm.Cond.code ({ cls := "LeafSweep$Reader", name := "workNumbers", desc := "(I)Z" } : Jvm.MethodName) prog_8_method_21_code (2 : Nat) (Option.some Jvm.ClassFile.FieldType.boolean)) ∈ mm_tbl := mm_tt3 65 rfl rfl
theorem q_948 : (Jvm.Cond.methodLink "LeafSweep$Reader" (210 : Nat) ({ cls := "LeafSweep$Lines", name := "keep", desc := "(III)Z" } : Jvm.MethodName)) ∈ mm_tbl := mm_tt3 66 rfl rfl
theorem q_949 : (Jvm.Cond.instanceMethod ({ cls := "LeafSweep$Lines", name := "keep", desc := "(III)Z" } : Jvm.MethodName)) ∈ mm_tbl := mm_tt3 67 rfl rfl
theorem q_950 : (Jvm.Cond.selects "LeafSweep$Lines" ({ cls := "LeafSweep$Lines", name := "keep", desc := "(III)Z" } : Jvm.MethodName) ({ cls := "LeafSweep$Lines", name := "keep", desc := "(III)Z" } : Jvm.MethodName)) ∈ mm_tbl := mm_tt3 68 rfl rfl
theorem q_951 : (Jvm.Cond.code ({ cls := "LeafSweep$Lines", name := "keep", desc := "(III)Z" } : Jvm.MethodName) prog_5_method_2_code (4 : Nat) (Option.some Jvm.ClassFile.FieldType.boolean)) ∈ mm_tbl := mm_tt3 69 rfl rfl
theorem q_952 : (Jvm.Cond.methodLink "LeafSweep$Reader" (213 : Nat) ({ cls := "LeafSweep$Reader", name := "takeIndexName", desc := "()Z" } : Jvm.MethodName)) ∈ mm_tbl := mm_tt3 70 rfl rfl
theorem q_954 : (Jvm.Cond.instanceMethod ({ cls := "LeafSweep$Reader", name := "takeIndexName", desc := "()Z" } : Jvm.MethodName)) ∈ mm_tbl := mm_tt3 72 rfl rfl
theorem q_955 : (Jvm.Cond.code ({ cls := "LeafSweep$Reader", name := "takeIndexName", desc := "()Z" } : Jvm.MethodName) prog_8_method_22_code (1 : Nat) (Option.some Jvm.ClassFile.FieldType.boolean)) ∈ mm_tbl := mm_tt3 73 rfl rfl
theorem q_957 : (Jvm.Cond.instanceMethod ({ cls := "LeafSweep", name := "row", desc := "(II)I" } : Jvm.MethodName)) ∈ mm_tbl := mm_tt3 75 rfl rfl
theorem q_958 : (Jvm.Cond.selects "LeafSweep" ({ cls := "LeafSweep", name := "row", desc := "(II)I" } : Jvm.MethodName) ({ cls := "LeafSweep", name := "row", desc := "(II)I" } : Jvm.MethodName)) ∈ mm_tbl := mm_tt3 76 rfl rfl
theorem q_959 : (Jvm.Cond.code ({ cls := "LeafSweep", name := "row", desc := "(II)I" } : Jvm.MethodName) prog_1_method_5_code (3 : Nat) (Option.some Jvm.ClassFile.FieldType.int)) ∈ mm_tbl := mm_tt3 77 rfl rfl
theorem q_960 : (Jvm.Cond.methodLink "LeafSweep" (112 : Nat) ({ cls := "LeafSweep$Rows", name := "hasCome", desc := "(I)Z" } : Jvm.MethodName)) ∈ mm_tbl := mm_tt3 78 rfl rfl
theorem q_961 : (Jvm.Cond.methodLink "LeafSweep" (118 : Nat) ({ cls := "LeafSweep$Rows", name := "valueOf", desc := "(II)I" } : Jvm.MethodName)) ∈ mm_tbl := mm_tt3 79 rfl rfl
theorem q_962 : (Jvm.Cond.methodLink "LeafSweep" (128 : Nat) ({ cls := "LeafSweep$State", name := "treesHolding", desc := "(I)I" } : Jvm.MethodName)) ∈ mm_tbl := mm_tt3 80 rfl rfl
theorem q_963 : (Jvm.Cond.instanceMethod ({ cls := "LeafSweep$State", name := "treesHolding", desc := "(I)I" } : Jvm.MethodName)) ∈ mm_tbl := mm_tt3 81 rfl rfl
theorem q_964 : (Jvm.Cond.selects "LeafSweep$State" ({ cls := "LeafSweep$State", name := "treesHolding", desc := "(I)I" } : Jvm.MethodName) ({ cls := "LeafSweep$State", name := "treesHolding", desc := "(I)I" } : Jvm.MethodName)) ∈ mm_tbl := mm_tt3 82 rfl rfl
theorem q_965 : (Jvm.Cond.code ({ cls := "LeafSweep$State", name := "treesHolding", desc := "(I)I" } : Jvm.MethodName) prog_10_method_9_code (4 : Nat) (Option.some Jvm.ClassFile.FieldType.int)) ∈ mm_tbl := mm_tt3 83 rfl rfl
theorem q_966 : (Jvm.Cond.methodLink "LeafSweep$State" (159 : Nat) ({ cls := "LeafSweep$Leaves", name := "rowBits", desc := "()I" } : Jvm.MethodName)) ∈ mm_tbl := mm_tt3 84 rfl rfl
theorem q_967 : (Jvm.Cond.instanceMethod ({ cls := "LeafSweep$Leaves", name := "rowBits", desc := "()I" } : Jvm.MethodName)) ∈ mm_tbl := mm_tt3 85 rfl rfl
theorem q_968 : (Jvm.Cond.selects "LeafSweep$Leaves" ({ cls := "LeafSweep$Leaves", name := "rowBits", desc := "()I" } : Jvm.MethodName) ({ cls := "LeafSweep$Leaves", name := "rowBits", desc := "()I" } : Jvm.MethodName)) ∈ mm_tbl := mm_tt3 86 rfl rfl
theorem q_969 : (Jvm.Cond.code ({ cls := "LeafSweep$Leaves", name := "rowBits", desc := "()I" } : Jvm.MethodName) prog_4_method_8_code (3 : Nat) (Option.some Jvm.ClassFile.FieldType.int)) ∈ mm_tbl := mm_tt3 87 rfl rfl
theorem q_971 : (Jvm.Cond.instanceMethod ({ cls := "LeafSweep", name := "index", desc := "(II)I" } : Jvm.MethodName)) ∈ mm_tbl := mm_tt3 89 rfl rfl
theorem q_972 : (Jvm.Cond.selects "LeafSweep" ({ cls := "LeafSweep", name := "index", desc := "(II)I" } : Jvm.MethodName) ({ cls := "LeafSweep", name := "index", desc := "(II)I" } : Jvm.MethodName)) ∈ mm_tbl := mm_tt3 90 rfl rfl
theorem q_973 : (Jvm.Cond.code ({ cls := "LeafSweep", name := "index", desc := "(II)I" } : Jvm.MethodName) prog_1_method_6_code (4 : Nat) (Option.some Jvm.ClassFile.FieldType.int)) ∈ mm_tbl := mm_tt3 91 rfl rfl
theorem q_974 : (Jvm.Cond.methodLink "LeafSweep" (132 : Nat) ({ cls := "LeafSweep", name := "isIndex", desc := "(I)Z" } : Jvm.MethodName)) ∈ mm_tbl := mm_tt3 92 rfl rfl
theorem q_976 : (Jvm.Cond.instanceMethod ({ cls := "LeafSweep", name := "isIndex", desc := "(I)Z" } : Jvm.MethodName)) ∈ mm_tbl := mm_tt3 94 rfl rfl
theorem q_977 : (Jvm.Cond.code ({ cls := "LeafSweep", name := "isIndex", desc := "(I)Z" } : Jvm.MethodName) prog_1_method_55_code (2 : Nat) (Option.some Jvm.ClassFile.FieldType.boolean)) ∈ mm_tbl := mm_tt3 95 rfl rfl
theorem q_978 : (Jvm.Cond.methodLink "LeafSweep" (154 : Nat) ({ cls := "LeafSweep$Leaves", name := "height", desc := "()I" } : Jvm.MethodName)) ∈ mm_tbl := mm_tt3 96 rfl rfl
theorem q_979 : (Jvm.Cond.instanceMethod ({ cls := "LeafSweep$Leaves", name := "height", desc := "()I" } : Jvm.MethodName)) ∈ mm_tbl := mm_tt3 97 rfl rfl
theorem q_980 : (Jvm.Cond.selects "LeafSweep$Leaves" ({ cls := "LeafSweep$Leaves", name := "height", desc := "()I" } : Jvm.MethodName) ({ cls := "LeafSweep$Leaves", name := "height", desc := "()I" } : Jvm.MethodName)) ∈ mm_tbl := mm_tt3 98 rfl rfl
theorem q_981 : (Jvm.Cond.code ({ cls := "LeafSweep$Leaves", name := "height", desc := "()I" } : Jvm.MethodName) prog_4_method_7_code (3 : Nat) (Option.some Jvm.ClassFile.FieldType.int)) ∈ mm_tbl := mm_tt3 99 rfl rfl
theorem q_983 : (Jvm.Cond.instanceMethod ({ cls := "LeafSweep", name := "leaf", desc := "(III)I" } : Jvm.MethodName)) ∈ mm_tbl := mm_tt3 101 rfl rfl
theorem q_984 : (Jvm.Cond.selects "LeafSweep" ({ cls := "LeafSweep", name := "leaf", desc := "(III)I" } : Jvm.MethodName) ({ cls := "LeafSweep", name := "leaf", desc := "(III)I" } : Jvm.MethodName)) ∈ mm_tbl := mm_tt3 102 rfl rfl
theorem q_985 : (Jvm.Cond.code ({ cls := "LeafSweep", name := "leaf", desc := "(III)I" } : Jvm.MethodName) prog_1_method_7_code (4 : Nat) (Option.some Jvm.ClassFile.FieldType.int)) ∈ mm_tbl := mm_tt3 103 rfl rfl
theorem q_986 : (Jvm.Cond.methodLink "LeafSweep" (158 : Nat) ({ cls := "LeafSweep$Leaves", name := "rowAt", desc := "(II)I" } : Jvm.MethodName)) ∈ mm_tbl := mm_tt3 104 rfl rfl
theorem q_987 : (Jvm.Cond.instanceMethod ({ cls := "LeafSweep$Leaves", name := "rowAt", desc := "(II)I" } : Jvm.MethodName)) ∈ mm_tbl := mm_tt3 105 rfl rfl
theorem q_988 : (Jvm.Cond.selects "LeafSweep$Leaves" ({ cls := "LeafSweep$Leaves", name := "rowAt", desc := "(II)I" } : Jvm.MethodName) ({ cls := "LeafSweep$Leaves", name := "rowAt", desc := "(II)I" } : Jvm.MethodName)) ∈ mm_tbl := mm_tt3 106 rfl rfl
theorem q_989 : (Jvm.Cond.code ({ cls := "LeafSweep$Leaves", name := "rowAt", desc := "(II)I" } : Jvm.MethodName) prog_4_method_19_code (3 : Nat) (Option.some Jvm.ClassFile.FieldType.int)) ∈ mm_tbl := mm_tt3 107 rfl rfl
theorem q_990 : (Jvm.Cond.methodLink "LeafSweep$Leaves" (58 : Nat) ({ cls := "LeafSweep$Leaves", name := "firstOf", desc := "(I)I" } : Jvm.MethodName)) ∈ mm_tbl := mm_tt3 108 rfl rfl
theorem q_992 : (Jvm.Cond.instanceMethod ({ cls := "LeafSweep$Leaves", name := "firstOf", desc := "(I)I" } : Jvm.MethodName)) ∈ mm_tbl := mm_tt3 110 rfl rfl
theorem q_993 : (Jvm.Cond.code ({ cls := "LeafSweep$Leaves", name := "firstOf", desc := "(I)I" } : Jvm.MethodName) prog_4_method_18_code (4 : Nat) (Option.some Jvm.ClassFile.FieldType.int)) ∈ mm_tbl := mm_tt3 111 rfl rfl
theorem q_994 : (Jvm.Cond.methodLink "LeafSweep$Leaves" (61 : Nat) ({ cls := "LeafSweep$Leaves", name := "rowIn", desc := "(I)I" } : Jvm.MethodName)) ∈ mm_tbl := mm_tt3 112 rfl rfl
theorem q_995 : (Jvm.Cond.static ({ cls := "LeafSweep$Leaves", name := "rowIn", desc := "(I)I" } : Jvm.MethodName)) ∈ mm_tbl := mm_tt3 113 rfl rfl
theorem q_996 : (Jvm.Cond.code ({ cls := "LeafSweep$Leaves", name := "rowIn", desc := "(I)I" } : Jvm.MethodName) prog_4_method_6_code (1 : Nat) (Option.some Jvm.ClassFile.FieldType.int)) ∈ mm_tbl := mm_tt3 114 rfl rfl
theorem q_998 : (Jvm.Cond.instanceMethod ({ cls := "LeafSweep", name := "pointer", desc := "(II)I" } : Jvm.MethodName)) ∈ mm_tbl := mm_tt3 116 rfl rfl
theorem q_999 : (Jvm.Cond.selects "LeafSweep" ({ cls := "LeafSweep", name := "pointer", desc := "(II)I" } : Jvm.MethodName) ({ cls := "LeafSweep", name := "pointer", desc := "(II)I" } : Jvm.MethodName)) ∈ mm_tbl := mm_tt3 117 rfl rfl
theorem q_1000 : (Jvm.Cond.code ({ cls := "LeafSweep", name := "pointer", desc := "(II)I" } : Jvm.MethodName) prog_1_method_8_code (3 : Nat) (Option.some Jvm.ClassFile.FieldType.int)) ∈ mm_tbl := mm_tt3 118 rfl rfl
theorem q_1001 : (Jvm.Cond.methodLink "LeafSweep" (165 : Nat) ({ cls := "LeafSweep$Points", name := "hasCome", desc := "(I)Z" } : Jvm.MethodName)) ∈ mm_tbl := mm_tt3 119 rfl rfl
theorem q_1002 : (Jvm.Cond.instanceMethod ({ cls := "LeafSweep$Points", name := "hasCome", desc := "(I)Z" } : Jvm.MethodName)) ∈ mm_tbl := mm_tt3 120 rfl rfl
theorem q_1003 : (Jvm.Cond.selects "LeafSweep$Points" ({ cls := "LeafSweep$Points", name := "hasCome", desc := "(I)Z" } : Jvm.MethodName) ({ cls := "LeafSweep$Points", name := "hasCome", desc := "(I)Z" } : Jvm.MethodName)) ∈ mm_tbl := mm_tt3 121 rfl rfl
theorem q_1004 : (Jvm.Cond.code ({ cls := "LeafSweep$Points", name := "hasCome", desc := "(I)Z" } : Jvm.MethodName) prog_7_method_3_code (2 : Nat) (Option.some Jvm.ClassFile.FieldType.boolean)) ∈ mm_tbl := mm_tt3 122 rfl rfl
theorem q_1006 : (Jvm.Cond.instanceMethod ({ cls := "LeafSweep", name := "insert", desc := "(III)I" } : Jvm.MethodName)) ∈ mm_tbl := mm_tt3 124 rfl rfl
theorem q_1007 : (Jvm.Cond.selects "LeafSweep" ({ cls := "LeafSweep", name := "insert", desc := "(III)I" } : Jvm.MethodName) ({ cls := "LeafSweep", name := "insert", desc := "(III)I" } : Jvm.MethodName)) ∈ mm_tbl := mm_tt3 125 rfl rfl
theorem q_1008 : (Jvm.Cond.code ({ cls := "LeafSweep", name := "insert", desc := "(III)I" } : Jvm.MethodName) prog_1_method_9_code (5 : Nat) (Option.some Jvm.ClassFile.FieldType.int)) ∈ mm_tbl := mm_tt3 126 rfl rfl
theorem q_1009 : (Jvm.Cond.methodLink "LeafSweep" (174 : Nat) ({ cls := "LeafSweep$State", name := "become", desc := "(LLeafSweep$State;)V" } : Jvm.MethodName)) ∈ mm_tbl := mm_tt3 127 rfl rfl
theorem q_1010 : (Jvm.Cond.instanceMethod ({ cls := "LeafSweep$State", name := "become", desc := "(LLeafSweep$State;)V" } : Jvm.MethodName)) ∈ mm_tbl := mm_tt3 128 rfl rfl
theorem q_1011 : (Jvm.Cond.selects "LeafSweep$State" ({ cls := "LeafSweep$State", name := "become", desc := "(LLeafSweep$State;)V" } : Jvm.MethodName) ({ cls := "LeafSweep$State", name := "become", desc := "(LLeafSweep$State;)V" } : Jvm.MethodName)) ∈ mm_tbl := mm_tt3 129 rfl rfl
theorem q_1012 : (Jvm.Cond.code ({ cls := "LeafSweep$State", name := "become", desc := "(LLeafSweep$State;)V" } : Jvm.MethodName) prog_10_method_2_code (3 : Nat) (Option.none : Option Jvm.ClassFile.FieldType)) ∈ mm_tbl := mm_tt3 130 rfl rfl
theorem q_1013 : (Jvm.Cond.methodLink "LeafSweep$State" (60 : Nat) ({ cls := "LeafSweep$Rows", name := "become", desc := "(LLeafSweep$Rows;)V" } : Jvm.MethodName)) ∈ mm_tbl := mm_tt3 131 rfl rfl
theorem q_1014 : (Jvm.Cond.instanceMethod ({ cls := "LeafSweep$Rows", name := "become", desc := "(LLeafSweep$Rows;)V" } : Jvm.MethodName)) ∈ mm_tbl := mm_tt3 132 rfl rfl
theorem q_1015 : (Jvm.Cond.selects "LeafSweep$Rows" ({ cls := "LeafSweep$Rows", name := "become", desc := "(LLeafSweep$Rows;)V" } : Jvm.MethodName) ({ cls := "LeafSweep$Rows", name := "become", desc := "(LLeafSweep$Rows;)V" } : Jvm.MethodName)) ∈ mm_tbl := mm_tt3 133 rfl rfl
theorem q_1016 : (Jvm.Cond.code ({ cls := "LeafSweep$Rows", name := "become", desc := "(LLeafSweep$Rows;)V" } : Jvm.MethodName) prog_9_method_3_code (2 : Nat) (Option.none : Option Jvm.ClassFile.FieldType)) ∈ mm_tbl := mm_tt3 134 rfl rfl
theorem q_1017 : (Jvm.Cond.methodLink "LeafSweep$Rows" (25 : Nat) ({ cls := "java/lang/System", name := "arraycopy", desc := "(Ljava/lang/Object;ILjava/lang/Object;II)V" } : Jvm.MethodName)) ∈ mm_tbl := mm_tt3 135 rfl rfl
theorem q_1018 : (Jvm.Cond.static ({ cls := "java/lang/System", name := "arraycopy", desc := "(Ljava/lang/Object;ILjava/lang/Object;II)V" } : Jvm.MethodName)) ∈ mm_tbl := mm_tt3 136 rfl rfl
theorem q_1019 : (Jvm.Cond.native ({ cls := "java/lang/System", name := "arraycopy", desc := "(Ljava/lang/Object;ILjava/lang/Object;II)V" } : Jvm.MethodName)) ∈ mm_tbl := mm_tt3 137 rfl rfl
theorem q_1020 : (Jvm.Cond.methodLink "LeafSweep$State" (64 : Nat) ({ cls := "LeafSweep$Points", name := "become", desc := "(LLeafSweep$Points;)V" } : Jvm.MethodName)) ∈ mm_tbl := mm_tt3 138 rfl rfl
theorem q_1021 : (Jvm.Cond.instanceMethod ({ cls := "LeafSweep$Points", name := "become", desc := "(LLeafSweep$Points;)V" } : Jvm.MethodName)) ∈ mm_tbl := mm_tt3 139 rfl rfl
theorem q_1022 : (Jvm.Cond.selects "LeafSweep$Points" ({ cls := "LeafSweep$Points", name := "become", desc := "(LLeafSweep$Points;)V" } : Jvm.MethodName) ({ cls := "LeafSweep$Points", name := "become", desc := "(LLeafSweep$Points;)V" } : Jvm.MethodName)) ∈ mm_tbl := mm_tt3 140 rfl rfl
theorem q_1023 : (Jvm.Cond.code ({ cls := "LeafSweep$Points", name := "become", desc := "(LLeafSweep$Points;)V" } : Jvm.MethodName) prog_7_method_2_code (2 : Nat) (Option.none : Option Jvm.ClassFile.FieldType)) ∈ mm_tbl := mm_tt3 141 rfl rfl
theorem q_1024 : (Jvm.Cond.methodLink "LeafSweep$Points" (25 : Nat) ({ cls := "java/lang/System", name := "arraycopy", desc := "(Ljava/lang/Object;ILjava/lang/Object;II)V" } : Jvm.MethodName)) ∈ mm_tbl := mm_tt3 142 rfl rfl
theorem q_1025 : (Jvm.Cond.methodLink "LeafSweep$State" (67 : Nat) ({ cls := "LeafSweep$Leaves", name := "become", desc := "(LLeafSweep$Leaves;)V" } : Jvm.MethodName)) ∈ mm_tbl := mm_tt3 143 rfl rfl
theorem q_1026 : (Jvm.Cond.instanceMethod ({ cls := "LeafSweep$Leaves", name := "become", desc := "(LLeafSweep$Leaves;)V" } : Jvm.MethodName)) ∈ mm_tbl := mm_tt3 144 rfl rfl
theorem q_1027 : (Jvm.Cond.selects "LeafSweep$Leaves" ({ cls := "LeafSweep$Leaves", name := "become", desc := "(LLeafSweep$Leaves;)V" } : Jvm.MethodName) ({ cls := "LeafSweep$Leaves", name := "become", desc := "(LLeafSweep$Leaves;)V" } : Jvm.MethodName)) ∈ mm_tbl := mm_tt3 145 rfl rfl
theorem q_1028 : (Jvm.Cond.code ({ cls := "LeafSweep$Leaves", name := "become", desc := "(LLeafSweep$Leaves;)V" } : Jvm.MethodName) prog_4_method_3_code (2 : Nat) (Option.none : Option Jvm.ClassFile.FieldType)) ∈ mm_tbl := mm_tt3 146 rfl rfl
theorem q_1029 : (Jvm.Cond.methodLink "LeafSweep$Leaves" (32 : Nat) ({ cls := "java/lang/System", name := "arraycopy", desc := "(Ljava/lang/Object;ILjava/lang/Object;II)V" } : Jvm.MethodName)) ∈ mm_tbl := mm_tt3 147 rfl rfl
theorem q_1030 : (Jvm.Cond.methodLink "LeafSweep$State" (70 : Nat) ({ cls := "LeafSweep$Job", name := "become", desc := "(LLeafSweep$Job;)V" } : Jvm.MethodName)) ∈ mm_tbl := mm_tt3 148 rfl rfl
theorem q_1031 : (Jvm.Cond.instanceMethod ({ cls := "LeafSweep$Job", name := "become", desc := "(LLeafSweep$Job;)V" } : Jvm.MethodName)) ∈ mm_tbl := mm_tt3 149 rfl rfl
theorem q_1032 : (Jvm.Cond.selects "LeafSweep$Job" ({ cls := "LeafSweep$Job", name := "become", desc := "(LLeafSweep$Job;)V" } : Jvm.MethodName) ({ cls := "LeafSweep$Job", name := "become", desc := "(LLeafSweep$Job;)V" } : Jvm.MethodName)) ∈ mm_tbl := mm_tt3 150 rfl rfl
theorem q_1033 : (Jvm.Cond.code ({ cls := "LeafSweep$Job", name := "become", desc := "(LLeafSweep$Job;)V" } : Jvm.MethodName) prog_3_method_3_code (2 : Nat) (Option.none : Option Jvm.ClassFile.FieldType)) ∈ mm_tbl := mm_tt3 151 rfl rfl
theorem q_1034 : (Jvm.Cond.methodLink "LeafSweep$Job" (51 : Nat) ({ cls := "java/lang/System", name := "arraycopy", desc := "(Ljava/lang/Object;ILjava/lang/Object;II)V" } : Jvm.MethodName)) ∈ mm_tbl := mm_tt3 152 rfl rfl
theorem q_1035 : (Jvm.Cond.methodLink "LeafSweep$Job" (57 : Nat) ({ cls := "LeafSweep$Leaves", name := "become", desc := "(LLeafSweep$Leaves;)V" } : Jvm.MethodName)) ∈ mm_tbl := mm_tt3 153 rfl rfl
theorem q_1036 : (Jvm.Cond.methodLink "LeafSweep" (178 : Nat) ({ cls := "LeafSweep$State", name := "\x61dmit", desc := "(III)I" } : Jvm.MethodName)) ∈ mm_tbl := mm_tt3 154 rfl rfl
theorem q_1037 : (Jvm.Cond.instanceMethod ({ cls := "LeafSweep$State", name := "\x61dmit", desc := "(III)I" } : Jvm.MethodName)) ∈ mm_tbl := mm_tt3 155 rfl rfl
theorem q_1038 : (Jvm.Cond.selects "LeafSweep$State" ({ cls := "LeafSweep$State", name := "\x61dmit", desc := "(III)I" } : Jvm.MethodName) ({ cls := "LeafSweep$State", name := "\x61dmit", desc := "(III)I" } : Jvm.MethodName)) ∈ mm_tbl := mm_tt3 156 rfl rfl
theorem q_1039 : (Jvm.Cond.code ({ cls := "LeafSweep$State", name := "\x61dmit", desc := "(III)I" } : Jvm.MethodName) prog_10_method_21_code (5 : Nat) (Option.some Jvm.ClassFile.FieldType.int)) ∈ mm_tbl := mm_tt3 157 rfl rfl
theorem q_1041 : (Jvm.Cond.static ({ cls := "LeafSweep", name := "areValues", desc := "(III)Z" } : Jvm.MethodName)) ∈ mm_tbl := mm_tt3 159 rfl rfl
theorem q_1042 : (Jvm.Cond.code ({ cls := "LeafSweep", name := "areValues", desc := "(III)Z" } : Jvm.MethodName) prog_1_method_58_code (3 : Nat) (Option.some Jvm.ClassFile.FieldType.boolean)) ∈ mm_tbl := mm_tt3 160 rfl rfl
theorem q_1043 : (Jvm.Cond.methodLink "LeafSweep" (414 : Nat) ({ cls := "LeafSweep", name := "isValue", desc := "(I)Z" } : Jvm.MethodName)) ∈ mm_tbl := mm_tt3 161 rfl rfl
theorem q_1044 : (Jvm.Cond.static ({ cls := "LeafSweep", name := "isValue", desc := "(I)Z" } : Jvm.MethodName)) ∈ mm_tbl := mm_tt3 162 rfl rfl
theorem q_1045 : (Jvm.Cond.code ({ cls := "LeafSweep", name := "isValue", desc := "(I)Z" } : Jvm.MethodName) prog_1_method_57_code (1 : Nat) (Option.some Jvm.ClassFile.FieldType.boolean)) ∈ mm_tbl := mm_tt3 163 rfl rfl
theorem q_1046 : (Jvm.Cond.methodLink "LeafSweep$State" (235 : Nat) ({ cls := "LeafSweep$State", name := "onceClashes", desc := "(II)I" } : Jvm.MethodName)) ∈ mm_tbl := mm_tt3 164 rfl rfl
theorem q_1047 : (Jvm.Cond.instanceMethod ({ cls := "LeafSweep$State", name := "onceClashes", desc := "(II)I" } : Jvm.MethodName)) ∈ mm_tbl := mm_tt3 165 rfl rfl
theorem q_1048 : (Jvm.Cond.selects "LeafSweep$State" ({ cls := "LeafSweep$State", name := "onceClashes", desc := "(II)I" } : Jvm.MethodName) ({ cls := "LeafSweep$State", name := "onceClashes", desc := "(II)I" } : Jvm.MethodName)) ∈ mm_tbl := mm_tt3 166 rfl rfl
theorem q_1049 : (Jvm.Cond.code ({ cls := "LeafSweep$State", name := "onceClashes", desc := "(II)I" } : Jvm.MethodName) prog_10_method_18_code (5 : Nat) (Option.some Jvm.ClassFile.FieldType.int)) ∈ mm_tbl := mm_tt3 167 rfl rfl
theorem q_1050 : (Jvm.Cond.methodLink "LeafSweep$State" (222 : Nat) ({ cls := "LeafSweep$State", name := "isOnceOn", desc := "(II)Z" } : Jvm.MethodName)) ∈ mm_tbl := mm_tt3 168 rfl rfl
theorem q_1052 : (Jvm.Cond.instanceMethod ({ cls := "LeafSweep$State", name := "isOnceOn", desc := "(II)Z" } : Jvm.MethodName)) ∈ mm_tbl := mm_tt3 170 rfl rfl
theorem q_1053 : (Jvm.Cond.code ({ cls := "LeafSweep$State", name := "isOnceOn", desc := "(II)Z" } : Jvm.MethodName) prog_10_method_19_code (3 : Nat) (Option.some Jvm.ClassFile.FieldType.boolean)) ∈ mm_tbl := mm_tt3 171 rfl rfl
theorem q_1054 : (Jvm.Cond.methodLink "LeafSweep$State" (219 : Nat) ({ cls := "LeafSweep$Rows", name := "having", desc := "(II)I" } : Jvm.MethodName)) ∈ mm_tbl := mm_tt3 172 rfl rfl
theorem q_1055 : (Jvm.Cond.methodLink "LeafSweep$State" (242 : Nat) ({ cls := "LeafSweep$State", name := "fitAside", desc := "()Z" } : Jvm.MethodName)) ∈ mm_tbl := mm_tt3 173 rfl rfl
theorem q_1057 : (Jvm.Cond.instanceMethod ({ cls := "LeafSweep$State", name := "fitAside", desc := "()Z" } : Jvm.MethodName)) ∈ mm_tbl := mm_tt3 175 rfl rfl
theorem q_1058 : (Jvm.Cond.code ({ cls := "LeafSweep$State", name := "fitAside", desc := "()Z" } : Jvm.MethodName) prog_10_method_29_code (2 : Nat) (Option.some Jvm.ClassFile.FieldType.boolean)) ∈ mm_tbl := mm_tt3 176 rfl rfl
theorem q_1059 : (Jvm.Cond.methodLink "LeafSweep$State" (245 : Nat) ({ cls := "LeafSweep$Rows", name := "takeBackLast", desc := "()V" } : Jvm.MethodName)) ∈ mm_tbl := mm_tt3 177 rfl rfl
theorem q_1060 : (Jvm.Cond.instanceMethod ({ cls := "LeafSweep$Rows", name := "takeBackLast", desc := "()V" } : Jvm.MethodName)) ∈ mm_tbl := mm_tt3 178 rfl rfl
theorem q_1061 : (Jvm.Cond.selects "LeafSweep$Rows" ({ cls := "LeafSweep$Rows", name := "takeBackLast", desc := "()V" } : Jvm.MethodName) ({ cls := "LeafSweep$Rows", name := "takeBackLast", desc := "()V" } : Jvm.MethodName)) ∈ mm_tbl := mm_tt3 179 rfl rfl
theorem q_1062 : (Jvm.Cond.code ({ cls := "LeafSweep$Rows", name := "takeBackLast", desc := "()V" } : Jvm.MethodName) prog_9_method_11_code (1 : Nat) (Option.none : Option Jvm.ClassFile.FieldType)) ∈ mm_tbl := mm_tt3 180 rfl rfl
theorem q_1063 : (Jvm.Cond.methodLink "LeafSweep$State" (248 : Nat) ({ cls := "LeafSweep$State", name := "moveEntries", desc := "(I)V" } : Jvm.MethodName)) ∈ mm_tbl := mm_tt3 181 rfl rfl
theorem q_1065 : (Jvm.Cond.instanceMethod ({ cls := "LeafSweep$State", name := "moveEntries", desc := "(I)V" } : Jvm.MethodName)) ∈ mm_tbl := mm_tt3 183 rfl rfl
theorem q_1066 : (Jvm.Cond.code ({ cls := "LeafSweep$State", name := "moveEntries", desc := "(I)V" } : Jvm.MethodName) prog_10_method_30_code (3 : Nat) (Option.none : Option Jvm.ClassFile.FieldType)) ∈ mm_tbl := mm_tt3 184 rfl rfl
theorem q_1067 : (Jvm.Cond.methodLink "LeafSweep$State" (278 : Nat) ({ cls := "LeafSweep$State", name := "takeEntry", desc := "(III)V" } : Jvm.MethodName)) ∈ mm_tbl := mm_tt3 185 rfl rfl
theorem q_1069 : (Jvm.Cond.instanceMethod ({ cls := "LeafSweep$State", name := "takeEntry", desc := "(III)V" } : Jvm.MethodName)) ∈ mm_tbl := mm_tt3 187 rfl rfl
theorem q_1070 : (Jvm.Cond.code ({ cls := "LeafSweep$State", name := "takeEntry", desc := "(III)V" } : Jvm.MethodName) prog_10_method_31_code (4 : Nat) (Option.none : Option Jvm.ClassFile.FieldType)) ∈ mm_tbl := mm_tt3 188 rfl rfl
theorem q_1071 : (Jvm.Cond.methodLink "LeafSweep$State" (284 : Nat) ({ cls := "LeafSweep$Job", name := "isAt", desc := "(I)Z" } : Jvm.MethodName)) ∈ mm_tbl := mm_tt3 189 rfl rfl
theorem q_1072 : (Jvm.Cond.instanceMethod ({ cls := "LeafSweep$Job", name := "isAt", desc := "(I)Z" } : Jvm.MethodName)) ∈ mm_tbl := mm_tt3 190 rfl rfl
theorem q_1073 : (Jvm.Cond.selects "LeafSweep$Job" ({ cls := "LeafSweep$Job", name := "isAt", desc := "(I)Z" } : Jvm.MethodName) ({ cls := "LeafSweep$Job", name := "isAt", desc := "(I)Z" } : Jvm.MethodName)) ∈ mm_tbl := mm_tt3 191 rfl rfl
theorem q_1074 : (Jvm.Cond.code ({ cls := "LeafSweep$Job", name := "isAt", desc := "(I)Z" } : Jvm.MethodName) prog_3_method_4_code (2 : Nat) (Option.some Jvm.ClassFile.FieldType.boolean)) ∈ mm_tbl := mm_tt3 192 rfl rfl
theorem q_1075 : (Jvm.Cond.constant "LeafSweep$State" (287 : Nat) (40000 : Int32)) ∈ mm_tbl := mm_tt3 193 rfl rfl
theorem q_1076 : (Jvm.Cond.methodLink "LeafSweep$State" (288 : Nat) ({ cls := "LeafSweep$Job", name := "lay", desc := "(I)V" } : Jvm.MethodName)) ∈ mm_tbl := mm_tt3 194 rfl rfl
theorem q_1077 : (Jvm.Cond.instanceMethod ({ cls := "LeafSweep$Job", name := "lay", desc := "(I)V" } : Jvm.MethodName)) ∈ mm_tbl := mm_tt3 195 rfl rfl
theorem q_1078 : (Jvm.Cond.selects "LeafSweep$Job" ({ cls := "LeafSweep$Job", name := "lay", desc := "(I)V" } : Jvm.MethodName) ({ cls := "LeafSweep$Job", name := "lay", desc := "(I)V" } : Jvm.MethodName)) ∈ mm_tbl := mm_tt3 196 rfl rfl
theorem q_1079 : (Jvm.Cond.code ({ cls := "LeafSweep$Job", name := "lay", desc := "(I)V" } : Jvm.MethodName) prog_3_method_6_code (2 : Nat) (Option.none : Option Jvm.ClassFile.FieldType)) ∈ mm_tbl := mm_tt3 197 rfl rfl
theorem q_1080 : (Jvm.Cond.methodLink "LeafSweep$State" (225 : Nat) ({ cls := "LeafSweep$Leaves", name := "height", desc := "()I" } : Jvm.MethodName)) ∈ mm_tbl := mm_tt3 198 rfl rfl
theorem q_1081 : (Jvm.Cond.methodLink "LeafSweep$State" (291 : Nat) ({ cls := "LeafSweep$Leaves", name := "take", desc := "(I)V" } : Jvm.MethodName)) ∈ mm_tbl := mm_tt3 199 rfl rfl
theorem q_1082 : (Jvm.Cond.instanceMethod ({ cls := "LeafSweep$Leaves", name := "take", desc := "(I)V" } : Jvm.MethodName)) ∈ mm_tbl := mm_tt3 200 rfl rfl
theorem q_1083 : (Jvm.Cond.selects "LeafSweep$Leaves" ({ cls := "LeafSweep$Leaves", name := "take", desc := "(I)V" } : Jvm.MethodName) ({ cls := "LeafSweep$Leaves", name := "take", desc := "(I)V" } : Jvm.MethodName)) ∈ mm_tbl := mm_tt3 201 rfl rfl
theorem q_1084 : (Jvm.Cond.code ({ cls := "LeafSweep$Leaves", name := "take", desc := "(I)V" } : Jvm.MethodName) prog_4_method_15_code (6 : Nat) (Option.none : Option Jvm.ClassFile.FieldType)) ∈ mm_tbl := mm_tt3 202 rfl rfl
theorem q_1085 : (Jvm.Cond.methodLink "LeafSweep$Leaves" (49 : Nat) ({ cls := "LeafSweep$Leaves", name := "closeUp", desc := "(I)V" } : Jvm.MethodName)) ∈ mm_tbl := mm_tt3 203 rfl rfl
theorem q_1087 : (Jvm.Cond.instanceMethod ({ cls := "LeafSweep$Leaves", name := "closeUp", desc := "(I)V" } : Jvm.MethodName)) ∈ mm_tbl := mm_tt3 205 rfl rfl
theorem q_1088 : (Jvm.Cond.code ({ cls := "LeafSweep$Leaves", name := "closeUp", desc := "(I)V" } : Jvm.MethodName) prog_4_method_16_code (3 : Nat) (Option.none : Option Jvm.ClassFile.FieldType)) ∈ mm_tbl := mm_tt3 206 rfl rfl
theorem q_1089 : (Jvm.Cond.methodLink "LeafSweep$State" (281 : Nat) ({ cls := "LeafSweep$State", name := "putEntry", desc := "(III)V" } : Jvm.MethodName)) ∈ mm_tbl := mm_tt3 207 rfl rfl
theorem q_1091 : (Jvm.Cond.instanceMethod ({ cls := "LeafSweep$State", name := "putEntry", desc := "(III)V" } : Jvm.MethodName)) ∈ mm_tbl := mm_tt3 209 rfl rfl
theorem q_1092 : (Jvm.Cond.code ({ cls := "LeafSweep$State", name := "putEntry", desc := "(III)V" } : Jvm.MethodName) prog_10_method_32_code (4 : Nat) (Option.none : Option Jvm.ClassFile.FieldType)) ∈ mm_tbl := mm_tt3 210 rfl rfl
theorem q_1093 : (Jvm.Cond.methodLink "LeafSweep" (182 : Nat) ({ cls := "LeafSweep", name := "remember", desc := "()V" } : Jvm.MethodName)) ∈ mm_tbl := mm_tt3 211 rfl rfl
theorem q_1095 : (Jvm.Cond.instanceMethod ({ cls := "LeafSweep", name := "remember", desc := "()V" } : Jvm.MethodName)) ∈ mm_tbl := mm_tt3 213 rfl rfl
theorem q_1096 : (Jvm.Cond.code ({ cls := "LeafSweep", name := "remember", desc := "()V" } : Jvm.MethodName) prog_1_method_59_code (3 : Nat) (Option.none : Option Jvm.ClassFile.FieldType)) ∈ mm_tbl := mm_tt3 214 rfl rfl
theorem q_1098 : (Jvm.Cond.instanceMethod ({ cls := "LeafSweep", name := "remove", desc := "(I)Z" } : Jvm.MethodName)) ∈ mm_tbl := mm_tt3 216 rfl rfl
theorem q_1099 : (Jvm.Cond.selects "LeafSweep" ({ cls := "LeafSweep", name := "remove", desc := "(I)Z" } : Jvm.MethodName) ({ cls := "LeafSweep", name := "remove", desc := "(I)Z" } : Jvm.MethodName)) ∈ mm_tbl := mm_tt3 217 rfl rfl
theorem q_1100 : (Jvm.Cond.code ({ cls := "LeafSweep", name := "remove", desc := "(I)Z" } : Jvm.MethodName) prog_1_method_10_code (2 : Nat) (Option.some Jvm.ClassFile.FieldType.boolean)) ∈ mm_tbl := mm_tt3 218 rfl rfl
theorem q_1101 : (Jvm.Cond.methodLink "LeafSweep" (185 : Nat) ({ cls := "LeafSweep$State", name := "expel", desc := "(I)Z" } : Jvm.MethodName)) ∈ mm_tbl := mm_tt3 219 rfl rfl
theorem q_1102 : (Jvm.Cond.instanceMethod ({ cls := "LeafSweep$State", name := "expel", desc := "(I)Z" } : Jvm.MethodName)) ∈ mm_tbl := mm_tt3 220 rfl rfl
theorem q_1103 : (Jvm.Cond.selects "LeafSweep$State" ({ cls := "LeafSweep$State", name := "expel", desc := "(I)Z" } : Jvm.MethodName) ({ cls := "LeafSweep$State", name := "expel", desc := "(I)Z" } : Jvm.MethodName)) ∈ mm_tbl := mm_tt3 221 rfl rfl
theorem q_1104 : (Jvm.Cond.code ({ cls := "LeafSweep$State", name := "expel", desc := "(I)Z" } : Jvm.MethodName) prog_10_method_23_code (2 : Nat) (Option.some Jvm.ClassFile.FieldType.boolean)) ∈ mm_tbl := mm_tt3 222 rfl rfl
theorem q_1105 : (Jvm.Cond.methodLink "LeafSweep$State" (257 : Nat) ({ cls := "LeafSweep$State", name := "canExpel", desc := "(I)Z" } : Jvm.MethodName)) ∈ mm_tbl := mm_tt3 223 rfl rfl
theorem q_1106 : (Jvm.Cond.instanceMethod ({ cls := "LeafSweep$State", name := "canExpel", desc := "(I)Z" } : Jvm.MethodName)) ∈ mm_tbl := mm_tt3 224 rfl rfl
theorem q_1107 : (Jvm.Cond.selects "LeafSweep$State" ({ cls := "LeafSweep$State", name := "canExpel", desc := "(I)Z" } : Jvm.MethodName) ({ cls := "LeafSweep$State", name := "canExpel", desc := "(I)Z" } : Jvm.MethodName)) ∈ mm_tbl := mm_tt3 225 rfl rfl
theorem q_1108 : (Jvm.Cond.code ({ cls := "LeafSweep$State", name := "canExpel", desc := "(I)Z" } : Jvm.MethodName) prog_10_method_22_code (2 : Nat) (Option.some Jvm.ClassFile.FieldType.boolean)) ∈ mm_tbl := mm_tt3 226 rfl rfl
theorem q_1109 : (Jvm.Cond.methodLink "LeafSweep$State" (151 : Nat) ({ cls := "LeafSweep$Rows", name := "isVisible", desc := "(I)Z" } : Jvm.MethodName)) ∈ mm_tbl := mm_tt3 227 rfl rfl
theorem q_1110 : (Jvm.Cond.instanceMethod ({ cls := "LeafSweep$Rows", name := "isVisible", desc := "(I)Z" } : Jvm.MethodName)) ∈ mm_tbl := mm_tt3 228 rfl rfl
theorem q_1111 : (Jvm.Cond.selects "LeafSweep$Rows" ({ cls := "LeafSweep$Rows", name := "isVisible", desc := "(I)Z" } : Jvm.MethodName) ({ cls := "LeafSweep$Rows", name := "isVisible", desc := "(I)Z" } : Jvm.MethodName)) ∈ mm_tbl := mm_tt3 229 rfl rfl
theorem q_1112 : (Jvm.Cond.code ({ cls := "LeafSweep$Rows", name := "isVisible", desc := "(I)Z" } : Jvm.MethodName) prog_9_method_6_code (2 : Nat) (Option.some Jvm.ClassFile.FieldType.boolean)) ∈ mm_tbl := mm_tt3 230 rfl rfl
theorem q_1113 : (Jvm.Cond.methodLink "LeafSweep$Rows" (35 : Nat) ({ cls := "LeafSweep$Rows", name := "visible", desc := "()I" } : Jvm.MethodName)) ∈ mm_tbl := mm_tt3 231 rfl rfl
theorem q_1114 : (Jvm.Cond.instanceMethod ({ cls := "LeafSweep$Rows", name := "visible", desc := "()I" } : Jvm.MethodName)) ∈ mm_tbl := mm_tt3 232 rfl rfl
theorem q_1115 : (Jvm.Cond.selects "LeafSweep$Rows" ({ cls := "LeafSweep$Rows", name := "visible", desc := "()I" } : Jvm.MethodName) ({ cls := "LeafSweep$Rows", name := "visible", desc := "()I" } : Jvm.MethodName)) ∈ mm_tbl := mm_tt3 233 rfl rfl
theorem q_1116 : (Jvm.Cond.code ({ cls := "LeafSweep$Rows", name := "visible", desc := "()I" } : Jvm.MethodName) prog_9_method_5_code (1 : Nat) (Option.some Jvm.ClassFile.FieldType.int)) ∈ mm_tbl := mm_tt3 234 rfl rfl
theorem q_1117 : (Jvm.Cond.methodLink "LeafSweep$State" (251 : Nat) ({ cls := "LeafSweep$State", name := "isAlone", desc := "(II)Z" } : Jvm.MethodName)) ∈ mm_tbl := mm_tt3 235 rfl rfl
theorem q_1119 : (Jvm.Cond.instanceMethod ({ cls := "LeafSweep$State", name := "isAlone", desc := "(II)Z" } : Jvm.MethodName)) ∈ mm_tbl := mm_tt3 237 rfl rfl
theorem q_1120 : (Jvm.Cond.code ({ cls := "LeafSweep$State", name := "isAlone", desc := "(II)Z" } : Jvm.MethodName) prog_10_method_25_code (3 : Nat) (Option.some Jvm.ClassFile.FieldType.boolean)) ∈ mm_tbl := mm_tt3 238 rfl rfl
theorem q_1121 : (Jvm.Cond.methodLink "LeafSweep$State" (254 : Nat) ({ cls := "LeafSweep$Points", name := "firmAt", desc := "(I)Z" } : Jvm.MethodName)) ∈ mm_tbl := mm_tt3 239 rfl rfl
theorem q_1122 : (Jvm.Cond.instanceMethod ({ cls := "LeafSweep$Points", name := "firmAt", desc := "(I)Z" } : Jvm.MethodName)) ∈ mm_tbl := mm_tt4 0 rfl rfl
theorem q_1123 : (Jvm.Cond.selects "LeafSweep$Points" ({ cls := "LeafSweep$Points", name := "firmAt", desc := "(I)Z" } : Jvm.MethodName) ({ cls := "LeafSweep$Points", name := "firmAt", desc := "(I)Z" } : Jvm.MethodName)) ∈ mm_tbl := mm_tt4 1 rfl rfl
theorem q_1124 : (Jvm.Cond.code ({ cls := "LeafSweep$Points", name := "firmAt", desc := "(I)Z" } : Jvm.MethodName) prog_7_method_7_code (3 : Nat) (Option.some Jvm.ClassFile.FieldType.boolean)) ∈ mm_tbl := mm_tt4 2 rfl rfl
theorem q_1125 : (Jvm.Cond.methodLink "LeafSweep$State" (260 : Nat) ({ cls := "LeafSweep$Points", name := "loosenAt", desc := "(I)V" } : Jvm.MethodName)) ∈ mm_tbl := mm_tt4 3 rfl rfl
theorem q_1126 : (Jvm.Cond.instanceMethod ({ cls := "LeafSweep$Points", name := "loosenAt", desc := "(I)V" } : Jvm.MethodName)) ∈ mm_tbl := mm_tt4 4 rfl rfl
theorem q_1127 : (Jvm.Cond.selects "LeafSweep$Points" ({ cls := "LeafSweep$Points", name := "loosenAt", desc := "(I)V" } : Jvm.MethodName) ({ cls := "LeafSweep$Points", name := "loosenAt", desc := "(I)V" } : Jvm.MethodName)) ∈ mm_tbl := mm_tt4 5 rfl rfl
theorem q_1128 : (Jvm.Cond.code ({ cls := "LeafSweep$Points", name := "loosenAt", desc := "(I)V" } : Jvm.MethodName) prog_7_method_11_code (3 : Nat) (Option.none : Option Jvm.ClassFile.FieldType)) ∈ mm_tbl := mm_tt4 6 rfl rfl
theorem q_1129 : (Jvm.Cond.methodLink "LeafSweep$Points" (38 : Nat) ({ cls := "LeafSweep$Points", name := "loosen", desc := "(I)V" } : Jvm.MethodName)) ∈ mm_tbl := mm_tt4 7 rfl rfl
theorem q_1130 : (Jvm.Cond.instanceMethod ({ cls := "LeafSweep$Points", name := "loosen", desc := "(I)V" } : Jvm.MethodName)) ∈ mm_tbl := mm_tt4 8 rfl rfl
theorem q_1131 : (Jvm.Cond.selects "LeafSweep$Points" ({ cls := "LeafSweep$Points", name := "loosen", desc := "(I)V" } : Jvm.MethodName) ({ cls := "LeafSweep$Points", name := "loosen", desc := "(I)V" } : Jvm.MethodName)) ∈ mm_tbl := mm_tt4 9 rfl rfl
theorem q_1132 : (Jvm.Cond.code ({ cls := "LeafSweep$Points", name := "loosen", desc := "(I)V" } : Jvm.MethodName) prog_7_method_10_code (2 : Nat) (Option.none : Option Jvm.ClassFile.FieldType)) ∈ mm_tbl := mm_tt4 10 rfl rfl
theorem q_1133 : (Jvm.Cond.methodLink "LeafSweep$Points" (31 : Nat) ({ cls := "LeafSweep$Points", name := "hasCome", desc := "(I)Z" } : Jvm.MethodName)) ∈ mm_tbl := mm_tt4 11 rfl rfl
theorem q_1134 : (Jvm.Cond.methodLink "LeafSweep" (188 : Nat) ({ cls := "LeafSweep", name := "rememberIf", desc := "(Z)Z" } : Jvm.MethodName)) ∈ mm_tbl := mm_tt4 12 rfl rfl
theorem q_1136 : (Jvm.Cond.instanceMethod ({ cls := "LeafSweep", name := "rememberIf", desc := "(Z)Z" } : Jvm.MethodName)) ∈ mm_tbl := mm_tt4 14 rfl rfl
theorem q_1137 : (Jvm.Cond.code ({ cls := "LeafSweep", name := "rememberIf", desc := "(Z)Z" } : Jvm.MethodName) prog_1_method_60_code (2 : Nat) (Option.some Jvm.ClassFile.FieldType.boolean)) ∈ mm_tbl := mm_tt4 15 rfl rfl
theorem q_1139 : (Jvm.Cond.instanceMethod ({ cls := "LeafSweep", name := "change", desc := "(III)Z" } : Jvm.MethodName)) ∈ mm_tbl := mm_tt4 17 rfl rfl
theorem q_1140 : (Jvm.Cond.selects "LeafSweep" ({ cls := "LeafSweep", name := "change", desc := "(III)Z" } : Jvm.MethodName) ({ cls := "LeafSweep", name := "change", desc := "(III)Z" } : Jvm.MethodName)) ∈ mm_tbl := mm_tt4 18 rfl rfl
theorem q_1141 : (Jvm.Cond.code ({ cls := "LeafSweep", name := "change", desc := "(III)Z" } : Jvm.MethodName) prog_1_method_11_code (4 : Nat) (Option.some Jvm.ClassFile.FieldType.boolean)) ∈ mm_tbl := mm_tt4 19 rfl rfl
theorem q_1142 : (Jvm.Cond.methodLink "LeafSweep" (192 : Nat) ({ cls := "LeafSweep$State", name := "amend", desc := "(III)Z" } : Jvm.MethodName)) ∈ mm_tbl := mm_tt4 20 rfl rfl
theorem q_1143 : (Jvm.Cond.instanceMethod ({ cls := "LeafSweep$State", name := "amend", desc := "(III)Z" } : Jvm.MethodName)) ∈ mm_tbl := mm_tt4 21 rfl rfl
theorem q_1144 : (Jvm.Cond.selects "LeafSweep$State" ({ cls := "LeafSweep$State", name := "amend", desc := "(III)Z" } : Jvm.MethodName) ({ cls := "LeafSweep$State", name := "amend", desc := "(III)Z" } : Jvm.MethodName)) ∈ mm_tbl := mm_tt4 22 rfl rfl
theorem q_1145 : (Jvm.Cond.code ({ cls := "LeafSweep$State", name := "amend", desc := "(III)Z" } : Jvm.MethodName) prog_10_method_24_code (5 : Nat) (Option.some Jvm.ClassFile.FieldType.boolean)) ∈ mm_tbl := mm_tt4 23 rfl rfl
theorem q_1147 : (Jvm.Cond.methodLink "LeafSweep$State" (266 : Nat) ({ cls := "LeafSweep$State", name := "isHeld", desc := "(II)Z" } : Jvm.MethodName)) ∈ mm_tbl := mm_tt4 25 rfl rfl
theorem q_1149 : (Jvm.Cond.instanceMethod ({ cls := "LeafSweep$State", name := "isHeld", desc := "(II)Z" } : Jvm.MethodName)) ∈ mm_tbl := mm_tt4 27 rfl rfl
theorem q_1150 : (Jvm.Cond.code ({ cls := "LeafSweep$State", name := "isHeld", desc := "(II)Z" } : Jvm.MethodName) prog_10_method_26_code (3 : Nat) (Option.some Jvm.ClassFile.FieldType.boolean)) ∈ mm_tbl := mm_tt4 28 rfl rfl
theorem q_1151 : (Jvm.Cond.methodLink "LeafSweep$State" (272 : Nat) ({ cls := "LeafSweep$Points", name := "anyAt", desc := "(I)Z" } : Jvm.MethodName)) ∈ mm_tbl := mm_tt4 29 rfl rfl
theorem q_1152 : (Jvm.Cond.methodLink "LeafSweep$State" (269 : Nat) ({ cls := "LeafSweep$Rows", name := "setValue", desc := "(III)V" } : Jvm.MethodName)) ∈ mm_tbl := mm_tt4 30 rfl rfl
theorem q_1154 : (Jvm.Cond.instanceMethod ({ cls := "LeafSweep", name := "point", desc := "(II)I" } : Jvm.MethodName)) ∈ mm_tbl := mm_tt4 32 rfl rfl
theorem q_1155 : (Jvm.Cond.selects "LeafSweep" ({ cls := "LeafSweep", name := "point", desc := "(II)I" } : Jvm.MethodName) ({ cls := "LeafSweep", name := "point", desc := "(II)I" } : Jvm.MethodName)) ∈ mm_tbl := mm_tt4 33 rfl rfl
theorem q_1156 : (Jvm.Cond.code ({ cls := "LeafSweep", name := "point", desc := "(II)I" } : Jvm.MethodName) prog_1_method_12_code (4 : Nat) (Option.some Jvm.ClassFile.FieldType.int)) ∈ mm_tbl := mm_tt4 34 rfl rfl
theorem q_1157 : (Jvm.Cond.methodLink "LeafSweep" (196 : Nat) ({ cls := "LeafSweep$State", name := "aim", desc := "(II)I" } : Jvm.MethodName)) ∈ mm_tbl := mm_tt4 35 rfl rfl
theorem q_1158 : (Jvm.Cond.instanceMethod ({ cls := "LeafSweep$State", name := "aim", desc := "(II)I" } : Jvm.MethodName)) ∈ mm_tbl := mm_tt4 36 rfl rfl
theorem q_1159 : (Jvm.Cond.selects "LeafSweep$State" ({ cls := "LeafSweep$State", name := "aim", desc := "(II)I" } : Jvm.MethodName) ({ cls := "LeafSweep$State", name := "aim", desc := "(II)I" } : Jvm.MethodName)) ∈ mm_tbl := mm_tt4 37 rfl rfl
theorem q_1160 : (Jvm.Cond.code ({ cls := "LeafSweep$State", name := "aim", desc := "(II)I" } : Jvm.MethodName) prog_10_method_33_code (3 : Nat) (Option.some Jvm.ClassFile.FieldType.int)) ∈ mm_tbl := mm_tt4 38 rfl rfl
theorem q_1162 : (Jvm.Cond.instanceMethod ({ cls := "LeafSweep", name := "drop", desc := "(I)Z" } : Jvm.MethodName)) ∈ mm_tbl := mm_tt4 40 rfl rfl
theorem q_1163 : (Jvm.Cond.selects "LeafSweep" ({ cls := "LeafSweep", name := "drop", desc := "(I)Z" } : Jvm.MethodName) ({ cls := "LeafSweep", name := "drop", desc := "(I)Z" } : Jvm.MethodName)) ∈ mm_tbl := mm_tt4 41 rfl rfl
theorem q_1164 : (Jvm.Cond.code ({ cls := "LeafSweep", name := "drop", desc := "(I)Z" } : Jvm.MethodName) prog_1_method_13_code (2 : Nat) (Option.some Jvm.ClassFile.FieldType.boolean)) ∈ mm_tbl := mm_tt4 42 rfl rfl
theorem q_1165 : (Jvm.Cond.methodLink "LeafSweep" (199 : Nat) ({ cls := "LeafSweep$Points", name := "discard", desc := "(I)Z" } : Jvm.MethodName)) ∈ mm_tbl := mm_tt4 43 rfl rfl
theorem q_1166 : (Jvm.Cond.instanceMethod ({ cls := "LeafSweep$Points", name := "discard", desc := "(I)Z" } : Jvm.MethodName)) ∈ mm_tbl := mm_tt4 44 rfl rfl
theorem q_1167 : (Jvm.Cond.selects "LeafSweep$Points" ({ cls := "LeafSweep$Points", name := "discard", desc := "(I)Z" } : Jvm.MethodName) ({ cls := "LeafSweep$Points", name := "discard", desc := "(I)Z" } : Jvm.MethodName)) ∈ mm_tbl := mm_tt4 45 rfl rfl
theorem q_1168 : (Jvm.Cond.code ({ cls := "LeafSweep$Points", name := "discard", desc := "(I)Z" } : Jvm.MethodName) prog_7_method_5_code (2 : Nat) (Option.some Jvm.ClassFile.FieldType.boolean)) ∈ mm_tbl := mm_tt4 46 rfl rfl
theorem q_1170 : (Jvm.Cond.instanceMethod ({ cls := "LeafSweep", name := "begin", desc := "(III)I" } : Jvm.MethodName)) ∈ mm_tbl := mm_tt4 48 rfl rfl
theorem q_1171 : (Jvm.Cond.selects "LeafSweep" ({ cls := "LeafSweep", name := "begin", desc := "(III)I" } : Jvm.MethodName) ({ cls := "LeafSweep", name := "begin", desc := "(III)I" } : Jvm.MethodName)) ∈ mm_tbl := mm_tt4 49 rfl rfl
theorem q_1172 : (Jvm.Cond.code ({ cls := "LeafSweep", name := "begin", desc := "(III)I" } : Jvm.MethodName) prog_1_method_14_code (4 : Nat) (Option.some Jvm.ClassFile.FieldType.int)) ∈ mm_tbl := mm_tt4 50 rfl rfl
theorem q_1173 : (Jvm.Cond.methodLink "LeafSweep" (202 : Nat) ({ cls := "LeafSweep$State", name := "launch", desc := "(III)Z" } : Jvm.MethodName)) ∈ mm_tbl := mm_tt4 51 rfl rfl
theorem q_1174 : (Jvm.Cond.instanceMethod ({ cls := "LeafSweep$State", name := "launch", desc := "(III)Z" } : Jvm.MethodName)) ∈ mm_tbl := mm_tt4 52 rfl rfl
theorem q_1175 : (Jvm.Cond.selects "LeafSweep$State" ({ cls := "LeafSweep$State", name := "launch", desc := "(III)Z" } : Jvm.MethodName) ({ cls := "LeafSweep$State", name := "launch", desc := "(III)Z" } : Jvm.MethodName)) ∈ mm_tbl := mm_tt4 53 rfl rfl
theorem q_1176 : (Jvm.Cond.code ({ cls := "LeafSweep$State", name := "launch", desc := "(III)Z" } : Jvm.MethodName) prog_10_method_34_code (5 : Nat) (Option.some Jvm.ClassFile.FieldType.boolean)) ∈ mm_tbl := mm_tt4 54 rfl rfl
theorem q_1177 : (Jvm.Cond.methodLink "LeafSweep$State" (201 : Nat) ({ cls := "LeafSweep$State", name := "eligible", desc := "(III)I" } : Jvm.MethodName)) ∈ mm_tbl := mm_tt4 55 rfl rfl
theorem q_1178 : (Jvm.Cond.instanceMethod ({ cls := "LeafSweep$State", name := "eligible", desc := "(III)I" } : Jvm.MethodName)) ∈ mm_tbl := mm_tt4 56 rfl rfl
theorem q_1179 : (Jvm.Cond.selects "LeafSweep$State" ({ cls := "LeafSweep$State", name := "eligible", desc := "(III)I" } : Jvm.MethodName) ({ cls := "LeafSweep$State", name := "eligible", desc := "(III)I" } : Jvm.MethodName)) ∈ mm_tbl := mm_tt4 57 rfl rfl
theorem q_1180 : (Jvm.Cond.code ({ cls := "LeafSweep$State", name := "eligible", desc := "(III)I" } : Jvm.MethodName) prog_10_method_13_code (9 : Nat) (Option.some Jvm.ClassFile.FieldType.int)) ∈ mm_tbl := mm_tt4 58 rfl rfl
theorem q_1181 : (Jvm.Cond.methodLink "LeafSweep$State" (188 : Nat) ({ cls := "LeafSweep$Rows", name := "visible", desc := "()I" } : Jvm.MethodName)) ∈ mm_tbl := mm_tt4 59 rfl rfl
theorem q_1182 : (Jvm.Cond.methodLink "LeafSweep$State" (294 : Nat) ({ cls := "LeafSweep$State", name := "hindering", desc := "(I)I" } : Jvm.MethodName)) ∈ mm_tbl := mm_tt4 60 rfl rfl
theorem q_1183 : (Jvm.Cond.instanceMethod ({ cls := "LeafSweep$State", name := "hindering", desc := "(I)I" } : Jvm.MethodName)) ∈ mm_tbl := mm_tt4 61 rfl rfl
theorem q_1184 : (Jvm.Cond.selects "LeafSweep$State" ({ cls := "LeafSweep$State", name := "hindering", desc := "(I)I" } : Jvm.MethodName) ({ cls := "LeafSweep$State", name := "hindering", desc := "(I)I" } : Jvm.MethodName)) ∈ mm_tbl := mm_tt4 62 rfl rfl
theorem q_1185 : (Jvm.Cond.code ({ cls := "LeafSweep$State", name := "hindering", desc := "(I)I" } : Jvm.MethodName) prog_10_method_17_code (5 : Nat) (Option.some Jvm.ClassFile.FieldType.int)) ∈ mm_tbl := mm_tt4 63 rfl rfl
theorem q_1186 : (Jvm.Cond.methodLink "LeafSweep$State" (215 : Nat) ({ cls := "LeafSweep$Points", name := "isFirm", desc := "(I)Z" } : Jvm.MethodName)) ∈ mm_tbl := mm_tt4 64 rfl rfl
theorem q_1187 : (Jvm.Cond.instanceMethod ({ cls := "LeafSweep$Points", name := "isFirm", desc := "(I)Z" } : Jvm.MethodName)) ∈ mm_tbl := mm_tt4 65 rfl rfl
theorem q_1188 : (Jvm.Cond.selects "LeafSweep$Points" ({ cls := "LeafSweep$Points", name := "isFirm", desc := "(I)Z" } : Jvm.MethodName) ({ cls := "LeafSweep$Points", name := "isFirm", desc := "(I)Z" } : Jvm.MethodName)) ∈ mm_tbl := mm_tt4 66 rfl rfl
theorem q_1189 : (Jvm.Cond.code ({ cls := "LeafSweep$Points", name := "isFirm", desc := "(I)Z" } : Jvm.MethodName) prog_7_method_8_code (2 : Nat) (Option.some Jvm.ClassFile.FieldType.boolean)) ∈ mm_tbl := mm_tt4 67 rfl rfl
theorem q_1190 : (Jvm.Cond.methodLink "LeafSweep$State" (297 : Nat) ({ cls := "LeafSweep$State", name := "loosenForJob", desc := "()V" } : Jvm.MethodName)) ∈ mm_tbl := mm_tt4 68 rfl rfl
theorem q_1192 : (Jvm.Cond.instanceMethod ({ cls := "LeafSweep$State", name := "loosenForJob", desc := "()V" } : Jvm.MethodName)) ∈ mm_tbl := mm_tt4 70 rfl rfl
theorem q_1193 : (Jvm.Cond.code ({ cls := "LeafSweep$State", name := "loosenForJob", desc := "()V" } : Jvm.MethodName) prog_10_method_35_code (3 : Nat) (Option.none : Option Jvm.ClassFile.FieldType)) ∈ mm_tbl := mm_tt4 71 rfl rfl
theorem q_1194 : (Jvm.Cond.methodLink "LeafSweep$State" (303 : Nat) ({ cls := "LeafSweep$Points", name := "forgetBefore", desc := "()V" } : Jvm.MethodName)) ∈ mm_tbl := mm_tt4 72 rfl rfl
theorem q_1195 : (Jvm.Cond.instanceMethod ({ cls := "LeafSweep$Points", name := "forgetBefore", desc := "()V" } : Jvm.MethodName)) ∈ mm_tbl := mm_tt4 73 rfl rfl
theorem q_1196 : (Jvm.Cond.selects "LeafSweep$Points" ({ cls := "LeafSweep$Points", name := "forgetBefore", desc := "()V" } : Jvm.MethodName) ({ cls := "LeafSweep$Points", name := "forgetBefore", desc := "()V" } : Jvm.MethodName)) ∈ mm_tbl := mm_tt4 74 rfl rfl
theorem q_1197 : (Jvm.Cond.code ({ cls := "LeafSweep$Points", name := "forgetBefore", desc := "()V" } : Jvm.MethodName) prog_7_method_12_code (2 : Nat) (Option.none : Option Jvm.ClassFile.FieldType)) ∈ mm_tbl := mm_tt4 75 rfl rfl
theorem q_1198 : (Jvm.Cond.methodLink "LeafSweep$State" (309 : Nat) ({ cls := "LeafSweep$Points", name := "loosen", desc := "(I)V" } : Jvm.MethodName)) ∈ mm_tbl := mm_tt4 76 rfl rfl
theorem q_1199 : (Jvm.Cond.methodLink "LeafSweep$State" (300 : Nat) ({ cls := "LeafSweep$State", name := "comeTo", desc := "(I)V" } : Jvm.MethodName)) ∈ mm_tbl := mm_tt4 77 rfl rfl
theorem q_1201 : (Jvm.Cond.instanceMethod ({ cls := "LeafSweep$State", name := "comeTo", desc := "(I)V" } : Jvm.MethodName)) ∈ mm_tbl := mm_tt4 79 rfl rfl
theorem q_1202 : (Jvm.Cond.code ({ cls := "LeafSweep$State", name := "comeTo", desc := "(I)V" } : Jvm.MethodName) prog_10_method_36_code (6 : Nat) (Option.none : Option Jvm.ClassFile.FieldType)) ∈ mm_tbl := mm_tt4 80 rfl rfl
theorem q_1203 : (Jvm.Cond.methodLink "LeafSweep$State" (318 : Nat) ({ cls := "LeafSweep$Leaves", name := "passCost", desc := "(I)I" } : Jvm.MethodName)) ∈ mm_tbl := mm_tt4 81 rfl rfl
theorem q_1204 : (Jvm.Cond.instanceMethod ({ cls := "LeafSweep$Leaves", name := "passCost", desc := "(I)I" } : Jvm.MethodName)) ∈ mm_tbl := mm_tt4 82 rfl rfl
theorem q_1205 : (Jvm.Cond.selects "LeafSweep$Leaves" ({ cls := "LeafSweep$Leaves", name := "passCost", desc := "(I)I" } : Jvm.MethodName) ({ cls := "LeafSweep$Leaves", name := "passCost", desc := "(I)I" } : Jvm.MethodName)) ∈ mm_tbl := mm_tt4 83 rfl rfl
theorem q_1206 : (Jvm.Cond.code ({ cls := "LeafSweep$Leaves", name := "passCost", desc := "(I)I" } : Jvm.MethodName) prog_4_method_23_code (8 : Nat) (Option.some Jvm.ClassFile.FieldType.int)) ∈ mm_tbl := mm_tt4 84 rfl rfl
theorem q_1207 : (Jvm.Cond.methodLink "LeafSweep$Leaves" (67 : Nat) ({ cls := "LeafSweep$Leaves", name := "height", desc := "()I" } : Jvm.MethodName)) ∈ mm_tbl := mm_tt4 85 rfl rfl
theorem q_1208 : (Jvm.Cond.methodLink "LeafSweep$State" (321 : Nat) ({ cls := "LeafSweep$Leaves", name := "probeCost", desc := "(I)I" } : Jvm.MethodName)) ∈ mm_tbl := mm_tt4 86 rfl rfl
theorem q_1209 : (Jvm.Cond.instanceMethod ({ cls := "LeafSweep$Leaves", name := "probeCost", desc := "(I)I" } : Jvm.MethodName)) ∈ mm_tbl := mm_tt4 87 rfl rfl
theorem q_1210 : (Jvm.Cond.selects "LeafSweep$Leaves" ({ cls := "LeafSweep$Leaves", name := "probeCost", desc := "(I)I" } : Jvm.MethodName) ({ cls := "LeafSweep$Leaves", name := "probeCost", desc := "(I)I" } : Jvm.MethodName)) ∈ mm_tbl := mm_tt4 88 rfl rfl
theorem q_1211 : (Jvm.Cond.code ({ cls := "LeafSweep$Leaves", name := "probeCost", desc := "(I)I" } : Jvm.MethodName) prog_4_method_24_code (2 : Nat) (Option.some Jvm.ClassFile.FieldType.int)) ∈ mm_tbl := mm_tt4 89 rfl rfl
theorem q_1212 : (Jvm.Cond.methodLink "LeafSweep$Leaves" (71 : Nat) ({ cls := "LeafSweep$Leaves", name := "rowBits", desc := "()I" } : Jvm.MethodName)) ∈ mm_tbl := mm_tt4 90 rfl rfl
theorem q_1213 : (Jvm.Cond.methodLink "LeafSweep$Leaves" (74 : Nat) ({ cls := "java/lang/Integer", name := "bitCount", desc := "(I)I" } : Jvm.MethodName)) ∈ mm_tbl := mm_tt4 91 rfl rfl
theorem q_1214 : (Jvm.Cond.static ({ cls := "java/lang/Integer", name := "bitCount", desc := "(I)I" } : Jvm.MethodName)) ∈ mm_tbl := mm_tt4 92 rfl rfl
theorem q_1215 : (Jvm.Cond.code ({ cls := "java/lang/Integer", name := "bitCount", desc := "(I)I" } : Jvm.MethodName) prog_19_method_49_code (1 : Nat) (Option.some Jvm.ClassFile.FieldType.int)) ∈ mm_tbl := mm_tt4 93 rfl rfl
theorem q_1216 : (Jvm.Cond.constant "java/lang/Integer" (265 : Nat) (1431655765 : Int32)) ∈ mm_tbl := mm_tt4 94 rfl rfl
theorem q_1217 : (Jvm.Cond.constant "java/lang/Integer" (266 : Nat) (858993459 : Int32)) ∈ mm_tbl := mm_tt4 95 rfl rfl
theorem q_1218 : (Jvm.Cond.constant "java/lang/Integer" (267 : Nat) (252645135 : Int32)) ∈ mm_tbl := mm_tt4 96 rfl rfl
theorem q_1219 : (Jvm.Cond.methodLink "LeafSweep$State" (324 : Nat) ({ cls := "java/lang/Math", name := "min", desc := "(II)I" } : Jvm.MethodName)) ∈ mm_tbl := mm_tt4 97 rfl rfl
theorem q_1220 : (Jvm.Cond.static ({ cls := "java/lang/Math", name := "min", desc := "(II)I" } : Jvm.MethodName)) ∈ mm_tbl := mm_tt4 98 rfl rfl
theorem q_1221 : (Jvm.Cond.code ({ cls := "java/lang/Math", name := "min", desc := "(II)I" } : Jvm.MethodName) prog_20_method_69_code (2 : Nat) (Option.some Jvm.ClassFile.FieldType.int)) ∈ mm_tbl := mm_tt4 99 rfl rfl
theorem q_1222 : (Jvm.Cond.methodLink "LeafSweep" (205 : Nat) ({ cls := "java/lang/Integer", name := "bitCount", desc := "(I)I" } : Jvm.MethodName)) ∈ mm_tbl := mm_tt4 100 rfl rfl
theorem q_1224 : (Jvm.Cond.instanceMethod ({ cls := "LeafSweep", name := "step", desc := "()I" } : Jvm.MethodName)) ∈ mm_tbl := mm_tt4 102 rfl rfl
theorem q_1225 : (Jvm.Cond.selects "LeafSweep" ({ cls := "LeafSweep", name := "step", desc := "()I" } : Jvm.MethodName) ({ cls := "LeafSweep", name := "step", desc := "()I" } : Jvm.MethodName)) ∈ mm_tbl := mm_tt4 103 rfl rfl
theorem q_1226 : (Jvm.Cond.code ({ cls := "LeafSweep", name := "step", desc := "()I" } : Jvm.MethodName) prog_1_method_15_code (2 : Nat) (Option.some Jvm.ClassFile.FieldType.int)) ∈ mm_tbl := mm_tt4 104 rfl rfl
theorem q_1227 : (Jvm.Cond.methodLink "LeafSweep" (210 : Nat) ({ cls := "LeafSweep$State", name := "advance", desc := "()I" } : Jvm.MethodName)) ∈ mm_tbl := mm_tt4 105 rfl rfl
theorem q_1228 : (Jvm.Cond.instanceMethod ({ cls := "LeafSweep$State", name := "advance", desc := "()I" } : Jvm.MethodName)) ∈ mm_tbl := mm_tt4 106 rfl rfl
theorem q_1229 : (Jvm.Cond.selects "LeafSweep$State" ({ cls := "LeafSweep$State", name := "advance", desc := "()I" } : Jvm.MethodName) ({ cls := "LeafSweep$State", name := "advance", desc := "()I" } : Jvm.MethodName)) ∈ mm_tbl := mm_tt4 107 rfl rfl
theorem q_1230 : (Jvm.Cond.code ({ cls := "LeafSweep$State", name := "advance", desc := "()I" } : Jvm.MethodName) prog_10_method_37_code (4 : Nat) (Option.some Jvm.ClassFile.FieldType.int)) ∈ mm_tbl := mm_tt4 108 rfl rfl
theorem q_1231 : (Jvm.Cond.methodLink "LeafSweep$State" (333 : Nat) ({ cls := "LeafSweep$Job", name := "isRunning", desc := "()Z" } : Jvm.MethodName)) ∈ mm_tbl := mm_tt4 109 rfl rfl
theorem q_1232 : (Jvm.Cond.instanceMethod ({ cls := "LeafSweep$Job", name := "isRunning", desc := "()Z" } : Jvm.MethodName)) ∈ mm_tbl := mm_tt4 110 rfl rfl
theorem q_1233 : (Jvm.Cond.selects "LeafSweep$Job" ({ cls := "LeafSweep$Job", name := "isRunning", desc := "()Z" } : Jvm.MethodName) ({ cls := "LeafSweep$Job", name := "isRunning", desc := "()Z" } : Jvm.MethodName)) ∈ mm_tbl := mm_tt4 111 rfl rfl
theorem q_1234 : (Jvm.Cond.code ({ cls := "LeafSweep$Job", name := "isRunning", desc := "()Z" } : Jvm.MethodName) prog_3_method_5_code (1 : Nat) (Option.some Jvm.ClassFile.FieldType.boolean)) ∈ mm_tbl := mm_tt4 112 rfl rfl
theorem q_1235 : (Jvm.Cond.methodLink "LeafSweep$State" (336 : Nat) ({ cls := "LeafSweep$State", name := "endJob", desc := "()V" } : Jvm.MethodName)) ∈ mm_tbl := mm_tt4 113 rfl rfl
theorem q_1237 : (Jvm.Cond.instanceMethod ({ cls := "LeafSweep$State", name := "endJob", desc := "()V" } : Jvm.MethodName)) ∈ mm_tbl := mm_tt4 115 rfl rfl
theorem q_1238 : (Jvm.Cond.code ({ cls := "LeafSweep$State", name := "endJob", desc := "()V" } : Jvm.MethodName) prog_10_method_39_code (1 : Nat) (Option.none : Option Jvm.ClassFile.FieldType)) ∈ mm_tbl := mm_tt4 116 rfl rfl
theorem q_1239 : (Jvm.Cond.methodLink "LeafSweep$State" (339 : Nat) ({ cls := "LeafSweep$Leaves", name := "leftAt", desc := "(III)I" } : Jvm.MethodName)) ∈ mm_tbl := mm_tt4 117 rfl rfl
theorem q_1240 : (Jvm.Cond.instanceMethod ({ cls := "LeafSweep$Leaves", name := "leftAt", desc := "(III)I" } : Jvm.MethodName)) ∈ mm_tbl := mm_tt4 118 rfl rfl
theorem q_1241 : (Jvm.Cond.selects "LeafSweep$Leaves" ({ cls := "LeafSweep$Leaves", name := "leftAt", desc := "(III)I" } : Jvm.MethodName) ({ cls := "LeafSweep$Leaves", name := "leftAt", desc := "(III)I" } : Jvm.MethodName)) ∈ mm_tbl := mm_tt4 119 rfl rfl
theorem q_1242 : (Jvm.Cond.code ({ cls := "LeafSweep$Leaves", name := "leftAt", desc := "(III)I" } : Jvm.MethodName) prog_4_method_27_code (9 : Nat) (Option.some Jvm.ClassFile.FieldType.int)) ∈ mm_tbl := mm_tt4 120 rfl rfl
theorem q_1243 : (Jvm.Cond.methodLink "LeafSweep$State" (342 : Nat) ({ cls := "LeafSweep$Leaves", name := "codeWith", desc := "(I)I" } : Jvm.MethodName)) ∈ mm_tbl := mm_tt4 121 rfl rfl
theorem q_1244 : (Jvm.Cond.instanceMethod ({ cls := "LeafSweep$Leaves", name := "codeWith", desc := "(I)I" } : Jvm.MethodName)) ∈ mm_tbl := mm_tt4 122 rfl rfl
theorem q_1245 : (Jvm.Cond.selects "LeafSweep$Leaves" ({ cls := "LeafSweep$Leaves", name := "codeWith", desc := "(I)I" } : Jvm.MethodName) ({ cls := "LeafSweep$Leaves", name := "codeWith", desc := "(I)I" } : Jvm.MethodName)) ∈ mm_tbl := mm_tt4 123 rfl rfl
theorem q_1246 : (Jvm.Cond.code ({ cls := "LeafSweep$Leaves", name := "codeWith", desc := "(I)I" } : Jvm.MethodName) prog_4_method_28_code (3 : Nat) (Option.some Jvm.ClassFile.FieldType.int)) ∈ mm_tbl := mm_tt4 124 rfl rfl
theorem q_1247 : (Jvm.Cond.methodLink "LeafSweep$State" (348 : Nat) ({ cls := "LeafSweep$Job", name := "writeRecord", desc := "(I)V" } : Jvm.MethodName)) ∈ mm_tbl := mm_tt4 125 rfl rfl
theorem q_1248 : (Jvm.Cond.instanceMethod ({ cls := "LeafSweep$Job", name := "writeRecord", desc := "(I)V" } : Jvm.MethodName)) ∈ mm_tbl := mm_tt4 126 rfl rfl
theorem q_1249 : (Jvm.Cond.selects "LeafSweep$Job" ({ cls := "LeafSweep$Job", name := "writeRecord", desc := "(I)V" } : Jvm.MethodName) ({ cls := "LeafSweep$Job", name := "writeRecord", desc := "(I)V" } : Jvm.MethodName)) ∈ mm_tbl := mm_tt4 127 rfl rfl
theorem q_1250 : (Jvm.Cond.code ({ cls := "LeafSweep$Job", name := "writeRecord", desc := "(I)V" } : Jvm.MethodName) prog_3_method_7_code (2 : Nat) (Option.none : Option Jvm.ClassFile.FieldType)) ∈ mm_tbl := mm_tt4 128 rfl rfl
theorem q_1251 : (Jvm.Cond.methodLink "LeafSweep$State" (351 : Nat) ({ cls := "LeafSweep$State", name := "carryOut", desc := "()V" } : Jvm.MethodName)) ∈ mm_tbl := mm_tt4 129 rfl rfl
theorem q_1253 : (Jvm.Cond.instanceMethod ({ cls := "LeafSweep$State", name := "carryOut", desc := "()V" } : Jvm.MethodName)) ∈ mm_tbl := mm_tt4 131 rfl rfl
theorem q_1254 : (Jvm.Cond.code ({ cls := "LeafSweep$State", name := "carryOut", desc := "()V" } : Jvm.MethodName) prog_10_method_40_code (7 : Nat) (Option.none : Option Jvm.ClassFile.FieldType)) ∈ mm_tbl := mm_tt4 132 rfl rfl
theorem q_1256 : (Jvm.Cond.instanceMethod ({ cls := "LeafSweep", name := "stop", desc := "()Z" } : Jvm.MethodName)) ∈ mm_tbl := mm_tt4 134 rfl rfl
theorem q_1257 : (Jvm.Cond.selects "LeafSweep" ({ cls := "LeafSweep", name := "stop", desc := "()Z" } : Jvm.MethodName) ({ cls := "LeafSweep", name := "stop", desc := "()Z" } : Jvm.MethodName)) ∈ mm_tbl := mm_tt4 135 rfl rfl
theorem q_1258 : (Jvm.Cond.code ({ cls := "LeafSweep", name := "stop", desc := "()Z" } : Jvm.MethodName) prog_1_method_16_code (1 : Nat) (Option.some Jvm.ClassFile.FieldType.boolean)) ∈ mm_tbl := mm_tt4 136 rfl rfl
theorem q_1259 : (Jvm.Cond.methodLink "LeafSweep" (213 : Nat) ({ cls := "LeafSweep$State", name := "halt", desc := "()Z" } : Jvm.MethodName)) ∈ mm_tbl := mm_tt4 137 rfl rfl
theorem q_1260 : (Jvm.Cond.instanceMethod ({ cls := "LeafSweep$State", name := "halt", desc := "()Z" } : Jvm.MethodName)) ∈ mm_tbl := mm_tt4 138 rfl rfl
theorem q_1261 : (Jvm.Cond.selects "LeafSweep$State" ({ cls := "LeafSweep$State", name := "halt", desc := "()Z" } : Jvm.MethodName) ({ cls := "LeafSweep$State", name := "halt", desc := "()Z" } : Jvm.MethodName)) ∈ mm_tbl := mm_tt4 139 rfl rfl
theorem q_1262 : (Jvm.Cond.code ({ cls := "LeafSweep$State", name := "halt", desc := "()Z" } : Jvm.MethodName) prog_10_method_41_code (1 : Nat) (Option.some Jvm.ClassFile.FieldType.boolean)) ∈ mm_tbl := mm_tt4 140 rfl rfl
theorem q_1263 : (Jvm.Cond.methodLink "LeafSweep$State" (363 : Nat) ({ cls := "LeafSweep$State", name := "wouldDouble", desc := "()Z" } : Jvm.MethodName)) ∈ mm_tbl := mm_tt4 141 rfl rfl
theorem q_1265 : (Jvm.Cond.instanceMethod ({ cls := "LeafSweep$State", name := "wouldDouble", desc := "()Z" } : Jvm.MethodName)) ∈ mm_tbl := mm_tt4 143 rfl rfl
theorem q_1266 : (Jvm.Cond.code ({ cls := "LeafSweep$State", name := "wouldDouble", desc := "()Z" } : Jvm.MethodName) prog_10_method_42_code (5 : Nat) (Option.some Jvm.ClassFile.FieldType.boolean)) ∈ mm_tbl := mm_tt4 144 rfl rfl
theorem q_1267 : (Jvm.Cond.methodLink "LeafSweep$State" (366 : Nat) ({ cls := "LeafSweep$Points", name := "bringBack", desc := "()V" } : Jvm.MethodName)) ∈ mm_tbl := mm_tt4 145 rfl rfl
theorem q_1268 : (Jvm.Cond.instanceMethod ({ cls := "LeafSweep$Points", name := "bringBack", desc := "()V" } : Jvm.MethodName)) ∈ mm_tbl := mm_tt4 146 rfl rfl
theorem q_1269 : (Jvm.Cond.selects "LeafSweep$Points" ({ cls := "LeafSweep$Points", name := "bringBack", desc := "()V" } : Jvm.MethodName) ({ cls := "LeafSweep$Points", name := "bringBack", desc := "()V" } : Jvm.MethodName)) ∈ mm_tbl := mm_tt4 147 rfl rfl
theorem q_1270 : (Jvm.Cond.code ({ cls := "LeafSweep$Points", name := "bringBack", desc := "()V" } : Jvm.MethodName) prog_7_method_13_code (2 : Nat) (Option.none : Option Jvm.ClassFile.FieldType)) ∈ mm_tbl := mm_tt4 148 rfl rfl
theorem q_1271 : (Jvm.Cond.methodLink "LeafSweep$Points" (42 : Nat) ({ cls := "LeafSweep$Points", name := "forgetBefore", desc := "()V" } : Jvm.MethodName)) ∈ mm_tbl := mm_tt4 149 rfl rfl
theorem q_1273 : (Jvm.Cond.instanceMethod ({ cls := "LeafSweep", name := "crash", desc := "()I" } : Jvm.MethodName)) ∈ mm_tbl := mm_tt4 151 rfl rfl
theorem q_1274 : (Jvm.Cond.selects "LeafSweep" ({ cls := "LeafSweep", name := "crash", desc := "()I" } : Jvm.MethodName) ({ cls := "LeafSweep", name := "crash", desc := "()I" } : Jvm.MethodName)) ∈ mm_tbl := mm_tt4 152 rfl rfl
theorem q_1275 : (Jvm.Cond.code ({ cls := "LeafSweep", name := "crash", desc := "()I" } : Jvm.MethodName) prog_1_method_17_code (2 : Nat) (Option.some Jvm.ClassFile.FieldType.int)) ∈ mm_tbl := mm_tt4 153 rfl rfl
theorem q_1276 : (Jvm.Cond.methodLink "LeafSweep" (217 : Nat) ({ cls := "LeafSweep$State", name := "fall", desc := "()I" } : Jvm.MethodName)) ∈ mm_tbl := mm_tt4 154 rfl rfl
theorem q_1277 : (Jvm.Cond.instanceMethod ({ cls := "LeafSweep$State", name := "fall", desc := "()I" } : Jvm.MethodName)) ∈ mm_tbl := mm_tt4 155 rfl rfl
theorem q_1278 : (Jvm.Cond.selects "LeafSweep$State" ({ cls := "LeafSweep$State", name := "fall", desc := "()I" } : Jvm.MethodName) ({ cls := "LeafSweep$State", name := "fall", desc := "()I" } : Jvm.MethodName)) ∈ mm_tbl := mm_tt4 156 rfl rfl
theorem q_1279 : (Jvm.Cond.code ({ cls := "LeafSweep$State", name := "fall", desc := "()I" } : Jvm.MethodName) prog_10_method_43_code (2 : Nat) (Option.some Jvm.ClassFile.FieldType.int)) ∈ mm_tbl := mm_tt4 157 rfl rfl
theorem q_1281 : (Jvm.Cond.instanceMethod ({ cls := "LeafSweep", name := "resume", desc := "()I" } : Jvm.MethodName)) ∈ mm_tbl := mm_tt4 159 rfl rfl
theorem q_1282 : (Jvm.Cond.selects "LeafSweep" ({ cls := "LeafSweep", name := "resume", desc := "()I" } : Jvm.MethodName) ({ cls := "LeafSweep", name := "resume", desc := "()I" } : Jvm.MethodName)) ∈ mm_tbl := mm_tt4 160 rfl rfl
theorem q_1283 : (Jvm.Cond.code ({ cls := "LeafSweep", name := "resume", desc := "()I" } : Jvm.MethodName) prog_1_method_18_code (1 : Nat) (Option.some Jvm.ClassFile.FieldType.int)) ∈ mm_tbl := mm_tt4 161 rfl rfl
theorem q_1284 : (Jvm.Cond.methodLink "LeafSweep" (220 : Nat) ({ cls := "LeafSweep$State", name := "rise", desc := "()Z" } : Jvm.MethodName)) ∈ mm_tbl := mm_tt4 162 rfl rfl
theorem q_1285 : (Jvm.Cond.instanceMethod ({ cls := "LeafSweep$State", name := "rise", desc := "()Z" } : Jvm.MethodName)) ∈ mm_tbl := mm_tt4 163 rfl rfl
theorem q_1286 : (Jvm.Cond.selects "LeafSweep$State" ({ cls := "LeafSweep$State", name := "rise", desc := "()Z" } : Jvm.MethodName) ({ cls := "LeafSweep$State", name := "rise", desc := "()Z" } : Jvm.MethodName)) ∈ mm_tbl := mm_tt4 164 rfl rfl
theorem q_1287 : (Jvm.Cond.code ({ cls := "LeafSweep$State", name := "rise", desc := "()Z" } : Jvm.MethodName) prog_10_method_44_code (1 : Nat) (Option.some Jvm.ClassFile.FieldType.boolean)) ∈ mm_tbl := mm_tt4 165 rfl rfl
theorem q_1288 : (Jvm.Cond.methodLink "LeafSweep$State" (372 : Nat) ({ cls := "LeafSweep$Leaves", name := "costOf", desc := "(II)I" } : Jvm.MethodName)) ∈ mm_tbl := mm_tt4 166 rfl rfl
theorem q_1289 : (Jvm.Cond.instanceMethod ({ cls := "LeafSweep$Leaves", name := "costOf", desc := "(II)I" } : Jvm.MethodName)) ∈ mm_tbl := mm_tt4 167 rfl rfl
theorem q_1290 : (Jvm.Cond.selects "LeafSweep$Leaves" ({ cls := "LeafSweep$Leaves", name := "costOf", desc := "(II)I" } : Jvm.MethodName) ({ cls := "LeafSweep$Leaves", name := "costOf", desc := "(II)I" } : Jvm.MethodName)) ∈ mm_tbl := mm_tt4 168 rfl rfl
theorem q_1291 : (Jvm.Cond.code ({ cls := "LeafSweep$Leaves", name := "costOf", desc := "(II)I" } : Jvm.MethodName) prog_4_method_26_code (3 : Nat) (Option.some Jvm.ClassFile.FieldType.int)) ∈ mm_tbl := mm_tt4 169 rfl rfl
theorem q_1292 : (Jvm.Cond.methodLink "LeafSweep$Leaves" (79 : Nat) ({ cls := "LeafSweep$Leaves", name := "passCost", desc := "(I)I" } : Jvm.MethodName)) ∈ mm_tbl := mm_tt4 170 rfl rfl
theorem q_1293 : (Jvm.Cond.methodLink "LeafSweep$Leaves" (82 : Nat) ({ cls := "LeafSweep$Leaves", name := "probeCost", desc := "(I)I" } : Jvm.MethodName)) ∈ mm_tbl := mm_tt4 171 rfl rfl
theorem q_1294 : (Jvm.Cond.methodLink "LeafSweep" (223 : Nat) ({ cls := "LeafSweep$State", name := "leftWhereAt", desc := "()I" } : Jvm.MethodName)) ∈ mm_tbl := mm_tt4 172 rfl rfl
theorem q_1295 : (Jvm.Cond.instanceMethod ({ cls := "LeafSweep$State", name := "leftWhereAt", desc := "()I" } : Jvm.MethodName)) ∈ mm_tbl := mm_tt4 173 rfl rfl
theorem q_1296 : (Jvm.Cond.selects "LeafSweep$State" ({ cls := "LeafSweep$State", name := "leftWhereAt", desc := "()I" } : Jvm.MethodName) ({ cls := "LeafSweep$State", name := "leftWhereAt", desc := "()I" } : Jvm.MethodName)) ∈ mm_tbl := mm_tt4 174 rfl rfl
theorem q_1297 : (Jvm.Cond.code ({ cls := "LeafSweep$State", name := "leftWhereAt", desc := "()I" } : Jvm.MethodName) prog_10_method_16_code (2 : Nat) (Option.some Jvm.ClassFile.FieldType.int)) ∈ mm_tbl := mm_tt4 175 rfl rfl
theorem q_1298 : (Jvm.Cond.methodLink "LeafSweep$State" (210 : Nat) ({ cls := "java/lang/Integer", name := "bitCount", desc := "(I)I" } : Jvm.MethodName)) ∈ mm_tbl := mm_tt4 176 rfl rfl
theorem q_1300 : (Jvm.Cond.instanceMethod ({ cls := "LeafSweep", name := "pack", desc := "(I)I" } : Jvm.MethodName)) ∈ mm_tbl := mm_tt4 178 rfl rfl
theorem q_1301 : (Jvm.Cond.selects "LeafSweep" ({ cls := "LeafSweep", name := "pack", desc := "(I)I" } : Jvm.MethodName) ({ cls := "LeafSweep", name := "pack", desc := "(I)I" } : Jvm.MethodName)) ∈ mm_tbl := mm_tt4 179 rfl rfl
theorem q_1302 : (Jvm.Cond.code ({ cls := "LeafSweep", name := "pack", desc := "(I)I" } : Jvm.MethodName) prog_1_method_19_code (3 : Nat) (Option.some Jvm.ClassFile.FieldType.int)) ∈ mm_tbl := mm_tt4 180 rfl rfl
theorem q_1303 : (Jvm.Cond.methodLink "LeafSweep" (226 : Nat) ({ cls := "LeafSweep$State", name := "join", desc := "(I)I" } : Jvm.MethodName)) ∈ mm_tbl := mm_tt4 181 rfl rfl
theorem q_1304 : (Jvm.Cond.instanceMethod ({ cls := "LeafSweep$State", name := "join", desc := "(I)I" } : Jvm.MethodName)) ∈ mm_tbl := mm_tt4 182 rfl rfl
theorem q_1305 : (Jvm.Cond.selects "LeafSweep$State" ({ cls := "LeafSweep$State", name := "join", desc := "(I)I" } : Jvm.MethodName) ({ cls := "LeafSweep$State", name := "join", desc := "(I)I" } : Jvm.MethodName)) ∈ mm_tbl := mm_tt4 183 rfl rfl
theorem q_1306 : (Jvm.Cond.code ({ cls := "LeafSweep$State", name := "join", desc := "(I)I" } : Jvm.MethodName) prog_10_method_45_code (2 : Nat) (Option.some Jvm.ClassFile.FieldType.int)) ∈ mm_tbl := mm_tt4 184 rfl rfl
theorem q_1307 : (Jvm.Cond.methodLink "LeafSweep$State" (375 : Nat) ({ cls := "LeafSweep$Leaves", name := "takeTogether", desc := "()I" } : Jvm.MethodName)) ∈ mm_tbl := mm_tt4 185 rfl rfl
theorem q_1308 : (Jvm.Cond.instanceMethod ({ cls := "LeafSweep$Leaves", name := "takeTogether", desc := "()I" } : Jvm.MethodName)) ∈ mm_tbl := mm_tt4 186 rfl rfl
theorem q_1309 : (Jvm.Cond.selects "LeafSweep$Leaves" ({ cls := "LeafSweep$Leaves", name := "takeTogether", desc := "()I" } : Jvm.MethodName) ({ cls := "LeafSweep$Leaves", name := "takeTogether", desc := "()I" } : Jvm.MethodName)) ∈ mm_tbl := mm_tt4 187 rfl rfl
theorem q_1310 : (Jvm.Cond.code ({ cls := "LeafSweep$Leaves", name := "takeTogether", desc := "()I" } : Jvm.MethodName) prog_4_method_17_code (4 : Nat) (Option.some Jvm.ClassFile.FieldType.int)) ∈ mm_tbl := mm_tt4 188 rfl rfl
theorem q_1311 : (Jvm.Cond.methodLink "LeafSweep$Leaves" (52 : Nat) ({ cls := "java/lang/Math", name := "min", desc := "(II)I" } : Jvm.MethodName)) ∈ mm_tbl := mm_tt4 189 rfl rfl
theorem q_1313 : (Jvm.Cond.instanceMethod ({ cls := "LeafSweep", name := "undo", desc := "()Z" } : Jvm.MethodName)) ∈ mm_tbl := mm_tt4 191 rfl rfl
theorem q_1314 : (Jvm.Cond.selects "LeafSweep" ({ cls := "LeafSweep", name := "undo", desc := "()Z" } : Jvm.MethodName) ({ cls := "LeafSweep", name := "undo", desc := "()Z" } : Jvm.MethodName)) ∈ mm_tbl := mm_tt4 192 rfl rfl
theorem q_1315 : (Jvm.Cond.code ({ cls := "LeafSweep", name := "undo", desc := "()Z" } : Jvm.MethodName) prog_1_method_20_code (3 : Nat) (Option.some Jvm.ClassFile.FieldType.boolean)) ∈ mm_tbl := mm_tt4 193 rfl rfl
theorem q_1317 : (Jvm.Cond.instanceMethod ({ cls := "LeafSweep", name := "judged", desc := "(I)I" } : Jvm.MethodName)) ∈ mm_tbl := mm_tt4 195 rfl rfl
theorem q_1318 : (Jvm.Cond.selects "LeafSweep" ({ cls := "LeafSweep", name := "judged", desc := "(I)I" } : Jvm.MethodName) ({ cls := "LeafSweep", name := "judged", desc := "(I)I" } : Jvm.MethodName)) ∈ mm_tbl := mm_tt4 196 rfl rfl
theorem q_1319 : (Jvm.Cond.code ({ cls := "LeafSweep", name := "judged", desc := "(I)I" } : Jvm.MethodName) prog_1_method_21_code (4 : Nat) (Option.some Jvm.ClassFile.FieldType.int)) ∈ mm_tbl := mm_tt4 197 rfl rfl
theorem q_1320 : (Jvm.Cond.methodLink "LeafSweep" (229 : Nat) ({ cls := "LeafSweep$Lines", name := "play", desc := "(ILLeafSweep$State;)Z" } : Jvm.MethodName)) ∈ mm_tbl := mm_tt4 198 rfl rfl
theorem q_1321 : (Jvm.Cond.instanceMethod ({ cls := "LeafSweep$Lines", name := "play", desc := "(ILLeafSweep$State;)Z" } : Jvm.MethodName)) ∈ mm_tbl := mm_tt4 199 rfl rfl
theorem q_1322 : (Jvm.Cond.selects "LeafSweep$Lines" ({ cls := "LeafSweep$Lines", name := "play", desc := "(ILLeafSweep$State;)Z" } : Jvm.MethodName) ({ cls := "LeafSweep$Lines", name := "play", desc := "(ILLeafSweep$State;)Z" } : Jvm.MethodName)) ∈ mm_tbl := mm_tt4 200 rfl rfl
theorem q_1323 : (Jvm.Cond.code ({ cls := "LeafSweep$Lines", name := "play", desc := "(ILLeafSweep$State;)Z" } : Jvm.MethodName) prog_5_method_3_code (6 : Nat) (Option.some Jvm.ClassFile.FieldType.boolean)) ∈ mm_tbl := mm_tt4 201 rfl rfl
theorem q_1324 : (Jvm.Cond.methodLink "LeafSweep$Lines" (22 : Nat) ({ cls := "LeafSweep$State", name := "\x61dmit", desc := "(III)I" } : Jvm.MethodName)) ∈ mm_tbl := mm_tt4 202 rfl rfl
theorem q_1325 : (Jvm.Cond.methodLink "LeafSweep$Lines" (28 : Nat) ({ cls := "LeafSweep$State", name := "expel", desc := "(I)Z" } : Jvm.MethodName)) ∈ mm_tbl := mm_tt4 203 rfl rfl
theorem q_1326 : (Jvm.Cond.methodLink "LeafSweep$Lines" (32 : Nat) ({ cls := "LeafSweep$State", name := "amend", desc := "(III)Z" } : Jvm.MethodName)) ∈ mm_tbl := mm_tt4 204 rfl rfl
theorem q_1327 : (Jvm.Cond.methodLink "LeafSweep$Lines" (36 : Nat) ({ cls := "LeafSweep$State", name := "launch", desc := "(III)Z" } : Jvm.MethodName)) ∈ mm_tbl := mm_tt4 205 rfl rfl
theorem q_1328 : (Jvm.Cond.methodLink "LeafSweep$Lines" (39 : Nat) ({ cls := "LeafSweep$State", name := "advanceBy", desc := "(I)I" } : Jvm.MethodName)) ∈ mm_tbl := mm_tt4 206 rfl rfl
theorem q_1329 : (Jvm.Cond.instanceMethod ({ cls := "LeafSweep$State", name := "advanceBy", desc := "(I)I" } : Jvm.MethodName)) ∈ mm_tbl := mm_tt4 207 rfl rfl
theorem q_1330 : (Jvm.Cond.selects "LeafSweep$State" ({ cls := "LeafSweep$State", name := "advanceBy", desc := "(I)I" } : Jvm.MethodName) ({ cls := "LeafSweep$State", name := "advanceBy", desc := "(I)I" } : Jvm.MethodName)) ∈ mm_tbl := mm_tt4 208 rfl rfl
theorem q_1331 : (Jvm.Cond.code ({ cls := "LeafSweep$State", name := "advanceBy", desc := "(I)I" } : Jvm.MethodName) prog_10_method_38_code (3 : Nat) (Option.some Jvm.ClassFile.FieldType.int)) ∈ mm_tbl := mm_tt4 209 rfl rfl
theorem q_1332 : (Jvm.Cond.methodLink "LeafSweep$State" (354 : Nat) ({ cls := "LeafSweep$State", name := "advance", desc := "()I" } : Jvm.MethodName)) ∈ mm_tbl := mm_tt4 210 rfl rfl
theorem q_1333 : (Jvm.Cond.methodLink "LeafSweep$Lines" (43 : Nat) ({ cls := "LeafSweep$State", name := "halt", desc := "()Z" } : Jvm.MethodName)) ∈ mm_tbl := mm_tt4 211 rfl rfl
theorem q_1334 : (Jvm.Cond.methodLink "LeafSweep$Lines" (47 : Nat) ({ cls := "LeafSweep$State", name := "fall", desc := "()I" } : Jvm.MethodName)) ∈ mm_tbl := mm_tt4 212 rfl rfl
theorem q_1335 : (Jvm.Cond.methodLink "LeafSweep$Lines" (51 : Nat) ({ cls := "LeafSweep$State", name := "rise", desc := "()Z" } : Jvm.MethodName)) ∈ mm_tbl := mm_tt4 213 rfl rfl
theorem q_1336 : (Jvm.Cond.methodLink "LeafSweep$Lines" (54 : Nat) ({ cls := "LeafSweep$State", name := "join", desc := "(I)I" } : Jvm.MethodName)) ∈ mm_tbl := mm_tt4 214 rfl rfl
theorem q_1337 : (Jvm.Cond.methodLink "LeafSweep" (233 : Nat) ({ cls := "LeafSweep$Rows", name := "visible", desc := "()I" } : Jvm.MethodName)) ∈ mm_tbl := mm_tt4 215 rfl rfl
theorem q_1339 : (Jvm.Cond.instanceMethod ({ cls := "LeafSweep", name := "found", desc := "(II)I" } : Jvm.MethodName)) ∈ mm_tbl := mm_tt4 217 rfl rfl
theorem q_1340 : (Jvm.Cond.selects "LeafSweep" ({ cls := "LeafSweep", name := "found", desc := "(II)I" } : Jvm.MethodName) ({ cls := "LeafSweep", name := "found", desc := "(II)I" } : Jvm.MethodName)) ∈ mm_tbl := mm_tt4 218 rfl rfl
theorem q_1341 : (Jvm.Cond.code ({ cls := "LeafSweep", name := "found", desc := "(II)I" } : Jvm.MethodName) prog_1_method_22_code (3 : Nat) (Option.some Jvm.ClassFile.FieldType.int)) ∈ mm_tbl := mm_tt4 219 rfl rfl
theorem q_1342 : (Jvm.Cond.methodLink "LeafSweep" (239 : Nat) ({ cls := "LeafSweep$Rows", name := "having", desc := "(II)I" } : Jvm.MethodName)) ∈ mm_tbl := mm_tt4 220 rfl rfl
theorem q_1343 : (Jvm.Cond.methodLink "LeafSweep" (242 : Nat) ({ cls := "LeafSweep$State", name := "readable", desc := "(I)I" } : Jvm.MethodName)) ∈ mm_tbl := mm_tt4 221 rfl rfl
theorem q_1344 : (Jvm.Cond.instanceMethod ({ cls := "LeafSweep$State", name := "readable", desc := "(I)I" } : Jvm.MethodName)) ∈ mm_tbl := mm_tt4 222 rfl rfl
theorem q_1345 : (Jvm.Cond.selects "LeafSweep$State" ({ cls := "LeafSweep$State", name := "readable", desc := "(I)I" } : Jvm.MethodName) ({ cls := "LeafSweep$State", name := "readable", desc := "(I)I" } : Jvm.MethodName)) ∈ mm_tbl := mm_tt4 223 rfl rfl
theorem q_1346 : (Jvm.Cond.code ({ cls := "LeafSweep$State", name := "readable", desc := "(I)I" } : Jvm.MethodName) prog_10_method_8_code (4 : Nat) (Option.some Jvm.ClassFile.FieldType.int)) ∈ mm_tbl := mm_tt4 224 rfl rfl
theorem q_1347 : (Jvm.Cond.methodLink "LeafSweep$State" (155 : Nat) ({ cls := "LeafSweep$State", name := "belongs", desc := "(II)Z" } : Jvm.MethodName)) ∈ mm_tbl := mm_tt4 225 rfl rfl
theorem q_1348 : (Jvm.Cond.instanceMethod ({ cls := "LeafSweep$State", name := "belongs", desc := "(II)Z" } : Jvm.MethodName)) ∈ mm_tbl := mm_tt4 226 rfl rfl
theorem q_1349 : (Jvm.Cond.selects "LeafSweep$State" ({ cls := "LeafSweep$State", name := "belongs", desc := "(II)Z" } : Jvm.MethodName) ({ cls := "LeafSweep$State", name := "belongs", desc := "(II)Z" } : Jvm.MethodName)) ∈ mm_tbl := mm_tt4 227 rfl rfl
theorem q_1350 : (Jvm.Cond.code ({ cls := "LeafSweep$State", name := "belongs", desc := "(II)Z" } : Jvm.MethodName) prog_10_method_6_code (3 : Nat) (Option.some Jvm.ClassFile.FieldType.boolean)) ∈ mm_tbl := mm_tt4 228 rfl rfl
theorem q_1352 : (Jvm.Cond.instanceMethod ({ cls := "LeafSweep", name := "open", desc := "(II)Z" } : Jvm.MethodName)) ∈ mm_tbl := mm_tt4 230 rfl rfl
theorem q_1353 : (Jvm.Cond.selects "LeafSweep" ({ cls := "LeafSweep", name := "open", desc := "(II)Z" } : Jvm.MethodName) ({ cls := "LeafSweep", name := "open", desc := "(II)Z" } : Jvm.MethodName)) ∈ mm_tbl := mm_tt4 231 rfl rfl
theorem q_1354 : (Jvm.Cond.code ({ cls := "LeafSweep", name := "open", desc := "(II)Z" } : Jvm.MethodName) prog_1_method_23_code (3 : Nat) (Option.some Jvm.ClassFile.FieldType.boolean)) ∈ mm_tbl := mm_tt4 232 rfl rfl
theorem q_1356 : (Jvm.Cond.instanceMethod ({ cls := "LeafSweep", name := "fetch", desc := "()I" } : Jvm.MethodName)) ∈ mm_tbl := mm_tt4 234 rfl rfl
theorem q_1357 : (Jvm.Cond.selects "LeafSweep" ({ cls := "LeafSweep", name := "fetch", desc := "()I" } : Jvm.MethodName) ({ cls := "LeafSweep", name := "fetch", desc := "()I" } : Jvm.MethodName)) ∈ mm_tbl := mm_tt4 235 rfl rfl
theorem q_1358 : (Jvm.Cond.code ({ cls := "LeafSweep", name := "fetch", desc := "()I" } : Jvm.MethodName) prog_1_method_24_code (6 : Nat) (Option.some Jvm.ClassFile.FieldType.int)) ∈ mm_tbl := mm_tt4 236 rfl rfl
theorem q_1359 : (Jvm.Cond.methodLink "LeafSweep" (248 : Nat) ({ cls := "LeafSweep$State", name := "codeOf", desc := "(II)I" } : Jvm.MethodName)) ∈ mm_tbl := mm_tt4 237 rfl rfl
theorem q_1360 : (Jvm.Cond.instanceMethod ({ cls := "LeafSweep$State", name := "codeOf", desc := "(II)I" } : Jvm.MethodName)) ∈ mm_tbl := mm_tt4 238 rfl rfl
theorem q_1361 : (Jvm.Cond.selects "LeafSweep$State" ({ cls := "LeafSweep$State", name := "codeOf", desc := "(II)I" } : Jvm.MethodName) ({ cls := "LeafSweep$State", name := "codeOf", desc := "(II)I" } : Jvm.MethodName)) ∈ mm_tbl := mm_tt4 239 rfl rfl
theorem q_1362 : (Jvm.Cond.code ({ cls := "LeafSweep$State", name := "codeOf", desc := "(II)I" } : Jvm.MethodName) prog_10_method_7_code (3 : Nat) (Option.some Jvm.ClassFile.FieldType.int)) ∈ mm_tbl := mm_tt5 0 rfl rfl
theorem q_1363 : (Jvm.Cond.methodLink "LeafSweep" (251 : Nat) ({ cls := "LeafSweep", name := "isAheadOfKey", desc := "(I)Z" } : Jvm.MethodName)) ∈ mm_tbl := mm_tt5 1 rfl rfl
theorem q_1365 : (Jvm.Cond.instanceMethod ({ cls := "LeafSweep", name := "isAheadOfKey", desc := "(I)Z" } : Jvm.MethodName)) ∈ mm_tbl := mm_tt5 3 rfl rfl
theorem q_1366 : (Jvm.Cond.code ({ cls := "LeafSweep", name := "isAheadOfKey", desc := "(I)Z" } : Jvm.MethodName) prog_1_method_56_code (3 : Nat) (Option.some Jvm.ClassFile.FieldType.boolean)) ∈ mm_tbl := mm_tt5 4 rfl rfl
theorem q_1367 : (Jvm.Cond.methodLink "LeafSweep" (254 : Nat) ({ cls := "LeafSweep$Leaves", name := "rowIn", desc := "(I)I" } : Jvm.MethodName)) ∈ mm_tbl := mm_tt5 5 rfl rfl
theorem q_1369 : (Jvm.Cond.instanceMethod ({ cls := "LeafSweep", name := "skips", desc := "(II)I" } : Jvm.MethodName)) ∈ mm_tbl := mm_tt5 7 rfl rfl
theorem q_1370 : (Jvm.Cond.selects "LeafSweep" ({ cls := "LeafSweep", name := "skips", desc := "(II)I" } : Jvm.MethodName) ({ cls := "LeafSweep", name := "skips", desc := "(II)I" } : Jvm.MethodName)) ∈ mm_tbl := mm_tt5 8 rfl rfl
theorem q_1371 : (Jvm.Cond.code ({ cls := "LeafSweep", name := "skips", desc := "(II)I" } : Jvm.MethodName) prog_1_method_26_code (3 : Nat) (Option.some Jvm.ClassFile.FieldType.int)) ∈ mm_tbl := mm_tt5 9 rfl rfl
theorem q_1372 : (Jvm.Cond.methodLink "LeafSweep" (264 : Nat) ({ cls := "LeafSweep$State", name := "staleRows", desc := "(I)I" } : Jvm.MethodName)) ∈ mm_tbl := mm_tt5 10 rfl rfl
theorem q_1373 : (Jvm.Cond.instanceMethod ({ cls := "LeafSweep$State", name := "staleRows", desc := "(I)I" } : Jvm.MethodName)) ∈ mm_tbl := mm_tt5 11 rfl rfl
theorem q_1374 : (Jvm.Cond.selects "LeafSweep$State" ({ cls := "LeafSweep$State", name := "staleRows", desc := "(I)I" } : Jvm.MethodName) ({ cls := "LeafSweep$State", name := "staleRows", desc := "(I)I" } : Jvm.MethodName)) ∈ mm_tbl := mm_tt5 12 rfl rfl
theorem q_1375 : (Jvm.Cond.code ({ cls := "LeafSweep$State", name := "staleRows", desc := "(I)I" } : Jvm.MethodName) prog_10_method_10_code (7 : Nat) (Option.some Jvm.ClassFile.FieldType.int)) ∈ mm_tbl := mm_tt5 13 rfl rfl
theorem q_1376 : (Jvm.Cond.methodLink "LeafSweep$State" (169 : Nat) ({ cls := "LeafSweep$Leaves", name := "rowIn", desc := "(I)I" } : Jvm.MethodName)) ∈ mm_tbl := mm_tt5 14 rfl rfl
theorem q_1377 : (Jvm.Cond.methodLink "LeafSweep$State" (176 : Nat) ({ cls := "LeafSweep$State", name := "codeOf", desc := "(II)I" } : Jvm.MethodName)) ∈ mm_tbl := mm_tt5 15 rfl rfl
theorem q_1378 : (Jvm.Cond.methodLink "LeafSweep" (267 : Nat) ({ cls := "LeafSweep$Leaves", name := "withValue", desc := "(II)I" } : Jvm.MethodName)) ∈ mm_tbl := mm_tt5 16 rfl rfl
theorem q_1379 : (Jvm.Cond.instanceMethod ({ cls := "LeafSweep$Leaves", name := "withValue", desc := "(II)I" } : Jvm.MethodName)) ∈ mm_tbl := mm_tt5 17 rfl rfl
theorem q_1380 : (Jvm.Cond.selects "LeafSweep$Leaves" ({ cls := "LeafSweep$Leaves", name := "withValue", desc := "(II)I" } : Jvm.MethodName) ({ cls := "LeafSweep$Leaves", name := "withValue", desc := "(II)I" } : Jvm.MethodName)) ∈ mm_tbl := mm_tt5 18 rfl rfl
theorem q_1381 : (Jvm.Cond.code ({ cls := "LeafSweep$Leaves", name := "withValue", desc := "(II)I" } : Jvm.MethodName) prog_4_method_21_code (5 : Nat) (Option.some Jvm.ClassFile.FieldType.int)) ∈ mm_tbl := mm_tt5 19 rfl rfl
theorem q_1382 : (Jvm.Cond.methodLink "LeafSweep$Leaves" (64 : Nat) ({ cls := "LeafSweep$Leaves", name := "valueIn", desc := "(I)I" } : Jvm.MethodName)) ∈ mm_tbl := mm_tt5 20 rfl rfl
theorem q_1383 : (Jvm.Cond.instanceMethod ({ cls := "LeafSweep$Leaves", name := "valueIn", desc := "(I)I" } : Jvm.MethodName)) ∈ mm_tbl := mm_tt5 21 rfl rfl
theorem q_1384 : (Jvm.Cond.selects "LeafSweep$Leaves" ({ cls := "LeafSweep$Leaves", name := "valueIn", desc := "(I)I" } : Jvm.MethodName) ({ cls := "LeafSweep$Leaves", name := "valueIn", desc := "(I)I" } : Jvm.MethodName)) ∈ mm_tbl := mm_tt5 22 rfl rfl
theorem q_1385 : (Jvm.Cond.code ({ cls := "LeafSweep$Leaves", name := "valueIn", desc := "(I)I" } : Jvm.MethodName) prog_4_method_5_code (2 : Nat) (Option.some Jvm.ClassFile.FieldType.int)) ∈ mm_tbl := mm_tt5 23 rfl rfl
theorem q_1387 : (Jvm.Cond.instanceMethod ({ cls := "LeafSweep", name := "stale", desc := "(I)I" } : Jvm.MethodName)) ∈ mm_tbl := mm_tt5 25 rfl rfl
theorem q_1388 : (Jvm.Cond.selects "LeafSweep" ({ cls := "LeafSweep", name := "stale", desc := "(I)I" } : Jvm.MethodName) ({ cls := "LeafSweep", name := "stale", desc := "(I)I" } : Jvm.MethodName)) ∈ mm_tbl := mm_tt5 26 rfl rfl
theorem q_1389 : (Jvm.Cond.code ({ cls := "LeafSweep", name := "stale", desc := "(I)I" } : Jvm.MethodName) prog_1_method_27_code (2 : Nat) (Option.some Jvm.ClassFile.FieldType.int)) ∈ mm_tbl := mm_tt5 27 rfl rfl
theorem q_1391 : (Jvm.Cond.instanceMethod ({ cls := "LeafSweep", name := "missing", desc := "(I)I" } : Jvm.MethodName)) ∈ mm_tbl := mm_tt5 29 rfl rfl
theorem q_1392 : (Jvm.Cond.selects "LeafSweep" ({ cls := "LeafSweep", name := "missing", desc := "(I)I" } : Jvm.MethodName) ({ cls := "LeafSweep", name := "missing", desc := "(I)I" } : Jvm.MethodName)) ∈ mm_tbl := mm_tt5 30 rfl rfl
theorem q_1393 : (Jvm.Cond.code ({ cls := "LeafSweep", name := "missing", desc := "(I)I" } : Jvm.MethodName) prog_1_method_28_code (2 : Nat) (Option.some Jvm.ClassFile.FieldType.int)) ∈ mm_tbl := mm_tt5 31 rfl rfl
theorem q_1394 : (Jvm.Cond.methodLink "LeafSweep" (270 : Nat) ({ cls := "LeafSweep$State", name := "missingRows", desc := "(I)I" } : Jvm.MethodName)) ∈ mm_tbl := mm_tt5 32 rfl rfl
theorem q_1395 : (Jvm.Cond.instanceMethod ({ cls := "LeafSweep$State", name := "missingRows", desc := "(I)I" } : Jvm.MethodName)) ∈ mm_tbl := mm_tt5 33 rfl rfl
theorem q_1396 : (Jvm.Cond.selects "LeafSweep$State" ({ cls := "LeafSweep$State", name := "missingRows", desc := "(I)I" } : Jvm.MethodName) ({ cls := "LeafSweep$State", name := "missingRows", desc := "(I)I" } : Jvm.MethodName)) ∈ mm_tbl := mm_tt5 34 rfl rfl
theorem q_1397 : (Jvm.Cond.code ({ cls := "LeafSweep$State", name := "missingRows", desc := "(I)I" } : Jvm.MethodName) prog_10_method_11_code (5 : Nat) (Option.some Jvm.ClassFile.FieldType.int)) ∈ mm_tbl := mm_tt5 35 rfl rfl
theorem q_1398 : (Jvm.Cond.methodLink "LeafSweep$State" (179 : Nat) ({ cls := "LeafSweep$State", name := "readable", desc := "(I)I" } : Jvm.MethodName)) ∈ mm_tbl := mm_tt5 36 rfl rfl
theorem q_1399 : (Jvm.Cond.methodLink "LeafSweep$State" (182 : Nat) ({ cls := "LeafSweep$Leaves", name := "holdsCode", desc := "(I)Z" } : Jvm.MethodName)) ∈ mm_tbl := mm_tt5 37 rfl rfl
theorem q_1400 : (Jvm.Cond.instanceMethod ({ cls := "LeafSweep$Leaves", name := "holdsCode", desc := "(I)Z" } : Jvm.MethodName)) ∈ mm_tbl := mm_tt5 38 rfl rfl
theorem q_1401 : (Jvm.Cond.selects "LeafSweep$Leaves" ({ cls := "LeafSweep$Leaves", name := "holdsCode", desc := "(I)Z" } : Jvm.MethodName) ({ cls := "LeafSweep$Leaves", name := "holdsCode", desc := "(I)Z" } : Jvm.MethodName)) ∈ mm_tbl := mm_tt5 39 rfl rfl
theorem q_1402 : (Jvm.Cond.code ({ cls := "LeafSweep$Leaves", name := "holdsCode", desc := "(I)Z" } : Jvm.MethodName) prog_4_method_9_code (3 : Nat) (Option.some Jvm.ClassFile.FieldType.boolean)) ∈ mm_tbl := mm_tt5 40 rfl rfl
theorem q_1404 : (Jvm.Cond.instanceMethod ({ cls := "LeafSweep", name := "side", desc := "(I)I" } : Jvm.MethodName)) ∈ mm_tbl := mm_tt5 42 rfl rfl
theorem q_1405 : (Jvm.Cond.selects "LeafSweep" ({ cls := "LeafSweep", name := "side", desc := "(I)I" } : Jvm.MethodName) ({ cls := "LeafSweep", name := "side", desc := "(I)I" } : Jvm.MethodName)) ∈ mm_tbl := mm_tt5 43 rfl rfl
theorem q_1406 : (Jvm.Cond.code ({ cls := "LeafSweep", name := "side", desc := "(I)I" } : Jvm.MethodName) prog_1_method_29_code (2 : Nat) (Option.some Jvm.ClassFile.FieldType.int)) ∈ mm_tbl := mm_tt5 44 rfl rfl
theorem q_1407 : (Jvm.Cond.constant "LeafSweep" (286 : Nat) (-2147483648 : Int32)) ∈ mm_tbl := mm_tt5 45 rfl rfl
theorem q_1409 : (Jvm.Cond.instanceMethod ({ cls := "LeafSweep", name := "splits", desc := "(II)Z" } : Jvm.MethodName)) ∈ mm_tbl := mm_tt5 47 rfl rfl
theorem q_1410 : (Jvm.Cond.selects "LeafSweep" ({ cls := "LeafSweep", name := "splits", desc := "(II)Z" } : Jvm.MethodName) ({ cls := "LeafSweep", name := "splits", desc := "(II)Z" } : Jvm.MethodName)) ∈ mm_tbl := mm_tt5 48 rfl rfl
theorem q_1411 : (Jvm.Cond.code ({ cls := "LeafSweep", name := "splits", desc := "(II)Z" } : Jvm.MethodName) prog_1_method_30_code (4 : Nat) (Option.some Jvm.ClassFile.FieldType.boolean)) ∈ mm_tbl := mm_tt5 49 rfl rfl
theorem q_1412 : (Jvm.Cond.methodLink "LeafSweep" (290 : Nat) ({ cls := "LeafSweep$Leaves", name := "code", desc := "(II)I" } : Jvm.MethodName)) ∈ mm_tbl := mm_tt5 50 rfl rfl
theorem q_1413 : (Jvm.Cond.methodLink "LeafSweep" (293 : Nat) ({ cls := "LeafSweep$Leaves", name := "wouldSplit", desc := "(I)Z" } : Jvm.MethodName)) ∈ mm_tbl := mm_tt5 51 rfl rfl
theorem q_1414 : (Jvm.Cond.instanceMethod ({ cls := "LeafSweep$Leaves", name := "wouldSplit", desc := "(I)Z" } : Jvm.MethodName)) ∈ mm_tbl := mm_tt5 52 rfl rfl
theorem q_1415 : (Jvm.Cond.selects "LeafSweep$Leaves" ({ cls := "LeafSweep$Leaves", name := "wouldSplit", desc := "(I)Z" } : Jvm.MethodName) ({ cls := "LeafSweep$Leaves", name := "wouldSplit", desc := "(I)Z" } : Jvm.MethodName)) ∈ mm_tbl := mm_tt5 53 rfl rfl
theorem q_1416 : (Jvm.Cond.code ({ cls := "LeafSweep$Leaves", name := "wouldSplit", desc := "(I)Z" } : Jvm.MethodName) prog_4_method_12_code (2 : Nat) (Option.some Jvm.ClassFile.FieldType.boolean)) ∈ mm_tbl := mm_tt5 54 rfl rfl
theorem q_1418 : (Jvm.Cond.instanceMethod ({ cls := "LeafSweep", name := "fill", desc := "(I)I" } : Jvm.MethodName)) ∈ mm_tbl := mm_tt5 56 rfl rfl
theorem q_1419 : (Jvm.Cond.selects "LeafSweep" ({ cls := "LeafSweep", name := "fill", desc := "(I)I" } : Jvm.MethodName) ({ cls := "LeafSweep", name := "fill", desc := "(I)I" } : Jvm.MethodName)) ∈ mm_tbl := mm_tt5 57 rfl rfl
theorem q_1420 : (Jvm.Cond.code ({ cls := "LeafSweep", name := "fill", desc := "(I)I" } : Jvm.MethodName) prog_1_method_31_code (4 : Nat) (Option.some Jvm.ClassFile.FieldType.int)) ∈ mm_tbl := mm_tt5 58 rfl rfl
theorem q_1422 : (Jvm.Cond.instanceMethod ({ cls := "LeafSweep", name := "sparse", desc := "(I)I" } : Jvm.MethodName)) ∈ mm_tbl := mm_tt5 60 rfl rfl
theorem q_1423 : (Jvm.Cond.selects "LeafSweep" ({ cls := "LeafSweep", name := "sparse", desc := "(I)I" } : Jvm.MethodName) ({ cls := "LeafSweep", name := "sparse", desc := "(I)I" } : Jvm.MethodName)) ∈ mm_tbl := mm_tt5 61 rfl rfl
theorem q_1424 : (Jvm.Cond.code ({ cls := "LeafSweep", name := "sparse", desc := "(I)I" } : Jvm.MethodName) prog_1_method_32_code (2 : Nat) (Option.some Jvm.ClassFile.FieldType.int)) ∈ mm_tbl := mm_tt5 62 rfl rfl
theorem q_1425 : (Jvm.Cond.methodLink "LeafSweep" (299 : Nat) ({ cls := "LeafSweep$Leaves", name := "underHalf", desc := "()I" } : Jvm.MethodName)) ∈ mm_tbl := mm_tt5 63 rfl rfl
theorem q_1426 : (Jvm.Cond.instanceMethod ({ cls := "LeafSweep$Leaves", name := "underHalf", desc := "()I" } : Jvm.MethodName)) ∈ mm_tbl := mm_tt5 64 rfl rfl
theorem q_1427 : (Jvm.Cond.selects "LeafSweep$Leaves" ({ cls := "LeafSweep$Leaves", name := "underHalf", desc := "()I" } : Jvm.MethodName) ({ cls := "LeafSweep$Leaves", name := "underHalf", desc := "()I" } : Jvm.MethodName)) ∈ mm_tbl := mm_tt5 65 rfl rfl
theorem q_1428 : (Jvm.Cond.code ({ cls := "LeafSweep$Leaves", name := "underHalf", desc := "()I" } : Jvm.MethodName) prog_4_method_20_code (3 : Nat) (Option.some Jvm.ClassFile.FieldType.int)) ∈ mm_tbl := mm_tt5 66 rfl rfl
theorem q_1430 : (Jvm.Cond.instanceMethod ({ cls := "LeafSweep", name := "costs", desc := "(II)I" } : Jvm.MethodName)) ∈ mm_tbl := mm_tt5 68 rfl rfl
theorem q_1431 : (Jvm.Cond.selects "LeafSweep" ({ cls := "LeafSweep", name := "costs", desc := "(II)I" } : Jvm.MethodName) ({ cls := "LeafSweep", name := "costs", desc := "(II)I" } : Jvm.MethodName)) ∈ mm_tbl := mm_tt5 69 rfl rfl
theorem q_1432 : (Jvm.Cond.code ({ cls := "LeafSweep", name := "costs", desc := "(II)I" } : Jvm.MethodName) prog_1_method_33_code (3 : Nat) (Option.some Jvm.ClassFile.FieldType.int)) ∈ mm_tbl := mm_tt5 70 rfl rfl
theorem q_1433 : (Jvm.Cond.methodLink "LeafSweep" (302 : Nat) ({ cls := "LeafSweep$State", name := "doomed", desc := "()I" } : Jvm.MethodName)) ∈ mm_tbl := mm_tt5 71 rfl rfl
theorem q_1434 : (Jvm.Cond.instanceMethod ({ cls := "LeafSweep$State", name := "doomed", desc := "()I" } : Jvm.MethodName)) ∈ mm_tbl := mm_tt5 72 rfl rfl
theorem q_1435 : (Jvm.Cond.selects "LeafSweep$State" ({ cls := "LeafSweep$State", name := "doomed", desc := "()I" } : Jvm.MethodName) ({ cls := "LeafSweep$State", name := "doomed", desc := "()I" } : Jvm.MethodName)) ∈ mm_tbl := mm_tt5 73 rfl rfl
theorem q_1436 : (Jvm.Cond.code ({ cls := "LeafSweep$State", name := "doomed", desc := "()I" } : Jvm.MethodName) prog_10_method_14_code (1 : Nat) (Option.some Jvm.ClassFile.FieldType.int)) ∈ mm_tbl := mm_tt5 74 rfl rfl
theorem q_1437 : (Jvm.Cond.methodLink "LeafSweep" (305 : Nat) ({ cls := "LeafSweep$Leaves", name := "passCost", desc := "(I)I" } : Jvm.MethodName)) ∈ mm_tbl := mm_tt5 75 rfl rfl
theorem q_1438 : (Jvm.Cond.methodLink "LeafSweep" (308 : Nat) ({ cls := "LeafSweep$Leaves", name := "probeCost", desc := "(I)I" } : Jvm.MethodName)) ∈ mm_tbl := mm_tt5 76 rfl rfl
theorem q_1440 : (Jvm.Cond.instanceMethod ({ cls := "LeafSweep", name := "ways", desc := "()I" } : Jvm.MethodName)) ∈ mm_tbl := mm_tt5 78 rfl rfl
theorem q_1441 : (Jvm.Cond.selects "LeafSweep" ({ cls := "LeafSweep", name := "ways", desc := "()I" } : Jvm.MethodName) ({ cls := "LeafSweep", name := "ways", desc := "()I" } : Jvm.MethodName)) ∈ mm_tbl := mm_tt5 79 rfl rfl
theorem q_1442 : (Jvm.Cond.code ({ cls := "LeafSweep", name := "ways", desc := "()I" } : Jvm.MethodName) prog_1_method_34_code (4 : Nat) (Option.some Jvm.ClassFile.FieldType.int)) ∈ mm_tbl := mm_tt5 80 rfl rfl
theorem q_1443 : (Jvm.Cond.methodLink "LeafSweep" (314 : Nat) ({ cls := "LeafSweep$Leaves", name := "wayFor", desc := "(I)I" } : Jvm.MethodName)) ∈ mm_tbl := mm_tt5 81 rfl rfl
theorem q_1444 : (Jvm.Cond.instanceMethod ({ cls := "LeafSweep$Leaves", name := "wayFor", desc := "(I)I" } : Jvm.MethodName)) ∈ mm_tbl := mm_tt5 82 rfl rfl
theorem q_1445 : (Jvm.Cond.selects "LeafSweep$Leaves" ({ cls := "LeafSweep$Leaves", name := "wayFor", desc := "(I)I" } : Jvm.MethodName) ({ cls := "LeafSweep$Leaves", name := "wayFor", desc := "(I)I" } : Jvm.MethodName)) ∈ mm_tbl := mm_tt5 83 rfl rfl
theorem q_1446 : (Jvm.Cond.code ({ cls := "LeafSweep$Leaves", name := "wayFor", desc := "(I)I" } : Jvm.MethodName) prog_4_method_25_code (2 : Nat) (Option.some Jvm.ClassFile.FieldType.int)) ∈ mm_tbl := mm_tt5 84 rfl rfl
theorem q_1448 : (Jvm.Cond.instanceMethod ({ cls := "LeafSweep", name := "turn", desc := "(I)I" } : Jvm.MethodName)) ∈ mm_tbl := mm_tt5 86 rfl rfl
theorem q_1449 : (Jvm.Cond.selects "LeafSweep" ({ cls := "LeafSweep", name := "turn", desc := "(I)I" } : Jvm.MethodName) ({ cls := "LeafSweep", name := "turn", desc := "(I)I" } : Jvm.MethodName)) ∈ mm_tbl := mm_tt5 87 rfl rfl
theorem q_1450 : (Jvm.Cond.code ({ cls := "LeafSweep", name := "turn", desc := "(I)I" } : Jvm.MethodName) prog_1_method_35_code (6 : Nat) (Option.some Jvm.ClassFile.FieldType.int)) ∈ mm_tbl := mm_tt5 88 rfl rfl
theorem q_1451 : (Jvm.Cond.methodLink "LeafSweep" (317 : Nat) ({ cls := "LeafSweep$Leaves", name := "rowBits", desc := "()I" } : Jvm.MethodName)) ∈ mm_tbl := mm_tt5 89 rfl rfl
theorem q_1453 : (Jvm.Cond.instanceMethod ({ cls := "LeafSweep", name := "lefts", desc := "(II)I" } : Jvm.MethodName)) ∈ mm_tbl := mm_tt5 91 rfl rfl
theorem q_1454 : (Jvm.Cond.selects "LeafSweep" ({ cls := "LeafSweep", name := "lefts", desc := "(II)I" } : Jvm.MethodName) ({ cls := "LeafSweep", name := "lefts", desc := "(II)I" } : Jvm.MethodName)) ∈ mm_tbl := mm_tt5 92 rfl rfl
theorem q_1455 : (Jvm.Cond.code ({ cls := "LeafSweep", name := "lefts", desc := "(II)I" } : Jvm.MethodName) prog_1_method_36_code (3 : Nat) (Option.some Jvm.ClassFile.FieldType.int)) ∈ mm_tbl := mm_tt5 93 rfl rfl
theorem q_1456 : (Jvm.Cond.methodLink "LeafSweep" (320 : Nat) ({ cls := "LeafSweep$Leaves", name := "leftIn", desc := "(II)I" } : Jvm.MethodName)) ∈ mm_tbl := mm_tt5 94 rfl rfl
theorem q_1457 : (Jvm.Cond.instanceMethod ({ cls := "LeafSweep$Leaves", name := "leftIn", desc := "(II)I" } : Jvm.MethodName)) ∈ mm_tbl := mm_tt5 95 rfl rfl
theorem q_1458 : (Jvm.Cond.selects "LeafSweep$Leaves" ({ cls := "LeafSweep$Leaves", name := "leftIn", desc := "(II)I" } : Jvm.MethodName) ({ cls := "LeafSweep$Leaves", name := "leftIn", desc := "(II)I" } : Jvm.MethodName)) ∈ mm_tbl := mm_tt5 96 rfl rfl
theorem q_1459 : (Jvm.Cond.code ({ cls := "LeafSweep$Leaves", name := "leftIn", desc := "(II)I" } : Jvm.MethodName) prog_4_method_22_code (6 : Nat) (Option.some Jvm.ClassFile.FieldType.int)) ∈ mm_tbl := mm_tt5 97 rfl rfl
theorem q_1461 : (Jvm.Cond.instanceMethod ({ cls := "LeafSweep", name := "when", desc := "(II)I" } : Jvm.MethodName)) ∈ mm_tbl := mm_tt5 99 rfl rfl
theorem q_1462 : (Jvm.Cond.selects "LeafSweep" ({ cls := "LeafSweep", name := "when", desc := "(II)I" } : Jvm.MethodName) ({ cls := "LeafSweep", name := "when", desc := "(II)I" } : Jvm.MethodName)) ∈ mm_tbl := mm_tt5 100 rfl rfl
theorem q_1463 : (Jvm.Cond.code ({ cls := "LeafSweep", name := "when", desc := "(II)I" } : Jvm.MethodName) prog_1_method_37_code (5 : Nat) (Option.some Jvm.ClassFile.FieldType.int)) ∈ mm_tbl := mm_tt5 101 rfl rfl
theorem q_1464 : (Jvm.Cond.methodLink "LeafSweep" (323 : Nat) ({ cls := "LeafSweep$State", name := "leftOf", desc := "(I)I" } : Jvm.MethodName)) ∈ mm_tbl := mm_tt5 102 rfl rfl
theorem q_1465 : (Jvm.Cond.instanceMethod ({ cls := "LeafSweep$State", name := "leftOf", desc := "(I)I" } : Jvm.MethodName)) ∈ mm_tbl := mm_tt5 103 rfl rfl
theorem q_1466 : (Jvm.Cond.selects "LeafSweep$State" ({ cls := "LeafSweep$State", name := "leftOf", desc := "(I)I" } : Jvm.MethodName) ({ cls := "LeafSweep$State", name := "leftOf", desc := "(I)I" } : Jvm.MethodName)) ∈ mm_tbl := mm_tt5 104 rfl rfl
theorem q_1467 : (Jvm.Cond.code ({ cls := "LeafSweep$State", name := "leftOf", desc := "(I)I" } : Jvm.MethodName) prog_10_method_15_code (2 : Nat) (Option.some Jvm.ClassFile.FieldType.int)) ∈ mm_tbl := mm_tt5 105 rfl rfl
theorem q_1468 : (Jvm.Cond.methodLink "LeafSweep$State" (204 : Nat) ({ cls := "LeafSweep$State", name := "doomed", desc := "()I" } : Jvm.MethodName)) ∈ mm_tbl := mm_tt5 106 rfl rfl
theorem q_1469 : (Jvm.Cond.methodLink "LeafSweep" (326 : Nat) ({ cls := "LeafSweep$State", name := "becomeRisen", desc := "(LLeafSweep$State;)V" } : Jvm.MethodName)) ∈ mm_tbl := mm_tt5 107 rfl rfl
theorem q_1470 : (Jvm.Cond.instanceMethod ({ cls := "LeafSweep$State", name := "becomeRisen", desc := "(LLeafSweep$State;)V" } : Jvm.MethodName)) ∈ mm_tbl := mm_tt5 108 rfl rfl
theorem q_1471 : (Jvm.Cond.selects "LeafSweep$State" ({ cls := "LeafSweep$State", name := "becomeRisen", desc := "(LLeafSweep$State;)V" } : Jvm.MethodName) ({ cls := "LeafSweep$State", name := "becomeRisen", desc := "(LLeafSweep$State;)V" } : Jvm.MethodName)) ∈ mm_tbl := mm_tt5 109 rfl rfl
theorem q_1472 : (Jvm.Cond.code ({ cls := "LeafSweep$State", name := "becomeRisen", desc := "(LLeafSweep$State;)V" } : Jvm.MethodName) prog_10_method_3_code (2 : Nat) (Option.none : Option Jvm.ClassFile.FieldType)) ∈ mm_tbl := mm_tt5 110 rfl rfl
theorem q_1473 : (Jvm.Cond.methodLink "LeafSweep$State" (73 : Nat) ({ cls := "LeafSweep$State", name := "become", desc := "(LLeafSweep$State;)V" } : Jvm.MethodName)) ∈ mm_tbl := mm_tt5 111 rfl rfl
theorem q_1474 : (Jvm.Cond.methodLink "LeafSweep$State" (76 : Nat) ({ cls := "LeafSweep$State", name := "rise", desc := "()Z" } : Jvm.MethodName)) ∈ mm_tbl := mm_tt5 112 rfl rfl
theorem q_1476 : (Jvm.Cond.instanceMethod ({ cls := "LeafSweep", name := "next", desc := "(II)I" } : Jvm.MethodName)) ∈ mm_tbl := mm_tt5 114 rfl rfl
theorem q_1477 : (Jvm.Cond.selects "LeafSweep" ({ cls := "LeafSweep", name := "next", desc := "(II)I" } : Jvm.MethodName) ({ cls := "LeafSweep", name := "next", desc := "(II)I" } : Jvm.MethodName)) ∈ mm_tbl := mm_tt5 115 rfl rfl
theorem q_1478 : (Jvm.Cond.code ({ cls := "LeafSweep", name := "next", desc := "(II)I" } : Jvm.MethodName) prog_1_method_38_code (5 : Nat) (Option.some Jvm.ClassFile.FieldType.int)) ∈ mm_tbl := mm_tt5 116 rfl rfl
theorem q_1479 : (Jvm.Cond.methodLink "LeafSweep" (332 : Nat) ({ cls := "LeafSweep$Job", name := "isAt", desc := "(I)Z" } : Jvm.MethodName)) ∈ mm_tbl := mm_tt5 117 rfl rfl
theorem q_1480 : (Jvm.Cond.methodLink "LeafSweep" (338 : Nat) ({ cls := "LeafSweep$Leaves", name := "leftAt", desc := "(III)I" } : Jvm.MethodName)) ∈ mm_tbl := mm_tt5 118 rfl rfl
theorem q_1482 : (Jvm.Cond.instanceMethod ({ cls := "LeafSweep", name := "job", desc := "(I)I" } : Jvm.MethodName)) ∈ mm_tbl := mm_tt5 120 rfl rfl
theorem q_1483 : (Jvm.Cond.selects "LeafSweep" ({ cls := "LeafSweep", name := "job", desc := "(I)I" } : Jvm.MethodName) ({ cls := "LeafSweep", name := "job", desc := "(I)I" } : Jvm.MethodName)) ∈ mm_tbl := mm_tt5 121 rfl rfl
theorem q_1484 : (Jvm.Cond.code ({ cls := "LeafSweep", name := "job", desc := "(I)I" } : Jvm.MethodName) prog_1_method_39_code (2 : Nat) (Option.some Jvm.ClassFile.FieldType.int)) ∈ mm_tbl := mm_tt5 122 rfl rfl
theorem q_1486 : (Jvm.Cond.instanceMethod ({ cls := "LeafSweep", name := "record", desc := "(II)I" } : Jvm.MethodName)) ∈ mm_tbl := mm_tt5 124 rfl rfl
theorem q_1487 : (Jvm.Cond.selects "LeafSweep" ({ cls := "LeafSweep", name := "record", desc := "(II)I" } : Jvm.MethodName) ({ cls := "LeafSweep", name := "record", desc := "(II)I" } : Jvm.MethodName)) ∈ mm_tbl := mm_tt5 125 rfl rfl
theorem q_1488 : (Jvm.Cond.code ({ cls := "LeafSweep", name := "record", desc := "(II)I" } : Jvm.MethodName) prog_1_method_40_code (3 : Nat) (Option.some Jvm.ClassFile.FieldType.int)) ∈ mm_tbl := mm_tt5 126 rfl rfl
theorem q_1490 : (Jvm.Cond.instanceMethod ({ cls := "LeafSweep", name := "steps", desc := "()I" } : Jvm.MethodName)) ∈ mm_tbl := mm_tt5 128 rfl rfl
theorem q_1491 : (Jvm.Cond.selects "LeafSweep" ({ cls := "LeafSweep", name := "steps", desc := "()I" } : Jvm.MethodName) ({ cls := "LeafSweep", name := "steps", desc := "()I" } : Jvm.MethodName)) ∈ mm_tbl := mm_tt5 129 rfl rfl
theorem q_1492 : (Jvm.Cond.code ({ cls := "LeafSweep", name := "steps", desc := "()I" } : Jvm.MethodName) prog_1_method_41_code (3 : Nat) (Option.some Jvm.ClassFile.FieldType.int)) ∈ mm_tbl := mm_tt5 130 rfl rfl
theorem q_1494 : (Jvm.Cond.instanceMethod ({ cls := "LeafSweep", name := "after", desc := "(II)I" } : Jvm.MethodName)) ∈ mm_tbl := mm_tt5 132 rfl rfl
theorem q_1495 : (Jvm.Cond.selects "LeafSweep" ({ cls := "LeafSweep", name := "after", desc := "(II)I" } : Jvm.MethodName) ({ cls := "LeafSweep", name := "after", desc := "(II)I" } : Jvm.MethodName)) ∈ mm_tbl := mm_tt5 133 rfl rfl
theorem q_1496 : (Jvm.Cond.code ({ cls := "LeafSweep", name := "after", desc := "(II)I" } : Jvm.MethodName) prog_1_method_42_code (3 : Nat) (Option.some Jvm.ClassFile.FieldType.int)) ∈ mm_tbl := mm_tt5 134 rfl rfl
theorem q_1497 : (Jvm.Cond.methodLink "LeafSweep" (353 : Nat) ({ cls := "LeafSweep$State", name := "advanceBy", desc := "(I)I" } : Jvm.MethodName)) ∈ mm_tbl := mm_tt5 135 rfl rfl
theorem q_1498 : (Jvm.Cond.methodLink "LeafSweep" (356 : Nat) ({ cls := "LeafSweep$State", name := "leavesOfAll", desc := "()I" } : Jvm.MethodName)) ∈ mm_tbl := mm_tt5 136 rfl rfl
theorem q_1499 : (Jvm.Cond.instanceMethod ({ cls := "LeafSweep$State", name := "leavesOfAll", desc := "()I" } : Jvm.MethodName)) ∈ mm_tbl := mm_tt5 137 rfl rfl
theorem q_1500 : (Jvm.Cond.selects "LeafSweep$State" ({ cls := "LeafSweep$State", name := "leavesOfAll", desc := "()I" } : Jvm.MethodName) ({ cls := "LeafSweep$State", name := "leavesOfAll", desc := "()I" } : Jvm.MethodName)) ∈ mm_tbl := mm_tt5 138 rfl rfl
theorem q_1501 : (Jvm.Cond.code ({ cls := "LeafSweep$State", name := "leavesOfAll", desc := "()I" } : Jvm.MethodName) prog_10_method_12_code (3 : Nat) (Option.some Jvm.ClassFile.FieldType.int)) ∈ mm_tbl := mm_tt5 139 rfl rfl
theorem q_1503 : (Jvm.Cond.instanceMethod ({ cls := "LeafSweep", name := "during", desc := "(IIIII)I" } : Jvm.MethodName)) ∈ mm_tbl := mm_tt5 141 rfl rfl
theorem q_1504 : (Jvm.Cond.selects "LeafSweep" ({ cls := "LeafSweep", name := "during", desc := "(IIIII)I" } : Jvm.MethodName) ({ cls := "LeafSweep", name := "during", desc := "(IIIII)I" } : Jvm.MethodName)) ∈ mm_tbl := mm_tt5 142 rfl rfl
theorem q_1505 : (Jvm.Cond.code ({ cls := "LeafSweep", name := "during", desc := "(IIIII)I" } : Jvm.MethodName) prog_1_method_43_code (7 : Nat) (Option.some Jvm.ClassFile.FieldType.int)) ∈ mm_tbl := mm_tt5 143 rfl rfl
theorem q_1506 : (Jvm.Cond.methodLink "LeafSweep" (359 : Nat) ({ cls := "LeafSweep", name := "areValues", desc := "(III)Z" } : Jvm.MethodName)) ∈ mm_tbl := mm_tt5 144 rfl rfl
theorem q_1508 : (Jvm.Cond.instanceMethod ({ cls := "LeafSweep", name := "crashes", desc := "(II)I" } : Jvm.MethodName)) ∈ mm_tbl := mm_tt5 146 rfl rfl
theorem q_1509 : (Jvm.Cond.selects "LeafSweep" ({ cls := "LeafSweep", name := "crashes", desc := "(II)I" } : Jvm.MethodName) ({ cls := "LeafSweep", name := "crashes", desc := "(II)I" } : Jvm.MethodName)) ∈ mm_tbl := mm_tt5 147 rfl rfl
theorem q_1510 : (Jvm.Cond.code ({ cls := "LeafSweep", name := "crashes", desc := "(II)I" } : Jvm.MethodName) prog_1_method_44_code (4 : Nat) (Option.some Jvm.ClassFile.FieldType.int)) ∈ mm_tbl := mm_tt5 148 rfl rfl
theorem q_1512 : (Jvm.Cond.instanceMethod ({ cls := "LeafSweep", name := "runs", desc := "(II)I" } : Jvm.MethodName)) ∈ mm_tbl := mm_tt5 150 rfl rfl
theorem q_1513 : (Jvm.Cond.selects "LeafSweep" ({ cls := "LeafSweep", name := "runs", desc := "(II)I" } : Jvm.MethodName) ({ cls := "LeafSweep", name := "runs", desc := "(II)I" } : Jvm.MethodName)) ∈ mm_tbl := mm_tt5 151 rfl rfl
theorem q_1514 : (Jvm.Cond.code ({ cls := "LeafSweep", name := "runs", desc := "(II)I" } : Jvm.MethodName) prog_1_method_45_code (3 : Nat) (Option.some Jvm.ClassFile.FieldType.int)) ∈ mm_tbl := mm_tt5 152 rfl rfl
theorem q_1515 : (Jvm.Cond.methodLink "LeafSweep" (365 : Nat) ({ cls := "LeafSweep", name := "sorted", desc := "(II)Z" } : Jvm.MethodName)) ∈ mm_tbl := mm_tt5 153 rfl rfl
theorem q_1517 : (Jvm.Cond.instanceMethod ({ cls := "LeafSweep", name := "sorted", desc := "(II)Z" } : Jvm.MethodName)) ∈ mm_tbl := mm_tt5 155 rfl rfl
theorem q_1518 : (Jvm.Cond.code ({ cls := "LeafSweep", name := "sorted", desc := "(II)Z" } : Jvm.MethodName) prog_1_method_61_code (3 : Nat) (Option.some Jvm.ClassFile.FieldType.boolean)) ∈ mm_tbl := mm_tt5 156 rfl rfl
theorem q_1519 : (Jvm.Cond.methodLink "LeafSweep" (417 : Nat) ({ cls := "LeafSweep$Bench", name := "sort", desc := "(LLeafSweep$Leaves;II)V" } : Jvm.MethodName)) ∈ mm_tbl := mm_tt5 157 rfl rfl
theorem q_1520 : (Jvm.Cond.instanceMethod ({ cls := "LeafSweep$Bench", name := "sort", desc := "(LLeafSweep$Leaves;II)V" } : Jvm.MethodName)) ∈ mm_tbl := mm_tt5 158 rfl rfl
theorem q_1521 : (Jvm.Cond.selects "LeafSweep$Bench" ({ cls := "LeafSweep$Bench", name := "sort", desc := "(LLeafSweep$Leaves;II)V" } : Jvm.MethodName) ({ cls := "LeafSweep$Bench", name := "sort", desc := "(LLeafSweep$Leaves;II)V" } : Jvm.MethodName)) ∈ mm_tbl := mm_tt5 159 rfl rfl
theorem q_1522 : (Jvm.Cond.code ({ cls := "LeafSweep$Bench", name := "sort", desc := "(LLeafSweep$Leaves;II)V" } : Jvm.MethodName) prog_2_method_2_code (10 : Nat) (Option.none : Option Jvm.ClassFile.FieldType)) ∈ mm_tbl := mm_tt5 160 rfl rfl
theorem q_1523 : (Jvm.Cond.methodLink "LeafSweep$Bench" (31 : Nat) ({ cls := "LeafSweep$Bench", name := "gather", desc := "(LLeafSweep$Leaves;I)I" } : Jvm.MethodName)) ∈ mm_tbl := mm_tt5 161 rfl rfl
theorem q_1525 : (Jvm.Cond.instanceMethod ({ cls := "LeafSweep$Bench", name := "gather", desc := "(LLeafSweep$Leaves;I)I" } : Jvm.MethodName)) ∈ mm_tbl := mm_tt5 163 rfl rfl
theorem q_1526 : (Jvm.Cond.code ({ cls := "LeafSweep$Bench", name := "gather", desc := "(LLeafSweep$Leaves;I)I" } : Jvm.MethodName) prog_2_method_3_code (6 : Nat) (Option.some Jvm.ClassFile.FieldType.int)) ∈ mm_tbl := mm_tt5 164 rfl rfl
theorem q_1527 : (Jvm.Cond.methodLink "LeafSweep$Bench" (47 : Nat) ({ cls := "LeafSweep$Leaves", name := "codeWith", desc := "(I)I" } : Jvm.MethodName)) ∈ mm_tbl := mm_tt5 165 rfl rfl
theorem q_1528 : (Jvm.Cond.methodLink "LeafSweep$Bench" (35 : Nat) ({ cls := "java/lang/Math", name := "min", desc := "(II)I" } : Jvm.MethodName)) ∈ mm_tbl := mm_tt5 166 rfl rfl
theorem q_1529 : (Jvm.Cond.methodLink "LeafSweep$Bench" (41 : Nat) ({ cls := "LeafSweep$Bench", name := "firstBehind", desc := "(II)I" } : Jvm.MethodName)) ∈ mm_tbl := mm_tt5 167 rfl rfl
theorem q_1531 : (Jvm.Cond.instanceMethod ({ cls := "LeafSweep$Bench", name := "firstBehind", desc := "(II)I" } : Jvm.MethodName)) ∈ mm_tbl := mm_tt5 169 rfl rfl
theorem q_1532 : (Jvm.Cond.code ({ cls := "LeafSweep$Bench", name := "firstBehind", desc := "(II)I" } : Jvm.MethodName) prog_2_method_4_code (5 : Nat) (Option.some Jvm.ClassFile.FieldType.int)) ∈ mm_tbl := mm_tt5 170 rfl rfl
theorem q_1533 : (Jvm.Cond.methodLink "LeafSweep$Bench" (44 : Nat) ({ cls := "java/lang/Math", name := "max", desc := "(II)I" } : Jvm.MethodName)) ∈ mm_tbl := mm_tt5 171 rfl rfl
theorem q_1534 : (Jvm.Cond.static ({ cls := "java/lang/Math", name := "max", desc := "(II)I" } : Jvm.MethodName)) ∈ mm_tbl := mm_tt5 172 rfl rfl
theorem q_1535 : (Jvm.Cond.code ({ cls := "java/lang/Math", name := "max", desc := "(II)I" } : Jvm.MethodName) prog_20_method_65_code (2 : Nat) (Option.some Jvm.ClassFile.FieldType.int)) ∈ mm_tbl := mm_tt5 173 rfl rfl
theorem q_1537 : (Jvm.Cond.instanceMethod ({ cls := "LeafSweep", name := "run", desc := "(III)I" } : Jvm.MethodName)) ∈ mm_tbl := mm_tt5 175 rfl rfl
theorem q_1538 : (Jvm.Cond.selects "LeafSweep" ({ cls := "LeafSweep", name := "run", desc := "(III)I" } : Jvm.MethodName) ({ cls := "LeafSweep", name := "run", desc := "(III)I" } : Jvm.MethodName)) ∈ mm_tbl := mm_tt5 176 rfl rfl
theorem q_1539 : (Jvm.Cond.code ({ cls := "LeafSweep", name := "run", desc := "(III)I" } : Jvm.MethodName) prog_1_method_46_code (4 : Nat) (Option.some Jvm.ClassFile.FieldType.int)) ∈ mm_tbl := mm_tt5 177 rfl rfl
theorem q_1541 : (Jvm.Cond.instanceMethod ({ cls := "LeafSweep", name := "merged", desc := "(II)I" } : Jvm.MethodName)) ∈ mm_tbl := mm_tt5 179 rfl rfl
theorem q_1542 : (Jvm.Cond.selects "LeafSweep" ({ cls := "LeafSweep", name := "merged", desc := "(II)I" } : Jvm.MethodName) ({ cls := "LeafSweep", name := "merged", desc := "(II)I" } : Jvm.MethodName)) ∈ mm_tbl := mm_tt5 180 rfl rfl
theorem q_1543 : (Jvm.Cond.code ({ cls := "LeafSweep", name := "merged", desc := "(II)I" } : Jvm.MethodName) prog_1_method_47_code (3 : Nat) (Option.some Jvm.ClassFile.FieldType.int)) ∈ mm_tbl := mm_tt5 181 rfl rfl
theorem q_1544 : (Jvm.Cond.methodLink "LeafSweep" (374 : Nat) ({ cls := "LeafSweep$Bench", name := "mergeCost", desc := "()I" } : Jvm.MethodName)) ∈ mm_tbl := mm_tt5 182 rfl rfl
theorem q_1545 : (Jvm.Cond.instanceMethod ({ cls := "LeafSweep$Bench", name := "mergeCost", desc := "()I" } : Jvm.MethodName)) ∈ mm_tbl := mm_tt5 183 rfl rfl
theorem q_1546 : (Jvm.Cond.selects "LeafSweep$Bench" ({ cls := "LeafSweep$Bench", name := "mergeCost", desc := "()I" } : Jvm.MethodName) ({ cls := "LeafSweep$Bench", name := "mergeCost", desc := "()I" } : Jvm.MethodName)) ∈ mm_tbl := mm_tt5 184 rfl rfl
theorem q_1547 : (Jvm.Cond.code ({ cls := "LeafSweep$Bench", name := "mergeCost", desc := "()I" } : Jvm.MethodName) prog_2_method_5_code (3 : Nat) (Option.some Jvm.ClassFile.FieldType.int)) ∈ mm_tbl := mm_tt5 185 rfl rfl
theorem q_1548 : (Jvm.Cond.methodLink "LeafSweep$Bench" (53 : Nat) ({ cls := "java/lang/System", name := "arraycopy", desc := "(Ljava/lang/Object;ILjava/lang/Object;II)V" } : Jvm.MethodName)) ∈ mm_tbl := mm_tt5 186 rfl rfl
theorem q_1549 : (Jvm.Cond.methodLink "LeafSweep$Bench" (59 : Nat) ({ cls := "LeafSweep$Bench", name := "sortUpwards", desc := "([II)V" } : Jvm.MethodName)) ∈ mm_tbl := mm_tt5 187 rfl rfl
theorem q_1550 : (Jvm.Cond.static ({ cls := "LeafSweep$Bench", name := "sortUpwards", desc := "([II)V" } : Jvm.MethodName)) ∈ mm_tbl := mm_tt5 188 rfl rfl
theorem q_1551 : (Jvm.Cond.code ({ cls := "LeafSweep$Bench", name := "sortUpwards", desc := "([II)V" } : Jvm.MethodName) prog_2_method_6_code (5 : Nat) (Option.none : Option Jvm.ClassFile.FieldType)) ∈ mm_tbl := mm_tt5 189 rfl rfl
theorem q_1553 : (Jvm.Cond.instanceMethod ({ cls := "LeafSweep", name := "check", desc := "(I)I" } : Jvm.MethodName)) ∈ mm_tbl := mm_tt5 191 rfl rfl
theorem q_1554 : (Jvm.Cond.selects "LeafSweep" ({ cls := "LeafSweep", name := "check", desc := "(I)I" } : Jvm.MethodName) ({ cls := "LeafSweep", name := "check", desc := "(I)I" } : Jvm.MethodName)) ∈ mm_tbl := mm_tt5 192 rfl rfl
theorem q_1555 : (Jvm.Cond.code ({ cls := "LeafSweep", name := "check", desc := "(I)I" } : Jvm.MethodName) prog_1_method_48_code (2 : Nat) (Option.some Jvm.ClassFile.FieldType.int)) ∈ mm_tbl := mm_tt5 193 rfl rfl
theorem q_1556 : (Jvm.Cond.methodLink "LeafSweep" (377 : Nat) ({ cls := "LeafSweep$Bench", name := "comparisons", desc := "(LLeafSweep$State;I)I" } : Jvm.MethodName)) ∈ mm_tbl := mm_tt5 194 rfl rfl
theorem q_1557 : (Jvm.Cond.instanceMethod ({ cls := "LeafSweep$Bench", name := "comparisons", desc := "(LLeafSweep$State;I)I" } : Jvm.MethodName)) ∈ mm_tbl := mm_tt5 195 rfl rfl
theorem q_1558 : (Jvm.Cond.selects "LeafSweep$Bench" ({ cls := "LeafSweep$Bench", name := "comparisons", desc := "(LLeafSweep$State;I)I" } : Jvm.MethodName) ({ cls := "LeafSweep$Bench", name := "comparisons", desc := "(LLeafSweep$State;I)I" } : Jvm.MethodName)) ∈ mm_tbl := mm_tt5 196 rfl rfl
theorem q_1559 : (Jvm.Cond.code ({ cls := "LeafSweep$Bench", name := "comparisons", desc := "(LLeafSweep$State;I)I" } : Jvm.MethodName) prog_2_method_7_code (7 : Nat) (Option.some Jvm.ClassFile.FieldType.int)) ∈ mm_tbl := mm_tt5 197 rfl rfl
theorem q_1560 : (Jvm.Cond.methodLink "LeafSweep$Bench" (74 : Nat) ({ cls := "LeafSweep$Points", name := "isFirm", desc := "(I)Z" } : Jvm.MethodName)) ∈ mm_tbl := mm_tt5 198 rfl rfl
theorem q_1561 : (Jvm.Cond.methodLink "LeafSweep$Bench" (88 : Nat) ({ cls := "LeafSweep$Rows", name := "valueOf", desc := "(II)I" } : Jvm.MethodName)) ∈ mm_tbl := mm_tt5 199 rfl rfl
theorem q_1562 : (Jvm.Cond.methodLink "LeafSweep" (381 : Nat) ({ cls := "LeafSweep$State", name := "singlyCost", desc := "()I" } : Jvm.MethodName)) ∈ mm_tbl := mm_tt5 200 rfl rfl
theorem q_1563 : (Jvm.Cond.instanceMethod ({ cls := "LeafSweep$State", name := "singlyCost", desc := "()I" } : Jvm.MethodName)) ∈ mm_tbl := mm_tt5 201 rfl rfl
theorem q_1564 : (Jvm.Cond.selects "LeafSweep$State" ({ cls := "LeafSweep$State", name := "singlyCost", desc := "()I" } : Jvm.MethodName) ({ cls := "LeafSweep$State", name := "singlyCost", desc := "()I" } : Jvm.MethodName)) ∈ mm_tbl := mm_tt5 202 rfl rfl
theorem q_1565 : (Jvm.Cond.code ({ cls := "LeafSweep$State", name := "singlyCost", desc := "()I" } : Jvm.MethodName) prog_10_method_20_code (2 : Nat) (Option.some Jvm.ClassFile.FieldType.int)) ∈ mm_tbl := mm_tt5 203 rfl rfl
theorem q_1566 : (Jvm.Cond.methodLink "LeafSweep$State" (228 : Nat) ({ cls := "LeafSweep$Points", name := "firmOnes", desc := "()I" } : Jvm.MethodName)) ∈ mm_tbl := mm_tt5 204 rfl rfl
theorem q_1567 : (Jvm.Cond.instanceMethod ({ cls := "LeafSweep$Points", name := "firmOnes", desc := "()I" } : Jvm.MethodName)) ∈ mm_tbl := mm_tt5 205 rfl rfl
theorem q_1568 : (Jvm.Cond.selects "LeafSweep$Points" ({ cls := "LeafSweep$Points", name := "firmOnes", desc := "()I" } : Jvm.MethodName) ({ cls := "LeafSweep$Points", name := "firmOnes", desc := "()I" } : Jvm.MethodName)) ∈ mm_tbl := mm_tt5 206 rfl rfl
theorem q_1569 : (Jvm.Cond.code ({ cls := "LeafSweep$Points", name := "firmOnes", desc := "()I" } : Jvm.MethodName) prog_7_method_9_code (3 : Nat) (Option.some Jvm.ClassFile.FieldType.int)) ∈ mm_tbl := mm_tt5 207 rfl rfl
theorem q_1570 : (Jvm.Cond.methodLink "LeafSweep$Points" (35 : Nat) ({ cls := "LeafSweep$Points", name := "isFirm", desc := "(I)Z" } : Jvm.MethodName)) ∈ mm_tbl := mm_tt5 208 rfl rfl
theorem q_1572 : (Jvm.Cond.instanceMethod ({ cls := "LeafSweep", name := "hinders", desc := "()I" } : Jvm.MethodName)) ∈ mm_tbl := mm_tt5 210 rfl rfl
theorem q_1573 : (Jvm.Cond.selects "LeafSweep" ({ cls := "LeafSweep", name := "hinders", desc := "()I" } : Jvm.MethodName) ({ cls := "LeafSweep", name := "hinders", desc := "()I" } : Jvm.MethodName)) ∈ mm_tbl := mm_tt5 211 rfl rfl
theorem q_1574 : (Jvm.Cond.code ({ cls := "LeafSweep", name := "hinders", desc := "()I" } : Jvm.MethodName) prog_1_method_49_code (1 : Nat) (Option.some Jvm.ClassFile.FieldType.int)) ∈ mm_tbl := mm_tt5 212 rfl rfl
theorem q_1575 : (Jvm.Cond.methodLink "LeafSweep" (384 : Nat) ({ cls := "LeafSweep$State", name := "eligible", desc := "(III)I" } : Jvm.MethodName)) ∈ mm_tbl := mm_tt5 213 rfl rfl
theorem q_1576 : (Jvm.Cond.methodLink "LeafSweep" (387 : Nat) ({ cls := "LeafSweep$State", name := "hindering", desc := "(I)I" } : Jvm.MethodName)) ∈ mm_tbl := mm_tt5 214 rfl rfl
theorem q_1578 : (Jvm.Cond.instanceMethod ({ cls := "LeafSweep", name := "fits", desc := "(II)Z" } : Jvm.MethodName)) ∈ mm_tbl := mm_tt5 216 rfl rfl
theorem q_1579 : (Jvm.Cond.selects "LeafSweep" ({ cls := "LeafSweep", name := "fits", desc := "(II)Z" } : Jvm.MethodName) ({ cls := "LeafSweep", name := "fits", desc := "(II)Z" } : Jvm.MethodName)) ∈ mm_tbl := mm_tt5 217 rfl rfl
theorem q_1580 : (Jvm.Cond.code ({ cls := "LeafSweep", name := "fits", desc := "(II)Z" } : Jvm.MethodName) prog_1_method_50_code (3 : Nat) (Option.some Jvm.ClassFile.FieldType.boolean)) ∈ mm_tbl := mm_tt5 218 rfl rfl
theorem q_1581 : (Jvm.Cond.methodLink "LeafSweep" (390 : Nat) ({ cls := "LeafSweep$Rows", name := "isVisible", desc := "(I)Z" } : Jvm.MethodName)) ∈ mm_tbl := mm_tt5 219 rfl rfl
theorem q_1582 : (Jvm.Cond.methodLink "LeafSweep" (397 : Nat) ({ cls := "LeafSweep$Where", name := "holds", desc := "(LLeafSweep$State;I)Z" } : Jvm.MethodName)) ∈ mm_tbl := mm_tt5 220 rfl rfl
theorem q_1584 : (Jvm.Cond.instanceMethod ({ cls := "LeafSweep", name := "needs", desc := "(I)I" } : Jvm.MethodName)) ∈ mm_tbl := mm_tt5 222 rfl rfl
theorem q_1585 : (Jvm.Cond.selects "LeafSweep" ({ cls := "LeafSweep", name := "needs", desc := "(I)I" } : Jvm.MethodName) ({ cls := "LeafSweep", name := "needs", desc := "(I)I" } : Jvm.MethodName)) ∈ mm_tbl := mm_tt5 223 rfl rfl
theorem q_1586 : (Jvm.Cond.code ({ cls := "LeafSweep", name := "needs", desc := "(I)I" } : Jvm.MethodName) prog_1_method_51_code (2 : Nat) (Option.some Jvm.ClassFile.FieldType.int)) ∈ mm_tbl := mm_tt5 224 rfl rfl
theorem q_1588 : (Jvm.Cond.instanceMethod ({ cls := "LeafSweep", name := "free", desc := "(I)Z" } : Jvm.MethodName)) ∈ mm_tbl := mm_tt5 226 rfl rfl
theorem q_1589 : (Jvm.Cond.selects "LeafSweep" ({ cls := "LeafSweep", name := "free", desc := "(I)Z" } : Jvm.MethodName) ({ cls := "LeafSweep", name := "free", desc := "(I)Z" } : Jvm.MethodName)) ∈ mm_tbl := mm_tt5 227 rfl rfl
theorem q_1590 : (Jvm.Cond.code ({ cls := "LeafSweep", name := "free", desc := "(I)Z" } : Jvm.MethodName) prog_1_method_52_code (2 : Nat) (Option.some Jvm.ClassFile.FieldType.boolean)) ∈ mm_tbl := mm_tt5 228 rfl rfl
theorem q_1591 : (Jvm.Cond.methodLink "LeafSweep" (406 : Nat) ({ cls := "LeafSweep$State", name := "canExpel", desc := "(I)Z" } : Jvm.MethodName)) ∈ mm_tbl := mm_tt5 229 rfl rfl
theorem q_1593 : (Jvm.Cond.instanceMethod ({ cls := "LeafSweep", name := "would", desc := "(III)I" } : Jvm.MethodName)) ∈ mm_tbl := mm_tt5 231 rfl rfl
theorem q_1594 : (Jvm.Cond.selects "LeafSweep" ({ cls := "LeafSweep", name := "would", desc := "(III)I" } : Jvm.MethodName) ({ cls := "LeafSweep", name := "would", desc := "(III)I" } : Jvm.MethodName)) ∈ mm_tbl := mm_tt5 232 rfl rfl
theorem q_1595 : (Jvm.Cond.code ({ cls := "LeafSweep", name := "would", desc := "(III)I" } : Jvm.MethodName) prog_1_method_53_code (4 : Nat) (Option.some Jvm.ClassFile.FieldType.int)) ∈ mm_tbl := mm_tt5 233 rfl rfl
theorem q_1596 : (Jvm.Cond.methodLink "LeafSweep" (409 : Nat) ({ cls := "LeafSweep$State", name := "onceClashes", desc := "(II)I" } : Jvm.MethodName)) ∈ mm_tbl := mm_tt5 234 rfl rfl
theorem q_1598 : (Jvm.Cond.instanceMethod ({ cls := "LeafSweep", name := "count", desc := "(I)I" } : Jvm.MethodName)) ∈ mm_tbl := mm_tt5 236 rfl rfl
theorem q_1599 : (Jvm.Cond.selects "LeafSweep" ({ cls := "LeafSweep", name := "count", desc := "(I)I" } : Jvm.MethodName) ({ cls := "LeafSweep", name := "count", desc := "(I)I" } : Jvm.MethodName)) ∈ mm_tbl := mm_tt5 237 rfl rfl
theorem q_1600 : (Jvm.Cond.code ({ cls := "LeafSweep", name := "count", desc := "(I)I" } : Jvm.MethodName) prog_1_method_54_code (2 : Nat) (Option.some Jvm.ClassFile.FieldType.int)) ∈ mm_tbl := mm_tt5 238 rfl rfl
theorem q_1675 : (Jvm.Cond.instanceMethod ({ cls := "LeafSweepModel", name := "thrown", desc := "()I" } : Jvm.MethodName)) ∈ mm_tbl := mm_tt6 73 rfl rfl
theorem q_1676 : (Jvm.Cond.selects "LeafSweepModel" ({ cls := "LeafSweepModel", name := "thrown", desc := "()I" } : Jvm.MethodName) ({ cls := "LeafSweepModel", name := "thrown", desc := "()I" } : Jvm.MethodName)) ∈ mm_tbl := mm_tt6 74 rfl rfl
theorem q_1677 : (Jvm.Cond.code ({ cls := "LeafSweepModel", name := "thrown", desc := "()I" } : Jvm.MethodName) prog_14_method_1_code (1 : Nat) (Option.some Jvm.ClassFile.FieldType.int)) ∈ mm_tbl := mm_tt6 75 rfl rfl
theorem q_1679 : (Jvm.Cond.instanceMethod ({ cls := "LeafSweepModel", name := "feed", desc := "(JJJ)I" } : Jvm.MethodName)) ∈ mm_tbl := mm_tt6 77 rfl rfl
theorem q_1680 : (Jvm.Cond.selects "LeafSweepModel" ({ cls := "LeafSweepModel", name := "feed", desc := "(JJJ)I" } : Jvm.MethodName) ({ cls := "LeafSweepModel", name := "feed", desc := "(JJJ)I" } : Jvm.MethodName)) ∈ mm_tbl := mm_tt6 78 rfl rfl
theorem q_1681 : (Jvm.Cond.code ({ cls := "LeafSweepModel", name := "feed", desc := "(JJJ)I" } : Jvm.MethodName) prog_14_method_2_code (7 : Nat) (Option.some Jvm.ClassFile.FieldType.int)) ∈ mm_tbl := mm_tt6 79 rfl rfl
theorem q_1682 : (Jvm.Cond.methodLink "LeafSweepModel" (7 : Nat) ({ cls := "LeafSweepModel", name := "lay", desc := "(J)V" } : Jvm.MethodName)) ∈ mm_tbl := mm_tt6 80 rfl rfl
theorem q_1684 : (Jvm.Cond.instanceMethod ({ cls := "LeafSweepModel", name := "lay", desc := "(J)V" } : Jvm.MethodName)) ∈ mm_tbl := mm_tt6 82 rfl rfl
theorem q_1686 : (Jvm.Cond.code ({ cls := "LeafSweepModel", name := "lay", desc := "(J)V" } : Jvm.MethodName) prog_14_method_3_code (5 : Nat) (Option.none : Option Jvm.ClassFile.FieldType)) ∈ mm_tbl := mm_tt6 84 rfl rfl
theorem q_1729 : (Jvm.Cond.methodLink "LeafSweepModel" (142 : Nat) ({ cls := "LeafSweepModel", name := "standsAsAlways", desc := "(I)V" } : Jvm.MethodName)) ∈ mm_tbl := mm_tt6 127 rfl rfl
theorem q_1731 : (Jvm.Cond.instanceMethod ({ cls := "LeafSweepModel", name := "standsAsAlways", desc := "(I)V" } : Jvm.MethodName)) ∈ mm_tbl := mm_tt6 129 rfl rfl
theorem q_1732 : (Jvm.Cond.code ({ cls := "LeafSweepModel", name := "standsAsAlways", desc := "(I)V" } : Jvm.MethodName) prog_14_method_20_code (3 : Nat) (Option.none : Option Jvm.ClassFile.FieldType)) ∈ mm_tbl := mm_tt6 130 rfl rfl
theorem q_1733 : (Jvm.Cond.methodLink "LeafSweepModel" (146 : Nat) ({ cls := "LeafSweepModel", name := "begins", desc := "()V" } : Jvm.MethodName)) ∈ mm_tbl := mm_tt6 131 rfl rfl
theorem q_1735 : (Jvm.Cond.instanceMethod ({ cls := "LeafSweepModel", name := "begins", desc := "()V" } : Jvm.MethodName)) ∈ mm_tbl := mm_tt6 133 rfl rfl
theorem q_1736 : (Jvm.Cond.code ({ cls := "LeafSweepModel", name := "begins", desc := "()V" } : Jvm.MethodName) prog_14_method_109_code (1 : Nat) (Option.none : Option Jvm.ClassFile.FieldType)) ∈ mm_tbl := mm_tt6 134 rfl rfl
theorem q_1737 : (Jvm.Cond.methodLink "LeafSweepModel" (446 : Nat) ({ cls := "LeafSweepModel", name := "starts", desc := "(I)V" } : Jvm.MethodName)) ∈ mm_tbl := mm_tt6 135 rfl rfl
theorem q_1739 : (Jvm.Cond.instanceMethod ({ cls := "LeafSweepModel", name := "starts", desc := "(I)V" } : Jvm.MethodName)) ∈ mm_tbl := mm_tt6 137 rfl rfl
theorem q_1740 : (Jvm.Cond.code ({ cls := "LeafSweepModel", name := "starts", desc := "(I)V" } : Jvm.MethodName) prog_14_method_108_code (4 : Nat) (Option.none : Option Jvm.ClassFile.FieldType)) ∈ mm_tbl := mm_tt6 138 rfl rfl
theorem q_1741 : (Jvm.Cond.methodLink "LeafSweepModel" (268 : Nat) ({ cls := "LeafSweepModel", name := "indexes", desc := "()I" } : Jvm.MethodName)) ∈ mm_tbl := mm_tt6 139 rfl rfl
theorem q_1743 : (Jvm.Cond.instanceMethod ({ cls := "LeafSweepModel", name := "indexes", desc := "()I" } : Jvm.MethodName)) ∈ mm_tbl := mm_tt6 141 rfl rfl
theorem q_1744 : (Jvm.Cond.code ({ cls := "LeafSweepModel", name := "indexes", desc := "()I" } : Jvm.MethodName) prog_14_method_45_code (1 : Nat) (Option.some Jvm.ClassFile.FieldType.int)) ∈ mm_tbl := mm_tt6 142 rfl rfl
theorem q_1745 : (Jvm.Cond.methodLink "LeafSweepModel" (423 : Nat) ({ cls := "LeafSweepModel", name := "belongs", desc := "(III)Z" } : Jvm.MethodName)) ∈ mm_tbl := mm_tt6 143 rfl rfl
theorem q_1747 : (Jvm.Cond.instanceMethod ({ cls := "LeafSweepModel", name := "belongs", desc := "(III)Z" } : Jvm.MethodName)) ∈ mm_tbl := mm_tt6 145 rfl rfl
theorem q_1748 : (Jvm.Cond.code ({ cls := "LeafSweepModel", name := "belongs", desc := "(III)Z" } : Jvm.MethodName) prog_14_method_58_code (4 : Nat) (Option.some Jvm.ClassFile.FieldType.boolean)) ∈ mm_tbl := mm_tt6 146 rfl rfl
theorem q_1749 : (Jvm.Cond.methodLink "LeafSweepModel" (299 : Nat) ({ cls := "LeafSweepModel", name := "kindOf", desc := "(I)I" } : Jvm.MethodName)) ∈ mm_tbl := mm_tt6 147 rfl rfl
theorem q_1751 : (Jvm.Cond.instanceMethod ({ cls := "LeafSweepModel", name := "kindOf", desc := "(I)I" } : Jvm.MethodName)) ∈ mm_tbl := mm_tt6 149 rfl rfl
theorem q_1752 : (Jvm.Cond.code ({ cls := "LeafSweepModel", name := "kindOf", desc := "(I)I" } : Jvm.MethodName) prog_14_method_46_code (2 : Nat) (Option.some Jvm.ClassFile.FieldType.int)) ∈ mm_tbl := mm_tt6 150 rfl rfl
theorem q_1753 : (Jvm.Cond.methodLink "LeafSweepModel" (302 : Nat) ({ cls := "LeafSweepModel", name := "isSo", desc := "(III)Z" } : Jvm.MethodName)) ∈ mm_tbl := mm_tt6 151 rfl rfl
theorem q_1755 : (Jvm.Cond.instanceMethod ({ cls := "LeafSweepModel", name := "isSo", desc := "(III)Z" } : Jvm.MethodName)) ∈ mm_tbl := mm_tt6 153 rfl rfl
theorem q_1756 : (Jvm.Cond.code ({ cls := "LeafSweepModel", name := "isSo", desc := "(III)Z" } : Jvm.MethodName) prog_14_method_57_code (12 : Nat) (Option.some Jvm.ClassFile.FieldType.boolean)) ∈ mm_tbl := mm_tt6 154 rfl rfl
theorem q_1757 : (Jvm.Cond.methodLink "LeafSweepModel" (296 : Nat) ({ cls := "LeafSweepModel", name := "isLimited", desc := "(III)Z" } : Jvm.MethodName)) ∈ mm_tbl := mm_tt6 155 rfl rfl
theorem q_1759 : (Jvm.Cond.instanceMethod ({ cls := "LeafSweepModel", name := "isLimited", desc := "(III)Z" } : Jvm.MethodName)) ∈ mm_tbl := mm_tt6 157 rfl rfl
theorem q_1760 : (Jvm.Cond.code ({ cls := "LeafSweepModel", name := "isLimited", desc := "(III)Z" } : Jvm.MethodName) prog_14_method_56_code (6 : Nat) (Option.some Jvm.ClassFile.FieldType.boolean)) ∈ mm_tbl := mm_tt6 158 rfl rfl
theorem q_1761 : (Jvm.Cond.methodLink "LeafSweepModel" (286 : Nat) ({ cls := "LeafSweepModel", name := "valueOf", desc := "(III)I" } : Jvm.MethodName)) ∈ mm_tbl := mm_tt6 159 rfl rfl
theorem q_1763 : (Jvm.Cond.instanceMethod ({ cls := "LeafSweepModel", name := "valueOf", desc := "(III)I" } : Jvm.MethodName)) ∈ mm_tbl := mm_tt6 161 rfl rfl
theorem q_1764 : (Jvm.Cond.code ({ cls := "LeafSweepModel", name := "valueOf", desc := "(III)I" } : Jvm.MethodName) prog_14_method_49_code (4 : Nat) (Option.some Jvm.ClassFile.FieldType.int)) ∈ mm_tbl := mm_tt6 162 rfl rfl
theorem q_1765 : (Jvm.Cond.methodLink "LeafSweepModel" (242 : Nat) ({ cls := "LeafSweepModel", name := "columnOf", desc := "(II)I" } : Jvm.MethodName)) ∈ mm_tbl := mm_tt6 163 rfl rfl
theorem q_1766 : (Jvm.Cond.static ({ cls := "LeafSweepModel", name := "columnOf", desc := "(II)I" } : Jvm.MethodName)) ∈ mm_tbl := mm_tt6 164 rfl rfl
theorem q_1767 : (Jvm.Cond.code ({ cls := "LeafSweepModel", name := "columnOf", desc := "(II)I" } : Jvm.MethodName) prog_14_method_19_code (2 : Nat) (Option.some Jvm.ClassFile.FieldType.int)) ∈ mm_tbl := mm_tt6 165 rfl rfl
theorem q_1768 : (Jvm.Cond.constant "LeafSweepModel" (190 : Nat) (1000000 : Int32)) ∈ mm_tbl := mm_tt6 166 rfl rfl
theorem q_1769 : (Jvm.Cond.methodLink "LeafSweepModel" (275 : Nat) ({ cls := "LeafSweepModel", name := "within", desc := "(III)Z" } : Jvm.MethodName)) ∈ mm_tbl := mm_tt6 167 rfl rfl
theorem q_1770 : (Jvm.Cond.static ({ cls := "LeafSweepModel", name := "within", desc := "(III)Z" } : Jvm.MethodName)) ∈ mm_tbl := mm_tt6 168 rfl rfl
theorem q_1771 : (Jvm.Cond.code ({ cls := "LeafSweepModel", name := "within", desc := "(III)Z" } : Jvm.MethodName) prog_14_method_17_code (3 : Nat) (Option.some Jvm.ClassFile.FieldType.boolean)) ∈ mm_tbl := mm_tt6 169 rfl rfl
theorem q_1772 : (Jvm.Cond.methodLink "LeafSweepModel" (279 : Nat) ({ cls := "LeafSweepModel", name := "visible", desc := "(I)I" } : Jvm.MethodName)) ∈ mm_tbl := mm_tt6 170 rfl rfl
theorem q_1774 : (Jvm.Cond.instanceMethod ({ cls := "LeafSweepModel", name := "visible", desc := "(I)I" } : Jvm.MethodName)) ∈ mm_tbl := mm_tt6 172 rfl rfl
theorem q_1775 : (Jvm.Cond.code ({ cls := "LeafSweepModel", name := "visible", desc := "(I)I" } : Jvm.MethodName) prog_14_method_52_code (2 : Nat) (Option.some Jvm.ClassFile.FieldType.int)) ∈ mm_tbl := mm_tt6 173 rfl rfl
theorem q_1776 : (Jvm.Cond.methodLink "LeafSweepModel" (289 : Nat) ({ cls := "LeafSweepModel", name := "having", desc := "(IIII)I" } : Jvm.MethodName)) ∈ mm_tbl := mm_tt6 174 rfl rfl
theorem q_1778 : (Jvm.Cond.instanceMethod ({ cls := "LeafSweepModel", name := "having", desc := "(IIII)I" } : Jvm.MethodName)) ∈ mm_tbl := mm_tt6 176 rfl rfl
theorem q_1779 : (Jvm.Cond.code ({ cls := "LeafSweepModel", name := "having", desc := "(IIII)I" } : Jvm.MethodName) prog_14_method_54_code (7 : Nat) (Option.some Jvm.ClassFile.FieldType.int)) ∈ mm_tbl := mm_tt6 177 rfl rfl
theorem q_1780 : (Jvm.Cond.methodLink "LeafSweepModel" (282 : Nat) ({ cls := "LeafSweepModel", name := "has", desc := "(II)Z" } : Jvm.MethodName)) ∈ mm_tbl := mm_tt6 178 rfl rfl
theorem q_1781 : (Jvm.Cond.static ({ cls := "LeafSweepModel", name := "has", desc := "(II)Z" } : Jvm.MethodName)) ∈ mm_tbl := mm_tt6 179 rfl rfl
theorem q_1782 : (Jvm.Cond.code ({ cls := "LeafSweepModel", name := "has", desc := "(II)Z" } : Jvm.MethodName) prog_14_method_50_code (2 : Nat) (Option.some Jvm.ClassFile.FieldType.boolean)) ∈ mm_tbl := mm_tt6 180 rfl rfl
theorem q_1783 : (Jvm.Cond.methodLink "LeafSweepModel" (293 : Nat) ({ cls := "LeafSweepModel", name := "isPointed", desc := "(II)Z" } : Jvm.MethodName)) ∈ mm_tbl := mm_tt6 181 rfl rfl
theorem q_1785 : (Jvm.Cond.instanceMethod ({ cls := "LeafSweepModel", name := "isPointed", desc := "(II)Z" } : Jvm.MethodName)) ∈ mm_tbl := mm_tt6 183 rfl rfl
theorem q_1786 : (Jvm.Cond.code ({ cls := "LeafSweepModel", name := "isPointed", desc := "(II)Z" } : Jvm.MethodName) prog_14_method_55_code (5 : Nat) (Option.some Jvm.ClassFile.FieldType.boolean)) ∈ mm_tbl := mm_tt6 184 rfl rfl
theorem q_1787 : (Jvm.Cond.methodLink "LeafSweepModel" (411 : Nat) ({ cls := "LeafSweepModel", name := "columnAt", desc := "(I)I" } : Jvm.MethodName)) ∈ mm_tbl := mm_tt6 185 rfl rfl
theorem q_1789 : (Jvm.Cond.instanceMethod ({ cls := "LeafSweepModel", name := "columnAt", desc := "(I)I" } : Jvm.MethodName)) ∈ mm_tbl := mm_tt6 187 rfl rfl
theorem q_1790 : (Jvm.Cond.code ({ cls := "LeafSweepModel", name := "columnAt", desc := "(I)I" } : Jvm.MethodName) prog_14_method_47_code (2 : Nat) (Option.some Jvm.ClassFile.FieldType.int)) ∈ mm_tbl := mm_tt6 188 rfl rfl
theorem q_1791 : (Jvm.Cond.methodLink "LeafSweepModel" (384 : Nat) ({ cls := "LeafSweepModel", name := "entryOf", desc := "(III)I" } : Jvm.MethodName)) ∈ mm_tbl := mm_tt6 189 rfl rfl
theorem q_1793 : (Jvm.Cond.instanceMethod ({ cls := "LeafSweepModel", name := "entryOf", desc := "(III)I" } : Jvm.MethodName)) ∈ mm_tbl := mm_tt6 191 rfl rfl
theorem q_1794 : (Jvm.Cond.code ({ cls := "LeafSweepModel", name := "entryOf", desc := "(III)I" } : Jvm.MethodName) prog_14_method_59_code (4 : Nat) (Option.some Jvm.ClassFile.FieldType.int)) ∈ mm_tbl := mm_tt6 192 rfl rfl
theorem q_1795 : (Jvm.Cond.methodLink "LeafSweepModel" (390 : Nat) ({ cls := "LeafSweepModel", name := "puts", desc := "(III)V" } : Jvm.MethodName)) ∈ mm_tbl := mm_tt6 193 rfl rfl
theorem q_1797 : (Jvm.Cond.instanceMethod ({ cls := "LeafSweepModel", name := "puts", desc := "(III)V" } : Jvm.MethodName)) ∈ mm_tbl := mm_tt6 195 rfl rfl
theorem q_1798 : (Jvm.Cond.code ({ cls := "LeafSweepModel", name := "puts", desc := "(III)V" } : Jvm.MethodName) prog_14_method_71_code (7 : Nat) (Option.none : Option Jvm.ClassFile.FieldType)) ∈ mm_tbl := mm_tt6 196 rfl rfl
theorem q_1799 : (Jvm.Cond.methodLink "LeafSweepModel" (329 : Nat) ({ cls := "LeafSweepModel", name := "height", desc := "(II)I" } : Jvm.MethodName)) ∈ mm_tbl := mm_tt6 197 rfl rfl
theorem q_1801 : (Jvm.Cond.instanceMethod ({ cls := "LeafSweepModel", name := "height", desc := "(II)I" } : Jvm.MethodName)) ∈ mm_tbl := mm_tt6 199 rfl rfl
theorem q_1802 : (Jvm.Cond.code ({ cls := "LeafSweepModel", name := "height", desc := "(II)I" } : Jvm.MethodName) prog_14_method_67_code (5 : Nat) (Option.some Jvm.ClassFile.FieldType.int)) ∈ mm_tbl := mm_tt6 200 rfl rfl
theorem q_1803 : (Jvm.Cond.methodLink "LeafSweepModel" (317 : Nat) ({ cls := "LeafSweepModel", name := "leaves", desc := "(II)I" } : Jvm.MethodName)) ∈ mm_tbl := mm_tt6 201 rfl rfl
theorem q_1805 : (Jvm.Cond.instanceMethod ({ cls := "LeafSweepModel", name := "leaves", desc := "(II)I" } : Jvm.MethodName)) ∈ mm_tbl := mm_tt6 203 rfl rfl
theorem q_1806 : (Jvm.Cond.code ({ cls := "LeafSweepModel", name := "leaves", desc := "(II)I" } : Jvm.MethodName) prog_14_method_66_code (5 : Nat) (Option.some Jvm.ClassFile.FieldType.int)) ∈ mm_tbl := mm_tt6 204 rfl rfl
theorem q_1807 : (Jvm.Cond.methodLink "LeafSweepModel" (311 : Nat) ({ cls := "LeafSweepModel", name := "entries", desc := "(II)I" } : Jvm.MethodName)) ∈ mm_tbl := mm_tt6 205 rfl rfl
theorem q_1809 : (Jvm.Cond.instanceMethod ({ cls := "LeafSweepModel", name := "entries", desc := "(II)I" } : Jvm.MethodName)) ∈ mm_tbl := mm_tt6 207 rfl rfl
theorem q_1810 : (Jvm.Cond.code ({ cls := "LeafSweepModel", name := "entries", desc := "(II)I" } : Jvm.MethodName) prog_14_method_62_code (3 : Nat) (Option.some Jvm.ClassFile.FieldType.int)) ∈ mm_tbl := mm_tt6 208 rfl rfl
theorem q_1811 : (Jvm.Cond.methodLink "LeafSweepModel" (305 : Nat) ({ cls := "LeafSweepModel", name := "startOf", desc := "(II)I" } : Jvm.MethodName)) ∈ mm_tbl := mm_tt6 209 rfl rfl
theorem q_1813 : (Jvm.Cond.instanceMethod ({ cls := "LeafSweepModel", name := "startOf", desc := "(II)I" } : Jvm.MethodName)) ∈ mm_tbl := mm_tt6 211 rfl rfl
theorem q_1814 : (Jvm.Cond.code ({ cls := "LeafSweepModel", name := "startOf", desc := "(II)I" } : Jvm.MethodName) prog_14_method_61_code (3 : Nat) (Option.some Jvm.ClassFile.FieldType.int)) ∈ mm_tbl := mm_tt6 212 rfl rfl
theorem q_1815 : (Jvm.Cond.methodLink "LeafSweepModel" (314 : Nat) ({ cls := "LeafSweepModel", name := "isFirst", desc := "(III)Z" } : Jvm.MethodName)) ∈ mm_tbl := mm_tt6 213 rfl rfl
theorem q_1817 : (Jvm.Cond.instanceMethod ({ cls := "LeafSweepModel", name := "isFirst", desc := "(III)Z" } : Jvm.MethodName)) ∈ mm_tbl := mm_tt6 215 rfl rfl
theorem q_1818 : (Jvm.Cond.code ({ cls := "LeafSweepModel", name := "isFirst", desc := "(III)Z" } : Jvm.MethodName) prog_14_method_65_code (4 : Nat) (Option.some Jvm.ClassFile.FieldType.boolean)) ∈ mm_tbl := mm_tt6 216 rfl rfl
theorem q_1819 : (Jvm.Cond.methodLink "LeafSweepModel" (320 : Nat) ({ cls := "LeafSweepModel", name := "page", desc := "()I" } : Jvm.MethodName)) ∈ mm_tbl := mm_tt6 217 rfl rfl
theorem q_1821 : (Jvm.Cond.instanceMethod ({ cls := "LeafSweepModel", name := "page", desc := "()I" } : Jvm.MethodName)) ∈ mm_tbl := mm_tt6 219 rfl rfl
theorem q_1822 : (Jvm.Cond.code ({ cls := "LeafSweepModel", name := "page", desc := "()I" } : Jvm.MethodName) prog_14_method_44_code (1 : Nat) (Option.some Jvm.ClassFile.FieldType.int)) ∈ mm_tbl := mm_tt6 220 rfl rfl
theorem q_1823 : (Jvm.Cond.methodLink "LeafSweepModel" (332 : Nat) ({ cls := "LeafSweepModel", name := "placeFor", desc := "(III)I" } : Jvm.MethodName)) ∈ mm_tbl := mm_tt6 221 rfl rfl
theorem q_1825 : (Jvm.Cond.instanceMethod ({ cls := "LeafSweepModel", name := "placeFor", desc := "(III)I" } : Jvm.MethodName)) ∈ mm_tbl := mm_tt6 223 rfl rfl
theorem q_1826 : (Jvm.Cond.code ({ cls := "LeafSweepModel", name := "placeFor", desc := "(III)I" } : Jvm.MethodName) prog_14_method_69_code (6 : Nat) (Option.some Jvm.ClassFile.FieldType.int)) ∈ mm_tbl := mm_tt6 224 rfl rfl
theorem q_1827 : (Jvm.Cond.methodLink "LeafSweepModel" (308 : Nat) ({ cls := "LeafSweepModel", name := "entryAt", desc := "(III)I" } : Jvm.MethodName)) ∈ mm_tbl := mm_tt6 225 rfl rfl
theorem q_1829 : (Jvm.Cond.instanceMethod ({ cls := "LeafSweepModel", name := "entryAt", desc := "(III)I" } : Jvm.MethodName)) ∈ mm_tbl := mm_tt6 227 rfl rfl
theorem q_1830 : (Jvm.Cond.code ({ cls := "LeafSweepModel", name := "entryAt", desc := "(III)I" } : Jvm.MethodName) prog_14_method_63_code (4 : Nat) (Option.some Jvm.ClassFile.FieldType.int)) ∈ mm_tbl := mm_tt6 228 rfl rfl
theorem q_1831 : (Jvm.Cond.methodLink "LeafSweepModel" (335 : Nat) ({ cls := "LeafSweepModel", name := "leafAround", desc := "(III)V" } : Jvm.MethodName)) ∈ mm_tbl := mm_tt6 229 rfl rfl
theorem q_1833 : (Jvm.Cond.instanceMethod ({ cls := "LeafSweepModel", name := "leafAround", desc := "(III)V" } : Jvm.MethodName)) ∈ mm_tbl := mm_tt6 231 rfl rfl
theorem q_1834 : (Jvm.Cond.code ({ cls := "LeafSweepModel", name := "leafAround", desc := "(III)V" } : Jvm.MethodName) prog_14_method_70_code (4 : Nat) (Option.none : Option Jvm.ClassFile.FieldType)) ∈ mm_tbl := mm_tt6 232 rfl rfl
theorem q_1835 : (Jvm.Cond.fieldLink "LeafSweepModel" (1 : Nat) "LeafSweepModel" "thrown" "I") ∈ mm_tbl := mm_tt6 233 rfl rfl
theorem q_1836 : (Jvm.Cond.fieldLink "LeafSweepModel" (14 : Nat) "LeafSweepModel" "tape" "[I") ∈ mm_tbl := mm_tt6 234 rfl rfl
theorem q_1837 : (Jvm.Cond.fieldLink "LeafSweepModel" (11 : Nat) "LeafSweepModel" "taped" "I") ∈ mm_tbl := mm_tt6 235 rfl rfl
theorem q_1838 : (Jvm.Cond.fieldLink "LeafSweepModel" (153 : Nat) "LeafSweepModel" "size" "I") ∈ mm_tbl := mm_tt6 236 rfl rfl
theorem q_1839 : (Jvm.Cond.fieldLink "LeafSweepModel" (24 : Nat) "LeafSweepModel" "sort" "[I") ∈ mm_tbl := mm_tt6 237 rfl rfl
theorem q_1840 : (Jvm.Cond.fieldLink "LeafSweepModel" (27 : Nat) "LeafSweepModel" "place" "[I") ∈ mm_tbl := mm_tt6 238 rfl rfl
theorem q_1841 : (Jvm.Cond.fieldLink "LeafSweepModel" (30 : Nat) "LeafSweepModel" "value" "[J") ∈ mm_tbl := mm_tt6 239 rfl rfl
theorem q_1842 : (Jvm.Cond.fieldLink "LeafSweepModel" (172 : Nat) "LeafSweepModel" "at" "I") ∈ mm_tbl := mm_tt7 0 rfl rfl
theorem q_1843 : (Jvm.Cond.fieldLink "LeafSweepModel" (175 : Nat) "LeafSweepModel" "fault" "I") ∈ mm_tbl := mm_tt7 1 rfl rfl
theorem q_1844 : (Jvm.Cond.fieldLink "LeafSweepModel" (108 : Nat) "LeafSweepModel" "words" "[J") ∈ mm_tbl := mm_tt7 2 rfl rfl
theorem q_1845 : (Jvm.Cond.fieldLink "LeafSweepModel" (111 : Nat) "LeafSweepModel" "tables" "[I") ∈ mm_tbl := mm_tt7 3 rfl rfl
theorem q_1846 : (Jvm.Cond.fieldLink "LeafSweepModel" (114 : Nat) "LeafSweepModel" "wheres" "[I") ∈ mm_tbl := mm_tt7 4 rfl rfl
theorem q_1847 : (Jvm.Cond.fieldLink "LeafSweepModel" (117 : Nat) "LeafSweepModel" "names" "[J") ∈ mm_tbl := mm_tt7 5 rfl rfl
theorem q_1848 : (Jvm.Cond.fieldLink "LeafSweepModel" (120 : Nat) "LeafSweepModel" "lines" "[I") ∈ mm_tbl := mm_tt7 6 rfl rfl
theorem q_1849 : (Jvm.Cond.fieldLink "LeafSweepModel" (123 : Nat) "LeafSweepModel" "state" "[I") ∈ mm_tbl := mm_tt7 7 rfl rfl
theorem q_1850 : (Jvm.Cond.fieldLink "LeafSweepModel" (449 : Nat) "LeafSweepModel" "undos" "I") ∈ mm_tbl := mm_tt7 8 rfl rfl
theorem q_1851 : (Jvm.Cond.fieldLink "LeafSweepModel" (402 : Nat) "LeafSweepModel" "batch" "I") ∈ mm_tbl := mm_tt7 9 rfl rfl
theorem q_1852 : (Jvm.Cond.fieldLink "LeafSweepModel" (452 : Nat) "LeafSweepModel" "cursor" "I") ∈ mm_tbl := mm_tt7 10 rfl rfl
theorem q_1853 : (Jvm.Cond.fieldLink "LeafSweepModel" (523 : Nat) "LeafSweepModel" "cursorKey" "I") ∈ mm_tbl := mm_tt7 11 rfl rfl
theorem q_1854 : (Jvm.Cond.fieldLink "LeafSweepModel" (526 : Nat) "LeafSweepModel" "cursorLast" "I") ∈ mm_tbl := mm_tt7 12 rfl rfl
theorem q_1855 : (Jvm.Cond.fieldLink "LeafSweepModel" (323 : Nat) "LeafSweepModel" "low" "I") ∈ mm_tbl := mm_tt7 13 rfl rfl
theorem q_1856 : (Jvm.Cond.fieldLink "LeafSweepModel" (326 : Nat) "LeafSweepModel" "high" "I") ∈ mm_tbl := mm_tt7 14 rfl rfl
theorem q_1857 : (Jvm.Cond.fieldLink "LeafSweepModel" (126 : Nat) "LeafSweepModel" "belonged" "[Z") ∈ mm_tbl := mm_tt7 15 rfl rfl
theorem q_1858 : (Jvm.Cond.fieldLink "LeafSweepModel" (130 : Nat) "LeafSweepModel" "valued" "[I") ∈ mm_tbl := mm_tt7 16 rfl rfl
theorem q_1859 : (Jvm.Cond.fieldLink "LeafSweepModel" (133 : Nat) "LeafSweepModel" "queue" "[I") ∈ mm_tbl := mm_tt7 17 rfl rfl
theorem q_1860 : (Jvm.Cond.fieldLink "LeafSweepModel" (136 : Nat) "LeafSweepModel" "memory" "[I") ∈ mm_tbl := mm_tt7 18 rfl rfl
theorem q_1861 : (Jvm.Cond.fieldLink "LeafSweepModel" (139 : Nat) "LeafSweepModel" "longs" "[I") ∈ mm_tbl := mm_tt7 19 rfl rfl
theorem q_1862 : (Jvm.Cond.lays "LeafSweepModel" "LeafSweepModel" "thrown" "I") ∈ mm_tbl := mm_tt7 20 rfl rfl
theorem q_1864 : (Jvm.Cond.laysFinal "LeafSweepModel" "LeafSweepModel" "tape" "[I") ∈ mm_tbl := mm_tt7 22 rfl rfl
theorem q_1866 : (Jvm.Cond.lays "LeafSweepModel" "LeafSweepModel" "taped" "I") ∈ mm_tbl := mm_tt7 24 rfl rfl
theorem q_1868 : (Jvm.Cond.lays "LeafSweepModel" "LeafSweepModel" "size" "I") ∈ mm_tbl := mm_tt7 26 rfl rfl
theorem q_1870 : (Jvm.Cond.laysFinal "LeafSweepModel" "LeafSweepModel" "sort" "[I") ∈ mm_tbl := mm_tt7 28 rfl rfl
theorem q_1872 : (Jvm.Cond.laysFinal "LeafSweepModel" "LeafSweepModel" "place" "[I") ∈ mm_tbl := mm_tt7 30 rfl rfl
theorem q_1874 : (Jvm.Cond.laysFinal "LeafSweepModel" "LeafSweepModel" "value" "[J") ∈ mm_tbl := mm_tt7 32 rfl rfl
theorem q_1876 : (Jvm.Cond.lays "LeafSweepModel" "LeafSweepModel" "at" "I") ∈ mm_tbl := mm_tt7 34 rfl rfl
theorem q_1878 : (Jvm.Cond.lays "LeafSweepModel" "LeafSweepModel" "fault" "I") ∈ mm_tbl := mm_tt7 36 rfl rfl
theorem q_1880 : (Jvm.Cond.laysFinal "LeafSweepModel" "LeafSweepModel" "words" "[J") ∈ mm_tbl := mm_tt7 38 rfl rfl
theorem q_1882 : (Jvm.Cond.laysFinal "LeafSweepModel" "LeafSweepModel" "tables" "[I") ∈ mm_tbl := mm_tt7 40 rfl rfl
theorem q_1884 : (Jvm.Cond.laysFinal "LeafSweepModel" "LeafSweepModel" "wheres" "[I") ∈ mm_tbl := mm_tt7 42 rfl rfl
theorem q_1886 : (Jvm.Cond.laysFinal "LeafSweepModel" "LeafSweepModel" "names" "[J") ∈ mm_tbl := mm_tt7 44 rfl rfl
theorem q_1888 : (Jvm.Cond.laysFinal "LeafSweepModel" "LeafSweepModel" "lines" "[I") ∈ mm_tbl := mm_tt7 46 rfl rfl
theorem q_1890 : (Jvm.Cond.laysFinal "LeafSweepModel" "LeafSweepModel" "state" "[I") ∈ mm_tbl := mm_tt7 48 rfl rfl
theorem q_1892 : (Jvm.Cond.lays "LeafSweepModel" "LeafSweepModel" "undos" "I") ∈ mm_tbl := mm_tt7 50 rfl rfl
theorem q_1894 : (Jvm.Cond.lays "LeafSweepModel" "LeafSweepModel" "batch" "I") ∈ mm_tbl := mm_tt7 52 rfl rfl
theorem q_1896 : (Jvm.Cond.lays "LeafSweepModel" "LeafSweepModel" "cursor" "I") ∈ mm_tbl := mm_tt7 54 rfl rfl
theorem q_1898 : (Jvm.Cond.lays "LeafSweepModel" "LeafSweepModel" "cursorKey" "I") ∈ mm_tbl := mm_tt7 56 rfl rfl
theorem q_1900 : (Jvm.Cond.lays "LeafSweepModel" "LeafSweepModel" "cursorLast" "I") ∈ mm_tbl := mm_tt7 58 rfl rfl
theorem q_1902 : (Jvm.Cond.lays "LeafSweepModel" "LeafSweepModel" "low" "I") ∈ mm_tbl := mm_tt7 60 rfl rfl
theorem q_1904 : (Jvm.Cond.lays "LeafSweepModel" "LeafSweepModel" "high" "I") ∈ mm_tbl := mm_tt7 62 rfl rfl
theorem q_1906 : (Jvm.Cond.laysFinal "LeafSweepModel" "LeafSweepModel" "belonged" "[Z") ∈ mm_tbl := mm_tt7 64 rfl rfl
theorem q_1908 : (Jvm.Cond.laysFinal "LeafSweepModel" "LeafSweepModel" "valued" "[I") ∈ mm_tbl := mm_tt7 66 rfl rfl
theorem q_1910 : (Jvm.Cond.laysFinal "LeafSweepModel" "LeafSweepModel" "queue" "[I") ∈ mm_tbl := mm_tt7 68 rfl rfl
theorem q_1912 : (Jvm.Cond.laysFinal "LeafSweepModel" "LeafSweepModel" "memory" "[I") ∈ mm_tbl := mm_tt7 70 rfl rfl
theorem q_1914 : (Jvm.Cond.laysFinal "LeafSweepModel" "LeafSweepModel" "longs" "[I") ∈ mm_tbl := mm_tt7 72 rfl rfl
theorem q_1918 : (Jvm.Cond.instanceMethod ({ cls := "LeafSweepModel", name := "table", desc := "()I" } : Jvm.MethodName)) ∈ mm_tbl := mm_tt7 76 rfl rfl
theorem q_1919 : (Jvm.Cond.selects "LeafSweepModel" ({ cls := "LeafSweepModel", name := "table", desc := "()I" } : Jvm.MethodName) ({ cls := "LeafSweepModel", name := "table", desc := "()I" } : Jvm.MethodName)) ∈ mm_tbl := mm_tt7 77 rfl rfl
theorem q_1920 : (Jvm.Cond.code ({ cls := "LeafSweepModel", name := "table", desc := "()I" } : Jvm.MethodName) prog_14_method_28_code (2 : Nat) (Option.some Jvm.ClassFile.FieldType.int)) ∈ mm_tbl := mm_tt7 78 rfl rfl
theorem q_1921 : (Jvm.Cond.methodLink "LeafSweepModel" (208 : Nat) ({ cls := "LeafSweepModel", name := "cutAll", desc := "()V" } : Jvm.MethodName)) ∈ mm_tbl := mm_tt7 79 rfl rfl
theorem q_1923 : (Jvm.Cond.instanceMethod ({ cls := "LeafSweepModel", name := "cutAll", desc := "()V" } : Jvm.MethodName)) ∈ mm_tbl := mm_tt7 81 rfl rfl
theorem q_1924 : (Jvm.Cond.code ({ cls := "LeafSweepModel", name := "cutAll", desc := "()V" } : Jvm.MethodName) prog_14_method_9_code (7 : Nat) (Option.none : Option Jvm.ClassFile.FieldType)) ∈ mm_tbl := mm_tt7 82 rfl rfl
theorem q_1925 : (Jvm.Cond.methodLink "LeafSweepModel" (149 : Nat) ({ cls := "LeafSweepModel", name := "isLetter", desc := "(I)Z" } : Jvm.MethodName)) ∈ mm_tbl := mm_tt7 83 rfl rfl
theorem q_1926 : (Jvm.Cond.static ({ cls := "LeafSweepModel", name := "isLetter", desc := "(I)Z" } : Jvm.MethodName)) ∈ mm_tbl := mm_tt7 84 rfl rfl
theorem q_1927 : (Jvm.Cond.code ({ cls := "LeafSweepModel", name := "isLetter", desc := "(I)Z" } : Jvm.MethodName) prog_14_method_5_code (1 : Nat) (Option.some Jvm.ClassFile.FieldType.boolean)) ∈ mm_tbl := mm_tt7 85 rfl rfl
theorem q_1928 : (Jvm.Cond.constantLong "LeafSweepModel" (156 : Nat) (37 : Int64)) ∈ mm_tbl := mm_tt7 86 rfl rfl
theorem q_1929 : (Jvm.Cond.methodLink "LeafSweepModel" (158 : Nat) ({ cls := "LeafSweepModel", name := "rank", desc := "(I)I" } : Jvm.MethodName)) ∈ mm_tbl := mm_tt7 87 rfl rfl
theorem q_1930 : (Jvm.Cond.static ({ cls := "LeafSweepModel", name := "rank", desc := "(I)I" } : Jvm.MethodName)) ∈ mm_tbl := mm_tt7 88 rfl rfl
theorem q_1931 : (Jvm.Cond.code ({ cls := "LeafSweepModel", name := "rank", desc := "(I)I" } : Jvm.MethodName) prog_14_method_7_code (1 : Nat) (Option.some Jvm.ClassFile.FieldType.int)) ∈ mm_tbl := mm_tt7 89 rfl rfl
theorem q_1932 : (Jvm.Cond.methodLink "LeafSweepModel" (162 : Nat) ({ cls := "LeafSweepModel", name := "isDigit", desc := "(I)Z" } : Jvm.MethodName)) ∈ mm_tbl := mm_tt7 90 rfl rfl
theorem q_1933 : (Jvm.Cond.static ({ cls := "LeafSweepModel", name := "isDigit", desc := "(I)Z" } : Jvm.MethodName)) ∈ mm_tbl := mm_tt7 91 rfl rfl
theorem q_1934 : (Jvm.Cond.code ({ cls := "LeafSweepModel", name := "isDigit", desc := "(I)Z" } : Jvm.MethodName) prog_14_method_6_code (1 : Nat) (Option.some Jvm.ClassFile.FieldType.boolean)) ∈ mm_tbl := mm_tt7 92 rfl rfl
theorem q_1935 : (Jvm.Cond.constantLong "LeafSweepModel" (165 : Nat) (10 : Int64)) ∈ mm_tbl := mm_tt7 93 rfl rfl
theorem q_1936 : (Jvm.Cond.constantLong "LeafSweepModel" (167 : Nat) (48 : Int64)) ∈ mm_tbl := mm_tt7 94 rfl rfl
theorem q_1937 : (Jvm.Cond.methodLink "LeafSweepModel" (169 : Nat) ({ cls := "LeafSweepModel", name := "isSignOf", desc := "(I)Z" } : Jvm.MethodName)) ∈ mm_tbl := mm_tt7 95 rfl rfl
theorem q_1938 : (Jvm.Cond.static ({ cls := "LeafSweepModel", name := "isSignOf", desc := "(I)Z" } : Jvm.MethodName)) ∈ mm_tbl := mm_tt7 96 rfl rfl
theorem q_1939 : (Jvm.Cond.code ({ cls := "LeafSweepModel", name := "isSignOf", desc := "(I)Z" } : Jvm.MethodName) prog_14_method_8_code (1 : Nat) (Option.some Jvm.ClassFile.FieldType.boolean)) ∈ mm_tbl := mm_tt7 97 rfl rfl
theorem q_1940 : (Jvm.Cond.methodLink "LeafSweepModel" (211 : Nat) ({ cls := "LeafSweepModel", name := "readLine", desc := "()V" } : Jvm.MethodName)) ∈ mm_tbl := mm_tt7 98 rfl rfl
theorem q_1942 : (Jvm.Cond.instanceMethod ({ cls := "LeafSweepModel", name := "readLine", desc := "()V" } : Jvm.MethodName)) ∈ mm_tbl := mm_tt7 100 rfl rfl
theorem q_1943 : (Jvm.Cond.code ({ cls := "LeafSweepModel", name := "readLine", desc := "()V" } : Jvm.MethodName) prog_14_method_31_code (4 : Nat) (Option.none : Option Jvm.ClassFile.FieldType)) ∈ mm_tbl := mm_tt7 101 rfl rfl
theorem q_1944 : (Jvm.Cond.methodLink "LeafSweepModel" (198 : Nat) ({ cls := "LeafSweepModel", name := "wordHere", desc := "(II)I" } : Jvm.MethodName)) ∈ mm_tbl := mm_tt7 102 rfl rfl
theorem q_1946 : (Jvm.Cond.instanceMethod ({ cls := "LeafSweepModel", name := "wordHere", desc := "(II)I" } : Jvm.MethodName)) ∈ mm_tbl := mm_tt7 104 rfl rfl
theorem q_1947 : (Jvm.Cond.code ({ cls := "LeafSweepModel", name := "wordHere", desc := "(II)I" } : Jvm.MethodName) prog_14_method_23_code (5 : Nat) (Option.some Jvm.ClassFile.FieldType.int)) ∈ mm_tbl := mm_tt7 105 rfl rfl
theorem q_1948 : (Jvm.Cond.methodLink "LeafSweepModel" (184 : Nat) ({ cls := "LeafSweepModel", name := "isWord", desc := "(I)Z" } : Jvm.MethodName)) ∈ mm_tbl := mm_tt7 106 rfl rfl
theorem q_1950 : (Jvm.Cond.instanceMethod ({ cls := "LeafSweepModel", name := "isWord", desc := "(I)Z" } : Jvm.MethodName)) ∈ mm_tbl := mm_tt7 108 rfl rfl
theorem q_1951 : (Jvm.Cond.code ({ cls := "LeafSweepModel", name := "isWord", desc := "(I)Z" } : Jvm.MethodName) prog_14_method_12_code (2 : Nat) (Option.some Jvm.ClassFile.FieldType.boolean)) ∈ mm_tbl := mm_tt7 109 rfl rfl
theorem q_1952 : (Jvm.Cond.methodLink "LeafSweepModel" (217 : Nat) ({ cls := "LeafSweepModel", name := "told", desc := "(I)I" } : Jvm.MethodName)) ∈ mm_tbl := mm_tt7 110 rfl rfl
theorem q_1954 : (Jvm.Cond.instanceMethod ({ cls := "LeafSweepModel", name := "told", desc := "(I)I" } : Jvm.MethodName)) ∈ mm_tbl := mm_tt7 112 rfl rfl
theorem q_1955 : (Jvm.Cond.code ({ cls := "LeafSweepModel", name := "told", desc := "(I)I" } : Jvm.MethodName) prog_14_method_29_code (2 : Nat) (Option.some Jvm.ClassFile.FieldType.int)) ∈ mm_tbl := mm_tt7 113 rfl rfl
theorem q_1956 : (Jvm.Cond.methodLink "LeafSweepModel" (181 : Nat) ({ cls := "LeafSweepModel", name := "wrong", desc := "(I)V" } : Jvm.MethodName)) ∈ mm_tbl := mm_tt7 114 rfl rfl
theorem q_1958 : (Jvm.Cond.instanceMethod ({ cls := "LeafSweepModel", name := "wrong", desc := "(I)V" } : Jvm.MethodName)) ∈ mm_tbl := mm_tt7 116 rfl rfl
theorem q_1959 : (Jvm.Cond.code ({ cls := "LeafSweepModel", name := "wrong", desc := "(I)V" } : Jvm.MethodName) prog_14_method_10_code (2 : Nat) (Option.none : Option Jvm.ClassFile.FieldType)) ∈ mm_tbl := mm_tt7 117 rfl rfl
theorem q_1960 : (Jvm.Cond.methodLink "LeafSweepModel" (220 : Nat) ({ cls := "LeafSweepModel", name := "is", desc := "(II)V" } : Jvm.MethodName)) ∈ mm_tbl := mm_tt7 118 rfl rfl
theorem q_1962 : (Jvm.Cond.instanceMethod ({ cls := "LeafSweepModel", name := "is", desc := "(II)V" } : Jvm.MethodName)) ∈ mm_tbl := mm_tt7 120 rfl rfl
theorem q_1963 : (Jvm.Cond.code ({ cls := "LeafSweepModel", name := "is", desc := "(II)V" } : Jvm.MethodName) prog_14_method_30_code (3 : Nat) (Option.none : Option Jvm.ClassFile.FieldType)) ∈ mm_tbl := mm_tt7 121 rfl rfl
theorem q_1964 : (Jvm.Cond.methodLink "LeafSweepModel" (224 : Nat) ({ cls := "LeafSweepModel", name := "reads", desc := "(I)V" } : Jvm.MethodName)) ∈ mm_tbl := mm_tt7 122 rfl rfl
theorem q_1966 : (Jvm.Cond.instanceMethod ({ cls := "LeafSweepModel", name := "reads", desc := "(I)V" } : Jvm.MethodName)) ∈ mm_tbl := mm_tt7 124 rfl rfl
theorem q_1967 : (Jvm.Cond.code ({ cls := "LeafSweepModel", name := "reads", desc := "(I)V" } : Jvm.MethodName) prog_14_method_32_code (2 : Nat) (Option.none : Option Jvm.ClassFile.FieldType)) ∈ mm_tbl := mm_tt7 125 rfl rfl
theorem q_1968 : (Jvm.Cond.methodLink "LeafSweepModel" (194 : Nat) ({ cls := "LeafSweepModel", name := "takeNumber", desc := "(II)I" } : Jvm.MethodName)) ∈ mm_tbl := mm_tt7 126 rfl rfl
theorem q_1970 : (Jvm.Cond.instanceMethod ({ cls := "LeafSweepModel", name := "takeNumber", desc := "(II)I" } : Jvm.MethodName)) ∈ mm_tbl := mm_tt7 128 rfl rfl
theorem q_1971 : (Jvm.Cond.code ({ cls := "LeafSweepModel", name := "takeNumber", desc := "(II)I" } : Jvm.MethodName) prog_14_method_21_code (3 : Nat) (Option.some Jvm.ClassFile.FieldType.int)) ∈ mm_tbl := mm_tt7 129 rfl rfl
theorem q_1972 : (Jvm.Cond.methodLink "LeafSweepModel" (227 : Nat) ({ cls := "LeafSweepModel", name := "readIndex", desc := "()V" } : Jvm.MethodName)) ∈ mm_tbl := mm_tt7 130 rfl rfl
theorem q_1974 : (Jvm.Cond.instanceMethod ({ cls := "LeafSweepModel", name := "readIndex", desc := "()V" } : Jvm.MethodName)) ∈ mm_tbl := mm_tt7 132 rfl rfl
theorem q_1975 : (Jvm.Cond.code ({ cls := "LeafSweepModel", name := "readIndex", desc := "()V" } : Jvm.MethodName) prog_14_method_33_code (4 : Nat) (Option.none : Option Jvm.ClassFile.FieldType)) ∈ mm_tbl := mm_tt7 133 rfl rfl
theorem q_1976 : (Jvm.Cond.methodLink "LeafSweepModel" (201 : Nat) ({ cls := "LeafSweepModel", name := "isName", desc := "()Z" } : Jvm.MethodName)) ∈ mm_tbl := mm_tt7 134 rfl rfl
theorem q_1978 : (Jvm.Cond.instanceMethod ({ cls := "LeafSweepModel", name := "isName", desc := "()Z" } : Jvm.MethodName)) ∈ mm_tbl := mm_tt7 136 rfl rfl
theorem q_1979 : (Jvm.Cond.code ({ cls := "LeafSweepModel", name := "isName", desc := "()Z" } : Jvm.MethodName) prog_14_method_25_code (1 : Nat) (Option.some Jvm.ClassFile.FieldType.boolean)) ∈ mm_tbl := mm_tt7 137 rfl rfl
theorem q_1980 : (Jvm.Cond.methodLink "LeafSweepModel" (205 : Nat) ({ cls := "LeafSweepModel", name := "nameAt", desc := "(II)I" } : Jvm.MethodName)) ∈ mm_tbl := mm_tt7 138 rfl rfl
theorem q_1982 : (Jvm.Cond.instanceMethod ({ cls := "LeafSweepModel", name := "nameAt", desc := "(II)I" } : Jvm.MethodName)) ∈ mm_tbl := mm_tt7 140 rfl rfl
theorem q_1983 : (Jvm.Cond.code ({ cls := "LeafSweepModel", name := "nameAt", desc := "(II)I" } : Jvm.MethodName) prog_14_method_26_code (5 : Nat) (Option.some Jvm.ClassFile.FieldType.int)) ∈ mm_tbl := mm_tt7 141 rfl rfl
theorem q_1984 : (Jvm.Cond.methodLink "LeafSweepModel" (239 : Nat) ({ cls := "LeafSweepModel", name := "takeOne", desc := "(II)I" } : Jvm.MethodName)) ∈ mm_tbl := mm_tt7 142 rfl rfl
theorem q_1986 : (Jvm.Cond.instanceMethod ({ cls := "LeafSweepModel", name := "takeOne", desc := "(II)I" } : Jvm.MethodName)) ∈ mm_tbl := mm_tt7 144 rfl rfl
theorem q_1987 : (Jvm.Cond.code ({ cls := "LeafSweepModel", name := "takeOne", desc := "(II)I" } : Jvm.MethodName) prog_14_method_24_code (4 : Nat) (Option.some Jvm.ClassFile.FieldType.int)) ∈ mm_tbl := mm_tt7 145 rfl rfl
theorem q_1988 : (Jvm.Cond.methodLink "LeafSweepModel" (191 : Nat) ({ cls := "LeafSweepModel", name := "takeWord", desc := "(I)V" } : Jvm.MethodName)) ∈ mm_tbl := mm_tt7 146 rfl rfl
theorem q_1990 : (Jvm.Cond.instanceMethod ({ cls := "LeafSweepModel", name := "takeWord", desc := "(I)V" } : Jvm.MethodName)) ∈ mm_tbl := mm_tt7 148 rfl rfl
theorem q_1991 : (Jvm.Cond.code ({ cls := "LeafSweepModel", name := "takeWord", desc := "(I)V" } : Jvm.MethodName) prog_14_method_16_code (2 : Nat) (Option.none : Option Jvm.ClassFile.FieldType)) ∈ mm_tbl := mm_tt7 149 rfl rfl
theorem q_1992 : (Jvm.Cond.methodLink "LeafSweepModel" (187 : Nat) ({ cls := "LeafSweepModel", name := "hasWord", desc := "(I)Z" } : Jvm.MethodName)) ∈ mm_tbl := mm_tt7 150 rfl rfl
theorem q_1994 : (Jvm.Cond.instanceMethod ({ cls := "LeafSweepModel", name := "hasWord", desc := "(I)Z" } : Jvm.MethodName)) ∈ mm_tbl := mm_tt7 152 rfl rfl
theorem q_1995 : (Jvm.Cond.code ({ cls := "LeafSweepModel", name := "hasWord", desc := "(I)Z" } : Jvm.MethodName) prog_14_method_15_code (3 : Nat) (Option.some Jvm.ClassFile.FieldType.boolean)) ∈ mm_tbl := mm_tt7 153 rfl rfl
theorem q_1996 : (Jvm.Cond.methodLink "LeafSweepModel" (230 : Nat) ({ cls := "LeafSweepModel", name := "readRow", desc := "()V" } : Jvm.MethodName)) ∈ mm_tbl := mm_tt7 154 rfl rfl
theorem q_1998 : (Jvm.Cond.instanceMethod ({ cls := "LeafSweepModel", name := "readRow", desc := "()V" } : Jvm.MethodName)) ∈ mm_tbl := mm_tt7 156 rfl rfl
theorem q_1999 : (Jvm.Cond.code ({ cls := "LeafSweepModel", name := "readRow", desc := "()V" } : Jvm.MethodName) prog_14_method_35_code (4 : Nat) (Option.none : Option Jvm.ClassFile.FieldType)) ∈ mm_tbl := mm_tt7 157 rfl rfl
theorem q_2000 : (Jvm.Cond.methodLink "LeafSweepModel" (245 : Nat) ({ cls := "LeafSweepModel", name := "takeOf", desc := "(I)I" } : Jvm.MethodName)) ∈ mm_tbl := mm_tt7 158 rfl rfl
theorem q_2002 : (Jvm.Cond.instanceMethod ({ cls := "LeafSweepModel", name := "takeOf", desc := "(I)I" } : Jvm.MethodName)) ∈ mm_tbl := mm_tt7 160 rfl rfl
theorem q_2003 : (Jvm.Cond.code ({ cls := "LeafSweepModel", name := "takeOf", desc := "(I)I" } : Jvm.MethodName) prog_14_method_34_code (4 : Nat) (Option.some Jvm.ClassFile.FieldType.int)) ∈ mm_tbl := mm_tt7 161 rfl rfl
theorem q_2004 : (Jvm.Cond.methodLink "LeafSweepModel" (248 : Nat) ({ cls := "LeafSweepModel", name := "packed", desc := "(III)I" } : Jvm.MethodName)) ∈ mm_tbl := mm_tt7 162 rfl rfl
theorem q_2005 : (Jvm.Cond.static ({ cls := "LeafSweepModel", name := "packed", desc := "(III)I" } : Jvm.MethodName)) ∈ mm_tbl := mm_tt7 163 rfl rfl
theorem q_2006 : (Jvm.Cond.code ({ cls := "LeafSweepModel", name := "packed", desc := "(III)I" } : Jvm.MethodName) prog_14_method_18_code (3 : Nat) (Option.some Jvm.ClassFile.FieldType.int)) ∈ mm_tbl := mm_tt7 164 rfl rfl
theorem q_2007 : (Jvm.Cond.methodLink "LeafSweepModel" (233 : Nat) ({ cls := "LeafSweepModel", name := "readPoint", desc := "()V" } : Jvm.MethodName)) ∈ mm_tbl := mm_tt7 165 rfl rfl
theorem q_2009 : (Jvm.Cond.instanceMethod ({ cls := "LeafSweepModel", name := "readPoint", desc := "()V" } : Jvm.MethodName)) ∈ mm_tbl := mm_tt7 167 rfl rfl
theorem q_2010 : (Jvm.Cond.code ({ cls := "LeafSweepModel", name := "readPoint", desc := "()V" } : Jvm.MethodName) prog_14_method_36_code (5 : Nat) (Option.none : Option Jvm.ClassFile.FieldType)) ∈ mm_tbl := mm_tt7 168 rfl rfl
theorem q_2011 : (Jvm.Cond.methodLink "LeafSweepModel" (236 : Nat) ({ cls := "LeafSweepModel", name := "readWhere", desc := "(I)V" } : Jvm.MethodName)) ∈ mm_tbl := mm_tt7 169 rfl rfl
theorem q_2013 : (Jvm.Cond.instanceMethod ({ cls := "LeafSweepModel", name := "readWhere", desc := "(I)V" } : Jvm.MethodName)) ∈ mm_tbl := mm_tt7 171 rfl rfl
theorem q_2014 : (Jvm.Cond.code ({ cls := "LeafSweepModel", name := "readWhere", desc := "(I)V" } : Jvm.MethodName) prog_14_method_38_code (5 : Nat) (Option.none : Option Jvm.ClassFile.FieldType)) ∈ mm_tbl := mm_tt7 172 rfl rfl
theorem q_2015 : (Jvm.Cond.methodLink "LeafSweepModel" (252 : Nat) ({ cls := "LeafSweepModel", name := "readLimit", desc := "(III)V" } : Jvm.MethodName)) ∈ mm_tbl := mm_tt7 173 rfl rfl
theorem q_2017 : (Jvm.Cond.instanceMethod ({ cls := "LeafSweepModel", name := "readLimit", desc := "(III)V" } : Jvm.MethodName)) ∈ mm_tbl := mm_tt7 175 rfl rfl
theorem q_2018 : (Jvm.Cond.code ({ cls := "LeafSweepModel", name := "readLimit", desc := "(III)V" } : Jvm.MethodName) prog_14_method_39_code (8 : Nat) (Option.none : Option Jvm.ClassFile.FieldType)) ∈ mm_tbl := mm_tt7 176 rfl rfl
theorem q_2019 : (Jvm.Cond.methodLink "LeafSweepModel" (256 : Nat) ({ cls := "LeafSweepModel", name := "isLimitHere", desc := "(I)Z" } : Jvm.MethodName)) ∈ mm_tbl := mm_tt7 177 rfl rfl
theorem q_2021 : (Jvm.Cond.instanceMethod ({ cls := "LeafSweepModel", name := "isLimitHere", desc := "(I)Z" } : Jvm.MethodName)) ∈ mm_tbl := mm_tt7 179 rfl rfl
theorem q_2022 : (Jvm.Cond.code ({ cls := "LeafSweepModel", name := "isLimitHere", desc := "(I)Z" } : Jvm.MethodName) prog_14_method_37_code (2 : Nat) (Option.some Jvm.ClassFile.FieldType.boolean)) ∈ mm_tbl := mm_tt7 180 rfl rfl
theorem q_2023 : (Jvm.Cond.methodLink "LeafSweepModel" (259 : Nat) ({ cls := "LeafSweepModel", name := "readColumn", desc := "(I)V" } : Jvm.MethodName)) ∈ mm_tbl := mm_tt7 181 rfl rfl
theorem q_2025 : (Jvm.Cond.instanceMethod ({ cls := "LeafSweepModel", name := "readColumn", desc := "(I)V" } : Jvm.MethodName)) ∈ mm_tbl := mm_tt7 183 rfl rfl
theorem q_2026 : (Jvm.Cond.code ({ cls := "LeafSweepModel", name := "readColumn", desc := "(I)V" } : Jvm.MethodName) prog_14_method_40_code (2 : Nat) (Option.none : Option Jvm.ClassFile.FieldType)) ∈ mm_tbl := mm_tt7 184 rfl rfl
theorem q_2027 : (Jvm.Cond.methodLink "LeafSweepModel" (262 : Nat) ({ cls := "LeafSweepModel", name := "takeAfter", desc := "(III)I" } : Jvm.MethodName)) ∈ mm_tbl := mm_tt7 185 rfl rfl
theorem q_2029 : (Jvm.Cond.instanceMethod ({ cls := "LeafSweepModel", name := "takeAfter", desc := "(III)I" } : Jvm.MethodName)) ∈ mm_tbl := mm_tt7 187 rfl rfl
theorem q_2030 : (Jvm.Cond.code ({ cls := "LeafSweepModel", name := "takeAfter", desc := "(III)I" } : Jvm.MethodName) prog_14_method_22_code (4 : Nat) (Option.some Jvm.ClassFile.FieldType.int)) ∈ mm_tbl := mm_tt7 188 rfl rfl
theorem q_2031 : (Jvm.Cond.methodLink "LeafSweepModel" (214 : Nat) ({ cls := "LeafSweepModel", name := "takeSign", desc := "(I)V" } : Jvm.MethodName)) ∈ mm_tbl := mm_tt7 189 rfl rfl
theorem q_2033 : (Jvm.Cond.instanceMethod ({ cls := "LeafSweepModel", name := "takeSign", desc := "(I)V" } : Jvm.MethodName)) ∈ mm_tbl := mm_tt7 191 rfl rfl
theorem q_2034 : (Jvm.Cond.code ({ cls := "LeafSweepModel", name := "takeSign", desc := "(I)V" } : Jvm.MethodName) prog_14_method_13_code (2 : Nat) (Option.none : Option Jvm.ClassFile.FieldType)) ∈ mm_tbl := mm_tt7 192 rfl rfl
theorem q_2035 : (Jvm.Cond.methodLink "LeafSweepModel" (178 : Nat) ({ cls := "LeafSweepModel", name := "isSign", desc := "(I)Z" } : Jvm.MethodName)) ∈ mm_tbl := mm_tt7 193 rfl rfl
theorem q_2037 : (Jvm.Cond.instanceMethod ({ cls := "LeafSweepModel", name := "isSign", desc := "(I)Z" } : Jvm.MethodName)) ∈ mm_tbl := mm_tt7 195 rfl rfl
theorem q_2038 : (Jvm.Cond.code ({ cls := "LeafSweepModel", name := "isSign", desc := "(I)Z" } : Jvm.MethodName) prog_14_method_11_code (2 : Nat) (Option.some Jvm.ClassFile.FieldType.boolean)) ∈ mm_tbl := mm_tt7 196 rfl rfl
theorem q_2040 : (Jvm.Cond.instanceMethod ({ cls := "LeafSweepModel", name := "work", desc := "()I" } : Jvm.MethodName)) ∈ mm_tbl := mm_tt7 198 rfl rfl
theorem q_2041 : (Jvm.Cond.selects "LeafSweepModel" ({ cls := "LeafSweepModel", name := "work", desc := "()I" } : Jvm.MethodName) ({ cls := "LeafSweepModel", name := "work", desc := "()I" } : Jvm.MethodName)) ∈ mm_tbl := mm_tt7 199 rfl rfl
theorem q_2042 : (Jvm.Cond.code ({ cls := "LeafSweepModel", name := "work", desc := "()I" } : Jvm.MethodName) prog_14_method_41_code (4 : Nat) (Option.some Jvm.ClassFile.FieldType.int)) ∈ mm_tbl := mm_tt7 200 rfl rfl
theorem q_2043 : (Jvm.Cond.methodLink "LeafSweepModel" (265 : Nat) ({ cls := "LeafSweepModel", name := "readsLine", desc := "(I)V" } : Jvm.MethodName)) ∈ mm_tbl := mm_tt7 201 rfl rfl
theorem q_2045 : (Jvm.Cond.instanceMethod ({ cls := "LeafSweepModel", name := "readsLine", desc := "(I)V" } : Jvm.MethodName)) ∈ mm_tbl := mm_tt7 203 rfl rfl
theorem q_2046 : (Jvm.Cond.code ({ cls := "LeafSweepModel", name := "readsLine", desc := "(I)V" } : Jvm.MethodName) prog_14_method_42_code (2 : Nat) (Option.none : Option Jvm.ClassFile.FieldType)) ∈ mm_tbl := mm_tt7 204 rfl rfl
theorem q_2047 : (Jvm.Cond.methodLink "LeafSweepModel" (272 : Nat) ({ cls := "LeafSweepModel", name := "takeTold", desc := "(II)I" } : Jvm.MethodName)) ∈ mm_tbl := mm_tt7 205 rfl rfl
theorem q_2049 : (Jvm.Cond.instanceMethod ({ cls := "LeafSweepModel", name := "takeTold", desc := "(II)I" } : Jvm.MethodName)) ∈ mm_tbl := mm_tt7 207 rfl rfl
theorem q_2050 : (Jvm.Cond.code ({ cls := "LeafSweepModel", name := "takeTold", desc := "(II)I" } : Jvm.MethodName) prog_14_method_27_code (4 : Nat) (Option.some Jvm.ClassFile.FieldType.int)) ∈ mm_tbl := mm_tt7 208 rfl rfl
theorem q_2052 : (Jvm.Cond.instanceMethod ({ cls := "LeafSweepModel", name := "insert", desc := "(III)I" } : Jvm.MethodName)) ∈ mm_tbl := mm_tt7 210 rfl rfl
theorem q_2053 : (Jvm.Cond.selects "LeafSweepModel" ({ cls := "LeafSweepModel", name := "insert", desc := "(III)I" } : Jvm.MethodName) ({ cls := "LeafSweepModel", name := "insert", desc := "(III)I" } : Jvm.MethodName)) ∈ mm_tbl := mm_tt7 211 rfl rfl
theorem q_2054 : (Jvm.Cond.code ({ cls := "LeafSweepModel", name := "insert", desc := "(III)I" } : Jvm.MethodName) prog_14_method_115_code (5 : Nat) (Option.some Jvm.ClassFile.FieldType.int)) ∈ mm_tbl := mm_tt7 212 rfl rfl
theorem q_2055 : (Jvm.Cond.methodLink "LeafSweepModel" (458 : Nat) ({ cls := "LeafSweepModel", name := "aside", desc := "()V" } : Jvm.MethodName)) ∈ mm_tbl := mm_tt7 213 rfl rfl
theorem q_2057 : (Jvm.Cond.instanceMethod ({ cls := "LeafSweepModel", name := "aside", desc := "()V" } : Jvm.MethodName)) ∈ mm_tbl := mm_tt7 215 rfl rfl
theorem q_2058 : (Jvm.Cond.code ({ cls := "LeafSweepModel", name := "aside", desc := "()V" } : Jvm.MethodName) prog_14_method_110_code (1 : Nat) (Option.none : Option Jvm.ClassFile.FieldType)) ∈ mm_tbl := mm_tt7 216 rfl rfl
theorem q_2059 : (Jvm.Cond.methodLink "LeafSweepModel" (362 : Nat) ({ cls := "LeafSweepModel", name := "copies", desc := "(III)V" } : Jvm.MethodName)) ∈ mm_tbl := mm_tt7 217 rfl rfl
theorem q_2061 : (Jvm.Cond.instanceMethod ({ cls := "LeafSweepModel", name := "copies", desc := "(III)V" } : Jvm.MethodName)) ∈ mm_tbl := mm_tt7 219 rfl rfl
theorem q_2062 : (Jvm.Cond.code ({ cls := "LeafSweepModel", name := "copies", desc := "(III)V" } : Jvm.MethodName) prog_14_method_43_code (5 : Nat) (Option.none : Option Jvm.ClassFile.FieldType)) ∈ mm_tbl := mm_tt7 220 rfl rfl
theorem q_2063 : (Jvm.Cond.methodLink "LeafSweepModel" (461 : Nat) ({ cls := "LeafSweepModel", name := "isValue", desc := "(I)Z" } : Jvm.MethodName)) ∈ mm_tbl := mm_tt7 221 rfl rfl
theorem q_2064 : (Jvm.Cond.static ({ cls := "LeafSweepModel", name := "isValue", desc := "(I)Z" } : Jvm.MethodName)) ∈ mm_tbl := mm_tt7 222 rfl rfl
theorem q_2065 : (Jvm.Cond.code ({ cls := "LeafSweepModel", name := "isValue", desc := "(I)Z" } : Jvm.MethodName) prog_14_method_114_code (1 : Nat) (Option.some Jvm.ClassFile.FieldType.boolean)) ∈ mm_tbl := mm_tt7 223 rfl rfl
theorem q_2066 : (Jvm.Cond.methodLink "LeafSweepModel" (464 : Nat) ({ cls := "LeafSweepModel", name := "inserted", desc := "(IIII)I" } : Jvm.MethodName)) ∈ mm_tbl := mm_tt7 224 rfl rfl
theorem q_2068 : (Jvm.Cond.instanceMethod ({ cls := "LeafSweepModel", name := "inserted", desc := "(IIII)I" } : Jvm.MethodName)) ∈ mm_tbl := mm_tt7 226 rfl rfl
theorem q_2069 : (Jvm.Cond.code ({ cls := "LeafSweepModel", name := "inserted", desc := "(IIII)I" } : Jvm.MethodName) prog_14_method_103_code (8 : Nat) (Option.some Jvm.ClassFile.FieldType.int)) ∈ mm_tbl := mm_tt7 227 rfl rfl
theorem q_2070 : (Jvm.Cond.methodLink "LeafSweepModel" (420 : Nat) ({ cls := "LeafSweepModel", name := "onceClash", desc := "(IIII)I" } : Jvm.MethodName)) ∈ mm_tbl := mm_tt7 228 rfl rfl
theorem q_2072 : (Jvm.Cond.instanceMethod ({ cls := "LeafSweepModel", name := "onceClash", desc := "(IIII)I" } : Jvm.MethodName)) ∈ mm_tbl := mm_tt7 230 rfl rfl
theorem q_2073 : (Jvm.Cond.code ({ cls := "LeafSweepModel", name := "onceClash", desc := "(IIII)I" } : Jvm.MethodName) prog_14_method_102_code (8 : Nat) (Option.some Jvm.ClassFile.FieldType.int)) ∈ mm_tbl := mm_tt7 231 rfl rfl
theorem q_2074 : (Jvm.Cond.methodLink "LeafSweepModel" (426 : Nat) ({ cls := "LeafSweepModel", name := "asideBy", desc := "(IIZZZ)I" } : Jvm.MethodName)) ∈ mm_tbl := mm_tt7 232 rfl rfl
theorem q_2076 : (Jvm.Cond.instanceMethod ({ cls := "LeafSweepModel", name := "asideBy", desc := "(IIZZZ)I" } : Jvm.MethodName)) ∈ mm_tbl := mm_tt7 234 rfl rfl
theorem q_2077 : (Jvm.Cond.code ({ cls := "LeafSweepModel", name := "asideBy", desc := "(IIZZZ)I" } : Jvm.MethodName) prog_14_method_98_code (6 : Nat) (Option.some Jvm.ClassFile.FieldType.int)) ∈ mm_tbl := mm_tt7 235 rfl rfl
theorem q_2078 : (Jvm.Cond.methodLink "LeafSweepModel" (414 : Nat) ({ cls := "LeafSweepModel", name := "isAt", desc := "(II)Z" } : Jvm.MethodName)) ∈ mm_tbl := mm_tt7 236 rfl rfl
theorem q_2080 : (Jvm.Cond.instanceMethod ({ cls := "LeafSweepModel", name := "isAt", desc := "(II)Z" } : Jvm.MethodName)) ∈ mm_tbl := mm_tt7 238 rfl rfl
theorem q_2081 : (Jvm.Cond.code ({ cls := "LeafSweepModel", name := "isAt", desc := "(II)Z" } : Jvm.MethodName) prog_14_method_96_code (3 : Nat) (Option.some Jvm.ClassFile.FieldType.boolean)) ∈ mm_tbl := mm_tt7 239 rfl rfl
theorem q_2082 : (Jvm.Cond.methodLink "LeafSweepModel" (430 : Nat) ({ cls := "LeafSweepModel", name := "entersIndex", desc := "(IIII)V" } : Jvm.MethodName)) ∈ mm_tbl := mm_tt8 0 rfl rfl
theorem q_2084 : (Jvm.Cond.instanceMethod ({ cls := "LeafSweepModel", name := "entersIndex", desc := "(IIII)V" } : Jvm.MethodName)) ∈ mm_tbl := mm_tt8 2 rfl rfl
theorem q_2085 : (Jvm.Cond.code ({ cls := "LeafSweepModel", name := "entersIndex", desc := "(IIII)V" } : Jvm.MethodName) prog_14_method_101_code (5 : Nat) (Option.none : Option Jvm.ClassFile.FieldType)) ∈ mm_tbl := mm_tt8 3 rfl rfl
theorem q_2086 : (Jvm.Cond.methodLink "LeafSweepModel" (417 : Nat) ({ cls := "LeafSweepModel", name := "lays", desc := "(II)V" } : Jvm.MethodName)) ∈ mm_tbl := mm_tt8 4 rfl rfl
theorem q_2088 : (Jvm.Cond.instanceMethod ({ cls := "LeafSweepModel", name := "lays", desc := "(II)V" } : Jvm.MethodName)) ∈ mm_tbl := mm_tt8 6 rfl rfl
theorem q_2089 : (Jvm.Cond.code ({ cls := "LeafSweepModel", name := "lays", desc := "(II)V" } : Jvm.MethodName) prog_14_method_99_code (3 : Nat) (Option.none : Option Jvm.ClassFile.FieldType)) ∈ mm_tbl := mm_tt8 7 rfl rfl
theorem q_2090 : (Jvm.Cond.methodLink "LeafSweepModel" (467 : Nat) ({ cls := "LeafSweepModel", name := "done", desc := "(I)I" } : Jvm.MethodName)) ∈ mm_tbl := mm_tt8 8 rfl rfl
theorem q_2092 : (Jvm.Cond.instanceMethod ({ cls := "LeafSweepModel", name := "done", desc := "(I)I" } : Jvm.MethodName)) ∈ mm_tbl := mm_tt8 10 rfl rfl
theorem q_2093 : (Jvm.Cond.code ({ cls := "LeafSweepModel", name := "done", desc := "(I)I" } : Jvm.MethodName) prog_14_method_112_code (2 : Nat) (Option.some Jvm.ClassFile.FieldType.int)) ∈ mm_tbl := mm_tt8 11 rfl rfl
theorem q_2094 : (Jvm.Cond.methodLink "LeafSweepModel" (455 : Nat) ({ cls := "LeafSweepModel", name := "keeps", desc := "()V" } : Jvm.MethodName)) ∈ mm_tbl := mm_tt8 12 rfl rfl
theorem q_2096 : (Jvm.Cond.instanceMethod ({ cls := "LeafSweepModel", name := "keeps", desc := "()V" } : Jvm.MethodName)) ∈ mm_tbl := mm_tt8 14 rfl rfl
theorem q_2097 : (Jvm.Cond.code ({ cls := "LeafSweepModel", name := "keeps", desc := "()V" } : Jvm.MethodName) prog_14_method_111_code (2 : Nat) (Option.none : Option Jvm.ClassFile.FieldType)) ∈ mm_tbl := mm_tt8 15 rfl rfl
theorem q_2099 : (Jvm.Cond.instanceMethod ({ cls := "LeafSweepModel", name := "remove", desc := "(I)Z" } : Jvm.MethodName)) ∈ mm_tbl := mm_tt8 17 rfl rfl
theorem q_2100 : (Jvm.Cond.selects "LeafSweepModel" ({ cls := "LeafSweepModel", name := "remove", desc := "(I)Z" } : Jvm.MethodName) ({ cls := "LeafSweepModel", name := "remove", desc := "(I)Z" } : Jvm.MethodName)) ∈ mm_tbl := mm_tt8 18 rfl rfl
theorem q_2101 : (Jvm.Cond.code ({ cls := "LeafSweepModel", name := "remove", desc := "(I)Z" } : Jvm.MethodName) prog_14_method_116_code (3 : Nat) (Option.some Jvm.ClassFile.FieldType.boolean)) ∈ mm_tbl := mm_tt8 19 rfl rfl
theorem q_2102 : (Jvm.Cond.methodLink "LeafSweepModel" (470 : Nat) ({ cls := "LeafSweepModel", name := "removed", desc := "(II)Z" } : Jvm.MethodName)) ∈ mm_tbl := mm_tt8 20 rfl rfl
theorem q_2104 : (Jvm.Cond.instanceMethod ({ cls := "LeafSweepModel", name := "removed", desc := "(II)Z" } : Jvm.MethodName)) ∈ mm_tbl := mm_tt8 22 rfl rfl
theorem q_2105 : (Jvm.Cond.code ({ cls := "LeafSweepModel", name := "removed", desc := "(II)Z" } : Jvm.MethodName) prog_14_method_105_code (5 : Nat) (Option.some Jvm.ClassFile.FieldType.boolean)) ∈ mm_tbl := mm_tt8 23 rfl rfl
theorem q_2106 : (Jvm.Cond.methodLink "LeafSweepModel" (434 : Nat) ({ cls := "LeafSweepModel", name := "isVisible", desc := "(II)Z" } : Jvm.MethodName)) ∈ mm_tbl := mm_tt8 24 rfl rfl
theorem q_2108 : (Jvm.Cond.instanceMethod ({ cls := "LeafSweepModel", name := "isVisible", desc := "(II)Z" } : Jvm.MethodName)) ∈ mm_tbl := mm_tt8 26 rfl rfl
theorem q_2109 : (Jvm.Cond.code ({ cls := "LeafSweepModel", name := "isVisible", desc := "(II)Z" } : Jvm.MethodName) prog_14_method_53_code (3 : Nat) (Option.some Jvm.ClassFile.FieldType.boolean)) ∈ mm_tbl := mm_tt8 27 rfl rfl
theorem q_2110 : (Jvm.Cond.methodLink "LeafSweepModel" (437 : Nat) ({ cls := "LeafSweepModel", name := "canGo", desc := "(II)Z" } : Jvm.MethodName)) ∈ mm_tbl := mm_tt8 28 rfl rfl
theorem q_2112 : (Jvm.Cond.instanceMethod ({ cls := "LeafSweepModel", name := "canGo", desc := "(II)Z" } : Jvm.MethodName)) ∈ mm_tbl := mm_tt8 30 rfl rfl
theorem q_2113 : (Jvm.Cond.code ({ cls := "LeafSweepModel", name := "canGo", desc := "(II)Z" } : Jvm.MethodName) prog_14_method_104_code (8 : Nat) (Option.some Jvm.ClassFile.FieldType.boolean)) ∈ mm_tbl := mm_tt8 31 rfl rfl
theorem q_2114 : (Jvm.Cond.methodLink "LeafSweepModel" (374 : Nat) ({ cls := "LeafSweepModel", name := "letsGo", desc := "(II)V" } : Jvm.MethodName)) ∈ mm_tbl := mm_tt8 32 rfl rfl
theorem q_2116 : (Jvm.Cond.instanceMethod ({ cls := "LeafSweepModel", name := "letsGo", desc := "(II)V" } : Jvm.MethodName)) ∈ mm_tbl := mm_tt8 34 rfl rfl
theorem q_2117 : (Jvm.Cond.code ({ cls := "LeafSweepModel", name := "letsGo", desc := "(II)V" } : Jvm.MethodName) prog_14_method_86_code (3 : Nat) (Option.none : Option Jvm.ClassFile.FieldType)) ∈ mm_tbl := mm_tt8 35 rfl rfl
theorem q_2118 : (Jvm.Cond.methodLink "LeafSweepModel" (440 : Nat) ({ cls := "LeafSweepModel", name := "leavesIndex", desc := "(IIII)V" } : Jvm.MethodName)) ∈ mm_tbl := mm_tt8 36 rfl rfl
theorem q_2120 : (Jvm.Cond.instanceMethod ({ cls := "LeafSweepModel", name := "leavesIndex", desc := "(IIII)V" } : Jvm.MethodName)) ∈ mm_tbl := mm_tt8 38 rfl rfl
theorem q_2121 : (Jvm.Cond.code ({ cls := "LeafSweepModel", name := "leavesIndex", desc := "(IIII)V" } : Jvm.MethodName) prog_14_method_100_code (5 : Nat) (Option.none : Option Jvm.ClassFile.FieldType)) ∈ mm_tbl := mm_tt8 39 rfl rfl
theorem q_2122 : (Jvm.Cond.constant "LeafSweepModel" (383 : Nat) (40000 : Int32)) ∈ mm_tbl := mm_tt8 40 rfl rfl
theorem q_2123 : (Jvm.Cond.methodLink "LeafSweepModel" (387 : Nat) ({ cls := "LeafSweepModel", name := "takes", desc := "(III)V" } : Jvm.MethodName)) ∈ mm_tbl := mm_tt8 41 rfl rfl
theorem q_2125 : (Jvm.Cond.instanceMethod ({ cls := "LeafSweepModel", name := "takes", desc := "(III)V" } : Jvm.MethodName)) ∈ mm_tbl := mm_tt8 43 rfl rfl
theorem q_2126 : (Jvm.Cond.code ({ cls := "LeafSweepModel", name := "takes", desc := "(III)V" } : Jvm.MethodName) prog_14_method_73_code (4 : Nat) (Option.none : Option Jvm.ClassFile.FieldType)) ∈ mm_tbl := mm_tt8 44 rfl rfl
theorem q_2127 : (Jvm.Cond.methodLink "LeafSweepModel" (338 : Nat) ({ cls := "LeafSweepModel", name := "goesOut", desc := "(III)V" } : Jvm.MethodName)) ∈ mm_tbl := mm_tt8 45 rfl rfl
theorem q_2129 : (Jvm.Cond.instanceMethod ({ cls := "LeafSweepModel", name := "goesOut", desc := "(III)V" } : Jvm.MethodName)) ∈ mm_tbl := mm_tt8 47 rfl rfl
theorem q_2130 : (Jvm.Cond.code ({ cls := "LeafSweepModel", name := "goesOut", desc := "(III)V" } : Jvm.MethodName) prog_14_method_72_code (7 : Nat) (Option.none : Option Jvm.ClassFile.FieldType)) ∈ mm_tbl := mm_tt8 48 rfl rfl
theorem q_2131 : (Jvm.Cond.methodLink "LeafSweepModel" (473 : Nat) ({ cls := "LeafSweepModel", name := "isDone", desc := "(Z)Z" } : Jvm.MethodName)) ∈ mm_tbl := mm_tt8 49 rfl rfl
theorem q_2133 : (Jvm.Cond.instanceMethod ({ cls := "LeafSweepModel", name := "isDone", desc := "(Z)Z" } : Jvm.MethodName)) ∈ mm_tbl := mm_tt8 51 rfl rfl
theorem q_2134 : (Jvm.Cond.code ({ cls := "LeafSweepModel", name := "isDone", desc := "(Z)Z" } : Jvm.MethodName) prog_14_method_113_code (2 : Nat) (Option.some Jvm.ClassFile.FieldType.boolean)) ∈ mm_tbl := mm_tt8 52 rfl rfl
theorem q_2136 : (Jvm.Cond.instanceMethod ({ cls := "LeafSweepModel", name := "change", desc := "(III)Z" } : Jvm.MethodName)) ∈ mm_tbl := mm_tt8 54 rfl rfl
theorem q_2137 : (Jvm.Cond.selects "LeafSweepModel" ({ cls := "LeafSweepModel", name := "change", desc := "(III)Z" } : Jvm.MethodName) ({ cls := "LeafSweepModel", name := "change", desc := "(III)Z" } : Jvm.MethodName)) ∈ mm_tbl := mm_tt8 55 rfl rfl
theorem q_2138 : (Jvm.Cond.code ({ cls := "LeafSweepModel", name := "change", desc := "(III)Z" } : Jvm.MethodName) prog_14_method_117_code (5 : Nat) (Option.some Jvm.ClassFile.FieldType.boolean)) ∈ mm_tbl := mm_tt8 56 rfl rfl
theorem q_2139 : (Jvm.Cond.methodLink "LeafSweepModel" (477 : Nat) ({ cls := "LeafSweepModel", name := "changed", desc := "(IIII)Z" } : Jvm.MethodName)) ∈ mm_tbl := mm_tt8 57 rfl rfl
theorem q_2141 : (Jvm.Cond.instanceMethod ({ cls := "LeafSweepModel", name := "changed", desc := "(IIII)Z" } : Jvm.MethodName)) ∈ mm_tbl := mm_tt8 59 rfl rfl
theorem q_2142 : (Jvm.Cond.code ({ cls := "LeafSweepModel", name := "changed", desc := "(IIII)Z" } : Jvm.MethodName) prog_14_method_107_code (12 : Nat) (Option.some Jvm.ClassFile.FieldType.boolean)) ∈ mm_tbl := mm_tt8 60 rfl rfl
theorem q_2143 : (Jvm.Cond.methodLink "LeafSweepModel" (443 : Nat) ({ cls := "LeafSweepModel", name := "with", desc := "(III)I" } : Jvm.MethodName)) ∈ mm_tbl := mm_tt8 61 rfl rfl
theorem q_2144 : (Jvm.Cond.static ({ cls := "LeafSweepModel", name := "with", desc := "(III)I" } : Jvm.MethodName)) ∈ mm_tbl := mm_tt8 62 rfl rfl
theorem q_2145 : (Jvm.Cond.code ({ cls := "LeafSweepModel", name := "with", desc := "(III)I" } : Jvm.MethodName) prog_14_method_106_code (4 : Nat) (Option.some Jvm.ClassFile.FieldType.int)) ∈ mm_tbl := mm_tt8 63 rfl rfl
theorem q_2147 : (Jvm.Cond.instanceMethod ({ cls := "LeafSweepModel", name := "point", desc := "(II)I" } : Jvm.MethodName)) ∈ mm_tbl := mm_tt8 65 rfl rfl
theorem q_2148 : (Jvm.Cond.selects "LeafSweepModel" ({ cls := "LeafSweepModel", name := "point", desc := "(II)I" } : Jvm.MethodName) ({ cls := "LeafSweepModel", name := "point", desc := "(II)I" } : Jvm.MethodName)) ∈ mm_tbl := mm_tt8 66 rfl rfl
theorem q_2149 : (Jvm.Cond.code ({ cls := "LeafSweepModel", name := "point", desc := "(II)I" } : Jvm.MethodName) prog_14_method_118_code (4 : Nat) (Option.some Jvm.ClassFile.FieldType.int)) ∈ mm_tbl := mm_tt8 67 rfl rfl
theorem q_2151 : (Jvm.Cond.instanceMethod ({ cls := "LeafSweepModel", name := "drop", desc := "(I)Z" } : Jvm.MethodName)) ∈ mm_tbl := mm_tt8 69 rfl rfl
theorem q_2152 : (Jvm.Cond.selects "LeafSweepModel" ({ cls := "LeafSweepModel", name := "drop", desc := "(I)Z" } : Jvm.MethodName) ({ cls := "LeafSweepModel", name := "drop", desc := "(I)Z" } : Jvm.MethodName)) ∈ mm_tbl := mm_tt8 70 rfl rfl
theorem q_2153 : (Jvm.Cond.code ({ cls := "LeafSweepModel", name := "drop", desc := "(I)Z" } : Jvm.MethodName) prog_14_method_120_code (2 : Nat) (Option.some Jvm.ClassFile.FieldType.boolean)) ∈ mm_tbl := mm_tt8 71 rfl rfl
theorem q_2154 : (Jvm.Cond.methodLink "LeafSweepModel" (481 : Nat) ({ cls := "LeafSweepModel", name := "isPointer", desc := "(I)Z" } : Jvm.MethodName)) ∈ mm_tbl := mm_tt8 72 rfl rfl
theorem q_2156 : (Jvm.Cond.instanceMethod ({ cls := "LeafSweepModel", name := "isPointer", desc := "(I)Z" } : Jvm.MethodName)) ∈ mm_tbl := mm_tt8 74 rfl rfl
theorem q_2157 : (Jvm.Cond.code ({ cls := "LeafSweepModel", name := "isPointer", desc := "(I)Z" } : Jvm.MethodName) prog_14_method_119_code (2 : Nat) (Option.some Jvm.ClassFile.FieldType.boolean)) ∈ mm_tbl := mm_tt8 75 rfl rfl
theorem q_2159 : (Jvm.Cond.instanceMethod ({ cls := "LeafSweepModel", name := "begin", desc := "(III)I" } : Jvm.MethodName)) ∈ mm_tbl := mm_tt8 77 rfl rfl
theorem q_2160 : (Jvm.Cond.selects "LeafSweepModel" ({ cls := "LeafSweepModel", name := "begin", desc := "(III)I" } : Jvm.MethodName) ({ cls := "LeafSweepModel", name := "begin", desc := "(III)I" } : Jvm.MethodName)) ∈ mm_tbl := mm_tt8 78 rfl rfl
theorem q_2161 : (Jvm.Cond.code ({ cls := "LeafSweepModel", name := "begin", desc := "(III)I" } : Jvm.MethodName) prog_14_method_121_code (8 : Nat) (Option.some Jvm.ClassFile.FieldType.int)) ∈ mm_tbl := mm_tt8 79 rfl rfl
theorem q_2162 : (Jvm.Cond.methodLink "LeafSweepModel" (341 : Nat) ({ cls := "LeafSweepModel", name := "wouldChoose", desc := "(I)I" } : Jvm.MethodName)) ∈ mm_tbl := mm_tt8 80 rfl rfl
theorem q_2164 : (Jvm.Cond.instanceMethod ({ cls := "LeafSweepModel", name := "wouldChoose", desc := "(I)I" } : Jvm.MethodName)) ∈ mm_tbl := mm_tt8 82 rfl rfl
theorem q_2165 : (Jvm.Cond.code ({ cls := "LeafSweepModel", name := "wouldChoose", desc := "(I)I" } : Jvm.MethodName) prog_14_method_74_code (4 : Nat) (Option.some Jvm.ClassFile.FieldType.int)) ∈ mm_tbl := mm_tt8 83 rfl rfl
theorem q_2166 : (Jvm.Cond.methodLink "LeafSweepModel" (484 : Nat) ({ cls := "LeafSweepModel", name := "isIndex", desc := "(I)Z" } : Jvm.MethodName)) ∈ mm_tbl := mm_tt8 84 rfl rfl
theorem q_2168 : (Jvm.Cond.instanceMethod ({ cls := "LeafSweepModel", name := "isIndex", desc := "(I)Z" } : Jvm.MethodName)) ∈ mm_tbl := mm_tt8 86 rfl rfl
theorem q_2169 : (Jvm.Cond.code ({ cls := "LeafSweepModel", name := "isIndex", desc := "(I)Z" } : Jvm.MethodName) prog_14_method_48_code (2 : Nat) (Option.some Jvm.ClassFile.FieldType.boolean)) ∈ mm_tbl := mm_tt8 87 rfl rfl
theorem q_2170 : (Jvm.Cond.methodLink "LeafSweepModel" (344 : Nat) ({ cls := "LeafSweepModel", name := "rowAt", desc := "(III)I" } : Jvm.MethodName)) ∈ mm_tbl := mm_tt8 88 rfl rfl
theorem q_2172 : (Jvm.Cond.instanceMethod ({ cls := "LeafSweepModel", name := "rowAt", desc := "(III)I" } : Jvm.MethodName)) ∈ mm_tbl := mm_tt8 90 rfl rfl
theorem q_2173 : (Jvm.Cond.code ({ cls := "LeafSweepModel", name := "rowAt", desc := "(III)I" } : Jvm.MethodName) prog_14_method_64_code (4 : Nat) (Option.some Jvm.ClassFile.FieldType.int)) ∈ mm_tbl := mm_tt8 91 rfl rfl
theorem q_2174 : (Jvm.Cond.methodLink "LeafSweepModel" (487 : Nat) ({ cls := "LeafSweepModel", name := "valueIn", desc := "(II)I" } : Jvm.MethodName)) ∈ mm_tbl := mm_tt8 92 rfl rfl
theorem q_2176 : (Jvm.Cond.instanceMethod ({ cls := "LeafSweepModel", name := "valueIn", desc := "(II)I" } : Jvm.MethodName)) ∈ mm_tbl := mm_tt8 94 rfl rfl
theorem q_2177 : (Jvm.Cond.code ({ cls := "LeafSweepModel", name := "valueIn", desc := "(II)I" } : Jvm.MethodName) prog_14_method_60_code (3 : Nat) (Option.some Jvm.ClassFile.FieldType.int)) ∈ mm_tbl := mm_tt8 95 rfl rfl
theorem q_2178 : (Jvm.Cond.methodLink "LeafSweepModel" (490 : Nat) ({ cls := "LeafSweepModel", name := "begun", desc := "(II)I" } : Jvm.MethodName)) ∈ mm_tbl := mm_tt8 96 rfl rfl
theorem q_2180 : (Jvm.Cond.instanceMethod ({ cls := "LeafSweepModel", name := "begun", desc := "(II)I" } : Jvm.MethodName)) ∈ mm_tbl := mm_tt8 98 rfl rfl
theorem q_2181 : (Jvm.Cond.code ({ cls := "LeafSweepModel", name := "begun", desc := "(II)I" } : Jvm.MethodName) prog_14_method_87_code (6 : Nat) (Option.some Jvm.ClassFile.FieldType.int)) ∈ mm_tbl := mm_tt8 99 rfl rfl
theorem q_2182 : (Jvm.Cond.methodLink "LeafSweepModel" (371 : Nat) ({ cls := "LeafSweepModel", name := "hindering", desc := "(II)I" } : Jvm.MethodName)) ∈ mm_tbl := mm_tt8 100 rfl rfl
theorem q_2184 : (Jvm.Cond.instanceMethod ({ cls := "LeafSweepModel", name := "hindering", desc := "(II)I" } : Jvm.MethodName)) ∈ mm_tbl := mm_tt8 102 rfl rfl
theorem q_2185 : (Jvm.Cond.code ({ cls := "LeafSweepModel", name := "hindering", desc := "(II)I" } : Jvm.MethodName) prog_14_method_85_code (5 : Nat) (Option.some Jvm.ClassFile.FieldType.int)) ∈ mm_tbl := mm_tt8 103 rfl rfl
theorem q_2186 : (Jvm.Cond.methodLink "LeafSweepModel" (368 : Nat) ({ cls := "LeafSweepModel", name := "hinders", desc := "(III)Z" } : Jvm.MethodName)) ∈ mm_tbl := mm_tt8 104 rfl rfl
theorem q_2188 : (Jvm.Cond.instanceMethod ({ cls := "LeafSweepModel", name := "hinders", desc := "(III)Z" } : Jvm.MethodName)) ∈ mm_tbl := mm_tt8 106 rfl rfl
theorem q_2189 : (Jvm.Cond.code ({ cls := "LeafSweepModel", name := "hinders", desc := "(III)Z" } : Jvm.MethodName) prog_14_method_84_code (6 : Nat) (Option.some Jvm.ClassFile.FieldType.boolean)) ∈ mm_tbl := mm_tt8 107 rfl rfl
theorem q_2190 : (Jvm.Cond.methodLink "LeafSweepModel" (377 : Nat) ({ cls := "LeafSweepModel", name := "comes", desc := "(II)V" } : Jvm.MethodName)) ∈ mm_tbl := mm_tt8 108 rfl rfl
theorem q_2192 : (Jvm.Cond.instanceMethod ({ cls := "LeafSweepModel", name := "comes", desc := "(II)V" } : Jvm.MethodName)) ∈ mm_tbl := mm_tt8 110 rfl rfl
theorem q_2193 : (Jvm.Cond.code ({ cls := "LeafSweepModel", name := "comes", desc := "(II)V" } : Jvm.MethodName) prog_14_method_83_code (6 : Nat) (Option.none : Option Jvm.ClassFile.FieldType)) ∈ mm_tbl := mm_tt8 111 rfl rfl
theorem q_2194 : (Jvm.Cond.methodLink "LeafSweepModel" (347 : Nat) ({ cls := "LeafSweepModel", name := "leftMany", desc := "(III)I" } : Jvm.MethodName)) ∈ mm_tbl := mm_tt8 112 rfl rfl
theorem q_2196 : (Jvm.Cond.instanceMethod ({ cls := "LeafSweepModel", name := "leftMany", desc := "(III)I" } : Jvm.MethodName)) ∈ mm_tbl := mm_tt8 114 rfl rfl
theorem q_2197 : (Jvm.Cond.code ({ cls := "LeafSweepModel", name := "leftMany", desc := "(III)I" } : Jvm.MethodName) prog_14_method_76_code (6 : Nat) (Option.some Jvm.ClassFile.FieldType.int)) ∈ mm_tbl := mm_tt8 115 rfl rfl
theorem q_2198 : (Jvm.Cond.methodLink "LeafSweepModel" (359 : Nat) ({ cls := "LeafSweepModel", name := "wayBy", desc := "(III)I" } : Jvm.MethodName)) ∈ mm_tbl := mm_tt8 116 rfl rfl
theorem q_2200 : (Jvm.Cond.instanceMethod ({ cls := "LeafSweepModel", name := "wayBy", desc := "(III)I" } : Jvm.MethodName)) ∈ mm_tbl := mm_tt8 118 rfl rfl
theorem q_2201 : (Jvm.Cond.code ({ cls := "LeafSweepModel", name := "wayBy", desc := "(III)I" } : Jvm.MethodName) prog_14_method_79_code (4 : Nat) (Option.some Jvm.ClassFile.FieldType.int)) ∈ mm_tbl := mm_tt8 119 rfl rfl
theorem q_2202 : (Jvm.Cond.methodLink "LeafSweepModel" (350 : Nat) ({ cls := "LeafSweepModel", name := "passCost", desc := "(III)I" } : Jvm.MethodName)) ∈ mm_tbl := mm_tt8 120 rfl rfl
theorem q_2204 : (Jvm.Cond.instanceMethod ({ cls := "LeafSweepModel", name := "passCost", desc := "(III)I" } : Jvm.MethodName)) ∈ mm_tbl := mm_tt8 122 rfl rfl
theorem q_2205 : (Jvm.Cond.code ({ cls := "LeafSweepModel", name := "passCost", desc := "(III)I" } : Jvm.MethodName) prog_14_method_77_code (9 : Nat) (Option.some Jvm.ClassFile.FieldType.int)) ∈ mm_tbl := mm_tt8 123 rfl rfl
theorem q_2206 : (Jvm.Cond.methodLink "LeafSweepModel" (353 : Nat) ({ cls := "LeafSweepModel", name := "probeCost", desc := "(III)I" } : Jvm.MethodName)) ∈ mm_tbl := mm_tt8 124 rfl rfl
theorem q_2208 : (Jvm.Cond.instanceMethod ({ cls := "LeafSweepModel", name := "probeCost", desc := "(III)I" } : Jvm.MethodName)) ∈ mm_tbl := mm_tt8 126 rfl rfl
theorem q_2209 : (Jvm.Cond.code ({ cls := "LeafSweepModel", name := "probeCost", desc := "(III)I" } : Jvm.MethodName) prog_14_method_78_code (4 : Nat) (Option.some Jvm.ClassFile.FieldType.int)) ∈ mm_tbl := mm_tt8 127 rfl rfl
theorem q_2210 : (Jvm.Cond.methodLink "LeafSweepModel" (365 : Nat) ({ cls := "LeafSweepModel", name := "stands", desc := "(I)V" } : Jvm.MethodName)) ∈ mm_tbl := mm_tt8 128 rfl rfl
theorem q_2212 : (Jvm.Cond.instanceMethod ({ cls := "LeafSweepModel", name := "stands", desc := "(I)V" } : Jvm.MethodName)) ∈ mm_tbl := mm_tt8 130 rfl rfl
theorem q_2213 : (Jvm.Cond.code ({ cls := "LeafSweepModel", name := "stands", desc := "(I)V" } : Jvm.MethodName) prog_14_method_82_code (3 : Nat) (Option.none : Option Jvm.ClassFile.FieldType)) ∈ mm_tbl := mm_tt8 131 rfl rfl
theorem q_2214 : (Jvm.Cond.methodLink "LeafSweepModel" (380 : Nat) ({ cls := "LeafSweepModel", name := "manyOf", desc := "(I)I" } : Jvm.MethodName)) ∈ mm_tbl := mm_tt8 132 rfl rfl
theorem q_2215 : (Jvm.Cond.static ({ cls := "LeafSweepModel", name := "manyOf", desc := "(I)I" } : Jvm.MethodName)) ∈ mm_tbl := mm_tt8 133 rfl rfl
theorem q_2216 : (Jvm.Cond.code ({ cls := "LeafSweepModel", name := "manyOf", desc := "(I)I" } : Jvm.MethodName) prog_14_method_51_code (3 : Nat) (Option.some Jvm.ClassFile.FieldType.int)) ∈ mm_tbl := mm_tt8 134 rfl rfl
theorem q_2218 : (Jvm.Cond.instanceMethod ({ cls := "LeafSweepModel", name := "step", desc := "()I" } : Jvm.MethodName)) ∈ mm_tbl := mm_tt8 136 rfl rfl
theorem q_2219 : (Jvm.Cond.selects "LeafSweepModel" ({ cls := "LeafSweepModel", name := "step", desc := "()I" } : Jvm.MethodName) ({ cls := "LeafSweepModel", name := "step", desc := "()I" } : Jvm.MethodName)) ∈ mm_tbl := mm_tt8 137 rfl rfl
theorem q_2220 : (Jvm.Cond.code ({ cls := "LeafSweepModel", name := "step", desc := "()I" } : Jvm.MethodName) prog_14_method_122_code (2 : Nat) (Option.some Jvm.ClassFile.FieldType.int)) ∈ mm_tbl := mm_tt8 138 rfl rfl
theorem q_2221 : (Jvm.Cond.methodLink "LeafSweepModel" (493 : Nat) ({ cls := "LeafSweepModel", name := "stepped", desc := "(I)I" } : Jvm.MethodName)) ∈ mm_tbl := mm_tt8 139 rfl rfl
theorem q_2223 : (Jvm.Cond.instanceMethod ({ cls := "LeafSweepModel", name := "stepped", desc := "(I)I" } : Jvm.MethodName)) ∈ mm_tbl := mm_tt8 141 rfl rfl
theorem q_2224 : (Jvm.Cond.code ({ cls := "LeafSweepModel", name := "stepped", desc := "(I)I" } : Jvm.MethodName) prog_14_method_92_code (6 : Nat) (Option.some Jvm.ClassFile.FieldType.int)) ∈ mm_tbl := mm_tt8 142 rfl rfl
theorem q_2225 : (Jvm.Cond.methodLink "LeafSweepModel" (393 : Nat) ({ cls := "LeafSweepModel", name := "isGoing", desc := "(I)Z" } : Jvm.MethodName)) ∈ mm_tbl := mm_tt8 143 rfl rfl
theorem q_2227 : (Jvm.Cond.instanceMethod ({ cls := "LeafSweepModel", name := "isGoing", desc := "(I)Z" } : Jvm.MethodName)) ∈ mm_tbl := mm_tt8 145 rfl rfl
theorem q_2228 : (Jvm.Cond.code ({ cls := "LeafSweepModel", name := "isGoing", desc := "(I)Z" } : Jvm.MethodName) prog_14_method_88_code (2 : Nat) (Option.some Jvm.ClassFile.FieldType.boolean)) ∈ mm_tbl := mm_tt8 146 rfl rfl
theorem q_2229 : (Jvm.Cond.methodLink "LeafSweepModel" (396 : Nat) ({ cls := "LeafSweepModel", name := "ends", desc := "(I)V" } : Jvm.MethodName)) ∈ mm_tbl := mm_tt8 147 rfl rfl
theorem q_2231 : (Jvm.Cond.instanceMethod ({ cls := "LeafSweepModel", name := "ends", desc := "(I)V" } : Jvm.MethodName)) ∈ mm_tbl := mm_tt8 149 rfl rfl
theorem q_2232 : (Jvm.Cond.code ({ cls := "LeafSweepModel", name := "ends", desc := "(I)V" } : Jvm.MethodName) prog_14_method_91_code (2 : Nat) (Option.none : Option Jvm.ClassFile.FieldType)) ∈ mm_tbl := mm_tt8 150 rfl rfl
theorem q_2233 : (Jvm.Cond.methodLink "LeafSweepModel" (399 : Nat) ({ cls := "LeafSweepModel", name := "leftAt", desc := "(IIII)I" } : Jvm.MethodName)) ∈ mm_tbl := mm_tt8 151 rfl rfl
theorem q_2235 : (Jvm.Cond.instanceMethod ({ cls := "LeafSweepModel", name := "leftAt", desc := "(IIII)I" } : Jvm.MethodName)) ∈ mm_tbl := mm_tt8 153 rfl rfl
theorem q_2236 : (Jvm.Cond.code ({ cls := "LeafSweepModel", name := "leftAt", desc := "(IIII)I" } : Jvm.MethodName) prog_14_method_80_code (11 : Nat) (Option.some Jvm.ClassFile.FieldType.int)) ∈ mm_tbl := mm_tt8 154 rfl rfl
theorem q_2237 : (Jvm.Cond.methodLink "LeafSweepModel" (356 : Nat) ({ cls := "LeafSweepModel", name := "chosenBy", desc := "(I)I" } : Jvm.MethodName)) ∈ mm_tbl := mm_tt8 155 rfl rfl
theorem q_2239 : (Jvm.Cond.instanceMethod ({ cls := "LeafSweepModel", name := "chosenBy", desc := "(I)I" } : Jvm.MethodName)) ∈ mm_tbl := mm_tt8 157 rfl rfl
theorem q_2240 : (Jvm.Cond.code ({ cls := "LeafSweepModel", name := "chosenBy", desc := "(I)I" } : Jvm.MethodName) prog_14_method_75_code (2 : Nat) (Option.some Jvm.ClassFile.FieldType.int)) ∈ mm_tbl := mm_tt8 158 rfl rfl
theorem q_2241 : (Jvm.Cond.methodLink "LeafSweepModel" (405 : Nat) ({ cls := "LeafSweepModel", name := "records", desc := "(I)V" } : Jvm.MethodName)) ∈ mm_tbl := mm_tt8 159 rfl rfl
theorem q_2243 : (Jvm.Cond.instanceMethod ({ cls := "LeafSweepModel", name := "records", desc := "(I)V" } : Jvm.MethodName)) ∈ mm_tbl := mm_tt8 161 rfl rfl
theorem q_2244 : (Jvm.Cond.code ({ cls := "LeafSweepModel", name := "records", desc := "(I)V" } : Jvm.MethodName) prog_14_method_90_code (3 : Nat) (Option.none : Option Jvm.ClassFile.FieldType)) ∈ mm_tbl := mm_tt8 162 rfl rfl
theorem q_2245 : (Jvm.Cond.methodLink "LeafSweepModel" (408 : Nat) ({ cls := "LeafSweepModel", name := "carries", desc := "(I)V" } : Jvm.MethodName)) ∈ mm_tbl := mm_tt8 163 rfl rfl
theorem q_2247 : (Jvm.Cond.instanceMethod ({ cls := "LeafSweepModel", name := "carries", desc := "(I)V" } : Jvm.MethodName)) ∈ mm_tbl := mm_tt8 165 rfl rfl
theorem q_2248 : (Jvm.Cond.code ({ cls := "LeafSweepModel", name := "carries", desc := "(I)V" } : Jvm.MethodName) prog_14_method_89_code (6 : Nat) (Option.none : Option Jvm.ClassFile.FieldType)) ∈ mm_tbl := mm_tt8 166 rfl rfl
theorem q_2250 : (Jvm.Cond.instanceMethod ({ cls := "LeafSweepModel", name := "stop", desc := "()Z" } : Jvm.MethodName)) ∈ mm_tbl := mm_tt8 168 rfl rfl
theorem q_2251 : (Jvm.Cond.selects "LeafSweepModel" ({ cls := "LeafSweepModel", name := "stop", desc := "()Z" } : Jvm.MethodName) ({ cls := "LeafSweepModel", name := "stop", desc := "()Z" } : Jvm.MethodName)) ∈ mm_tbl := mm_tt8 169 rfl rfl
theorem q_2252 : (Jvm.Cond.code ({ cls := "LeafSweepModel", name := "stop", desc := "()Z" } : Jvm.MethodName) prog_14_method_123_code (2 : Nat) (Option.some Jvm.ClassFile.FieldType.boolean)) ∈ mm_tbl := mm_tt8 170 rfl rfl
theorem q_2253 : (Jvm.Cond.methodLink "LeafSweepModel" (496 : Nat) ({ cls := "LeafSweepModel", name := "stopped", desc := "(I)Z" } : Jvm.MethodName)) ∈ mm_tbl := mm_tt8 171 rfl rfl
theorem q_2255 : (Jvm.Cond.instanceMethod ({ cls := "LeafSweepModel", name := "stopped", desc := "(I)Z" } : Jvm.MethodName)) ∈ mm_tbl := mm_tt8 173 rfl rfl
theorem q_2256 : (Jvm.Cond.code ({ cls := "LeafSweepModel", name := "stopped", desc := "(I)Z" } : Jvm.MethodName) prog_14_method_93_code (5 : Nat) (Option.some Jvm.ClassFile.FieldType.boolean)) ∈ mm_tbl := mm_tt8 174 rfl rfl
theorem q_2258 : (Jvm.Cond.instanceMethod ({ cls := "LeafSweepModel", name := "crash", desc := "()I" } : Jvm.MethodName)) ∈ mm_tbl := mm_tt8 176 rfl rfl
theorem q_2259 : (Jvm.Cond.selects "LeafSweepModel" ({ cls := "LeafSweepModel", name := "crash", desc := "()I" } : Jvm.MethodName) ({ cls := "LeafSweepModel", name := "crash", desc := "()I" } : Jvm.MethodName)) ∈ mm_tbl := mm_tt8 177 rfl rfl
theorem q_2260 : (Jvm.Cond.code ({ cls := "LeafSweepModel", name := "crash", desc := "()I" } : Jvm.MethodName) prog_14_method_124_code (2 : Nat) (Option.some Jvm.ClassFile.FieldType.int)) ∈ mm_tbl := mm_tt8 178 rfl rfl
theorem q_2261 : (Jvm.Cond.methodLink "LeafSweepModel" (499 : Nat) ({ cls := "LeafSweepModel", name := "crashed", desc := "(I)I" } : Jvm.MethodName)) ∈ mm_tbl := mm_tt8 179 rfl rfl
theorem q_2263 : (Jvm.Cond.instanceMethod ({ cls := "LeafSweepModel", name := "crashed", desc := "(I)I" } : Jvm.MethodName)) ∈ mm_tbl := mm_tt8 181 rfl rfl
theorem q_2264 : (Jvm.Cond.code ({ cls := "LeafSweepModel", name := "crashed", desc := "(I)I" } : Jvm.MethodName) prog_14_method_94_code (4 : Nat) (Option.some Jvm.ClassFile.FieldType.int)) ∈ mm_tbl := mm_tt8 182 rfl rfl
theorem q_2266 : (Jvm.Cond.instanceMethod ({ cls := "LeafSweepModel", name := "resume", desc := "()I" } : Jvm.MethodName)) ∈ mm_tbl := mm_tt8 184 rfl rfl
theorem q_2267 : (Jvm.Cond.selects "LeafSweepModel" ({ cls := "LeafSweepModel", name := "resume", desc := "()I" } : Jvm.MethodName) ({ cls := "LeafSweepModel", name := "resume", desc := "()I" } : Jvm.MethodName)) ∈ mm_tbl := mm_tt8 185 rfl rfl
theorem q_2268 : (Jvm.Cond.code ({ cls := "LeafSweepModel", name := "resume", desc := "()I" } : Jvm.MethodName) prog_14_method_125_code (2 : Nat) (Option.some Jvm.ClassFile.FieldType.int)) ∈ mm_tbl := mm_tt8 186 rfl rfl
theorem q_2269 : (Jvm.Cond.methodLink "LeafSweepModel" (502 : Nat) ({ cls := "LeafSweepModel", name := "resumed", desc := "(I)I" } : Jvm.MethodName)) ∈ mm_tbl := mm_tt8 187 rfl rfl
theorem q_2271 : (Jvm.Cond.instanceMethod ({ cls := "LeafSweepModel", name := "resumed", desc := "(I)I" } : Jvm.MethodName)) ∈ mm_tbl := mm_tt8 189 rfl rfl
theorem q_2272 : (Jvm.Cond.code ({ cls := "LeafSweepModel", name := "resumed", desc := "(I)I" } : Jvm.MethodName) prog_14_method_95_code (4 : Nat) (Option.some Jvm.ClassFile.FieldType.int)) ∈ mm_tbl := mm_tt8 190 rfl rfl
theorem q_2274 : (Jvm.Cond.instanceMethod ({ cls := "LeafSweepModel", name := "pack", desc := "(I)I" } : Jvm.MethodName)) ∈ mm_tbl := mm_tt8 192 rfl rfl
theorem q_2275 : (Jvm.Cond.selects "LeafSweepModel" ({ cls := "LeafSweepModel", name := "pack", desc := "(I)I" } : Jvm.MethodName) ({ cls := "LeafSweepModel", name := "pack", desc := "(I)I" } : Jvm.MethodName)) ∈ mm_tbl := mm_tt8 193 rfl rfl
theorem q_2276 : (Jvm.Cond.code ({ cls := "LeafSweepModel", name := "pack", desc := "(I)I" } : Jvm.MethodName) prog_14_method_126_code (3 : Nat) (Option.some Jvm.ClassFile.FieldType.int)) ∈ mm_tbl := mm_tt8 194 rfl rfl
theorem q_2277 : (Jvm.Cond.methodLink "LeafSweepModel" (505 : Nat) ({ cls := "LeafSweepModel", name := "packs", desc := "(II)I" } : Jvm.MethodName)) ∈ mm_tbl := mm_tt8 195 rfl rfl
theorem q_2279 : (Jvm.Cond.instanceMethod ({ cls := "LeafSweepModel", name := "packs", desc := "(II)I" } : Jvm.MethodName)) ∈ mm_tbl := mm_tt8 197 rfl rfl
theorem q_2280 : (Jvm.Cond.code ({ cls := "LeafSweepModel", name := "packs", desc := "(II)I" } : Jvm.MethodName) prog_14_method_97_code (7 : Nat) (Option.some Jvm.ClassFile.FieldType.int)) ∈ mm_tbl := mm_tt8 198 rfl rfl
theorem q_2282 : (Jvm.Cond.instanceMethod ({ cls := "LeafSweepModel", name := "undo", desc := "()Z" } : Jvm.MethodName)) ∈ mm_tbl := mm_tt8 200 rfl rfl
theorem q_2283 : (Jvm.Cond.selects "LeafSweepModel" ({ cls := "LeafSweepModel", name := "undo", desc := "()Z" } : Jvm.MethodName) ({ cls := "LeafSweepModel", name := "undo", desc := "()Z" } : Jvm.MethodName)) ∈ mm_tbl := mm_tt8 201 rfl rfl
theorem q_2284 : (Jvm.Cond.code ({ cls := "LeafSweepModel", name := "undo", desc := "()Z" } : Jvm.MethodName) prog_14_method_127_code (1 : Nat) (Option.some Jvm.ClassFile.FieldType.boolean)) ∈ mm_tbl := mm_tt8 202 rfl rfl
theorem q_2286 : (Jvm.Cond.instanceMethod ({ cls := "LeafSweepModel", name := "judged", desc := "(I)I" } : Jvm.MethodName)) ∈ mm_tbl := mm_tt8 204 rfl rfl
theorem q_2287 : (Jvm.Cond.selects "LeafSweepModel" ({ cls := "LeafSweepModel", name := "judged", desc := "(I)I" } : Jvm.MethodName) ({ cls := "LeafSweepModel", name := "judged", desc := "(I)I" } : Jvm.MethodName)) ∈ mm_tbl := mm_tt8 205 rfl rfl
theorem q_2288 : (Jvm.Cond.code ({ cls := "LeafSweepModel", name := "judged", desc := "(I)I" } : Jvm.MethodName) prog_14_method_131_code (5 : Nat) (Option.some Jvm.ClassFile.FieldType.int)) ∈ mm_tbl := mm_tt8 206 rfl rfl
theorem q_2289 : (Jvm.Cond.methodLink "LeafSweepModel" (514 : Nat) ({ cls := "LeafSweepModel", name := "lineDone", desc := "(II)Z" } : Jvm.MethodName)) ∈ mm_tbl := mm_tt8 207 rfl rfl
theorem q_2291 : (Jvm.Cond.instanceMethod ({ cls := "LeafSweepModel", name := "lineDone", desc := "(II)Z" } : Jvm.MethodName)) ∈ mm_tbl := mm_tt8 209 rfl rfl
theorem q_2292 : (Jvm.Cond.code ({ cls := "LeafSweepModel", name := "lineDone", desc := "(II)Z" } : Jvm.MethodName) prog_14_method_129_code (4 : Nat) (Option.some Jvm.ClassFile.FieldType.boolean)) ∈ mm_tbl := mm_tt8 210 rfl rfl
theorem q_2293 : (Jvm.Cond.methodLink "LeafSweepModel" (508 : Nat) ({ cls := "LeafSweepModel", name := "begunOfAll", desc := "(I)I" } : Jvm.MethodName)) ∈ mm_tbl := mm_tt8 211 rfl rfl
theorem q_2295 : (Jvm.Cond.instanceMethod ({ cls := "LeafSweepModel", name := "begunOfAll", desc := "(I)I" } : Jvm.MethodName)) ∈ mm_tbl := mm_tt8 213 rfl rfl
theorem q_2296 : (Jvm.Cond.code ({ cls := "LeafSweepModel", name := "begunOfAll", desc := "(I)I" } : Jvm.MethodName) prog_14_method_130_code (3 : Nat) (Option.some Jvm.ClassFile.FieldType.int)) ∈ mm_tbl := mm_tt8 214 rfl rfl
theorem q_2297 : (Jvm.Cond.methodLink "LeafSweepModel" (511 : Nat) ({ cls := "LeafSweepModel", name := "goes", desc := "(II)Z" } : Jvm.MethodName)) ∈ mm_tbl := mm_tt8 215 rfl rfl
theorem q_2299 : (Jvm.Cond.instanceMethod ({ cls := "LeafSweepModel", name := "goes", desc := "(II)Z" } : Jvm.MethodName)) ∈ mm_tbl := mm_tt8 217 rfl rfl
theorem q_2300 : (Jvm.Cond.code ({ cls := "LeafSweepModel", name := "goes", desc := "(II)Z" } : Jvm.MethodName) prog_14_method_128_code (5 : Nat) (Option.some Jvm.ClassFile.FieldType.boolean)) ∈ mm_tbl := mm_tt8 218 rfl rfl
theorem q_2302 : (Jvm.Cond.instanceMethod ({ cls := "LeafSweepModel", name := "row", desc := "(II)I" } : Jvm.MethodName)) ∈ mm_tbl := mm_tt8 220 rfl rfl
theorem q_2303 : (Jvm.Cond.selects "LeafSweepModel" ({ cls := "LeafSweepModel", name := "row", desc := "(II)I" } : Jvm.MethodName) ({ cls := "LeafSweepModel", name := "row", desc := "(II)I" } : Jvm.MethodName)) ∈ mm_tbl := mm_tt8 221 rfl rfl
theorem q_2304 : (Jvm.Cond.code ({ cls := "LeafSweepModel", name := "row", desc := "(II)I" } : Jvm.MethodName) prog_14_method_132_code (6 : Nat) (Option.some Jvm.ClassFile.FieldType.int)) ∈ mm_tbl := mm_tt8 222 rfl rfl
theorem q_2306 : (Jvm.Cond.instanceMethod ({ cls := "LeafSweepModel", name := "index", desc := "(II)I" } : Jvm.MethodName)) ∈ mm_tbl := mm_tt8 224 rfl rfl
theorem q_2307 : (Jvm.Cond.selects "LeafSweepModel" ({ cls := "LeafSweepModel", name := "index", desc := "(II)I" } : Jvm.MethodName) ({ cls := "LeafSweepModel", name := "index", desc := "(II)I" } : Jvm.MethodName)) ∈ mm_tbl := mm_tt8 225 rfl rfl
theorem q_2308 : (Jvm.Cond.code ({ cls := "LeafSweepModel", name := "index", desc := "(II)I" } : Jvm.MethodName) prog_14_method_133_code (3 : Nat) (Option.some Jvm.ClassFile.FieldType.int)) ∈ mm_tbl := mm_tt8 226 rfl rfl
theorem q_2310 : (Jvm.Cond.instanceMethod ({ cls := "LeafSweepModel", name := "leaf", desc := "(III)I" } : Jvm.MethodName)) ∈ mm_tbl := mm_tt8 228 rfl rfl
theorem q_2311 : (Jvm.Cond.selects "LeafSweepModel" ({ cls := "LeafSweepModel", name := "leaf", desc := "(III)I" } : Jvm.MethodName) ({ cls := "LeafSweepModel", name := "leaf", desc := "(III)I" } : Jvm.MethodName)) ∈ mm_tbl := mm_tt8 229 rfl rfl
theorem q_2312 : (Jvm.Cond.code ({ cls := "LeafSweepModel", name := "leaf", desc := "(III)I" } : Jvm.MethodName) prog_14_method_135_code (5 : Nat) (Option.some Jvm.ClassFile.FieldType.int)) ∈ mm_tbl := mm_tt8 230 rfl rfl
theorem q_2313 : (Jvm.Cond.methodLink "LeafSweepModel" (517 : Nat) ({ cls := "LeafSweepModel", name := "leafStart", desc := "(III)I" } : Jvm.MethodName)) ∈ mm_tbl := mm_tt8 231 rfl rfl
theorem q_2315 : (Jvm.Cond.instanceMethod ({ cls := "LeafSweepModel", name := "leafStart", desc := "(III)I" } : Jvm.MethodName)) ∈ mm_tbl := mm_tt8 233 rfl rfl
theorem q_2316 : (Jvm.Cond.code ({ cls := "LeafSweepModel", name := "leafStart", desc := "(III)I" } : Jvm.MethodName) prog_14_method_134_code (6 : Nat) (Option.some Jvm.ClassFile.FieldType.int)) ∈ mm_tbl := mm_tt8 234 rfl rfl
theorem q_2318 : (Jvm.Cond.instanceMethod ({ cls := "LeafSweepModel", name := "lefts", desc := "(II)I" } : Jvm.MethodName)) ∈ mm_tbl := mm_tt8 236 rfl rfl
theorem q_2319 : (Jvm.Cond.selects "LeafSweepModel" ({ cls := "LeafSweepModel", name := "lefts", desc := "(II)I" } : Jvm.MethodName) ({ cls := "LeafSweepModel", name := "lefts", desc := "(II)I" } : Jvm.MethodName)) ∈ mm_tbl := mm_tt8 237 rfl rfl
theorem q_2320 : (Jvm.Cond.code ({ cls := "LeafSweepModel", name := "lefts", desc := "(II)I" } : Jvm.MethodName) prog_14_method_136_code (7 : Nat) (Option.some Jvm.ClassFile.FieldType.int)) ∈ mm_tbl := mm_tt8 238 rfl rfl
theorem q_2322 : (Jvm.Cond.instanceMethod ({ cls := "LeafSweepModel", name := "pointer", desc := "(II)I" } : Jvm.MethodName)) ∈ mm_tbl := mm_tt9 0 rfl rfl
theorem q_2323 : (Jvm.Cond.selects "LeafSweepModel" ({ cls := "LeafSweepModel", name := "pointer", desc := "(II)I" } : Jvm.MethodName) ({ cls := "LeafSweepModel", name := "pointer", desc := "(II)I" } : Jvm.MethodName)) ∈ mm_tbl := mm_tt9 1 rfl rfl
theorem q_2324 : (Jvm.Cond.code ({ cls := "LeafSweepModel", name := "pointer", desc := "(II)I" } : Jvm.MethodName) prog_14_method_137_code (3 : Nat) (Option.some Jvm.ClassFile.FieldType.int)) ∈ mm_tbl := mm_tt9 2 rfl rfl
theorem q_2326 : (Jvm.Cond.instanceMethod ({ cls := "LeafSweepModel", name := "found", desc := "(II)I" } : Jvm.MethodName)) ∈ mm_tbl := mm_tt9 4 rfl rfl
theorem q_2327 : (Jvm.Cond.selects "LeafSweepModel" ({ cls := "LeafSweepModel", name := "found", desc := "(II)I" } : Jvm.MethodName) ({ cls := "LeafSweepModel", name := "found", desc := "(II)I" } : Jvm.MethodName)) ∈ mm_tbl := mm_tt9 5 rfl rfl
theorem q_2328 : (Jvm.Cond.code ({ cls := "LeafSweepModel", name := "found", desc := "(II)I" } : Jvm.MethodName) prog_14_method_138_code (4 : Nat) (Option.some Jvm.ClassFile.FieldType.int)) ∈ mm_tbl := mm_tt9 6 rfl rfl
theorem q_2329 : (Jvm.Cond.methodLink "LeafSweepModel" (520 : Nat) ({ cls := "LeafSweepModel", name := "belongSet", desc := "(I)I" } : Jvm.MethodName)) ∈ mm_tbl := mm_tt9 7 rfl rfl
theorem q_2331 : (Jvm.Cond.instanceMethod ({ cls := "LeafSweepModel", name := "belongSet", desc := "(I)I" } : Jvm.MethodName)) ∈ mm_tbl := mm_tt9 9 rfl rfl
theorem q_2332 : (Jvm.Cond.code ({ cls := "LeafSweepModel", name := "belongSet", desc := "(I)I" } : Jvm.MethodName) prog_14_method_139_code (4 : Nat) (Option.some Jvm.ClassFile.FieldType.int)) ∈ mm_tbl := mm_tt9 10 rfl rfl
theorem q_2334 : (Jvm.Cond.instanceMethod ({ cls := "LeafSweepModel", name := "open", desc := "(II)Z" } : Jvm.MethodName)) ∈ mm_tbl := mm_tt9 12 rfl rfl
theorem q_2335 : (Jvm.Cond.selects "LeafSweepModel" ({ cls := "LeafSweepModel", name := "open", desc := "(II)Z" } : Jvm.MethodName) ({ cls := "LeafSweepModel", name := "open", desc := "(II)Z" } : Jvm.MethodName)) ∈ mm_tbl := mm_tt9 13 rfl rfl
theorem q_2336 : (Jvm.Cond.code ({ cls := "LeafSweepModel", name := "open", desc := "(II)Z" } : Jvm.MethodName) prog_14_method_140_code (3 : Nat) (Option.some Jvm.ClassFile.FieldType.boolean)) ∈ mm_tbl := mm_tt9 14 rfl rfl
theorem q_2338 : (Jvm.Cond.instanceMethod ({ cls := "LeafSweepModel", name := "fetch", desc := "()I" } : Jvm.MethodName)) ∈ mm_tbl := mm_tt9 16 rfl rfl
theorem q_2339 : (Jvm.Cond.selects "LeafSweepModel" ({ cls := "LeafSweepModel", name := "fetch", desc := "()I" } : Jvm.MethodName) ({ cls := "LeafSweepModel", name := "fetch", desc := "()I" } : Jvm.MethodName)) ∈ mm_tbl := mm_tt9 17 rfl rfl
theorem q_2340 : (Jvm.Cond.code ({ cls := "LeafSweepModel", name := "fetch", desc := "()I" } : Jvm.MethodName) prog_14_method_142_code (7 : Nat) (Option.some Jvm.ClassFile.FieldType.int)) ∈ mm_tbl := mm_tt9 18 rfl rfl
theorem q_2341 : (Jvm.Cond.methodLink "LeafSweepModel" (529 : Nat) ({ cls := "LeafSweepModel", name := "entryNow", desc := "(II)I" } : Jvm.MethodName)) ∈ mm_tbl := mm_tt9 19 rfl rfl
theorem q_2343 : (Jvm.Cond.instanceMethod ({ cls := "LeafSweepModel", name := "entryNow", desc := "(II)I" } : Jvm.MethodName)) ∈ mm_tbl := mm_tt9 21 rfl rfl
theorem q_2344 : (Jvm.Cond.code ({ cls := "LeafSweepModel", name := "entryNow", desc := "(II)I" } : Jvm.MethodName) prog_14_method_141_code (3 : Nat) (Option.some Jvm.ClassFile.FieldType.int)) ∈ mm_tbl := mm_tt9 22 rfl rfl
theorem q_2346 : (Jvm.Cond.instanceMethod ({ cls := "LeafSweepModel", name := "rank", desc := "(II)I" } : Jvm.MethodName)) ∈ mm_tbl := mm_tt9 24 rfl rfl
theorem q_2347 : (Jvm.Cond.selects "LeafSweepModel" ({ cls := "LeafSweepModel", name := "rank", desc := "(II)I" } : Jvm.MethodName) ({ cls := "LeafSweepModel", name := "rank", desc := "(II)I" } : Jvm.MethodName)) ∈ mm_tbl := mm_tt9 25 rfl rfl
theorem q_2348 : (Jvm.Cond.code ({ cls := "LeafSweepModel", name := "rank", desc := "(II)I" } : Jvm.MethodName) prog_14_method_143_code (6 : Nat) (Option.some Jvm.ClassFile.FieldType.int)) ∈ mm_tbl := mm_tt9 26 rfl rfl
theorem q_2350 : (Jvm.Cond.instanceMethod ({ cls := "LeafSweepModel", name := "stale", desc := "(I)I" } : Jvm.MethodName)) ∈ mm_tbl := mm_tt9 28 rfl rfl
theorem q_2351 : (Jvm.Cond.selects "LeafSweepModel" ({ cls := "LeafSweepModel", name := "stale", desc := "(I)I" } : Jvm.MethodName) ({ cls := "LeafSweepModel", name := "stale", desc := "(I)I" } : Jvm.MethodName)) ∈ mm_tbl := mm_tt9 29 rfl rfl
theorem q_2352 : (Jvm.Cond.code ({ cls := "LeafSweepModel", name := "stale", desc := "(I)I" } : Jvm.MethodName) prog_14_method_145_code (2 : Nat) (Option.some Jvm.ClassFile.FieldType.int)) ∈ mm_tbl := mm_tt9 30 rfl rfl
theorem q_2353 : (Jvm.Cond.methodLink "LeafSweepModel" (532 : Nat) ({ cls := "LeafSweepModel", name := "staleBy", desc := "(I)I" } : Jvm.MethodName)) ∈ mm_tbl := mm_tt9 31 rfl rfl
theorem q_2355 : (Jvm.Cond.instanceMethod ({ cls := "LeafSweepModel", name := "staleBy", desc := "(I)I" } : Jvm.MethodName)) ∈ mm_tbl := mm_tt9 33 rfl rfl
theorem q_2356 : (Jvm.Cond.code ({ cls := "LeafSweepModel", name := "staleBy", desc := "(I)I" } : Jvm.MethodName) prog_14_method_144_code (7 : Nat) (Option.some Jvm.ClassFile.FieldType.int)) ∈ mm_tbl := mm_tt9 34 rfl rfl
theorem q_2358 : (Jvm.Cond.instanceMethod ({ cls := "LeafSweepModel", name := "skips", desc := "(II)I" } : Jvm.MethodName)) ∈ mm_tbl := mm_tt9 36 rfl rfl
theorem q_2359 : (Jvm.Cond.selects "LeafSweepModel" ({ cls := "LeafSweepModel", name := "skips", desc := "(II)I" } : Jvm.MethodName) ({ cls := "LeafSweepModel", name := "skips", desc := "(II)I" } : Jvm.MethodName)) ∈ mm_tbl := mm_tt9 37 rfl rfl
theorem q_2360 : (Jvm.Cond.code ({ cls := "LeafSweepModel", name := "skips", desc := "(II)I" } : Jvm.MethodName) prog_14_method_146_code (6 : Nat) (Option.some Jvm.ClassFile.FieldType.int)) ∈ mm_tbl := mm_tt9 38 rfl rfl
theorem q_2362 : (Jvm.Cond.instanceMethod ({ cls := "LeafSweepModel", name := "missing", desc := "(I)I" } : Jvm.MethodName)) ∈ mm_tbl := mm_tt9 40 rfl rfl
theorem q_2363 : (Jvm.Cond.selects "LeafSweepModel" ({ cls := "LeafSweepModel", name := "missing", desc := "(I)I" } : Jvm.MethodName) ({ cls := "LeafSweepModel", name := "missing", desc := "(I)I" } : Jvm.MethodName)) ∈ mm_tbl := mm_tt9 41 rfl rfl
theorem q_2364 : (Jvm.Cond.code ({ cls := "LeafSweepModel", name := "missing", desc := "(I)I" } : Jvm.MethodName) prog_14_method_147_code (5 : Nat) (Option.some Jvm.ClassFile.FieldType.int)) ∈ mm_tbl := mm_tt9 42 rfl rfl
theorem q_2366 : (Jvm.Cond.instanceMethod ({ cls := "LeafSweepModel", name := "side", desc := "(I)I" } : Jvm.MethodName)) ∈ mm_tbl := mm_tt9 44 rfl rfl
theorem q_2367 : (Jvm.Cond.selects "LeafSweepModel" ({ cls := "LeafSweepModel", name := "side", desc := "(I)I" } : Jvm.MethodName) ({ cls := "LeafSweepModel", name := "side", desc := "(I)I" } : Jvm.MethodName)) ∈ mm_tbl := mm_tt9 45 rfl rfl
theorem q_2368 : (Jvm.Cond.code ({ cls := "LeafSweepModel", name := "side", desc := "(I)I" } : Jvm.MethodName) prog_14_method_148_code (2 : Nat) (Option.some Jvm.ClassFile.FieldType.int)) ∈ mm_tbl := mm_tt9 46 rfl rfl
theorem q_2369 : (Jvm.Cond.constant "LeafSweepModel" (537 : Nat) (-2147483648 : Int32)) ∈ mm_tbl := mm_tt9 47 rfl rfl
theorem q_2371 : (Jvm.Cond.instanceMethod ({ cls := "LeafSweepModel", name := "splits", desc := "(II)Z" } : Jvm.MethodName)) ∈ mm_tbl := mm_tt9 49 rfl rfl
theorem q_2372 : (Jvm.Cond.selects "LeafSweepModel" ({ cls := "LeafSweepModel", name := "splits", desc := "(II)Z" } : Jvm.MethodName) ({ cls := "LeafSweepModel", name := "splits", desc := "(II)Z" } : Jvm.MethodName)) ∈ mm_tbl := mm_tt9 50 rfl rfl
theorem q_2373 : (Jvm.Cond.code ({ cls := "LeafSweepModel", name := "splits", desc := "(II)Z" } : Jvm.MethodName) prog_14_method_149_code (5 : Nat) (Option.some Jvm.ClassFile.FieldType.boolean)) ∈ mm_tbl := mm_tt9 51 rfl rfl
theorem q_2375 : (Jvm.Cond.instanceMethod ({ cls := "LeafSweepModel", name := "fill", desc := "(I)I" } : Jvm.MethodName)) ∈ mm_tbl := mm_tt9 53 rfl rfl
theorem q_2376 : (Jvm.Cond.selects "LeafSweepModel" ({ cls := "LeafSweepModel", name := "fill", desc := "(I)I" } : Jvm.MethodName) ({ cls := "LeafSweepModel", name := "fill", desc := "(I)I" } : Jvm.MethodName)) ∈ mm_tbl := mm_tt9 54 rfl rfl
theorem q_2377 : (Jvm.Cond.code ({ cls := "LeafSweepModel", name := "fill", desc := "(I)I" } : Jvm.MethodName) prog_14_method_150_code (3 : Nat) (Option.some Jvm.ClassFile.FieldType.int)) ∈ mm_tbl := mm_tt9 55 rfl rfl
theorem q_2379 : (Jvm.Cond.instanceMethod ({ cls := "LeafSweepModel", name := "sparse", desc := "(I)I" } : Jvm.MethodName)) ∈ mm_tbl := mm_tt9 57 rfl rfl
theorem q_2380 : (Jvm.Cond.selects "LeafSweepModel" ({ cls := "LeafSweepModel", name := "sparse", desc := "(I)I" } : Jvm.MethodName) ({ cls := "LeafSweepModel", name := "sparse", desc := "(I)I" } : Jvm.MethodName)) ∈ mm_tbl := mm_tt9 58 rfl rfl
theorem q_2381 : (Jvm.Cond.code ({ cls := "LeafSweepModel", name := "sparse", desc := "(I)I" } : Jvm.MethodName) prog_14_method_151_code (4 : Nat) (Option.some Jvm.ClassFile.FieldType.int)) ∈ mm_tbl := mm_tt9 59 rfl rfl
theorem q_2383 : (Jvm.Cond.instanceMethod ({ cls := "LeafSweepModel", name := "costs", desc := "(II)I" } : Jvm.MethodName)) ∈ mm_tbl := mm_tt9 61 rfl rfl
theorem q_2384 : (Jvm.Cond.selects "LeafSweepModel" ({ cls := "LeafSweepModel", name := "costs", desc := "(II)I" } : Jvm.MethodName) ({ cls := "LeafSweepModel", name := "costs", desc := "(II)I" } : Jvm.MethodName)) ∈ mm_tbl := mm_tt9 62 rfl rfl
theorem q_2385 : (Jvm.Cond.code ({ cls := "LeafSweepModel", name := "costs", desc := "(II)I" } : Jvm.MethodName) prog_14_method_152_code (4 : Nat) (Option.some Jvm.ClassFile.FieldType.int)) ∈ mm_tbl := mm_tt9 63 rfl rfl
theorem q_2387 : (Jvm.Cond.instanceMethod ({ cls := "LeafSweepModel", name := "ways", desc := "()I" } : Jvm.MethodName)) ∈ mm_tbl := mm_tt9 65 rfl rfl
theorem q_2388 : (Jvm.Cond.selects "LeafSweepModel" ({ cls := "LeafSweepModel", name := "ways", desc := "()I" } : Jvm.MethodName) ({ cls := "LeafSweepModel", name := "ways", desc := "()I" } : Jvm.MethodName)) ∈ mm_tbl := mm_tt9 66 rfl rfl
theorem q_2389 : (Jvm.Cond.code ({ cls := "LeafSweepModel", name := "ways", desc := "()I" } : Jvm.MethodName) prog_14_method_153_code (4 : Nat) (Option.some Jvm.ClassFile.FieldType.int)) ∈ mm_tbl := mm_tt9 67 rfl rfl
theorem q_2391 : (Jvm.Cond.instanceMethod ({ cls := "LeafSweepModel", name := "turn", desc := "(I)I" } : Jvm.MethodName)) ∈ mm_tbl := mm_tt9 69 rfl rfl
theorem q_2392 : (Jvm.Cond.selects "LeafSweepModel" ({ cls := "LeafSweepModel", name := "turn", desc := "(I)I" } : Jvm.MethodName) ({ cls := "LeafSweepModel", name := "turn", desc := "(I)I" } : Jvm.MethodName)) ∈ mm_tbl := mm_tt9 70 rfl rfl
theorem q_2393 : (Jvm.Cond.code ({ cls := "LeafSweepModel", name := "turn", desc := "(I)I" } : Jvm.MethodName) prog_14_method_154_code (7 : Nat) (Option.some Jvm.ClassFile.FieldType.int)) ∈ mm_tbl := mm_tt9 71 rfl rfl
theorem q_2395 : (Jvm.Cond.instanceMethod ({ cls := "LeafSweepModel", name := "when", desc := "(II)I" } : Jvm.MethodName)) ∈ mm_tbl := mm_tt9 73 rfl rfl
theorem q_2396 : (Jvm.Cond.selects "LeafSweepModel" ({ cls := "LeafSweepModel", name := "when", desc := "(II)I" } : Jvm.MethodName) ({ cls := "LeafSweepModel", name := "when", desc := "(II)I" } : Jvm.MethodName)) ∈ mm_tbl := mm_tt9 74 rfl rfl
theorem q_2397 : (Jvm.Cond.code ({ cls := "LeafSweepModel", name := "when", desc := "(II)I" } : Jvm.MethodName) prog_14_method_156_code (5 : Nat) (Option.some Jvm.ClassFile.FieldType.int)) ∈ mm_tbl := mm_tt9 75 rfl rfl
theorem q_2398 : (Jvm.Cond.methodLink "LeafSweepModel" (541 : Nat) ({ cls := "LeafSweepModel", name := "aheadOf", desc := "(II)I" } : Jvm.MethodName)) ∈ mm_tbl := mm_tt9 76 rfl rfl
theorem q_2400 : (Jvm.Cond.instanceMethod ({ cls := "LeafSweepModel", name := "aheadOf", desc := "(II)I" } : Jvm.MethodName)) ∈ mm_tbl := mm_tt9 78 rfl rfl
theorem q_2401 : (Jvm.Cond.code ({ cls := "LeafSweepModel", name := "aheadOf", desc := "(II)I" } : Jvm.MethodName) prog_14_method_155_code (6 : Nat) (Option.some Jvm.ClassFile.FieldType.int)) ∈ mm_tbl := mm_tt9 79 rfl rfl
theorem q_2402 : (Jvm.Cond.methodLink "LeafSweepModel" (538 : Nat) ({ cls := "LeafSweepModel", name := "wayAt", desc := "(II)I" } : Jvm.MethodName)) ∈ mm_tbl := mm_tt9 80 rfl rfl
theorem q_2404 : (Jvm.Cond.instanceMethod ({ cls := "LeafSweepModel", name := "wayAt", desc := "(II)I" } : Jvm.MethodName)) ∈ mm_tbl := mm_tt9 82 rfl rfl
theorem q_2405 : (Jvm.Cond.code ({ cls := "LeafSweepModel", name := "wayAt", desc := "(II)I" } : Jvm.MethodName) prog_14_method_81_code (4 : Nat) (Option.some Jvm.ClassFile.FieldType.int)) ∈ mm_tbl := mm_tt9 83 rfl rfl
theorem q_2407 : (Jvm.Cond.instanceMethod ({ cls := "LeafSweepModel", name := "next", desc := "(II)I" } : Jvm.MethodName)) ∈ mm_tbl := mm_tt9 85 rfl rfl
theorem q_2408 : (Jvm.Cond.selects "LeafSweepModel" ({ cls := "LeafSweepModel", name := "next", desc := "(II)I" } : Jvm.MethodName) ({ cls := "LeafSweepModel", name := "next", desc := "(II)I" } : Jvm.MethodName)) ∈ mm_tbl := mm_tt9 86 rfl rfl
theorem q_2409 : (Jvm.Cond.code ({ cls := "LeafSweepModel", name := "next", desc := "(II)I" } : Jvm.MethodName) prog_14_method_157_code (5 : Nat) (Option.some Jvm.ClassFile.FieldType.int)) ∈ mm_tbl := mm_tt9 87 rfl rfl
theorem q_2411 : (Jvm.Cond.instanceMethod ({ cls := "LeafSweepModel", name := "job", desc := "(I)I" } : Jvm.MethodName)) ∈ mm_tbl := mm_tt9 89 rfl rfl
theorem q_2412 : (Jvm.Cond.selects "LeafSweepModel" ({ cls := "LeafSweepModel", name := "job", desc := "(I)I" } : Jvm.MethodName) ({ cls := "LeafSweepModel", name := "job", desc := "(I)I" } : Jvm.MethodName)) ∈ mm_tbl := mm_tt9 90 rfl rfl
theorem q_2413 : (Jvm.Cond.code ({ cls := "LeafSweepModel", name := "job", desc := "(I)I" } : Jvm.MethodName) prog_14_method_158_code (2 : Nat) (Option.some Jvm.ClassFile.FieldType.int)) ∈ mm_tbl := mm_tt9 91 rfl rfl
theorem q_2415 : (Jvm.Cond.instanceMethod ({ cls := "LeafSweepModel", name := "record", desc := "(II)I" } : Jvm.MethodName)) ∈ mm_tbl := mm_tt9 93 rfl rfl
theorem q_2416 : (Jvm.Cond.selects "LeafSweepModel" ({ cls := "LeafSweepModel", name := "record", desc := "(II)I" } : Jvm.MethodName) ({ cls := "LeafSweepModel", name := "record", desc := "(II)I" } : Jvm.MethodName)) ∈ mm_tbl := mm_tt9 94 rfl rfl
theorem q_2417 : (Jvm.Cond.code ({ cls := "LeafSweepModel", name := "record", desc := "(II)I" } : Jvm.MethodName) prog_14_method_159_code (4 : Nat) (Option.some Jvm.ClassFile.FieldType.int)) ∈ mm_tbl := mm_tt9 95 rfl rfl
theorem q_2419 : (Jvm.Cond.instanceMethod ({ cls := "LeafSweepModel", name := "steps", desc := "()I" } : Jvm.MethodName)) ∈ mm_tbl := mm_tt9 97 rfl rfl
theorem q_2420 : (Jvm.Cond.selects "LeafSweepModel" ({ cls := "LeafSweepModel", name := "steps", desc := "()I" } : Jvm.MethodName) ({ cls := "LeafSweepModel", name := "steps", desc := "()I" } : Jvm.MethodName)) ∈ mm_tbl := mm_tt9 98 rfl rfl
theorem q_2421 : (Jvm.Cond.code ({ cls := "LeafSweepModel", name := "steps", desc := "()I" } : Jvm.MethodName) prog_14_method_160_code (3 : Nat) (Option.some Jvm.ClassFile.FieldType.int)) ∈ mm_tbl := mm_tt9 99 rfl rfl
theorem q_2423 : (Jvm.Cond.instanceMethod ({ cls := "LeafSweepModel", name := "after", desc := "(II)I" } : Jvm.MethodName)) ∈ mm_tbl := mm_tt9 101 rfl rfl
theorem q_2424 : (Jvm.Cond.selects "LeafSweepModel" ({ cls := "LeafSweepModel", name := "after", desc := "(II)I" } : Jvm.MethodName) ({ cls := "LeafSweepModel", name := "after", desc := "(II)I" } : Jvm.MethodName)) ∈ mm_tbl := mm_tt9 102 rfl rfl
theorem q_2425 : (Jvm.Cond.code ({ cls := "LeafSweepModel", name := "after", desc := "(II)I" } : Jvm.MethodName) prog_14_method_162_code (4 : Nat) (Option.some Jvm.ClassFile.FieldType.int)) ∈ mm_tbl := mm_tt9 103 rfl rfl
theorem q_2426 : (Jvm.Cond.methodLink "LeafSweepModel" (544 : Nat) ({ cls := "LeafSweepModel", name := "foretells", desc := "()V" } : Jvm.MethodName)) ∈ mm_tbl := mm_tt9 104 rfl rfl
theorem q_2428 : (Jvm.Cond.instanceMethod ({ cls := "LeafSweepModel", name := "foretells", desc := "()V" } : Jvm.MethodName)) ∈ mm_tbl := mm_tt9 106 rfl rfl
theorem q_2429 : (Jvm.Cond.code ({ cls := "LeafSweepModel", name := "foretells", desc := "()V" } : Jvm.MethodName) prog_14_method_161_code (1 : Nat) (Option.none : Option Jvm.ClassFile.FieldType)) ∈ mm_tbl := mm_tt9 107 rfl rfl
theorem q_2430 : (Jvm.Cond.methodLink "LeafSweepModel" (547 : Nat) ({ cls := "LeafSweepModel", name := "allLeaves", desc := "(I)I" } : Jvm.MethodName)) ∈ mm_tbl := mm_tt9 108 rfl rfl
theorem q_2432 : (Jvm.Cond.instanceMethod ({ cls := "LeafSweepModel", name := "allLeaves", desc := "(I)I" } : Jvm.MethodName)) ∈ mm_tbl := mm_tt9 110 rfl rfl
theorem q_2433 : (Jvm.Cond.code ({ cls := "LeafSweepModel", name := "allLeaves", desc := "(I)I" } : Jvm.MethodName) prog_14_method_68_code (4 : Nat) (Option.some Jvm.ClassFile.FieldType.int)) ∈ mm_tbl := mm_tt9 111 rfl rfl
theorem q_2435 : (Jvm.Cond.instanceMethod ({ cls := "LeafSweepModel", name := "during", desc := "(IIIII)I" } : Jvm.MethodName)) ∈ mm_tbl := mm_tt9 113 rfl rfl
theorem q_2436 : (Jvm.Cond.selects "LeafSweepModel" ({ cls := "LeafSweepModel", name := "during", desc := "(IIIII)I" } : Jvm.MethodName) ({ cls := "LeafSweepModel", name := "during", desc := "(IIIII)I" } : Jvm.MethodName)) ∈ mm_tbl := mm_tt9 114 rfl rfl
theorem q_2437 : (Jvm.Cond.code ({ cls := "LeafSweepModel", name := "during", desc := "(IIIII)I" } : Jvm.MethodName) prog_14_method_163_code (7 : Nat) (Option.some Jvm.ClassFile.FieldType.int)) ∈ mm_tbl := mm_tt9 115 rfl rfl
theorem q_2439 : (Jvm.Cond.instanceMethod ({ cls := "LeafSweepModel", name := "crashes", desc := "(II)I" } : Jvm.MethodName)) ∈ mm_tbl := mm_tt9 117 rfl rfl
theorem q_2440 : (Jvm.Cond.selects "LeafSweepModel" ({ cls := "LeafSweepModel", name := "crashes", desc := "(II)I" } : Jvm.MethodName) ({ cls := "LeafSweepModel", name := "crashes", desc := "(II)I" } : Jvm.MethodName)) ∈ mm_tbl := mm_tt9 118 rfl rfl
theorem q_2441 : (Jvm.Cond.code ({ cls := "LeafSweepModel", name := "crashes", desc := "(II)I" } : Jvm.MethodName) prog_14_method_164_code (5 : Nat) (Option.some Jvm.ClassFile.FieldType.int)) ∈ mm_tbl := mm_tt9 119 rfl rfl
theorem q_2443 : (Jvm.Cond.instanceMethod ({ cls := "LeafSweepModel", name := "runs", desc := "(II)I" } : Jvm.MethodName)) ∈ mm_tbl := mm_tt9 121 rfl rfl
theorem q_2444 : (Jvm.Cond.selects "LeafSweepModel" ({ cls := "LeafSweepModel", name := "runs", desc := "(II)I" } : Jvm.MethodName) ({ cls := "LeafSweepModel", name := "runs", desc := "(II)I" } : Jvm.MethodName)) ∈ mm_tbl := mm_tt9 122 rfl rfl
theorem q_2445 : (Jvm.Cond.code ({ cls := "LeafSweepModel", name := "runs", desc := "(II)I" } : Jvm.MethodName) prog_14_method_168_code (3 : Nat) (Option.some Jvm.ClassFile.FieldType.int)) ∈ mm_tbl := mm_tt9 123 rfl rfl
theorem q_2446 : (Jvm.Cond.methodLink "LeafSweepModel" (556 : Nat) ({ cls := "LeafSweepModel", name := "runsOf", desc := "(II)I" } : Jvm.MethodName)) ∈ mm_tbl := mm_tt9 124 rfl rfl
theorem q_2448 : (Jvm.Cond.instanceMethod ({ cls := "LeafSweepModel", name := "runsOf", desc := "(II)I" } : Jvm.MethodName)) ∈ mm_tbl := mm_tt9 126 rfl rfl
theorem q_2449 : (Jvm.Cond.code ({ cls := "LeafSweepModel", name := "runsOf", desc := "(II)I" } : Jvm.MethodName) prog_14_method_167_code (10 : Nat) (Option.some Jvm.ClassFile.FieldType.int)) ∈ mm_tbl := mm_tt9 127 rfl rfl
theorem q_2450 : (Jvm.Cond.methodLink "LeafSweepModel" (550 : Nat) ({ cls := "LeafSweepModel", name := "queued", desc := "(I)I" } : Jvm.MethodName)) ∈ mm_tbl := mm_tt9 128 rfl rfl
theorem q_2452 : (Jvm.Cond.instanceMethod ({ cls := "LeafSweepModel", name := "queued", desc := "(I)I" } : Jvm.MethodName)) ∈ mm_tbl := mm_tt9 130 rfl rfl
theorem q_2453 : (Jvm.Cond.code ({ cls := "LeafSweepModel", name := "queued", desc := "(I)I" } : Jvm.MethodName) prog_14_method_165_code (6 : Nat) (Option.some Jvm.ClassFile.FieldType.int)) ∈ mm_tbl := mm_tt9 131 rfl rfl
theorem q_2454 : (Jvm.Cond.methodLink "LeafSweepModel" (553 : Nat) ({ cls := "LeafSweepModel", name := "leastAbove", desc := "(II)I" } : Jvm.MethodName)) ∈ mm_tbl := mm_tt9 132 rfl rfl
theorem q_2456 : (Jvm.Cond.instanceMethod ({ cls := "LeafSweepModel", name := "leastAbove", desc := "(II)I" } : Jvm.MethodName)) ∈ mm_tbl := mm_tt9 134 rfl rfl
theorem q_2457 : (Jvm.Cond.code ({ cls := "LeafSweepModel", name := "leastAbove", desc := "(II)I" } : Jvm.MethodName) prog_14_method_166_code (5 : Nat) (Option.some Jvm.ClassFile.FieldType.int)) ∈ mm_tbl := mm_tt9 135 rfl rfl
theorem q_2459 : (Jvm.Cond.instanceMethod ({ cls := "LeafSweepModel", name := "run", desc := "(III)I" } : Jvm.MethodName)) ∈ mm_tbl := mm_tt9 137 rfl rfl
theorem q_2460 : (Jvm.Cond.selects "LeafSweepModel" ({ cls := "LeafSweepModel", name := "run", desc := "(III)I" } : Jvm.MethodName) ({ cls := "LeafSweepModel", name := "run", desc := "(III)I" } : Jvm.MethodName)) ∈ mm_tbl := mm_tt9 138 rfl rfl
theorem q_2461 : (Jvm.Cond.code ({ cls := "LeafSweepModel", name := "run", desc := "(III)I" } : Jvm.MethodName) prog_14_method_169_code (5 : Nat) (Option.some Jvm.ClassFile.FieldType.int)) ∈ mm_tbl := mm_tt9 139 rfl rfl
theorem q_2463 : (Jvm.Cond.instanceMethod ({ cls := "LeafSweepModel", name := "merged", desc := "(II)I" } : Jvm.MethodName)) ∈ mm_tbl := mm_tt9 141 rfl rfl
theorem q_2464 : (Jvm.Cond.selects "LeafSweepModel" ({ cls := "LeafSweepModel", name := "merged", desc := "(II)I" } : Jvm.MethodName) ({ cls := "LeafSweepModel", name := "merged", desc := "(II)I" } : Jvm.MethodName)) ∈ mm_tbl := mm_tt9 142 rfl rfl
theorem q_2465 : (Jvm.Cond.code ({ cls := "LeafSweepModel", name := "merged", desc := "(II)I" } : Jvm.MethodName) prog_14_method_171_code (7 : Nat) (Option.some Jvm.ClassFile.FieldType.int)) ∈ mm_tbl := mm_tt9 143 rfl rfl
theorem q_2466 : (Jvm.Cond.methodLink "LeafSweepModel" (559 : Nat) ({ cls := "LeafSweepModel", name := "takeLeast", desc := "(I)I" } : Jvm.MethodName)) ∈ mm_tbl := mm_tt9 144 rfl rfl
theorem q_2468 : (Jvm.Cond.instanceMethod ({ cls := "LeafSweepModel", name := "takeLeast", desc := "(I)I" } : Jvm.MethodName)) ∈ mm_tbl := mm_tt9 146 rfl rfl
theorem q_2469 : (Jvm.Cond.code ({ cls := "LeafSweepModel", name := "takeLeast", desc := "(I)I" } : Jvm.MethodName) prog_14_method_170_code (4 : Nat) (Option.some Jvm.ClassFile.FieldType.int)) ∈ mm_tbl := mm_tt9 147 rfl rfl
theorem q_2471 : (Jvm.Cond.instanceMethod ({ cls := "LeafSweepModel", name := "check", desc := "(I)I" } : Jvm.MethodName)) ∈ mm_tbl := mm_tt9 149 rfl rfl
theorem q_2472 : (Jvm.Cond.selects "LeafSweepModel" ({ cls := "LeafSweepModel", name := "check", desc := "(I)I" } : Jvm.MethodName) ({ cls := "LeafSweepModel", name := "check", desc := "(I)I" } : Jvm.MethodName)) ∈ mm_tbl := mm_tt9 150 rfl rfl
theorem q_2473 : (Jvm.Cond.code ({ cls := "LeafSweepModel", name := "check", desc := "(I)I" } : Jvm.MethodName) prog_14_method_174_code (6 : Nat) (Option.some Jvm.ClassFile.FieldType.int)) ∈ mm_tbl := mm_tt9 151 rfl rfl
theorem q_2474 : (Jvm.Cond.methodLink "LeafSweepModel" (565 : Nat) ({ cls := "LeafSweepModel", name := "bulk", desc := "(I)I" } : Jvm.MethodName)) ∈ mm_tbl := mm_tt9 152 rfl rfl
theorem q_2476 : (Jvm.Cond.instanceMethod ({ cls := "LeafSweepModel", name := "bulk", desc := "(I)I" } : Jvm.MethodName)) ∈ mm_tbl := mm_tt9 154 rfl rfl
theorem q_2477 : (Jvm.Cond.code ({ cls := "LeafSweepModel", name := "bulk", desc := "(I)I" } : Jvm.MethodName) prog_14_method_173_code (8 : Nat) (Option.some Jvm.ClassFile.FieldType.int)) ∈ mm_tbl := mm_tt9 155 rfl rfl
theorem q_2478 : (Jvm.Cond.methodLink "LeafSweepModel" (562 : Nat) ({ cls := "LeafSweepModel", name := "firmAt", desc := "(I)I" } : Jvm.MethodName)) ∈ mm_tbl := mm_tt9 156 rfl rfl
theorem q_2480 : (Jvm.Cond.instanceMethod ({ cls := "LeafSweepModel", name := "firmAt", desc := "(I)I" } : Jvm.MethodName)) ∈ mm_tbl := mm_tt9 158 rfl rfl
theorem q_2481 : (Jvm.Cond.code ({ cls := "LeafSweepModel", name := "firmAt", desc := "(I)I" } : Jvm.MethodName) prog_14_method_172_code (4 : Nat) (Option.some Jvm.ClassFile.FieldType.int)) ∈ mm_tbl := mm_tt9 159 rfl rfl
theorem q_2483 : (Jvm.Cond.instanceMethod ({ cls := "LeafSweepModel", name := "hinders", desc := "()I" } : Jvm.MethodName)) ∈ mm_tbl := mm_tt9 161 rfl rfl
theorem q_2484 : (Jvm.Cond.selects "LeafSweepModel" ({ cls := "LeafSweepModel", name := "hinders", desc := "()I" } : Jvm.MethodName) ({ cls := "LeafSweepModel", name := "hinders", desc := "()I" } : Jvm.MethodName)) ∈ mm_tbl := mm_tt9 162 rfl rfl
theorem q_2485 : (Jvm.Cond.code ({ cls := "LeafSweepModel", name := "hinders", desc := "()I" } : Jvm.MethodName) prog_14_method_175_code (2 : Nat) (Option.some Jvm.ClassFile.FieldType.int)) ∈ mm_tbl := mm_tt9 163 rfl rfl
theorem q_2487 : (Jvm.Cond.instanceMethod ({ cls := "LeafSweepModel", name := "fits", desc := "(II)Z" } : Jvm.MethodName)) ∈ mm_tbl := mm_tt9 165 rfl rfl
theorem q_2488 : (Jvm.Cond.selects "LeafSweepModel" ({ cls := "LeafSweepModel", name := "fits", desc := "(II)Z" } : Jvm.MethodName) ({ cls := "LeafSweepModel", name := "fits", desc := "(II)Z" } : Jvm.MethodName)) ∈ mm_tbl := mm_tt9 166 rfl rfl
theorem q_2489 : (Jvm.Cond.code ({ cls := "LeafSweepModel", name := "fits", desc := "(II)Z" } : Jvm.MethodName) prog_14_method_176_code (3 : Nat) (Option.some Jvm.ClassFile.FieldType.boolean)) ∈ mm_tbl := mm_tt9 167 rfl rfl
theorem q_2491 : (Jvm.Cond.instanceMethod ({ cls := "LeafSweepModel", name := "needs", desc := "(I)I" } : Jvm.MethodName)) ∈ mm_tbl := mm_tt9 169 rfl rfl
theorem q_2492 : (Jvm.Cond.selects "LeafSweepModel" ({ cls := "LeafSweepModel", name := "needs", desc := "(I)I" } : Jvm.MethodName) ({ cls := "LeafSweepModel", name := "needs", desc := "(I)I" } : Jvm.MethodName)) ∈ mm_tbl := mm_tt9 170 rfl rfl
theorem q_2493 : (Jvm.Cond.code ({ cls := "LeafSweepModel", name := "needs", desc := "(I)I" } : Jvm.MethodName) prog_14_method_177_code (3 : Nat) (Option.some Jvm.ClassFile.FieldType.int)) ∈ mm_tbl := mm_tt9 171 rfl rfl
theorem q_2495 : (Jvm.Cond.instanceMethod ({ cls := "LeafSweepModel", name := "free", desc := "(I)Z" } : Jvm.MethodName)) ∈ mm_tbl := mm_tt9 173 rfl rfl
theorem q_2496 : (Jvm.Cond.selects "LeafSweepModel" ({ cls := "LeafSweepModel", name := "free", desc := "(I)Z" } : Jvm.MethodName) ({ cls := "LeafSweepModel", name := "free", desc := "(I)Z" } : Jvm.MethodName)) ∈ mm_tbl := mm_tt9 174 rfl rfl
theorem q_2497 : (Jvm.Cond.code ({ cls := "LeafSweepModel", name := "free", desc := "(I)Z" } : Jvm.MethodName) prog_14_method_178_code (2 : Nat) (Option.some Jvm.ClassFile.FieldType.boolean)) ∈ mm_tbl := mm_tt9 175 rfl rfl
theorem q_2499 : (Jvm.Cond.instanceMethod ({ cls := "LeafSweepModel", name := "would", desc := "(III)I" } : Jvm.MethodName)) ∈ mm_tbl := mm_tt9 177 rfl rfl
theorem q_2500 : (Jvm.Cond.selects "LeafSweepModel" ({ cls := "LeafSweepModel", name := "would", desc := "(III)I" } : Jvm.MethodName) ({ cls := "LeafSweepModel", name := "would", desc := "(III)I" } : Jvm.MethodName)) ∈ mm_tbl := mm_tt9 178 rfl rfl
theorem q_2501 : (Jvm.Cond.code ({ cls := "LeafSweepModel", name := "would", desc := "(III)I" } : Jvm.MethodName) prog_14_method_179_code (4 : Nat) (Option.some Jvm.ClassFile.FieldType.int)) ∈ mm_tbl := mm_tt9 179 rfl rfl
theorem q_2503 : (Jvm.Cond.instanceMethod ({ cls := "LeafSweepModel", name := "count", desc := "(I)I" } : Jvm.MethodName)) ∈ mm_tbl := mm_tt9 181 rfl rfl
theorem q_2504 : (Jvm.Cond.selects "LeafSweepModel" ({ cls := "LeafSweepModel", name := "count", desc := "(I)I" } : Jvm.MethodName) ({ cls := "LeafSweepModel", name := "count", desc := "(I)I" } : Jvm.MethodName)) ∈ mm_tbl := mm_tt9 182 rfl rfl
theorem q_2505 : (Jvm.Cond.code ({ cls := "LeafSweepModel", name := "count", desc := "(I)I" } : Jvm.MethodName) prog_14_method_180_code (2 : Nat) (Option.some Jvm.ClassFile.FieldType.int)) ∈ mm_tbl := mm_tt9 183 rfl rfl
