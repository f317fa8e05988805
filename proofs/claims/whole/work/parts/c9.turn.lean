/-! THE LAW: a turn of its loop -/
def lvs (i : Nat) : List Value := [.ref 0, .ref 1, .ref 618, .ref 634, .int (nI i)]
abbrev KC := Nat × List Value × List Value × mm_H
def kOne : Nat → List Value → List Value → mm_H → Option KC := fun pc vs st h => some (pc, vs, st, h)
def kNon : Option Value → mm_H → Option KC := fun _ _ => none
/-- the script that is read -/
def scr (G : GG) (L : Nat) (xs : Nat → Int32) : Prop := G.2.2 0 0 = L ∧ G.1 0 = xs ∧ L ≤ 3584
theorem nI_sub7 {L : Nat} (hL : L ≤ 3584) : (nI L - 7).toInt = (L : Int) - 7 := by
  rw [Int32.toInt_sub, nI_toInt (by omega), show (7 : Int32).toInt = 7 from rfl]
  simp only [Int.bmod]
  omega
theorem sub7 {L i : Nat} (hL : L ≤ 3584) (hi : L < i + 7) (h2 : i ≤ L + 7) : nI L - 7 < nI i := by
  rw [Int32.lt_iff_toInt_lt]
  have h1 : (nI i).toInt = i := nI_toInt (by omega)
  have h3 : (nI L - 7).toInt = (L : Int) - 7 := nI_sub7 hL
  rw [h1, h3]
  omega
theorem sub7n {L i : Nat} (hL : L ≤ 3584) (hi : i + 7 ≤ L) : ¬ nI L - 7 < nI i := by
  rw [Int32.lt_iff_toInt_lt]
  have h1 : (nI i).toInt = i := nI_toInt (by omega)
  have h3 : (nI L - 7).toInt = (L : Int) - 7 := nI_sub7 hL
  rw [h1, h3]
  omega
section STP
variable {G G' : GG} {L i : Nat} {xs : Nat → Int32}
theorem scr.in1 (h : scr G L xs) (e : eqOff inn G G') : scr G' L xs := by
  have := e 0 (fun q => absurd q.1 (by decide))
  exact ⟨by rw [this.2.2]; exact h.1, by rw [this.1]; exact h.2.1, h.2.2⟩
theorem scr.rd (h : scr G L xs) {k : Nat} (hk : i + k < L) : mm_li (hp G) 0 (nI i + nI k) = some (xs (i + k)) := by
  obtain ⟨h1, h2, h3⟩ := h
  rw [i_add, hp_li9 (n := 0) (len := 0) rfl (by rw [h1]; exact hk) (by rw [h1]; omega), h2]
/-- a turn: from a case to the loop's end -/
def TN (G : GG) (L : Nat) (xs : Nat → Int32) (i pc : Nat) : Prop := ∃ G', mm_one p_law kNon kOne pc (lvs i) [] (hp G) = some (2034, lvs i, [], hp G') ∧ FW G' ∧ scr G' L xs ∧ eqOff inn G G'
theorem t_feed (F : FW G) (hs : scr G L xs) (hi : i + 7 ≤ L) : TN G L xs i 268 := by
  have s1 : mm_li (hp G) 0 (nI i + 1) = some (xs (i + 1)) := hs.rd (k := 1) (by omega)
  have s2 : mm_li (hp G) 0 (nI i + 2) = some (xs (i + 2)) := hs.rd (k := 2) (by omega)
  have s3 : mm_li (hp G) 0 (nI i + 3) = some (xs (i + 3)) := hs.rd (k := 3) (by omega)
  have s4 : mm_li (hp G) 0 (nI i + 4) = some (xs (i + 4)) := hs.rd (k := 4) (by omega)
  have s5 : mm_li (hp G) 0 (nI i + 5) = some (xs (i + 5)) := hs.rd (k := 5) (by omega)
  have s6 : mm_li (hp G) 0 (nI i + 6) = some (xs (i + 6)) := hs.rd (k := 6) (by omega)
  obtain ⟨v, G1, G2, a1, b1, F2, e1, e2⟩ := b_feed F (((xs (i + 1)).toInt64 <<< ((32 : Int32).toInt64 &&& 63)) ||| ((xs (i + 2)).toInt64 &&& (4294967295 : Int64))) (((xs (i + 3)).toInt64 <<< ((32 : Int32).toInt64 &&& 63)) ||| ((xs (i + 4)).toInt64 &&& (4294967295 : Int64))) (((xs (i + 5)).toInt64 <<< ((32 : Int32).toInt64 &&& 63)) ||| ((xs (i + 6)).toInt64 &&& (4294967295 : Int64)))
  have t1 : mm_li (hp G1) 0 (nI i + 1) = some (xs (i + 1)) := (hs.in1 e1).rd (k := 1) (by omega)
  have t2 : mm_li (hp G1) 0 (nI i + 2) = some (xs (i + 2)) := (hs.in1 e1).rd (k := 2) (by omega)
  have t3 : mm_li (hp G1) 0 (nI i + 3) = some (xs (i + 3)) := (hs.in1 e1).rd (k := 3) (by omega)
  have t4 : mm_li (hp G1) 0 (nI i + 4) = some (xs (i + 4)) := (hs.in1 e1).rd (k := 4) (by omega)
  have t5 : mm_li (hp G1) 0 (nI i + 5) = some (xs (i + 5)) := (hs.in1 e1).rd (k := 5) (by omega)
  have t6 : mm_li (hp G1) 0 (nI i + 6) = some (xs (i + 6)) := (hs.in1 e1).rd (k := 6) (by omega)
  refine ⟨G2, ?_, F2, hs.in1 e2, e2⟩
  unfold lvs
  rw [o_law_268, s1, Option.bind_some, s2, Option.bind_some, s3, Option.bind_some, s4, Option.bind_some, s5, Option.bind_some, s6, Option.bind_some, a1, ci_some, t1, Option.bind_some, t2, Option.bind_some, t3, Option.bind_some, t4, Option.bind_some, t5, Option.bind_some, t6, Option.bind_some, b1, ci_some, if_pos rfl]
  rfl
theorem t_table (F : FW G) (hs : scr G L xs) (hi : i + 7 ≤ L) : TN G L xs i 415 := by
  obtain ⟨v, G1, G2, a1, b1, F2, e1, e2⟩ := b_table F 
  refine ⟨G2, ?_, F2, hs.in1 e2, e2⟩
  unfold lvs
  rw [o_law_415, a1, ci_some, b1, ci_some, if_pos rfl]
  rfl
theorem t_work (F : FW G) (hs : scr G L xs) (hi : i + 7 ≤ L) : TN G L xs i 428 := by
  obtain ⟨v, G1, G2, a1, b1, F2, e1, e2⟩ := b_work F 
  refine ⟨G2, ?_, F2, hs.in1 e2, e2⟩
  unfold lvs
  rw [o_law_428, a1, ci_some, b1, ci_some, if_pos rfl]
  rfl
theorem t_row (F : FW G) (hs : scr G L xs) (hi : i + 7 ≤ L) : TN G L xs i 441 := by
  have s1 : mm_li (hp G) 0 (nI i + 1) = some (xs (i + 1)) := hs.rd (k := 1) (by omega)
  have s2 : mm_li (hp G) 0 (nI i + 2) = some (xs (i + 2)) := hs.rd (k := 2) (by omega)
  obtain ⟨v, G1, G2, a1, b1, F2, e1, e2⟩ := b_row F (xs (i + 1)) (xs (i + 2))
  have t1 : mm_li (hp G1) 0 (nI i + 1) = some (xs (i + 1)) := (hs.in1 e1).rd (k := 1) (by omega)
  have t2 : mm_li (hp G1) 0 (nI i + 2) = some (xs (i + 2)) := (hs.in1 e1).rd (k := 2) (by omega)
  refine ⟨G2, ?_, F2, hs.in1 e2, e2⟩
  unfold lvs
  rw [o_law_441, s1, Option.bind_some, s2, Option.bind_some, a1, ci_some, t1, Option.bind_some, t2, Option.bind_some, b1, ci_some, if_pos rfl]
  rfl
theorem t_index (F : FW G) (hs : scr G L xs) (hi : i + 7 ≤ L) : TN G L xs i 478 := by
  have s1 : mm_li (hp G) 0 (nI i + 1) = some (xs (i + 1)) := hs.rd (k := 1) (by omega)
  have s2 : mm_li (hp G) 0 (nI i + 2) = some (xs (i + 2)) := hs.rd (k := 2) (by omega)
  obtain ⟨v, G1, G2, a1, b1, F2, e1, e2⟩ := b_index F (xs (i + 1)) (xs (i + 2))
  have t1 : mm_li (hp G1) 0 (nI i + 1) = some (xs (i + 1)) := (hs.in1 e1).rd (k := 1) (by omega)
  have t2 : mm_li (hp G1) 0 (nI i + 2) = some (xs (i + 2)) := (hs.in1 e1).rd (k := 2) (by omega)
  refine ⟨G2, ?_, F2, hs.in1 e2, e2⟩
  unfold lvs
  rw [o_law_478, s1, Option.bind_some, s2, Option.bind_some, a1, ci_some, t1, Option.bind_some, t2, Option.bind_some, b1, ci_some, if_pos rfl]
  rfl
theorem t_leaf (F : FW G) (hs : scr G L xs) (hi : i + 7 ≤ L) : TN G L xs i 515 := by
  have s1 : mm_li (hp G) 0 (nI i + 1) = some (xs (i + 1)) := hs.rd (k := 1) (by omega)
  have s2 : mm_li (hp G) 0 (nI i + 2) = some (xs (i + 2)) := hs.rd (k := 2) (by omega)
  have s3 : mm_li (hp G) 0 (nI i + 3) = some (xs (i + 3)) := hs.rd (k := 3) (by omega)
  obtain ⟨v, G1, G2, a1, b1, F2, e1, e2⟩ := b_leaf F (xs (i + 1)) (xs (i + 2)) (xs (i + 3))
  have t1 : mm_li (hp G1) 0 (nI i + 1) = some (xs (i + 1)) := (hs.in1 e1).rd (k := 1) (by omega)
  have t2 : mm_li (hp G1) 0 (nI i + 2) = some (xs (i + 2)) := (hs.in1 e1).rd (k := 2) (by omega)
  have t3 : mm_li (hp G1) 0 (nI i + 3) = some (xs (i + 3)) := (hs.in1 e1).rd (k := 3) (by omega)
  refine ⟨G2, ?_, F2, hs.in1 e2, e2⟩
  unfold lvs
  rw [o_law_515, s1, Option.bind_some, s2, Option.bind_some, s3, Option.bind_some, a1, ci_some, t1, Option.bind_some, t2, Option.bind_some, t3, Option.bind_some, b1, ci_some, if_pos rfl]
  rfl
theorem t_pointer (F : FW G) (hs : scr G L xs) (hi : i + 7 ≤ L) : TN G L xs i 564 := by
  have s1 : mm_li (hp G) 0 (nI i + 1) = some (xs (i + 1)) := hs.rd (k := 1) (by omega)
  have s2 : mm_li (hp G) 0 (nI i + 2) = some (xs (i + 2)) := hs.rd (k := 2) (by omega)
  obtain ⟨v, G1, G2, a1, b1, F2, e1, e2⟩ := b_pointer F (xs (i + 1)) (xs (i + 2))
  have t1 : mm_li (hp G1) 0 (nI i + 1) = some (xs (i + 1)) := (hs.in1 e1).rd (k := 1) (by omega)
  have t2 : mm_li (hp G1) 0 (nI i + 2) = some (xs (i + 2)) := (hs.in1 e1).rd (k := 2) (by omega)
  refine ⟨G2, ?_, F2, hs.in1 e2, e2⟩
  unfold lvs
  rw [o_law_564, s1, Option.bind_some, s2, Option.bind_some, a1, ci_some, t1, Option.bind_some, t2, Option.bind_some, b1, ci_some, if_pos rfl]
  rfl
theorem t_insert (F : FW G) (hs : scr G L xs) (hi : i + 7 ≤ L) : TN G L xs i 601 := by
  have s1 : mm_li (hp G) 0 (nI i + 1) = some (xs (i + 1)) := hs.rd (k := 1) (by omega)
  have s2 : mm_li (hp G) 0 (nI i + 2) = some (xs (i + 2)) := hs.rd (k := 2) (by omega)
  have s3 : mm_li (hp G) 0 (nI i + 3) = some (xs (i + 3)) := hs.rd (k := 3) (by omega)
  obtain ⟨v, G1, G2, a1, b1, F2, e1, e2⟩ := b_insert F (xs (i + 1)) (xs (i + 2)) (xs (i + 3))
  have t1 : mm_li (hp G1) 0 (nI i + 1) = some (xs (i + 1)) := (hs.in1 e1).rd (k := 1) (by omega)
  have t2 : mm_li (hp G1) 0 (nI i + 2) = some (xs (i + 2)) := (hs.in1 e1).rd (k := 2) (by omega)
  have t3 : mm_li (hp G1) 0 (nI i + 3) = some (xs (i + 3)) := (hs.in1 e1).rd (k := 3) (by omega)
  refine ⟨G2, ?_, F2, hs.in1 e2, e2⟩
  unfold lvs
  rw [o_law_601, s1, Option.bind_some, s2, Option.bind_some, s3, Option.bind_some, a1, ci_some, t1, Option.bind_some, t2, Option.bind_some, t3, Option.bind_some, b1, ci_some, if_pos rfl]
  rfl
theorem t_remove (F : FW G) (hs : scr G L xs) (hi : i + 7 ≤ L) : TN G L xs i 650 := by
  have s1 : mm_li (hp G) 0 (nI i + 1) = some (xs (i + 1)) := hs.rd (k := 1) (by omega)
  obtain ⟨v, G1, G2, a1, b1, F2, e1, e2⟩ := b_remove F (xs (i + 1))
  have t1 : mm_li (hp G1) 0 (nI i + 1) = some (xs (i + 1)) := (hs.in1 e1).rd (k := 1) (by omega)
  refine ⟨G2, ?_, F2, hs.in1 e2, e2⟩
  unfold lvs
  rw [o_law_650, s1, Option.bind_some, a1, ci_some, t1, Option.bind_some, b1, ci_some, if_pos rfl]
  rfl
theorem t_change (F : FW G) (hs : scr G L xs) (hi : i + 7 ≤ L) : TN G L xs i 675 := by
  have s1 : mm_li (hp G) 0 (nI i + 1) = some (xs (i + 1)) := hs.rd (k := 1) (by omega)
  have s2 : mm_li (hp G) 0 (nI i + 2) = some (xs (i + 2)) := hs.rd (k := 2) (by omega)
  have s3 : mm_li (hp G) 0 (nI i + 3) = some (xs (i + 3)) := hs.rd (k := 3) (by omega)
  obtain ⟨v, G1, G2, a1, b1, F2, e1, e2⟩ := b_change F (xs (i + 1)) (xs (i + 2)) (xs (i + 3))
  have t1 : mm_li (hp G1) 0 (nI i + 1) = some (xs (i + 1)) := (hs.in1 e1).rd (k := 1) (by omega)
  have t2 : mm_li (hp G1) 0 (nI i + 2) = some (xs (i + 2)) := (hs.in1 e1).rd (k := 2) (by omega)
  have t3 : mm_li (hp G1) 0 (nI i + 3) = some (xs (i + 3)) := (hs.in1 e1).rd (k := 3) (by omega)
  refine ⟨G2, ?_, F2, hs.in1 e2, e2⟩
  unfold lvs
  rw [o_law_675, s1, Option.bind_some, s2, Option.bind_some, s3, Option.bind_some, a1, ci_some, t1, Option.bind_some, t2, Option.bind_some, t3, Option.bind_some, b1, ci_some, if_pos rfl]
  rfl
theorem t_point (F : FW G) (hs : scr G L xs) (hi : i + 7 ≤ L) : TN G L xs i 724 := by
  have s1 : mm_li (hp G) 0 (nI i + 1) = some (xs (i + 1)) := hs.rd (k := 1) (by omega)
  have s2 : mm_li (hp G) 0 (nI i + 2) = some (xs (i + 2)) := hs.rd (k := 2) (by omega)
  obtain ⟨v, G1, G2, a1, b1, F2, e1, e2⟩ := b_point F (xs (i + 1)) (xs (i + 2))
  have t1 : mm_li (hp G1) 0 (nI i + 1) = some (xs (i + 1)) := (hs.in1 e1).rd (k := 1) (by omega)
  have t2 : mm_li (hp G1) 0 (nI i + 2) = some (xs (i + 2)) := (hs.in1 e1).rd (k := 2) (by omega)
  refine ⟨G2, ?_, F2, hs.in1 e2, e2⟩
  unfold lvs
  rw [o_law_724, s1, Option.bind_some, s2, Option.bind_some, a1, ci_some, t1, Option.bind_some, t2, Option.bind_some, b1, ci_some, if_pos rfl]
  rfl
theorem t_drop (F : FW G) (hs : scr G L xs) (hi : i + 7 ≤ L) : TN G L xs i 761 := by
  have s1 : mm_li (hp G) 0 (nI i + 1) = some (xs (i + 1)) := hs.rd (k := 1) (by omega)
  obtain ⟨v, G1, G2, a1, b1, F2, e1, e2⟩ := b_drop F (xs (i + 1))
  have t1 : mm_li (hp G1) 0 (nI i + 1) = some (xs (i + 1)) := (hs.in1 e1).rd (k := 1) (by omega)
  refine ⟨G2, ?_, F2, hs.in1 e2, e2⟩
  unfold lvs
  rw [o_law_761, s1, Option.bind_some, a1, ci_some, t1, Option.bind_some, b1, ci_some, if_pos rfl]
  rfl
theorem t_begin (F : FW G) (hs : scr G L xs) (hi : i + 7 ≤ L) : TN G L xs i 786 := by
  have s1 : mm_li (hp G) 0 (nI i + 1) = some (xs (i + 1)) := hs.rd (k := 1) (by omega)
  have s2 : mm_li (hp G) 0 (nI i + 2) = some (xs (i + 2)) := hs.rd (k := 2) (by omega)
  have s3 : mm_li (hp G) 0 (nI i + 3) = some (xs (i + 3)) := hs.rd (k := 3) (by omega)
  obtain ⟨v, G1, G2, a1, b1, F2, e1, e2⟩ := b_begin F (xs (i + 1)) (xs (i + 2)) (xs (i + 3))
  have t1 : mm_li (hp G1) 0 (nI i + 1) = some (xs (i + 1)) := (hs.in1 e1).rd (k := 1) (by omega)
  have t2 : mm_li (hp G1) 0 (nI i + 2) = some (xs (i + 2)) := (hs.in1 e1).rd (k := 2) (by omega)
  have t3 : mm_li (hp G1) 0 (nI i + 3) = some (xs (i + 3)) := (hs.in1 e1).rd (k := 3) (by omega)
  refine ⟨G2, ?_, F2, hs.in1 e2, e2⟩
  unfold lvs
  rw [o_law_786, s1, Option.bind_some, s2, Option.bind_some, s3, Option.bind_some, a1, ci_some, t1, Option.bind_some, t2, Option.bind_some, t3, Option.bind_some, b1, ci_some, if_pos rfl]
  rfl
theorem t_step (F : FW G) (hs : scr G L xs) (hi : i + 7 ≤ L) : TN G L xs i 835 := by
  obtain ⟨v, G1, G2, a1, b1, F2, e1, e2⟩ := b_step F 
  refine ⟨G2, ?_, F2, hs.in1 e2, e2⟩
  unfold lvs
  rw [o_law_835, a1, ci_some, b1, ci_some, if_pos rfl]
  rfl
theorem t_stop (F : FW G) (hs : scr G L xs) (hi : i + 7 ≤ L) : TN G L xs i 848 := by
  obtain ⟨v, G1, G2, a1, b1, F2, e1, e2⟩ := b_stop F 
  refine ⟨G2, ?_, F2, hs.in1 e2, e2⟩
  unfold lvs
  rw [o_law_848, a1, ci_some, b1, ci_some, if_pos rfl]
  rfl
theorem t_crash (F : FW G) (hs : scr G L xs) (hi : i + 7 ≤ L) : TN G L xs i 861 := by
  obtain ⟨v, G1, G2, a1, b1, F2, e1, e2⟩ := b_crash F 
  refine ⟨G2, ?_, F2, hs.in1 e2, e2⟩
  unfold lvs
  rw [o_law_861, a1, ci_some, b1, ci_some, if_pos rfl]
  rfl
theorem t_resume (F : FW G) (hs : scr G L xs) (hi : i + 7 ≤ L) : TN G L xs i 874 := by
  obtain ⟨v, G1, G2, a1, b1, F2, e1, e2⟩ := b_resume F 
  refine ⟨G2, ?_, F2, hs.in1 e2, e2⟩
  unfold lvs
  rw [o_law_874, a1, ci_some, b1, ci_some, if_pos rfl]
  rfl
theorem t_pack (F : FW G) (hs : scr G L xs) (hi : i + 7 ≤ L) : TN G L xs i 887 := by
  have s1 : mm_li (hp G) 0 (nI i + 1) = some (xs (i + 1)) := hs.rd (k := 1) (by omega)
  obtain ⟨v, G1, G2, a1, b1, F2, e1, e2⟩ := b_pack F (xs (i + 1))
  have t1 : mm_li (hp G1) 0 (nI i + 1) = some (xs (i + 1)) := (hs.in1 e1).rd (k := 1) (by omega)
  refine ⟨G2, ?_, F2, hs.in1 e2, e2⟩
  unfold lvs
  rw [o_law_887, s1, Option.bind_some, a1, ci_some, t1, Option.bind_some, b1, ci_some, if_pos rfl]
  rfl
theorem t_undo (F : FW G) (hs : scr G L xs) (hi : i + 7 ≤ L) : TN G L xs i 912 := by
  obtain ⟨v, G1, G2, a1, b1, F2, e1, e2⟩ := b_undo F 
  refine ⟨G2, ?_, F2, hs.in1 e2, e2⟩
  unfold lvs
  rw [o_law_912, a1, ci_some, b1, ci_some, if_pos rfl]
  rfl
theorem t_judged (F : FW G) (hs : scr G L xs) (hi : i + 7 ≤ L) : TN G L xs i 925 := by
  have s1 : mm_li (hp G) 0 (nI i + 1) = some (xs (i + 1)) := hs.rd (k := 1) (by omega)
  obtain ⟨v, G1, G2, a1, b1, F2, e1, e2⟩ := b_judged F (xs (i + 1))
  have t1 : mm_li (hp G1) 0 (nI i + 1) = some (xs (i + 1)) := (hs.in1 e1).rd (k := 1) (by omega)
  refine ⟨G2, ?_, F2, hs.in1 e2, e2⟩
  unfold lvs
  rw [o_law_925, s1, Option.bind_some, a1, ci_some, t1, Option.bind_some, b1, ci_some, if_pos rfl]
  rfl
theorem t_found (F : FW G) (hs : scr G L xs) (hi : i + 7 ≤ L) : TN G L xs i 950 := by
  have s1 : mm_li (hp G) 0 (nI i + 1) = some (xs (i + 1)) := hs.rd (k := 1) (by omega)
  have s2 : mm_li (hp G) 0 (nI i + 2) = some (xs (i + 2)) := hs.rd (k := 2) (by omega)
  obtain ⟨v, G1, G2, a1, b1, F2, e1, e2⟩ := b_found F (xs (i + 1)) (xs (i + 2))
  have t1 : mm_li (hp G1) 0 (nI i + 1) = some (xs (i + 1)) := (hs.in1 e1).rd (k := 1) (by omega)
  have t2 : mm_li (hp G1) 0 (nI i + 2) = some (xs (i + 2)) := (hs.in1 e1).rd (k := 2) (by omega)
  refine ⟨G2, ?_, F2, hs.in1 e2, e2⟩
  unfold lvs
  rw [o_law_950, s1, Option.bind_some, s2, Option.bind_some, a1, ci_some, t1, Option.bind_some, t2, Option.bind_some, b1, ci_some, if_pos rfl]
  rfl
theorem t_open (F : FW G) (hs : scr G L xs) (hi : i + 7 ≤ L) : TN G L xs i 987 := by
  have s1 : mm_li (hp G) 0 (nI i + 1) = some (xs (i + 1)) := hs.rd (k := 1) (by omega)
  have s2 : mm_li (hp G) 0 (nI i + 2) = some (xs (i + 2)) := hs.rd (k := 2) (by omega)
  obtain ⟨v, G1, G2, a1, b1, F2, e1, e2⟩ := b_open F (xs (i + 1)) (xs (i + 2))
  have t1 : mm_li (hp G1) 0 (nI i + 1) = some (xs (i + 1)) := (hs.in1 e1).rd (k := 1) (by omega)
  have t2 : mm_li (hp G1) 0 (nI i + 2) = some (xs (i + 2)) := (hs.in1 e1).rd (k := 2) (by omega)
  refine ⟨G2, ?_, F2, hs.in1 e2, e2⟩
  unfold lvs
  rw [o_law_987, s1, Option.bind_some, s2, Option.bind_some, a1, ci_some, t1, Option.bind_some, t2, Option.bind_some, b1, ci_some, if_pos rfl]
  rfl
theorem t_fetch (F : FW G) (hs : scr G L xs) (hi : i + 7 ≤ L) : TN G L xs i 1024 := by
  obtain ⟨v, G1, G2, a1, b1, F2, e1, e2⟩ := b_fetch F 
  refine ⟨G2, ?_, F2, hs.in1 e2, e2⟩
  unfold lvs
  rw [o_law_1024, a1, ci_some, b1, ci_some, if_pos rfl]
  rfl
theorem t_skips (F : FW G) (hs : scr G L xs) (hi : i + 7 ≤ L) : TN G L xs i 1105 := by
  have s1 : mm_li (hp G) 0 (nI i + 1) = some (xs (i + 1)) := hs.rd (k := 1) (by omega)
  have s2 : mm_li (hp G) 0 (nI i + 2) = some (xs (i + 2)) := hs.rd (k := 2) (by omega)
  obtain ⟨v, G1, G2, a1, b1, F2, e1, e2⟩ := b_skips F (xs (i + 1)) (xs (i + 2))
  have t1 : mm_li (hp G1) 0 (nI i + 1) = some (xs (i + 1)) := (hs.in1 e1).rd (k := 1) (by omega)
  have t2 : mm_li (hp G1) 0 (nI i + 2) = some (xs (i + 2)) := (hs.in1 e1).rd (k := 2) (by omega)
  refine ⟨G2, ?_, F2, hs.in1 e2, e2⟩
  unfold lvs
  rw [o_law_1105, s1, Option.bind_some, s2, Option.bind_some, a1, ci_some, t1, Option.bind_some, t2, Option.bind_some, b1, ci_some, if_pos rfl]
  rfl
theorem t_stale (F : FW G) (hs : scr G L xs) (hi : i + 7 ≤ L) : TN G L xs i 1142 := by
  have s1 : mm_li (hp G) 0 (nI i + 1) = some (xs (i + 1)) := hs.rd (k := 1) (by omega)
  obtain ⟨v, G1, G2, a1, b1, F2, e1, e2⟩ := b_stale F (xs (i + 1))
  have t1 : mm_li (hp G1) 0 (nI i + 1) = some (xs (i + 1)) := (hs.in1 e1).rd (k := 1) (by omega)
  refine ⟨G2, ?_, F2, hs.in1 e2, e2⟩
  unfold lvs
  rw [o_law_1142, s1, Option.bind_some, a1, ci_some, t1, Option.bind_some, b1, ci_some, if_pos rfl]
  rfl
theorem t_missing (F : FW G) (hs : scr G L xs) (hi : i + 7 ≤ L) : TN G L xs i 1167 := by
  have s1 : mm_li (hp G) 0 (nI i + 1) = some (xs (i + 1)) := hs.rd (k := 1) (by omega)
  obtain ⟨v, G1, G2, a1, b1, F2, e1, e2⟩ := b_missing F (xs (i + 1))
  have t1 : mm_li (hp G1) 0 (nI i + 1) = some (xs (i + 1)) := (hs.in1 e1).rd (k := 1) (by omega)
  refine ⟨G2, ?_, F2, hs.in1 e2, e2⟩
  unfold lvs
  rw [o_law_1167, s1, Option.bind_some, a1, ci_some, t1, Option.bind_some, b1, ci_some, if_pos rfl]
  rfl
theorem t_side (F : FW G) (hs : scr G L xs) (hi : i + 7 ≤ L) : TN G L xs i 1192 := by
  have s1 : mm_li (hp G) 0 (nI i + 1) = some (xs (i + 1)) := hs.rd (k := 1) (by omega)
  obtain ⟨v, G1, G2, a1, b1, F2, e1, e2⟩ := b_side F (xs (i + 1))
  have t1 : mm_li (hp G1) 0 (nI i + 1) = some (xs (i + 1)) := (hs.in1 e1).rd (k := 1) (by omega)
  refine ⟨G2, ?_, F2, hs.in1 e2, e2⟩
  unfold lvs
  rw [o_law_1192, s1, Option.bind_some, a1, ci_some, t1, Option.bind_some, b1, ci_some, if_pos rfl]
  rfl
theorem t_splits (F : FW G) (hs : scr G L xs) (hi : i + 7 ≤ L) : TN G L xs i 1217 := by
  have s1 : mm_li (hp G) 0 (nI i + 1) = some (xs (i + 1)) := hs.rd (k := 1) (by omega)
  have s2 : mm_li (hp G) 0 (nI i + 2) = some (xs (i + 2)) := hs.rd (k := 2) (by omega)
  obtain ⟨v, G1, G2, a1, b1, F2, e1, e2⟩ := b_splits F (xs (i + 1)) (xs (i + 2))
  have t1 : mm_li (hp G1) 0 (nI i + 1) = some (xs (i + 1)) := (hs.in1 e1).rd (k := 1) (by omega)
  have t2 : mm_li (hp G1) 0 (nI i + 2) = some (xs (i + 2)) := (hs.in1 e1).rd (k := 2) (by omega)
  refine ⟨G2, ?_, F2, hs.in1 e2, e2⟩
  unfold lvs
  rw [o_law_1217, s1, Option.bind_some, s2, Option.bind_some, a1, ci_some, t1, Option.bind_some, t2, Option.bind_some, b1, ci_some, if_pos rfl]
  rfl
theorem t_fill (F : FW G) (hs : scr G L xs) (hi : i + 7 ≤ L) : TN G L xs i 1254 := by
  have s1 : mm_li (hp G) 0 (nI i + 1) = some (xs (i + 1)) := hs.rd (k := 1) (by omega)
  obtain ⟨v, G1, G2, a1, b1, F2, e1, e2⟩ := b_fill F (xs (i + 1))
  have t1 : mm_li (hp G1) 0 (nI i + 1) = some (xs (i + 1)) := (hs.in1 e1).rd (k := 1) (by omega)
  refine ⟨G2, ?_, F2, hs.in1 e2, e2⟩
  unfold lvs
  rw [o_law_1254, s1, Option.bind_some, a1, ci_some, t1, Option.bind_some, b1, ci_some, if_pos rfl]
  rfl
theorem t_sparse (F : FW G) (hs : scr G L xs) (hi : i + 7 ≤ L) : TN G L xs i 1279 := by
  have s1 : mm_li (hp G) 0 (nI i + 1) = some (xs (i + 1)) := hs.rd (k := 1) (by omega)
  obtain ⟨v, G1, G2, a1, b1, F2, e1, e2⟩ := b_sparse F (xs (i + 1))
  have t1 : mm_li (hp G1) 0 (nI i + 1) = some (xs (i + 1)) := (hs.in1 e1).rd (k := 1) (by omega)
  refine ⟨G2, ?_, F2, hs.in1 e2, e2⟩
  unfold lvs
  rw [o_law_1279, s1, Option.bind_some, a1, ci_some, t1, Option.bind_some, b1, ci_some, if_pos rfl]
  rfl
theorem t_costs (F : FW G) (hs : scr G L xs) (hi : i + 7 ≤ L) : TN G L xs i 1304 := by
  have s1 : mm_li (hp G) 0 (nI i + 1) = some (xs (i + 1)) := hs.rd (k := 1) (by omega)
  have s2 : mm_li (hp G) 0 (nI i + 2) = some (xs (i + 2)) := hs.rd (k := 2) (by omega)
  obtain ⟨v, G1, G2, a1, b1, F2, e1, e2⟩ := b_costs F (xs (i + 1)) (xs (i + 2))
  have t1 : mm_li (hp G1) 0 (nI i + 1) = some (xs (i + 1)) := (hs.in1 e1).rd (k := 1) (by omega)
  have t2 : mm_li (hp G1) 0 (nI i + 2) = some (xs (i + 2)) := (hs.in1 e1).rd (k := 2) (by omega)
  refine ⟨G2, ?_, F2, hs.in1 e2, e2⟩
  unfold lvs
  rw [o_law_1304, s1, Option.bind_some, s2, Option.bind_some, a1, ci_some, t1, Option.bind_some, t2, Option.bind_some, b1, ci_some, if_pos rfl]
  rfl
theorem t_ways (F : FW G) (hs : scr G L xs) (hi : i + 7 ≤ L) : TN G L xs i 1341 := by
  obtain ⟨v, G1, G2, a1, b1, F2, e1, e2⟩ := b_ways F 
  refine ⟨G2, ?_, F2, hs.in1 e2, e2⟩
  unfold lvs
  rw [o_law_1341, a1, ci_some, b1, ci_some, if_pos rfl]
  rfl
theorem t_turn (F : FW G) (hs : scr G L xs) (hi : i + 7 ≤ L) : TN G L xs i 1354 := by
  have s1 : mm_li (hp G) 0 (nI i + 1) = some (xs (i + 1)) := hs.rd (k := 1) (by omega)
  obtain ⟨v, G1, G2, a1, b1, F2, e1, e2⟩ := b_turn F (xs (i + 1))
  have t1 : mm_li (hp G1) 0 (nI i + 1) = some (xs (i + 1)) := (hs.in1 e1).rd (k := 1) (by omega)
  refine ⟨G2, ?_, F2, hs.in1 e2, e2⟩
  unfold lvs
  rw [o_law_1354, s1, Option.bind_some, a1, ci_some, t1, Option.bind_some, b1, ci_some, if_pos rfl]
  rfl
theorem t_lefts (F : FW G) (hs : scr G L xs) (hi : i + 7 ≤ L) : TN G L xs i 1379 := by
  have s1 : mm_li (hp G) 0 (nI i + 1) = some (xs (i + 1)) := hs.rd (k := 1) (by omega)
  have s2 : mm_li (hp G) 0 (nI i + 2) = some (xs (i + 2)) := hs.rd (k := 2) (by omega)
  obtain ⟨v, G1, G2, a1, b1, F2, e1, e2⟩ := b_lefts F (xs (i + 1)) (xs (i + 2))
  have t1 : mm_li (hp G1) 0 (nI i + 1) = some (xs (i + 1)) := (hs.in1 e1).rd (k := 1) (by omega)
  have t2 : mm_li (hp G1) 0 (nI i + 2) = some (xs (i + 2)) := (hs.in1 e1).rd (k := 2) (by omega)
  refine ⟨G2, ?_, F2, hs.in1 e2, e2⟩
  unfold lvs
  rw [o_law_1379, s1, Option.bind_some, s2, Option.bind_some, a1, ci_some, t1, Option.bind_some, t2, Option.bind_some, b1, ci_some, if_pos rfl]
  rfl
theorem t_when (F : FW G) (hs : scr G L xs) (hi : i + 7 ≤ L) : TN G L xs i 1416 := by
  have s1 : mm_li (hp G) 0 (nI i + 1) = some (xs (i + 1)) := hs.rd (k := 1) (by omega)
  have s2 : mm_li (hp G) 0 (nI i + 2) = some (xs (i + 2)) := hs.rd (k := 2) (by omega)
  obtain ⟨v, G1, G2, a1, b1, F2, e1, e2⟩ := b_when F (xs (i + 1)) (xs (i + 2))
  have t1 : mm_li (hp G1) 0 (nI i + 1) = some (xs (i + 1)) := (hs.in1 e1).rd (k := 1) (by omega)
  have t2 : mm_li (hp G1) 0 (nI i + 2) = some (xs (i + 2)) := (hs.in1 e1).rd (k := 2) (by omega)
  refine ⟨G2, ?_, F2, hs.in1 e2, e2⟩
  unfold lvs
  rw [o_law_1416, s1, Option.bind_some, s2, Option.bind_some, a1, ci_some, t1, Option.bind_some, t2, Option.bind_some, b1, ci_some, if_pos rfl]
  rfl
theorem t_next (F : FW G) (hs : scr G L xs) (hi : i + 7 ≤ L) : TN G L xs i 1453 := by
  have s1 : mm_li (hp G) 0 (nI i + 1) = some (xs (i + 1)) := hs.rd (k := 1) (by omega)
  have s2 : mm_li (hp G) 0 (nI i + 2) = some (xs (i + 2)) := hs.rd (k := 2) (by omega)
  obtain ⟨v, G1, G2, a1, b1, F2, e1, e2⟩ := b_next F (xs (i + 1)) (xs (i + 2))
  have t1 : mm_li (hp G1) 0 (nI i + 1) = some (xs (i + 1)) := (hs.in1 e1).rd (k := 1) (by omega)
  have t2 : mm_li (hp G1) 0 (nI i + 2) = some (xs (i + 2)) := (hs.in1 e1).rd (k := 2) (by omega)
  refine ⟨G2, ?_, F2, hs.in1 e2, e2⟩
  unfold lvs
  rw [o_law_1453, s1, Option.bind_some, s2, Option.bind_some, a1, ci_some, t1, Option.bind_some, t2, Option.bind_some, b1, ci_some, if_pos rfl]
  rfl
theorem t_job (F : FW G) (hs : scr G L xs) (hi : i + 7 ≤ L) : TN G L xs i 1490 := by
  have s1 : mm_li (hp G) 0 (nI i + 1) = some (xs (i + 1)) := hs.rd (k := 1) (by omega)
  obtain ⟨v, G1, G2, a1, b1, F2, e1, e2⟩ := b_job F (xs (i + 1))
  have t1 : mm_li (hp G1) 0 (nI i + 1) = some (xs (i + 1)) := (hs.in1 e1).rd (k := 1) (by omega)
  refine ⟨G2, ?_, F2, hs.in1 e2, e2⟩
  unfold lvs
  rw [o_law_1490, s1, Option.bind_some, a1, ci_some, t1, Option.bind_some, b1, ci_some, if_pos rfl]
  rfl
theorem t_record (F : FW G) (hs : scr G L xs) (hi : i + 7 ≤ L) : TN G L xs i 1515 := by
  have s1 : mm_li (hp G) 0 (nI i + 1) = some (xs (i + 1)) := hs.rd (k := 1) (by omega)
  have s2 : mm_li (hp G) 0 (nI i + 2) = some (xs (i + 2)) := hs.rd (k := 2) (by omega)
  obtain ⟨v, G1, G2, a1, b1, F2, e1, e2⟩ := b_record F (xs (i + 1)) (xs (i + 2))
  have t1 : mm_li (hp G1) 0 (nI i + 1) = some (xs (i + 1)) := (hs.in1 e1).rd (k := 1) (by omega)
  have t2 : mm_li (hp G1) 0 (nI i + 2) = some (xs (i + 2)) := (hs.in1 e1).rd (k := 2) (by omega)
  refine ⟨G2, ?_, F2, hs.in1 e2, e2⟩
  unfold lvs
  rw [o_law_1515, s1, Option.bind_some, s2, Option.bind_some, a1, ci_some, t1, Option.bind_some, t2, Option.bind_some, b1, ci_some, if_pos rfl]
  rfl
theorem t_steps (F : FW G) (hs : scr G L xs) (hi : i + 7 ≤ L) : TN G L xs i 1552 := by
  obtain ⟨v, G1, G2, a1, b1, F2, e1, e2⟩ := b_steps F 
  refine ⟨G2, ?_, F2, hs.in1 e2, e2⟩
  unfold lvs
  rw [o_law_1552, a1, ci_some, b1, ci_some, if_pos rfl]
  rfl
theorem t_after (F : FW G) (hs : scr G L xs) (hi : i + 7 ≤ L) : TN G L xs i 1565 := by
  have s1 : mm_li (hp G) 0 (nI i + 1) = some (xs (i + 1)) := hs.rd (k := 1) (by omega)
  have s2 : mm_li (hp G) 0 (nI i + 2) = some (xs (i + 2)) := hs.rd (k := 2) (by omega)
  obtain ⟨v, G1, G2, a1, b1, F2, e1, e2⟩ := b_after F (xs (i + 1)) (xs (i + 2))
  have t1 : mm_li (hp G1) 0 (nI i + 1) = some (xs (i + 1)) := (hs.in1 e1).rd (k := 1) (by omega)
  have t2 : mm_li (hp G1) 0 (nI i + 2) = some (xs (i + 2)) := (hs.in1 e1).rd (k := 2) (by omega)
  refine ⟨G2, ?_, F2, hs.in1 e2, e2⟩
  unfold lvs
  rw [o_law_1565, s1, Option.bind_some, s2, Option.bind_some, a1, ci_some, t1, Option.bind_some, t2, Option.bind_some, b1, ci_some, if_pos rfl]
  rfl
theorem t_during (F : FW G) (hs : scr G L xs) (hi : i + 7 ≤ L) : TN G L xs i 1602 := by
  have s1 : mm_li (hp G) 0 (nI i + 1) = some (xs (i + 1)) := hs.rd (k := 1) (by omega)
  have s2 : mm_li (hp G) 0 (nI i + 2) = some (xs (i + 2)) := hs.rd (k := 2) (by omega)
  have s3 : mm_li (hp G) 0 (nI i + 3) = some (xs (i + 3)) := hs.rd (k := 3) (by omega)
  have s4 : mm_li (hp G) 0 (nI i + 4) = some (xs (i + 4)) := hs.rd (k := 4) (by omega)
  have s5 : mm_li (hp G) 0 (nI i + 5) = some (xs (i + 5)) := hs.rd (k := 5) (by omega)
  obtain ⟨v, G1, G2, a1, b1, F2, e1, e2⟩ := b_during F (xs (i + 1)) (xs (i + 2)) (xs (i + 3)) (xs (i + 4)) (xs (i + 5))
  have t1 : mm_li (hp G1) 0 (nI i + 1) = some (xs (i + 1)) := (hs.in1 e1).rd (k := 1) (by omega)
  have t2 : mm_li (hp G1) 0 (nI i + 2) = some (xs (i + 2)) := (hs.in1 e1).rd (k := 2) (by omega)
  have t3 : mm_li (hp G1) 0 (nI i + 3) = some (xs (i + 3)) := (hs.in1 e1).rd (k := 3) (by omega)
  have t4 : mm_li (hp G1) 0 (nI i + 4) = some (xs (i + 4)) := (hs.in1 e1).rd (k := 4) (by omega)
  have t5 : mm_li (hp G1) 0 (nI i + 5) = some (xs (i + 5)) := (hs.in1 e1).rd (k := 5) (by omega)
  refine ⟨G2, ?_, F2, hs.in1 e2, e2⟩
  unfold lvs
  rw [o_law_1602, s1, Option.bind_some, s2, Option.bind_some, s3, Option.bind_some, s4, Option.bind_some, s5, Option.bind_some, a1, ci_some, t1, Option.bind_some, t2, Option.bind_some, t3, Option.bind_some, t4, Option.bind_some, t5, Option.bind_some, b1, ci_some, if_pos rfl]
  rfl
theorem t_crashes (F : FW G) (hs : scr G L xs) (hi : i + 7 ≤ L) : TN G L xs i 1675 := by
  have s1 : mm_li (hp G) 0 (nI i + 1) = some (xs (i + 1)) := hs.rd (k := 1) (by omega)
  have s2 : mm_li (hp G) 0 (nI i + 2) = some (xs (i + 2)) := hs.rd (k := 2) (by omega)
  obtain ⟨v, G1, G2, a1, b1, F2, e1, e2⟩ := b_crashes F (xs (i + 1)) (xs (i + 2))
  have t1 : mm_li (hp G1) 0 (nI i + 1) = some (xs (i + 1)) := (hs.in1 e1).rd (k := 1) (by omega)
  have t2 : mm_li (hp G1) 0 (nI i + 2) = some (xs (i + 2)) := (hs.in1 e1).rd (k := 2) (by omega)
  refine ⟨G2, ?_, F2, hs.in1 e2, e2⟩
  unfold lvs
  rw [o_law_1675, s1, Option.bind_some, s2, Option.bind_some, a1, ci_some, t1, Option.bind_some, t2, Option.bind_some, b1, ci_some, if_pos rfl]
  rfl
theorem t_runs (F : FW G) (hs : scr G L xs) (hi : i + 7 ≤ L) : TN G L xs i 1712 := by
  have s1 : mm_li (hp G) 0 (nI i + 1) = some (xs (i + 1)) := hs.rd (k := 1) (by omega)
  have s2 : mm_li (hp G) 0 (nI i + 2) = some (xs (i + 2)) := hs.rd (k := 2) (by omega)
  obtain ⟨v, G1, G2, a1, b1, F2, e1, e2⟩ := b_runs F (xs (i + 1)) (xs (i + 2))
  have t1 : mm_li (hp G1) 0 (nI i + 1) = some (xs (i + 1)) := (hs.in1 e1).rd (k := 1) (by omega)
  have t2 : mm_li (hp G1) 0 (nI i + 2) = some (xs (i + 2)) := (hs.in1 e1).rd (k := 2) (by omega)
  refine ⟨G2, ?_, F2, hs.in1 e2, e2⟩
  unfold lvs
  rw [o_law_1712, s1, Option.bind_some, s2, Option.bind_some, a1, ci_some, t1, Option.bind_some, t2, Option.bind_some, b1, ci_some, if_pos rfl]
  rfl
theorem t_run (F : FW G) (hs : scr G L xs) (hi : i + 7 ≤ L) : TN G L xs i 1749 := by
  have s1 : mm_li (hp G) 0 (nI i + 1) = some (xs (i + 1)) := hs.rd (k := 1) (by omega)
  have s2 : mm_li (hp G) 0 (nI i + 2) = some (xs (i + 2)) := hs.rd (k := 2) (by omega)
  have s3 : mm_li (hp G) 0 (nI i + 3) = some (xs (i + 3)) := hs.rd (k := 3) (by omega)
  obtain ⟨v, G1, G2, a1, b1, F2, e1, e2⟩ := b_run F (xs (i + 1)) (xs (i + 2)) (xs (i + 3))
  have t1 : mm_li (hp G1) 0 (nI i + 1) = some (xs (i + 1)) := (hs.in1 e1).rd (k := 1) (by omega)
  have t2 : mm_li (hp G1) 0 (nI i + 2) = some (xs (i + 2)) := (hs.in1 e1).rd (k := 2) (by omega)
  have t3 : mm_li (hp G1) 0 (nI i + 3) = some (xs (i + 3)) := (hs.in1 e1).rd (k := 3) (by omega)
  refine ⟨G2, ?_, F2, hs.in1 e2, e2⟩
  unfold lvs
  rw [o_law_1749, s1, Option.bind_some, s2, Option.bind_some, s3, Option.bind_some, a1, ci_some, t1, Option.bind_some, t2, Option.bind_some, t3, Option.bind_some, b1, ci_some, if_pos rfl]
  rfl
theorem t_merged (F : FW G) (hs : scr G L xs) (hi : i + 7 ≤ L) : TN G L xs i 1798 := by
  have s1 : mm_li (hp G) 0 (nI i + 1) = some (xs (i + 1)) := hs.rd (k := 1) (by omega)
  have s2 : mm_li (hp G) 0 (nI i + 2) = some (xs (i + 2)) := hs.rd (k := 2) (by omega)
  obtain ⟨v, G1, G2, a1, b1, F2, e1, e2⟩ := b_merged F (xs (i + 1)) (xs (i + 2))
  have t1 : mm_li (hp G1) 0 (nI i + 1) = some (xs (i + 1)) := (hs.in1 e1).rd (k := 1) (by omega)
  have t2 : mm_li (hp G1) 0 (nI i + 2) = some (xs (i + 2)) := (hs.in1 e1).rd (k := 2) (by omega)
  refine ⟨G2, ?_, F2, hs.in1 e2, e2⟩
  unfold lvs
  rw [o_law_1798, s1, Option.bind_some, s2, Option.bind_some, a1, ci_some, t1, Option.bind_some, t2, Option.bind_some, b1, ci_some, if_pos rfl]
  rfl
theorem t_check (F : FW G) (hs : scr G L xs) (hi : i + 7 ≤ L) : TN G L xs i 1835 := by
  have s1 : mm_li (hp G) 0 (nI i + 1) = some (xs (i + 1)) := hs.rd (k := 1) (by omega)
  obtain ⟨v, G1, G2, a1, b1, F2, e1, e2⟩ := b_check F (xs (i + 1))
  have t1 : mm_li (hp G1) 0 (nI i + 1) = some (xs (i + 1)) := (hs.in1 e1).rd (k := 1) (by omega)
  refine ⟨G2, ?_, F2, hs.in1 e2, e2⟩
  unfold lvs
  rw [o_law_1835, s1, Option.bind_some, a1, ci_some, t1, Option.bind_some, b1, ci_some, if_pos rfl]
  rfl
theorem t_hinders (F : FW G) (hs : scr G L xs) (hi : i + 7 ≤ L) : TN G L xs i 1860 := by
  obtain ⟨v, G1, G2, a1, b1, F2, e1, e2⟩ := b_hinders F 
  refine ⟨G2, ?_, F2, hs.in1 e2, e2⟩
  unfold lvs
  rw [o_law_1860, a1, ci_some, b1, ci_some, if_pos rfl]
  rfl
theorem t_fits (F : FW G) (hs : scr G L xs) (hi : i + 7 ≤ L) : TN G L xs i 1873 := by
  have s1 : mm_li (hp G) 0 (nI i + 1) = some (xs (i + 1)) := hs.rd (k := 1) (by omega)
  have s2 : mm_li (hp G) 0 (nI i + 2) = some (xs (i + 2)) := hs.rd (k := 2) (by omega)
  obtain ⟨v, G1, G2, a1, b1, F2, e1, e2⟩ := b_fits F (xs (i + 1)) (xs (i + 2))
  have t1 : mm_li (hp G1) 0 (nI i + 1) = some (xs (i + 1)) := (hs.in1 e1).rd (k := 1) (by omega)
  have t2 : mm_li (hp G1) 0 (nI i + 2) = some (xs (i + 2)) := (hs.in1 e1).rd (k := 2) (by omega)
  refine ⟨G2, ?_, F2, hs.in1 e2, e2⟩
  unfold lvs
  rw [o_law_1873, s1, Option.bind_some, s2, Option.bind_some, a1, ci_some, t1, Option.bind_some, t2, Option.bind_some, b1, ci_some, if_pos rfl]
  rfl
theorem t_needs (F : FW G) (hs : scr G L xs) (hi : i + 7 ≤ L) : TN G L xs i 1910 := by
  have s1 : mm_li (hp G) 0 (nI i + 1) = some (xs (i + 1)) := hs.rd (k := 1) (by omega)
  obtain ⟨v, G1, G2, a1, b1, F2, e1, e2⟩ := b_needs F (xs (i + 1))
  have t1 : mm_li (hp G1) 0 (nI i + 1) = some (xs (i + 1)) := (hs.in1 e1).rd (k := 1) (by omega)
  refine ⟨G2, ?_, F2, hs.in1 e2, e2⟩
  unfold lvs
  rw [o_law_1910, s1, Option.bind_some, a1, ci_some, t1, Option.bind_some, b1, ci_some, if_pos rfl]
  rfl
theorem t_free (F : FW G) (hs : scr G L xs) (hi : i + 7 ≤ L) : TN G L xs i 1935 := by
  have s1 : mm_li (hp G) 0 (nI i + 1) = some (xs (i + 1)) := hs.rd (k := 1) (by omega)
  obtain ⟨v, G1, G2, a1, b1, F2, e1, e2⟩ := b_free F (xs (i + 1))
  have t1 : mm_li (hp G1) 0 (nI i + 1) = some (xs (i + 1)) := (hs.in1 e1).rd (k := 1) (by omega)
  refine ⟨G2, ?_, F2, hs.in1 e2, e2⟩
  unfold lvs
  rw [o_law_1935, s1, Option.bind_some, a1, ci_some, t1, Option.bind_some, b1, ci_some, if_pos rfl]
  rfl
theorem t_would (F : FW G) (hs : scr G L xs) (hi : i + 7 ≤ L) : TN G L xs i 1960 := by
  have s1 : mm_li (hp G) 0 (nI i + 1) = some (xs (i + 1)) := hs.rd (k := 1) (by omega)
  have s2 : mm_li (hp G) 0 (nI i + 2) = some (xs (i + 2)) := hs.rd (k := 2) (by omega)
  have s3 : mm_li (hp G) 0 (nI i + 3) = some (xs (i + 3)) := hs.rd (k := 3) (by omega)
  obtain ⟨v, G1, G2, a1, b1, F2, e1, e2⟩ := b_would F (xs (i + 1)) (xs (i + 2)) (xs (i + 3))
  have t1 : mm_li (hp G1) 0 (nI i + 1) = some (xs (i + 1)) := (hs.in1 e1).rd (k := 1) (by omega)
  have t2 : mm_li (hp G1) 0 (nI i + 2) = some (xs (i + 2)) := (hs.in1 e1).rd (k := 2) (by omega)
  have t3 : mm_li (hp G1) 0 (nI i + 3) = some (xs (i + 3)) := (hs.in1 e1).rd (k := 3) (by omega)
  refine ⟨G2, ?_, F2, hs.in1 e2, e2⟩
  unfold lvs
  rw [o_law_1960, s1, Option.bind_some, s2, Option.bind_some, s3, Option.bind_some, a1, ci_some, t1, Option.bind_some, t2, Option.bind_some, t3, Option.bind_some, b1, ci_some, if_pos rfl]
  rfl
theorem t_count (F : FW G) (hs : scr G L xs) (hi : i + 7 ≤ L) : TN G L xs i 2009 := by
  have s1 : mm_li (hp G) 0 (nI i + 1) = some (xs (i + 1)) := hs.rd (k := 1) (by omega)
  obtain ⟨v, G1, G2, a1, b1, F2, e1, e2⟩ := b_count F (xs (i + 1))
  have t1 : mm_li (hp G1) 0 (nI i + 1) = some (xs (i + 1)) := (hs.in1 e1).rd (k := 1) (by omega)
  refine ⟨G2, ?_, F2, hs.in1 e2, e2⟩
  unfold lvs
  rw [o_law_2009, s1, Option.bind_some, a1, ci_some, t1, Option.bind_some, b1, ci_some, if_pos rfl]
  rfl
theorem l_end (h : scr G L xs) (hi : L < i + 7) (h2 : i ≤ L + 7) {ρ : Type} (kr : Option Value → mm_H → Option ρ) (kc : Nat → List Value → List Value → mm_H → Option ρ) : mm_one p_law kr kc 23 (lvs i) [] (hp G) = kr (some (.int 1)) (hp G) := by
  obtain ⟨h1, -, h3⟩ := h
  unfold lvs
  rw [o_law_23, show mm_ln (hp G) 0 = some (nI (G.2.2 0 0)) from hp_ln (n := 0) (len := 0) rfl, Option.bind_some, h1, if_pos (sub7 h3 hi h2)]
theorem l_back {ρ : Type} (kr : Option Value → mm_H → Option ρ) (kc : Nat → List Value → List Value → mm_H → Option ρ) (h : mm_H) : mm_one p_law kr kc 2034 (lvs i) [] h = kc 23 (lvs (i + 7)) [] h := by
  unfold lvs
  rw [o_law_2034, show nI i + 7 = nI (i + 7) from nI_add i 7]
theorem l_head (F : FW G) (hs : scr G L xs) (hi : i + 7 ≤ L) {ρ : Type} (kr : Option Value → mm_H → Option ρ) (kc : Nat → List Value → List Value → mm_H → Option ρ) : ∃ pc, mm_one p_law kr kc 23 (lvs i) [] (hp G) = kc pc (lvs i) [] (hp G) ∧ ((pc = 2034 ∨ TN G L xs i pc) ∨ pc = 1037) := by
  have s0 : mm_li (hp G) 0 (nI i) = some (xs i) := by
    have := hs.rd (i := i) (k := 0) (by omega)
    rw [i_add, Nat.add_zero] at this
    exact this
  have hL := hs.2.2
  unfold lvs
  rw [o_law_23, show mm_ln (hp G) 0 = some (nI (G.2.2 0 0)) from hp_ln (n := 0) (len := 0) rfl, Option.bind_some, hs.1, if_neg (sub7n hL hi), s0, Option.bind_some]
  by_cases c0 : xs i &&& 63 = 0
  · rw [if_pos c0]; exact ⟨268, rfl, Or.inl (Or.inr (t_feed F hs hi))⟩
  rw [if_neg c0]
  by_cases c1 : xs i &&& 63 = 1
  · rw [if_pos c1]; exact ⟨415, rfl, Or.inl (Or.inr (t_table F hs hi))⟩
  rw [if_neg c1]
  by_cases c2 : xs i &&& 63 = 2
  · rw [if_pos c2]; exact ⟨428, rfl, Or.inl (Or.inr (t_work F hs hi))⟩
  rw [if_neg c2]
  by_cases c3 : xs i &&& 63 = 3
  · rw [if_pos c3]; exact ⟨441, rfl, Or.inl (Or.inr (t_row F hs hi))⟩
  rw [if_neg c3]
  by_cases c4 : xs i &&& 63 = 4
  · rw [if_pos c4]; exact ⟨478, rfl, Or.inl (Or.inr (t_index F hs hi))⟩
  rw [if_neg c4]
  by_cases c5 : xs i &&& 63 = 5
  · rw [if_pos c5]; exact ⟨515, rfl, Or.inl (Or.inr (t_leaf F hs hi))⟩
  rw [if_neg c5]
  by_cases c6 : xs i &&& 63 = 6
  · rw [if_pos c6]; exact ⟨564, rfl, Or.inl (Or.inr (t_pointer F hs hi))⟩
  rw [if_neg c6]
  by_cases c7 : xs i &&& 63 = 7
  · rw [if_pos c7]; exact ⟨601, rfl, Or.inl (Or.inr (t_insert F hs hi))⟩
  rw [if_neg c7]
  by_cases c8 : xs i &&& 63 = 8
  · rw [if_pos c8]; exact ⟨650, rfl, Or.inl (Or.inr (t_remove F hs hi))⟩
  rw [if_neg c8]
  by_cases c9 : xs i &&& 63 = 9
  · rw [if_pos c9]; exact ⟨675, rfl, Or.inl (Or.inr (t_change F hs hi))⟩
  rw [if_neg c9]
  by_cases c10 : xs i &&& 63 = 10
  · rw [if_pos c10]; exact ⟨724, rfl, Or.inl (Or.inr (t_point F hs hi))⟩
  rw [if_neg c10]
  by_cases c11 : xs i &&& 63 = 11
  · rw [if_pos c11]; exact ⟨761, rfl, Or.inl (Or.inr (t_drop F hs hi))⟩
  rw [if_neg c11]
  by_cases c12 : xs i &&& 63 = 12
  · rw [if_pos c12]; exact ⟨786, rfl, Or.inl (Or.inr (t_begin F hs hi))⟩
  rw [if_neg c12]
  by_cases c13 : xs i &&& 63 = 13
  · rw [if_pos c13]; exact ⟨835, rfl, Or.inl (Or.inr (t_step F hs hi))⟩
  rw [if_neg c13]
  by_cases c14 : xs i &&& 63 = 14
  · rw [if_pos c14]; exact ⟨848, rfl, Or.inl (Or.inr (t_stop F hs hi))⟩
  rw [if_neg c14]
  by_cases c15 : xs i &&& 63 = 15
  · rw [if_pos c15]; exact ⟨861, rfl, Or.inl (Or.inr (t_crash F hs hi))⟩
  rw [if_neg c15]
  by_cases c16 : xs i &&& 63 = 16
  · rw [if_pos c16]; exact ⟨874, rfl, Or.inl (Or.inr (t_resume F hs hi))⟩
  rw [if_neg c16]
  by_cases c17 : xs i &&& 63 = 17
  · rw [if_pos c17]; exact ⟨887, rfl, Or.inl (Or.inr (t_pack F hs hi))⟩
  rw [if_neg c17]
  by_cases c18 : xs i &&& 63 = 18
  · rw [if_pos c18]; exact ⟨912, rfl, Or.inl (Or.inr (t_undo F hs hi))⟩
  rw [if_neg c18]
  by_cases c19 : xs i &&& 63 = 19
  · rw [if_pos c19]; exact ⟨925, rfl, Or.inl (Or.inr (t_judged F hs hi))⟩
  rw [if_neg c19]
  by_cases c20 : xs i &&& 63 = 20
  · rw [if_pos c20]; exact ⟨950, rfl, Or.inl (Or.inr (t_found F hs hi))⟩
  rw [if_neg c20]
  by_cases c21 : xs i &&& 63 = 21
  · rw [if_pos c21]; exact ⟨987, rfl, Or.inl (Or.inr (t_open F hs hi))⟩
  rw [if_neg c21]
  by_cases c22 : xs i &&& 63 = 22
  · rw [if_pos c22]; exact ⟨1024, rfl, Or.inl (Or.inr (t_fetch F hs hi))⟩
  rw [if_neg c22]
  by_cases c23 : xs i &&& 63 = 23
  · rw [if_pos c23]; exact ⟨1037, rfl, Or.inr rfl⟩
  rw [if_neg c23]
  by_cases c24 : xs i &&& 63 = 24
  · rw [if_pos c24]; exact ⟨1105, rfl, Or.inl (Or.inr (t_skips F hs hi))⟩
  rw [if_neg c24]
  by_cases c25 : xs i &&& 63 = 25
  · rw [if_pos c25]; exact ⟨1142, rfl, Or.inl (Or.inr (t_stale F hs hi))⟩
  rw [if_neg c25]
  by_cases c26 : xs i &&& 63 = 26
  · rw [if_pos c26]; exact ⟨1167, rfl, Or.inl (Or.inr (t_missing F hs hi))⟩
  rw [if_neg c26]
  by_cases c27 : xs i &&& 63 = 27
  · rw [if_pos c27]; exact ⟨1192, rfl, Or.inl (Or.inr (t_side F hs hi))⟩
  rw [if_neg c27]
  by_cases c28 : xs i &&& 63 = 28
  · rw [if_pos c28]; exact ⟨1217, rfl, Or.inl (Or.inr (t_splits F hs hi))⟩
  rw [if_neg c28]
  by_cases c29 : xs i &&& 63 = 29
  · rw [if_pos c29]; exact ⟨1254, rfl, Or.inl (Or.inr (t_fill F hs hi))⟩
  rw [if_neg c29]
  by_cases c30 : xs i &&& 63 = 30
  · rw [if_pos c30]; exact ⟨1279, rfl, Or.inl (Or.inr (t_sparse F hs hi))⟩
  rw [if_neg c30]
  by_cases c31 : xs i &&& 63 = 31
  · rw [if_pos c31]; exact ⟨1304, rfl, Or.inl (Or.inr (t_costs F hs hi))⟩
  rw [if_neg c31]
  by_cases c32 : xs i &&& 63 = 32
  · rw [if_pos c32]; exact ⟨1341, rfl, Or.inl (Or.inr (t_ways F hs hi))⟩
  rw [if_neg c32]
  by_cases c33 : xs i &&& 63 = 33
  · rw [if_pos c33]; exact ⟨1354, rfl, Or.inl (Or.inr (t_turn F hs hi))⟩
  rw [if_neg c33]
  by_cases c34 : xs i &&& 63 = 34
  · rw [if_pos c34]; exact ⟨1379, rfl, Or.inl (Or.inr (t_lefts F hs hi))⟩
  rw [if_neg c34]
  by_cases c35 : xs i &&& 63 = 35
  · rw [if_pos c35]; exact ⟨1416, rfl, Or.inl (Or.inr (t_when F hs hi))⟩
  rw [if_neg c35]
  by_cases c36 : xs i &&& 63 = 36
  · rw [if_pos c36]; exact ⟨1453, rfl, Or.inl (Or.inr (t_next F hs hi))⟩
  rw [if_neg c36]
  by_cases c37 : xs i &&& 63 = 37
  · rw [if_pos c37]; exact ⟨1490, rfl, Or.inl (Or.inr (t_job F hs hi))⟩
  rw [if_neg c37]
  by_cases c38 : xs i &&& 63 = 38
  · rw [if_pos c38]; exact ⟨1515, rfl, Or.inl (Or.inr (t_record F hs hi))⟩
  rw [if_neg c38]
  by_cases c39 : xs i &&& 63 = 39
  · rw [if_pos c39]; exact ⟨1552, rfl, Or.inl (Or.inr (t_steps F hs hi))⟩
  rw [if_neg c39]
  by_cases c40 : xs i &&& 63 = 40
  · rw [if_pos c40]; exact ⟨1565, rfl, Or.inl (Or.inr (t_after F hs hi))⟩
  rw [if_neg c40]
  by_cases c41 : xs i &&& 63 = 41
  · rw [if_pos c41]; exact ⟨1602, rfl, Or.inl (Or.inr (t_during F hs hi))⟩
  rw [if_neg c41]
  by_cases c42 : xs i &&& 63 = 42
  · rw [if_pos c42]; exact ⟨1675, rfl, Or.inl (Or.inr (t_crashes F hs hi))⟩
  rw [if_neg c42]
  by_cases c43 : xs i &&& 63 = 43
  · rw [if_pos c43]; exact ⟨1712, rfl, Or.inl (Or.inr (t_runs F hs hi))⟩
  rw [if_neg c43]
  by_cases c44 : xs i &&& 63 = 44
  · rw [if_pos c44]; exact ⟨1749, rfl, Or.inl (Or.inr (t_run F hs hi))⟩
  rw [if_neg c44]
  by_cases c45 : xs i &&& 63 = 45
  · rw [if_pos c45]; exact ⟨1798, rfl, Or.inl (Or.inr (t_merged F hs hi))⟩
  rw [if_neg c45]
  by_cases c46 : xs i &&& 63 = 46
  · rw [if_pos c46]; exact ⟨1835, rfl, Or.inl (Or.inr (t_check F hs hi))⟩
  rw [if_neg c46]
  by_cases c47 : xs i &&& 63 = 47
  · rw [if_pos c47]; exact ⟨1860, rfl, Or.inl (Or.inr (t_hinders F hs hi))⟩
  rw [if_neg c47]
  by_cases c48 : xs i &&& 63 = 48
  · rw [if_pos c48]; exact ⟨1873, rfl, Or.inl (Or.inr (t_fits F hs hi))⟩
  rw [if_neg c48]
  by_cases c49 : xs i &&& 63 = 49
  · rw [if_pos c49]; exact ⟨1910, rfl, Or.inl (Or.inr (t_needs F hs hi))⟩
  rw [if_neg c49]
  by_cases c50 : xs i &&& 63 = 50
  · rw [if_pos c50]; exact ⟨1935, rfl, Or.inl (Or.inr (t_free F hs hi))⟩
  rw [if_neg c50]
  by_cases c51 : xs i &&& 63 = 51
  · rw [if_pos c51]; exact ⟨1960, rfl, Or.inl (Or.inr (t_would F hs hi))⟩
  rw [if_neg c51]
  by_cases c52 : xs i &&& 63 = 52
  · rw [if_pos c52]; exact ⟨2009, rfl, Or.inl (Or.inr (t_count F hs hi))⟩
  rw [if_neg c52]
  exact ⟨2034, rfl, Or.inl (Or.inl rfl)⟩
end STP
