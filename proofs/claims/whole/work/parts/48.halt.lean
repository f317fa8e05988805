/-! STATE (the class): STOP -/
def dblR (P : PP) (A : AS) (i r : Nat) : Bool := bt (aC A) r && !decide (havS (aV A) (visA A) (pCo P i) (valA P A i r) = 0)
def dblI (P : PP) (A : AS) (i : Nat) : Bool := pKd P i == 2 && (List.range (aM A)).any (dblR P A i)
def dblA (P : PP) (A : AS) : Bool := (List.range (pNi P)).any (dblI P A)
def haltA (P : PP) (A : AS) (J : JB) : AS := endA (setT (carA P A J) (aN A) (aS A) (broughtBack (aT A) (aB A)) (fun _ => -1))
section HLT
variable {G : GG} {s p : Nat} {P : PP} {A : AS}
theorem s_St_wouldDouble (H : SS G s p P A) : f_St_wouldDouble [.ref s] (hp G) = some (some (.int (b2 (dblA P A))), hp G) := by
  have hn := H.ni
  have hm := H.kr.1
  rw [e_St_wouldDouble s _ (ob_St G H.os)]
  have inner : ∀ (i : Nat), i < pNi P → ∀ (j r f : Nat) (X : Option (Option Value × mm_H)), r + j = aM A → (∀ g, f ≤ g + j + 2 → mm_run p_St_wouldDouble g 2 [.ref s, .int (nI (i + 1))] [] (hp G) = X) → j < f → mm_run p_St_wouldDouble f 25 [.ref s, .int (nI i), .int (nI (pCo P i)), .int (nI r)] [] (hp G) = if (pKd P i == 2 && ((List.range (aM A)).drop r).any (dblR P A i)) = true then some (some (.int 1), hp G) else X := by
    intro i hi j
    have hk := H.kd hi
    induction j with
    | zero =>
      intro r f X hj hX hf
      obtain ⟨f, rfl⟩ : ∃ g, f = g + 1 := ⟨f - 1, by omega⟩
      rw [e_St_wouldDouble_25, gg_St_rows _ H.os, Option.bind_some, H.gm, Option.bind_some, if_neg (lm (by omega) (by omega)), show nI i + 1 = nI (i + 1) from nI_add i 1, hX f (by omega), List.drop_of_length_le (by simp; omega)]
      simp
    | succ j ih =>
      intro r f X hj hX hf
      obtain ⟨f, rfl⟩ : ∃ g, f = g + 1 := ⟨f - 1, by omega⟩
      have hr : r < aM A := by omega
      rw [e_St_wouldDouble_25, gg_St_rows _ H.os, Option.bind_some, H.gm, Option.bind_some, if_pos (lp hr (by omega)), H.gp, Option.bind_some, gg_Pl_kind _ H.op, Option.bind_some, H.gk hi, Option.bind_some, show nI i + 1 = nI (i + 1) from nI_add i 1, show nI r + 1 = nI (r + 1) from nI_add r 1, drop_cons (l := List.range (aM A)) (i := r) (by simpa using hr), List.any_cons, List.getElem_range]
      by_cases h2 : pKd P i = 2
      · have e2 : (pKd P i == 2) = true := by simpa using h2
        have ih2 := ih (r + 1) f X (by omega) (fun g hg => hX g (by omega)) (by omega)
        rw [e2, Bool.true_and] at ih2 ⊢
        rw [if_pos (show nI (pKd P i) = (2 : Int32) from lq (n := 2) h2), Option.bind_some, gg_Rw_chosen _ H.1.1.rw, Option.bind_some, H.rw.1.2.2, bt_shr1 _ (by omega)]
        cases hc : bt (aC A) r
        · have e3 : dblR P A i r = false := by unfold dblR; rw [hc]; rfl
          rw [if_pos (by decide), ih2, e3, Bool.false_or]
        · have hv := H.kr.2.1 r _ hr (H.co hi)
          rw [if_neg (by decide), Option.bind_some, Option.bind_some, s_Rw_valueOf H.1.1.rw H.rw H.kr hr (H.co hi), ci_some, s_Rw_having H.1.1.rw H.rw H.kr (H.co hi) (by omega), ci_some]
          by_cases h0 : havS (aV A) (visB (aD A) (aC A)) (pCo P i) (aV A r (pCo P i)) = 0
          · have e3 : dblR P A i r = false := by unfold dblR valA visA; rw [hc, decide_eq_true h0]; rfl
            rw [if_pos h0, ih2, e3, Bool.false_or]
          · have e3 : dblR P A i r = true := by unfold dblR valA visA; rw [hc, decide_eq_false h0]; rfl
            rw [if_neg h0, e3, Bool.true_or, if_pos rfl]
      · have e2 : (pKd P i == 2) = false := by simpa using h2
        rw [if_neg (show ¬ nI (pKd P i) = (2 : Int32) from ln (n := 2) h2 (by omega) (by omega)), hX f (by omega), e2, Bool.false_and, if_neg (by decide)]
  have outer : ∀ (j i f : Nat), i + j = pNi P → 40 * j < f → mm_run p_St_wouldDouble f 2 [.ref s, .int (nI i)] [] (hp G) = if ((List.range (pNi P)).drop i).any (dblI P A) = true then some (some (.int 1), hp G) else some (some (.int 0), hp G) := by
    intro j
    induction j with
    | zero =>
      intro i f hj hf
      obtain ⟨f, rfl⟩ : ∃ g, f = g + 1 := ⟨f - 1, by omega⟩
      rw [e_St_wouldDouble_2, H.gp, Option.bind_some, H.gn, Option.bind_some, if_neg (lm (by omega) (by omega)), List.drop_of_length_le (by simp; omega)]
      simp
    | succ j ih =>
      intro i f hj hf
      obtain ⟨f, rfl⟩ : ∃ g, f = g + 1 := ⟨f - 1, by omega⟩
      have hi : i < pNi P := by omega
      rw [e_St_wouldDouble_2, H.gp, Option.bind_some, H.gn, Option.bind_some, if_pos (lp hi (by omega)), Option.bind_some, gg_Pl_column _ H.op, Option.bind_some, H.gc hi, Option.bind_some]
      have := inner i hi (aM A) 0 f _ (by omega) (fun g hg => ih (i + 1) g (by omega) (by omega)) (by omega)
      rw [List.drop_zero] at this
      refine Eq.trans this ?_
      rw [drop_cons (l := List.range (pNi P)) (i := i) (by simpa using hi), List.any_cons, List.getElem_range]
      have e : (pKd P i == 2 && (List.range (aM A)).any (dblR P A i)) = dblI P A i := rfl
      rw [e]
      cases dblI P A i
      · rw [if_neg (by decide), Bool.false_or]
      · rw [if_pos rfl, Bool.true_or, if_pos rfl]
  have := outer (pNi P) 0 mm_fu (by omega) (fu_lt (by omega))
  rw [List.drop_zero] at this
  refine Eq.trans this ?_
  have e : (List.range (pNi P)).any (dblI P A) = dblA P A := rfl
  rw [e]
  cases dblA P A <;> rfl
end HLT
