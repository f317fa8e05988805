/-! STATE (the class): STOP -/
def dblR (P : PP) (A : AS) (i r : Nat) : Bool := bt (aC A) r && !decide (havS (aV A) (visA A) (pCo P i) (valA P A i r) = 0)
def dblI (P : PP) (A : AS) (i : Nat) : Bool := pKd P i == 2 && (List.range (aM A)).any (dblR P A i)
def dblA (P : PP) (A : AS) : Bool := (List.range (pNi P)).any (dblI P A)
def haltA (P : PP) (A : AS) (J : JB) : AS := endA (setT (carA P A J) (aN A) (aS A) (broughtBack (aT A) (aB A)) (fun _ => -1))
section HLT
variable {G : GG} {s p : Nat} {P : PP} {A : AS}
theorem s_St_wouldDouble (H : SS G s p P A) : f_St_wouldDouble [.ref s] (hp G) = some (some (.int (b2 (dblA P A))), hp G) := by
  have hn := H.ni
  have hm := H.kr.1
  rw [e_St_wouldDouble s _ (ob_St G H.os)]
  have inner : ∀ (i : Nat), i < pNi P → ∀ (j r f : Nat) (X : Option (Option Value × mm_H)), r + j = aM A → (∀ g, f ≤ g + j + 2 → mm_run p_St_wouldDouble g 2 [.ref s, .int (nI (i + 1))] [] (hp G) = X) → j < f → mm_run p_St_wouldDouble f 25 [.ref s, .int (nI i), .int (nI (pCo P i)), .int (nI r)] [] (hp G) = if (pKd P i == 2 && ((List.range (aM A)).drop r).any (dblR P A i)) = true then some (some (.int 1), hp G) else X := by
    intro i hi j
    have hk := H.kd hi
    induction j with
    | zero =>
      intro r f X hj hX hf
      obtain ⟨f, rfl⟩ : ∃ g, f = g + 1 := ⟨f - 1, by omega⟩
      rw [e_St_wouldDouble_25, gg_St_rows _ H.os, Option.bind_some, H.gm, Option.bind_some, if_neg (lm (by omega) (by omega)), show nI i + 1 = nI (i + 1) from nI_add i 1, hX f (by omega), List.drop_of_length_le (by simp; omega)]
      simp
    | succ j ih =>
      intro r f X hj hX hf
      obtain ⟨f, rfl⟩ : ∃ g, f = g + 1 := ⟨f - 1, by omega⟩
      have hr : r < aM A := by omega
      rw [e_St_wouldDouble_25, gg_St_rows _ H.os, Option.bind_some, H.gm, Option.bind_some, if_pos (lp hr (by omega)), H.gp, Option.bind_some, gg_Pl_kind _ H.op, Option.bind_some, H.gk hi, Option.bind_some, show nI i + 1 = nI (i + 1) from nI_add i 1, show nI r + 1 = nI (r + 1) from nI_add r 1, drop_cons (l := List.range (aM A)) (i := r) (by simpa using hr), List.any_cons, List.getElem_range]
      by_cases h2 : pKd P i = 2
      · have e2 : (pKd P i == 2) = true := by simpa using h2
        have ih2 := ih (r + 1) f X (by omega) (fun g hg => hX g (by omega)) (by omega)
        rw [e2, Bool.true_and] at ih2 ⊢
        rw [if_pos (show nI (pKd P i) = (2 : Int32) from lq (n := 2) h2), Option.bind_some, gg_Rw_chosen _ H.1.1.rw, Option.bind_some, H.rw.1.2.2, bt_shr1 _ (by omega)]
        cases hc : bt (aC A) r
        · have e3 : dblR P A i r = false := by unfold dblR; rw [hc]; rfl
          rw [if_pos (by decide), ih2, e3, Bool.false_or]
        · have hv := H.kr.2.1 r _ hr (H.co hi)
          rw [if_neg (by decide), Option.bind_some, Option.bind_some, s_Rw_valueOf H.1.1.rw H.rw H.kr hr (H.co hi), ci_some, s_Rw_having H.1.1.rw H.rw H.kr (H.co hi) (by omega), ci_some]
          by_cases h0 : havS (aV A) (visB (aD A) (aC A)) (pCo P i) (aV A r (pCo P i)) = 0
          · have e3 : dblR P A i r = false := by unfold dblR valA visA; rw [hc, decide_eq_true h0]; rfl
            rw [if_pos h0, ih2, e3, Bool.false_or]
          · have e3 : dblR P A i r = true := by unfold dblR valA visA; rw [hc, decide_eq_false h0]; rfl
            rw [if_neg h0, e3, Bool.true_or, if_pos rfl]
      · have e2 : (pKd P i == 2) = false := by simpa using h2
        rw [if_neg (show ¬ nI (pKd P i) = (2 : Int32) from ln (n := 2) h2 (by omega) (by omega)), hX f (by omega), e2, Bool.false_and, if_neg (by decide)]
  have outer : ∀ (j i f : Nat), i + j = pNi P → 40 * j < f → mm_run p_St_wouldDouble f 2 [.ref s, .int (nI i)] [] (hp G) = if ((List.range (pNi P)).drop i).any (dblI P A) = true then some (some (.int 1), hp G) else some (some (.int 0), hp G) := by
    intro j
    induction j with
    | zero =>
      intro i f hj hf
      obtain ⟨f, rfl⟩ : ∃ g, f = g + 1 := ⟨f - 1, by omega⟩
      rw [e_St_wouldDouble_2, H.gp, Option.bind_some, H.gn, Option.bind_some, if_neg (lm (by omega) (by omega)), List.drop_of_length_le (by simp; omega)]
      simp
    | succ j ih =>
      intro i f hj hf
      obtain ⟨f, rfl⟩ : ∃ g, f = g + 1 := ⟨f - 1, by omega⟩
      have hi : i < pNi P := by omega
      rw [e_St_wouldDouble_2, H.gp, Option.bind_some, H.gn, Option.bind_some, if_pos (lp hi (by omega)), Option.bind_some, gg_Pl_column _ H.op, Option.bind_some, H.gc hi, Option.bind_some]
      have := inner i hi (aM A) 0 f _ (by omega) (fun g hg => ih (i + 1) g (by omega) (by omega)) (by omega)
      rw [List.drop_zero] at this
      refine Eq.trans this ?_
      rw [drop_cons (l := List.range (pNi P)) (i := i) (by simpa using hi), List.any_cons, List.getElem_range]
      have e : (pKd P i == 2 && (List.range (aM A)).any (dblR P A i)) = dblI P A i := rfl
      rw [e]
      cases dblI P A i
      · rw [if_neg (by decide), Bool.false_or]
      · rw [if_pos rfl, Bool.true_or, if_pos rfl]
  have := outer (pNi P) 0 mm_fu (by omega) (fu_lt (by omega))
  rw [List.drop_zero] at this
  refine Eq.trans this ?_
  have e : (List.range (pNi P)).any (dblI P A) = dblA P A := rfl
  rw [e]
  cases dblA P A <;> rfl
def canHalt (P : PP) (A : AS) : Bool := match aJ A with
  | none => false
  | some J => !jDn J && (decide ((jRe J).length = 0) && (decide (jSi J = 0) && !dblA P A))
theorem s_St_halt_no (H : SS G s p P A) (h : canHalt P A = false) : f_St_halt [.ref s] (hp G) = some (some (.int 0), hp G) := by
  have hj := H.jb
  have hk := H.kj
  have hoj := H.1.1.jb
  rw [e_St_halt s _ (ob_St G H.os), gg_St_job _ H.os, Option.bind_some, s_Jb_isRunning hoj H.jb, ci_some]
  unfold canHalt at h
  cases hJ : aJ A with
  | none => rw [if_pos (by decide)]
  | some J =>
    rw [hJ] at h hj hk
    have h1 : (!jDn J && (decide ((jRe J).length = 0) && (decide (jSi J = 0) && !dblA P A))) = false := h
    have k1 : (jRe J).length ≤ 120 := hk.2.1
    have k2 : jSi J ≤ 30 := hk.2.2.2.2.1
    cases hd : jDn J
    · have hrun : runO (some J) = true := by unfold runO; simp [hd]
      rw [hrun, if_neg (by decide), gg_St_job _ H.os, Option.bind_some, gg_Jb_records _ hoj, Option.bind_some, hj.1.2.2.2.2.2.2.1]
      by_cases hr : (jRe J).length = 0
      · rw [if_neg (show ¬ (0 : Int32) < nI (jRe J).length by rw [hr]; decide), Option.bind_some, gg_Jb_since _ hoj, Option.bind_some, hj.1.2.2.2.2.1]
        by_cases hs : jSi J = 0
        · rw [if_neg (show ¬ (0 : Int32) < nI (jSi J) by rw [hs]; decide), s_St_wouldDouble H, ci_some]
          have hdb : dblA P A = true := by
            rw [hd, decide_eq_true hr, decide_eq_true hs] at h1
            simpa using h1
          rw [hdb, if_neg (by decide)]
        · rw [if_pos (show (0 : Int32) < nI (jSi J) from lp (a := 0) (by omega) (by omega))]
      · rw [if_pos (show (0 : Int32) < nI (jRe J).length from lp (a := 0) (by omega) (by omega))]
    · have hrun : runO (some J) = false := by unfold runO; simp [hd]
      rw [hrun, if_pos (by decide)]
theorem back_ok {np : Nat} {S : Nat → Nat} {T B : Nat → Int32} (hk : okP np S T) (hB : ∀ q, q < np → B q = -1 ∨ ∃ v, v ≤ 999 ∧ B q = nI v) : okP np S (broughtBack T B) := by
  refine ⟨hk.1, fun q hq => ⟨(hk.2 q hq).1, ?_⟩⟩
  unfold broughtBack
  by_cases e : B q = -1
  · rw [if_pos e]; exact (hk.2 q hq).2
  · rw [if_neg e]
    rcases hB q hq with h | h
    · exact absurd h e
    · exact Or.inr (Or.inr h)
theorem s_St_halt (H : SS G s p P A) {J : JB} (hJ : aJ A = some J) (h : canHalt P A = true) (hrep : jAt J < pNi P → repl P (jAt J) (aL A (jAt J)) (jSd J)) (hB : ∀ q, q < aN A → aB A q = -1 ∨ ∃ v, v ≤ 999 ∧ aB A q = nI v) : ∃ G', f_St_halt [.ref s] (hp G) = some (some (.int 1), hp G') ∧ SS G' s p P (haltA P A J) ∧ eqOff (stR s) G G' := by
  have hj := H.jb
  have hoj := H.1.1.jb
  rw [hJ] at hj
  unfold canHalt at h
  rw [hJ] at h
  have h1 : (!jDn J && (decide ((jRe J).length = 0) && (decide (jSi J = 0) && !dblA P A))) = true := h
  simp only [Bool.and_eq_true, Bool.not_eq_true', decide_eq_true_eq] at h1
  obtain ⟨hd, hr, hs, hdb⟩ := h1
  have hrun : runO (aJ A) = true := by rw [hJ]; unfold runO; simp [hd]
  rw [e_St_halt s _ (ob_St G H.os), gg_St_job _ H.os, Option.bind_some, s_Jb_isRunning hoj H.jb, ci_some, hrun, if_neg (by decide), gg_St_job _ H.os, Option.bind_some, gg_Jb_records _ hoj, Option.bind_some, hj.1.2.2.2.2.2.2.1, if_neg (show ¬ (0 : Int32) < nI (jRe J).length by rw [hr]; decide), Option.bind_some, gg_Jb_since _ hoj, Option.bind_some, hj.1.2.2.2.2.1, if_neg (show ¬ (0 : Int32) < nI (jSi J) by rw [hs]; decide), s_St_wouldDouble H, ci_some, hdb, if_pos (by decide)]
  obtain ⟨G1, a1, H1, a3⟩ := s_St_carryOut H hJ hrep
  rw [a1, cv_some, gg_St_points _ H.os, Option.bind_some]
  have hpt1 : isPt G1 (s + 3) (aN A) (aS A) (aT A) (aB A) := by
    have := H1.pt
    unfold carA at this
    split at this <;> exact this
  have hkp1 : okP (aN A) (aS A) (aT A) := H.kp
  obtain ⟨G2, b1, b2', b3⟩ := s_Pt_bringBack H.1.1.pt hpt1 hkp1.1
  have H2 : SS G2 s p P (setT (carA P A J) (aN A) (aS A) (broughtBack (aT A) (aB A)) (fun _ => -1)) := H1.points b3 b2' (back_ok hkp1 hB)
  rw [b1, cv_some]
  obtain ⟨G3, c1, H3, c3⟩ := s_St_endJob H2
  rw [c1, cv_some]
  exact ⟨G3, rfl, H3, (a3.tr (b3.mono (fun n h => by unfold inR at h; unfold stR; omega))).tr c3⟩
end HLT
