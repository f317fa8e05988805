/-! STATE (the class): where the JOB comes to -/
def hasLeft (A : AS) (i : Nat) : Bool := !decide (rb (aL A i) &&& aC A = 0)
def comeJ (J : JB) (i : Nat) (w : Int32) (L : LL) : JB := (jDn J, i, w, jSi J, 0, jRe J, jSd J, L)
def minC (P : PP) (A : AS) (i : Nat) : Int32 := mm_min (nI (passC (aC A) (pPg P) (aL A i))) (nI (probeC (aC A) (pPg P) (aL A i)))
def comeAt (P : PP) (A : AS) (J : JB) : Option Nat → AS
  | none => setJ A (some (comeJ J 4 (-1) (jSt J)))
  | some i => setX (setJ A (some (comeJ J i (nI (wayN (aC A) (pPg P) (aL A i))) (aL A i)))) (aX A + minC P A i)
def comeA (P : PP) (A : AS) (J : JB) (n : Nat) : AS := comeAt P A J (((List.range (pNi P)).drop n).find? (hasLeft A))
section COM
variable {G G' : GG} {s p : Nat} {P : PP} {A : AS}
theorem SS.jobX (H : SS G s p P A) {J : JB} {x : Int32} (hq : eqOff (fun n => n = s ∨ inR (s + 8) (s + 14) n) G G') (h8 : G'.1 s 8 = x) (h7 : G'.1 s 7 = G.1 s 7) (h6 : G'.2.2 s 6 = G.2.2 s 6) (hj : isJb G' (s + 8) (some J)) (hk : okJ J) (hl : isLv G' (s + 11) (pPg P) (dnP P (jAt J)) (jSt J)) (hkl : okL (pPg P) (jSt J)) : SS G' s p P (setX (setJ A (some J)) x) := by
  have l1 := H.1.2.lo
  have l2 := H.1.1.lo
  obtain ⟨ha, ⟨hp1, hp2⟩, ⟨r1, r2, r3, -, -, r6, r7⟩, hk1, hk2, hk3, -⟩ := H
  refine ⟨ha, ⟨hp1.off hq (fun o ho h => by unfold inR at h; omega), hp2⟩, ⟨r1.off hq (fun h => by unfold inR at h; omega) (fun h => by unfold inR at h; omega), r2.off hq (fun o ho h => by unfold inR at h; omega), r3.off hq (fun o ho _ h => by unfold inR at h; omega), hj, ⟨_, _, _, hl, hkl, fun J' e' _ => ?_⟩, h8, by rw [h6]; exact r7.1, by rw [h7]; exact r7.2⟩, hk1, hk2, hk3, hk⟩
  have e2 : J = J' := Option.some.inj e'
  subst e2
  exact ⟨rfl, rfl, rfl⟩
theorem come_run {G1 : GG} {J : JB} (H1 : SS G1 s p P (setJ A (some (comeJ J 4 (-1) (jSt J))))) {n : Nat} (hn4 : n ≤ 4) : ∃ G', mm_run p_St_comeTo mm_fu 26 [.ref s, .int (nI n)] [] (hp G1) = some (none, hp G') ∧ SS G' s p P (comeA P A J n) ∧ eqOff (stR s) G1 G' := by
  have hn := H1.ni
  have hoj := H1.1.1.jb
  have hj1 : isJb G1 (s + 8) (some (comeJ J 4 (-1) (jSt J))) := H1.jb
  have hk1 : okJ (comeJ J 4 (-1) (jSt J)) := H1.kj
  have n1 : s + 8 + 1 ≠ s + 8 := by omega
  have n2 : s + 8 + 2 ≠ s + 8 := by omega
  have key : ∀ (j i f : Nat), (i + j = pNi P ∨ j = 0 ∧ pNi P ≤ i) → i ≤ 4 → j < f → ∃ G', mm_run p_St_comeTo f 26 [.ref s, .int (nI i)] [] (hp G1) = some (none, hp G') ∧ SS G' s p P (comeAt P A J (((List.range (pNi P)).drop i).find? (hasLeft A))) ∧ eqOff (stR s) G1 G' := by
    intro j
    induction j with
    | zero =>
      intro i f hij hi4 hf
      obtain ⟨f, rfl⟩ : ∃ g, f = g + 1 := ⟨f - 1, by omega⟩
      rw [e_St_comeTo_26, H1.gp, Option.bind_some, H1.gn, Option.bind_some, if_neg (lm (by omega) (by omega)), List.drop_of_length_le (by simp; omega)]
      exact ⟨G1, rfl, H1, eqOff.rf⟩
    | succ j ih =>
      intro i f hij hi4 hf
      obtain ⟨f, rfl⟩ : ∃ g, f = g + 1 := ⟨f - 1, by omega⟩
      have hi : i < pNi P := by omega
      have ec : G1.1 (s + 1) 3 = aC A := H1.rw.1.2.2
      rw [e_St_comeTo_26, H1.gp, Option.bind_some, H1.gn, Option.bind_some, if_pos (lp hi (by omega)), gg_St_trees _ H1.os, Option.bind_some, H1.gt hi, Option.bind_some, s_Lv_rowBits (H1.ol hi) (H1.tr hi) (H1.kl hi).2.1, ci_some, gg_St_rows _ H1.os, Option.bind_some, gg_Rw_chosen _ H1.1.1.rw, Option.bind_some, ec, show nI i + 1 = nI (i + 1) from nI_add i 1, drop_cons (l := List.range (pNi P)) (i := i) (by simpa using hi), List.find?_cons, List.getElem_range]
      have eL : aL (setJ A (some (comeJ J 4 (-1) (jSt J)))) i = aL A i := rfl
      rw [eL]
      by_cases h0 : rb (aL A i) &&& aC A = 0
      · have hl0 : hasLeft A i = false := by unfold hasLeft; rw [decide_eq_true h0]; rfl
        rw [if_pos h0, hl0]
        exact ih (i + 1) f (by omega) (by omega) (by omega)
      · have hl1 : hasLeft A i = true := by unfold hasLeft; rw [decide_eq_false h0]; rfl
        rw [if_neg h0, hl1, Option.bind_some, gg_Rw_chosen _ H1.1.1.rw, Option.bind_some, ec, s_Lv_passCost (H1.ol hi) (H1.tr hi) (H1.kl hi), ci_some, gg_St_rows _ H1.os, Option.bind_some, gg_Rw_chosen _ H1.1.1.rw, Option.bind_some, ec, s_Lv_probeCost (H1.ol hi) (H1.tr hi) (H1.kl hi), ci_some, gg_St_job _ H1.os, Option.bind_some, ww_Jb_at _ hoj, Option.bind_some, gg_St_job _ H1.os, Option.bind_some]
        rw [eL]
        have hkA : okL (pPg P) (aL A i) := H1.kl hi
        have b1 := passC_le (aC A) hkA
        have b2 := probeC_le (aC A) hkA
        have fin : ∀ w : Nat, w = wayN (aC A) (pPg P) (aL A i) → ∃ G', (mm_pf 1 6 (.int (nI w)) (hp (gsi G1 (s + 8) 5 (nI i))) (s + 8)).bind (fun h20 => (mm_gi 8 8 h20 s).bind fun x21 => (mm_pf 8 8 (.int (x21 + mm_min (nI (passC (aC A) (pPg P) (aL A i))) (nI (probeC (aC A) (pPg P) (aL A i))))) h20 s).bind fun h22 => (mm_gr 8 3 h22 s).bind fun r23 => (mm_gr 1 2 h22 r23).bind fun r24 => mm_cv (f_Lv_become [.ref r24, .ref (s + 16 + 3 * i)] h22) fun h25 => (some (none, h25) : Option (Option Value × mm_H))) = some (none, hp G') ∧ SS G' s p P (comeAt P A J (some i)) ∧ eqOff (stR s) G1 G' := by
          intro w ew
          have n8 : s ≠ s + 8 := by omega
          have e8 : G1.1 s 8 = aX A := H1.sp
          rw [ww_Jb_way _ hoj, Option.bind_some, gg_St_spent _ H1.os, Option.bind_some, gsi_i, if_neg n8, gsi_i, if_neg n8, e8, ww_St_spent _ H1.os, Option.bind_some, gg_St_job _ H1.os, Option.bind_some, gg_Jb_stand _ hoj, Option.bind_some]
          generalize hG4 : gsi (gsi (gsi G1 (s + 8) 5 (nI i)) (s + 8) 6 (nI w)) s 8 (aX A + mm_min (nI (passC (aC A) (pPg P) (aL A i))) (nI (probeC (aC A) (pPg P) (aL A i)))) = G4
          have q4 : eqOff (fun n => n = s ∨ inR (s + 8) (s + 14) n) G1 G4 := by
            rw [← hG4]
            exact ((eqOff.gsi _ _ (Or.inr ⟨by omega, by omega⟩)).tr (eqOff.gsi _ _ (Or.inr ⟨by omega, by omega⟩))).tr (eqOff.gsi _ _ (Or.inl rfl))
          have t4 : isLv G4 (s + 16 + 3 * i) (pPg P) (dnP P i) (aL A i) := (H1.tr hi).off q4 (fun o ho h => by unfold inR at h; omega)
          obtain ⟨G5, c1, c2, c3⟩ := s_Lv_become (t := s + 11) (u := s + 16 + 3 * i) H1.1.1.sd (H1.ol hi) (by omega) t4 (H1.kl hi)
          have q5 : eqOff (fun n => n = s ∨ inR (s + 8) (s + 14) n) G1 G5 := q4.tr (c3.mono (fun n h => by unfold inR at h ⊢; omega))
          have es : G5.1 s = G4.1 s ∧ G5.2.1 s = G4.2.1 s ∧ G5.2.2 s = G4.2.2 s := c3 s (fun h => by unfold inR at h; omega)
          rw [show f_Lv_become [.ref (s + 8 + 3), .ref (s + 16 + 3 * i)] (hp G4) = _ from c1, cv_some]
          have hj5 : isJb G4 (s + 8) (some (comeJ J i (nI w) (aL A i))) := by
            obtain ⟨⟨a3, a4, a5, a6, a7, a8, a9, a10⟩, hR, hS⟩ := hj1
            have m1 : s + 8 + 1 ≠ s := by omega
            have m2 : s + 8 + 2 ≠ s := by omega
            have m3 : s + 8 ≠ s := by omega
            rw [← hG4]
            refine ⟨?_, hR.off (by simp only [gsi_i, if_neg n1, if_neg m1]), hS.off (by simp only [gsi_i, if_neg n2, if_neg m2])⟩
            simp only [gsi_i, if_true, if_neg m3]
            exact ⟨a3, a4, rfl, rfl, a7, a8, a9, a10⟩
          have hj6 := hj5.off c3 (fun o ho h => by unfold inR at h; omega)
          have hk6 : okJ (comeJ J i (nI w) (aL A i)) := by
            obtain ⟨k1, k2, k3, k4, k5, k6, k7⟩ := hk1
            refine ⟨by show i ≤ 4; omega, k2, k3, k4, k5, k6, ?_⟩
            show nI w = -1 ∨ nI w = 0 ∨ nI w = 1
            rw [ew]
            unfold wayN
            split
            · exact Or.inr (Or.inr rfl)
            · exact Or.inr (Or.inl rfl)
          have H5 := H1.jobX (x := aX A + minC P A i) q5 (by rw [es.1, ← hG4, gsi_i, if_pos rfl, upd_at]; rfl) (by rw [es.1, ← hG4, gsi_i, if_pos rfl, upd_ne _ _ (by decide), gsi_i, if_neg n8, gsi_i, if_neg n8]) (by rw [es.2.2, ← hG4]; rfl) hj6 hk6 c2 (H1.kl hi)
          refine ⟨G5, rfl, ?_, (eqOff.rf (G := G1)).tr (q5.mono (fun n h => by unfold inR at h; unfold stR; omega))⟩
          rw [ew] at H5
          exact H5
        by_cases hw : probeC (aC A) (pPg P) (aL A i) < passC (aC A) (pPg P) (aL A i)
        · rw [if_pos (lp hw (by omega))]
          exact fin 1 (by unfold wayN; rw [if_pos hw])
        · rw [if_neg (lm (by omega) (by omega))]
          exact fin 0 (by unfold wayN; rw [if_neg hw])
  exact key (pNi P - n) n mm_fu (by omega) hn4 (fu_lt (by omega))
theorem s_St_comeTo (H : SS G s p P A) {J : JB} (hJ : aJ A = some J) {n : Nat} (hn4 : n ≤ 4) : ∃ G', f_St_comeTo [.ref s, .int (nI n)] (hp G) = some (none, hp G') ∧ SS G' s p P (comeA P A J n) ∧ eqOff (stR s) G G' := by
  have hn := H.ni
  have hj := H.jb
  have hk := H.kj
  have hoj := H.1.1.jb
  rw [hJ] at hj hk
  rw [e_St_comeTo s _ _ (ob_St G H.os), gg_St_job _ H.os, Option.bind_some, ww_Jb_at _ hoj, Option.bind_some, gg_St_job _ H.os, Option.bind_some, ww_Jb_way _ hoj, Option.bind_some, gg_St_job _ H.os, Option.bind_some, ww_Jb_gone _ hoj, Option.bind_some]
  have hjj : inR (s + 8) (s + 11) (s + 8) := ⟨by omega, by omega⟩
  generalize hG1 : gsi (gsi (gsi G (s + 8) 5 4) (s + 8) 6 (-1)) (s + 8) 8 0 = G1
  have q1 : eqOff (inR (s + 8) (s + 11)) G G1 := by rw [← hG1]; exact ((eqOff.gsi _ _ hjj).tr (eqOff.gsi _ _ hjj)).tr (eqOff.gsi _ _ hjj)
  have n1 : s + 8 + 1 ≠ s + 8 := by omega
  have n2 : s + 8 + 2 ≠ s + 8 := by omega
  have hj1 : isJb G1 (s + 8) (some (comeJ J 4 (-1) (jSt J))) := by
    obtain ⟨⟨a3, a4, a5, a6, a7, a8, a9, a10⟩, hR, hS⟩ := hj
    rw [← hG1]
    refine ⟨?_, hR.off (by simp only [gsi_i, if_neg n1]), hS.off (by simp only [gsi_i, if_neg n2])⟩
    simp only [gsi_i, if_true]
    exact ⟨a3, a4, rfl, rfl, a7, rfl, a9, a10⟩
  have hk1 : okJ (comeJ J 4 (-1) (jSt J)) := by
    obtain ⟨k1, k2, k3, k4, k5, k6, k7⟩ := hk
    exact ⟨Nat.le_refl _, k2, k3, Nat.zero_le _, k5, k6, Or.inl rfl⟩
  have H1 : SS G1 s p P (setJ A (some (comeJ J 4 (-1) (jSt J)))) := H.job q1 hj1 hk1 (fun J' e hat => by
    rw [← Option.some.inj e] at hat
    exact absurd hat (show ¬ 4 < pNi P by omega))
  have q1' : eqOff (stR s) G G1 := q1.mono (fun n h => by unfold inR at h; unfold stR; omega)
  obtain ⟨G', r1, r2, r3⟩ := come_run H1 hn4
  exact ⟨G', r1, r2, q1'.tr r3⟩
/-- what BEGIN does to the pointers -/
def lostP (A : AS) (q : Nat) : Bool := !decide (aT A q < 0) && decide (havS (aV A) (visA A) 0 (aT A q).toNatClampNeg = 0)
def ljT (A : AS) : Nat → Int32 := fun q => if lostP A q then ls (aS A q) (aT A q) else aT A q
def ljB (A : AS) : Nat → Int32 := fun q => if lostP A q then aT A q else -1
def ljA (A : AS) : AS := setT A (aN A) (aS A) (lowF (ljT A) (aT A) (aN A)) (lowF (ljB A) (fun _ => -1) (aN A))
theorem s_lj0 (hs : adSt s) (hrw : isRw G (s + 1) (aV A) (aM A) (aD A) (aC A)) (hkr : okR (aV A) (aM A) (aD A) (aC A)) (hpt : isPt G (s + 3) (aN A) (aS A) (aT A) (aB A)) (hkp : okP (aN A) (aS A) (aT A)) : ∃ G', f_St_loosenForJob [.ref s] (hp G) = some (none, hp G') ∧ (isPt G' (s + 3) (aN A) (aS A) (lowF (ljT A) (aT A) (aN A)) (lowF (ljB A) (fun _ => -1) (aN A)) ∧ okP (aN A) (aS A) (lowF (ljT A) (aT A) (aN A))) ∧ eqOff (inR (s + 3) (s + 7)) G G' := by
  have hn := hkp.1
  have hop := hs.pt
  rw [e_St_loosenForJob s _ (ob_St G hs.ok), gg_St_points _ hs.ok, Option.bind_some]
  obtain ⟨G0, f1, f2, f3⟩ := s_Pt_forgetBefore hop hpt hn
  rw [f1, cv_some]
  have key : ∀ (j i f : Nat) (G1 : GG), i + j = aN A → j < f → isPt G1 (s + 3) (aN A) (aS A) (lowF (ljT A) (aT A) i) (lowF (ljB A) (fun _ => -1) i) → okP (aN A) (aS A) (lowF (ljT A) (aT A) i) → eqOff (inR (s + 3) (s + 7)) G G1 → ∃ G', mm_run p_St_loosenForJob f 9 [.ref s, .int (nI i)] [] (hp G1) = some (none, hp G') ∧ (isPt G' (s + 3) (aN A) (aS A) (lowF (ljT A) (aT A) (aN A)) (lowF (ljB A) (fun _ => -1) (aN A)) ∧ okP (aN A) (aS A) (lowF (ljT A) (aT A) (aN A))) ∧ eqOff (inR (s + 3) (s + 7)) G G' := by
    intro j
    induction j with
    | zero =>
      intro i f G1 hj hf h1 h2 q1
      obtain ⟨f, rfl⟩ : ∃ g, f = g + 1 := ⟨f - 1, by omega⟩
      have : i = aN A := by omega
      subst this
      rw [e_St_loosenForJob_9, gg_St_points _ hs.ok, Option.bind_some, gg_Pt_come _ hop, Option.bind_some, h1.1, if_neg (lm (Nat.le_refl _) (by omega))]
      exact ⟨G1, rfl, ⟨h1, h2⟩, q1⟩
    | succ j ih =>
      intro i f G1 hj hf h1 h2 q1
      obtain ⟨f, rfl⟩ : ∃ g, f = g + 1 := ⟨f - 1, by omega⟩
      have hi : i < aN A := by omega
      have eT : lowF (ljT A) (aT A) i i = aT A i := lowF_ge (Nat.le_refl _)
      have hok : okP (aN A) (aS A) (lowF (ljT A) (aT A) (i + 1)) := by
        refine ⟨hn, fun q hq => ⟨(hkp.2 q hq).1, ?_⟩⟩
        have hT := (hkp.2 q hq).2
        unfold lowF
        split
        · unfold ljT
          split
          · unfold ls
            split
            · exact hT
            · split
              · exact Or.inl rfl
              · split
                · exact Or.inr (Or.inl rfl)
                · exact hT
          · exact hT
        · exact hT
      rw [e_St_loosenForJob_9, gg_St_points _ hs.ok, Option.bind_some, gg_Pt_come _ hop, Option.bind_some, h1.1, if_pos (lp hi (by omega)), Option.bind_some, gg_Pt_target _ hop, Option.bind_some, rr_Pt_target _ hop (by omega), Option.bind_some, (h1.2 i hi).2.1, eT, show nI i + 1 = nI (i + 1) from nI_add i 1]
      have same : lostP A i = false → ∃ G', mm_run p_St_loosenForJob f 9 [.ref s, .int (nI (i + 1))] [] (hp G1) = some (none, hp G') ∧ (isPt G' (s + 3) (aN A) (aS A) (lowF (ljT A) (aT A) (aN A)) (lowF (ljB A) (fun _ => -1) (aN A)) ∧ okP (aN A) (aS A) (lowF (ljT A) (aT A) (aN A))) ∧ eqOff (inR (s + 3) (s + 7)) G G' := fun hl => by
        have e1 : ljT A i = aT A i := by unfold ljT; rw [hl]; rfl
        have e2 : ljB A i = -1 := by unfold ljB; rw [hl]; rfl
        refine ih (i + 1) f G1 (by omega) (by omega) ?_ hok q1
        rw [lowF_same e1, lowF_same (A := ljB A) (B := fun _ => -1) e2]
        exact h1
      by_cases hneg : aT A i < 0
      · rw [if_pos hneg]
        exact same (by unfold lostP; rw [decide_eq_true hneg]; rfl)
      · rw [if_neg hneg]
        obtain ⟨v, hv, eTv⟩ : ∃ v, v ≤ 999 ∧ aT A i = nI v := by
          rcases (hkp.2 i hi).2 with e | e | e
          · rw [e] at hneg; exact absurd (by decide) hneg
          · rw [e] at hneg; exact absurd (by decide) hneg
          · exact e
        have hrw1 := hrw.off q1 (fun h => by unfold inR at h; omega) (fun h => by unfold inR at h; omega)
        have hhav : f_Rw_having [.ref (s + 1), .int 0, .int (aT A i)] (hp G1) = some (some (.int (havS (aV A) (visA A) 0 v)), hp G1) := by
          rw [eTv]
          exact s_Rw_having (k := 0) hs.rw hrw1 hkr (by decide) (by omega)
        rw [gg_St_rows _ hs.ok, Option.bind_some, hhav, ci_some]
        have ec : (aT A i).toNatClampNeg = v := by rw [eTv, nI_tn (by omega)]
        by_cases h0 : havS (aV A) (visA A) 0 v = 0
        · have hl : lostP A i = true := by unfold lostP; rw [decide_eq_false hneg, ec, decide_eq_true h0]; rfl
          rw [if_pos h0, gg_St_points _ hs.ok, Option.bind_some, gg_Pt_before _ hop, Option.bind_some, uu_Pt_before _ hop (by omega), Option.bind_some, gg_St_points _ hs.ok, Option.bind_some]
          have h3 := h1.bef i (aT A i)
          have e2 : ljB A i = aT A i := by unfold ljB; rw [hl]; rfl
          have e3 : setP (lowF (ljB A) (fun _ => -1) i) i (aT A i) = lowF (ljB A) (fun _ => -1) (i + 1) := by rw [← e2]; exact lowF_set _ _ _
          rw [e3] at h3
          obtain ⟨G3, l1, l2, l3⟩ := s_Pt_loosen hop h3 h2 hi
          rw [l1, cv_some]
          have e1 : ljT A i = ls (aS A i) (aT A i) := by unfold ljT; rw [hl]; rfl
          rw [eT, ← e1, lowF_set] at l2
          exact ih (i + 1) f G3 (by omega) (by omega) l2 hok ((q1.tr (eqOff.gsi _ _ ⟨by omega, by omega⟩)).tr l3)
        · rw [if_neg h0]
          exact same (by unfold lostP; rw [ec, decide_eq_false h0, Bool.and_false])
  have z1 : lowF (ljT A) (aT A) 0 = aT A := by funext q; exact lowF_ge (Nat.zero_le _)
  have z2 : lowF (ljB A) (fun _ => -1) 0 = fun _ => -1 := by funext q; exact lowF_ge (Nat.zero_le _)
  exact key (aN A) 0 mm_fu G0 (by omega) (fu_lt (by omega)) (by rw [z1, z2]; exact f2) (by rw [z1]; exact hkp) f3
end COM
