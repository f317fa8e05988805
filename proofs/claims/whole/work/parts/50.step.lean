/-! STATE (the class): STEP -/
def stepJ (J : JB) : JB := (jDn J, jAt J, jWy J, jSi J + 1, jGo J + 1, jRe J, jSd J, jSt J)
def stepA (A : AS) (J : JB) (c : Nat) : AS := setJ (setL A (jAt J) (takL c (aL A (jAt J)))) (some (stepJ J))
def lastA (A : AS) (J : JB) (c : Nat) : Bool := decide (rb (takL c (aL A (jAt J))) &&& aC A = 0)
def stepEnd (P : PP) (A : AS) (J : JB) (b : Bool) : AS := if b then comeA P (carA P (recA A J) (recJ J (aX A + 1) (aL A (jAt J)))) (jNoSd (recJ J (aX A + 1) (aL A (jAt J)))) (jAt J + 1) else recA A J
def advA (P : PP) (A : AS) (J : JB) (c : Nat) : AS := if lastA A J c = false ∧ jSi J + 1 < pBt P then stepA A J c else stepEnd P (stepA A J c) (stepJ J) (lastA A J c)
section STP
variable {G : GG} {s p : Nat} {P : PP} {A : AS}
theorem s_St_advance (H : SS G s p P A) {J : JB} (hJ : aJ A = some J) (hd : jDn J = false) (hi : jAt J < pNi P) (hwy : jWy J = nI (wayOf (jWy J))) {r c : Nat} {rs : List Nat} (hl : leftsW (wayOf (jWy J)) (aC A) (aL A (jAt J)) = r :: rs) (hr : r < 32) (hc : (aL A (jAt J)).flatten.find? (fun c => decide (c % 32 = r)) = some c) (hsi : jSi J < 30) (hgo : jGo J < 30) (hlen : (jRe J).length < 120) (hrep : lastA A J c = true → repl P (jAt J) (takL c (aL A (jAt J))) (jSd J)) : ∃ G', f_St_advance [.ref s] (hp G) = some (some (.int (nI r)), hp G') ∧ SS G' s p P (advA P A J c) ∧ eqOff (stR s) G G' := by
  have hn := H.ni
  have hbt := H.2.1.2.2.2.2.2.2.2
  have hoj := H.1.1.jb
  have hj := H.jb
  have hk := H.kj
  rw [hJ] at hj hk
  obtain ⟨k1, k2, k3, k4, k5, k6, k7⟩ := hk
  have hrun : runO (aJ A) = true := by rw [hJ]; unfold runO; simp [hd]
  have hw1 : wayOf (jWy J) ≤ 1 := by unfold wayOf; split <;> decide
  have hcm := List.mem_of_find?_eq_some hc
  have hc32 := ((H.kl hi).2.2.2.1 c hcm).1
  rw [e_St_advance s _ (ob_St G H.os), gg_St_job _ H.os, Option.bind_some, s_Jb_isRunning hoj H.jb, ci_some, hrun, if_neg (by decide), gg_St_job _ H.os, Option.bind_some, gg_Jb_at _ hoj, Option.bind_some, H.gp, Option.bind_some, H.gn, Option.bind_some, hj.1.2.2.1, if_pos (lp hi (by omega)), gg_St_trees _ H.os, Option.bind_some, Option.bind_some, gg_Jb_at _ hoj, Option.bind_some, hj.1.2.2.1, H.gt hi, Option.bind_some, gg_St_rows _ H.os, Option.bind_some, gg_Rw_chosen _ H.1.1.rw, Option.bind_some, H.rw.1.2.2, Option.bind_some, gg_Jb_way _ hoj, Option.bind_some, hj.1.2.2.2.1]
  have hla : f_Lv_leftAt [.ref (s + 16 + 3 * jAt J), .int 0, .int (aC A), .int (jWy J)] (hp G) = some (some (.int (nI r)), hp G) := by
    have := s_Lv_leftAt (H.ol hi) (H.tr hi) (H.kl hi) 0 (aC A) hw1
    rw [← hwy, hl] at this
    exact this
  have hcw := s_Lv_codeWith (H.ol hi) (H.tr hi) (H.kl hi) hr
  rw [hc] at hcw
  rw [hla, ci_some, hcw, ci_some]
  obtain ⟨G1, t1, t2, t3⟩ := s_Lv_take (H.ol hi) (H.tr hi) (H.kl hi) (c := c) (by omega)
  have H1 := H.tree hi t3 t2 (tak_ok (H.kl hi))
  rw [t1, cv_some, gg_St_job _ H.os, Option.bind_some]
  have hJ1 : aJ (setL A (jAt J) (takL c (aL A (jAt J)))) = some J := hJ
  have hj1 := H1.jb
  rw [hJ1] at hj1
  have n1 : s + 8 + 1 ≠ s + 8 := by omega
  have n2 : s + 8 + 2 ≠ s + 8 := by omega
  rw [gg_Jb_since _ hoj, Option.bind_some, hj1.1.2.2.2.2.1, show nI (jSi J) + 1 = nI (jSi J + 1) from nI_add _ 1, ww_Jb_since _ hoj, Option.bind_some, gg_St_job _ H.os, Option.bind_some, gg_Jb_gone _ hoj, Option.bind_some, gsi_i, if_pos rfl, upd_ne _ _ (show (8 : Nat) ≠ 7 by decide), hj1.1.2.2.2.2.2.1, show nI (jGo J) + 1 = nI (jGo J + 1) from nI_add _ 1, ww_Jb_gone _ hoj, Option.bind_some]
  generalize hG2 : gsi (gsi G1 (s + 8) 7 (nI (jSi J + 1))) (s + 8) 8 (nI (jGo J + 1)) = G2
  have hjj : inR (s + 8) (s + 11) (s + 8) := ⟨by omega, by omega⟩
  have q12 : eqOff (inR (s + 8) (s + 11)) G1 G2 := by rw [← hG2]; exact (eqOff.gsi _ _ hjj).tr (eqOff.gsi _ _ hjj)
  have hj2 : isJb G2 (s + 8) (some (stepJ J)) := by
    obtain ⟨⟨a3, a4, a5, a6, a7, a8, a9, a10⟩, hR, hS⟩ := hj1
    rw [← hG2]
    refine ⟨?_, hR.off (by simp only [gsi_i, if_neg n1]), hS.off (by simp only [gsi_i, if_neg n2])⟩
    simp only [gsi_i, if_true]
    exact ⟨a3, a4, a5, a6, rfl, rfl, a9, a10⟩
  have H2 : SS G2 s p P (stepA A J c) := H1.job q12 hj2 ⟨k1, k2, k3, by show jGo J + 1 ≤ 30; omega, by show jSi J + 1 ≤ 30; omega, k6, k7⟩ (fun J' e _ => ⟨J, hJ1, by rw [← Option.some.inj e]; exact ⟨rfl, rfl⟩⟩)
  have q2 : eqOff (stR s) G G2 := (t3.mono (fun n h => by unfold inR at h; unfold stR; omega)).tr (q12.mono (fun n h => by unfold inR at h; unfold stR; omega))
  have eL : aL (stepA A J c) (jAt J) = takL c (aL A (jAt J)) := if_pos rfl
  have hrb := s_Lv_rowBits (H2.ol hi) (H2.tr hi) (H2.kl hi).2.1
  rw [eL] at hrb
  have eC : G2.1 (s + 1) 3 = aC A := H2.rw.1.2.2
  rw [hrb, ci_some, gg_St_rows _ H.os, Option.bind_some, gg_Rw_chosen _ H.1.1.rw, Option.bind_some, eC]
  obtain ⟨f, hf⟩ : ∃ f, mm_fu = f + 1 := ⟨mm_fu - 1, by have := fu_lt (n := 1) (by decide); omega⟩
  have hJ2 : aJ (stepA A J c) = some (stepJ J) := rfl
  unfold advA
  by_cases h0 : rb (takL c (aL A (jAt J))) &&& aC A = 0
  · have hlast : lastA A J c = true := decide_eq_true h0
    rw [if_pos h0, hf, hlast, if_neg (by simp)]
    obtain ⟨G3, a1, a2, a3⟩ := s_adv_164 (f := f) H2 hJ2 hi hlen (nI r) true (fun _ => by
      have := hrep hlast
      rw [show aL (stepA A J c) (jAt (stepJ J)) = takL c (aL A (jAt J)) from eL]
      exact this)
    exact ⟨G3, a1, a2, q2.tr a3⟩
  · have hlast : lastA A J c = false := decide_eq_false h0
    rw [if_neg h0, gg_St_job _ H.os, Option.bind_some, gg_Jb_since _ hoj, Option.bind_some, hj2.1.2.2.2.2.1, gg_St_batch _ H.os, Option.bind_some, H2.bt]
    by_cases hb : jSi J + 1 < pBt P
    · rw [if_pos (show nI (jSi (stepJ J)) < nI (pBt P) from lp hb (by omega)), if_pos ⟨hlast, hb⟩]
      exact ⟨G2, rfl, H2, q2⟩
    · rw [if_neg (show ¬ nI (jSi (stepJ J)) < nI (pBt P) from lm (by show pBt P ≤ jSi J + 1; omega) (by show jSi J + 1 < _; omega)), if_neg (fun q => hb q.2), hf, hlast]
      obtain ⟨G3, a1, a2, a3⟩ := s_adv_164 (f := f) H2 hJ2 hi hlen (nI r) false (fun q => absurd q (by decide))
      exact ⟨G3, a1, a2, q2.tr a3⟩
end STP
