/-! STATE (the class): PACK, RESUME, CRASH, the end of a JOB -/
/-- PACK -/
def joinA (P : PP) (A : AS) (i : Nat) : AS := setL (setX A (aX A + nI (aL A i).length)) i (packL (pPg P) (aL A i))
def wayOf (x : Int32) : Nat := if x = 0 then 0 else 1
def costW (P : PP) (A : AS) (i : Nat) (w : Int32) : Int32 := nI (if wayOf w = 0 then passC (aC A) (pPg P) (aL A i) else probeC (aC A) (pPg P) (aL A i))
def jDown (J : JB) (b : Bool) : JB := (b, jAt J, jWy J, jSi J, jGo J, jRe J, jSd J, jSt J)
def riseA (P : PP) (A : AS) (J : JB) : AS := if jAt J < pNi P then setX (setJ A (some (jDown J false))) (aX A + costW P A (jAt J) (jWy J)) else setJ A (some (jDown J false))
def jFall (J : JB) : JB := (true, jAt J, jWy J, 0, jGo J - jSi J, jRe J, jSd J, jSt J)
def fallA (P : PP) (A : AS) (J : JB) : AS := setJ (if jAt J < pNi P then setL A (jAt J) (jSt J) else A) (some (jFall J))
def endA (A : AS) : AS := setT (setJ (setR A (aV A) (aM A) (aD A) 0) none) (aN A) (aS A) (aT A) (fun _ => -1)
section WRK
variable {G : GG} {s p : Nat} {P : PP} {A : AS}
theorem s_St_join_neg (H : SS G s p P A) {x : Int32} (hx : x < 0) : f_St_join [.ref s, .int x] (hp G) = some (some (.int (-1)), hp G) := by
  rw [e_St_join s _ _ (ob_St G H.os), if_pos hx]
theorem s_St_join_no (H : SS G s p P A) {i : Nat} (hi : i < 2147483648) (h : pNi P ≤ i ∨ isAtA A i = true) : f_St_join [.ref s, .int (nI i)] (hp G) = some (some (.int (-1)), hp G) := by
  have hn := H.ni
  rw [e_St_join s _ _ (ob_St G H.os), if_neg (n_nneg hi), H.gp, Option.bind_some, H.gn, Option.bind_some]
  by_cases h1 : i < pNi P
  · have h2 : isAtA A i = true := by
      rcases h with h | h
      · omega
      · exact h
    rw [if_pos (lp h1 (by omega)), gg_St_job _ H.os, Option.bind_some, s_Jb_isAt (i := i) H.1.1.jb H.jb H.kj (by omega), ci_some, show atO (aJ A) i = true from h2, if_neg (by decide)]
  · rw [if_neg (lm (by omega) hi)]
theorem s_St_join (H : SS G s p P A) {i : Nat} (hi : i < pNi P) (h : isAtA A i = false) : ∃ G', f_St_join [.ref s, .int (nI i)] (hp G) = some (some (.int (nI ((aL A i).length - (packL (pPg P) (aL A i)).length))), hp G') ∧ SS G' s p P (joinA P A i) ∧ eqOff (stR s) G G' := by
  have hn := H.ni
  rw [e_St_join s _ _ (ob_St G H.os), if_neg (n_nneg (by omega)), H.gp, Option.bind_some, H.gn, Option.bind_some, if_pos (lp hi (by omega)), gg_St_job _ H.os, Option.bind_some, s_Jb_isAt (i := i) H.1.1.jb H.jb H.kj (by omega), ci_some, show atO (aJ A) i = false from h, if_pos (by decide), gg_St_spent _ H.os, Option.bind_some, H.sp, gg_St_trees _ H.os, Option.bind_some, H.gt hi, Option.bind_some, gg_Lv_leaves _ (H.ol hi), Option.bind_some, (H.tr hi).1.2.1, ww_St_spent _ H.os, Option.bind_some]
  have H1 := H.spent (aX A + nI (aL A i).length)
  obtain ⟨G2, q1, q2, q3⟩ := s_Lv_takeTogether (H1.ol hi) (H1.tr hi) (H1.kl hi)
  rw [gg_St_trees _ H.os, Option.bind_some, H1.gt hi, Option.bind_some, q1, ci_some]
  refine ⟨G2, rfl, H1.tree hi q3 q2 (pack_ok (H1.kl hi)), ?_⟩
  exact (eqOff.gsi (S := stR s) _ _ ⟨⟨by omega, by omega⟩, by omega, by omega⟩).tr (q3.mono (fun n h => by unfold inR at h; unfold stR; omega))
/-- one number of the JOB is written -/
theorem jb_set {J : JB} {j k : Nat} {x : Int32} (hi : isJb G j (some J)) (J' : JB) (hf : upd (G.1 j) k x 3 = 1 ∧ upd (G.1 j) k x 4 = b2 (jDn J') ∧ upd (G.1 j) k x 5 = nI (jAt J') ∧ upd (G.1 j) k x 6 = jWy J' ∧ upd (G.1 j) k x 7 = nI (jSi J') ∧ upd (G.1 j) k x 8 = nI (jGo J') ∧ upd (G.1 j) k x 9 = nI (jRe J').length ∧ upd (G.1 j) k x 10 = nI (jSd J').length) (hr : jRe J' = jRe J) (hs : ∀ i, i < (jSd J').length → i < (jSd J).length ∧ (jSd J')[i]? = (jSd J)[i]?) : isJb (gsi G j k x) j (some J') := by
  have n1 : j + 1 ≠ j := by omega
  have n2 : j + 2 ≠ j := by omega
  refine ⟨?_, ?_, ?_⟩
  · simp only [gsi_i, if_true]; exact hf
  · rw [hr]
    exact hi.2.1.off (by rw [gsi_i, if_neg n1])
  · intro i h1
    obtain ⟨h2, h3⟩ := hs i h1
    rw [gsi_i, if_neg n2, hi.2.2 i h2]
    rw [List.getElem?_eq_getElem h1, List.getElem?_eq_getElem h2] at h3
    exact (Option.some.inj h3).symm
theorem s_St_rise_no (H : SS G s p P A) (h : ∀ J, aJ A = some J → jDn J = false) : f_St_rise [.ref s] (hp G) = some (some (.int 0), hp G) := by
  have hj := H.jb
  rw [e_St_rise s _ (ob_St G H.os), gg_St_job _ H.os, Option.bind_some, gg_Jb_on _ H.1.1.jb, Option.bind_some]
  cases hJ : aJ A with
  | none =>
    rw [hJ] at hj
    rw [hj.1, if_pos rfl]
  | some J =>
    rw [hJ] at hj
    rw [hj.1.1, if_neg (by decide), Option.bind_some, gg_Jb_down _ H.1.1.jb, Option.bind_some, hj.1.2.1, h J hJ, if_pos (by decide)]
theorem s_St_rise (H : SS G s p P A) {J : JB} (hJ : aJ A = some J) (hd : jDn J = true) (hw : jAt J < pNi P → jWy J = 0 ∨ jWy J = 1) : ∃ G', f_St_rise [.ref s] (hp G) = some (some (.int 1), hp G') ∧ SS G' s p P (riseA P A J) ∧ eqOff (stR s) G G' := by
  have hn := H.ni
  have hj := H.jb
  have hk := H.kj
  have hoj := H.1.1.jb
  rw [hJ] at hj hk
  have h4 : jAt J ≤ 4 := hk.1
  rw [e_St_rise s _ (ob_St G H.os), gg_St_job _ H.os, Option.bind_some, gg_Jb_on _ hoj, Option.bind_some, hj.1.1, if_neg (by decide), Option.bind_some, gg_Jb_down _ hoj, Option.bind_some, hj.1.2.1, hd, if_neg (by decide), Option.bind_some, ww_Jb_down _ hoj, Option.bind_some]
  have hj1 : isJb (gsi G (s + 8) 4 0) (s + 8) (some (jDown J false)) := by
    obtain ⟨⟨a3, a4, a5, a6, a7, a8, a9, a10⟩, -⟩ := id hj
    exact jb_set hj _ ⟨a3, rfl, a5, a6, a7, a8, a9, a10⟩ rfl (fun i hi => ⟨hi, rfl⟩)
  have H1 : SS (gsi G (s + 8) 4 0) s p P (setJ A (some (jDown J false))) := H.job (eqOff.gsi _ _ ⟨by omega, by omega⟩) hj1 hk (fun J' e _ => ⟨J, hJ, by rw [← Option.some.inj e]; exact ⟨rfl, rfl⟩⟩)
  have q1 : eqOff (stR s) G (gsi G (s + 8) 4 0) := eqOff.gsi _ _ ⟨⟨by omega, by omega⟩, by omega, by omega⟩
  rw [gg_St_job _ H.os, Option.bind_some, gg_Jb_at _ hoj, Option.bind_some, hj1.1.2.2.1, H1.gp, Option.bind_some, H1.gn, Option.bind_some]
  unfold riseA
  by_cases h5 : jAt J < pNi P
  · rw [if_pos (show nI (jAt (jDown J false)) < nI (pNi P) from lp h5 (by omega)), if_pos h5, gg_St_spent _ H.os, Option.bind_some, H1.sp, gg_St_trees _ H.os, Option.bind_some, Option.bind_some, gg_Jb_at _ hoj, Option.bind_some, hj1.1.2.2.1]
    rw [show mm_lr (hp (gsi G (s + 8) 4 0)) (s + 7) (nI (jAt (jDown J false))) = _ from H1.gt h5, Option.bind_some, Option.bind_some, gg_Jb_way _ hoj, Option.bind_some, hj1.1.2.2.2.1, gg_St_rows _ H.os, Option.bind_some, gg_Rw_chosen _ H.1.1.rw, Option.bind_some, H1.rw.1.2.2]
    have hw1 : jWy J = nI (wayOf (jWy J)) ∧ wayOf (jWy J) ≤ 1 := by
      unfold wayOf
      rcases hw h5 with e | e <;> rw [e]
      · exact ⟨rfl, by decide⟩
      · exact ⟨rfl, by decide⟩
    have hcost := s_Lv_costOf (H1.ol h5) (H1.tr h5) (H1.kl h5) (aC A) hw1.2
    rw [← hw1.1] at hcost
    rw [show f_Lv_costOf [.ref (s + 16 + 3 * jAt (jDown J false)), .int (jWy (jDown J false)), .int (aC (setJ A (some (jDown J false))))] (hp (gsi G (s + 8) 4 0)) = _ from hcost, ci_some, ww_St_spent _ H.os, Option.bind_some]
    exact ⟨_, rfl, H1.spent _, q1.tr (eqOff.gsi _ _ ⟨⟨by omega, by omega⟩, by omega, by omega⟩)⟩
  · rw [if_neg (show ¬ nI (jAt (jDown J false)) < nI (pNi P) from lm (by show pNi P ≤ jAt J; omega) (by show jAt J < _; omega)), if_neg h5]
    exact ⟨_, rfl, H1, q1⟩
theorem s_St_endJob (H : SS G s p P A) : ∃ G', f_St_endJob [.ref s] (hp G) = some (none, hp G') ∧ SS G' s p P (endA A) ∧ eqOff (stR s) G G' := by
  rw [e_St_endJob s _ (ob_St G H.os), gg_St_rows _ H.os, Option.bind_some, ww_Rw_chosen _ H.1.1.rw, Option.bind_some]
  have q1 : eqOff (inR (s + 1) (s + 3)) G (gsi G (s + 1) 3 0) := eqOff.gsi _ _ ⟨by omega, by omega⟩
  have H1 : SS (gsi G (s + 1) 3 0) s p P (setR A (aV A) (aM A) (aD A) 0) := by
    refine H.rows q1 ?_ ⟨H.kr.1, H.kr.2.1, H.kr.2.2.1, fun r hr => by rw [b_0] at hr; exact absurd hr (by decide)⟩
    obtain ⟨⟨r1, r2, r3⟩, r4⟩ := H.rw
    have n2 : s + 1 + 1 ≠ s + 1 := by omega
    refine ⟨⟨?_, ?_, ?_⟩, fun q k hq hk => ?_⟩
    · rw [gsi_i, if_pos rfl, upd_ne _ _ (by decide)]; exact r1
    · rw [gsi_i, if_pos rfl, upd_ne _ _ (by decide)]; exact r2
    · rw [gsi_i, if_pos rfl, upd_at]
    · rw [gsi_i, if_neg n2]; exact r4 q k hq hk
  obtain ⟨G2, c1, c2, c3⟩ := s_Jb_clear (G := gsi G (s + 1) 3 0) H.1.1.jb
  have H2 : SS G2 s p P (setJ (setR A (aV A) (aM A) (aD A) 0) none) := H1.job (c3.mono (fun n h => by unfold inR at h ⊢; omega)) c2 trivial (fun J' e _ => absurd e (by simp))
  obtain ⟨G3, d1, d2, d3⟩ := s_Pt_forgetBefore H.1.1.pt H2.pt H2.kp.1
  rw [gg_St_job _ H.os, Option.bind_some, c1, cv_some, gg_St_points _ H.os, Option.bind_some, d1, cv_some]
  refine ⟨G3, rfl, H2.points d3 d2 H2.kp, ?_⟩
  exact ((q1.mono (fun n h => by unfold inR at h; unfold stR; omega)).tr (c3.mono (fun n h => by unfold inR at h; unfold stR; omega))).tr (d3.mono (fun n h => by unfold inR at h; unfold stR; omega))
theorem s_St_fall_no (H : SS G s p P A) (h : runO (aJ A) = false) : f_St_fall [.ref s] (hp G) = some (some (.int (-1)), hp G) := by
  rw [e_St_fall s _ (ob_St G H.os), gg_St_job _ H.os, Option.bind_some, s_Jb_isRunning H.1.1.jb H.jb, ci_some, h, if_pos (by decide)]
/-- the JOB falls: its numbers -/
theorem s_fallJ (H : SS G s p P A) {J : JB} (hJ : aJ A = some J) (hg : jSi J ≤ jGo J) : ∃ G', (mm_gi 1 8 (hp G) (s + 8)).bind (fun x18 => (mm_pf 1 8 (.int (x18 - nI (jSi J))) (hp G) (s + 8)).bind fun h19 => (mm_gr 8 3 h19 s).bind fun r20 => (mm_pf 1 7 (.int 0) h19 r20).bind fun h21 => (mm_gr 8 3 h21 s).bind fun r22 => (mm_pf 1 4 (.int 1) h21 r22).bind fun h23 => (some (some (.int (nI (jSi J))), h23) : Option (Option Value × mm_H))) = some (some (.int (nI (jSi J))), hp G') ∧ SS G' s p P (setJ A (some (jFall J))) ∧ eqOff (stR s) G G' := by
  have hj := H.jb
  have hk := H.kj
  have hoj := H.1.1.jb
  rw [hJ] at hj hk
  rw [gg_Jb_gone _ hoj, Option.bind_some, hj.1.2.2.2.2.2.1, n_sub hg, ww_Jb_gone _ hoj, Option.bind_some, gg_St_job _ H.os, Option.bind_some, ww_Jb_since _ hoj, Option.bind_some, gg_St_job _ H.os, Option.bind_some, ww_Jb_down _ hoj, Option.bind_some]
  have hjj : inR (s + 8) (s + 11) (s + 8) := ⟨by omega, by omega⟩
  have q : eqOff (inR (s + 8) (s + 11)) G (gsi (gsi (gsi G (s + 8) 8 (nI (jGo J - jSi J))) (s + 8) 7 0) (s + 8) 4 1) := ((eqOff.gsi _ _ hjj).tr (eqOff.gsi _ _ hjj)).tr (eqOff.gsi _ _ hjj)
  have hf : isJb (gsi (gsi (gsi G (s + 8) 8 (nI (jGo J - jSi J))) (s + 8) 7 0) (s + 8) 4 1) (s + 8) (some (jFall J)) := by
    obtain ⟨⟨a3, a4, a5, a6, a7, a8, a9, a10⟩, hR, hS⟩ := hj
    have n1 : s + 8 + 1 ≠ s + 8 := by omega
    have n2 : s + 8 + 2 ≠ s + 8 := by omega
    refine ⟨?_, hR.off (by simp only [gsi_i, if_neg n1]), hS.off (by simp only [gsi_i, if_neg n2])⟩
    simp only [gsi_i, if_true]
    exact ⟨a3, rfl, a5, a6, rfl, rfl, a9, a10⟩
  refine ⟨_, rfl, ?_, q.mono (fun n h => by unfold inR at h; unfold stR; omega)⟩
  refine H.job q hf ?_ (fun J' e _ => ⟨J, hJ, by rw [← Option.some.inj e]; exact ⟨rfl, rfl⟩⟩)
  obtain ⟨k1, k2, k3, k4, k5, k6⟩ := hk
  refine ⟨k1, k2, k3, ?_, ?_, k6⟩
  · show jGo J - jSi J ≤ 30
    omega
  · show 0 ≤ 30
    omega
theorem s_St_fall (H : SS G s p P A) {J : JB} (hJ : aJ A = some J) (hd : jDn J = false) (hg : jSi J ≤ jGo J) : ∃ G', f_St_fall [.ref s] (hp G) = some (some (.int (nI (jSi J))), hp G') ∧ SS G' s p P (fallA P A J) ∧ eqOff (stR s) G G' := by
  have hn := H.ni
  have hj := H.jb
  have hk := H.kj
  have hoj := H.1.1.jb
  rw [hJ] at hj hk
  have h4 : jAt J ≤ 4 := hk.1
  have hrun : runO (aJ A) = true := by rw [hJ]; unfold runO; simp [hd]
  rw [e_St_fall s _ (ob_St G H.os), gg_St_job _ H.os, Option.bind_some, s_Jb_isRunning hoj H.jb, ci_some, hrun, if_neg (by decide), gg_St_job _ H.os, Option.bind_some, gg_Jb_since _ hoj, Option.bind_some, hj.1.2.2.2.2.1, Option.bind_some, gg_Jb_at _ hoj, Option.bind_some, hj.1.2.2.1, H.gp, Option.bind_some, H.gn, Option.bind_some]
  unfold fallA
  by_cases h5 : jAt J < pNi P
  · rw [if_pos (lp h5 (by omega)), if_pos h5, gg_St_trees _ H.os, Option.bind_some, Option.bind_some, gg_Jb_at _ hoj, Option.bind_some, hj.1.2.2.1, H.gt h5, Option.bind_some, Option.bind_some, gg_Jb_stand _ hoj, Option.bind_some]
    obtain ⟨pg, dn, L, s1, s2, s3⟩ := H.2.2.1.2.2.2.2.1
    obtain ⟨rfl, rfl, rfl⟩ := s3 J hJ h5
    obtain ⟨G2, b1, b2', b3⟩ := s_Lv_become (t := s + 16 + 3 * jAt J) (u := s + 11) (H.ol h5) H.1.1.sd (by omega) s1 s2
    have H2 := H.tree h5 b3 b2' s2
    rw [show f_Lv_become [.ref (s + 16 + 3 * jAt J), .ref (s + 8 + 3)] (hp G) = _ from b1, cv_some, gg_St_job _ H.os, Option.bind_some]
    obtain ⟨G', q1, q2, q3⟩ := s_fallJ H2 (J := J) hJ hg
    exact ⟨G', q1, q2, (b3.mono (fun n h => by unfold inR at h; unfold stR; omega)).tr q3⟩
  · rw [if_neg (lm (by omega) (by omega)), if_neg h5, Option.bind_some]
    exact s_fallJ H hJ hg
end WRK
