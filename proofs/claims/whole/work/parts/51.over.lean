/-! STATE (the class): the JOB is over -/
def doneA (A : AS) : AS := setT (setJ (setR A (aV A) (aM A) (aD A &&& (aC A ^^^ (-1))) 0) none) (aN A) (aS A) (aT A) (fun _ => -1)
section OVR
variable {G : GG} {s p : Nat} {P : PP} {A : AS}
theorem s_St_over (H : SS G s p P A) {J : JB} (hJ : aJ A = some J) (hd : jDn J = false) (hi : pNi P ≤ jAt J) : ∃ G', f_St_advance [.ref s] (hp G) = some (some (.int (-2)), hp G') ∧ SS G' s p P (doneA A) ∧ eqOff (stR s) G G' := by
  have hn := H.ni
  have hoj := H.1.1.jb
  have hj := H.jb
  have hk := H.kj
  rw [hJ] at hj hk
  have h4 : jAt J ≤ 4 := hk.1
  have hrun : runO (aJ A) = true := by rw [hJ]; unfold runO; simp [hd]
  rw [e_St_advance s _ (ob_St G H.os), gg_St_job _ H.os, Option.bind_some, s_Jb_isRunning hoj H.jb, ci_some, hrun, if_neg (by decide), gg_St_job _ H.os, Option.bind_some, gg_Jb_at _ hoj, Option.bind_some, H.gp, Option.bind_some, H.gn, Option.bind_some, hj.1.2.2.1, if_neg (lm hi (by omega)), gg_St_rows _ H.os, Option.bind_some, gg_Rw_there _ H.1.1.rw, Option.bind_some, H.rw.1.2.1, Option.bind_some, gg_Rw_chosen _ H.1.1.rw, Option.bind_some, H.rw.1.2.2, ww_Rw_there _ H.1.1.rw, Option.bind_some]
  rw [e_St_endJob s _ (ob_St _ H.os), gg_St_rows _ H.os, Option.bind_some, ww_Rw_chosen _ H.1.1.rw, Option.bind_some]
  generalize hG1 : gsi (gsi G (s + 1) 2 (aD A &&& (aC A ^^^ (-1)))) (s + 1) 3 0 = G1
  have hss : inR (s + 1) (s + 3) (s + 1) := ⟨by omega, by omega⟩
  have q1 : eqOff (inR (s + 1) (s + 3)) G G1 := by rw [← hG1]; exact (eqOff.gsi _ _ hss).tr (eqOff.gsi _ _ hss)
  have H1 : SS G1 s p P (setR A (aV A) (aM A) (aD A &&& (aC A ^^^ (-1))) 0) := by
    refine H.rows q1 ?_ ⟨H.kr.1, H.kr.2.1, fun r hr => ?_, fun r hr => by rw [b_0] at hr; exact absurd hr (by decide)⟩
    · obtain ⟨⟨r1, r2, r3⟩, r4⟩ := H.rw
      have n2 : s + 1 + 1 ≠ s + 1 := by omega
      rw [← hG1]
      refine ⟨⟨?_, ?_, ?_⟩, fun q k hq hk => ?_⟩
      · simp only [gsi_i, if_true]; exact r1
      · simp only [gsi_i, if_true]; rfl
      · simp only [gsi_i, if_true]; rfl
      · simp only [gsi_i, if_neg n2]; exact r4 q k hq hk
    · rw [b_and] at hr
      simp only [Bool.and_eq_true] at hr
      exact H.kr.2.2.1 r hr.1
  obtain ⟨G2, c1, c2, c3⟩ := s_Jb_clear (G := G1) hoj
  have H2 : SS G2 s p P (setJ (setR A (aV A) (aM A) (aD A &&& (aC A ^^^ (-1))) 0) none) := H1.job (c3.mono (fun n h => by unfold inR at h ⊢; omega)) c2 trivial (fun J' e _ => absurd e (by simp))
  obtain ⟨G3, d1, d2, d3⟩ := s_Pt_forgetBefore H.1.1.pt H2.pt H2.kp.1
  rw [gg_St_job _ H.os, Option.bind_some, c1, cv_some, gg_St_points _ H.os, Option.bind_some, d1, cv_some, cv_some]
  refine ⟨G3, rfl, H2.points d3 d2 H2.kp, ?_⟩
  exact ((q1.mono (fun n h => by unfold inR at h; unfold stR; omega)).tr (c3.mono (fun n h => by unfold inR at h; unfold stR; omega))).tr (d3.mono (fun n h => by unfold inR at h; unfold stR; omega))
end OVR
