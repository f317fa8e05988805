/-! STATE (the class): become, becomeRisen -/
section BEC
variable {G : GG} {t u p : Nat} {P : PP} {A : AS}
theorem ad_apart (ht : adSt t) (hu : adSt u) (hne : t ≠ u) : t + 28 ≤ u ∨ u + 28 ≤ t := by
  obtain ⟨a, -, rfl⟩ := ht
  obtain ⟨b, -, rfl⟩ := hu
  omega
theorem s_St_become (H : SS G u p P A) (ht : adSt t) (hne : t ≠ u) : ∃ G', f_St_become [.ref t, .ref u] (hp G) = some (none, hp G') ∧ SS G' t p P A ∧ SS G' u p P A ∧ eqOff (inR t (t + 28)) G G' := by
  have hap := ad_apart ht H.1.1 hne
  have lt := ht.lo
  have lp1 := H.1.2.lo
  have keep : ∀ {G' : GG}, eqOff (inR t (t + 28)) G G' → SS G' u p P A := fun q => H.far q (fun n h => by unfold inR at h; omega)
  have hplan : ∀ {G' : GG}, eqOff (inR t (t + 28)) G G' → isPl G' p P := fun q => H.2.1.1.off q (fun o ho h => by unfold inR at h; omega)
  rw [e_St_become t _ _ (ob_St G ht.ok), gg_St_rows _ ht.ok, Option.bind_some, gg_St_rows _ H.os, Option.bind_some]
  obtain ⟨G1, a1, a2, a3⟩ := s_Rw_become (t := t + 1) (u := u + 1) ht.rw H.1.1.rw (by omega) H.rw H.kr
  have q1 : eqOff (inR t (t + 28)) G G1 := a3.mono (fun n h => by unfold inR at h ⊢; omega)
  have H1 := keep q1
  rw [a1, cv_some, gg_St_points _ ht.ok, Option.bind_some, gg_St_points _ H.os, Option.bind_some]
  obtain ⟨G2, b1, b2', b3⟩ := s_Pt_become (q := t + 3) (u := u + 3) ht.pt H.1.1.pt (by omega) H1.pt H.kp.1
  have q2 : eqOff (inR t (t + 28)) G G2 := q1.tr (b3.mono (fun n h => by unfold inR at h ⊢; omega))
  rw [b1, cv_some]
  have r2 := a2.off b3 (fun h => by unfold inR at h; omega) (fun h => by unfold inR at h; omega)
  have key : ∀ (j i f : Nat) (G3 : GG), i + j = 4 → j < f → eqOff (inR t (t + 28)) G G3 → isRw G3 (t + 1) (aV A) (aM A) (aD A) (aC A) → isPt G3 (t + 3) (aN A) (aS A) (aT A) (aB A) → (∀ k, k < i → ∃ dn, isLv G3 (t + 16 + 3 * k) (pPg P) dn (aL A k) ∧ (k < pNi P → dn = dnP P k)) → ∃ G', mm_run p_St_become f 24 [.ref t, .ref u, .int (nI i)] [] (hp G3) = some (none, hp G') ∧ SS G' t p P A ∧ SS G' u p P A ∧ eqOff (inR t (t + 28)) G G' := by
    intro j
    induction j with
    | zero =>
      intro i f G3 hj hf q3 hr hpt htr
      obtain ⟨f, rfl⟩ : ∃ g, f = g + 1 := ⟨f - 1, by omega⟩
      have : i = 4 := by omega
      subst this
      have H3 := keep q3
      rw [e_St_become_24, if_neg (show ¬ nI 4 < (4 : Int32) by decide), gg_St_job _ ht.ok, Option.bind_some, gg_St_job _ H.os, Option.bind_some]
      obtain ⟨pg, dn, L, s1, s2, s3⟩ := H3.2.2.1.2.2.2.2.1
      obtain ⟨G4, c1, c2, c4, c3⟩ := s_Jb_become (j := t + 8) (u := u + 8) ht.jb H.1.1.jb ht.sd H.1.1.sd (by omega) H3.jb H3.kj s1 s2
      have q4 : eqOff (inR t (t + 28)) G G4 := q3.tr (c3.mono (fun n h => by unfold inR at h ⊢; omega))
      have H4 := keep q4
      rw [c1, cv_some, H4.gp, Option.bind_some, ww_St_plan _ ht.ok, Option.bind_some, gg_St_batch _ H.os, Option.bind_some]
      have nu : u ≠ t := Ne.symm hne
      have e7 : (gsr G4 t 6 p).1 u 7 = nI (pBt P) := H4.bt
      rw [e7, ww_St_batch _ ht.ok, Option.bind_some, gg_St_spent _ H.os, Option.bind_some, gsi_i, if_neg nu]
      have e8 : (gsr G4 t 6 p).1 u 8 = aX A := H4.sp
      rw [e8, ww_St_spent _ ht.ok, Option.bind_some]
      generalize hG5 : gsi (gsi (gsr G4 t 6 p) t 7 (nI (pBt P))) t 8 (aX A) = G5
      have q45 : eqOff (fun n => n = t) G4 G5 := by
        rw [← hG5]
        exact ((eqOff.gsr (S := fun n => n = t) _ _ rfl).tr (eqOff.gsi _ _ rfl)).tr (eqOff.gsi _ _ rfl)
      have q5 : eqOff (inR t (t + 28)) G G5 := q4.tr (q45.mono (fun n h => by subst h; exact ⟨by omega, by omega⟩))
      refine ⟨G5, rfl, ⟨⟨ht, H.1.2⟩, ⟨hplan q5, H.2.1.2⟩, ⟨?_, ?_, ?_, ?_, ?_, ?_, ?_, ?_⟩, H.2.2.2⟩, keep q5, q5⟩
      · exact (hr.off c3 (fun h => by unfold inR at h; omega) (fun h => by unfold inR at h; omega)).off q45 (by omega) (by omega)
      · exact (hpt.off c3 (fun i hi h => by unfold inR at h; omega)).off q45 (fun i hi h => by omega)
      · intro k hk
        obtain ⟨dn2, t1, t2⟩ := htr k hk
        exact ⟨dn2, (t1.off c3 (fun i hi h => by unfold inR at h; omega)).off q45 (fun i hi h => by omega), t2⟩
      · exact c2.off q45 (fun i hi h => by omega)
      · exact ⟨pg, dn, L, (show isLv G4 (t + 11) pg dn L from c4).off q45 (fun i hi h => by omega), s2, s3⟩
      · rw [← hG5, gsi_i, if_pos rfl, upd_at]
      · rw [← hG5]
        show (gsr G4 t 6 p).2.2 t 6 = p
        rw [gsr_r, if_pos rfl]
        simp [va_up]
      · rw [← hG5, gsi_i, if_pos rfl, upd_ne _ _ (by decide), gsi_i, if_pos rfl, upd_at]
    | succ j ih =>
      intro i f G3 hj hf q3 hr hpt htr
      obtain ⟨f, rfl⟩ : ∃ g, f = g + 1 := ⟨f - 1, by omega⟩
      have H3 := keep q3
      obtain ⟨dn, t1, t2⟩ := H3.2.2.1.2.2.1 i (by omega)
      rw [e_St_become_24, if_pos (show nI i < (4 : Int32) from lp (n := 4) (by omega) (by omega)), gg_St_trees _ ht.ok, Option.bind_some, rr_St_trees _ ht.ok (by omega), Option.bind_some, gg_St_trees _ H.os, Option.bind_some, rr_St_trees _ H.os (by omega), Option.bind_some, show nI i + 1 = nI (i + 1) from nI_add i 1]
      obtain ⟨G4, c1, c2, c3⟩ := s_Lv_become (t := t + 16 + 3 * i) (u := u + 16 + 3 * i) (ht.lv (by omega)) (H.1.1.lv (by omega)) (by omega) t1 (H3.2.2.2.2.2.1 i (by omega))
      rw [show f_Lv_become [.ref (t + 7 + 9 + 3 * i), .ref (u + 7 + 9 + 3 * i)] (hp G3) = _ from c1, cv_some]
      refine ih (i + 1) f G4 (by omega) (by omega) (q3.tr (c3.mono (fun n h => by unfold inR at h ⊢; omega))) (hr.off c3 (fun h => by unfold inR at h; omega) (fun h => by unfold inR at h; omega)) (hpt.off c3 (fun i hi h => by unfold inR at h; omega)) (fun k hk => ?_)
      by_cases e : k = i
      · subst e
        exact ⟨dn, c2, t2⟩
      · obtain ⟨dn2, v1, v2⟩ := htr k (by omega)
        exact ⟨dn2, v1.off c3 (fun o ho h => by unfold inR at h; omega), v2⟩
  exact key 4 0 mm_fu G2 (by omega) (fu_lt (by omega)) q2 r2 b2' (fun k hk => by omega)
end BEC
