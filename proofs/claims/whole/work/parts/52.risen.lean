/-! STATE (the class): becomeRisen -/
def risenA (P : PP) (A : AS) : AS := match aJ A with
  | none => A
  | some J => if jDn J then riseA P A J else A
section RIS
variable {G : GG} {t u p : Nat} {P : PP} {A : AS}
theorem s_St_becomeRisen (H : SS G u p P A) (ht : adSt t) (hne : t ≠ u) (hw : ∀ J, aJ A = some J → jAt J < pNi P → jWy J = 0 ∨ jWy J = 1) : ∃ G', f_St_becomeRisen [.ref t, .ref u] (hp G) = some (none, hp G') ∧ SS G' t p P (risenA P A) ∧ SS G' u p P A ∧ eqOff (inR t (t + 28)) G G' := by
  have hap := ad_apart ht H.1.1 hne
  have lt := ht.lo
  have lp1 := H.1.2.lo
  obtain ⟨G1, a1, a2, a3, a4⟩ := s_St_become H ht hne
  rw [e_St_becomeRisen t _ _ (ob_St G ht.ok), a1, cv_some]
  unfold risenA
  cases hJ : aJ A with
  | none =>
    rw [s_St_rise_no a2 (fun J e => absurd (hJ.symm.trans e) (by simp)), ci_some]
    exact ⟨G1, rfl, a2, a3, a4⟩
  | some J =>
    cases hd : jDn J
    · rw [s_St_rise_no a2 (fun J' e => by rw [← Option.some.inj (hJ.symm.trans e)]; exact hd), ci_some]
      refine ⟨G1, rfl, ?_, a3, a4⟩
      simp only [hd, Bool.false_eq_true, if_false]
      exact a2
    · obtain ⟨G2, b1, b2', b3⟩ := s_St_rise a2 hJ hd (hw J hJ)
      rw [b1, ci_some]
      have q : eqOff (inR t (t + 28)) G1 G2 := b3.mono (fun n h => by unfold stR at h; unfold inR; omega)
      refine ⟨G2, rfl, ?_, a3.far q (fun n h => by unfold inR at h; omega), a4.tr q⟩
      simp only [hd, if_true]
      exact b2'
end RIS
