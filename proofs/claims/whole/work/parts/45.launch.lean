/-! STATE (the class): BEGIN -/
def newJ (A : AS) : JB := (false, 0, -1, 0, 0, [], [], [])
def lauB (A : AS) (w : Int32) : AS := ljA (setR A (aV A) (aM A) (aD A) w)
def lauA (P : PP) (A : AS) (w : Int32) : AS := comeA P (lauB A w) (newJ A) 0
section LAU
variable {G G' : GG} {s p : Nat} {P : PP} {A : AS}
theorem SS.three (H : SS G s p P A) {V : Nat → Nat → Nat} {m : Nat} {d c : Int32} {np : Nat} {S : Nat → Nat} {T B : Nat → Int32} {o : Option JB} (hq : eqOff (inR (s + 1) (s + 11)) G G') (hr : isRw G' (s + 1) V m d c) (hkr : okR V m d c) (hpt : isPt G' (s + 3) np S T B) (hkp : okP np S T) (hj : isJb G' (s + 8) o) (hkj : okJo o) (hsn : ∀ J', o = some J' → ¬ jAt J' < pNi P) : SS G' s p P (setJ (setT (setR A V m d c) np S T B) o) := by
  have l1 := H.1.2.lo
  have l2 := H.1.1.lo
  obtain ⟨ha, ⟨hp1, hp2⟩, ⟨r1, r2, r3, r4, ⟨pg, dn, L, r51, r52, r53⟩, r6, r7⟩, hk1, hk2, hk3, hk4⟩ := H
  have e0 := hq s (fun h => by unfold inR at h; omega)
  exact ⟨ha, ⟨hp1.off hq (fun o ho h => by unfold inR at h; omega), hp2⟩, ⟨hr, hpt, r3.off hq (fun o ho _ h => by unfold inR at h; omega), hj, ⟨pg, dn, L, r51.off hq (fun o ho h => by unfold inR at h; omega), r52, fun J' e' hat => absurd hat (hsn J' e')⟩, by rw [e0.1]; exact r6, by rw [e0.2.2]; exact r7.1, by rw [e0.1]; exact r7.2⟩, hkr, hkp, hk3, hkj⟩
theorem s_St_launch_on (H : SS G s p P A) {J : JB} (hJ : aJ A = some J) {x y z : Int32} : f_St_launch [.ref s, .int x, .int y, .int z] (hp G) = some (some (.int 0), hp G) := by
  have hj := H.jb
  rw [hJ] at hj
  rw [e_St_launch s _ _ _ _ (ob_St G H.os), gg_St_job _ H.os, Option.bind_some, gg_Jb_on _ H.1.1.jb, Option.bind_some, hj.1.1, if_neg (by decide)]
theorem s_St_launch_no (H : SS G s p P A) (hJ : aJ A = none) {x y z w : Int32} (hel : f_St_eligible [.ref s, .int x, .int y, .int z] (hp G) = some (some (.int w), hp G)) (h : w = 0 ∨ hindA A w ≠ 0) : f_St_launch [.ref s, .int x, .int y, .int z] (hp G) = some (some (.int 0), hp G) := by
  have hj := H.jb
  rw [hJ] at hj
  rw [e_St_launch s _ _ _ _ (ob_St G H.os), gg_St_job _ H.os, Option.bind_some, gg_Jb_on _ H.1.1.jb, Option.bind_some, hj.1, if_pos rfl, hel, ci_some]
  by_cases h0 : w = 0
  · rw [if_pos h0]
  · rw [if_neg h0, s_St_hindering H, ci_some, if_neg (by
      rcases h with h | h
      · exact absurd h h0
      · exact h)]
theorem s_St_launch (H : SS G s p P A) (hJ : aJ A = none) {x y z w : Int32} (hel : f_St_eligible [.ref s, .int x, .int y, .int z] (hp G) = some (some (.int w), hp G)) (h0 : w ≠ 0) (hh : hindA A w = 0) (hw : ∀ r, bt w r = true → bt (aD A) r = true) : ∃ G', f_St_launch [.ref s, .int x, .int y, .int z] (hp G) = some (some (.int 1), hp G') ∧ SS G' s p P (lauA P A w) ∧ eqOff (stR s) G G' := by
  have hj := H.jb
  have hn := H.ni
  have hoj := H.1.1.jb
  rw [hJ] at hj
  rw [e_St_launch s _ _ _ _ (ob_St G H.os), gg_St_job _ H.os, Option.bind_some, gg_Jb_on _ hoj, Option.bind_some, hj.1, if_pos rfl, hel, ci_some, if_neg h0, s_St_hindering H, ci_some, if_pos hh, gg_St_job _ H.os, Option.bind_some]
  obtain ⟨G1, c1, c2, c3⟩ := s_Jb_clear (G := G) hoj
  rw [c1, cv_some, gg_St_job _ H.os, Option.bind_some, ww_Jb_on _ hoj, Option.bind_some, gg_St_rows _ H.os, Option.bind_some, ww_Rw_chosen _ H.1.1.rw, Option.bind_some]
  generalize hG3 : gsi (gsi G1 (s + 8) 3 1) (s + 1) 3 w = G3
  have n81 : s + 1 ≠ s + 8 := by omega
  have n82 : s + 1 + 1 ≠ s + 8 := by omega
  have n83 : s + 1 + 1 ≠ s + 1 := by omega
  have n84 : s + 8 ≠ s + 1 := by omega
  have q3 : eqOff (inR (s + 1) (s + 11)) G G3 := by
    rw [← hG3]
    exact ((c3.mono (fun n h => by unfold inR at h ⊢; omega)).tr (eqOff.gsi _ _ ⟨by omega, by omega⟩)).tr (eqOff.gsi _ _ ⟨by omega, by omega⟩)
  have e1 : G1.1 (s + 1) = G.1 (s + 1) ∧ G1.1 (s + 1 + 1) = G.1 (s + 1 + 1) := ⟨(c3 (s + 1) (fun h => by unfold inR at h; omega)).1, (c3 (s + 1 + 1) (fun h => by unfold inR at h; omega)).1⟩
  have hr3 : isRw G3 (s + 1) (aV A) (aM A) (aD A) w := by
    obtain ⟨⟨r1, r2, r3⟩, r4⟩ := H.rw
    rw [← hG3]
    refine ⟨⟨?_, ?_, ?_⟩, fun q k hq hk => ?_⟩
    · rw [gsi_i, if_pos rfl, upd_ne _ _ (by decide), gsi_i, if_neg n81, e1.1]; exact r1
    · rw [gsi_i, if_pos rfl, upd_ne _ _ (by decide), gsi_i, if_neg n81, e1.1]; exact r2
    · rw [gsi_i, if_pos rfl, upd_at]
    · rw [gsi_i, if_neg n83, gsi_i, if_neg n82, e1.2]; exact r4 q k hq hk
  have hkr : okR (aV A) (aM A) (aD A) w := ⟨H.kr.1, H.kr.2.1, H.kr.2.2.1, hw⟩
  have hp3 : isPt G3 (s + 3) (aN A) (aS A) (aT A) (aB A) := by
    rw [← hG3]
    exact ((H.pt.off c3 (fun i hi h => by unfold inR at h; omega)).off (eqOff.gsi (S := fun n => n = s + 8) _ _ rfl) (fun i hi h => by omega)).off (eqOff.gsi (S := fun n => n = s + 1) _ _ rfl) (fun i hi h => by omega)
  obtain ⟨G4, d1, ⟨d2, d4⟩, d3⟩ := s_lj0 (A := setR A (aV A) (aM A) (aD A) w) H.1.1 hr3 hkr hp3 H.kp
  rw [d1, cv_some, e_St_comeTo s _ _ (ob_St G4 H.os), gg_St_job _ H.os, Option.bind_some, ww_Jb_at _ hoj, Option.bind_some, gg_St_job _ H.os, Option.bind_some, ww_Jb_way _ hoj, Option.bind_some, gg_St_job _ H.os, Option.bind_some, ww_Jb_gone _ hoj, Option.bind_some]
  generalize hG5 : gsi (gsi (gsi G4 (s + 8) 5 4) (s + 8) 6 (-1)) (s + 8) 8 0 = G5
  have hjj : ∀ {S : Nat → Prop}, S (s + 8) → eqOff S G4 G5 := fun {S} h => by rw [← hG5]; exact ((eqOff.gsi _ _ h).tr (eqOff.gsi _ _ h)).tr (eqOff.gsi _ _ h)
  have q5 : eqOff (inR (s + 1) (s + 11)) G G5 := (q3.tr (d3.mono (fun n h => by unfold inR at h ⊢; omega))).tr (hjj ⟨by omega, by omega⟩)
  have hr5 : isRw G5 (s + 1) (aV A) (aM A) (aD A) w := (hr3.off d3 (fun h => by unfold inR at h; omega) (fun h => by unfold inR at h; omega)).off (hjj (S := fun n => n = s + 8) rfl) (by omega) (by omega)
  have hp5 := d2.off (hjj (S := fun n => n = s + 8) rfl) (fun i hi h => by omega)
  have hj5 : isJb G5 (s + 8) (some (comeJ (newJ A) 4 (-1) (jSt (newJ A)))) := by
    have e4 : G4.1 (s + 8) = upd (G1.1 (s + 8)) 3 1 := by
      rw [(d3 (s + 8) (fun h => by unfold inR at h; omega)).1, ← hG3, gsi_i, if_neg n84, gsi_i, if_pos rfl]
    obtain ⟨a3, a4, a5, a6, a7, a8, a9, a10⟩ := c2
    rw [← hG5]
    refine ⟨?_, fun i hi => absurd hi (by show ¬ i < 0; omega), fun i hi => absurd hi (by show ¬ i < 0; omega)⟩
    simp only [gsi_i, if_true, e4]
    exact ⟨rfl, a4, rfl, rfl, a7, rfl, a9, a10⟩
  have H5 : SS G5 s p P (setJ (lauB A w) (some (comeJ (newJ A) 4 (-1) (jSt (newJ A))))) := H.three q5 hr5 hkr hp5 d4 hj5 ⟨Nat.le_refl _, Nat.zero_le _, Nat.zero_le _, Nat.zero_le _, Nat.zero_le _, fun r hr => absurd hr (by show r ∉ []; simp), Or.inl rfl⟩ (fun J' e => by
    rw [← Option.some.inj e]
    show ¬ 4 < pNi P
    omega)
  obtain ⟨G6, r1, r2, r3⟩ := come_run (n := 0) H5 (by omega)
  rw [show mm_run p_St_comeTo mm_fu 26 [.ref s, .int 0] [] (hp G5) = _ from r1, cv_some]
  exact ⟨G6, rfl, r2, (q5.mono (fun n h => by unfold inR at h; unfold stR; omega)).tr r3⟩
end LAU
