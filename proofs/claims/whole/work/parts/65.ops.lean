/-! what can be done to a STATE: answers and what is left, and the class does so -/
def admO (P : PP) (A : AS) (x y z : Nat) : Int32 × AS := if canAdm P A x y z then (nI (aM A), admA P A x y z) else (-1, A)
def expO (P : PP) (A : AS) (r : Nat) : Bool × AS := if canExp P A r then (true, expA P A r) else (false, A)
def amdO (P : PP) (A : AS) (r k v : Nat) : Bool × AS := if canAmd P A r k v then (true, amdA P A r k v) else (false, A)
def canLau (A : AS) (w : Int32) : Bool := (aJ A).isNone && (!decide (w = 0) && decide (hindA A w = 0))
def lauO (P : PP) (A : AS) (w : Int32) : Bool × AS := if canLau A w then (true, lauA P A w) else (false, A)
def fallO (P : PP) (A : AS) : Int32 × AS := match aJ A with
  | none => (-1, A)
  | some J => if jDn J then (-1, A) else (nI (jSi J), fallA P A J)
def riseO (P : PP) (A : AS) : Bool × AS := match aJ A with
  | none => (false, A)
  | some J => if jDn J then (true, riseA P A J) else (false, A)
def haltO (P : PP) (A : AS) : Bool × AS := match aJ A with
  | none => (false, A)
  | some J => if canHalt P A then (true, haltA P A J) else (false, A)
def joinO (P : PP) (A : AS) (i : Nat) : Int32 × AS := if isAtA A i then (-1, A) else (nI ((aL A i).length - (packL (pPg P) (aL A i)).length), joinA P A i)
section OPS
variable {G : GG} {s p : Nat} {P : PP} {A : AS}
theorem admO_inv (h : INV P A) {x y z : Nat} (hx : x ≤ 999) (hy : y ≤ 999) (hz : z ≤ 999) : INV P (admO P A x y z).2 := by
  unfold admO
  cases hc : canAdm P A x y z
  · exact h
  · exact adm_inv h hx hy hz hc
theorem expO_inv (h : INV P A) (r : Nat) : INV P (expO P A r).2 := by
  unfold expO
  cases hc : canExp P A r
  · exact h
  · exact exp_inv h hc
theorem amdO_inv (h : INV P A) (r : Nat) {k v : Nat} (hk : k < 3) (hv : v ≤ 999) : INV P (amdO P A r k v).2 := by
  unfold amdO
  cases hc : canAmd P A r k v
  · exact h
  · exact amd_inv h hk hv hc
theorem would_vis (h : INV P A) {r : Nat} (hb : bt (wouldA P A) r = true) : bt (visA A) r = true := by
  have hm := h.kr.1
  by_cases hr : r < 32
  · unfold wouldA at hb
    rw [bt_msk _ _ (by omega) r hr] at hb
    simp only [Bool.and_eq_true] at hb
    exact hb.2.1
  · rw [b_big (by omega)] at hb; exact absurd hb (by decide)
theorem elig_vis (h : INV P A) {i r : Nat} {lo hi : Int32} (hb : bt (eligA P A i lo hi) r = true) : bt (visA A) r = true := by
  have hm := h.kr.1
  by_cases hr : r < 32
  · unfold eligA at hb
    rw [bt_msk _ _ (by omega) r hr] at hb
    simp only [Bool.and_eq_true] at hb
    exact hb.2.1.1
  · rw [b_big (by omega)] at hb; exact absurd hb (by decide)
theorem can_lau {w : Int32} (hc : canLau A w = true) : aJ A = none ∧ w ≠ 0 ∧ hindA A w = 0 := by
  unfold canLau at hc
  simp only [Bool.and_eq_true, Bool.not_eq_true', decide_eq_false_iff_not, decide_eq_true_eq, Option.isNone_iff_eq_none] at hc
  exact hc
theorem lauO_inv (h : INV P A) {w : Int32} (hw : ∀ r, bt w r = true → bt (visA A) r = true) : INV P (lauO P A w).2 := by
  unfold lauO
  cases hc : canLau A w
  · exact h
  · obtain ⟨c1, c2, c3⟩ := can_lau hc
    exact lau_inv h c1 hw c3
theorem fallO_inv (h : INV P A) : INV P (fallO P A).2 := by
  unfold fallO
  cases hJ : aJ A with
  | none => exact h
  | some J =>
    dsimp only
    cases jDn J
    · exact fall_inv h hJ
    · exact h
theorem riseO_inv (h : INV P A) : INV P (riseO P A).2 := by
  unfold riseO
  cases hJ : aJ A with
  | none => exact h
  | some J =>
    dsimp only
    cases jDn J
    · exact h
    · exact rise_inv h hJ
theorem haltO_inv (h : INV P A) : INV P (haltO P A).2 := by
  unfold haltO
  cases hJ : aJ A with
  | none => exact h
  | some J =>
    dsimp only
    cases hc : canHalt P A
    · exact h
    · exact halt_inv h hJ hc
theorem joinO_inv (h : INV P A) {i : Nat} (hi : i < pNi P) : INV P (joinO P A i).2 := by
  unfold joinO
  cases hc : isAtA A i
  · exact join_inv h hi hc
  · exact h
theorem st_in {n : Nat} (h : stR s n) : inR s (s + 28) n := h.1
theorem c_admit (H : SS G s p P A) (h : INV P A) {x y z : Nat} (hx : x ≤ 999) (hy : y ≤ 999) (hz : z ≤ 999) : ∃ G', f_St_admit [.ref s, .int (nI x), .int (nI y), .int (nI z)] (hp G) = some (some (.int (admO P A x y z).1), hp G') ∧ SS G' s p P (admO P A x y z).2 ∧ eqOff (inR s (s + 28)) G G' := by
  have := s_St_admit H h.ent hx hy hz
  unfold admO
  cases hc : canAdm P A x y z
  · rw [hc] at this; exact this
  · rw [hc] at this; exact this
theorem c_expel (H : SS G s p P A) {r : Nat} (hr : r < 2147483648) : ∃ G', f_St_expel [.ref s, .int (nI r)] (hp G) = some (some (.int (b2 (expO P A r).1)), hp G') ∧ SS G' s p P (expO P A r).2 ∧ eqOff (inR s (s + 28)) G G' := by
  have := s_St_expel H hr
  unfold expO
  cases hc : canExp P A r
  · rw [hc] at this; exact this
  · rw [hc] at this; exact this
theorem c_amend (H : SS G s p P A) (h : INV P A) {r k v : Nat} (hr : r < 2147483648) (hk : k < 3) (hv : v ≤ 999) : ∃ G', f_St_amend [.ref s, .int (nI r), .int (nI k), .int (nI v)] (hp G) = some (some (.int (b2 (amdO P A r k v).1)), hp G') ∧ SS G' s p P (amdO P A r k v).2 ∧ eqOff (inR s (s + 28)) G G' := by
  have := s_St_amend H h.ent hr hk hv
  unfold amdO
  cases hc : canAmd P A r k v
  · rw [hc] at this; exact this
  · rw [hc] at this; exact this
theorem c_launch (H : SS G s p P A) (h : INV P A) {x y z w : Int32} (hel : f_St_eligible [.ref s, .int x, .int y, .int z] (hp G) = some (some (.int w), hp G)) (hw : ∀ r, bt w r = true → bt (visA A) r = true) : ∃ G', f_St_launch [.ref s, .int x, .int y, .int z] (hp G) = some (some (.int (b2 (lauO P A w).1)), hp G') ∧ SS G' s p P (lauO P A w).2 ∧ eqOff (inR s (s + 28)) G G' := by
  unfold lauO
  cases hc : canLau A w
  · refine ⟨G, ?_, H, eqOff.rf⟩
    show f_St_launch [.ref s, .int x, .int y, .int z] (hp G) = some (some (.int 0), hp G)
    cases hJ : aJ A with
    | some J => exact s_St_launch_on H hJ
    | none =>
      refine s_St_launch_no H hJ hel ?_
      unfold canLau at hc
      rw [hJ] at hc
      simp only [Option.isNone_none, Bool.true_and, Bool.and_eq_false_iff, Bool.not_eq_false', decide_eq_true_eq, decide_eq_false_iff_not] at hc
      exact hc
  · obtain ⟨c1, c2, c3⟩ := can_lau hc
    obtain ⟨G', a1, a2, a3⟩ := s_St_launch H c1 hel c2 c3 (fun r hr => (visA_d (by have := (vis_lt h.kr (hw r hr)).2; omega) (hw r hr)).1)
    exact ⟨G', a1, a2, a3.mono (fun n hn => hn.1)⟩
theorem c_fall (H : SS G s p P A) (h : INV P A) : ∃ G', f_St_fall [.ref s] (hp G) = some (some (.int (fallO P A).1), hp G') ∧ SS G' s p P (fallO P A).2 ∧ eqOff (inR s (s + 28)) G G' := by
  unfold fallO
  cases hJ : aJ A with
  | none => exact ⟨G, s_St_fall_no H (by rw [hJ]; rfl), H, eqOff.rf⟩
  | some J =>
    dsimp only
    cases hd : jDn J
    · obtain ⟨j1, j2, j3, -⟩ := h.2.2.2.2 J hJ
      have hg : jSi J ≤ jGo J := by
        rcases j1 with g | ⟨-, -, g, -⟩
        · exact (j2 g).2.2.2.2.2.1
        · omega
      obtain ⟨G', a1, a2, a3⟩ := s_St_fall H hJ hd hg
      exact ⟨G', a1, a2, a3.mono (fun n hn => hn.1)⟩
    · exact ⟨G, s_St_fall_no H (by rw [hJ]; show (!jDn J) = false; rw [hd]; rfl), H, eqOff.rf⟩
theorem INV.wy (h : INV P A) {J : JB} (hJ : aJ A = some J) (ha : jAt J < pNi P) : jWy J = 0 ∨ jWy J = 1 := ((h.2.2.2.2 J hJ).2.1 ha).2.2.2.2.2.2
theorem c_rise (H : SS G s p P A) (h : INV P A) : ∃ G', f_St_rise [.ref s] (hp G) = some (some (.int (b2 (riseO P A).1)), hp G') ∧ SS G' s p P (riseO P A).2 ∧ eqOff (inR s (s + 28)) G G' := by
  unfold riseO
  cases hJ : aJ A with
  | none => exact ⟨G, s_St_rise_no H (fun J e => by rw [hJ] at e; exact absurd e (by simp)), H, eqOff.rf⟩
  | some J =>
    dsimp only
    cases hd : jDn J
    · exact ⟨G, s_St_rise_no H (fun J' e => by rw [hJ] at e; rw [← Option.some.inj e]; exact hd), H, eqOff.rf⟩
    · obtain ⟨G', a1, a2, a3⟩ := s_St_rise H hJ hd (fun ha => h.wy hJ ha)
      exact ⟨G', a1, a2, a3.mono (fun n hn => hn.1)⟩
theorem c_halt (H : SS G s p P A) (h : INV P A) : ∃ G', f_St_halt [.ref s] (hp G) = some (some (.int (b2 (haltO P A).1)), hp G') ∧ SS G' s p P (haltO P A).2 ∧ eqOff (inR s (s + 28)) G G' := by
  unfold haltO
  cases hJ : aJ A with
  | none => exact ⟨G, s_St_halt_no H (by unfold canHalt; rw [hJ]), H, eqOff.rf⟩
  | some J =>
    dsimp only
    cases hc : canHalt P A
    · exact ⟨G, s_St_halt_no H hc, H, eqOff.rf⟩
    · obtain ⟨G', a1, a2, a3⟩ := s_St_halt H hJ hc (fun ha => halt_rep h hJ hc ha) (halt_B h)
      exact ⟨G', a1, a2, a3.mono (fun n hn => hn.1)⟩
theorem c_join (H : SS G s p P A) {i : Nat} (hi : i < pNi P) : ∃ G', f_St_join [.ref s, .int (nI i)] (hp G) = some (some (.int (joinO P A i).1), hp G') ∧ SS G' s p P (joinO P A i).2 ∧ eqOff (inR s (s + 28)) G G' := by
  have hn := H.ni
  unfold joinO
  cases hc : isAtA A i
  · obtain ⟨G', a1, a2, a3⟩ := s_St_join H hi hc
    exact ⟨G', a1, a2, a3.mono (fun n hn => hn.1)⟩
  · exact ⟨G, s_St_join_no H (by omega) (Or.inr hc), H, eqOff.rf⟩
theorem c_adv (H : SS G s p P A) (h : INV P A) : ∃ G', f_St_advance [.ref s] (hp G) = some (some (.int (stA P A).1), hp G') ∧ SS G' s p P (stA P A).2 ∧ eqOff (inR s (s + 28)) G G' := by
  obtain ⟨G', a1, a2, a3⟩ := s_adv H h
  exact ⟨G', a1, a2, a3.mono (fun n hn => hn.1)⟩
theorem c_go (H : SS G s p P A) (h : INV P A) {n : Nat} (hn : n ≤ 200) : ∃ G', f_St_advanceBy [.ref s, .int (nI n)] (hp G) = some (some (.int (nI (goS P n A).1)), hp G') ∧ SS G' s p P (goS P n A).2 ∧ eqOff (inR s (s + 28)) G G' := by
  obtain ⟨G', a1, a2, a3⟩ := s_St_advanceBy H h hn
  exact ⟨G', a1, a2, a3.mono (fun n hn => hn.1)⟩
theorem risen_eq : risenA P A = (riseO P A).2 := by
  unfold risenA riseO
  cases aJ A with
  | none => rfl
  | some J =>
    dsimp only
    cases jDn J <;> rfl
theorem c_risen {t u : Nat} (H : SS G u p P A) (h : INV P A) (ht : adSt t) (hne : t ≠ u) : ∃ G', f_St_becomeRisen [.ref t, .ref u] (hp G) = some (none, hp G') ∧ SS G' t p P (riseO P A).2 ∧ SS G' u p P A ∧ eqOff (inR t (t + 28)) G G' := by
  rw [← risen_eq]
  exact s_St_becomeRisen H ht hne (fun J hJ ha => h.wy hJ ha)
end OPS
