/-! STATE (the class): what changes and what stays -/
def setX (A : AS) (x : Int32) : AS := (A.1, A.2.1, A.2.2.1, A.2.2.2.1, x)
def setL (A : AS) (i : Nat) (L : LL) : AS := (A.1, A.2.1, fun j => if j = i then L else aL A j, A.2.2.2.1, A.2.2.2.2)
def setJ (A : AS) (o : Option JB) : AS := (A.1, A.2.1, A.2.2.1, o, A.2.2.2.2)
def setR (A : AS) (V : Nat → Nat → Nat) (m : Nat) (d c : Int32) : AS := ((V, m, d, c), A.2)
def setT (A : AS) (np : Nat) (S : Nat → Nat) (T B : Nat → Int32) : AS := (A.1, (np, S, T, B), A.2.2)
section UPD
variable {G G' : GG} {s p : Nat} {P : PP} {A : AS} {W : Nat → Prop}
theorem isWh.off {w : Nat} {l : List Lim} (h : isWh G w l) (hq : eqOff W G G') (h0 : ∀ o, o ≤ 6 → ¬ W (w + o)) : isWh G' w l := by
  have e : ∀ o, o ≤ 6 → G'.1 (w + o) = G.1 (w + o) := fun o ho => (hq _ (h0 o ho)).1
  refine ⟨by rw [show G'.1 w = G.1 w from e 0 (by omega)]; exact h.1, fun i hi => ?_⟩
  have := h.2 i hi
  unfold isLim at this ⊢
  rw [e 1 (by omega), e 2 (by omega), e 3 (by omega), e 4 (by omega), e 5 (by omega), e 6 (by omega)]
  exact this
theorem isPl.off (h : isPl G p P) (hq : eqOff W G G') (h0 : ∀ o, o ≤ 20 → ¬ W (p + o)) : isPl G' p P := by
  have e : ∀ o, o ≤ 20 → G'.1 (p + o) = G.1 (p + o) := fun o ho => (hq _ (h0 o ho)).1
  refine ⟨?_, fun i hi => ?_, h.2.2.1.off hq (fun o ho => by have := h0 (7 + o) (by omega); rwa [← Nat.add_assoc] at this), h.2.2.2.off hq (fun o ho => by have := h0 (14 + o) (by omega); rwa [← Nat.add_assoc] at this)⟩
  · rw [show G'.1 p = G.1 p from e 0 (by omega)]; exact h.1
  · rw [e 1 (by omega), e 2 (by omega)]; exact h.2.1 i hi
theorem adPl.lo (h : adPl p) : p + 21 ≤ 86 := by rcases h with rfl | rfl | rfl <;> decide
theorem adSt.lo (h : adSt s) : 86 ≤ s := by obtain ⟨k, -, rfl⟩ := h; omega
theorem isTr.off {L : Nat → LL} (h : isTr G s P L) (hq : eqOff W G G') (h0 : ∀ o, 16 ≤ o → o < 28 → ¬ W (s + o)) : isTr G' s P L := fun i hi => by
  obtain ⟨dn, h1, h2⟩ := h i hi
  exact ⟨dn, h1.off hq (fun o ho => by have := h0 (16 + 3 * i + o) (by omega) (by omega); rwa [show s + (16 + 3 * i + o) = s + 16 + 3 * i + o by omega] at this), h2⟩
theorem isSn.off {o : Option JB} (h : isSn G s P o) (hq : eqOff W G G') (h0 : ∀ o, 11 ≤ o → o < 14 → ¬ W (s + o)) : isSn G' s P o := by
  obtain ⟨pg, dn, L, h1, h2, h3⟩ := h
  exact ⟨pg, dn, L, h1.off hq (fun o ho => by have := h0 (11 + o) (by omega) (by omega); rwa [← Nat.add_assoc] at this), h2, h3⟩
theorem SS.off (H : SS G s p P A) (hq : eqOff W G G') (h1 : ∀ o, o < 14 → ¬ W (s + o)) (h2 : ∀ o, 16 ≤ o → o < 28 → ¬ W (s + o)) (h3 : ∀ o, o ≤ 20 → ¬ W (p + o)) : SS G' s p P A := by
  obtain ⟨ha, ⟨hp1, hp2⟩, ⟨r1, r2, r3, r4, r5, r6, r7⟩, hk⟩ := H
  have e0 := hq s (h1 0 (by omega))
  refine ⟨ha, ⟨hp1.off hq h3, hp2⟩, ⟨r1.off hq (h1 1 (by omega)) (h1 2 (by omega)), r2.off hq (fun o ho => by have := h1 (3 + o) (by omega); rwa [← Nat.add_assoc] at this), r3.off hq h2, r4.off hq (fun o ho => by have := h1 (8 + o) (by omega); rwa [← Nat.add_assoc] at this), r5.off hq (fun o _ ho => h1 o ho), by rw [e0.1]; exact r6, by rw [e0.2.2]; exact r7.1, by rw [e0.1]; exact r7.2⟩, hk⟩
/-- what was and what will be may change -/
theorem SS.was (H : SS G s p P A) (hq : eqOff (inR (s + 14) (s + 16)) G G') : SS G' s p P A := by
  have l1 := H.1.2.lo
  have l2 := H.1.1.lo
  exact H.off hq (fun o ho h => by unfold inR at h; omega) (fun o ho _ h => by unfold inR at h; omega) (fun o ho h => by unfold inR at h; omega)
theorem SS.far (H : SS G s p P A) (hq : eqOff W G G') (hW : ∀ n, W n → n < 86 ∧ (n < p ∨ p + 20 < n) ∨ s + 28 ≤ n ∨ 86 ≤ n ∧ n < s) : SS G' s p P A := by
  have l1 := H.1.2.lo
  have l2 := H.1.1.lo
  exact H.off hq (fun o ho h => by have := hW _ h; omega) (fun o ho _ h => by have := hW _ h; omega) (fun o ho h => by have := hW _ h; omega)
theorem SS.spent (H : SS G s p P A) (x : Int32) : SS (gsi G s 8 x) s p P (setX A x) := by
  have l1 := H.1.2.lo
  have l2 := H.1.1.lo
  obtain ⟨ha, ⟨hp1, hp2⟩, ⟨r1, r2, r3, r4, r5, r6, r7⟩, hk⟩ := H
  have hq : eqOff (inR s (s + 1)) G (gsi G s 8 x) := eqOff.gsi _ _ ⟨by omega, by omega⟩
  refine ⟨ha, ⟨hp1.off hq (fun o ho h => by unfold inR at h; omega), hp2⟩, ⟨r1.off hq (fun h => by unfold inR at h; omega) (fun h => by unfold inR at h; omega), r2.off hq (fun o ho h => by unfold inR at h; omega), r3.off hq (fun o ho _ h => by unfold inR at h; omega), r4.off hq (fun o ho h => by unfold inR at h; omega), r5.off hq (fun o ho _ h => by unfold inR at h; omega), ?_, r7.1, by rw [gsi_i, if_pos rfl, upd_ne _ _ (by decide)]; exact r7.2⟩, hk⟩
  rw [gsi_i, if_pos rfl, upd_at]
  rfl
theorem SS.tree (H : SS G s p P A) {i : Nat} (hi : i < pNi P) {L : LL} (hq : eqOff (inR (s + 16 + 3 * i) (s + 16 + 3 * i + 3)) G G') (hl : isLv G' (s + 16 + 3 * i) (pPg P) (dnP P i) L) (hkl : okL (pPg P) L) : SS G' s p P (setL A i L) := by
  have l1 := H.1.2.lo
  have l2 := H.1.1.lo
  have hn := H.ni
  obtain ⟨ha, ⟨hp1, hp2⟩, ⟨r1, r2, r3, r4, r5, r6, r7⟩, hk1, hk2, hk3, hk4⟩ := H
  have e0 := hq s (fun h => by unfold inR at h; omega)
  refine ⟨ha, ⟨hp1.off hq (fun o ho h => by unfold inR at h; omega), hp2⟩, ⟨r1.off hq (fun h => by unfold inR at h; omega) (fun h => by unfold inR at h; omega), r2.off hq (fun o ho h => by unfold inR at h; omega), ?_, r4.off hq (fun o ho h => by unfold inR at h; omega), r5.off hq (fun o ho _ h => by unfold inR at h; omega), by rw [e0.1]; exact r6, by rw [e0.2.2]; exact r7.1, by rw [e0.1]; exact r7.2⟩, hk1, hk2, ?_, hk4⟩
  · intro j hj
    show ∃ dn, isLv G' (s + 16 + 3 * j) (pPg P) dn (if j = i then L else aL A j) ∧ (j < pNi P → dn = dnP P j)
    by_cases e : j = i
    · rw [if_pos e, e]
      exact ⟨_, hl, fun _ => rfl⟩
    · rw [if_neg e]
      obtain ⟨dn, q1, q2⟩ := r3 j hj
      exact ⟨dn, q1.off hq (fun o ho h => by unfold inR at h; omega), q2⟩
  · intro j hj
    show okL (pPg P) (if j = i then L else aL A j)
    by_cases e : j = i
    · rw [if_pos e]; exact hkl
    · rw [if_neg e]; exact hk3 j hj
theorem SS.rows (H : SS G s p P A) {V : Nat → Nat → Nat} {m : Nat} {d c : Int32} (hq : eqOff (inR (s + 1) (s + 3)) G G') (hr : isRw G' (s + 1) V m d c) (hkr : okR V m d c) : SS G' s p P (setR A V m d c) := by
  have l1 := H.1.2.lo
  have l2 := H.1.1.lo
  obtain ⟨ha, ⟨hp1, hp2⟩, ⟨r1, r2, r3, r4, r5, r6, r7⟩, hk1, hk2, hk3, hk4⟩ := H
  have e0 := hq s (fun h => by unfold inR at h; omega)
  exact ⟨ha, ⟨hp1.off hq (fun o ho h => by unfold inR at h; omega), hp2⟩, ⟨hr, r2.off hq (fun o ho h => by unfold inR at h; omega), r3.off hq (fun o ho _ h => by unfold inR at h; omega), r4.off hq (fun o ho h => by unfold inR at h; omega), r5.off hq (fun o ho _ h => by unfold inR at h; omega), by rw [e0.1]; exact r6, by rw [e0.2.2]; exact r7.1, by rw [e0.1]; exact r7.2⟩, hkr, hk2, hk3, hk4⟩
theorem SS.points (H : SS G s p P A) {np : Nat} {S : Nat → Nat} {T B : Nat → Int32} (hq : eqOff (inR (s + 3) (s + 7)) G G') (hr : isPt G' (s + 3) np S T B) (hkp : okP np S T) : SS G' s p P (setT A np S T B) := by
  have l1 := H.1.2.lo
  have l2 := H.1.1.lo
  obtain ⟨ha, ⟨hp1, hp2⟩, ⟨r1, r2, r3, r4, r5, r6, r7⟩, hk1, hk2, hk3, hk4⟩ := H
  have e0 := hq s (fun h => by unfold inR at h; omega)
  exact ⟨ha, ⟨hp1.off hq (fun o ho h => by unfold inR at h; omega), hp2⟩, ⟨r1.off hq (fun h => by unfold inR at h; omega) (fun h => by unfold inR at h; omega), hr, r3.off hq (fun o ho _ h => by unfold inR at h; omega), r4.off hq (fun o ho h => by unfold inR at h; omega), r5.off hq (fun o ho _ h => by unfold inR at h; omega), by rw [e0.1]; exact r6, by rw [e0.2.2]; exact r7.1, by rw [e0.1]; exact r7.2⟩, hk1, hkp, hk3, hk4⟩
/-- the JOB changes, what stands does not -/
theorem SS.job (H : SS G s p P A) {o : Option JB} (hq : eqOff (inR (s + 8) (s + 11)) G G') (hr : isJb G' (s + 8) o) (hkj : okJo o) (hsn : ∀ J', o = some J' → jAt J' < pNi P → ∃ J, aJ A = some J ∧ jAt J = jAt J' ∧ jSt J = jSt J') : SS G' s p P (setJ A o) := by
  have l1 := H.1.2.lo
  have l2 := H.1.1.lo
  obtain ⟨ha, ⟨hp1, hp2⟩, ⟨r1, r2, r3, r4, ⟨pg, dn, L, r51, r52, r53⟩, r6, r7⟩, hk1, hk2, hk3, hk4⟩ := H
  have e0 := hq s (fun h => by unfold inR at h; omega)
  refine ⟨ha, ⟨hp1.off hq (fun o ho h => by unfold inR at h; omega), hp2⟩, ⟨r1.off hq (fun h => by unfold inR at h; omega) (fun h => by unfold inR at h; omega), r2.off hq (fun o ho h => by unfold inR at h; omega), r3.off hq (fun o ho _ h => by unfold inR at h; omega), hr, ⟨pg, dn, L, r51.off hq (fun o ho h => by unfold inR at h; omega), r52, fun J' e' hat => ?_⟩, by rw [e0.1]; exact r6, by rw [e0.2.2]; exact r7.1, by rw [e0.1]; exact r7.2⟩, hk1, hk2, hk3, hkj⟩
  obtain ⟨J, e1, e2, e3⟩ := hsn J' e' hat
  have := r53 J e1 (by rw [e2]; exact hat)
  rw [e2, e3] at this
  exact this
/-- what stands changes -/
theorem SS.stand (H : SS G s p P A) {J : JB} {L : LL} (hj : aJ A = some J) (hq : eqOff (inR (s + 11) (s + 14)) G G') (hl : isLv G' (s + 11) (pPg P) (dnP P (jAt J)) L) (hkl : okL (pPg P) L) : SS G' s p P (setJ A (some (jDn J, jAt J, jWy J, jSi J, jGo J, jRe J, jSd J, L))) := by
  have l1 := H.1.2.lo
  have l2 := H.1.1.lo
  obtain ⟨ha, ⟨hp1, hp2⟩, ⟨r1, r2, r3, r4, -, r6, r7⟩, hk1, hk2, hk3, hk4⟩ := H
  have e0 := hq s (fun h => by unfold inR at h; omega)
  rw [hj] at hk4 r4
  have r4' := r4.off hq (fun o ho h => by unfold inR at h; omega)
  refine ⟨ha, ⟨hp1.off hq (fun o ho h => by unfold inR at h; omega), hp2⟩, ⟨r1.off hq (fun h => by unfold inR at h; omega) (fun h => by unfold inR at h; omega), r2.off hq (fun o ho h => by unfold inR at h; omega), r3.off hq (fun o ho _ h => by unfold inR at h; omega), r4', ⟨_, _, L, hl, hkl, fun J' e' _ => ?_⟩, by rw [e0.1]; exact r6, by rw [e0.2.2]; exact r7.1, by rw [e0.1]; exact r7.2⟩, hk1, hk2, hk3, hk4⟩
  have e2 : J' = (jDn J, jAt J, jWy J, jSi J, jGo J, jRe J, jSd J, L) := (Option.some.inj e').symm
  subst e2
  exact ⟨rfl, rfl, rfl⟩
end UPD
