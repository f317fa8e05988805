/-! STATE (the class): STEPS, as they always can be -/
/-- a STEP: what it answers, what it leaves -/
def stA (P : PP) (A : AS) : Int32 × AS := match aJ A with
  | none => (-1, A)
  | some J => if jDn J then (-1, A) else if jAt J < pNi P then (nI (nxR A J), advA P A J (nxC A J)) else (-2, doneA A)
/-- so many STEPS as can be: how many, what they leave -/
def goS (P : PP) : Nat → AS → Nat × AS
  | 0, A => (0, A)
  | n + 1, A => if (stA P A).1 = -1 then (0, A) else ((goS P n (stA P A).2).1 + 1, (goS P n (stA P A).2).2)
theorem wy_of {w : Int32} (h : w = 0 ∨ w = 1) : w = nI (wayOf w) := by
  unfold wayOf
  rcases h with e | e
  · subst e; rfl
  · subst e; rfl
section GOS
variable {G : GG} {s p : Nat} {P : PP} {A : AS}
theorem stA_inv (h : INV P A) : INV P (stA P A).2 := by
  unfold stA
  cases hJ : aJ A with
  | none => exact h
  | some J =>
    dsimp only
    cases hd : jDn J
    · rw [if_neg (by decide)]
      by_cases ha : jAt J < pNi P
      · rw [if_pos ha]; exact step_inv h hJ ha
      · rw [if_neg ha]; exact over_inv h hJ ha
    · rw [if_pos rfl]; exact h
theorem s_adv (H : SS G s p P A) (h : INV P A) : ∃ G', f_St_advance [.ref s] (hp G) = some (some (.int (stA P A).1), hp G') ∧ SS G' s p P (stA P A).2 ∧ eqOff (stR s) G G' := by
  unfold stA
  cases hJ : aJ A with
  | none => exact ⟨G, s_St_advance_no H (by rw [hJ]; rfl), H, eqOff.rf⟩
  | some J =>
    dsimp only
    cases hd : jDn J
    · rw [if_neg (by decide)]
      by_cases ha : jAt J < pNi P
      · rw [if_pos ha]
        obtain ⟨-, -, -, -, iJ⟩ := id h
        obtain ⟨-, j2, j3, -⟩ := iJ J hJ
        obtain ⟨-, -, -, a7, a8, a9, a10⟩ := j2 ha
        obtain ⟨⟨rs, n1⟩, n2, n3, n4, n5, n6⟩ := nx_ok h hJ ha
        have h1 : 1 ≤ sumL P A := by
          have := sum_set (A := A) ha []
          have e0 : leftN (aC A) [] = 0 := rfl
          omega
        exact s_St_advance H hJ hd ha (wy_of a10) n1 (by omega) n3 (by omega) (by omega) (by omega) (fun hl => (rpl_car (tak_ok (h.kl ha)) (last_rpl h hJ ha hl)).1)
      · rw [if_neg ha]
        exact s_St_over H hJ hd (by omega)
    · rw [if_pos rfl]
      exact ⟨G, s_St_advance_no H (by rw [hJ]; show (!jDn J) = false; rw [hd]; rfl), H, eqOff.rf⟩
theorem stA_no (hi : INV P A) (h : (stA P A).1 = -1) : (stA P A).2 = A := by
  unfold stA at h ⊢
  cases hJ : aJ A with
  | none => rfl
  | some J =>
    rw [hJ] at h
    dsimp only at h ⊢
    cases hd : jDn J
    · rw [hd, if_neg (by decide)] at h
      by_cases ha : jAt J < pNi P
      · rw [if_pos ha] at h
        have := (nx_ok hi hJ ha).2.1
        exact absurd h (n_m1 (by omega))
      · rw [if_neg ha] at h
        exact absurd (show (-2 : Int32) = -1 from h) (by decide)
    · rw [if_pos rfl]
theorem goS_inv : ∀ (n : Nat) {A : AS}, INV P A → INV P (goS P n A).2
  | 0, _, h => h
  | n + 1, A, h => by
    unfold goS
    split
    · exact h
    · exact goS_inv n (stA_inv h)
theorem goS_le : ∀ (n : Nat) (A : AS), (goS P n A).1 ≤ n
  | 0, _ => Nat.le_refl _
  | n + 1, A => by
    unfold goS
    split
    · exact Nat.zero_le _
    · exact Nat.succ_le_succ (goS_le n _)
theorem s_St_advanceBy (H : SS G s p P A) (h : INV P A) {n : Nat} (hn : n ≤ 200) : ∃ G', f_St_advanceBy [.ref s, .int (nI n)] (hp G) = some (some (.int (nI (goS P n A).1)), hp G') ∧ SS G' s p P (goS P n A).2 ∧ eqOff (stR s) G G' := by
  rw [e_St_advanceBy s _ _ (ob_St G H.os)]
  have key : ∀ (j i f : Nat) (G1 : GG) (A1 : AS), i + j = n → j < f → SS G1 s p P A1 → INV P A1 → eqOff (stR s) G G1 → ∃ G', mm_run p_St_advanceBy f 2 [.ref s, .int (nI n), .int (nI i)] [] (hp G1) = some (some (.int (nI (i + (goS P j A1).1))), hp G') ∧ SS G' s p P (goS P j A1).2 ∧ eqOff (stR s) G G' := by
    intro j
    induction j with
    | zero =>
      intro i f G1 A1 hj hf H1 h1 q1
      obtain ⟨f, rfl⟩ : ∃ g, f = g + 1 := ⟨f - 1, by omega⟩
      rw [e_St_advanceBy_2, if_neg (lm (by omega) (by omega)), show i + (goS P 0 A1).1 = n from hj]
      exact ⟨G1, rfl, H1, q1⟩
    | succ j ih =>
      intro i f G1 A1 hj hf H1 h1 q1
      obtain ⟨f, rfl⟩ : ∃ g, f = g + 1 := ⟨f - 1, by omega⟩
      obtain ⟨G2, a1, a2, a3⟩ := s_adv H1 h1
      rw [e_St_advanceBy_2, if_pos (lp (by omega) (by omega)), a1, ci_some]
      unfold goS
      by_cases e : (stA P A1).1 = -1
      · rw [if_pos e, if_pos e]
        refine ⟨G2, rfl, ?_, q1.tr a3⟩
        rw [stA_no h1 e] at a2
        exact a2
      · rw [if_neg e, if_neg e, show nI i + 1 = nI (i + 1) from nI_add i 1]
        obtain ⟨G3, b1, b2, b3⟩ := ih (i + 1) f G2 _ (by omega) (by omega) a2 (stA_inv h1) (q1.tr a3)
        rw [show i + 1 + (goS P j (stA P A1).2).1 = i + ((goS P j (stA P A1).2).1 + 1) by omega] at b1
        exact ⟨G3, b1, b2, b3⟩
  obtain ⟨G', a, b, c⟩ := key n 0 mm_fu G A (by omega) (fu_lt (by omega)) H h eqOff.rf
  rw [Nat.zero_add] at a
  exact ⟨G', a, b, c⟩
end GOS
