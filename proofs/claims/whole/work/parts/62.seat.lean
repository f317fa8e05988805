/-! STATE (the class): a ROW told comes -/
def seatF (P : PP) (A : AS) (x y z : Nat) : Nat → Int32 := entsA P (addR A x y z) (aM A) (partA P (addR A x y z) (aM A))
def seatN (P : PP) (A : AS) (x y z n : Nat) : AS := ((addR A x y z).1, A.2.1, fun i => if i < n then mvU P (seatF P A x y z) (aM A) i (aL A i) else aL A i, aJ A, aX A)
def seatA (P : PP) (A : AS) (x y z : Nat) : AS := seatN P A x y z (pNi P)
theorem mvL_no (P : PP) (F : Nat → Int32) (r i : Nat) (L : LL) : mvL P noE F r i L = mvU P F r i L := by
  unfold mvL mvU mvT
  by_cases h : F i = -1
  · rw [if_pos (show noE i = F i from h.symm), if_pos h]
  · rw [if_neg (show ¬ noE i = F i from fun e => h e.symm), if_pos (show noE i = -1 from rfl)]
section SEA
variable {G : GG} {s p : Nat} {P : PP} {A : AS}
theorem seat_eq (hJ : aJ A = none) (x y z : Nat) : setX (admA P A x y z) (aX A) = seatA P A x y z := by
  have hmv := mv_n (P := P) (A := addR A x y z) (E := noE) (F := seatF P A x y z) (r := aM A) (pNi P)
  obtain ⟨m1, m2, m3, m4⟩ := hmv
  have e3 : (admA P A x y z).2.2.1 = fun i => if i < pNi P then mvU P (seatF P A x y z) (aM A) i (aL A i) else aL A i := by
    funext i
    refine (m3 i).trans ?_
    have hat : isAtA (addR A x y z) i = false := by
      show atO (aJ A) i = false
      rw [hJ]; rfl
    rw [hat, mvL_no]
    by_cases h : i < pNi P
    · rw [if_pos ⟨h, rfl⟩, if_pos h]; rfl
    · rw [if_neg (fun q => h q.1), if_neg h]; rfl
  have e4 : (admA P A x y z).2.2.2.1 = aJ A := by
    refine m4.trans ?_
    show (aJ A).map _ = aJ A
    rw [hJ, Option.map_none]
  have e1 : (admA P A x y z).1 = (addR A x y z).1 := m1
  have e2 : (admA P A x y z).2.1 = A.2.1 := m2
  unfold setX seatA seatN
  rw [e1, e2, e3, e4]
theorem seat_inv (h : INV P A) (hJ : aJ A = none) (hm : aM A < 30) {x y z : Nat} (hx : x ≤ 999) (hy : y ≤ 999) (hz : z ≤ 999) (hc : clash3 P A x y z = 0) : INV P (seatA P A x y z) := by
  rw [← seat_eq hJ]
  have hcan : canAdm P A x y z = true := by
    unfold canAdm
    rw [decide_eq_true hm, decide_eq_true hc]
    show fitA P (addR A x y z) noE _ = true
    unfold fitA
    rw [show aJ (addR A x y z) = none from hJ]
  exact adm_inv h hx hy hz hcan
theorem seatN_0 (x y z : Nat) : seatN P A x y z 0 = addR A x y z := by
  unfold seatN
  have : (fun i => if i < 0 then mvU P (seatF P A x y z) (aM A) i (aL A i) else aL A i) = aL A := funext fun i => if_neg (Nat.not_lt_zero _)
  rw [this]
  rfl
theorem seatN_s (x y z n : Nat) {L : LL} (h : mvU P (seatF P A x y z) (aM A) n (aL A n) = L) : seatN P A x y z (n + 1) = setL (seatN P A x y z n) n L := by
  unfold setL
  have : (fun i => if i < n + 1 then mvU P (seatF P A x y z) (aM A) i (aL A i) else aL A i) = fun j => if j = n then L else aL (seatN P A x y z n) j := by
    funext i
    by_cases e : i = n
    · rw [if_pos e, e, if_pos (Nat.lt_succ_self _), h]
    · rw [if_neg e]
      show _ = if i < n then _ else _
      by_cases g : i < n
      · rw [if_pos g, if_pos (by omega)]
      · rw [if_neg g, if_neg (by omega)]
  unfold seatN
  rw [this]
  rfl
theorem s_St_seat (H : SS G s p P A) (h : INV P A) (hJ : aJ A = none) (hm : aM A < 30) {x y z : Nat} (hx : x ≤ 999) (hy : y ≤ 999) (hz : z ≤ 999) : ∃ G', f_St_seat [.ref s, .int (nI x), .int (nI y), .int (nI z)] (hp G) = some (none, hp G') ∧ SS G' s p P (seatA P A x y z) ∧ eqOff (inR s (s + 28)) G G' := by
  have hn := H.ni
  obtain ⟨G1, a1, a2, a3⟩ := s_Rw_add H.1.1.rw H.rw H.kr hm hx hy hz
  have H1 : SS G1 s p P (addR A x y z) := H.rows (a3.mono (fun n h => by unfold inR at h ⊢; omega)) a2 (H.kr.add hm hx hy hz)
  have hr1 : aM A < aM (addR A x y z) := Nat.lt_succ_self _
  rw [e_St_seat s _ _ _ _ (ob_St G H.os), gg_St_rows _ H.os, Option.bind_some, a1, ci_some, H1.gp, Option.bind_some, gg_Pl_part _ H1.op, Option.bind_some, H1.pa hr1, ci_some, gg_St_willBe _ H1.os, Option.bind_some]
  obtain ⟨G2, b1, H2, b2', b3⟩ := s_St_entriesOf H1 (Or.inr rfl) hr1 (partA P (addR A x y z) (aM A))
  rw [b1, cv_some]
  have q2 : eqOff (inR s (s + 28)) G G2 := (a3.mono (fun n h => by unfold inR at h ⊢; omega)).tr (b3.mono (fun n h => by unfold inR at h ⊢; omega))
  have hF : isE G2 (s + 15) (seatF P A x y z) := b2'
  have hrow : ∀ i, i < pNi P → ∀ c ∈ (aL A i).flatten, c % 32 ≠ aM A := fun i hi c hc e => by
    have := (h.ent i hi (by unfold isAtA; rw [hJ]; rfl) c hc).1
    have := h.kr.2.2.1 _ this
    omega
  have key : ∀ (j i f : Nat) (G3 : GG), i + j = pNi P → j < f → SS G3 s p P (seatN P A x y z i) → isE G3 (s + 15) (seatF P A x y z) → eqOff (inR s (s + 28)) G G3 → ∃ G', mm_run p_St_seat f 38 [.ref s, .int (nI (aM A)), .int (nI i)] [] (hp G3) = some (none, hp G') ∧ SS G' s p P (seatA P A x y z) ∧ eqOff (inR s (s + 28)) G G' := by
    intro j
    induction j with
    | zero =>
      intro i f G3 hj hf H3 hE q3
      obtain ⟨f, rfl⟩ : ∃ g, f = g + 1 := ⟨f - 1, by omega⟩
      rw [e_St_seat_38, H3.gp, Option.bind_some, H3.gn, Option.bind_some, if_neg (lm (by omega) (by omega))]
      have : i = pNi P := by omega
      subst this
      exact ⟨G3, rfl, H3, q3⟩
    | succ j ih =>
      intro i f G3 hj hf H3 hE q3
      obtain ⟨f, rfl⟩ : ∃ g, f = g + 1 := ⟨f - 1, by omega⟩
      have hi : i < pNi P := by omega
      have eLi : aL (seatN P A x y z i) i = aL A i := if_neg (Nat.lt_irrefl _)
      rw [e_St_seat_38, H3.gp, Option.bind_some, H3.gn, Option.bind_some, if_pos (lp hi (by omega)), if_neg (n_m1 (by omega)), gg_St_willBe _ H3.os, Option.bind_some, rr_St_willBe _ H3.os (by omega), Option.bind_some, hE i (by omega), show nI i + 1 = nI (i + 1) from nI_add i 1]
      rcases entsA_en H1 hr1 (partA P (addR A x y z) (aM A)) hi with e | ⟨v, hv, e⟩
      · have e' : seatF P A x y z i = -1 := e
        rw [if_pos e']
        refine ih (i + 1) f G3 (by omega) (by omega) ?_ hE q3
        rw [seatN_s x y z i (L := aL A i) (by unfold mvU; rw [if_pos e'])]
        have : setL (seatN P A x y z i) i (aL A i) = seatN P A x y z i := by
          have := setL_self (seatN P A x y z i) i
          rw [eLi] at this
          exact this
        rw [this]
        exact H3
      · have e' : seatF P A x y z i = nI v := e
        have hne : ¬ seatF P A x y z i = -1 := by rw [e']; exact n_m1 (by omega)
        have hc32 := codD_lt (dn := dnP P i) (v := v) (r := aM A) hv hm
        have hno : codD (dnP P i) v (aM A) % 32 ∉ (aL A i).flatten.map (· % 32) := fun q => by
          obtain ⟨c, hc, ec⟩ := List.mem_map.mp q
          exact hrow i hi c hc (by rw [← hc32.2]; exact ec)
        have hno2 : codD (dnP P i) v (aM A) ∉ (aL A i).flatten := fun q => hno (List.mem_map.mpr ⟨_, q, rfl⟩)
        have hlen := rows_lt (h.kl hi) (by rw [hc32.2]; exact hm) hno
        have ht := H3.tr hi
        have hk := H3.kl hi
        rw [eLi] at ht hk
        obtain ⟨G4, c1, c2, c3⟩ := s_Lv_put (H3.ol hi) ht hk hlen hc32.1 hno2
        have c2o := put_ok hk hlen hc32.1 (by rw [hc32.2]; exact hm) hno
        rw [if_neg hne, gg_St_trees _ H3.os, Option.bind_some, H3.gt hi, Option.bind_some, Option.bind_some, H3.gt hi, Option.bind_some, Option.bind_some, rr_St_willBe _ H3.os (by omega), Option.bind_some, hE i (by omega), e', s_Lv_code (H3.ol hi) ht hv, ci_some, show nI ((if dnP P i = true then 999 - v else v) * 32 + aM A) = nI (codD (dnP P i) v (aM A)) from rfl, c1, cv_some]
        refine ih (i + 1) f G4 (by omega) (by omega) ?_ (fun k hk => ?_) (q3.tr (c3.mono (fun n h => by unfold inR at h ⊢; omega)))
        · rw [seatN_s x y z i (L := putL (pPg P) (codD (dnP P i) v (aM A)) (aL A i)) (by unfold mvU; rw [if_neg hne, e', nI_tn (by omega)])]
          exact H3.tree hi c3 c2 c2o
        · rw [(c3 (s + 15) (fun h => by unfold inR at h; omega)).1]
          exact hE k hk
  exact key (pNi P) 0 mm_fu G2 (by omega) (fu_lt (by omega)) (by rw [seatN_0]; exact H2) hF q2
end SEA
