/-! THE REFERENCE: entries moved -/
def mvH (P : PP) (A B : AS) (E F : Nat → Int32) (r : Nat) : Prop := (INV P A ∧ r < 30 ∧ bt (aC A) r = false) ∧ (aL B = aL A ∧ aJ B = aJ A ∧ aC B = aC A) ∧ fitA P B E F = true ∧ (∀ i, i < pNi P → ∀ c, c % 32 ≠ r → (okV P B i c ↔ okV P A i c)) ∧ ((∀ i, i < pNi P → isEnt P A E r i) ∧ ∀ i, i < pNi P → isEnt P B F r i) ∧ okR (aV B) (aM B) (aD B) (aC B) ∧ okP (aN B) (aS B) (aT B)
section MDM
variable {G : GG} {b : Nat} {P : PP} {A B C : AS} {E F : Nat → Int32} {r n : Nat}
theorem mvH.tree (h : mvH P A B E F r) {j : Nat} (hj : j < pNi P) (ha : isAtA A j = false) : (okL (pPg P) (mvT P E r j (aL A j)) ∧ (∀ c ∈ (mvT P E r j (aL A j)).flatten, c % 32 ≠ r)) ∧ okL (pPg P) (mvL P E F r j (aL A j)) := by
  obtain ⟨⟨hi, hr, hch⟩, -, -, hs, ⟨hE, hF⟩, -⟩ := h
  have hK : ∀ c, okC P A j c ∧ atN (aJ A) < j → c % 32 ≠ r := fun c q e => by
    have := q.1.2.2
    rw [e, hch] at this
    exact absurd this (by decide)
  obtain ⟨t1, t2⟩ := mvT_mem (E := E) hr (hi.kl hj) (hi.2.2.1 j hj ha) hK (hE j hj)
  refine ⟨⟨t1, fun c hc => ?_⟩, (mvL_mem hr (hi.kl hj) (hi.2.2.1 j hj ha) hK (hE j hj) (hF j hj) (hs j hj)).1⟩
  rcases (t2 c).mp hc with q | q
  · exact q.2
  · exact hK c q
theorem mvH.room (h : mvH P A B E F r) {J : JB} (hJ : aJ A = some J) (ha : jAt J < pNi P) : (jSd J).length + moreE E F (jAt J) ≤ 40 := by
  obtain ⟨-, ⟨-, hJB, -⟩, hfit, -⟩ := h
  unfold fitA at hfit
  rw [hJB, hJ] at hfit
  simp only [Bool.or_eq_true, Bool.not_eq_true', decide_eq_false_iff_not, decide_eq_true_eq] at hfit
  rcases hfit with q | q
  · exact absurd ha q
  · exact q
theorem mvd_at (h : mvH P A B E F r) (hd : mvd P E F r n B C) (k : Nat) : isAtA C k = isAtA A k := by
  unfold isAtA
  rw [hd.2.2.2, at_map, h.2.1.2.1]
theorem mvd_job (h : mvH P A B E F r) (hd : mvd P E F r n B C) {J : JB} (hJ : aJ A = some J) : aJ C = some (jSdA J (if jAt J < n then sdE E F r (jAt J) else [])) := by
  rw [hd.2.2.2, h.2.1.2.1, hJ, Option.map_some]
theorem mvd_oks (h : mvH P A B E F r) (hn : n ≤ pNi P) (hd : mvd P E F r n B C) : okS P C := by
  have hi := h.1.1
  have hni := hi.ni
  obtain ⟨-, ⟨hL, hJB, hC⟩, -, -, -, hkR, hkP⟩ := id h
  refine ⟨⟨hi.pp, ?_, ?_, fun j hj => ?_, ?_⟩, fun J hJ ha => ?_⟩
  · unfold aV aM aD aC; rw [hd.1]; exact hkR
  · unfold aN aS aT; rw [hd.2.1]; exact hkP
  · rw [hd.2.2.1 j]
    by_cases q : j < n ∧ isAtA B j = false
    · have ha : isAtA A j = false := by unfold isAtA at q ⊢; rw [← hJB]; exact q.2
      rw [if_pos q, hL]
      exact (h.tree (by omega) ha).2
    · rw [if_neg q, hL]
      exact hi.ka.2.2.1 j hj
  · cases hJ : aJ A with
    | none =>
      have : aJ C = none := by rw [hd.2.2.2, hJB, hJ, Option.map_none]
      rw [this]; trivial
    | some J =>
      rw [mvd_job h hd hJ]
      have hk := hi.ka.2.2.2
      rw [hJ] at hk
      obtain ⟨q1, q2, q3, q4⟩ := hk
      refine ⟨q1, q2, ?_, q4⟩
      show (jSd J ++ _).length ≤ 40
      rw [List.length_append]
      by_cases ha : jAt J < n
      · rw [if_pos ha, sdE_len]; exact h.room hJ (by omega)
      · rw [if_neg ha]; simpa using q3
  · cases hJ0 : aJ A with
    | none =>
      have : aJ C = none := by rw [hd.2.2.2, hJB, hJ0, Option.map_none]
      rw [this] at hJ; exact absurd hJ (by simp)
    | some J0 =>
      rw [mvd_job h hd hJ0] at hJ
      have := Option.some.inj hJ
      subst this
      exact (show okL (pPg P) (jSt J0) from hi.st hJ0 ha)
/-- an entry that goes, in a move -/
theorem mv_leave (h : mvH P A B E F r) (hn : n < pNi P) (hd : mvd P E F r n B C) (H : MS G b P C) (hne : E n ≠ F n) {v : Nat} (hv : v ≤ 999) (hE : E n = nI v) : ∃ G', f_Md_leavesIndex [.ref 618, .int (nI b), .int (nI n), .int (nI r), .int (nI v)] (hp G) = some (none, hp G') ∧ MS G' b P (takeE P C n r (E n)) ∧ okS P (takeE P C n r (E n)) ∧ mdF (mB b) G G' := by
  have hs := mvd_oks h (by omega) hd
  have hi := h.1.1
  have hr := h.1.2.1
  obtain ⟨-, ⟨hL, hJB, hC⟩, -, -, ⟨hEn, -⟩, -⟩ := id h
  have hnm : ¬ E n = -1 := by rw [hE]; exact n_m1 (by omega)
  have eL : aL C n = aL A n := by rw [hd.2.2.1 n, if_neg (fun q => absurd q.1 (Nat.lt_irrefl _)), hL]
  have eT : takeE P C n r (E n) = takeA P C n r v := by unfold takeE; rw [if_neg hnm, hE, nI_tn (by omega)]
  have hroom : ∀ J, aJ C = some J → jAt J = n → (jSd J).length < 40 := fun J hJ ha => by
    cases hJ0 : aJ A with
    | none => rw [hd.2.2.2, hJB, hJ0, Option.map_none] at hJ; exact absurd hJ (by simp)
    | some J0 =>
      rw [mvd_job h hd hJ0] at hJ
      have := Option.some.inj hJ
      subst this
      have ha0 : jAt J0 = n := ha
      rw [if_neg (by omega)]
      have := h.room hJ0 (by omega)
      unfold moreE at this
      rw [ha0, if_neg hne, if_neg hnm] at this
      show (jSd J0 ++ []).length < 40
      rw [List.append_nil]
      omega
  have hmem : isAtA C n = false → codD (dnP P n) v r ∈ (aL C n).flatten := fun ha => by
    rw [mvd_at h hd] at ha
    rw [eL, hi.2.2.1 n hn ha]
    rcases hEn n hn with ⟨e1, -⟩ | ⟨u, hu, e1, h1⟩
    · exact absurd e1 hnm
    · have : u = v := n_inj (by omega) (by omega) (e1.symm.trans hE)
      subst this
      exact Or.inl ((h1 _ (codD_lt hu hr).2).mpr rfl)
  obtain ⟨G', r1, r2, r3⟩ := m_leaves H hs hn hr hv hroom hmem
  rw [eT]
  refine ⟨G', r1, r2, ?_, r3⟩
  -- it is as it may be
  unfold takeA
  cases ha : isAtA C n
  · rw [if_neg (by decide)]
    exact hs.tree (tak_ok (hs.kl hn)) _
  · rw [if_pos rfl]
    obtain ⟨J, hJ, hat⟩ := atO_some ha
    unfold layA
    rw [hJ]
    have hk := hs.ka.2.2.2
    rw [hJ] at hk
    obtain ⟨q1, q2, q3, q4⟩ := hk
    refine hs.job (J := jLay J (((1000 * nI r) + nI v) - 40000)) ⟨q1, q2, ?_, q4⟩ (fun _ => show okL (pPg P) (jSt J) from hs.st hJ (by omega)) _
    show (jSd J ++ _).length ≤ 40
    rw [List.length_append]
    have := hroom J hJ hat
    simp only [List.length_cons, List.length_nil]
    omega
/-- an entry that comes, in a move; what had to go is gone -/
theorem mv_enter (h : mvH P A B E F r) (hn : n < pNi P) (hd : mvd P E F r n B C) (H : MS G b P (takeE P C n r (E n))) (hs' : okS P (takeE P C n r (E n))) (hne : E n ≠ F n) {v : Nat} (hv : v ≤ 999) (hF : F n = nI v) : ∃ G', f_Md_entersIndex [.ref 618, .int (nI b), .int (nI n), .int (nI r), .int (nI v)] (hp G) = some (none, hp G') ∧ MS G' b P (moveE P E F r C n) ∧ mdF (mB b) G G' := by
  have hs := mvd_oks h (by omega) hd
  have hi := h.1.1
  have hr := h.1.2.1
  obtain ⟨-, ⟨hL, hJB, hC⟩, -, -, ⟨hEn, -⟩, -⟩ := id h
  have hnm : ¬ F n = -1 := by rw [hF]; exact n_m1 (by omega)
  have eL : aL C n = aL A n := by rw [hd.2.2.1 n, if_neg (fun q => absurd q.1 (Nat.lt_irrefl _)), hL]
  have hat : isAtA (takeE P C n r (E n)) n = isAtA C n := by unfold isAtA; rw [tk_J, at_map]
  have eM : moveE P E F r C n = putA P (takeE P C n r (E n)) n r v := by unfold moveE; rw [if_neg hne]; unfold putE; rw [if_neg hnm, hF, nI_tn (by omega)]
  have hroom : ∀ J, aJ (takeE P C n r (E n)) = some J → jAt J = n → (jSd J).length < 40 := fun J hJ ha => by
    cases hJ0 : aJ A with
    | none => rw [tk_J, hd.2.2.2, hJB, hJ0, Option.map_none, Option.map_none] at hJ; exact absurd hJ (by simp)
    | some J0 =>
      rw [tk_J, mvd_job h hd hJ0, Option.map_some] at hJ
      have := Option.some.inj hJ
      subst this
      have ha0 : jAt J0 = n := ha
      have := h.room hJ0 (by omega)
      unfold moreE at this
      rw [ha0, if_neg hne, if_neg hnm] at this
      rw [jSdA_at, if_pos ha0, if_neg (show ¬ jAt J0 < n by omega)]
      show ((jSd J0 ++ []) ++ sdT E r n).length < 40
      rw [List.append_nil, List.length_append]
      unfold sdT
      by_cases e : E n = -1
      · rw [if_pos e] at this ⊢
        simp only [List.length_nil]
        omega
      · rw [if_neg e] at this ⊢
        simp only [List.length_cons, List.length_nil]
        omega
  have hno : isAtA (takeE P C n r (E n)) n = false → r ∉ (aL (takeE P C n r (E n)) n).flatten.map (· % 32) := fun ha q => by
    rw [hat] at ha
    rw [tk_L, ha, if_neg (by decide), eL] at q
    rw [mvd_at h hd] at ha
    obtain ⟨c, hc, e⟩ := List.mem_map.mp q
    exact (h.tree hn ha).1.2 c hc e
  obtain ⟨G', r1, r2, r3⟩ := m_enters H hs' hn hr hv hroom hno
  rw [eM]
  exact ⟨G', r1, r2, r3⟩
theorem MS.rowsS (H : MS G b P C) (h : okS P C) : rowsM G b (aV C) (aM C) (aD C) (aC C) (aN C) (aS C) (aT C) := ⟨⟨H.hb, H.d, H.c⟩, H.v, okV3_of h.kr, h.kr.1, fun _ hr => h.kr.vis hr, H.pt, h.kp.1⟩
theorem m_belS (H : MS G b P C) (h : okS P C) {i r : Nat} (hi : i < pNi P) (hr : r < aM C) : f_Md_belongs [.ref 618, .int (nI b), .int (nI i), .int (nI r)] (hp G) = some (some (.int (b2 (belA P C i r))), hp G) := m_belongs0 (H.rowsS h) H.hP h.pp hi hr
theorem m_valS (H : MS G b P C) (h : okS P C) {r k : Nat} (hr : r < aM C) (hk : k < 3) : f_Md_valueOf [.ref 618, .int (nI b), .int (nI r), .int (nI k)] (hp G) = some (some (.int (nI (aV C r k))), hp G) := s_Md_valueOf H.hb H.v (okV3_of h.kr) hr h.kr.1 hk
theorem bel_eq (h1 : C.1 = B.1) (h2 : C.2.1 = B.2.1) (i r : Nat) : belA P C i r = belA P B i r := by
  obtain ⟨a, c, t⟩ := B
  obtain ⟨a', c', t'⟩ := C
  have e1 : a' = a := h1
  have e2 : c' = c := h2
  subst e1
  subst e2
  rfl
theorem ents_i {i : Nat} (hi : i < pNi P) : entsA P B r (partA P B r) i = if belA P B i r then nI (valA P B i r) else -1 := by
  unfold entsA belA
  by_cases e : pKd P i = 3
  · cases hp1 : partA P B r
    · rw [if_neg (fun q => q.2.elim (fun q => absurd q (by decide)) (fun q => q e)), show (pKd P i == 3) = true by simpa using e]
      rfl
    · rw [if_pos ⟨hi, Or.inl rfl⟩, Bool.or_true, if_pos rfl]
  · rw [if_pos ⟨hi, Or.inr e⟩, show (pKd P i == 3) = false by simpa using e, Bool.not_false, Bool.true_or, if_pos rfl]
/-- how many would come on the side, of one INDEX -/
theorem m_asideBy (H : MS G b P C) (h : okS P C) {i : Nat} (hi : i < 4) (x y z : Bool) : f_Md_asideBy [.ref 618, .int (nI b), .int (nI i), .int (b2 x), .int (b2 y), .int (b2 z)] (hp G) = some (some (.int (nI (if isAtA C i && !z then (if x then 1 else 0) + (if y then 1 else 0) else 0))), hp G) := by
  rw [e_Md_asideBy 618 _ _ _ _ _ _ (ob_Md G), m_isAt H h hi, ci_some]
  cases isAtA C i
  · rw [if_pos (by decide)]; rfl
  · rw [if_neg (by decide)]
    cases x <;> cases y <;> cases z <;> rfl
end MDM
