/-! LEAFSWEEP (the class): by hand -/
def keepI (U : List AS) (A : AS) (x : Int32) : List AS := if x = -1 then U else pushU U A
def keepB (U : List AS) (A : AS) (b : Bool) : List AS := if b then pushU U A else U
section CWH
variable {Z G G' : GG} {p : Nat} {P : PP} {T : TT} {A A' : AS} {U : List AS} {cu : CU}
theorem c_int {G1 G2 : GG} (W1 : CW Z G1 p P T A U cu) (HS : SS G1 (lsSp G1) p P A) {x6 : Int32} (H2 : SS G2 (lsNow G1) p P A') (h' : INV P A') (q : eqOff (inR (lsNow G1) (lsNow G1 + 28)) G1 G2) : ∃ G', (if x6 = (-1) then (some (some (.int x6), hp G2) : Option (Option Value × mm_H)) else mm_cv (f_Ls_remember [.ref 1] (hp G2)) fun h7 => some (some (.int x6), h7)) = some (some (.int x6), hp G') ∧ CW Z G' p P T A' (keepI U A x6) cu := by
  obtain ⟨⟨⟨a1, a2, a3⟩, a4, a5⟩, -⟩ := id W1
  have W2 := W1.now q H2 h'
  have HS2 : SS G2 (lsSp G2) p P A := by
    have e1 : lsSp G2 = lsSp G1 := by
      unfold lsSp
      rw [(q 1 (fun h => by unfold inR at h; have := a1.1.lo; omega)).2.2]
    rw [e1]
    exact HS.apart a1.1 a3 q
  unfold keepI
  by_cases e : x6 = -1
  · rw [if_pos e, if_pos e]
    exact ⟨G2, rfl, W2⟩
  · rw [if_neg e, if_neg e]
    obtain ⟨G3, r1, r2, -⟩ := c_remember W2 HS2 W1.inv
    rw [r1, cv_some]
    exact ⟨G3, rfl, r2⟩
theorem c_bool {G1 G2 : GG} (W1 : CW Z G1 p P T A U cu) (HS : SS G1 (lsSp G1) p P A) {ok : Bool} (H2 : SS G2 (lsNow G1) p P A') (h' : INV P A') (q : eqOff (inR (lsNow G1) (lsNow G1 + 28)) G1 G2) : ∃ G', mm_ci (f_Ls_rememberIf [.ref 1, .int (b2 ok)] (hp G2)) (fun x8 h7 => if x8 = 0 ∨ x8 = 1 then (some (some (.int x8), h7) : Option (Option Value × mm_H)) else none) = some (some (.int (b2 ok)), hp G') ∧ CW Z G' p P T A' (keepB U A ok) cu := by
  obtain ⟨⟨⟨a1, a2, a3⟩, a4, a5⟩, -⟩ := id W1
  have W2 := W1.now q H2 h'
  have HS2 : SS G2 (lsSp G2) p P A := by
    have e1 : lsSp G2 = lsSp G1 := by
      unfold lsSp
      rw [(q 1 (fun h => by unfold inR at h; have := a1.1.lo; omega)).2.2]
    rw [e1]
    exact HS.apart a1.1 a3 q
  unfold keepB
  rw [e_Ls_rememberIf 1 _ _ (ob_Ls G2)]
  cases ok
  · rw [if_pos (by decide), if_pos (by decide), ci_some, if_pos (by decide), if_neg (by decide)]
    exact ⟨G2, rfl, W2⟩
  · obtain ⟨G3, r1, r2, -⟩ := c_remember W2 HS2 W1.inv
    rw [if_neg (by decide), r1, cv_some, if_pos (by decide), ci_some, if_pos (by decide), if_pos rfl]
    exact ⟨G3, rfl, r2⟩
theorem no_off (s : Nat) : eqOff (inR s (s + 28)) G G := eqOff.rf
/-- INSERT -/
def insW (P : PP) (A : AS) (x y z : Int32) : Int32 × AS := if isVal x && (isVal y && isVal z) then admO P A x.toNatClampNeg y.toNatClampNeg z.toNatClampNeg else (-1, A)
theorem k_insert (W : CW Z G p P T A U cu) (x y z : Int32) : ∃ G', f_Ls_insert [.ref 1, .int x, .int y, .int z] (hp G) = some (some (.int (insW P A x y z).1), hp G') ∧ CW Z G' p P T (insW P A x y z).2 (keepI U A (insW P A x y z).1) cu := by
  rw [e_Ls_insert 1 _ _ _ _ (ob_Ls G)]
  obtain ⟨G1, r1, W1, HS, e1⟩ := c_aside W (fun h3 => (mm_gr 11 13 h3 1).bind fun r4 => mm_ci (f_St_admit [.ref r4, .int x, .int y, .int z] h3) fun x6 h5 => if x6 = (-1) then (some (some (.int x6), h5) : Option (Option Value × mm_H)) else mm_cv (f_Ls_remember [.ref 1] h5) fun h7 => some (some (.int x6), h7))
  rw [r1, W1.gn, Option.bind_some]
  unfold insW
  cases hv : isVal x && (isVal y && isVal z)
  · rw [s_St_admit_bad W1.ss hv, ci_some]
    exact c_int W1 HS (x6 := -1) W1.ss W1.inv (no_off _)
  · simp only [Bool.and_eq_true] at hv
    obtain ⟨v1, v2, v3⟩ := hv
    obtain ⟨a, ha, rfl⟩ := (isVal_iff x).mp v1
    obtain ⟨b, hb, rfl⟩ := (isVal_iff y).mp v2
    obtain ⟨c, hc, rfl⟩ := (isVal_iff z).mp v3
    obtain ⟨G2, s1, s2, s3⟩ := c_admit W1.ss W1.inv ha hb hc
    rw [s1, ci_some, if_pos rfl, nI_tn (by omega), nI_tn (by omega), nI_tn (by omega)]
    exact c_int W1 HS s2 (admO_inv W1.inv ha hb hc) s3
/-- REMOVE -/
def remW (P : PP) (A : AS) (x : Int32) : Bool × AS := if x < 0 then (false, A) else expO P A x.toNatClampNeg
theorem k_remove (W : CW Z G p P T A U cu) (x : Int32) : ∃ G', f_Ls_remove [.ref 1, .int x] (hp G) = some (some (.int (b2 (remW P A x).1)), hp G') ∧ CW Z G' p P T (remW P A x).2 (keepB U A (remW P A x).1) cu := by
  rw [e_Ls_remove 1 _ _ (ob_Ls G)]
  obtain ⟨G1, r1, W1, HS, e1⟩ := c_aside W (fun h3 => (mm_gr 11 13 h3 1).bind fun r4 => mm_ci (f_St_expel [.ref r4, .int x] h3) fun x6 h5 => mm_ci (f_Ls_rememberIf [.ref 1, .int x6] h5) fun x8 h7 => if x8 = 0 ∨ x8 = 1 then (some (some (.int x8), h7) : Option (Option Value × mm_H)) else none)
  rw [r1, W1.gn, Option.bind_some]
  unfold remW
  by_cases hn : x < 0
  · rw [s_St_expel_neg W1.ss hn, ci_some, if_pos hn]
    exact c_bool W1 HS (ok := false) W1.ss W1.inv (no_off _)
  · obtain ⟨r, hr, rfl⟩ := (n_cases x).resolve_left hn
    obtain ⟨G2, s1, s2, s3⟩ := c_expel (P := P) (A := A) W1.ss hr
    rw [s1, ci_some, if_neg hn, nI_tn (by omega)]
    exact c_bool W1 HS s2 (expO_inv W1.inv _) s3
/-- CHANGE -/
def chgW (P : PP) (A : AS) (x y z : Int32) : Bool × AS := if (!decide (x < 0) && (!decide (y < 0) && !decide (2 < y))) && isVal z then amdO P A x.toNatClampNeg y.toNatClampNeg z.toNatClampNeg else (false, A)
theorem k_change (W : CW Z G p P T A U cu) (x y z : Int32) : ∃ G', f_Ls_change [.ref 1, .int x, .int y, .int z] (hp G) = some (some (.int (b2 (chgW P A x y z).1)), hp G') ∧ CW Z G' p P T (chgW P A x y z).2 (keepB U A (chgW P A x y z).1) cu := by
  rw [e_Ls_change 1 _ _ _ _ (ob_Ls G)]
  obtain ⟨G1, r1, W1, HS, e1⟩ := c_aside W (fun h3 => (mm_gr 11 13 h3 1).bind fun r4 => mm_ci (f_St_amend [.ref r4, .int x, .int y, .int z] h3) fun x6 h5 => mm_ci (f_Ls_rememberIf [.ref 1, .int x6] h5) fun x8 h7 => if x8 = 0 ∨ x8 = 1 then (some (some (.int x8), h7) : Option (Option Value × mm_H)) else none)
  rw [r1, W1.gn, Option.bind_some]
  unfold chgW
  by_cases hn : x < 0
  · rw [s_St_amend_neg W1.ss hn, ci_some, decide_eq_true hn]
    exact c_bool W1 HS (ok := false) W1.ss W1.inv (no_off _)
  · obtain ⟨r, hr, rfl⟩ := (n_cases x).resolve_left hn
    rw [decide_eq_false hn]
    by_cases hy : y < 0
    · rw [s_St_amend_bad W1.ss hr (Or.inl (Or.inl hy)), ci_some, decide_eq_true hy]
      exact c_bool W1 HS (ok := false) W1.ss W1.inv (no_off _)
    · obtain ⟨k, hk, rfl⟩ := (n_cases y).resolve_left hy
      rw [decide_eq_false hy]
      by_cases hk3 : k < 3
      · rw [decide_eq_false (show ¬ (2 : Int32) < nI k from lm (a := 2) (by omega) (by decide))]
        cases hz : isVal z
        · rw [s_St_amend_bad W1.ss hr (Or.inr hz), ci_some]
          exact c_bool W1 HS (ok := false) W1.ss W1.inv (no_off _)
        · obtain ⟨v, hv, rfl⟩ := (isVal_iff z).mp hz
          obtain ⟨G2, s1, s2, s3⟩ := c_amend W1.ss W1.inv hr hk3 hv
          rw [s1, ci_some, if_pos (show (!false && (!false && !false) && true) = true from rfl), nI_tn (by omega), nI_tn (by omega), nI_tn (by omega)]
          exact c_bool W1 HS s2 (amdO_inv W1.inv _ hk3 hv) s3
      · rw [s_St_amend_bad W1.ss hr (Or.inl (Or.inr ⟨k, by omega, hk, rfl⟩)), ci_some, decide_eq_true (show (2 : Int32) < nI k from lp (a := 2) (by omega) hk)]
        exact c_bool W1 HS (ok := false) W1.ss W1.inv (no_off _)
/-- POINT -/
def ptW (A : AS) (x y : Int32) : Int32 × AS := if canAim A x y then (nI (aN A), aimA A x y) else (-1, A)
theorem k_point (W : CW Z G p P T A U cu) (x y : Int32) : ∃ G', f_Ls_point [.ref 1, .int x, .int y] (hp G) = some (some (.int (ptW A x y).1), hp G') ∧ CW Z G' p P T (ptW A x y).2 (keepI U A (ptW A x y).1) cu := by
  rw [e_Ls_point 1 _ _ _ (ob_Ls G)]
  obtain ⟨G1, r1, W1, HS, e1⟩ := c_aside W (fun h3 => (mm_gr 11 13 h3 1).bind fun r4 => mm_ci (f_St_aim [.ref r4, .int x, .int y] h3) fun x6 h5 => if x6 = (-1) then (some (some (.int x6), h5) : Option (Option Value × mm_H)) else mm_cv (f_Ls_remember [.ref 1] h5) fun h7 => some (some (.int x6), h7))
  rw [r1, W1.gn, Option.bind_some]
  unfold ptW
  cases hc : canAim A x y
  · rw [s_St_aim_no W1.ss hc, ci_some]
    exact c_int W1 HS (x6 := -1) W1.ss W1.inv (no_off _)
  · obtain ⟨G2, s1, s2, s3⟩ := s_St_aim W1.ss hc
    rw [s1, ci_some]
    exact c_int W1 HS s2 (aim_inv W1.inv hc) (s3.mono (fun n hn => hn.1))
/-- DROP -/
def dropW (A : AS) (x : Int32) : Bool × AS := if !decide (x < 0) && (decide (x.toNatClampNeg < aN A) && !decide (aT A x.toNatClampNeg = -2)) then (true, dropA A x.toNatClampNeg) else (false, A)
theorem k_drop (W : CW Z G p P T A U cu) (x : Int32) : ∃ G', f_Ls_drop [.ref 1, .int x] (hp G) = some (some (.int (b2 (dropW A x).1)), hp G') ∧ CW Z G' p P T (dropW A x).2 (keepB U A (dropW A x).1) cu := by
  rw [e_Ls_drop 1 _ _ (ob_Ls G)]
  obtain ⟨G1, r1, W1, HS, e1⟩ := c_aside W (fun h3 => (mm_gr 11 13 h3 1).bind fun r4 => (mm_gr 8 1 h3 r4).bind fun r5 => mm_ci (f_Pt_discard [.ref r5, .int x] h3) fun x7 h6 => mm_ci (f_Ls_rememberIf [.ref 1, .int x7] h6) fun x9 h8 => if x9 = 0 ∨ x9 = 1 then (some (some (.int x9), h8) : Option (Option Value × mm_H)) else none)
  have H1 := W1.ss
  have hk12 := W1.inv.kp.1
  rw [r1, W1.gn, Option.bind_some, gg_St_points _ H1.os, Option.bind_some]
  unfold dropW
  by_cases hn : x < 0
  · rw [s_Pt_discard_neg H1.1.1.pt hn, ci_some, decide_eq_true hn]
    exact c_bool W1 HS (ok := false) W1.ss W1.inv (no_off _)
  · obtain ⟨r, hr, rfl⟩ := (n_cases x).resolve_left hn
    rw [decide_eq_false hn, nI_tn (by omega)]
    by_cases hlt : r < aN A
    · by_cases hT : aT A r = -2
      · rw [s_Pt_discard_no H1.1.1.pt H1.pt hk12 hr (Or.inr hT), ci_some, decide_eq_true hlt, decide_eq_true hT]
        exact c_bool W1 HS (ok := false) W1.ss W1.inv (no_off _)
      · obtain ⟨G2, s1, s2, s3⟩ := s_Pt_discard H1.1.1.pt H1.pt hk12 hlt hT
        have hi := drop_inv W1.inv r
        rw [s1, ci_some, decide_eq_true hlt, decide_eq_false hT]
        exact c_bool W1 HS (ok := true) (A' := dropA A r) (H1.points s3 s2 hi.kp) hi (s3.mono (fun n h => by unfold inR at h ⊢; omega))
    · rw [s_Pt_discard_no H1.1.1.pt H1.pt hk12 hr (Or.inl (by omega)), ci_some, decide_eq_false hlt]
      exact c_bool W1 HS (ok := false) W1.ss W1.inv (no_off _)
/-- STEP, STOP -/
theorem k_step (W : CW Z G p P T A U cu) : ∃ G', f_Ls_step [.ref 1] (hp G) = some (some (.int (stA P A).1), hp G') ∧ CW Z G' p P T (stA P A).2 (keepI U A (stA P A).1) cu := by
  rw [e_Ls_step 1 _ (ob_Ls G)]
  obtain ⟨G1, r1, W1, HS, e1⟩ := c_aside W (fun h3 => (mm_gr 11 13 h3 1).bind fun r4 => mm_ci (f_St_advance [.ref r4] h3) fun x6 h5 => if x6 = (-1) then (some (some (.int x6), h5) : Option (Option Value × mm_H)) else mm_cv (f_Ls_remember [.ref 1] h5) fun h7 => some (some (.int x6), h7))
  obtain ⟨G2, s1, s2, s3⟩ := c_adv W1.ss W1.inv
  rw [r1, W1.gn, Option.bind_some, s1, ci_some]
  exact c_int W1 HS s2 (stA_inv W1.inv) s3
theorem k_stop (W : CW Z G p P T A U cu) : ∃ G', f_Ls_stop [.ref 1] (hp G) = some (some (.int (b2 (haltO P A).1)), hp G') ∧ CW Z G' p P T (haltO P A).2 (keepB U A (haltO P A).1) cu := by
  rw [e_Ls_stop 1 _ (ob_Ls G)]
  obtain ⟨G1, r1, W1, HS, e1⟩ := c_aside W (fun h3 => (mm_gr 11 13 h3 1).bind fun r4 => mm_ci (f_St_halt [.ref r4] h3) fun x6 h5 => mm_ci (f_Ls_rememberIf [.ref 1, .int x6] h5) fun x8 h7 => if x8 = 0 ∨ x8 = 1 then (some (some (.int x8), h7) : Option (Option Value × mm_H)) else none)
  obtain ⟨G2, s1, s2, s3⟩ := c_halt W1.ss W1.inv
  rw [r1, W1.gn, Option.bind_some, s1, ci_some]
  exact c_bool W1 HS s2 (haltO_inv W1.inv) s3
/-- whether it is an INDEX -/
def isIx (P : PP) (x : Int32) : Bool := !decide (x < 0) && decide (x.toNatClampNeg < pNi P)
theorem isIx_iff (hn : pNi P ≤ 4) (x : Int32) : isIx P x = true ↔ ∃ i, i < pNi P ∧ x = nI i := by
  unfold isIx
  constructor
  · intro h
    simp only [Bool.and_eq_true, Bool.not_eq_true', decide_eq_false_iff_not, decide_eq_true_eq] at h
    obtain ⟨i, hi, rfl⟩ := (n_cases x).resolve_left h.1
    rw [nI_tn (by omega)] at h
    exact ⟨i, h.2, rfl⟩
  · rintro ⟨i, hi, rfl⟩
    rw [decide_eq_false (n_nneg (by omega)), nI_tn (by omega), decide_eq_true hi]
    rfl
theorem k_isIndex (W : CW Z G p P T A U cu) (x : Int32) : f_Ls_isIndex [.ref 1, .int x] (hp G) = some (some (.int (b2 (isIx P x))), hp G) := by
  have hn := W.inv.ni
  rw [e_Ls_isIndex 1 _ _ (ob_Ls G)]
  unfold isIx
  by_cases h : x < 0
  · rw [if_pos h, decide_eq_true h]; rfl
  · obtain ⟨i, hi, rfl⟩ := (n_cases x).resolve_left h
    rw [if_neg h, W.gpl, Option.bind_some, W.ss.gn, Option.bind_some, decide_eq_false h, nI_tn (by omega)]
    by_cases hlt : i < pNi P
    · rw [if_pos (lp hlt (by omega)), decide_eq_true hlt]; rfl
    · rw [if_neg (lm (by omega) hi), decide_eq_false hlt]; rfl
/-- PACK -/
def packW (P : PP) (A : AS) (x : Int32) : Int32 × AS := if isIx P x then joinO P A x.toNatClampNeg else (-1, A)
theorem k_pack (W : CW Z G p P T A U cu) (x : Int32) : ∃ G', f_Ls_pack [.ref 1, .int x] (hp G) = some (some (.int (packW P A x).1), hp G') ∧ CW Z G' p P T (packW P A x).2 (keepI U A (packW P A x).1) cu := by
  have hn := W.inv.ni
  rw [e_Ls_pack 1 _ _ (ob_Ls G), k_isIndex W, ci_some]
  unfold packW
  cases hx : isIx P x
  · rw [if_pos (by decide)]
    exact ⟨G, rfl, W⟩
  · obtain ⟨i, hi, rfl⟩ := (isIx_iff hn x).mp hx
    obtain ⟨G1, r1, W1, HS, e1⟩ := c_aside W (fun h5 => (mm_gr 11 13 h5 1).bind fun r6 => mm_ci (f_St_join [.ref r6, .int (nI i)] h5) fun x8 h7 => if x8 = (-1) then (some (some (.int x8), h7) : Option (Option Value × mm_H)) else mm_cv (f_Ls_remember [.ref 1] h7) fun h9 => some (some (.int x8), h9))
    obtain ⟨G2, s1, s2, s3⟩ := c_join (P := P) (A := A) W1.ss hi
    rw [if_neg (by decide), r1, W1.gn, Option.bind_some, s1, ci_some, if_pos rfl, nI_tn (by omega)]
    exact c_int W1 HS s2 (joinO_inv W1.inv hi) s3
/-- RESUME -/
theorem k_resume (W : CW Z G p P T A U cu) : ∃ G', f_Ls_resume [.ref 1] (hp G) = some (some (.int (resO P A)), hp G') ∧ CW Z G' p P T (riseO P A).2 (keepB U A (riseO P A).1) cu := by
  rw [e_Ls_resume 1 _ (ob_Ls G)]
  obtain ⟨G1, r1, W1, HS, e1⟩ := c_aside W (fun h3 => (mm_gr 11 13 h3 1).bind fun r4 => mm_ci (f_St_rise [.ref r4] h3) fun x6 h5 => if x6 = 0 then (some (some (.int (-1)), h5) : Option (Option Value × mm_H)) else mm_cv (f_Ls_remember [.ref 1] h5) fun h7 => (mm_gr 11 13 h7 1).bind fun r8 => mm_ci (f_St_leftWhereAt [.ref r8] h7) fun x10 h9 => some (some (.int x10), h9))
  obtain ⟨⟨⟨a1, a2, a3⟩, a4, a5⟩, -⟩ := id W1
  obtain ⟨G2, s1, s2, s3⟩ := c_rise W1.ss W1.inv
  rw [r1, W1.gn, Option.bind_some, s1, ci_some]
  have W2 := W1.now s3 s2 (riseO_inv W1.inv)
  have HS2 : SS G2 (lsSp G2) p P A := by
    have e2 : lsSp G2 = lsSp G1 := by
      unfold lsSp
      rw [(s3 1 (fun h => by unfold inR at h; have := a1.1.lo; omega)).2.2]
    rw [e2]
    exact HS.apart a1.1 a3 s3
  unfold resO keepB
  cases hr : (riseO P A).1
  · rw [if_pos (by decide)]
    exact ⟨G2, rfl, W2⟩
  · obtain ⟨G3, u1, u2, -⟩ := c_remember W2 HS2 W1.inv
    rw [if_neg (by decide), u1, cv_some, u2.gn, Option.bind_some, s_St_leftWhereAt u2.ss, ci_some]
    exact ⟨G3, rfl, u2⟩
end CWH
