/-! LEAFSWEEP (the class): what is read of the whole -/
section CWR
variable {Z G G' : GG} {p : Nat} {P : PP} {T : TT} {A A' : AS} {U : List AS} {cu : CU}
def rowW (P : PP) (A : AS) (x w : Int32) : Int32 := if !decide (x < 0) && decide (x.toNatClampNeg < aM A) then (if w = 0 then nI (aV A x.toNatClampNeg 0) else if w = 1 then nI (aV A x.toNatClampNeg 1) else if w = 2 then nI (aV A x.toNatClampNeg 2) else if w = 3 then b2 (bt (aD A) x.toNatClampNeg) else if w = 4 then b2 (bt (aC A) x.toNatClampNeg) else if w = 5 then holdA P A x.toNatClampNeg else -1) else -1
theorem k_row (W : CW Z G p P T A U cu) (x w : Int32) : f_Ls_row [.ref 1, .int x, .int w] (hp G) = some (some (.int (rowW P A x w)), hp G) := by
  have hm := W.inv.kr.1
  rw [e_Ls_row 1 _ _ _ (ob_Ls G), W.gn, Option.bind_some, gg_St_rows _ W.ss.os, Option.bind_some]
  unfold rowW
  by_cases h0 : x < 0
  · rw [s_Rw_hasCome_neg W.ss.1.1.rw h0, ci_some, if_pos (by decide), decide_eq_true h0]; rfl
  · obtain ⟨r, hr, rfl⟩ := (n_cases x).resolve_left h0
    rw [s_Rw_hasCome W.ss.1.1.rw W.ss.rw W.ss.kr hr, ci_some, decide_eq_false h0, nI_tn (by omega)]
    by_cases hlt : r < aM A
    · rw [decide_eq_true hlt, if_neg (by decide), if_pos (show (!false && true) = true from rfl)]
      by_cases e0 : w = 0
      · rw [if_pos e0, if_pos e0, W.gn, Option.bind_some, gg_St_rows _ W.ss.os, Option.bind_some, e0, show (0 : Int32) = nI 0 from rfl, s_Rw_valueOf W.ss.1.1.rw W.ss.rw W.ss.kr hlt (by decide), ci_some]
      rw [if_neg e0, if_neg e0]
      by_cases e1 : w = 1
      · rw [if_pos e1, if_pos e1, W.gn, Option.bind_some, gg_St_rows _ W.ss.os, Option.bind_some, e1, show (1 : Int32) = nI 1 from rfl, s_Rw_valueOf W.ss.1.1.rw W.ss.rw W.ss.kr hlt (by decide), ci_some]
      rw [if_neg e1, if_neg e1]
      by_cases e2 : w = 2
      · rw [if_pos e2, if_pos e2, W.gn, Option.bind_some, gg_St_rows _ W.ss.os, Option.bind_some, e2, show (2 : Int32) = nI 2 from rfl, s_Rw_valueOf W.ss.1.1.rw W.ss.rw W.ss.kr hlt (by decide), ci_some]
      rw [if_neg e2, if_neg e2]
      by_cases e3 : w = 3
      · rw [if_pos e3, if_pos e3, W.gn, Option.bind_some, gg_St_rows _ W.ss.os, Option.bind_some, gg_Rw_there _ W.ss.1.1.rw, Option.bind_some, W.ss.rw.1.2.1, bt_shr1 _ (by omega)]; rfl
      rw [if_neg e3, if_neg e3]
      by_cases e4 : w = 4
      · rw [if_pos e4, if_pos e4, W.gn, Option.bind_some, gg_St_rows _ W.ss.os, Option.bind_some, gg_Rw_chosen _ W.ss.1.1.rw, Option.bind_some, W.ss.rw.1.2.2, bt_shr1 _ (by omega)]; rfl
      rw [if_neg e4, if_neg e4]
      by_cases e5 : w = 5
      · rw [if_pos e5, if_pos e5, W.gn, Option.bind_some, s_St_treesHolding W.ss (by omega), ci_some]
      rw [if_neg e5, if_neg e5]
    · rw [decide_eq_false hlt, if_pos (by decide)]; rfl
def poiW (A : AS) (x w : Int32) : Int32 := if !decide (x < 0) && decide (x.toNatClampNeg < aN A) then (if w = 0 then nI (aS A x.toNatClampNeg) else if w = 1 then aT A x.toNatClampNeg else -3) else -3
theorem k_pointer (W : CW Z G p P T A U cu) (x w : Int32) : f_Ls_pointer [.ref 1, .int x, .int w] (hp G) = some (some (.int (poiW A x w)), hp G) := by
  have hm := W.inv.kp.1
  rw [e_Ls_pointer 1 _ _ _ (ob_Ls G), W.gn, Option.bind_some, gg_St_points _ W.ss.os, Option.bind_some]
  unfold poiW
  by_cases h0 : x < 0
  · rw [s_Pt_hasCome_neg W.ss.1.1.pt h0, ci_some, if_pos (by decide), decide_eq_true h0]; rfl
  · obtain ⟨r, hr, rfl⟩ := (n_cases x).resolve_left h0
    rw [s_Pt_hasCome W.ss.1.1.pt W.ss.pt.1 hm hr, ci_some, decide_eq_false h0, nI_tn (by omega)]
    by_cases hlt : r < aN A
    · rw [decide_eq_true hlt, if_neg (by decide), if_pos (show (!false && true) = true from rfl)]
      by_cases e0 : w = 0
      · rw [if_pos e0, if_pos e0, W.gn, Option.bind_some, gg_St_points _ W.ss.os, Option.bind_some, gg_Pt_sort _ W.ss.1.1.pt, Option.bind_some, rr_Pt_sort _ W.ss.1.1.pt (by omega), Option.bind_some, (W.ss.pt.2 r hlt).1]
      rw [if_neg e0, if_neg e0]
      by_cases e1 : w = 1
      · rw [if_pos e1, if_pos e1, W.gn, Option.bind_some, gg_St_points _ W.ss.os, Option.bind_some, gg_Pt_target _ W.ss.1.1.pt, Option.bind_some, rr_Pt_target _ W.ss.1.1.pt (by omega), Option.bind_some, (W.ss.pt.2 r hlt).2.1]
      rw [if_neg e1, if_neg e1]
    · rw [decide_eq_false hlt, if_pos (by decide)]; rfl
def neeW (A : AS) (x : Int32) : Int32 := if !decide (x < 0) && decide (x.toNatClampNeg < aN A) then havX (aV A) (visA A) 0 (aT A x.toNatClampNeg) else -1
theorem k_needs (W : CW Z G p P T A U cu) (x : Int32) : f_Ls_needs [.ref 1, .int x] (hp G) = some (some (.int (neeW A x)), hp G) := by
  have hm := W.inv.kp.1
  rw [e_Ls_needs 1 _ _ (ob_Ls G), W.gn, Option.bind_some, gg_St_points _ W.ss.os, Option.bind_some]
  unfold neeW
  by_cases h0 : x < 0
  · rw [s_Pt_hasCome_neg W.ss.1.1.pt h0, ci_some, if_pos (by decide), decide_eq_true h0]; rfl
  · obtain ⟨r, hr, rfl⟩ := (n_cases x).resolve_left h0
    rw [s_Pt_hasCome W.ss.1.1.pt W.ss.pt.1 hm hr, ci_some, decide_eq_false h0, nI_tn (by omega)]
    by_cases hlt : r < aN A
    · rw [decide_eq_true hlt, if_neg (by decide), if_pos (show (!false && true) = true from rfl), W.gn, Option.bind_some, gg_St_rows _ W.ss.os, Option.bind_some, Option.bind_some, gg_St_points _ W.ss.os, Option.bind_some, gg_Pt_target _ W.ss.1.1.pt, Option.bind_some, rr_Pt_target _ W.ss.1.1.pt (by omega), Option.bind_some, (W.ss.pt.2 r hlt).2.1, show (0 : Int32) = nI 0 from rfl, s_Rw_havX W.ss.1.1.rw W.ss.rw W.ss.kr (by decide), ci_some]
      rfl
    · rw [decide_eq_false hlt, if_pos (by decide)]; rfl
def fitW (P : PP) (A : AS) (x w : Int32) : Bool := !decide (x < 0) && (bt (visA A) x.toNatClampNeg && (if w = 0 then chooA P A x.toNatClampNeg else if w = 1 then partA P A x.toNatClampNeg else false))
theorem k_fits (W : CW Z G p P T A U cu) (x w : Int32) : f_Ls_fits [.ref 1, .int x, .int w] (hp G) = some (some (.int (b2 (fitW P A x w))), hp G) := by
  rw [e_Ls_fits 1 _ _ _ (ob_Ls G), W.gn, Option.bind_some, gg_St_rows _ W.ss.os, Option.bind_some]
  unfold fitW
  by_cases h0 : x < 0
  · rw [s_Rw_isVisible_neg W.ss.1.1.rw h0, ci_some, if_pos (by decide), decide_eq_true h0]; rfl
  · obtain ⟨r, hr, rfl⟩ := (n_cases x).resolve_left h0
    rw [s_Rw_isVisible W.ss.1.1.rw W.ss.rw W.ss.kr hr, ci_some, decide_eq_false h0, nI_tn (by omega)]
    cases hv : bt (visB (aD A) (aC A)) r
    · rw [if_pos (by decide), show bt (visA A) r = false from hv]; rfl
    · have hlt : r < aM A := W.inv.kr.vis hv
      rw [if_neg (by decide), show bt (visA A) r = true from hv, show ∀ b : Bool, (!false && (true && b)) = b from fun b => by cases b <;> rfl]
      by_cases e0 : w = 0
      · rw [if_pos e0, if_pos e0, W.gpl, Option.bind_some, gg_Pl_choose _ W.ss.op, Option.bind_some, W.gn, Option.bind_some, W.ss.ch hlt, ci_some, if_pos (b2_01 _)]
      rw [if_neg e0, if_neg e0]
      by_cases e1 : w = 1
      · rw [if_pos e1, if_pos e1, W.gpl, Option.bind_some, gg_Pl_part _ W.ss.op, Option.bind_some, W.gn, Option.bind_some, W.ss.pa hlt, ci_some, if_pos (b2_01 _)]
      rw [if_neg e1, if_neg e1]
      rfl
theorem k_hinders (W : CW Z G p P T A U cu) : f_Ls_hinders [.ref 1] (hp G) = some (some (.int (hindA A (wouldA P A))), hp G) := by
  rw [e_Ls_hinders 1 _ (ob_Ls G), W.gn, Option.bind_some, Option.bind_some, s_St_would W.ss, ci_some, s_St_hindering W.ss, ci_some]
def wouW (P : PP) (A : AS) (x y z : Int32) : Int32 := if isVal x && (isVal y && isVal z) then (if aM A < 30 then (clashA P A 0 x.toNatClampNeg ||| clashA P A 1 y.toNatClampNeg) ||| clashA P A 2 z.toNatClampNeg else sbit (pNi P) - 1) else -1
theorem k_would (W : CW Z G p P T A U cu) (x y z : Int32) : f_Ls_would [.ref 1, .int x, .int y, .int z] (hp G) = some (some (.int (wouW P A x y z)), hp G) := by
  have hm := W.inv.kr.1
  rw [e_Ls_would 1 _ _ _ _ (ob_Ls G), s_Ls_areValues, ci_some]
  unfold wouW
  cases hv : isVal x && (isVal y && isVal z)
  · rw [if_pos (by decide)]; rfl
  · simp only [Bool.and_eq_true] at hv
    obtain ⟨v1, v2, v3⟩ := hv
    obtain ⟨a, ha, rfl⟩ := (isVal_iff x).mp v1
    obtain ⟨b, hb, rfl⟩ := (isVal_iff y).mp v2
    obtain ⟨c, hc, rfl⟩ := (isVal_iff z).mp v3
    rw [if_neg (by decide), W.gn, Option.bind_some, gg_St_rows _ W.ss.os, Option.bind_some, W.ss.gm, Option.bind_some, if_pos (show true = true from rfl), nI_tn (by omega), nI_tn (by omega), nI_tn (by omega)]
    by_cases h30 : aM A < 30
    · rw [if_pos (show nI (aM A) < (30 : Int32) from lp (n := 30) h30 (by decide)), if_pos h30, Option.bind_some, show (0 : Int32) = nI 0 from rfl, s_St_onceClashes W.ss (by decide) (by omega), ci_some, W.gn, Option.bind_some, show (1 : Int32) = nI 1 from rfl, s_St_onceClashes W.ss (by decide) (by omega), ci_some, W.gn, Option.bind_some, show (2 : Int32) = nI 2 from rfl, s_St_onceClashes W.ss (by decide) (by omega), ci_some]
    · rw [if_neg (show ¬ nI (aM A) < (30 : Int32) from lm (n := 30) (by omega) (by omega)), if_neg h30, W.gpl, Option.bind_some, W.ss.gn, Option.bind_some]
      rfl
def freW (P : PP) (A : AS) (x : Int32) : Bool := !decide (x < 0) && canExp P A x.toNatClampNeg
theorem k_free (W : CW Z G p P T A U cu) (x : Int32) : ∃ G', f_Ls_free [.ref 1, .int x] (hp G) = some (some (.int (b2 (freW P A x))), hp G') ∧ CW Z G' p P T A U cu := by
  rw [e_Ls_free 1 _ _ (ob_Ls G), W.gn, Option.bind_some]
  unfold freW
  by_cases h0 : x < 0
  · rw [e_St_canExpel _ _ _ (ob_St G W.ss.os), gg_St_rows _ W.ss.os, Option.bind_some, s_Rw_isVisible_neg W.ss.1.1.rw h0, ci_some, if_pos (by decide), ci_some, if_pos (by decide), decide_eq_true h0]
    exact ⟨G, rfl, W⟩
  · obtain ⟨r, hr, rfl⟩ := (n_cases x).resolve_left h0
    obtain ⟨G1, r1, r2, r3, -⟩ := s_St_canExpel W.ss hr
    rw [r1, ci_some, if_pos (b2_01 _), decide_eq_false h0, nI_tn (by omega)]
    exact ⟨G1, rfl, W.now (r3.mono (fun n h => by unfold inR at h ⊢; omega)) r2 W.inv⟩
def jobW (A : AS) (w : Int32) : Int32 := match aJ A with
  | none => -1
  | some J => if w = 0 then nI (jAt J) else if w = 1 then jWy J else if w = 2 then aC A else if w = 3 then nI (jSi J) else if w = 4 then nI (jRe J).length else if w = 5 then b2 (jDn J) else if w = 6 then nI (jSd J).length else -1
theorem k_job (W : CW Z G p P T A U cu) (w : Int32) : f_Ls_job [.ref 1, .int w] (hp G) = some (some (.int (jobW A w)), hp G) := by
  have hj := W.ss.jb
  have hoj := W.ss.1.1.jb
  rw [e_Ls_job 1 _ _ (ob_Ls G), W.gn, Option.bind_some, gg_St_job _ W.ss.os, Option.bind_some, gg_Jb_on _ hoj, Option.bind_some]
  unfold jobW
  cases h : aJ A with
  | none =>
    rw [h] at hj
    rw [hj.1, if_pos rfl]
  | some J =>
    rw [h] at hj
    rw [hj.1.1, if_neg (by decide)]
    show _ = some (some (Value.int (if w = 0 then nI (jAt J) else if w = 1 then jWy J else if w = 2 then aC A else if w = 3 then nI (jSi J) else if w = 4 then nI (jRe J).length else if w = 5 then b2 (jDn J) else if w = 6 then nI (jSd J).length else -1)), hp G)
    by_cases e0 : w = 0
    · rw [if_pos e0, if_pos e0, Option.bind_some, gg_St_job _ W.ss.os, Option.bind_some, gg_Jb_at _ hoj, Option.bind_some, hj.1.2.2.1]
    rw [if_neg e0, if_neg e0]
    by_cases e1 : w = 1
    · rw [if_pos e1, if_pos e1, Option.bind_some, gg_St_job _ W.ss.os, Option.bind_some, gg_Jb_way _ hoj, Option.bind_some, hj.1.2.2.2.1]
    rw [if_neg e1, if_neg e1]
    by_cases e2 : w = 2
    · rw [if_pos e2, if_pos e2, Option.bind_some, gg_St_rows _ W.ss.os, Option.bind_some, gg_Rw_chosen _ W.ss.1.1.rw, Option.bind_some, W.ss.rw.1.2.2]
    rw [if_neg e2, if_neg e2]
    by_cases e3 : w = 3
    · rw [if_pos e3, if_pos e3, Option.bind_some, gg_St_job _ W.ss.os, Option.bind_some, gg_Jb_since _ hoj, Option.bind_some, hj.1.2.2.2.2.1]
    rw [if_neg e3, if_neg e3]
    by_cases e4 : w = 4
    · rw [if_pos e4, if_pos e4, Option.bind_some, gg_St_job _ W.ss.os, Option.bind_some, gg_Jb_records _ hoj, Option.bind_some, hj.1.2.2.2.2.2.2.1]
    rw [if_neg e4, if_neg e4]
    by_cases e5 : w = 5
    · rw [if_pos e5, if_pos e5, Option.bind_some, gg_St_job _ W.ss.os, Option.bind_some, gg_Jb_down _ hoj, Option.bind_some, hj.1.2.1]
      cases jDn J
      · rw [if_pos (by decide)]; rfl
      · rw [if_neg (by decide)]; rfl
    rw [if_neg e5, if_neg e5]
    by_cases e6 : w = 6
    · rw [if_pos e6, if_pos e6, Option.bind_some, gg_St_job _ W.ss.os, Option.bind_some, gg_Jb_sides _ hoj, Option.bind_some, hj.1.2.2.2.2.2.2.2]
    rw [if_neg e6, if_neg e6]
def sidW (A : AS) (x : Int32) : Int32 := match aJ A with
  | none => -2147483648
  | some J => if x < 0 then -2147483648 else (jSd J)[x.toNatClampNeg]?.getD (-2147483648)
theorem k_side (W : CW Z G p P T A U cu) (x : Int32) : f_Ls_side [.ref 1, .int x] (hp G) = some (some (.int (sidW A x)), hp G) := by
  have hj := W.ss.jb
  have hoj := W.ss.1.1.jb
  have hkj := W.ss.kj
  rw [e_Ls_side 1 _ _ (ob_Ls G), W.gn, Option.bind_some, gg_St_job _ W.ss.os, Option.bind_some, gg_Jb_on _ hoj, Option.bind_some]
  unfold sidW
  cases h : aJ A with
  | none =>
    rw [h] at hj
    rw [hj.1, if_pos rfl]
  | some J =>
    rw [h] at hj hkj
    have h40 : (jSd J).length ≤ 40 := hkj.2.2.1
    rw [hj.1.1, if_neg (by decide)]
    show _ = some (some (Value.int (if x < 0 then -2147483648 else (jSd J)[x.toNatClampNeg]?.getD (-2147483648))), hp G)
    by_cases h0 : x < 0
    · rw [if_pos h0, if_pos h0]
    · obtain ⟨r, hr, rfl⟩ := (n_cases x).resolve_left h0
      rw [if_neg h0, if_neg h0, Option.bind_some, gg_St_job _ W.ss.os, Option.bind_some, gg_Jb_sides _ hoj, Option.bind_some, hj.1.2.2.2.2.2.2.2, nI_tn (by omega)]
      by_cases hlt : r < (jSd J).length
      · rw [if_pos (lp hlt (by omega)), Option.bind_some, gg_St_job _ W.ss.os, Option.bind_some, gg_Jb_side _ hoj, Option.bind_some, rr_Jb_side _ hoj (by omega), Option.bind_some, hj.2.2 r hlt, List.getElem?_eq_getElem hlt]
        rfl
      · rw [if_neg (lm (by omega) hr), List.getElem?_eq_none (by omega)]
        rfl
def recW (A : AS) (x w : Int32) : Int32 := match aJ A with
  | none => -1
  | some J => if x < 0 then -1 else match (jRe J)[x.toNatClampNeg]? with
    | none => -1
    | some q => if w = 0 then nI q.1 else if w = 1 then nI q.2.1 else if w = 2 then q.2.2 else -1
theorem k_record (W : CW Z G p P T A U cu) (x w : Int32) : f_Ls_record [.ref 1, .int x, .int w] (hp G) = some (some (.int (recW A x w)), hp G) := by
  have hj := W.ss.jb
  have hoj := W.ss.1.1.jb
  have hkj := W.ss.kj
  rw [e_Ls_record 1 _ _ _ (ob_Ls G), W.gn, Option.bind_some, gg_St_job _ W.ss.os, Option.bind_some, gg_Jb_on _ hoj, Option.bind_some]
  unfold recW
  cases h : aJ A with
  | none =>
    rw [h] at hj
    rw [hj.1, if_pos rfl]
  | some J =>
    rw [h] at hj hkj
    have h40 : (jRe J).length ≤ 120 := hkj.2.1
    rw [hj.1.1, if_neg (by decide)]
    show _ = some (some (Value.int (if x < 0 then -1 else match (jRe J)[x.toNatClampNeg]? with
      | none => -1
      | some q => if w = 0 then nI q.1 else if w = 1 then nI q.2.1 else if w = 2 then q.2.2 else -1)), hp G)
    by_cases h0 : x < 0
    · rw [if_pos h0, if_pos h0]
    · obtain ⟨r, hr, rfl⟩ := (n_cases x).resolve_left h0
      rw [if_neg h0, if_neg h0, Option.bind_some, gg_St_job _ W.ss.os, Option.bind_some, gg_Jb_records _ hoj, Option.bind_some, hj.1.2.2.2.2.2.2.1, nI_tn (by omega)]
      by_cases hlt : r < (jRe J).length
      · obtain ⟨q0, q1, q2⟩ := hj.2.1 r hlt
        rw [if_pos (lp hlt (by omega)), List.getElem?_eq_getElem hlt]
        show _ = some (some (Value.int (if w = 0 then nI (jRe J)[r].1 else if w = 1 then nI (jRe J)[r].2.1 else if w = 2 then (jRe J)[r].2.2 else -1)), hp G)
        by_cases hw : w < 0
        · rw [if_pos hw, if_neg (fun e => by rw [e] at hw; exact absurd hw (by decide)), if_neg (fun e => by rw [e] at hw; exact absurd hw (by decide)), if_neg (fun e => by rw [e] at hw; exact absurd hw (by decide))]
        · obtain ⟨k, hk, rfl⟩ := (n_cases w).resolve_left hw
          rw [if_neg hw]
          by_cases hk3 : k < 3
          · rw [if_pos (show nI k < (3 : Int32) from lp (n := 3) hk3 (by decide)), Option.bind_some, gg_St_job _ W.ss.os, Option.bind_some, gg_Jb_record _ hoj, Option.bind_some, show nI r * 3 = nI (r * 3) from n_mul r 3, i_add, rr_Jb_record _ hoj (by omega), Option.bind_some]
            have hk012 : k = 0 ∨ k = 1 ∨ k = 2 := by omega
            rcases hk012 with rfl | rfl | rfl
            · rw [show r * 3 + 0 = r * 3 from rfl, q0, if_pos (show nI 0 = (0 : Int32) from rfl)]
            · rw [q1, if_neg (show ¬ nI 1 = (0 : Int32) by decide), if_pos (show nI 1 = (1 : Int32) from rfl)]
            · rw [q2, if_neg (show ¬ nI 2 = (0 : Int32) by decide), if_neg (show ¬ nI 2 = (1 : Int32) by decide), if_pos (show nI 2 = (2 : Int32) from rfl)]
          · rw [if_neg (show ¬ nI k < (3 : Int32) from lm (n := 3) (by omega) hk), if_neg (show ¬ nI k = (0 : Int32) from ln (n := 0) (by omega) hk (by decide)), if_neg (show ¬ nI k = (1 : Int32) from ln (n := 1) (by omega) hk (by decide)), if_neg (show ¬ nI k = (2 : Int32) from ln (n := 2) (by omega) hk (by decide))]
      · rw [if_neg (lm (by omega) hr), List.getElem?_eq_none (by omega)]
end CWR
