/-! COUNT, and RANK of the reference -/
def couW (P : PP) (A : AS) (U : List AS) (n t : Nat) (w : Int32) : Int32 := if w = 0 then nI (pPg P) else if w = 1 then nI (pBt P) else if w = 2 then nI (pNi P) else if w = 3 then nI (aM A) else if w = 4 then visA A else if w = 5 then nI (aN A) else if w = 6 then aX A else if w = 7 then nI n else if w = 8 then nI U.length else if w = 9 then nI t else -1
section CWN
variable {Z G G' : GG} {p l n t i : Nat} {P : PP} {T : TT} {A A' : AS} {U : List AS} {cu : CU}
theorem k_count (W : CW Z G p P T A U cu) (hl : adLn l) (hZ : Z.2.2 1 11 = l) (hn : Z.1 l 2 = nI n) (ht : Z.1 2 3 = nI t) (w : Int32) : f_Ls_count [.ref 1, .int w] (hp G) = some (some (.int (couW P A U n t w)), hp G) := by
  obtain ⟨-, ⟨b1, b2, b3, b4⟩, ⟨H, h⟩, ⟨o, o1, o2, o3, o4, o5⟩, -, -, z⟩ := id W
  have e11 : G.2.2 1 11 = l := by rw [z.2 11 (by decide) (by decide)]; exact hZ
  have el : G.1 l 2 = nI n := by rw [(z.1 l (hl.no (by omega) (by omega))).1]; exact hn
  have e2 : G.1 2 3 = nI t := by rw [(z.1 2 (by unfold wR; omega)).1]; exact ht
  have hpl := H.2.1
  rw [e_Ls_count 1 _ _ (ob_Ls G)]
  unfold couW
  by_cases e0 : w = 0
  · rw [if_pos e0, if_pos e0, W.gpl, Option.bind_some, gg_Pl_page _ H.op, Option.bind_some, H.2.1.1.1.1]
  rw [if_neg e0, if_neg e0]
  by_cases e1 : w = 1
  · rw [if_pos e1, if_pos e1, W.gpl, Option.bind_some, gg_Pl_batch _ H.op, Option.bind_some, b2]
  rw [if_neg e1, if_neg e1]
  by_cases e2' : w = 2
  · rw [if_pos e2', if_pos e2', W.gpl, Option.bind_some, H.gn, Option.bind_some]
  rw [if_neg e2', if_neg e2']
  by_cases e3 : w = 3
  · rw [if_pos e3, if_pos e3, W.gn, Option.bind_some, gg_St_rows _ H.os, Option.bind_some, H.gm, Option.bind_some]
  rw [if_neg e3, if_neg e3]
  by_cases e4 : w = 4
  · rw [if_pos e4, if_pos e4, W.gn, Option.bind_some, gg_St_rows _ H.os, Option.bind_some, s_Rw_visible H.1.1.rw H.rw, ci_some]
    rfl
  rw [if_neg e4, if_neg e4]
  by_cases e5 : w = 5
  · rw [if_pos e5, if_pos e5, W.gn, Option.bind_some, gg_St_points _ H.os, Option.bind_some, gg_Pt_come _ H.1.1.pt, Option.bind_some, H.pt.1]
  rw [if_neg e5, if_neg e5]
  by_cases e6 : w = 6
  · rw [if_pos e6, if_pos e6, W.gn, Option.bind_some, gg_St_spent _ H.os, Option.bind_some, H.sp]
  rw [if_neg e6, if_neg e6]
  by_cases e7 : w = 7
  · rw [if_pos e7, if_pos e7, gg_Ls_lines, Option.bind_some, e11, gg_Ln_told _ (adLn.ok hl), Option.bind_some, el]
  rw [if_neg e7, if_neg e7]
  by_cases e8 : w = 8
  · rw [if_pos e8, if_pos e8, gg_Ls_kept, Option.bind_some, o4]
  rw [if_neg e8, if_neg e8]
  by_cases e9 : w = 9
  · rw [if_pos e9, if_pos e9, gg_Ls_tape, Option.bind_some, gg_Tp_length, Option.bind_some, e2]
  rw [if_neg e9, if_neg e9]
end CWN
section MWN
variable {Z G G' : GG} {n t i : Nat} {P : PP} {T : TT} {A A' : AS} {U : List AS} {cu : CU}
theorem r_count (W : MW Z G P T A U cu) (hn : Z.1 627 0 = nI n) (ht : Z.1 618 2 = nI t) (w : Int32) : ∃ G', f_Md_count [.ref 618, .int w] (hp G) = some (some (.int (couW P A U n t w)), hp G') ∧ MW Z G' P T A U cu := by
  have W1 := W.th 0
  rw [e_Md_count 618 _ _ (ob_Md G), ww_Md_thrown, Option.bind_some]
  generalize gsi G 618 0 0 = G1 at W1 ⊢
  refine ⟨G1, ?_, W1⟩
  have H := W1.ms
  obtain ⟨c0, c1, c2, c3, c4⟩ := H.c0
  have z := W1.fix
  have e627 : G1.1 627 = Z.1 627 := z.1 627 (by decide) (by decide)
  have e2 : G1.1 618 2 = nI t := by rw [z.2.2 2 (by omega)]; exact ht
  unfold couW
  by_cases e0 : w = 0
  · rw [if_pos e0, if_pos e0, s_Md_page H.pg, ci_some]
  rw [if_neg e0, if_neg e0]
  by_cases e1 : w = 1
  · rw [if_pos e1, if_pos e1, gg_Md_tables, Option.bind_some, show mm_li (hp G1) 624 (1 : Int32) = some (G1.1 624 1) from rr_Md_tables G1 (i := 1) (by decide), Option.bind_some, W1.2.2.1.1.1]
  rw [if_neg e1, if_neg e1]
  by_cases e2' : w = 2
  · rw [if_pos e2', if_pos e2', m_indexes H.hP, ci_some]
  rw [if_neg e2', if_neg e2']
  by_cases e3 : w = 3
  · rw [if_pos e3, if_pos e3, gg_Md_state, Option.bind_some, rd_c G1 2 (by decide), Option.bind_some, c2]
  rw [if_neg e3, if_neg e3]
  by_cases e4 : w = 4
  · rw [if_pos e4, if_pos e4, show f_Md_visible [.ref 618, .int 0] (hp G1) = _ from m_visible H, ci_some]
  rw [if_neg e4, if_neg e4]
  by_cases e5 : w = 5
  · rw [if_pos e5, if_pos e5, gg_Md_state, Option.bind_some, rd_c G1 4 (by decide), Option.bind_some, c4]
  rw [if_neg e5, if_neg e5]
  by_cases e6 : w = 6
  · rw [if_pos e6, if_pos e6, gg_Md_state, Option.bind_some, rd_c G1 3 (by decide), Option.bind_some, c3]
  rw [if_neg e6, if_neg e6]
  by_cases e7 : w = 7
  · rw [if_pos e7, if_pos e7, gg_Md_lines, Option.bind_some, show mm_li (hp G1) 627 (0 : Int32) = some (G1.1 627 0) from rr_Md_lines G1 (i := 0) (by decide), Option.bind_some, e627, hn]
  rw [if_neg e7, if_neg e7]
  by_cases e8 : w = 8
  · rw [if_pos e8, if_pos e8, gg_Md_undos, Option.bind_some, W1.2.1.2.1]
  rw [if_neg e8, if_neg e8]
  by_cases e9 : w = 9
  · rw [if_pos e9, if_pos e9, gg_Md_taped, Option.bind_some, e2]
  rw [if_neg e9, if_neg e9]
/-- RANK -/
def rnkB (P : PP) (A : AS) (x y : Int32) : Bool := isIx P x && ((!decide (y < 0) && !decide (29 < y)) && bt (readA P A x.toNatClampNeg) y.toNatClampNeg)
def rnkN (P : PP) (A : AS) (i r : Nat) : Nat := ((List.range 30).filter (fun q => bt (readA P A i) q && decide (codA P A i q < codA P A i r))).length
theorem r_rank (W : MW Z G P T A U cu) (x y : Int32) : (rnkB P A x y = true → ∃ G', f_Md_rank_ [.ref 618, .int x, .int y] (hp G) = some (some (.int (nI (rnkN P A x.toNatClampNeg y.toNatClampNeg))), hp G') ∧ MW Z G' P T A U cu ∧ G'.1 618 0 = 0) ∧ (rnkB P A x y = false → ∃ G', f_Md_rank_ [.ref 618, .int x, .int y] (hp G) = some (some (.int 0), hp G') ∧ MW Z G' P T A U cu ∧ G'.1 618 0 = 1) := by
  have hn := W.inv.ni
  have W1 := W.th 0
  have e0 : (gsi G 618 0 0).1 618 0 = 0 := by rw [gsi_i, if_pos rfl, upd_at]
  rw [e_Md_rank_ 618 _ _ _ (ob_Md G), ww_Md_thrown, Option.bind_some]
  generalize gsi G 618 0 0 = G1 at W1 e0 ⊢
  have H := W1.ms
  have h := W1.inv
  have hr30 := h.kr.1
  have no : ∃ G', ((mm_pf 12 0 (.int 1) (hp G1) 618).bind fun h6 => (some (some (Value.int 0), h6) : Option (Option Value × mm_H))) = some (some (Value.int 0), hp G') ∧ MW Z G' P T A U cu ∧ G'.1 618 0 = 1 := by
    rw [ww_Md_thrown, Option.bind_some]
    exact ⟨_, rfl, W1.th 1, by rw [gsi_i, if_pos rfl, upd_at]⟩
  rw [m_isIndex W1, ci_some]
  unfold rnkB
  cases hx : isIx P x
  · rw [if_pos (by decide), s_withX, ci_some]
    refine ⟨fun q => (by cases q), fun _ => ?_⟩
    cases hw : !decide (y < 0) && !decide (29 < y)
    · rw [if_pos (by decide)]; exact no
    · simp only [Bool.and_eq_true, Bool.not_eq_true', decide_eq_false_iff_not] at hw
      obtain ⟨r, hr, rfl⟩ := (n_cases y).resolve_left hw.1
      have hr29 : r < 30 := by
        by_cases e : r < 30
        · exact e
        · exact absurd (show (29 : Int32) < nI r from lp (a := 29) (by omega) hr) hw.2
      rw [if_neg (by decide), s_Md_has _ (by omega), ci_some, b_0, if_pos (by decide)]
      exact no
  · obtain ⟨i, hi, rfl⟩ := (isIx_iff hn x).mp hx
    rw [if_neg (by decide), show f_Md_visible [.ref 618, .int 0] (hp G1) = _ from m_visible H, ci_some, m_belongSet H h hi, ci_some, s_withX, ci_some, vis_bel h, nI_tn (show i < 2147483648 by omega), Bool.true_and]
    cases hw : !decide (y < 0) && !decide (29 < y)
    · rw [if_pos (by decide)]
      exact ⟨fun q => (by cases q), fun _ => no⟩
    · simp only [Bool.and_eq_true, Bool.not_eq_true', decide_eq_false_iff_not] at hw
      obtain ⟨r, hr, rfl⟩ := (n_cases y).resolve_left hw.1
      have hr29 : r < 30 := by
        by_cases e : r < 30
        · exact e
        · exact absurd (show (29 : Int32) < nI r from lp (a := 29) (by omega) hr) hw.2
      rw [if_neg (by decide), s_Md_has _ (by omega), ci_some, nI_tn (show r < 2147483648 by omega), Bool.true_and]
      cases hb : bt (readA P A i) r
      · rw [if_pos (by decide)]
        exact ⟨fun q => (by cases q), fun _ => no⟩
      · rw [if_neg (by decide)]
        refine ⟨fun _ => ⟨G1, ?_, W1, e0⟩, fun q => (by cases q)⟩
        have hrm : ∀ q, bt (readA P A i) q = true → q < aM A := fun q hq => by
          rw [bt_read h (bt_lt hq)] at hq
          simp only [Bool.and_eq_true, decide_eq_true_eq] at hq
          exact hq.1
        have hcr := codA_lt h hi (hrm r hb)
        have := fold_loop (n := 30) (g := fun a q => a + (if bt (readA P A i) q && decide (codA P A i q < codA P A i r) then 1 else 0)) (R := fun f q a => mm_run p_Md_rank_ f 60 [.ref 618, .int (nI i), .int (nI r), .int (readA P A i), .int (nI a), .int (nI q)] [] (hp G1)) (fin := fun a => some (some (Value.int (nI a)), hp G1)) (fun _ _ => True) (fun f q a hq _ => by
          refine ⟨?_, trivial⟩
          show mm_run p_Md_rank_ (f + 1) 60 _ [] (hp G1) = mm_run p_Md_rank_ f 60 _ [] (hp G1)
          rw [e_Md_rank__60, if_pos (show nI q < (30 : Int32) from lp (n := 30) hq (by decide)), s_Md_has _ (by omega), ci_some, show nI q + 1 = nI (q + 1) from nI_add q 1, show nI a + 1 = nI (a + 1) from nI_add a 1, show nI a + 0 = nI (a + 0) from nI_add a 0]
          cases hbq : bt (readA P A i) q
          · rw [if_pos (by decide), Bool.false_and, if_neg (by decide)]
          · have hcq := codA_lt h hi (hrm q hbq)
            rw [if_neg (by decide), m_entryNow H h hi (hrm q hbq), ci_some, m_entryNow H h hi (hrm r hb), ci_some, Bool.true_and]
            by_cases e : codA P A i q < codA P A i r
            · rw [if_pos (lp e (by omega)), if_pos (decide_eq_true e)]
            · rw [if_neg (lm (by omega) (by omega)), if_neg (by rw [decide_eq_false e]; decide)]) (fun f a _ => by
          show mm_run p_Md_rank_ (f + 1) 60 _ [] (hp G1) = _
          rw [e_Md_rank__60, if_neg (show ¬ nI 30 < (30 : Int32) by decide)]) trivial (a := 0) (f := mm_fu) (fu_lt (by omega))
        rw [foldl_count, Nat.zero_add] at this
        exact this.1
end MWN
