/-! THE REFERENCE: LIMITS -/
section MLM
variable {G G' : GG} {S : List Nat} {e j w n : Nat} {op no pt : Bool}
theorem isB_34 : isB S 33 34 j = (isW S 33 j || isW S 34 j) := by
  unfold isB isW
  by_cases hs : tso (tk S j) = 1
  · rw [decide_eq_true hs, Bool.true_and, Bool.true_and, Bool.true_and]
    cases wx (tsg (tk S j)) with
    | none => simp
    | some i =>
      show (decide (33 ≤ i) && decide (i ≤ 34)) = (decide (some i = some 33) || decide (some i = some 34))
      by_cases a : i = 33
      · subst a; rfl
      · by_cases b : i = 34
        · subst b; rfl
        · rw [decide_eq_false (fun q => a (Option.some.inj q)), decide_eq_false (fun q => b (Option.some.inj q))]
          by_cases c : 33 ≤ i
          · rw [decide_eq_false (show ¬ i ≤ 34 by omega), Bool.and_false]; rfl
          · rw [decide_eq_false c]; rfl
  · rw [decide_eq_false hs, Bool.false_and, Bool.false_and, Bool.false_and]; rfl
theorem m_isW (h : RMd G S 0 j) {i : Nat} (hi : i < 38) : f_Md_isWord [.ref 618, .int (nI (mw i))] (hp G) = some (some (.int (b2 (isW S i j))), hp G) := by
  rw [m_isWord h (mw_ok i hi).1]
  cases hw : isW S i j
  · rw [decide_eq_false (fun q => by rw [isW_wr hi, hw] at q; cases q)]
  · rw [decide_eq_true ((isW_wr hi).mpr hw)]
theorem m_isLimit (h : RMd G S e j) (pt : Bool) : f_Md_isLimitHere [.ref 618, .int (b2 pt)] (hp G) = some (some (.int (b2 (decide (e = 0) && stL S pt j))), hp G) := by
  rw [e_Md_isLimitHere 618 _ _ (ob_Md G), show f_Md_wordHere [.ref 618, .int 23, .int 3] (hp G) = _ from m_wordHere h (a := 23) (n := 3) (by decide), ci_some]
  by_cases he : e = 0
  · subst he
    rw [wh_fol fol_col, decide_eq_true rfl, Bool.true_and]
    unfold stL
    cases hB : isB S 25 27 j
    · rw [if_neg (show ¬ false = true by decide), if_pos (show (-1 : Int32) < 0 by decide), show f_Md_isWord [.ref 618, .int 32] (hp G) = _ from m_isW h (i := 32) (by decide), ci_some, Bool.false_or]
      cases h32 : isW S 32 j
      · rw [if_pos (show b2 false = 0 from rfl), Bool.false_or]
        cases pt
        · rw [if_pos (show b2 false = 0 from rfl), show f_Md_isWord [.ref 618, .int 33] (hp G) = _ from m_isW h (i := 33) (by decide), ci_some, isB_34, Bool.not_false, Bool.true_and]
          cases h33 : isW S 33 j
          · rw [if_pos (show b2 false = 0 from rfl), show f_Md_isWord [.ref 618, .int 34] (hp G) = _ from m_isW h (i := 34) (by decide), ci_some]
            cases h34 : isW S 34 j
            · rw [if_pos (show b2 false = 0 from rfl)]; rfl
            · rw [if_neg (show ¬ b2 true = 0 by decide)]; rfl
          · rw [if_neg (show ¬ b2 true = 0 by decide)]; rfl
        · rw [if_neg (show ¬ b2 true = 0 by decide)]; rfl
      · rw [if_neg (show ¬ b2 true = 0 by decide)]; rfl
    · have := isB_wN hB
      rw [if_pos (show true = true from rfl), if_neg (show ¬ nI (wN S j - 25) < 0 from lm (n := 0) (by omega) (by omega))]; rfl
  · have hno : ∀ w, w < 38 → f_Md_isWord [.ref 618, .int (nI w)] (hp G) = some (some (.int 0), hp G) := fun w hw => by
      rw [m_isWord h hw, wr_no he, decide_eq_false (fun q => (by cases q))]; rfl
    rw [wr_no he, if_pos (show wh none 23 3 < 0 by decide), show f_Md_isWord [.ref 618, .int 32] (hp G) = _ from hno 32 (by decide), ci_some, if_pos rfl, decide_eq_false he, Bool.false_and]
    cases pt
    · rw [if_pos (show b2 false = 0 from rfl), show f_Md_isWord [.ref 618, .int 33] (hp G) = _ from hno 33 (by decide), ci_some, if_pos rfl, show f_Md_isWord [.ref 618, .int 34] (hp G) = _ from hno 34 (by decide), ci_some, if_pos rfl]
      rfl
    · rw [if_neg (show ¬ b2 true = 0 by decide)]
      rfl
/-- a LIMIT up to its not -/
theorem m_open (h : RMd G S 0 j) (hS : S.length ≤ 1000) (hw : w ≤ 3) (hn : n ≤ 12) (hc : G.1 625 (73 * w) = nI n) (pt : Bool) (gI : Int32) : ∃ G1 f, 10 ≤ f ∧ mrE G G1 ∧ RX G1 S (pOpen S pt n j) ∧ (∀ e, pOpen S pt n j = .inl e → f_Md_readLimit [.ref 618, .int (b2 pt), .int (nI (73 * w)), .int gI] (hp G) = some (none, hp G1)) ∧ (∀ no j1, pOpen S pt n j = .inr (no, j1) → f_Md_readLimit [.ref 618, .int (b2 pt), .int (nI (73 * w)), .int gI] (hp G) = mm_run p_Md_readLimit f 111 [.ref 618, .int (nI (73 * w)), .int (nI (73 * w + 1 + 6 * n))] [.int (b2 no), .int (nI (73 * w + 1 + 6 * n + 1)), .ref 625] (hp (gsi G1 625 (73 * w + 1 + 6 * n) gI))) := by
  obtain ⟨f, hf⟩ : ∃ f, mm_fu = f + 1 := ⟨mm_fu - 1, by have := @fu_lt 100 (by omega); omega⟩
  have hf10 : 10 ≤ f := by have := @fu_lt 100 (by omega); omega
  have a1 : (nI (73 * w) + 1) + 6 * nI n = nI (73 * w + 1 + 6 * n) := by rw [show nI (73 * w) + 1 = nI (73 * w + 1) from nI_add _ 1, show (6 : Int32) * nI n = nI (6 * n) from n_mul 6 n, i_add]
  have a2 : nI (73 * w + 1 + 6 * n) + 1 = nI (73 * w + 1 + 6 * n + 1) := nI_add _ 1
  -- with a fault it ends
  have bad : ∀ {G1 : GG} {e : Nat}, e ≠ 0 → RMd G1 S e j → mrE G G1 → ∃ G2, mm_run p_Md_readLimit mm_fu 45 [.ref 618, .int (b2 pt), .int (nI (73 * w)), .int gI, .int (nI n)] [] (hp G1) = some (none, hp G2) ∧ RMd G2 S e j ∧ mrE G G2 := by
    intro G1 e he h1 hE
    obtain ⟨G2, r1, r2, r3⟩ := m_hasWord h1 (w := 35) (by decide)
    rw [wr_no he, if_neg (fun q => (by cases q))] at r2
    rw [wr_no he] at r1
    obtain ⟨G3, s1, s2, s3⟩ := m_wrong r2 hS (k := 1) (by decide)
    rw [if_neg he] at s2
    rw [hf, e_Md_readLimit_45, show f_Md_hasWord [.ref 618, .int 35] (hp G1) = _ from r1, ci_some, m_isLimit r2 pt, ci_some, decide_eq_false he, Bool.false_and, if_pos (show b2 false = 0 from rfl), show f_Md_wrong [.ref 618, .int 1] (hp G2) = _ from s1, cv_some, gg_Md_fault, Option.bind_some, if_pos (s2.pos.mpr he)]
    exact ⟨G3, rfl, s2, (hE.tr r3).tr s3⟩
  rw [e_Md_readLimit 618 _ _ _ _ (ob_Md G), gg_Md_wheres, Option.bind_some, rr_Md_wheres _ (by omega), Option.bind_some, hc, m_isLimit h pt, ci_some, decide_eq_true rfl, Bool.true_and]
  -- it goes on
  have go : (isW S 35 j = true ∨ stL S pt j = true) → n < 12 → ∃ G1 f, 10 ≤ f ∧ mrE G G1 ∧ RX G1 S (if isW S 35 j then (if stL S pt (j + 1) then .inr (true, j + 1) else .inl (fau S 1 (j + 1))) else .inr (false, j) : Nat ⊕ (Bool × Nat)) ∧ (∀ e, (if isW S 35 j then (if stL S pt (j + 1) then .inr (true, j + 1) else .inl (fau S 1 (j + 1))) else .inr (false, j) : Nat ⊕ (Bool × Nat)) = .inl e → mm_run p_Md_readLimit mm_fu 45 [.ref 618, .int (b2 pt), .int (nI (73 * w)), .int gI, .int (nI n)] [] (hp G) = some (none, hp G1)) ∧ (∀ no j1, (if isW S 35 j then (if stL S pt (j + 1) then .inr (true, j + 1) else .inl (fau S 1 (j + 1))) else .inr (false, j) : Nat ⊕ (Bool × Nat)) = .inr (no, j1) → mm_run p_Md_readLimit mm_fu 45 [.ref 618, .int (b2 pt), .int (nI (73 * w)), .int gI, .int (nI n)] [] (hp G) = mm_run p_Md_readLimit f 111 [.ref 618, .int (nI (73 * w)), .int (nI (73 * w + 1 + 6 * n))] [.int (b2 no), .int (nI (73 * w + 1 + 6 * n + 1)), .ref 625] (hp (gsi G1 625 (73 * w + 1 + 6 * n) gI))) := by
    intro hor hlt
    obtain ⟨G2, r1, r2, r3⟩ := m_hasWord h (w := 35) (by decide)
    have q35 : (wrd S 0 j = some 35) = (isW S 35 j = true) := isW_wr (i := 35) (by decide)
    cases h35 : isW S 35 j
    · have qn : ¬ wrd S 0 j = some 35 := fun q => by rw [q35, h35] at q; cases q
      have hst : stL S pt j = true := hor.elim (fun q => by rw [h35] at q; cases q) id
      rw [if_neg qn] at r2
      rw [decide_eq_false qn] at r1
      refine ⟨G2, f, hf10, r3, r2, fun e q => (by cases q), fun no j1 q => ?_⟩
      cases q
      rw [hf, e_Md_readLimit_45, show f_Md_hasWord [.ref 618, .int 35] (hp G) = _ from r1, ci_some, m_isLimit r2 pt, ci_some, decide_eq_true rfl, Bool.true_and, hst, if_neg (show ¬ b2 true = 0 by decide), gg_Md_fault, Option.bind_some, if_neg (fun q => r2.pos.mp q rfl), gg_Md_wheres, Option.bind_some, a1, uu_Md_wheres _ (by omega), Option.bind_some, gg_Md_wheres, Option.bind_some, if_pos (show b2 false = 0 from rfl), a2]
      rfl
    · have qy : wrd S 0 j = some 35 := by rw [q35]; exact h35
      rw [if_pos qy] at r2
      rw [decide_eq_true qy] at r1
      cases hst : stL S pt (j + 1)
      · obtain ⟨G3, s1, s2, s3⟩ := m_wrong r2 hS (k := 1) (by decide)
        rw [if_pos rfl] at s2
        refine ⟨G3, f, hf10, r3.tr s3, ⟨fau_ne S (Nat.le_refl 1) _, j + 1, s2⟩, fun e q => ?_, fun no j1 q => (by cases q)⟩
        rw [hf, e_Md_readLimit_45, show f_Md_hasWord [.ref 618, .int 35] (hp G) = _ from r1, ci_some, m_isLimit r2 pt, ci_some, decide_eq_true rfl, Bool.true_and, hst, if_pos (show b2 false = 0 from rfl), show f_Md_wrong [.ref 618, .int 1] (hp G2) = _ from s1, cv_some, gg_Md_fault, Option.bind_some, if_pos (s2.pos.mpr (fau_ne S (Nat.le_refl 1) _))]
      · refine ⟨G2, f, hf10, r3, r2, fun e q => (by cases q), fun no j1 q => ?_⟩
        cases q
        rw [hf, e_Md_readLimit_45, show f_Md_hasWord [.ref 618, .int 35] (hp G) = _ from r1, ci_some, m_isLimit r2 pt, ci_some, decide_eq_true rfl, Bool.true_and, hst, if_neg (show ¬ b2 true = 0 by decide), gg_Md_fault, Option.bind_some, if_neg (fun q => r2.pos.mp q rfl), gg_Md_wheres, Option.bind_some, a1, uu_Md_wheres _ (by omega), Option.bind_some, gg_Md_wheres, Option.bind_some, if_neg (show ¬ b2 true = 0 by decide), a2]
        rfl
  -- too many
  have many : ¬ n < 12 → ∃ G1, (mm_cv (f_Md_wrong [.ref 618, .int 5] (hp G)) fun h8 => mm_run p_Md_readLimit mm_fu 45 [.ref 618, .int (b2 pt), .int (nI (73 * w)), .int gI, .int (nI n)] [] h8) = some (none, hp G1) ∧ RMd G1 S (fau S 5 j) j ∧ mrE G G1 := by
    intro _
    obtain ⟨G1, r1, r2, r3⟩ := m_wrong h hS (k := 5) (by decide)
    rw [if_pos rfl] at r2
    obtain ⟨G2, s1, s2, s3⟩ := bad (fau_ne S (by decide) j) r2 r3
    rw [show f_Md_wrong [.ref 618, .int 5] (hp G) = _ from r1, cv_some]
    exact ⟨G2, s1, s2, s3⟩
  unfold pOpen
  cases hst : stL S pt j
  · rw [if_pos (show b2 false = 0 from rfl), show f_Md_isWord [.ref 618, .int 35] (hp G) = _ from m_isW h (i := 35) (by decide), ci_some]
    cases h35 : isW S 35 j
    · obtain ⟨G1, r1, r2, r3⟩ := m_wrong h hS (k := 1) (by decide)
      rw [if_pos rfl] at r2
      obtain ⟨G2, s1, s2, s3⟩ := bad (fau_ne S (Nat.le_refl 1) j) r2 r3
      rw [if_pos (show b2 false = 0 from rfl), show f_Md_wrong [.ref 618, .int 1] (hp G) = _ from r1, cv_some, if_pos (show (!false && !false) = true from rfl)]
      exact ⟨G2, f, hf10, s3, ⟨fau_ne S (Nat.le_refl 1) j, j, s2⟩, fun e q => s1, fun no j1 q => (by cases q)⟩
    · rw [if_neg (show ¬ b2 true = 0 by decide), if_neg (show ¬ (!true && !false) = true by decide)]
      by_cases hlt : n < 12
      · rw [if_neg (show ¬ nI n = (12 : Int32) from ln (n := 12) (by omega) (by omega) (by decide)), if_neg (show ¬ 12 ≤ n by omega)]
        have := go (Or.inl h35) hlt
        rw [h35] at this
        exact this
      · obtain ⟨G1, r1, r2, r3⟩ := many hlt
        rw [if_pos (show nI n = (12 : Int32) from lq (n := 12) (by omega)), if_pos (show 12 ≤ n by omega)]
        exact ⟨G1, f, hf10, r3, ⟨fau_ne S (by decide) j, j, r2⟩, fun e q => r1, fun no j1 q => (by cases q)⟩
  · rw [if_neg (show ¬ b2 true = 0 by decide), if_neg (show ¬ (!isW S 35 j && !true) = true by simp)]
    by_cases hlt : n < 12
    · rw [if_neg (show ¬ nI n = (12 : Int32) from ln (n := 12) (by omega) (by omega) (by decide)), if_neg (show ¬ 12 ≤ n by omega)]
      exact go (Or.inr hst) hlt
    · obtain ⟨G1, r1, r2, r3⟩ := many hlt
      rw [if_pos (show nI n = (12 : Int32) from lq (n := 12) (by omega)), if_pos (show 12 ≤ n by omega)]
      exact ⟨G1, f, hf10, r3, ⟨fau_ne S (by decide) j, j, r2⟩, fun e q => r1, fun no j1 q => (by cases q)⟩
end MLM
