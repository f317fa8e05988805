/-! THE REFERENCE: ROW and POINTER lines -/
theorem cel_so {B : TB} {i : Nat} (hi : i < (tPt B).length) (h8 : (tPt B).length ≤ 8) : cel B (37 + i) = some (nI (tPt B)[i].1) := by
  unfold cel
  rw [if_neg (by omega), if_neg (by omega), if_neg (by omega), if_neg (by omega), if_neg (by omega), if_neg (by omega), if_neg (by omega), if_neg (by omega), if_neg (by omega), if_neg (by omega), if_neg (by omega), if_neg (by omega), if_pos (by omega), show 37 + i - 37 = i by omega, List.getElem?_eq_getElem hi]
  rfl
theorem cel_va {B : TB} {i : Nat} (hi : i < (tPt B).length) (h8 : (tPt B).length ≤ 8) : cel B (45 + i) = some (nI (tPt B)[i].2) := by
  unfold cel
  rw [if_neg (by omega), if_neg (by omega), if_neg (by omega), if_neg (by omega), if_neg (by omega), if_neg (by omega), if_neg (by omega), if_neg (by omega), if_neg (by omega), if_neg (by omega), if_neg (by omega), if_neg (by omega), if_neg (by omega), show 45 + i - 45 = i by omega, List.getElem?_eq_getElem hi]
  rfl
theorem get_ap {α : Type} {l : List α} {a : α} {m : Nat} (hm : m ≠ l.length) : (l ++ [a])[m]? = l[m]? := by
  by_cases hlt : m < l.length
  · rw [List.getElem?_append_left hlt]
  · rw [List.getElem?_eq_none (by rw [List.length_append]; show l.length + 1 ≤ m; omega), List.getElem?_eq_none (by omega)]
section MRW
variable {G G' : GG} {S : List Nat} {e j : Nat} {B : TB} {α : Type} {x : Nat ⊕ (α × Nat)}
theorem m_colT (hk : okTB B) {r c : Nat} (hr : r < (tRw B).length) (hc : c < 3) (h : mm_H) : f_Md_columnOf [.int (nI (pk3 (tRw B)[r])), .int (nI c)] h = some (some (.int (nI (colT (tRw B)[r] c))), h) ∧ colT (tRw B)[r] c ≤ 999 := by
  obtain ⟨a, b, d⟩ := hk.2.2.1.2 _ (List.getElem_mem hr)
  refine ⟨s_Md_columnOf a b d hc h, ?_⟩
  unfold colT
  split
  · exact a
  · split
    · exact b
    · exact d
theorem m_of (h : RX G S x) (hB : isMB G 53 2 4 B) (hk : okTB B) (hS : S.length ≤ 1000) {c : Nat} (hc : c < 3) : ∃ G' v, f_Md_takeOf [.ref 618, .int (nI c)] (hp G) = some (some (.int v), hp G') ∧ RX G' S (thn x fun _ j => pCol S B c j) ∧ (∀ a j, thn x (fun _ j => pCol S B c j) = .inr (a, j) → v = nI a) ∧ mrE G G' := by
  have b4 := hk.2.1.1
  have b20 := hk.2.2.1.1
  obtain ⟨fu, hfu⟩ : ∃ f, mm_fu = f + 40 := ⟨mm_fu - 40, by have := @fu_lt 100 (by omega); omega⟩
  obtain ⟨j, hj⟩ := h.rm
  have h5 := tso_le S j
  -- is it a column of a once
  have k1 : ∀ (m i f : Nat) (b : Bool), i + m = (tIx B).length → m < f → ∃ f', f ≤ f' + m + 1 ∧ mm_run p_Md_takeOf f 4 [.ref 618, .int (nI c), .int (b2 b), .int (nI i)] [] (hp G) = mm_run p_Md_takeOf f' 55 [.ref 618, .int (nI c), .int (b2 (b || ((tIx B).drop i).any (fun q => decide (q.2.1 = 2) && decide (q.2.2 = c)))), .int 0] [] (hp G) := by
    intro m
    induction m with
    | zero =>
      intro i f b hi hf
      obtain ⟨f, rfl⟩ : ∃ g, f = g + 1 := ⟨f - 1, by omega⟩
      refine ⟨f, by omega, ?_⟩
      rw [e_Md_takeOf_4, show f_Md_told [.ref 618, .int 2] (hp G) = _ from m_toldB hB (k := 2) (by decide) rfl, ci_some, if_neg (lm (by omega) (by omega)), List.drop_of_length_le (by omega)]
      rw [List.any_nil, Bool.or_false]
    | succ m ih =>
      intro i f b hi hf
      obtain ⟨f, rfl⟩ : ∃ g, f = g + 1 := ⟨f - 1, by omega⟩
      have hil : i < (tIx B).length := by omega
      obtain ⟨-, k3, c3⟩ := hk.2.1.2 _ (List.getElem_mem hil)
      rw [e_Md_takeOf_4, show f_Md_told [.ref 618, .int 2] (hp G) = _ from m_toldB hB (k := 2) (by decide) rfl, ci_some, if_pos (lp hil (by omega)), drop_cons hil, List.any_cons, show nI i + 1 = nI (i + 1) from nI_add i 1]
      cases b
      · rw [if_pos (show b2 false = 0 from rfl), show (9 : Int32) + nI i = nI (9 + i) from i_add 9 i, m_toldB hB (by omega) (cel_kd hil b4), ci_some, Bool.false_or]
        by_cases e1 : (tIx B)[i].2.1 = 2
        · rw [if_pos (show nI (tIx B)[i].2.1 = (2 : Int32) from lq (n := 2) e1), show (13 : Int32) + nI i = nI (13 + i) from i_add 13 i, m_toldB hB (by omega) (cel_co hil b4), ci_some, decide_eq_true e1, Bool.true_and]
          by_cases e2 : (tIx B)[i].2.2 = c
          · rw [if_pos (by rw [e2]), decide_eq_true e2, Bool.true_or]
            obtain ⟨f', q1, q2⟩ := ih (i + 1) f true (by omega) (by omega)
            rw [Bool.true_or] at q2
            exact ⟨f', by omega, q2⟩
          · rw [if_neg (ln e2 (by omega) (by omega)), decide_eq_false e2, Bool.false_or]
            obtain ⟨f', q1, q2⟩ := ih (i + 1) f false (by omega) (by omega)
            rw [Bool.false_or] at q2
            exact ⟨f', by omega, q2⟩
        · rw [if_neg (show ¬ nI (tIx B)[i].2.1 = (2 : Int32) from ln (n := 2) e1 (by omega) (by decide)), decide_eq_false e1, Bool.false_and, Bool.false_or]
          obtain ⟨f', q1, q2⟩ := ih (i + 1) f false (by omega) (by omega)
          rw [Bool.false_or] at q2
          exact ⟨f', by omega, q2⟩
      · rw [if_neg (show ¬ b2 true = 0 by decide), Bool.true_or]
        obtain ⟨f', q1, q2⟩ := ih (i + 1) f true (by omega) (by omega)
        rw [Bool.true_or] at q2
        exact ⟨f', by omega, q2⟩
  -- no more is told
  have k2 : ∀ (m i f : Nat) (G1 : GG) (e : Nat) (o : Bool), i + m = (tRw B).length → m < f → isMB G1 53 2 4 B → RMd G1 S e j → (o = false ∨ e ≠ 0 ∨ tso (tk S j) ≠ 2) → mm_run p_Md_takeOf f 55 [.ref 618, .int (nI c), .int (b2 o), .int (nI i)] [] (hp G1) = mm_ci (f_Md_takeNumber [.ref 618, .int 0, .int 999] (hp G1)) fun x16 h15 => some (some (.int x16), h15) := by
    intro m
    induction m with
    | zero =>
      intro i f G1 e o hi hf hB1 hR ho
      obtain ⟨f, rfl⟩ : ∃ g, f = g + 1 := ⟨f - 1, by omega⟩
      rw [e_Md_takeOf_55, show f_Md_told [.ref 618, .int 3] (hp G1) = _ from m_toldB hB1 (k := 3) (by decide) rfl, ci_some, if_neg (lm (by omega) (by omega))]
    | succ m ih =>
      intro i f G1 e o hi hf hB1 hR ho
      obtain ⟨f, rfl⟩ : ∃ g, f = g + 1 := ⟨f - 1, by omega⟩
      have hil : i < (tRw B).length := by omega
      have nx := ih (i + 1) f G1 e o (by omega) (by omega) hB1 hR ho
      rw [e_Md_takeOf_55, show f_Md_told [.ref 618, .int 3] (hp G1) = _ from m_toldB hB1 (k := 3) (by decide) rfl, ci_some, if_pos (lp hil (by omega)), show nI i + 1 = nI (i + 1) from nI_add i 1]
      cases o
      · rw [if_pos (show b2 false = 0 from rfl)]
        exact nx
      · rw [if_neg (show ¬ b2 true = 0 by decide), gg_Md_fault, Option.bind_some]
        by_cases he : e = 0
        · have hs : tso (tk S j) ≠ 2 := ho.elim (fun q => (by cases q)) (fun q => q.elim (fun q => absurd he q) id)
          rw [if_pos (hR.ne.mpr he), gg_Md_sort, Option.bind_some, gg_Md_at, Option.bind_some, hR.at, rr_Md_sort _ hR.lt, Option.bind_some, hR.so, if_neg (show ¬ nI (tso (tk S j)) = (2 : Int32) from ln (n := 2) hs (by omega) (by decide))]
          exact nx
        · rw [if_neg (fun q => he (hR.ne.mp q))]
          exact nx
  -- a number that may not be again
  have k3 : ∀ (m i f : Nat), i + m = (tRw B).length → m < f → RMd G S 0 j → tso (tk S j) = 2 → (((tRw B).drop i).any (fun t => decide (colT t c = nV S j)) = false → mm_run p_Md_takeOf f 55 [.ref 618, .int (nI c), .int (b2 true), .int (nI i)] [] (hp G) = mm_ci (f_Md_takeNumber [.ref 618, .int 0, .int 999] (hp G)) fun x16 h15 => some (some (.int x16), h15)) ∧ (((tRw B).drop i).any (fun t => decide (colT t c = nV S j)) = true → ∃ G1, mm_run p_Md_takeOf f 55 [.ref 618, .int (nI c), .int (b2 true), .int (nI i)] [] (hp G) = (mm_ci (f_Md_takeNumber [.ref 618, .int 0, .int 999] (hp G1)) fun x16 h15 => some (some (.int x16), h15)) ∧ RMd G1 S (fau S 3 j) j ∧ mrE G G1) := by
    intro m
    induction m with
    | zero =>
      intro i f hi hf hR hs
      obtain ⟨f, rfl⟩ : ∃ g, f = g + 1 := ⟨f - 1, by omega⟩
      rw [List.drop_of_length_le (by omega), e_Md_takeOf_55, show f_Md_told [.ref 618, .int 3] (hp G) = _ from m_toldB hB (k := 3) (by decide) rfl, ci_some, if_neg (lm (by omega) (by omega))]
      exact ⟨fun _ => rfl, fun q => (by cases q)⟩
    | succ m ih =>
      intro i f hi hf hR hs
      obtain ⟨f, rfl⟩ : ∃ g, f = g + 1 := ⟨f - 1, by omega⟩
      have hil : i < (tRw B).length := by omega
      obtain ⟨c1, c2⟩ := m_colT hk hil hc (hp G)
      have hv : G.2.1 622 j = lL (nV S j) := hR.va.2.1 hs
      have hv9 : nV S j < 10000 := (tk_num hs).2.2
      rw [e_Md_takeOf_55, show f_Md_told [.ref 618, .int 3] (hp G) = _ from m_toldB hB (k := 3) (by decide) rfl, ci_some, if_pos (lp hil (by omega)), show nI i + 1 = nI (i + 1) from nI_add i 1, if_neg (show ¬ b2 true = 0 by decide), gg_Md_fault, Option.bind_some, if_pos (hR.ne.mpr rfl), gg_Md_sort, Option.bind_some, gg_Md_at, Option.bind_some, hR.at, rr_Md_sort _ hR.lt, Option.bind_some, hR.so, if_pos (show nI (tso (tk S j)) = (2 : Int32) from lq (n := 2) hs), show (17 : Int32) + nI i = nI (17 + i) from i_add 17 i, m_toldB hB (by omega) (cel_rw hil b20), ci_some, c1, ci_some, gg_Md_value, Option.bind_some, gg_Md_at, Option.bind_some, hR.at, rr_Md_value _ hR.lt, Option.bind_some, hv, drop_cons hil, List.any_cons, lL_nI (show colT (tRw B)[i] c < 2147483648 by omega)]
      by_cases e1 : colT (tRw B)[i] c = nV S j
      · obtain ⟨G1, r1, r2, r3⟩ := m_wrong hR hS (k := 3) (by decide)
        rw [if_pos ((cmp_0 _ _).mpr (by rw [e1])), show f_Md_wrong [.ref 618, .int 3] (hp G) = _ from r1, cv_some, decide_eq_true e1, Bool.true_or]
        refine ⟨fun q => (by cases q), fun _ => ⟨G1, ?_, r2, r3⟩⟩
        exact k2 m (i + 1) f G1 _ true (by omega) (by omega) (hB.mr r3) r2 (Or.inr (Or.inl (fau_ne S (by decide) j)))
      · rw [if_neg (fun q => e1 (lL_inj (by omega) (by omega) ((cmp_0 _ _).mp q))), decide_eq_false e1, Bool.false_or]
        exact ih (i + 1) f (by omega) (by omega) hR hs
  -- the number itself
  have fin : ∀ {β : Type} {y : Nat ⊕ (β × Nat)} {G1 : GG}, RX G1 S y → mrE G G1 → ∃ G' v, (mm_ci (f_Md_takeNumber [.ref 618, .int 0, .int 999] (hp G1)) fun x16 h15 => (some (some (.int x16), h15) : Option (Option Value × mm_H))) = some (some (.int v), hp G') ∧ RX G' S (thn y fun _ j => pNum S 0 999 j) ∧ (∀ a j, thn y (fun _ j => pNum S 0 999 j) = .inr (a, j) → v = nI a) ∧ mrE G G' := by
    intro β y G1 h1 hE
    obtain ⟨G2, v, r1, r2, r3, r4⟩ := m_num h1 hS (lo := 0) (hi := 999) (by decide) (by decide)
    rw [show f_Md_takeNumber [.ref 618, .int 0, .int 999] (hp G1) = _ from r1, ci_some]
    exact ⟨G2, v, rfl, r2, r3, hE.tr r4⟩
  rw [e_Md_takeOf 618 _ _ (ob_Md G), hfu]
  obtain ⟨f', q1, q2⟩ := k1 (tIx B).length 0 (fu + 40) false (by omega) (by omega)
  rw [List.drop_zero, Bool.false_or] at q2
  rw [show mm_run p_Md_takeOf (fu + 40) 4 [.ref 618, .int (nI c), .int 0, .int 0] [] (hp G) = _ from q2]
  cases x with
  | inl e =>
    rw [show mm_run p_Md_takeOf f' 55 [.ref 618, .int (nI c), .int (b2 ((tIx B).any (fun q => decide (q.2.1 = 2) && decide (q.2.2 = c)))), .int 0] [] (hp G) = _ from k2 (tRw B).length 0 f' G _ _ (by omega) (by omega) hB hj (Or.inr (Or.inl h.1))]
    exact fin h mrE.rf
  | inr q =>
    obtain ⟨a, j'⟩ := q
    have ej := h.eq hj rfl
    subst ej
    have hj' : RMd G S 0 j := h
    rw [thn_r]
    unfold pCol tOnce
    by_cases hs : tso (tk S j) = 2
    · have hn : isNu S j = true := decide_eq_true hs
      rw [hn, Bool.true_and]
      cases ho : (tIx B).any (fun q => decide (q.2.1 = 2) && decide (q.2.2 = c))
      · rw [Bool.false_and, if_neg (show ¬ false = true by decide), show mm_run p_Md_takeOf f' 55 [.ref 618, .int (nI c), .int (b2 false), .int 0] [] (hp G) = _ from k2 (tRw B).length 0 f' G _ _ (by omega) (by omega) hB hj (Or.inl rfl)]
        exact fin h mrE.rf
      · rw [Bool.true_and]
        obtain ⟨z1, z2⟩ := k3 (tRw B).length 0 f' (by omega) (by omega) hj' hs
        rw [List.drop_zero] at z1 z2
        cases ht : tHas (tRw B) c (nV S j)
        · rw [if_neg (show ¬ false = true by decide), show mm_run p_Md_takeOf f' 55 [.ref 618, .int (nI c), .int (b2 true), .int 0] [] (hp G) = _ from z1 ht]
          exact fin h mrE.rf
        · obtain ⟨G1, y1, y2, y3⟩ := z2 ht
          rw [if_pos (show true = true from rfl), show mm_run p_Md_takeOf f' 55 [.ref 618, .int (nI c), .int (b2 true), .int 0] [] (hp G) = _ from y1]
          exact fin (y := (.inl (fau S 3 j) : Nat ⊕ (Unit × Nat))) ⟨fau_ne S (by decide) j, j, y2⟩ y3
    · have hn : isNu S j = false := decide_eq_false hs
      rw [hn, Bool.false_and, if_neg (show ¬ false = true by decide), show mm_run p_Md_takeOf f' 55 [.ref 618, .int (nI c), .int (b2 ((tIx B).any (fun q => decide (q.2.1 = 2) && decide (q.2.2 = c)))), .int 0] [] (hp G) = _ from k2 (tRw B).length 0 f' G _ _ (by omega) (by omega) hB hj (Or.inr (Or.inr hs))]
      exact fin h mrE.rf
def qRow1 (S : List Nat) (B : TB) (j : Nat) : Nat ⊕ (TB × Nat) := thn (pCol S B 0 j) fun x j => thn (pCol S B 1 j) fun y j => thn (pCol S B 2 j) fun z j => .inr ((tPg B, tBt B, tBn B, tIx B, tRw B ++ [(x, y, z)], tPt B, tCh B, tPa B), j)
theorem m_readRow (h : RMd G S 0 j) (hB : isMB G 53 2 4 B) (hk : okTB B) (h20 : (tRw B).length < 20) (hS : S.length ≤ 1000) : ∃ G', f_Md_readRow [.ref 618] (hp G) = some (none, hp G') ∧ RY G' S (qRow1 S B j) ∧ drE G G' := by
  obtain ⟨G1, x, r1, r2, r3, r4⟩ := m_of (x := (.inr ((), j) : Nat ⊕ (Unit × Nat))) h hB hk hS (c := 0) (by decide)
  obtain ⟨G2, y, s1, s2, s3, s4⟩ := m_of r2 (hB.mr r4) hk hS (c := 1) (by decide)
  obtain ⟨G3, z, t1, t2, t3, t4⟩ := m_of s2 (hB.mr (r4.tr s4)) hk hS (c := 2) (by decide)
  have hE := (r4.tr s4).tr t4
  have hB3 := hB.mr hE
  rw [e_Md_readRow 618 _ (ob_Md G), show f_Md_takeOf [.ref 618, .int 0] (hp G) = _ from r1, ci_some, show f_Md_takeOf [.ref 618, .int 1] (hp G1) = _ from s1, ci_some, show f_Md_takeOf [.ref 618, .int 2] (hp G2) = _ from t1, ci_some, gg_Md_fault, Option.bind_some]
  rw [thn_r] at r3 s2 s3 t2 t3
  unfold qRow1
  cases hp1 : pCol S B 0 j with
  | inl e =>
    rw [hp1] at t2
    rw [if_neg (fun q => t2.1 (t2.ne.mp q))]
    exact ⟨G3, rfl, ⟨t2, fun B j q => (by cases q)⟩, hE.dr⟩
  | inr q1 =>
    obtain ⟨x', j2⟩ := q1
    have ex := r3 x' j2 hp1
    rw [hp1, thn_r] at s3 t2 t3
    rw [thn_r]
    cases hp2 : pCol S B 1 j2 with
    | inl e =>
      rw [hp2] at t2
      rw [if_neg (fun q => t2.1 (t2.ne.mp q))]
      exact ⟨G3, rfl, ⟨t2, fun B j q => (by cases q)⟩, hE.dr⟩
    | inr q2 =>
      obtain ⟨y', j3⟩ := q2
      have ey := s3 y' j3 hp2
      rw [hp2, thn_r] at t2 t3
      rw [thn_r]
      cases hp3 : pCol S B 2 j3 with
      | inl e =>
        rw [hp3] at t2
        rw [if_neg (fun q => t2.1 (t2.ne.mp q))]
        exact ⟨G3, rfl, ⟨t2, fun B j q => (by cases q)⟩, hE.dr⟩
      | inr q3 =>
        obtain ⟨z', j4⟩ := q3
        have ez := t3 z' j4 hp3
        rw [hp3] at t2
        have t2' : RMd G3 S 0 j4 := t2
        rw [if_pos (t2'.ne.mpr rfl), show f_Md_told [.ref 618, .int 3] (hp G3) = _ from m_toldB hB3 (k := 3) (by decide) rfl, ci_some, e_Md_packed, ci_some, ex, ey, ez, show (1000 : Int32) * nI y' = nI (1000 * y') from n_mul 1000 y', i_add, show (1000000 : Int32) * nI z' = nI (1000000 * z') from n_mul 1000000 z', i_add, show (17 : Int32) + nI (tRw B).length = nI (17 + (tRw B).length) from i_add 17 _, m_isc (by omega), cv_some, show f_Md_told [.ref 618, .int 3] (hp (gsi G3 624 (53 + (17 + (tRw B).length)) (nI (x' + 1000 * y' + 1000000 * z')))) = some (some (.int (nI (tRw B).length)), hp (gsi G3 624 (53 + (17 + (tRw B).length)) (nI (x' + 1000 * y' + 1000000 * z')))) from by rw [show (3 : Int32) = nI 3 from rfl, m_toldc (by decide), fdn _ _ (by omega), hB3.c (k := 3) (by decide) rfl], ci_some, show nI (tRw B).length + 1 = nI ((tRw B).length + 1) from nI_add _ 1, show ∀ H, f_Md_is [.ref 618, .int 3, .int (nI ((tRw B).length + 1))] (hp H) = some (none, hp (gsi H 624 (53 + 3) (nI ((tRw B).length + 1)))) from fun H => m_isc (k := 3) (by decide) _, cv_some, thn_r]
        refine ⟨_, rfl, ⟨(t2'.arr (by decide)).arr (by decide), fun B' j' q => ?_⟩, (hE.dr.tr (drE.tab (by omega))).tr (drE.tab (by decide))⟩
        cases q
        refine hB3.wrd (g := upd (upd (G3.1 624) (53 + (17 + (tRw B).length)) (nI (x' + 1000 * y' + 1000000 * z'))) (53 + 3) (nI ((tRw B).length + 1))) (fun i hi => ?_) ?_ ?_ hB3.2.1 rfl rfl
        · by_cases i3 : i = 3
          · subst i3
            refine Or.inr (Or.inl ?_)
            rw [upd_at]
            show some (nI (tRw B ++ [_]).length) = _
            rw [List.length_append]
            rfl
          · rw [upd_ne _ _ (show 53 + i ≠ 53 + 3 by omega)]
            by_cases i17 : i = 17 + (tRw B).length
            · subst i17
              refine Or.inr (Or.inl ?_)
              rw [upd_at]
              have := @cel_rw (tPg B, tBt B, tBn B, tIx B, tRw B ++ [(x', y', z')], tPt B, tCh B, tPa B) (tRw B).length (by show _ < (tRw B ++ [_]).length; rw [List.length_append]; show _ < (tRw B).length + 1; omega) (by show (tRw B ++ [_]).length ≤ 20; rw [List.length_append]; show (tRw B).length + 1 ≤ 20; omega)
              rw [this]
              show some (nI (pk3 ((tRw B ++ [(x', y', z')])[(tRw B).length]'_))) = _
              rw [List.getElem_concat_length rfl]
              rfl
            · refine Or.inl ⟨upd_ne _ _ (by omega), ?_⟩
              unfold cel
              rw [if_neg i3, if_neg i3]
              by_cases c17 : i < 17
              · by_cases c13 : i < 13
                · rw [if_pos c13, if_pos c13]; rfl
                · rw [if_neg c13, if_neg c13, if_pos c17, if_pos c17]; rfl
              · by_cases c37 : i < 37
                · rw [if_neg (show ¬ i < 13 by omega), if_neg (show ¬ i < 13 by omega), if_neg c17, if_neg c17, if_pos c37, if_pos c37, show (tRw (tPg B, tBt B, tBn B, tIx B, tRw B ++ [(x', y', z')], tPt B, tCh B, tPa B))[i - 17]? = (tRw B)[i - 17]? from get_ap (by omega)]
                  rfl
                · rw [if_neg (show ¬ i < 13 by omega), if_neg (show ¬ i < 13 by omega), if_neg c17, if_neg c17, if_neg c37, if_neg c37]
                  rfl
        · rw [gsi_i, if_pos rfl, gsi_i, if_pos rfl]
        · rw [f6o _ _ (by decide), f6o _ _ (by decide)]
end MRW
