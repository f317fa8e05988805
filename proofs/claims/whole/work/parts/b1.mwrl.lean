/-! THE REFERENCE: a line of a TABLE read -/
section MRL
variable {G G' : GG} {S : List Nat} {e j : Nat} {B : TB}
theorem m_145f (h : RMd G S e j) (he : e ≠ 0) (f : Nat) (a b c : Int32) : mm_run p_Md_readLine (f + 1) 145 [.ref 618, .int a, .int b, .int c] [] (hp G) = some (none, hp G) := by
  rw [e_Md_readLine_145, gg_Md_fault, Option.bind_some, if_pos (h.pos.mpr he)]
theorem m_145 (h : RMd G S 0 j) (f : Nat) (a c : Int32) : mm_run p_Md_readLine (f + 1) 145 [.ref 618, .int a, .int 0, .int c] [] (hp G) = mm_cv (f_Md_reads [.ref 618, .int a] (hp (gsi G 618 7 (nI (j + 1))))) fun h4 => some (none, h4) := by
  rw [e_Md_readLine_145, gg_Md_fault, Option.bind_some, if_neg (fun q => h.pos.mp q rfl), gg_Md_at, Option.bind_some, h.at, show nI j + 1 = nI (j + 1) from nI_add j 1, ww_Md_at, Option.bind_some, if_pos rfl]
theorem m_145s (h : RMd G S 0 j) (f : Nat) (a : Int32) {k : Nat} (hk : k < 53) : mm_run p_Md_readLine (f + 1) 145 [.ref 618, .int a, .int 1, .int (nI k)] [] (hp G) = mm_cv (f_Md_reads [.ref 618, .int a] (hp (gsi (gsi G 618 7 (nI (j + 1))) 624 (53 + k) 1))) fun h4 => some (none, h4) := by
  rw [e_Md_readLine_145, gg_Md_fault, Option.bind_some, if_neg (fun q => h.pos.mp q rfl), gg_Md_at, Option.bind_some, h.at, show nI j + 1 = nI (j + 1) from nI_add j 1, ww_Md_at, Option.bind_some, if_neg (by decide), m_isc hk, cv_some]
theorem wh_of {i : Nat} (hi : i < 38) (hm : mw i < 7) (hw : isW S i j = true) : wh (wrd S 0 j) 0 7 = nI (mw i) := by
  rw [(isW_wr hi).mpr hw]
  show (if 0 ≤ mw i ∧ mw i < 0 + 7 then nI (mw i - 0) else -1) = _
  rw [if_pos ⟨by omega, by omega⟩]
  rfl
theorem mw_7' : ∀ i, i < 38 → (i = 0 ∨ i = 1 ∨ i = 2 ∨ i = 4 ∨ i = 5 ∨ i = 7 ∨ i = 8) ∨ 7 ≤ mw i := by decide +kernel
theorem mw_7 {i : Nat} (h : i < 38) (h0 : i ≠ 0) (h1 : i ≠ 1) (h2 : i ≠ 2) (h4 : i ≠ 4) (h5 : i ≠ 5) (h7 : i ≠ 7) (h8 : i ≠ 8) : 7 ≤ mw i := (mw_7' i h).elim (fun q => by omega) id
theorem wh_no (h : ∀ i, i = 0 ∨ i = 1 ∨ i = 2 ∨ i = 4 ∨ i = 5 ∨ i = 7 ∨ i = 8 → isW S i j = false) : wh (wrd S 0 j) 0 7 = -1 := by
  unfold wrd
  by_cases hs : tso (tk S j) = 1
  · rw [if_pos ⟨rfl, hs⟩]
    cases hk : wx (tsg (tk S j)) with
    | none => rfl
    | some k =>
      have hk38 := (wx_some hk).1
      have hy : isW S k j = true := by unfold isW; rw [hk, decide_eq_true hs, decide_eq_true rfl]; rfl
      have hne : ∀ i, i = 0 ∨ i = 1 ∨ i = 2 ∨ i = 4 ∨ i = 5 ∨ i = 7 ∨ i = 8 → k ≠ i := fun i hi q => by
        have := h i hi
        rw [← q, hy] at this
        cases this
      have := mw_7 hk38 (hne 0 (by omega)) (hne 1 (by omega)) (hne 2 (by omega)) (hne 4 (by omega)) (hne 5 (by omega)) (hne 7 (by omega)) (hne 8 (by omega))
      show (if 0 ≤ mw k ∧ mw k < 0 + 7 then nI (mw k - 0) else -1) = _
      rw [if_neg (by omega)]
  · rw [if_neg (fun q => hs q.2)]
    rfl
/-- told once -/
theorem m_sgl (h : RMd G S 0 j) (hB : isMB G 53 2 4 B) (hS : S.length ≤ 1000) {v k i : Nat} (hv : (v = 0 ∧ k = 5 ∧ i = 0) ∨ (v = 1 ∧ k = 6 ∧ i = 1) ∨ (v = 5 ∧ k = 7 ∧ i = 7) ∨ (v = 6 ∧ k = 8 ∧ i = 8)) (hwh : wh (wrd S 0 j) 0 7 = nI v) (hs : tso (tk S j) ≠ 0) : (tBn B i = true → ∃ G', f_Md_readLine [.ref 618] (hp G) = some (none, hp G') ∧ RMd G' S (fau S 3 j) j ∧ mrE G G') ∧ (tBn B i = false → ∃ G2, f_Md_readLine [.ref 618] (hp G) = (mm_cv (f_Md_reads [.ref 618, .int (nI v)] (hp G2)) fun h => some (none, h)) ∧ RMd G2 S 0 (j + 1) ∧ isMB G2 53 2 4 (sBn B i) ∧ drE G G2) := by
  obtain ⟨f, hf⟩ : ∃ f, mm_fu = f + 4 := ⟨mm_fu - 4, by have := @fu_lt 100 (by omega); omega⟩
  have hk53 : k < 53 := by omega
  have key : f_Md_readLine [.ref 618] (hp G) = mm_run p_Md_readLine (f + 3) 76 [.ref 618, .int (nI v), .int 1, .int (nI k)] [] (hp G) := by
    rw [e_Md_readLine 618 _ (ob_Md G), show f_Md_wordHere [.ref 618, .int 0, .int 7] (hp G) = _ from m_wordHere h (a := 0) (n := 7) (by decide), ci_some, hwh, hf]
    rcases hv with ⟨rfl, rfl, rfl⟩ | ⟨rfl, rfl, rfl⟩ | ⟨rfl, rfl, rfl⟩ | ⟨rfl, rfl, rfl⟩
    · rw [if_pos (show nI 0 = (0 : Int32) from rfl), e_Md_readLine_33, if_neg (show ¬ (1 : Int32) < nI 0 by decide), if_neg (show ¬ nI 0 < (0 : Int32) by decide), if_neg (show ¬ nI 0 = (2 : Int32) by decide), show (5 : Int32) + nI 0 = nI 5 from rfl]
    · rw [if_neg (show ¬ nI 1 = (0 : Int32) by decide), if_pos (show nI 1 = (1 : Int32) from rfl), e_Md_readLine_33, if_neg (show ¬ (1 : Int32) < nI 1 by decide), if_neg (show ¬ nI 1 < (0 : Int32) by decide), if_neg (show ¬ nI 1 = (2 : Int32) by decide), show (5 : Int32) + nI 1 = nI 6 from rfl]
    · rw [if_neg (show ¬ nI 5 = (0 : Int32) by decide), if_neg (show ¬ nI 5 = (1 : Int32) by decide), if_pos (show nI 5 = (5 : Int32) from rfl), e_Md_readLine_33, if_pos (show (1 : Int32) < nI 5 by decide), if_neg (show ¬ nI 5 < (0 : Int32) by decide), if_neg (show ¬ nI 5 = (2 : Int32) by decide), show (5 : Int32) + ((nI 5 - 5) + 2) = nI 7 from rfl]
    · rw [if_neg (show ¬ nI 6 = (0 : Int32) by decide), if_neg (show ¬ nI 6 = (1 : Int32) by decide), if_neg (show ¬ nI 6 = (5 : Int32) by decide), if_pos (show nI 6 = (6 : Int32) from rfl), e_Md_readLine_33, if_pos (show (1 : Int32) < nI 6 by decide), if_neg (show ¬ nI 6 < (0 : Int32) by decide), if_neg (show ¬ nI 6 = (2 : Int32) by decide), show (5 : Int32) + ((nI 6 - 5) + 2) = nI 8 from rfl]
  have hcel : cel B k = some (b2 (tBn B i)) := by
    rcases hv with ⟨rfl, rfl, rfl⟩ | ⟨rfl, rfl, rfl⟩ | ⟨rfl, rfl, rfl⟩ | ⟨rfl, rfl, rfl⟩ <;> rfl
  have v2 : ¬ nI v = (2 : Int32) := ln (n := 2) (by omega) (by omega) (by decide)
  have v3 : ¬ nI v = (3 : Int32) := ln (n := 3) (by omega) (by omega) (by decide)
  have v4 : ¬ nI v = (4 : Int32) := ln (n := 4) (by omega) (by omega) (by decide)
  rw [key, e_Md_readLine_76, if_neg (by decide), m_toldB hB hk53 hcel, ci_some]
  refine ⟨fun hb => ?_, fun hb => ?_⟩
  · obtain ⟨G1, r1, r2, r3⟩ := m_wrong h hS (k := 3) (by decide)
    rw [if_pos rfl] at r2
    rw [hb, if_pos (show (0 : Int32) < b2 true by decide), show f_Md_wrong [.ref 618, .int 3] (hp G) = _ from r1, cv_some, m_145f r2 (fau_ne S (by decide) j)]
    exact ⟨G1, rfl, r2, r3⟩
  · rw [hb, if_neg (show ¬ (0 : Int32) < b2 false by decide), if_neg v2, e_Md_readLine_110, if_neg v3, if_neg v4, m_145s h _ _ hk53]
    refine ⟨_, rfl, (h.next hs).arr (by decide), ?_, (mrE.gsi (Or.inl rfl)).dr.tr (drE.tab (by omega))⟩
    have hB1 : isMB (gsi G 618 7 (nI (j + 1))) 53 2 4 B := hB.mr (mrE.gsi (Or.inl rfl))
    refine hB1.wrd (g := upd ((gsi G 618 7 (nI (j + 1))).1 624) (53 + k) 1) (fun q hq => ?_) (by rw [gsi_i, if_pos rfl]) (f6o _ _ (by decide)) hB1.2.1 rfl rfl
    by_cases e1 : q = k
    · subst e1
      refine Or.inr (Or.inl ?_)
      rw [upd_at]
      rcases hv with ⟨rfl, rfl, rfl⟩ | ⟨rfl, rfl, rfl⟩ | ⟨rfl, rfl, rfl⟩ | ⟨rfl, rfl, rfl⟩ <;> rfl
    · refine Or.inl ⟨upd_ne _ _ (by omega), ?_⟩
      unfold cel
      have e5 : q = 5 → tBn (sBn B i) 0 = tBn B 0 := fun q5 => by
        show (decide (0 = i) || tBn B 0) = tBn B 0
        rw [decide_eq_false (by omega), Bool.false_or]
      have e6 : q = 6 → tBn (sBn B i) 1 = tBn B 1 := fun q5 => by
        show (decide (1 = i) || tBn B 1) = tBn B 1
        rw [decide_eq_false (by omega), Bool.false_or]
      have e7 : q = 7 → tBn (sBn B i) 7 = tBn B 7 := fun q5 => by
        show (decide (7 = i) || tBn B 7) = tBn B 7
        rw [decide_eq_false (by omega), Bool.false_or]
      have e8 : q = 8 → tBn (sBn B i) 8 = tBn B 8 := fun q5 => by
        show (decide (8 = i) || tBn B 8) = tBn B 8
        rw [decide_eq_false (by omega), Bool.false_or]
      by_cases q5 : q = 5
      · rw [show tBn (sBn B i) 0 = tBn B 0 from e5 q5]; subst q5; rfl
      · by_cases q6 : q = 6
        · rw [e6 q6]; subst q6; rfl
        · by_cases q7 : q = 7
          · rw [e7 q7]; subst q7; rfl
          · by_cases q8 : q = 8
            · rw [e8 q8]; subst q8; rfl
            · rw [if_neg q5, if_neg q5, if_neg q6, if_neg q6, if_neg q7, if_neg q7, if_neg q8, if_neg q8]; rfl
theorem m_readLine (h : RMd G S 0 j) (hB : isMB G 53 2 4 B) (hk : okTB B) (hb : okBn B) (hd : nDis (tIx B)) (hS : S.length ≤ 1000) : ∃ G', f_Md_readLine [.ref 618] (hp G) = some (none, hp G') ∧ RY G' S (qLn S B j) ∧ drE G G' := by
  obtain ⟨f, hf⟩ : ∃ f, mm_fu = f + 4 := ⟨mm_fu - 4, by have := @fu_lt 100 (by omega); omega⟩
  -- once told
  have sgl : ∀ {v k i : Nat}, (v = 0 ∧ k = 5 ∧ i = 0) ∨ (v = 1 ∧ k = 6 ∧ i = 1) ∨ (v = 5 ∧ k = 7 ∧ i = 7) ∨ (v = 6 ∧ k = 8 ∧ i = 8) → isW S i j = true → ∀ {y : Nat ⊕ (TB × Nat)}, (∀ G2, RMd G2 S 0 (j + 1) → isMB G2 53 2 4 (sBn B i) → tBn B i = false → ∃ G', f_Md_reads [.ref 618, .int (nI v)] (hp G2) = some (none, hp G') ∧ RY G' S y ∧ drE G2 G') → ∃ G', f_Md_readLine [.ref 618] (hp G) = some (none, hp G') ∧ RY G' S (if tBn B i then .inl (fau S 3 j) else y) ∧ drE G G' := by
    intro v k i hv hw y hy
    have hmv : mw i = v := by rcases hv with ⟨rfl, rfl, rfl⟩ | ⟨rfl, rfl, rfl⟩ | ⟨rfl, rfl, rfl⟩ | ⟨rfl, rfl, rfl⟩ <;> rfl
    have hwh : wh (wrd S 0 j) 0 7 = nI v := by rw [wh_of (i := i) (by omega) (by omega) hw, hmv]
    obtain ⟨s1, s2⟩ := m_sgl h hB hS hv hwh (by rw [(isW_wN hw).1]; decide)
    cases hbn : tBn B i
    · obtain ⟨G2, r1, r2, r3, r4⟩ := s2 hbn
      obtain ⟨G3, t1, t2, t3⟩ := hy G2 r2 r3 hbn
      rw [r1, t1, cv_some, if_neg (show ¬ false = true by decide)]
      exact ⟨G3, rfl, t2, r4.tr t3⟩
    · obtain ⟨G2, r1, r2, r3⟩ := s1 hbn
      rw [r1, if_pos (show true = true from rfl)]
      exact ⟨G2, rfl, ⟨⟨fau_ne S (by decide) j, j, r2⟩, fun B j q => (by cases q)⟩, r3.dr⟩
  -- a fault
  have bad : ∀ {k : Nat} (g : Nat) (a b c : Int32), 1 ≤ k → k ≤ 5 → ∃ G', (mm_cv (f_Md_wrong [.ref 618, .int (nI k)] (hp G)) fun h1 => mm_run p_Md_readLine (g + 1) 145 [.ref 618, .int a, .int b, .int c] [] h1) = some (none, hp G') ∧ RY G' S (.inl (fau S k j)) ∧ drE G G' := by
    intro k g a b c k1 k5
    obtain ⟨G1, r1, r2, r3⟩ := m_wrong h hS k5
    rw [if_pos rfl] at r2
    rw [r1, cv_some, m_145f r2 (fau_ne S k1 j)]
    exact ⟨G1, rfl, ⟨⟨fau_ne S k1 j, j, r2⟩, fun B j q => (by cases q)⟩, r3.dr⟩
  -- the line begins
  have beg : ∀ {v : Nat} {X : mm_H → Option (Option Value × mm_H)} {y : Nat ⊕ (TB × Nat)} (g : Nat) (c : Int32), tso (tk S j) ≠ 0 → (∀ H, f_Md_reads [.ref 618, .int (nI v)] (hp H) = mm_cv (X (hp H)) fun h7 => some (none, h7)) → (∀ G2, RMd G2 S 0 (j + 1) → isMB G2 53 2 4 B → ∃ G', X (hp G2) = some (none, hp G') ∧ RY G' S y ∧ drE G2 G') → ∃ G', mm_run p_Md_readLine (g + 1) 145 [.ref 618, .int (nI v), .int 0, .int c] [] (hp G) = some (none, hp G') ∧ RY G' S y ∧ drE G G' := by
    intro v X y g c hs hX hy
    obtain ⟨G3, t1, t2, t3⟩ := hy _ (h.next hs) (hB.mr (mrE.gsi (Or.inl rfl)))
    rw [m_145 h, hX, t1, cv_some, cv_some]
    exact ⟨G3, rfl, t2, (mrE.gsi (Or.inl rfl)).dr.tr t3⟩
  unfold qLn
  by_cases h0 : isW S 0 j = true
  · rw [if_pos h0]
    exact sgl (Or.inl ⟨rfl, rfl, rfl⟩) h0 (fun G2 a b _ => m_pageR a b hS)
  rw [if_neg h0]
  by_cases h1 : isW S 1 j = true
  · rw [if_pos h1]
    exact sgl (Or.inr (Or.inl ⟨rfl, rfl, rfl⟩)) h1 (fun G2 a b _ => m_batchR a b hS)
  rw [if_neg h1]
  by_cases h2 : isW S 2 j = true
  · rw [if_pos h2, e_Md_readLine 618 _ (ob_Md G), show f_Md_wordHere [.ref 618, .int 0, .int 7] (hp G) = _ from m_wordHere h (a := 0) (n := 7) (by decide), ci_some, wh_of (i := 2) (by decide) (by decide) h2, if_neg (show ¬ nI (mw 2) = (0 : Int32) by decide), if_neg (show ¬ nI (mw 2) = (1 : Int32) by decide), if_neg (show ¬ nI (mw 2) = (5 : Int32) by decide), if_neg (show ¬ nI (mw 2) = (6 : Int32) by decide), hf, e_Md_readLine_33, if_pos (show (1 : Int32) < nI (mw 2) by decide), if_neg (show ¬ nI (mw 2) < (0 : Int32) by decide), if_pos (show nI (mw 2) = (2 : Int32) from rfl), show f_Md_told [.ref 618, .int 3] (hp G) = _ from m_toldB hB (k := 3) (by decide) rfl, ci_some]
    by_cases hr : tRw B ≠ []
    · have hlen : 0 < (tRw B).length := List.length_pos_iff.2 hr
      have := hk.2.2.1.1
      rw [if_pos (show (0 : Int32) < nI (tRw B).length from lp (a := 0) hlen (by omega)), if_pos hr]
      exact bad (k := 1) _ _ _ _ (by decide) (by decide)
    · have hr' : tRw B = [] := Classical.not_not.1 hr
      have b4 := hk.2.1.1
      rw [if_neg (show ¬ (0 : Int32) < nI (tRw B).length by rw [hr']; decide), if_neg hr, e_Md_readLine_76, if_pos rfl, if_pos (show nI (mw 2) = (2 : Int32) from rfl), show f_Md_told [.ref 618, .int 2] (hp G) = _ from m_toldB hB (k := 2) (by decide) rfl, ci_some]
      by_cases h4 : 4 ≤ (tIx B).length
      · rw [if_pos (show nI (tIx B).length = (4 : Int32) from lq (n := 4) (by omega)), if_pos h4]
        exact bad (k := 5) _ _ _ _ (by decide) (by decide)
      · rw [if_neg (show ¬ nI (tIx B).length = (4 : Int32) from ln (n := 4) (by omega) (by omega) (by decide)), if_neg h4, e_Md_readLine_110, if_neg (show ¬ nI (mw 2) = (3 : Int32) by decide), if_neg (show ¬ nI (mw 2) = (4 : Int32) by decide)]
        exact beg (v := 2) (X := f_Md_readIndex [.ref 618]) f _ (by rw [(isW_wN h2).1]; decide) (fun H => by rw [e_Md_reads 618 _ _ (ob_Md H), if_neg (by decide), if_neg (by decide), if_pos (show nI 2 = (2 : Int32) from rfl)]) (fun G2 a b => m_readIndex a b hk hd (by omega) hS)
  rw [if_neg h2]
  by_cases h4 : isW S 4 j = true
  · rw [if_pos h4, e_Md_readLine 618 _ (ob_Md G), show f_Md_wordHere [.ref 618, .int 0, .int 7] (hp G) = _ from m_wordHere h (a := 0) (n := 7) (by decide), ci_some, wh_of (i := 4) (by decide) (by decide) h4, if_neg (show ¬ nI (mw 4) = (0 : Int32) by decide), if_neg (show ¬ nI (mw 4) = (1 : Int32) by decide), if_neg (show ¬ nI (mw 4) = (5 : Int32) by decide), if_neg (show ¬ nI (mw 4) = (6 : Int32) by decide), hf, e_Md_readLine_33, if_pos (show (1 : Int32) < nI (mw 4) by decide), if_neg (show ¬ nI (mw 4) < (0 : Int32) by decide), if_neg (show ¬ nI (mw 4) = (2 : Int32) by decide), e_Md_readLine_76, if_pos rfl, if_neg (show ¬ nI (mw 4) = (2 : Int32) by decide), e_Md_readLine_110, if_pos (show nI (mw 4) = (3 : Int32) from rfl), show f_Md_told [.ref 618, .int 3] (hp G) = _ from m_toldB hB (k := 3) (by decide) rfl, ci_some]
    have b20 := hk.2.2.1.1
    by_cases h20 : 20 ≤ (tRw B).length
    · rw [if_pos (show nI (tRw B).length = (20 : Int32) from lq (n := 20) (by omega)), if_pos h20]
      exact bad (k := 5) _ _ _ _ (by decide) (by decide)
    · rw [if_neg (show ¬ nI (tRw B).length = (20 : Int32) from ln (n := 20) (by omega) (by omega) (by decide)), if_neg h20, if_neg (show ¬ nI (mw 4) = (4 : Int32) by decide)]
      exact beg (v := 3) (X := f_Md_readRow [.ref 618]) f _ (by rw [(isW_wN h4).1]; decide) (fun H => by rw [e_Md_reads 618 _ _ (ob_Md H), if_neg (by decide), if_neg (by decide), if_neg (by decide), if_pos (show nI 3 = (3 : Int32) from rfl)]) (fun G2 a b => m_readRow a b hk (by omega) hS)
  rw [if_neg h4]
  by_cases h5 : isW S 5 j = true
  · rw [if_pos h5, e_Md_readLine 618 _ (ob_Md G), show f_Md_wordHere [.ref 618, .int 0, .int 7] (hp G) = _ from m_wordHere h (a := 0) (n := 7) (by decide), ci_some, wh_of (i := 5) (by decide) (by decide) h5, if_neg (show ¬ nI (mw 5) = (0 : Int32) by decide), if_neg (show ¬ nI (mw 5) = (1 : Int32) by decide), if_neg (show ¬ nI (mw 5) = (5 : Int32) by decide), if_neg (show ¬ nI (mw 5) = (6 : Int32) by decide), hf, e_Md_readLine_33, if_pos (show (1 : Int32) < nI (mw 5) by decide), if_neg (show ¬ nI (mw 5) < (0 : Int32) by decide), if_neg (show ¬ nI (mw 5) = (2 : Int32) by decide), e_Md_readLine_76, if_pos rfl, if_neg (show ¬ nI (mw 5) = (2 : Int32) by decide), e_Md_readLine_110, if_neg (show ¬ nI (mw 5) = (3 : Int32) by decide), if_pos (show nI (mw 5) = (4 : Int32) from rfl), show f_Md_told [.ref 618, .int 4] (hp G) = _ from m_toldB hB (k := 4) (by decide) rfl, ci_some]
    have b8 := hk.2.2.2.1.1
    by_cases h8 : 8 ≤ (tPt B).length
    · rw [if_pos (show nI (tPt B).length = (8 : Int32) from lq (n := 8) (by omega)), if_pos h8]
      exact bad (k := 5) _ _ _ _ (by decide) (by decide)
    · rw [if_neg (show ¬ nI (tPt B).length = (8 : Int32) from ln (n := 8) (by omega) (by omega) (by decide)), if_neg h8]
      exact beg (v := 4) (X := f_Md_readPoint [.ref 618]) f _ (by rw [(isW_wN h5).1]; decide) (fun H => by rw [e_Md_reads 618 _ _ (ob_Md H), if_neg (by decide), if_neg (by decide), if_neg (by decide), if_neg (by decide), if_pos (show nI 4 = (4 : Int32) from rfl)]) (fun G2 a b => m_readPoint a b hk (by omega) hS)
  rw [if_neg h5]
  by_cases h7 : isW S 7 j = true
  · rw [if_pos h7]
    exact sgl (Or.inr (Or.inr (Or.inl ⟨rfl, rfl, rfl⟩))) h7 (fun G2 a b c => m_chooseR a b hk (hb.1 c) hS)
  rw [if_neg h7]
  by_cases h8 : isW S 8 j = true
  · rw [if_pos h8]
    exact sgl (Or.inr (Or.inr (Or.inr ⟨rfl, rfl, rfl⟩))) h8 (fun G2 a b c => m_partR a b hk (hb.2 c) hS)
  rw [if_neg h8]
  have hno : wh (wrd S 0 j) 0 7 = -1 := wh_no (fun i hi => by
    rcases hi with e | e | e | e | e | e | e <;> rw [e] <;> apply Bool.eq_false_iff.2 <;> assumption)
  rw [e_Md_readLine 618 _ (ob_Md G), show f_Md_wordHere [.ref 618, .int 0, .int 7] (hp G) = _ from m_wordHere h (a := 0) (n := 7) (by decide), ci_some, hno, if_neg (by decide), if_neg (by decide), if_neg (by decide), if_neg (by decide), hf, e_Md_readLine_33, if_neg (by decide), if_pos (by decide)]
  exact bad (k := 1) _ _ _ _ (by decide) (by decide)
end MRL
