/-! THE REFERENCE: POINTER lines -/
def qPoint1 (S : List Nat) (B : TB) (j : Nat) : Nat ⊕ (TB × Nat) := thn (pOne S 22 24 j) fun s j => thn (pWd S 6 j) fun _ j => if isNu S j && !tHas (tRw B) 0 (nV S j) then .inl (fau S 2 j) else thn (pNum S 0 999 j) fun v j => .inr ((tPg B, tBt B, tBn B, tIx B, tRw B, tPt B ++ [(s, v)], tCh B, tPa B), j)
section MPT
variable {G G' : GG} {S : List Nat} {e j : Nat} {B : TB}
theorem isMB.pnt (hB : isMB G 53 2 4 B) (h8 : (tPt B).length < 8) (s v : Nat) : isMB (gsi (gsi (gsi G 624 (53 + (37 + (tPt B).length)) (nI s)) 624 (53 + (45 + (tPt B).length)) (nI v)) 624 (53 + 4) (nI ((tPt B).length + 1))) 53 2 4 (tPg B, tBt B, tBn B, tIx B, tRw B, tPt B ++ [(s, v)], tCh B, tPa B) := by
  have hl : (tPt B ++ [(s, v)]).length = (tPt B).length + 1 := by rw [List.length_append]; rfl
  refine hB.wrd (g := upd (upd (upd (G.1 624) (53 + (37 + (tPt B).length)) (nI s)) (53 + (45 + (tPt B).length)) (nI v)) (53 + 4) (nI ((tPt B).length + 1))) (fun i hi => ?_) ?_ ?_ hB.2.1 rfl rfl
  · by_cases i4 : i = 4
    · subst i4
      refine Or.inr (Or.inl ?_)
      rw [upd_at]
      show some (nI (tPt B ++ [_]).length) = _
      rw [hl]
    · rw [upd_ne _ _ (show 53 + i ≠ 53 + 4 by omega)]
      by_cases i45 : i = 45 + (tPt B).length
      · subst i45
        refine Or.inr (Or.inl ?_)
        rw [upd_at]
        have := @cel_va (tPg B, tBt B, tBn B, tIx B, tRw B, tPt B ++ [(s, v)], tCh B, tPa B) (tPt B).length (by show _ < (tPt B ++ [_]).length; omega) (by show (tPt B ++ [_]).length ≤ 8; omega)
        rw [this]
        show some (nI ((tPt B ++ [(s, v)])[(tPt B).length]'_).2) = _
        rw [List.getElem_concat_length rfl]
      · rw [upd_ne _ _ (show 53 + i ≠ 53 + (45 + (tPt B).length) by omega)]
        by_cases i37 : i = 37 + (tPt B).length
        · subst i37
          refine Or.inr (Or.inl ?_)
          rw [upd_at]
          have := @cel_so (tPg B, tBt B, tBn B, tIx B, tRw B, tPt B ++ [(s, v)], tCh B, tPa B) (tPt B).length (by show _ < (tPt B ++ [_]).length; omega) (by show (tPt B ++ [_]).length ≤ 8; omega)
          rw [this]
          show some (nI ((tPt B ++ [(s, v)])[(tPt B).length]'_).1) = _
          rw [List.getElem_concat_length rfl]
        · refine Or.inl ⟨upd_ne _ _ (by omega), ?_⟩
          unfold cel
          rw [if_neg i4, if_neg i4]
          by_cases c37 : i < 37
          · by_cases c17 : i < 17
            · by_cases c13 : i < 13
              · rw [if_pos c13, if_pos c13]; rfl
              · rw [if_neg c13, if_neg c13, if_pos c17, if_pos c17]; rfl
            · rw [if_neg (show ¬ i < 13 by omega), if_neg (show ¬ i < 13 by omega), if_neg c17, if_neg c17, if_pos c37, if_pos c37]; rfl
          · by_cases c45 : i < 45
            · rw [if_neg (show ¬ i < 13 by omega), if_neg (show ¬ i < 13 by omega), if_neg (show ¬ i < 17 by omega), if_neg (show ¬ i < 17 by omega), if_neg c37, if_neg c37, if_pos c45, if_pos c45, show (tPt (tPg B, tBt B, tBn B, tIx B, tRw B, tPt B ++ [(s, v)], tCh B, tPa B))[i - 37]? = (tPt B)[i - 37]? from get_ap (by omega)]
              rfl
            · rw [if_neg (show ¬ i < 13 by omega), if_neg (show ¬ i < 13 by omega), if_neg (show ¬ i < 17 by omega), if_neg (show ¬ i < 17 by omega), if_neg c37, if_neg c37, if_neg c45, if_neg c45, show (tPt (tPg B, tBt B, tBn B, tIx B, tRw B, tPt B ++ [(s, v)], tCh B, tPa B))[i - 45]? = (tPt B)[i - 45]? from get_ap (by omega)]
              rfl
  · rw [gsi_i, if_pos rfl, gsi_i, if_pos rfl, gsi_i, if_pos rfl]
  · rw [f6o _ _ (by decide), f6o _ _ (by decide), f6o _ _ (by decide)]
theorem m_readPoint (h : RMd G S 0 j) (hB : isMB G 53 2 4 B) (hk : okTB B) (h8 : (tPt B).length < 8) (hS : S.length ≤ 1000) : ∃ G', f_Md_readPoint [.ref 618] (hp G) = some (none, hp G') ∧ RY G' S (qPoint1 S B j) ∧ drE G G' := by
  have b20 := hk.2.2.1.1
  obtain ⟨G1, sv, r1, r2, r3, r4⟩ := m_one (x := (.inr ((), j) : Nat ⊕ (Unit × Nat))) h hS fol_firm (by decide) (by decide)
  obtain ⟨G2, s1, s2, s3⟩ := m_wd r2 hS (i := 6) (by decide)
  have hE2 := r4.tr s3
  have hB2 := hB.mr hE2
  obtain ⟨j2, hj2⟩ := s2.rm
  have h5 := tso_le S j2
  -- has a ROW this value
  have kk : ∀ (m i f : Nat) (b : Bool), i + m = (tRw B).length → ∃ b' f', f ≤ f' + m ∧ (m ≤ f → mm_run p_Md_readPoint f 25 [.ref 618, .int (nI (tPt B).length), .int sv, .int (b2 b), .int (nI i)] [] (hp G2) = mm_run p_Md_readPoint f' 25 [.ref 618, .int (nI (tPt B).length), .int sv, .int (b2 b'), .int (nI (tRw B).length)] [] (hp G2)) ∧ (tso (tk S j2) = 2 → b' = (b || ((tRw B).drop i).any (fun t => decide (colT t 0 = nV S j2)))) := by
    intro m
    induction m with
    | zero =>
      intro i f b hi
      refine ⟨b, f, by omega, fun _ => by rw [show i = (tRw B).length by omega], fun _ => ?_⟩
      rw [List.drop_of_length_le (by omega), List.any_nil, Bool.or_false]
    | succ m ih =>
      intro i f b hi
      have hil : i < (tRw B).length := by omega
      obtain ⟨c1, c2⟩ := m_colT hk hil (c := 0) (by decide) (hp G2)
      rw [drop_cons hil, List.any_cons]
      cases b
      · by_cases hq : lg_cmp (lL (colT (tRw B)[i] 0)) (G2.2.1 622 j2) = 0
        · obtain ⟨b', f', q1, q2, q3⟩ := ih (i + 1) (f - 1) true (by omega)
          refine ⟨b', f', by omega, fun hf => ?_, fun hs => ?_⟩
          · obtain ⟨f, rfl⟩ : ∃ g, f = g + 1 := ⟨f - 1, by omega⟩
            rw [e_Md_readPoint_25, show f_Md_told [.ref 618, .int 3] (hp G2) = _ from m_toldB hB2 (k := 3) (by decide) rfl, ci_some, if_pos (lp hil (by omega)), show nI i + 1 = nI (i + 1) from nI_add i 1, if_pos (show b2 false = 0 from rfl), show (17 : Int32) + nI i = nI (17 + i) from i_add 17 i, m_toldB hB2 (by omega) (cel_rw hil b20), ci_some, show f_Md_columnOf [.int (nI (pk3 (tRw B)[i])), .int 0] (hp G2) = _ from c1, ci_some, gg_Md_value, Option.bind_some, gg_Md_at, Option.bind_some, hj2.at, rr_Md_value _ hj2.lt, Option.bind_some, lL_nI (show colT (tRw B)[i] 0 < 2147483648 by omega), if_pos hq]
            exact q2 (by omega)
          · have hv : G2.2.1 622 j2 = lL (nV S j2) := hj2.va.2.1 hs
            have hv9 : nV S j2 < 10000 := (tk_num hs).2.2
            have e1 : colT (tRw B)[i] 0 = nV S j2 := by
              rw [hv] at hq
              exact lL_inj (by omega) (by omega) ((cmp_0 _ _).mp hq)
            rw [q3 hs, decide_eq_true e1]; simp
        · obtain ⟨b', f', q1, q2, q3⟩ := ih (i + 1) (f - 1) false (by omega)
          refine ⟨b', f', by omega, fun hf => ?_, fun hs => ?_⟩
          · obtain ⟨f, rfl⟩ : ∃ g, f = g + 1 := ⟨f - 1, by omega⟩
            rw [e_Md_readPoint_25, show f_Md_told [.ref 618, .int 3] (hp G2) = _ from m_toldB hB2 (k := 3) (by decide) rfl, ci_some, if_pos (lp hil (by omega)), show nI i + 1 = nI (i + 1) from nI_add i 1, if_pos (show b2 false = 0 from rfl), show (17 : Int32) + nI i = nI (17 + i) from i_add 17 i, m_toldB hB2 (by omega) (cel_rw hil b20), ci_some, show f_Md_columnOf [.int (nI (pk3 (tRw B)[i])), .int 0] (hp G2) = _ from c1, ci_some, gg_Md_value, Option.bind_some, gg_Md_at, Option.bind_some, hj2.at, rr_Md_value _ hj2.lt, Option.bind_some, lL_nI (show colT (tRw B)[i] 0 < 2147483648 by omega), if_neg hq]
            exact q2 (by omega)
          · have hv : G2.2.1 622 j2 = lL (nV S j2) := hj2.va.2.1 hs
            have e1 : ¬ colT (tRw B)[i] 0 = nV S j2 := fun q => hq ((cmp_0 _ _).mpr (by rw [hv, q]))
            rw [q3 hs, decide_eq_false e1]; simp
      · obtain ⟨b', f', q1, q2, q3⟩ := ih (i + 1) (f - 1) true (by omega)
        refine ⟨b', f', by omega, fun hf => ?_, fun hs => ?_⟩
        · obtain ⟨f, rfl⟩ : ∃ g, f = g + 1 := ⟨f - 1, by omega⟩
          rw [e_Md_readPoint_25, show f_Md_told [.ref 618, .int 3] (hp G2) = _ from m_toldB hB2 (k := 3) (by decide) rfl, ci_some, if_pos (lp hil (by omega)), show nI i + 1 = nI (i + 1) from nI_add i 1, if_neg (show ¬ b2 true = 0 by decide)]
          exact q2 (by omega)
        · rw [q3 hs, Bool.true_or, Bool.true_or]
  -- the number, and all is put down
  have fin : ∀ {β : Type} {y : Nat ⊕ (β × Nat)} {G3 : GG} (g : Nat), RX G3 S y → mrE G G3 → ∃ G4 v, mm_run p_Md_readPoint (g + 1) 107 [.ref 618, .int (nI (tPt B).length), .int sv] [] (hp G3) = some (none, hp (if fltx (thn y fun _ j => pNum S 0 999 j) = 0 then gsi (gsi (gsi G4 624 (53 + (37 + (tPt B).length)) sv) 624 (53 + (45 + (tPt B).length)) v) 624 (53 + 4) (nI ((tPt B).length + 1)) else G4)) ∧ RX G4 S (thn y fun _ j => pNum S 0 999 j) ∧ (∀ a j, (thn y fun _ j => pNum S 0 999 j) = .inr (a, j) → v = nI a) ∧ mrE G G4 := by
    intro β y G3 g h3 hE
    obtain ⟨G4, v, t1, t2, t3, t4⟩ := m_num h3 hS (lo := 0) (hi := 999) (by decide) (by decide)
    refine ⟨G4, v, ?_, t2, t3, hE.tr t4⟩
    rw [e_Md_readPoint_107, show f_Md_takeNumber [.ref 618, .int 0, .int 999] (hp G3) = _ from t1, ci_some, gg_Md_fault, Option.bind_some]
    by_cases hf : fltx (thn y fun _ j => pNum S 0 999 j) = 0
    · rw [if_pos (t2.ne.mpr hf), if_pos hf, show (37 : Int32) + nI (tPt B).length = nI (37 + (tPt B).length) from i_add 37 _, m_isc (by omega), cv_some, show (45 : Int32) + nI (tPt B).length = nI (45 + (tPt B).length) from i_add 45 _, m_isc (by omega), cv_some, show nI (tPt B).length + 1 = nI ((tPt B).length + 1) from nI_add _ 1, show ∀ H, f_Md_is [.ref 618, .int 4, .int (nI ((tPt B).length + 1))] (hp H) = some (none, hp (gsi H 624 (53 + 4) (nI ((tPt B).length + 1)))) from fun H => m_isc (k := 4) (by decide) _, cv_some]
    · rw [if_neg (fun q => hf (t2.ne.mp q)), if_neg hf]
  -- a fault stays
  have bad : ∀ {G3 : GG} {e : Nat} (g : Nat), e ≠ 0 → RMd G3 S e j2 → mrE G G3 → ∃ G', mm_run p_Md_readPoint (g + 1) 107 [.ref 618, .int (nI (tPt B).length), .int sv] [] (hp G3) = some (none, hp G') ∧ RY G' S (.inl e) ∧ drE G G' := by
    intro G3 e g he h3 hE
    obtain ⟨G4, v, t1, t2, -, t4⟩ := fin (y := (.inl e : Nat ⊕ (Unit × Nat))) g ⟨he, j2, h3⟩ hE
    rw [t1, if_neg (show ¬ fltx (thn (Sum.inl e : Nat ⊕ (Unit × Nat)) fun _ j => pNum S 0 999 j) = 0 from he)]
    exact ⟨G4, rfl, ⟨t2, fun B j q => (by cases q)⟩, t4.dr⟩
  obtain ⟨b', f', q1, q2, q3⟩ := kk (tRw B).length 0 mm_fu false (by omega)
  have hfu := @fu_lt 100 (by omega)
  obtain ⟨f', rfl⟩ : ∃ g, f' = g + 2 := ⟨f' - 2, by omega⟩
  rw [e_Md_readPoint 618 _ (ob_Md G), show f_Md_told [.ref 618, .int 4] (hp G) = _ from m_toldB hB (k := 4) (by decide) rfl, ci_some, show f_Md_takeOne [.ref 618, .int 20, .int 3] (hp G) = _ from r1, ci_some, show f_Md_takeWord [.ref 618, .int 27] (hp G1) = _ from s1, cv_some, show mm_run p_Md_readPoint mm_fu 25 [.ref 618, .int (nI (tPt B).length), .int sv, .int 0, .int 0] [] (hp G2) = _ from q2 (by omega), e_Md_readPoint_25, show f_Md_told [.ref 618, .int 3] (hp G2) = _ from m_toldB hB2 (k := 3) (by decide) rfl, ci_some, if_neg (lm (Nat.le_refl _) (by omega)), gg_Md_fault, Option.bind_some]
  rw [thn_r] at r3 s2 hj2
  unfold qPoint1
  cases hp1 : pOne S 22 24 j with
  | inl e =>
    rw [hp1] at s2 hj2
    rw [if_neg (fun q => s2.1 (s2.ne.mp q))]
    exact bad f' s2.1 hj2 hE2
  | inr p1 =>
    obtain ⟨s, j1⟩ := p1
    have es := r3 s j1 hp1
    rw [hp1, thn_r] at s2 hj2
    rw [thn_r]
    cases hp2 : pWd S 6 j1 with
    | inl e =>
      rw [hp2] at s2 hj2
      rw [if_neg (fun q => s2.1 (s2.ne.mp q))]
      exact bad f' s2.1 hj2 hE2
    | inr p2 =>
      obtain ⟨u, j2'⟩ := p2
      rw [hp2] at s2 hj2
      have ej : j2 = j2' := s2.eq hj2 rfl
      subst ej
      have hj2' : RMd G2 S 0 j2 := s2
      rw [thn_r, if_pos (hj2'.ne.mpr rfl), gg_Md_sort, Option.bind_some, gg_Md_at, Option.bind_some, hj2'.at, rr_Md_sort _ hj2'.lt, Option.bind_some, hj2'.so]
      -- the number is taken
      have go : ∃ G', mm_run p_Md_readPoint (f' + 1) 107 [.ref 618, .int (nI (tPt B).length), .int sv] [] (hp G2) = some (none, hp G') ∧ RY G' S (thn (pNum S 0 999 j2) fun v j => .inr ((tPg B, tBt B, tBn B, tIx B, tRw B, tPt B ++ [(s, v)], tCh B, tPa B), j)) ∧ drE G G' := by
        obtain ⟨G4, v, t1, t2, t3, t4⟩ := fin (y := (.inr ((), j2) : Nat ⊕ (Unit × Nat))) f' hj2' hE2
        rw [thn_r] at t1 t2 t3
        rw [t1]
        cases hp3 : pNum S 0 999 j2 with
        | inl e =>
          rw [hp3] at t2
          rw [if_neg (show ¬ fltx (Sum.inl e : Nat ⊕ (Nat × Nat)) = 0 from t2.1)]
          exact ⟨G4, rfl, ⟨t2, fun B j q => (by cases q)⟩, t4.dr⟩
        | inr p3 =>
          obtain ⟨v', j3⟩ := p3
          have ev := t3 v' j3 hp3
          rw [hp3] at t2
          have t2' : RMd G4 S 0 j3 := t2
          rw [if_pos (show fltx (Sum.inr (v', j3) : Nat ⊕ (Nat × Nat)) = 0 from rfl), thn_r, es, ev]
          refine ⟨_, rfl, ⟨((t2'.arr (by decide)).arr (by decide)).arr (by decide), fun B' j' q => ?_⟩, ((t4.dr.tr (drE.tab (by omega))).tr (drE.tab (by omega))).tr (drE.tab (by decide))⟩
          cases q
          exact (hB.mr t4).pnt h8 s v'
      by_cases hs : tso (tk S j2) = 2
      · have hn : isNu S j2 = true := decide_eq_true hs
        have hb := q3 hs
        rw [List.drop_zero, Bool.false_or] at hb
        rw [if_pos (show nI (tso (tk S j2)) = (2 : Int32) from lq (n := 2) hs), hn, Bool.true_and]
        cases ht : tHas (tRw B) 0 (nV S j2)
        · rw [show b' = false from hb.trans ht, if_pos (show b2 false = 0 from rfl), if_pos (show (!false) = true from rfl)]
          obtain ⟨G3, u1, u2, u3⟩ := m_wrong hj2' hS (k := 2) (by decide)
          rw [show f_Md_wrong [.ref 618, .int 2] (hp G2) = _ from u1, cv_some]
          exact bad f' (fau_ne S (by decide) j2) u2 (hE2.tr u3)
        · rw [show b' = true from hb.trans ht, if_neg (show ¬ b2 true = 0 by decide), if_neg (show ¬ (!true) = true by decide)]
          exact go
      · have hn : isNu S j2 = false := decide_eq_false hs
        rw [if_neg (show ¬ nI (tso (tk S j2)) = (2 : Int32) from ln (n := 2) hs (by omega) (by decide)), hn, Bool.false_and, if_neg (show ¬ false = true by decide)]
        exact go
end MPT
