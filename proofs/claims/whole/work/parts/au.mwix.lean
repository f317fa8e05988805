/-! THE REFERENCE: INDEX, ROW and POINTER lines -/
theorem gsl_at (G : GG) (n k : Nat) (v : Int64) : (gsl G n k v).2.1 n k = v := by rw [gsl_l, if_pos rfl]; unfold vp_updL; rw [if_pos rfl]
theorem gsl_ne (G : GG) {n k i : Nat} (v : Int64) (h : i ≠ k) : (gsl G n k v).2.1 n i = G.2.1 n i := by rw [gsl_l, if_pos rfl]; unfold vp_updL; rw [if_neg h]
theorem drE.nam {G : GG} {k : Nat} {v : Int64} (hk : 4 ≤ k) : drE G (gsl G 626 k v) := ⟨fun n _ _ _ => rfl, fun n hn => by rw [gsl_l, if_neg hn], rfl, fun k _ _ => rfl, fun j hj => rfl, fun j _ => rfl, fun j hj => gsl_ne _ _ (by omega)⟩
theorem cel_kd {B : TB} {i : Nat} (hi : i < (tIx B).length) (h4 : (tIx B).length ≤ 4) : cel B (9 + i) = some (nI (tIx B)[i].2.1) := by
  unfold cel
  rw [if_neg (by omega), if_neg (by omega), if_neg (by omega), if_neg (by omega), if_neg (by omega), if_neg (by omega), if_neg (by omega), if_neg (by omega), if_neg (by omega), if_pos (by omega), show 9 + i - 9 = i by omega, List.getElem?_eq_getElem hi]
  rfl
theorem cel_co {B : TB} {i : Nat} (hi : i < (tIx B).length) (h4 : (tIx B).length ≤ 4) : cel B (13 + i) = some (nI (tIx B)[i].2.2) := by
  unfold cel
  rw [if_neg (by omega), if_neg (by omega), if_neg (by omega), if_neg (by omega), if_neg (by omega), if_neg (by omega), if_neg (by omega), if_neg (by omega), if_neg (by omega), if_neg (by omega), if_pos (by omega), show 13 + i - 13 = i by omega, List.getElem?_eq_getElem hi]
  rfl
theorem cel_rw {B : TB} {i : Nat} (hi : i < (tRw B).length) (h4 : (tRw B).length ≤ 20) : cel B (17 + i) = some (nI (pk3 (tRw B)[i])) := by
  unfold cel
  rw [if_neg (by omega), if_neg (by omega), if_neg (by omega), if_neg (by omega), if_neg (by omega), if_neg (by omega), if_neg (by omega), if_neg (by omega), if_neg (by omega), if_neg (by omega), if_neg (by omega), if_pos (by omega), show 17 + i - 17 = i by omega, List.getElem?_eq_getElem hi]
  rfl
section MIX
variable {G G' : GG} {S : List Nat} {e j : Nat} {B : TB} {α : Type} {x : Nat ⊕ (α × Nat)}
theorem RX.lng (h : RX G S x) {k : Nat} {v : Int64} : RX (gsl G 626 k v) S x := h.off rfl rfl (by rw [gsl_l, if_neg (by decide)]) (by rw [gsl_l, if_neg (by decide)]) rfl rfl
theorem RMd.lng (h : RMd G S e j) {k : Nat} {v : Int64} : RMd (gsl G 626 k v) S e j := h.off rfl rfl (by rw [gsl_l, if_neg (by decide)]) (by rw [gsl_l, if_neg (by decide)]) rfl rfl
theorem nmd_snoc {l : List (List Nat × Nat × Nat)} {q : List Nat × Nat × Nat} {w : List Nat} : nmd (l ++ [q]) w = match nmd l w with
    | some i => some i
    | none => if q.1 = w then some l.length else none := by
  unfold nmd
  induction l with
  | nil =>
    show List.findIdx? _ [q] = _
    rw [List.findIdx?_cons]
    by_cases e : q.1 = w
    · rw [if_pos (decide_eq_true e)]; show some 0 = if q.1 = w then some 0 else none; rw [if_pos e]
    · rw [if_neg (fun q => e (of_decide_eq_true q))]; show none = if q.1 = w then some 0 else none; rw [if_neg e]
  | cons a l ih =>
    rw [List.cons_append, List.findIdx?_cons, List.findIdx?_cons, ih]
    by_cases e : a.1 = w
    · rw [if_pos (decide_eq_true e), if_pos (decide_eq_true e)]
    · rw [if_neg (fun q => e (of_decide_eq_true q)), if_neg (fun q => e (of_decide_eq_true q))]
      cases hl : List.findIdx? (fun q => decide (q.1 = w)) l with
      | some i => rfl
      | none =>
        show Option.map _ (if q.1 = w then some l.length else none) = if q.1 = w then some (l.length + 1) else none
        by_cases e2 : q.1 = w
        · rw [if_pos e2, if_pos e2]; rfl
        · rw [if_neg e2, if_neg e2]; rfl
theorem m_nameAt {N : List (List Nat × Nat × Nat)} {f : Nat} (h : RMd G S e j) (hw : tso (tk S j) = 1) (hN : isMN G f N) (h8 : f + N.length ≤ 8) (hok : ∀ q ∈ N, okNm q.1) (hd : nDis N) : f_Md_nameAt [.ref 618, .int (nI f), .int (nI N.length)] (hp G) = some (some (.int (nmI (nmd N (tsg (tk S j))))), hp G) := by
  obtain ⟨t1, t2, -⟩ := tk_word hw
  rw [e_Md_nameAt 618 _ _ _ (ob_Md G)]
  have key : ∀ (m k g : Nat), k + m = N.length → m < g → mm_run p_Md_nameAt g 5 [.ref 618, .int (nI f), .int (nI N.length), .int (nmI (nmd (N.take k) (tsg (tk S j)))), .int (nI k)] [] (hp G) = some (some (.int (nmI (nmd N (tsg (tk S j))))), hp G) := by
    intro m
    induction m with
    | zero =>
      intro k g hk hg
      obtain ⟨g, rfl⟩ : ∃ q, g = q + 1 := ⟨g - 1, by omega⟩
      rw [e_Md_nameAt_5, if_neg (lm (by omega) (by omega)), List.take_of_length_le (by omega)]
    | succ m ih =>
      intro k g hk hg
      obtain ⟨g, rfl⟩ : ∃ q, g = q + 1 := ⟨g - 1, by omega⟩
      have hkl : k < N.length := by omega
      obtain ⟨o1, o2⟩ := hok _ (List.getElem_mem hkl)
      have hnx := ih (k + 1) g (by omega) (by omega)
      rw [List.take_succ_eq_append_getElem hkl, nmd_snoc] at hnx
      rw [e_Md_nameAt_5, if_pos (lp hkl (by omega)), gg_Md_names, Option.bind_some, i_add, rr_Md_names _ (by omega), Option.bind_some, gg_Md_value, Option.bind_some, gg_Md_at, Option.bind_some, h.at, rr_Md_value _ h.lt, Option.bind_some, h.va.1 hw, hN k hkl, show nI k + 1 = nI (k + 1) from nI_add k 1]
      by_cases hq : N[k].1 = tsg (tk S j)
      · have hno : nmd (N.take k) (tsg (tk S j)) = none := by
          unfold nmd
          rw [List.findIdx?_eq_none_iff]
          intro q hq'
          obtain ⟨i, hi, rfl⟩ := List.mem_take_iff_getElem.1 hq'
          refine decide_eq_false (fun e => ?_)
          exact List.pairwise_iff_getElem.1 hd i k (by omega) hkl (by omega) (e.trans hq.symm)
        rw [hno] at hnx
        rw [if_pos ((cmp_0 _ _).mpr (by rw [hq]))]
        rw [show nI k = nmI (if N[k].1 = tsg (tk S j) then some (N.take k).length else none) from by rw [if_pos hq, List.length_take_of_le (by omega)]; rfl]
        exact hnx
      · rw [if_neg (fun q => hq (pkL_inj (by decide) _ _ _ rfl o2 t2 (lL_inj (pk37 o1 o2) (pk37 t1 t2) ((cmp_0 _ _).mp q))))]
        rw [if_neg hq] at hnx
        rw [show nmI (nmd (N.take k) (tsg (tk S j))) = nmI (match nmd (N.take k) (tsg (tk S j)) with
          | some i => some i
          | none => none) from by cases nmd (N.take k) (tsg (tk S j)) <;> rfl]
        exact hnx
  have := key N.length 0 mm_fu (by omega) (fu_lt (by omega))
  exact this
theorem isNm_1 (h : isNm S j = true) : tso (tk S j) = 1 := by
  unfold isNm at h
  rw [Bool.and_eq_true] at h
  exact of_decide_eq_true h.1
/-- the last of an INDEX line -/
theorem m_ixTail (h : RX G S x) (hS : S.length ≤ 1000) {n : Nat} (hn : n < 4) : ∃ G3 k c, (mm_ci (f_Md_takeOne [.ref 618, .int 16, .int 4] (hp G)) fun x10 h9 => mm_cv (f_Md_takeWord [.ref 618, .int 26] h9) fun h11 => mm_ci (f_Md_takeOne [.ref 618, .int 23, .int 3] h11) fun x13 h12 => (mm_gi 12 8 h12 618).bind fun x14 => if x14 = 0 then mm_cv (f_Md_is [.ref 618, .int (9 + nI n), .int x10] h12) fun h15 => mm_cv (f_Md_is [.ref 618, .int (13 + nI n), .int x13] h15) fun h16 => mm_cv (f_Md_is [.ref 618, .int 2, .int (nI n + 1)] h16) fun h17 => (some (none, h17) : Option (Option Value × mm_H)) else some (none, h12)) = some (none, hp (if fltx (thn (thn (thn x fun _ j => pOne S 18 21 j) fun _ j => pWd S 3 j) fun _ j => pOne S 25 27 j) = 0 then gsi (gsi (gsi G3 624 (62 + n) k) 624 (66 + n) c) 624 55 (nI (n + 1)) else G3)) ∧ RX G3 S (thn (thn (thn x fun _ j => pOne S 18 21 j) fun _ j => pWd S 3 j) fun _ j => pOne S 25 27 j) ∧ (∀ v j, (thn x fun _ j => pOne S 18 21 j) = .inr (v, j) → k = nI v) ∧ (∀ v j, (thn (thn (thn x fun _ j => pOne S 18 21 j) fun _ j => pWd S 3 j) fun _ j => pOne S 25 27 j) = .inr (v, j) → c = nI v) ∧ mrE G G3 := by
  obtain ⟨G1, k, r1, r2, r3, r4⟩ := m_one h hS fol_kind (by decide) (by decide)
  obtain ⟨G2, s1, s2, s3⟩ := m_wd r2 hS (i := 3) (by decide)
  obtain ⟨G3, c, t1, t2, t3, t4⟩ := m_one s2 hS fol_col (by decide) (by decide)
  refine ⟨G3, k, c, ?_, t2, r3, t3, (r4.tr s3).tr t4⟩
  rw [show f_Md_takeOne [.ref 618, .int 16, .int 4] (hp G) = _ from r1, ci_some, show f_Md_takeWord [.ref 618, .int 26] (hp G1) = _ from s1, cv_some, show f_Md_takeOne [.ref 618, .int 23, .int 3] (hp G2) = _ from t1, ci_some, gg_Md_fault, Option.bind_some]
  by_cases hf : fltx (thn (thn (thn x fun _ j => pOne S 18 21 j) fun _ j => pWd S 3 j) fun _ j => pOne S 25 27 j) = 0
  · rw [if_pos (t2.ne.mpr hf), if_pos hf, show (9 : Int32) + nI n = nI (9 + n) from i_add 9 n, m_isc (by omega), cv_some, show (13 : Int32) + nI n = nI (13 + n) from i_add 13 n, m_isc (by omega), cv_some, show nI n + 1 = nI (n + 1) from nI_add n 1, show ∀ H, f_Md_is [.ref 618, .int 2, .int (nI (n + 1))] (hp H) = some (none, hp (gsi H 624 (53 + 2) (nI (n + 1)))) from fun H => m_isc (k := 2) (by decide) _, cv_some, show 53 + (9 + n) = 62 + n by omega, show 53 + (13 + n) = 66 + n by omega]
  · rw [if_neg (fun q => hf (t2.ne.mp q)), if_neg hf]
def qIndex1 (S : List Nat) (B : TB) (j : Nat) : Nat ⊕ (TB × Nat) := if isNm S j then (if (nmd (tIx B) (tsg (tk S j))).isSome then .inl (fau S 3 j) else thn (pOne S 18 21 (j + 1)) fun k j2 => thn (pWd S 3 j2) fun _ j3 => thn (pOne S 25 27 j3) fun c j4 => .inr ((tPg B, tBt B, tBn B, tIx B ++ [(tsg (tk S j), k, c)], tRw B, tPt B, tCh B, tPa B), j4)) else .inl (fau S 1 j)
theorem m_readIndex (h : RMd G S 0 j) (hB : isMB G 53 2 4 B) (hk : okTB B) (hd : nDis (tIx B)) (h4 : (tIx B).length < 4) (hS : S.length ≤ 1000) : ∃ G', f_Md_readIndex [.ref 618] (hp G) = some (none, hp G') ∧ RY G' S (qIndex1 S B j) ∧ drE G G' := by
  obtain ⟨g, hg⟩ : ∃ f, mm_fu = f + 1 := ⟨mm_fu - 1, by have := @fu_lt 100 (by omega); omega⟩
  -- with a fault nothing more is told
  have bad : ∀ {G1 : GG} {e : Nat}, e ≠ 0 → RMd G1 S e j → mrE G G1 → ∃ G', mm_run p_Md_readIndex mm_fu 35 [.ref 618, .int (nI (tIx B).length)] [] (hp G1) = some (none, hp G') ∧ RY G' S (.inl e) ∧ drE G G' := fun {G1 e} he h1 hE => by
    obtain ⟨G3, k, c, t1, t2, -, -, t5⟩ := m_ixTail (x := (.inl e : Nat ⊕ (Unit × Nat))) ⟨he, j, h1⟩ hS h4
    rw [hg, e_Md_readIndex_35, gg_Md_fault, Option.bind_some, if_neg (fun q => he (h1.ne.mp q)), t1, if_neg (show ¬ fltx (thn (thn (thn (Sum.inl e : Nat ⊕ (Unit × Nat)) fun _ j => pOne S 18 21 j) fun _ j => pWd S 3 j) fun _ j => pOne S 25 27 j) = 0 from he)]
    exact ⟨G3, rfl, ⟨t2, fun B j q => (by cases q)⟩, hE.dr.tr t5.dr⟩
  rw [e_Md_readIndex 618 _ (ob_Md G), show f_Md_told [.ref 618, .int 2] (hp G) = _ from m_toldB hB (k := 2) (by decide) rfl, ci_some, m_isName h, ci_some, decide_eq_true rfl, Bool.true_and]
  unfold qIndex1
  cases hn : isNm S j
  · obtain ⟨G1, r1, r2, r3⟩ := m_wrong h hS (k := 1) (by decide)
    rw [if_pos (show b2 false = 0 from rfl), show f_Md_wrong [.ref 618, .int 1] (hp G) = _ from r1, cv_some, if_neg (show ¬ false = true by decide)]
    exact bad (fau_ne S (Nat.le_refl 1) j) r2 r3
  · have hw := isNm_1 hn
    obtain ⟨w1, w2, -⟩ := tk_word hw
    rw [if_neg (show ¬ b2 true = 0 by decide), if_pos (show true = true from rfl), show f_Md_nameAt [.ref 618, .int 4, .int (nI (tIx B).length)] (hp G) = _ from m_nameAt (f := 4) h hw hB.2.1 (by omega) (fun q hq => (hk.2.1.2 q hq).1) hd, ci_some]
    cases hm : nmd (tIx B) (tsg (tk S j)) with
    | some i =>
      have hi := nmd_lt hm
      obtain ⟨G1, r1, r2, r3⟩ := m_wrong h hS (k := 3) (by decide)
      rw [if_neg (show ¬ nmI (some i) < 0 from lm (n := 0) (by omega) (by omega)), show f_Md_wrong [.ref 618, .int 3] (hp G) = _ from r1, cv_some, if_pos (show (some i).isSome = true from rfl)]
      exact bad (fau_ne S (by decide) j) r2 r3
    | none =>
      rw [if_pos (show nmI none < 0 by decide), if_neg (show ¬ (none : Option Nat).isSome = true by decide), hg, e_Md_readIndex_35, gg_Md_fault, Option.bind_some, if_pos (h.ne.mpr rfl), gg_Md_names, Option.bind_some, gg_Md_value, Option.bind_some, gg_Md_at, Option.bind_some, h.at, rr_Md_value _ h.lt, Option.bind_some, h.va.1 hw, show (4 : Int32) + nI (tIx B).length = nI (4 + (tIx B).length) from i_add 4 _, uu_Md_names _ (by omega), Option.bind_some, gg_Md_at, Option.bind_some, show (gsl G 626 (4 + (tIx B).length) (lL (pkL 37 (tsg (tk S j))))).1 618 7 = nI j from h.at, show nI j + 1 = nI (j + 1) from nI_add j 1, ww_Md_at, Option.bind_some]
      have R1 := (h.lng (k := 4 + (tIx B).length) (v := lL (pkL 37 (tsg (tk S j))))).next (show tso (tk S j) ≠ 0 by omega)
      have D1 : drE G (gsi (gsl G 626 (4 + (tIx B).length) (lL (pkL 37 (tsg (tk S j))))) 618 7 (nI (j + 1))) := (drE.nam (by omega)).tr (mrE.gsi (Or.inl rfl)).dr
      have N1 : isMN (gsi (gsl G 626 (4 + (tIx B).length) (lL (pkL 37 (tsg (tk S j))))) 618 7 (nI (j + 1))) 4 (tIx B) := fun i hi => by
        show (gsl G 626 (4 + (tIx B).length) (lL (pkL 37 (tsg (tk S j))))).2.1 626 (4 + i) = _
        rw [gsl_ne _ _ (by omega)]
        exact hB.2.1 i hi
      have B1 : isMB (gsi (gsl G 626 (4 + (tIx B).length) (lL (pkL 37 (tsg (tk S j))))) 618 7 (nI (j + 1))) 53 2 4 B := ⟨by rw [f6o _ _ (by decide)]; exact hB.1, N1, hB.2.2.1.cg (f6o _ _ (by decide)), hB.2.2.2.cg (f6o _ _ (by decide))⟩
      have M1 : (gsi (gsl G 626 (4 + (tIx B).length) (lL (pkL 37 (tsg (tk S j))))) 618 7 (nI (j + 1))).2.1 626 (4 + (tIx B).length) = lL (pkL 37 (tsg (tk S j))) := gsl_at _ _ _ _
      generalize gsi (gsl G 626 (4 + (tIx B).length) (lL (pkL 37 (tsg (tk S j))))) 618 7 (nI (j + 1)) = G1 at R1 D1 N1 B1 M1 ⊢
      obtain ⟨G3, k, c, t1, t2, t3, t4, t5⟩ := m_ixTail (x := (.inr ((), j + 1) : Nat ⊕ (Unit × Nat))) R1 hS h4
      rw [t1]
      have hB3 := B1.mr t5
      have hM3 : G3.2.1 626 (4 + (tIx B).length) = lL (pkL 37 (tsg (tk S j))) := by rw [t5.2.1]; exact M1
      rw [thn_r] at t2 t3 t4 ⊢
      cases hp1 : pOne S 18 21 (j + 1) with
      | inl e =>
        rw [hp1] at t2
        have he : e ≠ 0 := t2.1
        rw [if_neg (show ¬ fltx (thn (thn (Sum.inl e : Nat ⊕ (Nat × Nat)) fun _ j => pWd S 3 j) fun _ j => pOne S 25 27 j) = 0 from he)]
        exact ⟨G3, rfl, ⟨t2, fun B j q => (by cases q)⟩, D1.tr t5.dr⟩
      | inr q1 =>
        obtain ⟨k', j2⟩ := q1
        have ek := t3 k' j2 hp1
        rw [hp1, thn_r] at t2 t4
        rw [thn_r, thn_r]
        cases hp2 : pWd S 3 j2 with
        | inl e =>
          rw [hp2] at t2
          have he : e ≠ 0 := t2.1
          rw [if_neg (show ¬ fltx (thn (Sum.inl e : Nat ⊕ (Nat × Nat)) fun _ j => pOne S 25 27 j) = 0 from he)]
          exact ⟨G3, rfl, ⟨t2, fun B j q => (by cases q)⟩, D1.tr t5.dr⟩
        | inr q2 =>
          obtain ⟨v2, j3⟩ := q2
          rw [hp2, thn_r] at t2 t4
          rw [thn_r, thn_r]
          cases hp3 : pOne S 25 27 j3 with
          | inl e =>
            rw [hp3] at t2
            have he : e ≠ 0 := t2.1
            rw [if_neg (show ¬ fltx (.inl e : Nat ⊕ (Nat × Nat)) = 0 from he)]
            exact ⟨G3, rfl, ⟨t2, fun B j q => (by cases q)⟩, D1.tr t5.dr⟩
          | inr q3 =>
            obtain ⟨c', j4⟩ := q3
            have ec := t4 c' j4 hp3
            rw [hp3] at t2
            rw [if_pos (show fltx (.inr (c', j4) : Nat ⊕ (Nat × Nat)) = 0 from rfl), thn_r]
            have t2' : RMd G3 S 0 j4 := t2
            refine ⟨_, rfl, ⟨((t2'.arr (by decide)).arr (by decide)).arr (by decide), fun B' j' q => ?_⟩, ((((D1.tr t5.dr).tr (drE.tab (by omega))).tr (drE.tab (by omega))).tr (drE.tab (by decide)))⟩
            cases q
            refine hB3.wrd (g := upd (upd (upd (G3.1 624) (62 + (tIx B).length) k) (66 + (tIx B).length) c) 55 (nI ((tIx B).length + 1))) (fun i hi => ?_) ?_ ?_ ?_ rfl rfl
            · by_cases i2 : i = 2
              · subst i2
                refine Or.inr (Or.inl ?_)
                rw [upd_at]
                show some (nI (tIx B ++ [_]).length) = _
                rw [List.length_append]
                rfl
              · rw [upd_ne _ _ (show 53 + i ≠ 55 by omega)]
                by_cases i13 : i = 13 + (tIx B).length
                · subst i13
                  refine Or.inr (Or.inl ?_)
                  rw [show 53 + (13 + (tIx B).length) = 66 + (tIx B).length by omega, upd_at, ec]
                  have := @cel_co (tPg B, tBt B, tBn B, tIx B ++ [(tsg (tk S j), k', c')], tRw B, tPt B, tCh B, tPa B) (tIx B).length (by show _ < (tIx B ++ [_]).length; rw [List.length_append]; show _ < (tIx B).length + 1; omega) (by show (tIx B ++ [_]).length ≤ 4; rw [List.length_append]; show (tIx B).length + 1 ≤ 4; omega)
                  rw [this]
                  show some (nI ((tIx B ++ [(tsg (tk S j), k', c')])[(tIx B).length]'_).2.2) = _
                  rw [List.getElem_concat_length rfl]
                · rw [upd_ne _ _ (show 53 + i ≠ 66 + (tIx B).length by omega)]
                  by_cases i9 : i = 9 + (tIx B).length
                  · subst i9
                    refine Or.inr (Or.inl ?_)
                    rw [show 53 + (9 + (tIx B).length) = 62 + (tIx B).length by omega, upd_at, ek]
                    have := @cel_kd (tPg B, tBt B, tBn B, tIx B ++ [(tsg (tk S j), k', c')], tRw B, tPt B, tCh B, tPa B) (tIx B).length (by show _ < (tIx B ++ [_]).length; rw [List.length_append]; show _ < (tIx B).length + 1; omega) (by show (tIx B ++ [_]).length ≤ 4; rw [List.length_append]; show (tIx B).length + 1 ≤ 4; omega)
                    rw [this]
                    show some (nI ((tIx B ++ [(tsg (tk S j), k', c')])[(tIx B).length]'_).2.1) = _
                    rw [List.getElem_concat_length rfl]
                  · refine Or.inl ⟨upd_ne _ _ (by omega), ?_⟩
                    have ga : ∀ m, m ≠ (tIx B).length → (tIx B ++ [(tsg (tk S j), k', c')])[m]? = (tIx B)[m]? := fun m hm => by
                      by_cases hlt : m < (tIx B).length
                      · rw [List.getElem?_append_left hlt]
                      · rw [List.getElem?_eq_none (by rw [List.length_append]; show (tIx B).length + 1 ≤ m; omega), List.getElem?_eq_none (by omega)]
                    unfold cel
                    rw [if_neg i2, if_neg i2]
                    by_cases c13 : i < 13
                    · by_cases c9 : 9 ≤ i
                      · rw [if_pos c13, if_pos c13]
                        show (if i = 0 then _ else _) = _
                        rw [show (tIx (tPg B, tBt B, tBn B, tIx B ++ [(tsg (tk S j), k', c')], tRw B, tPt B, tCh B, tPa B))[i - 9]? = (tIx B)[i - 9]? from ga _ (by omega)]
                        rfl
                      · have : i = 0 ∨ i = 1 ∨ i = 3 ∨ i = 4 ∨ i = 5 ∨ i = 6 ∨ i = 7 ∨ i = 8 := by omega
                        rcases this with e | e | e | e | e | e | e | e <;> subst e <;> rfl
                    · by_cases c17 : i < 17
                      · rw [if_neg c13, if_neg c13, if_pos c17, if_pos c17, show (tIx (tPg B, tBt B, tBn B, tIx B ++ [(tsg (tk S j), k', c')], tRw B, tPt B, tCh B, tPa B))[i - 13]? = (tIx B)[i - 13]? from ga _ (by omega)]
                        rfl
                      · rw [if_neg c13, if_neg c13, if_neg c17, if_neg c17]
                        rfl
            · rw [gsi_i, if_pos rfl, gsi_i, if_pos rfl, gsi_i, if_pos rfl]
            · rw [f6o _ _ (by decide), f6o _ _ (by decide), f6o _ _ (by decide)]
            · intro i hi
              show G3.2.1 626 (4 + i) = lL (pkL 37 ((tIx B ++ [(tsg (tk S j), k', c')])[i]'hi).1)
              exact get_snoc (l := tIx B) hi (fun q => G3.2.1 626 (4 + i) = lL (pkL 37 q.1)) (fun e => by rw [e]; exact hM3) (fun hlt => hB3.2.1 i hlt)
end MIX
