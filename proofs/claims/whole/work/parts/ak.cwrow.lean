/-! READER (the class): ROW and POINTER lines -/
section RRW
variable {G G' : GG} {S : List Nat} {j d : Nat} {B : TB}
theorem c_has (h : isPB G d B) (hd : adPl d) (h20 : (tRw B).length ≤ 20) (hv9 : ∀ t ∈ tRw B, t.1 ≤ 999 ∧ t.2.1 ≤ 999 ∧ t.2.2 ≤ 999) {c v : Nat} (hc : c < 3) (hv : v < 10000) : f_Pl_has [.ref d, .int (nI c), .int (nI v)] (hp G) = some (some (.int (b2 (tHas (tRw B) c v))), hp G) := by
  rw [e_Pl_has d _ _ _ (ob_Pl G hd.ok)]
  have key : ∀ (m i f : Nat), i + m = (tRw B).length → m < f → mm_run p_Pl_has f 2 [.ref d, .int (nI c), .int (nI v), .int (nI i)] [] (hp G) = some (some (.int (b2 (((tRw B).drop i).any (fun t => decide (colT t c = v))))), hp G) := by
    intro m
    induction m with
    | zero =>
      intro i f hi hf
      obtain ⟨f, rfl⟩ : ∃ g, f = g + 1 := ⟨f - 1, by omega⟩
      rw [e_Pl_has_2, gg_Pl_rows _ hd.ok, Option.bind_some, h.1.2.2.2.1, if_neg (lm (by omega) (by omega)), List.drop_of_length_le (by omega)]
      rfl
    | succ m ih =>
      intro i f hi hf
      obtain ⟨f, rfl⟩ : ∃ g, f = g + 1 := ⟨f - 1, by omega⟩
      have hil : i < (tRw B).length := by omega
      have hcol : colT (tRw B)[i] c ≤ 999 := by
        have := hv9 _ (List.getElem_mem hil)
        unfold colT
        split
        · exact this.1
        · split
          · exact this.2.1
          · exact this.2.2
      rw [e_Pl_has_2, gg_Pl_rows _ hd.ok, Option.bind_some, h.1.2.2.2.1, if_pos (lp hil (by omega)), gg_Pl_row _ hd.ok, Option.bind_some, show nI i * 3 = nI (i * 3) from n_mul i 3, i_add, rr_Pl_row _ hd.ok (by omega), Option.bind_some, h.2.2.1 i hil c hc, drop_cons hil, List.any_cons, show nI i + 1 = nI (i + 1) from nI_add i 1]
      by_cases e : colT (tRw B)[i] c = v
      · rw [if_pos (by rw [e]), decide_eq_true e, Bool.true_or]; rfl
      · rw [if_neg (ln e (by omega) (by omega)), decide_eq_false e, Bool.false_or]
        exact ih (i + 1) f (by omega) (by omega)
  have := key (tRw B).length 0 mm_fu (by omega) (fu_lt (by omega))
  rw [List.drop_zero] at this
  exact this
theorem c_onceHas (h : isPB G d B) (hd : adPl d) (hB : okTB B) {c v : Nat} (hc : c < 3) (hv : v < 10000) : f_Pl_onceHas [.ref d, .int (nI c), .int (nI v)] (hp G) = some (some (.int (b2 (tOnce B c v))), hp G) := by
  obtain ⟨-, ⟨b4, bI⟩, ⟨b20, bR⟩, -⟩ := hB
  rw [e_Pl_onceHas d _ _ _ (ob_Pl G hd.ok)]
  have key : ∀ (m i f : Nat), i + m = (tIx B).length → m < f → mm_run p_Pl_onceHas f 2 [.ref d, .int (nI c), .int (nI v), .int (nI i)] [] (hp G) = some (some (.int (b2 (((tIx B).drop i).any (fun q => decide (q.2.1 = 2) && decide (q.2.2 = c)) && tHas (tRw B) c v))), hp G) := by
    intro m
    induction m with
    | zero =>
      intro i f hi hf
      obtain ⟨f, rfl⟩ : ∃ g, f = g + 1 := ⟨f - 1, by omega⟩
      rw [e_Pl_onceHas_2, gg_Pl_indexes _ hd.ok, Option.bind_some, h.1.2.2.1, if_neg (lm (by omega) (by omega)), List.drop_of_length_le (by omega)]
      rfl
    | succ m ih =>
      intro i f hi hf
      obtain ⟨f, rfl⟩ : ∃ g, f = g + 1 := ⟨f - 1, by omega⟩
      have hil : i < (tIx B).length := by omega
      obtain ⟨-, k3, c3⟩ := bI _ (List.getElem_mem hil)
      obtain ⟨z1, z2, -⟩ := h.2.1 i hil
      rw [e_Pl_onceHas_2, gg_Pl_indexes _ hd.ok, Option.bind_some, h.1.2.2.1, if_pos (lp hil (by omega)), gg_Pl_kind _ hd.ok, Option.bind_some, rr_Pl_kind _ hd.ok (by omega), Option.bind_some, z1, drop_cons hil, List.any_cons, show nI i + 1 = nI (i + 1) from nI_add i 1]
      by_cases e : (tIx B)[i].2.1 = 2
      · rw [if_pos (show nI (tIx B)[i].2.1 = (2 : Int32) from lq (n := 2) e), gg_Pl_column _ hd.ok, Option.bind_some, rr_Pl_column _ hd.ok (by omega), Option.bind_some, z2, decide_eq_true e, Bool.true_and]
        by_cases e2 : (tIx B)[i].2.2 = c
        · rw [if_pos (by rw [e2]), c_has h hd b20 bR hc hv, ci_some, if_pos (b2_01 _), decide_eq_true e2, Bool.true_or, Bool.true_and]
        · rw [if_neg (ln e2 (by omega) (by omega)), decide_eq_false e2, Bool.false_or]
          exact ih (i + 1) f (by omega) (by omega)
      · rw [if_neg (show ¬ nI (tIx B)[i].2.1 = (2 : Int32) from ln (n := 2) e (by omega) (by decide)), decide_eq_false e, Bool.false_and, Bool.false_or]
        exact ih (i + 1) f (by omega) (by omega)
  have := key (tIx B).length 0 mm_fu (by omega) (fu_lt (by omega))
  rw [List.drop_zero] at this
  exact this
/-- a number of a ROW -/
theorem c_col (h : RB G S d B j) (hd : adPl d) (hB : okTB B) {c : Nat} (hc : c < 3) (h20 : (tRw B).length < 20) (f : Nat) : (match pCol S B c j with
    | .inl e => e ≠ 0 ∧ ∃ G', mm_run p_Rd_rowLine (f + 1) 27 [.ref 6, .int (nI c)] [] (hp G) = some (some (.int 0), hp G') ∧ G'.1 6 3 = nI e ∧ lnE d G G'
    | .inr (v, j2) => ∃ G', mm_run p_Rd_rowLine (f + 1) 27 [.ref 6, .int (nI c)] [] (hp G) = mm_run p_Rd_rowLine f 27 [.ref 6, .int (nI (c + 1))] [] (hp G') ∧ RB G' S d B j2 ∧ G'.1 (d + 4) ((tRw B).length * 3 + c) = nI v ∧ (∀ q, q ≠ (tRw B).length * 3 + c → G'.1 (d + 4) q = G.1 (d + 4) q) ∧ lnE d G G') := by
  have h5 := tso_le S j
  rw [e_Rd_rowLine_27, if_pos (show nI c < (3 : Int32) from lp (n := 3) hc (by decide)), gg_Rd_tape, Option.bind_some, gg_Tp_sort, Option.bind_some, h.1.so]
  -- a number is taken
  have tak : match pNum S 0 999 j with
      | .inl e => e ≠ 0 ∧ ∃ G', (mm_ci (f_Rd_takeNumber [.ref 6, .int 0, .int 999] (hp G)) fun x19 h18 => if x19 = 0 then some (some (.int 0), h18) else (mm_gr 6 1 h18 6).bind fun r20 => (mm_gr 4 3 h18 r20).bind fun r21 => (mm_gr 6 1 h18 6).bind fun r22 => (mm_gi 4 11 h18 r22).bind fun x23 => (mm_gi 6 4 h18 6).bind fun x24 => (mm_si h18 r21 ((x23 * 3) + nI c) x24).bind fun h25 => mm_run p_Rd_rowLine f 27 [.ref 6, .int (nI c + 1)] [] h25) = some (some (.int 0), hp G') ∧ G'.1 6 3 = nI e ∧ lnE d G G'
      | .inr (v, j2) => ∃ G', (mm_ci (f_Rd_takeNumber [.ref 6, .int 0, .int 999] (hp G)) fun x19 h18 => if x19 = 0 then some (some (.int 0), h18) else (mm_gr 6 1 h18 6).bind fun r20 => (mm_gr 4 3 h18 r20).bind fun r21 => (mm_gr 6 1 h18 6).bind fun r22 => (mm_gi 4 11 h18 r22).bind fun x23 => (mm_gi 6 4 h18 6).bind fun x24 => (mm_si h18 r21 ((x23 * 3) + nI c) x24).bind fun h25 => mm_run p_Rd_rowLine f 27 [.ref 6, .int (nI c + 1)] [] h25) = mm_run p_Rd_rowLine f 27 [.ref 6, .int (nI (c + 1))] [] (hp G') ∧ RB G' S d B j2 ∧ G'.1 (d + 4) ((tRw B).length * 3 + c) = nI v ∧ (∀ q, q ≠ (tRw B).length * 3 + c → G'.1 (d + 4) q = G.1 (d + 4) q) ∧ lnE d G G' := by
    have hN := c_takeNumber h.1 (lo := 0) (hi := 999) (by decide) (by decide)
    cases hp1 : pNum S 0 999 j with
    | inl e =>
      rw [hp1] at hN
      obtain ⟨e0, G2, q1, q2, q3⟩ := hN
      rw [show f_Rd_takeNumber [.ref 6, .int 0, .int 999] (hp G) = _ from q1, ci_some, if_pos rfl]
      exact ⟨e0, G2, rfl, q2, q3.ln⟩
    | inr vj =>
      obtain ⟨v, j2⟩ := vj
      rw [hp1] at hN
      obtain ⟨G2, q1, q2, q3, q4⟩ := hN
      have R2 := h.go hd q4 q2
      rw [show f_Rd_takeNumber [.ref 6, .int 0, .int 999] (hp G) = _ from q1, ci_some, if_neg (by decide), gg_Rd_plan, Option.bind_some, R2.2.2.2, gg_Pl_row _ hd.ok, Option.bind_some, Option.bind_some, gg_Pl_rows _ hd.ok, Option.bind_some, R2.2.1.1.2.2.2.1, gg_Rd_number, Option.bind_some, q3, show nI (tRw B).length * 3 = nI ((tRw B).length * 3) from n_mul _ 3, i_add, uu_Pl_row _ hd.ok (by omega), Option.bind_some, show nI c + 1 = nI (c + 1) from nI_add c 1]
      exact ⟨_, rfl, R2.arr hd (by omega) (R2.2.1.arrR (by omega) _), fd _ _ _ _, fun q hq => by rw [fdn _ _ hq, (q4.pl hd (by decide)).1], q4.ln.tr (lnE.gsi (Or.inr (Or.inr (by omega))))⟩
  unfold pCol
  cases hn : isNu S j
  · have hs : tso (tk S j) ≠ 2 := fun q => by unfold isNu at hn; rw [decide_eq_true q] at hn; cases hn
    rw [if_neg (show ¬ nI (tso (tk S j)) = (2 : Int32) from ln (n := 2) hs (by omega) (by decide)), Bool.false_and, if_neg (by decide)]
    exact tak
  · have hs : tso (tk S j) = 2 := of_decide_eq_true hn
    obtain ⟨v1, v2⟩ := h.1.nu hn
    rw [if_pos (show nI (tso (tk S j)) = (2 : Int32) from lq (n := 2) hs), gg_Rd_plan, Option.bind_some, h.2.2.2, Option.bind_some, gg_Tp_value, Option.bind_some, v1, c_onceHas h.2.1 hd hB hc v2, ci_some, Bool.true_and]
    cases ho : tOnce B c (nV S j)
    · rw [if_neg (show ¬ false = true by decide), if_pos (show b2 false = 0 from rfl)]
      exact tak
    · obtain ⟨G', r1, r2, r3⟩ := c_wrong h.1 3
      rw [if_pos (show true = true from rfl), if_neg (show ¬ b2 true = 0 by decide), show f_Rd_wrong [.ref 6, .int 3] (hp G) = _ from r1, ci_some, if_pos (Or.inl rfl)]
      exact ⟨fau_ne S (by decide) j, G', rfl, r2, r3.ln⟩
theorem c_row (h : RB G S d B j) (hd : adPl d) (hB : okTB B) : cLn S d (lnE d G) (f_Rd_rowLine [.ref 6] (hp G)) (pRow S B j) := by
  have b20 := hB.2.2.1.1
  have p11 := h.2.1.1.2.2.2.1
  have dd : d ≤ d ∧ d ≤ d + 20 := ⟨Nat.le_refl _, by omega⟩
  rw [e_Rd_rowLine 6 _ (ob_Rd G), gg_Rd_plan, Option.bind_some, h.2.2.2, gg_Pl_rows _ hd.ok, Option.bind_some, p11]
  unfold pRow
  by_cases h20 : 20 ≤ (tRw B).length
  · obtain ⟨G', r1, r2, r3⟩ := c_wrong h.1 5
    rw [if_neg (show ¬ nI (tRw B).length < (20 : Int32) from lm (n := 20) h20 (by omega)), if_pos h20, show f_Rd_wrong [.ref 6, .int 5] (hp G) = _ from r1, ci_some, if_pos (Or.inl rfl)]
    exact ⟨fau_ne S (by decide) j, G', rfl, r2, r3.ln⟩
  · rw [if_pos (show nI (tRw B).length < (20 : Int32) from lp (n := 20) (by omega) (by decide)), if_neg h20, gg_Rd_tape, Option.bind_some]
    obtain ⟨G1, r1, r2, r3, r4⟩ := c_on h.1
    have R1 := h.go hd r3 r2
    obtain ⟨f, hf⟩ : ∃ f, mm_fu = f + 4 := ⟨mm_fu - 4, by have := @fu_lt 100 (by omega); omega⟩
    rw [r1, cv_some, hf]
    have s1 := c_col R1 hd hB (c := 0) (by decide) (by omega) (f + 3)
    cases hp1 : pCol S B 0 (j + 1) with
    | inl e =>
      rw [hp1] at s1
      obtain ⟨e0, G2, q1, q2, q3⟩ := s1
      rw [show mm_run p_Rd_rowLine (f + 4) 27 [.ref 6, .int 0] [] (hp G1) = _ from q1, thn_l]
      exact ⟨e0, G2, rfl, q2, r3.ln.tr q3⟩
    | inr vj =>
      obtain ⟨x, j2⟩ := vj
      rw [hp1] at s1
      obtain ⟨G2, q1, q2, q3, q4, q5⟩ := s1
      rw [show mm_run p_Rd_rowLine (f + 4) 27 [.ref 6, .int 0] [] (hp G1) = _ from q1, thn_r]
      have s2 := c_col q2 hd hB (c := 1) (by decide) (by omega) (f + 2)
      cases hp2 : pCol S B 1 j2 with
      | inl e =>
        rw [hp2] at s2
        obtain ⟨e0, G3, t1, t2, t3⟩ := s2
        rw [t1, thn_l]
        exact ⟨e0, G3, rfl, t2, (r3.ln.tr q5).tr t3⟩
      | inr vj =>
        obtain ⟨y, j3⟩ := vj
        rw [hp2] at s2
        obtain ⟨G3, t1, t2, t3, t4, t5⟩ := s2
        rw [t1, thn_r]
        have s3 := c_col t2 hd hB (c := 2) (by decide) (by omega) (f + 1)
        cases hp3 : pCol S B 2 j3 with
        | inl e =>
          rw [hp3] at s3
          obtain ⟨e0, G4, u1, u2, u3⟩ := s3
          rw [u1, thn_l]
          exact ⟨e0, G4, rfl, u2, ((r3.ln.tr q5).tr t5).tr u3⟩
        | inr vj =>
          obtain ⟨z, j4⟩ := vj
          rw [hp3] at s3
          obtain ⟨G4, u1, u2, u3, u4, u5⟩ := s3
          obtain ⟨⟨z8, z9, z10, z11, z12⟩, zI, zR, zP, zc, zp⟩ := u2.2.1
          rw [u1, thn_r, e_Rd_rowLine_27, if_neg (show ¬ nI (2 + 1) < (3 : Int32) by decide), gg_Rd_plan, Option.bind_some, u2.2.2.2, gg_Pl_rows _ hd.ok, Option.bind_some, z11, show nI (tRw B).length + 1 = nI ((tRw B).length + 1) from nI_add _ 1, ww_Pl_rows _ hd.ok, Option.bind_some]
          have x4 : G4.1 (d + 4) ((tRw B).length * 3 + 0) = nI x := by rw [u4 _ (by omega), t4 _ (by omega)]; exact q3
          have y4 : G4.1 (d + 4) ((tRw B).length * 3 + 1) = nI y := by rw [u4 _ (by omega)]; exact t3
          have hq9 : eqOff (fun n => n = d) G4 (gsi G4 d 11 (nI ((tRw B).length + 1))) := eqOff.gsi _ _ rfl
          have e9 : ∀ o, 1 ≤ o → (gsi G4 d 11 (nI ((tRw B).length + 1))).1 (d + o) = G4.1 (d + o) := fun o ho => fdo _ _ (by omega)
          have R9 : RB (gsi G4 d 11 (nI ((tRw B).length + 1))) S d (tPg B, tBt B, tBn B, tIx B, tRw B ++ [(x, y, z)], tPt B, tCh B, tPa B) j4 := by
            refine ⟨u2.1.pl' hd dd _ _, ⟨⟨by rw [fdn _ _ (by decide)]; exact z8, by rw [fdn _ _ (by decide)]; exact z9, by rw [fdn _ _ (by decide)]; exact z10, ?_, by rw [fdn _ _ (by decide)]; exact z12⟩, fun i hi => by rw [e9 1 (by decide), e9 2 (by decide)]; exact zI i hi, fun r hr q hq => ?_, fun q hq => by rw [e9 5 (by decide), e9 6 (by decide)]; exact zP q hq, zc.off hq9 (fun o ho => by omega), zp.off hq9 (fun o ho => by omega)⟩, by rw [fdo _ _ (d6 hd dd)]; exact u2.2.2.1, u2.2.2.2⟩
            · rw [fd]
              show nI _ = nI (tRw B ++ [(x, y, z)]).length
              rw [List.length_append]
              rfl
            · rw [e9 4 (by decide)]
              refine get_snoc (l := tRw B) (x := (x, y, z)) hr (fun t => G4.1 (d + 4) (r * 3 + q) = nI (colT t q)) (fun e => ?_) (fun hlt => zR r hlt q hq)
              rw [e]
              have : q = 0 ∨ q = 1 ∨ q = 2 := by omega
              rcases this with e1 | e1 | e1 <;> subst e1
              · exact x4
              · exact y4
              · exact u3
          exact c_end R9 hd (fun G' q => (((((r3.ln.tr q5).tr t5).tr u5).tr (lnE.gsi (Or.inr (Or.inr (by omega)))))).tr q)
theorem c_point (h : RB G S d B j) (hd : adPl d) (hB : okTB B) : cLn S d (lnE d G) (f_Rd_pointLine [.ref 6] (hp G)) (pPoint S B j) := by
  obtain ⟨-, -, ⟨b20, bR⟩, ⟨b8, -⟩, -⟩ := id hB
  have p12 := h.2.1.1.2.2.2.2
  have dd : d ≤ d ∧ d ≤ d + 20 := ⟨Nat.le_refl _, by omega⟩
  rw [e_Rd_pointLine 6 _ (ob_Rd G), gg_Rd_plan, Option.bind_some, h.2.2.2, gg_Pl_points _ hd.ok, Option.bind_some, p12]
  unfold pPoint
  by_cases h8 : 8 ≤ (tPt B).length
  · obtain ⟨G', r1, r2, r3⟩ := c_wrong h.1 5
    rw [if_neg (show ¬ nI (tPt B).length < (8 : Int32) from lm (n := 8) h8 (by omega)), if_pos h8, show f_Rd_wrong [.ref 6, .int 5] (hp G) = _ from r1, ci_some, if_pos (Or.inl rfl)]
    exact ⟨fau_ne S (by decide) j, G', rfl, r2, r3.ln⟩
  · rw [if_pos (show nI (tPt B).length < (8 : Int32) from lp (n := 8) (by omega) (by decide)), if_neg h8, gg_Rd_tape, Option.bind_some]
    obtain ⟨G1, r1, r2, r3, r4⟩ := c_on h.1
    have R1 := h.go hd r3 r2
    rw [r1, cv_some]
    have hO := c_takeOneOf r2 (a := 22) (b := 24) (by decide) (by decide)
    cases hp1 : pOne S 22 24 (j + 1) with
    | inl e =>
      rw [hp1] at hO
      obtain ⟨e0, G2, q1, q2, q3⟩ := hO
      rw [show f_Rd_takeOneOf [.ref 6, .int 22, .int 24] (hp G1) = _ from q1, ci_some, if_pos rfl, thn_l]
      exact ⟨e0, G2, rfl, q2, r3.ln.tr q3.ln⟩
    | inr vj =>
      obtain ⟨s, j2⟩ := vj
      rw [hp1] at hO
      obtain ⟨G2, q1, q2, q3, q4⟩ := hO
      have R2 := R1.go hd q4 q2
      rw [show f_Rd_takeOneOf [.ref 6, .int 22, .int 24] (hp G1) = _ from q1, ci_some, if_neg (by decide), gg_Rd_plan, Option.bind_some, R2.2.2.2, gg_Pl_sort _ hd.ok, Option.bind_some, gg_Rd_number, Option.bind_some, q3, uu_Pl_sort _ hd.ok (by omega), Option.bind_some, thn_r]
      have R3 : RB (gsi G2 (d + 5) (tPt B).length (nI s)) S d B j2 := R2.arr hd (by omega) (R2.2.1.arrP (Or.inl rfl) (Nat.le_refl _) _)
      have s3 : (gsi G2 (d + 5) (tPt B).length (nI s)).1 (d + 5) (tPt B).length = nI s := fd _ _ _ _
      have E3 : lnE d G (gsi G2 (d + 5) (tPt B).length (nI s)) := (r3.ln.tr q4.ln).tr (lnE.gsi (Or.inr (Or.inr (by omega))))
      generalize gsi G2 (d + 5) (tPt B).length (nI s) = G3 at R3 s3 E3 ⊢
      obtain ⟨w1, w2⟩ := c_takeWord R3.1 (i := 6) (by decide)
      unfold pWd
      cases hw6 : isW S 6 j2
      · obtain ⟨G4, t1, t2, t3⟩ := w2 hw6
        rw [show f_Rd_takeWord [.ref 6, .int 6] (hp G3) = _ from t1, ci_some, if_pos rfl, if_neg (by decide), thn_l]
        exact ⟨fau_ne S (Nat.le_refl 1) j2, G4, rfl, t2, E3.tr t3.ln⟩
      · obtain ⟨G4, t1, t2, t3, -⟩ := w1 hw6
        have R4 := R3.go hd t3 t2
        have h5 := tso_le S (j2 + 1)
        have s4 : G4.1 (d + 5) (tPt B).length = nI s := by rw [(t3.pl hd (by decide)).1]; exact s3
        rw [show f_Rd_takeWord [.ref 6, .int 6] (hp G3) = _ from t1, ci_some, if_neg (by decide), if_pos rfl, thn_r, gg_Rd_tape, Option.bind_some, gg_Tp_sort, Option.bind_some, t2.so]
        -- the number
        have tak : cLn S d (lnE d G) (mm_ci (f_Rd_takeNumber [.ref 6, .int 0, .int 999] (hp G4)) fun x34 h33 => if x34 = 0 then some (some (.int 0), h33) else (mm_gr 6 1 h33 6).bind fun r35 => (mm_gr 4 5 h33 r35).bind fun r36 => (mm_gi 6 4 h33 6).bind fun x37 => (mm_si h33 r36 (nI (tPt B).length) x37).bind fun h38 => (mm_gr 6 1 h38 6).bind fun r39 => (mm_gi 4 12 h38 r39).bind fun x40 => (mm_pf 4 12 (.int (x40 + 1)) h38 r39).bind fun h41 => mm_ci (f_Rd_takeMark [.ref 6] h41) fun x43 h42 => if x43 = 0 ∨ x43 = 1 then some (some (.int x43), h42) else none) (thn (pNum S 0 999 (j2 + 1)) fun v j => thn (pMk S j) fun _ j => .inr ((tPg B, tBt B, tBn B, tIx B, tRw B, tPt B ++ [(s, v)], tCh B, tPa B), j)) := by
          have hN := c_takeNumber t2 (lo := 0) (hi := 999) (by decide) (by decide)
          cases hp2 : pNum S 0 999 (j2 + 1) with
          | inl e =>
            rw [hp2] at hN
            obtain ⟨e0, G5, x1, x2, x3⟩ := hN
            rw [show f_Rd_takeNumber [.ref 6, .int 0, .int 999] (hp G4) = _ from x1, ci_some, if_pos rfl, thn_l]
            exact ⟨e0, G5, rfl, x2, (E3.tr t3.ln).tr x3.ln⟩
          | inr vj =>
            obtain ⟨v, j3⟩ := vj
            rw [hp2] at hN
            obtain ⟨G5, x1, x2, x3, x4⟩ := hN
            have R5 := R4.go hd x4 x2
            have s5 : G5.1 (d + 5) (tPt B).length = nI s := by rw [(x4.pl hd (by decide)).1]; exact s4
            rw [show f_Rd_takeNumber [.ref 6, .int 0, .int 999] (hp G4) = _ from x1, ci_some, if_neg (by decide), gg_Rd_plan, Option.bind_some, R5.2.2.2, gg_Pl_target _ hd.ok, Option.bind_some, gg_Rd_number, Option.bind_some, x3, uu_Pl_target _ hd.ok (by omega), Option.bind_some, thn_r]
            have R6 : RB (gsi G5 (d + 6) (tPt B).length (nI v)) S d B j3 := R5.arr hd (by omega) (R5.2.1.arrP (Or.inr rfl) (Nat.le_refl _) _)
            have v6 : (gsi G5 (d + 6) (tPt B).length (nI v)).1 (d + 6) (tPt B).length = nI v := fd _ _ _ _
            have s6 : (gsi G5 (d + 6) (tPt B).length (nI v)).1 (d + 5) (tPt B).length = nI s := by rw [fdo _ _ (by omega)]; exact s5
            have E6 : lnE d G (gsi G5 (d + 6) (tPt B).length (nI v)) := ((E3.tr t3.ln).tr x4.ln).tr (lnE.gsi (Or.inr (Or.inr (by omega))))
            generalize gsi G5 (d + 6) (tPt B).length (nI v) = G6 at R6 v6 s6 E6 ⊢
            obtain ⟨⟨z8, z9, z10, z11, z12⟩, zI, zR, zP, zc, zp⟩ := R6.2.1
            rw [gg_Rd_plan, Option.bind_some, R6.2.2.2, gg_Pl_points _ hd.ok, Option.bind_some, z12, show nI (tPt B).length + 1 = nI ((tPt B).length + 1) from nI_add _ 1, ww_Pl_points _ hd.ok, Option.bind_some]
            have hq9 : eqOff (fun n => n = d) G6 (gsi G6 d 12 (nI ((tPt B).length + 1))) := eqOff.gsi _ _ rfl
            have e9 : ∀ o, 1 ≤ o → (gsi G6 d 12 (nI ((tPt B).length + 1))).1 (d + o) = G6.1 (d + o) := fun o ho => fdo _ _ (by omega)
            have R9 : RB (gsi G6 d 12 (nI ((tPt B).length + 1))) S d (tPg B, tBt B, tBn B, tIx B, tRw B, tPt B ++ [(s, v)], tCh B, tPa B) j3 := by
              refine ⟨R6.1.pl' hd dd _ _, ⟨⟨by rw [fdn _ _ (by decide)]; exact z8, by rw [fdn _ _ (by decide)]; exact z9, by rw [fdn _ _ (by decide)]; exact z10, by rw [fdn _ _ (by decide)]; exact z11, ?_⟩, fun i hi => by rw [e9 1 (by decide), e9 2 (by decide)]; exact zI i hi, fun r hr q hq => by rw [e9 4 (by decide)]; exact zR r hr q hq, fun q hq => ?_, zc.off hq9 (fun o ho => by omega), zp.off hq9 (fun o ho => by omega)⟩, by rw [fdo _ _ (d6 hd dd)]; exact R6.2.2.1, R6.2.2.2⟩
              · rw [fd]
                show nI _ = nI (tPt B ++ [(s, v)]).length
                rw [List.length_append]
                rfl
              · rw [e9 5 (by decide), e9 6 (by decide)]
                exact get_snoc (l := tPt B) (x := (s, v)) hq (fun t => G6.1 (d + 5) q = nI t.1 ∧ G6.1 (d + 6) q = nI t.2) (fun e => by rw [e]; exact ⟨s6, v6⟩) (fun hlt => zP q hlt)
            exact c_end R9 hd (fun G' q => (E6.tr (lnE.gsi (Or.inr (Or.inr (by omega))))).tr q)
        cases hn : isNu S (j2 + 1)
        · have hs : tso (tk S (j2 + 1)) ≠ 2 := fun q => by unfold isNu at hn; rw [decide_eq_true q] at hn; cases hn
          rw [if_neg (show ¬ nI (tso (tk S (j2 + 1))) = (2 : Int32) from ln (n := 2) hs (by omega) (by decide)), Bool.false_and, if_neg (by decide)]
          exact tak
        · have hs : tso (tk S (j2 + 1)) = 2 := of_decide_eq_true hn
          obtain ⟨v1, v2⟩ := t2.nu hn
          rw [if_pos (show nI (tso (tk S (j2 + 1))) = (2 : Int32) from lq (n := 2) hs), gg_Rd_plan, Option.bind_some, R4.2.2.2, Option.bind_some, gg_Tp_value, Option.bind_some, v1, show f_Pl_has [.ref d, .int 0, .int (nI (nV S (j2 + 1)))] (hp G4) = _ from c_has R4.2.1 hd b20 bR (c := 0) (by decide) v2, ci_some, Bool.true_and]
          cases hh : tHas (tRw B) 0 (nV S (j2 + 1))
          · obtain ⟨G', x1, x2, x3⟩ := c_wrong t2 2
            rw [if_pos (by decide), if_pos (show (!false) = true from rfl), show f_Rd_wrong [.ref 6, .int 2] (hp G4) = _ from x1, ci_some, if_pos (Or.inl rfl)]
            exact ⟨fau_ne S (by decide) _, G', rfl, x2, (E3.tr t3.ln).tr x3.ln⟩
          · rw [if_neg (by decide), if_neg (show ¬ (!true) = true by decide)]
            exact tak
end RRW
