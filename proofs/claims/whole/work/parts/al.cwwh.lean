/-! READER (the class): WHERES -/
def whE (w : Nat) (G G' : GG) : Prop := eqOff (fun n => n = 2 ∨ n = 6 ∨ (w ≤ n ∧ n ≤ w + 6)) G G' ∧ G'.2.2 6 = G.2.2 6 ∧ G'.1 6 5 = G.1 6 5
theorem whE.rf {w : Nat} {G : GG} : whE w G G := ⟨eqOff.rf, rfl, rfl⟩
theorem whE.tr {w : Nat} {G1 G2 G3 : GG} (h1 : whE w G1 G2) (h2 : whE w G2 G3) : whE w G1 G3 := ⟨h1.1.tr h2.1, h2.2.1.trans h1.2.1, h2.2.2.trans h1.2.2⟩
theorem rdE.wh {w : Nat} {G G' : GG} (h : rdE G G') : whE w G G' := ⟨h.1.mono (fun n hn => hn.elim Or.inl (fun q => Or.inr (Or.inl q))), h.2.1, h.2.2⟩
def adWh (w : Nat) : Prop := ∃ d, adPl d ∧ (w = d + 7 ∨ w = d + 14)
theorem adWh.ok {w : Nat} (h : adWh w) : okWh w := by
  obtain ⟨d, hd, e | e⟩ := h
  · rw [e]; exact hd.ch
  · rw [e]; exact hd.pa
theorem adWh.lo {w : Nat} (h : adWh w) : 14 ≤ w := by
  obtain ⟨d, hd, e | e⟩ := h <;> rcases hd with q | q | q <;> omega
theorem whE.gsi {w n k : Nat} {G : GG} {x : Int32} (hw : adWh w) (h : w ≤ n ∧ n ≤ w + 6) : whE w G (gsi G n k x) := ⟨eqOff.gsi _ _ (Or.inr (Or.inr h)), rfl, by rw [fdo _ _ (by have := hw.lo; omega)]⟩
/-- a LIMIT is open -/
def opn (G : GG) (w : Nat) (ws : List Lim) (no op : Bool) : Prop := (G.1 w 6 = nI (ws.length + 1) ∧ ∀ i (h : i < ws.length), isLim G w i ws[i]) ∧ G.1 (w + 5) ws.length = b2 no ∧ G.1 (w + 6) ws.length = b2 op
theorem isLim.cg {G G' : GG} {w i : Nat} {l : Lim} (h : isLim G w i l) (e : ∀ o, 1 ≤ o → o ≤ 6 → G'.1 (w + o) i = G.1 (w + o) i) : isLim G' w i l := by
  unfold isLim at h ⊢
  rw [e 1 (by decide) (by decide), e 2 (by decide) (by decide), e 3 (by decide) (by decide), e 4 (by decide) (by decide), e 5 (by decide) (by decide), e 6 (by decide) (by decide)]
  exact h
theorem opn.cg {G G' : GG} {w : Nat} {ws : List Lim} {no op : Bool} (h : opn G w ws no op) (e0 : G'.1 w 6 = G.1 w 6) (e : ∀ o, 1 ≤ o → o ≤ 6 → ∀ i, i ≤ ws.length → (i = ws.length → 5 ≤ o) → G'.1 (w + o) i = G.1 (w + o) i) : opn G' w ws no op := by
  obtain ⟨⟨h1, h2⟩, h3, h4⟩ := h
  refine ⟨⟨by rw [e0]; exact h1, fun i hi => (h2 i hi).cg (fun o o1 o2 => e o o1 o2 i (by omega) (fun q => by omega))⟩, by rw [e 5 (by decide) (by decide) _ (Nat.le_refl _) (fun _ => by decide)]; exact h3, by rw [e 6 (by decide) (by decide) _ (Nat.le_refl _) (fun _ => by decide)]; exact h4⟩
theorem opn.arr {G : GG} {w o : Nat} {ws : List Lim} {no op : Bool} (h : opn G w ws no op) (ho : 1 ≤ o ∧ o ≤ 4) (x : Int32) : opn (gsi G (w + o) ws.length x) w ws no op := by
  refine h.cg (by rw [fdo _ _ (by omega)]) (fun q q1 q2 i hi hq => ?_)
  by_cases e : q = o
  · subst e
    rw [fdn _ _ (by omega)]
  · rw [fdo _ _ (by omega)]
theorem rdE.wc {G G' : GG} (h : rdE G G') {w : Nat} (hw : adWh w) {o : Nat} (ho : o ≤ 6) : G'.1 (w + o) = G.1 (w + o) := (h.1 (w + o) (fun q => by have := hw.lo; omega)).1
theorem opn.rd {G G' : GG} {w : Nat} {ws : List Lim} {no op : Bool} (h : opn G w ws no op) (hw : adWh w) (hE : rdE G G') : opn G' w ws no op := h.cg (by have := hE.wc hw (o := 0) (by decide); rw [Nat.add_zero] at this; rw [this]) (fun o _ o2 i _ _ => by rw [hE.wc hw o2])
/-- it is told -/
theorem opn.fin {G : GG} {w : Nat} {ws : List Lim} {no op : Bool} (h : opn G w ws no op) {k c lo hi : Nat} (h1 : G.1 (w + 1) ws.length = nI k) (h2 : k = 28 ∨ k = 31 ∨ k = 33 → G.1 (w + 2) ws.length = nI c) (h3 : k = 28 ∨ k = 31 ∨ k = 32 → G.1 (w + 3) ws.length = nI lo) (h4 : k = 28 → G.1 (w + 4) ws.length = nI hi) : isWh G w (ws ++ [(op, no, k, c, lo, hi)]) := by
  obtain ⟨⟨a1, a2⟩, a3, a4⟩ := h
  refine ⟨by rw [a1, List.length_append]; rfl, fun i hi' => ?_⟩
  exact get_snoc (l := ws) hi' (fun l => isLim G w i l) (fun e => by rw [e]; exact ⟨h1, a3, a4, h2, h3, h4⟩) (fun hlt => a2 i hlt)
section RWH
variable {G G' : GG} {S : List Nat} {j w : Nat} {ws : List Lim} {no op : Bool}
theorem RD.w6 (h : RD G S j) (hw : adWh w) {n : Nat} (hn : w ≤ n ∧ n ≤ w + 6) (k : Nat) (x : Int32) : RD (gsi G n k x) S j := h.off (W := fun m => m = n) (eqOff.gsi _ _ rfl) (fun m h1 h2 => by have := hw.lo; omega)
theorem c_starts (h : RD G S j) (pt : Bool) : f_Rd_startsLimit [.ref 6, .int (b2 pt)] (hp G) = some (some (.int (b2 (stL S pt j))), hp G) := by
  rw [e_Rd_startsLimit 6 _ _ (ob_Rd G), gg_Rd_tape, Option.bind_some, show f_Tp_isBetween [.ref 2, .int 25, .int 27] (hp G) = _ from c_isBetween h (a := 25) (b := 27) (by decide) (by decide), ci_some]
  unfold stL
  cases isB S 25 27 j
  · rw [if_pos (by decide), gg_Rd_tape, Option.bind_some, show f_Tp_isWord [.ref 2, .int 32] (hp G) = _ from c_isWord h (i := 32) (by decide), ci_some]
    cases isW S 32 j
    · rw [if_pos (by decide)]
      cases pt
      · rw [if_pos (by decide), gg_Rd_tape, Option.bind_some, show f_Tp_isBetween [.ref 2, .int 33, .int 34] (hp G) = _ from c_isBetween h (a := 33) (b := 34) (by decide) (by decide), ci_some]
        cases isB S 33 34 j
        · rw [if_pos (by decide)]; rfl
        · rw [if_neg (by decide)]; rfl
      · rw [if_neg (by decide)]; rfl
    · rw [if_neg (by decide)]; rfl
  · rw [if_neg (by decide)]; rfl
/-- the fault is told (in a WHERE) -/
theorem c_bw (h : RD G S j) {k : Nat} (hk : 1 ≤ k) {G0 : GG} (hE : whE w G0 G) : fau S k j ≠ 0 ∧ ∃ G', (mm_ci (f_Rd_wrong [.ref 6, .int (nI k)] (hp G)) fun x5 h4 => if x5 = 0 ∨ x5 = 1 then some (some (Value.int x5), h4) else none) = some (some (Value.int 0), hp G') ∧ G'.1 6 3 = nI (fau S k j) ∧ whE w G0 G' := by
  obtain ⟨G', r1, r2, r3⟩ := c_wrong h k
  rw [r1, ci_some, if_pos (Or.inl rfl)]
  exact ⟨fau_ne S hk j, G', rfl, r2, hE.tr r3.wh⟩
theorem c_open (h : RD G S j) (hw : adWh w) (hW : isWh G w ws) (h12 : ws.length ≤ 12) (pt op : Bool) : (match pOpen S pt ws.length j with
    | .inl e => e ≠ 0 ∧ ∃ G', f_Rd_openLimit [.ref 6, .ref w, .int (b2 pt), .int (b2 op)] (hp G) = some (some (.int 0), hp G') ∧ G'.1 6 3 = nI e ∧ whE w G G'
    | .inr (no, j2) => ∃ G', f_Rd_openLimit [.ref 6, .ref w, .int (b2 pt), .int (b2 op)] (hp G) = some (some (.int 1), hp G') ∧ RD G' S j2 ∧ opn G' w ws no op ∧ ws.length < 12 ∧ whE w G G') := by
  obtain ⟨f0, hf0⟩ : ∃ g, mm_fu = g + 1 := ⟨mm_fu - 1, by have := @fu_lt 100 (by omega); omega⟩
  have hlo := hw.lo
  -- it is put down
  have put : ∀ {G1 : GG} {j1 : Nat} (no : Bool), RD G1 S j1 → isWh G1 w ws → ws.length < 12 → whE w G G1 → ∃ G', ((mm_gr 10 4 (hp G1) w).bind fun r14 => (mm_sb (hp G1) r14 (nI ws.length) (b2 no)).bind fun h15 => (mm_gr 10 5 h15 w).bind fun r16 => (mm_sb h15 r16 (nI ws.length) (b2 op)).bind fun h17 => (mm_gi 10 6 h17 w).bind fun x18 => (mm_pf 10 6 (.int (x18 + 1)) h17 w).bind fun h19 => (some (some (Value.int 1), h19) : Option (Option Value × mm_H))) = some (some (Value.int 1), hp G') ∧ RD G' S j1 ∧ opn G' w ws no op ∧ ws.length < 12 ∧ whE w G G' := by
    intro G1 j1 no hR hW1 hlt hE
    rw [gg_Wh_not _ hw.ok, Option.bind_some, uu_Wh_not _ hw.ok hlt, Option.bind_some, nar_b2, gg_Wh_opens _ hw.ok, Option.bind_some, uu_Wh_opens _ hw.ok hlt, Option.bind_some, nar_b2, gg_Wh_limits _ hw.ok, Option.bind_some, fdo _ _ (show w ≠ w + 6 by omega), fdo _ _ (show w ≠ w + 5 by omega), hW1.1, show nI ws.length + 1 = nI (ws.length + 1) from nI_add _ 1, ww_Wh_limits _ hw.ok, Option.bind_some]
    refine ⟨_, rfl, ((hR.w6 hw (by omega) _ _).w6 hw (by omega) _ _).w6 hw (by omega) _ _, ⟨⟨fd _ _ _ _, fun i hi => (hW1.2 i hi).cg (fun o o1 o2 => ?_)⟩, ?_, ?_⟩, hlt, ((hE.tr (whE.gsi hw (by omega))).tr (whE.gsi hw (by omega))).tr (whE.gsi hw (by omega))⟩
    · rw [fdo _ _ (show w + o ≠ w by omega)]
      by_cases e6 : o = 6
      · subst e6
        rw [fdn _ _ (by omega), fdo _ _ (by omega)]
      · rw [fdo _ _ (show w + o ≠ w + 6 by omega)]
        by_cases e5 : o = 5
        · subst e5
          rw [fdn _ _ (by omega)]
        · rw [fdo _ _ (show w + o ≠ w + 5 by omega)]
    · rw [fdo _ _ (show w + 5 ≠ w by omega), fdo _ _ (show w + 5 ≠ w + 6 by omega), fd]
    · rw [fdo _ _ (show w + 6 ≠ w by omega), fd]
  rw [e_Rd_openLimit 6 _ _ _ _ (ob_Rd G), gg_Rd_tape, Option.bind_some, show f_Tp_isWord [.ref 2, .int 35] (hp G) = _ from c_isWord h (i := 35) (by decide), ci_some]
  unfold pOpen
  cases hn : isW S 35 j
  · rw [if_pos (show b2 false = 0 from rfl), c_starts h pt, ci_some, Bool.not_false, Bool.true_and]
    cases hs : stL S pt j
    · rw [if_pos (show b2 false = 0 from rfl), if_pos (show (!false) = true from rfl)]
      exact c_bw h (Nat.le_refl 1) whE.rf
    · rw [if_neg (show ¬ b2 true = 0 by decide), if_neg (show ¬ (!true) = true by decide), hf0, e_Rd_openLimit_30, gg_Wh_limits _ hw.ok, Option.bind_some, hW.1]
      by_cases h12' : 12 ≤ ws.length
      · rw [if_neg (show ¬ nI ws.length < (12 : Int32) from lm (n := 12) h12' (by omega)), if_pos h12']
        exact c_bw h (by decide) whE.rf
      · rw [if_pos (show nI ws.length < (12 : Int32) from lp (n := 12) (by omega) (by decide)), if_neg h12', if_pos (show b2 false = 0 from rfl), if_neg (show ¬ false = true by decide)]
        exact put false h hW (by omega) whE.rf
  · rw [if_neg (show ¬ b2 true = 0 by decide), if_neg (show ¬ (!true && !stL S pt j) = true by simp), hf0, e_Rd_openLimit_30, gg_Wh_limits _ hw.ok, Option.bind_some, hW.1]
    by_cases h12' : 12 ≤ ws.length
    · rw [if_neg (show ¬ nI ws.length < (12 : Int32) from lm (n := 12) h12' (by omega)), if_pos h12']
      exact c_bw h (by decide) whE.rf
    · rw [if_pos (show nI ws.length < (12 : Int32) from lp (n := 12) (by omega) (by decide)), if_neg h12', if_neg (show ¬ b2 true = 0 by decide), if_pos (show true = true from rfl), gg_Rd_tape, Option.bind_some]
      obtain ⟨G1, r1, r2, r3, -⟩ := c_on h
      have hW1 : isWh G1 w ws := hW.off r3.1 (fun o ho q => by omega)
      rw [r1, cv_some, c_starts r2 pt, ci_some]
      cases hs : stL S pt (j + 1)
      · rw [if_pos (show b2 false = 0 from rfl), if_neg (show ¬ false = true by decide)]
        exact c_bw r2 (Nat.le_refl 1) r3.wh
      · rw [if_neg (show ¬ b2 true = 0 by decide), if_pos (show true = true from rfl)]
        exact put true r2 hW1 (by omega) r3.wh
def cLim (S : List Nat) (w : Nat) (ws : List Lim) (fr : GG → Prop) (x : Option (Option Value × mm_H)) : Nat ⊕ (Lim × Nat) → Prop
  | .inl e => e ≠ 0 ∧ ∃ G', x = some (some (.int 0), hp G') ∧ G'.1 6 3 = nI e ∧ fr G'
  | .inr (l, j) => ∃ G', x = some (some (.int 1), hp G') ∧ RD G' S j ∧ isWh G' w (ws ++ [l]) ∧ fr G'
theorem s_keepColumn (hw : adWh w) {i : Nat} (hi : i < 12) (x : Int32) : f_Wh_keepColumn [.ref w, .int (nI i), .int x] (hp G) = some (some (.int 1), hp (gsi G (w + 2) i x)) := by
  rw [e_Wh_keepColumn w _ _ _ (ob_Wh G hw.ok), gg_Wh_column _ hw.ok, Option.bind_some, uu_Wh_column _ hw.ok hi, Option.bind_some]
theorem s_keepBounds (hw : adWh w) {i : Nat} (hi : i < 12) (x y : Int32) : f_Wh_keepBounds [.ref w, .int (nI i), .int x, .int y] (hp G) = some (some (.int 1), hp (gsi (gsi G (w + 3) i x) (w + 4) i y)) := by
  rw [e_Wh_keepBounds w _ _ _ _ (ob_Wh G hw.ok), gg_Wh_low _ hw.ok, Option.bind_some, uu_Wh_low _ hw.ok hi, Option.bind_some, gg_Wh_high _ hw.ok, Option.bind_some, uu_Wh_high _ hw.ok hi, Option.bind_some]
/-- bounds are kept, the LIMIT is told -/
theorem c_keep (h : RD G S j) (hw : adWh w) (hO : opn G w ws no op) (h12 : ws.length < 12) {G0 : GG} (hE : whE w G0 G) {k c x y : Nat} (hk : k = 28 ∨ k = 31 ∨ k = 32) (h1 : G.1 (w + 1) ws.length = nI k) (h2 : k = 28 ∨ k = 31 → G.1 (w + 2) ws.length = nI c) : cLim S w ws (whE w G0) (mm_ci (f_Wh_keepBounds [.ref w, .int (nI ws.length), .int (nI x), .int (nI y)] (hp G)) fun x25 h24 => if x25 = 0 then some (some (.int 0), h24) else some (some (.int 1), h24)) (.inr ((op, no, k, c, x, y), j)) := by
  rw [s_keepBounds hw h12, ci_some, if_neg (by decide)]
  refine ⟨_, rfl, (h.w6 hw (by omega) _ _).w6 hw (by omega) _ _, ?_, (hE.tr (whE.gsi hw (by omega))).tr (whE.gsi hw (by omega))⟩
  refine ((hO.arr (o := 3) (by omega) _).arr (o := 4) (by omega) _).fin (by rw [fdo _ _ (by omega), fdo _ _ (by omega)]; exact h1) (fun q => by rw [fdo _ _ (by omega), fdo _ _ (by omega)]; exact h2 (by omega)) (fun _ => by rw [fdo _ _ (by omega), fd]) (fun _ => fd _ _ _ _)
theorem c_column (h : RD G S j) (hw : adWh w) (hO : opn G w ws no op) (h12 : ws.length < 12) (hB : isB S 25 27 j = true) : cLim S w ws (whE w G) (f_Rd_columnLimit [.ref 6, .ref w, .int (nI ws.length)] (hp G)) (pLim S op no j) := by
  have hlo := hw.lo
  have hT := c_takeOneOf h (a := 25) (b := 27) (by decide) (by decide)
  have hp0 : pOne S 25 27 j = .inr (wN S j - 25, j + 1) := by unfold pOne; rw [if_pos hB]
  rw [hp0] at hT
  obtain ⟨G1, r1, r2, r3, r4⟩ := hT
  rw [e_Rd_columnLimit 6 _ _ _ (ob_Rd G), show f_Rd_takeOneOf [.ref 6, .int 25, .int 27] (hp G) = _ from r1, ci_some, if_neg (by decide), gg_Rd_number, Option.bind_some, r3, s_keepColumn hw h12, ci_some, gg_Wh_kind _ hw.ok, Option.bind_some, show mm_si (hp (gsi G1 (w + 2) ws.length (nI (wN S j - 25)))) (w + 1) (nI ws.length) 28 = _ from uu_Wh_kind _ hw.ok h12 _, Option.bind_some]
  have O1 := ((hO.rd hw r4).arr (o := 2) (by omega) (nI (wN S j - 25))).arr (o := 1) (by omega) 28
  have R1 : RD (gsi (gsi G1 (w + 2) ws.length (nI (wN S j - 25))) (w + 1) ws.length 28) S (j + 1) := (r2.w6 hw (by omega) _ _).w6 hw (by omega) _ _
  have E1 : whE w G (gsi (gsi G1 (w + 2) ws.length (nI (wN S j - 25))) (w + 1) ws.length 28) := (r4.wh.tr (whE.gsi hw (by omega))).tr (whE.gsi hw (by omega))
  have k1 : (gsi (gsi G1 (w + 2) ws.length (nI (wN S j - 25))) (w + 1) ws.length 28).1 (w + 1) ws.length = nI 28 := fd _ _ _ _
  have c1 : (gsi (gsi G1 (w + 2) ws.length (nI (wN S j - 25))) (w + 1) ws.length 28).1 (w + 2) ws.length = nI (wN S j - 25) := by rw [fdo _ _ (by omega), fd]
  generalize gsi (gsi G1 (w + 2) ws.length (nI (wN S j - 25))) (w + 1) ws.length 28 = G2 at O1 R1 E1 k1 c1 ⊢
  rw [gg_Rd_tape, Option.bind_some, show f_Tp_isWord [.ref 2, .int 31] (hp G2) = _ from c_isWord R1 (i := 31) (by decide), ci_some]
  unfold pLim
  rw [if_pos hB]
  cases h31 : isW S 31 (j + 1)
  · rw [if_pos (show b2 false = 0 from rfl), if_neg (show ¬ false = true by decide), gg_Rd_tape, Option.bind_some, show f_Tp_isWord [.ref 2, .int 30] (hp G2) = _ from c_isWord R1 (i := 30) (by decide), ci_some]
    cases h30 : isW S 30 (j + 1)
    · rw [if_pos (show b2 false = 0 from rfl), if_neg (show ¬ false = true by decide)]
      obtain ⟨w1, w2⟩ := c_takeWord R1 (i := 28) (by decide)
      unfold pWd
      cases h28 : isW S 28 (j + 1)
      · obtain ⟨G3, t1, t2, t3⟩ := w2 h28
        rw [show f_Rd_takeWord [.ref 6, .int 28] (hp G2) = _ from t1, ci_some, if_pos rfl, if_neg (show ¬ false = true by decide), thn_l]
        exact ⟨fau_ne S (Nat.le_refl 1) _, G3, rfl, t2, E1.tr t3.wh⟩
      · obtain ⟨G3, t1, t2, t3, -⟩ := w1 h28
        rw [show f_Rd_takeWord [.ref 6, .int 28] (hp G2) = _ from t1, ci_some, if_neg (by decide), if_pos (show true = true from rfl), thn_r]
        have O3 := O1.rd hw t3
        have hN := c_takeNumber t2 (lo := 0) (hi := 999) (by decide) (by decide)
        cases hp1 : pNum S 0 999 (j + 1 + 1) with
        | inl e =>
          rw [hp1] at hN
          obtain ⟨e0, G4, q1, q2, q3⟩ := hN
          rw [show f_Rd_takeNumber [.ref 6, .int 0, .int 999] (hp G3) = _ from q1, ci_some, if_pos rfl, thn_l]
          exact ⟨e0, G4, rfl, q2, (E1.tr t3.wh).tr q3.wh⟩
        | inr vj =>
          obtain ⟨lo, j3⟩ := vj
          rw [hp1] at hN
          obtain ⟨G4, q1, q2, q3, q4⟩ := hN
          rw [show f_Rd_takeNumber [.ref 6, .int 0, .int 999] (hp G3) = _ from q1, ci_some, if_neg (by decide), gg_Rd_number, Option.bind_some, q3, thn_r]
          have O4 := O3.rd hw q4
          obtain ⟨w3, w4⟩ := c_takeWord q2 (i := 29) (by decide)
          cases h29 : isW S 29 j3
          · obtain ⟨G5, x1, x2, x3⟩ := w4 h29
            rw [show f_Rd_takeWord [.ref 6, .int 29] (hp G4) = _ from x1, ci_some, if_pos rfl, if_neg (show ¬ false = true by decide), thn_l]
            exact ⟨fau_ne S (Nat.le_refl 1) _, G5, rfl, x2, ((E1.tr t3.wh).tr q4.wh).tr x3.wh⟩
          · obtain ⟨G5, x1, x2, x3, -⟩ := w3 h29
            rw [show f_Rd_takeWord [.ref 6, .int 29] (hp G4) = _ from x1, ci_some, if_neg (by decide), if_pos (show true = true from rfl), thn_r]
            have O5 := O4.rd hw x3
            have hN2 := c_takeNumber x2 (lo := 0) (hi := 999) (by decide) (by decide)
            cases hp2 : pNum S 0 999 (j3 + 1) with
            | inl e =>
              rw [hp2] at hN2
              obtain ⟨e0, G6, y1, y2, y3⟩ := hN2
              rw [show f_Rd_takeNumber [.ref 6, .int 0, .int 999] (hp G5) = _ from y1, ci_some, if_pos rfl, thn_l]
              exact ⟨e0, G6, rfl, y2, (((E1.tr t3.wh).tr q4.wh).tr x3.wh).tr y3.wh⟩
            | inr vj =>
              obtain ⟨hi, j4⟩ := vj
              rw [hp2] at hN2
              obtain ⟨G6, y1, y2, y3, y4⟩ := hN2
              have all := ((t3.tr q4).tr x3).tr y4
              rw [show f_Rd_takeNumber [.ref 6, .int 0, .int 999] (hp G5) = _ from y1, ci_some, if_neg (by decide), gg_Rd_number, Option.bind_some, y3, thn_r]
              exact c_keep y2 hw (O5.rd hw y4) h12 (E1.tr all.wh) (Or.inl rfl) (by rw [all.wc hw (by decide)]; exact k1) (fun _ => by rw [all.wc hw (by decide)]; exact c1)
    · rw [if_neg (show ¬ b2 true = 0 by decide), if_pos (show true = true from rfl), gg_Rd_tape, Option.bind_some]
      obtain ⟨G3, t1, t2, t3, -⟩ := c_on R1
      rw [t1, cv_some]
      have hN := c_takeNumber t2 (lo := 0) (hi := 999) (by decide) (by decide)
      cases hp1 : pNum S 0 999 (j + 1 + 1) with
      | inl e =>
        rw [hp1] at hN
        obtain ⟨e0, G4, q1, q2, q3⟩ := hN
        rw [show f_Rd_takeNumber [.ref 6, .int 0, .int 999] (hp G3) = _ from q1, ci_some, if_pos rfl, thn_l]
        exact ⟨e0, G4, rfl, q2, (E1.tr t3.wh).tr q3.wh⟩
      | inr vj =>
        obtain ⟨v, j3⟩ := vj
        rw [hp1] at hN
        obtain ⟨G4, q1, q2, q3, q4⟩ := hN
        have all := t3.tr q4
        rw [show f_Rd_takeNumber [.ref 6, .int 0, .int 999] (hp G3) = _ from q1, ci_some, if_neg (by decide), gg_Rd_number, Option.bind_some, q3, Option.bind_some, thn_r]
        exact c_keep q2 hw (O1.rd hw all) h12 (E1.tr all.wh) (Or.inl rfl) (by rw [all.wc hw (by decide)]; exact k1) (fun _ => by rw [all.wc hw (by decide)]; exact c1)
  · rw [if_neg (show ¬ b2 true = 0 by decide), if_pos (show true = true from rfl), gg_Wh_kind _ hw.ok, Option.bind_some, show mm_si (hp G2) (w + 1) (nI ws.length) 31 = _ from uu_Wh_kind _ hw.ok h12 _, Option.bind_some, gg_Rd_tape, Option.bind_some]
    have O2 := O1.arr (o := 1) (by omega) 31
    have R2 := R1.w6 hw (n := w + 1) (by omega) ws.length 31
    have E2 : whE w G (gsi G2 (w + 1) ws.length 31) := E1.tr (whE.gsi hw (by omega))
    have k2 : (gsi G2 (w + 1) ws.length 31).1 (w + 1) ws.length = nI 31 := fd _ _ _ _
    have c2 : (gsi G2 (w + 1) ws.length 31).1 (w + 2) ws.length = nI (wN S j - 25) := by rw [fdo _ _ (by omega)]; exact c1
    generalize gsi G2 (w + 1) ws.length 31 = G3 at O2 R2 E2 k2 c2 ⊢
    obtain ⟨G4, t1, t2, t3, -⟩ := c_on R2
    rw [t1, cv_some]
    have hN := c_takeOneOf t2 (a := 25) (b := 27) (by decide) (by decide)
    cases hp1 : pOne S 25 27 (j + 1 + 1) with
    | inl e =>
      rw [hp1] at hN
      obtain ⟨e0, G5, q1, q2, q3⟩ := hN
      rw [show f_Rd_takeOneOf [.ref 6, .int 25, .int 27] (hp G4) = _ from q1, ci_some, if_pos rfl, thn_l]
      exact ⟨e0, G5, rfl, q2, (E2.tr t3.wh).tr q3.wh⟩
    | inr vj =>
      obtain ⟨v, j3⟩ := vj
      rw [hp1] at hN
      obtain ⟨G5, q1, q2, q3, q4⟩ := hN
      have all := t3.tr q4
      rw [show f_Rd_takeOneOf [.ref 6, .int 25, .int 27] (hp G4) = _ from q1, ci_some, if_neg (by decide), gg_Rd_number, Option.bind_some, q3, Option.bind_some, thn_r]
      exact c_keep q2 hw (O2.rd hw all) h12 (E2.tr all.wh) (Or.inr (Or.inl rfl)) (by rw [all.wc hw (by decide)]; exact k2) (fun _ => by rw [all.wc hw (by decide)]; exact c2)
theorem c_other (h : RD G S j) (hw : adWh w) (hO : opn G w ws no op) (h12 : ws.length < 12) (hB : isB S 25 27 j = false) (hS : isW S 32 j = true ∨ isB S 33 34 j = true) : cLim S w ws (whE w G) (f_Rd_otherLimit [.ref 6, .ref w, .int (nI ws.length)] (hp G)) (pLim S op no j) := by
  have hlo := hw.lo
  obtain ⟨t1', t2', t3'⟩ : tso (tk S j) = 1 ∧ wx (tsg (tk S j)) = some (wN S j) ∧ (wN S j = 32 ∨ wN S j = 33 ∨ wN S j = 34) := by
    rcases hS with q | q
    · obtain ⟨a1, a2, a3, -⟩ := isW_wN q
      exact ⟨a1, by rw [a3]; exact a2, Or.inl a3⟩
    · obtain ⟨a1, a2, a3, a4, -⟩ := isB_wN q
      exact ⟨a1, a2, by omega⟩
  have hv : G.1 2 7 = nI (wN S j) := by rw [h.va]; unfold valI wxI; rw [if_pos t1', t2']
  rw [e_Rd_otherLimit 6 _ _ _ (ob_Rd G), gg_Rd_tape, Option.bind_some, gg_Tp_value, Option.bind_some, hv, gg_Wh_kind _ hw.ok, Option.bind_some, uu_Wh_kind _ hw.ok h12, Option.bind_some, gg_Rd_tape, Option.bind_some]
  have O1 := hO.arr (o := 1) (by omega) (nI (wN S j))
  have R1 := h.w6 hw (n := w + 1) (by omega) ws.length (nI (wN S j))
  have E1 : whE w G (gsi G (w + 1) ws.length (nI (wN S j))) := whE.gsi hw (by omega)
  have k1 : (gsi G (w + 1) ws.length (nI (wN S j))).1 (w + 1) ws.length = nI (wN S j) := fd _ _ _ _
  generalize gsi G (w + 1) ws.length (nI (wN S j)) = G1 at O1 R1 E1 k1 ⊢
  obtain ⟨G2, t1, t2, t3, -⟩ := c_on R1
  have O2 := O1.rd hw t3
  have k2 : G2.1 (w + 1) ws.length = nI (wN S j) := by rw [t3.wc hw (by decide)]; exact k1
  rw [t1, cv_some]
  unfold pLim
  rw [if_neg (show ¬ isB S 25 27 j = true by rw [hB]; decide)]
  by_cases c32 : wN S j = 32
  · rw [c32, if_pos (show nI 32 = (32 : Int32) from rfl), if_pos (show (32 : Nat) = 32 from rfl)]
    rw [c32] at k2
    have hN := c_takeNumber t2 (lo := 2) (hi := 9) (by decide) (by decide)
    cases hp1 : pNum S 2 9 (j + 1) with
    | inl e =>
      rw [hp1] at hN
      obtain ⟨e0, G4, q1, q2, q3⟩ := hN
      rw [show f_Rd_takeNumber [.ref 6, .int 2, .int 9] (hp G2) = _ from q1, ci_some, if_pos rfl, thn_l]
      exact ⟨e0, G4, rfl, q2, (E1.tr t3.wh).tr q3.wh⟩
    | inr vj =>
      obtain ⟨v, j3⟩ := vj
      rw [hp1] at hN
      obtain ⟨G4, q1, q2, q3, q4⟩ := hN
      rw [show f_Rd_takeNumber [.ref 6, .int 2, .int 9] (hp G2) = _ from q1, ci_some, if_neg (by decide), gg_Rd_number, Option.bind_some, q3, Option.bind_some, thn_r]
      exact c_keep q2 hw (O2.rd hw q4) h12 ((E1.tr t3.wh).tr q4.wh) (Or.inr (Or.inr rfl)) (by rw [q4.wc hw (by decide)]; exact k2) (fun q => by omega)
  · rw [if_neg (show ¬ nI (wN S j) = (32 : Int32) from ln (n := 32) c32 (by omega) (by decide)), if_neg (show ¬ wN S j = 32 from c32)]
    by_cases c34 : wN S j = 34
    · rw [c34, if_pos (show nI 34 = (34 : Int32) from rfl), if_pos (show (34 : Nat) = 34 from rfl)]
      rw [c34] at k2
      exact ⟨G2, rfl, t2, O2.fin k2 (fun q => by omega) (fun q => by omega) (fun q => by omega), E1.tr t3.wh⟩
    · have c33 : wN S j = 33 := by omega
      rw [if_neg (show ¬ nI (wN S j) = (34 : Int32) from ln (n := 34) c34 (by omega) (by decide)), if_neg (show ¬ wN S j = 34 from c34)]
      rw [c33] at k2
      have hN := c_takeOneOf t2 (a := 25) (b := 27) (by decide) (by decide)
      cases hp1 : pOne S 25 27 (j + 1) with
      | inl e =>
        rw [hp1] at hN
        obtain ⟨e0, G4, q1, q2, q3⟩ := hN
        rw [show f_Rd_takeOneOf [.ref 6, .int 25, .int 27] (hp G2) = _ from q1, ci_some, if_pos rfl, thn_l]
        exact ⟨e0, G4, rfl, q2, (E1.tr t3.wh).tr q3.wh⟩
      | inr vj =>
        obtain ⟨v, j3⟩ := vj
        rw [hp1] at hN
        obtain ⟨G4, q1, q2, q3, q4⟩ := hN
        rw [show f_Rd_takeOneOf [.ref 6, .int 25, .int 27] (hp G2) = _ from q1, ci_some, if_neg (by decide), gg_Rd_number, Option.bind_some, q3, s_keepColumn hw h12, ci_some, if_neg (by decide), thn_r]
        exact ⟨_, rfl, q2.w6 hw (by omega) _ _, ((O2.rd hw q4).arr (o := 2) (by omega) (nI v)).fin (k := 33) (by rw [fdo _ _ (by omega), q4.wc hw (by decide)]; exact k2) (fun _ => fd _ _ _ _) (fun q => by omega) (fun q => by omega), ((E1.tr t3.wh).tr q4.wh).tr (whE.gsi hw (by omega))⟩
end RWH
