/-! READER (the class): a WHERE to its end, the lines one after another -/
def cWh (S : List Nat) (w : Nat) (fr : GG → Prop) (x : Option (Option Value × mm_H)) : Nat ⊕ (List Lim × Nat) → Prop
  | .inl e => e ≠ 0 ∧ ∃ G', x = some (some (.int 0), hp G') ∧ G'.1 6 3 = nI e ∧ fr G'
  | .inr (l, j) => ∃ G', x = some (some (.int 1), hp G') ∧ RD G' S j ∧ isWh G' w l ∧ fr G'
theorem pOpen_st {S : List Nat} {pt no : Bool} {n j j2 : Nat} (h : pOpen S pt n j = .inr (no, j2)) : stL S pt j2 = true := by
  unfold pOpen at h
  split at h
  · cases h
  · rename_i h1
    split at h
    · cases h
    · split at h
      · split at h
        · rename_i q
          cases h
          exact q
        · cases h
      · rename_i q
        cases h
        cases hs : stL S pt j
        · rw [hs] at h1
          cases hw : isW S 35 j
          · rw [hw] at h1; exact absurd rfl h1
          · exact absurd hw q
        · rfl
theorem stL_or {S : List Nat} {pt : Bool} {j : Nat} (h : stL S pt j = true) (hB : isB S 25 27 j = false) : isW S 32 j = true ∨ isB S 33 34 j = true := by
  unfold stL at h
  rw [hB, Bool.false_or, Bool.or_eq_true, Bool.and_eq_true] at h
  exact h.elim Or.inl (fun q => Or.inr q.2)
theorem isW_ne {S : List Nat} {a b j : Nat} (h : isW S a j = true) (hab : a ≠ b) : isW S b j = false := by
  cases hb : isW S b j
  · rfl
  · exact absurd ((isW_wN h).2.2.1.symm.trans (isW_wN hb).2.2.1) hab
section RWL
variable {G0 : GG} {S : List Nat} {w : Nat}
theorem c_whl (hw : adWh w) (pt : Bool) : ∀ (m : Nat) (ws : List Lim) (op : Bool) (G : GG) (j f : Nat), RD G S j → isWh G w ws → ws.length + m = 13 → ws.length ≤ 12 → 2 * m + 2 ≤ f → whE w G0 G → cWh S w (whE w G0) (mm_run p_Rd_whereLine f 5 [.ref 6, .ref w, .int (b2 pt), .int (b2 op), .int (nI ws.length)] [] (hp G)) (pWh S pt m op ws j) := by
  intro m
  induction m with
  | zero => intro ws op G j f _ _ h1 h2; omega
  | succ m ih =>
    intro ws op G j f hR hW hm h12 hf hE
    obtain ⟨f, rfl⟩ : ∃ g, f = g + 2 := ⟨f - 2, by omega⟩
    rw [e_Rd_whereLine_5, if_neg (show ¬ (12 : Int32) < nI ws.length from lm (a := 12) h12 (by decide))]
    have hO := c_open hR hw hW h12 pt op
    unfold pWh
    cases hp1 : pOpen S pt ws.length j with
    | inl e =>
      rw [hp1] at hO
      obtain ⟨e0, G1, r1, r2, r3⟩ := hO
      rw [r1, ci_some, if_pos rfl, thn_l]
      exact ⟨e0, G1, rfl, r2, hE.tr r3⟩
    | inr vj =>
      obtain ⟨no, j1⟩ := vj
      rw [hp1] at hO
      obtain ⟨G1, r1, r2, r3, r4, r5⟩ := hO
      have hst := pOpen_st hp1
      -- the LIMIT
      have hL : ∃ X, (mm_ci (f_Tp_isBetween [.ref 2, .int 25, .int 27] (hp G1)) fun x8 h7 => if x8 = 0 then mm_ci (f_Rd_otherLimit [.ref 6, .ref w, .int (nI ws.length)] h7) fun x10 h9 => mm_run p_Rd_whereLine (f + 1) 63 [.ref 6, .ref w, .int (b2 pt), .int (nI ws.length)] [.int x10] h9 else mm_ci (f_Rd_columnLimit [.ref 6, .ref w, .int (nI ws.length)] h7) fun x12 h11 => mm_run p_Rd_whereLine (f + 1) 63 [.ref 6, .ref w, .int (b2 pt), .int (nI ws.length)] [.int x12] h11) = mm_ci X (fun x h => mm_run p_Rd_whereLine (f + 1) 63 [.ref 6, .ref w, .int (b2 pt), .int (nI ws.length)] [.int x] h) ∧ cLim S w ws (whE w G1) X (pLim S op no j1) := by
        rw [show f_Tp_isBetween [.ref 2, .int 25, .int 27] (hp G1) = _ from c_isBetween r2 (a := 25) (b := 27) (by decide) (by decide), ci_some]
        cases hB : isB S 25 27 j1
        · rw [if_pos (show b2 false = 0 from rfl)]
          exact ⟨_, rfl, c_other r2 hw r3 r4 hB (stL_or hst hB)⟩
        · rw [if_neg (show ¬ b2 true = 0 by decide)]
          exact ⟨_, rfl, c_column r2 hw r3 r4 hB⟩
      obtain ⟨X, x1, x2⟩ := hL
      rw [r1, ci_some, if_neg (by decide), gg_Wh_limits _ hw.ok, Option.bind_some, r3.1.1, gg_Rd_tape, Option.bind_some, show nI (ws.length + 1) - 1 = nI ws.length from by rw [show (1 : Int32) = nI 1 from rfl, n_sub (by omega)]; rfl, x1, thn_r]
      cases hp2 : pLim S op no j1 with
      | inl e =>
        rw [hp2] at x2
        obtain ⟨e0, G2, q1, q2, q3⟩ := x2
        rw [q1, ci_some, e_Rd_whereLine_63, if_pos rfl, thn_l]
        exact ⟨e0, G2, rfl, q2, (hE.tr r5).tr q3⟩
      | inr lj =>
        obtain ⟨l, j2⟩ := lj
        rw [hp2] at x2
        obtain ⟨G2, q1, q2, q3, q4⟩ := x2
        have E2 := (hE.tr r5).tr q4
        rw [q1, ci_some, e_Rd_whereLine_63, if_neg (show ¬ (1 : Int32) = 0 by decide), gg_Rd_tape, Option.bind_some, show f_Tp_isWord [.ref 2, .int 36] (hp G2) = _ from c_isWord q2 (i := 36) (by decide), ci_some, thn_r]
        have hlen : (ws ++ [l]).length = ws.length + 1 := by rw [List.length_append]; rfl
        -- one more
        have more : ∀ (b : Bool), cWh S w (whE w G0) (mm_cv (f_Tp_readOn [.ref 2] (hp G2)) fun h18 => mm_run p_Rd_whereLine f 5 [.ref 6, .ref w, .int (b2 pt), .int (b2 b), .int (nI ws.length + 1)] [] h18) (pWh S pt m b (ws ++ [l]) (j2 + 1)) := by
          intro b
          obtain ⟨G3, t1, t2, t3, -⟩ := c_on q2
          have W3 : isWh G3 w (ws ++ [l]) := q3.off t3.1 (fun o ho q => by have := hw.lo; omega)
          rw [t1, cv_some, show nI ws.length + 1 = nI (ws ++ [l]).length from by rw [hlen]; exact nI_add _ 1]
          exact ih (ws ++ [l]) b G3 (j2 + 1) f t2 W3 (by omega) (by omega) (by omega) (E2.tr t3.wh)
        cases h36 : isW S 36 j2
        · rw [if_pos (show b2 false = 0 from rfl), if_neg (show ¬ false = true by decide), gg_Rd_tape, Option.bind_some, show f_Tp_isWord [.ref 2, .int 37] (hp G2) = _ from c_isWord q2 (i := 37) (by decide), ci_some]
          cases h37 : isW S 37 j2
          · rw [if_pos (show b2 false = 0 from rfl), if_neg (show ¬ false = true by decide)]
            obtain ⟨m1, m2⟩ := c_takeMark q2
            unfold pMk
            by_cases hs : tso (tk S j2) = 3
            · obtain ⟨G', s1, s2, s3, -⟩ := m1 hs
              rw [s1, ci_some, if_pos (Or.inr rfl), if_pos hs]
              exact ⟨G', rfl, s2, q3.off s3.1 (fun o ho q => by have := hw.lo; omega), E2.tr s3.wh⟩
            · obtain ⟨G', s1, s2, s3⟩ := m2 hs
              rw [s1, ci_some, if_pos (Or.inl rfl), if_neg hs]
              exact ⟨fau_ne S (Nat.le_refl 1) _, G', rfl, s2, E2.tr s3.wh⟩
          · rw [if_neg (show ¬ b2 true = 0 by decide), if_pos (show true = true from rfl), gg_Rd_tape, Option.bind_some, show f_Tp_isWord [.ref 2, .int 37] (hp G2) = _ from c_isWord q2 (i := 37) (by decide), ci_some, gg_Rd_tape, Option.bind_some, h37]
            exact more true
        · rw [if_neg (show ¬ b2 true = 0 by decide), if_pos (show true = true from rfl), gg_Rd_tape, Option.bind_some, show f_Tp_isWord [.ref 2, .int 37] (hp G2) = _ from c_isWord q2 (i := 37) (by decide), ci_some, gg_Rd_tape, Option.bind_some, isW_ne h36 (show (36 : Nat) ≠ 37 by decide)]
          exact more false
theorem c_where {G : GG} {j : Nat} (hw : adWh w) (hR : RD G S j) (hW : isWh G w []) (pt : Bool) : cWh S w (whE w G) (f_Rd_whereLine [.ref 6, .ref w, .int (b2 pt)] (hp G)) (pWh S pt 13 true [] j) := by
  rw [e_Rd_whereLine 6 _ _ _ (ob_Rd G)]
  exact c_whl hw pt 13 [] true G j mm_fu hR hW rfl (by decide) (by have := @fu_lt 100 (by omega); omega) whE.rf
end RWL
