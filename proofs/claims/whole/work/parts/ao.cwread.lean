/-! READER (the class): a TABLE read -/
def cSt (S : List Nat) (d : Nat) (fr : GG → Prop) (f : Nat) (v : Int32) (x : Option (Option Value × mm_H)) : Nat ⊕ (TB × Nat) → Prop
  | .inl e => e ≠ 0 ∧ ∃ G', x = mm_run p_Rd_readPlan f 33 [.ref 6, .int 0, .int v] [] (hp G') ∧ G'.1 6 3 = nI e ∧ fr G'
  | .inr (B, j) => ∃ G', x = mm_run p_Rd_readPlan f 33 [.ref 6, .int 1, .int v] [] (hp G') ∧ RB G' S d B j ∧ fr G'
theorem cLn.st {S : List Nat} {d : Nat} {fr : GG → Prop} {X : Option (Option Value × mm_H)} {r : Nat ⊕ (TB × Nat)} (h : cLn S d fr X r) (f : Nat) (v : Int32) : cSt S d fr f v (mm_ci X fun x h => mm_run p_Rd_readPlan f 33 [.ref 6, .int x, .int v] [] h) r := by
  cases r with
  | inl e =>
    obtain ⟨e0, G', r1, r2⟩ := h
    rw [r1, ci_some]
    exact ⟨e0, G', rfl, r2⟩
  | inr q =>
    obtain ⟨B, j⟩ := q
    obtain ⟨G', r1, r2⟩ := h
    rw [r1, ci_some]
    exact ⟨G', rfl, r2⟩
section RTB
variable {G G' : GG} {S : List Nat} {d j : Nat} {B : TB}
theorem isPB.ch (h : isPB G d B) (hd : adPl d) (hq : whE (d + 7) G G') {W : List Lim} (hW : isWh G' (d + 7) W) : isPB G' d (tPg B, tBt B, tBn B, tIx B, tRw B, tPt B, W, tPa B) := by
  obtain ⟨h1, h2, h3, h4, -, h6⟩ := h
  have e : ∀ o, o ≤ 6 → G'.1 (d + o) = G.1 (d + o) ∧ G'.2.1 (d + o) = G.2.1 (d + o) := fun o ho => by
    have := hq.1 (d + o) (fun q => by rcases hd with e | e | e <;> omega)
    exact ⟨this.1, this.2.1⟩
  have e0 : G'.1 d = G.1 d := (e 0 (by decide)).1
  refine ⟨by rw [e0]; exact h1, fun i hi => by rw [(e 1 (by decide)).1, (e 2 (by decide)).1, (e 3 (by decide)).2]; exact h2 i hi, fun r hr => by rw [(e 4 (by decide)).1]; exact h3 r hr, fun q hq' => by rw [(e 5 (by decide)).1, (e 6 (by decide)).1]; exact h4 q hq', hW, h6.off hq.1 (fun o ho q => by rcases hd with e | e | e <;> omega)⟩
theorem isPB.par (h : isPB G d B) (hd : adPl d) (hq : whE (d + 14) G G') {W : List Lim} (hW : isWh G' (d + 14) W) : isPB G' d (tPg B, tBt B, tBn B, tIx B, tRw B, tPt B, tCh B, W) := by
  obtain ⟨h1, h2, h3, h4, h5, -⟩ := h
  have e : ∀ o, o ≤ 6 → G'.1 (d + o) = G.1 (d + o) ∧ G'.2.1 (d + o) = G.2.1 (d + o) := fun o ho => by
    have := hq.1 (d + o) (fun q => by rcases hd with e | e | e <;> omega)
    exact ⟨this.1, this.2.1⟩
  have e0 : G'.1 d = G.1 d := (e 0 (by decide)).1
  refine ⟨by rw [e0]; exact h1, fun i hi => by rw [(e 1 (by decide)).1, (e 2 (by decide)).1, (e 3 (by decide)).2]; exact h2 i hi, fun r hr => by rw [(e 4 (by decide)).1]; exact h3 r hr, fun q hq' => by rw [(e 5 (by decide)).1, (e 6 (by decide)).1]; exact h4 q hq', h5.off hq.1 (fun o ho q => by rcases hd with e | e | e <;> omega), hW⟩
theorem whE.ln {w : Nat} (h : whE w G G') (hw : d ≤ w ∧ w + 6 ≤ d + 20) : lnE d G G' := ⟨h.1.mono (fun n hn => by omega), h.2.1⟩
theorem c_choose (h : RB G S d B j) (hd : adPl d) (hb : okBn B) (hw : isW S 7 j = true) (f : Nat) (v : Int32) : cSt S d (lnE d G) f v (mm_ci (f_Rd_takeSingle [.ref 6] (hp G)) fun x16 h15 => if x16 = 0 then mm_run p_Rd_readPlan f 33 [.ref 6, .int 0, .int v] [] h15 else (mm_gr 6 1 h15 6).bind fun r17 => (mm_gr 4 6 h15 r17).bind fun r18 => mm_ci (f_Rd_whereLine [.ref 6, .ref r18, .int 0] h15) fun x20 h19 => if x20 = 0 then mm_run p_Rd_readPlan f 33 [.ref 6, .int 0, .int v] [] h19 else mm_run p_Rd_readPlan f 33 [.ref 6, .int 1, .int v] [] h19) (pChoose S B j) := by
  obtain ⟨s1, s2⟩ := c_single h hd (by decide) hw
  unfold pChoose
  cases hbn : tBn B 7
  · obtain ⟨G1, r1, r2, r3⟩ := s2 hbn
    rw [r1, ci_some, if_neg (show ¬ (1 : Int32) = 0 by decide), if_neg (show ¬ false = true by decide), gg_Rd_plan, Option.bind_some, r2.2.2.2, gg_Pl_choose _ hd.ok, Option.bind_some]
    have hW : isWh G1 (d + 7) [] := by
      have := r2.2.1.2.2.2.2.1
      rw [show tCh (sBn B 7) = [] from hb.1 hbn] at this
      exact this
    have hC := c_where (S := S) ⟨d, hd, Or.inl rfl⟩ r2.1 hW false
    unfold pChoose1
    cases hp1 : pWh S false 13 true [] (j + 1) with
    | inl e =>
      rw [hp1] at hC
      obtain ⟨e0, G2, q1, q2, q3⟩ := hC
      rw [show f_Rd_whereLine [.ref 6, .ref (d + 7), .int 0] (hp G1) = _ from q1, ci_some, if_pos rfl, thn_l]
      exact ⟨e0, G2, rfl, q2, r3.tr (q3.ln (by omega))⟩
    | inr wj =>
      obtain ⟨W, j2⟩ := wj
      rw [hp1] at hC
      obtain ⟨G2, q1, q2, q3, q4⟩ := hC
      rw [show f_Rd_whereLine [.ref 6, .ref (d + 7), .int 0] (hp G1) = _ from q1, ci_some, if_neg (show ¬ (1 : Int32) = 0 by decide), thn_r]
      exact ⟨G2, rfl, ⟨q2, r2.2.1.ch hd q4 q3, by rw [q4.2.2]; exact r2.2.2.1, by rw [q4.2.1]; exact r2.2.2.2⟩, r3.tr (q4.ln (by omega))⟩
  · obtain ⟨G1, r1, r2, r3⟩ := s1 hbn
    rw [r1, ci_some, if_pos (show (0 : Int32) = 0 from rfl), if_pos (show true = true from rfl)]
    exact ⟨fau_ne S (by decide) j, G1, rfl, r2, r3⟩
theorem c_part (h : RB G S d B j) (hd : adPl d) (hb : okBn B) (hw : isW S 8 j = true) (f : Nat) (v : Int32) : cSt S d (lnE d G) f v (mm_ci (f_Rd_takeSingle [.ref 6] (hp G)) fun x16 h15 => if x16 = 0 then mm_run p_Rd_readPlan f 33 [.ref 6, .int 0, .int v] [] h15 else (mm_gr 6 1 h15 6).bind fun r17 => (mm_gr 4 7 h15 r17).bind fun r18 => mm_ci (f_Rd_whereLine [.ref 6, .ref r18, .int 1] h15) fun x20 h19 => if x20 = 0 then mm_run p_Rd_readPlan f 33 [.ref 6, .int 0, .int v] [] h19 else mm_run p_Rd_readPlan f 33 [.ref 6, .int 1, .int v] [] h19) (pPart S B j) := by
  obtain ⟨s1, s2⟩ := c_single h hd (by decide) hw
  unfold pPart
  cases hbn : tBn B 8
  · obtain ⟨G1, r1, r2, r3⟩ := s2 hbn
    rw [r1, ci_some, if_neg (show ¬ (1 : Int32) = 0 by decide), if_neg (show ¬ false = true by decide), gg_Rd_plan, Option.bind_some, r2.2.2.2, gg_Pl_part _ hd.ok, Option.bind_some]
    have hW : isWh G1 (d + 14) [] := by
      have := r2.2.1.2.2.2.2.2
      rw [show tPa (sBn B 8) = [] from hb.2 hbn] at this
      exact this
    have hC := c_where (S := S) ⟨d, hd, Or.inr rfl⟩ r2.1 hW true
    unfold pPart1
    cases hp1 : pWh S true 13 true [] (j + 1) with
    | inl e =>
      rw [hp1] at hC
      obtain ⟨e0, G2, q1, q2, q3⟩ := hC
      rw [show f_Rd_whereLine [.ref 6, .ref (d + 14), .int 1] (hp G1) = _ from q1, ci_some, if_pos rfl, thn_l]
      exact ⟨e0, G2, rfl, q2, r3.tr (q3.ln (by omega))⟩
    | inr wj =>
      obtain ⟨W, j2⟩ := wj
      rw [hp1] at hC
      obtain ⟨G2, q1, q2, q3, q4⟩ := hC
      rw [show f_Rd_whereLine [.ref 6, .ref (d + 14), .int 1] (hp G1) = _ from q1, ci_some, if_neg (show ¬ (1 : Int32) = 0 by decide), thn_r]
      exact ⟨G2, rfl, ⟨q2, r2.2.1.par hd q4 q3, by rw [q4.2.2]; exact r2.2.2.1, by rw [q4.2.1]; exact r2.2.2.2⟩, r3.tr (q4.ln (by omega))⟩
  · obtain ⟨G1, r1, r2, r3⟩ := s1 hbn
    rw [r1, ci_some, if_pos (show (0 : Int32) = 0 from rfl), if_pos (show true = true from rfl)]
    exact ⟨fau_ne S (by decide) j, G1, rfl, r2, r3⟩
/-- no line begins so -/
theorem c_76 (s : Int32) (hs : s ≠ 0 ∧ s ≠ 1 ∧ s ≠ 2 ∧ s ≠ 4 ∧ s ≠ 5 ∧ s ≠ 7 ∧ s ≠ 8) (f : Nat) (v : Int32) (h : mm_H) : mm_run p_Rd_readPlan (f + 1) 76 [.ref 6, .int v] [.int s] h = mm_ci (f_Rd_wrong [.ref 6, .int 1] h) fun x h => mm_run p_Rd_readPlan f 33 [.ref 6, .int x, .int (v + 1)] [] h := by
  obtain ⟨h0, h1, h2, h4, h5, h7, h8⟩ := hs
  rw [e_Rd_readPlan_76, if_neg h0, if_neg h1, if_neg h2]
  by_cases h3 : s = 3
  · rw [if_pos h3]
  · rw [if_neg h3, if_neg h4, if_neg h5]
    by_cases h6 : s = 6
    · rw [if_pos h6]
    · rw [if_neg h6, if_neg h7, if_neg h8]
theorem c_ln (h : RB G S d B j) (hd : adPl d) (hB : okTB B) (hb : okBn B) {n : Nat} (hn : n < 1000) (hs : tso (tk S j) ≠ 0) (f : Nat) : cSt S d (lnE d G) f (nI (n + 1)) (mm_run p_Rd_readPlan (f + 2) 33 [.ref 6, .int 1, .int (nI n)] [] (hp G)) (pLn S B j) := by
  have h5 := tso_le S j
  rw [e_Rd_readPlan_33, if_pos (show nI n < (1000 : Int32) from lp (n := 1000) hn (by decide)), if_neg (show ¬ (1 : Int32) = 0 by decide), gg_Rd_tape, Option.bind_some, gg_Tp_sort, Option.bind_some, h.1.so, if_neg (show ¬ nI (tso (tk S j)) = (0 : Int32) from ln (n := 0) hs (by omega) (by decide)), Option.bind_some, Option.bind_some, gg_Tp_sort, Option.bind_some, h.1.so]
  -- none of these
  have no : ∀ s : Int32, s ≠ 0 ∧ s ≠ 1 ∧ s ≠ 2 ∧ s ≠ 4 ∧ s ≠ 5 ∧ s ≠ 7 ∧ s ≠ 8 → cSt S d (lnE d G) f (nI (n + 1)) (mm_run p_Rd_readPlan (f + 1) 76 [.ref 6, .int (nI n)] [.int s] (hp G)) (.inl (fau S 1 j)) := by
    intro s q
    obtain ⟨G', r1, r2, r3⟩ := c_wrong h.1 1
    rw [c_76 s q, show f_Rd_wrong [.ref 6, .int 1] (hp G) = _ from r1, ci_some, show nI n + 1 = nI (n + 1) from nI_add n 1]
    exact ⟨fau_ne S (Nat.le_refl 1) j, G', rfl, r2, r3.ln⟩
  by_cases hw : tso (tk S j) = 1
  · rw [if_pos (show nI (tso (tk S j)) = (1 : Int32) from lq (n := 1) hw), gg_Tp_value, Option.bind_some, h.1.va]
    unfold valI wxI
    rw [if_pos hw]
    cases hx : wx (tsg (tk S j)) with
    | none =>
      have hk : ∀ k, isW S k j = false := fun k => by unfold isW; rw [hx, decide_eq_false (show ¬ none = some k from fun q => by cases q), Bool.and_false]
      have e : pLn S B j = .inl (fau S 1 j) := by
        unfold pLn
        rw [hk 0, hk 1, hk 2, hk 4, hk 5, hk 7, hk 8]
        rfl
      rw [e]
      exact no (-1) (by decide)
    | some i =>
      have hi := (wx_some hx).1
      have hk : ∀ k, isW S k j = decide (i = k) := fun k => by
        unfold isW
        rw [hx, decide_eq_true hw, Bool.true_and]
        by_cases e : i = k
        · rw [e, decide_eq_true rfl, decide_eq_true rfl]
        · rw [decide_eq_false e, decide_eq_false (fun q => e (Option.some.inj q))]
      show cSt S d (lnE d G) f (nI (n + 1)) (mm_run p_Rd_readPlan (f + 1) 76 [.ref 6, .int (nI n)] [.int (nI i)] (hp G)) (pLn S B j)
      unfold pLn
      rw [hk 0, hk 1, hk 2, hk 4, hk 5, hk 7, hk 8]
      by_cases h0 : i = 0
      · subst h0
        rw [e_Rd_readPlan_76, if_pos (show nI 0 = (0 : Int32) from rfl), if_pos (show decide (0 = 0) = true from rfl), show nI n + 1 = nI (n + 1) from nI_add n 1]
        exact (c_page h hd (by rw [hk]; rfl)).st f _
      by_cases h1 : i = 1
      · subst h1
        rw [e_Rd_readPlan_76, if_neg (show ¬ nI 1 = (0 : Int32) by decide), if_pos (show nI 1 = (1 : Int32) from rfl), if_neg (show ¬ decide (1 = 0) = true by decide), if_pos (show decide (1 = 1) = true from rfl), show nI n + 1 = nI (n + 1) from nI_add n 1]
        exact (c_batch h hd (by rw [hk]; rfl)).st f _
      by_cases h2 : i = 2
      · subst h2
        rw [e_Rd_readPlan_76, if_neg (show ¬ nI 2 = (0 : Int32) by decide), if_neg (show ¬ nI 2 = (1 : Int32) by decide), if_pos (show nI 2 = (2 : Int32) from rfl), if_neg (show ¬ decide (2 = 0) = true by decide), if_neg (show ¬ decide (2 = 1) = true by decide), if_pos (show decide (2 = 2) = true from rfl), show nI n + 1 = nI (n + 1) from nI_add n 1]
        exact (c_index h hd hB).st f _
      by_cases h4 : i = 4
      · subst h4
        rw [e_Rd_readPlan_76, if_neg (show ¬ nI 4 = (0 : Int32) by decide), if_neg (show ¬ nI 4 = (1 : Int32) by decide), if_neg (show ¬ nI 4 = (2 : Int32) by decide), if_neg (show ¬ nI 4 = (3 : Int32) by decide), if_pos (show nI 4 = (4 : Int32) from rfl), if_neg (show ¬ decide (4 = 0) = true by decide), if_neg (show ¬ decide (4 = 1) = true by decide), if_neg (show ¬ decide (4 = 2) = true by decide), if_pos (show decide (4 = 4) = true from rfl), show nI n + 1 = nI (n + 1) from nI_add n 1]
        exact (c_row h hd hB).st f _
      by_cases h5' : i = 5
      · subst h5'
        rw [e_Rd_readPlan_76, if_neg (show ¬ nI 5 = (0 : Int32) by decide), if_neg (show ¬ nI 5 = (1 : Int32) by decide), if_neg (show ¬ nI 5 = (2 : Int32) by decide), if_neg (show ¬ nI 5 = (3 : Int32) by decide), if_neg (show ¬ nI 5 = (4 : Int32) by decide), if_pos (show nI 5 = (5 : Int32) from rfl), if_neg (show ¬ decide (5 = 0) = true by decide), if_neg (show ¬ decide (5 = 1) = true by decide), if_neg (show ¬ decide (5 = 2) = true by decide), if_neg (show ¬ decide (5 = 4) = true by decide), if_pos (show decide (5 = 5) = true from rfl), show nI n + 1 = nI (n + 1) from nI_add n 1]
        exact (c_point h hd hB).st f _
      by_cases h7 : i = 7
      · subst h7
        rw [e_Rd_readPlan_76, if_neg (show ¬ nI 7 = (0 : Int32) by decide), if_neg (show ¬ nI 7 = (1 : Int32) by decide), if_neg (show ¬ nI 7 = (2 : Int32) by decide), if_neg (show ¬ nI 7 = (3 : Int32) by decide), if_neg (show ¬ nI 7 = (4 : Int32) by decide), if_neg (show ¬ nI 7 = (5 : Int32) by decide), if_neg (show ¬ nI 7 = (6 : Int32) by decide), if_pos (show nI 7 = (7 : Int32) from rfl), if_neg (show ¬ decide (7 = 0) = true by decide), if_neg (show ¬ decide (7 = 1) = true by decide), if_neg (show ¬ decide (7 = 2) = true by decide), if_neg (show ¬ decide (7 = 4) = true by decide), if_neg (show ¬ decide (7 = 5) = true by decide), if_pos (show decide (7 = 7) = true from rfl), show nI n + 1 = nI (n + 1) from nI_add n 1]
        exact c_choose h hd hb (by rw [hk]; rfl) f _
      by_cases h8 : i = 8
      · subst h8
        rw [e_Rd_readPlan_76, if_neg (show ¬ nI 8 = (0 : Int32) by decide), if_neg (show ¬ nI 8 = (1 : Int32) by decide), if_neg (show ¬ nI 8 = (2 : Int32) by decide), if_neg (show ¬ nI 8 = (3 : Int32) by decide), if_neg (show ¬ nI 8 = (4 : Int32) by decide), if_neg (show ¬ nI 8 = (5 : Int32) by decide), if_neg (show ¬ nI 8 = (6 : Int32) by decide), if_neg (show ¬ nI 8 = (7 : Int32) by decide), if_pos (show nI 8 = (8 : Int32) from rfl), if_neg (show ¬ decide (8 = 0) = true by decide), if_neg (show ¬ decide (8 = 1) = true by decide), if_neg (show ¬ decide (8 = 2) = true by decide), if_neg (show ¬ decide (8 = 4) = true by decide), if_neg (show ¬ decide (8 = 5) = true by decide), if_neg (show ¬ decide (8 = 7) = true by decide), if_pos (show decide (8 = 8) = true from rfl), show nI n + 1 = nI (n + 1) from nI_add n 1]
        exact c_part h hd hb (by rw [hk]; rfl) f _
      rw [if_neg (show ¬ decide (i = 0) = true by rw [decide_eq_false h0]; decide), if_neg (show ¬ decide (i = 1) = true by rw [decide_eq_false h1]; decide), if_neg (show ¬ decide (i = 2) = true by rw [decide_eq_false h2]; decide), if_neg (show ¬ decide (i = 4) = true by rw [decide_eq_false h4]; decide), if_neg (show ¬ decide (i = 5) = true by rw [decide_eq_false h5']; decide), if_neg (show ¬ decide (i = 7) = true by rw [decide_eq_false h7]; decide), if_neg (show ¬ decide (i = 8) = true by rw [decide_eq_false h8]; decide)]
      exact no (nI i) ⟨ln (n := 0) h0 (by omega) (by decide), ln (n := 1) h1 (by omega) (by decide), ln (n := 2) h2 (by omega) (by decide), ln (n := 4) h4 (by omega) (by decide), ln (n := 5) h5' (by omega) (by decide), ln (n := 7) h7 (by omega) (by decide), ln (n := 8) h8 (by omega) (by decide)⟩
  · have hk : ∀ k, isW S k j = false := fun k => by unfold isW; rw [decide_eq_false hw, Bool.false_and]
    have e : pLn S B j = .inl (fau S 1 j) := by
      unfold pLn
      rw [hk 0, hk 1, hk 2, hk 4, hk 5, hk 7, hk 8]
      rfl
    rw [e, if_neg (show ¬ nI (tso (tk S j)) = (1 : Int32) from ln (n := 1) hw (by omega) (by decide))]
    exact no (-1) (by decide)
def cTb (S : List Nat) (d : Nat) (fr : GG → Prop) (x : Option (Option Value × mm_H)) : Nat ⊕ (TB × Nat) → Prop
  | .inl e => e ≠ 0 ∧ ∃ G', x = some (some (.int (nI e)), hp G') ∧ fr G'
  | .inr (B, _) => ∃ G', x = some (some (.int 0), hp G') ∧ isPB G' d B ∧ fr G'
theorem c_tab (hd : adPl d) {G0 : GG} : ∀ (m n f : Nat) (B : TB) (j : Nat) (G : GG), n + m = 1000 → 2 * m + 2 ≤ f → RB G S d B j → okTB B → okBn B → lnE d G0 G → cTb S d (lnE d G0) (mm_run p_Rd_readPlan f 33 [.ref 6, .int 1, .int (nI n)] [] (hp G)) (pTab S m B j) := by
  intro m
  induction m with
  | zero =>
    intro n f B j G hn hf h _ _ hE
    obtain ⟨f, rfl⟩ : ∃ g, f = g + 1 := ⟨f - 1, by omega⟩
    rw [e_Rd_readPlan_33, if_neg (show ¬ nI n < (1000 : Int32) from lm (n := 1000) (by omega) (by omega)), gg_Rd_fault, Option.bind_some, h.1.2.2.2]
    exact ⟨G, rfl, h.2.1, hE⟩
  | succ m ih =>
    intro n f B j G hn hf h hB hb hE
    have h5 := tso_le S j
    obtain ⟨f, rfl⟩ : ∃ g, f = g + 2 := ⟨f - 2, by omega⟩
    by_cases hs : tso (tk S j) = 0
    · unfold pTab
      rw [if_pos hs, e_Rd_readPlan_33, if_pos (show nI n < (1000 : Int32) from lp (n := 1000) (by omega) (by decide)), if_neg (show ¬ (1 : Int32) = 0 by decide), gg_Rd_tape, Option.bind_some, gg_Tp_sort, Option.bind_some, h.1.so, if_pos (show nI (tso (tk S j)) = (0 : Int32) from lq (n := 0) hs), gg_Rd_fault, Option.bind_some, h.1.2.2.2]
      exact ⟨G, rfl, h.2.1, hE⟩
    · have hL := c_ln h hd hB hb (n := n) (by omega) hs f
      unfold pTab
      rw [if_neg hs]
      cases hp1 : pLn S B j with
      | inl e =>
        rw [hp1] at hL
        obtain ⟨e0, G1, r1, r2, r3⟩ := hL
        obtain ⟨f, rfl⟩ : ∃ g, f = g + 1 := ⟨f - 1, by omega⟩
        rw [r1, thn_l, e_Rd_readPlan_33]
        refine ⟨e0, G1, ?_, hE.tr r3⟩
        rw [if_pos (show (0 : Int32) = 0 from rfl), gg_Rd_fault, Option.bind_some, r2, ite_self]
      | inr q =>
        obtain ⟨B1, j1⟩ := q
        rw [hp1] at hL
        obtain ⟨G1, r1, r2, r3⟩ := hL
        obtain ⟨k1, k2⟩ := pLn_ok hB hb hp1
        rw [r1, thn_r]
        exact ih (n + 1) f B1 j1 G1 (by omega) (by omega) r2 k1 k2 (hE.tr r3)
end RTB
