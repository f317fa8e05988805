/-! THE REFERENCE: WHERES -/
theorem pLim_c {S : List Nat} {op no : Bool} {j : Nat} (h : isB S 25 27 j = true) : pLim S op no j = pLimC S op no (wN S j - 25) (j + 1) := by
  unfold pLim pLimC
  rw [if_pos h]
theorem pLim_op {S : List Nat} {op no : Bool} {j j2 : Nat} {l : Lim} (h : pLim S op no j = .inr (l, j2)) : lOp l = op := by
  unfold pLim at h
  split at h
  · split at h
    · obtain ⟨v, j3, -, e2⟩ := thn_inr h; cases e2; rfl
    · split at h
      · obtain ⟨v, j3, -, e2⟩ := thn_inr h; cases e2; rfl
      · obtain ⟨-, j3, -, e2⟩ := thn_inr h
        obtain ⟨lo, j4, -, e4⟩ := thn_inr e2
        obtain ⟨-, j5, -, e5⟩ := thn_inr e4
        obtain ⟨hi, j6, -, e7⟩ := thn_inr e5
        cases e7; rfl
  · split at h
    · obtain ⟨v, j3, -, e2⟩ := thn_inr h; cases e2; rfl
    · split at h
      · cases h; rfl
      · obtain ⟨v, j3, -, e2⟩ := thn_inr h; cases e2; rfl
/-- groups, one more LIMIT -/
def lsG (ws : List Lim) : Nat := (grs ws).getLastD 0
def nxG (ws : List Lim) (op : Bool) : Nat := if ws = [] then 0 else if op then lsG ws + 1 else lsG ws
theorem lastD_cons (a d : Nat) : ∀ l : List Nat, (a :: l).getLastD d = l.getLastD a
  | [] => rfl
  | b :: l => by rw [List.getLastD_cons, List.getLastD_cons]
theorem grF_snoc : ∀ (r : List Lim) (g : Nat) (l : Lim), grF g (r ++ [l]) = grF g r ++ [if lOp l then (grF g r).getLastD g + 1 else (grF g r).getLastD g]
  | [], g, l => rfl
  | a :: r, g, l => by
    rw [List.cons_append]
    unfold grF
    rw [grF_snoc r _ l, lastD_cons, List.cons_append]
theorem grs_snoc (ws : List Lim) (l : Lim) : grs (ws ++ [l]) = grs ws ++ [nxG ws (lOp l)] := by
  cases ws with
  | nil => rfl
  | cons a r =>
    show 0 :: grF 0 (r ++ [l]) = (0 :: grF 0 r) ++ [nxG (a :: r) (lOp l)]
    rw [grF_snoc, List.cons_append]
    unfold nxG lsG
    rw [if_neg (List.cons_ne_nil _ _)]
    show _ = 0 :: (grF 0 r ++ [if lOp l = true then (0 :: grF 0 r).getLastD 0 + 1 else (0 :: grF 0 r).getLastD 0])
    rw [lastD_cons]
theorem nxG_snoc (ws : List Lim) (l : Lim) (b : Bool) : nxG (ws ++ [l]) b = if b then nxG ws (lOp l) + 1 else nxG ws (lOp l) := by
  have : lsG (ws ++ [l]) = nxG ws (lOp l) := by
    unfold lsG
    rw [grs_snoc, List.getLastD_concat]
  unfold nxG at this ⊢
  rw [if_neg (by simp), this]
section MWH
variable {G G' : GG} {S : List Nat} {e j w n i0 : Nat} {op no pt : Bool}
theorem m_252 {α : Type} {x : Nat ⊕ (α × Nat)} (h : RX G S x) (hw : w ≤ 3) (hc : G.1 625 (73 * w) = nI n) (f : Nat) : mm_run p_Md_readLimit (f + 1) 252 [.ref 618, .int (nI (73 * w))] [] (hp G) = some (none, hp (gsi G 625 (73 * w) (nI (if fltx x = 0 then n + 1 else n)))) := by
  rw [e_Md_readLimit_252, gg_Md_wheres, Option.bind_some, rr_Md_wheres _ (by omega), Option.bind_some, hc, gg_Md_fault, Option.bind_some]
  by_cases hf : fltx x = 0
  · rw [if_pos (h.ne.mpr hf), if_pos hf, show nI n + 1 = nI (n + 1) from nI_add n 1, uu_Md_wheres _ (by omega), Option.bind_some]
  · rw [if_neg (fun q => hf (h.ne.mp q)), if_neg hf, show nI n + 0 = nI n from nI_add n 0, uu_Md_wheres _ (by omega), Option.bind_some]
theorem isML.cg {l : Lim} (h : isML G i0 l) (e : ∀ k, i0 < k → k ≤ i0 + 5 → G'.1 625 k = G.1 625 k) : isML G' i0 l := by
  unfold isML at h ⊢
  rw [e (i0 + 1) (by omega) (by omega), e (i0 + 2) (by omega) (by omega), e (i0 + 3) (by omega) (by omega), e (i0 + 4) (by omega) (by omega), e (i0 + 5) (by omega) (by omega)]
  exact h
theorem m_rest (h : RMd G S 0 j) (hS : S.length ≤ 1000) (hst : stL S pt j = true) (hw : w ≤ 3) (hn : n < 12) (hi0 : i0 = 73 * w + 1 + 6 * n) (hc : G.1 625 (73 * w) = nI n) {f : Nat} (hf : 10 ≤ f) (op no : Bool) : ∃ G', mm_run p_Md_readLimit f 111 [.ref 618, .int (nI (73 * w)), .int (nI i0)] [.int (b2 no), .int (nI (i0 + 1)), .ref 625] (hp G) = some (none, hp G') ∧ RX G' S (pLim S op no j) ∧ (∀ l j2, pLim S op no j = .inr (l, j2) → isML G' i0 l ∧ G'.1 625 (73 * w) = nI (n + 1)) ∧ dlE (fun k => k = 73 * w ∨ (i0 < k ∧ k ≤ i0 + 5)) G G' := by
  obtain ⟨f, rfl⟩ : ∃ g, f = g + 2 := ⟨f - 2, by omega⟩
  have hi : i0 + 5 < 292 := by omega
  have a2 : nI i0 + 2 = nI (i0 + 2) := nI_add i0 2
  have a3 : nI i0 + 3 = nI (i0 + 3) := nI_add i0 3
  have a4 : nI i0 + 4 = nI (i0 + 4) := nI_add i0 4
  rw [e_Md_readLimit_111, uu_Md_wheres _ (by omega), Option.bind_some]
  have R1 := h.arr (n := 625) (k := i0 + 1) (v := b2 no) (by decide)
  have D1 : dlE (fun k => k = 73 * w ∨ (i0 < k ∧ k ≤ i0 + 5)) G (gsi G 625 (i0 + 1) (b2 no)) := dlE.gsi (by omega)
  have c1 : (gsi G 625 (i0 + 1) (b2 no)).1 625 (i0 + 1) = b2 no := fd _ _ _ _
  have cc : (gsi G 625 (i0 + 1) (b2 no)).1 625 (73 * w) = nI n := by rw [fdn _ _ (by omega)]; exact hc
  generalize gsi G 625 (i0 + 1) (b2 no) = G1 at R1 D1 c1 cc ⊢
  rw [show f_Md_wordHere [.ref 618, .int 23, .int 3] (hp G1) = _ from m_wordHere R1 (a := 23) (n := 3) (by decide), ci_some, wh_fol fol_col]
  -- the end of it
  have fin : ∀ {x : Nat ⊕ (Lim × Nat)} {G2 : GG}, RX G2 S x → G2.1 625 (73 * w) = nI n → (∀ l j2, x = .inr (l, j2) → isML G2 i0 l) → dlE (fun k => k = 73 * w ∨ (i0 < k ∧ k ≤ i0 + 5)) G G2 → ∃ G', mm_run p_Md_readLimit (f + 1) 252 [.ref 618, .int (nI (73 * w))] [] (hp G2) = some (none, hp G') ∧ RX G' S x ∧ (∀ l j2, x = .inr (l, j2) → isML G' i0 l ∧ G'.1 625 (73 * w) = nI (n + 1)) ∧ dlE (fun k => k = 73 * w ∨ (i0 < k ∧ k ≤ i0 + 5)) G G' := by
    intro x G2 h2 hc2 hm hD
    refine ⟨_, m_252 h2 hw hc2 f, h2.arr (by decide), fun l j2 q => ⟨(hm l j2 q).cg (fun k k1 k2 => fdn _ _ (by omega)), ?_⟩, hD.tr (dlE.gsi (Or.inl rfl))⟩
    rw [fd, q]
    rfl
  cases hB : isB S 25 27 j
  · rw [if_neg (show ¬ false = true by decide), if_pos (show (-1 : Int32) < 0 by decide)]
    have hor := stL_or hst hB
    unfold pLim
    rw [hB, if_neg (show ¬ false = true by decide)]
    obtain ⟨G2, r1, r2, r3⟩ := m_hasWord R1 (w := 32) (by decide)
    have q32 : (wrd S 0 j = some 32) = (isW S 32 j = true) := isW_wr (i := 32) (by decide)
    have q33 : (wrd S 0 j = some 33) = (isW S 33 j = true) := isW_wr (i := 33) (by decide)
    rw [show f_Md_hasWord [.ref 618, .int 32] (hp G1) = _ from r1, ci_some]
    cases h32 : isW S 32 j
    · have n32 : ¬ wrd S 0 j = some 32 := fun q => by rw [q32, h32] at q; cases q
      rw [if_neg n32] at r2
      obtain ⟨G3, s1, s2, s3⟩ := m_hasWord r2 (w := 33) (by decide)
      rw [decide_eq_false n32, if_pos (show b2 false = 0 from rfl), show f_Md_hasWord [.ref 618, .int 33] (hp G2) = _ from s1, ci_some]
      have h34' : isB S 33 34 j = true := hor.elim (fun q => by rw [h32] at q; cases q) id
      have hne : wN S j ≠ 32 := fun q => by have := isB_wN h34'; omega
      rw [if_neg hne]
      cases h33 : isW S 33 j
      · have n33 : ¬ wrd S 0 j = some 33 := fun q => by rw [q33, h33] at q; cases q
        have h34 : isW S 34 j = true := by rw [isB_34, h33, Bool.false_or] at h34'; exact h34'
        rw [if_neg n33] at s2
        have hE := r3.tr s3
        rw [decide_eq_false n33, if_pos (show b2 false = 0 from rfl), gg_Md_wheres, Option.bind_some, a2, uu_Md_wheres _ (by omega), Option.bind_some, gg_Md_at, Option.bind_some, show (gsi G3 625 (i0 + 2) 5).1 618 7 = nI j from by rw [f6o _ _ (by decide)]; exact s2.at, show nI j + 1 = nI (j + 1) from nI_add j 1, ww_Md_at, Option.bind_some, if_pos (isW_wN h34).2.2.1]
        have R3 := (s2.arr (n := 625) (k := i0 + 2) (v := 5) (by decide)).next (show tso (tk S j) ≠ 0 by rw [(isW_wN h34).1]; decide)
        refine fin (x := .inr ((op, no, 34, 0, 0, 0), j + 1)) R3 ?_ (fun l j2 q => ?_) ?_
        · rw [f6o _ _ (by decide), fdn _ _ (by omega), hE.w]; exact cc
        · cases q
          exact ⟨by rw [f6o _ _ (by decide), fdn _ _ (by omega), hE.w]; exact c1, Or.inr (Or.inr (Or.inr (Or.inr ⟨rfl, by rw [f6o _ _ (by decide), fd]⟩)))⟩
        · exact ((D1.tr hE.dl).tr (dlE.gsi (by omega))).tr (mrE.gsi (Or.inl rfl)).dl
      · have y33 : wrd S 0 j = some 33 := by rw [q33]; exact h33
        rw [if_pos y33] at s2
        have hE := r3.tr s3
        rw [decide_eq_true y33, if_neg (show ¬ b2 true = 0 by decide), gg_Md_wheres, Option.bind_some, a2, uu_Md_wheres _ (by omega), Option.bind_some, gg_Md_wheres, Option.bind_some, if_neg (show ¬ wN S j = 34 from fun q => by have := (isW_wN h33).2.2.1; omega)]
        have R3 := s2.arr (n := 625) (k := i0 + 2) (v := 4) (by decide)
        have D3 : dlE (fun k => k = 73 * w ∨ (i0 < k ∧ k ≤ i0 + 5)) G (gsi G3 625 (i0 + 2) 4) := (D1.tr hE.dl).tr (dlE.gsi (by omega))
        have d1 : (gsi G3 625 (i0 + 2) 4).1 625 (i0 + 1) = b2 no := by rw [fdn _ _ (by omega), hE.w]; exact c1
        have d2 : (gsi G3 625 (i0 + 2) 4).1 625 (i0 + 2) = 4 := fd _ _ _ _
        have dc : (gsi G3 625 (i0 + 2) 4).1 625 (73 * w) = nI n := by rw [fdn _ _ (by omega), hE.w]; exact cc
        generalize gsi G3 625 (i0 + 2) 4 = G4 at R3 D3 d1 d2 dc ⊢
        obtain ⟨G5, v, t1, t2, t3, t4⟩ := m_one (x := (.inr ((), j + 1) : Nat ⊕ (Unit × Nat))) R3 hS fol_col (by decide) (by decide)
        rw [show f_Md_takeOne [.ref 618, .int 23, .int 3] (hp G4) = _ from t1, ci_some, a3, uu_Md_wheres _ (by omega), Option.bind_some]
        rw [thn_r] at t2 t3
        have R5 := t2.arr (n := 625) (k := i0 + 3) (v := v) (by decide)
        refine fin ?_ (by rw [fdn _ _ (by omega), t4.w]; exact dc) (fun l j2 q => ?_) ((D3.tr t4.dl).tr (dlE.gsi (by omega)))
        · cases hp1 : pOne S 25 27 (j + 1) with
          | inl e => rw [hp1] at R5; exact R5
          | inr p1 => rw [hp1] at R5; exact R5
        · obtain ⟨c, j3, e1, e2⟩ := thn_inr q
          have ev := t3 c j3 e1
          cases e2
          exact ⟨by rw [fdn _ _ (by omega), t4.w]; exact d1, Or.inr (Or.inr (Or.inr (Or.inl ⟨rfl, by rw [fdn _ _ (by omega), t4.w]; exact d2, by rw [fd, ev]; rfl⟩)))⟩
    · have y32 : wrd S 0 j = some 32 := by rw [q32]; exact h32
      rw [if_pos y32] at r2
      rw [decide_eq_true y32, if_neg (show ¬ b2 true = 0 by decide), gg_Md_wheres, Option.bind_some, a2, uu_Md_wheres _ (by omega), Option.bind_some, gg_Md_wheres, Option.bind_some, if_pos (isW_wN h32).2.2.1]
      have R3 := r2.arr (n := 625) (k := i0 + 2) (v := 3) (by decide)
      have D3 : dlE (fun k => k = 73 * w ∨ (i0 < k ∧ k ≤ i0 + 5)) G (gsi G2 625 (i0 + 2) 3) := (D1.tr r3.dl).tr (dlE.gsi (by omega))
      have d1 : (gsi G2 625 (i0 + 2) 3).1 625 (i0 + 1) = b2 no := by rw [fdn _ _ (by omega), r3.w]; exact c1
      have d2 : (gsi G2 625 (i0 + 2) 3).1 625 (i0 + 2) = 3 := fd _ _ _ _
      have dc : (gsi G2 625 (i0 + 2) 3).1 625 (73 * w) = nI n := by rw [fdn _ _ (by omega), r3.w]; exact cc
      generalize gsi G2 625 (i0 + 2) 3 = G4 at R3 D3 d1 d2 dc ⊢
      obtain ⟨G5, v, t1, t2, t3, t4⟩ := m_num (x := (.inr ((), j + 1) : Nat ⊕ (Unit × Nat))) R3 hS (lo := 2) (hi := 9) (by decide) (by decide)
      rw [show f_Md_takeNumber [.ref 618, .int 2, .int 9] (hp G4) = _ from t1, ci_some, a4, uu_Md_wheres _ (by omega), Option.bind_some]
      rw [thn_r] at t2 t3
      have R5 := t2.arr (n := 625) (k := i0 + 4) (v := v) (by decide)
      refine fin ?_ (by rw [fdn _ _ (by omega), t4.w]; exact dc) (fun l j2 q => ?_) ((D3.tr t4.dl).tr (dlE.gsi (by omega)))
      · cases hp1 : pNum S 2 9 (j + 1) with
        | inl e => rw [hp1] at R5; exact R5
        | inr p1 => rw [hp1] at R5; exact R5
      · obtain ⟨c, j3, e1, e2⟩ := thn_inr q
        have ev := t3 c j3 e1
        cases e2
        exact ⟨by rw [fdn _ _ (by omega), t4.w]; exact d1, Or.inr (Or.inr (Or.inl ⟨rfl, by rw [fdn _ _ (by omega), t4.w]; exact d2, by rw [fd, ev]; rfl⟩))⟩
  · obtain ⟨w1, w2, w3, w4, w5⟩ := isB_wN hB
    rw [if_pos (show true = true from rfl), if_neg (show ¬ nI (wN S j - 25) < 0 from lm (n := 0) (by omega) (by omega)), gg_Md_at, Option.bind_some, R1.at, show nI j + 1 = nI (j + 1) from nI_add j 1, ww_Md_at, Option.bind_some, gg_Md_wheres, Option.bind_some, a3, uu_Md_wheres _ (by omega), Option.bind_some, pLim_c hB]
    have R2 := (R1.next (show tso (tk S j) ≠ 0 by omega)).arr (n := 625) (k := i0 + 3) (v := nI (wN S j - 25)) (by decide)
    have D2 : dlE (fun k => k = 73 * w ∨ (i0 < k ∧ k ≤ i0 + 5)) G (gsi (gsi G1 618 7 (nI (j + 1))) 625 (i0 + 3) (nI (wN S j - 25))) := (D1.tr (mrE.gsi (Or.inl rfl)).dl).tr (dlE.gsi (by omega))
    have d1 : (gsi (gsi G1 618 7 (nI (j + 1))) 625 (i0 + 3) (nI (wN S j - 25))).1 625 (i0 + 1) = b2 no := by rw [fdn _ _ (by omega), f6o _ _ (by decide)]; exact c1
    have d3 : (gsi (gsi G1 618 7 (nI (j + 1))) 625 (i0 + 3) (nI (wN S j - 25))).1 625 (i0 + 3) = nI (wN S j - 25) := fd _ _ _ _
    have dc : (gsi (gsi G1 618 7 (nI (j + 1))) 625 (i0 + 3) (nI (wN S j - 25))).1 625 (73 * w) = nI n := by rw [fdn _ _ (by omega), f6o _ _ (by decide)]; exact cc
    generalize gsi (gsi G1 618 7 (nI (j + 1))) 625 (i0 + 3) (nI (wN S j - 25)) = G2 at R2 D2 d1 d3 dc ⊢
    obtain ⟨G3, s1, s2, s3, s4⟩ := m_readColumn (op := op) R2 hS hi d1 d3
    rw [s1, cv_some]
    exact fin s2 (by rw [s4.2.2.2 _ (by omega)]; exact dc) s3 (D2.tr (s4.mono (fun k hk => by omega)))
def qWh (S : List Nat) (pt : Bool) : Nat → Bool → List Lim → Nat → Nat ⊕ (List Lim × Nat)
  | 0, _, _, j => .inl (fau S 5 j)
  | f + 1, op, ws, j => thn (pOpen S pt ws.length j) fun no j1 => thn (pLim S op no j1) fun l j2 => if isW S 36 j2 then qWh S pt f false (ws ++ [l]) (j2 + 1) else if isW S 37 j2 then qWh S pt f true (ws ++ [l]) (j2 + 1) else .inr (ws ++ [l], j2)
theorem isMW.snoc {ws : List Lim} {l : Lim} (h : isMW G w ws) (hc : G'.1 625 (73 * w) = nI (ws.length + 1)) (hf : ∀ k, 73 * w < k → k < 73 * w + 1 + 6 * ws.length → G'.1 625 k = G.1 625 k) (hg : G'.1 625 (73 * w + 1 + 6 * ws.length) = nI (nxG ws (lOp l))) (hl : isML G' (73 * w + 1 + 6 * ws.length) l) : isMW G' w (ws ++ [l]) := by
  refine ⟨by rw [hc, List.length_append]; rfl, fun i hi => ?_⟩
  have hlen : (ws ++ [l]).length = ws.length + 1 := by rw [List.length_append]; rfl
  have hgl := grs_len ws
  by_cases e : i = ws.length
  · subst e
    refine ⟨?_, ?_⟩
    · rw [hg, List.getElem_of_eq (grs_snoc ws l), List.getElem_append_right (by omega)]
      simp [hgl]
    · rw [List.getElem_concat_length rfl]; exact hl
  · have hlt : i < ws.length := by omega
    obtain ⟨g1, g2⟩ := h.2 i hlt
    refine ⟨?_, ?_⟩
    · rw [hf _ (by omega) (by omega), g1, List.getElem_of_eq (grs_snoc ws l), List.getElem_append_left (by omega)]
    · rw [List.getElem_append_left hlt]
      exact g2.cg (fun k k1 k2 => hf k (by omega) (by omega))
theorem m_whl (hS : S.length ≤ 1000) (hw : w ≤ 3) (pt : Bool) : ∀ (m : Nat) (ws : List Lim) (op : Bool) (G : GG) (j f : Nat), RMd G S 0 j → isMW G w ws → ws.length + m = 13 → ws.length ≤ 12 → 2 * m + 2 ≤ f → ∃ G', mm_run p_Md_readWhere f 12 [.ref 618, .int (b2 pt), .int (nI (73 * w)), .int (nI (nxG ws op)), .int 1] [] (hp G) = some (none, hp G') ∧ RX G' S (qWh S pt m op ws j) ∧ (∀ W j2, qWh S pt m op ws j = .inr (W, j2) → isMW G' w W) ∧ dlE (fun k => 73 * w ≤ k ∧ k < 73 * w + 73) G G' := by
  intro m
  induction m with
  | zero => intro ws op G j f _ _ h1 h2; omega
  | succ m ih =>
    intro ws op G j f hR hW hm h12 hf
    obtain ⟨f, rfl⟩ : ∃ g, f = g + 3 := ⟨f - 3, by omega⟩
    -- a fault ends it
    have bad : ∀ {G1 : GG} {e : Nat}, e ≠ 0 → (∃ j, RMd G1 S e j) → dlE (fun k => 73 * w ≤ k ∧ k < 73 * w + 73) G G1 → ∃ G', (mm_ci (f_Md_isWord [.ref 618, .int 36] (hp G1)) fun x3 h2 => if x3 = 0 then mm_ci (f_Md_isWord [.ref 618, .int 37] h2) fun x5 h4 => if x5 = 0 then mm_run p_Md_readWhere (f + 2) 47 [.ref 618, .int (b2 pt), .int (nI (73 * w)), .int (nI (nxG ws op))] [.int 0] h4 else mm_run p_Md_readWhere (f + 2) 47 [.ref 618, .int (b2 pt), .int (nI (73 * w)), .int (nI (nxG ws op))] [.int 1] h4 else mm_run p_Md_readWhere (f + 2) 47 [.ref 618, .int (b2 pt), .int (nI (73 * w)), .int (nI (nxG ws op))] [.int 1] h2) = some (none, hp G') ∧ RX G' S (.inl e : Nat ⊕ (List Lim × Nat)) ∧ dlE (fun k => 73 * w ≤ k ∧ k < 73 * w + 73) G G' := by
      intro G1 e he h1 hD
      obtain ⟨j1, h1⟩ := h1
      have hno : ∀ w, w < 38 → f_Md_isWord [.ref 618, .int (nI w)] (hp G1) = some (some (.int 0), hp G1) := fun w hw => by
        rw [m_isWord h1 hw, wr_no he, decide_eq_false (fun q => (by cases q))]; rfl
      rw [show f_Md_isWord [.ref 618, .int 36] (hp G1) = _ from hno 36 (by decide), ci_some, if_pos rfl, show f_Md_isWord [.ref 618, .int 37] (hp G1) = _ from hno 37 (by decide), ci_some, if_pos rfl, e_Md_readWhere_47, show f_Md_isWord [.ref 618, .int 37] (hp G1) = _ from hno 37 (by decide), ci_some, if_pos rfl, gg_Md_at, Option.bind_some, h1.at, if_pos rfl, show nI j1 + 0 = nI j1 from nI_add j1 0, ww_Md_at, Option.bind_some, e_Md_readWhere_12, if_pos rfl]
      exact ⟨_, rfl, ⟨he, j1, h1.same⟩, hD.tr (mrE.gsi (Or.inl rfl)).dl⟩
    rw [e_Md_readWhere_12, if_neg (show ¬ (1 : Int32) = 0 by decide)]
    obtain ⟨G1, f1, hf1, r1, r2, r3, r4⟩ := m_open hR hS hw h12 hW.1 pt (nI (nxG ws op))
    unfold qWh
    cases hp1 : pOpen S pt ws.length j with
    | inl e =>
      rw [hp1] at r2
      rw [r3 e hp1, cv_some]
      obtain ⟨G2, t1, t2, t3⟩ := bad r2.1 r2.2 r1.dl
      exact ⟨G2, t1, t2, fun W j2 q => (by cases q), t3⟩
    | inr p1 =>
      obtain ⟨no, j1⟩ := p1
      have hlt := pOpen_lt hp1
      have hst := pOpen_st hp1
      rw [hp1] at r2
      have r2' : RMd G1 S 0 j1 := r2
      rw [r4 no j1 hp1, thn_r]
      obtain ⟨G2, s1, s2, s3, s4⟩ := m_rest (n := ws.length) (r2'.arr (n := 625) (k := 73 * w + 1 + 6 * ws.length) (v := nI (nxG ws op)) (by decide)) hS hst hw hlt rfl (by rw [fdn _ _ (by omega), r1.w]; exact hW.1) hf1 op no
      have D2 : dlE (fun k => 73 * w ≤ k ∧ k < 73 * w + 73) G G2 := (r1.dl.tr (dlE.gsi (by omega))).tr (s4.mono (fun k hk => by omega))
      rw [s1, cv_some]
      cases hp2 : pLim S op no j1 with
      | inl e =>
        rw [hp2] at s2
        obtain ⟨G3, t1, t2, t3⟩ := bad s2.1 s2.2 D2
        exact ⟨G3, t1, t2, fun W j2 q => (by cases q), t3⟩
      | inr p2 =>
        obtain ⟨l, j2⟩ := p2
        have hop := pLim_op hp2
        obtain ⟨l1, l2⟩ := s3 l j2 hp2
        rw [hp2] at s2
        have s2' : RMd G2 S 0 j2 := s2
        have W2 : isMW G2 w (ws ++ [l]) := hW.snoc l2 (fun k k1 k2 => by rw [s4.2.2.2 _ (by omega), fdn _ _ (by omega), r1.w]) (by rw [s4.2.2.2 _ (by omega), fd, hop]) l1
        have hlen : (ws ++ [l]).length = ws.length + 1 := by rw [List.length_append]; rfl
        rw [thn_r, show f_Md_isWord [.ref 618, .int 36] (hp G2) = _ from m_isW s2' (i := 36) (by decide), ci_some]
        -- one more
        have more : ∀ (b : Bool), tso (tk S j2) ≠ 0 → ∃ G', mm_run p_Md_readWhere (f + 1) 12 [.ref 618, .int (b2 pt), .int (nI (73 * w)), .int (nI (nxG (ws ++ [l]) b)), .int 1] [] (hp (gsi G2 618 7 (nI (j2 + 1)))) = some (none, hp G') ∧ RX G' S (qWh S pt m b (ws ++ [l]) (j2 + 1)) ∧ (∀ W j2', qWh S pt m b (ws ++ [l]) (j2 + 1) = .inr (W, j2') → isMW G' w W) ∧ dlE (fun k => 73 * w ≤ k ∧ k < 73 * w + 73) G G' := by
          intro b hs
          obtain ⟨G3, t1, t2, t3, t4⟩ := ih (ws ++ [l]) b (gsi G2 618 7 (nI (j2 + 1))) (j2 + 1) (f + 1) (s2'.next hs) (W2.cg (f6o _ _ (by decide))) (by omega) (by omega) (by omega)
          exact ⟨G3, t1, t2, t3, (D2.tr (mrE.gsi (Or.inl rfl)).dl).tr t4⟩
        cases h36 : isW S 36 j2
        · rw [if_pos (show b2 false = 0 from rfl), if_neg (show ¬ false = true by decide), show f_Md_isWord [.ref 618, .int 37] (hp G2) = _ from m_isW s2' (i := 37) (by decide), ci_some]
          cases h37 : isW S 37 j2
          · rw [if_pos (show b2 false = 0 from rfl), if_neg (show ¬ false = true by decide), e_Md_readWhere_47, show f_Md_isWord [.ref 618, .int 37] (hp G2) = _ from m_isW s2' (i := 37) (by decide), ci_some, h37, if_pos (show b2 false = 0 from rfl), gg_Md_at, Option.bind_some, s2'.at, if_pos rfl, show nI j2 + 0 = nI j2 from nI_add j2 0, ww_Md_at, Option.bind_some, e_Md_readWhere_12, if_pos rfl]
            refine ⟨_, rfl, s2'.same, fun W j2' q => ?_, D2.tr (mrE.gsi (Or.inl rfl)).dl⟩
            cases q
            exact W2.cg (f6o _ _ (by decide))
          · have hs : tso (tk S j2) ≠ 0 := by rw [(isW_wN h37).1]; decide
            rw [if_neg (show ¬ b2 true = 0 by decide), if_pos (show true = true from rfl), e_Md_readWhere_47, show f_Md_isWord [.ref 618, .int 37] (hp G2) = _ from m_isW s2' (i := 37) (by decide), ci_some, h37, if_neg (show ¬ b2 true = 0 by decide), gg_Md_at, Option.bind_some, s2'.at, if_neg (show ¬ (1 : Int32) = 0 by decide), show nI j2 + 1 = nI (j2 + 1) from nI_add j2 1, ww_Md_at, Option.bind_some, show nI (nxG ws op) + 1 = nI (nxG (ws ++ [l]) true) from by rw [nxG_snoc, if_pos rfl, hop]; exact nI_add _ 1]
            exact more true hs
        · have hs : tso (tk S j2) ≠ 0 := by rw [(isW_wN h36).1]; decide
          rw [if_neg (show ¬ b2 true = 0 by decide), if_pos (show true = true from rfl), e_Md_readWhere_47, show f_Md_isWord [.ref 618, .int 37] (hp G2) = _ from m_isW s2' (i := 37) (by decide), ci_some, isW_ne h36 (show (36 : Nat) ≠ 37 by decide), if_pos (show b2 false = 0 from rfl), gg_Md_at, Option.bind_some, s2'.at, if_neg (show ¬ (1 : Int32) = 0 by decide), show nI j2 + 1 = nI (j2 + 1) from nI_add j2 1, ww_Md_at, Option.bind_some, show nI (nxG ws op) + 0 = nI (nxG (ws ++ [l]) false) from by rw [nxG_snoc, if_neg (by decide), hop]; exact nI_add _ 0]
          exact more false hs
end MWH
