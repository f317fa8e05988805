/-! THE REFERENCE: a line of a TABLE -/
def mkE (S : List Nat) (x : Nat ⊕ (TB × Nat)) : Nat ⊕ (TB × Nat) := thn x fun B j => thn (pMk S j) fun _ j => .inr (B, j)
def qLn (S : List Nat) (B : TB) (j : Nat) : Nat ⊕ (TB × Nat) :=
  if isW S 0 j then (if tBn B 0 then .inl (fau S 3 j) else thn (pNum S 2 8 (j + 1)) fun v j => .inr ((v, tBt (sBn B 0), tBn (sBn B 0), tIx (sBn B 0), tRw (sBn B 0), tPt (sBn B 0), tCh (sBn B 0), tPa (sBn B 0)), j))
  else if isW S 1 j then (if tBn B 1 then .inl (fau S 3 j) else thn (pNum S 1 8 (j + 1)) fun v j => .inr ((tPg (sBn B 1), v, tBn (sBn B 1), tIx (sBn B 1), tRw (sBn B 1), tPt (sBn B 1), tCh (sBn B 1), tPa (sBn B 1)), j))
  else if isW S 2 j then (if tRw B ≠ [] then .inl (fau S 1 j) else if 4 ≤ (tIx B).length then .inl (fau S 5 j) else qIndex1 S B (j + 1))
  else if isW S 4 j then (if 20 ≤ (tRw B).length then .inl (fau S 5 j) else qRow1 S B (j + 1))
  else if isW S 5 j then (if 8 ≤ (tPt B).length then .inl (fau S 5 j) else qPoint1 S B (j + 1))
  else if isW S 7 j then (if tBn B 7 then .inl (fau S 3 j) else thn (qWh S false 13 true [] (j + 1)) fun w j => .inr ((tPg (sBn B 7), tBt (sBn B 7), tBn (sBn B 7), tIx (sBn B 7), tRw (sBn B 7), tPt (sBn B 7), w, tPa (sBn B 7)), j))
  else if isW S 8 j then (if tBn B 8 then .inl (fau S 3 j) else thn (qWh S true 13 true [] (j + 1)) fun w j => .inr ((tPg (sBn B 8), tBt (sBn B 8), tBn (sBn B 8), tIx (sBn B 8), tRw (sBn B 8), tPt (sBn B 8), tCh (sBn B 8), w), j))
  else .inl (fau S 1 j)
theorem thn_as {α β γ : Type} (x : Nat ⊕ (α × Nat)) (f : α → Nat → Nat ⊕ (β × Nat)) (g : β → Nat → Nat ⊕ (γ × Nat)) : thn (thn x f) g = thn x (fun v j => thn (f v j) g) := by
  cases x with
  | inl e => rfl
  | inr q => rfl
theorem pWh_q {S : List Nat} {pt : Bool} : ∀ (m : Nat) (op : Bool) (ws : List Lim) (j : Nat), pWh S pt m op ws j = thn (qWh S pt m op ws j) fun w j => thn (pMk S j) fun _ j => .inr (w, j) := by
  intro m
  induction m with
  | zero => intro op ws j; rfl
  | succ m ih =>
    intro op ws j
    unfold pWh qWh
    rw [thn_as]
    congr 1
    funext no j1
    rw [thn_as]
    congr 1
    funext l j2
    by_cases h36 : isW S 36 j2 = true
    · rw [if_pos h36, if_pos h36, ih]
    · rw [if_neg h36, if_neg h36]
      by_cases h37 : isW S 37 j2 = true
      · rw [if_pos h37, if_pos h37, ih]
      · rw [if_neg h37, if_neg h37]
        rfl
theorem pLn_q {S : List Nat} {B : TB} {j : Nat} : pLn S B j = mkE S (qLn S B j) := by
  unfold pLn qLn
  by_cases h0 : isW S 0 j = true
  · rw [if_pos h0, if_pos h0]
    unfold pPage
    by_cases hb : tBn B 0 = true
    · rw [if_pos hb, if_pos hb]; rfl
    · rw [if_neg hb, if_neg hb]; unfold pPage1 mkE; rw [thn_as]; rfl
  rw [if_neg h0, if_neg h0]
  by_cases h1 : isW S 1 j = true
  · rw [if_pos h1, if_pos h1]
    unfold pBatch
    by_cases hb : tBn B 1 = true
    · rw [if_pos hb, if_pos hb]; rfl
    · rw [if_neg hb, if_neg hb]; unfold pBatch1 mkE; rw [thn_as]; rfl
  rw [if_neg h1, if_neg h1]
  by_cases h2 : isW S 2 j = true
  · rw [if_pos h2, if_pos h2]
    unfold pIndex qIndex1
    by_cases hr : tRw B ≠ []
    · rw [if_pos hr, if_pos hr]; rfl
    · rw [if_neg hr, if_neg hr]
      by_cases h4 : 4 ≤ (tIx B).length
      · rw [if_pos h4, if_pos h4]; rfl
      · rw [if_neg h4, if_neg h4]
        by_cases hn : isNm S (j + 1) = true
        · rw [if_pos hn, if_pos hn]
          by_cases hm : (nmd (tIx B) (tsg (tk S (j + 1)))).isSome = true
          · rw [if_pos hm, if_pos hm]; rfl
          · rw [if_neg hm, if_neg hm]
            unfold mkE
            rw [thn_as]
            congr 1
            funext k j2
            rw [thn_as]
            congr 1
            funext u j3
            rw [thn_as]
            rfl
        · rw [if_neg hn, if_neg hn]; rfl
  rw [if_neg h2, if_neg h2]
  by_cases h4 : isW S 4 j = true
  · rw [if_pos h4, if_pos h4]
    unfold pRow qRow1
    by_cases h20 : 20 ≤ (tRw B).length
    · rw [if_pos h20, if_pos h20]; rfl
    · rw [if_neg h20, if_neg h20]
      unfold mkE
      rw [thn_as]
      congr 1
      funext x j2
      rw [thn_as]
      congr 1
      funext y j3
      rw [thn_as]
      rfl
  rw [if_neg h4, if_neg h4]
  by_cases h5 : isW S 5 j = true
  · rw [if_pos h5, if_pos h5]
    unfold pPoint qPoint1
    by_cases h8 : 8 ≤ (tPt B).length
    · rw [if_pos h8, if_pos h8]; rfl
    · rw [if_neg h8, if_neg h8]
      unfold mkE
      rw [thn_as]
      congr 1
      funext s j2
      rw [thn_as]
      congr 1
      funext u j3
      by_cases hn : (isNu S j3 && !tHas (tRw B) 0 (nV S j3)) = true
      · rw [if_pos hn, if_pos hn]; rfl
      · rw [if_neg hn, if_neg hn, thn_as]; rfl
  rw [if_neg h5, if_neg h5]
  by_cases h7 : isW S 7 j = true
  · rw [if_pos h7, if_pos h7]
    unfold pChoose
    by_cases hb : tBn B 7 = true
    · rw [if_pos hb, if_pos hb]; rfl
    · rw [if_neg hb, if_neg hb]; unfold pChoose1 mkE; rw [pWh_q, thn_as, thn_as]
      congr 1
      funext w j2
      rw [thn_as]
      rfl
  rw [if_neg h7, if_neg h7]
  by_cases h8 : isW S 8 j = true
  · rw [if_pos h8, if_pos h8]
    unfold pPart
    by_cases hb : tBn B 8 = true
    · rw [if_pos hb, if_pos hb]; rfl
    · rw [if_neg hb, if_neg hb]; unfold pPart1 mkE; rw [pWh_q, thn_as, thn_as]
      congr 1
      funext w j2
      rw [thn_as]
      rfl
  rw [if_neg h8, if_neg h8]
  rfl
section MLN
variable {G G' : GG} {S : List Nat} {e j : Nat} {B : TB}
theorem isMW.far {w : Nat} {W : List Lim} (h : isMW G w W) (h12 : W.length ≤ 12) (e : ∀ k, 73 * w ≤ k → k < 73 * w + 73 → G'.1 625 k = G.1 625 k) : isMW G' w W := by
  refine ⟨by rw [e _ (Nat.le_refl _) (by omega)]; exact h.1, fun i hi => ?_⟩
  obtain ⟨g1, g2⟩ := h.2 i hi
  exact ⟨by rw [e _ (by omega) (by omega)]; exact g1, g2.cg (fun k k1 k2 => e k (by omega) (by omega))⟩
theorem dlE.dr {Q : Nat → Prop} (h : dlE Q G G') (hq : ∀ k, Q k → 146 ≤ k) : drE G G' := ⟨fun n a _ c => h.1 n a c, fun n _ => by rw [h.2.1], by rw [h.2.1], h.2.2.1, fun k _ => by rw [h.1 624 (by decide) (by decide)], fun k hk => h.2.2.2 k (fun q => by have := hq k q; omega), fun k _ => by rw [h.2.1]⟩
theorem m_chooseR (h : RMd G S 0 j) (hB : isMB G 53 2 4 B) (hk : okTB B) (h0 : tCh B = []) (hS : S.length ≤ 1000) : ∃ G', f_Md_reads [.ref 618, .int 5] (hp G) = some (none, hp G') ∧ RY G' S (thn (qWh S false 13 true [] j) fun w j => .inr ((tPg B, tBt B, tBn B, tIx B, tRw B, tPt B, w, tPa B), j)) ∧ drE G G' := by
  have hW : isMW G 2 [] := by have := hB.2.2.1; rw [h0] at this; exact this
  obtain ⟨G1, r1, r2, r3, r4⟩ := m_whl hS (w := 2) (by decide) false 13 [] true G j mm_fu h hW rfl (by decide) (by have := @fu_lt 100 (by omega); omega)
  rw [e_Md_reads 618 _ _ (ob_Md G), if_neg (by decide), if_neg (by decide), if_neg (by decide), if_neg (by decide), if_neg (by decide), show (5 : Int32) - 5 = 0 from rfl, e_Md_readWhere 618 _ _ (ob_Md G), show mm_run p_Md_readWhere mm_fu 12 [.ref 618, .int 0, .int (73 * (2 + 0)), .int 0, .int 1] [] (hp G) = _ from r1, cv_some]
  refine ⟨G1, rfl, ?_, r4.dr (fun k hk => by omega)⟩
  cases hp1 : qWh S false 13 true [] j with
  | inl e => rw [hp1] at r2; exact ⟨r2, fun B j q => (by cases q)⟩
  | inr p1 =>
    obtain ⟨W, j2⟩ := p1
    have := r3 W j2 hp1
    rw [hp1] at r2
    refine ⟨r2, fun B' j' q => ?_⟩
    cases q
    refine ⟨by rw [r4.1 624 (by decide) (by decide)]; exact hB.1.go (fun k _ => Or.inl ⟨rfl, rfl⟩), fun i hi => by rw [r4.2.1]; exact hB.2.1 i hi, this, hB.2.2.2.far hk.2.2.2.2.1.2.1.1 (fun k k1 k2 => r4.2.2.2 k (by omega))⟩
theorem m_partR (h : RMd G S 0 j) (hB : isMB G 53 2 4 B) (hk : okTB B) (h0 : tPa B = []) (hS : S.length ≤ 1000) : ∃ G', f_Md_reads [.ref 618, .int 6] (hp G) = some (none, hp G') ∧ RY G' S (thn (qWh S true 13 true [] j) fun w j => .inr ((tPg B, tBt B, tBn B, tIx B, tRw B, tPt B, tCh B, w), j)) ∧ drE G G' := by
  have hW : isMW G 3 [] := by have := hB.2.2.2; rw [h0] at this; exact this
  obtain ⟨G1, r1, r2, r3, r4⟩ := m_whl hS (w := 3) (by decide) true 13 [] true G j mm_fu h hW rfl (by decide) (by have := @fu_lt 100 (by omega); omega)
  rw [e_Md_reads 618 _ _ (ob_Md G), if_neg (by decide), if_neg (by decide), if_neg (by decide), if_neg (by decide), if_neg (by decide), show (6 : Int32) - 5 = 1 from rfl, e_Md_readWhere 618 _ _ (ob_Md G), show mm_run p_Md_readWhere mm_fu 12 [.ref 618, .int 1, .int (73 * (2 + 1)), .int 0, .int 1] [] (hp G) = _ from r1, cv_some]
  refine ⟨G1, rfl, ?_, r4.dr (fun k hk => by omega)⟩
  cases hp1 : qWh S true 13 true [] j with
  | inl e => rw [hp1] at r2; exact ⟨r2, fun B j q => (by cases q)⟩
  | inr p1 =>
    obtain ⟨W, j2⟩ := p1
    have := r3 W j2 hp1
    rw [hp1] at r2
    refine ⟨r2, fun B' j' q => ?_⟩
    cases q
    refine ⟨by rw [r4.1 624 (by decide) (by decide)]; exact hB.1.go (fun k _ => Or.inl ⟨rfl, rfl⟩), fun i hi => by rw [r4.2.1]; exact hB.2.1 i hi, hB.2.2.1.far hk.2.2.2.2.1.1.1 (fun k k1 k2 => r4.2.2.2 k (by omega)), this⟩
end MLN
