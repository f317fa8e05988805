/-! THE LANGUAGE: a TABLE told, a WORK told -/
def fau (S : List Nat) (k j : Nat) : Nat := k + 16 * tpl (tk S j)
def isW (S : List Nat) (i j : Nat) : Bool := decide (tso (tk S j) = 1) && decide (wx (tsg (tk S j)) = some i)
def isB (S : List Nat) (a b j : Nat) : Bool := decide (tso (tk S j) = 1) && (match wx (tsg (tk S j)) with
  | some i => decide (a ≤ i) && decide (i ≤ b)
  | none => false)
def wN (S : List Nat) (j : Nat) : Nat := (wx (tsg (tk S j))).getD 0
def isNm (S : List Nat) (j : Nat) : Bool := decide (tso (tk S j) = 1) && (wx (tsg (tk S j))).isNone
def isNu (S : List Nat) (j : Nat) : Bool := decide (tso (tk S j) = 2)
def nV (S : List Nat) (j : Nat) : Nat := num (tsg (tk S j))
def pNum (S : List Nat) (lo hi j : Nat) : Nat ⊕ (Nat × Nat) := if isNu S j then (if nV S j < lo ∨ hi < nV S j then .inl (fau S 4 j) else .inr (nV S j, j + 1)) else .inl (fau S 1 j)
def pOne (S : List Nat) (a b j : Nat) : Nat ⊕ (Nat × Nat) := if isB S a b j then .inr (wN S j - a, j + 1) else .inl (fau S 1 j)
def pWd (S : List Nat) (i j : Nat) : Nat ⊕ (Nat × Nat) := if isW S i j then .inr (0, j + 1) else .inl (fau S 1 j)
def pMk (S : List Nat) (j : Nat) : Nat ⊕ (Nat × Nat) := if tso (tk S j) = 3 then .inr (0, j + 1) else .inl (fau S 1 j)
/-- then -/
def thn {α β : Type} (x : Nat ⊕ (α × Nat)) (f : α → Nat → Nat ⊕ (β × Nat)) : Nat ⊕ (β × Nat) := match x with
  | .inl e => .inl e
  | .inr (v, j) => f v j
theorem thn_l {α β : Type} (e : Nat) (f : α → Nat → Nat ⊕ (β × Nat)) : thn (.inl e) f = .inl e := rfl
theorem thn_r {α β : Type} (v : α) (j : Nat) (f : α → Nat → Nat ⊕ (β × Nat)) : thn (.inr (v, j)) f = f v j := rfl
/-- the TABLE as far as it is told: PAGE, BATCH, the words that have been, INDEXES, ROWS, POINTERS, two WHERES -/
abbrev TB := Nat × Nat × (Nat → Bool) × List (List Nat × Nat × Nat) × List (Nat × Nat × Nat) × List (Nat × Nat) × List Lim × List Lim
def tPg (B : TB) : Nat := B.1
def tBt (B : TB) : Nat := B.2.1
def tBn (B : TB) : Nat → Bool := B.2.2.1
def tIx (B : TB) : List (List Nat × Nat × Nat) := B.2.2.2.1
def tRw (B : TB) : List (Nat × Nat × Nat) := B.2.2.2.2.1
def tPt (B : TB) : List (Nat × Nat) := B.2.2.2.2.2.1
def tCh (B : TB) : List Lim := B.2.2.2.2.2.2.1
def tPa (B : TB) : List Lim := B.2.2.2.2.2.2.2
def tb0 : TB := (4, 2, fun _ => false, [], [], [], [], [])
def sBn (B : TB) (i : Nat) : TB := (tPg B, tBt B, fun k => decide (k = i) || tBn B k, tIx B, tRw B, tPt B, tCh B, tPa B)
/-- once told, no more -/
def pPage1 (S : List Nat) (B : TB) (j : Nat) : Nat ⊕ (TB × Nat) := thn (pNum S 2 8 j) fun v j => thn (pMk S j) fun _ j => .inr ((v, tBt B, tBn B, tIx B, tRw B, tPt B, tCh B, tPa B), j)
def pPage (S : List Nat) (B : TB) (j : Nat) : Nat ⊕ (TB × Nat) := if tBn B 0 then .inl (fau S 3 j) else pPage1 S (sBn B 0) (j + 1)
def pBatch1 (S : List Nat) (B : TB) (j : Nat) : Nat ⊕ (TB × Nat) := thn (pNum S 1 8 j) fun v j => thn (pMk S j) fun _ j => .inr ((tPg B, v, tBn B, tIx B, tRw B, tPt B, tCh B, tPa B), j)
def pBatch (S : List Nat) (B : TB) (j : Nat) : Nat ⊕ (TB × Nat) := if tBn B 1 then .inl (fau S 3 j) else pBatch1 S (sBn B 1) (j + 1)
def nmd (l : List (List Nat × Nat × Nat)) (w : List Nat) : Option Nat := l.findIdx? (fun q => decide (q.1 = w))
def pIndex (S : List Nat) (B : TB) (j : Nat) : Nat ⊕ (TB × Nat) := if tRw B ≠ [] then .inl (fau S 1 j) else if 4 ≤ (tIx B).length then .inl (fau S 5 j) else if isNm S (j + 1) then (if (nmd (tIx B) (tsg (tk S (j + 1)))).isSome then .inl (fau S 3 (j + 1)) else thn (pOne S 18 21 (j + 2)) fun k j2 => thn (pWd S 3 j2) fun _ j3 => thn (pOne S 25 27 j3) fun c j4 => thn (pMk S j4) fun _ j5 => .inr ((tPg B, tBt B, tBn B, tIx B ++ [(tsg (tk S (j + 1)), k, c)], tRw B, tPt B, tCh B, tPa B), j5)) else .inl (fau S 1 (j + 1))
def tHas (l : List (Nat × Nat × Nat)) (c v : Nat) : Bool := l.any (fun t => decide (colT t c = v))
def tOnce (B : TB) (c v : Nat) : Bool := (tIx B).any (fun q => decide (q.2.1 = 2) && decide (q.2.2 = c)) && tHas (tRw B) c v
def pCol (S : List Nat) (B : TB) (c j : Nat) : Nat ⊕ (Nat × Nat) := if isNu S j && tOnce B c (nV S j) then .inl (fau S 3 j) else pNum S 0 999 j
def pRow (S : List Nat) (B : TB) (j : Nat) : Nat ⊕ (TB × Nat) := if 20 ≤ (tRw B).length then .inl (fau S 5 j) else thn (pCol S B 0 (j + 1)) fun x j => thn (pCol S B 1 j) fun y j => thn (pCol S B 2 j) fun z j => thn (pMk S j) fun _ j => .inr ((tPg B, tBt B, tBn B, tIx B, tRw B ++ [(x, y, z)], tPt B, tCh B, tPa B), j)
def pPoint (S : List Nat) (B : TB) (j : Nat) : Nat ⊕ (TB × Nat) := if 8 ≤ (tPt B).length then .inl (fau S 5 j) else thn (pOne S 22 24 (j + 1)) fun s j => thn (pWd S 6 j) fun _ j => if isNu S j && !tHas (tRw B) 0 (nV S j) then .inl (fau S 2 j) else thn (pNum S 0 999 j) fun v j => thn (pMk S j) fun _ j => .inr ((tPg B, tBt B, tBn B, tIx B, tRw B, tPt B ++ [(s, v)], tCh B, tPa B), j)
/-- a WHERE -/
def stL (S : List Nat) (pt : Bool) (j : Nat) : Bool := isB S 25 27 j || (isW S 32 j || (!pt && isB S 33 34 j))
def pOpen (S : List Nat) (pt : Bool) (n j : Nat) : Nat ⊕ (Bool × Nat) := if !isW S 35 j && !stL S pt j then .inl (fau S 1 j) else if 12 ≤ n then .inl (fau S 5 j) else if isW S 35 j then (if stL S pt (j + 1) then .inr (true, j + 1) else .inl (fau S 1 (j + 1))) else .inr (false, j)
def pLim (S : List Nat) (op no : Bool) (j : Nat) : Nat ⊕ (Lim × Nat) := if isB S 25 27 j then (if isW S 31 (j + 1) then thn (pOne S 25 27 (j + 2)) fun v j2 => .inr ((op, no, 31, wN S j - 25, v, v), j2) else if isW S 30 (j + 1) then thn (pNum S 0 999 (j + 2)) fun v j2 => .inr ((op, no, 28, wN S j - 25, v, v), j2) else thn (pWd S 28 (j + 1)) fun _ j2 => thn (pNum S 0 999 j2) fun lo j3 => thn (pWd S 29 j3) fun _ j4 => thn (pNum S 0 999 j4) fun hi j5 => .inr ((op, no, 28, wN S j - 25, lo, hi), j5)) else if wN S j = 32 then thn (pNum S 2 9 (j + 1)) fun v j2 => .inr ((op, no, 32, 0, v, v), j2) else if wN S j = 34 then .inr ((op, no, 34, 0, 0, 0), j + 1) else thn (pOne S 25 27 (j + 1)) fun c j2 => .inr ((op, no, 33, c, 0, 0), j2)
def pWh (S : List Nat) (pt : Bool) : Nat → Bool → List Lim → Nat → Nat ⊕ (List Lim × Nat)
  | 0, _, _, j => .inl (fau S 5 j)
  | f + 1, op, ws, j => thn (pOpen S pt ws.length j) fun no j1 => thn (pLim S op no j1) fun l j2 => if isW S 36 j2 then pWh S pt f false (ws ++ [l]) (j2 + 1) else if isW S 37 j2 then pWh S pt f true (ws ++ [l]) (j2 + 1) else thn (pMk S j2) fun _ j3 => .inr (ws ++ [l], j3)
def pChoose1 (S : List Nat) (B : TB) (j : Nat) : Nat ⊕ (TB × Nat) := thn (pWh S false 13 true [] j) fun w j => .inr ((tPg B, tBt B, tBn B, tIx B, tRw B, tPt B, w, tPa B), j)
def pChoose (S : List Nat) (B : TB) (j : Nat) : Nat ⊕ (TB × Nat) := if tBn B 7 then .inl (fau S 3 j) else pChoose1 S (sBn B 7) (j + 1)
def pPart1 (S : List Nat) (B : TB) (j : Nat) : Nat ⊕ (TB × Nat) := thn (pWh S true 13 true [] j) fun w j => .inr ((tPg B, tBt B, tBn B, tIx B, tRw B, tPt B, tCh B, w), j)
def pPart (S : List Nat) (B : TB) (j : Nat) : Nat ⊕ (TB × Nat) := if tBn B 8 then .inl (fau S 3 j) else pPart1 S (sBn B 8) (j + 1)
def pLn (S : List Nat) (B : TB) (j : Nat) : Nat ⊕ (TB × Nat) := if isW S 0 j then pPage S B j else if isW S 1 j then pBatch S B j else if isW S 2 j then pIndex S B j else if isW S 4 j then pRow S B j else if isW S 5 j then pPoint S B j else if isW S 7 j then pChoose S B j else if isW S 8 j then pPart S B j else .inl (fau S 1 j)
def pTab (S : List Nat) : Nat → TB → Nat → Nat ⊕ (TB × Nat)
  | 0, B, j => .inr (B, j)
  | f + 1, B, j => if tso (tk S j) = 0 then .inr (B, j) else thn (pLn S B j) fun B j => pTab S f B j
/-- a WORK: INDEXES by their names -/
def pNm (S : List Nat) (N : List (List Nat × Nat × Nat)) (j : Nat) : Nat ⊕ (Nat × Nat) := if isNm S j then (match nmd N (tsg (tk S j)) with
  | some i => .inr (i, j + 1)
  | none => .inl (fau S 2 j)) else .inl (fau S 1 j)
def pWk (S : List Nat) (N : List (List Nat × Nat × Nat)) (w j : Nat) : Nat ⊕ (LI × Nat) := if w = 9 then thn (pNum S 0 999 j) fun x j => thn (pNum S 0 999 j) fun y j => thn (pNum S 0 999 j) fun z j => .inr ((w, x, y, z), j) else if w = 10 then thn (pNum S 0 29 j) fun x j => .inr ((w, x, 0, 0), j) else if w = 11 then thn (pNum S 0 29 j) fun x j => thn (pOne S 25 27 j) fun y j => thn (pNum S 0 999 j) fun z j => .inr ((w, x, y, z), j) else if w = 13 then thn (pNum S 1 99 j) fun x j => .inr ((w, x, 0, 0), j) else if w = 17 then thn (pNm S N j) fun x j => .inr ((w, x, 0, 0), j) else .inr ((w, 0, 0, 0), j)
def pWl (S : List Nat) (N : List (List Nat × Nat × Nat)) (n j : Nat) : Nat ⊕ (LI × Nat) := if isB S 9 17 j then (if 40 ≤ n then .inl (fau S 5 j) else thn (pWk S N (wN S j) (j + 1)) fun l j => thn (pMk S j) fun _ j => .inr (l, j)) else .inl (fau S 1 j)
def pWs (S : List Nat) (N : List (List Nat × Nat × Nat)) : Nat → List LI → Nat → Nat ⊕ (List LI × Nat)
  | 0, K, j => .inr (K, j)
  | f + 1, K, j => if tso (tk S j) = 0 then .inr (K, j) else thn (pWl S N K.length j) fun l j => pWs S N f (K ++ [l]) j
/-- words -/
theorem isB_wN {S : List Nat} {a b j : Nat} (h : isB S a b j = true) : tso (tk S j) = 1 ∧ wx (tsg (tk S j)) = some (wN S j) ∧ a ≤ wN S j ∧ wN S j ≤ b ∧ wN S j < 38 := by
  unfold isB at h
  rw [Bool.and_eq_true, decide_eq_true_eq] at h
  unfold wN
  cases hw : wx (tsg (tk S j)) with
  | none => rw [hw] at h; exact absurd (show false = true from h.2) (by decide)
  | some i =>
    rw [hw] at h
    obtain ⟨h1, h2⟩ := h
    simp only [Bool.and_eq_true, decide_eq_true_eq] at h2
    exact ⟨h1, rfl, h2.1, h2.2, (wx_some hw).1⟩
theorem isW_wN {S : List Nat} {i j : Nat} (h : isW S i j = true) : tso (tk S j) = 1 ∧ wx (tsg (tk S j)) = some i ∧ wN S j = i ∧ i < 38 := by
  unfold isW at h
  rw [Bool.and_eq_true, decide_eq_true_eq, decide_eq_true_eq] at h
  refine ⟨h.1, h.2, ?_, (wx_some h.2).1⟩
  unfold wN
  rw [h.2]
  rfl
theorem isB_of {S : List Nat} {a b j i : Nat} (h1 : tso (tk S j) = 1) (h2 : wx (tsg (tk S j)) = some i) : isB S a b j = (decide (a ≤ i) && decide (i ≤ b)) := by
  unfold isB
  rw [decide_eq_true h1, h2]
  rfl
/-- tokens come to an end -/
theorem end_stays {S : List Nat} {j : Nat} (h : tso (tk S j) = 0) : bS S (j + 1) = enS S 5 (bS S j) ∧ enS S 5 (bS S j) = S.length := by
  have hb := bS_le S j
  have hle := enS_le (S := S) (k := 5) hb
  unfold tk at h
  have hno : ¬ enS S 5 (bS S j) < S.length := fun hlt => by
    unfold tkS at h
    rw [if_pos hlt] at h
    change sortT S (enS S 5 (bS S j)) = 0 at h
    unfold sortT at h
    have hc : ∀ c, clS c ≠ 0 := fun c => by
      unfold clS
      split
      · decide
      · split
        · decide
        · split
          · decide
          · split <;> decide
    split at h
    · split at h <;> omega
    · split at h
      · split at h <;> omega
      · exact hc _ h
  refine ⟨?_, by omega⟩
  show (tkS S (bS S j)).2 = _
  unfold tkS
  rw [if_neg hno]
theorem tok_lt {S : List Nat} : ∀ {j : Nat}, tso (tk S j) ≠ 0 → j < bS S (j + 1) := by
  intro j
  induction j with
  | zero =>
    intro h
    have hb := bS_le S 0
    by_cases hlt : enS S 5 (bS S 0) < S.length
    · have := endT_ok hlt
      show 0 < (tkS S (bS S 0)).2
      unfold tkS
      rw [if_pos hlt]
      show 0 < endT S (enS S 5 (bS S 0))
      omega
    · exfalso
      apply h
      unfold tk tkS
      rw [if_neg hlt]
      rfl
  | succ j ih =>
    intro h
    by_cases hlt : enS S 5 (bS S (j + 1)) < S.length
    · have h1 := endT_ok hlt
      have h2 := enS_ge S 5 (bS S (j + 1))
      have hj : tso (tk S j) ≠ 0 := fun q => by
        obtain ⟨e1, e2⟩ := end_stays q
        rw [e1, e2] at hlt
        have := enS_ge S 5 S.length
        omega
      have := ih hj
      show j + 1 < (tkS S (bS S (j + 1))).2
      unfold tkS
      rw [if_pos hlt]
      show j + 1 < endT S (enS S 5 (bS S (j + 1)))
      omega
    · exfalso
      apply h
      unfold tk tkS
      rw [if_neg hlt]
      rfl
theorem tok_end {S : List Nat} (hl : S.length ≤ 1000) {j : Nat} (h : 1000 ≤ j) : tso (tk S j) = 0 := Classical.byContradiction fun q => by
  have := tok_lt q
  have := bS_le S (j + 1)
  omega
theorem tpl_le (S : List Nat) (j : Nat) : tpl (tk S j) ≤ S.length := by
  have hb := bS_le S j
  have := enS_le (S := S) (k := 5) hb
  unfold tk tkS
  split
  · exact this
  · exact this
theorem fau_ne (S : List Nat) {k : Nat} (hk : 1 ≤ k) (j : Nat) : fau S k j ≠ 0 := by unfold fau; omega
