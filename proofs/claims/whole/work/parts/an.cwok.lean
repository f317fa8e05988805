/-! what a TABLE that is told keeps to, line by line -/
def okBn (B : TB) : Prop := (tBn B 7 = false → tCh B = []) ∧ (tBn B 8 = false → tPa B = [])
theorem thn_inr {α β : Type} {x : Nat ⊕ (α × Nat)} {f : α → Nat → Nat ⊕ (β × Nat)} {r : β × Nat} (h : thn x f = .inr r) : ∃ v j, x = .inr (v, j) ∧ f v j = .inr r := by
  cases x with
  | inl e => cases h
  | inr q => exact ⟨q.1, q.2, rfl, h⟩
theorem pNum_ok {S : List Nat} {lo hi j v j2 : Nat} (h : pNum S lo hi j = .inr (v, j2)) : isNu S j = true ∧ v = nV S j ∧ lo ≤ v ∧ v ≤ hi := by
  unfold pNum at h
  split at h
  · rename_i q
    split at h
    · cases h
    · cases h
      exact ⟨q, rfl, by omega, by omega⟩
  · cases h
theorem pOne_ok {S : List Nat} {a b j v j2 : Nat} (h : pOne S a b j = .inr (v, j2)) : v ≤ b - a := by
  unfold pOne at h
  split at h
  · rename_i q
    cases h
    have := isB_wN q
    omega
  · cases h
theorem pLim_ok {S : List Nat} {pt op no : Bool} {j j2 : Nat} {l : Lim} (hs : stL S pt j = true) (h : pLim S op no j = .inr (l, j2)) : okLim l ∧ (pt = true → lKd l = 28 ∨ lKd l = 31 ∨ lKd l = 32) := by
  unfold pLim at h
  split at h
  · rename_i hB
    obtain ⟨-, -, b1, b2', -⟩ := isB_wN hB
    split at h
    · obtain ⟨v, j3, e1, e2⟩ := thn_inr h
      have := pOne_ok e1
      cases e2
      exact ⟨Or.inr (Or.inl ⟨rfl, show wN S j - 25 < 3 by omega, show v < 3 by omega⟩), fun _ => Or.inr (Or.inl rfl)⟩
    · split at h
      · obtain ⟨v, j3, e1, e2⟩ := thn_inr h
        have := (pNum_ok e1).2.2.2
        cases e2
        exact ⟨Or.inl ⟨rfl, show wN S j - 25 < 3 by omega, this, this⟩, fun _ => Or.inl rfl⟩
      · obtain ⟨-, j3, -, e2⟩ := thn_inr h
        obtain ⟨lo, j4, e3, e4⟩ := thn_inr e2
        obtain ⟨-, j5, -, e5⟩ := thn_inr e4
        obtain ⟨hi, j6, e6, e7⟩ := thn_inr e5
        have q1 := (pNum_ok e3).2.2.2
        have q2 := (pNum_ok e6).2.2.2
        cases e7
        exact ⟨Or.inl ⟨rfl, show wN S j - 25 < 3 by omega, q1, q2⟩, fun _ => Or.inl rfl⟩
  · rename_i hB
    have hB' : isB S 25 27 j = false := Bool.eq_false_iff.2 hB
    split at h
    · obtain ⟨v, j3, e1, e2⟩ := thn_inr h
      have q1 := (pNum_ok e1).2.2
      cases e2
      exact ⟨Or.inr (Or.inr (Or.inl ⟨rfl, q1.1, q1.2⟩)), fun _ => Or.inr (Or.inr rfl)⟩
    · rename_i h32
      have hpt : ¬ pt = true := fun q => by
        unfold stL at hs
        rw [hB', q, Bool.false_or, Bool.not_true, Bool.false_and, Bool.or_false] at hs
        exact h32 (isW_wN hs).2.2.1
      split at h
      · cases h
        exact ⟨Or.inr (Or.inr (Or.inr (Or.inr rfl))), fun q => absurd q hpt⟩
      · obtain ⟨v, j3, e1, e2⟩ := thn_inr h
        have := pOne_ok e1
        cases e2
        exact ⟨Or.inr (Or.inr (Or.inr (Or.inl ⟨rfl, show v < 3 by omega⟩))), fun q => absurd q hpt⟩
theorem pOpen_lt {S : List Nat} {pt no : Bool} {n j j2 : Nat} (h : pOpen S pt n j = .inr (no, j2)) : n < 12 := by
  unfold pOpen at h
  split at h
  · cases h
  · split at h
    · cases h
    · omega
theorem pWh_ok {S : List Nat} {pt : Bool} : ∀ (m : Nat) (op : Bool) (ws : List Lim) (j : Nat) (w : List Lim) (j2 : Nat), okW ws → (pt = true → ∀ l ∈ ws, lKd l = 28 ∨ lKd l = 31 ∨ lKd l = 32) → pWh S pt m op ws j = .inr (w, j2) → okW w ∧ (pt = true → ∀ l ∈ w, lKd l = 28 ∨ lKd l = 31 ∨ lKd l = 32) := by
  intro m
  induction m with
  | zero => intro op ws j w j2 _ _ h; cases h
  | succ m ih =>
    intro op ws j w j2 h1 h2 h
    unfold pWh at h
    obtain ⟨no, j3, e1, e2⟩ := thn_inr h
    obtain ⟨l, j4, e3, e4⟩ := thn_inr e2
    obtain ⟨l1, l2⟩ := pLim_ok (pOpen_st e1) e3
    have hlt := pOpen_lt e1
    have k1 : okW (ws ++ [l]) := ⟨by rw [List.length_append]; show ws.length + 1 ≤ 12; omega, fun q hq => by
      rcases List.mem_append.1 hq with q1 | q1
      · exact h1.2 q q1
      · rw [List.mem_singleton.1 q1]; exact l1⟩
    have k2 : pt = true → ∀ q ∈ ws ++ [l], lKd q = 28 ∨ lKd q = 31 ∨ lKd q = 32 := fun hp' q hq => by
      rcases List.mem_append.1 hq with q1 | q1
      · exact h2 hp' q q1
      · rw [List.mem_singleton.1 q1]; exact l2 hp'
    split at e4
    · exact ih _ _ _ _ _ k1 k2 e4
    · split at e4
      · exact ih _ _ _ _ _ k1 k2 e4
      · obtain ⟨-, j5, -, e5⟩ := thn_inr e4
        cases e5
        exact ⟨k1, k2⟩
theorem pCol_ok {S : List Nat} {B : TB} {c j v j2 : Nat} (h : pCol S B c j = .inr (v, j2)) : v ≤ 999 ∧ tOnce B c v = false := by
  unfold pCol at h
  split at h
  · cases h
  · rename_i q
    obtain ⟨a1, a2, -, a4⟩ := pNum_ok h
    refine ⟨a4, ?_⟩
    rw [a1, Bool.true_and] at q
    rw [a2]
    exact Bool.eq_false_iff.2 q
theorem tOnce_no {B : TB} {c v : Nat} (h : tOnce B c v = false) {q : List Nat × Nat × Nat} (hq : q ∈ tIx B) (h2 : q.2.1 = 2) (hc : q.2.2 = c) {t : Nat × Nat × Nat} (ht : t ∈ tRw B) : colT t c ≠ v := fun e => by
  have k1 : (tIx B).any (fun q => decide (q.2.1 = 2) && decide (q.2.2 = c)) = true := List.any_eq_true.2 ⟨q, hq, by rw [decide_eq_true h2, decide_eq_true hc]; rfl⟩
  have k2 : tHas (tRw B) c v = true := List.any_eq_true.2 ⟨t, ht, decide_eq_true e⟩
  unfold tOnce at h
  rw [k1, k2] at h
  cases h
theorem pLn_ok {S : List Nat} {B B' : TB} {j j2 : Nat} (hB : okTB B) (hb : okBn B) (h : pLn S B j = .inr (B', j2)) : okTB B' ∧ okBn B' := by
  obtain ⟨⟨hpg, hbt⟩, ⟨hI4, hI⟩, ⟨hR20, hR⟩, ⟨hP8, hP⟩, ⟨hC, hA, hK⟩, hO⟩ := hB
  obtain ⟨b7, b8⟩ := hb
  unfold pLn at h
  split at h
  · unfold pPage at h
    split at h
    · cases h
    · unfold pPage1 at h
      obtain ⟨v, j3, e1, e2⟩ := thn_inr h
      obtain ⟨-, j4, -, e3⟩ := thn_inr e2
      have := (pNum_ok e1).2.2
      cases e3
      exact ⟨⟨⟨this, hbt⟩, ⟨hI4, hI⟩, ⟨hR20, hR⟩, ⟨hP8, hP⟩, ⟨hC, hA, hK⟩, hO⟩, fun q => b7 q, fun q => b8 q⟩
  split at h
  · unfold pBatch at h
    split at h
    · cases h
    · unfold pBatch1 at h
      obtain ⟨v, j3, e1, e2⟩ := thn_inr h
      obtain ⟨-, j4, -, e3⟩ := thn_inr e2
      have := (pNum_ok e1).2.2
      cases e3
      exact ⟨⟨⟨hpg, this⟩, ⟨hI4, hI⟩, ⟨hR20, hR⟩, ⟨hP8, hP⟩, ⟨hC, hA, hK⟩, hO⟩, fun q => b7 q, fun q => b8 q⟩
  split at h
  · unfold pIndex at h
    split at h
    · cases h
    rename_i hr
    have hr' : tRw B = [] := Classical.not_not.1 hr
    split at h
    · cases h
    rename_i h4
    split at h
    · rename_i hn
      split at h
      · cases h
      · obtain ⟨k, j3, e1, e2⟩ := thn_inr h
        obtain ⟨-, j4, -, e3⟩ := thn_inr e2
        obtain ⟨c, j5, e4, e5⟩ := thn_inr e3
        obtain ⟨-, j6, -, e6⟩ := thn_inr e5
        have q1 := pOne_ok e1
        have q2 := pOne_ok e4
        have hw : tso (tk S (j + 1)) = 1 := by
          unfold isNm at hn
          rw [Bool.and_eq_true] at hn
          exact of_decide_eq_true hn.1
        obtain ⟨w1, w2, -⟩ := tk_word hw
        cases e6
        refine ⟨⟨⟨hpg, hbt⟩, ⟨?_, fun q hq => ?_⟩, ⟨hR20, hR⟩, ⟨hP8, hP⟩, ⟨hC, hA, hK⟩, fun q hq _ => ?_⟩, fun q => b7 q, fun q => b8 q⟩
        · show (tIx B ++ [_]).length ≤ 4
          rw [List.length_append]
          show (tIx B).length + 1 ≤ 4
          omega
        · rcases List.mem_append.1 (show q ∈ tIx B ++ [_] from hq) with q3 | q3
          · exact hI q q3
          · rw [List.mem_singleton.1 q3]
            exact ⟨⟨w1, w2⟩, show k ≤ 3 by omega, show c < 3 by omega⟩
        · show (tRw B).Pairwise _
          rw [hr']
          exact List.Pairwise.nil
    · cases h
  split at h
  · unfold pRow at h
    split at h
    · cases h
    rename_i h20
    obtain ⟨x, j3, e1, e2⟩ := thn_inr h
    obtain ⟨y, j4, e3, e4⟩ := thn_inr e2
    obtain ⟨z, j5, e5, e6⟩ := thn_inr e4
    obtain ⟨-, j6, -, e7⟩ := thn_inr e6
    obtain ⟨x1, x2⟩ := pCol_ok e1
    obtain ⟨y1, y2⟩ := pCol_ok e3
    obtain ⟨z1, z2⟩ := pCol_ok e5
    cases e7
    refine ⟨⟨⟨hpg, hbt⟩, ⟨hI4, hI⟩, ⟨?_, fun t ht => ?_⟩, ⟨hP8, fun q hq => ?_⟩, ⟨hC, hA, hK⟩, fun q hq h2 => ?_⟩, fun q => b7 q, fun q => b8 q⟩
    · show (tRw B ++ [_]).length ≤ 20
      rw [List.length_append]
      show (tRw B).length + 1 ≤ 20
      omega
    · rcases List.mem_append.1 (show t ∈ tRw B ++ [_] from ht) with q3 | q3
      · exact hR t q3
      · rw [List.mem_singleton.1 q3]
        exact ⟨x1, y1, z1⟩
    · obtain ⟨a1, a2, t, a3, a4⟩ := hP q hq
      exact ⟨a1, a2, t, List.mem_append_left _ a3, a4⟩
    · have hc := (hI q hq).2.2
      show (tRw B ++ [(x, y, z)]).Pairwise _
      refine List.pairwise_append.2 ⟨hO q hq h2, List.pairwise_singleton _ _, fun t ht u hu => ?_⟩
      rw [List.mem_singleton.1 hu]
      have : q.2.2 = 0 ∨ q.2.2 = 1 ∨ q.2.2 = 2 := by omega
      rcases this with e | e | e
      · rw [e]; exact tOnce_no x2 hq h2 e ht
      · rw [e]; exact tOnce_no y2 hq h2 e ht
      · rw [e]; exact tOnce_no z2 hq h2 e ht
  split at h
  · unfold pPoint at h
    split at h
    · cases h
    rename_i h8
    obtain ⟨s, j3, e1, e2⟩ := thn_inr h
    obtain ⟨-, j4, -, e3⟩ := thn_inr e2
    split at e3
    · cases e3
    rename_i hn
    obtain ⟨v, j5, e4, e5⟩ := thn_inr e3
    obtain ⟨-, j6, -, e6⟩ := thn_inr e5
    have q1 := pOne_ok e1
    obtain ⟨v1, v2, -, v4⟩ := pNum_ok e4
    have hh : ∃ t ∈ tRw B, t.1 = v := by
      rw [v1, Bool.true_and, ← v2] at hn
      cases ht : tHas (tRw B) 0 v
      · rw [ht] at hn; exact absurd rfl hn
      · obtain ⟨t, t1, t2⟩ := List.any_eq_true.1 ht
        exact ⟨t, t1, of_decide_eq_true t2⟩
    cases e6
    refine ⟨⟨⟨hpg, hbt⟩, ⟨hI4, hI⟩, ⟨hR20, hR⟩, ⟨?_, fun q hq => ?_⟩, ⟨hC, hA, hK⟩, hO⟩, fun q => b7 q, fun q => b8 q⟩
    · show (tPt B ++ [_]).length ≤ 8
      rw [List.length_append]
      show (tPt B).length + 1 ≤ 8
      omega
    · rcases List.mem_append.1 (show q ∈ tPt B ++ [_] from hq) with q3 | q3
      · exact hP q q3
      · rw [List.mem_singleton.1 q3]
        exact ⟨show s ≤ 2 by omega, v4, hh⟩
  split at h
  · unfold pChoose at h
    split at h
    · cases h
    · unfold pChoose1 at h
      obtain ⟨w, j3, e1, e2⟩ := thn_inr h
      obtain ⟨k1, -⟩ := pWh_ok 13 true [] _ _ _ ⟨by decide, fun l hl => absurd hl List.not_mem_nil⟩ (fun _ l hl => absurd hl List.not_mem_nil) e1
      cases e2
      exact ⟨⟨⟨hpg, hbt⟩, ⟨hI4, hI⟩, ⟨hR20, hR⟩, ⟨hP8, hP⟩, ⟨k1, hA, hK⟩, hO⟩, fun q => (by cases q), fun q => b8 q⟩
  split at h
  · unfold pPart at h
    split at h
    · cases h
    · unfold pPart1 at h
      obtain ⟨w, j3, e1, e2⟩ := thn_inr h
      obtain ⟨k1, k2⟩ := pWh_ok 13 true [] _ _ _ ⟨by decide, fun l hl => absurd hl List.not_mem_nil⟩ (fun _ l hl => absurd hl List.not_mem_nil) e1
      cases e2
      exact ⟨⟨⟨hpg, hbt⟩, ⟨hI4, hI⟩, ⟨hR20, hR⟩, ⟨hP8, hP⟩, ⟨hC, k1, k2 rfl⟩, hO⟩, fun q => b7 q, fun q => (by cases q)⟩
  · cases h
theorem okTB0 : okTB tb0 ∧ okBn tb0 := by
  refine ⟨⟨⟨⟨by decide, by decide⟩, by decide, by decide⟩, ⟨by decide, fun q hq => absurd hq List.not_mem_nil⟩, ⟨by decide, fun q hq => absurd hq List.not_mem_nil⟩, ⟨by decide, fun q hq => absurd hq List.not_mem_nil⟩, ⟨⟨by decide, fun q hq => absurd hq List.not_mem_nil⟩, ⟨by decide, fun q hq => absurd hq List.not_mem_nil⟩, fun q hq => absurd hq List.not_mem_nil⟩, fun q hq => absurd hq List.not_mem_nil⟩, fun _ => rfl, fun _ => rfl⟩
theorem pTab_ok {S : List Nat} : ∀ (f : Nat) (B B' : TB) (j j2 : Nat), okTB B → okBn B → pTab S f B j = .inr (B', j2) → okTB B' := by
  intro f
  induction f with
  | zero => intro B B' j j2 h1 _ h; cases h; exact h1
  | succ f ih =>
    intro B B' j j2 h1 h2 h
    unfold pTab at h
    split at h
    · cases h; exact h1
    · obtain ⟨B1, j3, e1, e2⟩ := thn_inr h
      obtain ⟨k1, k2⟩ := pLn_ok h1 h2 e1
      exact ih B1 B' j3 j2 k1 k2 e2
