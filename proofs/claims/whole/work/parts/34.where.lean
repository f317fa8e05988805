/-! WHERE (the class) -/
/-- a LIMIT: whether a GROUP opens with it, not, kind, column, low, high -/
abbrev Lim := Bool × Bool × Nat × Nat × Nat × Nat
def lOp (l : Lim) : Bool := l.1
def lNo (l : Lim) : Bool := l.2.1
def lKd (l : Lim) : Nat := l.2.2.1
def lCo (l : Lim) : Nat := l.2.2.2.1
def lLo (l : Lim) : Nat := l.2.2.2.2.1
def lHi (l : Lim) : Nat := l.2.2.2.2.2
def okLim (l : Lim) : Prop := (lKd l = 28 ∧ lCo l < 3 ∧ lLo l ≤ 999 ∧ lHi l ≤ 999) ∨ (lKd l = 31 ∧ lCo l < 3 ∧ lLo l < 3) ∨ (lKd l = 32 ∧ 2 ≤ lLo l ∧ lLo l ≤ 9) ∨ (lKd l = 33 ∧ lCo l < 3) ∨ lKd l = 34
/-- whether a LIMIT is so of a ROW (not left aside) -/
def limS (V : Nat → Nat → Nat) (vis : Int32) (np : Nat) (T : Nat → Int32) (row : Nat) (l : Lim) : Bool :=
  if lKd l = 28 then decide (lLo l ≤ V row (lCo l) ∧ V row (lCo l) ≤ lHi l)
  else if lKd l = 31 then decide (V row (lLo l) < V row (lCo l))
  else if lKd l = 32 then decide (row % lLo l = 0)
  else if lKd l = 33 then !decide (havS V vis (lCo l) (V row (lCo l)) &&& (sbit row ^^^ (-1)) = 0)
  else anyAt np T (nI (V row 0))
def limN (V : Nat → Nat → Nat) (vis : Int32) (np : Nat) (T : Nat → Int32) (row : Nat) (l : Lim) : Bool := limS V vis np T row l ^^ lNo l
/-- the GROUPS: g is whether the one that is open is so, as far as seen -/
def holdsG (s : Lim → Bool) : Bool → List Lim → Bool
  | g, [] => g
  | g, l :: r => if lOp l then g || holdsG s (s l) r else holdsG s (g && s l) r
def holdsW (s : Lim → Bool) : List Lim → Bool
  | [] => true
  | l :: r => holdsG s (s l) r
def isLim (G : GG) (w i : Nat) (l : Lim) : Prop := G.1 (w + 1) i = nI (lKd l) ∧ G.1 (w + 5) i = b2 (lNo l) ∧ G.1 (w + 6) i = b2 (lOp l) ∧ (lKd l = 28 ∨ lKd l = 31 ∨ lKd l = 33 → G.1 (w + 2) i = nI (lCo l)) ∧ (lKd l = 28 ∨ lKd l = 31 ∨ lKd l = 32 → G.1 (w + 3) i = nI (lLo l)) ∧ (lKd l = 28 → G.1 (w + 4) i = nI (lHi l))
def isWh (G : GG) (w : Nat) (W : List Lim) : Prop := G.1 w 6 = nI W.length ∧ ∀ i (hi : i < W.length), isLim G w i W[i]
def okW (W : List Lim) : Prop := W.length ≤ 12 ∧ ∀ l ∈ W, okLim l
theorem lq {a n : Nat} (h : a = n) : nI a = nI n := by rw [h]
theorem ln {a n : Nat} (h : a ≠ n) (ha : a < 2147483648) (hn : n < 2147483648) : ¬ nI a = nI n := fun e => h (n_inj ha hn e)
section WHS
variable {G : GG} {w s m np : Nat} {V : Nat → Nat → Nat} {d c : Int32} {S : Nat → Nat} {T B : Nat → Int32} {W : List Lim}
theorem s_Rw_valueOf_any {t : Nat} (ho : okRw t) (hi : isRw G t V m d c) (hk : okR V m d c) {r : Nat} (hr : r < m) (y : Int32) : ∃ z, f_Rw_valueOf [.ref t, .int (nI r), .int y] (hp G) = some (some (.int z), hp G) := by
  have hm := hk.1
  rcases n_cases y with h | ⟨k, hk2, rfl⟩
  · exact ⟨_, s_Rw_valueOf_col ho hi hk (by omega) (Or.inl h)⟩
  · by_cases h3 : k < 3
    · exact ⟨_, s_Rw_valueOf ho hi hk hr h3⟩
    · exact ⟨_, s_Rw_valueOf_col ho hi hk (by omega) (Or.inr ⟨k, by omega, hk2, rfl⟩)⟩
theorem b2_01 (b : Bool) : b2 b = 0 ∨ b2 b = 1 := by cases b <;> simp [b2]
theorem s_Wh_isSo (ho : okWh w) (hs : adSt s) (hr : isRw G (s + 1) V m d c) (hk : okR V m d c) (hpt : isPt G (s + 3) np S T B) (hnp : np ≤ 12) {i row : Nat} {l : Lim} (hi : i < 12) (hl : isLim G w i l) (hlk : okLim l) (hrow : row < m) : f_Wh_isSo [.ref w, .int (nI i), .ref s, .int (nI row)] (hp G) = some (some (.int (b2 (limS V (visB d c) np T row l))), hp G) := by
  have hm := hk.1
  obtain ⟨l1, l2, l3, l4, l5, l6⟩ := hl
  have hV : ∀ k, k < 3 → V row k ≤ 999 := fun k hk3 => hk.2.1 row k hrow hk3
  rw [e_Wh_isSo w _ _ _ _ (ob_Wh G ho), gg_St_rows _ hs.ok, Option.bind_some, gg_Wh_column _ ho, Option.bind_some, rr_Wh_column _ ho hi, Option.bind_some]
  unfold limS
  rcases hlk with ⟨k1, k2, k3, k4⟩ | ⟨k1, k2, k3⟩ | ⟨k1, k2, k3⟩ | ⟨k1, k2⟩ | k1
  · have v1 := hV _ k2
    rw [l4 (Or.inl k1), s_Rw_valueOf hs.rw hr hk hrow k2, ci_some, gg_Wh_kind _ ho, Option.bind_some, rr_Wh_kind _ ho hi, Option.bind_some, l1, k1, if_pos (show nI 28 = (28 : Int32) from rfl), if_pos rfl, gg_Wh_low _ ho, Option.bind_some, rr_Wh_low _ ho hi, Option.bind_some, l5 (Or.inl k1)]
    by_cases h1 : V row (lCo l) < lLo l
    · rw [if_pos (lp h1 (by omega)), decide_eq_false (by omega)]
      rfl
    · rw [if_neg (lm (by omega) (by omega)), gg_Wh_high _ ho, Option.bind_some, rr_Wh_high _ ho hi, Option.bind_some, l6 k1]
      by_cases h2 : lHi l < V row (lCo l)
      · rw [if_pos (lp h2 (by omega)), decide_eq_false (by omega)]
        rfl
      · rw [if_neg (lm (by omega) (by omega)), decide_eq_true (by omega)]
        rfl
  · have v1 := hV _ k2
    have v2 := hV _ k3
    rw [l4 (Or.inr (Or.inl k1)), s_Rw_valueOf hs.rw hr hk hrow k2, ci_some, gg_Wh_kind _ ho, Option.bind_some, rr_Wh_kind _ ho hi, Option.bind_some, l1, k1, if_neg (show ¬ nI 31 = (28 : Int32) by decide), if_neg (show ¬ nI 31 = (29 : Int32) by decide), if_neg (show ¬ nI 31 = (30 : Int32) by decide), if_pos (show nI 31 = (31 : Int32) from rfl), if_neg (by decide), if_pos rfl, gg_St_rows _ hs.ok, Option.bind_some, gg_Wh_low _ ho, Option.bind_some, rr_Wh_low _ ho hi, Option.bind_some, l5 (Or.inr (Or.inl k1)), s_Rw_valueOf hs.rw hr hk hrow k3, ci_some]
    by_cases h1 : V row (lLo l) < V row (lCo l)
    · rw [if_pos (lp h1 (by omega)), decide_eq_true h1]
      rfl
    · rw [if_neg (lm (by omega) (by omega)), decide_eq_false h1]
      rfl
  · obtain ⟨z, hz⟩ := s_Rw_valueOf_any hs.rw hr hk hrow (G.1 (w + 2) i)
    rw [hz, ci_some, gg_Wh_kind _ ho, Option.bind_some, rr_Wh_kind _ ho hi, Option.bind_some, l1, k1, if_neg (show ¬ nI 32 = (28 : Int32) by decide), if_neg (show ¬ nI 32 = (29 : Int32) by decide), if_neg (show ¬ nI 32 = (30 : Int32) by decide), if_neg (show ¬ nI 32 = (31 : Int32) by decide), if_pos (show nI 32 = (32 : Int32) from rfl), if_neg (by decide), if_neg (by decide), if_pos rfl, gg_Wh_low _ ho, Option.bind_some, rr_Wh_low _ ho hi, Option.bind_some, l5 (Or.inr (Or.inr k1)), if_pos (show (0 : Int32) < nI (lLo l) from lp (a := 0) (by omega) (by omega)), Option.bind_some, rr_Wh_low _ ho hi, Option.bind_some, l5 (Or.inr (Or.inr k1)), if_neg (show ¬ nI (lLo l) = (0 : Int32) from ln (n := 0) (by omega) (by omega) (by omega)), n_rem (by omega) (by omega) (by omega)]
    have := Nat.mod_lt row (show 0 < lLo l by omega)
    by_cases h1 : row % lLo l = 0
    · rw [if_pos (show nI (row % lLo l) = (0 : Int32) from lq (n := 0) h1), decide_eq_true h1]
      rfl
    · rw [if_neg (show ¬ nI (row % lLo l) = (0 : Int32) from ln (n := 0) h1 (by omega) (by omega)), decide_eq_false h1]
      rfl
  · have v1 := hV _ k2
    rw [l4 (Or.inr (Or.inr k1)), s_Rw_valueOf hs.rw hr hk hrow k2, ci_some, gg_Wh_kind _ ho, Option.bind_some, rr_Wh_kind _ ho hi, Option.bind_some, l1, k1, if_neg (show ¬ nI 33 = (28 : Int32) by decide), if_neg (show ¬ nI 33 = (29 : Int32) by decide), if_neg (show ¬ nI 33 = (30 : Int32) by decide), if_neg (show ¬ nI 33 = (31 : Int32) by decide), if_neg (show ¬ nI 33 = (32 : Int32) by decide), if_pos (show nI 33 = (33 : Int32) from rfl), if_neg (by decide), if_neg (by decide), if_neg (by decide), if_pos rfl, gg_St_rows _ hs.ok, Option.bind_some, gg_Wh_column _ ho, Option.bind_some, rr_Wh_column _ ho hi, Option.bind_some, l4 (Or.inr (Or.inr k1)), s_Rw_having hs.rw hr hk k2 (by omega), ci_some]
    rw [show (1 : Int32) <<< (nI row &&& 31) = sbit row from rfl]
    by_cases h1 : havS V (visB d c) (lCo l) (V row (lCo l)) &&& (sbit row ^^^ (-1)) = 0
    · rw [if_pos h1, decide_eq_true h1]
      rfl
    · rw [if_neg h1, decide_eq_false h1]
      rfl
  · obtain ⟨z, hz⟩ := s_Rw_valueOf_any hs.rw hr hk hrow (G.1 (w + 2) i)
    rw [hz, ci_some, gg_Wh_kind _ ho, Option.bind_some, rr_Wh_kind _ ho hi, Option.bind_some, l1, k1, if_neg (show ¬ nI 34 = (28 : Int32) by decide), if_neg (show ¬ nI 34 = (29 : Int32) by decide), if_neg (show ¬ nI 34 = (30 : Int32) by decide), if_neg (show ¬ nI 34 = (31 : Int32) by decide), if_neg (show ¬ nI 34 = (32 : Int32) by decide), if_neg (show ¬ nI 34 = (33 : Int32) by decide), if_neg (by decide), if_neg (by decide), if_neg (by decide), if_neg (by decide), gg_St_points _ hs.ok, Option.bind_some, gg_St_rows _ hs.ok, Option.bind_some, show f_Rw_valueOf [.ref (s + 1), .int (nI row), .int 0] (hp G) = _ from s_Rw_valueOf (k := 0) hs.rw hr hk hrow (by decide), ci_some, s_Pt_anyAt hs.pt hpt hnp, ci_some, if_pos (b2_01 _)]
theorem s_Wh_holds (ho : okWh w) (hw : isWh G w W) (hwk : okW W) (hs : adSt s) (hr : isRw G (s + 1) V m d c) (hk : okR V m d c) (hpt : isPt G (s + 3) np S T B) (hnp : np ≤ 12) {row : Nat} (hrow : row < m) : f_Wh_holds [.ref w, .ref s, .int (nI row)] (hp G) = some (some (.int (b2 (holdsW (limN V (visB d c) np T row) W))), hp G) := by
  have hW := hwk.1
  have hm := hk.1
  rw [e_Wh_holds w _ _ _ (ob_Wh G ho)]
  have step : ∀ (g : Bool) (i f : Nat) (hi : i < W.length), mm_run p_Wh_holds (f + 1) 37 [.ref w, .ref s, .int (nI row), .int (b2 g), .int (nI i)] [] (hp G) = mm_run p_Wh_holds f 5 [.ref w, .ref s, .int (nI row), .int (b2 (g && limN V (visB d c) np T row W[i])), .int (nI (i + 1))] [] (hp G) := by
    intro g i f hi
    rw [e_Wh_holds_37, show nI i + 1 = nI (i + 1) from nI_add i 1]
    cases g
    · rw [if_pos (by decide), Bool.false_and]; rfl
    · rw [if_neg (by decide), s_Wh_isSo ho hs hr hk hpt hnp (by omega) (hw.2 i hi) (hwk.2 _ (List.getElem_mem hi)) hrow, ci_some, gg_Wh_not _ ho, Option.bind_some, rr_Wh_not _ ho (by omega), Option.bind_some, (hw.2 i hi).2.1, Bool.true_and]
      unfold limN
      cases limS V (visB d c) np T row W[i] <;> cases lNo W[i] <;> rfl
  have key : ∀ (j i f : Nat) (g : Bool), i + j = W.length → 0 < i → 2 * j + 1 < f → mm_run p_Wh_holds f 5 [.ref w, .ref s, .int (nI row), .int (b2 g), .int (nI i)] [] (hp G) = some (some (.int (b2 (holdsG (limN V (visB d c) np T row) g (W.drop i)))), hp G) := by
    intro j
    induction j with
    | zero =>
      intro i f g hj _ hf
      obtain ⟨f, rfl⟩ : ∃ k, f = k + 1 := ⟨f - 1, by omega⟩
      rw [e_Wh_holds_5, gg_Wh_limits _ ho, Option.bind_some, hw.1, if_neg (lm (by omega) (by omega)), if_pos (b2_01 _), List.drop_of_length_le (by omega)]
      rfl
    | succ j ih =>
      intro i f g hj h0 hf
      obtain ⟨f, rfl⟩ : ∃ k, f = k + 2 := ⟨f - 2, by omega⟩
      have hi : i < W.length := by omega
      rw [e_Wh_holds_5, gg_Wh_limits _ ho, Option.bind_some, hw.1, if_pos (lp hi (by omega)), gg_Wh_opens _ ho, Option.bind_some, rr_Wh_opens _ ho (by omega), Option.bind_some, (hw.2 i hi).2.2.1, drop_cons hi]
      unfold holdsG
      cases hop : lOp W[i]
      · rw [if_pos (by decide), step g i f hi, ih (i + 1) f _ (by omega) (by omega) (by omega), if_neg (by decide)]
      · rw [if_neg (by decide), if_pos (show (0 : Int32) < nI i from lp (a := 0) h0 (by omega)), if_pos rfl]
        cases g
        · rw [if_pos (by decide), show (1 : Int32) = b2 true from rfl, step true i f hi, ih (i + 1) f _ (by omega) (by omega) (by omega), Bool.true_and, Bool.false_or]
        · rw [if_neg (by decide), Bool.true_or]
          rfl
  obtain ⟨f, hf⟩ : ∃ f, mm_fu = f + 2 := ⟨mm_fu - 2, by have := fu_lt (n := 2) (by decide); omega⟩
  have hfu : 100 < mm_fu := fu_lt (by decide)
  rw [hf, e_Wh_holds_5, gg_Wh_limits _ ho, Option.bind_some, hw.1]
  cases W with
  | nil => rw [if_neg (by decide), if_pos (Or.inr rfl)]; rfl
  | cons l r =>
    have h0 : 0 < (l :: r).length := by simp
    rw [if_pos (show (0 : Int32) < nI (l :: r).length from lp (a := 0) h0 (by omega)), gg_Wh_opens _ ho, Option.bind_some, show mm_lb (hp G) (w + 6) 0 = _ from rr_Wh_opens (i := 0) _ ho (by omega), Option.bind_some]
    have e1 := step true 0 f h0
    rw [Bool.true_and] at e1
    have e2 := key (l :: r).length.pred 1 f (limN V (visB d c) np T row l) (by simp; omega) (by omega) (by simp at hW ⊢; omega)
    have e3 : mm_run p_Wh_holds (f + 1) 37 [.ref w, .ref s, .int (nI row), .int 1, .int 0] [] (hp G) = some (some (.int (b2 (holdsW (limN V (visB d c) np T row) (l :: r)))), hp G) := by
      refine Eq.trans e1 (Eq.trans e2 ?_)
      rfl
    split
    · exact e3
    · rw [if_neg (by decide)]
      exact e3
end WHS
