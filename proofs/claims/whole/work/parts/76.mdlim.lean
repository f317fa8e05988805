/-! THE REFERENCE: limits -/
/-- a limit as the reference has it, at its place -/
def isML (G : GG) (i0 : Nat) (l : Lim) : Prop := G.1 625 (i0 + 1) = b2 (lNo l) ∧
  ((lKd l = 28 ∧ G.1 625 (i0 + 3) = nI (lCo l) ∧ G.1 625 (i0 + 4) = nI (lLo l) ∧ ((G.1 625 (i0 + 2) = 0 ∧ G.1 625 (i0 + 5) = nI (lHi l)) ∨ (G.1 625 (i0 + 2) = 1 ∧ lLo l = lHi l)))
  ∨ (lKd l = 31 ∧ G.1 625 (i0 + 2) = 2 ∧ G.1 625 (i0 + 3) = nI (lCo l) ∧ G.1 625 (i0 + 4) = nI (lLo l))
  ∨ (lKd l = 32 ∧ G.1 625 (i0 + 2) = 3 ∧ G.1 625 (i0 + 4) = nI (lLo l))
  ∨ (lKd l = 33 ∧ G.1 625 (i0 + 2) = 4 ∧ G.1 625 (i0 + 3) = nI (lCo l))
  ∨ (lKd l = 34 ∧ G.1 625 (i0 + 2) = 5))
def isMW (G : GG) (w : Nat) (W : List Lim) : Prop := G.1 625 (73 * w) = nI W.length ∧ ∀ j (h : j < W.length), G.1 625 (73 * w + 1 + 6 * j) = nI ((grs W)[j]'(by rw [grs_len]; exact h)) ∧ isML G (73 * w + 1 + 6 * j) W[j]
theorem grF_le : ∀ (r : List Lim) (g : Nat) (x : Nat), x ∈ grF g r → x ≤ g + r.length
  | [], _, x, h => by simp [grF] at h
  | l :: r, g, x, h => by
    unfold grF at h
    rw [List.length_cons]
    rcases List.mem_cons.mp h with e | e
    · rw [e]; split <;> omega
    · have := grF_le r _ x e
      split at this <;> omega
theorem grs_le (W : List Lim) {j : Nat} (h : j < (grs W).length) : (grs W)[j] ≤ W.length := by
  cases W with
  | nil => simp [grs] at h
  | cons l r =>
    have : (grs (l :: r))[j] ∈ 0 :: grF 0 r := List.getElem_mem h
    rcases List.mem_cons.mp this with e | e
    · rw [e]; exact Nat.zero_le _
    · have := grF_le r 0 _ e
      rw [List.length_cons]; omega
section MDL
variable {G : GG} {b m : Nat} {V : Nat → Nat → Nat} {d c : Int32} {n : Nat} {S : Nat → Nat} {T : Nat → Int32}
theorem s_within {x y z : Nat} (hx : x < 2147483648) (hy : y < 2147483648) (hz : z < 2147483648) (h : mm_H) : f_Md_within [.int (nI x), .int (nI y), .int (nI z)] h = some (some (.int (b2 (decide (y ≤ x ∧ x ≤ z)))), h) := by
  rw [e_Md_within]
  by_cases h1 : x < y
  · rw [if_pos (lp h1 hy), decide_eq_false (by omega)]; rfl
  · rw [if_neg (lm (by omega) hx)]
    by_cases h2 : z < x
    · rw [if_pos (lp h2 hx), decide_eq_false (by omega)]; rfl
    · rw [if_neg (lm (by omega) hz), decide_eq_true (by omega)]; rfl
theorem s_Md_isLimited (hb : b ≤ 9252) (h0 : G.1 628 b = d) (h1 : G.1 628 (b + 1) = c) (hV : isMV G b V m) (hk : okV3 V m) (hm : m ≤ 30) (hvis : ∀ r, bt (visB d c) r = true → r < m) (hP : isMPt G b n S T) (hn : n ≤ 12) {i0 row : Nat} {l : Lim} (hi0 : i0 + 5 < 292) (hl : isML G i0 l) (hlk : okLim l) (hrow : row < m) : f_Md_isLimited [.ref 618, .int (nI b), .int (nI i0), .int (nI row)] (hp G) = some (some (.int (b2 (limS V (visB d c) n T row l))), hp G) := by
  have ea : ∀ k : Nat, k ≤ 5 → nI i0 + nI k = nI (i0 + k) := fun k _ => i_add i0 k
  obtain ⟨z, hz⟩ := s_Md_valueOf_any (G := G) hb (show row < 30 by omega) (G.1 625 (i0 + 3))
  rw [e_Md_isLimited 618 _ _ _ _ (ob_Md G), gg_Md_wheres, Option.bind_some, show nI i0 + 3 = nI (i0 + 3) from ea 3 (by omega), rr_Md_wheres _ (by omega)]
  obtain ⟨-, hl⟩ := hl
  rcases hl with ⟨k, c3, c4, c2⟩ | ⟨k, c2, c3, c4⟩ | ⟨k, c2, c4⟩ | ⟨k, c2, c3⟩ | ⟨k, c2⟩
  · have hco : lCo l < 3 ∧ lLo l ≤ 999 ∧ lHi l ≤ 999 := by
      rcases hlk with o | o | o | o | o
      · exact o.2
      all_goals (rw [k] at o; first | exact absurd o.1 (by decide) | exact absurd o (by decide))
    have hv9 := hk row (lCo l) hrow hco.1
    have hR : limS V (visB d c) n T row l = decide (lLo l ≤ V row (lCo l) ∧ V row (lCo l) ≤ lHi l) := by unfold limS; rw [if_pos k]
    rw [hR, Option.bind_some, c3, s_Md_valueOf hb hV hk hrow hm hco.1, ci_some, gg_Md_wheres, Option.bind_some, show nI i0 + 4 = nI (i0 + 4) from ea 4 (by omega), rr_Md_wheres _ (by omega), Option.bind_some, c4, Option.bind_some, show nI i0 + 2 = nI (i0 + 2) from ea 2 (by omega), rr_Md_wheres _ (by omega), Option.bind_some]
    rcases c2 with ⟨c2, c5⟩ | ⟨c2, c5⟩
    · rw [c2, if_pos rfl, Option.bind_some, show nI i0 + 5 = nI (i0 + 5) from ea 5 (by omega), rr_Md_wheres _ (by omega), Option.bind_some, c5, s_within (by omega) (by omega) (by omega), ci_some, if_pos (b2_01 _)]
    · rw [c2, if_neg (by decide), if_pos rfl]
      by_cases e : V row (lCo l) = lLo l
      · rw [if_pos (lq e), decide_eq_true (by omega)]; rfl
      · rw [if_neg (ln e (by omega) (by omega)), decide_eq_false (by omega)]; rfl
  · have hco : lCo l < 3 ∧ lLo l < 3 := by
      rcases hlk with o | o | o | o | o
      · rw [k] at o; exact absurd o.1 (by decide)
      · exact o.2
      all_goals (rw [k] at o; first | exact absurd o.1 (by decide) | exact absurd o (by decide))
    have hv9 := hk row (lCo l) hrow hco.1
    have hw9 := hk row (lLo l) hrow hco.2
    have hR : limS V (visB d c) n T row l = decide (V row (lLo l) < V row (lCo l)) := by unfold limS; rw [k, if_neg (by decide), if_pos rfl]
    rw [hR, Option.bind_some, c3, s_Md_valueOf hb hV hk hrow hm hco.1, ci_some, gg_Md_wheres, Option.bind_some, show nI i0 + 4 = nI (i0 + 4) from ea 4 (by omega), rr_Md_wheres _ (by omega), Option.bind_some, c4, Option.bind_some, show nI i0 + 2 = nI (i0 + 2) from ea 2 (by omega), rr_Md_wheres _ (by omega), Option.bind_some, c2, if_neg (by decide), if_neg (by decide), if_pos rfl, s_Md_valueOf hb hV hk hrow hm hco.2, ci_some]
    by_cases e : V row (lLo l) < V row (lCo l)
    · rw [if_pos (lp e (by omega)), decide_eq_true e]; rfl
    · rw [if_neg (lm (by omega) (by omega)), decide_eq_false e]; rfl
  · have hco : 2 ≤ lLo l ∧ lLo l ≤ 9 := by
      rcases hlk with o | o | o | o | o
      · rw [k] at o; exact absurd o.1 (by decide)
      · rw [k] at o; exact absurd o.1 (by decide)
      · exact o.2
      all_goals (rw [k] at o; first | exact absurd o.1 (by decide) | exact absurd o (by decide))
    have hR : limS V (visB d c) n T row l = decide (row % lLo l = 0) := by unfold limS; rw [k, if_neg (by decide), if_neg (by decide), if_pos rfl]
    rw [hR, Option.bind_some, hz, ci_some, gg_Md_wheres, Option.bind_some, show nI i0 + 4 = nI (i0 + 4) from ea 4 (by omega), rr_Md_wheres _ (by omega), Option.bind_some, c4, Option.bind_some, show nI i0 + 2 = nI (i0 + 2) from ea 2 (by omega), rr_Md_wheres _ (by omega), Option.bind_some, c2, if_neg (by decide), if_neg (by decide), if_neg (by decide), if_pos rfl, if_neg (show ¬ nI (lLo l) = (0 : Int32) from ln (n := 0) (by omega) (by omega) (by decide)), n_rem (by omega) (by omega) (by omega)]
    have hlt : row % lLo l < lLo l := Nat.mod_lt _ (by omega)
    by_cases e : row % lLo l = 0
    · rw [if_pos (show nI (row % lLo l) = (0 : Int32) from lq (n := 0) e), decide_eq_true e]; rfl
    · rw [if_neg (show ¬ nI (row % lLo l) = (0 : Int32) from ln (n := 0) e (by omega) (by decide)), decide_eq_false e]; rfl
  · have hco : lCo l < 3 := by
      rcases hlk with o | o | o | o | o
      · rw [k] at o; exact absurd o.1 (by decide)
      · rw [k] at o; exact absurd o.1 (by decide)
      · rw [k] at o; exact absurd o.1 (by decide)
      · exact o.2
      · rw [k] at o; exact absurd o (by decide)
    have hv9 := hk row (lCo l) hrow hco
    have hR : limS V (visB d c) n T row l = !decide (havS V (visB d c) (lCo l) (V row (lCo l)) &&& (sbit row ^^^ (-1)) = 0) := by unfold limS; rw [k, if_neg (by decide), if_neg (by decide), if_neg (by decide), if_pos rfl]
    rw [hR, Option.bind_some, c3, s_Md_valueOf hb hV hk hrow hm hco, ci_some, gg_Md_wheres, Option.bind_some, show nI i0 + 4 = nI (i0 + 4) from ea 4 (by omega), rr_Md_wheres _ (by omega), Option.bind_some, Option.bind_some, show nI i0 + 2 = nI (i0 + 2) from ea 2 (by omega), rr_Md_wheres _ (by omega), Option.bind_some, c2, if_neg (by decide), if_neg (by decide), if_neg (by decide), if_neg (by decide), if_pos rfl, s_Md_visible hb h0 h1, ci_some, gg_Md_wheres, Option.bind_some, rr_Md_wheres _ (by omega), Option.bind_some, c3, s_Md_having hb hV hk hm hvis hco (by omega), ci_some, show (1 : Int32) <<< (nI row &&& 31) = sbit row from rfl]
    by_cases e : havS V (visB d c) (lCo l) (V row (lCo l)) &&& (sbit row ^^^ (-1)) = 0
    · rw [if_pos e, decide_eq_true e]; rfl
    · rw [if_neg e, decide_eq_false e]; rfl
  · have hR : limS V (visB d c) n T row l = anyAt n T (nI (V row 0)) := by unfold limS; rw [k, if_neg (by decide), if_neg (by decide), if_neg (by decide), if_neg (by decide)]
    rw [hR, Option.bind_some, hz, ci_some, gg_Md_wheres, Option.bind_some, show nI i0 + 4 = nI (i0 + 4) from ea 4 (by omega), rr_Md_wheres _ (by omega), Option.bind_some, Option.bind_some, show nI i0 + 2 = nI (i0 + 2) from ea 2 (by omega), rr_Md_wheres _ (by omega), Option.bind_some, c2, if_neg (by decide), if_neg (by decide), if_neg (by decide), if_neg (by decide), if_neg (by decide), show f_Md_valueOf [.ref 618, .int (nI b), .int (nI row), .int 0] (hp G) = _ from s_Md_valueOf (k := 0) hb hV hk hrow hm (by decide), ci_some, s_Md_isPointed hb hP hn, ci_some, if_pos (b2_01 _)]
/-- the inner loop: whether all limits of a group are so -/
def grpOk (s : Lim → Bool) (W : List Lim) (g : Nat) (j : Nat) : Bool := (((grs W).zip W).take j).all (fun q => !decide (q.1 = g) || s q.2)
theorem grpOk_s {s : Lim → Bool} {W : List Lim} {g j : Nat} (h : j < W.length) : grpOk s W g (j + 1) = (grpOk s W g j && (!decide ((grs W)[j]'(by rw [grs_len]; exact h) = g) || s W[j])) := by
  unfold grpOk
  have hl : j < ((grs W).zip W).length := by rw [List.length_zip, grs_len]; omega
  rw [List.take_succ_eq_append_getElem hl, List.all_append, List.getElem_zip]
  simp
theorem s_isSo_in (hb : b ≤ 9252) (h0 : G.1 628 b = d) (h1 : G.1 628 (b + 1) = c) (hV : isMV G b V m) (hk : okV3 V m) (hm : m ≤ 30) (hvis : ∀ r, bt (visB d c) r = true → r < m) (hP : isMPt G b n S T) (hn : n ≤ 12) {w row : Nat} {W : List Lim} (hw : w < 2) (hW : isMW G w W) (hWk : okW W) (hrow : row < m) {g k : Nat} (hg : g ≤ 12) (v6 : Int32) : ∀ (i j f : Nat), j + i = W.length → i < f → mm_run p_Md_isSo f 60 [.ref 618, .int (nI b), .int (nI row), .int (nI (73 * w)), .int (nI W.length), .int v6, .int (nI k), .int (nI g), .int (b2 (grpOk (limN V (visB d c) n T row) W g j)), .int (nI j)] [] (hp G) = mm_run p_Md_isSo (f - i) 60 [.ref 618, .int (nI b), .int (nI row), .int (nI (73 * w)), .int (nI W.length), .int v6, .int (nI k), .int (nI g), .int (b2 (grpOk (limN V (visB d c) n T row) W g W.length)), .int (nI W.length)] [] (hp G) := by
  have h12 := hWk.1
  intro i
  induction i with
  | zero => intro j f hj _; rw [show j = W.length by omega]; rfl
  | succ i ih =>
    intro j f hj hf
    obtain ⟨f, rfl⟩ : ∃ g, f = g + 1 := ⟨f - 1, by omega⟩
    have hjl : j < W.length := by omega
    obtain ⟨w1, w2⟩ := hW.2 j hjl
    have hgle := grs_le W (j := j) (by rw [grs_len]; exact hjl)
    have hst := grpOk_s (s := limN V (visB d c) n T row) (g := g) hjl
    have goal : ∀ x, mm_run p_Md_isSo f 60 [.ref 618, .int (nI b), .int (nI row), .int (nI (73 * w)), .int (nI W.length), .int v6, .int (nI k), .int (nI g), .int (b2 (grpOk (limN V (visB d c) n T row) W g (j + 1))), .int (nI (j + 1))] [] (hp G) = x → mm_run p_Md_isSo f 60 [.ref 618, .int (nI b), .int (nI row), .int (nI (73 * w)), .int (nI W.length), .int v6, .int (nI k), .int (nI g), .int (b2 (grpOk (limN V (visB d c) n T row) W g (j + 1))), .int (nI (j + 1))] [] (hp G) = x := fun x h => h
    rw [show f + 1 - (i + 1) = f - i by omega, ← ih (j + 1) f (by omega) (by omega), e_Md_isSo_60, if_pos (lp hjl (by omega)), show nI j + 1 = nI (j + 1) from nI_add j 1, hst]
    cases hgo : grpOk (limN V (visB d c) n T row) W g j
    · rw [if_pos (by decide), Bool.false_and]
      rfl
    · have ei : (nI (73 * w) + 1) + 6 * nI j = nI (73 * w + 1 + 6 * j) := by rw [show nI (73 * w) + 1 = nI (73 * w + 1) from nI_add _ 1, show (6 : Int32) * nI j = nI (6 * j) from n_mul 6 j, i_add]
      rw [if_neg (by decide), gg_Md_wheres, Option.bind_some, ei, rr_Md_wheres _ (by omega), Option.bind_some, w1, Bool.true_and]
      by_cases e : (grs W)[j]'(by rw [grs_len]; exact hjl) = g
      · have hbn := w2.1
        rw [if_pos (lq e), s_Md_isLimited hb h0 h1 hV hk hm hvis hP hn (by omega) w2 (hWk.2 _ (List.getElem_mem hjl)) hrow, ci_some, gg_Md_wheres, Option.bind_some, show nI (73 * w + 1 + 6 * j) + 1 = nI (73 * w + 1 + 6 * j + 1) from nI_add _ 1, rr_Md_wheres _ (by omega), Option.bind_some, hbn, decide_eq_true e]
        unfold limN
        cases lNo W[j]
        · rw [if_neg (by decide)]
          cases limS V (visB d c) n T row W[j]
          · rw [if_pos (by decide)]; rfl
          · rw [if_neg (by decide)]; rfl
        · rw [if_pos (by decide)]
          cases limS V (visB d c) n T row W[j]
          · rw [if_neg (by decide)]; rfl
          · rw [if_pos (by decide)]; rfl
      · rw [if_neg (ln e (by omega) (by omega)), decide_eq_false e]
        rfl
theorem s_Md_isSo (hb : b ≤ 9252) (h0 : G.1 628 b = d) (h1 : G.1 628 (b + 1) = c) (hV : isMV G b V m) (hk : okV3 V m) (hm : m ≤ 30) (hvis : ∀ r, bt (visB d c) r = true → r < m) (hP : isMPt G b n S T) (hn : n ≤ 12) {w row : Nat} {W : List Lim} (hw : w < 2) (hW : isMW G w W) (hWk : okW W) (hrow : row < m) : f_Md_isSo [.ref 618, .int (nI b), .int (nI w), .int (nI row)] (hp G) = some (some (.int (b2 (holdsW (limN V (visB d c) n T row) W))), hp G) := by
  have h12 := hWk.1
  have hfu : 300 < mm_fu := fu_lt (by omega)
  rw [e_Md_isSo 618 _ _ _ _ (ob_Md G), gg_Md_wheres, Option.bind_some, show (73 : Int32) * nI w = nI (73 * w) from n_mul 73 w, rr_Md_wheres _ (by omega), Option.bind_some, hW.1]
  have out : ∀ (i k f : Nat) (a : Bool), k + i = W.length → 14 * i < f → mm_run p_Md_isSo f 30 [.ref 618, .int (nI b), .int (nI row), .int (nI (73 * w)), .int (nI W.length), .int (b2 a), .int (nI k)] [] (hp G) = some (some (.int (b2 (a || ((grs W).drop k).any (fun g => grpOk (limN V (visB d c) n T row) W g W.length)))), hp G) := by
    intro i
    induction i with
    | zero =>
      intro k f a hk2 hf
      obtain ⟨f, rfl⟩ : ∃ g, f = g + 1 := ⟨f - 1, by omega⟩
      rw [e_Md_isSo_30, if_neg (lm (by omega) (by omega)), if_pos (b2_01 a), List.drop_of_length_le (by rw [grs_len]; omega)]
      simp
    | succ i ih =>
      intro k f a hk2 hf
      obtain ⟨f, rfl⟩ : ∃ g, f = g + 1 := ⟨f - 1, by omega⟩
      have hkl : k < W.length := by omega
      have hkg : k < (grs W).length := by rw [grs_len]; exact hkl
      have hgle := grs_le W hkg
      have ei : (nI (73 * w) + 1) + 6 * nI k = nI (73 * w + 1 + 6 * k) := by rw [show nI (73 * w) + 1 = nI (73 * w + 1) from nI_add _ 1, show (6 : Int32) * nI k = nI (6 * k) from n_mul 6 k, i_add]
      rw [e_Md_isSo_30, if_pos (lp hkl (by omega)), gg_Md_wheres, Option.bind_some, ei, rr_Md_wheres _ (by omega), Option.bind_some, (hW.2 k hkl).1]
      have hin := s_isSo_in hb h0 h1 hV hk hm hvis hP hn hw hW hWk hrow (g := (grs W)[k]) (k := k) (by omega) (b2 a) W.length 0 f (by omega) (by omega)
      rw [show mm_run p_Md_isSo f 60 [.ref 618, .int (nI b), .int (nI row), .int (nI (73 * w)), .int (nI W.length), .int (b2 a), .int (nI k), .int (nI (grs W)[k]), .int 1, .int 0] [] (hp G) = _ from hin]
      obtain ⟨f2, hf2⟩ : ∃ g, f - W.length = g + 1 := ⟨f - W.length - 1, by omega⟩
      rw [hf2, e_Md_isSo_60, if_neg (lm (Nat.le_refl _) (by omega)), show nI k + 1 = nI (k + 1) from nI_add k 1, drop_cons hkg, List.any_cons]
      cases a
      · rw [if_pos (by decide), Bool.false_or]
        cases hgo : grpOk (limN V (visB d c) n T row) W (grs W)[k] W.length
        · rw [if_pos (by decide), Bool.false_or]
          have := ih (k + 1) f2 false (by omega) (by omega)
          rw [Bool.false_or] at this
          exact this
        · rw [if_neg (by decide), Bool.true_or]
          have := ih (k + 1) f2 true (by omega) (by omega)
          rw [Bool.true_or] at this
          exact this
      · rw [if_neg (by decide), Bool.true_or]
        have := ih (k + 1) f2 true (by omega) (by omega)
        rw [Bool.true_or] at this
        exact this
  have hfin : ((W.length == 0) || ((grs W).drop 0).any (fun g => grpOk (limN V (visB d c) n T row) W g W.length)) = holdsW (limN V (visB d c) n T row) W := by
    rw [Bool.eq_iff_iff, holdsW_iff]
    have hz : ((grs W).zip W).length = W.length := by rw [List.length_zip, grs_len, Nat.min_self]
    simp only [Bool.or_eq_true, beq_iff_eq, List.length_eq_zero_iff, List.drop_zero, List.any_eq_true]
    refine or_congr Iff.rfl ⟨?_, ?_⟩
    · rintro ⟨g, hg, hok⟩
      obtain ⟨j, hj, ej⟩ := List.mem_iff_getElem.mp hg
      have hjW : j < W.length := by rw [← grs_len]; exact hj
      refine ⟨((grs W)[j], W[j]), ?_, fun q hq e => ?_⟩
      · have := List.getElem_mem (l := (grs W).zip W) (n := j) (by omega)
        rw [List.getElem_zip] at this
        exact this
      · unfold grpOk at hok
        rw [List.take_of_length_le (by omega), List.all_eq_true] at hok
        have := hok q hq
        dsimp only at e
        rw [ej] at e
        simpa [e] using this
    · rintro ⟨q0, hq0, hok⟩
      refine ⟨q0.1, (List.of_mem_zip hq0).1, ?_⟩
      unfold grpOk
      rw [List.take_of_length_le (by omega), List.all_eq_true]
      intro q hq
      by_cases e : q.1 = q0.1
      · rw [hok q hq e]; simp
      · simp [e]
  rw [← hfin]
  by_cases e0 : W.length = 0
  · rw [if_pos (show nI W.length = (0 : Int32) from lq (n := 0) e0)]
    have := out W.length 0 mm_fu true (by omega) (by omega)
    rw [show (W.length == 0) = true by simpa using e0]
    exact this
  · rw [if_neg (show ¬ nI W.length = (0 : Int32) from ln (n := 0) e0 (by omega) (by decide))]
    have := out W.length 0 mm_fu false (by omega) (by omega)
    rw [show (W.length == 0) = false by simpa using e0]
    exact this
end MDL
