/-! THE REFERENCE: tokens taken -/
def mwn : List Nat := [0, 1, 2, 26, 3, 4, 27, 5, 6, 7, 8, 9, 10, 11, 12, 13, 14, 15, 16, 17, 18, 19, 20, 21, 22, 23, 24, 25, 28, 29, 30, 31, 32, 33, 34, 35, 36, 37]
def mw (i : Nat) : Nat := mwn.getD i 0
theorem mw_ok : ∀ i, i < 38 → mw i < 38 ∧ ∀ k, k < 38 → mw k = mw i → k = i := by decide +kernel
theorem mw_on : ∀ w, w < 38 → ∃ i, i < 38 ∧ mw i = w := by decide +kernel
def isWo (G : GG) : Prop := ∀ i, i < 38 → G.2.1 623 (mw i) = lL (pkL 37 (resC.getD i []))
/-- the word here, by its number in the reference -/
def wrd (S : List Nat) (e j : Nat) : Option Nat := if e = 0 ∧ tso (tk S j) = 1 then (wx (tsg (tk S j))).map mw else none
def RMd (G : GG) (S : List Nat) (e j : Nat) : Prop := (∃ n, isMK G S n ∧ j ≤ n) ∧ isWo G ∧ G.1 618 8 = nI e ∧ G.1 618 7 = nI j ∧ e < 100000
def mrE (G G' : GG) : Prop := (∀ n, n ≠ 618 → G'.1 n = G.1 n) ∧ G'.2 = G.2 ∧ ∀ k, k ≠ 7 → k ≠ 8 → G'.1 618 k = G.1 618 k
theorem mrE.rf {G : GG} : mrE G G := ⟨fun _ _ => rfl, rfl, fun _ _ _ => rfl⟩
theorem mrE.tr {G1 G2 G3 : GG} (h1 : mrE G1 G2) (h2 : mrE G2 G3) : mrE G1 G3 := ⟨fun n hn => (h2.1 n hn).trans (h1.1 n hn), h2.2.1.trans h1.2.1, fun k a b => (h2.2.2 k a b).trans (h1.2.2 k a b)⟩
theorem mrE.gsi {G : GG} {k : Nat} {x : Int32} (h : k = 7 ∨ k = 8) : mrE G (gsi G 618 k x) := ⟨fun n hn => f6o _ _ hn, rfl, fun j a b => f6n _ _ (by omega)⟩
def RX {α : Type} (G : GG) (S : List Nat) : Nat ⊕ (α × Nat) → Prop
  | .inl e => e ≠ 0 ∧ ∃ j, RMd G S e j
  | .inr (_, j) => RMd G S 0 j
def fltx {α : Type} : Nat ⊕ (α × Nat) → Nat
  | .inl e => e
  | .inr _ => 0
theorem pk37 {w : List Nat} (hl : w.length ≤ 8) (hc : ∀ c ∈ w, 97 ≤ c ∧ c ≤ 122) : pkL 37 w < 9223372036854775808 := by
  have h1 := pkL_lt (b := 37) (by decide) w hc
  have h2 : 37 ^ w.length ≤ 37 ^ 8 := Nat.pow_le_pow_right (by decide) hl
  have h3 : 37 ^ 8 < 9223372036854775808 := by decide
  omega
section MRD
variable {G G' : GG} {S : List Nat} {e j : Nat}
theorem RMd.off (h : RMd G S e j) (e0 : G'.1 620 = G.1 620) (e1 : G'.1 621 = G.1 621) (e2 : G'.2.1 622 = G.2.1 622) (e3 : G'.2.1 623 = G.2.1 623) (e8 : G'.1 618 8 = G.1 618 8) (e7 : G'.1 618 7 = G.1 618 7) : RMd G' S e j := by
  obtain ⟨⟨n, ⟨k1, k2⟩, hj⟩, w, f, a, l⟩ := h
  exact ⟨⟨n, ⟨k1, fun m hm => by rw [e0, e1, e2]; exact k2 m hm⟩, hj⟩, fun i hi => by rw [e3]; exact w i hi, by rw [e8]; exact f, by rw [e7]; exact a, l⟩
theorem RMd.lt (h : RMd G S e j) : j < 1002 := by obtain ⟨⟨n, ⟨k1, -⟩, hj⟩, -⟩ := h; omega
theorem RMd.fa (h : RMd G S e j) : G.1 618 8 = nI e := h.2.2.1
theorem RMd.at (h : RMd G S e j) : G.1 618 7 = nI j := h.2.2.2.1
theorem RMd.so (h : RMd G S e j) : G.1 620 j = nI (tso (tk S j)) := by obtain ⟨⟨n, ⟨-, k2⟩, hj⟩, -⟩ := h; exact (k2 j hj).1
theorem RMd.pl (h : RMd G S e j) : G.1 621 j = nI (tpl (tk S j)) := by obtain ⟨⟨n, ⟨-, k2⟩, hj⟩, -⟩ := h; exact (k2 j hj).2.1
theorem RMd.va (h : RMd G S e j) : isTv (G.2.1 622 j) (tk S j) := by obtain ⟨⟨n, ⟨-, k2⟩, hj⟩, -⟩ := h; exact (k2 j hj).2.2
theorem RMd.next (h : RMd G S 0 j) (hs : tso (tk S j) ≠ 0) : RMd (gsi G 618 7 (nI (j + 1))) S 0 (j + 1) := by
  obtain ⟨⟨n, ⟨⟨k0, k1, k3⟩, k2⟩, hj⟩, w, f, a, l⟩ := h
  have : j ≠ n := fun q => hs (by rw [q]; exact k1)
  refine ⟨⟨n, ⟨⟨k0, k1, k3⟩, fun m hm => by rw [f6o _ _ (by decide), f6o _ _ (by decide)]; exact k2 m hm⟩, by omega⟩, w, by rw [f6n _ _ (by decide)]; exact f, f6 _ _ _, l⟩
theorem RMd.same (h : RMd G S e j) : RMd (gsi G 618 7 (nI j)) S e j := h.off (f6o _ _ (by decide)) (f6o _ _ (by decide)) rfl rfl (f6n _ _ (by decide)) (by rw [f6]; exact h.at.symm)
theorem RMd.ne (h : RMd G S e j) : (G.1 618 8 = 0) = (e = 0) := by
  rw [h.fa]
  exact propext ⟨fun q => Classical.byContradiction fun q' => ln (n := 0) q' (by have := h.2.2.2.2; omega) (by decide) q, fun q => by rw [q]; rfl⟩
theorem RMd.pos (h : RMd G S e j) : ((0 : Int32) < G.1 618 8) = (e ≠ 0) := by
  rw [h.fa]
  have := h.2.2.2.2
  exact propext ⟨fun q q' => lm (a := 0) (n := e) (by omega) (by omega) q, fun q => lp (a := 0) (n := e) (by omega) (by omega)⟩
theorem m_isWord (h : RMd G S e j) {w : Nat} (hw : w < 38) : f_Md_isWord [.ref 618, .int (nI w)] (hp G) = some (some (.int (b2 (decide (wrd S e j = some w)))), hp G) := by
  have h5 := tso_le S j
  rw [e_Md_isWord 618 _ _ (ob_Md G), gg_Md_fault, Option.bind_some]
  unfold wrd
  by_cases he : e = 0
  · rw [if_pos (h.ne.mpr he), gg_Md_sort, Option.bind_some, gg_Md_at, Option.bind_some, h.at, rr_Md_sort _ h.lt, Option.bind_some, h.so]
    by_cases hs : tso (tk S j) = 1
    · obtain ⟨i, hi, rfl⟩ := mw_on w hw
      obtain ⟨t1, t2, -⟩ := tk_word hs
      obtain ⟨r1, r2, r3⟩ := resC_ok i hi
      rw [if_pos (show nI (tso (tk S j)) = (1 : Int32) from lq (n := 1) hs), gg_Md_value, Option.bind_some, Option.bind_some, rr_Md_value _ h.lt, Option.bind_some, gg_Md_words, Option.bind_some, rr_Md_words _ hw, Option.bind_some, h.va.1 hs, h.2.1 i hi, if_pos (show e = 0 ∧ tso (tk S j) = 1 from ⟨he, hs⟩)]
      by_cases hx : wx (tsg (tk S j)) = some i
      · rw [hx, if_pos ((cmp_0 _ _).mpr (by rw [(wx_some hx).2])), decide_eq_true (show Option.map mw (some i) = some (mw i) from rfl)]
        rfl
      · rw [if_neg (fun q => hx (wx_of hi (pkL_inj (by decide) _ _ _ rfl t2 r2 (lL_inj (pk37 t1 t2) (pk37 r1 r2) ((cmp_0 _ _).mp q))).symm)), decide_eq_false (fun q => ?_)]
        · rfl
        · cases hk : wx (tsg (tk S j)) with
          | none => rw [hk] at q; cases q
          | some k =>
            rw [hk] at q
            have : mw k = mw i := Option.some.inj q
            exact hx (by rw [hk, (mw_ok i hi).2 k (wx_some hk).1 this])
    · rw [if_neg (show ¬ nI (tso (tk S j)) = (1 : Int32) from ln (n := 1) hs (by omega) (by decide)), if_neg (fun q => hs q.2)]
      rfl
  · rw [if_neg (fun q => he (h.ne.mp q)), if_neg (fun q => he q.1)]
    rfl
theorem isW_wr {i : Nat} (hi : i < 38) : (wrd S 0 j = some (mw i)) = (isW S i j = true) := by
  unfold wrd isW
  by_cases hs : tso (tk S j) = 1
  · rw [if_pos ⟨rfl, hs⟩, decide_eq_true hs, Bool.true_and]
    cases hk : wx (tsg (tk S j)) with
    | none => exact propext ⟨fun q => (by cases q), fun q => (by simp at q)⟩
    | some k =>
      refine propext ⟨fun q => ?_, fun q => ?_⟩
      · rw [(mw_ok i hi).2 k (wx_some hk).1 (Option.some.inj q)]
        exact decide_eq_true rfl
      · have : k = i := Option.some.inj (of_decide_eq_true q)
        rw [this]; rfl
  · rw [if_neg (fun q => hs q.2), decide_eq_false hs, Bool.false_and]
    exact propext ⟨fun q => (by cases q), fun q => (by cases q)⟩
/-- where the word stands among some -/
def wh (o : Option Nat) (a n : Nat) : Int32 := match o with
  | some m => if a ≤ m ∧ m < a + n then nI (m - a) else -1
  | none => -1
theorem m_wordHere (h : RMd G S e j) {a n : Nat} (han : a + n ≤ 38) : f_Md_wordHere [.ref 618, .int (nI a), .int (nI n)] (hp G) = some (some (.int (wh (wrd S e j) a n)), hp G) := by
  rw [e_Md_wordHere 618 _ _ _ (ob_Md G)]
  have key : ∀ (m k f : Nat), k + m = n → m < f → mm_run p_Md_wordHere f 5 [.ref 618, .int (nI a), .int (nI n), .int (wh (wrd S e j) a k), .int (nI k)] [] (hp G) = some (some (.int (wh (wrd S e j) a n)), hp G) := by
    intro m
    induction m with
    | zero =>
      intro k f hk hf
      obtain ⟨f, rfl⟩ : ∃ g, f = g + 1 := ⟨f - 1, by omega⟩
      rw [e_Md_wordHere_5, if_neg (lm (by omega) (by omega)), show k = n by omega]
    | succ m ih =>
      intro k f hk hf
      obtain ⟨f, rfl⟩ : ∃ g, f = g + 1 := ⟨f - 1, by omega⟩
      rw [e_Md_wordHere_5, if_pos (lp (show k < n by omega) (by omega)), i_add, m_isWord h (show a + k < 38 by omega), ci_some, show nI k + 1 = nI (k + 1) from nI_add k 1]
      by_cases hq : wrd S e j = some (a + k)
      · rw [decide_eq_true hq, if_neg (show ¬ b2 true = 0 by decide)]
        have e1 : nI k = wh (wrd S e j) a (k + 1) := by
          rw [hq]
          unfold wh
          show nI k = if a ≤ a + k ∧ a + k < a + (k + 1) then nI (a + k - a) else -1
          rw [if_pos ⟨by omega, by omega⟩, show a + k - a = k by omega]
        have := ih (k + 1) f (by omega) (by omega)
        rw [← e1] at this
        exact this
      · rw [decide_eq_false hq, if_pos (show b2 false = 0 from rfl)]
        have e1 : wh (wrd S e j) a k = wh (wrd S e j) a (k + 1) := by
          cases hw : wrd S e j with
          | none => rfl
          | some m =>
            rw [hw] at hq
            have hne : m ≠ a + k := fun q => hq (by rw [q])
            unfold wh
            show (if a ≤ m ∧ m < a + k then nI (m - a) else -1) = if a ≤ m ∧ m < a + (k + 1) then nI (m - a) else -1
            by_cases hc : a ≤ m ∧ m < a + k
            · rw [if_pos hc, if_pos ⟨hc.1, by omega⟩]
            · rw [if_neg hc, if_neg (fun q => hc ⟨q.1, by omega⟩)]
        have := ih (k + 1) f (by omega) (by omega)
        rw [← e1] at this
        exact this
  have e0 : wh (wrd S e j) a 0 = -1 := by
    cases hw : wrd S e j with
    | none => rfl
    | some m =>
      unfold wh
      show (if a ≤ m ∧ m < a + 0 then nI (m - a) else -1) = -1
      rw [if_neg (by omega)]
  have := key n 0 mm_fu (by omega) (fu_lt (by omega))
  rw [e0] at this
  exact this
/-- words that follow each other -/
def fol (a b f n : Nat) : Prop := ∀ i, i < 38 → (a ≤ i ∧ i ≤ b ↔ f ≤ mw i ∧ mw i < f + n) ∧ (a ≤ i ∧ i ≤ b → mw i - f = i - a)
theorem fol_col : fol 25 27 23 3 := by unfold fol; decide +kernel
theorem fol_kind : fol 18 21 16 4 := by unfold fol; decide +kernel
theorem fol_firm : fol 22 24 20 3 := by unfold fol; decide +kernel
theorem fol_ins : fol 9 17 7 9 := by unfold fol; decide +kernel
theorem wh_name : (wh (wrd S 0 j) 0 38 < 0) = ¬ (tso (tk S j) = 1 ∧ (wx (tsg (tk S j))).isSome = true) := by
  unfold wrd
  by_cases hs : tso (tk S j) = 1
  · rw [if_pos ⟨rfl, hs⟩]
    cases hk : wx (tsg (tk S j)) with
    | none => exact propext ⟨fun _ q => absurd q.2 (by decide), fun _ => show (-1 : Int32) < 0 by decide⟩
    | some k =>
      have := (mw_ok k (wx_some hk).1).1
      refine propext ⟨fun q => absurd q ?_, fun q => absurd ⟨hs, rfl⟩ q⟩
      show ¬ (if 0 ≤ mw k ∧ mw k < 0 + 38 then nI (mw k - 0) else -1) < 0
      rw [if_pos ⟨by omega, by omega⟩]
      exact lm (n := 0) (by omega) (by omega)
  · rw [if_neg (fun q => hs q.2)]
    exact propext ⟨fun _ q => hs q.1, fun _ => show (-1 : Int32) < 0 by decide⟩
theorem wh_fol {a b f n : Nat} (hf : fol a b f n) : wh (wrd S 0 j) f n = if isB S a b j = true then nI (wN S j - a) else -1 := by
  unfold wrd
  by_cases hs : tso (tk S j) = 1
  · rw [if_pos ⟨rfl, hs⟩]
    cases hk : wx (tsg (tk S j)) with
    | none =>
      rw [show isB S a b j = false from by unfold isB; rw [hk, Bool.and_false]]
      rfl
    | some k =>
      obtain ⟨f1, f2⟩ := hf k (wx_some hk).1
      rw [isB_of hs hk, show wN S j = k from by unfold wN; rw [hk]; rfl]
      show (if f ≤ mw k ∧ mw k < f + n then nI (mw k - f) else -1) = _
      by_cases hc : a ≤ k ∧ k ≤ b
      · rw [if_pos (f1.1 hc), f2 hc, decide_eq_true hc.1, decide_eq_true hc.2]
        rfl
      · rw [if_neg (fun q => hc (f1.2 q)), if_neg]
        intro q
        rw [Bool.and_eq_true, decide_eq_true_eq, decide_eq_true_eq] at q
        exact hc q
  · rw [if_neg (fun q => hs q.2), show isB S a b j = false from by unfold isB; rw [decide_eq_false hs, Bool.false_and]]
    rfl
end MRD
