/-! READER (the class): tokens taken -/
def RD (G : GG) (S : List Nat) (j : Nat) : Prop := isTp G S ∧ isKy G ∧ isCu G S j ∧ G.1 6 3 = 0
def rdE (G G' : GG) : Prop := eqOff (fun n => n = 2 ∨ n = 6) G G' ∧ G'.2.2 6 = G.2.2 6 ∧ G'.1 6 5 = G.1 6 5
theorem rdE.rf {G : GG} : rdE G G := ⟨eqOff.rf, rfl, rfl⟩
theorem rdE.tr {G1 G2 G3 : GG} (h1 : rdE G1 G2) (h2 : rdE G2 G3) : rdE G1 G3 := ⟨h1.1.tr h2.1, h2.2.1.trans h1.2.1, h2.2.2.trans h1.2.2⟩
theorem rdE.two {G G' : GG} (h : eqOff (fun n => n = 2) G G') : rdE G G' := ⟨h.mono (fun n hn => Or.inl hn), (h 6 (by decide)).2.2, by rw [(h 6 (by decide)).1]⟩
theorem rdE.six {G : GG} {k : Nat} {x : Int32} (hk : k ≠ 5) : rdE G (gsi G 6 k x) := ⟨eqOff.gsi _ _ (Or.inr rfl), rfl, by rw [gsi_i, if_pos rfl, upd_ne _ _ (fun e => hk e.symm)]⟩
/-- what a taking leaves: a fault, or a number and the next token -/
def cRes (S : List Nat) (fr : GG → Prop) (x : Option (Option Value × mm_H)) : Nat ⊕ (Nat × Nat) → Prop
  | .inl e => e ≠ 0 ∧ ∃ G', x = some (some (.int 0), hp G') ∧ G'.1 6 3 = nI e ∧ fr G'
  | .inr (v, j) => ∃ G', x = some (some (.int 1), hp G') ∧ RD G' S j ∧ G'.1 6 4 = nI v ∧ fr G'
section RDS
variable {G G' : GG} {S : List Nat} {j : Nat}
theorem RD.off {W : Nat → Prop} (h : RD G S j) (hq : eqOff W G G') (h2 : ∀ n, 2 ≤ n → n ≤ 6 → ¬ W n) : RD G' S j := by
  obtain ⟨⟨t1, t2⟩, k, ⟨c1, c2⟩, c3⟩ := h
  have e2 := hq 2 (h2 2 (by decide) (by decide))
  have e3 := hq 3 (h2 3 (by decide) (by decide))
  have e4 := hq 4 (h2 4 (by decide) (by decide))
  have e5 := hq 5 (h2 5 (by decide) (by decide))
  refine ⟨⟨by rw [e2.1]; exact t1, fun i hi => by rw [e3.1, e4.1]; exact t2 i hi⟩, fun i hi => by rw [e5.2.1]; exact k i hi, ⟨by rw [e2.1]; exact c1, fun hs => by rw [e2.2.1]; exact c2 hs⟩, by rw [(hq 6 (h2 6 (by decide) (by decide))).1]; exact c3⟩
theorem RD.six (h : RD G S j) (k : Nat) (x : Int32) (hk : 3 ≠ k := by decide) : RD (gsi G 6 k x) S j := by
  obtain ⟨⟨t1, t2⟩, q, ⟨c1, c2⟩, c3⟩ := h
  exact ⟨⟨t1, t2⟩, q, ⟨c1, c2⟩, by rw [gsi_i, if_pos rfl, upd_ne _ _ hk]; exact c3⟩
theorem RD.so (h : RD G S j) : G.1 2 6 = nI (tso (tk S j)) := h.2.2.1.1.2.2.1
theorem RD.va (h : RD G S j) : G.1 2 7 = valI (tk S j) := h.2.2.1.1.2.2.2
theorem RD.pl (h : RD G S j) : G.1 2 4 = nI (tpl (tk S j)) := h.2.2.1.1.1
theorem RD.len (h : RD G S j) : S.length ≤ 1000 := h.1.1.2.1
theorem tso_le (S : List Nat) (j : Nat) : tso (tk S j) ≤ 5 := by
  unfold tk tkS
  split
  · show sortT S _ ≤ 5
    unfold sortT
    have := clS_le (S.getD (enS S 5 (bS S j)) 0)
    split
    · split <;> omega
    · split
      · split <;> omega
      · exact this
  · exact Nat.zero_le _
theorem c_isWord (h : RD G S j) {i : Nat} (hi : i < 38) : f_Tp_isWord [.ref 2, .int (nI i)] (hp G) = some (some (.int (b2 (isW S i j))), hp G) := by
  have h5 := tso_le S j
  rw [e_Tp_isWord 2 _ _ (ob_Tp G), gg_Tp_sort, Option.bind_some, h.so]
  unfold isW
  by_cases hs : tso (tk S j) = 1
  · rw [if_pos (show nI (tso (tk S j)) = (1 : Int32) from lq (n := 1) hs), gg_Tp_value, Option.bind_some, h.va, decide_eq_true hs, Bool.true_and]
    unfold valI wxI
    rw [if_pos hs]
    cases hw : wx (tsg (tk S j)) with
    | none =>
      show (if (-1 : Int32) = nI i then _ else _) = _
      rw [if_neg (fun e => n_m1 (show i < 2147483648 by omega) e.symm)]
      rfl
    | some k =>
      have hk := (wx_some hw).1
      show (if nI k = nI i then _ else _) = _
      by_cases e : k = i
      · rw [if_pos (by rw [e]), e, decide_eq_true rfl]; rfl
      · rw [if_neg (ln e (by omega) (by omega)), decide_eq_false (fun q => e (Option.some.inj q))]; rfl
  · rw [if_neg (show ¬ nI (tso (tk S j)) = (1 : Int32) from ln (n := 1) hs (by omega) (by decide)), decide_eq_false hs]
    rfl
theorem c_isBetween (h : RD G S j) {a b : Nat} (ha : a < 38) (hb : b < 38) : f_Tp_isBetween [.ref 2, .int (nI a), .int (nI b)] (hp G) = some (some (.int (b2 (isB S a b j))), hp G) := by
  have h5 := tso_le S j
  rw [e_Tp_isBetween 2 _ _ _ (ob_Tp G), gg_Tp_sort, Option.bind_some, h.so]
  unfold isB
  by_cases hs : tso (tk S j) = 1
  · rw [if_pos (show nI (tso (tk S j)) = (1 : Int32) from lq (n := 1) hs), gg_Tp_value, Option.bind_some, h.va, decide_eq_true hs, Bool.true_and, Option.bind_some]
    unfold valI wxI
    rw [if_pos hs]
    cases hw : wx (tsg (tk S j)) with
    | none =>
      show (if (-1 : Int32) < nI a then _ else _) = _
      rw [if_pos (n_lt1 (show a < 2147483648 by omega))]
      rfl
    | some k =>
      have hk := (wx_some hw).1
      show (if nI k < nI a then _ else if nI b < nI k then _ else _) = some (some (Value.int (b2 (decide (a ≤ k) && decide (k ≤ b)))), hp G)
      by_cases e : k < a
      · rw [if_pos (lp e (by omega)), decide_eq_false (show ¬ a ≤ k by omega)]; rfl
      · rw [if_neg (lm (by omega) (by omega)), decide_eq_true (show a ≤ k by omega)]
        by_cases e2 : b < k
        · rw [if_pos (lp e2 (by omega)), decide_eq_false (show ¬ k ≤ b by omega)]; rfl
        · rw [if_neg (lm (by omega) (by omega)), decide_eq_true (show k ≤ b by omega)]; rfl
  · rw [if_neg (show ¬ nI (tso (tk S j)) = (1 : Int32) from ln (n := 1) hs (by omega) (by decide)), decide_eq_false hs]
    rfl
theorem c_isName (h : RD G S j) : f_Tp_isName [.ref 2] (hp G) = some (some (.int (b2 (isNm S j))), hp G) := by
  have h5 := tso_le S j
  rw [e_Tp_isName 2 _ (ob_Tp G), gg_Tp_sort, Option.bind_some, h.so]
  unfold isNm
  by_cases hs : tso (tk S j) = 1
  · rw [if_pos (show nI (tso (tk S j)) = (1 : Int32) from lq (n := 1) hs), gg_Tp_value, Option.bind_some, h.va, decide_eq_true hs, Bool.true_and]
    unfold valI wxI
    rw [if_pos hs]
    cases hw : wx (tsg (tk S j)) with
    | none => rw [if_pos rfl]; rfl
    | some k =>
      have hk := (wx_some hw).1
      show (if nI k = -1 then _ else _) = _
      rw [if_neg (n_m1 (show k < 2147483648 by omega))]
      rfl
  · rw [if_neg (show ¬ nI (tso (tk S j)) = (1 : Int32) from ln (n := 1) hs (by omega) (by decide)), decide_eq_false hs]
    rfl
theorem c_on (h : RD G S j) : ∃ G', f_Tp_readOn [.ref 2] (hp G) = some (none, hp G') ∧ RD G' S (j + 1) ∧ rdE G G' ∧ G'.1 6 = G.1 6 := by
  obtain ⟨G', r1, r2, r3, r4, r5⟩ := s_readOn h.1 h.2.1 (j := j + 1) h.2.2.1.1.2.1
  exact ⟨G', r1, ⟨r3, r4, r2, by rw [(r5 6 (by decide)).1]; exact h.2.2.2⟩, rdE.two r5, (r5 6 (by decide)).1⟩
theorem c_wrong (h : RD G S j) (k : Nat) : ∃ G', f_Rd_wrong [.ref 6, .int (nI k)] (hp G) = some (some (.int 0), hp G') ∧ G'.1 6 3 = nI (fau S k j) ∧ rdE G G' := by
  rw [e_Rd_wrong 6 _ _ (ob_Rd G), gg_Rd_tape, Option.bind_some, gg_Tp_place, Option.bind_some, h.pl, show (16 : Int32) * nI (tpl (tk S j)) = nI (16 * tpl (tk S j)) from n_mul 16 _, i_add, ww_Rd_fault, Option.bind_some]
  exact ⟨_, rfl, by rw [gsi_i, if_pos rfl, upd_at]; rfl, rdE.six (by decide)⟩
/-- the fault is told -/
theorem c_bad (h : RD G S j) {k : Nat} (hk : 1 ≤ k) {fr : GG → Prop} (hfr : ∀ G', rdE G G' → fr G') : cRes S fr (mm_ci (f_Rd_wrong [.ref 6, .int (nI k)] (hp G)) fun x5 h4 => if x5 = 0 ∨ x5 = 1 then some (some (.int x5), h4) else none) (.inl (fau S k j)) := by
  obtain ⟨G', r1, r2, r3⟩ := c_wrong h k
  rw [r1, ci_some, if_pos (Or.inl rfl)]
  exact ⟨fau_ne S hk j, G', rfl, r2, hfr G' r3⟩
theorem c_takeWord (h : RD G S j) {i : Nat} (hi : i < 38) : (isW S i j = true → ∃ G', f_Rd_takeWord [.ref 6, .int (nI i)] (hp G) = some (some (.int 1), hp G') ∧ RD G' S (j + 1) ∧ rdE G G' ∧ G'.1 6 = G.1 6) ∧ (isW S i j = false → ∃ G', f_Rd_takeWord [.ref 6, .int (nI i)] (hp G) = some (some (.int 0), hp G') ∧ G'.1 6 3 = nI (fau S 1 j) ∧ rdE G G') := by
  rw [e_Rd_takeWord 6 _ _ (ob_Rd G), gg_Rd_tape, Option.bind_some, c_isWord h hi, ci_some]
  cases hw : isW S i j
  · refine ⟨fun q => (by cases q), fun _ => ?_⟩
    obtain ⟨G', r1, r2, r3⟩ := c_wrong h 1
    rw [if_pos (by decide), show f_Rd_wrong [.ref 6, .int 1] (hp G) = _ from r1, ci_some, if_pos (Or.inl rfl)]
    exact ⟨G', rfl, r2, r3⟩
  · refine ⟨fun _ => ?_, fun q => (by cases q)⟩
    obtain ⟨G', r1, r2, r3, r4⟩ := c_on h
    rw [if_neg (by decide), gg_Rd_tape, Option.bind_some, r1, cv_some]
    exact ⟨G', rfl, r2, r3, r4⟩
theorem c_takeMark (h : RD G S j) : (tso (tk S j) = 3 → ∃ G', f_Rd_takeMark [.ref 6] (hp G) = some (some (.int 1), hp G') ∧ RD G' S (j + 1) ∧ rdE G G' ∧ G'.1 6 = G.1 6) ∧ (tso (tk S j) ≠ 3 → ∃ G', f_Rd_takeMark [.ref 6] (hp G) = some (some (.int 0), hp G') ∧ G'.1 6 3 = nI (fau S 1 j) ∧ rdE G G') := by
  have h5 := tso_le S j
  rw [e_Rd_takeMark 6 _ (ob_Rd G), gg_Rd_tape, Option.bind_some, gg_Tp_sort, Option.bind_some, h.so]
  refine ⟨fun hs => ?_, fun hs => ?_⟩
  · obtain ⟨G', r1, r2, r3, r4⟩ := c_on h
    rw [if_pos (show nI (tso (tk S j)) = (3 : Int32) from lq (n := 3) hs), Option.bind_some, r1, cv_some]
    exact ⟨G', rfl, r2, r3, r4⟩
  · obtain ⟨G', r1, r2, r3⟩ := c_wrong h 1
    rw [if_neg (show ¬ nI (tso (tk S j)) = (3 : Int32) from ln (n := 3) hs (by omega) (by decide)), show f_Rd_wrong [.ref 6, .int 1] (hp G) = _ from r1, ci_some, if_pos (Or.inl rfl)]
    exact ⟨G', rfl, r2, r3⟩
theorem c_takeOneOf (h : RD G S j) {a b : Nat} (ha : a < 38) (hb : b < 38) : cRes S (rdE G) (f_Rd_takeOneOf [.ref 6, .int (nI a), .int (nI b)] (hp G)) (pOne S a b j) := by
  rw [e_Rd_takeOneOf 6 _ _ _ (ob_Rd G), gg_Rd_tape, Option.bind_some, c_isBetween h ha hb, ci_some]
  unfold pOne
  cases hw : isB S a b j
  · rw [if_pos (by decide)]
    exact c_bad h (Nat.le_refl 1) (fun _ q => q)
  · obtain ⟨w1, w2, w3, w4, w5⟩ := isB_wN hw
    have hv : G.1 2 7 = nI (wN S j) := by rw [h.va]; unfold valI wxI; rw [if_pos w1, w2]
    obtain ⟨G', r1, r2, r3, r4⟩ := c_on (h.six 4 (nI (wN S j - a)))
    rw [if_neg (by decide), gg_Rd_tape, Option.bind_some, gg_Tp_value, Option.bind_some, hv, n_sub w3, ww_Rd_number, Option.bind_some, gg_Rd_tape, Option.bind_some, r1, cv_some, if_pos rfl]
    exact ⟨G', rfl, r2, by rw [r4, gsi_i, if_pos rfl, upd_at], (rdE.six (by decide)).tr r3⟩
theorem RD.nu (h : RD G S j) (hs : isNu S j = true) : G.1 2 7 = nI (nV S j) ∧ nV S j < 10000 := by
  unfold isNu at hs
  rw [decide_eq_true_eq] at hs
  refine ⟨?_, (tk_num hs).2.2⟩
  rw [h.va]
  unfold valI
  rw [if_neg (by omega), if_pos hs]
  rfl
theorem c_takeNumber (h : RD G S j) {lo hi : Nat} (hlo : lo < 10000) (hhi : hi < 10000) : cRes S (rdE G) (f_Rd_takeNumber [.ref 6, .int (nI lo), .int (nI hi)] (hp G)) (pNum S lo hi j) := by
  have h5 := tso_le S j
  rw [e_Rd_takeNumber 6 _ _ _ (ob_Rd G), gg_Rd_tape, Option.bind_some, gg_Tp_sort, Option.bind_some, h.so]
  unfold pNum
  cases hn : isNu S j
  · have hs : tso (tk S j) ≠ 2 := fun q => by unfold isNu at hn; rw [decide_eq_true q] at hn; cases hn
    rw [if_neg (show ¬ nI (tso (tk S j)) = (2 : Int32) from ln (n := 2) hs (by omega) (by decide))]
    exact c_bad h (Nat.le_refl 1) (fun _ q => q)
  · have hs : tso (tk S j) = 2 := of_decide_eq_true hn
    obtain ⟨v1, v2⟩ := h.nu hn
    rw [if_pos (show nI (tso (tk S j)) = (2 : Int32) from lq (n := 2) hs), Option.bind_some, gg_Tp_value, Option.bind_some, v1, if_pos (show true = true from rfl)]
    by_cases e1 : nV S j < lo
    · rw [if_pos (lp e1 (by omega)), if_pos (Or.inl e1)]
      exact c_bad h (by decide) (fun _ q => q)
    · rw [if_neg (lm (by omega) (by omega)), Option.bind_some, gg_Tp_value, Option.bind_some, v1]
      by_cases e2 : hi < nV S j
      · rw [if_pos (lp e2 (by omega)), if_pos (Or.inr e2)]
        exact c_bad h (by decide) (fun _ q => q)
      · obtain ⟨G', r1, r2, r3, r4⟩ := c_on (h.six 4 (nI (nV S j)))
        rw [if_neg (lm (by omega) (by omega)), Option.bind_some, gg_Tp_value, Option.bind_some, v1, ww_Rd_number, Option.bind_some, gg_Rd_tape, Option.bind_some, r1, cv_some, if_neg (show ¬ (nV S j < lo ∨ hi < nV S j) from fun q => q.elim e1 e2)]
        exact ⟨G', rfl, r2, by rw [r4, gsi_i, if_pos rfl, upd_at], (rdE.six (by decide)).tr r3⟩
end RDS
