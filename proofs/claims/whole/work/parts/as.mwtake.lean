/-! THE REFERENCE: what is taken -/
section MTK
variable {G G' : GG} {S : List Nat} {e j : Nat} {α : Type} {x : Nat ⊕ (α × Nat)}
theorem fau_lt (S : List Nat) (hS : S.length ≤ 1000) {k : Nat} (hk : k ≤ 5) (j : Nat) : fau S k j < 100000 := by
  have := tpl_le S j
  unfold fau
  omega
theorem m_wrong (h : RMd G S e j) (hS : S.length ≤ 1000) {k : Nat} (hk : k ≤ 5) : ∃ G', f_Md_wrong [.ref 618, .int (nI k)] (hp G) = some (none, hp G') ∧ RMd G' S (if e = 0 then fau S k j else e) j ∧ mrE G G' := by
  rw [e_Md_wrong 618 _ _ (ob_Md G), gg_Md_fault, Option.bind_some]
  by_cases he : e = 0
  · rw [if_pos (h.ne.mpr he), gg_Md_place, Option.bind_some, gg_Md_at, Option.bind_some, h.at, rr_Md_place _ h.lt, Option.bind_some, h.pl, show (16 : Int32) * nI (tpl (tk S j)) = nI (16 * tpl (tk S j)) from n_mul 16 _, i_add, ww_Md_fault, Option.bind_some, if_pos he]
    obtain ⟨⟨n, ⟨k1, k2⟩, hj⟩, w, f, a, l⟩ := h
    refine ⟨_, rfl, ⟨⟨n, ⟨k1, fun m hm => by rw [f6o _ _ (by decide), f6o _ _ (by decide)]; exact k2 m hm⟩, hj⟩, w, f6 _ _ _, by rw [f6n _ _ (by decide)]; exact a, fau_lt S hS hk j⟩, mrE.gsi (Or.inr rfl)⟩
  · rw [if_neg (fun q => he (h.ne.mp q)), if_neg he]
    exact ⟨G, rfl, h, mrE.rf⟩
theorem RX.fa (h : RX G S x) : G.1 618 8 = nI (fltx x) := by
  cases x with
  | inl e => exact h.2.choose_spec.fa
  | inr q => exact RMd.fa (j := q.2) h
theorem RX.rm (h : RX G S x) : ∃ j, RMd G S (fltx x) j := by
  cases x with
  | inl e => exact h.2
  | inr q => exact ⟨q.2, h⟩
theorem RX.ne (h : RX G S x) : (G.1 618 8 = 0) = (fltx x = 0) := by obtain ⟨j, hj⟩ := h.rm; exact hj.ne
theorem RX.pos (h : RX G S x) : ((0 : Int32) < G.1 618 8) = (fltx x ≠ 0) := by obtain ⟨j, hj⟩ := h.rm; exact hj.pos
theorem RX.off (h : RX G S x) (e0 : G'.1 620 = G.1 620) (e1 : G'.1 621 = G.1 621) (e2 : G'.2.1 622 = G.2.1 622) (e3 : G'.2.1 623 = G.2.1 623) (e8 : G'.1 618 8 = G.1 618 8) (e7 : G'.1 618 7 = G.1 618 7) : RX G' S x := by
  cases x with
  | inl e => exact ⟨h.1, h.2.choose, h.2.choose_spec.off e0 e1 e2 e3 e8 e7⟩
  | inr q => exact RMd.off (j := q.2) h e0 e1 e2 e3 e8 e7
/-- a cell of an array is written -/
theorem RX.arr (h : RX G S x) {n k : Nat} {v : Int32} (hn : 624 ≤ n) : RX (gsi G n k v) S x := h.off (f6o _ _ (by omega)) (f6o _ _ (by omega)) rfl rfl (by rw [f6o _ _ (by omega)]) (by rw [f6o _ _ (by omega)])
theorem RMd.arr (h : RMd G S e j) {n k : Nat} {v : Int32} (hn : 624 ≤ n) : RMd (gsi G n k v) S e j := h.off (f6o _ _ (by omega)) (f6o _ _ (by omega)) rfl rfl (by rw [f6o _ _ (by omega)]) (by rw [f6o _ _ (by omega)])
theorem m_isSign (h : RMd G S e j) : f_Md_isSign [.ref 618, .int 59] (hp G) = some (some (.int (b2 (decide (e = 0 ∧ tso (tk S j) = 3)))), hp G) := by
  have h5 := tso_le S j
  rw [e_Md_isSign 618 _ _ (ob_Md G), gg_Md_fault, Option.bind_some]
  by_cases he : e = 0
  · rw [if_pos (h.ne.mpr he), gg_Md_sort, Option.bind_some, gg_Md_at, Option.bind_some, h.at, rr_Md_sort _ h.lt, Option.bind_some, h.so]
    by_cases hs : tso (tk S j) = 3
    · rw [if_pos (show nI (tso (tk S j)) = (3 : Int32) from lq (n := 3) hs), gg_Md_value, Option.bind_some, Option.bind_some, rr_Md_value _ h.lt, Option.bind_some, h.va.2.2 hs, if_pos ((cmp_0 _ _).mpr (show lL 59 = (59 : Int32).toInt64 by decide)), decide_eq_true (show e = 0 ∧ tso (tk S j) = 3 from ⟨he, hs⟩)]
      rfl
    · rw [if_neg (show ¬ nI (tso (tk S j)) = (3 : Int32) from ln (n := 3) hs (by omega) (by decide)), decide_eq_false (fun q => hs q.2)]
      rfl
  · rw [if_neg (fun q => he (h.ne.mp q)), decide_eq_false (fun q => he q.1)]
    rfl
theorem m_mk (h : RX G S x) (hS : S.length ≤ 1000) : ∃ G', f_Md_takeSign [.ref 618, .int 59] (hp G) = some (none, hp G') ∧ RX G' S (thn x fun _ j => pMk S j) ∧ mrE G G' := by
  obtain ⟨j, hj⟩ := h.rm
  rw [e_Md_takeSign 618 _ _ (ob_Md G), m_isSign hj, ci_some]
  cases x with
  | inl e =>
    obtain ⟨G', r1, r2, r3⟩ := m_wrong hj hS (k := 1) (by decide)
    rw [if_pos (show b2 (decide (fltx (Sum.inl e : Nat ⊕ (α × Nat)) = 0 ∧ tso (tk S j) = 3)) = 0 from by rw [decide_eq_false (fun q => h.1 q.1)]; rfl), show f_Md_wrong [.ref 618, .int 1] (hp G) = _ from r1, cv_some]
    rw [if_neg (show ¬ fltx (Sum.inl e : Nat ⊕ (α × Nat)) = 0 from h.1)] at r2
    exact ⟨G', rfl, ⟨h.1, j, r2⟩, r3⟩
  | inr q =>
    obtain ⟨a, j'⟩ := q
    have hj' : RMd G S 0 j' := h
    have ej : j = j' := n_inj (by have := hj.lt; omega) (by have := hj'.lt; omega) (by rw [← hj.at, ← hj'.at])
    subst ej
    unfold pMk
    rw [thn_r]
    by_cases hs : tso (tk S j) = 3
    · rw [show b2 (decide (fltx (Sum.inr (a, j) : Nat ⊕ (α × Nat)) = 0 ∧ tso (tk S j) = 3)) = 1 from by rw [decide_eq_true ⟨rfl, hs⟩]; rfl, if_neg (by decide), gg_Md_at, Option.bind_some, hj.at, show nI j + 1 = nI (j + 1) from nI_add j 1, ww_Md_at, Option.bind_some, if_pos hs]
      exact ⟨_, rfl, hj'.next (by omega), mrE.gsi (Or.inl rfl)⟩
    · obtain ⟨G', r1, r2, r3⟩ := m_wrong hj' hS (k := 1) (by decide)
      rw [show b2 (decide (fltx (Sum.inr (a, j) : Nat ⊕ (α × Nat)) = 0 ∧ tso (tk S j) = 3)) = 0 from by rw [decide_eq_false (fun q => hs q.2)]; rfl, if_pos rfl, show f_Md_wrong [.ref 618, .int 1] (hp G) = _ from r1, cv_some, if_neg hs]
      exact ⟨G', rfl, ⟨fau_ne S (Nat.le_refl 1) j, j, r2⟩, r3⟩
/-- a word, if it is here -/
theorem m_hasWord (h : RMd G S e j) {w : Nat} (hw : w < 38) : ∃ G', f_Md_hasWord [.ref 618, .int (nI w)] (hp G) = some (some (.int (b2 (decide (wrd S e j = some w)))), hp G') ∧ RMd G' S e (if wrd S e j = some w then j + 1 else j) ∧ mrE G G' := by
  rw [e_Md_hasWord 618 _ _ (ob_Md G), m_isWord h hw, ci_some, gg_Md_at, Option.bind_some, h.at]
  by_cases hq : wrd S e j = some w
  · have he : e = 0 ∧ tso (tk S j) = 1 := Classical.byContradiction fun q => by unfold wrd at hq; rw [if_neg q] at hq; cases hq
    obtain ⟨rfl, hs⟩ := he
    rw [decide_eq_true hq, if_neg (show ¬ b2 true = 0 by decide), show nI j + 1 = nI (j + 1) from nI_add j 1, ww_Md_at, Option.bind_some, if_pos (b2_01 _), if_pos hq]
    exact ⟨_, rfl, h.next (by omega), mrE.gsi (Or.inl rfl)⟩
  · rw [decide_eq_false hq, if_pos (show b2 false = 0 from rfl), show nI j + 0 = nI j from nI_add j 0, ww_Md_at, Option.bind_some, if_pos (b2_01 _), if_neg hq]
    exact ⟨_, rfl, h.same, mrE.gsi (Or.inl rfl)⟩
theorem wr_no {e : Nat} (he : e ≠ 0) (S : List Nat) (j : Nat) : wrd S e j = none := by unfold wrd; rw [if_neg (fun q => he q.1)]
theorem m_wd (h : RX G S x) (hS : S.length ≤ 1000) {i : Nat} (hi : i < 38) : ∃ G', f_Md_takeWord [.ref 618, .int (nI (mw i))] (hp G) = some (none, hp G') ∧ RX G' S (thn x fun _ j => pWd S i j) ∧ mrE G G' := by
  obtain ⟨j, hj⟩ := h.rm
  obtain ⟨G1, r1, r2, r3⟩ := m_hasWord hj (w := mw i) (mw_ok i hi).1
  rw [e_Md_takeWord 618 _ _ (ob_Md G), r1, ci_some]
  cases x with
  | inl e =>
    have hw : ¬ wrd S (fltx (Sum.inl e : Nat ⊕ (α × Nat))) j = some (mw i) := fun q => by rw [wr_no (show fltx (Sum.inl e : Nat ⊕ (α × Nat)) ≠ 0 from h.1)] at q; cases q
    rw [if_neg hw] at r2
    obtain ⟨G', s1, s2, s3⟩ := m_wrong r2 hS (k := 1) (by decide)
    rw [decide_eq_false hw, if_pos (show b2 false = 0 from rfl), show f_Md_wrong [.ref 618, .int 1] (hp G1) = _ from s1, cv_some]
    rw [if_neg (show ¬ fltx (Sum.inl e : Nat ⊕ (α × Nat)) = 0 from h.1)] at s2
    exact ⟨G', rfl, ⟨h.1, j, s2⟩, r3.tr s3⟩
  | inr q =>
    obtain ⟨a, j'⟩ := q
    have hj' : RMd G S 0 j' := h
    have ej : j = j' := n_inj (by have := hj.lt; omega) (by have := hj'.lt; omega) (by rw [← hj.at, ← hj'.at])
    subst ej
    have r2' : RMd G1 S 0 (if wrd S 0 j = some (mw i) then j + 1 else j) := r2
    show ∃ G', (if b2 (decide (wrd S 0 j = some (mw i))) = 0 then _ else _) = _ ∧ _
    unfold pWd
    rw [thn_r]
    by_cases hs : isW S i j = true
    · have hw : wrd S 0 j = some (mw i) := (isW_wr hi).mpr hs
      rw [if_pos hw] at r2'
      rw [decide_eq_true hw, if_neg (show ¬ b2 true = 0 by decide), if_pos hs]
      exact ⟨G1, rfl, r2', r3⟩
    · have hw : ¬ wrd S 0 j = some (mw i) := fun q => hs ((isW_wr hi).mp q)
      rw [if_neg hw] at r2'
      obtain ⟨G', s1, s2, s3⟩ := m_wrong r2' hS (k := 1) (by decide)
      rw [decide_eq_false hw, if_pos (show b2 false = 0 from rfl), show f_Md_wrong [.ref 618, .int 1] (hp G1) = _ from s1, cv_some, if_neg hs]
      exact ⟨G', rfl, ⟨fau_ne S (Nat.le_refl 1) j, j, s2⟩, r3.tr s3⟩
theorem lL_32 {n : Nat} (h : n < 2147483648) : (lL n).toInt32 = nI n := by rw [← lL_nI h, Int32.toInt32_toInt64]
theorem RX.eq (h : RX G S x) {j : Nat} (hj : RMd G S (fltx x) j) {a : α} {j' : Nat} (hx : x = .inr (a, j')) : j = j' := by
  subst hx
  have hj' : RMd G S 0 j' := h
  exact n_inj (by have := hj.lt; omega) (by have := hj'.lt; omega) (by rw [← hj.at, ← hj'.at])
theorem m_num (h : RX G S x) (hS : S.length ≤ 1000) {lo hi : Nat} (hlo : lo < 10000) (hhi : hi < 10000) : ∃ G' v, f_Md_takeNumber [.ref 618, .int (nI lo), .int (nI hi)] (hp G) = some (some (.int v), hp G') ∧ RX G' S (thn x fun _ j => pNum S lo hi j) ∧ (∀ a j, thn x (fun _ j => pNum S lo hi j) = .inr (a, j) → v = nI a) ∧ mrE G G' := by
  obtain ⟨f, hf⟩ : ∃ f, mm_fu = f + 2 := ⟨mm_fu - 2, by have := @fu_lt 100 (by omega); omega⟩
  obtain ⟨j, hj⟩ := h.rm
  have h5 := tso_le S j
  -- at the end, with a fault
  have bad : ∀ {G1 : GG} {e : Nat} (g : Nat), e ≠ 0 → RMd G1 S e j → mm_run p_Md_takeNumber (g + 1) 70 [.ref 618] [] (hp G1) = some (some (.int 0), hp G1) := fun g he h1 => by
    rw [e_Md_takeNumber_70, gg_Md_fault, Option.bind_some, if_pos (h1.pos.mpr he)]
  rw [e_Md_takeNumber 618 _ _ _ (ob_Md G), gg_Md_fault, Option.bind_some, hf]
  cases x with
  | inl e =>
    have hne : ¬ G.1 618 8 = 0 := fun q => h.1 (hj.ne.mp q)
    rw [if_neg hne, e_Md_takeNumber_28, gg_Md_fault, Option.bind_some, if_neg hne, bad f h.1 hj]
    exact ⟨G, 0, rfl, h, fun a j q => (by cases q), mrE.rf⟩
  | inr q =>
    obtain ⟨a, j'⟩ := q
    have ej := h.eq hj rfl
    subst ej
    have hj' : RMd G S 0 j := h
    have h0 : G.1 618 8 = 0 := hj'.ne.mpr rfl
    have wrn : ∀ k, k ≤ 5 → 1 ≤ k → ∃ G', f_Md_wrong [.ref 618, .int (nI k)] (hp G) = some (none, hp G') ∧ RMd G' S (fau S k j) j ∧ mrE G G' := fun k k1 k2 => m_wrong hj' hS k1
    rw [if_pos h0, gg_Md_sort, Option.bind_some, gg_Md_at, Option.bind_some, hj.at, rr_Md_sort _ hj.lt, Option.bind_some, hj.so, thn_r]
    unfold pNum
    cases hn : isNu S j
    · have hs : tso (tk S j) ≠ 2 := fun q => by unfold isNu at hn; rw [decide_eq_true q] at hn; cases hn
      obtain ⟨G', r1, r2, r3⟩ := wrn 1 (by decide) (by decide)
      rw [if_neg (show ¬ nI (tso (tk S j)) = (2 : Int32) from ln (n := 2) hs (by omega) (by decide)), show f_Md_wrong [.ref 618, .int 1] (hp G) = _ from r1, cv_some, bad (f + 1) (fau_ne S (Nat.le_refl 1) j) r2]
      exact ⟨G', 0, rfl, ⟨fau_ne S (Nat.le_refl 1) j, j, r2⟩, fun a j q => (by cases q), r3⟩
    · have hs : tso (tk S j) = 2 := of_decide_eq_true hn
      have hv : G.2.1 622 j = lL (nV S j) := hj.va.2.1 hs
      have hv9 : nV S j < 10000 := (tk_num hs).2.2
      rw [if_pos (show nI (tso (tk S j)) = (2 : Int32) from lq (n := 2) hs), e_Md_takeNumber_28, gg_Md_fault, Option.bind_some, if_pos h0, gg_Md_value, Option.bind_some, gg_Md_at, Option.bind_some, hj.at, rr_Md_value _ hj.lt, Option.bind_some, hv, lL_nI (show lo < 2147483648 by omega)]
      have cl := cmp_lt (a := nV S j) (b := lo) (by omega) (by omega)
      have cg := cmp_gt (a := nV S j) (b := hi) (by omega) (by omega)
      by_cases e1 : nV S j < lo
      · obtain ⟨G', r1, r2, r3⟩ := wrn 4 (by decide) (by decide)
        rw [if_pos (cl.mpr e1), if_pos (show true = true from rfl), if_pos (Or.inl e1), show f_Md_wrong [.ref 618, .int 4] (hp G) = _ from r1, cv_some, bad f (fau_ne S (by decide) j) r2]
        exact ⟨G', 0, rfl, ⟨fau_ne S (by decide) j, j, r2⟩, fun a j q => (by cases q), r3⟩
      · rw [if_neg (fun q => e1 (cl.mp q)), Option.bind_some, Option.bind_some, rr_Md_value _ hj.lt, Option.bind_some, hv, lL_nI (show hi < 2147483648 by omega)]
        by_cases e2 : hi < nV S j
        · obtain ⟨G', r1, r2, r3⟩ := wrn 4 (by decide) (by decide)
          rw [if_pos (cg.mpr e2), if_pos (show true = true from rfl), if_pos (Or.inr e2), show f_Md_wrong [.ref 618, .int 4] (hp G) = _ from r1, cv_some, bad f (fau_ne S (by decide) j) r2]
          exact ⟨G', 0, rfl, ⟨fau_ne S (by decide) j, j, r2⟩, fun a j q => (by cases q), r3⟩
        · have hnx := hj'.next (show tso (tk S j) ≠ 0 by omega)
          rw [if_neg (fun q => e2 (cg.mp q)), if_pos (show true = true from rfl), if_neg (show ¬ (nV S j < lo ∨ hi < nV S j) from fun q => q.elim e1 e2), e_Md_takeNumber_70, gg_Md_fault, Option.bind_some, if_neg (fun q => hj'.pos.mp q rfl), gg_Md_at, Option.bind_some, hj.at, show nI j + 1 = nI (j + 1) from nI_add j 1, ww_Md_at, Option.bind_some, gg_Md_value, Option.bind_some, gg_Md_at, Option.bind_some, f6, show nI (j + 1) - 1 = nI j from by rw [show (1 : Int32) = nI 1 from rfl, n_sub (by omega)]; rfl, rr_Md_value _ hj.lt, Option.bind_some, show (gsi G 618 7 (nI (j + 1))).2.1 622 j = lL (nV S j) from hv, lL_32 (by omega)]
          exact ⟨_, _, rfl, hnx, fun a j q => by cases q; rfl, mrE.gsi (Or.inl rfl)⟩
theorem m_one (h : RX G S x) (hS : S.length ≤ 1000) {a b f n : Nat} (hf : fol a b f n) (hb : b < 38) (hfn : f + n ≤ 38) : ∃ G' v, f_Md_takeOne [.ref 618, .int (nI f), .int (nI n)] (hp G) = some (some (.int v), hp G') ∧ RX G' S (thn x fun _ j => pOne S a b j) ∧ (∀ v' j, thn x (fun _ j => pOne S a b j) = .inr (v', j) → v = nI v') ∧ mrE G G' := by
  obtain ⟨g, hg⟩ : ∃ f, mm_fu = f + 1 := ⟨mm_fu - 1, by have := @fu_lt 100 (by omega); omega⟩
  obtain ⟨j, hj⟩ := h.rm
  have bad : ∀ {G1 : GG} {e : Nat} (v : Int32), e ≠ 0 → RMd G1 S e j → ∃ G', mm_run p_Md_takeOne mm_fu 34 [.ref 618, .int v] [] (hp G1) = some (some (.int 0), hp G') ∧ RMd G' S e j ∧ mrE G1 G' := fun {G1 e} v he h1 => by
    rw [hg, e_Md_takeOne_34, gg_Md_at, Option.bind_some, gg_Md_fault, Option.bind_some, if_pos (h1.pos.mpr he), h1.at, show nI j + 0 = nI j from nI_add j 0, ww_Md_at, Option.bind_some, gg_Md_fault, Option.bind_some, if_pos (h1.same.pos.mpr he)]
    exact ⟨_, rfl, h1.same, mrE.gsi (Or.inl rfl)⟩
  rw [e_Md_takeOne 618 _ _ _ (ob_Md G), gg_Md_fault, Option.bind_some]
  cases x with
  | inl e =>
    obtain ⟨G', r1, r2, r3⟩ := bad (-1) h.1 hj
    rw [if_pos (hj.pos.mpr h.1), Option.bind_some, if_neg (fun q => h.1 (hj.ne.mp q)), r1]
    exact ⟨G', 0, rfl, ⟨h.1, j, r2⟩, fun a j q => (by cases q), r3⟩
  | inr q =>
    obtain ⟨c, j'⟩ := q
    have ej := h.eq hj rfl
    subst ej
    have hj' : RMd G S 0 j := h
    rw [if_neg (fun q => hj'.pos.mp q rfl), m_wordHere hj' hfn, ci_some, gg_Md_fault, Option.bind_some, if_pos (hj'.ne.mpr rfl), wh_fol hf, thn_r]
    unfold pOne
    cases hB : isB S a b j
    · obtain ⟨G1, r1, r2, r3⟩ := m_wrong hj' hS (k := 1) (by decide)
      obtain ⟨G2, s1, s2, s3⟩ := bad (-1) (fau_ne S (Nat.le_refl 1) j) r2
      rw [if_neg (show ¬ false = true by decide), if_neg (show ¬ false = true by decide), if_pos (show (-1 : Int32) < 0 by decide), show f_Md_wrong [.ref 618, .int 1] (hp G) = _ from r1, cv_some, s1]
      exact ⟨G2, 0, rfl, ⟨fau_ne S (Nat.le_refl 1) j, j, s2⟩, fun a j q => (by cases q), r3.tr s3⟩
    · obtain ⟨w1, w2, w3, w4, w5⟩ := isB_wN hB
      have hnx := hj'.next (show tso (tk S j) ≠ 0 by omega)
      rw [if_pos (show true = true from rfl), if_pos (show true = true from rfl), if_neg (show ¬ nI (wN S j - a) < 0 from lm (n := 0) (by omega) (by omega)), hg, e_Md_takeOne_34, gg_Md_at, Option.bind_some, gg_Md_fault, Option.bind_some, if_neg (fun q => hj'.pos.mp q rfl), hj.at, show nI j + 1 = nI (j + 1) from nI_add j 1, ww_Md_at, Option.bind_some, gg_Md_fault, Option.bind_some, if_neg (fun q => hnx.pos.mp q rfl)]
      exact ⟨_, _, rfl, hnx, fun v' j q => by cases q; rfl, mrE.gsi (Or.inl rfl)⟩
theorem m_after (h : RX G S x) (hS : S.length ≤ 1000) {i : Nat} (hi : i < 38) {lo hi' : Nat} (hlo : lo < 10000) (hhi : hi' < 10000) : ∃ G' v, f_Md_takeAfter [.ref 618, .int (nI (mw i)), .int (nI lo), .int (nI hi')] (hp G) = some (some (.int v), hp G') ∧ RX G' S (thn (thn x fun _ j => pWd S i j) fun _ j => pNum S lo hi' j) ∧ (∀ a j, thn (thn x fun _ j => pWd S i j) (fun _ j => pNum S lo hi' j) = .inr (a, j) → v = nI a) ∧ mrE G G' := by
  obtain ⟨G1, r1, r2, r3⟩ := m_wd h hS hi
  obtain ⟨G2, v, s1, s2, s3, s4⟩ := m_num r2 hS hlo hhi
  rw [e_Md_takeAfter 618 _ _ _ _ (ob_Md G), r1, cv_some, s1, ci_some]
  exact ⟨G2, v, rfl, s2, s3, r3.tr s4⟩
theorem m_isName (h : RMd G S e j) : f_Md_isName [.ref 618] (hp G) = some (some (.int (b2 (decide (e = 0) && isNm S j))), hp G) := by
  have h5 := tso_le S j
  rw [e_Md_isName 618 _ (ob_Md G), gg_Md_fault, Option.bind_some]
  by_cases he : e = 0
  · subst he
    rw [if_pos (h.ne.mpr rfl), gg_Md_sort, Option.bind_some, gg_Md_at, Option.bind_some, h.at, rr_Md_sort _ h.lt, Option.bind_some, h.so, decide_eq_true rfl, Bool.true_and]
    unfold isNm
    by_cases hs : tso (tk S j) = 1
    · rw [if_pos (show nI (tso (tk S j)) = (1 : Int32) from lq (n := 1) hs), show f_Md_wordHere [.ref 618, .int 0, .int 38] (hp G) = _ from m_wordHere h (a := 0) (n := 38) (by decide), ci_some, decide_eq_true hs, Bool.true_and]
      have wn := wh_name (S := S) (j := j)
      cases hx : wx (tsg (tk S j)) with
      | none => rw [hx] at wn; rw [if_pos (wn.mpr (fun q => absurd q.2 (by decide)))]; rfl
      | some k => rw [hx] at wn; rw [if_neg (fun q => wn.mp q ⟨hs, rfl⟩)]; rfl
    · rw [if_neg (show ¬ nI (tso (tk S j)) = (1 : Int32) from ln (n := 1) hs (by omega) (by decide)), decide_eq_false hs, Bool.false_and]
      rfl
  · rw [if_neg (fun q => he (h.ne.mp q)), decide_eq_false he, Bool.false_and]
    rfl
end MTK
