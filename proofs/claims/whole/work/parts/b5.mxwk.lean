/-! THE REFERENCE: a WORK read -/
def lwE (i0 : Nat) (G G' : GG) : Prop := (∀ n, n ≠ 618 → n ≠ 627 → G'.1 n = G.1 n) ∧ G'.2 = G.2 ∧ (∀ k, k ≠ 7 → k ≠ 8 → G'.1 618 k = G.1 618 k) ∧ ∀ k, ¬ (i0 < k ∧ k ≤ i0 + 3) → G'.1 627 k = G.1 627 k
theorem lwE.tr {i0 : Nat} {G1 G2 G3 : GG} (h1 : lwE i0 G1 G2) (h2 : lwE i0 G2 G3) : lwE i0 G1 G3 := ⟨fun n a b => (h2.1 n a b).trans (h1.1 n a b), h2.2.1.trans h1.2.1, fun k a b => (h2.2.2.1 k a b).trans (h1.2.2.1 k a b), fun k a => (h2.2.2.2 k a).trans (h1.2.2.2 k a)⟩
theorem mrE.lw {i0 : Nat} {G G' : GG} (h : mrE G G') : lwE i0 G G' := ⟨fun n a _ => h.1 n a, h.2.1, h.2.2, fun k _ => by rw [h.1 627 (by decide)]⟩
theorem lwE.set {i0 : Nat} {G : GG} {k : Nat} {v : Int32} (hk : i0 < k ∧ k ≤ i0 + 3) : lwE i0 G (gsi G 627 k v) := ⟨fun n _ b => f6o _ _ b, rfl, fun _ _ _ => by rw [f6o _ _ (by decide)], fun j hj => by rw [gsi_i, if_pos rfl, upd_ne _ _ (fun e => hj (by rw [e]; exact hk))]⟩
section MWK
variable {G G' : GG} {S : List Nat} {j : Nat} {N : List (List Nat × Nat × Nat)}
theorem m_told (h : RMd G S 0 j) (hS : S.length ≤ 1000) (hN : isMN G 0 N) (h4 : N.length ≤ 4) (hok : ∀ q ∈ N, okNm q.1) (hd : nDis N) : ∃ G' v, f_Md_takeTold [.ref 618, .int 0, .int (nI N.length)] (hp G) = some (some (.int v), hp G') ∧ RX G' S (pNm S N j) ∧ (∀ a j2, pNm S N j = .inr (a, j2) → v = nI a) ∧ mrE G G' := by
  obtain ⟨fu, hfu⟩ : ∃ g, mm_fu = g + 2 := ⟨mm_fu - 2, by have : 9999 ≤ mm_fu := Nat.le_of_lt (fu_lt (Nat.le_refl _)); omega⟩
  -- with a fault nothing is taken
  have bad : ∀ {H : GG} {e : Nat} (v : Int32) (g : Nat), RMd H S e j → e ≠ 0 → ∃ H', mm_run p_Md_takeTold (g + 1) 53 [.ref 618, .int v] [] (hp H) = some (some (.int 0), hp H') ∧ RMd H' S e j ∧ mrE H H' := fun {H e} v g hH he => by
    have hs := hH.same
    refine ⟨gsi H 618 7 (nI j), ?_, hs, mrE.gsi (Or.inl rfl)⟩
    rw [e_Md_takeTold_53, gg_Md_at, Option.bind_some, gg_Md_fault, Option.bind_some, if_pos (hH.pos.mpr he), hH.at, show nI j + 0 = nI j from i_add j 0, ww_Md_at, Option.bind_some, gg_Md_fault, Option.bind_some, if_pos (hs.pos.mpr he)]
  rw [e_Md_takeTold 618 _ _ _ (ob_Md G), gg_Md_fault, Option.bind_some, if_pos (h.ne.mpr rfl), m_isName h, ci_some]
  unfold pNm
  by_cases hn : isNm S j = true
  · have hw : tso (tk S j) = 1 := by
      unfold isNm at hn
      rw [Bool.and_eq_true, decide_eq_true_eq] at hn
      exact hn.1
    rw [hn, if_neg (show ¬ b2 (decide (0 = 0) && true) = 0 by decide), if_pos rfl, hfu, e_Md_takeTold_19, gg_Md_fault, Option.bind_some, if_neg (fun q => h.pos.mp q rfl), show f_Md_nameAt [.ref 618, .int 0, .int (nI N.length)] (hp G) = _ from m_nameAt (f := 0) h hw hN (by omega) hok hd, ci_some, gg_Md_fault, Option.bind_some, if_pos (h.ne.mpr rfl)]
    cases hm : nmd N (tsg (tk S j)) with
    | none =>
      rw [if_pos (show nmI none < 0 by decide)]
      obtain ⟨G1, w1, w2, w3⟩ := m_wrong h hS (k := 2) (by decide)
      rw [if_pos rfl] at w2
      obtain ⟨G2, b1, b3, b4⟩ := bad (nmI none) fu w2 (fau_ne S (by decide) j)
      rw [show f_Md_wrong [.ref 618, .int 2] (hp G) = _ from w1, cv_some, b1]
      exact ⟨G2, 0, rfl, ⟨fau_ne S (by decide) j, j, b3⟩, fun a j2 q => (by cases q), w3.tr b4⟩
    | some i =>
      have hi : i < N.length := by
        unfold nmd at hm
        exact (List.findIdx?_eq_some_iff_getElem.mp hm).1
      rw [show nmI (some i) = nI i from rfl, if_neg (show ¬ nI i < (0 : Int32) from lm (n := 0) (Nat.zero_le _) (by omega)), e_Md_takeTold_53, gg_Md_at, Option.bind_some, gg_Md_fault, Option.bind_some, if_neg (fun q => h.pos.mp q rfl), h.at, show nI j + 1 = nI (j + 1) from nI_add j 1, ww_Md_at, Option.bind_some, gg_Md_fault, Option.bind_some]
      have hx := h.next (by rw [hw]; decide)
      rw [if_neg (fun q => hx.pos.mp q rfl)]
      exact ⟨_, _, rfl, hx, fun a j2 q => (by cases q; rfl), mrE.gsi (Or.inl rfl)⟩
  · have hn' : isNm S j = false := by cases hq : isNm S j with | true => exact absurd hq hn | false => rfl
    rw [hn', if_pos (show b2 (decide (0 = 0) && false) = 0 by decide), if_neg (by decide)]
    obtain ⟨G1, w1, w2, w3⟩ := m_wrong h hS (k := 1) (by decide)
    rw [if_pos rfl] at w2
    have he := fau_ne S (k := 1) (by decide) j
    obtain ⟨G2, b1, b3, b4⟩ := bad (-1) fu w2 he
    rw [show f_Md_wrong [.ref 618, .int 1] (hp G) = _ from w1, cv_some, hfu, e_Md_takeTold_19, gg_Md_fault, Option.bind_some, if_pos (w2.pos.mpr he), Option.bind_some, if_neg (fun q => he (w2.ne.mp q)), b1]
    exact ⟨G2, 0, rfl, ⟨he, j, b3⟩, fun a j2 q => (by cases q), w3.tr b4⟩
theorem ln_1 {i0 w : Nat} {x : Nat ⊕ (Nat × Nat)} {G1 : GG} {v : Int32} (hr : RX G1 S x) (hv : ∀ a j, x = .inr (a, j) → v = nI a) (hE : mrE G G1) (hw : G.1 627 i0 = nI (w - 9)) (h3 : w = 10 ∨ w = 13 ∨ w = 17) : RX (gsi G1 627 (i0 + 1) v) S (thn x fun x j => .inr (((w, x, 0, 0) : LI), j)) ∧ (∀ t j', thn x (fun x j => .inr (((w, x, 0, 0) : LI), j)) = .inr (t, j') → isMLi (gsi G1 627 (i0 + 1) v) i0 t) ∧ lwE i0 G (gsi G1 627 (i0 + 1) v) := by
  have hr' : RX (gsi G1 627 (i0 + 1) v) S x := hr.arr (by decide)
  refine ⟨?_, fun t j' q => ?_, hE.lw.tr (lwE.set ⟨by omega, by omega⟩)⟩
  · cases x with
    | inl e => exact hr'
    | inr p => exact hr'
  · cases x with
    | inl e => cases q
    | inr p =>
      cases q
      refine ⟨?_, fun _ => ?_, fun q => ?_⟩
      · rw [gsi_i, if_pos rfl, upd_ne _ _ (by omega), hE.1 627 (by decide)]; exact hw
      · rw [gsi_i, if_pos rfl, upd_at]; exact hv p.1 p.2 rfl
      · exfalso; have : w = 9 ∨ w = 11 := q; omega
theorem ln_3 {i0 w : Nat} {x : Nat ⊕ (Nat × Nat)} {f g : Nat → Nat ⊕ (Nat × Nat)} {G1 G2 G3 : GG} {v1 v2 v3 : Int32} (hr : RX G3 S (thn (thn x fun _ j => f j) fun _ j => g j)) (h1 : ∀ a j, x = .inr (a, j) → v1 = nI a) (h2 : ∀ a j, thn x (fun _ j => f j) = .inr (a, j) → v2 = nI a) (h3 : ∀ a j, thn (thn x fun _ j => f j) (fun _ j => g j) = .inr (a, j) → v3 = nI a) (E1 : mrE G G1) (E2 : mrE (gsi G1 627 (i0 + 1) v1) G2) (E3 : mrE (gsi G2 627 (i0 + 2) v2) G3) (hw : G.1 627 i0 = nI (w - 9)) (hw3 : w = 9 ∨ w = 11) : RX (gsi G3 627 (i0 + 3) v3) S (thn x fun x j => thn (f j) fun y j => thn (g j) fun z j => .inr (((w, x, y, z) : LI), j)) ∧ (∀ t j', thn x (fun x j => thn (f j) fun y j => thn (g j) fun z j => .inr (((w, x, y, z) : LI), j)) = .inr (t, j') → isMLi (gsi G3 627 (i0 + 3) v3) i0 t) ∧ lwE i0 G (gsi G3 627 (i0 + 3) v3) := by
  have hr' : RX (gsi G3 627 (i0 + 3) v3) S (thn (thn x fun _ j => f j) fun _ j => g j) := hr.arr (by decide)
  have hf : (gsi G3 627 (i0 + 3) v3).1 627 = upd (upd (upd (G.1 627) (i0 + 1) v1) (i0 + 2) v2) (i0 + 3) v3 := by
    rw [gsi_i, if_pos rfl, E3.1 627 (by decide), gsi_i, if_pos rfl, E2.1 627 (by decide), gsi_i, if_pos rfl, E1.1 627 (by decide)]
  refine ⟨?_, fun t j' q => ?_, ((((E1.lw.tr (lwE.set ⟨by omega, by omega⟩)).tr E2.lw).tr (lwE.set ⟨by omega, by omega⟩)).tr E3.lw).tr (lwE.set ⟨by omega, by omega⟩)⟩
  · cases x with
    | inl e => exact hr'
    | inr p =>
      obtain ⟨a, j1⟩ := p
      show RX _ S (thn (f j1) _)
      rw [thn_r] at hr'
      cases hf1 : f j1 with
      | inl e => rw [hf1] at hr'; exact hr'
      | inr p =>
        obtain ⟨b, j2⟩ := p
        rw [hf1, thn_r] at hr'
        rw [thn_r]
        cases hg1 : g j2 with
        | inl e => rw [hg1] at hr'; exact hr'
        | inr p => rw [hg1] at hr'; exact hr'
  · obtain ⟨a, j1, e1, q⟩ := thn_inr q
    obtain ⟨b, j2, e2, q⟩ := thn_inr q
    obtain ⟨c, j3, e3, q⟩ := thn_inr q
    have k1 := h1 a j1 e1
    have k2 := h2 b j2 (by rw [e1, thn_r]; exact e2)
    have k3 := h3 c j3 (by rw [e1, thn_r, e2, thn_r]; exact e3)
    cases q
    refine ⟨?_, fun _ => ?_, fun _ => ⟨?_, ?_⟩⟩
    · rw [hf, upd_ne _ _ (by omega), upd_ne _ _ (by omega), upd_ne _ _ (by omega)]; exact hw
    · rw [hf, upd_ne _ _ (by omega), upd_ne _ _ (by omega), upd_at]; exact k1
    · rw [hf, upd_ne _ _ (by omega), upd_at]; exact k2
    · rw [hf, upd_at]; exact k3
theorem ln_0 {i0 w : Nat} (h : RMd G S 0 j) (hw : G.1 627 i0 = nI (w - 9)) (h3 : w = 12 ∨ w = 14 ∨ w = 15 ∨ w = 16) : RX G S (.inr (((w, 0, 0, 0) : LI), j)) ∧ (∀ t j', (.inr (((w, 0, 0, 0) : LI), j) : Nat ⊕ (LI × Nat)) = .inr (t, j') → isMLi G i0 t) ∧ lwE i0 G G := by
  refine ⟨h, fun t j' q => ?_, mrE.rf.lw⟩
  cases q
  refine ⟨hw, fun q => ?_, fun q => ?_⟩
  · exfalso; have : w = 9 ∨ w = 10 ∨ w = 11 ∨ w = 13 ∨ w = 17 := q; omega
  · exfalso; have : w = 9 ∨ w = 11 := q; omega
theorem m_readsLine (h : RMd G S 0 j) (hS : S.length ≤ 1000) (hN : isMN G 0 N) (h4 : N.length ≤ 4) (hok : ∀ q ∈ N, okNm q.1) (hd : nDis N) {P : PP} (hP : isMP G P) (hPN : pNi P = N.length) {i0 w : Nat} (hi : i0 + 3 < 321) (hw9 : 9 ≤ w ∧ w ≤ 17) (hw : G.1 627 i0 = nI (w - 9)) : ∃ G', f_Md_readsLine [.ref 618, .int (nI i0)] (hp G) = some (none, hp G') ∧ RX G' S (pWk S N w j) ∧ (∀ t j', pWk S N w j = .inr (t, j') → isMLi G' i0 t) ∧ lwE i0 G G' := by
  rw [e_Md_readsLine 618 _ _ (ob_Md G), gg_Md_lines, Option.bind_some, rr_Md_lines _ (by omega), Option.bind_some, hw]
  have hx : RX G S (.inr ((), j) : Nat ⊕ (Unit × Nat)) := h
  have hc : w = 9 ∨ w = 10 ∨ w = 11 ∨ w = 12 ∨ w = 13 ∨ w = 14 ∨ w = 15 ∨ w = 16 ∨ w = 17 := by omega
  rcases hc with e | e | e | e | e | e | e | e | e
  · subst e
    rw [if_pos (show nI (9 - 9) = 0 from rfl), Option.bind_some]
    obtain ⟨G1, v1, a1, a2, a3, a4⟩ := m_num hx hS (lo := 0) (hi := 999) (by decide) (by decide)
    rw [thn_r] at a2 a3
    rw [show f_Md_takeNumber [.ref 618, .int 0, .int 999] (hp G) = _ from a1, ci_some, show nI i0 + 1 = nI (i0 + 1) from nI_add i0 1, uu_Md_lines _ (by omega), Option.bind_some, gg_Md_lines, Option.bind_some]
    obtain ⟨G2, v2, b1, b3, b4, b5⟩ := m_num (RX.arr (n := 627) (k := i0 + 1) (v := v1) a2 (by decide)) hS (lo := 0) (hi := 999) (by decide) (by decide)
    rw [show f_Md_takeNumber [.ref 618, .int 0, .int 999] (hp (gsi G1 627 (i0 + 1) v1)) = _ from b1, ci_some, show nI i0 + 2 = nI (i0 + 2) from nI_add i0 2, uu_Md_lines _ (by omega), Option.bind_some, gg_Md_lines, Option.bind_some]
    obtain ⟨G3, v3, c1, c2, c3, c4⟩ := m_num (RX.arr (n := 627) (k := i0 + 2) (v := v2) b3 (by decide)) hS (lo := 0) (hi := 999) (by decide) (by decide)
    rw [show f_Md_takeNumber [.ref 618, .int 0, .int 999] (hp (gsi G2 627 (i0 + 2) v2)) = _ from c1, ci_some, show nI i0 + 3 = nI (i0 + 3) from nI_add i0 3, uu_Md_lines _ (by omega), Option.bind_some]
    exact ⟨_, rfl, ln_3 (f := fun j => pNum S 0 999 j) (g := fun j => pNum S 0 999 j) c2 a3 b4 c3 a4 b5 c4 hw (Or.inl rfl)⟩
  · subst e
    rw [if_neg (show ¬ nI (10 - 9) = 0 by decide), if_pos (show nI (10 - 9) = 1 from rfl), Option.bind_some]
    obtain ⟨G1, v1, a1, a2, a3, a4⟩ := m_num hx hS (lo := 0) (hi := 29) (by decide) (by decide)
    rw [thn_r] at a2 a3
    rw [show f_Md_takeNumber [.ref 618, .int 0, .int 29] (hp G) = _ from a1, ci_some, show nI i0 + 1 = nI (i0 + 1) from nI_add i0 1, uu_Md_lines _ (by omega), Option.bind_some]
    exact ⟨_, rfl, ln_1 a2 a3 a4 hw (Or.inl rfl)⟩
  · subst e
    rw [if_neg (show ¬ nI (11 - 9) = 0 by decide), if_neg (show ¬ nI (11 - 9) = 1 by decide), if_pos (show nI (11 - 9) = 2 from rfl), Option.bind_some]
    obtain ⟨G1, v1, a1, a2, a3, a4⟩ := m_num hx hS (lo := 0) (hi := 29) (by decide) (by decide)
    rw [thn_r] at a2 a3
    rw [show f_Md_takeNumber [.ref 618, .int 0, .int 29] (hp G) = _ from a1, ci_some, show nI i0 + 1 = nI (i0 + 1) from nI_add i0 1, uu_Md_lines _ (by omega), Option.bind_some, gg_Md_lines, Option.bind_some]
    obtain ⟨G2, v2, b1, b3, b4, b5⟩ := m_one (RX.arr (n := 627) (k := i0 + 1) (v := v1) a2 (by decide)) hS fol_col (by decide) (by decide)
    rw [show f_Md_takeOne [.ref 618, .int 23, .int 3] (hp (gsi G1 627 (i0 + 1) v1)) = _ from b1, ci_some, show nI i0 + 2 = nI (i0 + 2) from nI_add i0 2, uu_Md_lines _ (by omega), Option.bind_some, gg_Md_lines, Option.bind_some]
    obtain ⟨G3, v3, c1, c2, c3, c4⟩ := m_num (RX.arr (n := 627) (k := i0 + 2) (v := v2) b3 (by decide)) hS (lo := 0) (hi := 999) (by decide) (by decide)
    rw [show f_Md_takeNumber [.ref 618, .int 0, .int 999] (hp (gsi G2 627 (i0 + 2) v2)) = _ from c1, ci_some, show nI i0 + 3 = nI (i0 + 3) from nI_add i0 3, uu_Md_lines _ (by omega), Option.bind_some]
    exact ⟨_, rfl, ln_3 (f := fun j => pOne S 25 27 j) (g := fun j => pNum S 0 999 j) c2 a3 b4 c3 a4 b5 c4 hw (Or.inr rfl)⟩
  · subst e
    rw [if_neg (show ¬ nI (12 - 9) = 0 by decide), if_neg (show ¬ nI (12 - 9) = 1 by decide), if_neg (show ¬ nI (12 - 9) = 2 by decide), if_pos (show nI (12 - 9) = 3 from rfl)]
    exact ⟨_, rfl, ln_0 h hw (Or.inl rfl)⟩
  · subst e
    rw [if_neg (show ¬ nI (13 - 9) = 0 by decide), if_neg (show ¬ nI (13 - 9) = 1 by decide), if_neg (show ¬ nI (13 - 9) = 2 by decide), if_neg (show ¬ nI (13 - 9) = 3 by decide), if_pos (show nI (13 - 9) = 4 from rfl), Option.bind_some]
    obtain ⟨G1, v1, a1, a2, a3, a4⟩ := m_num hx hS (lo := 1) (hi := 99) (by decide) (by decide)
    rw [thn_r] at a2 a3
    rw [show f_Md_takeNumber [.ref 618, .int 1, .int 99] (hp G) = _ from a1, ci_some, show nI i0 + 1 = nI (i0 + 1) from nI_add i0 1, uu_Md_lines _ (by omega), Option.bind_some]
    exact ⟨_, rfl, ln_1 a2 a3 a4 hw (Or.inr (Or.inl rfl))⟩
  · subst e
    rw [if_neg (show ¬ nI (14 - 9) = 0 by decide), if_neg (show ¬ nI (14 - 9) = 1 by decide), if_neg (show ¬ nI (14 - 9) = 2 by decide), if_neg (show ¬ nI (14 - 9) = 3 by decide), if_neg (show ¬ nI (14 - 9) = 4 by decide), if_pos (show nI (14 - 9) = 5 from rfl)]
    exact ⟨_, rfl, ln_0 h hw (Or.inr (Or.inl rfl))⟩
  · subst e
    rw [if_neg (show ¬ nI (15 - 9) = 0 by decide), if_neg (show ¬ nI (15 - 9) = 1 by decide), if_neg (show ¬ nI (15 - 9) = 2 by decide), if_neg (show ¬ nI (15 - 9) = 3 by decide), if_neg (show ¬ nI (15 - 9) = 4 by decide), if_neg (show ¬ nI (15 - 9) = 5 by decide), if_pos (show nI (15 - 9) = 6 from rfl)]
    exact ⟨_, rfl, ln_0 h hw (Or.inr (Or.inr (Or.inl rfl)))⟩
  · subst e
    rw [if_neg (show ¬ nI (16 - 9) = 0 by decide), if_neg (show ¬ nI (16 - 9) = 1 by decide), if_neg (show ¬ nI (16 - 9) = 2 by decide), if_neg (show ¬ nI (16 - 9) = 3 by decide), if_neg (show ¬ nI (16 - 9) = 4 by decide), if_neg (show ¬ nI (16 - 9) = 5 by decide), if_neg (show ¬ nI (16 - 9) = 6 by decide), if_pos (show nI (16 - 9) = 7 from rfl)]
    exact ⟨_, rfl, ln_0 h hw (Or.inr (Or.inr (Or.inr rfl)))⟩
  · subst e
    rw [if_neg (show ¬ nI (17 - 9) = 0 by decide), if_neg (show ¬ nI (17 - 9) = 1 by decide), if_neg (show ¬ nI (17 - 9) = 2 by decide), if_neg (show ¬ nI (17 - 9) = 3 by decide), if_neg (show ¬ nI (17 - 9) = 4 by decide), if_neg (show ¬ nI (17 - 9) = 5 by decide), if_neg (show ¬ nI (17 - 9) = 6 by decide), if_neg (show ¬ nI (17 - 9) = 7 by decide), Option.bind_some]
    obtain ⟨G1, v1, a1, a2, a3, a4⟩ := m_told h hS hN h4 hok hd
    rw [m_indexes hP, ci_some, hPN, a1, ci_some, show nI i0 + 1 = nI (i0 + 1) from nI_add i0 1, uu_Md_lines _ (by omega), Option.bind_some]
    exact ⟨_, rfl, ln_1 a2 a3 a4 hw (Or.inr (Or.inr rfl))⟩
end MWK
