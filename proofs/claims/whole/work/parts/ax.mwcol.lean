/-! THE REFERENCE: LIMITS of a column -/
def dlE (Q : Nat → Prop) (G G' : GG) : Prop := (∀ n, n ≠ 618 → n ≠ 625 → G'.1 n = G.1 n) ∧ G'.2 = G.2 ∧ (∀ k, k ≠ 7 → k ≠ 8 → G'.1 618 k = G.1 618 k) ∧ ∀ k, ¬ Q k → G'.1 625 k = G.1 625 k
theorem dlE.rf {Q : Nat → Prop} {G : GG} : dlE Q G G := ⟨fun _ _ _ => rfl, rfl, fun _ _ _ => rfl, fun _ _ => rfl⟩
theorem dlE.tr {Q : Nat → Prop} {G1 G2 G3 : GG} (h1 : dlE Q G1 G2) (h2 : dlE Q G2 G3) : dlE Q G1 G3 := ⟨fun n a b => (h2.1 n a b).trans (h1.1 n a b), h2.2.1.trans h1.2.1, fun k a b => (h2.2.2.1 k a b).trans (h1.2.2.1 k a b), fun k a => (h2.2.2.2 k a).trans (h1.2.2.2 k a)⟩
theorem dlE.mono {Q R : Nat → Prop} {G G' : GG} (h : dlE Q G G') (hq : ∀ k, Q k → R k) : dlE R G G' := ⟨h.1, h.2.1, h.2.2.1, fun k hk => h.2.2.2 k (fun q => hk (hq k q))⟩
theorem dlE.gsi {Q : Nat → Prop} {G : GG} {k : Nat} {v : Int32} (h : Q k) : dlE Q G (gsi G 625 k v) := ⟨fun n _ b => f6o _ _ b, rfl, fun k _ _ => by rw [f6o _ _ (by decide)], fun j hj => fdn _ _ (fun q => hj (by rw [q]; exact h))⟩
theorem mrE.dl {Q : Nat → Prop} {G G' : GG} (h : mrE G G') : dlE Q G G' := ⟨fun n a _ => h.1 n a, h.2.1, h.2.2, fun k _ => by rw [h.1 625 (by decide)]⟩
theorem mrE.w {G G' : GG} (h : mrE G G') : G'.1 625 = G.1 625 := h.1 625 (by decide)
def pLimC (S : List Nat) (op no : Bool) (c j : Nat) : Nat ⊕ (Lim × Nat) := if isW S 31 j then thn (pOne S 25 27 (j + 1)) fun v j2 => .inr ((op, no, 31, c, v, v), j2) else if isW S 30 j then thn (pNum S 0 999 (j + 1)) fun v j2 => .inr ((op, no, 28, c, v, v), j2) else thn (pWd S 28 j) fun _ j2 => thn (pNum S 0 999 j2) fun lo j3 => thn (pWd S 29 j3) fun _ j4 => thn (pNum S 0 999 j4) fun hi j5 => .inr ((op, no, 28, c, lo, hi), j5)
section MCL
variable {G G' : GG} {S : List Nat} {e j i0 : Nat} {op no : Bool} {c : Nat}
theorem m_readColumn (h : RMd G S 0 j) (hS : S.length ≤ 1000) (hi : i0 + 5 < 292) (h1 : G.1 625 (i0 + 1) = b2 no) (h3 : G.1 625 (i0 + 3) = nI c) : ∃ G', f_Md_readColumn [.ref 618, .int (nI i0)] (hp G) = some (none, hp G') ∧ RX G' S (pLimC S op no c j) ∧ (∀ l j2, pLimC S op no c j = .inr (l, j2) → isML G' i0 l) ∧ dlE (fun k => k = i0 + 2 ∨ k = i0 + 4 ∨ k = i0 + 5) G G' := by
  have a2 : nI i0 + 2 = nI (i0 + 2) := nI_add i0 2
  have a4 : nI i0 + 4 = nI (i0 + 4) := nI_add i0 4
  have a5 : nI i0 + 5 = nI (i0 + 5) := nI_add i0 5
  obtain ⟨G1, r1, r2, r3⟩ := m_hasWord h (w := 28) (by decide)
  rw [e_Md_readColumn 618 _ _ (ob_Md G), show f_Md_hasWord [.ref 618, .int 28] (hp G) = _ from r1, ci_some]
  unfold pLimC
  by_cases w28 : isW S 28 j = true
  · have q28 : wrd S 0 j = some 28 := (isW_wr (i := 28) (by decide)).mpr w28
    rw [if_pos q28] at r2
    rw [isW_ne w28 (show (28 : Nat) ≠ 31 by decide), isW_ne w28 (show (28 : Nat) ≠ 30 by decide), decide_eq_true q28, if_neg (show ¬ b2 true = 0 by decide), if_neg (show ¬ false = true by decide), if_neg (show ¬ false = true by decide), gg_Md_wheres, Option.bind_some, a2, uu_Md_wheres _ (by omega), Option.bind_some, gg_Md_wheres, Option.bind_some]
    have R1 := r2.arr (n := 625) (k := i0 + 2) (v := 0) (by decide)
    have D1 : dlE (fun k => k = i0 + 2 ∨ k = i0 + 4 ∨ k = i0 + 5) G (gsi G1 625 (i0 + 2) 0) := r3.dl.tr (dlE.gsi (Or.inl rfl))
    have c2 : (gsi G1 625 (i0 + 2) 0).1 625 (i0 + 2) = 0 := fd _ _ _ _
    generalize gsi G1 625 (i0 + 2) 0 = G2 at R1 D1 c2 ⊢
    obtain ⟨G3, lo, s1, s2, s3, s4⟩ := m_num (x := (.inr ((), j + 1) : Nat ⊕ (Unit × Nat))) R1 hS (lo := 0) (hi := 999) (by decide) (by decide)
    rw [show f_Md_takeNumber [.ref 618, .int 0, .int 999] (hp G2) = _ from s1, ci_some, a4, uu_Md_wheres _ (by omega), Option.bind_some, gg_Md_wheres, Option.bind_some]
    have R3 := s2.arr (n := 625) (k := i0 + 4) (v := lo) (by decide)
    have D3 : dlE (fun k => k = i0 + 2 ∨ k = i0 + 4 ∨ k = i0 + 5) G (gsi G3 625 (i0 + 4) lo) := (D1.tr s4.dl).tr (dlE.gsi (Or.inr (Or.inl rfl)))
    have c2' : (gsi G3 625 (i0 + 4) lo).1 625 (i0 + 2) = 0 := by rw [fdn _ _ (by omega), s4.w]; exact c2
    have c4 : (gsi G3 625 (i0 + 4) lo).1 625 (i0 + 4) = lo := fd _ _ _ _
    generalize gsi G3 625 (i0 + 4) lo = G4 at R3 D3 c2' c4 ⊢
    obtain ⟨G5, hi', t1, t2, t3, t4⟩ := m_after R3 hS (i := 29) (by decide) (lo := 0) (hi' := 999) (by decide) (by decide)
    rw [show f_Md_takeAfter [.ref 618, .int 29, .int 0, .int 999] (hp G4) = _ from t1, ci_some, a5, uu_Md_wheres _ (by omega), Option.bind_some]
    have R5 := t2.arr (n := 625) (k := i0 + 5) (v := hi') (by decide)
    have D5 : dlE (fun k => k = i0 + 2 ∨ k = i0 + 4 ∨ k = i0 + 5) G (gsi G5 625 (i0 + 5) hi') := (D3.tr t4.dl).tr (dlE.gsi (Or.inr (Or.inr rfl)))
    have d2 : (gsi G5 625 (i0 + 5) hi').1 625 (i0 + 2) = 0 := by rw [fdn _ _ (by omega), t4.w]; exact c2'
    have d4 : (gsi G5 625 (i0 + 5) hi').1 625 (i0 + 4) = lo := by rw [fdn _ _ (by omega), t4.w]; exact c4
    have d5 : (gsi G5 625 (i0 + 5) hi').1 625 (i0 + 5) = hi' := fd _ _ _ _
    generalize gsi G5 625 (i0 + 5) hi' = G6 at R5 D5 d2 d4 d5 ⊢
    refine ⟨G6, rfl, ?_⟩
    rw [show pWd S 28 j = .inr (0, j + 1) from by unfold pWd; rw [if_pos w28], thn_r]
    rw [thn_r] at s3 t3 R5
    cases hp1 : pNum S 0 999 (j + 1) with
    | inl e => rw [hp1] at R5; exact ⟨R5, fun l j2 q => (by cases q), D5⟩
    | inr p1 =>
      obtain ⟨lo', j3⟩ := p1
      have el := s3 lo' j3 hp1
      rw [hp1, thn_r] at t3 R5
      rw [thn_r]
      cases hp2 : pWd S 29 j3 with
      | inl e => rw [hp2] at R5; exact ⟨R5, fun l j2 q => (by cases q), D5⟩
      | inr p2 =>
        obtain ⟨u, j4⟩ := p2
        rw [hp2, thn_r] at t3 R5
        rw [thn_r]
        cases hp3 : pNum S 0 999 j4 with
        | inl e => rw [hp3] at R5; exact ⟨R5, fun l j2 q => (by cases q), D5⟩
        | inr p3 =>
          obtain ⟨hi2, j5⟩ := p3
          have eh := t3 hi2 j5 hp3
          rw [hp3] at R5
          refine ⟨R5, fun l j2 q => ?_, D5⟩
          cases q
          exact ⟨by rw [D5.2.2.2 _ (by omega)]; exact h1, Or.inl ⟨rfl, by rw [D5.2.2.2 _ (by omega)]; exact h3, by rw [d4, el]; rfl, Or.inl ⟨d2, by rw [d5, eh]; rfl⟩⟩⟩
  · have q28 : ¬ wrd S 0 j = some 28 := fun q => w28 ((isW_wr (i := 28) (by decide)).mp q)
    rw [if_neg q28] at r2
    obtain ⟨G2, u1, u2, u3⟩ := m_hasWord r2 (w := 30) (by decide)
    rw [decide_eq_false q28, if_pos (show b2 false = 0 from rfl), show f_Md_hasWord [.ref 618, .int 30] (hp G1) = _ from u1, ci_some]
    by_cases w30 : isW S 30 j = true
    · have q30 : wrd S 0 j = some 30 := (isW_wr (i := 30) (by decide)).mpr w30
      rw [if_pos q30] at u2
      rw [isW_ne w30 (show (30 : Nat) ≠ 31 by decide), w30, decide_eq_true q30, if_neg (show ¬ b2 true = 0 by decide), if_neg (show ¬ false = true by decide), if_pos (show true = true from rfl), gg_Md_wheres, Option.bind_some, a2, uu_Md_wheres _ (by omega), Option.bind_some, gg_Md_wheres, Option.bind_some]
      have R1 := u2.arr (n := 625) (k := i0 + 2) (v := 1) (by decide)
      have D1 : dlE (fun k => k = i0 + 2 ∨ k = i0 + 4 ∨ k = i0 + 5) G (gsi G2 625 (i0 + 2) 1) := (r3.tr u3).dl.tr (dlE.gsi (Or.inl rfl))
      have c2 : (gsi G2 625 (i0 + 2) 1).1 625 (i0 + 2) = 1 := fd _ _ _ _
      generalize gsi G2 625 (i0 + 2) 1 = G3 at R1 D1 c2 ⊢
      obtain ⟨G4, v, s1, s2, s3, s4⟩ := m_num (x := (.inr ((), j + 1) : Nat ⊕ (Unit × Nat))) R1 hS (lo := 0) (hi := 999) (by decide) (by decide)
      rw [show f_Md_takeNumber [.ref 618, .int 0, .int 999] (hp G3) = _ from s1, ci_some, a4, uu_Md_wheres _ (by omega), Option.bind_some]
      have R3 := s2.arr (n := 625) (k := i0 + 4) (v := v) (by decide)
      have D3 : dlE (fun k => k = i0 + 2 ∨ k = i0 + 4 ∨ k = i0 + 5) G (gsi G4 625 (i0 + 4) v) := (D1.tr s4.dl).tr (dlE.gsi (Or.inr (Or.inl rfl)))
      have c2' : (gsi G4 625 (i0 + 4) v).1 625 (i0 + 2) = 1 := by rw [fdn _ _ (by omega), s4.w]; exact c2
      have c4 : (gsi G4 625 (i0 + 4) v).1 625 (i0 + 4) = v := fd _ _ _ _
      generalize gsi G4 625 (i0 + 4) v = G5 at R3 D3 c2' c4 ⊢
      refine ⟨G5, rfl, ?_⟩
      rw [thn_r] at s3 R3
      cases hp1 : pNum S 0 999 (j + 1) with
      | inl e => rw [hp1] at R3; exact ⟨R3, fun l j2 q => (by cases q), D3⟩
      | inr p1 =>
        obtain ⟨v', j3⟩ := p1
        have ev := s3 v' j3 hp1
        rw [hp1] at R3
        refine ⟨R3, fun l j2 q => ?_, D3⟩
        cases q
        exact ⟨by rw [D3.2.2.2 _ (by omega)]; exact h1, Or.inl ⟨rfl, by rw [D3.2.2.2 _ (by omega)]; exact h3, by rw [c4, ev]; rfl, Or.inr ⟨c2', rfl⟩⟩⟩
    · have q30 : ¬ wrd S 0 j = some 30 := fun q => w30 ((isW_wr (i := 30) (by decide)).mp q)
      have w30' : isW S 30 j = false := Bool.eq_false_iff.2 w30
      have w28' : isW S 28 j = false := Bool.eq_false_iff.2 w28
      rw [if_neg q30] at u2
      obtain ⟨G3, x1, x2, x3⟩ := m_wd (x := (.inr ((), j) : Nat ⊕ (Unit × Nat))) u2 hS (i := 31) (by decide)
      rw [decide_eq_false q30, if_pos (show b2 false = 0 from rfl), show f_Md_takeWord [.ref 618, .int 31] (hp G2) = _ from x1, cv_some, gg_Md_wheres, Option.bind_some, a2, uu_Md_wheres _ (by omega), Option.bind_some, gg_Md_wheres, Option.bind_some]
      have R1 := x2.arr (n := 625) (k := i0 + 2) (v := 2) (by decide)
      have D1 : dlE (fun k => k = i0 + 2 ∨ k = i0 + 4 ∨ k = i0 + 5) G (gsi G3 625 (i0 + 2) 2) := ((r3.tr u3).tr x3).dl.tr (dlE.gsi (Or.inl rfl))
      have c2 : (gsi G3 625 (i0 + 2) 2).1 625 (i0 + 2) = 2 := fd _ _ _ _
      generalize gsi G3 625 (i0 + 2) 2 = G4 at R1 D1 c2 ⊢
      obtain ⟨G5, v, s1, s2, s3, s4⟩ := m_one R1 hS fol_col (by decide) (by decide)
      rw [show f_Md_takeOne [.ref 618, .int 23, .int 3] (hp G4) = _ from s1, ci_some, a4, uu_Md_wheres _ (by omega), Option.bind_some]
      have R3 := s2.arr (n := 625) (k := i0 + 4) (v := v) (by decide)
      have D3 : dlE (fun k => k = i0 + 2 ∨ k = i0 + 4 ∨ k = i0 + 5) G (gsi G5 625 (i0 + 4) v) := (D1.tr s4.dl).tr (dlE.gsi (Or.inr (Or.inl rfl)))
      have c2' : (gsi G5 625 (i0 + 4) v).1 625 (i0 + 2) = 2 := by rw [fdn _ _ (by omega), s4.w]; exact c2
      have c4 : (gsi G5 625 (i0 + 4) v).1 625 (i0 + 4) = v := fd _ _ _ _
      generalize gsi G5 625 (i0 + 4) v = G6 at R3 D3 c2' c4 ⊢
      refine ⟨G6, rfl, ?_⟩
      rw [thn_r] at s3 R3
      rw [w30', if_neg (show ¬ false = true by decide)]
      cases hw : isW S 31 j
      · rw [show pWd S 31 j = .inl (fau S 1 j) from by unfold pWd; rw [hw]; rfl] at R3
        rw [if_neg (show ¬ false = true by decide), show pWd S 28 j = .inl (fau S 1 j) from by unfold pWd; rw [w28']; rfl]
        exact ⟨R3, fun l j2 q => (by cases q), D3⟩
      · rw [show pWd S 31 j = .inr (0, j + 1) from by unfold pWd; rw [hw]; rfl, thn_r] at R3 s3
        rw [if_pos (show true = true from rfl)]
        cases hp1 : pOne S 25 27 (j + 1) with
        | inl e => rw [hp1] at R3; exact ⟨R3, fun l j2 q => (by cases q), D3⟩
        | inr p1 =>
          obtain ⟨v', j3⟩ := p1
          have ev := s3 v' j3 hp1
          rw [hp1] at R3
          refine ⟨R3, fun l j2 q => ?_, D3⟩
          cases q
          exact ⟨by rw [D3.2.2.2 _ (by omega)]; exact h1, Or.inr (Or.inl ⟨rfl, c2', by rw [D3.2.2.2 _ (by omega)]; exact h3, by rw [c4, ev]; rfl⟩)⟩
end MCL
