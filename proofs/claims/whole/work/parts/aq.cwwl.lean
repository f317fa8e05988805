/-! READER (the class): the lines of a WORK -/
def wkE (l : Nat) (G G' : GG) : Prop := eqOff (fun n => n = 2 ∨ n = 6 ∨ (l ≤ n ∧ n ≤ l + 2)) G G' ∧ G'.2.2 6 = G.2.2 6
theorem wkE.rf {l : Nat} {G : GG} : wkE l G G := ⟨eqOff.rf, rfl⟩
theorem wkE.tr {l : Nat} {G1 G2 G3 : GG} (h1 : wkE l G1 G2) (h2 : wkE l G2 G3) : wkE l G1 G3 := ⟨h1.1.tr h2.1, h2.2.trans h1.2⟩
theorem rdE.wk {l : Nat} {G G' : GG} (h : rdE G G') : wkE l G G' := ⟨h.1.mono (fun n hn => by omega), h.2.1⟩
theorem nmE.wk {l i : Nat} {G G' : GG} (h : nmE l i G G') : wkE l G G' := ⟨h.1.mono (fun n hn => by omega), h.2.1⟩
def RLn (G : GG) (S : List Nat) (d l : Nat) (N : List (List Nat × Nat × Nat)) (K : List LI) (j : Nat) : Prop := RD G S j ∧ isNs G d N ∧ isLn G l K ∧ G.2.2 6 1 = d ∧ G.2.2 6 2 = l
def cWl (S : List Nat) (d l : Nat) (N : List (List Nat × Nat × Nat)) (K : List LI) (fr : GG → Prop) (x : Option (Option Value × mm_H)) : Nat ⊕ (LI × Nat) → Prop
  | .inl e => e ≠ 0 ∧ ∃ G', x = some (some (.int 0), hp G') ∧ G'.1 6 3 = nI e ∧ fr G'
  | .inr (t, j) => ∃ G', x = some (some (.int 1), hp G') ∧ RLn G' S d l N (K ++ [t]) j ∧ fr G'
theorem isLi.cg {G G' : GG} {l i : Nat} {t : LI} (h : isLi G l i t) (e1 : G'.1 (l + 1) i = G.1 (l + 1) i) (e2 : ∀ q, i * 3 ≤ q → q < i * 3 + 3 → G'.1 (l + 2) q = G.1 (l + 2) q) : isLi G' l i t := by
  obtain ⟨h1, h2, h3⟩ := h
  exact ⟨by rw [e1]; exact h1, fun q => by rw [e2 _ (by omega) (by omega)]; exact h2 q, fun q => by rw [e2 _ (by omega) (by omega), e2 _ (by omega) (by omega)]; exact h3 q⟩
section RWN
variable {G G' : GG} {S : List Nat} {j d l i w : Nat} {N : List (List Nat × Nat × Nat)} {K : List LI}
theorem nmE.w1 (h : nmE l i G G') (hl : adLn l) : G'.1 (l + 1) = G.1 (l + 1) := (h.1 (l + 1) (fun q => by have := hl.lo; omega)).1
theorem c_wkn (h : RD G S j) (hl : adLn l) (hd : adPl d) (hi : i < 40) (hr1 : G.2.2 6 1 = d) (hr : G.2.2 6 2 = l) (hN : isNs G d N) (hw : G.1 (l + 1) i = nI w) (hw9 : 9 ≤ w ∧ w ≤ 17) : cWk S l i (nmE l i G) (f_Rd_workNumbers [.ref 6, .int (nI i)] (hp G)) (pWk S N w j) := by
  rw [e_Rd_workNumbers 6 _ _ (ob_Rd G), gg_Rd_lines, Option.bind_some, hr, gg_Ln_word _ hl.ok, Option.bind_some, rr_Ln_word _ hl.ok hi, Option.bind_some, hw]
  unfold pWk
  have alone : isLi G l i (w, 0, 0, 0) ∨ w = 9 ∨ w = 10 ∨ w = 11 ∨ w = 13 ∨ w = 17 := by
    by_cases q : w = 9 ∨ w = 10 ∨ w = 11 ∨ w = 13 ∨ w = 17
    · exact Or.inr q
    · exact Or.inl ⟨hw, fun e => absurd e q, fun e => absurd (show w = 9 ∨ w = 11 from e) (by omega)⟩
  -- one number alone
  have one : ∀ {X0 : Option (Option Value × mm_H)} {r : Nat ⊕ (Nat × Nat)}, w = 10 ∨ w = 13 ∨ w = 17 → cRes S (rdE G) X0 r → cWk S l i (nmE l i G) (mm_ci X0 fun x h => if x = 0 then some (some (.int 0), h) else (mm_gr 6 2 h 6).bind fun r6 => (mm_gi 6 4 h 6).bind fun x7 => mm_ci (f_Ln_keep [.ref r6, .int (nI i), .int 0, .int x7] h) fun x9 h8 => if x9 = 0 then some (some (.int 0), h8) else some (some (.int 1), h8)) (thn r fun x j => .inr ((w, x, 0, 0), j)) := by
    intro X0 r hw' hX
    have k1 := c_kp hl hi (c := 0) (by decide) hr hX
    cases r with
    | inl e =>
      obtain ⟨e0, G1, r1, r2, r3⟩ := k1
      exact cWk.of (r1 _) ⟨e0, G1, rfl, r2, r3⟩
    | inr q =>
      obtain ⟨v, j2⟩ := q
      obtain ⟨G1, r1, r2, r3, r4, r5⟩ := k1
      refine cWk.of (r1 _) ⟨G1, rfl, r2, ⟨by rw [r5.w1 hl]; exact hw, fun _ => r3, fun e => absurd (show w = 9 ∨ w = 11 from e) (by omega)⟩, r5⟩
  by_cases c9 : w = 9
  · subst c9
    rw [if_pos (show nI 9 = (9 : Int32) from rfl), if_pos (show (9 : Nat) = 9 from rfl)]
    have k1 := c_kp hl hi (c := 0) (by decide) hr (c_takeNumber h (lo := 0) (hi := 999) (by decide) (by decide))
    cases hp1 : pNum S 0 999 j with
    | inl e =>
      rw [hp1] at k1
      obtain ⟨e0, G1, r1, r2, r3⟩ := k1
      exact cWk.of (r1 _) ⟨e0, G1, rfl, r2, r3⟩
    | inr q =>
      obtain ⟨x, j1⟩ := q
      rw [hp1] at k1
      obtain ⟨G1, r1, r2, r3, r4, r5⟩ := k1
      refine cWk.of (r1 _) ?_
      rw [thn_r]
      have k2 := c_kp hl hi (c := 1) (by decide) (by rw [r5.2.1]; exact hr) (c_takeNumber r2 (lo := 0) (hi := 999) (by decide) (by decide))
      cases hp2 : pNum S 0 999 j1 with
      | inl e =>
        rw [hp2] at k2
        obtain ⟨e0, G2, s1, s2, s3⟩ := k2
        exact cWk.of (s1 _) ⟨e0, G2, rfl, s2, r5.tr s3⟩
      | inr q =>
        obtain ⟨y, j2⟩ := q
        rw [hp2] at k2
        obtain ⟨G2, s1, s2, s3, s4, s5⟩ := k2
        refine cWk.of (s1 _) ?_
        rw [thn_r]
        have k3 := c_kp hl hi (c := 2) (by decide) (by rw [s5.2.1, r5.2.1]; exact hr) (c_takeNumber s2 (lo := 0) (hi := 999) (by decide) (by decide))
        cases hp3 : pNum S 0 999 j2 with
        | inl e =>
          rw [hp3] at k3
          obtain ⟨e0, G3, t1, t2, t3⟩ := k3
          exact cWk.of (t1 _) ⟨e0, G3, rfl, t2, (r5.tr s5).tr t3⟩
        | inr q =>
          obtain ⟨z, j3⟩ := q
          rw [hp3] at k3
          obtain ⟨G3, t1, t2, t3, t4, t5⟩ := k3
          exact cWk.of (t1 _) ⟨G3, rfl, t2, ⟨by rw [t5.w1 hl, s5.w1 hl, r5.w1 hl]; exact hw, fun _ => by rw [t4 _ (by omega), s4 _ (by omega)]; exact r3, fun _ => ⟨by rw [t4 _ (by omega)]; exact s3, t3⟩⟩, (r5.tr s5).tr t5⟩
  rw [if_neg (show ¬ nI w = (9 : Int32) from ln (n := 9) c9 (by omega) (by decide)), if_neg c9]
  by_cases c10 : w = 10
  · rw [if_pos (show nI w = (10 : Int32) from lq (n := 10) c10), if_pos c10]
    exact one (Or.inl c10) (c_takeNumber h (lo := 0) (hi := 29) (by decide) (by decide))
  rw [if_neg (show ¬ nI w = (10 : Int32) from ln (n := 10) c10 (by omega) (by decide)), if_neg c10]
  by_cases c11 : w = 11
  · subst c11
    rw [if_pos (show nI 11 = (11 : Int32) from rfl), if_pos (show (11 : Nat) = 11 from rfl)]
    have k1 := c_kp hl hi (c := 0) (by decide) hr (c_takeNumber h (lo := 0) (hi := 29) (by decide) (by decide))
    cases hp1 : pNum S 0 29 j with
    | inl e =>
      rw [hp1] at k1
      obtain ⟨e0, G1, r1, r2, r3⟩ := k1
      exact cWk.of (r1 _) ⟨e0, G1, rfl, r2, r3⟩
    | inr q =>
      obtain ⟨x, j1⟩ := q
      rw [hp1] at k1
      obtain ⟨G1, r1, r2, r3, r4, r5⟩ := k1
      refine cWk.of (r1 _) ?_
      rw [thn_r]
      have k2 := c_kp hl hi (c := 1) (by decide) (by rw [r5.2.1]; exact hr) (c_takeOneOf r2 (a := 25) (b := 27) (by decide) (by decide))
      cases hp2 : pOne S 25 27 j1 with
      | inl e =>
        rw [hp2] at k2
        obtain ⟨e0, G2, s1, s2, s3⟩ := k2
        exact cWk.of (s1 _) ⟨e0, G2, rfl, s2, r5.tr s3⟩
      | inr q =>
        obtain ⟨y, j2⟩ := q
        rw [hp2] at k2
        obtain ⟨G2, s1, s2, s3, s4, s5⟩ := k2
        refine cWk.of (s1 _) ?_
        rw [thn_r]
        have k3 := c_kp hl hi (c := 2) (by decide) (by rw [s5.2.1, r5.2.1]; exact hr) (c_takeNumber s2 (lo := 0) (hi := 999) (by decide) (by decide))
        cases hp3 : pNum S 0 999 j2 with
        | inl e =>
          rw [hp3] at k3
          obtain ⟨e0, G3, t1, t2, t3⟩ := k3
          exact cWk.of (t1 _) ⟨e0, G3, rfl, t2, (r5.tr s5).tr t3⟩
        | inr q =>
          obtain ⟨z, j3⟩ := q
          rw [hp3] at k3
          obtain ⟨G3, t1, t2, t3, t4, t5⟩ := k3
          exact cWk.of (t1 _) ⟨G3, rfl, t2, ⟨by rw [t5.w1 hl, s5.w1 hl, r5.w1 hl]; exact hw, fun _ => by rw [t4 _ (by omega), s4 _ (by omega)]; exact r3, fun _ => ⟨by rw [t4 _ (by omega)]; exact s3, t3⟩⟩, (r5.tr s5).tr t5⟩
  rw [if_neg (show ¬ nI w = (11 : Int32) from ln (n := 11) c11 (by omega) (by decide)), if_neg c11]
  by_cases c13 : w = 13
  · subst c13
    rw [if_neg (show ¬ nI 13 = (12 : Int32) by decide), if_pos (show nI 13 = (13 : Int32) from rfl), if_pos (show (13 : Nat) = 13 from rfl)]
    exact one (Or.inr (Or.inl rfl)) (c_takeNumber h (lo := 1) (hi := 99) (by decide) (by decide))
  by_cases c17 : w = 17
  · subst c17
    rw [if_neg (show ¬ nI 17 = (12 : Int32) by decide), if_neg (show ¬ nI 17 = (13 : Int32) by decide), if_neg (show ¬ nI 17 = (14 : Int32) by decide), if_neg (show ¬ nI 17 = (15 : Int32) by decide), if_neg (show ¬ nI 17 = (16 : Int32) by decide), if_pos (show nI 17 = (17 : Int32) from rfl), if_neg (show ¬ (17 : Nat) = 13 by decide), if_pos (show (17 : Nat) = 17 from rfl)]
    exact one (Or.inr (Or.inr rfl)) (c_takeName h hd hr1 hN)
  rw [if_neg (show ¬ nI w = (13 : Int32) from ln (n := 13) c13 (by omega) (by decide)), if_neg (show ¬ nI w = (17 : Int32) from ln (n := 17) c17 (by omega) (by decide)), if_neg c13, if_neg c17, ite_self, ite_self, ite_self, ite_self]
  exact ⟨G, rfl, h, alone.elim id (fun q => by omega), nmE.rf⟩
theorem c_wl (h : RLn G S d l N K j) (hl : adLn l) (hd : adPl d) (h40 : K.length ≤ 40) : cWl S d l N K (wkE l G) (f_Rd_workLine [.ref 6] (hp G)) (pWl S N K.length j) := by
  obtain ⟨hR, hN, hK, q1, q2⟩ := h
  have hlo := hl.lo
  have hfar : ∀ n, n = d ∨ n = d + 3 → ¬ (n = 2 ∨ n = 6 ∨ (l ≤ n ∧ n ≤ l + 2)) := fun n hn q => by rcases hd with e | e | e <;> rcases hl with e' | e' | e' <;> omega
  rw [e_Rd_workLine 6 _ (ob_Rd G), gg_Rd_tape, Option.bind_some, show f_Tp_isBetween [.ref 2, .int 9, .int 17] (hp G) = _ from c_isBetween hR (a := 9) (b := 17) (by decide) (by decide), ci_some]
  unfold pWl
  cases hB : isB S 9 17 j
  · obtain ⟨G1, r1, r2, r3⟩ := c_wrong hR 1
    rw [if_pos (show b2 false = 0 from rfl), if_neg (show ¬ false = true by decide), show f_Rd_wrong [.ref 6, .int 1] (hp G) = _ from r1, ci_some, if_pos (Or.inl rfl)]
    exact ⟨fau_ne S (Nat.le_refl 1) j, G1, rfl, r2, r3.wk⟩
  · obtain ⟨w1, w2, w3, w4, -⟩ := isB_wN hB
    have hv : G.1 2 7 = nI (wN S j) := by rw [hR.va]; unfold valI wxI; rw [if_pos w1, w2]
    rw [if_neg (show ¬ b2 true = 0 by decide), if_pos (show true = true from rfl), gg_Rd_lines, Option.bind_some, q2, gg_Ln_told _ hl.ok, Option.bind_some, hK.1]
    by_cases h40' : 40 ≤ K.length
    · obtain ⟨G1, r1, r2, r3⟩ := c_wrong hR 5
      rw [if_neg (show ¬ nI K.length < (40 : Int32) from lm (n := 40) h40' (by omega)), if_pos h40', show f_Rd_wrong [.ref 6, .int 5] (hp G) = _ from r1, ci_some, if_pos (Or.inl rfl)]
      exact ⟨fau_ne S (by decide) j, G1, rfl, r2, r3.wk⟩
    · rw [if_pos (show nI K.length < (40 : Int32) from lp (n := 40) (by omega) (by decide)), if_neg h40', Option.bind_some, gg_Ln_word _ hl.ok, Option.bind_some, gg_Rd_tape, Option.bind_some, gg_Tp_value, Option.bind_some, hv, uu_Ln_word _ hl.ok (by omega), Option.bind_some, gg_Rd_tape, Option.bind_some]
      have R1 : RD (gsi G (l + 1) K.length (nI (wN S j))) S j := hR.off (W := fun m => m = l + 1) (eqOff.gsi _ _ rfl) (fun m h1 h2 => by omega)
      have E1 : wkE l G (gsi G (l + 1) K.length (nI (wN S j))) := ⟨eqOff.gsi _ _ (by omega), rfl⟩
      have L1 : ∀ i (h : i < K.length), isLi (gsi G (l + 1) K.length (nI (wN S j))) l i K[i] := fun i hi => (hK.2 i hi).cg (fdn _ _ (by omega)) (fun q _ _ => by rw [fdo _ _ (by omega)])
      have k1 : (gsi G (l + 1) K.length (nI (wN S j))).1 (l + 1) K.length = nI (wN S j) := fd _ _ _ _
      have t1 : (gsi G (l + 1) K.length (nI (wN S j))).1 l 2 = nI K.length := by rw [fdo _ _ (by omega)]; exact hK.1
      generalize gsi G (l + 1) K.length (nI (wN S j)) = G1 at R1 E1 L1 k1 t1 ⊢
      obtain ⟨G2, s1, s2, s3, -⟩ := c_on R1
      have E2 := E1.tr s3.wk
      have far2 : ∀ o, o ≤ 2 → G2.1 (l + o) = G1.1 (l + o) := fun o ho => (s3.1 (l + o) (fun q => by omega)).1
      have far0 : G2.1 l = G1.1 l := far2 0 (by decide)
      rw [s1, cv_some]
      have hW := c_wkn s2 hl hd (i := K.length) (by omega) (by rw [E2.2]; exact q1) (by rw [E2.2]; exact q2) (hN.off E2.1 ⟨hfar d (Or.inl rfl), hfar (d + 3) (Or.inr rfl)⟩) (by rw [far2 1 (by decide)]; exact k1) ⟨w3, w4⟩
      cases hp1 : pWk S N (wN S j) (j + 1) with
      | inl e =>
        rw [hp1] at hW
        obtain ⟨e0, G3, u1, u2, u3⟩ := hW
        rw [u1, ci_some, if_pos rfl, thn_l]
        exact ⟨e0, G3, rfl, u2, E2.tr u3.wk⟩
      | inr tj =>
        obtain ⟨t, j2⟩ := tj
        rw [hp1] at hW
        obtain ⟨G3, u1, u2, u3, u4⟩ := hW
        have E3 := E2.tr u4.wk
        have far3 : G3.1 l = G2.1 l := (u4.1 l (fun q => by omega)).1
        rw [u1, ci_some, if_neg (by decide), gg_Rd_lines, Option.bind_some, E3.2, q2, gg_Ln_told _ hl.ok, Option.bind_some, far3, far0, t1, show nI K.length + 1 = nI (K.length + 1) from nI_add _ 1, ww_Ln_told _ hl.ok, Option.bind_some, thn_r]
        have R4 : RD (gsi G3 l 2 (nI (K.length + 1))) S j2 := u2.off (W := fun m => m = l) (eqOff.gsi _ _ rfl) (fun m h1 h2 => by omega)
        have E4 : wkE l G (gsi G3 l 2 (nI (K.length + 1))) := E3.tr ⟨eqOff.gsi _ _ (by omega), rfl⟩
        have L4 : isLn (gsi G3 l 2 (nI (K.length + 1))) l (K ++ [t]) := by
          refine ⟨by rw [fd, List.length_append]; rfl, fun i hi => ?_⟩
          have e1 : ∀ o, 1 ≤ o → (gsi G3 l 2 (nI (K.length + 1))).1 (l + o) = G3.1 (l + o) := fun o ho => fdo _ _ (by omega)
          refine get_snoc (l := K) hi (fun t => isLi _ l i t) (fun e => ?_) (fun hlt => ?_)
          · rw [e]; exact u3.cg (by rw [e1 1 (by decide)]) (fun q _ _ => by rw [e1 2 (by decide)])
          · refine (L1 i hlt).cg (by rw [e1 1 (by decide), u4.w1 hl, far2 1 (by decide)]) (fun q _ hq => by rw [e1 2 (by decide), u4.2.2 q (by omega), far2 2 (by decide)])
        generalize gsi G3 l 2 (nI (K.length + 1)) = G4 at R4 E4 L4 ⊢
        obtain ⟨m1, m2⟩ := c_takeMark R4
        unfold pMk
        by_cases hs : tso (tk S j2) = 3
        · obtain ⟨G5, v1, v2, v3, -⟩ := m1 hs
          have E5 := E4.tr v3.wk
          have far5 : ∀ o, G5.1 (l + o) = G4.1 (l + o) := fun o => (v3.1 (l + o) (fun q => by omega)).1
          have far50 : G5.1 l = G4.1 l := far5 0
          rw [v1, ci_some, if_pos (Or.inr rfl), if_pos hs]
          exact ⟨G5, rfl, ⟨v2, hN.off E5.1 ⟨hfar d (Or.inl rfl), hfar (d + 3) (Or.inr rfl)⟩, ⟨by rw [far50]; exact L4.1, fun i hi => (L4.2 i hi).cg (by rw [far5 1]) (fun q _ _ => by rw [far5 2])⟩, by rw [E5.2]; exact q1, by rw [E5.2]; exact q2⟩, E5⟩
        · obtain ⟨G5, v1, v2, v3⟩ := m2 hs
          rw [v1, ci_some, if_pos (Or.inl rfl), if_neg hs]
          exact ⟨fau_ne S (Nat.le_refl 1) _, G5, rfl, v2, E4.tr v3.wk⟩
theorem pWl_lt {n : Nat} {t : LI} {j2 : Nat} (h : pWl S N n j = .inr (t, j2)) : n < 40 := by
  unfold pWl at h
  split at h
  · split at h
    · cases h
    · omega
  · cases h
def cWs (l : Nat) (fr : GG → Prop) (x : Option (Option Value × mm_H)) : Nat ⊕ (List LI × Nat) → Prop
  | .inl e => e ≠ 0 ∧ ∃ G', x = some (some (.int (nI e)), hp G') ∧ fr G'
  | .inr (K, _) => ∃ G', x = some (some (.int 0), hp G') ∧ isLn G' l K ∧ fr G'
theorem c_wks (hl : adLn l) (hd : adPl d) {G0 : GG} : ∀ (m n f : Nat) (K : List LI) (j : Nat) (G : GG), n + m = 1000 → m < f → RLn G S d l N K j → K.length ≤ 40 → wkE l G0 G → cWs l (wkE l G0) (mm_run p_Rd_readLines f 32 [.ref 6, .int (nI n)] [] (hp G)) (pWs S N m K j) := by
  intro m
  induction m with
  | zero =>
    intro n f K j G hn hf h _ hE
    obtain ⟨f, rfl⟩ : ∃ g, f = g + 1 := ⟨f - 1, by omega⟩
    rw [e_Rd_readLines_32, if_neg (show ¬ nI n < (1000 : Int32) from lm (n := 1000) (by omega) (by omega))]
    exact ⟨G, rfl, h.2.2.1, hE⟩
  | succ m ih =>
    intro n f K j G hn hf h h40 hE
    have h5 := tso_le S j
    obtain ⟨f, rfl⟩ : ∃ g, f = g + 1 := ⟨f - 1, by omega⟩
    rw [e_Rd_readLines_32, if_pos (show nI n < (1000 : Int32) from lp (n := 1000) (by omega) (by decide)), gg_Rd_tape, Option.bind_some, gg_Tp_sort, Option.bind_some, h.1.so]
    unfold pWs
    by_cases hs : tso (tk S j) = 0
    · rw [if_pos (show nI (tso (tk S j)) = (0 : Int32) from lq (n := 0) hs), if_pos hs]
      exact ⟨G, rfl, h.2.2.1, hE⟩
    · rw [if_neg (show ¬ nI (tso (tk S j)) = (0 : Int32) from ln (n := 0) hs (by omega) (by decide)), if_neg hs]
      have hL := c_wl h hl hd h40
      cases hp1 : pWl S N K.length j with
      | inl e =>
        rw [hp1] at hL
        obtain ⟨e0, G1, r1, r2, r3⟩ := hL
        rw [r1, ci_some, if_pos rfl, gg_Rd_fault, Option.bind_some, r2, thn_l]
        exact ⟨e0, G1, rfl, hE.tr r3⟩
      | inr q =>
        obtain ⟨t, j1⟩ := q
        have hlt := pWl_lt hp1
        rw [hp1] at hL
        obtain ⟨G1, r1, r2, r3⟩ := hL
        rw [r1, ci_some, if_neg (by decide), show nI n + 1 = nI (n + 1) from nI_add n 1, thn_r]
        exact ih (n + 1) f (K ++ [t]) j1 G1 (by omega) (by omega) r2 (by rw [List.length_append]; show K.length + 1 ≤ 40; omega) (hE.tr r3)
theorem c_readLines (hl : adLn l) (hd : adPl d) (hT : isTp G S) (hK : isKy G) (hN : isNs G d N) : cWs l (fun G' => eqOff (fun n => n = 2 ∨ n = 6 ∨ (l ≤ n ∧ n ≤ l + 2)) G G') (f_Rd_readLines [.ref 6, .ref d, .ref l] (hp G)) (pWs S N 1000 [] 0) := by
  have hlo := hl.lo
  have hfar : ∀ n, n = d ∨ n = d + 3 → ¬ (n = 2 ∨ n = 6 ∨ (l ≤ n ∧ n ≤ l + 2)) := fun n hn q => by rcases hd with e | e | e <;> rcases hl with e' | e' | e' <;> omega
  rw [e_Rd_readLines 6 _ _ _ (ob_Rd G), ww_Rd_plan, Option.bind_some, ww_Rd_lines, Option.bind_some, gg_Rd_lines, Option.bind_some, show (gsr (gsr G 6 1 d) 6 2 l).2.2 6 2 = l from by rw [gsr_eq, if_pos rfl], ww_Ln_told _ hl.ok, Option.bind_some, ww_Rd_fault, Option.bind_some, gg_Rd_tape, Option.bind_some]
  have hE : eqOff (fun n => n = 2 ∨ n = 6 ∨ (l ≤ n ∧ n ≤ l + 2)) G (gsi (gsi (gsr (gsr G 6 1 d) 6 2 l) l 2 0) 6 3 0) := (((eqOff.gsr _ _ (by omega)).tr (eqOff.gsr _ _ (by omega))).tr (eqOff.gsi _ _ (by omega))).tr (eqOff.gsi _ _ (by omega))
  have c1 : (gsi (gsi (gsr (gsr G 6 1 d) 6 2 l) l 2 0) 6 3 0).2.2 6 1 = d := by
    show (gsr (gsr G 6 1 d) 6 2 l).2.2 6 1 = d
    rw [gsr_eq, if_neg (by decide), gsr_eq, if_pos rfl]
  have c2 : (gsi (gsi (gsr (gsr G 6 1 d) 6 2 l) l 2 0) 6 3 0).2.2 6 2 = l := by
    show (gsr (gsr G 6 1 d) 6 2 l).2.2 6 2 = l
    rw [gsr_eq, if_pos rfl]
  have c3 : (gsi (gsi (gsr (gsr G 6 1 d) 6 2 l) l 2 0) 6 3 0).1 6 3 = 0 := fd _ _ _ _
  have c4 : (gsi (gsi (gsr (gsr G 6 1 d) 6 2 l) l 2 0) 6 3 0).1 l 2 = 0 := by rw [fdo _ _ (by omega), fd]
  have c5 : (gsi (gsi (gsr (gsr G 6 1 d) 6 2 l) l 2 0) 6 3 0).1 2 = G.1 2 := by rw [fdo _ _ (by omega), fdo _ _ (by omega)]; rfl
  generalize gsi (gsi (gsr (gsr G 6 1 d) 6 2 l) l 2 0) 6 3 0 = G1 at hE c1 c2 c3 c4 c5 ⊢
  obtain ⟨G2, r1, r2, r3⟩ := c_rewind (hT.off (G' := G1) (by rw [c5]) (hE 3 (fun q => by omega)).1 (hE 4 (fun q => by omega)).1) (fun i hi => by rw [(hE 5 (fun q => by omega)).2.1]; exact hK i hi) c3
  rw [r1, cv_some]
  have E2 : eqOff (fun n => n = 2 ∨ n = 6 ∨ (l ≤ n ∧ n ≤ l + 2)) G G2 := hE.tr (r3.mono (fun n hn => Or.inl hn))
  have R2 : RLn G2 S d l N [] 0 := ⟨r2, hN.off E2 ⟨hfar d (Or.inl rfl), hfar (d + 3) (Or.inr rfl)⟩, ⟨by rw [(r3 l (fun q => by omega)).1]; exact c4, fun i hi => absurd hi (Nat.not_lt_zero _)⟩, by rw [(r3 6 (by decide)).2.2]; exact c1, by rw [(r3 6 (by decide)).2.2]; exact c2⟩
  have hC := c_wks (S := S) (N := N) hl hd (G0 := G2) 1000 0 mm_fu [] 0 G2 rfl (by have := @fu_lt 9000 (by omega); omega) R2 (by decide) wkE.rf
  show cWs l _ (mm_run p_Rd_readLines mm_fu 32 [.ref 6, .int (nI 0)] [] (hp G2)) _
  cases hp1 : pWs S N 1000 [] 0 with
  | inl e =>
    rw [hp1] at hC
    obtain ⟨e0, G3, q1, q2⟩ := hC
    exact ⟨e0, G3, q1, E2.tr q2.1⟩
  | inr q =>
    obtain ⟨K, j⟩ := q
    rw [hp1] at hC
    obtain ⟨G3, q1, q2, q3⟩ := hC
    exact ⟨G3, q1, q2, E2.tr q3.1⟩
end RWN
/-- what a WORK that is told keeps to -/
theorem pNm_ok {S : List Nat} {N : List (List Nat × Nat × Nat)} {j i j2 : Nat} (h : pNm S N j = .inr (i, j2)) : i < N.length := by
  unfold pNm at h
  split at h
  · cases hm : nmd N (tsg (tk S j)) with
    | none => rw [hm] at h; cases h
    | some k =>
      rw [hm] at h
      cases h
      exact nmd_lt hm
  · cases h
theorem pWk_ok {S : List Nat} {N : List (List Nat × Nat × Nat)} {P : PP} (hP : pNi P = N.length) {w j : Nat} {t : LI} {j2 : Nat} (hw : 9 ≤ w ∧ w ≤ 17) (h : pWk S N w j = .inr (t, j2)) : okLi P t := by
  unfold pWk at h
  split at h
  · rename_i e
    obtain ⟨x, j3, e1, h⟩ := thn_inr h
    obtain ⟨y, j4, e2, h⟩ := thn_inr h
    obtain ⟨z, j5, e3, h⟩ := thn_inr h
    have q1 := (pNum_ok e1).2.2.2
    have q2 := (pNum_ok e2).2.2.2
    have q3 := (pNum_ok e3).2.2.2
    cases h
    refine ⟨hw, fun _ => ⟨q1, q2, q3⟩, fun q => ?_, fun q => ?_, fun q => ?_, fun q => ?_⟩ <;> (have q' : w = _ := q; omega)
  split at h
  · rename_i e
    obtain ⟨x, j3, e1, h⟩ := thn_inr h
    have q1 := (pNum_ok e1).2.2.2
    cases h
    refine ⟨hw, fun q => ?_, fun _ => show x < 30 by omega, fun q => ?_, fun q => ?_, fun q => ?_⟩ <;> (have q' : w = _ := q; omega)
  split at h
  · rename_i e
    obtain ⟨x, j3, e1, h⟩ := thn_inr h
    obtain ⟨y, j4, e2, h⟩ := thn_inr h
    obtain ⟨z, j5, e3, h⟩ := thn_inr h
    have q1 := (pNum_ok e1).2.2.2
    have q2 := pOne_ok e2
    have q3 := (pNum_ok e3).2.2.2
    cases h
    refine ⟨hw, fun q => ?_, fun q => ?_, fun _ => ⟨show x < 30 by omega, show y < 3 by omega, q3⟩, fun q => ?_, fun q => ?_⟩ <;> (have q' : w = _ := q; omega)
  split at h
  · rename_i e
    obtain ⟨x, j3, e1, h⟩ := thn_inr h
    have q1 := (pNum_ok e1).2.2
    cases h
    refine ⟨hw, fun q => ?_, fun q => ?_, fun q => ?_, fun _ => q1, fun q => ?_⟩ <;> (have q' : w = _ := q; omega)
  split at h
  · rename_i e
    obtain ⟨x, j3, e1, h⟩ := thn_inr h
    have q1 := pNm_ok e1
    cases h
    refine ⟨hw, fun q => ?_, fun q => ?_, fun q => ?_, fun q => ?_, fun _ => show x < pNi P by omega⟩ <;> (have q' : w = _ := q; omega)
  · cases h
    refine ⟨hw, fun q => ?_, fun q => ?_, fun q => ?_, fun q => ?_, fun q => ?_⟩ <;> (have q' : w = _ := q; omega)
theorem pWs_ok {S : List Nat} {N : List (List Nat × Nat × Nat)} {P : PP} (hP : pNi P = N.length) : ∀ (m : Nat) (K K' : List LI) (j j2 : Nat), okWk P K → pWs S N m K j = .inr (K', j2) → okWk P K' := by
  intro m
  induction m with
  | zero => intro K K' j j2 h1 h; cases h; exact h1
  | succ m ih =>
    intro K K' j j2 h1 h
    unfold pWs at h
    split at h
    · cases h; exact h1
    · obtain ⟨t, j3, e1, h⟩ := thn_inr h
      have hlt := pWl_lt e1
      unfold pWl at e1
      split at e1
      · rename_i hB
        obtain ⟨-, -, w3, w4, -⟩ := isB_wN hB
        split at e1
        · cases e1
        · obtain ⟨t', j4, e2, e3⟩ := thn_inr e1
          obtain ⟨-, j5, -, e4⟩ := thn_inr e3
          have := pWk_ok hP ⟨w3, w4⟩ e2
          cases e4
          refine ih _ _ _ _ ⟨by rw [List.length_append]; show K.length + 1 ≤ 40; omega, fun q hq => ?_⟩ h
          rcases List.mem_append.1 hq with q1 | q1
          · exact h1.2 q q1
          · rw [List.mem_singleton.1 q1]; exact this
      · cases e1
