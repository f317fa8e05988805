/-! READER (the class): INDEX, ROW and POINTER lines -/
theorem isPB.arrI {G : GG} {d o k : Nat} {B : TB} (h : isPB G d B) (ho : o = 1 ∨ o = 2) (hk : (tIx B).length ≤ k) (x : Int32) : isPB (gsi G (d + o) k x) d B := by
  obtain ⟨h1, h2, h3, h4, h5, h6⟩ := h
  have hq : eqOff (fun n => n = d + o) G (gsi G (d + o) k x) := eqOff.gsi _ _ rfl
  have e : ∀ q, q ≠ o → (gsi G (d + o) k x).1 (d + q) = G.1 (d + q) := fun q hq' => fdo _ _ (by omega)
  have e0 : (gsi G (d + o) k x).1 d = G.1 d := fdo _ _ (by omega)
  have eo : ∀ i, i < (tIx B).length → (gsi G (d + o) k x).1 (d + o) i = G.1 (d + o) i := fun i hi => fdn _ _ (by omega)
  refine ⟨by rw [e0]; exact h1, fun i hi => ?_, fun r hr => by rw [e 4 (by omega)]; exact h3 r hr, fun q hq' => by rw [e 5 (by omega), e 6 (by omega)]; exact h4 q hq', h5.off hq (fun q hq' => by omega), h6.off hq (fun q hq' => by omega)⟩
  rcases ho with e1 | e1 <;> subst e1
  · rw [eo i hi, e 2 (by decide)]; exact h2 i hi
  · rw [eo i hi, e 1 (by decide)]; exact h2 i hi
theorem isPB.arrN {G : GG} {d k : Nat} {B : TB} (h : isPB G d B) (hk : (tIx B).length ≤ k) (x : Int64) : isPB (gsl G (d + 3) k x) d B := by
  obtain ⟨h1, h2, h3, h4, h5, h6⟩ := h
  have hq : eqOff (fun n => n = d + 3) G (gsl G (d + 3) k x) := eqOff.gsl _ _ rfl
  refine ⟨h1, fun i hi => ?_, h3, h4, h5.off hq (fun q hq' => by omega), h6.off hq (fun q hq' => by omega)⟩
  refine ⟨(h2 i hi).1, (h2 i hi).2.1, ?_⟩
  rw [gsl_l, if_pos rfl]
  show (if i = k then x else G.2.1 (d + 3) i) = _
  rw [if_neg (by omega)]
  exact (h2 i hi).2.2
theorem isPB.arrR {G : GG} {d k : Nat} {B : TB} (h : isPB G d B) (hk : (tRw B).length * 3 ≤ k) (x : Int32) : isPB (gsi G (d + 4) k x) d B := by
  obtain ⟨h1, h2, h3, h4, h5, h6⟩ := h
  have hq : eqOff (fun n => n = d + 4) G (gsi G (d + 4) k x) := eqOff.gsi _ _ rfl
  have e : ∀ q, q ≠ 4 → (gsi G (d + 4) k x).1 (d + q) = G.1 (d + q) := fun q hq' => fdo _ _ (by omega)
  have e0 : (gsi G (d + 4) k x).1 d = G.1 d := fdo _ _ (by omega)
  refine ⟨by rw [e0]; exact h1, fun i hi => by rw [e 1 (by decide), e 2 (by decide)]; exact h2 i hi, fun r hr q hq' => ?_, fun q hq' => by rw [e 5 (by omega), e 6 (by omega)]; exact h4 q hq', h5.off hq (fun q hq' => by omega), h6.off hq (fun q hq' => by omega)⟩
  rw [fdn _ _ (by omega)]
  exact h3 r hr q hq'
theorem isPB.arrP {G : GG} {d o k : Nat} {B : TB} (h : isPB G d B) (ho : o = 5 ∨ o = 6) (hk : (tPt B).length ≤ k) (x : Int32) : isPB (gsi G (d + o) k x) d B := by
  obtain ⟨h1, h2, h3, h4, h5, h6⟩ := h
  have hq : eqOff (fun n => n = d + o) G (gsi G (d + o) k x) := eqOff.gsi _ _ rfl
  have e : ∀ q, q ≠ o → (gsi G (d + o) k x).1 (d + q) = G.1 (d + q) := fun q hq' => fdo _ _ (by omega)
  have e0 : (gsi G (d + o) k x).1 d = G.1 d := fdo _ _ (by omega)
  have eo : ∀ i, i < (tPt B).length → (gsi G (d + o) k x).1 (d + o) i = G.1 (d + o) i := fun i hi => fdn _ _ (by omega)
  refine ⟨by rw [e0]; exact h1, fun i hi => by rw [e 1 (by omega), e 2 (by omega)]; exact h2 i hi, fun r hr => by rw [e 4 (by omega)]; exact h3 r hr, fun i hi => ?_, h5.off hq (fun q hq' => by omega), h6.off hq (fun q hq' => by omega)⟩
  rcases ho with e1 | e1 <;> subst e1
  · rw [eo i hi, e 6 (by decide)]; exact h4 i hi
  · rw [eo i hi, e 5 (by decide)]; exact h4 i hi
theorem get_snoc {α : Type} {l : List α} {x : α} {i : Nat} (hi : i < (l ++ [x]).length) (P : α → Prop) (h1 : i = l.length → P x) (h2 : ∀ h : i < l.length, P l[i]) : P (l ++ [x])[i] := by
  by_cases e : i = l.length
  · subst e
    rw [show (l ++ [x])[l.length] = x by simp]
    exact h1 rfl
  · rw [List.length_append] at hi
    simp only [List.length_cons, List.length_nil] at hi
    rw [List.getElem_append_left (by omega)]
    exact h2 (by omega)
section RIX
variable {G G' : GG} {S : List Nat} {j d : Nat} {B : TB}
theorem RB.arr (h : RB G S d B j) (hd : adPl d) {n k : Nat} {x : Int32} (hn : d ≤ n ∧ n ≤ d + 20) (hB : isPB (gsi G n k x) d B) : RB (gsi G n k x) S d B j := ⟨h.1.pl' hd hn k x, hB, by rw [fdo _ _ (d6 hd hn)]; exact h.2.2.1, h.2.2.2⟩
theorem nm_eq {v w : List Nat} (hv : okNm v) (hw : okNm w) : (lL (pkL 32 v) = lL (pkL 32 w)) = (v = w) := by
  have b1 := pkL_lt (b := 32) (by decide) _ hv.2
  have b2 := pkL_lt (b := 32) (by decide) _ hw.2
  have p1 : 32 ^ v.length ≤ 32 ^ 8 := Nat.pow_le_pow_right (by decide) hv.1
  have p2 : 32 ^ w.length ≤ 32 ^ 8 := Nat.pow_le_pow_right (by decide) hw.1
  exact propext ⟨fun h => pkL_inj (b := 32) (by decide) _ _ _ rfl hv.2 hw.2 (lL_inj (by omega) (by omega) h), fun h => by rw [h]⟩
def nmI (o : Option Nat) : Int32 := match o with
  | some i => nI i
  | none => -1
/-- which INDEX has a name -/
theorem c_named {l : List (List Nat × Nat × Nat)} (hd : adPl d) (h10 : G.1 d 10 = nI l.length) (hn : ∀ i (h : i < l.length), G.2.1 (d + 3) i = lL (pkL 32 l[i].1)) (h4 : l.length ≤ 4) (hok : ∀ q ∈ l, okNm q.1) {w : List Nat} (hw : okNm w) : f_Pl_named [.ref d, .long (lL (pkL 32 w))] (hp G) = some (some (.int (nmI (nmd l w))), hp G) := by
  rw [e_Pl_named d _ _ (ob_Pl G hd.ok)]
  have key : ∀ (m i f : Nat), i + m = l.length → m < f → mm_run p_Pl_named f 2 [.ref d, .long (lL (pkL 32 w)), .int (nI i)] [] (hp G) = some (some (.int (match (l.drop i).findIdx? (fun q => decide (q.1 = w)) with
      | some k => nI (i + k)
      | none => -1)), hp G) := by
    intro m
    induction m with
    | zero =>
      intro i f hi hf
      obtain ⟨f, rfl⟩ : ∃ g, f = g + 1 := ⟨f - 1, by omega⟩
      rw [e_Pl_named_2, gg_Pl_indexes _ hd.ok, Option.bind_some, h10, if_neg (lm (by omega) (by omega)), List.drop_of_length_le (by omega)]
      rfl
    | succ m ih =>
      intro i f hi hf
      obtain ⟨f, rfl⟩ : ∃ g, f = g + 1 := ⟨f - 1, by omega⟩
      have hil : i < l.length := by omega
      rw [e_Pl_named_2, gg_Pl_indexes _ hd.ok, Option.bind_some, h10, if_pos (lp hil (by omega)), gg_Pl_name _ hd.ok, Option.bind_some, rr_Pl_name _ hd.ok (by omega), Option.bind_some, hn i hil, drop_cons hil, List.findIdx?_cons, show nI i + 1 = nI (i + 1) from nI_add i 1]
      by_cases e : l[i].1 = w
      · rw [if_pos (by rw [cmp_0, nm_eq (hok _ (List.getElem_mem hil)) hw]; exact e), if_pos (decide_eq_true e)]
        rfl
      · rw [if_neg (by rw [cmp_0, nm_eq (hok _ (List.getElem_mem hil)) hw]; exact e), if_neg (by rw [decide_eq_false e]; decide), ih (i + 1) f (by omega) (by omega)]
        cases (l.drop (i + 1)).findIdx? (fun q => decide (q.1 = w)) with
        | none => rfl
        | some k =>
          show some (some (Value.int (nI (i + 1 + k))), hp G) = some (some (Value.int (nI (i + (k + 1)))), hp G)
          rw [show i + 1 + k = i + (k + 1) by omega]
  have := key l.length 0 mm_fu (by omega) (fu_lt (by omega))
  rw [List.drop_zero] at this
  rw [show mm_run p_Pl_named mm_fu 2 [.ref d, .long (lL (pkL 32 w)), .int 0] [] (hp G) = _ from this]
  unfold nmI nmd
  cases l.findIdx? (fun q => decide (q.1 = w)) with
  | none => rfl
  | some k => show some (some (Value.int (nI (0 + k))), hp G) = _; rw [Nat.zero_add]
theorem findIdx_lt {α : Type} {p : α → Bool} : ∀ {l : List α} {i : Nat}, l.findIdx? p = some i → i < l.length
  | [], i, h => by simp at h
  | a :: l, i, h => by
    rw [List.findIdx?_cons] at h
    split at h
    · have := Option.some.inj h; rw [List.length_cons]; omega
    · cases hq : l.findIdx? p with
      | none => rw [hq] at h; cases h
      | some k =>
        rw [hq] at h
        have h1 := findIdx_lt hq
        have h2 : k + 1 = i := Option.some.inj h
        rw [List.length_cons]; omega
theorem nmd_lt {l : List (List Nat × Nat × Nat)} {w : List Nat} {i : Nat} (h : nmd l w = some i) : i < l.length := findIdx_lt h
theorem RD.nm (h : RD G S j) (hn : isNm S j = true) : okNm (tsg (tk S j)) ∧ G.2.1 2 8 = lL (pkL 32 (tsg (tk S j))) := by
  unfold isNm at hn
  rw [Bool.and_eq_true, decide_eq_true_eq] at hn
  obtain ⟨w1, w2, -⟩ := tk_word hn.1
  exact ⟨⟨w1, w2⟩, h.2.2.1.2 hn.1⟩
theorem rdE.pl (h : rdE G G') (hd : adPl d) {o : Nat} (ho : o ≤ 20) : G'.1 (d + o) = G.1 (d + o) ∧ G'.2.1 (d + o) = G.2.1 (d + o) := by
  have := h.1 (d + o) (fun q => q.elim (ad_no hd (Or.inl rfl) ho) (ad_no hd (Or.inr rfl) ho))
  exact ⟨this.1, this.2.1⟩
theorem c_index (h : RB G S d B j) (hd : adPl d) (hB : okTB B) : cLn S d (lnE d G) (f_Rd_indexLine [.ref 6] (hp G)) (pIndex S B j) := by
  obtain ⟨⟨p8, p9, p10, p11, p12⟩, pI, -⟩ := h.2.1
  obtain ⟨-, ⟨b4, bI⟩, ⟨b20, -⟩, -⟩ := hB
  have dd : d ≤ d ∧ d ≤ d + 20 := ⟨Nat.le_refl _, by omega⟩
  rw [e_Rd_indexLine 6 _ (ob_Rd G), gg_Rd_plan, Option.bind_some, h.2.2.2, gg_Pl_indexes _ hd.ok, Option.bind_some, p10, Option.bind_some, gg_Pl_rows _ hd.ok, Option.bind_some, p11]
  have bad : ∀ {G1 : GG} {j1 k : Nat}, RD G1 S j1 → 1 ≤ k → lnE d G G1 → cLn S d (lnE d G) (mm_ci (f_Rd_wrong [.ref 6, .int (nI k)] (hp G1)) fun x5 h4 => if x5 = 0 ∨ x5 = 1 then some (some (.int x5), h4) else none) (.inl (fau S k j1)) := fun {G1 j1 k} hR hk hE => by
    obtain ⟨G', r1, r2, r3⟩ := c_wrong hR k
    rw [r1, ci_some, if_pos (Or.inl rfl)]
    exact ⟨fau_ne S hk j1, G', rfl, r2, hE.tr r3.ln⟩
  unfold pIndex
  by_cases hr : tRw B = []
  · rw [hr, if_neg (show ¬ (0 : Int32) < nI ([] : List (Nat × Nat × Nat)).length by decide), if_neg (show ¬ (([] : List (Nat × Nat × Nat)) ≠ []) from fun q => q rfl)]
    by_cases h4 : 4 ≤ (tIx B).length
    · rw [if_neg (show ¬ nI (tIx B).length < (4 : Int32) from lm (n := 4) h4 (by omega)), if_pos h4]
      exact bad h.1 (by decide) lnE.rf
    · rw [if_pos (show nI (tIx B).length < (4 : Int32) from lp (n := 4) (by omega) (by decide)), if_neg h4, gg_Rd_tape, Option.bind_some]
      obtain ⟨G1, r1, r2, r3, r4⟩ := c_on h.1
      have R1 := h.go hd r3 r2
      rw [r1, cv_some, gg_Rd_tape, Option.bind_some, c_isName r2, ci_some]
      cases hn : isNm S (j + 1)
      · rw [if_pos (by decide)]
        exact bad r2 (Nat.le_refl 1) r3.ln
      · obtain ⟨okw, hlet⟩ := r2.nm hn
        obtain ⟨⟨-, -, q10, -⟩, qI, -⟩ := R1.2.1
        rw [if_neg (by decide), gg_Rd_plan, Option.bind_some, R1.2.2.2, gg_Rd_tape, Option.bind_some, gg_Tp_letters, Option.bind_some, hlet, c_named hd q10 (fun i hi => (qI i hi).2.2) b4 (fun q hq => (bI q hq).1) okw, ci_some, if_pos (show true = true from rfl)]
        generalize hw : tsg (tk S (j + 1)) = w at okw hlet ⊢
        cases hnm : nmd (tIx B) w with
        | some i =>
          have := nmd_lt hnm
          rw [if_neg (show ¬ nmI (some i) = -1 from n_m1 (show i < 2147483648 by omega)), if_pos (show (some i).isSome = true from rfl)]
          exact bad r2 (by decide) r3.ln
        | none =>
          rw [if_pos (show nmI none = -1 from rfl), if_neg (show ¬ (none : Option Nat).isSome = true by decide), gg_Rd_plan, Option.bind_some, R1.2.2.2, gg_Pl_name _ hd.ok, Option.bind_some, gg_Rd_tape, Option.bind_some, gg_Tp_letters, Option.bind_some, hlet, uu_Pl_name _ hd.ok (by omega), Option.bind_some, gg_Rd_tape, Option.bind_some]
          -- the name is kept
          have R2 : RB (gsl G1 (d + 3) (tIx B).length (lL (pkL 32 w))) S d B (j + 1) := ⟨r2.pll hd (by omega) _ _, R1.2.1.arrN (Nat.le_refl _) _, R1.2.2.1, R1.2.2.2⟩
          have n2 : (gsl G1 (d + 3) (tIx B).length (lL (pkL 32 w))).2.1 (d + 3) (tIx B).length = lL (pkL 32 w) := by
            rw [gsl_l, if_pos rfl]
            show (if (tIx B).length = (tIx B).length then lL (pkL 32 w) else _) = _
            rw [if_pos rfl]
          have E2 : lnE d G (gsl G1 (d + 3) (tIx B).length (lL (pkL 32 w))) := r3.ln.tr (lnE.gsl (Or.inr (Or.inr (by omega))))
          generalize gsl G1 (d + 3) (tIx B).length (lL (pkL 32 w)) = G2 at R2 n2 E2 ⊢
          obtain ⟨G3, s1, s2, s3, s4⟩ := c_on R2.1
          have R3 := R2.go hd s3 s2
          have n3 : G3.2.1 (d + 3) (tIx B).length = lL (pkL 32 w) := by rw [(s3.pl hd (by decide)).2]; exact n2
          rw [s1, cv_some]
          have hO := c_takeOneOf s2 (a := 18) (b := 21) (by decide) (by decide)
          cases hp1 : pOne S 18 21 (j + 1 + 1) with
          | inl e =>
            rw [hp1] at hO
            obtain ⟨e0, G4, q1, q2, q3⟩ := hO
            rw [show f_Rd_takeOneOf [.ref 6, .int 18, .int 21] (hp G3) = _ from q1, ci_some, if_pos rfl, thn_l]
            exact ⟨e0, G4, rfl, q2, (E2.tr s3.ln).tr q3.ln⟩
          | inr vj =>
            obtain ⟨k, j2⟩ := vj
            rw [hp1] at hO
            obtain ⟨G4, q1, q2, q3, q4⟩ := hO
            have R4 := R3.go hd q4 q2
            have n4 : G4.2.1 (d + 3) (tIx B).length = lL (pkL 32 w) := by rw [(q4.pl hd (by decide)).2]; exact n3
            rw [show f_Rd_takeOneOf [.ref 6, .int 18, .int 21] (hp G3) = _ from q1, ci_some, if_neg (by decide), gg_Rd_plan, Option.bind_some, R4.2.2.2, gg_Pl_kind _ hd.ok, Option.bind_some, gg_Rd_number, Option.bind_some, q3, uu_Pl_kind _ hd.ok (by omega), Option.bind_some, thn_r]
            have R5 : RB (gsi G4 (d + 1) (tIx B).length (nI k)) S d B j2 := R4.arr hd (by omega) (R4.2.1.arrI (Or.inl rfl) (Nat.le_refl _) _)
            have k5 : (gsi G4 (d + 1) (tIx B).length (nI k)).1 (d + 1) (tIx B).length = nI k := fd _ _ _ _
            have n5 : (gsi G4 (d + 1) (tIx B).length (nI k)).2.1 (d + 3) (tIx B).length = lL (pkL 32 w) := n4
            have E5 : lnE d G (gsi G4 (d + 1) (tIx B).length (nI k)) := ((E2.tr s3.ln).tr q4.ln).tr (lnE.gsi (Or.inr (Or.inr (by omega))))
            generalize gsi G4 (d + 1) (tIx B).length (nI k) = G5 at R5 k5 n5 E5 ⊢
            obtain ⟨w1, w2⟩ := c_takeWord R5.1 (i := 3) (by decide)
            unfold pWd
            cases hw3 : isW S 3 j2
            · obtain ⟨G6, t1, t2, t3⟩ := w2 hw3
              rw [show f_Rd_takeWord [.ref 6, .int 3] (hp G5) = _ from t1, ci_some, if_pos rfl, if_neg (by decide), thn_l]
              exact ⟨fau_ne S (Nat.le_refl 1) j2, G6, rfl, t2, E5.tr t3.ln⟩
            · obtain ⟨G6, t1, t2, t3, -⟩ := w1 hw3
              have R6 := R5.go hd t3 t2
              rw [show f_Rd_takeWord [.ref 6, .int 3] (hp G5) = _ from t1, ci_some, if_neg (by decide), if_pos rfl, thn_r]
              have hO2 := c_takeOneOf t2 (a := 25) (b := 27) (by decide) (by decide)
              cases hp2 : pOne S 25 27 (j2 + 1) with
              | inl e =>
                rw [hp2] at hO2
                obtain ⟨e0, G7, q1', q2', q3'⟩ := hO2
                rw [show f_Rd_takeOneOf [.ref 6, .int 25, .int 27] (hp G6) = _ from q1', ci_some, if_pos rfl, thn_l]
                exact ⟨e0, G7, rfl, q2', (E5.tr t3.ln).tr q3'.ln⟩
              | inr vj =>
                obtain ⟨c, j3⟩ := vj
                rw [hp2] at hO2
                obtain ⟨G7, q1', q2', q3', q4'⟩ := hO2
                have R7 := R6.go hd q4' q2'
                have tr67 := t3.tr q4'
                rw [show f_Rd_takeOneOf [.ref 6, .int 25, .int 27] (hp G6) = _ from q1', ci_some, if_neg (by decide), gg_Rd_plan, Option.bind_some, R7.2.2.2, gg_Pl_column _ hd.ok, Option.bind_some, gg_Rd_number, Option.bind_some, q3', uu_Pl_column _ hd.ok (by omega), Option.bind_some, gg_Rd_plan, Option.bind_some, thn_r]
                have R8 : RB (gsi G7 (d + 2) (tIx B).length (nI c)) S d B j3 := R7.arr hd (by omega) (R7.2.1.arrI (Or.inr rfl) (Nat.le_refl _) _)
                have c8 : (gsi G7 (d + 2) (tIx B).length (nI c)).1 (d + 2) (tIx B).length = nI c := fd _ _ _ _
                have k8 : (gsi G7 (d + 2) (tIx B).length (nI c)).1 (d + 1) (tIx B).length = nI k := by rw [fdo _ _ (by omega), (tr67.pl hd (by decide)).1]; exact k5
                have n8 : (gsi G7 (d + 2) (tIx B).length (nI c)).2.1 (d + 3) (tIx B).length = lL (pkL 32 w) := by show G7.2.1 (d + 3) _ = _; rw [(tr67.pl hd (by decide)).2]; exact n5
                have E8 : lnE d G (gsi G7 (d + 2) (tIx B).length (nI c)) := (E5.tr tr67.ln).tr (lnE.gsi (Or.inr (Or.inr (by omega))))
                generalize gsi G7 (d + 2) (tIx B).length (nI c) = G8 at R8 c8 k8 n8 E8 ⊢
                obtain ⟨⟨z8, z9, z10, z11, z12⟩, zI, zR, zP, zc, zp⟩ := R8.2.1
                rw [R8.2.2.2, gg_Pl_indexes _ hd.ok, Option.bind_some, z10, show nI (tIx B).length + 1 = nI ((tIx B).length + 1) from nI_add _ 1, ww_Pl_indexes _ hd.ok, Option.bind_some]
                have hq9 : eqOff (fun n => n = d) G8 (gsi G8 d 10 (nI ((tIx B).length + 1))) := eqOff.gsi _ _ rfl
                have e9 : ∀ o, 1 ≤ o → (gsi G8 d 10 (nI ((tIx B).length + 1))).1 (d + o) = G8.1 (d + o) := fun o ho => fdo _ _ (by omega)
                have R9 : RB (gsi G8 d 10 (nI ((tIx B).length + 1))) S d (tPg B, tBt B, tBn B, tIx B ++ [(w, k, c)], tRw B, tPt B, tCh B, tPa B) j3 := by
                  refine ⟨R8.1.pl' hd dd _ _, ⟨⟨by rw [fdn _ _ (by decide)]; exact z8, by rw [fdn _ _ (by decide)]; exact z9, ?_, by rw [fdn _ _ (by decide)]; exact z11, by rw [fdn _ _ (by decide)]; exact z12⟩, fun i hi => ?_, fun r hr q hq => by rw [e9 4 (by decide)]; exact zR r hr q hq, fun q hq => by rw [e9 5 (by decide), e9 6 (by decide)]; exact zP q hq, zc.off hq9 (fun o ho => by omega), zp.off hq9 (fun o ho => by omega)⟩, by rw [fdo _ _ (d6 hd dd)]; exact R8.2.2.1, R8.2.2.2⟩
                  · rw [fd]
                    show nI _ = nI (tIx B ++ [(w, k, c)]).length
                    rw [List.length_append]
                    rfl
                  · rw [e9 1 (by decide), e9 2 (by decide)]
                    exact get_snoc (l := tIx B) (x := (w, k, c)) hi (fun q => G8.1 (d + 1) i = nI q.2.1 ∧ G8.1 (d + 2) i = nI q.2.2 ∧ G8.2.1 (d + 3) i = lL (pkL 32 q.1)) (fun e => by rw [e]; exact ⟨k8, c8, n8⟩) (fun hlt => zI i hlt)
                rw [hr] at R9
                exact c_end R9 hd (fun G' q => (E8.tr (lnE.gsi (Or.inr (Or.inr (by omega))))).tr q)
  · have hpos := List.length_pos_iff.mpr hr
    rw [if_pos (show (0 : Int32) < nI (tRw B).length from lp (a := 0) hpos (by omega)), if_pos hr]
    exact bad h.1 (Nat.le_refl 1) lnE.rf
end RIX
