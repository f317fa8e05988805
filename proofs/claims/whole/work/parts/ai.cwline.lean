/-! READER (the class): the lines of a TABLE -/
def isPB (G : GG) (d : Nat) (B : TB) : Prop := (G.1 d 8 = nI (tPg B) ∧ G.1 d 9 = nI (tBt B) ∧ G.1 d 10 = nI (tIx B).length ∧ G.1 d 11 = nI (tRw B).length ∧ G.1 d 12 = nI (tPt B).length) ∧ (∀ i (h : i < (tIx B).length), G.1 (d + 1) i = nI (tIx B)[i].2.1 ∧ G.1 (d + 2) i = nI (tIx B)[i].2.2 ∧ G.2.1 (d + 3) i = lL (pkL 32 (tIx B)[i].1)) ∧ (∀ r (h : r < (tRw B).length), ∀ k, k < 3 → G.1 (d + 4) (r * 3 + k) = nI (colT (tRw B)[r] k)) ∧ (∀ q (h : q < (tPt B).length), G.1 (d + 5) q = nI (tPt B)[q].1 ∧ G.1 (d + 6) q = nI (tPt B)[q].2) ∧ isWh G (d + 7) (tCh B) ∧ isWh G (d + 14) (tPa B)
/-- what a TABLE that is told keeps to -/
def okNm (w : List Nat) : Prop := w.length ≤ 8 ∧ ∀ c ∈ w, 97 ≤ c ∧ c ≤ 122
def okTB (B : TB) : Prop := ((2 ≤ tPg B ∧ tPg B ≤ 8) ∧ (1 ≤ tBt B ∧ tBt B ≤ 8)) ∧ ((tIx B).length ≤ 4 ∧ ∀ q ∈ tIx B, okNm q.1 ∧ q.2.1 ≤ 3 ∧ q.2.2 < 3) ∧ ((tRw B).length ≤ 20 ∧ ∀ t ∈ tRw B, t.1 ≤ 999 ∧ t.2.1 ≤ 999 ∧ t.2.2 ≤ 999) ∧ ((tPt B).length ≤ 8 ∧ ∀ q ∈ tPt B, q.1 ≤ 2 ∧ q.2 ≤ 999 ∧ ∃ t ∈ tRw B, t.1 = q.2) ∧ (okW (tCh B) ∧ okW (tPa B) ∧ ∀ l ∈ tPa B, lKd l = 28 ∨ lKd l = 31 ∨ lKd l = 32) ∧ ∀ q ∈ tIx B, q.2.1 = 2 → (tRw B).Pairwise (fun t u => colT t q.2.2 ≠ colT u q.2.2)
def RB (G : GG) (S : List Nat) (d : Nat) (B : TB) (j : Nat) : Prop := RD G S j ∧ isPB G d B ∧ G.1 6 5 = msk (tBn B) 9 ∧ G.2.2 6 1 = d
def lnE (d : Nat) (G G' : GG) : Prop := eqOff (fun n => n = 2 ∨ n = 6 ∨ (d ≤ n ∧ n ≤ d + 20)) G G' ∧ G'.2.2 6 = G.2.2 6
theorem lnE.rf {d : Nat} {G : GG} : lnE d G G := ⟨eqOff.rf, rfl⟩
theorem lnE.tr {d : Nat} {G1 G2 G3 : GG} (h1 : lnE d G1 G2) (h2 : lnE d G2 G3) : lnE d G1 G3 := ⟨h1.1.tr h2.1, h2.2.trans h1.2⟩
theorem rdE.ln {d : Nat} {G G' : GG} (h : rdE G G') : lnE d G G' := ⟨h.1.mono (fun n hn => hn.elim Or.inl (fun q => Or.inr (Or.inl q))), h.2.1⟩
theorem lnE.gsi {d n k : Nat} {G : GG} {x : Int32} (h : n = 2 ∨ n = 6 ∨ (d ≤ n ∧ n ≤ d + 20)) : lnE d G (gsi G n k x) := ⟨eqOff.gsi _ _ h, rfl⟩
theorem lnE.gsl {d n k : Nat} {G : GG} {x : Int64} (h : n = 2 ∨ n = 6 ∨ (d ≤ n ∧ n ≤ d + 20)) : lnE d G (gsl G n k x) := ⟨eqOff.gsl _ _ h, rfl⟩
def cLn (S : List Nat) (d : Nat) (fr : GG → Prop) (x : Option (Option Value × mm_H)) : Nat ⊕ (TB × Nat) → Prop
  | .inl e => e ≠ 0 ∧ ∃ G', x = some (some (.int 0), hp G') ∧ G'.1 6 3 = nI e ∧ fr G'
  | .inr (B, j) => ∃ G', x = some (some (.int 1), hp G') ∧ RB G' S d B j ∧ fr G'
theorem isPB.off {G G' : GG} {d : Nat} {B : TB} {W : Nat → Prop} (h : isPB G d B) (hq : eqOff W G G') (h0 : ∀ o, o ≤ 20 → ¬ W (d + o)) : isPB G' d B := by
  obtain ⟨h1, h2, h3, h4, h5, h6⟩ := h
  have e : ∀ o, o ≤ 20 → G'.1 (d + o) = G.1 (d + o) := fun o ho => (hq _ (h0 o ho)).1
  have e0 : G'.1 d = G.1 d := e 0 (by decide)
  refine ⟨by rw [e0]; exact h1, fun i hi => by rw [e 1 (by decide), e 2 (by decide), (hq _ (h0 3 (by decide))).2.1]; exact h2 i hi, fun r hr => by rw [e 4 (by decide)]; exact h3 r hr, fun q hq' => by rw [e 5 (by decide), e 6 (by decide)]; exact h4 q hq', h5.off hq (fun o ho => by rw [Nat.add_assoc]; exact h0 _ (by omega)), h6.off hq (fun o ho => by rw [Nat.add_assoc]; exact h0 _ (by omega))⟩
/-- numbers of the object are changed, else nothing that is told -/
theorem isPB.num {G G' : GG} {d : Nat} {B : TB} (h : isPB G d B) (hq : eqOff (fun n => n = d) G G') {a b : Nat} (h8 : G'.1 d 8 = nI a) (h9 : G'.1 d 9 = nI b) (hs : G'.1 d 10 = G.1 d 10 ∧ G'.1 d 11 = G.1 d 11 ∧ G'.1 d 12 = G.1 d 12) (bn : Nat → Bool) : isPB G' d (a, b, bn, tIx B, tRw B, tPt B, tCh B, tPa B) := by
  obtain ⟨⟨-, -, a10, a11, a12⟩, h2, h3, h4, h5, h6⟩ := h
  have e : ∀ o, 1 ≤ o → G'.1 (d + o) = G.1 (d + o) := fun o ho => (hq _ (by omega)).1
  refine ⟨⟨h8, h9, by rw [hs.1]; exact a10, by rw [hs.2.1]; exact a11, by rw [hs.2.2]; exact a12⟩, fun i hi => ?_, fun r hr k hk => ?_, fun q hq' => ?_, h5.off hq (fun o ho => by omega), h6.off hq (fun o ho => by omega)⟩
  · rw [e 1 (by decide), e 2 (by decide), (hq (d + 3) (by omega)).2.1]; exact h2 i hi
  · rw [e 4 (by decide)]; exact h3 r hr k hk
  · rw [e 5 (by decide), e 6 (by decide)]; exact h4 q hq'
theorem isPB.bn {G : GG} {d : Nat} {B : TB} (h : isPB G d B) (bn : Nat → Bool) : isPB G d (tPg B, tBt B, bn, tIx B, tRw B, tPt B, tCh B, tPa B) := h
theorem fd (G : GG) (n k : Nat) (v : Int32) : (gsi G n k v).1 n k = v := by rw [gsi_i, if_pos rfl, upd_at]
theorem fdn (G : GG) {n k j : Nat} (v : Int32) (h : j ≠ k) : (gsi G n k v).1 n j = G.1 n j := by rw [gsi_i, if_pos rfl, upd_ne _ _ h]
theorem fdo (G : GG) {n k m : Nat} (v : Int32) (h : m ≠ n) : (gsi G n k v).1 m = G.1 m := by rw [gsi_i, if_neg h]
theorem msk_or {bn : Nat → Bool} {i : Nat} (hi : i < 9) : msk bn 9 ||| sbit i = msk (fun k => decide (k = i) || bn k) 9 := by
  apply b_ext
  intro r hr
  rw [b_or, bt_msk _ _ (by decide) r hr, bt_msk _ _ (by decide) r hr, bt_sbit (by omega) hr]
  by_cases e : r = i
  · subst e; simp [hi]
  · simp [e]
theorem msk_bit {bn : Nat → Bool} {i : Nat} (hi : i < 9) : (msk bn 9 &&& sbit i = 0) = (bn i = false) := by
  apply propext
  rw [z_int]
  constructor
  · intro h
    have := h i (by omega)
    rw [b_and, bt_msk _ _ (by decide) i (by omega), bt_sbit (by omega) (by omega), decide_eq_true hi, decide_eq_true rfl, Bool.true_and, Bool.and_true] at this
    exact this
  · intro h r hr
    rw [b_and, bt_msk _ _ (by decide) r hr, bt_sbit (by omega) hr]
    by_cases e : r = i
    · rw [e, h]; simp
    · simp [e]
section RLN
variable {G G' : GG} {S : List Nat} {j d : Nat} {B : TB}
theorem RB.rd (h : RB G S d B j) : RD G S j := h.1
theorem RB.pb (h : RB G S d B j) : isPB G d B := h.2.1
theorem ad_no (hd : adPl d) {n : Nat} (hn : n = 2 ∨ n = 6) {o : Nat} (ho : o ≤ 20) : d + o ≠ n := by rcases hd with e | e | e <;> omega
theorem d6 (hd : adPl d) {n : Nat} (hn : d ≤ n ∧ n ≤ d + 20) : (6 : Nat) ≠ n := by rcases hd with e | e | e <;> omega
/-- only the token went on -/
theorem RB.go (h : RB G S d B j) (hd : adPl d) (hE : rdE G G') {j' : Nat} (hR : RD G' S j') : RB G' S d B j' := ⟨hR, h.2.1.off hE.1 (fun o ho q => q.elim (ad_no hd (Or.inl rfl) ho) (ad_no hd (Or.inr rfl) ho)), by rw [hE.2.2]; exact h.2.2.1, by rw [hE.2.1]; exact h.2.2.2⟩
theorem RD.pl' (h : RD G S j) (hd : adPl d) {n : Nat} (hn : d ≤ n ∧ n ≤ d + 20) (k : Nat) (x : Int32) : RD (gsi G n k x) S j := h.off (W := fun m => m = n) (eqOff.gsi _ _ rfl) (fun m h1 h2 => by rcases hd with e | e | e <;> omega)
theorem RD.pll (h : RD G S j) (hd : adPl d) {n : Nat} (hn : d ≤ n ∧ n ≤ d + 20) (k : Nat) (x : Int64) : RD (gsl G n k x) S j := h.off (W := fun m => m = n) (eqOff.gsl _ _ rfl) (fun m h1 h2 => by rcases hd with e | e | e <;> omega)
/-- the end of a line -/
theorem c_end (h : RB G S d B j) (hd : adPl d) {fr : GG → Prop} (hfr : ∀ G', lnE d G G' → fr G') : cLn S d fr (mm_ci (f_Rd_takeMark [.ref 6] (hp G)) fun x h => if x = 0 ∨ x = 1 then some (some (.int x), h) else none) (thn (pMk S j) fun _ j => .inr (B, j)) := by
  obtain ⟨m1, m2⟩ := c_takeMark h.1
  unfold pMk
  by_cases hs : tso (tk S j) = 3
  · obtain ⟨G', r1, r2, r3, -⟩ := m1 hs
    rw [r1, ci_some, if_pos (Or.inr rfl), if_pos hs]
    exact ⟨G', rfl, h.go hd r3 r2, hfr G' r3.ln⟩
  · obtain ⟨G', r1, r2, r3⟩ := m2 hs
    rw [r1, ci_some, if_pos (Or.inl rfl), if_neg hs]
    exact ⟨fau_ne S (Nat.le_refl 1) j, G', rfl, r2, hfr G' r3.ln⟩
/-- told once -/
theorem c_single (h : RB G S d B j) (hd : adPl d) {i : Nat} (hi : i < 9) (hw : isW S i j = true) : (tBn B i = true → ∃ G', f_Rd_takeSingle [.ref 6] (hp G) = some (some (.int 0), hp G') ∧ G'.1 6 3 = nI (fau S 3 j) ∧ lnE d G G') ∧ (tBn B i = false → ∃ G', f_Rd_takeSingle [.ref 6] (hp G) = some (some (.int 1), hp G') ∧ RB G' S d (sBn B i) (j + 1) ∧ lnE d G G') := by
  obtain ⟨w1, w2, -, -⟩ := isW_wN hw
  have hv : G.1 2 7 = nI i := by rw [h.1.va]; unfold valI wxI; rw [if_pos w1, w2]
  rw [e_Rd_takeSingle 6 _ (ob_Rd G), gg_Rd_tape, Option.bind_some, gg_Tp_value, Option.bind_some, hv, gg_Rd_been, Option.bind_some, h.2.2.1, show (1 : Int32) <<< (nI i &&& 31) = sbit i from rfl]
  refine ⟨fun hb => ?_, fun hb => ?_⟩
  · obtain ⟨G', r1, r2, r3⟩ := c_wrong h.1 3
    rw [if_neg (by rw [msk_bit hi, hb]; decide), show f_Rd_wrong [.ref 6, .int 3] (hp G) = _ from r1, ci_some, if_pos (Or.inl rfl)]
    exact ⟨G', rfl, r2, r3.ln⟩
  · rw [if_pos (by rw [msk_bit hi]; exact hb), Option.bind_some, msk_or hi, ww_Rd_been, Option.bind_some, gg_Rd_tape, Option.bind_some]
    obtain ⟨G', r1, r2, r3, r4⟩ := c_on (h.1.six 5 (msk (fun k => decide (k = i) || tBn B k) 9))
    rw [r1, cv_some]
    have hE : lnE d G G' := (lnE.gsi (Or.inr (Or.inl rfl))).tr r3.ln
    refine ⟨G', rfl, ⟨r2, ?_, ?_, ?_⟩, hE⟩
    · have := h.2.1.off (G' := G') (W := fun n => n = 2 ∨ n = 6) ((eqOff.gsi _ _ (Or.inr rfl)).tr r3.1) (fun o ho q => q.elim (ad_no hd (Or.inl rfl) ho) (ad_no hd (Or.inr rfl) ho))
      exact this
    · rw [r4, fd]; rfl
    · rw [hE.2]; exact h.2.2.2
theorem c_page (h : RB G S d B j) (hd : adPl d) (hw : isW S 0 j = true) : cLn S d (lnE d G) (f_Rd_pageLine [.ref 6] (hp G)) (pPage S B j) := by
  obtain ⟨s1, s2⟩ := c_single h hd (by decide) hw
  rw [e_Rd_pageLine 6 _ (ob_Rd G)]
  unfold pPage
  cases hb : tBn B 0
  · obtain ⟨G1, r1, r2, r3⟩ := s2 hb
    rw [r1, ci_some, if_neg (by decide), if_neg (by decide)]
    have hN := c_takeNumber r2.1 (lo := 2) (hi := 8) (by decide) (by decide)
    unfold pPage1
    cases hp1 : pNum S 2 8 (j + 1) with
    | inl e =>
      rw [hp1] at hN
      obtain ⟨e0, G2, q1, q2, q3⟩ := hN
      rw [show f_Rd_takeNumber [.ref 6, .int 2, .int 8] (hp G1) = _ from q1, ci_some, if_pos rfl, thn_l]
      exact ⟨e0, G2, rfl, q2, r3.tr q3.ln⟩
    | inr vj =>
      obtain ⟨v, j2⟩ := vj
      rw [hp1] at hN
      obtain ⟨G2, q1, q2, q3, q4⟩ := hN
      have R2 := r2.go hd q4 q2
      rw [show f_Rd_takeNumber [.ref 6, .int 2, .int 8] (hp G1) = _ from q1, ci_some, if_neg (by decide), gg_Rd_plan, Option.bind_some, R2.2.2.2, gg_Rd_number, Option.bind_some, q3, ww_Pl_page _ hd.ok, Option.bind_some, thn_r]
      have R3 : RB (gsi G2 d 8 (nI v)) S d (v, tBt (sBn B 0), tBn (sBn B 0), tIx (sBn B 0), tRw (sBn B 0), tPt (sBn B 0), tCh (sBn B 0), tPa (sBn B 0)) j2 := ⟨R2.1.pl' hd (by omega) 8 (nI v), R2.2.1.num (eqOff.gsi _ _ rfl) (fd _ _ _ _) (by rw [fdn _ _ (by decide)]; exact R2.2.1.1.2.1) ⟨fdn _ _ (by decide), fdn _ _ (by decide), fdn _ _ (by decide)⟩ _, by rw [fdo _ _ (d6 hd (by omega))]; exact R2.2.2.1, R2.2.2.2⟩
      exact c_end R3 hd (fun G' q => ((r3.tr q4.ln).tr (lnE.gsi (Or.inr (Or.inr (by omega))))).tr q)
  · obtain ⟨G1, r1, r2, r3⟩ := s1 hb
    rw [r1, ci_some, if_pos rfl, if_pos rfl]
    exact ⟨fau_ne S (by decide) j, G1, rfl, r2, r3⟩
theorem c_batch (h : RB G S d B j) (hd : adPl d) (hw : isW S 1 j = true) : cLn S d (lnE d G) (f_Rd_batchLine [.ref 6] (hp G)) (pBatch S B j) := by
  obtain ⟨s1, s2⟩ := c_single h hd (by decide) hw
  rw [e_Rd_batchLine 6 _ (ob_Rd G)]
  unfold pBatch
  cases hb : tBn B 1
  · obtain ⟨G1, r1, r2, r3⟩ := s2 hb
    rw [r1, ci_some, if_neg (by decide), if_neg (by decide)]
    have hN := c_takeNumber r2.1 (lo := 1) (hi := 8) (by decide) (by decide)
    unfold pBatch1
    cases hp1 : pNum S 1 8 (j + 1) with
    | inl e =>
      rw [hp1] at hN
      obtain ⟨e0, G2, q1, q2, q3⟩ := hN
      rw [show f_Rd_takeNumber [.ref 6, .int 1, .int 8] (hp G1) = _ from q1, ci_some, if_pos rfl, thn_l]
      exact ⟨e0, G2, rfl, q2, r3.tr q3.ln⟩
    | inr vj =>
      obtain ⟨v, j2⟩ := vj
      rw [hp1] at hN
      obtain ⟨G2, q1, q2, q3, q4⟩ := hN
      have R2 := r2.go hd q4 q2
      rw [show f_Rd_takeNumber [.ref 6, .int 1, .int 8] (hp G1) = _ from q1, ci_some, if_neg (by decide), gg_Rd_plan, Option.bind_some, R2.2.2.2, gg_Rd_number, Option.bind_some, q3, ww_Pl_batch _ hd.ok, Option.bind_some, thn_r]
      have R3 : RB (gsi G2 d 9 (nI v)) S d (tPg (sBn B 1), v, tBn (sBn B 1), tIx (sBn B 1), tRw (sBn B 1), tPt (sBn B 1), tCh (sBn B 1), tPa (sBn B 1)) j2 := ⟨R2.1.pl' hd (by omega) 9 (nI v), R2.2.1.num (eqOff.gsi _ _ rfl) (by rw [fdn _ _ (by decide)]; exact R2.2.1.1.1) (fd _ _ _ _) ⟨fdn _ _ (by decide), fdn _ _ (by decide), fdn _ _ (by decide)⟩ _, by rw [fdo _ _ (d6 hd (by omega))]; exact R2.2.2.1, R2.2.2.2⟩
      exact c_end R3 hd (fun G' q => ((r3.tr q4.ln).tr (lnE.gsi (Or.inr (Or.inr (by omega))))).tr q)
  · obtain ⟨G1, r1, r2, r3⟩ := s1 hb
    rw [r1, ci_some, if_pos rfl, if_pos rfl]
    exact ⟨fau_ne S (by decide) j, G1, rfl, r2, r3⟩
end RLN
