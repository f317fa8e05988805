/-! READER (the class): a TABLE from its beginning; a WORK -/
def tabE (d : Nat) (G G' : GG) : Prop := eqOff (fun n => n = 2 ∨ n = 6 ∨ (d ≤ n ∧ n ≤ d + 20)) G G'
theorem isTp.off {G G' : GG} {S : List Nat} (h : isTp G S) (e2 : G'.1 2 3 = G.1 2 3) (e3 : G'.1 3 = G.1 3) (e4 : G'.1 4 = G.1 4) : isTp G' S := by
  obtain ⟨t1, t2⟩ := h
  exact ⟨by rw [e2]; exact t1, fun i hi => by rw [e3, e4]; exact t2 i hi⟩
theorem c_rewind {G : GG} {S : List Nat} (hT : isTp G S) (hK : isKy G) (h3 : G.1 6 3 = 0) : ∃ G', f_Tp_rewind [.ref 2] (hp G) = some (none, hp G') ∧ RD G' S 0 ∧ eqOff (fun n => n = 2) G G' := by
  rw [e_Tp_rewind 2 _ (ob_Tp G), ww_Tp_behind, Option.bind_some]
  obtain ⟨G', r1, r2, r3, r4, r5⟩ := s_readOn (G := gsi G 2 5 0) (S := S) (j := 0) (hT.off (fdn _ _ (by decide)) (fdo _ _ (by decide)) (fdo _ _ (by decide))) hK (fd _ _ _ _)
  rw [r1, cv_some]
  exact ⟨G', rfl, ⟨r3, r4, r2, by rw [(r5 6 (by decide)).1]; exact h3⟩, eqOff.tr (show eqOff (fun n => n = 2) G (gsi G 2 5 0) from eqOff.gsi _ _ rfl) r5⟩
theorem c_readPlan {G : GG} {S : List Nat} {d : Nat} (hd : adPl d) (hT : isTp G S) (hK : isKy G) : cTb S d (tabE d G) (f_Rd_readPlan [.ref 6, .ref d] (hp G)) (pTab S 1000 tb0 0) := by
  have d7 : 7 ≤ d := by rcases hd with e | e | e <;> omega
  rw [e_Rd_readPlan 6 _ _ (ob_Rd G), ww_Rd_plan, Option.bind_some, gg_Rd_plan, Option.bind_some, show (gsr G 6 1 d).2.2 6 1 = d from by rw [gsr_eq, if_pos rfl]]
  rw [e_Pl_clear d _ (ob_Pl _ hd.ok), ww_Pl_page _ hd.ok, Option.bind_some, ww_Pl_batch _ hd.ok, Option.bind_some, ww_Pl_indexes _ hd.ok, Option.bind_some, ww_Pl_rows _ hd.ok, Option.bind_some, ww_Pl_points _ hd.ok, Option.bind_some, gg_Pl_choose _ hd.ok, Option.bind_some, ww_Wh_limits _ hd.ch, Option.bind_some, gg_Pl_part _ hd.ok, Option.bind_some, ww_Wh_limits _ hd.pa, Option.bind_some, cv_some, ww_Rd_been, Option.bind_some, ww_Rd_fault, Option.bind_some, gg_Rd_tape, Option.bind_some]
  generalize hG1 : gsi (gsi (gsi (gsi (gsi (gsi (gsi (gsi (gsi (gsr G 6 1 d) d 8 4) d 9 2) d 10 0) d 11 0) d 12 0) (d + 7) 6 0) (d + 14) 6 0) 6 5 0) 6 3 0 = G1
  have hE : tabE d G G1 := by
    rw [← hG1]
    refine (((((((((?_ : eqOff _ G _).tr (eqOff.gsi _ _ ?_)).tr (eqOff.gsi _ _ ?_)).tr (eqOff.gsi _ _ ?_)).tr (eqOff.gsi _ _ ?_)).tr (eqOff.gsi _ _ ?_)).tr (eqOff.gsi _ _ ?_)).tr (eqOff.gsi _ _ ?_)).tr (eqOff.gsi _ _ ?_)).tr (eqOff.gsi _ _ ?_)
    · exact eqOff.gsr _ _ (Or.inr (Or.inl rfl))
    all_goals omega
  have c0 : ∀ k, G1.1 d k = if k = 12 then 0 else if k = 11 then 0 else if k = 10 then 0 else if k = 9 then 2 else if k = 8 then 4 else G.1 d k := fun k => by
    rw [← hG1, fdo _ _ (show d ≠ 6 by omega), fdo _ _ (show d ≠ 6 by omega), fdo _ _ (show d ≠ d + 14 by omega), fdo _ _ (show d ≠ d + 7 by omega)]
    by_cases e12 : k = 12
    · rw [e12, fd]; rfl
    · rw [fdn _ _ e12, if_neg e12]
      by_cases e11 : k = 11
      · rw [e11, fd]; rfl
      · rw [fdn _ _ e11, if_neg e11]
        by_cases e10 : k = 10
        · rw [e10, fd]; rfl
        · rw [fdn _ _ e10, if_neg e10]
          by_cases e9 : k = 9
          · rw [e9, fd]; rfl
          · rw [fdn _ _ e9, if_neg e9]
            by_cases e8 : k = 8
            · rw [e8, fd]; rfl
            · rw [fdn _ _ e8, if_neg e8]; rfl
  have c7 : G1.1 (d + 7) 6 = 0 := by rw [← hG1, fdo _ _ (show d + 7 ≠ 6 by omega), fdo _ _ (show d + 7 ≠ 6 by omega), fdo _ _ (show d + 7 ≠ d + 14 by omega), fd]
  have c14 : G1.1 (d + 14) 6 = 0 := by rw [← hG1, fdo _ _ (show d + 14 ≠ 6 by omega), fdo _ _ (show d + 14 ≠ 6 by omega), fd]
  have c63 : G1.1 6 3 = 0 := by rw [← hG1, fd]
  have c65 : G1.1 6 5 = 0 := by rw [← hG1, fdn _ _ (by decide), fd]
  have c61 : G1.2.2 6 1 = d := by rw [← hG1]; show (gsr G 6 1 d).2.2 6 1 = d; rw [gsr_eq, if_pos rfl]
  have e2 : G1.1 2 = G.1 2 := (hE 2 |> fun _ => by rw [← hG1, fdo _ _ (show (2 : Nat) ≠ 6 by omega), fdo _ _ (show (2 : Nat) ≠ 6 by omega), fdo _ _ (show (2 : Nat) ≠ d + 14 by omega), fdo _ _ (show (2 : Nat) ≠ d + 7 by omega), fdo _ _ (show (2 : Nat) ≠ d by omega), fdo _ _ (show (2 : Nat) ≠ d by omega), fdo _ _ (show (2 : Nat) ≠ d by omega), fdo _ _ (show (2 : Nat) ≠ d by omega), fdo _ _ (show (2 : Nat) ≠ d by omega)]; rfl)
  have e3 : G1.1 3 = G.1 3 := (hE 3 (fun q => by omega)).1
  have e4 : G1.1 4 = G.1 4 := (hE 4 (fun q => by omega)).1
  have e5 : G1.2.1 5 = G.2.1 5 := (hE 5 (fun q => by omega)).2.1
  clear hG1
  obtain ⟨G2, r1, r2, r3⟩ := c_rewind (hT.off (by rw [e2]) e3 e4) (fun i hi => by rw [e5]; exact hK i hi) c63
  rw [r1, cv_some]
  have P1 : isPB G1 d tb0 := by
    refine ⟨⟨by rw [c0]; rfl, by rw [c0]; rfl, by rw [c0]; rfl, by rw [c0]; rfl, by rw [c0]; rfl⟩, fun i hi => absurd hi (Nat.not_lt_zero _), fun i hi => absurd hi (Nat.not_lt_zero _), fun i hi => absurd hi (Nat.not_lt_zero _), ⟨by rw [c7]; rfl, fun i hi => absurd hi (Nat.not_lt_zero _)⟩, ⟨by rw [c14]; rfl, fun i hi => absurd hi (Nat.not_lt_zero _)⟩⟩
  have R2 : RB G2 S d tb0 0 := ⟨r2, P1.off r3 (fun o ho q => by omega), by rw [(r3 6 (by decide)).1, c65]; rfl, by rw [(r3 6 (by decide)).2.2]; exact c61⟩
  have hC := c_tab (S := S) hd (G0 := G2) 1000 0 mm_fu tb0 0 G2 rfl (by have := @fu_lt 9000 (by omega); omega) R2 okTB0.1 okTB0.2 lnE.rf
  have E2 : tabE d G G2 := hE.tr (r3.mono (fun n hn => Or.inl hn))
  show cTb S d (tabE d G) (mm_run p_Rd_readPlan mm_fu 33 [.ref 6, .int 1, .int (nI 0)] [] (hp G2)) _
  cases hp1 : pTab S 1000 tb0 0 with
  | inl e =>
    rw [hp1] at hC
    obtain ⟨e0, G3, q1, q2⟩ := hC
    exact ⟨e0, G3, q1, E2.tr q2.1⟩
  | inr q =>
    obtain ⟨B, j⟩ := q
    rw [hp1] at hC
    obtain ⟨G3, q1, q2, q3⟩ := hC
    exact ⟨G3, q1, q2, E2.tr q3.1⟩
/-- the numbers of a line -/
def nmE (l i : Nat) (G G' : GG) : Prop := eqOff (fun n => n = 2 ∨ n = 6 ∨ n = l + 2) G G' ∧ G'.2.2 6 = G.2.2 6 ∧ ∀ q, q < i * 3 → G'.1 (l + 2) q = G.1 (l + 2) q
theorem nmE.rf {l i : Nat} {G : GG} : nmE l i G G := ⟨eqOff.rf, rfl, fun _ _ => rfl⟩
theorem nmE.tr {l i : Nat} {G1 G2 G3 : GG} (h1 : nmE l i G1 G2) (h2 : nmE l i G2 G3) : nmE l i G1 G3 := ⟨h1.1.tr h2.1, h2.2.1.trans h1.2.1, fun q hq => (h2.2.2 q hq).trans (h1.2.2 q hq)⟩
theorem adLn.lo {l : Nat} (h : adLn l) : 28 ≤ l := by rcases h with e | e | e <;> omega
theorem rdE.nm {l i : Nat} {G G' : GG} (hl : adLn l) (h : rdE G G') : nmE l i G G' := ⟨h.1.mono (fun n hn => hn.elim Or.inl (fun q => Or.inr (Or.inl q))), h.2.1, fun q _ => by rw [(h.1 (l + 2) (fun q => by have := hl.lo; omega)).1]⟩
def cKp (S : List Nat) (l i c : Nat) (G : GG) (X : (mm_H → Option (Option Value × mm_H)) → Option (Option Value × mm_H)) : Nat ⊕ (Nat × Nat) → Prop
  | .inl e => e ≠ 0 ∧ ∃ G', (∀ K, X K = some (some (.int 0), hp G')) ∧ G'.1 6 3 = nI e ∧ nmE l i G G'
  | .inr (v, j) => ∃ G', (∀ K, X K = K (hp G')) ∧ RD G' S j ∧ G'.1 (l + 2) (i * 3 + c) = nI v ∧ (∀ q, q ≠ i * 3 + c → G'.1 (l + 2) q = G.1 (l + 2) q) ∧ nmE l i G G'
def cWk (S : List Nat) (l i : Nat) (fr : GG → Prop) (x : Option (Option Value × mm_H)) : Nat ⊕ (LI × Nat) → Prop
  | .inl e => e ≠ 0 ∧ ∃ G', x = some (some (.int 0), hp G') ∧ G'.1 6 3 = nI e ∧ fr G'
  | .inr (t, j) => ∃ G', x = some (some (.int 1), hp G') ∧ RD G' S j ∧ isLi G' l i t ∧ fr G'
theorem cWk.of {S : List Nat} {l i : Nat} {fr : GG → Prop} {X Y : Option (Option Value × mm_H)} {r : Nat ⊕ (LI × Nat)} (e : X = Y) (h : cWk S l i fr Y r) : cWk S l i fr X r := by rw [e]; exact h
section RWK
variable {G G' : GG} {S : List Nat} {j d l i : Nat} {N : List (List Nat × Nat × Nat)}
theorem c_kp (hl : adLn l) (hi : i < 40) {c : Nat} (hc : c < 3) (hr : G.2.2 6 2 = l) {X0 : Option (Option Value × mm_H)} {r : Nat ⊕ (Nat × Nat)} (h : cRes S (rdE G) X0 r) : cKp S l i c G (fun K => mm_ci X0 fun x h => if x = 0 then some (some (.int 0), h) else (mm_gr 6 2 h 6).bind fun r6 => (mm_gi 6 4 h 6).bind fun x7 => mm_ci (f_Ln_keep [.ref r6, .int (nI i), .int (nI c), .int x7] h) fun x9 h8 => if x9 = 0 then some (some (.int 0), h8) else K h8) r := by
  have hlo := hl.lo
  cases r with
  | inl e =>
    obtain ⟨e0, G', r1, r2, r3⟩ := h
    refine ⟨e0, G', fun K => ?_, r2, r3.nm hl⟩
    show mm_ci X0 _ = _
    rw [r1, ci_some, if_pos rfl]
  | inr q =>
    obtain ⟨v, j⟩ := q
    obtain ⟨G', r1, r2, r3, r4⟩ := h
    refine ⟨gsi G' (l + 2) (i * 3 + c) (nI v), fun K => ?_, r2.off (W := fun m => m = l + 2) (eqOff.gsi _ _ rfl) (fun m h1 h2 => by omega), fd _ _ _ _, fun q hq => ?_, (r4.nm hl).tr ⟨eqOff.gsi _ _ (Or.inr (Or.inr rfl)), rfl, fun q hq => fdn _ _ (by omega)⟩⟩
    · show mm_ci X0 _ = _
      rw [r1, ci_some, if_neg (by decide), gg_Rd_lines, Option.bind_some, r4.2.1, hr, gg_Rd_number, Option.bind_some, r3, e_Ln_keep l _ _ _ _ (ob_Ln _ hl.ok), gg_Ln_number _ hl.ok, Option.bind_some, show nI i * 3 = nI (i * 3) from n_mul i 3, i_add, uu_Ln_number _ hl.ok (by omega), Option.bind_some, ci_some, if_neg (by decide)]
    · rw [fdn _ _ hq, (r4.1 (l + 2) (fun q => by omega)).1]
/-- an INDEX by its name -/
def isNs (G : GG) (d : Nat) (N : List (List Nat × Nat × Nat)) : Prop := G.1 d 10 = nI N.length ∧ (∀ i (h : i < N.length), G.2.1 (d + 3) i = lL (pkL 32 N[i].1)) ∧ N.length ≤ 4 ∧ ∀ q ∈ N, okNm q.1
theorem isNs.off {W : Nat → Prop} (h : isNs G d N) (hq : eqOff W G G') (h0 : ¬ W d ∧ ¬ W (d + 3)) : isNs G' d N := ⟨by rw [(hq d h0.1).1]; exact h.1, fun i hi => by rw [(hq (d + 3) h0.2).2.1]; exact h.2.1 i hi, h.2.2⟩
theorem c_takeName (h : RD G S j) (hd : adPl d) (hr : G.2.2 6 1 = d) (hN : isNs G d N) : cRes S (rdE G) (f_Rd_takeIndexName [.ref 6] (hp G)) (pNm S N j) := by
  rw [e_Rd_takeIndexName 6 _ (ob_Rd G), gg_Rd_tape, Option.bind_some, c_isName h, ci_some]
  unfold pNm
  cases hn : isNm S j
  · rw [if_pos (show b2 false = 0 from rfl), if_neg (show ¬ false = true by decide)]
    exact c_bad h (Nat.le_refl 1) (fun _ q => q)
  · obtain ⟨w1, w2⟩ := h.nm hn
    obtain ⟨n1, n2, n3, n4⟩ := hN
    rw [if_neg (show ¬ b2 true = 0 by decide), if_pos (show true = true from rfl), gg_Rd_plan, Option.bind_some, hr, gg_Rd_tape, Option.bind_some, gg_Tp_letters, Option.bind_some, w2, c_named hd n1 n2 n3 n4 w1, ci_some, ww_Rd_number, Option.bind_some, gg_Rd_number, Option.bind_some, fd]
    have R1 := h.six 4 (nmI (nmd N (tsg (tk S j))))
    cases hm : nmd N (tsg (tk S j)) with
    | none =>
      rw [hm] at R1
      rw [if_pos (show nmI none = -1 from rfl)]
      exact c_bad R1 (by decide) (fun _ q => (rdE.six (by decide)).tr q)
    | some k =>
      have hk := nmd_lt hm
      rw [hm] at R1
      obtain ⟨G', r1, r2, r3, r4⟩ := c_on R1
      rw [if_neg (show ¬ nmI (some k) = -1 from n_m1 (show k < 2147483648 by omega)), gg_Rd_tape, Option.bind_some, r1, cv_some]
      exact ⟨G', rfl, r2, by rw [r4, fd]; rfl, (rdE.six (by decide)).tr r3⟩
end RWK
