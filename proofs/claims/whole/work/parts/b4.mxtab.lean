/-! THE REFERENCE: table -/
def clF (f : Nat → Int32) (a n : Nat) : Nat → Int32 := fun q => if a ≤ q ∧ q < a + n then 0 else f q
theorem clF_s (f : Nat → Int32) (a n : Nat) : upd (clF f a n) (a + n) 0 = clF f a (n + 1) := by
  funext k
  by_cases g : k = a + n
  · rw [g, upd_at]
    unfold clF
    rw [if_pos (by omega)]
  · rw [upd_ne _ _ g]
    unfold clF
    by_cases g2 : a ≤ k ∧ k < a + n
    · rw [if_pos g2, if_pos (by omega)]
    · rw [if_neg g2, if_neg (by omega)]
theorem clF_0 (f : Nat → Int32) (a : Nat) : clF f a 0 = f := by
  funext k
  exact if_neg (by omega)
theorem cpy_0 (f : Nat → Int32) (a t : Nat) : cpy f a t 0 = f := by
  funext k
  exact if_neg (by omega)
def mR (n : Nat) : Prop := 618 ≤ n ∧ n ≤ 633
theorem cel_0 : ∀ k, k < 53 → 2 ≤ k → (cel tb0 k = some 0 ∨ cel tb0 k = none) := by decide +kernel
section MTB
variable {G G' : GG} {S : List Nat} {A : AS} {U : List AS} {cu : CU} {B : TB} {K : List LI}
theorem m_always {a : Nat} (ha : a + 53 ≤ 106) : f_Md_standsAsAlways [.ref 618, .int (nI a)] (hp G) = some (none, hp (gsi (gsi (gsa G 624 (clF (G.1 624) a 53)) 624 (a + 0) 4) 624 (a + 1) 2)) := by
  have hfu : 9999 ≤ mm_fu := Nat.le_of_lt (fu_lt (Nat.le_refl _))
  have clr : ∀ (j k f : Nat), k + j = 53 → j < f → mm_run p_Md_standsAsAlways f 2 [.ref 618, .int (nI a), .int (nI k)] [] (hp (gsa G 624 (clF (G.1 624) a k))) = some (none, hp (gsi (gsi (gsa G 624 (clF (G.1 624) a 53)) 624 (a + 0) 4) 624 (a + 1) 2)) := by
    intro j
    induction j with
    | zero =>
      intro k f hk hf
      obtain ⟨f, rfl⟩ : ∃ g, f = g + 1 := ⟨f - 1, by omega⟩
      rw [e_Md_standsAsAlways_2, if_neg (show ¬ nI k < (53 : Int32) from lm (n := 53) (by omega) (by omega)), show k = 53 by omega, gg_Md_tables, Option.bind_some, show nI a + 0 = nI (a + 0) from i_add a 0, uu_Md_tables _ (by omega), Option.bind_some, gg_Md_tables, Option.bind_some, show nI a + 1 = nI (a + 1) from i_add a 1, uu_Md_tables _ (by omega), Option.bind_some]
    | succ j ih =>
      intro k f hk hf
      obtain ⟨f, rfl⟩ : ∃ g, f = g + 1 := ⟨f - 1, by omega⟩
      rw [e_Md_standsAsAlways_2, if_pos (show nI k < (53 : Int32) from lp (n := 53) (by omega) (by decide)), gg_Md_tables, Option.bind_some, i_add, uu_Md_tables _ (by omega), Option.bind_some, gsi_gsa, clF_s, show nI k + 1 = nI (k + 1) from nI_add k 1]
      exact ih (k + 1) f (by omega) (by omega)
  rw [e_Md_standsAsAlways 618 _ _ (ob_Md G)]
  have := clr 53 0 mm_fu (by decide) (by omega)
  rw [clF_0, gsa_self] at this
  exact this
theorem isMB0 (h0 : G.1 624 53 = 4) (h1 : G.1 624 54 = 2) (hz : ∀ k, 2 ≤ k → k < 53 → G.1 624 (53 + k) = 0) (w2 : G.1 625 146 = 0) (w3 : G.1 625 219 = 0) : isMB G 53 2 4 tb0 := by
  refine ⟨fun k hk v hv => ?_, fun i hi => absurd hi (Nat.not_lt_zero i), ⟨w2, fun i hi => absurd hi (Nat.not_lt_zero i)⟩, ⟨w3, fun i hi => absurd hi (Nat.not_lt_zero i)⟩⟩
  by_cases e0 : k = 0
  · subst e0; rw [show G.1 624 (53 + 0) = 4 from h0]; exact Option.some.inj hv
  by_cases e1 : k = 1
  · subst e1; rw [show G.1 624 (53 + 1) = 2 from h1]; exact Option.some.inj hv
  rw [hz k (by omega) hk]
  rcases cel_0 k hk (by omega) with q | q
  · rw [q] at hv; exact Option.some.inj hv
  · rw [q] at hv; cases hv
theorem drE.gsa4 {f : Nat → Int32} (hf : ∀ k, k < 53 → f k = G.1 624 k) : drE G (gsa G 624 f) := ⟨fun n _ b _ => by rw [gsa_i, if_neg b], fun _ _ => rfl, rfl, fun k _ _ => by rw [gsa_i, if_neg (by decide)], fun k hk => by rw [gsa_i, if_pos rfl]; exact hf k hk, fun k hk => by rw [gsa_i, if_neg (by decide)], fun _ _ => rfl⟩
theorem drE.l6 (h : drE G G') : eqOff mR G G' := fun n hn => by
  unfold mR at hn
  exact ⟨h.1 n (by omega) (by omega) (by omega), h.2.1 n (by omega), by rw [h.2.2.1]⟩
theorem cutE.l6 (h : cutE G G') : eqOff mR G G' := h.1.mono (fun n hn => ⟨hn.1, by omega⟩)
theorem mR_618 : mR 618 := ⟨by decide, by decide⟩
/-- the reading begins -/
theorem m_table0 (ht : isMTp G S) (hw : isWo G) : ∃ H, f_Md_table [.ref 618] (hp G) = mm_run p_Md_table mm_fu 33 [.ref 618] [] (hp H) ∧ RMd H S 0 0 ∧ isMB H 53 2 4 tb0 ∧ rdC G H ∧ eqOff mR G H ∧ H.1 618 2 = 0 := by
  rw [e_Md_table 618 _ (ob_Md G), ww_Md_thrown, Option.bind_some]
  have ht0 : isMTp (gsi G 618 0 0) S := ht.off (f6n _ _ (by decide)) (f6o _ _ (by decide))
  obtain ⟨G1, n, c1, c2, c3, c4, c5, c6⟩ := m_cutAll ht0
  have ms : f_Md_standsAsAlways [.ref 618, .int 53] (hp G1) = _ := m_always (a := 53) (by decide)
  rw [c1, cv_some, ms, cv_some, gg_Md_wheres, Option.bind_some]
  generalize hH1 : gsi (gsi (gsa G1 624 (clF (G1.1 624) 53 53)) 624 (53 + 0) 4) 624 (53 + 1) 2 = H1
  have w1 : mm_si (hp H1) 625 146 0 = some (hp (gsi H1 625 146 0)) := uu_Md_wheres H1 (i := 146) (by decide) 0
  have w2 : mm_si (hp (gsi H1 625 146 0)) 625 219 0 = some (hp (gsi (gsi H1 625 146 0) 625 219 0)) := uu_Md_wheres _ (i := 219) (by decide) 0
  rw [w1, Option.bind_some, gg_Md_wheres, Option.bind_some, w2, Option.bind_some]
  have d1 : drE G1 H1 := by
    rw [← hH1]
    exact ((drE.gsa4 (fun k hk => if_neg (by omega))).tr (drE.tab (by decide))).tr (drE.tab (by decide))
  have d2 : drE H1 (gsi (gsi H1 625 146 0) 625 219 0) := (drE.whe (by decide)).tr (drE.whe (by decide))
  have d3 := d1.tr d2
  have r0 : RMd G1 S 0 0 := ⟨⟨n, c2, Nat.zero_le _⟩, hw.off ((c6.1 623 (by omega)).2.1), c5, c4, by decide⟩
  have e4 : (gsi (gsi H1 625 146 0) 625 219 0).1 624 = H1.1 624 := by rw [gsi_i, if_neg (by decide), gsi_i, if_neg (by decide)]
  have f1 : H1.1 624 = upd (upd (clF (G1.1 624) 53 53) 53 4) 54 2 := by
    rw [← hH1, gsi_i, if_pos rfl, gsi_i, if_pos rfl, gsa_i, if_pos rfl]
  have r1 : RMd H1 S 0 0 := r0.off (d1.1 620 (by decide) (by decide) (by decide)) (d1.1 621 (by decide) (by decide) (by decide)) (d1.2.1 622 (by decide)) (d1.2.1 623 (by decide)) (by rw [← hH1, f6o _ _ (by decide), f6o _ _ (by decide), gsa_i, if_neg (by decide)]) (by rw [← hH1, f6o _ _ (by decide), f6o _ _ (by decide), gsa_i, if_neg (by decide)])
  refine ⟨_, rfl, (r1.arr (by decide)).arr (by decide), isMB0 ?_ ?_ (fun k h2 hk => ?_) ?_ ?_, ((rdC.th 0).tr c6.rd).tr d3.rd, ((eqOff.gsi _ _ mR_618).tr c6.l6).tr d3.l6, ?_⟩
  · rw [e4, f1, upd_ne _ _ (by decide), upd_at]
  · rw [e4, f1, upd_at]
  · rw [e4, f1, upd_ne _ _ (by omega), upd_ne _ _ (by omega)]; exact if_pos (by omega)
  · rw [gsi_i, if_pos rfl, upd_ne _ _ (by decide), gsi_i, if_pos rfl, upd_at]
  · rw [gsi_i, if_pos rfl, upd_at]
  · rw [d3.2.2.2.1 2 (by decide) (by decide)]; exact c3
/-- what has been read is taken over -/
theorem m_table1 {f : Nat} (hf : 300 ≤ f) (hB : isMB G 53 2 4 B) (hk : okTB B) (h2 : G.1 618 2 = 0) (hw : isWo G) : ∃ G', mm_run p_Md_table f 79 [.ref 618, .int 0] [] (hp G) = some (some (.int 0), hp G') ∧ MX G' B [] [] (startA (pOf B) (tOf B)) [] (-1, G.1 618 18, G.1 618 19) ∧ eqOff mR G G' := by
  have a1 := m_79 (G := G) 53 0 f (by decide) (by omega)
  rw [cpy_0, gsa_self] at a1
  generalize hG1 : gsa G 624 (cpy (G.1 624) 53 0 53) = G1 at a1
  have a2 := m_108 (G := G1) 146 0 (f - 53 - 1) (by decide) (by omega)
  rw [cpy_0, gsa_self] at a2
  generalize hG2 : gsa G1 625 (cpy (G1.1 625) 146 0 146) = G2 at a2
  obtain ⟨G3, a3, b1, b3, b4, b5⟩ := m_139 (G := G2) (f := f - 53 - 1 - 146 - 1) (by omega)
  rw [show mm_run p_Md_table f 79 [.ref 618, .int 0] [] (hp G) = _ from a1, show mm_run p_Md_table (f - 53 - 1) 108 [.ref 618, .int 0] [] (hp G1) = _ from a2, a3]
  have g4 : G3.1 624 = cpy (G.1 624) 53 0 53 := by rw [b1, ← hG2, gsa_i, if_neg (by decide), ← hG1, gsa_i, if_pos rfl]
  have g5 : G3.1 625 = cpy (G.1 625) 146 0 146 := by rw [b1, ← hG2, gsa_i, if_pos rfl, ← hG1, gsa_i, if_neg (by decide)]
  have go : ∀ n, n ≠ 624 → n ≠ 625 → G3.1 n = G.1 n := fun n x y => by rw [b1, ← hG2, gsa_i, if_neg y, ← hG1, gsa_i, if_neg x]
  have gl : G2.2 = G.2 := by rw [← hG2, ← hG1]; rfl
  have hB3 : isMB G3 0 0 0 B := hB.down hk (fun k q => by have := cpy_at (f := G.1 624) (a := 53) (t := 0) (n := 53) q; rw [Nat.zero_add] at this; rw [g4]; exact this) (fun k q => by have := cpy_at (f := G.1 625) (a := 146) (t := 0) (n := 146) q; rw [Nat.zero_add] at this; rw [g5]; exact this) (fun k q => by rw [b5 k q, gl])
  have hmt := hB3.mt hk
  obtain ⟨G4, s1, s2, s3⟩ := m_starts (G := G3) (b := 0) (by decide) (hB3.mp0 hk) (okPP_of hk) hmt (okTd_of hk)
  have w1 : mm_si (hp G4) 627 0 0 = some (hp (gsi G4 627 0 0)) := uu_Md_lines G4 (i := 0) (by decide) 0
  rw [e_Md_begins 618 _ (ob_Md G3), show f_Md_starts [.ref 618, .int 0] (hp G3) = _ from s1, cv_some, gg_Md_lines, Option.bind_some, w1, Option.bind_some, ww_Md_undos, Option.bind_some, ww_Md_cursor, Option.bind_some, cv_some]
  generalize hG5 : gsi (gsi (gsi G4 627 0 0) 618 15 0) 618 17 (-1) = G5
  have q6 : ∀ k, k ≠ 15 → k ≠ 17 → G5.1 618 k = G4.1 618 k := fun k x y => by rw [← hG5, f6n _ _ y, f6n _ _ x, f6o _ _ (by decide)]
  have qo : ∀ n, n ≠ 618 → n ≠ 627 → G5.1 n = G4.1 n := fun n x y => by rw [← hG5, f6o _ _ x, f6o _ _ x, f6o _ _ y]
  have ql : G5.2 = G4.2 := by rw [← hG5]; rfl
  have p6 : ∀ k, k ≠ 15 → k ≠ 16 → k ≠ 17 → k ≠ 20 → k ≠ 21 → G5.1 618 k = G.1 618 k := fun k x y z u v => by rw [q6 k x z, s3.2.2.1 k u v, f6n _ _ y, go 618 (by decide) (by decide)]
  have pl : G5.2 = G3.2 := by rw [ql, s3.2.1]; rfl
  have po : ∀ n, n ≠ 618 → n ≠ 627 → n ≠ 628 → G5.1 n = G3.1 n := fun n x y z => by rw [qo n x y, s3.1 n z x, f6o _ _ x]
  have hin : INV (pOf B) (startA (pOf B) (tOf B)) := start_inv (okPP_of hk) (okTd_of hk) 0
  refine ⟨G5, rfl, ⟨⟨⟨s2.copy hin.os s2.hb (s2.hP.off (qo 624 (by decide) (by decide)) (qo 625 (by decide) (by decide)) (q6 16 (by decide) (by decide))) (fun k _ => by rw [qo 628 (by decide) (by decide)]), hin⟩, ⟨Nat.zero_le _, ?_, fun j hj => absurd hj (Nat.not_lt_zero j)⟩, ⟨hmt.off (po 624 (by decide) (by decide) (by decide)), okTd_of hk⟩, ⟨?_, p6 18 (by decide) (by decide) (by decide) (by decide) (by decide), p6 19 (by decide) (by decide) (by decide) (by decide) (by decide)⟩, fixM.rf⟩, ⟨isMTp.nil (by rw [p6 2 (by decide) (by decide) (by decide) (by decide) (by decide)]; exact h2), hw.off (by rw [pl, b4 623 (by decide), gl])⟩, fun i hi => by rw [pl]; exact hB3.2.1 i hi, ⟨?_, fun i hi => absurd hi (Nat.not_lt_zero i)⟩⟩, fun n hn => ?_⟩
  · rw [← hG5, f6n _ _ (by decide), f6]; rfl
  · rw [← hG5, f6]
  · rw [← hG5, f6o _ _ (by decide), f6o _ _ (by decide), gsi_i, if_pos rfl, upd_at]; rfl
  · unfold mR at hn
    exact ⟨by rw [po n (by omega) (by omega) (by omega), go n (by omega) (by omega)], by rw [pl, b4 n (by omega), gl], by rw [pl, b3, gl]⟩
theorem r_table (M : MX G B K S A U cu) (h4 : (tIx B).length ≤ 4) : (∀ e, pTab S 1000 tb0 0 = .inl e → e < 100000 ∧ ∃ G', f_Md_table [.ref 618] (hp G) = some (some (.int (nI e)), hp G') ∧ MX G' B K [] A U cu ∧ eqOff mR G G') ∧ (∀ B' j, pTab S 1000 tb0 0 = .inr (B', j) → ∃ G', f_Md_table [.ref 618] (hp G) = some (some (.int 0), hp G') ∧ MX G' B' [] [] (startA (pOf B') (tOf B')) [] (-1, cu.2) ∧ eqOff mR G G') := by
  have hfu : 9999 ≤ mm_fu := Nat.le_of_lt (fu_lt (Nat.le_refl _))
  have hS : S.length ≤ 1000 := M.2.1.1.1.2.1
  obtain ⟨H, e1, hR, hB, hC, hE, hz⟩ := m_table0 M.2.1.1 M.2.1.2
  obtain ⟨l1, l2⟩ := m_tabl hS (G0 := H) 1000 tb0 0 H mm_fu (by decide) (by omega) hR hB okTB0.1 okTB0.2 List.Pairwise.nil drE.rf
  refine ⟨fun e he => ?_, fun B' j he => ?_⟩
  · obtain ⟨hb, G', g1, g2⟩ := l1 e he
    refine ⟨hb.2, G', by rw [e1, g1], M.rd h4 (hC.tr g2.rd) (isMTp.nil ?_), hE.tr g2.l6⟩
    rw [g2.2.2.2.1 2 (by decide) (by decide)]; exact hz
  · obtain ⟨G', f', hf, g1, g2, g3⟩ := l2 B' j he
    have hk := pTab_ok _ _ _ _ _ okTB0.1 okTB0.2 he
    have C := hC.tr g3.rd
    obtain ⟨G2, k1, k2, k3⟩ := m_table1 hf g2 hk (by rw [g3.2.2.2.1 2 (by decide) (by decide)]; exact hz) (M.2.1.2.off C.2.1)
    obtain ⟨-, c2, c3⟩ := M.1.2.2.2.1
    rw [C.2.2.1 18 (by decide) (by decide), C.2.2.1 19 (by decide) (by decide), c2, c3] at k2
    exact ⟨G2, by rw [e1, g1, k1], k2, (hE.tr g3.l6).tr k3⟩
end MTB
