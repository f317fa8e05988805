/-! THE CLASS: table, work -/
section CXT
variable {G G' Z : GG} {p q l m : Nat} {A : AS} {U : List AS} {cu : CU} {B : TB} {K : List LI} {S : List Nat}
theorem k_work (C : CX G p q l m B K S A U cu) (hb : ∀ e, pWs S (tIx B) 1000 [] 0 = .inl e → e < 100000) : (∀ e, pWs S (tIx B) 1000 [] 0 = .inl e → ∃ G', f_Ls_work [.ref 1] (hp G) = some (some (.int (nI e)), hp G') ∧ CX G' p q l m B K [] A U cu ∧ eqOff clR G G') ∧ (∀ K' j, pWs S (tIx B) 1000 [] 0 = .inr (K', j) → ∃ G', f_Ls_work [.ref 1] (hp G) = some (some (.int 0), hp G') ∧ CX G' p q m l B K' [] A U cu ∧ eqOff clR G G') := by
  obtain ⟨w, ⟨t, k⟩, n, ⟨l1, l2, l3, l4⟩, ⟨a1, a2⟩, b1, b3, b4⟩ := id C
  have hr := c_readLines (G := G) (l := m) (d := p) b3 C.ap t k n
  rw [e_Ls_work 1 _ (ob_Ls G), gg_Ls_reader, Option.bind_some, w.gpl, Option.bind_some, gg_Ls_draftLines, Option.bind_some, l4]
  refine ⟨fun e he => ?_, fun K' j he => ?_⟩
  · rw [he] at hr
    obtain ⟨e0, G1, r1, r2⟩ := hr
    have hlt := hb e he
    rw [r1, ci_some, gg_Ls_tape, Option.bind_some, ww_Tp_length, Option.bind_some, if_neg (show ¬ nI e = (0 : Int32) from ln (n := 0) e0 (by omega) (by decide))]
    obtain ⟨x1, x2⟩ := C.read r2 (fun n hn => by omega)
    exact ⟨_, rfl, x1, x2⟩
  · rw [he] at hr
    obtain ⟨G1, r1, rl, r2⟩ := hr
    rw [r1, ci_some, gg_Ls_tape, Option.bind_some, ww_Tp_length, Option.bind_some, if_pos rfl]
    obtain ⟨x1, x2⟩ := C.read r2 (fun n hn => by omega)
    have hl7 : isLn (gsi G1 2 3 0) m K' := rl.off (o2 G1 3 0) (fun o ho h => by have := b3.lo; omega)
    generalize gsi G1 2 3 0 = G2 at x1 x2 hl7
    obtain ⟨w', ⟨t', k'⟩, n', ⟨l1', l2', l3', l4'⟩, -, -⟩ := id x1
    rw [gg_Ls_lines, Option.bind_some, l3', gg_Ls_draftLines, Option.bind_some, l4', ww_Ls_lines, Option.bind_some, ww_Ls_draftLines, Option.bind_some]
    have E : eqOff (fun n => n = 1) G2 (gsr (gsr G2 1 11 m) 1 12 l) := eqOff.tr (S := fun n => n = 1) (eqOff.gsr (S := fun n => n = 1) _ _ rfl) (eqOff.gsr (S := fun n => n = 1) _ _ rfl)
    have rk : ∀ j, (gsr (gsr G2 1 11 m) 1 12 l).2.2 1 j = if j = 12 then l else if j = 11 then m else G2.2.2 1 j := fun j => by rw [gsr_eq, gsr_eq]
    have hpl : ∀ o, o ≤ 20 → p + o ≠ 1 := fun o ho => by rcases C.ap with e | e | e <;> omega
    refine ⟨_, rfl, ⟨w'.off E (fun n hn => ?_) rfl (by rw [rk]; rfl) (by rw [rk]; rfl) (by rw [rk]; rfl), ⟨t'.off rfl rfl rfl, k'.off rfl⟩, n'.off E ⟨hpl 0 (by decide), hpl 3 (by decide)⟩, ⟨hl7.off E (fun o ho h => by have := b3.lo; omega), by rw [rk]; exact l2', by rw [rk]; rfl, by rw [rk]; rfl⟩, ⟨a1, a2⟩, b3, b1, fun e => b4 e.symm⟩, x2.tr (E.mono (fun n hn => ?_))⟩
    · subst hn
      exact ⟨by decide, fun h => by rcases C.ap with e | e | e <;> omega, by decide⟩
    · subst hn; exact ⟨by decide, by decide⟩
theorem k_table (C : CX G p q l m B K S A U cu) (hb : ∀ e, pTab S 1000 tb0 0 = .inl e → e < 100000) : (∀ e, pTab S 1000 tb0 0 = .inl e → ∃ G', f_Ls_table [.ref 1] (hp G) = some (some (.int (nI e)), hp G') ∧ CX G' p q l m B K [] A U cu ∧ eqOff clR G G') ∧ (∀ B' j, pTab S 1000 tb0 0 = .inr (B', j) → ∃ G', f_Ls_table [.ref 1] (hp G) = some (some (.int 0), hp G') ∧ CX G' q p l m B' [] [] (startA (pOf B') (tOf B')) [] (-1, cu.2) ∧ eqOff clR G G') := by
  obtain ⟨w, ⟨t, k⟩, n, ⟨l1, l2, l3, l4⟩, ⟨a1, a2⟩, b1, b3, b4⟩ := id C
  have hr := c_readPlan (G := G) (d := q) a1 t k
  rw [e_Ls_table 1 _ (ob_Ls G), gg_Ls_reader, Option.bind_some, gg_Ls_draftPlan, Option.bind_some, l2]
  refine ⟨fun e he => ?_, fun B' j he => ?_⟩
  · rw [he] at hr
    obtain ⟨e0, G1, r1, r2⟩ := hr
    have hlt := hb e he
    rw [r1, ci_some, gg_Ls_tape, Option.bind_some, ww_Tp_length, Option.bind_some, if_neg (show ¬ nI e = (0 : Int32) from ln (n := 0) e0 (by omega) (by decide))]
    obtain ⟨x1, x2⟩ := C.read r2 (fun n hn => by omega)
    exact ⟨_, rfl, x1, x2⟩
  · rw [he] at hr
    obtain ⟨G1, r1, rl, r2⟩ := hr
    have hk := pTab_ok _ _ _ _ _ okTB0.1 okTB0.2 he
    rw [r1, ci_some, gg_Ls_tape, Option.bind_some, ww_Tp_length, Option.bind_some, if_pos rfl]
    obtain ⟨x1, x2⟩ := C.read r2 (fun n hn => by omega)
    obtain ⟨pl1, pl2, pl3⟩ := rl.pl
    have ns1 := rl.ns hk
    have q2 : ∀ o, o ≤ 20 → q + o ≠ 1 ∧ q + o ≠ 2 ∧ q + o < 86 ∧ q + o ≠ l := fun o ho => by
      rcases a1 with e | e | e <;> rcases b1 with e1 | e1 | e1 <;> omega
    -- the draft as it stands now
    have P2 : isPl (gsi G1 2 3 0) q (pOf B') := pl1.off (o2 G1 3 0) (fun o ho => (q2 o ho).2.1)
    have T2 : isTd (gsi G1 2 3 0) q (tOf B') := pl2.off (o2 G1 3 0) (fun o ho => (q2 o ho).2.1)
    have N2 : isNs (gsi G1 2 3 0) q (tIx B') := ns1.off (o2 G1 3 0) ⟨(q2 0 (by decide)).2.1, (q2 3 (by decide)).2.1⟩
    have T9 : (gsi G1 2 3 0).1 q 9 = nI (pBt (pOf B')) := by rw [((o2 G1 3 0) q (q2 0 (by decide)).2.1).1]; exact pl3
    generalize gsi G1 2 3 0 = G2 at x1 x2 P2 T2 N2 T9
    obtain ⟨w', ⟨t', k'⟩, -, ⟨l1', l2', l3', l4'⟩, -, -⟩ := id x1
    obtain ⟨⟨⟨f1, f2', f3⟩, f4, f5⟩, ⟨g1, g2, g3, g4⟩, ⟨c1, c2⟩, ⟨o, o1, o2', o3, o4, o5⟩, wf, cr, -⟩ := id w'
    rw [gg_Ls_plan, Option.bind_some, g1, gg_Ls_draftPlan, Option.bind_some, l2', ww_Ls_plan, Option.bind_some, ww_Ls_draftPlan, Option.bind_some, gg_Ls_now, Option.bind_some, gg_Ls_plan, Option.bind_some]
    have E : eqOff (fun n => n = 1) G2 (gsr (gsr G2 1 9 q) 1 10 p) := eqOff.tr (S := fun n => n = 1) (eqOff.gsr (S := fun n => n = 1) _ _ rfl) (eqOff.gsr (S := fun n => n = 1) _ _ rfl)
    have rk : ∀ j, (gsr (gsr G2 1 9 q) 1 10 p).2.2 1 j = if j = 10 then p else if j = 9 then q else G2.2.2 1 j := fun j => by rw [gsr_eq, gsr_eq]
    have rn : (gsr (gsr G2 1 9 q) 1 10 p).2.2 1 13 = lsNow G2 := by rw [rk]; rfl
    have r9 : (gsr (gsr G2 1 9 q) 1 10 p).2.2 1 9 = q := by rw [rk]; rfl
    have an := f1.1
    have s28 : lsNow G2 + 28 ≤ 618 ∧ 86 ≤ lsNow G2 := by obtain ⟨k, hk, e⟩ := an; omega
    obtain ⟨G5, s1, s2, s3⟩ := s_St_startFrom (G := gsr (gsr G2 1 9 q) 1 10 p) (s := lsNow G2) (p := q) (P := pOf B') (T := tOf B') an a1 (P2.off E (fun o ho => (q2 o ho).1)) (okPP_of hk) T9 (T2.off E (fun o ho => (q2 o ho).1)) (okTd_of hk) ((wf _ an).off E (fun o _ _ h => by omega))
    have e51 := s3 1 (fun h => by unfold inR at h; omega)
    rw [rn, r9, s1, cv_some, gg_Ls_lines, Option.bind_some, e51.2.2, show (gsr (gsr G2 1 9 q) 1 10 p).2.2 1 11 = l by rw [rk]; exact l3', ww_Ln_told _ b1.ok, Option.bind_some, ww_Ls_cursorIndex, Option.bind_some, ww_Ls_kept, Option.bind_some]
    generalize hH : gsi (gsi (gsi G5 l 2 0) 1 6 (-1)) 1 5 0 = H
    have l28 := b1.lo
    have l86 : l + 2 < 86 := by rcases b1 with e | e | e <;> omega
    have EH : eqOff (fun n => n = 1 ∨ n = l) G5 H := by
      rw [← hH]
      exact ((eqOff.gsi _ _ (Or.inr rfl)).tr (eqOff.gsi _ _ (Or.inl rfl))).tr (eqOff.gsi _ _ (Or.inl rfl))
    have hin : INV (pOf B') (startA (pOf B') (tOf B')) := start_inv (okPP_of hk) (okTd_of hk) 0
    have EA : eqOff (fun n => n = 1 ∨ n = l ∨ inR (lsNow G2) (lsNow G2 + 28) n) G2 H := ((E.mono (fun n hn => Or.inl hn)).tr (s3.mono (fun n hn => Or.inr (Or.inr hn)))).tr (EH.mono (fun n hn => hn.elim Or.inl (fun h => Or.inr (Or.inl h))))
    have low : ∀ n, n ≠ 1 → n ≠ l → n < 86 → H.1 n = G2.1 n ∧ H.2.1 n = G2.2.1 n ∧ H.2.2 n = G2.2.2 n := fun n h1 h2 h3 => EA n (fun h => by unfold inR at h; omega)
    have hr1 : ∀ j, H.2.2 1 j = if j = 10 then p else if j = 9 then q else G2.2.2 1 j := fun j => by
      rw [← hH]
      show G5.2.2 1 j = _
      rw [e51.2.2, rk]
    have hi1 : ∀ j, j ≠ 5 → j ≠ 6 → H.1 1 j = G2.1 1 j := fun j h5 h6 => by
      rw [← hH, gsi_i, if_pos rfl, upd_ne _ _ h5, gsi_i, if_pos rfl, upd_ne _ _ h6, gsi_i, if_neg (by omega), e51.1]
      rfl
    have h15 : H.1 1 5 = 0 := by rw [← hH, gsi_i, if_pos rfl, upd_at]
    have h16 : H.1 1 6 = -1 := by rw [← hH, gsi_i, if_pos rfl, upd_ne _ _ (by decide), gsi_i, if_pos rfl, upd_at]
    have hl2 : H.1 l 2 = 0 := by rw [← hH, gsi_i, if_neg (by omega), gsi_i, if_neg (by omega), gsi_i, if_pos rfl, upd_at]
    have hN : lsNow H = lsNow G2 := by unfold lsNow; rw [hr1]; rfl
    have hSp : lsSp H = lsSp G2 := by unfold lsSp; rw [hr1]; rfl
    have hA : ∀ k, lsPa H k = lsPa G2 k := fun k => by unfold lsPa; rw [(low 37 (by decide) (by rcases b1 with e | e | e <;> omega) (by decide)).2.2]
    have qf : ∀ o, o ≤ 20 → ¬ (q + o = 1 ∨ q + o = l ∨ inR (lsNow G2) (lsNow G2 + 28) (q + o)) := fun o ho h => by
      have := q2 o ho
      unfold inR at h
      omega
    have sH : SS H (lsNow G2) q (pOf B') (startA (pOf B') (tOf B')) := s2.off EH (fun o ho h => by omega) (fun o _ ho h => by omega) (fun o ho h => by have := q2 o ho; omega)
    refine ⟨H, rfl, ⟨⟨⟨⟨by rw [hN]; exact f1, by rw [hSp]; exact f2', by rw [hN, hSp]; exact f3⟩, fun k hk => by rw [hA, hN, hSp]; exact f4 k hk, fun j k hj hk => by rw [hA, hA]; exact f5 j k hj hk⟩, ⟨by rw [hr1]; rfl, by rw [(EA q (qf 0 (by decide))).1]; exact T9, T2.off EA qf, okTd_of hk⟩, ⟨by rw [hN]; exact sH, hin⟩, ⟨o, o1, by rw [hi1 4 (by decide) (by decide)]; exact o2', Nat.zero_le _, h15, fun j hj => absurd hj (Nat.not_lt_zero j)⟩, fun s hs => ?_, ⟨h16, by rw [hi1 7 (by decide) (by decide)]; exact cr.2.1, by rw [hi1 8 (by decide) (by decide)]; exact cr.2.2⟩, fixR.rf⟩, ⟨isTp.nil (by rw [(low 2 (by decide) (by omega) (by decide)).1]; exact t'.1.1), k'.off (low 5 (by decide) (by omega) (by decide)).2.1⟩, N2.off EA ⟨qf 0 (by decide), qf 3 (by decide)⟩, ⟨⟨hl2, fun i hi => absurd hi (Nat.not_lt_zero i)⟩, by rw [hr1]; rfl, by rw [hr1]; exact l3', by rw [hr1]; exact l4'⟩, ⟨C.ap, fun e => a2 e.symm⟩, b1, b3, b4⟩, x2.tr (EA.mono (fun n hn => ?_))⟩
    · by_cases hsn : s = lsNow G2
      · rw [hsn]; exact sH.wf
      · refine (wf s hs).off EA (fun o h1 h2 h => ?_)
        obtain ⟨k, hk, e⟩ := hs
        obtain ⟨k', hk', e'⟩ := an
        unfold inR at h
        omega
    · unfold inR at hn
      exact ⟨by omega, by omega⟩
end CXT
