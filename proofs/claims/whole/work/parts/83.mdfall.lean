/-! THE REFERENCE: a crash, on again, so many steps -/
section MDW
variable {G : GG} {b : Nat} {P : PP} {A : AS}
theorem m_crashed (H : MS G b P A) (h : INV P A) : ∃ G', f_Md_crashed [.ref 618, .int (nI b)] (hp G) = some (some (.int (fallO P A).1), hp G') ∧ MS G' b P (fallO P A).2 ∧ mdF (mB b) G G' := by
  have hb := H.hb
  have hni := h.ni
  have hs := h.os
  have hp12 := h.kp.1
  rw [e_Md_crashed 618 _ _ (ob_Md G), m_isGoing H, ci_some]
  unfold fallO
  cases hJ : aJ A with
  | none => exact ⟨G, by rw [show runO none = false from rfl, if_pos (by decide)], H, mdF.rf⟩
  | some J =>
    dsimp only
    have hj := H.j
    have hk := h.ka.2.2.2
    rw [hJ] at hj hk
    obtain ⟨⟨c5, c6, c7, c8, c9, c10, c11, c12⟩, s, r, t, w⟩ := id hj
    obtain ⟨k1, k2, k3, k4, k5, k6, k7⟩ := hk
    obtain ⟨j1, j2, j3, -⟩ := h.2.2.2.2 J hJ
    cases hd : jDn J
    · rw [show runO (some J) = true by unfold runO; simp [hd], if_neg (by decide), if_neg (by decide), gg_Md_state, Option.bind_some, show mm_li (hp G) 628 (nI b + 8) = _ from rd hb 8 (by omega), Option.bind_some, c8, Option.bind_some, show mm_li (hp G) 628 (nI b + 6) = _ from rd hb 6 (by omega), Option.bind_some, c6]
      have hsg : jSi J ≤ jGo J := by
        rcases j1 with g | ⟨-, -, g, -⟩
        · exact (j2 g).2.2.2.2.2.1
        · omega
      -- the three cells
      have tail : ∀ (G1 : GG) (A1 : AS), MS G1 b P A1 → okS P A1 → aJ A1 = some J → mdF (mB b) G G1 → ∃ G', ((mm_gr 12 14 (hp G1) 618).bind fun r7 => (mm_li (hp G1) r7 (nI b + 9)).bind fun x8 => (mm_si (hp G1) r7 (nI b + 9) (x8 - nI (jSi J))).bind fun h9 => (mm_gr 12 14 h9 618).bind fun r10 => (mm_si h9 r10 (nI b + 8) 0).bind fun h11 => (mm_gr 12 14 h11 618).bind fun r12 => (mm_si h11 r12 (nI b + 11) 1).bind fun h13 => (some (some (.int (nI (jSi J))), h13) : Option (Option Value × mm_H))) = some (some (.int (nI (jSi J))), hp G') ∧ MS G' b P (setJ A1 (some (jFall J))) ∧ mdF (mB b) G G' := fun G1 A1 H1 hs1 hJ1 q1 => by
        have hj1 := H1.j
        rw [hJ1] at hj1
        obtain ⟨⟨y5, y6, y7, y8, y9, y10, y11, y12⟩, ys, yr, yt, yw⟩ := hj1
        rw [gg_Md_state, Option.bind_some, show mm_li (hp G1) 628 (nI b + 9) = _ from rd hb 9 (by omega), Option.bind_some, y9, n_sub hsg, show mm_si (hp G1) 628 (nI b + 9) (nI (jGo J - jSi J)) = _ from wr hb 9 (by omega) _, Option.bind_some, gg_Md_state, Option.bind_some, show mm_si (hp (gsi G1 628 (b + 9) (nI (jGo J - jSi J)))) 628 (nI b + 8) 0 = _ from wr hb 8 (by omega) _, Option.bind_some, gg_Md_state, Option.bind_some, show mm_si (hp (gsi (gsi G1 628 (b + 9) (nI (jGo J - jSi J))) 628 (b + 8) 0)) 628 (nI b + 11) 1 = _ from wr hb 11 (by omega) _, Option.bind_some]
        generalize hG2 : gsi (gsi (gsi G1 628 (b + 9) (nI (jGo J - jSi J))) 628 (b + 8) 0) 628 (b + 11) 1 = G2
        have ev : G2.1 628 = upd (upd (upd (G1.1 628) (b + 9) (nI (jGo J - jSi J))) (b + 8) 0) (b + 11) 1 := by rw [← hG2]; rfl
        have ec : ∀ k, k ≠ b + 8 → k ≠ b + 9 → k ≠ b + 11 → G2.1 628 k = G1.1 628 k := fun k x1 x2 x3 => by rw [ev, upd_ne _ _ x3, upd_ne _ _ x1, upd_ne _ _ x2]
        have hF2 : mdF (fun k => k = b + 3 ∨ (b + 5 ≤ k ∧ k ≤ b + 12) ∨ (b + 79 ≤ k ∧ k < b + 359) ∨ (b + 483 ≤ k ∧ k < b + 514)) G1 G2 := by
          rw [← hG2]
          exact ((mdF.cell (Or.inr (Or.inl ⟨by omega, by omega⟩))).tr (mdF.cell (Or.inr (Or.inl ⟨by omega, by omega⟩)))).tr (mdF.cell (Or.inr (Or.inl ⟨by omega, by omega⟩)))
        refine ⟨G2, rfl, ?_, q1.tr (hF2.mono (fun k hk => by unfold mB; omega))⟩
        have hn12 := hs1.kp.1
        have := H1.jobU hs1 hF2 (x := aX A1) (o := some (jFall J)) (by rw [ec _ (by omega) (by omega) (by omega)]; exact H1.x) (by
          refine ⟨⟨by rw [ec _ (by omega) (by omega) (by omega)]; exact y5, by rw [ec _ (by omega) (by omega) (by omega)]; exact y6, by rw [ec _ (by omega) (by omega) (by omega)]; exact y7, by rw [ev, upd_ne _ _ (by omega), upd_at]; rfl, by rw [ev, upd_ne _ _ (by omega), upd_ne _ _ (by omega), upd_at]; rfl, by rw [ec _ (by omega) (by omega) (by omega)]; exact y10, by rw [ev, upd_at]; rfl, by rw [ec _ (by omega) (by omega) (by omega)]; exact y12⟩, fun k hk => ?_, fun k hk => ?_, fun ha => ?_, fun p hp1 => ?_⟩
          · have hk9 : k < (jSd J).length := hk
            rw [ec _ (by omega) (by omega) (by omega)]; exact ys k hk
          · have hk9 : k < (jRe J).length := hk
            rw [ec _ (by omega) (by omega) (by omega), ec _ (by omega) (by omega) (by omega)]; exact yr k hk
          · exact (yt ha).cong (by rw [fl_len]; exact (h.st hJ ha).2.1) (fun k x1 x2 => ec k (by omega) (by omega) (by omega))
          · rw [ec _ (by omega) (by omega) (by omega)]; exact yw p hp1)
        exact this
      unfold fallA
      by_cases ha : jAt J < pNi P
      · rw [if_neg (show ¬ nI (jAt J) = (4 : Int32) from ln (n := 4) (by omega) (by omega) (by decide)), if_pos ha, s_Md_startOf, ci_some, show nI b + 483 = nI (b + 483) from nI_add b 483, show f_Md_copies [.ref 618, .int (nI (b + 483)), .int (nI (b + 359 + 31 * jAt J)), .int 31] (hp G) = _ from m_copies (n := 31) (by omega) (by omega) (by omega) (by omega), cv_some]
        have hst := h.st hJ ha
        have hF : mdF (fun k => k = b + 3 ∨ trR (b + 359 + 31 * jAt J) k) G (gsa G 628 (cpy (G.1 628) (b + 483) (b + 359 + 31 * jAt J) 31)) := mdF.arr (fun k hk => cpy_off (by unfold trR at hk; omega))
        have H1 := H.treeU hs ha hF (x := aX A) (L := jSt J) (by rw [gsa_i, if_pos rfl, cpy_off (by omega)]; exact H.x) (isM_a (isMf_cpy (t ha) (okM_fl hst).1))
        exact tail _ _ H1 (hs.tree hst _) hJ (hF.mono (tr_in (by omega)))
      · obtain ⟨b1, -, -, -⟩ := j1.resolve_left ha
        rw [b1, if_pos (show nI 4 = (4 : Int32) from rfl), if_neg (by omega)]
        exact tail G A H hs hJ mdF.rf
    · rw [show runO (some J) = false by unfold runO; simp [hd], if_pos (by decide), if_pos rfl]
      exact ⟨G, rfl, H, mdF.rf⟩
/-- what going on answers -/
def resO (P : PP) (A : AS) : Int32 := if (riseO P A).1 then nI (leftHere P (riseO P A).2) else -1
theorem m_resumed (H : MS G b P A) (h : INV P A) : ∃ G', f_Md_resumed [.ref 618, .int (nI b)] (hp G) = some (some (.int (resO P A)), hp G') ∧ MS G' b P (riseO P A).2 ∧ mdF (mB b) G G' := by
  have hb := H.hb
  have hni := h.ni
  have hs := h.os
  have hp12 := h.kp.1
  rw [e_Md_resumed 618 _ _ (ob_Md G), gg_Md_state, Option.bind_some, show mm_li (hp G) 628 (nI b + 5) = _ from rd hb 5 (by omega), Option.bind_some]
  have hj := H.j
  cases hJ : aJ A with
  | none =>
    have hro : riseO P A = (false, A) := by unfold riseO; rw [hJ]
    rw [hJ] at hj
    unfold resO
    rw [hj.1, if_pos rfl, hro]
    exact ⟨G, rfl, H, mdF.rf⟩
  | some J =>
    have hk := h.ka.2.2.2
    rw [hJ] at hj hk
    obtain ⟨⟨c5, c6, c7, c8, c9, c10, c11, c12⟩, s, r, t, w⟩ := id hj
    obtain ⟨k1, k2, k3, k4, k5, k6, k7⟩ := hk
    obtain ⟨j1, j2, j3, -⟩ := h.2.2.2.2 J hJ
    rw [c5, if_neg (by decide), Option.bind_some, show mm_li (hp G) 628 (nI b + 11) = _ from rd hb 11 (by omega), Option.bind_some, c11]
    by_cases hd : jDn J = false
    · have hro : riseO P A = (false, A) := by unfold riseO; rw [hJ]; simp [hd]
      unfold resO
      rw [hro, hd, if_pos (by decide)]
      exact ⟨G, rfl, H, mdF.rf⟩
    · have hd : jDn J = true := by simpa using hd
      have hro : riseO P A = (true, riseA P A J) := by unfold riseO; rw [hJ]; simp [hd]
      have hres : resO P A = nI (leftHere P (riseA P A J)) := by unfold resO; rw [hro]; rfl
      rw [hres, hro, hd, if_neg (by decide), Option.bind_some, show mm_si (hp G) 628 (nI b + 11) 0 = _ from wr hb 11 (by omega) _, Option.bind_some, gg_Md_state, Option.bind_some]
      show ∃ G', _ ∧ MS G' b P (riseA P A J) ∧ mdF (mB b) G G'
      generalize hG1 : gsi G 628 (b + 11) 0 = G1
      have ev : G1.1 628 = upd (G.1 628) (b + 11) 0 := by rw [← hG1]; rfl
      have ec : ∀ k, k ≠ b + 11 → G1.1 628 k = G.1 628 k := fun k x1 => by rw [ev, upd_ne _ _ x1]
      have hF1 : mdF (fun k => k = b + 3 ∨ (b + 5 ≤ k ∧ k ≤ b + 12) ∨ (b + 79 ≤ k ∧ k < b + 359) ∨ (b + 483 ≤ k ∧ k < b + 514)) G G1 := by
        rw [← hG1]; exact mdF.cell (Or.inr (Or.inl ⟨by omega, by omega⟩))
      have q1 : mdF (mB b) G G1 := hF1.mono (fun k hk => by unfold mB; omega)
      have H1 : MS G1 b P (setJ A (some (jDown J false))) := by
        have := H.jobU hs hF1 (x := aX A) (o := some (jDown J false)) (by rw [ec _ (by omega)]; exact H.x) (by
          refine ⟨⟨by rw [ec _ (by omega)]; exact c5, by rw [ec _ (by omega)]; exact c6, by rw [ec _ (by omega)]; exact c7, by rw [ec _ (by omega)]; exact c8, by rw [ec _ (by omega)]; exact c9, by rw [ec _ (by omega)]; exact c10, by rw [ev, upd_at]; rfl, by rw [ec _ (by omega)]; exact c12⟩, fun k hk => ?_, fun k hk => ?_, fun ha => ?_, fun p hp1 => ?_⟩
          · have hk9 : k < (jSd J).length := hk
            rw [ec _ (by omega)]; exact s k hk
          · have hk9 : k < (jRe J).length := hk
            rw [ec _ (by omega), ec _ (by omega)]; exact r k hk
          · exact (t ha).cong (by rw [fl_len]; exact (h.st hJ ha).2.1) (fun k x1 x2 => ec k (by omega))
          · rw [ec _ (by omega)]; exact w p hp1)
        exact this
      have hs1 : okS P (setJ A (some (jDown J false))) := hs.job (J := jDown J false) ⟨k1, k2, k3, k4, k5, k6, k7⟩ (fun ha => show okL (pPg P) (jSt J) from h.st hJ ha) (aX A)
      rw [show mm_li (hp G1) 628 (nI b + 6) = _ from rd hb 6 (by omega), Option.bind_some, ec _ (by omega), c6]
      have hlh : leftHere P (riseA P A J) = if jAt J < pNi P then leftN (aC A) (aL A (jAt J)) else 0 := by
        unfold leftHere
        have e1 : aJ (riseA P A J) = some (jDown J false) := by unfold riseA; split <;> rfl
        have e2 : aL (riseA P A J) = aL A ∧ aC (riseA P A J) = aC A := by unfold riseA; split <;> exact ⟨rfl, rfl⟩
        rw [e1, e2.1, e2.2]
        show (if jAt J < pNi P then bc (rb (aL A (jAt J)) &&& aC A) else 0) = _
        by_cases ha : jAt J < pNi P
        · rw [if_pos ha, if_pos ha, bc_left _ (h.kl ha)]
        · rw [if_neg ha, if_neg ha]
      rw [hlh]
      unfold riseA
      by_cases ha : jAt J < pNi P
      · obtain ⟨-, -, -, -, -, -, a10⟩ := j2 ha
        rw [if_neg (show ¬ nI (jAt J) = (4 : Int32) from ln (n := 4) (by omega) (by omega) (by decide)), if_pos ha, if_pos ha, Option.bind_some, show mm_li (hp G1) 628 (nI b + 1) = _ from rd hb 1 (by omega), Option.bind_some, show G1.1 628 (b + 1) = aC A from H1.c, Option.bind_some, show mm_li (hp G1) 628 (nI b + 3) = _ from rd hb 3 (by omega), Option.bind_some, show G1.1 628 (b + 3) = aX A from H1.x, Option.bind_some, show mm_li (hp G1) 628 (nI b + 7) = _ from rd hb 7 (by omega), Option.bind_some, ec _ (by omega), c7]
        have trw := H1.tr ha
        have lw := hs1.kl ha
        have fin : ∀ (y : Int32), costW P A (jAt J) (jWy J) = y → ∃ G', ((mm_si (hp G1) 628 (nI b + 3) (aX A + y)).bind fun h17 => mm_ci (f_Md_leftMany [.ref 618, .int (nI b), .int (nI (jAt J)), .int (aC A)] h17) fun x19 h18 => (some (some (.int x19), h18) : Option (Option Value × mm_H))) = some (some (.int (nI (leftN (aC A) (aL A (jAt J))))), hp G') ∧ MS G' b P (setX (setJ A (some (jDown J false))) (aX A + costW P A (jAt J) (jWy J))) ∧ mdF (mB b) G G' := fun y hy => by
          rw [show mm_si (hp G1) 628 (nI b + 3) (aX A + y) = _ from wr hb 3 (by omega) _, Option.bind_some]
          have H2 := H1.spentU hs1 (aX A + y)
          rw [s_Md_leftMany hb (by omega) (H2.tr ha) (hs1.kl ha), ci_some, hy]
          exact ⟨_, rfl, H2, q1.tr (mdF.cell ⟨by omega, by omega⟩)⟩
        rcases a10 with e | e
        · have hc : costW P A (jAt J) (jWy J) = nI (passC (aC A) (pPg P) (aL A (jAt J))) := by unfold costW wayOf; rw [if_pos e, if_pos rfl]
          rw [if_pos e, s_Md_passCost H1.pg hb (by omega) trw lw, ci_some]
          exact fin _ hc
        · have hc : costW P A (jAt J) (jWy J) = nI (probeC (aC A) (pPg P) (aL A (jAt J))) := by unfold costW wayOf; rw [if_neg (show ¬ jWy J = 0 by rw [e]; decide), if_neg (by decide)]
          rw [if_neg (show ¬ jWy J = 0 by rw [e]; decide), s_Md_probeCost H1.pg hb (by omega) trw lw, ci_some]
          exact fin _ hc
      · obtain ⟨b1, -, -, -⟩ := j1.resolve_left ha
        rw [if_neg ha, if_neg ha, if_pos (show nI (jAt J) = (4 : Int32) from lq (n := 4) b1)]
        exact ⟨G1, rfl, H1, q1⟩
/-- so many steps: whether all could -/
theorem m_goes : ∀ {n : Nat}, n ≤ 200 → ∀ {G : GG} {A : AS}, MS G b P A → INV P A → ∃ G', f_Md_goes [.ref 618, .int (nI b), .int (nI n)] (hp G) = some (some (.int (b2 (decide ((goS P n A).1 = n)))), hp G') ∧ MS G' b P (goS P n A).2 ∧ mdF (mB b) G G' := by
  intro n hn G A H h
  rw [e_Md_goes 618 _ _ _ (ob_Md G)]
  have key : ∀ (j i f : Nat) (G1 : GG) (A1 : AS), i + j = n → j + 1 < f → MS G1 b P A1 → INV P A1 → mdF (mB b) G G1 → ∃ G', mm_run p_Md_goes f 5 [.ref 618, .int (nI b), .int (nI n), .int 1, .int (nI i)] [] (hp G1) = some (some (.int (b2 (decide ((goS P j A1).1 = j)))), hp G') ∧ MS G' b P (goS P j A1).2 ∧ mdF (mB b) G G' := by
    intro j
    induction j with
    | zero =>
      intro i f G1 A1 hj hf H1 h1 q1
      obtain ⟨f, rfl⟩ : ∃ g, f = g + 1 := ⟨f - 1, by omega⟩
      rw [e_Md_goes_5, if_neg (lm (by omega) (by omega)), if_pos (Or.inr rfl)]
      exact ⟨G1, rfl, H1, q1⟩
    | succ j ih =>
      intro i f G1 A1 hj hf H1 h1 q1
      obtain ⟨f, rfl⟩ : ∃ g, f = g + 1 := ⟨f - 1, by omega⟩
      obtain ⟨G2, r1, r2, r3⟩ := m_stepped H1 h1
      rw [e_Md_goes_5, if_pos (lp (by omega) (by omega)), if_neg (by decide), r1, ci_some, show nI i + 1 = nI (i + 1) from nI_add i 1]
      unfold goS
      by_cases e : (stA P A1).1 = -1
      · rw [if_pos e, if_pos e]
        rw [stA_no h1 e] at r2
        obtain ⟨f, rfl⟩ : ∃ g, f = g + 1 := ⟨f - 1, by omega⟩
        refine ⟨G2, ?_, r2, q1.tr r3⟩
        rw [e_Md_goes_5, decide_eq_false (by show ¬ (0 : Nat) = j + 1; omega)]
        by_cases g : i + 1 < n
        · rw [if_pos (lp g (by omega)), if_pos rfl, if_pos (Or.inl rfl)]; rfl
        · rw [if_neg (lm (by omega) (by omega)), if_pos (Or.inl rfl)]; rfl
      · rw [if_neg e, if_neg e]
        obtain ⟨G3, u1, u2, u3⟩ := ih (i + 1) f G2 _ (by omega) (by omega) r2 (stA_inv h1) (q1.tr r3)
        refine ⟨G3, ?_, u2, u3⟩
        rw [u1]
        have : decide ((goS P j (stA P A1).2).1 + 1 = j + 1) = decide ((goS P j (stA P A1).2).1 = j) := by
          by_cases g : (goS P j (stA P A1).2).1 = j
          · rw [decide_eq_true g, decide_eq_true (by omega)]
          · rw [decide_eq_false g, decide_eq_false (by omega)]
        rw [this]
  exact key n 0 mm_fu G A (by omega) (fu_lt (by omega)) H h mdF.rf
end MDW
