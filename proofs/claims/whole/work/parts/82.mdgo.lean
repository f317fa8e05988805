/-! THE REFERENCE: a step, a crash, on again -/
section MDG
variable {G : GG} {b : Nat} {P : PP} {A : AS}
/-- rows, the JOB none -/
theorem MS.none_ (H : MS G b P A) (h : okS P A) {f' : Nat → Int32} {D : Int32} {T B : Nat → Int32} (hP' : isMP G P) (e : ∀ k, k ≠ b → k ≠ b + 1 → k ≠ b + 5 → k ≠ b + 12 → ¬ (b + 55 ≤ k ∧ k < b + 67) → f' k = G.1 628 k) (h0 : f' b = D) (h1 : f' (b + 1) = 0) (h5 : f' (b + 5) = 0) (h12 : f' (b + 12) = 0) (hT : ∀ p, p < aN A → f' (b + 55 + p) = T p) : isMS f' b P (setT (setJ (setR A (aV A) (aM A) D 0) none) (aN A) (aS A) T B) := by
  have hn := h.ni
  have hr := h.kr.1
  have hp12 := h.kp.1
  refine ⟨⟨h0, h1, by rw [e _ (by omega) (by omega) (by omega) (by omega) (by omega)]; exact H.m, by rw [e _ (by omega) (by omega) (by omega) (by omega) (by omega)]; exact H.x⟩, fun r hr2 => ?_, ⟨by rw [e _ (by omega) (by omega) (by omega) (by omega) (by omega)]; exact H.pt.1, fun p hp1 => ⟨?_, hT p hp1⟩⟩, fun j hj => ?_, h5, h12⟩
  · have h2 : r < aM A := hr2
    rw [e _ (by omega) (by omega) (by omega) (by omega) (by omega)]; exact H.v r h2
  · have h2 : p < aN A := hp1
    rw [e _ (by omega) (by omega) (by omega) (by omega) (by omega)]; exact (H.pt.2 p h2).1
  · exact ms_tree (A := A) H.2.2.2.2.1 (fun i hi => h.kl hi) hj (fun k k1 k2 => e k (by omega) (by omega) (by omega) (by omega) (by omega))
theorem m_ends (hb : b ≤ 9252) : f_Md_ends [.ref 618, .int (nI b)] (hp G) = some (none, hp (gsi (gsi G 628 (b + 5) 0) 628 (b + 1) 0)) := by
  rw [e_Md_ends 618 _ _ (ob_Md G), gg_Md_state, Option.bind_some, show mm_si (hp G) 628 (nI b + 5) 0 = _ from wr hb 5 (by omega) _, Option.bind_some, gg_Md_state, Option.bind_some, show mm_si (hp (gsi G 628 (b + 5) 0)) 628 (nI b + 1) 0 = _ from wr hb 1 (by omega) _, Option.bind_some]
theorem m_leftAt (H : MS G b P A) (h : INV P A) {i w n : Nat} (hi : i < pNi P) (hw : w ≤ 1) (hn : n < 2147483648) : f_Md_leftAt [.ref 618, .int (nI b), .int (nI i), .int (nI w), .int (nI n)] (hp G) = some (some (.int (nthK w (doomA P A) (aL A i) n (aL A i).flatten.length)), hp G) := by
  have h4 := h.ni
  rw [e_Md_leftAt 618 _ _ _ _ _ (ob_Md G), m_chosenBy H h, ci_some, s_left13 H.hb (by omega) (H.tr hi) (h.kl hi) _ hw hn]
theorem m_stepped (H : MS G b P A) (h : INV P A) : ∃ G', f_Md_stepped [.ref 618, .int (nI b)] (hp G) = some (some (.int (stA P A).1), hp G') ∧ MS G' b P (stA P A).2 ∧ mdF (mB b) G G' := by
  have hb := H.hb
  have hni := h.ni
  have hs := h.os
  rw [e_Md_stepped 618 _ _ (ob_Md G), m_isGoing H, ci_some]
  unfold stA
  cases hJ : aJ A with
  | none => exact ⟨G, by rw [show runO none = false from rfl, if_pos (by decide)], H, mdF.rf⟩
  | some J =>
    dsimp only
    have hj := H.j
    have hk := h.ka.2.2.2
    rw [hJ] at hj hk
    obtain ⟨⟨c5, c6, c7, c8, c9, c10, c11, c12⟩, s, r, t, w⟩ := id hj
    obtain ⟨k1, k2, k3, k4, k5, k6, k7⟩ := hk
    obtain ⟨j1, j2, j3, -⟩ := h.2.2.2.2 J hJ
    cases hd : jDn J
    · rw [show runO (some J) = true by unfold runO; simp [hd], if_neg (by decide), if_neg (by decide), gg_Md_state, Option.bind_some, show mm_li (hp G) 628 (nI b + 6) = _ from rd hb 6 (by omega), Option.bind_some, c6]
      by_cases ha : jAt J < pNi P
      · rw [if_pos ha, if_neg (show ¬ nI (jAt J) = (4 : Int32) from ln (n := 4) (by omega) (by omega) (by decide)), Option.bind_some, show mm_li (hp G) 628 (nI b + 7) = _ from rd hb 7 (by omega), Option.bind_some, c7]
        obtain ⟨-, -, -, a7, a8, a9, a10⟩ := j2 ha
        have hw1 : wayOf (jWy J) ≤ 1 := by unfold wayOf; split <;> decide
        have hwy := wy_of a10
        have hlr := last_rpl h hJ ha
        obtain ⟨⟨rs, n1⟩, n2, n3, n4, n5, n6⟩ := nx_ok h hJ ha
        have hdoom : doomA P A = aC A := by unfold doomA; rw [hJ]
        have hfirst : (leftsW (wayOf (jWy J)) (aC A) (aL A (jAt J)))[0]? = some (nxR A J) := by rw [n1]; rfl
        obtain ⟨k, hk2, e1, e2⟩ := nth_some (h.kl ha) hfirst ⟨nxC A J, n4, n5⟩
        have hla : f_Md_leftAt [.ref 618, .int (nI b), .int (nI (jAt J)), .int (jWy J), .int 0] (hp G) = some (some (.int (nI k)), hp G) := by
          have := m_leftAt H h ha hw1 (n := 0) (by decide)
          rw [hdoom, e2, ← hwy] at this
          exact this
        have hkM := okM_fl (h.kl ha)
        have hkf : k < (fl (aL A (jAt J))).length := by rw [fl_len]; exact hk2
        have hrow : (fl (aL A (jAt J)))[k] / 2 % 32 = nxR A J := by rw [fl_at hkf]; exact e1
        rw [hla, ci_some, s_Md_rowAt hb (by omega) (H.tr ha) hkM hkf, ci_some, hrow]
        -- where it lies
        obtain ⟨A0, l1, l2, B0, eL, p1, p2, p3, p4⟩ := mem_dec n4 (h.kl ha).2.2.2.2.1
        have hcodes : (aL A (jAt J)).flatten[k] = nxC A J := by
          obtain ⟨j, hj1, ej⟩ := List.mem_iff_getElem.mp n4
          have hnd := (h.kl ha).2.2.2.2.2
          have h4 : ((aL A (jAt J)).flatten.map (· % 32))[k]'(by rw [List.length_map]; exact hk2) = ((aL A (jAt J)).flatten.map (· % 32))[j]'(by rw [List.length_map]; exact hj1) := by
            rw [List.getElem_map, List.getElem_map, ej, n5]; exact e1
          have := (List.getElem_inj hnd).mp h4
          subst this
          exact ej
        have hplace : k = A0.flatten.length + l1.length := by
          have hflat : (aL A (jAt J)).flatten = (A0.flatten ++ l1) ++ nxC A J :: (l2 ++ B0.flatten) := by rw [eL]; simp
          have hlt2 : A0.flatten.length + l1.length < (aL A (jAt J)).flatten.length := by rw [hflat]; simp
          have hg : (aL A (jAt J)).flatten[A0.flatten.length + l1.length] = nxC A J := by
            have : (aL A (jAt J)).flatten[A0.flatten.length + l1.length]? = some (nxC A J) := by rw [hflat, List.getElem?_append_right (by simp), List.length_append, Nat.sub_self]; rfl
            rw [List.getElem?_eq_getElem hlt2] at this
            exact Option.some.inj this
          have hnd : (aL A (jAt J)).flatten.Nodup := (h.kl ha).2.2.2.2.1.imp (fun hxy => by omega)
          exact (List.getElem_inj hnd).mp (by rw [hcodes, hg])
        obtain ⟨G1, g1, g2, g3⟩ := s_Md_goesOut hb (show jAt J < 4 by omega) (H.tr ha) (h.kl ha) eL (fun q => by have := p1 _ q; omega) (fun q => by have := p2 _ q; omega) (fun q => by have := p3 _ q; omega) (fun q => by have := p4 _ q; omega)
        rw [hplace, g1, cv_some]
        generalize nxC A J = c0 at *
        have H1 := H.treeU hs ha (g3.mono (fun k hk => Or.inr hk)) (x := aX A) (by rw [g3.2.2.2 (b + 3) (fun q => by unfold trR at q; omega)]; exact H.x) g2
        have hs1 : okS P (setX (setL A (jAt J) (takL c0 (aL A (jAt J)))) (aX A)) := hs.tree (tak_ok (h.kl ha)) _
        have q1 : mdF (mB b) G G1 := g3.mono (fun k hk => tr_in (show jAt J < 4 by omega) k (Or.inr hk))
        have d8 : G1.1 628 (b + 8) = nI (jSi J) := by rw [g3.2.2.2 _ (fun q => by unfold trR at q; omega)]; exact c8
        have d9 : G1.1 628 (b + 9) = nI (jGo J) := by rw [g3.2.2.2 _ (fun q => by unfold trR at q; omega)]; exact c9
        rw [gg_Md_state, Option.bind_some, show mm_li (hp G1) 628 (nI b + 8) = _ from rd hb 8 (by omega), Option.bind_some, d8, show nI (jSi J) + 1 = nI (jSi J + 1) from nI_add _ 1, show mm_si (hp G1) 628 (nI b + 8) (nI (jSi J + 1)) = _ from wr hb 8 (by omega) _, Option.bind_some, gg_Md_state, Option.bind_some]
        have d9' : (gsi G1 628 (b + 8) (nI (jSi J + 1))).1 628 (b + 9) = nI (jGo J) := by rw [gsi_i, if_pos rfl, upd_ne _ _ (by omega)]; exact d9
        rw [show mm_li (hp (gsi G1 628 (b + 8) (nI (jSi J + 1)))) 628 (nI b + 9) = _ from rd hb 9 (by omega), Option.bind_some, d9', show nI (jGo J) + 1 = nI (jGo J + 1) from nI_add _ 1, show mm_si (hp (gsi G1 628 (b + 8) (nI (jSi J + 1)))) 628 (nI b + 9) (nI (jGo J + 1)) = _ from wr hb 9 (by omega) _, Option.bind_some, gg_Md_state, Option.bind_some]
        generalize hG2 : gsi (gsi G1 628 (b + 8) (nI (jSi J + 1))) 628 (b + 9) (nI (jGo J + 1)) = G2
        have ev2 : G2.1 628 = upd (upd (G1.1 628) (b + 8) (nI (jSi J + 1))) (b + 9) (nI (jGo J + 1)) := by rw [← hG2]; rfl
        have ec2 : ∀ k, k ≠ b + 8 → k ≠ b + 9 → G2.1 628 k = G1.1 628 k := fun k x1 x2 => by rw [ev2, upd_ne _ _ x2, upd_ne _ _ x1]
        have hF2 : mdF (fun k => k = b + 3 ∨ (b + 5 ≤ k ∧ k ≤ b + 12) ∨ (b + 79 ≤ k ∧ k < b + 359) ∨ (b + 483 ≤ k ∧ k < b + 514)) G1 G2 := by
          rw [← hG2]
          exact (mdF.cell (Or.inr (Or.inl ⟨by omega, by omega⟩))).tr (mdF.cell (Or.inr (Or.inl ⟨by omega, by omega⟩)))
        have q2 : mdF (mB b) G G2 := q1.tr (hF2.mono (fun k hk => by unfold mB; omega))
        have hp12 := h.kp.1
        have hj1 := H1.j
        rw [show aJ (setX (setL A (jAt J) (takL c0 (aL A (jAt J)))) (aX A)) = some J from hJ] at hj1
        have H2 : MS G2 b P (stepA A J c0) := by
          obtain ⟨⟨y5, y6, y7, y8, y9, y10, y11, y12⟩, ys, yr, yt, yw⟩ := hj1
          have := H1.jobU hs1 hF2 (x := aX A) (o := some (stepJ J)) (by rw [ec2 _ (by omega) (by omega)]; exact H1.x) (by
            refine ⟨⟨by rw [ec2 _ (by omega) (by omega)]; exact y5, by rw [ec2 _ (by omega) (by omega)]; exact y6, by rw [ec2 _ (by omega) (by omega)]; exact y7, by rw [ev2, upd_ne _ _ (by omega), upd_at]; rfl, by rw [ev2, upd_at]; rfl, by rw [ec2 _ (by omega) (by omega)]; exact y10, by rw [ec2 _ (by omega) (by omega)]; exact y11, by rw [ec2 _ (by omega) (by omega)]; exact y12⟩, fun k hk => ?_, fun k hk => ?_, fun ha => ?_, fun p hp1 => ?_⟩
            · have hk9 : k < (jSd J).length := hk
              rw [ec2 _ (by omega) (by omega)]; exact ys k hk
            · have hk9 : k < (jRe J).length := hk
              rw [ec2 _ (by omega) (by omega), ec2 _ (by omega) (by omega)]; exact yr k hk
            · exact (yt ha).cong (by rw [fl_len]; exact (h.st hJ ha).2.1) (fun k x1 x2 => ec2 k (by omega) (by omega))
            · rw [ec2 _ (by omega) (by omega)]; exact yw p hp1)
          exact this
        have hs2 : okS P (stepA A J c0) := hs1.job (J := stepJ J) ⟨k1, k2, k3, by show jGo J + 1 ≤ 30; omega, by show jSi J + 1 ≤ 30; omega, k6, k7⟩ (fun _ => show okL (pPg P) (jSt J) from h.st hJ ha) (aX A)
        have hJ2 : aJ (stepA A J c0) = some (stepJ J) := rfl
        have eL2 : aL (stepA A J c0) (jAt J) = takL c0 (aL A (jAt J)) := if_pos rfl
        have htr2 := H2.tr ha
        rw [eL2] at htr2
        have dC : G2.1 628 (b + 1) = aC A := H2.c
        rw [show mm_li (hp G2) 628 (nI b + 1) = _ from rd hb 1 (by omega), Option.bind_some, dC, s_Md_leftMany hb (by omega) htr2 (tak_ok (h.kl ha)), ci_some]
        have hl30 := leftN_le (aC A) (takL c0 (aL A (jAt J)))
        have hl31 := (tak_ok (c := c0) (h.kl ha)).2.1
        have hlast : lastA A J c0 = decide (leftN (aC A) (takL c0 (aL A (jAt J))) = 0) := by
          unfold lastA
          by_cases e : leftN (aC A) (takL c0 (aL A (jAt J))) = 0
          · rw [decide_eq_true e, decide_eq_true ((rb_0 (tak_ok (h.kl ha))).mpr e)]
          · rw [decide_eq_false e, decide_eq_false (fun q => e ((rb_0 (tak_ok (h.kl ha))).mp q))]
        obtain ⟨f, hf⟩ : ∃ f, mm_fu = f + 1 := ⟨mm_fu - 1, by have := fu_lt (n := 1) (by decide); omega⟩
        have h1 : 1 ≤ sumL P A := by
          have := sum_set (A := A) ha []
          have e0 : leftN (aC A) [] = 0 := rfl
          omega
        have hrec := m_records H2 hs2 hJ2 ha (show (jRe J).length < 120 by omega)
        unfold advA
        by_cases h0 : leftN (aC A) (takL c0 (aL A (jAt J))) = 0
        · rw [decide_eq_true h0] at hlast
          rw [if_pos (show nI (leftN (aC A) (takL c0 (aL A (jAt J)))) = (0 : Int32) from lq (n := 0) h0), hf, e_Md_stepped_135, if_neg (by decide), hlast, if_neg (by simp)]
          obtain ⟨G3, r1, r2, r3⟩ := hrec
          rw [r1, cv_some, if_neg (by decide)]
          unfold stepEnd
          rw [if_pos rfl]
          have hJ3 : aJ (recA (stepA A J c0) (stepJ J)) = some (recJ (stepJ J) (aX (stepA A J c0) + 1) (aL (stepA A J c0) (jAt (stepJ J)))) := rfl
          have hs3 : okS P (recA (stepA A J c0) (stepJ J)) := hs2.job (J := recJ (stepJ J) (aX (stepA A J c0) + 1) (aL (stepA A J c0) (jAt (stepJ J)))) (by
            refine ⟨k1, ?_, k3, by show jGo J + 1 ≤ 30; omega, Nat.zero_le _, ?_, k7⟩
            · show (jRe J ++ [(jAt J, jGo J + 1, aX A + 1)]).length ≤ 120
              rw [List.length_append]
              simp only [List.length_cons, List.length_nil]
              omega
            · intro r hr
              rcases List.mem_append.mp (show r ∈ jRe J ++ [(jAt J, jGo J + 1, aX A + 1)] from hr) with g | g
              · exact k6 r g
              · rw [List.mem_singleton] at g
                subst g
                exact ⟨by show jAt J ≤ 3; omega, by show jGo J + 1 ≤ 30; omega⟩) (fun _ => by
            show okL _ (aL (stepA A J c0) (jAt J))
            rw [eL2]; exact tak_ok (h.kl ha)) _
          have hrp : rpl P (jAt J) (fun c => c ∈ (aL (recA (stepA A J c0) (stepJ J)) (jAt J)).flatten) (jSd J) (okV P A (jAt J)) := by
            rw [show aL (recA (stepA A J c0) (stepJ J)) (jAt J) = takL c0 (aL A (jAt J)) from eL2]
            exact hlr hlast
          obtain ⟨G4, u1, u2, u3⟩ := m_carries r2 hs3 hJ3 ha hrp
          rw [u1, cv_some]
          have hJ4 : aJ (carA P (recA (stepA A J c0) (stepJ J)) (recJ (stepJ J) (aX (stepA A J c0) + 1) (aL (stepA A J c0) (jAt (stepJ J))))) = some (jNoSd (recJ (stepJ J) (aX (stepA A J c0) + 1) (aL (stepA A J c0) (jAt (stepJ J))))) := rfl
          obtain ⟨-, rc2, -⟩ := rpl_car (by rw [show aL (recA (stepA A J c0) (stepJ J)) (jAt J) = takL c0 (aL A (jAt J)) from eL2]; exact tak_ok (h.kl ha)) hrp
          have hs4 : okS P (setJ (carA P (recA (stepA A J c0) (stepJ J)) (recJ (stepJ J) (aX (stepA A J c0) + 1) (aL (stepA A J c0) (jAt (stepJ J))))) (some (jNoSd (recJ (stepJ J) (aX (stepA A J c0) + 1) (aL (stepA A J c0) (jAt (stepJ J))))))) := by
            unfold carA
            rw [if_pos (show jAt (recJ (stepJ J) (aX (stepA A J c0) + 1) (aL (stepA A J c0) (jAt (stepJ J)))) < pNi P from ha)]
            have t1 := hs3.tree (i := jAt J) (L := ((jSd J).foldl (carS P (jAt J)) (aL (recA (stepA A J c0) (stepJ J)) (jAt J), aX (recA (stepA A J c0) (stepJ J)))).1) (by rw [carS_L]; exact rc2) ((jSd J).foldl (carS P (jAt J)) (aL (recA (stepA A J c0) (stepJ J)) (jAt J), aX (recA (stepA A J c0) (stepJ J)))).2
            have hk3 := hs3.ka.2.2.2
            rw [hJ3] at hk3
            obtain ⟨z1, z2, z3, z4⟩ := (show okJ _ from hk3)
            exact t1.job (J := jNoSd (recJ (stepJ J) (aX (stepA A J c0) + 1) (aL (stepA A J c0) (jAt (stepJ J))))) ⟨z1, z2, Nat.zero_le _, z4⟩ (fun _ => show okL (pPg P) (jSt (recJ (stepJ J) (aX (stepA A J c0) + 1) (aL (stepA A J c0) (jAt (stepJ J))))) from hs3.st hJ3 ha) _
          obtain ⟨G5, v1, v2, v3⟩ := m_comes hb (hP := u2.hP) (u2.zero hJ4) hs4 rfl (n := jAt J + 1) (by omega)
          rw [show nI (jAt J) + 1 = nI (jAt J + 1) from nI_add _ 1, v1, cv_some]
          exact ⟨G5, rfl, v2, ((q2.tr r3).tr u3).tr v3⟩
        · rw [decide_eq_false h0] at hlast
          have d8b : G2.1 628 (b + 8) = nI (jSi J + 1) := by rw [ev2, upd_ne _ _ (by omega), upd_at]
          have d16 : G2.1 618 16 = nI (pBt P) := H2.hP.1.2.2
          have hbt := h.pp.2.2.2.2.2.2
          rw [if_neg (show ¬ nI (leftN (aC A) (takL c0 (aL A (jAt J)))) = (0 : Int32) from ln (n := 0) h0 (by omega) (by decide)), hf, e_Md_stepped_135, if_pos rfl, gg_Md_state, Option.bind_some, show mm_li (hp G2) 628 (nI b + 8) = _ from rd hb 8 (by omega), Option.bind_some, d8b, gg_Md_batch, Option.bind_some, d16]
          by_cases hbb : jSi J + 1 < pBt P
          · rw [if_pos (lp hbb (by omega)), if_pos rfl, if_pos ⟨hlast, hbb⟩]
            exact ⟨G2, rfl, H2, q2⟩
          · rw [if_neg (lm (by omega) (by omega)), if_neg (fun q => hbb q.2)]
            obtain ⟨G3, r1, r2, r3⟩ := hrec
            rw [r1, cv_some, if_pos rfl, hlast]
            exact ⟨G3, rfl, r2, q2.tr r3⟩
      · obtain ⟨b1, b2', b3, b4⟩ := j1.resolve_left ha
        rw [if_neg ha, b1, if_pos (show nI 4 = (4 : Int32) from rfl), Option.bind_some, show mm_li (hp G) 628 (nI b + 0) = _ from rd hb 0 (by omega), Option.bind_some, Nat.add_zero, H.d, Option.bind_some, show mm_li (hp G) 628 (nI b + 1) = _ from rd hb 1 (by omega), Option.bind_some, H.c, show mm_si (hp G) 628 (nI b + 0) (aD A &&& (aC A ^^^ (-1))) = _ from wr hb 0 (by omega) _, Option.bind_some, Nat.add_zero, m_ends hb, cv_some]
        generalize hG2 : gsi (gsi (gsi G 628 b (aD A &&& (aC A ^^^ (-1)))) 628 (b + 5) 0) 628 (b + 1) 0 = G2
        have ev : G2.1 628 = upd (upd (upd (G.1 628) b (aD A &&& (aC A ^^^ (-1)))) (b + 5) 0) (b + 1) 0 := by rw [← hG2]; rfl
        have q2 : mdF (mB b) G G2 := by
          rw [← hG2]
          exact ((mdF.cell ⟨by omega, by omega⟩).tr (mdF.cell ⟨by omega, by omega⟩)).tr (mdF.cell ⟨by omega, by omega⟩)
        refine ⟨G2, rfl, ⟨⟨hb, H.hP.fr q2⟩, ?_⟩, q2⟩
        have ec : ∀ k, k ≠ b → k ≠ b + 1 → k ≠ b + 5 → G2.1 628 k = G.1 628 k := fun k x1 x2 x3 => by rw [ev, upd_ne _ _ x2, upd_ne _ _ x3, upd_ne _ _ x1]
        have := H.none_ hs (f' := G2.1 628) (D := aD A &&& (aC A ^^^ (-1))) (T := aT A) (B := fun _ => -1) H.hP (fun k x1 x2 x3 _ _ => ec k x1 x2 x3) (by rw [ev, upd_ne _ _ (by omega), upd_ne _ _ (by omega), upd_at]) (by rw [ev, upd_at]) (by rw [ev, upd_ne _ _ (by omega), upd_at]) (by rw [ec _ (by omega) (by omega) (by omega), c12, b2']; rfl) (fun p hp1 => by rw [ec _ (by omega) (by omega) (by omega)]; exact (H.pt.2 p hp1).2)
        exact this
    · rw [show runO (some J) = false by unfold runO; simp [hd], if_pos (by decide), if_pos rfl]
      exact ⟨G, rfl, H, mdF.rf⟩
end MDG
