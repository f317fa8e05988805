/-! THE REFERENCE: records, what is carried out, a step -/
section MDQ
variable {G : GG} {b : Nat} {P : PP} {A : AS}
theorem okS.job (h : okS P A) {J : JB} (hk : okJ J) (hst : jAt J < pNi P → okL (pPg P) (jSt J)) (x : Int32) : okS P (setX (setJ A (some J)) x) := ⟨⟨h.pp, h.kr, h.kp, h.ka.2.2.1, hk⟩, fun J' hJ' ha => by
  have e : J = J' := Option.some.inj hJ'
  subst e
  exact hst ha⟩
theorem okS.tree (h : okS P A) {i : Nat} {L : LL} (hL : okL (pPg P) L) (x : Int32) : okS P (setX (setL A i L) x) := ⟨⟨h.pp, h.kr, h.kp, fun j hj => by
  show okL _ (if j = i then L else aL A j)
  split
  · exact hL
  · exact h.ka.2.2.1 j hj, h.ka.2.2.2⟩, fun J hJ ha => h.2 J hJ ha⟩
/-- a record -/
theorem m_records (H : MS G b P A) (h : okS P A) {J : JB} (hJ : aJ A = some J) (ha : jAt J < pNi P) (hlen : (jRe J).length < 120) : ∃ G', f_Md_records [.ref 618, .int (nI b)] (hp G) = some (none, hp G') ∧ MS G' b P (recA A J) ∧ mdF (mB b) G G' := by
  have hb := H.hb
  have hn := h.ni
  have hp12 := h.kp.1
  have hj := H.j
  have hk := h.ka.2.2.2
  rw [hJ] at hj hk
  obtain ⟨⟨c5, c6, c7, c8, c9, c10, c11, c12⟩, s, r, t, w⟩ := hj
  obtain ⟨k1, k2, k3, k4, k5, k6, k7⟩ := hk
  rw [e_Md_records 618 _ _ (ob_Md G), gg_Md_state, Option.bind_some, show mm_li (hp G) 628 (nI b + 3) = _ from rd hb 3 (by omega), Option.bind_some, H.x, show mm_si (hp G) 628 (nI b + 3) (aX A + 1) = _ from wr hb 3 (by omega) _, Option.bind_some, gg_Md_state, Option.bind_some, show mm_si (hp (gsi G 628 (b + 3) (aX A + 1))) 628 (nI b + 8) 0 = _ from wr hb 8 (by omega) _, Option.bind_some, gg_Md_state, Option.bind_some]
  generalize hG2 : gsi (gsi G 628 (b + 3) (aX A + 1)) 628 (b + 8) 0 = G2
  have ev2 : G2.1 628 = upd (upd (G.1 628) (b + 3) (aX A + 1)) (b + 8) 0 := by rw [← hG2]; rfl
  have ec2 : ∀ k, k ≠ b + 3 → k ≠ b + 8 → G2.1 628 k = G.1 628 k := fun k a1 a2 => by rw [ev2, upd_ne _ _ a2, upd_ne _ _ a1]
  rw [show mm_li (hp G2) 628 (nI b + 10) = _ from rd hb 10 (by omega), Option.bind_some, ec2 _ (by omega) (by omega), c10, Option.bind_some, Option.bind_some, show mm_li (hp G2) 628 (nI b + 6) = _ from rd hb 6 (by omega), Option.bind_some, ec2 _ (by omega) (by omega), c6, Option.bind_some, show mm_li (hp G2) 628 (nI b + 9) = _ from rd hb 9 (by omega), Option.bind_some, ec2 _ (by omega) (by omega), c9]
  have eix : (nI b + 119) + 2 * nI (jRe J).length = nI (b + 119 + 2 * (jRe J).length) := by rw [show nI b + 119 = nI (b + 119) from nI_add b 119, show (2 : Int32) * nI (jRe J).length = nI (2 * (jRe J).length) from n_mul 2 _, i_add]
  rw [eix, show (32 : Int32) * nI (jAt J) = nI (32 * jAt J) from n_mul 32 _, i_add, uu_Md_state _ (by omega), Option.bind_some, gg_Md_state, Option.bind_some, Option.bind_some, show mm_li (hp (gsi G2 628 (b + 119 + 2 * (jRe J).length) (nI (32 * jAt J + jGo J)))) 628 (nI b + 3) = _ from rd hb 3 (by omega), Option.bind_some, show nI (b + 119 + 2 * (jRe J).length) + 1 = nI (b + 119 + 2 * (jRe J).length + 1) from nI_add _ 1, uu_Md_state _ (by omega), Option.bind_some, gg_Md_state, Option.bind_some]
  have e3 : (gsi G2 628 (b + 119 + 2 * (jRe J).length) (nI (32 * jAt J + jGo J))).1 628 (b + 3) = aX A + 1 := by rw [gsi_i, if_pos rfl, upd_ne _ _ (by omega), ev2, upd_ne _ _ (by omega), upd_at]
  rw [e3]
  generalize hG4 : gsi (gsi G2 628 (b + 119 + 2 * (jRe J).length) (nI (32 * jAt J + jGo J))) 628 (b + 119 + 2 * (jRe J).length + 1) (aX A + 1) = G4
  have ev4 : G4.1 628 = upd (upd (G2.1 628) (b + 119 + 2 * (jRe J).length) (nI (32 * jAt J + jGo J))) (b + 119 + 2 * (jRe J).length + 1) (aX A + 1) := by rw [← hG4]; rfl
  have ec4 : ∀ k, k ≠ b + 3 → k ≠ b + 8 → k ≠ b + 119 + 2 * (jRe J).length → k ≠ b + 119 + 2 * (jRe J).length + 1 → G4.1 628 k = G.1 628 k := fun k a1 a2 a3 a4 => by rw [ev4, upd_ne _ _ a4, upd_ne _ _ a3, ec2 k a1 a2]
  rw [show mm_li (hp G4) 628 (nI b + 10) = _ from rd hb 10 (by omega), Option.bind_some, ec4 _ (by omega) (by omega) (by omega) (by omega), c10, show nI (jRe J).length + 1 = nI ((jRe J).length + 1) from nI_add _ 1, show mm_si (hp G4) 628 (nI b + 10) (nI ((jRe J).length + 1)) = _ from wr hb 10 (by omega) _, Option.bind_some]
  generalize hG5 : gsi G4 628 (b + 10) (nI ((jRe J).length + 1)) = G5
  have ev5 : G5.1 628 = upd (G4.1 628) (b + 10) (nI ((jRe J).length + 1)) := by rw [← hG5]; rfl
  have ec5 : ∀ k, k ≠ b + 3 → k ≠ b + 8 → k ≠ b + 119 + 2 * (jRe J).length → k ≠ b + 119 + 2 * (jRe J).length + 1 → k ≠ b + 10 → G5.1 628 k = G.1 628 k := fun k a1 a2 a3 a4 a5 => by rw [ev5, upd_ne _ _ a5, ec4 k a1 a2 a3 a4]
  rw [m_stands hb (show jAt J < 4 by omega) (by rw [ec5 _ (by omega) (by omega) (by omega) (by omega) (by omega)]; exact c6), cv_some]
  have qS : ∀ {G' : GG} {k : Nat} {v : Int32}, (k = b + 3 ∨ (b + 5 ≤ k ∧ k ≤ b + 12) ∨ (b + 79 ≤ k ∧ k < b + 359) ∨ (b + 483 ≤ k ∧ k < b + 514)) → mdF (fun k => k = b + 3 ∨ (b + 5 ≤ k ∧ k ≤ b + 12) ∨ (b + 79 ≤ k ∧ k < b + 359) ∨ (b + 483 ≤ k ∧ k < b + 514)) G' (gsi G' 628 k v) := fun h => mdF.cell h
  have hF : mdF (fun k => k = b + 3 ∨ (b + 5 ≤ k ∧ k ≤ b + 12) ∨ (b + 79 ≤ k ∧ k < b + 359) ∨ (b + 483 ≤ k ∧ k < b + 514)) G (gsa G5 628 (cpy (G5.1 628) (b + 359 + 31 * jAt J) (b + 483) 31)) := by
    refine mdF.tr (G2 := G5) ?_ (mdF.arr (fun k hk => cpy_off (by omega)))
    rw [← hG5, ← hG4, ← hG2]
    exact ((((qS (by omega)).tr (qS (by omega))).tr (qS (by omega))).tr (qS (by omega))).tr (qS (by omega))
  refine ⟨_, rfl, ?_, hF.mono (fun k hk => by unfold mB; omega)⟩
  have tr5 : isMf (G5.1 628) (b + 359 + 31 * jAt J) (fl (aL A (jAt J))) := isMf.cong (isM_f.mp (H.tr ha)) (okM_fl (h.kl ha)).1 (fun k a1 a2 => ec5 k (by omega) (by omega) (by omega) (by omega) (by omega))
  have off : ∀ k, k < b + 483 → cpy (G5.1 628) (b + 359 + 31 * jAt J) (b + 483) 31 k = G5.1 628 k := fun k hk => cpy_off (by omega)
  have hfin : (gsa G5 628 (cpy (G5.1 628) (b + 359 + 31 * jAt J) (b + 483) 31)).1 628 = cpy (G5.1 628) (b + 359 + 31 * jAt J) (b + 483) 31 := by rw [gsa_i, if_pos rfl]
  refine H.jobU h hF (x := aX A + 1) (o := some (recJ J (aX A + 1) (aL A (jAt J)))) ?_ ?_
  · rw [hfin, off _ (by omega), ev5, upd_ne _ _ (by omega), ev4, upd_ne _ _ (by omega), upd_ne _ _ (by omega), ev2, upd_ne _ _ (by omega), upd_at]
  · rw [hfin]
    have ecc : ∀ k, k < b + 483 → k ≠ b + 3 → k ≠ b + 8 → k ≠ b + 119 + 2 * (jRe J).length → k ≠ b + 119 + 2 * (jRe J).length + 1 → k ≠ b + 10 → cpy (G5.1 628) (b + 359 + 31 * jAt J) (b + 483) 31 k = G.1 628 k := fun k a0 a1 a2 a3 a4 a5 => by rw [off k a0, ec5 k a1 a2 a3 a4 a5]
    refine ⟨⟨by rw [ecc _ (by omega) (by omega) (by omega) (by omega) (by omega) (by omega)]; exact c5, by rw [ecc _ (by omega) (by omega) (by omega) (by omega) (by omega) (by omega)]; exact c6, by rw [ecc _ (by omega) (by omega) (by omega) (by omega) (by omega) (by omega)]; exact c7, ?_, by rw [ecc _ (by omega) (by omega) (by omega) (by omega) (by omega) (by omega)]; exact c9, ?_, by rw [ecc _ (by omega) (by omega) (by omega) (by omega) (by omega) (by omega)]; exact c11, by rw [ecc _ (by omega) (by omega) (by omega) (by omega) (by omega) (by omega)]; exact c12⟩, fun k hk => ?_, ?_, fun _ => isMf_cpy tr5 (okM_fl (h.kl ha)).1, fun p hp1 => ?_⟩
    · rw [off _ (by omega), ev5, upd_ne _ _ (by omega), ev4, upd_ne _ _ (by omega), upd_ne _ _ (by omega), ev2, upd_at]; rfl
    · rw [off _ (by omega), ev5, upd_at]
      show _ = nI (jRe J ++ [(jAt J, jGo J, aX A + 1)]).length
      rw [List.length_append]; rfl
    · have hk2 : k < (jSd J).length := hk
      rw [ecc _ (by omega) (by omega) (by omega) (by omega) (by omega) (by omega)]
      exact s k hk
    · show ∀ k (h : k < (jRe J ++ [(jAt J, jGo J, aX A + 1)]).length), cpy (G5.1 628) (b + 359 + 31 * jAt J) (b + 483) 31 (b + 119 + 2 * k) = nI (32 * (jRe J ++ [(jAt J, jGo J, aX A + 1)])[k].1 + (jRe J ++ [(jAt J, jGo J, aX A + 1)])[k].2.1) ∧ cpy (G5.1 628) (b + 359 + 31 * jAt J) (b + 483) 31 (b + 119 + 2 * k + 1) = (jRe J ++ [(jAt J, jGo J, aX A + 1)])[k].2.2
      intro k hk
      have hk' := hk
      rw [List.length_append] at hk'
      simp only [List.length_cons, List.length_nil] at hk'
      by_cases e : k = (jRe J).length
      · subst e
        have eg : (jRe J ++ [(jAt J, jGo J, aX A + 1)])[(jRe J).length] = (jAt J, jGo J, aX A + 1) := by simp
        rw [eg, off _ (by omega), off _ (by omega), ev5, upd_ne _ _ (by omega), upd_ne _ _ (by omega), ev4, upd_ne _ _ (by omega), upd_at, upd_at]
        exact ⟨rfl, rfl⟩
      · rw [List.getElem_append_left (by omega), ecc _ (by omega) (by omega) (by omega) (by omega) (by omega) (by omega), ecc _ (by omega) (by omega) (by omega) (by omega) (by omega) (by omega)]
        exact r k (by omega)
    · rw [ecc _ (by omega) (by omega) (by omega) (by omega) (by omega) (by omega)]
      exact w p hp1
/-- what is laid aside is carried out -/
theorem m_carries (H : MS G b P A) (h : okS P A) {J : JB} (hJ : aJ A = some J) (ha : jAt J < pNi P) {W : Nat → Prop} (hr : rpl P (jAt J) (fun c => c ∈ (aL A (jAt J)).flatten) (jSd J) W) : ∃ G', f_Md_carries [.ref 618, .int (nI b)] (hp G) = some (none, hp G') ∧ MS G' b P (carA P A J) ∧ mdF (mB b) G G' := by
  have hb := H.hb
  have hn := h.ni
  have hj := H.j
  have hk := h.ka.2.2.2
  rw [hJ] at hj hk
  obtain ⟨-, -, k3, -⟩ := (show okJ J from hk)
  rw [e_Md_carries 618 _ _ (ob_Md G), gg_Md_state, Option.bind_some, show mm_li (hp G) 628 (nI b + 6) = _ from rd hb 6 (by omega), Option.bind_some, hj.1.2.1]
  unfold carA
  rw [if_pos ha]
  have key : ∀ (xs : List Int32) (k f : Nat) (G1 : GG) (a : LL × Int32), (jSd J).drop k = xs → k ≤ (jSd J).length → xs.length < f → MS G1 b P (carT P A (jAt J) a) → okL (pPg P) a.1 → rpl P (jAt J) (fun c => c ∈ a.1.flatten) xs W → mdF (mB b) G G1 → ∃ G', mm_run p_Md_carries f 12 [.ref 618, .int (nI b), .int (nI (jAt J)), .int (nI k)] [] (hp G1) = some (none, hp G') ∧ MS G' b P (setJ (carT P A (jAt J) (xs.foldl (carS P (jAt J)) a)) (some (jNoSd J))) ∧ mdF (mB b) G G' := by
    intro xs
    induction xs with
    | nil =>
      intro k f G1 a hd hkl hf H1 hka _ q1
      obtain ⟨f, rfl⟩ : ∃ g, f = g + 1 := ⟨f - 1, by simp at hf; omega⟩
      have hk2 : k = (jSd J).length := by
        have := congrArg List.length hd
        rw [List.length_drop] at this
        simp at this
        omega
      have hj1 := H1.j
      rw [show aJ (carT P A (jAt J) a) = some J from hJ] at hj1
      obtain ⟨⟨c5, c6, c7, c8, c9, c10, c11, c12⟩, s, r, t, w⟩ := hj1
      have h1 : okS P (carT P A (jAt J) a) := h.tree hka _
      rw [e_Md_carries_12, gg_Md_state, Option.bind_some, show mm_li (hp G1) 628 (nI b + 12) = _ from rd hb 12 (by omega), Option.bind_some, c12, if_neg (lm (by omega) (by omega)), Option.bind_some, show mm_si (hp G1) 628 (nI b + 12) 0 = _ from wr hb 12 (by omega) _, Option.bind_some]
      refine ⟨_, rfl, ?_, q1.tr (mdF.cell ⟨by omega, by omega⟩)⟩
      have hk' := h1.ka.2.2.2
      rw [show aJ (carT P A (jAt J) a) = some J from hJ] at hk'
      obtain ⟨-, z2, -⟩ := (show okJ J from hk')
      have hp12 := h1.kp.1
      have ec : ∀ k, k ≠ b + 12 → (gsi G1 628 (b + 12) 0).1 628 k = G1.1 628 k := fun k hk => by rw [gsi_i, if_pos rfl, upd_ne _ _ hk]
      have := H1.jobU h1 (o := some (jNoSd J)) (x := a.2) (G' := gsi G1 628 (b + 12) 0) (mdF.cell (Or.inr (Or.inl ⟨by omega, by omega⟩))) (by rw [ec _ (by omega)]; exact H1.x) (by
        refine ⟨⟨by rw [ec _ (by omega)]; exact c5, by rw [ec _ (by omega)]; exact c6, by rw [ec _ (by omega)]; exact c7, by rw [ec _ (by omega)]; exact c8, by rw [ec _ (by omega)]; exact c9, by rw [ec _ (by omega)]; exact c10, by rw [ec _ (by omega)]; exact c11, by rw [gsi_i, if_pos rfl, upd_at]; rfl⟩, fun k hk => absurd hk (Nat.not_lt_zero _), fun k hk => ?_, fun ha => ?_, fun p hp1 => ?_⟩
        · have hk2 : k < (jRe J).length := hk
          rw [ec _ (by omega), ec _ (by omega)]; exact r k hk
        · exact (t ha).cong (by rw [fl_len]; exact (h.st hJ ha).2.1) (fun k a1 a2 => ec k (by omega))
        · rw [ec _ (by omega)]; exact w p hp1)
      exact this
    | cons x xs ih =>
      intro k f G1 a hd hkl hf H1 hka hr1 q1
      obtain ⟨f, rfl⟩ : ∃ g, f = g + 1 := ⟨f - 1, by simp at hf; omega⟩
      have hklt : k < (jSd J).length := by
        have := congrArg List.length hd
        rw [List.length_drop, List.length_cons] at this
        omega
      have hxk : (jSd J)[k] = x := by
        have := drop_cons hklt
        rw [hd] at this
        exact (List.cons.inj this).1.symm
      have hd2 : (jSd J).drop (k + 1) = xs := by
        have := drop_cons hklt
        rw [hd] at this
        exact (List.cons.inj this).2.symm
      have hj1 := H1.j
      rw [show aJ (carT P A (jAt J) a) = some J from hJ] at hj1
      obtain ⟨⟨c5, c6, c7, c8, c9, c10, c11, c12⟩, s, r, t, w⟩ := hj1
      have h1 : okS P (carT P A (jAt J) a) := h.tree hka _
      obtain ⟨r1, r2, r3, r4⟩ := hr1
      obtain ⟨o1, o2⟩ := r1
      have hs := sdC_ok (P := P) (i := jAt J) ⟨o1, o2⟩
      have eLa : aL (carT P A (jAt J) a) (jAt J) = a.1 := if_pos rfl
      have htr := H1.tr ha
      rw [eLa] at htr
      obtain ⟨m1, m2⟩ := car_mem (i := jAt J) hka ⟨o1, o2⟩ r3
      have hnext := rpl_l (fun c => (m2 c).symm) r4
      rw [e_Md_carries_12, gg_Md_state, Option.bind_some, show mm_li (hp G1) 628 (nI b + 12) = _ from rd hb 12 (by omega), Option.bind_some, c12, if_pos (lp hklt (by omega)), Option.bind_some, show mm_li (hp G1) 628 ((nI b + 79) + nI k) = _ from rd2 hb 79 k (by omega), Option.bind_some, s k hklt, hxk, show nI k + 1 = nI (k + 1) from nI_add k 1, List.foldl_cons]
      have go : ∀ (G2 : GG), isM G2 (b + 359 + 31 * jAt J) (fl (carL P (jAt J) a.1 x)) → G2.1 628 (b + 3) = G1.1 628 (b + 3) + (nI (hg (pPg P) a.1.length) + 2) → mdF (fun k => k = b + 3 ∨ trR (b + 359 + 31 * jAt J) k) G1 G2 → ∃ G', mm_run p_Md_carries f 12 [.ref 618, .int (nI b), .int (nI (jAt J)), .int (nI (k + 1))] [] (hp G2) = some (none, hp G') ∧ MS G' b P (setJ (carT P A (jAt J) (xs.foldl (carS P (jAt J)) (carS P (jAt J) a x))) (some (jNoSd J))) ∧ mdF (mB b) G G' := fun G2 g1 g2 g3 => by
        rw [H1.x] at g2
        have H2 := H1.treeU h1 ha g3 g2 g1
        have e2 : setX (setL (carT P A (jAt J) a) (jAt J) (carL P (jAt J) a.1 x)) (aX (carT P A (jAt J) a) + (nI (hg (pPg P) a.1.length) + 2)) = carT P A (jAt J) (carS P (jAt J) a x) := by
          unfold carT carS setL setX
          refine Prod.ext rfl (Prod.ext rfl (Prod.ext ?_ rfl))
          funext j
          show (if j = jAt J then carL P (jAt J) a.1 x else (if j = jAt J then a.1 else aL A j)) = (if j = jAt J then carL P (jAt J) a.1 x else aL A j)
          split <;> rfl
        rw [e2] at H2
        exact ih (k + 1) f G2 (carS P (jAt J) a x) hd2 (by omega) (by simp at hf; omega) H2 m1 hnext (q1.tr (g3.mono (tr_in (by omega))))
      by_cases hneg : x < 0
      · have e40 : x + 40000 = nI (sdN x) := by
          have : sdI x = x + 40000 := if_pos hneg
          rw [← this]; exact o1
        have ec : carL P (jAt J) a.1 x = takL (sdC P (jAt J) x) a.1 := if_pos hneg
        rw [if_pos hneg, if_pos hneg, e40, show nI (sdN x) / 1000 = nI (sdN x / 1000) from n_div (b := 1000) (by omega) (by decide) (by decide), show mm_rem (nI (sdN x)) 1000 = nI (sdN x % 1000) from n_rem (b := 1000) (by omega) (by decide) (by decide), m_entryOf H1.hP h.pp ha (by omega), ci_some]
        obtain ⟨G2, g0, g1, g2, g3⟩ := s_Md_takes (c := codD (dnP P (jAt J)) (sdN x % 1000) (sdN x / 1000)) H1.pg hb (show jAt J < 4 by omega) htr hka (r2 hneg)
        rw [g0, cv_some]
        exact go G2 (by rw [ec]; exact g1) g2 g3
      · have e40 : x = nI (sdN x) := by
          have : sdI x = x := if_neg hneg
          exact this.symm.trans o1
        have ec : carL P (jAt J) a.1 x = putL (pPg P) (sdC P (jAt J) x) a.1 := if_neg hneg
        have hno : sdN x / 1000 ∉ a.1.flatten.map (· % 32) := fun q => by
          obtain ⟨c, hc, e⟩ := List.mem_map.mp q
          exact r3 hneg c hc e
        rw [if_neg hneg, if_neg hneg]
        have e41 : x / 1000 = nI (sdN x / 1000) ∧ mm_rem x 1000 = nI (sdN x % 1000) := by
          have o3 : sdN x < 30000 := o2
          generalize sdN x = y at *
          subst e40
          exact ⟨n_div (b := 1000) (by omega) (by decide) (by decide), n_rem (b := 1000) (by omega) (by decide) (by decide)⟩
        rw [e41.1, e41.2, m_entryOf H1.hP h.pp ha (by omega), ci_some]
        obtain ⟨G2, g0, g1, g2, g3⟩ := s_Md_puts (c := codD (dnP P (jAt J)) (sdN x % 1000) (sdN x / 1000)) H1.pg hb (show jAt J < 4 by omega) htr hka hs.1 (rows_lt hka (by omega) hno) (fun q => hno (List.mem_map.mpr ⟨_, q, hs.2.1⟩))
        rw [g0, cv_some]
        exact go G2 (by rw [ec]; exact g1) g2 g3
  have H0 : MS G b P (carT P A (jAt J) (aL A (jAt J), aX A)) := by
    have : carT P A (jAt J) (aL A (jAt J), aX A) = A := setL_self A (jAt J)
    rw [this]; exact H
  exact key (jSd J) 0 mm_fu G (aL A (jAt J), aX A) rfl (Nat.zero_le _) (fu_lt (by omega)) H0 (h.kl ha) hr mdF.rf
end MDQ
