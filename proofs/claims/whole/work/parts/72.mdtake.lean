/-! THE REFERENCE: an entry goes; what the ways cost -/
section MDK
variable {G : GG} {b i page : Nat} {L : LL}
theorem s_ent0 (hb : b ≤ 9252) (hi : i < 4) {n : Nat} (h : G.1 628 (b + 359 + 31 * i) = nI n) : f_Md_entries [.ref 618, .int (nI b), .int (nI i)] (hp G) = some (some (.int (nI n)), hp G) := by
  rw [e_Md_entries 618 _ _ _ (ob_Md G), gg_Md_state, Option.bind_some, s_Md_startOf, ci_some, rr_Md_state _ (by omega), Option.bind_some, h]
theorem goes_loop (hb : b ≤ 9252) (hi : i < 4) {n p : Nat} {w : Int32} (hn : n ≤ 29) (hc : G.1 628 (b + 359 + 31 * i) = nI (n + 1)) : ∀ (j k f : Nat), k + j = n → p ≤ k → j < f → mm_run p_Md_goesOut f 22 [.ref 618, .int (nI b), .int (nI i), .int (nI p), .int (nI (b + 359 + 31 * i + 1)), .int w, .int (nI k)] [] (hp (gsa G 628 (shL (G.1 628) (b + 359 + 31 * i + 1 + p) (b + 359 + 31 * i + 1 + k)))) = mm_run p_Md_goesOut (f - j) 22 [.ref 618, .int (nI b), .int (nI i), .int (nI p), .int (nI (b + 359 + 31 * i + 1)), .int w, .int (nI n)] [] (hp (gsa G 628 (shL (G.1 628) (b + 359 + 31 * i + 1 + p) (b + 359 + 31 * i + 1 + n)))) := by
  intro j
  induction j with
  | zero => intro k f hk _ _; rw [show k = n by omega]; rfl
  | succ j ih =>
    intro k f hk hkp hf
    obtain ⟨f, rfl⟩ : ∃ g, f = g + 1 := ⟨f - 1, by omega⟩
    have hc1 : (gsa G 628 (shL (G.1 628) (b + 359 + 31 * i + 1 + p) (b + 359 + 31 * i + 1 + k))).1 628 (b + 359 + 31 * i) = nI (n + 1) := by
      rw [gsa_i, if_pos rfl]
      unfold shL
      rw [if_neg (by omega)]
      exact hc
    rw [e_Md_goesOut_22, s_ent0 hb hi hc1, ci_some, show nI (n + 1) - 1 = nI n from n_sub (b := 1) (by omega), if_pos (lp (by omega) (by omega)), gg_Md_state, Option.bind_some, Option.bind_some, i_add, show nI (b + 359 + 31 * i + 1 + k) + 1 = nI (b + 359 + 31 * i + 1 + k + 1) from nI_add _ 1, rr_Md_state _ (by omega), Option.bind_some, uu_Md_state _ (by omega), Option.bind_some, gsi_gsa, gsa_i, if_pos rfl, show nI k + 1 = nI (k + 1) from nI_add k 1, shL_step (by omega), Nat.add_assoc (b + 359 + 31 * i + 1) k 1, ih (k + 1) f (by omega) (by omega) (by omega), show f + 1 - (j + 1) = f - j by omega]
theorem s_Md_goesOut (hb : b ≤ 9252) (hi : i < 4) (h : isM G (b + 359 + 31 * i) (fl L)) (hk : okL page L) {A B : LL} {l1 l2 : List Nat} {c : Nat} (e : L = A ++ (l1 ++ c :: l2) :: B) (h1 : c ∉ A.flatten) (h2 : c ∉ l1) (h3 : c ∉ l2) (h4 : c ∉ B.flatten) : ∃ G', f_Md_goesOut [.ref 618, .int (nI b), .int (nI i), .int (nI (A.flatten.length + l1.length))] (hp G) = some (none, hp G') ∧ isM G' (b + 359 + 31 * i) (fl (takL c L)) ∧ mdF (trR (b + 359 + 31 * i)) G G' := by
  have hkM := okM_fl hk
  have hne : ∀ l ∈ L, l ≠ [] := fun l hl => (hk.2.2.1 l hl).1
  have hB : ∀ x ∈ B, x ≠ [] := fun x hx => hne x (by rw [e]; simp [hx])
  have etak : takL c L = A ++ ((if (l1 ++ l2).isEmpty then [] else [l1 ++ l2]) ++ B) := by rw [e]; exact tak_dec (by rw [← e]; exact hne) h1 h2 h3 h4
  -- the row as one around the entry that goes
  have hfl : ∃ u, fl L = (fl A ++ fl1 l1) ++ u :: (l2.map (2 * ·) ++ fl B) ∧ (u % 2 == 1) = l1.isEmpty := by
    cases l1 with
    | nil => exact ⟨2 * c + 1, by rw [e, fl_app, fl_cons]; simp [fl1], by simp⟩
    | cons a as => exact ⟨2 * c, by rw [e, fl_app, fl_cons, fl1_app]; simp, by simp⟩
  obtain ⟨u, hfl, hu⟩ := hfl
  have hxl : (fl A ++ fl1 l1).length = A.flatten.length + l1.length := by rw [List.length_append, fl_len, fl1_len]
  have hlen : (fl L).length = A.flatten.length + l1.length + 1 + (l2.map (2 * ·) ++ fl B).length := by rw [hfl, List.length_append, hxl, List.length_cons]; omega
  have h30 := hkM.1
  have hpl : A.flatten.length + l1.length < (fl L).length := by omega
  have hfirst : (fl L)[A.flatten.length + l1.length] = u := by
    have : (fl L)[A.flatten.length + l1.length]? = some u := by rw [hfl, List.getElem?_append_right (by omega), hxl, Nat.sub_self]; rfl
    rw [List.getElem?_eq_getElem hpl] at this
    exact Option.some.inj this
  rw [e_Md_goesOut 618 _ _ _ _ (ob_Md G), s_Md_startOf, ci_some, s_Md_isFirst hb hi h hkM hpl, ci_some, hfirst, hu, show nI (b + 359 + 31 * i) + 1 = nI (b + 359 + 31 * i + 1) from nI_add _ 1]
  have hcn : G.1 628 (b + 359 + 31 * i) = nI ((fl L).length - 1 + 1) := by rw [h.1, show (fl L).length - 1 + 1 = (fl L).length by omega]
  have hloop := goes_loop (G := G) hb hi (n := (fl L).length - 1) (p := A.flatten.length + l1.length) (w := b2 l1.isEmpty) (by omega) hcn ((fl L).length - 1 - (A.flatten.length + l1.length)) (A.flatten.length + l1.length) mm_fu (by omega) (Nat.le_refl _) (fu_lt (by omega))
  rw [shL_a, gsa_self] at hloop
  rw [hloop]
  obtain ⟨f1, hf1⟩ : ∃ f, mm_fu - ((fl L).length - 1 - (A.flatten.length + l1.length)) = f + 1 := ⟨mm_fu - ((fl L).length - 1 - (A.flatten.length + l1.length)) - 1, by have := fu_lt (n := 100) (by decide); omega⟩
  have hc1 : (gsa G 628 (shL (G.1 628) (b + 359 + 31 * i + 1 + (A.flatten.length + l1.length)) (b + 359 + 31 * i + 1 + ((fl L).length - 1)))).1 628 (b + 359 + 31 * i) = nI ((fl L).length - 1 + 1) := by
    rw [gsa_i, if_pos rfl]
    unfold shL
    rw [if_neg (by omega)]
    exact hcn
  rw [hf1, e_Md_goesOut_22, s_ent0 hb hi hc1, ci_some, show nI ((fl L).length - 1 + 1) - 1 = nI ((fl L).length - 1) from n_sub (b := 1) (by omega), if_neg (lm (Nat.le_refl _) (by omega)), gg_Md_state, Option.bind_some, show nI (b + 359 + 31 * i + 1) - 1 = nI (b + 359 + 31 * i) from n_sub (b := 1) (by omega), rr_Md_state _ (by omega), Option.bind_some, hc1, uu_Md_state _ (by omega), Option.bind_some, gsi_gsa, show nI ((fl L).length - 1 + 1) - 1 = nI ((fl L).length - 1) from n_sub (b := 1) (by omega)]
  have hMf : isMf (G.1 628) (b + 359 + 31 * i) ((fl A ++ fl1 l1) ++ u :: (l2.map (2 * ·) ++ fl B)) := by rw [← hfl]; exact h
  have hdel := mf_del hMf
  have hrest : ((fl A ++ fl1 l1) ++ (l2.map (2 * ·) ++ fl B)).length = (fl L).length - 1 := by rw [List.length_append, hxl]; omega
  rw [hxl, hrest] at hdel
  have hM1 := isM_a (G := G) hdel
  have q1 : mdF (trR (b + 359 + 31 * i)) G (gsa G 628 (upd (shL (G.1 628) (b + 359 + 31 * i + 1 + (A.flatten.length + l1.length)) (b + 359 + 31 * i + 1 + ((fl L).length - 1))) (b + 359 + 31 * i) (nI ((fl L).length - 1)))) := mdF.arr (fun k hk2 => by
    have hk3 : k < b + 359 + 31 * i ∨ b + 359 + 31 * i + 31 ≤ k := by unfold trR at hk2; omega
    rw [upd_ne _ _ (by omega)]
    unfold shL
    rw [if_neg (by omega)])
  generalize gsa G 628 (upd (shL (G.1 628) (b + 359 + 31 * i + 1 + (A.flatten.length + l1.length)) (b + 359 + 31 * i + 1 + ((fl L).length - 1))) (b + 359 + 31 * i) (nI ((fl L).length - 1))) = G1 at *
  have hkM1 : okM ((fl A ++ fl1 l1) ++ (l2.map (2 * ·) ++ fl B)) := ⟨by omega, fun k hk2 => by
    have hm : ((fl A ++ fl1 l1) ++ (l2.map (2 * ·) ++ fl B))[k] ∈ fl L := by
      have := List.getElem_mem hk2
      rw [hfl]
      simp only [List.mem_append, List.mem_cons] at this ⊢
      rcases this with q | q
      · exact Or.inl q
      · exact Or.inr (Or.inr q)
    obtain ⟨j, hj, ej⟩ := List.mem_iff_getElem.mp hm
    rw [← ej]
    exact hkM.2 j hj⟩
  cases l1 with
  | cons a as =>
    rw [if_pos (show b2 (a :: as).isEmpty = 0 from rfl)]
    refine ⟨G1, rfl, ?_, q1⟩
    rw [etak]
    have : fl (A ++ ((if (a :: as ++ l2).isEmpty then [] else [a :: as ++ l2]) ++ B)) = (fl A ++ fl1 (a :: as)) ++ (l2.map (2 * ·) ++ fl B) := by
      rw [if_neg (by simp), fl_app, fl_app, fl_cons, fl1_app]
      simp [fl]
    rw [this]
    exact hM1
  | nil =>
    rw [if_neg (by decide), s_Md_entries hb hi hM1, ci_some, hrest]
    simp only [List.length_nil, Nat.add_zero, List.nil_append] at *
    have hxl0 : (fl A ++ fl1 []).length = A.flatten.length := by simp [fl1, fl_len]
    cases l2 with
    | cons d ds =>
      have hpl2 : A.flatten.length < ((fl A ++ fl1 []) ++ ((d :: ds).map (2 * ·) ++ fl B)).length := by rw [List.length_append, hxl0]; simp
      have hcell : ((fl A ++ fl1 []) ++ ((d :: ds).map (2 * ·) ++ fl B))[A.flatten.length] = 2 * d := by
        have : ((fl A ++ fl1 []) ++ ((d :: ds).map (2 * ·) ++ fl B))[A.flatten.length]? = some (2 * d) := by rw [List.getElem?_append_right (by omega), hxl0, Nat.sub_self]; rfl
        rw [List.getElem?_eq_getElem hpl2] at this
        exact Option.some.inj this
      have hM1f : isMf (G1.1 628) (b + 359 + 31 * i) ((fl A ++ fl1 []) ++ (2 * d) :: (ds.map (2 * ·) ++ fl B)) := hM1
      have hat := mf_at hM1f
      rw [hxl0] at hat
      rw [if_pos (lp (by omega) (by omega)), s_Md_isFirst hb hi hM1 hkM1 hpl2, ci_some, hcell, show (2 * d % 2 == 1) = false by simp, if_pos (by decide), gg_Md_state, Option.bind_some, i_add, rr_Md_state _ (by omega), Option.bind_some, uu_Md_state _ (by omega), Option.bind_some, hat, show nI (2 * d) + 1 = nI (2 * d + 1) from nI_add _ 1]
      refine ⟨_, rfl, ?_, q1.tr (mdF.cell ⟨by omega, by omega⟩)⟩
      have hu2 := mf_upd (2 * d + 1) hM1f
      rw [hxl0] at hu2
      have := isM_a (G := G1) hu2
      rw [etak]
      have e5 : fl (A ++ ((if (d :: ds).isEmpty then [] else [d :: ds]) ++ B)) = (fl A ++ fl1 []) ++ (2 * d + 1) :: (ds.map (2 * ·) ++ fl B) := by
        rw [if_neg (by simp), fl_app, fl_app, fl_cons]
        simp [fl, fl1]
      rw [e5]
      exact this
    | nil =>
      have e5 : fl (A ++ ((if ([] : List Nat).isEmpty then [] else [[]]) ++ B)) = (fl A ++ fl1 []) ++ (([] : List Nat).map (2 * ·) ++ fl B) := by
        rw [if_pos (show ([] : List Nat).isEmpty = true from rfl), List.nil_append, fl_app]
        simp [fl1]
      rw [← e5, ← etak] at hM1
      by_cases hend : A.flatten.length < (fl L).length - 1
      · cases B with
        | nil =>
          have e0 : (([] : List Nat).map (2 * ·) ++ fl ([] : LL)).length = 0 := rfl
          omega
        | cons y ys =>
          cases y with
          | nil => exact absurd rfl (hB [] List.mem_cons_self)
          | cons z zs =>
            have hkMt : okM (fl (takL c L)) := okM_fl (tak_ok hk)
            have hlt : A.flatten.length < (fl (takL c L)).length := by rw [etak, e5]; rw [List.length_append, hxl0]; simp [fl, fl1]
            have hcell : (fl (takL c L))[A.flatten.length] = 2 * z + 1 := by
              have : (fl (takL c L))[A.flatten.length]? = some (2 * z + 1) := by rw [etak, e5, List.getElem?_append_right (by omega), hxl0, Nat.sub_self]; rfl
              rw [List.getElem?_eq_getElem hlt] at this
              exact Option.some.inj this
            rw [if_pos (lp hend (by omega)), s_Md_isFirst hb hi hM1 hkMt hlt, ci_some, hcell, show ((2 * z + 1) % 2 == 1) = true by simp, if_neg (by decide)]
            exact ⟨G1, rfl, hM1, q1⟩
      · rw [if_neg (lm (by omega) (by omega))]
        exact ⟨G1, rfl, hM1, q1⟩
theorem s_Md_takes (hp0 : G.1 624 0 = nI page) (hb : b ≤ 9252) (hi : i < 4) (h : isM G (b + 359 + 31 * i) (fl L)) (hk : okL page L) {c : Nat} (hc : c ∈ L.flatten) : ∃ G', f_Md_takes [.ref 618, .int (nI b), .int (nI i), .int (nI c)] (hp G) = some (none, hp G') ∧ isM G' (b + 359 + 31 * i) (fl (takL c L)) ∧ G'.1 628 (b + 3) = G.1 628 (b + 3) + (nI (hg page L.length) + 2) ∧ mdF (fun k => k = b + 3 ∨ trR (b + 359 + 31 * i) k) G G' := by
  have hkM := okM_fl hk
  have hc32 := (hk.2.2.2.1 c hc).1
  rw [e_Md_takes 618 _ _ _ _ (ob_Md G), gg_Md_state, Option.bind_some, (s_spent hb 0).2, Option.bind_some, s_Md_height hp0 hk.1 hb hi h hkM, ci_some, fl_odd (fun l hl => (hk.2.2.1 l hl).1), (s_spent hb _).1, Option.bind_some]
  generalize hX : G.1 628 (b + 3) + (nI (hg page L.length) + 2) = X
  have hM1 : isM (gsi G 628 (b + 3) X) (b + 359 + 31 * i) (fl L) := h.off hkM.1 (fun k h1 h2 => by rw [gsi_i, if_pos rfl, upd_ne _ _ (by omega)])
  have hx1 : (gsi G 628 (b + 3) X).1 628 (b + 3) = X := by rw [gsi_i, if_pos rfl, upd_at]
  have q1 : mdF (fun k => k = b + 3 ∨ trR (b + 359 + 31 * i) k) G (gsi G 628 (b + 3) X) := mdF.cell (Or.inl rfl)
  generalize gsi G 628 (b + 3) X = G1 at *
  obtain ⟨A, l1, l2, B, e, p1, p2, p3, p4⟩ := mem_dec hc hk.2.2.2.2.1
  have hpl : ((fl L).filter (fun x => decide (x / 2 < c))).length = A.flatten.length + l1.length := by
    rw [e]
    exact flat_low p1 p2 (fun x hx => by
      rcases List.mem_cons.mp hx with q | q
      · omega
      · have := p3 x q; omega) (fun x hx => by have := p4 x hx; omega)
  rw [s_Md_placeFor hb hi hM1 hkM (by omega), ci_some, hpl]
  obtain ⟨G2, r1, r2, r3⟩ := s_Md_goesOut hb hi hM1 hk e (fun q => by have := p1 c q; omega) (fun q => by have := p2 c q; omega) (fun q => by have := p3 c q; omega) (fun q => by have := p4 c q; omega)
  rw [r1, cv_some]
  refine ⟨G2, rfl, r2, ?_, q1.tr (r3.mono (fun k hk => Or.inr hk))⟩
  rw [r3.2.2.2 (b + 3) (fun h => by unfold trR at h; omega)]
  exact hx1
end MDK
