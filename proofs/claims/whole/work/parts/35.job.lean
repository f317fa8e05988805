/-! JOB (the class) -/
/-- down, at, way, since, gone, records, side list, stand -/
abbrev JB := Bool × Nat × Int32 × Nat × Nat × List (Nat × Nat × Int32) × List Int32 × LL
def jDn (J : JB) : Bool := J.1
def jAt (J : JB) : Nat := J.2.1
def jWy (J : JB) : Int32 := J.2.2.1
def jSi (J : JB) : Nat := J.2.2.2.1
def jGo (J : JB) : Nat := J.2.2.2.2.1
def jRe (J : JB) : List (Nat × Nat × Int32) := J.2.2.2.2.2.1
def jSd (J : JB) : List Int32 := J.2.2.2.2.2.2.1
def jSt (J : JB) : LL := J.2.2.2.2.2.2.2
def isRe (G : GG) (a : Nat) (l : List (Nat × Nat × Int32)) : Prop := ∀ i (hi : i < l.length), G.1 a (i * 3) = nI l[i].1 ∧ G.1 a (i * 3 + 1) = nI l[i].2.1 ∧ G.1 a (i * 3 + 2) = l[i].2.2
def isSd (G : GG) (a : Nat) (l : List Int32) : Prop := ∀ i (hi : i < l.length), G.1 a i = l[i]
def isJb (G : GG) (j : Nat) : Option JB → Prop
  | none => G.1 j 3 = 0 ∧ G.1 j 4 = 0 ∧ G.1 j 5 = -1 ∧ G.1 j 6 = -1 ∧ G.1 j 7 = nI 0 ∧ G.1 j 8 = nI 0 ∧ G.1 j 9 = nI 0 ∧ G.1 j 10 = nI 0
  | some J => (G.1 j 3 = 1 ∧ G.1 j 4 = b2 (jDn J) ∧ G.1 j 5 = nI (jAt J) ∧ G.1 j 6 = jWy J ∧ G.1 j 7 = nI (jSi J) ∧ G.1 j 8 = nI (jGo J) ∧ G.1 j 9 = nI (jRe J).length ∧ G.1 j 10 = nI (jSd J).length) ∧ isRe G (j + 1) (jRe J) ∧ isSd G (j + 2) (jSd J)
def okJ (J : JB) : Prop := jAt J ≤ 4 ∧ (jRe J).length ≤ 120 ∧ (jSd J).length ≤ 40 ∧ jGo J ≤ 30 ∧ jSi J ≤ 30 ∧ (∀ r ∈ jRe J, r.1 ≤ 3 ∧ r.2.1 ≤ 30) ∧ (jWy J = -1 ∨ jWy J = 0 ∨ jWy J = 1)
def okJo : Option JB → Prop
  | none => True
  | some J => okJ J
def atO (o : Option JB) (i : Nat) : Bool := match o with
  | none => false
  | some J => jAt J == i
def runO (o : Option JB) : Bool := match o with
  | none => false
  | some J => !jDn J
section JBS
variable {G : GG} {j : Nat} {J : JB} {o : Option JB}
theorem isRe.off {G G' : GG} {a : Nat} {l : List (Nat × Nat × Int32)} (h : isRe G a l) (e : G'.1 a = G.1 a) : isRe G' a l := fun i hi => by rw [e]; exact h i hi
theorem isSd.off {G G' : GG} {a : Nat} {l : List Int32} (h : isSd G a l) (e : G'.1 a = G.1 a) : isSd G' a l := fun i hi => by rw [e]; exact h i hi
theorem isJb.off {G' : GG} {W : Nat → Prop} (hi : isJb G j o) (hq : eqOff W G G') (h0 : ∀ i, i < 3 → ¬ W (j + i)) : isJb G' j o := by
  have e0 := (hq j (h0 0 (by decide))).1
  have e1 := (hq (j + 1) (h0 1 (by decide))).1
  have e2 := (hq (j + 2) (h0 2 (by decide))).1
  cases o with
  | none => unfold isJb at hi ⊢; simp only [e0]; exact hi
  | some J => exact ⟨by simp only [e0]; exact hi.1, hi.2.1.off e1, hi.2.2.off e2⟩
theorem s_Jb_isAt (ho : okJb j) (hi : isJb G j o) (hk : okJo o) {i : Nat} (h4 : i < 4) : f_Jb_isAt [.ref j, .int (nI i)] (hp G) = some (some (.int (b2 (atO o i))), hp G) := by
  rw [e_Jb_isAt j _ _ (ob_Jb G ho), gg_Jb_on _ ho, Option.bind_some]
  cases o with
  | none => rw [hi.1, if_pos rfl]; rfl
  | some J =>
    have := hk.1
    rw [hi.1.1, if_neg (by decide), gg_Jb_at _ ho, Option.bind_some, hi.1.2.2.1]
    by_cases h : jAt J = i
    · rw [if_pos (lq h)]; simp [h, b2, atO]
    · rw [if_neg (ln h (by omega) (by omega))]; simp [h, b2, atO]
theorem s_Jb_isRunning (ho : okJb j) (hi : isJb G j o) : f_Jb_isRunning [.ref j] (hp G) = some (some (.int (b2 (runO o))), hp G) := by
  rw [e_Jb_isRunning j _ (ob_Jb G ho), gg_Jb_on _ ho, Option.bind_some]
  cases o with
  | none => rw [hi.1, if_pos rfl]; rfl
  | some J =>
    rw [hi.1.1, if_neg (by decide), gg_Jb_down _ ho, Option.bind_some, hi.1.2.1]
    cases h : jDn J
    · rw [if_pos (by decide)]; simp [h, b2, runO]
    · rw [if_neg (by decide)]; simp [h, b2, runO]
theorem s_Jb_clear (ho : okJb j) : ∃ G', f_Jb_clear [.ref j] (hp G) = some (none, hp G') ∧ isJb G' j none ∧ eqOff (inR j (j + 1)) G G' := by
  rw [e_Jb_clear j _ (ob_Jb G ho)]
  simp only [ww_Jb_on _ ho, ww_Jb_down _ ho, ww_Jb_at _ ho, ww_Jb_way _ ho, ww_Jb_since _ ho, ww_Jb_gone _ ho, ww_Jb_records _ ho, ww_Jb_sides _ ho, Option.bind_some]
  refine ⟨_, rfl, ?_, ?_⟩
  · unfold isJb
    simp only [gsi_i, if_true]
    exact ⟨rfl, rfl, rfl, rfl, rfl, rfl, rfl, rfl⟩
  · have hj : inR j (j + 1) j := ⟨by omega, by omega⟩
    exact (((((((eqOff.gsi _ _ hj).tr (eqOff.gsi _ _ hj)).tr (eqOff.gsi _ _ hj)).tr (eqOff.gsi _ _ hj)).tr (eqOff.gsi _ _ hj)).tr (eqOff.gsi _ _ hj)).tr (eqOff.gsi _ _ hj)).tr (eqOff.gsi _ _ hj)
/-- one more on the side -/
def jLay (J : JB) (x : Int32) : JB := (jDn J, jAt J, jWy J, jSi J, jGo J, jRe J, jSd J ++ [x], jSt J)
theorem s_Jb_lay (ho : okJb j) (hi : isJb G j (some J)) (hl : (jSd J).length < 40) (x : Int32) : ∃ G', f_Jb_lay [.ref j, .int x] (hp G) = some (none, hp G') ∧ isJb G' j (some (jLay J x)) ∧ eqOff (inR j (j + 3)) G G' := by
  obtain ⟨⟨a3, a4, a5, a6, a7, a8, a9, a10⟩, hR, hS⟩ := hi
  have n1 : j ≠ j + 2 := by omega
  have n2 : j + 1 ≠ j := by omega
  have n3 : j + 1 ≠ j + 2 := by omega
  have n4 : j + 2 ≠ j := by omega
  rw [e_Jb_lay j _ _ (ob_Jb G ho), gg_Jb_sides _ ho, Option.bind_some, a10, if_pos (show nI (jSd J).length < (40 : Int32) from lp (n := 40) hl (by omega)), gg_Jb_side _ ho, Option.bind_some, Option.bind_some, uu_Jb_side _ ho hl, Option.bind_some, gg_Jb_sides _ ho, Option.bind_some, ww_Jb_sides _ ho, Option.bind_some, gsi_i, if_neg n1, a10, show nI (jSd J).length + 1 = nI ((jSd J).length + 1) from nI_add _ 1]
  refine ⟨_, rfl, ⟨?_, hR.off ?_, fun i hi => ?_⟩, ?_⟩
  · simp only [gsi_i, if_neg n1, if_true, upd_at, upd_ne _ _ (show (3 : Nat) ≠ 10 by decide), upd_ne _ _ (show (4 : Nat) ≠ 10 by decide), upd_ne _ _ (show (5 : Nat) ≠ 10 by decide), upd_ne _ _ (show (6 : Nat) ≠ 10 by decide), upd_ne _ _ (show (7 : Nat) ≠ 10 by decide), upd_ne _ _ (show (8 : Nat) ≠ 10 by decide), upd_ne _ _ (show (9 : Nat) ≠ 10 by decide)]
    refine ⟨a3, a4, a5, a6, a7, a8, a9, ?_⟩
    show _ = nI (jSd J ++ [x]).length
    simp
  · rw [gsi_i, if_neg n2, gsi_i, if_neg n3]
  · rw [gsi_i, if_neg n4, gsi_i, if_pos rfl, upd_if]
    have hi' : i < (jSd J ++ [x]).length := hi
    show _ = (jSd J ++ [x])[i]
    by_cases e : i = (jSd J).length
    · subst e
      rw [if_pos rfl, List.getElem_append_right (Nat.le_refl _)]
      simp
    · rw [if_neg e, List.getElem_append_left (by simp at hi'; omega)]
      exact hS i (by simp at hi'; omega)
  · exact (eqOff.gsi _ _ ⟨by omega, by omega⟩).tr (eqOff.gsi _ _ ⟨by omega, by omega⟩)
/-- a record written -/
def jRec (J : JB) (x : Int32) : JB := (jDn J, jAt J, jWy J, jSi J, jGo J, jRe J ++ [(jAt J, jGo J, x)], jSd J, jSt J)
theorem s_Jb_writeRecord (ho : okJb j) (hi : isJb G j (some J)) (hl : (jRe J).length < 120) (x : Int32) : ∃ G', f_Jb_writeRecord [.ref j, .int x] (hp G) = some (none, hp G') ∧ isJb G' j (some (jRec J x)) ∧ eqOff (inR j (j + 3)) G G' := by
  obtain ⟨⟨a3, a4, a5, a6, a7, a8, a9, a10⟩, hR, hS⟩ := hi
  have n1 : j ≠ j + 1 := by omega
  have n2 : j + 1 ≠ j := by omega
  have n3 : j + 2 ≠ j + 1 := by omega
  have n4 : j + 2 ≠ j := by omega
  generalize hn : (jRe J).length = n at *
  rw [e_Jb_writeRecord j _ _ (ob_Jb G ho), gg_Jb_records _ ho, Option.bind_some, a9, if_pos (show nI n < (120 : Int32) from lp (n := 120) hl (by omega))]
  simp (disch := omega) only [gg_Jb_record _ ho, gg_Jb_records _ ho, gg_Jb_at _ ho, gg_Jb_gone _ ho, Option.bind_some, a9, a5, a8, n_lit, n_mul, nI_add, uu_Jb_record _ ho, ww_Jb_records _ ho, gsi_i, if_neg n1]
  refine ⟨_, rfl, ⟨?_, fun i hi => ?_, hS.off ?_⟩, ?_⟩
  · simp only [gsi_i, if_neg n1, if_true, upd_at, upd_ne _ _ (show (3 : Nat) ≠ 9 by decide), upd_ne _ _ (show (4 : Nat) ≠ 9 by decide), upd_ne _ _ (show (5 : Nat) ≠ 9 by decide), upd_ne _ _ (show (6 : Nat) ≠ 9 by decide), upd_ne _ _ (show (7 : Nat) ≠ 9 by decide), upd_ne _ _ (show (8 : Nat) ≠ 9 by decide), upd_ne _ _ (show (10 : Nat) ≠ 9 by decide)]
    refine ⟨a3, a4, a5, a6, a7, a8, ?_, a10⟩
    show _ = nI (jRe J ++ [(jAt J, jGo J, x)]).length
    simp [hn]
  · have hi' : i < (jRe J ++ [(jAt J, jGo J, x)]).length := hi
    have hi2 : i < n + 1 := by simpa [hn] using hi'
    simp only [gsi_i, if_neg n2, if_true]
    show _ = nI (jRe J ++ [(jAt J, jGo J, x)])[i].1 ∧ _ = nI (jRe J ++ [(jAt J, jGo J, x)])[i].2.1 ∧ _ = (jRe J ++ [(jAt J, jGo J, x)])[i].2.2
    by_cases e : i = n
    · subst e
      have eg : (jRe J ++ [(jAt J, jGo J, x)])[i] = (jAt J, jGo J, x) := by
        rw [List.getElem_append_right (by omega)]
        simp
      rw [eg]
      refine ⟨?_, ?_, ?_⟩
      · rw [upd_ne _ _ (by omega), upd_ne _ _ (by omega), upd_at]
      · rw [upd_ne _ _ (by omega), upd_at]
      · rw [upd_at]
    · have hin : i < (jRe J).length := by omega
      rw [List.getElem_append_left hin]
      obtain ⟨r1, r2, r3⟩ := hR i hin
      refine ⟨?_, ?_, ?_⟩
      · rw [upd_ne _ _ (by omega), upd_ne _ _ (by omega), upd_ne _ _ (by omega)]; exact r1
      · rw [upd_ne _ _ (by omega), upd_ne _ _ (by omega), upd_ne _ _ (by omega)]; exact r2
      · rw [upd_ne _ _ (by omega), upd_ne _ _ (by omega), upd_ne _ _ (by omega)]; exact r3
  · simp only [gsi_i, if_neg n4, if_neg n3]
  · have h1 : inR j (j + 3) j := ⟨by omega, by omega⟩
    have h2 : inR j (j + 3) (j + 1) := ⟨by omega, by omega⟩
    exact (((eqOff.gsi _ _ h2).tr (eqOff.gsi _ _ h2)).tr (eqOff.gsi _ _ h2)).tr (eqOff.gsi _ _ h1)
theorem isLv.off {G G' : GG} {t page : Nat} {down : Bool} {L : LL} {W : Nat → Prop} (hi : isLv G t page down L) (hq : eqOff W G G') (h0 : ∀ i, i < 3 → ¬ W (t + i)) : isLv G' t page down L := by
  have e0 := (hq t (h0 0 (by decide))).1
  have e1 := (hq (t + 1) (h0 1 (by decide))).1
  have e2 := (hq (t + 2) (h0 2 (by decide))).1
  unfold isLv at hi ⊢
  simp only [e0, e1, e2]
  exact hi
theorem s_Jb_become {u pg : Nat} {dn : Bool} {L : LL} (ho : okJb j) (ho' : okJb u) (hl : okLv (j + 3)) (hl' : okLv (u + 3)) (hne : u + 6 ≤ j ∨ j + 6 ≤ u) (hi : isJb G u o) (hk : okJo o) (hst : isLv G (u + 3) pg dn L) (hkl : okL pg L) : ∃ G', f_Jb_become [.ref j, .ref u] (hp G) = some (none, hp G') ∧ isJb G' j o ∧ isLv G' (j + 3) pg dn L ∧ eqOff (inR j (j + 6)) G G' := by
  have c1 := fun G1 : GG => hp_cp (G := G1) ho'.2.1 ho.2.1 (Nat.le_refl 360) (Nat.le_refl 360) (by decide)
  have c2 := fun G1 : GG => hp_cp (G := G1) ho'.2.2 ho.2.2 (Nat.le_refl 40) (Nat.le_refl 40) (by decide)
  rw [e_Jb_become j _ _ (ob_Jb G ho), gg_Jb_record _ ho, gg_Jb_record _ ho', Option.bind_some, Option.bind_some, show mm_cp (hp G) (u + 1) 0 (j + 1) 0 360 = _ from c1 G, Option.bind_some, gg_Jb_side _ ho, gg_Jb_side _ ho', Option.bind_some, Option.bind_some]
  generalize hG1 : gsa G (j + 1) (fun k => if k < 360 then G.1 (u + 1) k else G.1 (j + 1) k) = G1
  rw [show mm_cp (hp G1) (u + 2) 0 (j + 2) 0 40 = _ from c2 _, Option.bind_some]
  generalize hG2 : gsa G1 (j + 2) (fun k => if k < 40 then G1.1 (u + 2) k else G1.1 (j + 2) k) = G2
  have q1 : eqOff (inR j (j + 6)) G G1 := by subst hG1; exact eqOff.gsa _ ⟨by omega, by omega⟩
  have q2 : eqOff (inR j (j + 6)) G G2 := by subst hG2; exact q1.tr (eqOff.gsa _ ⟨by omega, by omega⟩)
  have nin : ∀ i, i < 6 → ¬ inR j (j + 6) (u + i) := fun i hi h => by unfold inR at h; omega
  obtain ⟨G3, b1, b2', b3⟩ := s_Lv_become (t := j + 3) (u := u + 3) hl hl' (by omega) (hst.off q2 (fun i hi => by have := nin (3 + i) (by omega); rwa [← Nat.add_assoc] at this)) hkl
  rw [gg_Jb_stand _ ho, gg_Jb_stand _ ho', Option.bind_some, Option.bind_some, b1, cv_some]
  have q3 : eqOff (inR j (j + 6)) G G3 := q2.tr (b3.mono (fun n h => by unfold inR at h ⊢; omega))
  have eu : G3.1 u = G.1 u := (q3 u (nin 0 (by omega))).1
  have f3 : G.1 u 3 = 0 ∨ G.1 u 3 = 1 := by
    cases o with
    | none => exact Or.inl hi.1
    | some J => exact Or.inr hi.1.1
  have f4 : G.1 u 4 = 0 ∨ G.1 u 4 = 1 := by
    cases o with
    | none => exact Or.inl hi.2.1
    | some J => rw [hi.1.2.1]; exact b2_01 _
  have nu : u ≠ j := by omega
  rw [gg_Jb_on _ ho', Option.bind_some, eu, if_pos f3, ww_Jb_on _ ho, Option.bind_some, gg_Jb_down _ ho', Option.bind_some, gsi_i, if_neg nu, eu, if_pos f4]
  simp only [gg_Jb_at _ ho', gg_Jb_way _ ho', gg_Jb_since _ ho', gg_Jb_gone _ ho', gg_Jb_records _ ho', gg_Jb_sides _ ho', ww_Jb_down _ ho, ww_Jb_at _ ho, ww_Jb_way _ ho, ww_Jb_since _ ho, ww_Jb_gone _ ho, ww_Jb_records _ ho, ww_Jb_sides _ ho, Option.bind_some, gsi_i, if_neg nu, eu]
  have hj : inR j (j + 1) j := ⟨by omega, by omega⟩
  have q4 : ∀ (x3 x4 x5 x6 x7 x8 x9 x10 : Int32), eqOff (inR j (j + 1)) G3 (gsi (gsi (gsi (gsi (gsi (gsi (gsi (gsi G3 j 3 x3) j 4 x4) j 5 x5) j 6 x6) j 7 x7) j 8 x8) j 9 x9) j 10 x10) := fun _ _ _ _ _ _ _ _ => (((((((eqOff.gsi _ _ hj).tr (eqOff.gsi _ _ hj)).tr (eqOff.gsi _ _ hj)).tr (eqOff.gsi _ _ hj)).tr (eqOff.gsi _ _ hj)).tr (eqOff.gsi _ _ hj)).tr (eqOff.gsi _ _ hj)).tr (eqOff.gsi _ _ hj)
  refine ⟨_, rfl, ?_, b2'.off (q4 _ _ _ _ _ _ _ _) (fun i hi h => by unfold inR at h; omega), q3.tr ((q4 _ _ _ _ _ _ _ _).mono (fun n h => by unfold inR at h ⊢; omega))⟩
  have n1 : j + 1 ≠ j := by omega
  have n2 : j + 2 ≠ j := by omega
  have hf : ∀ (x3 x4 x5 x6 x7 x8 x9 x10 : Int32), (∀ k, (gsi (gsi (gsi (gsi (gsi (gsi (gsi (gsi G3 j 3 x3) j 4 x4) j 5 x5) j 6 x6) j 7 x7) j 8 x8) j 9 x9) j 10 x10).1 j k = upd (upd (upd (upd (upd (upd (upd (upd (G3.1 j) 3 x3) 4 x4) 5 x5) 6 x6) 7 x7) 8 x8) 9 x9) 10 x10 k) := fun _ _ _ _ _ _ _ _ k => by simp only [gsi_i, if_true]
  cases o with
  | none =>
    unfold isJb at hi ⊢
    simp only [hf]
    exact hi
  | some J =>
    obtain ⟨hk1, hk2, hk3, -⟩ := hk
    unfold isJb at hi ⊢
    refine ⟨?_, ?_, ?_⟩
    · simp only [hf]
      exact hi.1
    · refine isRe.off (G := G3) ?_ (by simp only [gsi_i, if_neg n1])
      have e1 : G3.1 (j + 1) = G1.1 (j + 1) := by
        rw [(b3 (j + 1) (fun h => by unfold inR at h; omega)).1, ← hG2, gsa_i, if_neg (by omega)]
      intro i hl2
      rw [e1, ← hG1, gsa_i, if_pos rfl]
      rw [if_pos (by omega), if_pos (by omega), if_pos (by omega)]
      exact hi.2.1 i hl2
    · refine isSd.off (G := G3) ?_ (by simp only [gsi_i, if_neg n2])
      have e2 : G3.1 (j + 2) = G2.1 (j + 2) := (b3 (j + 2) (fun h => by unfold inR at h; omega)).1
      intro i hl2
      rw [e2, ← hG2, gsa_i, if_pos rfl]
      rw [if_pos (by omega), (q1 (u + 2) (nin 2 (by omega))).1]
      exact hi.2.2 i hl2
end JBS
