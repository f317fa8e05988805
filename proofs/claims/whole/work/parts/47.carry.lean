/-! STATE (the class): what is laid aside is carried out -/
/-- the number on the side, without its sign -/
def sdI (x : Int32) : Int32 := if x < 0 then x + 40000 else x
def sdN (x : Int32) : Nat := (sdI x).toNatClampNeg
def okSd (x : Int32) : Prop := sdI x = nI (sdN x) ∧ sdN x < 30000
def sdC (P : PP) (i : Nat) (x : Int32) : Nat := codD (dnP P i) (sdN x % 1000) (sdN x / 1000)
def carL (P : PP) (i : Nat) (L : LL) (x : Int32) : LL := if x < 0 then takL (sdC P i x) L else putL (pPg P) (sdC P i x) L
def carS (P : PP) (i : Nat) (a : LL × Int32) (x : Int32) : LL × Int32 := (carL P i a.1 x, a.2 + (nI (hg (pPg P) a.1.length) + 2))
/-- what is laid aside can be carried out -/
def repl (P : PP) (i : Nat) : LL → List Int32 → Prop
  | _, [] => True
  | L, x :: r => okSd x ∧ (¬ x < 0 → sdN x / 1000 ∉ L.flatten.map (· % 32)) ∧ repl P i (carL P i L x) r
def jNoSd (J : JB) : JB := (jDn J, jAt J, jWy J, jSi J, jGo J, jRe J, [], jSt J)
def carT (P : PP) (A : AS) (i : Nat) (a : LL × Int32) : AS := setX (setL A i a.1) a.2
def carA (P : PP) (A : AS) (J : JB) : AS := setJ (if jAt J < pNi P then carT P A (jAt J) ((jSd J).foldl (carS P (jAt J)) (aL A (jAt J), aX A)) else A) (some (jNoSd J))
section CAR
variable {G : GG} {s p : Nat} {P : PP} {A : AS}
theorem setL_self (A : AS) (i : Nat) : setX (setL A i (aL A i)) (aX A) = A := by
  have : (fun j => if j = i then aL A i else aL A j) = aL A := by
    funext j
    by_cases e : j = i
    · rw [if_pos e, e]
    · rw [if_neg e]
  unfold setL setX
  rw [this]
  rfl
theorem s_noSd (H : SS G s p P A) {J : JB} (hJ : aJ A = some J) : ∃ G', (mm_pf 1 10 (.int 0) (hp G) (s + 8)).bind (fun h10 => (some (none, h10) : Option (Option Value × mm_H))) = some (none, hp G') ∧ SS G' s p P (setJ A (some (jNoSd J))) ∧ eqOff (stR s) G G' := by
  have hj := H.jb
  have hk := H.kj
  rw [hJ] at hj hk
  rw [ww_Jb_sides _ H.1.1.jb, Option.bind_some]
  have hj1 : isJb (gsi G (s + 8) 10 0) (s + 8) (some (jNoSd J)) := by
    obtain ⟨⟨a3, a4, a5, a6, a7, a8, a9, a10⟩, -⟩ := id hj
    exact jb_set hj _ ⟨a3, a4, a5, a6, a7, a8, a9, rfl⟩ rfl (fun i hi => absurd hi (by show ¬ i < 0; omega))
  have hk1 : okJo (some (jNoSd J)) := by
    obtain ⟨k1, k2, k3, k4⟩ := hk
    exact ⟨k1, k2, Nat.zero_le _, k4⟩
  exact ⟨_, rfl, H.job (eqOff.gsi _ _ ⟨by omega, by omega⟩) hj1 hk1 (fun J' e _ => ⟨J, hJ, by rw [← Option.some.inj e]; exact ⟨rfl, rfl⟩⟩), eqOff.gsi _ _ ⟨⟨by omega, by omega⟩, by omega, by omega⟩⟩
theorem s_St_carryOut (H : SS G s p P A) {J : JB} (hJ : aJ A = some J) (hrep : jAt J < pNi P → repl P (jAt J) (aL A (jAt J)) (jSd J)) : ∃ G', f_St_carryOut [.ref s] (hp G) = some (none, hp G') ∧ SS G' s p P (carA P A J) ∧ eqOff (stR s) G G' := by
  have hn := H.ni
  have hj := H.jb
  have hk := H.kj
  have hoj := H.1.1.jb
  rw [hJ] at hj hk
  have h4 : jAt J ≤ 4 := hk.1
  have h40 : (jSd J).length ≤ 40 := hk.2.2.1
  rw [e_St_carryOut s _ (ob_St G H.os), gg_St_job _ H.os, Option.bind_some, gg_Jb_at _ hoj, Option.bind_some, H.gp, Option.bind_some, H.gn, Option.bind_some, hj.1.2.2.1]
  unfold carA
  by_cases hi : jAt J < pNi P
  · rw [if_pos (lp hi (by omega)), if_pos hi, gg_St_trees _ H.os, Option.bind_some, Option.bind_some, gg_Jb_at _ hoj, Option.bind_some, hj.1.2.2.1, H.gt hi, Option.bind_some]
    have key : ∀ (xs : List Int32) (k f : Nat) (G1 : GG) (a : LL × Int32), (jSd J).drop k = xs → k ≤ (jSd J).length → 2 * xs.length < f → SS G1 s p P (carT P A (jAt J) a) → repl P (jAt J) a.1 xs → eqOff (stR s) G G1 → ∃ G', mm_run p_St_carryOut f 32 [.ref s, .ref (s + 16 + 3 * jAt J), .int (nI k)] [] (hp G1) = some (none, hp G') ∧ SS G' s p P (setJ (carT P A (jAt J) (xs.foldl (carS P (jAt J)) a)) (some (jNoSd J))) ∧ eqOff (stR s) G G' := by
      intro xs
      induction xs with
      | nil =>
        intro k f G1 a hd hkl hf H1 _ q1
        obtain ⟨f, rfl⟩ : ∃ g, f = g + 1 := ⟨f - 1, by simp at hf; omega⟩
        have hk2 : k = (jSd J).length := by
          have := congrArg List.length hd
          rw [List.length_drop] at this
          simp at this
          omega
        have hj1 := H1.jb
        have hJ1 : aJ (carT P A (jAt J) a) = some J := hJ
        rw [hJ1] at hj1
        rw [e_St_carryOut_32, gg_St_job _ H.os, Option.bind_some, gg_Jb_sides _ hoj, Option.bind_some, hj1.1.2.2.2.2.2.2.2, if_neg (lm (by omega) (by omega)), Option.bind_some]
        obtain ⟨G', r1, r2, r3⟩ := s_noSd H1 hJ1
        exact ⟨G', r1, r2, q1.tr r3⟩
      | cons x xs ih =>
        intro k f G1 a hd hkl hf H1 hre q1
        simp only [List.length_cons] at hf
        obtain ⟨f, rfl⟩ : ∃ g, f = g + 2 := ⟨f - 2, by omega⟩
        have hk2 : k < (jSd J).length := by
          have := congrArg List.length hd
          rw [List.length_drop] at this
          simp at this
          omega
        have hd2 := drop_cons hk2
        rw [hd] at hd2
        have hx : (jSd J)[k] = x := (List.cons.inj hd2).1.symm
        have hxs : (jSd J).drop (k + 1) = xs := (List.cons.inj hd2).2.symm
        have hJ1 : aJ (carT P A (jAt J) a) = some J := hJ
        have hj1 := H1.jb
        rw [hJ1] at hj1
        obtain ⟨⟨ho1, ho2⟩, hno, hre2⟩ := hre
        have eL : aL (carT P A (jAt J) a) (jAt J) = a.1 := if_pos rfl
        have hT := H1.tr hi
        have hK := H1.kl hi
        rw [eL] at hT hK
        have hv : sdN x % 1000 ≤ 999 := by omega
        have hr : sdN x / 1000 < 30 := by omega
        have hc := codD_lt (dn := dnP P (jAt J)) hv hr
        have hcode := s_Lv_code (H1.ol hi) hT (r := sdN x / 1000) hv
        have hh := s_Lv_height (H1.ol hi) hT H1.2.1.2.1 hK.len
        have e1 : mm_rem (sdI x) 1000 = nI (sdN x % 1000) := by rw [ho1]; exact n_rem (b := 1000) (by omega) (by omega) (by omega)
        have e2 : sdI x / 1000 = nI (sdN x / 1000) := by rw [ho1]; exact n_div (b := 1000) (by omega) (by omega) (by omega)
        have eX : G1.1 s 8 = a.2 := H1.sp
        have H2 : SS (gsi G1 s 8 (a.2 + (nI (hg (pPg P) a.1.length) + 2))) s p P (setX (carT P A (jAt J) a) (a.2 + (nI (hg (pPg P) a.1.length) + 2))) := H1.spent _
        have hT2 := H2.tr hi
        have q2 : eqOff (stR s) G1 (gsi G1 s 8 (a.2 + (nI (hg (pPg P) a.1.length) + 2))) := eqOff.gsi _ _ ⟨⟨by omega, by omega⟩, by omega, by omega⟩
        have fin : ∀ (G3 : GG) (L' : LL), L' = carL P (jAt J) a.1 x → isLv G3 (s + 16 + 3 * jAt J) (pPg P) (dnP P (jAt J)) L' → okL (pPg P) L' → eqOff (inR (s + 16 + 3 * jAt J) (s + 16 + 3 * jAt J + 3)) (gsi G1 s 8 (a.2 + (nI (hg (pPg P) a.1.length) + 2))) G3 → ∃ G', mm_run p_St_carryOut f 32 [.ref s, .ref (s + 16 + 3 * jAt J), .int (nI k + 1)] [] (hp G3) = some (none, hp G') ∧ SS G' s p P (setJ (carT P A (jAt J) ((x :: xs).foldl (carS P (jAt J)) a)) (some (jNoSd J))) ∧ eqOff (stR s) G G' := by
          intro G3 L' eL' t1 t2 t3
          have H3 := H2.tree hi t3 t1 t2
          have e3 : setL (setX (carT P A (jAt J) a) (a.2 + (nI (hg (pPg P) a.1.length) + 2))) (jAt J) L' = carT P A (jAt J) (carS P (jAt J) a x) := by
            subst eL'
            unfold carT carS setL setX aL
            simp only
            congr 3
            funext j
            by_cases e : j = jAt J
            · rw [if_pos e, if_pos e]
            · rw [if_neg e, if_neg e, if_neg e]
          rw [e3] at H3
          rw [show nI k + 1 = nI (k + 1) from nI_add k 1, List.foldl_cons]
          exact ih (k + 1) f G3 (carS P (jAt J) a x) hxs (by omega) (by omega) H3 hre2 ((q1.tr q2).tr (t3.mono (fun n h => by unfold inR at h; unfold stR; omega)))
        rw [e_St_carryOut_32, gg_St_job _ H.os, Option.bind_some, gg_Jb_sides _ hoj, Option.bind_some, hj1.1.2.2.2.2.2.2.2, if_pos (lp hk2 (by omega)), Option.bind_some, gg_Jb_side _ hoj, Option.bind_some, rr_Jb_side _ hoj (by omega), Option.bind_some, hj1.2.2 k hk2, hx]
        by_cases hneg : x < 0
        · have es : x + 40000 = sdI x := by unfold sdI; rw [if_pos hneg]
          rw [if_pos hneg, e_St_carryOut_62, if_neg (by decide), es, e1, e2, hcode, ci_some, gg_St_spent _ H.os, Option.bind_some, eX, hh, ci_some, ww_St_spent _ H.os, Option.bind_some, if_neg (by decide)]
          obtain ⟨G3, t1, t2, t3⟩ := s_Lv_take (H2.ol hi) hT2 (H2.kl hi) (c := sdC P (jAt J) x) (by unfold sdC; omega)
          rw [show f_Lv_take [.ref (s + 16 + 3 * jAt J), .int (nI ((if dnP P (jAt J) = true then 999 - sdN x % 1000 else sdN x % 1000) * 32 + sdN x / 1000))] (hp (gsi G1 s 8 (a.2 + (nI (hg (pPg P) a.1.length) + 2)))) = _ from t1, cv_some]
          have eL2 : aL (setX (carT P A (jAt J) a) (a.2 + (nI (hg (pPg P) a.1.length) + 2))) (jAt J) = a.1 := if_pos rfl
          rw [eL2] at t2
          exact fin G3 _ (by unfold carL; rw [if_pos hneg]) t2 (tak_ok hK) t3
        · have es : x = sdI x := by unfold sdI; rw [if_neg hneg]
          rw [if_neg hneg, e_St_carryOut_62, if_pos rfl]
          rw [show mm_rem x 1000 = nI (sdN x % 1000) by rw [← e1, ← es], show x / 1000 = nI (sdN x / 1000) by rw [← e2, ← es]]
          rw [hcode, ci_some, gg_St_spent _ H.os, Option.bind_some, eX, hh, ci_some, ww_St_spent _ H.os, Option.bind_some, if_pos rfl]
          have hno' := hno hneg
          have hlen := rows_lt hK hr hno'
          have eL2 : aL (setX (carT P A (jAt J) a) (a.2 + (nI (hg (pPg P) a.1.length) + 2))) (jAt J) = a.1 := if_pos rfl
          rw [eL2] at hT2
          obtain ⟨G3, t1, t2, t3⟩ := s_Lv_put (H2.ol hi) hT2 hK hlen (c := sdC P (jAt J) x) hc.1 (fun q => hno' (List.mem_map.mpr ⟨_, q, hc.2⟩))
          rw [show f_Lv_put [.ref (s + 16 + 3 * jAt J), .int (nI ((if dnP P (jAt J) = true then 999 - sdN x % 1000 else sdN x % 1000) * 32 + sdN x / 1000))] (hp (gsi G1 s 8 (a.2 + (nI (hg (pPg P) a.1.length) + 2)))) = _ from t1, cv_some]
          exact fin G3 _ (by unfold carL; rw [if_neg hneg]) t2 (put_ok hK hlen hc.1 (by unfold sdC; rw [hc.2]; exact hr) (by unfold sdC; rw [hc.2]; exact hno')) t3
    exact key (jSd J) 0 mm_fu G (aL A (jAt J), aX A) rfl (Nat.zero_le _) (fu_lt (by omega)) (by unfold carT; rw [setL_self]; exact H) (hrep hi) eqOff.rf
  · rw [if_neg (lm (by omega) (by omega)), if_neg hi, Option.bind_some]
    exact s_noSd H hJ
end CAR
