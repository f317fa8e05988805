/-! THE REFERENCE: a STATE changed -/
theorem isMf.cong {f f' : Nat → Int32} {s : Nat} {m : List Nat} (h : isMf f s m) (h30 : m.length ≤ 30) (e : ∀ k, s ≤ k → k < s + 31 → f' k = f k) : isMf f' s m := ⟨by rw [e s (Nat.le_refl _) (by omega)]; exact h.1, fun k hk => by show f' (s + 1 + k) = _; rw [e (s + 1 + k) (by omega) (by omega)]; exact h.2 k hk⟩
theorem isMW.off {G G' : GG} {w : Nat} {W : List Lim} (h : isMW G w W) (e : G'.1 625 = G.1 625) : isMW G' w W := by
  unfold isMW isML at h ⊢
  rw [e]
  exact h
theorem isMP.off {G G' : GG} {P : PP} (h : isMP G P) (e1 : G'.1 624 = G.1 624) (e2 : G'.1 625 = G.1 625) (e3 : G'.1 618 16 = G.1 618 16) : isMP G' P := by
  obtain ⟨⟨a, b, c⟩, d, e, f⟩ := h
  refine ⟨⟨by rw [e1]; exact a, by rw [e1]; exact b, by rw [e3]; exact c⟩, fun i hi => by rw [e1]; exact d i hi, e.off e2, f.off e2⟩
theorem isMP.fr {S : Nat → Prop} {G G' : GG} {P : PP} (h : isMP G P) (hF : mdF S G G') : isMP G' P := h.off (hF.1 624 (by decide) (by decide)) (hF.1 625 (by decide) (by decide)) (hF.2.2.1 16 (by decide) (by decide))
theorem sd_app {f : Nat → Int32} {l : List Int32} {x : Int32} {b : Nat} (h : ∀ k (h : k < l.length), f (b + k) = l[k]) (hx : f (b + l.length) = x) : ∀ k (h : k < (l ++ [x]).length), f (b + k) = (l ++ [x])[k] := fun k hk => by
  have hk' := hk
  rw [List.length_append] at hk'
  simp only [List.length_cons, List.length_nil] at hk'
  by_cases e : k = l.length
  · subst e
    rw [hx]
    simp
  · rw [List.getElem_append_left (by omega)]
    exact h k (by omega)
section MDU
variable {G G' : GG} {f f' : Nat → Int32} {b : Nat} {P : PP} {A : AS}
/-- the stand is as long as it may be -/
theorem INV.st (h : INV P A) {J : JB} (hJ : aJ A = some J) (ha : jAt J < pNi P) : okL (pPg P) (jSt J) := ((h.2.2.2.2 J hJ).2.1 ha).2.2.1.1
theorem isMJ.off {A' : AS} {o : Option JB} (h : isMJ f b P A o) (hk : okJo o) (hst : ∀ J, o = some J → jAt J < pNi P → okL (pPg P) (jSt J)) (hA : A'.2.1 = A.2.1) (hn : aN A ≤ 12) (e1 : ∀ k, 5 ≤ k → k ≤ 12 → f' (b + k) = f (b + k)) (e2 : ∀ k, 67 ≤ k → k < 359 → f' (b + k) = f (b + k)) (e3 : ∀ k, 483 ≤ k → k < 514 → f' (b + k) = f (b + k)) : isMJ f' b P A' o := by
  cases o with
  | none => exact ⟨by rw [e1 5 (by omega) (by omega)]; exact h.1, by rw [e1 12 (by omega) (by omega)]; exact h.2⟩
  | some J =>
    obtain ⟨⟨c5, c6, c7, c8, c9, c10, c11, c12⟩, s, r, t, w⟩ := h
    obtain ⟨-, k2, k3, -⟩ := hk
    refine ⟨⟨by rw [e1 5 (by omega) (by omega)]; exact c5, by rw [e1 6 (by omega) (by omega)]; exact c6, by rw [e1 7 (by omega) (by omega)]; exact c7, by rw [e1 8 (by omega) (by omega)]; exact c8, by rw [e1 9 (by omega) (by omega)]; exact c9, by rw [e1 10 (by omega) (by omega)]; exact c10, by rw [e1 11 (by omega) (by omega)]; exact c11, by rw [e1 12 (by omega) (by omega)]; exact c12⟩, fun k hk => ?_, fun k hk => ?_, fun ha => ?_, fun p hp1 => ?_⟩
    · rw [Nat.add_assoc, e2 (79 + k) (by omega) (by omega), ← Nat.add_assoc]; exact s k hk
    · have := r k hk
      rw [show b + 119 + 2 * k = b + (119 + 2 * k) by omega] at this ⊢
      rw [show b + (119 + 2 * k) + 1 = b + (119 + 2 * k + 1) by omega] at this ⊢
      rw [e2 (119 + 2 * k) (by omega) (by omega), e2 (119 + 2 * k + 1) (by omega) (by omega)]
      exact this
    · refine (t ha).cong (by rw [fl_len]; exact (hst J rfl ha).2.1) (fun k k1 k2 => ?_)
      have := e3 (k - b) (by omega) (by omega)
      rwa [show b + (k - b) = k by omega] at this
    · have hp2 : p < aN A := by unfold aN at hp1 ⊢; rw [← hA]; exact hp1
      have := w p hp2
      unfold aS aT aB at this ⊢
      rw [hA, Nat.add_assoc, e2 (67 + p) (by omega) (by omega), ← Nat.add_assoc]
      exact this
theorem ms_tree (h : ∀ i, i < pNi P → isMf f (b + 359 + 31 * i) (fl (aL A i))) (hk : ∀ i, i < pNi P → okL (pPg P) (aL A i)) {i : Nat} (hi : i < pNi P) (e : ∀ k, b + 359 + 31 * i ≤ k → k < b + 359 + 31 * i + 31 → f' k = f k) : isMf f' (b + 359 + 31 * i) (fl (aL A i)) := (h i hi).cong (by rw [fl_len]; exact (hk i hi).2.1) e
/-- a tree and what is spent -/
theorem MS.treeU (H : MS G b P A) (h : okS P A) {i : Nat} (hi : i < pNi P) {L : LL} {x : Int32} (hF : mdF (fun k => k = b + 3 ∨ trR (b + 359 + 31 * i) k) G G') (hx : G'.1 628 (b + 3) = x) (hM : isM G' (b + 359 + 31 * i) (fl L)) : MS G' b P (setX (setL A i L) x) := by
  have hn := h.ni
  have hr := h.kr.1
  have hp12 := h.kp.1
  have e : ∀ k, k ≠ b + 3 → (k < b + 359 + 31 * i ∨ b + 359 + 31 * i + 31 ≤ k) → G'.1 628 k = G.1 628 k := fun k k1 k2 => hF.2.2.2 k (fun q => by unfold trR at q; omega)
  refine ⟨⟨H.hb, H.hP.fr hF⟩, ⟨by rw [e b (by omega) (by omega)]; exact H.d, by rw [e (b + 1) (by omega) (by omega)]; exact H.c, by rw [e (b + 2) (by omega) (by omega)]; exact H.m, hx⟩, fun r hr2 => ?_, ⟨by rw [e (b + 4) (by omega) (by omega)]; exact H.pt.1, fun p hp1 => ?_⟩, fun j hj => ?_, ?_⟩
  · have : r < aM A := hr2
    rw [e (b + 13 + r) (by omega) (by omega)]; exact H.v r this
  · have : p < aN A := hp1
    rw [e (b + 43 + p) (by omega) (by omega), e (b + 55 + p) (by omega) (by omega)]; exact H.pt.2 p this
  · show isMf _ _ (fl (if j = i then L else aL A j))
    by_cases ej : j = i
    · rw [if_pos ej, ej]; exact hM
    · rw [if_neg ej]
      exact ms_tree H.2.2.2.2.1 (fun i hi => h.kl hi) hj (fun k k1 k2 => e k (by omega) (by omega))
  · exact H.j.off (A' := setX (setL A i L) x) h.ka.2.2.2 (fun J hJ ha => h.st hJ ha) rfl hp12 (fun k k1 k2 => e _ (by omega) (by omega)) (fun k k1 k2 => e _ (by omega) (by omega)) (fun k k1 k2 => e _ (by omega) (by omega))
/-- the JOB and what is spent -/
theorem MS.jobU (H : MS G b P A) (h : okS P A) {o : Option JB} {x : Int32} (hF : mdF (fun k => k = b + 3 ∨ (b + 5 ≤ k ∧ k ≤ b + 12) ∨ (b + 79 ≤ k ∧ k < b + 359) ∨ (b + 483 ≤ k ∧ k < b + 514)) G G') (hx : G'.1 628 (b + 3) = x) (hJ : isMJ (G'.1 628) b P A o) : MS G' b P (setX (setJ A o) x) := by
  have hn := h.ni
  have hr := h.kr.1
  have hp12 := h.kp.1
  have e : ∀ k, k ≠ b + 3 → ¬ (b + 5 ≤ k ∧ k ≤ b + 12) → ¬ (b + 79 ≤ k ∧ k < b + 359) → ¬ (b + 483 ≤ k ∧ k < b + 514) → G'.1 628 k = G.1 628 k := fun k k1 k2 k3 k4 => hF.2.2.2 k (fun q => by omega)
  refine ⟨⟨H.hb, H.hP.fr hF⟩, ⟨by rw [e b (by omega) (by omega) (by omega) (by omega)]; exact H.d, by rw [e (b + 1) (by omega) (by omega) (by omega) (by omega)]; exact H.c, by rw [e (b + 2) (by omega) (by omega) (by omega) (by omega)]; exact H.m, hx⟩, fun r hr2 => ?_, ⟨by rw [e (b + 4) (by omega) (by omega) (by omega) (by omega)]; exact H.pt.1, fun p hp1 => ?_⟩, fun j hj => ?_, hJ⟩
  · have : r < aM A := hr2
    rw [e (b + 13 + r) (by omega) (by omega) (by omega) (by omega)]; exact H.v r this
  · have : p < aN A := hp1
    rw [e (b + 43 + p) (by omega) (by omega) (by omega) (by omega), e (b + 55 + p) (by omega) (by omega) (by omega) (by omega)]; exact H.pt.2 p this
  · exact ms_tree H.2.2.2.2.1 (fun i hi => h.kl hi) hj (fun k k1 k2 => e k (by omega) (by omega) (by omega) (by omega))
abbrev mB (b : Nat) : Nat → Prop := fun k => b ≤ k ∧ k < b + 514
theorem MS.spentU (H : MS G b P A) (h : okS P A) (x : Int32) : MS (gsi G 628 (b + 3) x) b P (setX A x) := by
  have := H.jobU h (o := aJ A) (x := x) (G' := gsi G 628 (b + 3) x) (mdF.cell (Or.inl rfl)) (by rw [gsi_i, if_pos rfl, upd_at]) (H.j.off h.ka.2.2.2 (fun J hJ ha => h.st hJ ha) rfl h.kp.1 (fun k k1 k2 => ?_) (fun k k1 k2 => ?_) (fun k k1 k2 => ?_))
  · exact this
  · rw [gsi_i, if_pos rfl, upd_ne _ _ (by omega)]
  · rw [gsi_i, if_pos rfl, upd_ne _ _ (by omega)]
  · rw [gsi_i, if_pos rfl, upd_ne _ _ (by omega)]
/-- one more on the side -/
theorem m_lays (H : MS G b P A) (h : okS P A) {J : JB} (hJ : aJ A = some J) (hl : (jSd J).length < 40) (x : Int32) : ∃ G', f_Md_lays [.ref 618, .int (nI b), .int x] (hp G) = some (none, hp G') ∧ MS G' b P (layA A x) ∧ mdF (mB b) G G' := by
  have hb := H.hb
  have hj := H.j
  rw [hJ] at hj
  obtain ⟨⟨c5, c6, c7, c8, c9, c10, c11, c12⟩, s, r, t, w⟩ := hj
  rw [e_Md_lays 618 _ _ _ (ob_Md G), gg_Md_state, Option.bind_some, Option.bind_some, show mm_li (hp G) 628 (nI b + 12) = _ from rd hb 12 (by omega), Option.bind_some, c12, show mm_si (hp G) 628 ((nI b + 79) + nI (jSd J).length) x = _ from wr2 hb 79 (jSd J).length (by omega) x, Option.bind_some, gg_Md_state, Option.bind_some, show mm_li (hp (gsi G 628 (b + 79 + (jSd J).length) x)) 628 (nI b + 12) = _ from rd hb 12 (by omega), Option.bind_some]
  have e12 : (gsi G 628 (b + 79 + (jSd J).length) x).1 628 (b + 12) = nI (jSd J).length := by rw [gsi_i, if_pos rfl, upd_ne _ _ (by omega)]; exact c12
  rw [e12, show nI (jSd J).length + 1 = nI ((jSd J).length + 1) from nI_add _ 1, show mm_si (hp (gsi G 628 (b + 79 + (jSd J).length) x)) 628 (nI b + 12) (nI ((jSd J).length + 1)) = _ from wr hb 12 (by omega) _, Option.bind_some, gg_Md_state, Option.bind_some]
  generalize hG2 : gsi (gsi G 628 (b + 79 + (jSd J).length) x) 628 (b + 12) (nI ((jSd J).length + 1)) = G2
  have ev : G2.1 628 = upd (upd (G.1 628) (b + 79 + (jSd J).length) x) (b + 12) (nI ((jSd J).length + 1)) := by rw [← hG2]; rfl
  have hF2 : mdF (fun k => k = b + 3 ∨ (b + 5 ≤ k ∧ k ≤ b + 12) ∨ (b + 79 ≤ k ∧ k < b + 359) ∨ (b + 483 ≤ k ∧ k < b + 514)) G G2 := by
    rw [← hG2]
    exact (mdF.cell (Or.inr (Or.inr (Or.inl ⟨by omega, by omega⟩)))).tr (mdF.cell (Or.inr (Or.inl ⟨by omega, by omega⟩)))
  have e3 : G2.1 628 (b + 3) = aX A := by rw [ev, upd_ne _ _ (by omega), upd_ne _ _ (by omega)]; exact H.x
  rw [show mm_li (hp G2) 628 (nI b + 3) = _ from rd hb 3 (by omega), Option.bind_some, e3, show mm_si (hp G2) 628 (nI b + 3) (aX A + 1) = _ from wr hb 3 (by omega) _, Option.bind_some]
  generalize hG3 : gsi G2 628 (b + 3) (aX A + 1) = G3
  have ev3 : G3.1 628 = upd (upd (upd (G.1 628) (b + 79 + (jSd J).length) x) (b + 12) (nI ((jSd J).length + 1))) (b + 3) (aX A + 1) := by rw [← hG3, ← ev]; rfl
  have hF3 : mdF (fun k => k = b + 3 ∨ (b + 5 ≤ k ∧ k ≤ b + 12) ∨ (b + 79 ≤ k ∧ k < b + 359) ∨ (b + 483 ≤ k ∧ k < b + 514)) G G3 := by
    rw [← hG3]
    exact hF2.tr (mdF.cell (Or.inl rfl))
  have ec : ∀ k, k ≠ b + 3 → k ≠ b + 12 → k ≠ b + 79 + (jSd J).length → G3.1 628 k = G.1 628 k := fun k k1 k2 k3 => by rw [ev3, upd_ne _ _ k1, upd_ne _ _ k2, upd_ne _ _ k3]
  have hk := h.ka.2.2.2
  rw [hJ] at hk
  obtain ⟨-, q2, q3, -⟩ := hk
  have hMJ : isMJ (G3.1 628) b P A (some (jLay J x)) := by
    refine ⟨⟨by rw [ec _ (by omega) (by omega) (by omega)]; exact c5, by rw [ec _ (by omega) (by omega) (by omega)]; exact c6, by rw [ec _ (by omega) (by omega) (by omega)]; exact c7, by rw [ec _ (by omega) (by omega) (by omega)]; exact c8, by rw [ec _ (by omega) (by omega) (by omega)]; exact c9, by rw [ec _ (by omega) (by omega) (by omega)]; exact c10, by rw [ec _ (by omega) (by omega) (by omega)]; exact c11, ?_⟩, fun k hk => ?_, fun k hk => ?_, fun ha => ?_, fun p hp1 => ?_⟩
    · rw [ev3, upd_ne _ _ (by omega), upd_at]
      show _ = nI (jSd J ++ [x]).length
      rw [List.length_append]; rfl
    · exact sd_app (fun j hj => by rw [ec _ (by omega) (by omega) (by omega)]; exact s j hj) (by rw [ev3, upd_ne _ _ (by omega), upd_ne _ _ (by omega), upd_at]) k hk
    · have hk2 : k < (jRe J).length := hk
      rw [ec _ (by omega) (by omega) (by omega), ec _ (by omega) (by omega) (by omega)]
      exact r k hk
    · exact (t ha).cong (by rw [fl_len]; exact (h.st hJ ha).2.1) (fun k k1 k2 => ec k (by omega) (by omega) (by omega))
    · have hp12 := h.kp.1
      rw [ec _ (by omega) (by omega) (by omega)]
      exact w p hp1
  refine ⟨G3, rfl, ?_, hF3.mono (fun k hk => by unfold mB; omega)⟩
  have := H.jobU h hF3 (x := aX A + 1) (by rw [ev3, upd_at]) hMJ
  unfold layA
  rw [hJ]
  exact this
theorem tr_in {i : Nat} (hi : i < 4) : ∀ k, (k = b + 3 ∨ trR (b + 359 + 31 * i) k) → mB b k := fun k hk => by unfold trR at hk; unfold mB; omega
/-- an entry leaves -/
theorem m_leaves (H : MS G b P A) (h : okS P A) {i r v : Nat} (hi : i < pNi P) (hr : r < 30) (hv : v ≤ 999) (hroom : ∀ J, aJ A = some J → jAt J = i → (jSd J).length < 40) (hin : isAtA A i = false → codD (dnP P i) v r ∈ (aL A i).flatten) : ∃ G', f_Md_leavesIndex [.ref 618, .int (nI b), .int (nI i), .int (nI r), .int (nI v)] (hp G) = some (none, hp G') ∧ MS G' b P (takeA P A i r v) ∧ mdF (mB b) G G' := by
  have hn := h.ni
  rw [e_Md_leavesIndex 618 _ _ _ _ _ (ob_Md G), m_isAt H h (by omega), ci_some]
  unfold takeA
  cases ha : isAtA A i
  · rw [if_pos (by decide), if_neg (by decide), m_entryOf H.hP h.pp hi hv, ci_some]
    obtain ⟨G', r1, r2, r3, r4⟩ := s_Md_takes H.pg H.hb (by omega) (H.tr hi) (h.kl hi) (hin ha)
    rw [r1, cv_some]
    rw [H.x] at r3
    exact ⟨G', rfl, H.treeU h hi r4 r3 r2, r4.mono (tr_in (by omega))⟩
  · obtain ⟨J, hJ, hat⟩ := atO_some ha
    rw [if_neg (by decide), if_pos rfl]
    obtain ⟨G', r1, r2, r3⟩ := m_lays H h hJ (hroom J hJ hat) (((1000 * nI r) + nI v) - 40000)
    rw [r1, cv_some]
    exact ⟨G', rfl, r2, r3⟩
/-- an entry enters -/
theorem m_enters (H : MS G b P A) (h : okS P A) {i r v : Nat} (hi : i < pNi P) (hr : r < 30) (hv : v ≤ 999) (hroom : ∀ J, aJ A = some J → jAt J = i → (jSd J).length < 40) (hno : isAtA A i = false → r ∉ (aL A i).flatten.map (· % 32)) : ∃ G', f_Md_entersIndex [.ref 618, .int (nI b), .int (nI i), .int (nI r), .int (nI v)] (hp G) = some (none, hp G') ∧ MS G' b P (putA P A i r v) ∧ mdF (mB b) G G' := by
  have hn := h.ni
  rw [e_Md_entersIndex 618 _ _ _ _ _ (ob_Md G), m_isAt H h (by omega), ci_some]
  unfold putA
  cases ha : isAtA A i
  · have hc := codD_lt (dn := dnP P i) hv hr
    have hno2 := hno ha
    rw [if_pos (by decide), if_neg (by decide), m_entryOf H.hP h.pp hi hv, ci_some]
    obtain ⟨G', r1, r2, r3, r4⟩ := s_Md_puts H.pg H.hb (by omega) (H.tr hi) (h.kl hi) hc.1 (rows_lt (h.kl hi) hr hno2) (fun q => hno2 (List.mem_map.mpr ⟨_, q, hc.2⟩))
    rw [r1, cv_some]
    rw [H.x] at r3
    exact ⟨G', rfl, H.treeU h hi r4 r3 r2, r4.mono (tr_in (by omega))⟩
  · obtain ⟨J, hJ, hat⟩ := atO_some ha
    rw [if_neg (by decide), if_pos rfl]
    obtain ⟨G', r1, r2, r3⟩ := m_lays H h hJ (hroom J hJ hat) ((1000 * nI r) + nI v)
    rw [r1, cv_some]
    exact ⟨G', rfl, r2, r3⟩
/-- leaves joined -/
theorem m_packs (H : MS G b P A) (h : okS P A) {i : Nat} (hi : i < pNi P) : ∃ G', f_Md_packs [.ref 618, .int (nI b), .int (nI i)] (hp G) = some (some (.int (joinO P A i).1), hp G') ∧ MS G' b P (joinO P A i).2 ∧ mdF (mB b) G G' := by
  have hn := h.ni
  have hb := H.hb
  have hkM := okM_fl (h.kl hi)
  rw [e_Md_packs 618 _ _ _ (ob_Md G), m_isAt H h (by omega), ci_some]
  unfold joinO
  cases ha : isAtA A i
  · rw [if_pos (by decide), if_neg (by decide), s_Md_leaves hb (by omega) (H.tr hi) hkM, ci_some, fl_odd (fun l hl => ((h.kl hi).2.2.1 l hl).1), gg_Md_state, Option.bind_some, show mm_li (hp G) 628 (nI b + 3) = _ from rd hb 3 (by omega), Option.bind_some, H.x, show mm_si (hp G) 628 (nI b + 3) (aX A + nI (aL A i).length) = _ from wr hb 3 (by omega) _, Option.bind_some]
    have H1 := H.spentU h (aX A + nI (aL A i).length)
    have h1 : okS P (setX A (aX A + nI (aL A i).length)) := h
    have q1 : mdF (mB b) G (gsi G 628 (b + 3) (aX A + nI (aL A i).length)) := mdF.cell ⟨by omega, by omega⟩
    generalize gsi G 628 (b + 3) (aX A + nI (aL A i).length) = G1 at *
    rw [s_Md_startOf, ci_some, show nI (b + 359 + 31 * i) + 1 = nI (b + 359 + 31 * i + 1) from nI_add _ 1]
    obtain ⟨G', r1, r2, r3⟩ := s_packs H1.pg hb (show i < 4 by omega) (H1.tr hi) (h1.kl hi)
    have r1' : mm_run p_Md_packs mm_fu 46 [.ref 618, .int (nI b), .int (nI i), .int (nI (aL A i).length), .int (nI (b + 359 + 31 * i + 1)), .int 0, .int 1] [] (hp G1) = _ := r1
    rw [r1']
    refine ⟨G', rfl, ?_, q1.tr (r3.mono (fun k hk => tr_in (by omega) k (Or.inr hk)))⟩
    have := H1.treeU h1 hi (r3.mono (fun k hk => Or.inr hk)) (x := aX A + nI (aL A i).length) (by rw [r3.2.2.2 (b + 3) (fun q => by unfold trR at q; omega)]; exact H1.x) r2
    exact this
  · rw [if_neg (by decide), if_pos rfl]
    exact ⟨G, rfl, H, mdF.rf⟩
end MDU
