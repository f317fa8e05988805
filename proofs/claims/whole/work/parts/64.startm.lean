/-! STATE (the class): begun from a TABLE, run -/
def wfS (G : GG) (s : Nat) : Prop := ∃ pg dn L, isLv G (s + 11) pg dn L ∧ okL pg L
section STM
variable {G : GG} {s p : Nat} {P : PP} {A : AS} {T : TT}
theorem SS.wf (H : SS G s p P A) : wfS G s := by
  obtain ⟨pg, dn, L, h1, h2, -⟩ := H.2.2.1.2.2.2.2.1
  exact ⟨pg, dn, L, h1, h2⟩
theorem wfS.off {G' : GG} {W : Nat → Prop} (h : wfS G s) (hq : eqOff W G G') (h0 : ∀ o, 11 ≤ o → o < 14 → ¬ W (s + o)) : wfS G' s := by
  obtain ⟨pg, dn, L, h1, h2⟩ := h
  exact ⟨pg, dn, L, h1.off hq (fun o ho => by have := h0 (11 + o) (by omega) (by omega); rwa [← Nat.add_assoc] at this), h2⟩
theorem isTd.off {G' : GG} {W : Nat → Prop} (h : isTd G p T) (hq : eqOff W G G') (h0 : ∀ o, o ≤ 20 → ¬ W (p + o)) : isTd G' p T := by
  have e : ∀ o, o ≤ 20 → G'.1 (p + o) = G.1 (p + o) := fun o ho => (hq _ (h0 o ho)).1
  unfold isTd at h ⊢
  rw [show G'.1 p = G.1 p from e 0 (by omega), e 4 (by omega), e 5 (by omega), e 6 (by omega)]
  exact h
theorem s_clearT (hs : adSt s) (hpl : adPl p) (hpage : G.1 p 8 = nI (pPg P)) (hkd : ∀ i, i < pNi P → G.1 (p + 1) i = nI (pKd P i)) (hni : pNi P ≤ 4) (hk3 : ∀ i, i < pNi P → pKd P i ≤ 3) : ∃ G', mm_run p_St_startFrom mm_fu 37 [.ref s, .ref p, .int 0] [] (hp G) = mm_run p_St_startFrom (mm_fu - 5) 78 [.ref s, .ref p, .int 0] [] (hp G') ∧ isTr G' s P (fun _ => []) ∧ eqOff (inR (s + 16) (s + 28)) G G' := by
  have l1 := hpl.lo
  have l2 := hs.lo
  have key : ∀ (j i f : Nat) (G1 : GG), i + j = 4 → j < f → (∀ k, k < i → ∃ dn, isLv G1 (s + 16 + 3 * k) (pPg P) dn [] ∧ (k < pNi P → dn = dnP P k)) → eqOff (inR (s + 16) (s + 28)) G G1 → ∃ G', mm_run p_St_startFrom f 37 [.ref s, .ref p, .int (nI i)] [] (hp G1) = mm_run p_St_startFrom (f - j - 1) 78 [.ref s, .ref p, .int 0] [] (hp G') ∧ isTr G' s P (fun _ => []) ∧ eqOff (inR (s + 16) (s + 28)) G G' := by
    intro j
    induction j with
    | zero =>
      intro i f G1 hj hf h1 q1
      obtain ⟨f, rfl⟩ : ∃ g, f = g + 1 := ⟨f - 1, by omega⟩
      rw [e_St_startFrom_37, if_neg (show ¬ nI i < (4 : Int32) from lm (n := 4) (by omega) (by omega))]
      exact ⟨G1, rfl, fun k hk => h1 k (by omega), q1⟩
    | succ j ih =>
      intro i f G1 hj hf h1 q1
      obtain ⟨f, rfl⟩ : ∃ g, f = g + 1 := ⟨f - 1, by omega⟩
      have i4 : i < 4 := by omega
      have hol := hs.lv i4
      have ep : G1.1 p 8 = nI (pPg P) := by rw [(q1 p (fun h => by unfold inR at h; omega)).1]; exact hpage
      rw [e_St_startFrom_37, if_pos (show nI i < (4 : Int32) from lp (n := 4) (by omega) (by omega)), gg_St_trees _ hs.ok, Option.bind_some, rr_St_trees _ hs.ok i4, Option.bind_some, gg_Pl_page _ hpl.ok, Option.bind_some, ep, gg_Pl_kind _ hpl.ok, Option.bind_some, rr_Pl_kind _ hpl.ok i4, Option.bind_some, show nI i + 1 = nI (i + 1) from nI_add i 1]
      have hd : ∀ (b : Bool), (i < pNi P → b = dnP P i) → ∃ G', mm_cv (f_Lv_clear [.ref (s + 16 + 3 * i), .int (nI (pPg P)), .int (if b then 1 else 0)] (hp G1)) (fun h6 => mm_run p_St_startFrom f 37 [.ref s, .ref p, .int (nI (i + 1))] [] h6) = mm_run p_St_startFrom (f + 1 - (j + 1) - 1) 78 [.ref s, .ref p, .int 0] [] (hp G') ∧ isTr G' s P (fun _ => []) ∧ eqOff (inR (s + 16) (s + 28)) G G' := fun b hb => by
        obtain ⟨G2, c1, c2, c3⟩ := s_Lv_clear (G := G1) hol (pPg P) b
        rw [c1, cv_some, show f + 1 - (j + 1) - 1 = f - j - 1 by omega]
        refine ih (i + 1) f G2 (by omega) (by omega) (fun k hk => ?_) (q1.tr (c3.mono (fun n h => by unfold inR at h ⊢; omega)))
        by_cases e : k = i
        · subst e; exact ⟨b, c2, hb⟩
        · obtain ⟨dn, d1, d2⟩ := h1 k (by omega)
          exact ⟨dn, d1.off c3 (fun o ho h => by unfold inR at h; omega), d2⟩
      have ek : i < pNi P → G1.1 (p + 1) i = nI (pKd P i) := fun hi => by rw [(q1 (p + 1) (fun h => by unfold inR at h; omega)).1]; exact hkd i hi
      by_cases e1 : G1.1 (p + 1) i = 1
      · rw [if_pos e1]
        refine hd true (fun hi => ?_)
        rw [ek hi] at e1
        have : pKd P i = 1 := n_inj (by have := hk3 i hi; omega) (by decide) (show nI (pKd P i) = nI 1 from e1)
        unfold dnP
        rw [this]
        rfl
      · rw [if_neg e1]
        refine hd false (fun hi => ?_)
        rw [ek hi] at e1
        have : ¬ pKd P i = 1 := fun e => e1 (by rw [e]; rfl)
        unfold dnP
        simp [this]
  obtain ⟨G', a, b, c⟩ := key 4 0 mm_fu G (by omega) (fu_lt (by omega)) (fun k hk => absurd hk (Nat.not_lt_zero _)) eqOff.rf
  exact ⟨G', a, b, c⟩
theorem s_seats (H0 : isTd G p T) (hT : okTd P T) {G1 : GG} (q1 : eqOff (inR s (s + 28)) G G1) {x : Int32} (H1 : SS G1 s p P (emptyA x)) (h1 : toldN P [] 0 (emptyA x)) {f : Nat} (hf : T.1.length < f) : ∃ G', mm_run p_St_startFrom f 78 [.ref s, .ref p, .int 0] [] (hp G1) = mm_run p_St_startFrom (f - T.1.length - 1) 126 [.ref s, .ref p, .int 0] [] (hp G') ∧ SS G' s p P (T.1.foldl (seatT P) (emptyA x)) ∧ toldN P T.1 0 (T.1.foldl (seatT P) (emptyA x)) ∧ eqOff (inR s (s + 28)) G G' := by
  have l1 := H1.1.2.lo
  have l2 := H1.1.1.lo
  obtain ⟨⟨t20, tv⟩, -, tonce⟩ := hT
  have htd : ∀ {G' : GG}, eqOff (inR s (s + 28)) G G' → isTd G' p T := fun q => H0.off q (fun o ho h => by unfold inR at h; omega)
  have key : ∀ (m l : List (Nat × Nat × Nat)) (f : Nat) (G2 : GG) (A : AS), l ++ m = T.1 → m.length < f → SS G2 s p P A → toldN P l 0 A → eqOff (inR s (s + 28)) G G2 → ∃ G', mm_run p_St_startFrom f 78 [.ref s, .ref p, .int (nI l.length)] [] (hp G2) = mm_run p_St_startFrom (f - m.length - 1) 126 [.ref s, .ref p, .int 0] [] (hp G') ∧ SS G' s p P (m.foldl (seatT P) A) ∧ toldN P T.1 0 (m.foldl (seatT P) A) ∧ eqOff (inR s (s + 28)) G G' := by
    intro m
    induction m with
    | nil =>
      intro l f G2 A hl hf H2 h2 q2
      obtain ⟨f, rfl⟩ : ∃ g, f = g + 1 := ⟨f - 1, by simp at hf; omega⟩
      rw [List.append_nil] at hl
      rw [e_St_startFrom_78, gg_Pl_rows _ H2.op, Option.bind_some, (htd q2).1.1, hl, if_neg (lm (Nat.le_refl _) (by omega))]
      exact ⟨G2, rfl, H2, by rw [← hl]; exact h2, q2⟩
    | cons t m ih =>
      intro l f G2 A hl hf H2 h2 q2
      obtain ⟨f, rfl⟩ : ∃ g, f = g + 1 := ⟨f - 1, by simp at hf; omega⟩
      have hlen : l.length < T.1.length := by rw [← hl]; simp
      have ht : T.1[l.length] = t := by simp [← hl]
      have hc := (htd q2).1.2 l.length hlen
      rw [ht] at hc
      have c0 : G2.1 (p + 4) (l.length * 3) = nI t.1 := hc 0 (by decide)
      have c1 : G2.1 (p + 4) (l.length * 3 + 1) = nI t.2.1 := hc 1 (by decide)
      have c2 : G2.1 (p + 4) (l.length * 3 + 2) = nI t.2.2 := hc 2 (by decide)
      have hmem : t ∈ T.1 := by rw [← hl]; simp
      have hv := tv t hmem
      rw [e_St_startFrom_78, gg_Pl_rows _ H2.op, Option.bind_some, (htd q2).1.1, if_pos (lp hlen (by omega)), gg_Pl_row _ H2.op, Option.bind_some, show nI l.length * 3 = nI (l.length * 3) from n_mul _ 3, rr_Pl_row _ H2.op (by omega), Option.bind_some, c0, Option.bind_some, show nI (l.length * 3) + 1 = nI (l.length * 3 + 1) from nI_add _ 1, rr_Pl_row _ H2.op (by omega), Option.bind_some, c1, Option.bind_some, show nI (l.length * 3) + 2 = nI (l.length * 3 + 2) from nI_add _ 2, rr_Pl_row _ H2.op (by omega), Option.bind_some, c2]
      obtain ⟨b1, b2, b3, b4, b5, b6⟩ := id h2
      obtain ⟨G3, d1, d2, d3⟩ := s_St_seat H2 b1 b2 (by omega) hv.1 hv.2.1 hv.2.2
      have h3 := told_s h2 (t := t) (by omega) hv (fun i hi hk u hu => by
        have := tonce i hi hk
        rw [← hl] at this
        exact (List.pairwise_append.mp this).2.2 u hu t List.mem_cons_self)
      rw [d1, cv_some, show nI l.length + 1 = nI (l ++ [t]).length by rw [List.length_append]; exact nI_add _ 1]
      obtain ⟨G4, e1, e2, e3, e4⟩ := ih (l ++ [t]) f G3 _ (by rw [List.append_assoc]; exact hl) (by simp at hf; omega) d2 h3 (q2.tr d3)
      refine ⟨G4, ?_, e2, e3, e4⟩
      rw [e1, List.length_cons, show f + 1 - (m.length + 1) - 1 = f - m.length - 1 by omega]
  exact key T.1 [] f G1 (emptyA x) rfl hf H1 h1 q1
theorem s_St_startFrom (hs : adSt s) (hpl : adPl p) (hP : isPl G p P) (hk : okPP P) (hbt : G.1 p 9 = nI (pBt P)) (hT : isTd G p T) (hkT : okTd P T) (hw : wfS G s) : ∃ G', f_St_startFrom [.ref s, .ref p] (hp G) = some (none, hp G') ∧ SS G' s p P (startA P T) ∧ eqOff (inR s (s + 28)) G G' := by
  have l1 := hpl.lo
  have l2 := hs.lo
  have hni := hk.2.1
  have hbt0 : (gsr G s 6 p).1 p 9 = nI (pBt P) := hbt
  rw [e_St_startFrom s _ _ (ob_St G hs.ok), ww_St_plan _ hs.ok, Option.bind_some, gg_Pl_batch _ hpl.ok, Option.bind_some, hbt0, ww_St_batch _ hs.ok, Option.bind_some, gg_St_rows _ hs.ok, Option.bind_some]
  generalize hG1 : gsi (gsr G s 6 p) s 7 (nI (pBt P)) = G1
  have q1 : eqOff (fun n => n = s) G G1 := by
    rw [← hG1]
    exact (eqOff.gsr (S := fun n => n = s) _ _ rfl).tr (eqOff.gsi _ _ rfl)
  have g6 : G1.2.2 s 6 = p := by
    rw [← hG1]
    show (gsr G s 6 p).2.2 s 6 = p
    rw [gsr_r, if_pos rfl]
    simp [va_up]
  have g7 : G1.1 s 7 = nI (pBt P) := by rw [← hG1, gsi_i, if_pos rfl, upd_at]
  obtain ⟨G2, a1, a2, a3⟩ := s_Rw_clear (G := G1) (V := fun _ _ => 0) hs.rw
  rw [a1, cv_some, gg_St_points _ hs.ok, Option.bind_some, ww_Pt_come _ hs.pt, Option.bind_some, gg_St_job _ hs.ok, Option.bind_some]
  generalize hG3 : gsi G2 (s + 3) 3 0 = G3
  have q3 : eqOff (fun n => n = s + 3) G2 G3 := by rw [← hG3]; exact eqOff.gsi _ _ rfl
  have hpt : isPt G3 (s + 3) 0 (fun _ => 0) (fun _ => -1) (fun _ => -1) := ⟨by rw [← hG3, gsi_i, if_pos rfl, upd_at]; rfl, fun p hp1 => absurd hp1 (Nat.not_lt_zero _)⟩
  obtain ⟨G4, c1, c2, c3⟩ := s_Jb_clear (G := G3) hs.jb
  rw [c1, cv_some]
  have off14 : ∀ n, (n < s ∨ s + 9 ≤ n) → G4.1 n = G.1 n := fun n hn => by
    rw [(c3 n (fun h => by unfold inR at h; omega)).1, (q3 n (by omega)).1, (a3 n (fun h => by unfold inR at h; omega)).1, (q1 n (by omega)).1]
  have q4 : eqOff (inR s (s + 11)) G G4 := ((q1.mono (fun n h => by subst h; exact ⟨by omega, by omega⟩)).tr (a3.mono (fun n h => by unfold inR at h ⊢; omega))).tr ((q3.mono (fun n h => by subst h; exact ⟨by omega, by omega⟩)).tr (c3.mono (fun n h => by unfold inR at h ⊢; omega)))
  have hP4 : isPl G4 p P := hP.off q4 (fun o ho h => by unfold inR at h; omega)
  obtain ⟨G5, d1, d2, d3⟩ := s_clearT (P := P) (G := G4) hs hpl hP4.1.1 (fun i hi => (hP4.2.1 i hi).1) hni (fun i hi => (hk.2.2.1 i hi).1)
  rw [d1]
  have q5 : eqOff (inR s (s + 28)) G G5 := (q4.mono (fun n h => by unfold inR at h ⊢; omega)).tr (d3.mono (fun n h => by unfold inR at h ⊢; omega))
  have h0 := told_0 hk (G5.1 s 8)
  have e5 : ∀ o, o < 16 → G5.1 (s + o) = G4.1 (s + o) := fun o ho => (d3 _ (fun h => by unfold inR at h; omega)).1
  have H5 : SS G5 s p P (emptyA (G5.1 s 8)) := by
    refine ⟨⟨hs, hpl⟩, ⟨hP.off q5 (fun o ho h => by unfold inR at h; omega), hk⟩, ⟨?_, ?_, d2, ?_, ?_, rfl, ?_, ?_⟩, h0.1.ka⟩
    · exact ((a2.off q3 (by omega) (by omega)).off c3 (fun h => by unfold inR at h; omega) (fun h => by unfold inR at h; omega)).off d3 (fun h => by unfold inR at h; omega) (fun h => by unfold inR at h; omega)
    · exact (hpt.off c3 (fun i hi h => by unfold inR at h; omega)).off d3 (fun i hi h => by unfold inR at h; omega)
    · exact c2.off d3 (fun i hi h => by unfold inR at h; omega)
    · obtain ⟨pg, dn, L, w1, w2⟩ := hw
      exact ⟨pg, dn, L, (w1.off q4 (fun i hi h => by unfold inR at h; omega)).off d3 (fun i hi h => by unfold inR at h; omega), w2, fun J hJ => absurd hJ (by simp [emptyA, aJ])⟩
    · have f1 := (d3 s (fun h => by unfold inR at h; omega)).2.2
      have f2 := (c3 s (fun h => by unfold inR at h; omega)).2.2
      have f3 := (q3 s (by omega)).2.2
      have f4 := (a3 s (fun h => by unfold inR at h; omega)).2.2
      rw [f1, f2, f3, f4]
      exact g6
    · have f1 := (d3 s (fun h => by unfold inR at h; omega)).1
      have f2 := (c3 s (fun h => by unfold inR at h; omega)).1
      have f3 := (q3 s (by omega)).1
      have f4 := (a3 s (fun h => by unfold inR at h; omega)).1
      rw [f1, f2, f3, f4]
      exact g7
  obtain ⟨⟨t20, tv⟩, ⟨t8, tp⟩, tonce⟩ := id hkT
  have hfu : 100 < mm_fu := fu_lt (by omega)
  obtain ⟨G6, r1, H6, h6, q6⟩ := s_seats hT hkT q5 H5 h0 (f := mm_fu - 5) (by omega)
  rw [r1]
  have htd : ∀ {G' : GG}, eqOff (inR s (s + 28)) G G' → isTd G' p T := fun q => hT.off q (fun o ho h => by unfold inR at h; omega)
  have key : ∀ (m l : List (Nat × Nat)) (f : Nat) (G2 : GG) (A : AS), l ++ m = T.2 → m.length < f → SS G2 s p P A → toldN P T.1 l.length A → eqOff (inR s (s + 28)) G G2 → ∃ G', mm_run p_St_startFrom f 126 [.ref s, .ref p, .int (nI l.length)] [] (hp G2) = some (none, hp G') ∧ SS G' s p P (setX (m.foldl aimT A) 0) ∧ eqOff (inR s (s + 28)) G G' := by
    intro m
    induction m with
    | nil =>
      intro l f G2 A hl hf H2 h2 q2
      obtain ⟨f, rfl⟩ : ∃ g, f = g + 1 := ⟨f - 1, by simp at hf; omega⟩
      rw [List.append_nil] at hl
      rw [e_St_startFrom_126, gg_Pl_points _ H2.op, Option.bind_some, (htd q2).2.1, hl, if_neg (lm (Nat.le_refl _) (by omega)), ww_St_spent _ H2.os, Option.bind_some]
      exact ⟨_, rfl, H2.spent 0, q2.tr (eqOff.gsi _ _ ⟨by omega, by omega⟩)⟩
    | cons t m ih =>
      intro l f G2 A hl hf H2 h2 q2
      obtain ⟨f, rfl⟩ : ∃ g, f = g + 1 := ⟨f - 1, by simp at hf; omega⟩
      have hlen : l.length < T.2.length := by rw [← hl]; simp
      have ht : T.2[l.length] = t := by simp [← hl]
      have hc := (htd q2).2.2 l.length hlen
      rw [ht] at hc
      have hmem : t ∈ T.2 := by rw [← hl]; simp
      have hv := tp t hmem
      rw [e_St_startFrom_126, gg_Pl_points _ H2.op, Option.bind_some, (htd q2).2.1, if_pos (lp hlen (by omega)), gg_St_points _ H2.os, Option.bind_some, gg_Pl_sort _ H2.op, Option.bind_some, rr_Pl_sort _ H2.op (by omega), Option.bind_some, hc.1, gg_Pl_target _ H2.op, Option.bind_some, rr_Pl_target _ H2.op (by omega), Option.bind_some, hc.2]
      obtain ⟨b1, b2, b3, b4, b5, b6⟩ := id h2
      obtain ⟨G3, d1, d2, d3⟩ := s_Pt_add H2.1.1.pt H2.pt (show aN A < 12 by omega) (s := t.1) (v := t.2)
      obtain ⟨h3, hcan⟩ := told_p h2 (q := t) (by omega) hv t20
      have H3 : SS G3 s p P (aimT A t) := by
        refine H2.points d3 ?_ h3.1.kp
        rw [nI_tn (by omega)]
        exact d2
      rw [d1, ci_some, show nI l.length + 1 = nI (l ++ [t]).length by rw [List.length_append]; exact nI_add _ 1]
      refine ih (l ++ [t]) f G3 _ (by rw [List.append_assoc]; exact hl) (by simp at hf; omega) H3 ?_ (q2.tr (d3.mono (fun n h => by unfold inR at h ⊢; omega)))
      rw [List.length_append]
      exact h3
  obtain ⟨G7, z1, z2, z3⟩ := key T.2 [] (mm_fu - 5 - T.1.length - 1) G6 _ rfl (by omega) H6 h6 q6
  refine ⟨G7, z1, ?_, z3⟩
  have := start_X P T (G5.1 s 8)
  unfold startB at this
  rw [← this]
  exact z2
end STM
