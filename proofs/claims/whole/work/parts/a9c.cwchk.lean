/-! LEAFSWEEP (the class): references looked at -/
def ptK (A : AS) (q : Nat) : List Nat := ((List.range q).filter (isFirmP (aS A) (aT A))).map (fun p => (aT A p).toNatClampNeg)
def rvK (A : AS) (d : Int32) (q : Nat) : List Nat := ((List.range q).filter (bt d)).map (fun r => aV A r 0)
theorem ptK_s (A : AS) (q : Nat) : ptK A (q + 1) = ptK A q ++ if isFirmP (aS A) (aT A) q then [(aT A q).toNatClampNeg] else [] := by
  unfold ptK
  rw [List.range_succ, List.filter_append, List.map_append]
  congr 1
  rw [List.filter_cons, List.filter_nil]
  split <;> rfl
theorem rvK_s (A : AS) (d : Int32) (q : Nat) : rvK A d (q + 1) = rvK A d q ++ if bt d q then [aV A q 0] else [] := by
  unfold rvK
  rw [List.range_succ, List.filter_append, List.map_append]
  congr 1
  rw [List.filter_cons, List.filter_nil]
  split <;> rfl
theorem ptK_len (A : AS) (q : Nat) : (ptK A q).length ≤ q := by
  unfold ptK
  rw [List.length_map]
  refine Nat.le_trans (List.length_filter_le _ _) ?_
  simp
theorem rvK_len (A : AS) (d : Int32) (q : Nat) : (rvK A d q).length ≤ q := by
  unfold rvK
  rw [List.length_map]
  refine Nat.le_trans (List.length_filter_le _ _) ?_
  simp
theorem firm_v {P : PP} {A : AS} (h : INV P A) {p : Nat} (hp1 : p < aN A) (hf : isFirmP (aS A) (aT A) p = true) : ∃ v, v ≤ 999 ∧ aT A p = nI v := by
  unfold isFirmP at hf
  simp only [Bool.and_eq_true, Bool.not_eq_true', decide_eq_false_iff_not] at hf
  rcases (h.kp.2 p hp1).2 with e | e | e
  · rw [e] at hf; exact absurd (by decide) hf.2
  · rw [e] at hf; exact absurd (by decide) hf.2
  · exact e
theorem ptL_le {P : PP} {A : AS} (h : INV P A) : ∀ x ∈ ptL A, x ≤ 999 := fun x hx => by
  obtain ⟨p, hp1, e⟩ := List.mem_map.mp hx
  obtain ⟨h1, h2⟩ := List.mem_filter.mp hp1
  obtain ⟨v, hv, ev⟩ := firm_v h (List.mem_range.mp h1) h2
  rw [← e, ev, nI_tn (by omega)]
  exact hv
theorem rvL_le {P : PP} {A : AS} (h : INV P A) (d : Int32) : ∀ x ∈ rvL A d, x ≤ 999 := fun x hx => by
  obtain ⟨r, hr, e⟩ := List.mem_map.mp hx
  have := List.mem_range.mp (List.mem_filter.mp hr).1
  rw [← e]
  exact h.kr.2.1 r 0 this (by decide)
section CWK
variable {Z G G' : GG} {p : Nat} {P : PP} {T : TT} {A A' : AS} {U : List AS} {cu : CU}
theorem b_cmp (W : CW Z G p P T A U cu) (d : Int32) : ∃ G', f_Bn_comparisons [.ref 31, .ref (lsNow G), .int d] (hp G) = some (some (.int (nI (cmpL (so (ptL A)) (so (rvL A d))))), hp G') ∧ eqOff bnR G G' := by
  have hk12 := W.inv.kp.1
  have hr30 := W.inv.kr.1
  have hSS : ∀ {G1 : GG}, eqOff bnR G G1 → SS G1 (lsNow G) p P A := fun {G1} hq => by
    obtain ⟨W1, en⟩ := W.bench hq
    have := W1.ss
    rw [en] at this
    exact this
  rw [e_Bn_comparisons 31 _ _ _ (ob_Bn G)]
  have l1 : ∀ (j q f : Nat) (G1 : GG), q + j = aN A → j < f → isAr G1 35 (ptK A q) → eqOff bnR G G1 → ∃ G2, mm_run p_Bn_comparisons f 5 [.ref 31, .ref (lsNow G), .int d, .int (nI (ptK A q).length), .int (nI q)] [] (hp G1) = mm_run p_Bn_comparisons (f - j) 5 [.ref 31, .ref (lsNow G), .int d, .int (nI (ptL A).length), .int (nI (aN A))] [] (hp G2) ∧ isAr G2 35 (ptL A) ∧ eqOff bnR G G2 := by
    intro j
    induction j with
    | zero =>
      intro q f G1 hj hf ha hq
      have e : q = aN A := by omega
      subst e
      exact ⟨G1, rfl, ha, hq⟩
    | succ j ih =>
      intro q f G1 hj hf ha hq
      obtain ⟨f, rfl⟩ : ∃ g, f = g + 1 := ⟨f - 1, by omega⟩
      have hqn : q < aN A := by omega
      have H1 := hSS hq
      have hlen := ptK_len A q
      have hih := fun G2 => ih (q + 1) f G2 (by omega) (by omega)
      rw [ptK_s] at hih
      rw [e_Bn_comparisons_5, gg_St_points _ H1.os, Option.bind_some, gg_Pt_come _ H1.1.1.pt, Option.bind_some, H1.pt.1, if_pos (lp hqn (by omega)), Option.bind_some, s_Pt_isFirm H1.1.1.pt H1.pt W.inv.kp hqn, ci_some, show nI q + 1 = nI (q + 1) from nI_add q 1, show f + 1 - (j + 1) = f - j by omega]
      cases hfm : isFirmP (aS A) (aT A) q
      · rw [hfm, if_neg (by decide), List.append_nil] at hih
        rw [if_pos (by decide)]
        exact hih G1 ha hq
      · obtain ⟨v, hv, ev⟩ := firm_v W.inv hqn hfm
        rw [hfm, if_pos rfl, ev, nI_tn (by omega), List.length_append, show [v].length = 1 from rfl] at hih
        rw [if_neg (by decide), gg_Bn_left, Option.bind_some, gg_St_points _ H1.os, Option.bind_some, gg_Pt_target _ H1.1.1.pt, Option.bind_some, rr_Pt_target _ H1.1.1.pt (by omega), Option.bind_some, (H1.pt.2 q hqn).2.1, ev, uu_Bn_left _ (by omega), Option.bind_some, show nI (ptK A q).length + 1 = nI ((ptK A q).length + 1) from nI_add _ 1]
        exact hih _ (ha.push v) (hq.tr (bn_gsi _ 35 _ _ (by unfold bnR; omega)))
  obtain ⟨G1, a1, a2, a3⟩ := l1 (aN A) 0 mm_fu G (by omega) (fu_lt (by omega)) (fun i h => absurd h (Nat.not_lt_zero _)) eqOff.rf
  rw [show mm_run p_Bn_comparisons mm_fu 5 [.ref 31, .ref (lsNow G), .int d, .int 0, .int 0] [] (hp G) = _ from a1]
  obtain ⟨f0, hf0, hf0b⟩ : ∃ g, mm_fu - aN A = g + 1 ∧ 500 < g := ⟨mm_fu - aN A - 1, by have := @fu_lt 999 (by omega); omega, by have := @fu_lt 999 (by omega); omega⟩
  have H1 := hSS a3
  rw [hf0, e_Bn_comparisons_5, gg_St_points _ H1.os, Option.bind_some, gg_Pt_come _ H1.1.1.pt, Option.bind_some, H1.pt.1, if_neg (lm (Nat.le_refl _) (by omega))]
  have hplen : (ptL A).length ≤ aN A := ptK_len A (aN A)
  have hrlen : (rvL A d).length ≤ aM A := rvK_len A d (aM A)
  have l2 : ∀ (j q f : Nat) (G1 : GG), q + j = aM A → j < f → isAr G1 35 (ptL A) → isAr G1 36 (rvK A d q) → eqOff bnR G G1 → ∃ G2, mm_run p_Bn_comparisons f 60 [.ref 31, .ref (lsNow G), .int d, .int (nI (ptL A).length), .int (nI (rvK A d q).length), .int (nI q)] [] (hp G1) = mm_run p_Bn_comparisons (f - j) 60 [.ref 31, .ref (lsNow G), .int d, .int (nI (ptL A).length), .int (nI (rvL A d).length), .int (nI (aM A))] [] (hp G2) ∧ isAr G2 35 (ptL A) ∧ isAr G2 36 (rvL A d) ∧ eqOff bnR G G2 := by
    intro j
    induction j with
    | zero =>
      intro q f G1 hj hf ha hb hq
      have e : q = aM A := by omega
      subst e
      exact ⟨G1, rfl, ha, hb, hq⟩
    | succ j ih =>
      intro q f G1 hj hf ha hb hq
      obtain ⟨f, rfl⟩ : ∃ g, f = g + 1 := ⟨f - 1, by omega⟩
      have hqn : q < aM A := by omega
      have H1 := hSS hq
      have hlen := rvK_len A d q
      have hih := fun G2 => ih (q + 1) f G2 (by omega) (by omega)
      rw [rvK_s] at hih
      rw [e_Bn_comparisons_60, gg_St_rows _ H1.os, Option.bind_some, H1.gm, Option.bind_some, if_pos (lp hqn (by omega)), bt_shr1 d (by omega), show nI q + 1 = nI (q + 1) from nI_add q 1, show f + 1 - (j + 1) = f - j by omega]
      cases hfm : bt d q
      · rw [hfm, if_neg (by decide), List.append_nil] at hih
        rw [if_pos (by decide)]
        exact hih G1 ha hb hq
      · rw [hfm, if_pos rfl, List.length_append, show [aV A q 0].length = 1 from rfl] at hih
        rw [if_neg (by decide), gg_Bn_right, Option.bind_some, Option.bind_some, show f_Rw_valueOf [.ref (lsNow G + 1), .int (nI q), .int 0] (hp G1) = _ from s_Rw_valueOf H1.1.1.rw H1.rw H1.kr hqn (k := 0) (by decide), ci_some, uu_Bn_right _ (by omega), Option.bind_some, show nI (rvK A d q).length + 1 = nI ((rvK A d q).length + 1) from nI_add _ 1]
        exact hih _ (ha.oth (by decide) _ _) (hb.push _) (hq.tr (bn_gsi _ 36 _ _ (by unfold bnR; omega)))
  obtain ⟨G2, b1, b2, b3, b4⟩ := l2 (aM A) 0 f0 G1 (by omega) (by omega) a2 (fun i h => absurd h (Nat.not_lt_zero _)) a3
  rw [show mm_run p_Bn_comparisons f0 60 [.ref 31, .ref (lsNow G), .int d, .int (nI (ptL A).length), .int 0, .int 0] [] (hp G1) = _ from b1]
  obtain ⟨f1, hf1, hf1b⟩ : ∃ g, f0 - aM A = g + 1 ∧ 200 < g := ⟨f0 - aM A - 1, by omega, by omega⟩
  have H2 := hSS b4
  obtain ⟨G3, c1, c2, c3⟩ := b_up (a := 35) (Or.inl rfl) b2 (by omega) (fun x hx => by have := ptL_le W.inv x hx; omega)
  have hb3 : isAr G3 36 (rvL A d) := b3.off (c3 36 (by decide)).1
  obtain ⟨G4, d1, d2, d3⟩ := b_up (a := 36) (Or.inr rfl) hb3 (by omega) (fun x hx => by have := rvL_le W.inv d x hx; omega)
  have hc4 : isAr G4 35 (so (ptL A)) := c2.off (d3 35 (by decide)).1
  have hq4 : eqOff bnR G G4 := (b4.tr (c3.mono (fun n hn => by unfold bnR; omega))).tr (d3.mono (fun n hn => by unfold bnR; omega))
  rw [hf1, e_Bn_comparisons_60, gg_St_rows _ H2.os, Option.bind_some, H2.gm, Option.bind_some, if_neg (lm (Nat.le_refl _) (by omega)), gg_Bn_left, Option.bind_some, c1, cv_some, gg_Bn_right, Option.bind_some, d1, cv_some]
  have hpl := so_len (ptL A)
  have hrl := so_len (rvL A d)
  have hps : ∀ x ∈ so (ptL A), x ≤ 999 := fun x hx => ptL_le W.inv x ((so_perm _).mem_iff.mp hx)
  have hrs : ∀ x ∈ so (rvL A d), x ≤ 999 := fun x hx => rvL_le W.inv d x ((so_perm _).mem_iff.mp hx)
  rw [← hpl, ← hrl]
  generalize so (ptL A) = ps at hc4 hpl hps ⊢
  generalize so (rvL A d) = rs at d2 hrl hrs ⊢
  have l3 : ∀ (m i k f : Nat), i ≤ ps.length → k ≤ rs.length → (ps.length - i) + (rs.length - k) = m → m < f → mm_run p_Bn_comparisons f 130 [.ref 31, .int (nI ps.length), .int (nI rs.length), .int (nI i), .int (nI k)] [] (hp G4) = some (some (.int (nI (i + k + cmpL (ps.drop i) (rs.drop k)))), hp G4) := by
    intro m
    induction m with
    | zero =>
      intro i k f hi hk hm hf
      obtain ⟨f, rfl⟩ : ∃ g, f = g + 1 := ⟨f - 1, by omega⟩
      rw [e_Bn_comparisons_130, if_neg (lm (by omega) (by omega)), i_add, List.drop_of_length_le (show ps.length ≤ i by omega), cmpL_nil]
      rfl
    | succ m ih =>
      intro i k f hi hk hm hf
      obtain ⟨f, rfl⟩ : ∃ g, f = g + 1 := ⟨f - 1, by omega⟩
      rw [e_Bn_comparisons_130]
      by_cases h1 : i < ps.length
      · rw [if_pos (lp h1 (by omega))]
        by_cases h2 : k < rs.length
        · have v1 := hps _ (List.getElem_mem h1)
          have v2 := hrs _ (List.getElem_mem h2)
          rw [if_pos (lp h2 (by omega)), gg_Bn_left, Option.bind_some, rr_Bn_left _ (by omega), Option.bind_some, gg_Bn_right, Option.bind_some, rr_Bn_right _ (by omega), Option.bind_some, hc4 i h1, d2 k h2, drop_cons h1, drop_cons h2, cmpL_cons, show nI k + 1 = nI (k + 1) from nI_add k 1, show nI i + 1 = nI (i + 1) from nI_add i 1]
          by_cases e : rs[k] < ps[i]
          · rw [if_pos (lp e (by omega)), if_pos e, ih i (k + 1) f hi (by omega) (by omega) (by omega), drop_cons h1]
            generalize cmpL (ps[i] :: ps.drop (i + 1)) (rs.drop (k + 1)) = X
            rw [show i + (k + 1) + X = i + k + (X + 1) by omega]
          · rw [if_neg (lm (by omega) (by omega)), if_neg e, ih (i + 1) k f (by omega) hk (by omega) (by omega), drop_cons h2]
            generalize cmpL (ps.drop (i + 1)) (rs[k] :: rs.drop (k + 1)) = X
            rw [show i + 1 + k + X = i + k + (X + 1) by omega]
        · rw [if_neg (lm (by omega) (by omega)), i_add, List.drop_of_length_le (show rs.length ≤ k by omega), cmpL_nil2]
          rfl
      · rw [if_neg (lm (by omega) (by omega)), i_add, List.drop_of_length_le (show ps.length ≤ i by omega), cmpL_nil]
        rfl
  have := l3 _ 0 0 f1 (Nat.zero_le _) (Nat.zero_le _) rfl (by omega)
  rw [Nat.zero_add, List.drop_zero, List.drop_zero] at this
  exact ⟨G4, this, hq4⟩
def chkW (P : PP) (A : AS) (w : Int32) : Int32 := if w = 0 then nI (cmpL (so (ptL A)) (so (rvL A (doomA P A)))) else if w = 1 then nI (singA P A) else -1
theorem k_check (W : CW Z G p P T A U cu) (w : Int32) : ∃ G', f_Ls_check [.ref 1, .int w] (hp G) = some (some (.int (chkW P A w)), hp G') ∧ CW Z G' p P T A U cu := by
  rw [e_Ls_check 1 _ _ (ob_Ls G)]
  unfold chkW
  by_cases e0 : w = 0
  · obtain ⟨G1, r1, r2⟩ := b_cmp W (doomA P A)
    rw [if_pos e0, if_pos e0, gg_Ls_bench, Option.bind_some, W.gn, Option.bind_some, Option.bind_some, s_St_doomed W.ss, ci_some, r1, ci_some]
    exact ⟨G1, rfl, (W.bench r2).1⟩
  rw [if_neg e0, if_neg e0]
  refine ⟨G, ?_, W⟩
  by_cases e1 : w = 1
  · rw [if_pos e1, if_pos e1, W.gn, Option.bind_some, s_St_singlyCost W.ss, ci_some]
  · rw [if_neg e1, if_neg e1]
end CWK
