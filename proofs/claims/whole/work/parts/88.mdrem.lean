/-! THE REFERENCE: a ROW taken out -/
section MDV
variable {G : GG} {b : Nat} {P : PP} {A B C : AS} {E F : Nat → Int32} {r n : Nat}
theorem m_isVisible (H : MS G b P A) (h : INV P A) (hr : r < 2147483648) : f_Md_isVisible [.ref 618, .int (nI b), .int (nI r)] (hp G) = some (some (.int (b2 (bt (visA A) r))), hp G) := by
  have hm := h.kr.1
  rw [e_Md_isVisible 618 _ _ _ (ob_Md G), show f_Md_within [.int (nI r), .int 0, .int 29] (hp G) = _ from s_within (y := 0) (z := 29) hr (by decide) (by decide) (hp G), ci_some]
  by_cases h30 : r < 30
  · rw [decide_eq_true (show 0 ≤ r ∧ r ≤ 29 by omega), if_neg (by decide), m_visible H, ci_some, s_Md_has _ (by omega), ci_some]
    cases bt (visA A) r
    · rw [if_pos (by decide)]; rfl
    · rw [if_neg (by decide)]; rfl
  · rw [decide_eq_false (show ¬ (0 ≤ r ∧ r ≤ 29) by omega), if_pos (by decide), vis_big h (by omega)]
    rfl
theorem hav_less {V : Nat → Nat → Nat} {s : Int32} {k v r : Nat} (hr : r < 32) : havS V (s &&& (sbit r ^^^ (-1))) k v = havS V s k v &&& (sbit r ^^^ (-1)) := b_ext (fun q hq => by
  rw [b_and, bt_hav _ _ _ _ hq, bt_hav _ _ _ _ hq, b_and, bt_not _ hq, bt_sbit hr hq]
  cases bt s q <;> cases decide (q = r) <;> simp)
theorem exp_mvH (h : INV P A) (hc : canExp P A r = true) : mvH P A (goneA A r) (entR P A r) noE r := by
  unfold canExp at hc
  simp only [Bool.and_eq_true, Bool.not_eq_true', Bool.and_eq_false_iff] at hc
  obtain ⟨hv, hfm, hfit⟩ := hc
  have hP := h.pp
  have hk := h.kr
  obtain ⟨hrm, hr⟩ := vis_lt hk hv
  obtain ⟨hrD, hrC⟩ := visA_d (by omega) hv
  obtain ⟨g1, g2, g3, g4, g5, g6, g7, g8, g9, g10⟩ := gone_1 (A := A) (r := r)
  have hvis : ∀ q, q < 32 → bt (visA (goneA A r)) q = (bt (visA A) q && !decide (q = r)) := fun q hq => by
    unfold visA
    rw [g3, g4, bt_vis _ _ hq, bt_vis _ _ hq, b_and, bt_not _ hq, bt_sbit (by omega) hq]
    cases bt (aD A) q <;> cases bt (aC A) q <;> simp
  have hkR : okR (aV (goneA A r)) (aM (goneA A r)) (aD (goneA A r)) (aC (goneA A r)) := by
    rw [g1, g2, g3, g4]
    refine ⟨hk.1, hk.2.1, fun q hq => ?_, fun q hq => ?_⟩
    · rw [b_and] at hq
      simp only [Bool.and_eq_true] at hq
      exact hk.2.2.1 q hq.1
    · have := cho_lt hk hq
      rw [b_and, hk.2.2.2 q hq, bt_not _ (by omega), bt_sbit (by omega) (by omega), decide_eq_false (show ¬ q = r from fun e => b_no (e ▸ hq) hrC)]
      rfl
  have hkP : okP (aN (goneA A r)) (aS (goneA A r)) (aT (goneA A r)) := by
    rw [g7, g8, g10]
    split
    · exact loosen_ok h.kp _
    · exact h.kp
  refine ⟨⟨h, hr, hrC⟩, ⟨g5, g6, g4⟩, ?_, fun i hi c hcr => ?_, ⟨fun i hi => ents_ent hi (hk.2.1 _ _ hrm (hP.2.2.1 i hi).2) hr hv, fun i hi => no_ent ?_⟩, hkR, hkP⟩
  · unfold fitA at hfit ⊢
    rw [g6]
    exact hfit
  · refine okV_loc hP hi (fun k _ => by rw [g1]) ?_
    rw [hvis _ (Nat.mod_lt _ (by decide)), decide_eq_false hcr]
    simp
  · rw [hvis r (by omega)]
    simp
/-- what hinders that a ROW goes -/
theorem m_canGo (H : MS G b P A) (h : INV P A) (hv : bt (visA A) r = true) : f_Md_canGo [.ref 618, .int (nI b), .int (nI r)] (hp G) = some (some (.int (b2 (canExp P A r))), hp G) := by
  have hb := H.hb
  have hni := h.ni
  have hs := h.os
  have hn12 := h.kp.1
  have hk := h.kr
  obtain ⟨hrm, hr⟩ := vis_lt hk hv
  have hv9 : aV A r 0 ≤ 999 := hk.2.1 r 0 hrm (by decide)
  have halone : aloneA A r 0 = decide (havS (aV A) (visA A) 0 (aV A r 0) &&& (sbit r ^^^ (-1)) = 0) := rfl
  rw [e_Md_canGo 618 _ _ _ (ob_Md G), show f_Md_valueOf [.ref 618, .int (nI b), .int (nI r), .int 0] (hp G) = _ from m_valueOf H h (k := 0) hrm (by decide), ci_some, m_visible H, ci_some, show f_Md_having [.ref 618, .int (nI b), .int (visA A), .int 0, .int (nI (aV A r 0))] (hp G) = _ from m_havV H h (k := 0) (by decide) (by omega), ci_some, show (1 : Int32) <<< (nI r &&& 31) = sbit r from rfl]
  -- the second loop
  have hfu : 300 < mm_fu := fu_lt (by omega)
  have two : ∀ (can : Bool) (f0 : Nat), 20 < f0 → mm_run p_Md_canGo f0 115 [.ref 618, .int (nI b), .int (nI r), .int (b2 can), .int 0, .int 0] [] (hp G) = some (some (.int (b2 (can && fitA P A (entR P A r) noE))), hp G) := fun can f0 hf0 => by
    have hEi : ∀ i, i < pNi P → entR P A r i = if belA P A i r then nI (valA P A i r) else -1 := fun i hi => ents_i hi
    have hmore : ∀ i, i < pNi P → moreE (entR P A r) noE i = if belA P A i r then 1 else 0 := fun i hi => by
      unfold moreE
      rw [hEi i hi]
      cases belA P A i r
      · rfl
      · have hv8 : valA P A i r ≤ 999 := hk.2.1 _ _ hrm (h.pp.2.2.1 i hi).2
        have hn1 : ¬ nI (valA P A i r) = -1 := n_m1 (by omega)
        rw [if_pos rfl, if_neg (show ¬ nI (valA P A i r) = noE i from hn1), if_neg hn1, if_pos (show noE i = -1 from rfl), if_pos rfl]
    have loop : ∀ (j i f : Nat), i + j = pNi P → j < f → mm_run p_Md_canGo f 115 [.ref 618, .int (nI b), .int (nI r), .int (b2 can), .int (nI (atSum (aJ A) (moreE (entR P A r) noE) i)), .int (nI i)] [] (hp G) = mm_run p_Md_canGo (f - j) 115 [.ref 618, .int (nI b), .int (nI r), .int (b2 can), .int (nI (atSum (aJ A) (moreE (entR P A r) noE) (pNi P))), .int (nI (pNi P))] [] (hp G) := by
      intro j
      induction j with
      | zero => intro i f hi _; rw [show i = pNi P by omega]; rfl
      | succ j ih =>
        intro i f hi hf
        obtain ⟨f, rfl⟩ : ∃ g, f = g + 1 := ⟨f - 1, by omega⟩
        have hil : i < pNi P := by omega
        rw [e_Md_canGo_115, m_indexes H.hP, ci_some, if_pos (lp hil (by omega)), m_belongs H h hil hrm, ci_some, show f_Md_asideBy [.ref 618, .int (nI b), .int (nI i), .int (b2 (belA P A i r)), .int 0, .int 0] (hp G) = _ from m_asideBy H hs (by omega) (belA P A i r) false false, ci_some, i_add, show nI i + 1 = nI (i + 1) from nI_add i 1]
        have : atSum (aJ A) (moreE (entR P A r) noE) i + (if isAtA A i && !false then (if belA P A i r then 1 else 0) + (if (false : Bool) then 1 else 0) else 0) = atSum (aJ A) (moreE (entR P A r) noE) (i + 1) := by
          rw [atSum_s, hmore i hil]
          unfold isAtA
          cases atO (aJ A) i <;> simp
        rw [this, ih (i + 1) f (by omega) (by omega), show f + 1 - (j + 1) = f - j by omega]
    have hl := loop (pNi P) 0 f0 (by omega) (by omega)
    rw [atSum_0] at hl
    rw [show mm_run p_Md_canGo f0 115 [.ref 618, .int (nI b), .int (nI r), .int (b2 can), .int 0, .int 0] [] (hp G) = _ from hl]
    obtain ⟨f1, hf1⟩ : ∃ f, f0 - pNi P = f + 1 := ⟨f0 - pNi P - 1, by omega⟩
    have hfr := fit_run (E := entR P A r) (F := noE) H hs h.atO
    rw [hf1, e_Md_canGo_115, m_indexes H.hP, ci_some, if_neg (lm (Nat.le_refl _) (by omega))]
    cases can
    · rw [if_pos (by decide)]; rfl
    · rw [if_neg (by decide), gg_Md_state, Option.bind_some, show mm_li (hp G) 628 (nI b + 12) = _ from rd hb 12 (by omega), Option.bind_some, Option.bind_some, show mm_li (hp G) 628 (nI b + 5) = _ from rd hb 5 (by omega), Option.bind_some]
      cases hfit : fitA P A (entR P A r) noE
      · rw [if_pos (hfr.mpr hfit)]; rfl
      · rw [if_neg (fun q => by rw [hfr, hfit] at q; exact absurd q (by decide))]; rfl
  -- the first loop
  have one : ∀ (last : Bool), mm_run p_Md_canGo mm_fu 42 [.ref 618, .int (nI b), .int (nI r), .int (nI (aV A r 0)), .int (b2 last), .int 1, .int 0] [] (hp G) = some (some (.int (b2 (!(last && firmAt (aN A) (aS A) (aT A) (nI (aV A r 0))) && fitA P A (entR P A r) noE))), hp G) := fun last => by
    have key : ∀ (j p f : Nat) (a : Bool), p + j = aN A → j + 30 < f → mm_run p_Md_canGo f 42 [.ref 618, .int (nI b), .int (nI r), .int (nI (aV A r 0)), .int (b2 last), .int (b2 a), .int (nI p)] [] (hp G) = some (some (.int (b2 ((a && !(last && ((List.range (aN A)).drop p).any (fun p => decide (aT A p = nI (aV A r 0)) && aS A p == 0))) && fitA P A (entR P A r) noE))), hp G) := by
      intro j
      induction j with
      | zero =>
        intro p f a hp1 hf
        obtain ⟨f, rfl⟩ : ∃ g, f = g + 1 := ⟨f - 1, by omega⟩
        rw [e_Md_canGo_42, gg_Md_state, Option.bind_some, show mm_li (hp G) 628 (nI b + 4) = _ from rd hb 4 (by omega), Option.bind_some, H.pt.1, if_neg (lm (by omega) (by omega)), two a f (by omega), List.drop_of_length_le (by simp; omega)]
        cases a <;> cases last <;> rfl
      | succ j ih =>
        intro p f a hp1 hf
        obtain ⟨f, rfl⟩ : ∃ g, f = g + 1 := ⟨f - 1, by omega⟩
        have hpn : p < aN A := by omega
        obtain ⟨hS2, -⟩ := h.kp.2 p hpn
        obtain ⟨p1, p2⟩ := H.pt.2 p hpn
        rw [e_Md_canGo_42, gg_Md_state, Option.bind_some, show mm_li (hp G) 628 (nI b + 4) = _ from rd hb 4 (by omega), Option.bind_some, H.pt.1, if_pos (lp hpn (by omega)), show nI p + 1 = nI (p + 1) from nI_add p 1, drop_cons (l := List.range (aN A)) (i := p) (by simpa using hpn), List.getElem_range, List.any_cons]
        cases a
        · rw [if_pos (by decide)]
          have := ih (p + 1) f false (by omega) (by omega)
          rw [Bool.false_and] at this ⊢
          exact this
        · rw [if_neg (by decide)]
          cases last
          · rw [if_pos (by decide)]
            have := ih (p + 1) f true (by omega) (by omega)
            rw [Bool.false_and] at this ⊢
            exact this
          · rw [if_neg (by decide), Option.bind_some, show mm_li (hp G) 628 ((nI b + 43) + nI p) = _ from rd2 hb 43 p (by omega), Option.bind_some, p1]
            have h1 := ih (p + 1) f true (by omega) (by omega)
            have h0 := ih (p + 1) f false (by omega) (by omega)
            by_cases e0 : aS A p = 0
            · rw [if_pos (show nI (aS A p) = (0 : Int32) from lq (n := 0) e0), Option.bind_some, show mm_li (hp G) 628 ((nI b + 55) + nI p) = _ from rd2 hb 55 p (by omega), Option.bind_some, p2]
              by_cases eT : aT A p = nI (aV A r 0)
              · rw [if_pos eT, decide_eq_true eT, show (aS A p == 0) = true by simpa using e0]
                refine Eq.trans h0 ?_
                simp
              · rw [if_neg eT, decide_eq_false eT, Bool.false_and, Bool.false_or]
                exact h1
            · rw [if_neg (show ¬ nI (aS A p) = (0 : Int32) from ln (n := 0) e0 (by omega) (by decide)), show (aS A p == 0) = false by simpa using e0, Bool.and_false, Bool.false_or]
              exact h1
    have := key (aN A) 0 mm_fu true (by omega) (by omega)
    rw [List.drop_zero, Bool.true_and] at this
    exact this
  have hce : canExp P A r = (!(aloneA A r 0 && firmAt (aN A) (aS A) (aT A) (nI (aV A r 0))) && fitA P A (entR P A r) noE) := by
    unfold canExp
    rw [hv, Bool.true_and]
  rw [hce, halone]
  by_cases g : havS (aV A) (visA A) 0 (aV A r 0) &&& (sbit r ^^^ (-1)) = 0
  · rw [if_pos g, decide_eq_true g]
    exact one true
  · rw [if_neg g, decide_eq_false g]
    exact one false
theorem m_removed (H : MS G b P A) (h : INV P A) (hr0 : r < 2147483648) : ∃ G', f_Md_removed [.ref 618, .int (nI b), .int (nI r)] (hp G) = some (some (.int (b2 (expO P A r).1)), hp G') ∧ MS G' b P (expO P A r).2 ∧ mdF (mB b) G G' := by
  have hb := H.hb
  have hni := h.ni
  have hs := h.os
  have hn12 := h.kp.1
  have hk := h.kr
  have hm30 := hk.1
  rw [e_Md_removed 618 _ _ _ (ob_Md G), m_isVisible H h hr0, ci_some]
  have no : canExp P A r = false → expO P A r = (false, A) := fun hc => by unfold expO; rw [hc]; rfl
  cases hv : bt (visA A) r
  · rw [if_pos (by decide), no (by unfold canExp; rw [hv]; rfl)]
    exact ⟨G, rfl, H, mdF.rf⟩
  · obtain ⟨hrm, hr⟩ := vis_lt hk hv
    have hv9 : aV A r 0 ≤ 999 := hk.2.1 r 0 hrm (by decide)
    rw [if_neg (by decide), m_canGo H h hv, ci_some]
    cases hc : canExp P A r
    · rw [if_pos (by decide), no hc]
      exact ⟨G, rfl, H, mdF.rf⟩
    · have hM := exp_mvH h hc
      have hfm : ¬ (aloneA A r 0 = true ∧ firmAt (aN A) (aS A) (aT A) (nI (aV A r 0)) = true) := fun q => by
        unfold canExp at hc
        rw [q.1, q.2] at hc
        simp at hc
      have hyes : expO P A r = (true, expA P A r) := by unfold expO; rw [hc]; rfl
      rw [hyes, if_neg (by decide), show f_Md_valueOf [.ref 618, .int (nI b), .int (nI r), .int 0] (hp G) = _ from m_valueOf H h (k := 0) hrm (by decide), ci_some, gg_Md_state, Option.bind_some, show mm_li (hp G) 628 (nI b + 0) = _ from rd hb 0 (by omega), Option.bind_some, show G.1 628 (b + 0) = aD A from H.d, show (1 : Int32) <<< (nI r &&& 31) = sbit r from rfl, show mm_si (hp G) 628 (nI b + 0) (aD A &&& (sbit r ^^^ (-1))) = _ from wr hb 0 (by omega) _, Option.bind_some]
      generalize hG1 : gsi G 628 (b + 0) (aD A &&& (sbit r ^^^ (-1))) = G1
      have ev1 : G1.1 628 = upd (G.1 628) b (aD A &&& (sbit r ^^^ (-1))) := by rw [← hG1]; rfl
      have ec1 : ∀ k, k ≠ b → G1.1 628 k = G.1 628 k := fun k hk => by rw [ev1, upd_ne _ _ hk]
      have q1 : mdF (mB b) G G1 := by rw [← hG1]; exact mdF.cell ⟨by omega, by omega⟩
      obtain ⟨g1, g2, g3, g4, g5, g6, g7, g8, g9, g10⟩ := gone_1 (A := A) (r := r)
      -- what is visible now
      have hset : ∀ q, bt (visB (aD A &&& (sbit r ^^^ (-1))) (aC A)) q = true → q < aM A := fun q hq => by
        by_cases h32 : q < 32
        · rw [bt_vis _ _ h32, b_and] at hq
          simp only [Bool.and_eq_true] at hq
          exact hk.2.2.1 q hq.1.1
        · rw [b_big (by omega)] at hq; exact absurd hq (by decide)
      have hvb : visB (aD A &&& (sbit r ^^^ (-1))) (aC A) = visA A &&& (sbit r ^^^ (-1)) := b_ext (fun q hq => by
        unfold visA
        rw [bt_vis _ _ hq, b_and, b_and, bt_vis _ _ hq]
        cases bt (aD A) q <;> cases bt (aC A) q <;> cases bt (sbit r ^^^ (-1)) q <;> rfl)
      have halone : (havS (aV A) (visB (aD A &&& (sbit r ^^^ (-1))) (aC A)) 0 (aV A r 0) = 0) ↔ aloneA A r 0 = true := by
        rw [hvb, hav_less (by omega)]
        unfold aloneA
        rw [decide_eq_true_eq]
      -- the pointers
      have key : ∀ (j p f : Nat) (G2 : GG), p + j = aN A → j + 1 < f → (∀ k, ¬ (b + 55 ≤ k ∧ k < b + 67) → G2.1 628 k = G1.1 628 k) → (∀ q, p ≤ q → q < aN A → G2.1 628 (b + 55 + q) = aT A q) → (∀ q, q < p → G2.1 628 (b + 55 + q) = aT (goneA A r) q) → mdF (mB b) G G2 → ∃ G3 f', f = f' + j + 1 ∧ mm_run p_Md_removed f 47 [.ref 618, .int (nI b), .int (nI r), .int (nI (aV A r 0)), .int (nI p)] [] (hp G2) = mm_run p_Md_removed f' 107 [.ref 618, .int (nI b), .int (nI r), .int 0] [] (hp G3) ∧ (∀ k, ¬ (b + 55 ≤ k ∧ k < b + 67) → G3.1 628 k = G1.1 628 k) ∧ (∀ q, q < aN A → G3.1 628 (b + 55 + q) = aT (goneA A r) q) ∧ mdF (mB b) G G3 := by
        intro j
        induction j with
        | zero =>
          intro p f G2 hp1 hf a1 a2 a3 q2
          obtain ⟨f, rfl⟩ : ∃ g, f = g + 1 := ⟨f - 1, by omega⟩
          refine ⟨G2, f, by omega, ?_, a1, fun q hq => a3 q (by omega), q2⟩
          rw [e_Md_removed_47, gg_Md_state, Option.bind_some, show mm_li (hp G2) 628 (nI b + 4) = _ from rd hb 4 (by omega), Option.bind_some, a1 _ (by omega), ec1 _ (by omega), H.pt.1, if_neg (lm (by omega) (by omega))]
        | succ j ih =>
          intro p f G2 hp1 hf a1 a2 a3 q2
          obtain ⟨f, rfl⟩ : ∃ g, f = g + 1 := ⟨f - 1, by omega⟩
          have hpn : p < aN A := by omega
          obtain ⟨hS2, hT⟩ := h.kp.2 p hpn
          have p1 : G2.1 628 (b + 43 + p) = nI (aS A p) := by rw [a1 _ (by omega), ec1 _ (by omega)]; exact (H.pt.2 p hpn).1
          have p2 := a2 p (Nat.le_refl _) hpn
          have wrap : ∀ G3 : GG, (∀ k, ¬ (b + 55 ≤ k ∧ k < b + 67) → G3.1 628 k = G1.1 628 k) → (∀ q, p + 1 ≤ q → q < aN A → G3.1 628 (b + 55 + q) = aT A q) → (∀ q, q < p + 1 → G3.1 628 (b + 55 + q) = aT (goneA A r) q) → mdF (mB b) G G3 → ∃ G4 f', f + 1 = f' + (j + 1) + 1 ∧ mm_run p_Md_removed f 47 [.ref 618, .int (nI b), .int (nI r), .int (nI (aV A r 0)), .int (nI (p + 1))] [] (hp G3) = mm_run p_Md_removed f' 107 [.ref 618, .int (nI b), .int (nI r), .int 0] [] (hp G4) ∧ (∀ k, ¬ (b + 55 ≤ k ∧ k < b + 67) → G4.1 628 k = G1.1 628 k) ∧ (∀ q, q < aN A → G4.1 628 (b + 55 + q) = aT (goneA A r) q) ∧ mdF (mB b) G G4 := fun G3 b1 b2 b3 b4 => by
            obtain ⟨G4, f', c2, c3⟩ := ih (p + 1) f G3 (by omega) (by omega) b1 b2 b3 b4
            exact ⟨G4, f', by omega, c3⟩
          rw [e_Md_removed_47, gg_Md_state, Option.bind_some, show mm_li (hp G2) 628 (nI b + 4) = _ from rd hb 4 (by omega), Option.bind_some, a1 _ (by omega), ec1 _ (by omega), H.pt.1, if_pos (lp hpn (by omega)), Option.bind_some, show mm_li (hp G2) 628 ((nI b + 55) + nI p) = _ from rd2 hb 55 p (by omega), Option.bind_some, p2, show nI p + 1 = nI (p + 1) from nI_add p 1]
          have stay : aT (goneA A r) p = aT A p → ∃ G4 f', f + 1 = f' + (j + 1) + 1 ∧ mm_run p_Md_removed f 47 [.ref 618, .int (nI b), .int (nI r), .int (nI (aV A r 0)), .int (nI (p + 1))] [] (hp G2) = mm_run p_Md_removed f' 107 [.ref 618, .int (nI b), .int (nI r), .int 0] [] (hp G4) ∧ (∀ k, ¬ (b + 55 ≤ k ∧ k < b + 67) → G4.1 628 k = G1.1 628 k) ∧ (∀ q, q < aN A → G4.1 628 (b + 55 + q) = aT (goneA A r) q) ∧ mdF (mB b) G G4 := fun e => wrap G2 a1 (fun q x1 x2 => a2 q (by omega) x2) (fun q hq => by
            by_cases eq : q = p
            · rw [eq, p2, e]
            · exact a3 q (by omega)) q2
          by_cases eT : aT A p = nI (aV A r 0)
          · have hvis2 : f_Md_visible [.ref 618, .int (nI b)] (hp G2) = some (some (.int (visB (aD A &&& (sbit r ^^^ (-1))) (aC A))), hp G2) := s_Md_visible hb (by rw [a1 _ (by omega), ev1, upd_at]) (by rw [a1 _ (by omega), ec1 _ (by omega)]; exact H.c)
            have hMV : isMV G2 b (aV A) (aM A) := fun q hq => by rw [a1 _ (by omega), ec1 _ (by omega)]; exact H.v q hq
            rw [if_pos eT, hvis2, ci_some, show f_Md_having [.ref 618, .int (nI b), .int (visB (aD A &&& (sbit r ^^^ (-1))) (aC A)), .int 0, .int (nI (aV A r 0))] (hp G2) = _ from s_Md_having (k := 0) hb hMV (okV3_of hk) hm30 hset (by decide) (by omega), ci_some]
            by_cases hal : aloneA A r 0 = true
            · have hS1 : aS A p = 1 ∨ aS A p = 2 := by
                rcases (show aS A p = 0 ∨ aS A p = 1 ∨ aS A p = 2 by omega) with e | e | e
                · exact absurd ⟨hal, firm_at hpn eT e⟩ hfm
                · exact Or.inl e
                · exact Or.inr e
              have eT2 : aT (goneA A r) p = if aS A p = 1 then -1 else -2 := by
                rw [g10, hal, if_pos rfl]
                unfold loosenAt ls
                rw [if_pos ⟨hpn, eT⟩, eT, if_neg (n_nneg (by omega))]
                rcases hS1 with e | e
                · rw [if_pos e, if_pos e]
                · rw [if_neg (by omega), if_pos e, if_neg (by omega)]
              rw [if_pos (halone.mpr hal), m_letsGo (S := aS A p) hb (by omega) p1 hS2, cv_some]
              refine wrap _ (fun k hk2 => ?_) (fun q x1 x2 => ?_) (fun q hq => ?_) (q2.tr (mdF.cell ⟨by omega, by omega⟩))
              · rw [gsi_i, if_pos rfl, upd_ne _ _ (by omega)]; exact a1 k hk2
              · rw [gsi_i, if_pos rfl, upd_ne _ _ (by omega)]; exact a2 q (by omega) x2
              · by_cases eq : q = p
                · rw [eq, gsi_i, if_pos rfl, upd_at, eT2]
                · rw [gsi_i, if_pos rfl, upd_ne _ _ (by omega)]; exact a3 q (by omega)
            · have hal' : aloneA A r 0 = false := by simpa using hal
              rw [if_neg (fun q => hal (halone.mp q))]
              exact stay (by rw [g10, hal', if_neg (by decide)])
          · rw [if_neg eT]
            refine stay ?_
            rw [g10]
            split
            · unfold loosenAt
              rw [if_neg (fun q => eT q.2)]
            · rfl
      have hfu : 300 < mm_fu := fu_lt (by omega)
      obtain ⟨G3, f', hf', r1, r2, r3, r4⟩ := key (aN A) 0 mm_fu G1 (by omega) (by omega) (fun k _ => rfl) (fun q _ hq => by rw [ec1 _ (by omega)]; exact (H.pt.2 q hq).2) (fun q hq => absurd hq (Nat.not_lt_zero _)) q1
      · rw [show mm_run p_Md_removed mm_fu 47 [.ref 618, .int (nI b), .int (nI r), .int (nI (aV A r 0)), .int 0] [] (hp G1) = _ from r1]
        have ec3 : ∀ k, k ≠ b → ¬ (b + 55 ≤ k ∧ k < b + 67) → G3.1 628 k = G.1 628 k := fun k x1 x2 => by rw [r2 k x2, ec1 k x1]
        have H3 : MS G3 b P (goneA A r) := by
          refine ⟨⟨hb, H.hP.fr r4⟩, ⟨?_, ?_, ?_, ?_⟩, fun q hq => ?_, ⟨?_, fun p hp1 => ?_⟩, fun j hj => ?_, ?_⟩
          · rw [g3, r2 _ (by omega), ev1, upd_at]
          · rw [g4, ec3 _ (by omega) (by omega)]; exact H.c
          · rw [g2, ec3 _ (by omega) (by omega)]; exact H.m
          · have : aX (goneA A r) = aX A := by unfold goneA looseA; split <;> rfl
            rw [this, ec3 _ (by omega) (by omega)]; exact H.x
          · rw [g2] at hq
            rw [g1, ec3 _ (by omega) (by omega)]; exact H.v q hq
          · rw [g7, ec3 _ (by omega) (by omega)]; exact H.pt.1
          · rw [g7] at hp1
            rw [g8]
            exact ⟨by rw [ec3 _ (by omega) (by omega)]; exact (H.pt.2 p hp1).1, r3 p hp1⟩
          · rw [g5]
            exact ms_tree H.2.2.2.2.1 (fun i hi => h.kl hi) hj (fun k k1 k2 => ec3 k (by omega) (by omega))
          · rw [g6]
            have hj := H.j
            cases hJ : aJ A with
            | none =>
              rw [hJ] at hj
              exact ⟨by rw [ec3 _ (by omega) (by omega)]; exact hj.1, by rw [ec3 _ (by omega) (by omega)]; exact hj.2⟩
            | some J =>
              have hk2 := h.ka.2.2.2
              rw [hJ] at hj hk2
              obtain ⟨-, z2, z3, -⟩ := (show okJ J from hk2)
              obtain ⟨⟨c5, c6, c7, c8, c9, c10, c11, c12⟩, s, rr, t, w⟩ := hj
              refine ⟨⟨by rw [ec3 _ (by omega) (by omega)]; exact c5, by rw [ec3 _ (by omega) (by omega)]; exact c6, by rw [ec3 _ (by omega) (by omega)]; exact c7, by rw [ec3 _ (by omega) (by omega)]; exact c8, by rw [ec3 _ (by omega) (by omega)]; exact c9, by rw [ec3 _ (by omega) (by omega)]; exact c10, by rw [ec3 _ (by omega) (by omega)]; exact c11, by rw [ec3 _ (by omega) (by omega)]; exact c12⟩, fun k hk3 => by rw [ec3 _ (by omega) (by omega)]; exact s k hk3, fun k hk3 => by rw [ec3 _ (by omega) (by omega), ec3 _ (by omega) (by omega)]; exact rr k hk3, fun ha => (t ha).cong (by rw [fl_len]; exact (h.st hJ ha).2.1) (fun k x1 x2 => ec3 k (by omega) (by omega)), fun p hp1 => ?_⟩
              rw [g7] at hp1
              rw [g8, g9, ec3 _ (by omega) (by omega)]
              have hw := w p hp1
              by_cases eT : aT A p = nI (aV A r 0)
              · have hB : aB A p = -1 := by
                  rcases h.b hp1 with q | ⟨v, -, -, v3, -⟩
                  · exact q
                  · exfalso
                    have hneg : nI (aV A r 0) < 0 := by
                      rw [← eT]
                      rcases v3 with ⟨-, q⟩ | ⟨-, q⟩ <;> rw [q] <;> decide
                    exact n_nneg (by omega) hneg
                unfold wasOk at hw ⊢
                have hw3 : G.1 628 (b + 67 + p) = -3 := by
                  apply Classical.byContradiction
                  intro hne
                  have : ¬ (G.1 628 (b + 67 + p) = -3 ∨ (aS A p = 1 ∧ aT A p = -2)) := fun q => q.elim hne (fun q => by
                    have hneg : nI (aV A r 0) < 0 := by rw [← eT, q.2]; decide
                    exact n_nneg (by omega) hneg)
                  rw [if_neg this] at hw
                  exact hw.2 hB
                rw [if_pos (Or.inl hw3)]
                exact hB
              · have : aT (goneA A r) p = aT A p := by
                  rw [g10]
                  split
                  · unfold loosenAt
                    rw [if_neg (fun q => eT q.2)]
                  · rfl
                rw [this]
                exact hw
        have hEi : ∀ i, i < pNi P → entR P A r i = if belA P A i r then nI (valA P A i r) else -1 := fun i hi => ents_i hi
        have hbA : ∀ i, belA P (goneA A r) i r = belA P A i r := fun i => bel_loc h.pp (fun k _ => by rw [g1])
        have go : ∀ (j i f : Nat) (G4 : GG) (C : AS), i + j = pNi P → j < f → mvd P (entR P A r) noE r i (goneA A r) C → C = (List.range i).foldl (moveE P (entR P A r) noE r) (goneA A r) → MS G4 b P C → mdF (mB b) G G4 → ∃ G', mm_run p_Md_removed f 107 [.ref 618, .int (nI b), .int (nI r), .int (nI i)] [] (hp G4) = some (some (.int (b2 true)), hp G') ∧ MS G' b P (expA P A r) ∧ mdF (mB b) G G' := by
          intro j
          induction j with
          | zero =>
            intro i f G4 C hi hf hd hC H4 q4
            obtain ⟨f, rfl⟩ : ∃ g, f = g + 1 := ⟨f - 1, by omega⟩
            rw [e_Md_removed_107, m_indexes H4.hP, ci_some, if_neg (lm (by omega) (by omega))]
            have : C = expA P A r := by
              rw [hC, show i = pNi P by omega]
              rfl
            rw [this] at H4
            exact ⟨G4, rfl, H4, q4⟩
          | succ j ih =>
            intro i f G4 C hi hf hd hC H4 q4
            obtain ⟨f, rfl⟩ : ∃ g, f = g + 1 := ⟨f - 1, by omega⟩
            have hil : i < pNi P := by omega
            have hs4 := mvd_oks hM (by omega) hd
            have hrC : r < aM C := by
              have : aM C = aM (goneA A r) := by unfold aM; rw [hd.1]
              rw [this, g2]; exact hrm
            have hco := (h.pp.2.2.1 i hil).2
            rw [e_Md_removed_107, m_indexes H4.hP, ci_some, if_pos (lp hil (by omega)), m_belS H4 hs4 hil hrC, ci_some, bel_eq hd.1 hd.2.1, hbA, show nI i + 1 = nI (i + 1) from nI_add i 1]
            have hnext : (List.range (i + 1)).foldl (moveE P (entR P A r) noE r) (goneA A r) = moveE P (entR P A r) noE r C i := by rw [List.range_succ, List.foldl_append, List.foldl_cons, List.foldl_nil, ← hC]
            have hEi' := hEi i hil
            cases hbl : belA P A i r
            · rw [hbl] at hEi'
              rw [if_pos (by decide)]
              have hmv : moveE P (entR P A r) noE r C i = C := by unfold moveE; rw [if_pos (show entR P A r i = noE i by rw [hEi']; rfl)]
              exact ih (i + 1) f G4 C (by omega) (by omega) (by have := mvd_s hd; rw [hmv] at this; exact this) (by rw [hnext, hmv]) H4 q4
            · rw [hbl, if_pos rfl] at hEi'
              have hv8 : valA P A i r ≤ 999 := hk.2.1 _ _ hrm hco
              have hne : entR P A r i ≠ noE i := by rw [hEi']; exact n_m1 (by omega)
              have eval : aV C r (pCo P i) = valA P A i r := by
                have : aV C = aV A := by
                  have : aV C = aV (goneA A r) := by unfold aV; rw [hd.1]
                  rw [this, g1]
                rw [this]; rfl
              rw [if_neg (by decide), m_columnAt H4.hP hni hil, ci_some, m_valS H4 hs4 hrC hco, ci_some, eval]
              obtain ⟨G5, s1, s2, s3, s4⟩ := mv_leave hM hil hd H4 hne hv8 hEi'
              have hmv : moveE P (entR P A r) noE r C i = takeE P C i r (entR P A r i) := by unfold moveE; rw [if_neg hne]; exact if_pos rfl
              rw [s1, cv_some]
              exact ih (i + 1) f G5 _ (by omega) (by omega) (mvd_s hd) hnext.symm (by rw [hmv]; exact s2) (q4.tr s4)
        exact go (pNi P) 0 f' G3 _ (by omega) (by omega) mvd_0 rfl H3 r4
end MDV
