/-! THE REFERENCE: a ROW changed -/
def mdE (S : Nat → Prop) (G G' : GG) : Prop := (∀ n, n ≠ 628 → n ≠ 618 → n ≠ 629 → n ≠ 630 → G'.1 n = G.1 n) ∧ G'.2 = G.2 ∧ (∀ k, k ≠ 20 → k ≠ 21 → G'.1 618 k = G.1 618 k) ∧ ∀ k, ¬ S k → G'.1 628 k = G.1 628 k
theorem mdF.e {S : Nat → Prop} {G G' : GG} (h : mdF S G G') : mdE S G G' := ⟨fun n a b _ _ => h.1 n a b, h.2.1, h.2.2.1, h.2.2.2⟩
theorem mdE.rf {S : Nat → Prop} {G : GG} : mdE S G G := mdF.rf.e
theorem mdE.tr {S : Nat → Prop} {G1 G2 G3 : GG} (h1 : mdE S G1 G2) (h2 : mdE S G2 G3) : mdE S G1 G3 := ⟨fun n a b c d => (h2.1 n a b c d).trans (h1.1 n a b c d), h2.2.1.trans h1.2.1, fun k a b => (h2.2.2.1 k a b).trans (h1.2.2.1 k a b), fun k a => (h2.2.2.2 k a).trans (h1.2.2.2 k a)⟩
theorem isMP.fre {S : Nat → Prop} {G G' : GG} {P : PP} (h : isMP G P) (hF : mdE S G G') : isMP G' P := h.off (hF.1 624 (by decide) (by decide) (by decide) (by decide)) (hF.1 625 (by decide) (by decide) (by decide) (by decide)) (hF.2.2.1 16 (by decide) (by decide))
theorem MS.scr {G : GG} {b : Nat} {P : PP} {A : AS} (H : MS G b P A) {n k : Nat} {v : Int32} (hn : n = 629 ∨ n = 630) : MS (gsi G n k v) b P A ∧ mdE (mB b) G (gsi G n k v) := by
  have q : mdE (mB b) G (gsi G n k v) := ⟨fun m a b c d => by rw [gsi_i, if_neg (by omega)], rfl, fun j a b => by rw [gsi_i, if_neg (by omega)], fun j _ => by rw [gsi_i, if_neg (by omega)]⟩
  refine ⟨⟨⟨H.hb, H.hP.fre q⟩, ?_⟩, q⟩
  rw [gsi_i, if_neg (by omega)]
  exact H.2
theorem nar_b2 (x : Bool) : vp_nar .boolean (b2 x) = b2 x := by cases x <;> rfl
theorem n_with {r o v u : Nat} : nI (r + o * u) + ((nI v - nI o) * nI u) = nI (r + v * u) := by
  rw [← nI_add, ← nI_add, ← n_mul, ← n_mul, Int32.sub_mul]
  generalize nI r = a
  generalize nI o * nI u = c
  generalize nI v * nI u = d
  rw [Int32.add_assoc, Int32.add_comm c, Int32.sub_add_cancel]
section MDY
variable {G : GG} {b : Nat} {P : PP} {A : AS} {r k v : Nat}
theorem m_with (hV : okV3 (aV A) (aM A)) (hr : r < aM A) (hk : k < 3) (hv : v ≤ 999) (h : mm_H) : f_Md_with [.int (nI (pkV (aV A) r)), .int (nI k), .int (nI v)] h = some (some (.int (nI (pkV (setV (aV A) r k v) r))), h) := by
  have h0 := hV r 0 hr (by decide)
  have h1 := hV r 1 hr (by decide)
  have h2 := hV r 2 hr (by decide)
  have hset : ∀ j, setV (aV A) r k v r j = if j = k then v else aV A r j := fun j => by
    unfold setV
    by_cases e : j = k
    · rw [if_pos ⟨rfl, e⟩, if_pos e]
    · rw [if_neg (fun q => e q.2), if_neg e]
  have hcol : ∀ {j : Nat}, j < 3 → f_Md_columnOf [.int (nI (pkV (aV A) r)), .int (nI j)] h = some (some (.int (nI (if j = 0 then aV A r 0 else if j = 1 then aV A r 1 else aV A r 2))), h) := fun hj => s_Md_columnOf h0 h1 h2 hj h
  rw [e_Md_with]
  rcases (show k = 0 ∨ k = 1 ∨ k = 2 by omega) with e | e | e
  · subst e
    rw [if_pos (show nI 0 = (0 : Int32) from rfl), hcol (by decide), ci_some, if_pos rfl]
    have : nI (pkV (aV A) r) + ((nI v - nI (aV A r 0)) * 1) = nI (pkV (setV (aV A) r 0 v) r) := by
      unfold pkV
      rw [hset, hset, hset, if_pos rfl, if_neg (by decide), if_neg (by decide)]
      have := n_with (r := 1000 * aV A r 1 + 1000000 * aV A r 2) (o := aV A r 0) (v := v) (u := 1)
      rw [show 1000 * aV A r 1 + 1000000 * aV A r 2 + aV A r 0 * 1 = aV A r 0 + 1000 * aV A r 1 + 1000000 * aV A r 2 by omega, show 1000 * aV A r 1 + 1000000 * aV A r 2 + v * 1 = v + 1000 * aV A r 1 + 1000000 * aV A r 2 by omega] at this
      exact this
    rw [this]
  · subst e
    rw [if_neg (show ¬ nI 1 = (0 : Int32) by decide), if_pos (show nI 1 = (1 : Int32) from rfl), hcol (by decide), ci_some, if_neg (by decide), if_pos rfl]
    have : nI (pkV (aV A) r) + ((nI v - nI (aV A r 1)) * 1000) = nI (pkV (setV (aV A) r 1 v) r) := by
      unfold pkV
      rw [hset, hset, hset, if_neg (by decide), if_pos rfl, if_neg (by decide)]
      have := n_with (r := aV A r 0 + 1000000 * aV A r 2) (o := aV A r 1) (v := v) (u := 1000)
      rw [show aV A r 0 + 1000000 * aV A r 2 + aV A r 1 * 1000 = aV A r 0 + 1000 * aV A r 1 + 1000000 * aV A r 2 by omega, show aV A r 0 + 1000000 * aV A r 2 + v * 1000 = aV A r 0 + 1000 * v + 1000000 * aV A r 2 by omega] at this
      exact this
    rw [this]
  · subst e
    rw [if_neg (show ¬ nI 2 = (0 : Int32) by decide), if_neg (show ¬ nI 2 = (1 : Int32) by decide), hcol (by decide), ci_some, if_neg (by decide), if_neg (by decide)]
    have : nI (pkV (aV A) r) + ((nI v - nI (aV A r 2)) * 1000000) = nI (pkV (setV (aV A) r 2 v) r) := by
      unfold pkV
      rw [hset, hset, hset, if_neg (by decide), if_neg (by decide), if_pos rfl]
      have := n_with (r := aV A r 0 + 1000 * aV A r 1) (o := aV A r 2) (v := v) (u := 1000000)
      rw [show aV A r 0 + 1000 * aV A r 1 + aV A r 2 * 1000000 = aV A r 0 + 1000 * aV A r 1 + 1000000 * aV A r 2 by omega, show aV A r 0 + 1000 * aV A r 1 + v * 1000000 = aV A r 0 + 1000 * aV A r 1 + 1000000 * v by omega] at this
      exact this
    rw [this]
theorem amd_mvH (h : INV P A) (hk3 : k < 3) (hv999 : v ≤ 999) (hv : bt (visA A) r = true) (hfit : fitA P (chgR A r k v) (entR P A r) (entR P (chgR A r k v) r) = true) : mvH P A (chgR A r k v) (entR P A r) (entR P (chgR A r k v) r) r := by
  have hP := h.pp
  have hk := h.kr
  obtain ⟨hrm, hr⟩ := vis_lt hk hv
  obtain ⟨hrD, hrC⟩ := visA_d (by omega) hv
  have hval : ∀ q, q ≠ r → ∀ j, aV (chgR A r k v) q j = aV A q j := fun q hq j => if_neg (fun e => hq e.1)
  have hkR : okR (aV (chgR A r k v)) (aM (chgR A r k v)) (aD (chgR A r k v)) (aC (chgR A r k v)) := by
    refine ⟨hk.1, fun q j hq hj => ?_, hk.2.2⟩
    show setV (aV A) r k v q j ≤ 999
    unfold setV
    split
    · exact hv999
    · exact hk.2.1 q j hq hj
  exact ⟨⟨h, hr, hrC⟩, ⟨rfl, rfl, rfl⟩, hfit, fun i hi c hcr => okV_loc hP hi (fun j _ => hval _ hcr j) rfl, ⟨fun i hi => ents_ent hi (hk.2.1 _ _ hrm (hP.2.2.1 i hi).2) hr hv, fun i hi => ents_ent hi (hkR.2.1 _ _ hrm (hP.2.2.1 i hi).2) hr hv⟩, hkR, h.kp⟩
/-- all from where the change is allowed -/
theorem m_chg92 (H : MS G b P A) (h : INV P A) (hk3 : k < 3) (hv999 : v ≤ 999) (hv : bt (visA A) r = true) : ∃ G', mm_run p_Md_changed mm_fu 92 [.ref 618, .int (nI b), .int (nI r), .int (nI k), .int (nI v), .int 0] [] (hp G) = some (some (.int (b2 (fitA P (chgR A r k v) (entR P A r) (entR P (chgR A r k v) r)))), hp G') ∧ MS G' b P (if fitA P (chgR A r k v) (entR P A r) (entR P (chgR A r k v) r) then amdA P A r k v else A) ∧ mdE (mB b) G G' := by
  have hb := H.hb
  have hni := h.ni
  have hs := h.os
  have hk := h.kr
  have hm30 := hk.1
  obtain ⟨hrm, hr⟩ := vis_lt hk hv
  have hfu : 300 < mm_fu := fu_lt (by omega)
  -- what was
  have first : ∀ (j i f : Nat) (G1 : GG), i + j = pNi P → j < f → MS G1 b P A → mdE (mB b) G G1 → (∀ q, q < i → G1.1 629 q = b2 (belA P A q r) ∧ G1.1 630 q = nI (valA P A q r)) → ∃ G2 f', f = f' + j ∧ mm_run p_Md_changed f 92 [.ref 618, .int (nI b), .int (nI r), .int (nI k), .int (nI v), .int (nI i)] [] (hp G1) = mm_run p_Md_changed f' 92 [.ref 618, .int (nI b), .int (nI r), .int (nI k), .int (nI v), .int (nI (pNi P))] [] (hp G2) ∧ MS G2 b P A ∧ mdE (mB b) G G2 ∧ ∀ q, q < pNi P → G2.1 629 q = b2 (belA P A q r) ∧ G2.1 630 q = nI (valA P A q r) := by
    intro j
    induction j with
    | zero => intro i f G1 hi hf H1 q1 a; rw [show i = pNi P by omega] at *; exact ⟨G1, f, rfl, rfl, H1, q1, a⟩
    | succ j ih =>
      intro i f G1 hi hf H1 q1 a
      obtain ⟨f, rfl⟩ : ∃ g, f = g + 1 := ⟨f - 1, by omega⟩
      have hil : i < pNi P := by omega
      have hco := (h.pp.2.2.1 i hil).2
      obtain ⟨H2, q2⟩ := H1.scr (n := 629) (k := i) (v := b2 (belA P A i r)) (Or.inl rfl)
      obtain ⟨H3, q3⟩ := H2.scr (n := 630) (k := i) (v := nI (valA P A i r)) (Or.inr rfl)
      rw [e_Md_changed_92, m_indexes H1.hP, ci_some, if_pos (lp hil (by omega)), gg_Md_belonged, Option.bind_some, m_belongs H1 h hil hrm, ci_some, uu_Md_belonged _ (by omega), Option.bind_some, nar_b2, gg_Md_valued, Option.bind_some, m_columnAt H2.hP hni hil, ci_some, m_valueOf H2 h hrm hco, ci_some, uu_Md_valued _ (by omega), Option.bind_some, show nI i + 1 = nI (i + 1) from nI_add i 1]
      obtain ⟨G4, f', e1, e2⟩ := ih (i + 1) f _ (by omega) (by omega) H3 ((q1.tr q2).tr q3) (fun q hq => by
        rw [gsi_i, if_neg (by decide), gsi_i, if_pos rfl, gsi_i, if_pos rfl, gsi_i, if_neg (by decide)]
        by_cases eq : q = i
        · subst eq; rw [upd_at, upd_at]; exact ⟨rfl, rfl⟩
        · rw [upd_ne _ _ eq, upd_ne _ _ eq]; exact a q (by omega))
      exact ⟨G4, f', by omega, e2⟩
  obtain ⟨G1, f1, hf1, r1, H1, q1, hold1⟩ := first (pNi P) 0 mm_fu G (by omega) (by omega) H mdE.rf (fun q hq => absurd hq (Nat.not_lt_zero _))
  obtain ⟨f1, rfl⟩ : ∃ g, f1 = g + 1 := ⟨f1 - 1, by omega⟩
  rw [show mm_run p_Md_changed mm_fu 92 [.ref 618, .int (nI b), .int (nI r), .int (nI k), .int (nI v), .int 0] [] (hp G) = _ from r1, e_Md_changed_92, m_indexes H1.hP, ci_some, if_neg (lm (Nat.le_refl _) (by omega)), gg_Md_state, Option.bind_some, i_row, rr_Md_state _ (by omega), Option.bind_some, Option.bind_some, H1.v r hrm, m_with (okV3_of hk) hrm hk3 hv999, ci_some, uu_Md_state _ (by omega), Option.bind_some]
  -- the row as it will be
  generalize hG2 : gsi G1 628 (b + 13 + r) (nI (pkV (setV (aV A) r k v) r)) = G2
  have ev2 : G2.1 628 = upd (G1.1 628) (b + 13 + r) (nI (pkV (setV (aV A) r k v) r)) := by rw [← hG2]; rfl
  have q2 : mdF (mB b) G1 G2 := by rw [← hG2]; exact mdF.cell ⟨by omega, by omega⟩
  have hscr2 : ∀ q, q < pNi P → G2.1 629 q = b2 (belA P A q r) ∧ G2.1 630 q = nI (valA P A q r) := fun q hq => by
    rw [q2.1 629 (by decide) (by decide), q2.1 630 (by decide) (by decide)]; exact hold1 q hq
  have H2 : MS G2 b P (chgR A r k v) := ⟨⟨hb, H1.hP.fr q2⟩, H1.setRU hs (f' := G2.1 628) (V := setV (aV A) r k v) (m := aM A) (D := aD A) hm30 (fun j x1 x2 x3 => by rw [ev2, upd_ne _ _ (by omega)]) (by rw [ev2, upd_ne _ _ (by omega)]; exact H1.d) (by rw [ev2, upd_ne _ _ (by omega)]; exact H1.m) (fun q hq => by
    by_cases eq : q = r
    · rw [eq, ev2, upd_at]
    · rw [ev2, upd_ne _ _ (by omega)]
      have : pkV (setV (aV A) r k v) q = pkV (aV A) q := by
        unfold pkV setV
        rw [if_neg (fun e => eq e.1), if_neg (fun e => eq e.1), if_neg (fun e => eq e.1)]
      rw [this]
      exact H1.v q hq)⟩
  have hkR : okR (aV (chgR A r k v)) (aM (chgR A r k v)) (aD (chgR A r k v)) (aC (chgR A r k v)) := by
    refine ⟨hk.1, fun q j hq hj => ?_, hk.2.2⟩
    show setV (aV A) r k v q j ≤ 999
    unfold setV
    split
    · exact hv999
    · exact hk.2.1 q j hq hj
  have hs2 : okS P (chgR A r k v) := ⟨⟨h.pp, hkR, h.kp, h.ka.2.2.1, h.ka.2.2.2⟩, hs.2⟩
  have hEi : ∀ i, i < pNi P → entR P A r i = if belA P A i r then nI (valA P A i r) else -1 := fun i hi => ents_i hi
  have hFi : ∀ i, i < pNi P → entR P (chgR A r k v) r i = if belA P (chgR A r k v) i r then nI (valA P (chgR A r k v) i r) else -1 := fun i hi => ents_i hi
  have hvE : ∀ i, i < pNi P → valA P A i r ≤ 999 := fun i hi => hk.2.1 _ _ hrm (h.pp.2.2.1 i hi).2
  have hvF : ∀ i, i < pNi P → valA P (chgR A r k v) i r ≤ 999 := fun i hi => hkR.2.1 _ _ hrm (h.pp.2.2.1 i hi).2
  generalize hE : entR P A r = E at *
  generalize hF : entR P (chgR A r k v) r = F at *
  have hrB : r < aM (chgR A r k v) := hrm
  have hmore : ∀ i, i < pNi P → moreE E F i = if (belA P A i r && belA P (chgR A r k v) i r && decide (valA P A i r = valA P (chgR A r k v) i r)) then 0 else (if belA P A i r then 1 else 0) + (if belA P (chgR A r k v) i r then 1 else 0) := fun i hi => by
    unfold moreE
    rw [hEi i hi, hFi i hi]
    have e1 : ¬ nI (valA P A i r) = -1 := n_m1 (by have := hvE i hi; omega)
    have e2 : ¬ nI (valA P (chgR A r k v) i r) = -1 := n_m1 (by have := hvF i hi; omega)
    cases belA P A i r <;> cases belA P (chgR A r k v) i r
    · rfl
    · simp [e2, Ne.symm e2, show ¬ (-1 : Int32) = nI (valA P (chgR A r k v) i r) from fun e => e2 e.symm]
    · simp [e1]
    · by_cases g : valA P A i r = valA P (chgR A r k v) i r
      · simp [g]
      · have : ¬ nI (valA P A i r) = nI (valA P (chgR A r k v) i r) := ln g (by have := hvE i hi; omega) (by have := hvF i hi; omega)
        simp [g, this, e1, e2]
  -- how many would come on the side
  have second : ∀ (j i f : Nat), i + j = pNi P → j < f → mm_run p_Md_changed f 179 [.ref 618, .int (nI b), .int (nI r), .int (nI (pkV (aV A) r)), .int (nI (atSum (aJ A) (moreE E F) i)), .int (nI i)] [] (hp G2) = mm_run p_Md_changed (f - j) 179 [.ref 618, .int (nI b), .int (nI r), .int (nI (pkV (aV A) r)), .int (nI (atSum (aJ A) (moreE E F) (pNi P))), .int (nI (pNi P))] [] (hp G2) := by
    intro j
    induction j with
    | zero => intro i f hi _; rw [show i = pNi P by omega]; rfl
    | succ j ih =>
      intro i f hi hf
      obtain ⟨f, rfl⟩ : ∃ g, f = g + 1 := ⟨f - 1, by omega⟩
      have hil : i < pNi P := by omega
      have hco := (h.pp.2.2.1 i hil).2
      have hsum := atSum_s (aJ A) (moreE E F) i
      rw [hmore i hil] at hsum
      have hnx := ih (i + 1) f (by omega) (by omega)
      rw [e_Md_changed_179, m_indexes H2.hP, ci_some, if_pos (lp hil (by omega)), gg_Md_belonged, Option.bind_some, rr_Md_belonged _ (by omega), Option.bind_some, (hscr2 i hil).1, m_belS H2 hs2 hil hrB, show nI i + 1 = nI (i + 1) from nI_add i 1, show f + 1 - (j + 1) = f - j by omega, ← hnx]
      have hat : isAtA (chgR A r k v) i = atO (aJ A) i := rfl
      cases hb1 : belA P A i r
      · rw [if_pos (by decide), Option.bind_some, rr_Md_belonged _ (by omega), Option.bind_some, (hscr2 i hil).1, hb1, ci_some, show f_Md_asideBy [.ref 618, .int (nI b), .int (nI i), .int (b2 false), .int (b2 (belA P (chgR A r k v) i r)), .int 0] (hp G2) = _ from m_asideBy H2 hs2 (by omega) false (belA P (chgR A r k v) i r) false, ci_some, i_add, hat]
        rw [hb1] at hsum
        rw [hsum]
        cases atO (aJ A) i <;> simp
      · rw [if_neg (by decide), ci_some]
        cases hb2 : belA P (chgR A r k v) i r
        · rw [if_pos (by decide), gg_Md_belonged, Option.bind_some, rr_Md_belonged _ (by omega), Option.bind_some, (hscr2 i hil).1, hb1, m_belS H2 hs2 hil hrB, ci_some, hb2, show f_Md_asideBy [.ref 618, .int (nI b), .int (nI i), .int (b2 true), .int (b2 false), .int 0] (hp G2) = _ from m_asideBy H2 hs2 (by omega) true false false, ci_some, i_add, hat]
          rw [hb1, hb2] at hsum
          rw [hsum]
          cases atO (aJ A) i <;> simp
        · rw [if_neg (by decide), gg_Md_valued, Option.bind_some, rr_Md_valued _ (by omega), Option.bind_some, (hscr2 i hil).2, m_columnAt H2.hP hni hil, ci_some, m_valS H2 hs2 hrB hco, ci_some, show aV (chgR A r k v) r (pCo P i) = valA P (chgR A r k v) i r from rfl]
          rw [hb1, hb2] at hsum
          by_cases g : valA P A i r = valA P (chgR A r k v) i r
          · rw [if_pos (lq g), gg_Md_belonged, Option.bind_some, rr_Md_belonged _ (by omega), Option.bind_some, (hscr2 i hil).1, hb1, m_belS H2 hs2 hil hrB, ci_some, hb2, show f_Md_asideBy [.ref 618, .int (nI b), .int (nI i), .int (b2 true), .int (b2 true), .int 1] (hp G2) = _ from m_asideBy H2 hs2 (by omega) true true true, ci_some, i_add, hsum]
            cases atO (aJ A) i <;> simp [g]
          · rw [if_neg (ln g (by have := hvE i hil; omega) (by have := hvF i hil; omega)), gg_Md_belonged, Option.bind_some, rr_Md_belonged _ (by omega), Option.bind_some, (hscr2 i hil).1, hb1, m_belS H2 hs2 hil hrB, ci_some, hb2, show f_Md_asideBy [.ref 618, .int (nI b), .int (nI i), .int (b2 true), .int (b2 true), .int 0] (hp G2) = _ from m_asideBy H2 hs2 (by omega) true true false, ci_some, i_add, hat, hsum]
            cases atO (aJ A) i <;> simp [g]
  have hl := second (pNi P) 0 f1 (by omega) (by omega)
  rw [atSum_0] at hl
  rw [show mm_run p_Md_changed f1 179 [.ref 618, .int (nI b), .int (nI r), .int (nI (pkV (aV A) r)), .int 0, .int 0] [] (hp G2) = _ from hl]
  obtain ⟨f2, hf2⟩ : ∃ f, f1 - pNi P = f + 1 := ⟨f1 - pNi P - 1, by omega⟩
  have hfr : (40 : Int32) < (G2.1 628 (b + 12) * G2.1 628 (b + 5)) + nI (atSum (aJ A) (moreE E F) (pNi P)) ↔ fitA P (chgR A r k v) E F = false := fit_run (E := E) (F := F) (C := chgR A r k v) H2 hs2 h.atO
  rw [hf2, e_Md_changed_179, m_indexes H2.hP, ci_some, if_neg (lm (Nat.le_refl _) (by omega)), gg_Md_state, Option.bind_some, show mm_li (hp G2) 628 (nI b + 12) = _ from rd hb 12 (by omega), Option.bind_some, Option.bind_some, show mm_li (hp G2) 628 (nI b + 5) = _ from rd hb 5 (by omega), Option.bind_some]
  cases hfit : fitA P (chgR A r k v) E F
  · rw [if_pos (hfr.mpr hfit), if_neg (by decide), Option.bind_some, i_row, uu_Md_state _ (by omega), Option.bind_some]
    have e3 : (gsi G2 628 (b + 13 + r) (nI (pkV (aV A) r))).1 628 = G1.1 628 := by
      rw [gsi_i, if_pos rfl, ev2]
      funext j
      by_cases ej : j = b + 13 + r
      · rw [ej, upd_at]; exact (H1.v r hrm).symm
      · rw [upd_ne _ _ ej, upd_ne _ _ ej]
    have q3 : mdF (mB b) G2 (gsi G2 628 (b + 13 + r) (nI (pkV (aV A) r))) := mdF.cell ⟨by omega, by omega⟩
    refine ⟨_, rfl, ⟨⟨hb, H1.hP.fr (q2.tr q3)⟩, ?_⟩, (q1.tr q2.e).tr q3.e⟩
    rw [e3]
    exact H1.2
  · have hM : mvH P A (chgR A r k v) E F r := by
      have := amd_mvH (r := r) h hk3 hv999 hv (by rw [hE, hF]; exact hfit)
      rw [hE, hF] at this
      exact this
    rw [if_neg (fun q => by rw [hfr, hfit] at q; exact absurd q (by decide)), if_pos rfl]
    have go : ∀ (j i f : Nat) (G3 : GG) (C : AS), i + j = pNi P → 2 * j < f → mvd P E F r i (chgR A r k v) C → C = (List.range i).foldl (moveE P E F r) (chgR A r k v) → MS G3 b P C → mdF (mB b) G2 G3 → ∃ G', mm_run p_Md_changed f 317 [.ref 618, .int (nI b), .int (nI r), .int (nI i)] [] (hp G3) = some (some (.int (b2 true)), hp G') ∧ MS G' b P (amdA P A r k v) ∧ mdF (mB b) G2 G' := by
      intro j
      induction j with
      | zero =>
        intro i f G3 C hi hf hd hC H3 q3
        obtain ⟨f, rfl⟩ : ∃ g, f = g + 1 := ⟨f - 1, by omega⟩
        rw [e_Md_changed_317, m_indexes H3.hP, ci_some, if_neg (lm (by omega) (by omega))]
        have : C = amdA P A r k v := by
          rw [hC, show i = pNi P by omega]
          unfold amdA moveA
          rw [hE, hF]
        rw [this] at H3
        exact ⟨G3, rfl, H3, q3⟩
      | succ j ih =>
        intro i f G3 C hi hf hd hC H3 q3
        obtain ⟨f, rfl⟩ : ∃ g, f = g + 2 := ⟨f - 2, by omega⟩
        have hil : i < pNi P := by omega
        have hs3 := mvd_oks hM (by omega) hd
        have hrC : r < aM C := by
          have : aM C = aM (chgR A r k v) := by unfold aM; rw [hd.1]
          rw [this]; exact hrm
        have hco := (h.pp.2.2.1 i hil).2
        have eval : aV C r (pCo P i) = valA P (chgR A r k v) i r := by
          have : aV C = aV (chgR A r k v) := by unfold aV; rw [hd.1]
          rw [this]; rfl
        have s3 : ∀ {G' : GG}, mdF (mB b) G2 G' → G'.1 629 i = b2 (belA P A i r) ∧ G'.1 630 i = nI (valA P A i r) := fun q => by
          rw [q.1 629 (by decide) (by decide), q.1 630 (by decide) (by decide)]; exact hscr2 i hil
        have hnext : (List.range (i + 1)).foldl (moveE P E F r) (chgR A r k v) = moveE P E F r C i := by rw [List.range_succ, List.foldl_append, List.foldl_cons, List.foldl_nil, ← hC]
        have hE' := hEi i hil
        have hF' := hFi i hil
        have hvE' := hvE i hil
        have hvF' := hvF i hil
        rw [e_Md_changed_317, m_indexes H3.hP, ci_some, if_pos (lp hil (by omega)), m_columnAt H3.hP hni hil, ci_some, m_valS H3 hs3 hrC hco, ci_some, eval, m_belS H3 hs3 hil hrC, ci_some, bel_eq hd.1 hd.2.1, gg_Md_belonged, Option.bind_some, rr_Md_belonged _ (by omega), Option.bind_some, (s3 q3).1]
        -- behind what goes
        have skip : ∀ {G4 : GG}, moveE P E F r C i = C → G4 = G3 → ∃ G', mm_run p_Md_changed f 317 [.ref 618, .int (nI b), .int (nI r), .int (nI i + 1)] [] (hp G4) = some (some (.int (b2 true)), hp G') ∧ MS G' b P (amdA P A r k v) ∧ mdF (mB b) G2 G' := fun hmv e4 => by
          subst e4
          rw [show nI i + 1 = nI (i + 1) from nI_add i 1]
          exact ih (i + 1) f _ C (by omega) (by omega) (by have := mvd_s hd; rw [hmv] at this; exact this) (by rw [hnext, hmv]) H3 q3
        have done : ∀ {G4 : GG}, MS G4 b P (moveE P E F r C i) → mdF (mB b) G2 G4 → ∃ G', mm_run p_Md_changed f 317 [.ref 618, .int (nI b), .int (nI r), .int (nI i + 1)] [] (hp G4) = some (some (.int (b2 true)), hp G') ∧ MS G' b P (amdA P A r k v) ∧ mdF (mB b) G2 G' := fun H4 q4 => by
          rw [show nI i + 1 = nI (i + 1) from nI_add i 1]
          exact ih (i + 1) f _ _ (by omega) (by omega) (mvd_s hd) hnext.symm H4 q4
        cases hb1 : belA P A i r
        · rw [hb1] at hE'
          have hE1 : E i = -1 := hE'
          have etk : takeE P C i r (E i) = C := if_pos hE1
          rw [if_pos (by decide), e_Md_changed_392]
          cases hb2 : belA P (chgR A r k v) i r
          · rw [hb2] at hF'
            rw [if_pos (by decide)]
            exact skip (by unfold moveE; rw [if_pos (by rw [hE1, hF']; rfl)]) rfl
          · rw [hb2, if_pos rfl] at hF'
            have hne : E i ≠ F i := by rw [hE1, hF']; exact fun e => n_m1 (show valA P (chgR A r k v) i r < 2147483648 by omega) e.symm
            rw [if_neg (by decide), gg_Md_belonged, Option.bind_some, rr_Md_belonged _ (by omega), Option.bind_some, (s3 q3).1, hb1, if_pos (by decide)]
            obtain ⟨G4, u1, u2, u3⟩ := mv_enter hM hil hd (by rw [etk]; exact H3) (by rw [etk]; exact hs3) hne hvF' hF'
            rw [u1, cv_some]
            exact done u2 (q3.tr u3)
        · rw [hb1, if_pos rfl] at hE'
          have hnE : ¬ E i = -1 := by rw [hE']; exact n_m1 (by omega)
          rw [if_neg (by decide)]
          cases hb2 : belA P (chgR A r k v) i r
          · rw [hb2] at hF'
            have hF1 : F i = -1 := hF'
            have hne : E i ≠ F i := by rw [hF1]; exact hnE
            rw [if_pos (by decide), gg_Md_valued, Option.bind_some, rr_Md_valued _ (by omega), Option.bind_some, (s3 q3).2]
            obtain ⟨G4, u1, u2, u3, u4⟩ := mv_leave hM hil hd H3 hne hvE' hE'
            rw [u1, cv_some, e_Md_changed_392, if_pos (by decide)]
            have hmv : moveE P E F r C i = takeE P C i r (E i) := by unfold moveE; rw [if_neg hne]; exact if_pos hF1
            exact done (by rw [hmv]; exact u2) (q3.tr u4)
          · rw [hb2, if_pos rfl] at hF'
            rw [if_neg (by decide), gg_Md_valued, Option.bind_some, rr_Md_valued _ (by omega), Option.bind_some, (s3 q3).2]
            by_cases g : valA P (chgR A r k v) i r = valA P A i r
            · rw [if_pos (lq g), e_Md_changed_392, if_neg (by decide), gg_Md_belonged, Option.bind_some, rr_Md_belonged _ (by omega), Option.bind_some, (s3 q3).1, hb1, if_neg (by decide), gg_Md_valued, Option.bind_some, rr_Md_valued _ (by omega), Option.bind_some, (s3 q3).2, if_pos (lq g)]
              exact skip (by unfold moveE; rw [if_pos (by rw [hE', hF', g])]) rfl
            · have hne : E i ≠ F i := by rw [hE', hF']; exact ln (fun e => g e.symm) (by omega) (by omega)
              have hgn : ¬ nI (valA P (chgR A r k v) i r) = nI (valA P A i r) := ln g (by omega) (by omega)
              rw [if_neg hgn, Option.bind_some, rr_Md_valued _ (by omega), Option.bind_some, (s3 q3).2]
              obtain ⟨G4, u1, u2, u3, u4⟩ := mv_leave hM hil hd H3 hne hvE' hE'
              rw [u1, cv_some, e_Md_changed_392, if_neg (by decide), gg_Md_belonged, Option.bind_some, rr_Md_belonged _ (by omega), Option.bind_some, (s3 (q3.tr u4)).1, hb1, if_neg (by decide), gg_Md_valued, Option.bind_some, rr_Md_valued _ (by omega), Option.bind_some, (s3 (q3.tr u4)).2, if_neg hgn]
              obtain ⟨G5, w1, w2, w3⟩ := mv_enter hM hil hd u2 u3 hne hvF' hF'
              rw [w1, cv_some]
              exact done w2 ((q3.tr u4).tr w3)
    obtain ⟨G', z1, z2, z3⟩ := go (pNi P) 0 f2 G2 _ (by omega) (by omega) mvd_0 rfl H2 mdF.rf
    exact ⟨G', z1, z2, (q1.tr q2.e).tr z3.e⟩
theorem m_changed (H : MS G b P A) (h : INV P A) (hr0 : r < 2147483648) (hk3 : k < 3) (hv999 : v ≤ 999) : ∃ G', f_Md_changed [.ref 618, .int (nI b), .int (nI r), .int (nI k), .int (nI v)] (hp G) = some (some (.int (b2 (amdO P A r k v).1)), hp G') ∧ MS G' b P (amdO P A r k v).2 ∧ mdE (mB b) G G' := by
  have hk := h.kr
  have hm30 := hk.1
  rw [e_Md_changed 618 _ _ _ _ _ (ob_Md G), m_isVisible H h hr0, ci_some]
  have no : canAmd P A r k v = false → amdO P A r k v = (false, A) := fun hc => by unfold amdO; rw [hc]; rfl
  have nog : canAmd P A r k v = false → ∃ G', some (some (Value.int 0), hp G) = some (some (.int (b2 (amdO P A r k v).1)), hp G') ∧ MS G' b P (amdO P A r k v).2 ∧ mdE (mB b) G G' := fun hc => by rw [no hc]; exact ⟨G, rfl, H, mdE.rf⟩
  cases hv : bt (visA A) r
  · rw [if_pos (by decide)]
    exact nog (by unfold canAmd; rw [hv]; rfl)
  · obtain ⟨hrm, hr⟩ := vis_lt hk hv
    have hv9 := hk.2.1 r k hrm hk3
    have halone : aloneA A r k = decide (havS (aV A) (visA A) k (aV A r k) &&& (sbit r ^^^ (-1)) = 0) := rfl
    have yes : (aV A r k = v ∨ (clashA P A k v = 0 ∧ heldA A r k = false)) → ∃ G', mm_run p_Md_changed mm_fu 92 [.ref 618, .int (nI b), .int (nI r), .int (nI k), .int (nI v), .int 0] [] (hp G) = some (some (.int (b2 (amdO P A r k v).1)), hp G') ∧ MS G' b P (amdO P A r k v).2 ∧ mdE (mB b) G G' := fun hor => by
      have hce : canAmd P A r k v = fitA P (chgR A r k v) (entR P A r) (entR P (chgR A r k v) r) := by
        unfold canAmd
        rw [hv]
        rcases hor with e | ⟨e1, e2⟩
        · rw [decide_eq_true e]; rfl
        · rw [decide_eq_true e1, e2]; simp
      obtain ⟨G', z1, z2, z3⟩ := m_chg92 H h hk3 hv999 hv
      rw [← hce] at z1 z2
      refine ⟨G', ?_, ?_, z3⟩
      · rw [z1]; unfold amdO; cases canAmd P A r k v <;> rfl
      · unfold amdO; cases hcc : canAmd P A r k v <;> rw [hcc] at z2 <;> exact z2
    have hnoc : aV A r k ≠ v → clashA P A k v ≠ 0 ∨ heldA A r k = true → canAmd P A r k v = false := fun e1 e2 => by
      unfold canAmd
      rw [decide_eq_false e1]
      rcases e2 with e | e
      · rw [decide_eq_false e]; simp
      · rw [e]; simp
    rw [if_neg (by decide), m_valueOf H h hrm hk3, ci_some, m_visible H, ci_some, m_havV H h hk3 (by omega), ci_some, show (1 : Int32) <<< (nI r &&& 31) = sbit r from rfl]
    have hcl : aV A r k ≠ v → f_Md_onceClash [.ref 618, .int (nI b), .int (nI k), .int (nI v), .int (nI r)] (hp G) = some (some (.int (clashA P A k v)), hp G) := fun e => m_onceClash H h hk3 hv999 (Or.inr ⟨r, hr, rfl, e⟩)
    have hpt := s_Md_isPointed H.hb H.pt h.kp.1 (nI (aV A r k))
    by_cases g : havS (aV A) (visA A) k (aV A r k) &&& (sbit r ^^^ (-1)) = 0
    · rw [if_pos g]
      rw [decide_eq_true g] at halone
      by_cases e : v = aV A r k
      · rw [if_pos (lq e)]; exact yes (Or.inl e.symm)
      · have e' : aV A r k ≠ v := fun q => e q.symm
        rw [if_neg (ln e (by omega) (by omega)), hcl e', ci_some]
        by_cases c0 : clashA P A k v = 0
        · rw [if_pos c0]
          by_cases k0 : k = 0
          · rw [if_pos (show nI k = (0 : Int32) from lq (n := 0) k0), hpt, ci_some]
            have hheld : heldA A r k = anyAt (aN A) (aT A) (nI (aV A r k)) := by
              unfold heldA
              rw [k0] at halone ⊢
              rw [halone]; simp
            cases han : anyAt (aN A) (aT A) (nI (aV A r k))
            · rw [if_pos (by decide)]; exact yes (Or.inr ⟨c0, by rw [hheld]; exact han⟩)
            · rw [if_neg (by decide)]; exact nog (hnoc e' (Or.inr (by rw [hheld]; exact han)))
          · rw [if_neg (show ¬ nI k = (0 : Int32) from ln (n := 0) k0 (by omega) (by decide))]
            exact yes (Or.inr ⟨c0, by unfold heldA; simp [k0]⟩)
        · rw [if_neg c0]; exact nog (hnoc e' (Or.inl c0))
    · rw [if_neg g]
      rw [decide_eq_false g] at halone
      by_cases e : v = aV A r k
      · rw [if_pos (lq e)]; exact yes (Or.inl e.symm)
      · have e' : aV A r k ≠ v := fun q => e q.symm
        rw [if_neg (ln e (by omega) (by omega)), hcl e', ci_some]
        by_cases c0 : clashA P A k v = 0
        · have hheld : heldA A r k = false := by
            unfold heldA
            by_cases k0 : k = 0
            · rw [k0] at halone ⊢
              rw [halone]; simp
            · simp [k0]
          rw [if_pos c0, ite_self]
          exact yes (Or.inr ⟨c0, hheld⟩)
        · rw [if_neg c0]; exact nog (hnoc e' (Or.inl c0))
end MDY
