/-! STATE (the class): REMOVE, CHANGE -/
theorem loosen_ok {np : Nat} {S : Nat → Nat} {T : Nat → Int32} (hk : okP np S T) (x : Int32) : okP np S (loosenAt np S T x) := by
  refine ⟨hk.1, fun p hpn => ⟨(hk.2 p hpn).1, ?_⟩⟩
  unfold loosenAt
  split
  · unfold ls
    split
    · exact (hk.2 p hpn).2
    · split
      · exact Or.inl rfl
      · split
        · exact Or.inr (Or.inl rfl)
        · exact (hk.2 p hpn).2
  · exact (hk.2 p hpn).2
def entR (P : PP) (A : AS) (r : Nat) : Nat → Int32 := entsA P A r (partA P A r)
def canExp (P : PP) (A : AS) (r : Nat) : Bool := bt (visA A) r && (!(aloneA A r 0 && firmAt (aN A) (aS A) (aT A) (nI (aV A r 0))) && fitA P A (entR P A r) noE)
def looseA (A : AS) (r : Nat) : AS := if aloneA A r 0 then setT A (aN A) (aS A) (loosenAt (aN A) (aS A) (aT A) (nI (aV A r 0))) (aB A) else A
def goneA (A : AS) (r : Nat) : AS := setR (looseA A r) (aV A) (aM A) (aD A &&& (sbit r ^^^ (-1))) (aC A)
def expA (P : PP) (A : AS) (r : Nat) : AS := moveA P (goneA A r) (entR P A r) noE r
theorem aJ_loose (A : AS) (r : Nat) : aJ (looseA A r) = aJ A := by
  unfold looseA
  split <;> rfl
section EXP
variable {G : GG} {s p : Nat} {P : PP} {A : AS}
theorem s_fit2 (H : SS G s p P A) {r : Nat} (hr : r < aM A) : ∃ G', (mm_gr 4 7 (hp G) p).bind (fun r7 => mm_ci (f_Wh_holds [.ref r7, .ref s, .int (nI r)] (hp G)) fun x9 h8 => (mm_gr 8 4 h8 s).bind fun r10 => mm_cv (f_St_entriesOf [.ref s, .int (nI r), .int x9, .ref r10] h8) fun h11 => (mm_gr 8 5 h11 s).bind fun r12 => mm_cv (f_St_noEntries [.ref s, .ref r12] h11) fun h13 => mm_ci (f_St_fitAside [.ref s] h13) fun x15 h14 => if x15 = 0 ∨ x15 = 1 then (some (some (.int x15), h14) : Option (Option Value × mm_H)) else none) = some (some (.int (b2 (fitA P A (entR P A r) noE))), hp G') ∧ SS G' s p P A ∧ eqOff (inR (s + 14) (s + 16)) G G' ∧ isE G' (s + 14) (entR P A r) ∧ isE G' (s + 15) noE := by
  rw [gg_Pl_part _ H.op, Option.bind_some, H.pa hr, ci_some, gg_St_was _ H.os, Option.bind_some]
  obtain ⟨G1, a1, a2, a3, a4⟩ := s_St_entriesOf H (Or.inl rfl) hr (partA P A r)
  rw [a1, cv_some, gg_St_willBe _ H.os, Option.bind_some]
  obtain ⟨G2, b1, b2', b3⟩ := s_St_noEntries (G := G1) (s := s) H.os H.os.2.2.1
  have q2 : eqOff (inR (s + 14) (s + 16)) G G2 := (a4.mono (fun n h => by unfold inR at h ⊢; omega)).tr (b3.mono (fun n h => by unfold inR at h ⊢; omega))
  have H2 := H.was q2
  have hE : isE G2 (s + 14) (entR P A r) := fun k hk => by rw [(b3 (s + 14) (fun h => by unfold inR at h; omega)).1]; exact a3 k hk
  rw [b1, cv_some, s_St_fitAside H2 hE b2', ci_some, if_pos (b2_01 _)]
  exact ⟨G2, rfl, H2, q2, hE, b2'⟩
theorem s_St_canExpel (H : SS G s p P A) {r : Nat} (hr : r < 2147483648) : ∃ G', f_St_canExpel [.ref s, .int (nI r)] (hp G) = some (some (.int (b2 (canExp P A r))), hp G') ∧ SS G' s p P A ∧ eqOff (inR (s + 14) (s + 16)) G G' ∧ (canExp P A r = true → isE G' (s + 14) (entR P A r) ∧ isE G' (s + 15) noE) := by
  rw [e_St_canExpel s _ _ (ob_St G H.os), gg_St_rows _ H.os, Option.bind_some, s_Rw_isVisible H.1.1.rw H.rw H.kr hr, ci_some]
  unfold canExp
  cases hv : bt (visB (aD A) (aC A)) r
  · rw [if_pos (by decide)]
    have : bt (visA A) r = false := hv
    rw [this, Bool.false_and]
    exact ⟨G, rfl, H, eqOff.rf, fun q => absurd q (by decide)⟩
  · have hrm : r < aM A := H.kr.vis hv
    have : bt (visA A) r = true := hv
    rw [if_neg (by decide), this, Bool.true_and, show f_St_isAlone [.ref s, .int (nI r), .int 0] (hp G) = _ from s_St_isAlone (k := 0) H hrm (by decide), ci_some]
    obtain ⟨G', q1, q2, q3, q4, q5⟩ := s_fit2 H hrm
    cases ha : aloneA A r 0
    · rw [if_pos (by decide), H.gp, Option.bind_some, Bool.false_and, Bool.not_false, Bool.true_and]
      exact ⟨G', q1, q2, q3, fun _ => ⟨q4, q5⟩⟩
    · rw [if_neg (by decide), gg_St_points _ H.os, Option.bind_some, gg_St_rows _ H.os, Option.bind_some, show f_Rw_valueOf [.ref (s + 1), .int (nI r), .int 0] (hp G) = _ from s_Rw_valueOf (k := 0) H.1.1.rw H.rw H.kr hrm (by decide), ci_some, s_Pt_firmAt H.1.1.pt H.pt H.kp, ci_some, Bool.true_and]
      cases hf : firmAt (aN A) (aS A) (aT A) (nI (aV A r 0))
      · rw [if_pos (by decide), H.gp, Option.bind_some, Bool.not_false, Bool.true_and]
        exact ⟨G', q1, q2, q3, fun _ => ⟨q4, q5⟩⟩
      · rw [if_neg (by decide), Bool.not_true, Bool.false_and]
        exact ⟨G, rfl, H, eqOff.rf, fun q => absurd q (by decide)⟩
theorem s_St_expel_neg (H : SS G s p P A) {x : Int32} (hx : x < 0) : f_St_expel [.ref s, .int x] (hp G) = some (some (.int 0), hp G) := by
  rw [e_St_expel s _ _ (ob_St G H.os), e_St_canExpel s _ _ (ob_St G H.os), gg_St_rows _ H.os, Option.bind_some, s_Rw_isVisible_neg H.1.1.rw hx, ci_some, if_pos (by decide), ci_some, if_pos rfl]
theorem s_St_expel (H : SS G s p P A) {r : Nat} (hr : r < 2147483648) : ∃ G', f_St_expel [.ref s, .int (nI r)] (hp G) = some (some (.int (b2 (canExp P A r))), hp G') ∧ SS G' s p P (if canExp P A r then expA P A r else A) ∧ eqOff (inR s (s + 28)) G G' := by
  obtain ⟨G1, a1, H1, a3, a4⟩ := s_St_canExpel H hr
  rw [e_St_expel s _ _ (ob_St G H.os), a1, ci_some]
  cases hc : canExp P A r
  · rw [if_pos (by decide)]
    exact ⟨G1, rfl, H1, a3.mono (fun n h => by unfold inR at h ⊢; omega)⟩
  · obtain ⟨hE, hF⟩ := a4 hc
    have hcv : bt (visA A) r = true := by unfold canExp at hc; simp only [Bool.and_eq_true] at hc; exact hc.1
    have hfit : fitA P A (entR P A r) noE = true := by unfold canExp at hc; simp only [Bool.and_eq_true] at hc; exact hc.2.2
    have hrm : r < aM A := H.kr.vis hcv
    have hm := H.kr.1
    have hr32 : r < 32 := by omega
    rw [if_neg (by decide), show f_St_isAlone [.ref s, .int (nI r), .int 0] (hp G1) = _ from s_St_isAlone (k := 0) H1 hrm (by decide), ci_some]
    have hkr : okR (aV A) (aM A) (aD A &&& (sbit r ^^^ (-1))) (aC A) := by
      obtain ⟨k1, k2, k3, k4⟩ := H.kr
      refine ⟨k1, k2, fun q hq => ?_, fun q hq => ?_⟩
      · rw [b_and] at hq
        simp only [Bool.and_eq_true] at hq
        exact k3 q hq.1
      · have hd := k4 q hq
        have hqm := k3 q hd
        rw [b_and, hd, bt_not _ (by omega), bt_sbit hr32 (by omega)]
        by_cases e : q = r
        · subst e
          unfold visA at hcv
          rw [bt_vis _ _ hr32, hq, hd] at hcv
          exact absurd hcv (by decide)
        · simp [e]
    have fin : ∀ (G2 : GG), SS G2 s p P (looseA A r) → isE G2 (s + 14) (entR P A r) → isE G2 (s + 15) noE → eqOff (inR s (s + 28)) G G2 → ∃ G', (mm_gi 7 2 (hp G2) (s + 1)).bind (fun x6 => (mm_pf 7 2 (.int (x6 &&& ((1 <<< (nI r &&& 31)) ^^^ (-1)))) (hp G2) (s + 1)).bind fun h7 => mm_cv (f_St_moveEntries [.ref s, .int (nI r)] h7) fun h8 => (some (some (.int 1), h8) : Option (Option Value × mm_H))) = some (some (.int (b2 true)), hp G') ∧ SS G' s p P (expA P A r) ∧ eqOff (inR s (s + 28)) G G' := by
      intro G2 H2 hE2 hF2 q2
      have hd2 : G2.1 (s + 1) 2 = aD A := by
        have := H2.rw.1.2.1
        rw [this]
        unfold looseA
        split <;> rfl
      rw [gg_Rw_there _ H.1.1.rw, Option.bind_some, hd2, ww_Rw_there _ H.1.1.rw, Option.bind_some, show (1 : Int32) <<< (nI r &&& 31) = sbit r from rfl]
      have hq3 : eqOff (inR (s + 1) (s + 3)) G2 (gsi G2 (s + 1) 2 (aD A &&& (sbit r ^^^ (-1)))) := eqOff.gsi _ _ ⟨by omega, by omega⟩
      have hr3 : isRw (gsi G2 (s + 1) 2 (aD A &&& (sbit r ^^^ (-1)))) (s + 1) (aV A) (aM A) (aD A &&& (sbit r ^^^ (-1))) (aC A) := by
        have hb : isRw G2 (s + 1) (aV A) (aM A) (aD A) (aC A) := by
          have := H2.rw
          unfold looseA at this
          split at this <;> exact this
        obtain ⟨⟨r1, r2, r3⟩, r4⟩ := hb
        have n2 : s + 1 + 1 ≠ s + 1 := by omega
        refine ⟨⟨?_, ?_, ?_⟩, fun q k hq hk => ?_⟩
        · rw [gsi_i, if_pos rfl, upd_ne _ _ (by decide)]; exact r1
        · rw [gsi_i, if_pos rfl, upd_at]
        · rw [gsi_i, if_pos rfl, upd_ne _ _ (by decide)]; exact r3
        · rw [gsi_i, if_neg n2]; exact r4 q k hq hk
      have H3 : SS _ s p P (goneA A r) := H2.rows hq3 hr3 hkr
      have hfit3 : fitA P (goneA A r) (entR P A r) noE = true := by
        have : aJ (goneA A r) = aJ A := aJ_loose A r
        unfold fitA at hfit ⊢
        rw [this]
        exact hfit
      obtain ⟨G4, d1, d2, d3⟩ := s_St_moveEntries H3 (E := entR P A r) (F := noE) (fun k hk => by rw [(hq3 (s + 14) (fun h => by unfold inR at h; omega)).1]; exact hE2 k hk) (fun k hk => by rw [(hq3 (s + 15) (fun h => by unfold inR at h; omega)).1]; exact hF2 k hk) (r := r) (by omega) (fun i hi => ⟨entsA_en H hrm _ hi, Or.inl rfl⟩) hfit3 (fun i hi _ _ hF _ _ _ => absurd rfl hF)
      rw [d1, cv_some]
      exact ⟨G4, rfl, d2, (q2.tr (hq3.mono (fun n h => by unfold inR at h ⊢; omega))).tr (d3.mono (fun n h => by unfold inR; unfold stR at h; omega))⟩
    have q1 : eqOff (inR s (s + 28)) G G1 := a3.mono (fun n h => by unfold inR at h ⊢; omega)
    cases ha : aloneA A r 0
    · rw [if_pos (by decide), gg_St_rows _ H.os, Option.bind_some]
      have e : looseA A r = A := by unfold looseA; rw [ha]; rfl
      exact fin G1 (by rw [e]; exact H1) hE hF q1
    · rw [if_neg (by decide), gg_St_points _ H.os, Option.bind_some, gg_St_rows _ H.os, Option.bind_some, show f_Rw_valueOf [.ref (s + 1), .int (nI r), .int 0] (hp G1) = _ from s_Rw_valueOf (k := 0) H.1.1.rw H1.rw H1.kr hrm (by decide), ci_some]
      obtain ⟨G2, l1, l2, l3⟩ := s_Pt_loosenAt H.1.1.pt H1.pt H1.kp (nI (aV A r 0))
      have H2 : SS G2 s p P (looseA A r) := by
        have := H1.points l3 l2 (loosen_ok H1.kp _)
        unfold looseA
        rw [ha]
        exact this
      rw [l1, cv_some, gg_St_rows _ H.os, Option.bind_some]
      exact fin G2 H2 (fun k hk => by rw [(l3 (s + 14) (fun h => by unfold inR at h; omega)).1]; exact hE k hk) (fun k hk => by rw [(l3 (s + 15) (fun h => by unfold inR at h; omega)).1]; exact hF k hk) (q1.tr (l3.mono (fun n h => by unfold inR at h ⊢; omega)))
def chgR (A : AS) (r k v : Nat) : AS := setR A (setV (aV A) r k v) (aM A) (aD A) (aC A)
def canAmd (P : PP) (A : AS) (r k v : Nat) : Bool := bt (visA A) r && ((decide (aV A r k = v) || (decide (clashA P A k v = 0) && !heldA A r k)) && fitA P (chgR A r k v) (entR P A r) (entR P (chgR A r k v) r))
def amdA (P : PP) (A : AS) (r k v : Nat) : AS := moveA P (chgR A r k v) (entR P A r) (entR P (chgR A r k v) r) r
theorem s_St_amend66 (H : SS G s p P A) (hen : entI P A) {r k v : Nat} (hr : r < aM A) (hk : k < 3) (hv : v ≤ 999) {f : Nat} : ∃ G', mm_run p_St_amend (f + 1) 66 [.ref s, .int (nI r), .int (nI k), .int (nI v), .int (nI (aV A r k))] [] (hp G) = some (some (.int (b2 (fitA P (chgR A r k v) (entR P A r) (entR P (chgR A r k v) r)))), hp G') ∧ SS G' s p P (if fitA P (chgR A r k v) (entR P A r) (entR P (chgR A r k v) r) then amdA P A r k v else A) ∧ eqOff (inR s (s + 28)) G G' := by
  have hm := H.kr.1
  rw [e_St_amend_66, H.gp, Option.bind_some, gg_Pl_part _ H.op, Option.bind_some, H.pa hr, ci_some, gg_St_was _ H.os, Option.bind_some]
  obtain ⟨G1, a1, H1, a3, a4⟩ := s_St_entriesOf H (Or.inl rfl) hr (partA P A r)
  obtain ⟨b1, b2'⟩ := s_Rw_setValue (v := v) H.1.1.rw H1.rw H1.kr hr hk
  rw [a1, cv_some, gg_St_rows _ H.os, Option.bind_some, b1, cv_some]
  have qb : eqOff (inR (s + 1) (s + 3)) G1 (gsi G1 (s + 1 + 1) (r * 3 + k) (nI v)) := eqOff.gsi _ _ ⟨by omega, by omega⟩
  have hkr : okR (setV (aV A) r k v) (aM A) (aD A) (aC A) := by
    obtain ⟨k1, k2, k3, k4⟩ := H.kr
    refine ⟨k1, fun q j hq hj => ?_, k3, k4⟩
    unfold setV
    split
    · exact hv
    · exact k2 q j hq hj
  have H2 : SS _ s p P (chgR A r k v) := H1.rows qb b2' hkr
  generalize gsi G1 (s + 1 + 1) (r * 3 + k) (nI v) = G2 at *
  have hr2 : r < aM (chgR A r k v) := hr
  rw [H2.gp, Option.bind_some, gg_Pl_part _ H.op, Option.bind_some, H2.pa hr2, ci_some, gg_St_willBe _ H.os, Option.bind_some]
  obtain ⟨G3, c1, H3, c3, c4⟩ := s_St_entriesOf H2 (Or.inr rfl) hr2 (partA P (chgR A r k v) r)
  have hE3 : isE G3 (s + 14) (entR P A r) := fun j hj => by rw [(c4 (s + 14) (fun h => by unfold inR at h; omega)).1, (qb (s + 14) (fun h => by unfold inR at h; omega)).1]; exact a3 j hj
  rw [c1, cv_some, s_St_fitAside H3 hE3 c3, ci_some]
  have q3 : eqOff (inR s (s + 28)) G G3 := ((a4.mono (fun n h => by unfold inR at h ⊢; omega)).tr (qb.mono (fun n h => by unfold inR at h ⊢; omega))).tr (c4.mono (fun n h => by unfold inR at h ⊢; omega))
  show ∃ G', (if b2 (fitA P (chgR A r k v) (entR P A r) (entR P (chgR A r k v) r)) = 0 then _ else _) = _ ∧ _
  cases hf : fitA P (chgR A r k v) (entR P A r) (entR P (chgR A r k v) r)
  · rw [if_pos (by decide), gg_St_rows _ H.os, Option.bind_some]
    obtain ⟨d1, d2⟩ := s_Rw_setValue (v := aV A r k) H.1.1.rw H3.rw H3.kr hr2 hk
    rw [d1, cv_some]
    have qd : eqOff (inR (s + 1) (s + 3)) G3 (gsi G3 (s + 1 + 1) (r * 3 + k) (nI (aV A r k))) := eqOff.gsi _ _ ⟨by omega, by omega⟩
    have eV : setV (aV (chgR A r k v)) r k (aV A r k) = aV A := by
      funext q j
      show (if q = r ∧ j = k then aV A r k else setV (aV A) r k v q j) = _
      unfold setV
      by_cases e : q = r ∧ j = k
      · rw [if_pos e, e.1, e.2]
      · rw [if_neg e, if_neg e]
    rw [eV] at d2
    refine ⟨_, rfl, ?_, q3.tr (qd.mono (fun n h => by unfold inR at h ⊢; omega))⟩
    exact H3.rows qd d2 H.kr
  · rw [if_neg (by decide)]
    obtain ⟨G4, d1, d2, d3⟩ := s_St_moveEntries H3 hE3 c3 (r := r) (by omega) (fun i hi => ⟨entsA_en H hr _ hi, entsA_en H2 hr2 _ hi⟩) hf (fun i hi hat _ _ c hc hcr => by
      obtain ⟨e1, e2, e3⟩ := hen i hi hat c hc
      rw [hcr] at e2 e3
      refine ⟨valA P A i r, H.va hi hr, ?_, e2⟩
      unfold entR entsA
      rw [if_pos]
      refine ⟨hi, ?_⟩
      unfold belA at e3
      simp only [Bool.or_eq_true, Bool.not_eq_true', beq_eq_false_iff_ne] at e3
      rcases e3 with h | h
      · exact Or.inr h
      · exact Or.inl h)
    rw [d1, cv_some]
    exact ⟨G4, rfl, d2, q3.tr (d3.mono (fun n h => by unfold inR; unfold stR at h; omega))⟩
theorem s_St_amend_neg (H : SS G s p P A) {x y z : Int32} (hx : x < 0) : f_St_amend [.ref s, .int x, .int y, .int z] (hp G) = some (some (.int 0), hp G) := by
  rw [e_St_amend s _ _ _ _ (ob_St G H.os), gg_St_rows _ H.os, Option.bind_some, s_Rw_isVisible_neg H.1.1.rw hx, ci_some, if_pos (by decide)]
theorem s_St_amend_bad (H : SS G s p P A) {r : Nat} (hr : r < 2147483648) {y z : Int32} (h : (y < 0 ∨ ∃ k, 3 ≤ k ∧ k < 2147483648 ∧ y = nI k) ∨ isVal z = false) : f_St_amend [.ref s, .int (nI r), .int y, .int z] (hp G) = some (some (.int 0), hp G) := by
  rw [e_St_amend s _ _ _ _ (ob_St G H.os), gg_St_rows _ H.os, Option.bind_some, s_Rw_isVisible H.1.1.rw H.rw H.kr hr, ci_some]
  cases bt (visB (aD A) (aC A)) r
  · rw [if_pos (by decide)]
  · rw [if_neg (by decide)]
    by_cases h1 : y < 0
    · rw [if_pos h1]
    · rw [if_neg h1]
      by_cases h2 : y < 3
      · rw [if_pos h2, s_Ls_isValue, ci_some]
        rcases h with (h | ⟨k, hk, hk2, rfl⟩) | h
        · exact absurd h h1
        · exact absurd h2 (show ¬ nI k < (3 : Int32) from lm (n := 3) hk hk2)
        · rw [h, if_pos (by decide)]
      · rw [if_neg h2]
theorem s_St_amend (H : SS G s p P A) (hen : entI P A) {r k v : Nat} (hr : r < 2147483648) (hk : k < 3) (hv : v ≤ 999) : ∃ G', f_St_amend [.ref s, .int (nI r), .int (nI k), .int (nI v)] (hp G) = some (some (.int (b2 (canAmd P A r k v))), hp G') ∧ SS G' s p P (if canAmd P A r k v then amdA P A r k v else A) ∧ eqOff (inR s (s + 28)) G G' := by
  rw [e_St_amend s _ _ _ _ (ob_St G H.os), gg_St_rows _ H.os, Option.bind_some, s_Rw_isVisible H.1.1.rw H.rw H.kr hr, ci_some]
  unfold canAmd
  cases hvis : bt (visB (aD A) (aC A)) r
  · have : bt (visA A) r = false := hvis
    rw [if_pos (by decide), this, Bool.false_and]
    exact ⟨G, rfl, H, eqOff.rf⟩
  · have : bt (visA A) r = true := hvis
    have hrm : r < aM A := H.kr.vis hvis
    have hold := H.kr.2.1 r k hrm hk
    obtain ⟨f, hf⟩ : ∃ f, mm_fu = f + 1 := ⟨mm_fu - 1, by have := fu_lt (n := 1) (by decide); omega⟩
    rw [if_neg (by decide), this, Bool.true_and, if_neg (n_nneg (by omega)), if_pos (show nI k < (3 : Int32) from lp (n := 3) hk (by omega)), s_Ls_isValue, ci_some, (isVal_iff _).mpr ⟨v, hv, rfl⟩, if_neg (by decide), gg_St_rows _ H.os, Option.bind_some, s_Rw_valueOf H.1.1.rw H.rw H.kr hrm hk, ci_some, hf]
    obtain ⟨G', q1, q2, q3⟩ := s_St_amend66 (f := f) H hen hrm hk hv
    by_cases e : aV A r k = v
    · rw [if_pos (lq e), decide_eq_true e, Bool.true_or, Bool.true_and]
      exact ⟨G', q1, q2, q3⟩
    · rw [if_neg (ln e (by omega) (by omega)), decide_eq_false e, Bool.false_or, s_St_onceClashes H hk (by omega), ci_some]
      by_cases hc : clashA P A k v = 0
      · rw [if_pos hc, decide_eq_true hc, Bool.true_and, s_St_isHeld H hrm hk, ci_some]
        cases hh : heldA A r k
        · rw [if_pos (by decide), Bool.not_false, Bool.true_and]
          exact ⟨G', q1, q2, q3⟩
        · rw [if_neg (by decide)]
          exact ⟨G, rfl, H, eqOff.rf⟩
      · rw [if_neg hc, decide_eq_false hc]
        exact ⟨G, rfl, H, eqOff.rf⟩
end EXP
