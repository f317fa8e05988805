/-! what holds at every time: a ROW taken out, one changed -/
section INE
variable {P : PP} {A : AS} {r : Nat}
theorem alone_1 (hr : r < 30) {k : Nat} : aloneA A r k = true ↔ ∀ q, q < 30 → bt (visA A) q = true → aV A q k = aV A r k → q = r := by
  unfold aloneA
  rw [decide_eq_true_eq, z_int]
  constructor
  · intro h q hq hv e
    have := h q (by omega)
    rw [b_and, bt_hav _ _ _ _ (by omega), bt_not _ (by omega), bt_sbit (by omega) (by omega), decide_eq_true hq, hv, e] at this
    simpa using this
  · intro h q hq
    rw [b_and, bt_hav _ _ _ _ hq, bt_not _ hq, bt_sbit (by omega) hq]
    by_cases h30 : q < 30
    · cases hv : bt (visA A) q
      · simp
      · by_cases e : aV A q k = aV A r k
        · simp [h q h30 hv e]
        · simp [e]
    · simp [h30]
theorem any_at {n : Nat} {T : Nat → Int32} {x : Int32} {p : Nat} (hp1 : p < n) (h : T p = x) : anyAt n T x = true := by
  unfold anyAt
  rw [List.any_eq_true]
  exact ⟨p, List.mem_range.mpr hp1, by simpa using h⟩
theorem firm_at {n : Nat} {S : Nat → Nat} {T : Nat → Int32} {x : Int32} {p : Nat} (hp1 : p < n) (h : T p = x) (h0 : S p = 0) : firmAt n S T x = true := by
  unfold firmAt
  rw [List.any_eq_true]
  exact ⟨p, List.mem_range.mpr hp1, by simp [h, h0]⟩
theorem INV.b (h : INV P A) {p : Nat} (hp1 : p < aN A) : aB A p = -1 ∨ ∃ v, v ≤ 999 ∧ aB A p = nI v ∧ ((aS A p = 1 ∧ aT A p = -1) ∨ (aS A p = 2 ∧ aT A p = -2)) ∧ ∃ r, bt (aC A) r = true ∧ aV A r 0 = v := by
  cases hj : aJ A with
  | none => exact Or.inl ((h.2.2.2.1 hj).2 p hp1)
  | some J => exact (h.2.2.2.2 J hj).2.2.2.1 p hp1
theorem gone_1 : aV (goneA A r) = aV A ∧ aM (goneA A r) = aM A ∧ aD (goneA A r) = aD A &&& (sbit r ^^^ (-1)) ∧ aC (goneA A r) = aC A ∧ aL (goneA A r) = aL A ∧ aJ (goneA A r) = aJ A ∧ aN (goneA A r) = aN A ∧ aS (goneA A r) = aS A ∧ aB (goneA A r) = aB A ∧ aT (goneA A r) = (if aloneA A r 0 then loosenAt (aN A) (aS A) (aT A) (nI (aV A r 0)) else aT A) := by
  unfold goneA looseA
  cases aloneA A r 0 <;> exact ⟨rfl, rfl, rfl, rfl, rfl, rfl, rfl, rfl, rfl, rfl⟩
theorem exp_inv (h : INV P A) (hc : canExp P A r = true) : INV P (expA P A r) := by
  unfold canExp at hc
  simp only [Bool.and_eq_true, Bool.not_eq_true', Bool.and_eq_false_iff] at hc
  obtain ⟨hv, hfm, hfit⟩ := hc
  have hP := h.pp
  have hk := h.kr
  obtain ⟨hrm, hr⟩ := vis_lt hk hv
  obtain ⟨hrD, hrC⟩ := visA_d (by omega) hv
  obtain ⟨g1, g2, g3, g4, g5, g6, g7, g8, g9, g10⟩ := gone_1 (A := A) (r := r)
  have hvis : ∀ q, q < 32 → bt (visA (goneA A r)) q = (bt (visA A) q && !decide (q = r)) := fun q hq => by
    unfold visA
    rw [g3, g4, bt_vis _ _ hq, bt_vis _ _ hq, b_and, bt_not _ hq, bt_sbit (by omega) hq]
    cases bt (aD A) q <;> cases bt (aC A) q <;> simp
  have hkR : okR (aV (goneA A r)) (aM (goneA A r)) (aD (goneA A r)) (aC (goneA A r)) := by
    rw [g1, g2, g3, g4]
    refine ⟨hk.1, hk.2.1, fun q hq => ?_, fun q hq => ?_⟩
    · rw [b_and] at hq
      simp only [Bool.and_eq_true] at hq
      exact hk.2.2.1 q hq.1
    · have := cho_lt hk hq
      rw [b_and, hk.2.2.2 q hq, bt_not _ (by omega), bt_sbit (by omega) (by omega), decide_eq_false (show ¬ q = r from fun e => b_no (e ▸ hq) hrC)]
      rfl
  have hkP : okP (aN (goneA A r)) (aS (goneA A r)) (aT (goneA A r)) := by
    rw [g7, g8, g10]
    split
    · exact loosen_ok h.kp _
    · exact h.kp
  have hT : ∀ p, p < aN A → ∀ v, v ≤ 999 → aT (goneA A r) p = nI v → aT A p = nI v ∧ (aloneA A r 0 = true → v ≠ aV A r 0) := fun p hp1 v hv999 e => by
    rw [g10] at e
    cases ha : aloneA A r 0
    · rw [ha, if_neg (by decide)] at e
      exact ⟨e, fun q => absurd q (by decide)⟩
    · rw [ha, if_pos rfl] at e
      have hVr : aV A r 0 ≤ 999 := hk.2.1 r 0 hrm (by decide)
      unfold loosenAt at e
      by_cases ht : aT A p = nI (aV A r 0)
      · rw [if_pos ⟨hp1, ht⟩] at e
        have hS := (h.kp.2 p hp1).1
        have h0 : aS A p ≠ 0 := fun q => by
          rcases hfm with f | f
          · exact b_no ha f
          · exact b_no (firm_at hp1 ht q) f
        unfold ls at e
        rw [ht, if_neg (n_nneg (by omega))] at e
        rcases (show aS A p = 1 ∨ aS A p = 2 by omega) with g | g
        · rw [if_pos g] at e
          exact absurd e.symm (n_m1 (by omega))
        · rw [if_neg (by omega), if_pos g] at e
          have : (-2 : Int32) < 0 := by decide
          rw [e] at this
          exact absurd this (n_nneg (by omega))
      · rw [if_neg (fun q => ht q.2)] at e
        exact ⟨e, fun _ q => ht (by rw [e, q])⟩
  obtain ⟨⟨-, -⟩, ⟨iP, iO, iC⟩, -, iN, iJ⟩ := id h
  refine move_inv h hr g5 g6 g4 hrC ?_ (fun i hi c hcr => ?_) (fun i hi c => ?_) (fun i hi => ents_ent hi ?_ hr hv) (fun i hi => no_ent ?_) hkR hkP ?_ ?_ ?_ ?_ ?_
  · unfold fitA at hfit ⊢
    rw [g6]
    exact hfit
  · refine okV_loc hP hi (fun k _ => by rw [g1]) ?_
    rw [hvis _ (Nat.mod_lt _ (by decide)), decide_eq_false hcr]
    simp
  · exact okC_loc hP hi (fun k _ => by rw [g1]) (by rw [g4])
  · exact hk.2.1 _ _ hrm (hP.2.2.1 i hi).2
  · rw [hvis r (by omega)]
    simp
  · intro p hp1 v hv999 e
    rw [g7] at hp1
    obtain ⟨t1, t2⟩ := hT p hp1 v hv999 e
    obtain ⟨q, q1, q2⟩ := iP p hp1 v hv999 t1
    by_cases e1 : q = r
    · have hna : aloneA A r 0 = false := by
        cases ha : aloneA A r 0
        · rfl
        · exact absurd (by rw [← q2, e1]) (t2 ha)
      have : ∃ w, w < 30 ∧ bt (visA A) w = true ∧ aV A w 0 = aV A r 0 ∧ w ≠ r := by
        apply Classical.byContradiction
        intro hn
        have := (alone_1 (A := A) hr (k := 0)).mpr (fun w hw hwv hwe => Classical.byContradiction (fun hne => hn ⟨w, hw, hwv, hwe, hne⟩))
        exact b_no this hna
      obtain ⟨w, w1, w2, w3, w4⟩ := this
      exact ⟨w, by rw [hvis w (by omega), w2, decide_eq_false w4]; rfl, by rw [g1, w3, ← q2, e1]⟩
    · have := (vis_lt hk q1).2
      exact ⟨q, by rw [hvis q (by omega), q1, decide_eq_false e1]; rfl, by rw [g1]; exact q2⟩
  · intro i hi hk2 q w hq hw e
    have lq1 := (vis_lt hkR hq).2
    have lw1 := (vis_lt hkR hw).2
    rw [hvis q (by omega)] at hq
    rw [hvis w (by omega)] at hw
    simp only [Bool.and_eq_true] at hq hw
    refine iO i hi hk2 q w hq.1 hw.1 ?_
    unfold valA at e ⊢
    rw [g1] at e
    exact e
  · intro i hi hk2 q w hq hw e
    rw [g4] at hq hw
    refine iC i hi hk2 q w hq hw ?_
    unfold valA at e ⊢
    rw [g1] at e
    exact e
  · intro p hp1
    rw [g7] at hp1
    rw [g9, g8, g4, g1]
    rcases h.b hp1 with q | ⟨v, v1, v2, v3, v4⟩
    · exact Or.inl q
    · refine Or.inr ⟨v, v1, v2, ?_, v4⟩
      have hneg : aT A p = -1 ∨ aT A p = -2 := v3.imp (fun q => q.2) (fun q => q.2)
      have hVr : aV A r 0 ≤ 999 := hk.2.1 r 0 hrm (by decide)
      have et : aT (goneA A r) p = aT A p := by
        rw [g10]
        split
        · unfold loosenAt
          rw [if_neg (fun q => ?_)]
          rcases hneg with e | e
          · exact n_m1 (show aV A r 0 < 2147483648 by omega) (q.2.symm.trans e)
          · have : nI (aV A r 0) < 0 := by rw [← q.2, e]; decide
            exact n_nneg (by omega) this
        · rfl
      rw [et]
      exact v3
  · intro q
    unfold invN at q ⊢
    rw [g4, g7, g9]
    exact q
theorem amd_inv (h : INV P A) {k v : Nat} (hk3 : k < 3) (hv999 : v ≤ 999) (hc : canAmd P A r k v = true) : INV P (amdA P A r k v) := by
  unfold canAmd at hc
  simp only [Bool.and_eq_true, Bool.or_eq_true, decide_eq_true_eq, Bool.not_eq_true'] at hc
  obtain ⟨hv, hcl, hfit⟩ := hc
  have hP := h.pp
  have hk := h.kr
  obtain ⟨hrm, hr⟩ := vis_lt hk hv
  obtain ⟨hrD, hrC⟩ := visA_d (by omega) hv
  have hval : ∀ q, q ≠ r → ∀ j, aV (chgR A r k v) q j = aV A q j := fun q hq j => if_neg (fun e => hq e.1)
  have hvr : ∀ j, aV (chgR A r k v) r j = if j = k then v else aV A r j := fun j => by
    show setV (aV A) r k v r j = _
    unfold setV
    by_cases e : j = k
    · rw [if_pos ⟨rfl, e⟩, if_pos e]
    · rw [if_neg (fun q => e q.2), if_neg e]
  have hkR : okR (aV (chgR A r k v)) (aM (chgR A r k v)) (aD (chgR A r k v)) (aC (chgR A r k v)) := by
    refine ⟨hk.1, fun q j hq hj => ?_, hk.2.2⟩
    by_cases e : q = r
    · rw [e, hvr]
      split
      · exact hv999
      · exact hk.2.1 r j hrm hj
    · rw [hval q e]
      exact hk.2.1 q j hq hj
  have hne : ∀ q, bt (aC A) q = true → q ≠ r := fun q hq e => b_no (e ▸ hq) hrC
  obtain ⟨⟨-, -⟩, ⟨iP, iO, iC⟩, -, iN, iJ⟩ := id h
  refine move_inv h hr rfl rfl rfl hrC hfit (fun i hi c hcr => ?_) (fun i hi c => ?_) (fun i hi => ents_ent hi ?_ hr hv) (fun i hi => ents_ent hi ?_ hr hv) hkR h.kp ?_ ?_ ?_ ?_ (fun q => q)
  · exact okV_loc hP hi (fun j _ => hval _ hcr j) rfl
  · by_cases hcr : c % 32 = r
    · exact ⟨fun q => (b_no (hcr ▸ q.2.2) hrC).elim, fun q => (b_no (hcr ▸ q.2.2) hrC).elim⟩
    · exact okC_loc hP hi (fun j _ => hval _ hcr j) rfl
  · exact hk.2.1 _ _ hrm (hP.2.2.1 i hi).2
  · exact hkR.2.1 _ _ hrm (hP.2.2.1 i hi).2
  · intro p hp1 w hw e
    obtain ⟨q, q1, q2⟩ := iP p hp1 w hw e
    by_cases e1 : q = r
    · by_cases hk0 : k = 0
      · by_cases hsame : aV A r k = v
        · refine ⟨r, hv, ?_⟩
          rw [hvr, if_pos hk0.symm, ← q2, e1, ← hsame, hk0]
        · have hheld : heldA A r k = false := by
            rcases hcl with g | g
            · exact absurd g hsame
            · exact g.2
          unfold heldA at hheld
          have e2 : aT A p = nI (aV A r 0) := by
            have : aV A r 0 = w := by rw [← e1]; exact q2
            rw [this]; exact e
          rw [hk0, any_at (show p < aN A from hp1) e2] at hheld
          have hna : aloneA A r 0 = false := by simpa using hheld
          have : ∃ w, w < 30 ∧ bt (visA A) w = true ∧ aV A w 0 = aV A r 0 ∧ w ≠ r := by
            apply Classical.byContradiction
            intro hn
            have := (alone_1 (A := A) hr (k := 0)).mpr (fun w hw hwv hwe => Classical.byContradiction (fun hne => hn ⟨w, hw, hwv, hwe, hne⟩))
            exact b_no this hna
          obtain ⟨u, w1, w2, w3, w4⟩ := this
          exact ⟨u, w2, by rw [hval u w4, w3, ← q2, e1]⟩
      · refine ⟨r, hv, ?_⟩
        rw [hvr, if_neg (fun e => hk0 e.symm), ← q2, e1]
    · exact ⟨q, q1, by rw [hval q e1]; exact q2⟩
  · intro i hi hk2 q w hq hw e
    have hq' : bt (visA A) q = true := hq
    have hw' : bt (visA A) w = true := hw
    unfold valA at e
    by_cases hsame : aV A r k = v
    · have hsm : ∀ q, aV (chgR A r k v) q (pCo P i) = aV A q (pCo P i) := fun q => by
        by_cases e1 : q = r
        · rw [e1, hvr]
          split
          · rename_i g; rw [g, hsame]
          · rfl
        · rw [hval q e1]
      rw [hsm, hsm] at e
      exact iO i hi hk2 q w hq' hw' e
    · have hcl0 : clashA P A k v = 0 := by
        rcases hcl with g | g
        · exact absurd g hsame
        · exact g.1
      have hnew : pCo P i = k → ∀ u, bt (visA A) u = true → aV A u k ≠ v := fun hco u hu => hav_0.mp (clash_0 hP hcl0 hi hk2 hco) u (vis_lt hk hu).2 hu
      by_cases e1 : q = r
      · by_cases e2 : w = r
        · rw [e1, e2]
        · rw [e1, hvr, hval w e2] at e
          by_cases hco : pCo P i = k
          · rw [if_pos hco, hco] at e
            exact absurd e.symm (hnew hco w hw')
          · rw [if_neg hco] at e
            rw [e1]
            exact iO i hi hk2 r w hv hw' e
      · by_cases e2 : w = r
        · rw [e2, hvr, hval q e1] at e
          by_cases hco : pCo P i = k
          · rw [if_pos hco, hco] at e
            exact absurd e (hnew hco q hq')
          · rw [if_neg hco] at e
            rw [e2]
            exact iO i hi hk2 q r hq' hv e
        · rw [hval q e1, hval w e2] at e
          exact iO i hi hk2 q w hq' hw' e
  · intro i hi hk2 q w hq hw e
    refine iC i hi hk2 q w hq hw ?_
    unfold valA at e ⊢
    rw [hval q (hne q hq), hval w (hne w hw)] at e
    exact e
  · intro p hp1
    rcases h.b hp1 with q | ⟨v, v1, v2, v3, q, q1, q2⟩
    · exact Or.inl q
    · exact Or.inr ⟨v, v1, v2, v3, q, q1, by rw [hval q (hne q q1)]; exact q2⟩
/-- pointers alone -/
theorem pts_inv (h : INV P A) {N : Nat} {S : Nat → Nat} {T B : Nat → Int32} (hk : okP N S T) (h1 : invP (setT A N S T B)) (h2 : aJ A ≠ none → invB (setT A N S T B)) (h3 : aJ A = none → ∀ p, p < N → B p = -1) : INV P (setT A N S T B) := by
  have hP := h.pp
  have hVV : ∀ {i c : Nat}, i < pNi P → (okV P (setT A N S T B) i c ↔ okV P A i c) := fun hi => okV_loc hP hi (fun _ _ => rfl) rfl
  have hCC : ∀ {i c : Nat}, i < pNi P → (okC P (setT A N S T B) i c ↔ okC P A i c) := fun hi => okC_loc hP hi (fun _ _ => rfl) rfl
  obtain ⟨⟨-, k1, k2, k3, k4⟩, ⟨iP, iO, iC⟩, iT, iN, iJ⟩ := id h
  refine ⟨⟨hP, k1, hk, k3, k4⟩, ⟨h1, iO, iC⟩, fun i hi ha c => ?_, fun hn => ⟨(iN hn).1, h3 hn⟩, fun J hJ => ?_⟩
  · rw [hVV hi, hCC hi]
    exact iT i hi ha c
  · obtain ⟨j1, j2, j3, j4, j5⟩ := iJ J hJ
    refine ⟨j1, fun ha => ?_, j3, h2 (by rw [show aJ A = some J from hJ]; simp), fun hre => ⟨fun i hi hlt c hc => (j5 hre).1 i hi hlt c ((hCC hi).mp hc), fun ha c hc => (j5 hre).2 ha c ((hCC ha).mp hc)⟩⟩
    obtain ⟨⟨a1, a0⟩, a2, ⟨a3, a4, a5, a6⟩, a7⟩ := j2 ha
    exact ⟨⟨rpl_r (fun c => (hVV ha).symm) a1, a0⟩, fun c hc hc2 => (hCC ha).mpr (a2 c hc hc2), ⟨a3, a4, fun c hc hc2 => (hCC ha).mpr (a5 c hc hc2), a6⟩, a7⟩
theorem aim_inv (h : INV P A) {x y : Int32} (hc : canAim A x y = true) : INV P (aimA A x y) := by
  unfold canAim at hc
  simp only [Bool.and_eq_true, Bool.not_eq_true', decide_eq_false_iff_not, decide_eq_true_eq] at hc
  obtain ⟨⟨x1, x2⟩, y1, y2, y3⟩ := hc
  obtain ⟨v, hv, rfl⟩ := (isVal_iff y).mp y1
  rw [nI_tn (by omega)] at y2
  have hx : x.toNatClampNeg ≤ 2 := by
    rcases n_cases x with g | ⟨n, g1, rfl⟩
    · exact absurd g x1
    · rw [nI_tn (by omega)]
      have : ¬ nI 2 < nI n := x2
      rw [n_lt (by decide) (by omega)] at this
      omega
  refine pts_inv h ⟨by show aN A + 1 ≤ 12; omega, fun p hp1 => ?_⟩ (fun p hp1 w hw e => ?_) (fun hj p hp1 => ?_) (fun hj p hp1 => ?_)
  · by_cases e : p = aN A
    · subst e
      refine ⟨by show (if _ then _ else _) ≤ 2; rw [if_pos rfl]; exact hx, ?_⟩
      exact Or.inr (Or.inr ⟨v, hv, if_pos rfl⟩)
    · have := h.kp.2 p (by omega)
      refine ⟨by show (if _ then _ else _) ≤ 2; rw [if_neg e]; exact this.1, ?_⟩
      show setP (aT A) (aN A) (nI v) p = -1 ∨ setP (aT A) (aN A) (nI v) p = -2 ∨ ∃ w, w ≤ 999 ∧ setP (aT A) (aN A) (nI v) p = nI w
      rw [show setP (aT A) (aN A) (nI v) p = aT A p from if_neg e]
      exact this.2
  · by_cases e1 : p = aN A
    · have : setP (aT A) (aN A) (nI v) p = nI w := e
      rw [show setP (aT A) (aN A) (nI v) p = nI v from if_pos e1] at this
      have := n_inj (by omega) (by omega) this
      subst this
      obtain ⟨q, q1, q2, q3⟩ := hav_1 y2
      exact ⟨q, q2, q3⟩
    · have : setP (aT A) (aN A) (nI v) p = nI w := e
      rw [show setP (aT A) (aN A) (nI v) p = aT A p from if_neg e1] at this
      exact h.2.1.1 p (by have : p < aN A + 1 := hp1; omega) w hw this
  · by_cases e1 : p = aN A
    · exact Or.inl (if_pos e1)
    · have hp2 : p < aN A := by have : p < aN A + 1 := hp1; omega
      have e2 : aB (setT A (aN A + 1) (fun p => if p = aN A then x.toNatClampNeg else aS A p) (setP (aT A) (aN A) (nI v)) (setP (aB A) (aN A) (-1))) p = aB A p := if_neg e1
      have e3 : aS (setT A (aN A + 1) (fun p => if p = aN A then x.toNatClampNeg else aS A p) (setP (aT A) (aN A) (nI v)) (setP (aB A) (aN A) (-1))) p = aS A p := if_neg e1
      have e4 : aT (setT A (aN A + 1) (fun p => if p = aN A then x.toNatClampNeg else aS A p) (setP (aT A) (aN A) (nI v)) (setP (aB A) (aN A) (-1))) p = aT A p := if_neg e1
      rw [e2, e3, e4]
      exact h.b hp2
  · by_cases e1 : p = aN A
    · exact if_pos e1
    · have hp2 : p < aN A := by omega
      rw [show setP (aB A) (aN A) (-1) p = aB A p from if_neg e1]
      exact (h.2.2.2.1 hj).2 p hp2
def dropA (A : AS) (p : Nat) : AS := setT A (aN A) (aS A) (setP (aT A) p (-2)) (setP (aB A) p (-1))
theorem drop_inv (h : INV P A) (p : Nat) : INV P (dropA A p) := by
  refine pts_inv h ⟨h.kp.1, fun q hq => ?_⟩ (fun q hq w hw e => ?_) (fun hj q hq => ?_) (fun hj q hq => ?_)
  · have := h.kp.2 q hq
    refine ⟨this.1, ?_⟩
    by_cases e : q = p
    · exact Or.inr (Or.inl (if_pos e))
    · rw [show setP (aT A) p (-2) q = aT A q from if_neg e]
      exact this.2
  · have e0 : setP (aT A) p (-2) q = nI w := e
    by_cases e1 : q = p
    · rw [show setP (aT A) p (-2) q = -2 from if_pos e1] at e0
      have : nI w < 0 := by rw [← e0]; decide
      exact absurd this (n_nneg (by omega))
    · rw [show setP (aT A) p (-2) q = aT A q from if_neg e1] at e0
      exact h.2.1.1 q hq w hw e0
  · by_cases e1 : q = p
    · exact Or.inl (if_pos e1)
    · have e2 : aB (setT A (aN A) (aS A) (setP (aT A) p (-2)) (setP (aB A) p (-1))) q = aB A q := if_neg e1
      have e4 : aT (setT A (aN A) (aS A) (setP (aT A) p (-2)) (setP (aB A) p (-1))) q = aT A q := if_neg e1
      rw [e2, e4]
      exact h.b hq
  · by_cases e1 : q = p
    · exact if_pos e1
    · rw [show setP (aB A) p (-1) q = aB A q from if_neg e1]
      exact (h.2.2.2.1 hj).2 q hq
end INE
