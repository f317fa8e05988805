/-! what holds at every time: by hand -/
theorem b_no {x : Bool} (h : x = true) (g : x = false) : False := by rw [h] at g; exact absurd g (by decide)
section INH
variable {P : PP} {A B : AS} {r i : Nat}
theorem INV.pp (h : INV P A) : okPP P := h.1.1
theorem INV.ka (h : INV P A) : okA P A := h.1.2
theorem INV.kr (h : INV P A) : okR (aV A) (aM A) (aD A) (aC A) := h.1.2.1
theorem INV.kp (h : INV P A) : okP (aN A) (aS A) (aT A) := h.1.2.2.1
theorem INV.ni (h : INV P A) : pNi P ≤ 4 := h.1.1.2.1
theorem INV.kl (h : INV P A) {i : Nat} (hi : i < pNi P) : okL (pPg P) (aL A i) := h.1.2.2.2.1 i (by have := h.ni; omega)
theorem visA_d {r : Nat} (hr : r < 32) (h : bt (visA A) r = true) : bt (aD A) r = true ∧ bt (aC A) r = false := by
  unfold visA at h
  rw [bt_vis _ _ hr] at h
  simpa using h
theorem vis_lt (hk : okR (aV A) (aM A) (aD A) (aC A)) {r : Nat} (h : bt (visA A) r = true) : r < aM A ∧ r < 30 := by
  have := hk.vis h
  have := hk.1
  omega
theorem cho_lt (hk : okR (aV A) (aM A) (aD A) (aC A)) {r : Nat} (h : bt (aC A) r = true) : r < aM A ∧ r < 30 := by
  have := hk.2.2.1 r (hk.2.2.2 r h)
  have := hk.1
  omega
theorem INV.ent (h : INV P A) : entI P A := fun i hi ha c hc => by
  have h32 : c % 32 < 32 := Nat.mod_lt _ (by decide)
  rcases (h.2.2.1 i hi ha c).mp hc with q | q
  · exact ⟨(visA_d h32 q.2.2).1, q.1, q.2.1⟩
  · exact ⟨h.kr.2.2.2 _ q.1.2.2, q.1.1, q.1.2.1⟩
theorem hav_0 {V : Nat → Nat → Nat} {d : Int32} {k v : Nat} : havS V d k v = 0 ↔ ∀ r, r < 30 → bt d r = true → V r k ≠ v := by
  rw [z_int]
  constructor
  · intro h r hr hb e
    have := h r (by omega)
    rw [bt_hav _ _ _ _ (by omega), decide_eq_true hr, hb, e] at this
    simp at this
  · intro h r hr
    rw [bt_hav _ _ _ _ hr]
    by_cases h30 : r < 30
    · cases hb : bt d r
      · simp
      · have := h r h30 hb
        simp [this]
    · simp [h30]
theorem hav_1 {V : Nat → Nat → Nat} {d : Int32} {k v : Nat} (h : ¬ havS V d k v = 0) : ∃ r, r < 30 ∧ bt d r = true ∧ V r k = v := by
  apply Classical.byContradiction
  intro q
  exact h (hav_0.mpr (fun r hr hb e => q ⟨r, hr, hb, e⟩))
theorem ents_ent (hi : i < pNi P) (hv : valA P B i r ≤ 999) (hr : r < 30) (hvis : bt (visA B) r = true) : isEnt P B (entsA P B r (partA P B r)) r i := by
  unfold isEnt entsA
  by_cases hb : partA P B r = true ∨ pKd P i ≠ 3
  · right
    rw [if_pos ⟨hi, hb⟩]
    refine ⟨_, hv, rfl, fun c hc => ?_⟩
    unfold okV
    rw [hc]
    have hbel : belA P B i r = true := by
      unfold belA
      rcases hb with h | h
      · rw [h, Bool.or_true]
      · simp [h]
    exact ⟨fun q => q.1, fun q => ⟨q, hbel, hvis⟩⟩
  · left
    rw [if_neg (fun q => hb q.2)]
    refine ⟨rfl, fun c hc q => ?_⟩
    have := q.2.1
    rw [hc] at this
    unfold belA at this
    simp only [Bool.or_eq_true, Bool.not_eq_true', beq_eq_false_iff_ne] at this
    exact hb this.symm
theorem no_ent (hvis : bt (visA A) r = false) : isEnt P A noE r i := Or.inl ⟨rfl, fun c hc q => by
  have := q.2.2
  rw [hc] at this
  exact b_no this hvis⟩
theorem clash_0 (hP : okPP P) {k v : Nat} (h : clashA P A k v = 0) (hi : i < pNi P) (hk : pKd P i = 2) (hc : pCo P i = k) : havS (aV A) (visA A) k v = 0 := by
  have hn := hP.2.1
  have := (z_int.mp h) i (by omega)
  unfold clashA at this
  rw [bt_msk _ _ (by omega) i (by omega), decide_eq_true hi] at this
  unfold isOnce at this
  simpa [hk, hc] using this
theorem or_0 {x y : Int32} (h : x ||| y = 0) : x = 0 ∧ y = 0 := by
  have h' := z_int.mp h
  refine ⟨z_int.mpr (fun i hi => ?_), z_int.mpr (fun i hi => ?_)⟩
  · have := h' i hi; rw [b_or] at this; simp only [Bool.or_eq_false_iff] at this; exact this.1
  · have := h' i hi; rw [b_or] at this; simp only [Bool.or_eq_false_iff] at this; exact this.2
theorem adm_inv (h : INV P A) {x y z : Nat} (hx : x ≤ 999) (hy : y ≤ 999) (hz : z ≤ 999) (hc : canAdm P A x y z = true) : INV P (admA P A x y z) := by
  unfold canAdm at hc
  simp only [Bool.and_eq_true, decide_eq_true_eq] at hc
  obtain ⟨hm, hcl, hfit⟩ := hc
  have hP := h.pp
  have hk := h.kr
  have hmD : bt (aD A) (aM A) = false := by
    cases q : bt (aD A) (aM A)
    · rfl
    · exact absurd (hk.2.2.1 _ q) (Nat.lt_irrefl _)
  have hmC : bt (aC A) (aM A) = false := by
    cases q : bt (aC A) (aM A)
    · rfl
    · exact (b_no (hk.2.2.2 _ q) hmD).elim
  have hmV : bt (visA A) (aM A) = false := by
    cases q : bt (visA A) (aM A)
    · rfl
    · exact absurd (vis_lt hk q).1 (Nat.lt_irrefl _)
  have hval : ∀ q, q ≠ aM A → ∀ k, aV (addR A x y z) q k = aV A q k := fun q hq k => if_neg hq
  have hvis : ∀ q, q < 32 → q ≠ aM A → bt (visA (addR A x y z)) q = bt (visA A) q := fun q hq hne => by
    unfold visA
    show bt (visB (aD A ||| sbit (aM A)) (aC A)) q = _
    rw [bt_vis _ _ hq, bt_vis _ _ hq, b_or, bt_sbit (by omega) hq, decide_eq_false hne, Bool.or_false]
  have hvm : bt (visA (addR A x y z)) (aM A) = true := by
    unfold visA
    show bt (visB (aD A ||| sbit (aM A)) (aC A)) _ = _
    rw [bt_vis _ _ (by omega), b_or, bt_sbit (by omega) (by omega), hmC]
    simp
  have hkR : okR (aV (addR A x y z)) (aM (addR A x y z)) (aD (addR A x y z)) (aC (addR A x y z)) := hk.add hm hx hy hz
  have hne : ∀ q, bt (aC A) q = true → q ≠ aM A := fun q hq e => b_no (e ▸ hq) hmC
  have hnv : ∀ q, bt (visA A) q = true → q ≠ aM A := fun q hq e => b_no (e ▸ hq) hmV
  obtain ⟨⟨-, -⟩, ⟨iP, iO, iC⟩, -, iN, iJ⟩ := id h
  refine move_inv h hm rfl rfl rfl hmC hfit (fun i hi c hcr => ?_) (fun i hi c => ?_) (fun i hi => no_ent hmV) (fun i hi => ents_ent hi ?_ hm hvm) hkR h.kp ?_ ?_ ?_ ?_ (fun q => q)
  · exact okV_loc hP hi (fun k _ => hval _ hcr k) (hvis _ (Nat.mod_lt _ (by decide)) hcr)
  · by_cases hcr : c % 32 = aM A
    · exact ⟨fun q => (b_no (hcr ▸ q.2.2) hmC).elim, fun q => (b_no (hcr ▸ q.2.2) hmC).elim⟩
    · exact okC_loc hP hi (fun k _ => hval _ hcr k) rfl
  · exact hkR.2.1 _ _ (Nat.lt_succ_self _) (hP.2.2.1 i hi).2
  · intro p hp1 v hv e
    obtain ⟨q, q1, q2⟩ := iP p hp1 v hv e
    have hq := hnv q q1
    exact ⟨q, by rw [hvis q (by have := (vis_lt hk q1).2; omega) hq]; exact q1, by rw [hval q hq]; exact q2⟩
  · have hnew : ∀ i, i < pNi P → pKd P i = 2 → ∀ q, bt (visA A) q = true → valA P A i q ≠ valA P (addR A x y z) i (aM A) := fun i hi hk2 q hq e => by
      have hco := (hP.2.2.1 i hi).2
      obtain ⟨c12, c3⟩ := or_0 hcl
      obtain ⟨c1, c2⟩ := or_0 c12
      have q30 := (vis_lt hk hq).2
      have e0 : valA P (addR A x y z) i (aM A) = if pCo P i = 0 then x else if pCo P i = 1 then y else z := if_pos rfl
      rw [e0] at e
      rcases (show pCo P i = 0 ∨ pCo P i = 1 ∨ pCo P i = 2 by omega) with g | g | g
      · rw [g, if_pos rfl] at e
        exact hav_0.mp (clash_0 hP c1 hi hk2 g) q q30 hq (by rw [← e]; unfold valA; rw [g])
      · rw [g, if_neg (by decide), if_pos rfl] at e
        exact hav_0.mp (clash_0 hP c2 hi hk2 g) q q30 hq (by rw [← e]; unfold valA; rw [g])
      · rw [g, if_neg (by decide), if_neg (by decide)] at e
        exact hav_0.mp (clash_0 hP c3 hi hk2 g) q q30 hq (by rw [← e]; unfold valA; rw [g])
    intro i hi hk2 q w hq hw e
    have lq1 := (vis_lt hkR hq).2
    have lw1 := (vis_lt hkR hw).2
    by_cases eq : q = aM A
    · by_cases ew : w = aM A
      · rw [eq, ew]
      · rw [hvis w (by omega) ew] at hw
        rw [eq] at e
        exact absurd (show valA P A i w = _ by rw [e]; unfold valA; rw [hval w ew]) (hnew i hi hk2 w hw)
    · rw [hvis q (by omega) eq] at hq
      by_cases ew : w = aM A
      · rw [ew] at e
        exact absurd (show valA P A i q = _ by rw [← e]; unfold valA; rw [hval q eq]) (hnew i hi hk2 q hq)
      · rw [hvis w (by omega) ew] at hw
        refine iO i hi hk2 q w hq hw ?_
        unfold valA at e ⊢
        rw [hval q eq, hval w ew] at e
        exact e
  · intro i hi hk2 q w hq hw e
    refine iC i hi hk2 q w hq hw ?_
    unfold valA at e ⊢
    rw [hval q (hne q hq), hval w (hne w hw)] at e
    exact e
  · intro p hp1
    have hb : aB A p = -1 ∨ ∃ v, v ≤ 999 ∧ aB A p = nI v ∧ ((aS A p = 1 ∧ aT A p = -1) ∨ (aS A p = 2 ∧ aT A p = -2)) ∧ ∃ r, bt (aC A) r = true ∧ aV A r 0 = v := by
      cases hj : aJ A with
      | none => exact Or.inl ((iN hj).2 p hp1)
      | some J => exact (iJ J hj).2.2.2.1 p hp1
    rcases hb with q | ⟨v, v1, v2, v3, q, q1, q2⟩
    · exact Or.inl q
    · exact Or.inr ⟨v, v1, v2, v3, q, q1, by rw [hval q (hne q q1)]; exact q2⟩
end INH
