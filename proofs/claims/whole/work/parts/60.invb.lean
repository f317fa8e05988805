/-! what holds at every time: a stop, a beginning -/
section INB
variable {P : PP} {A : AS}
theorem halt_rpl (h : INV P A) {J : JB} (hJ : aJ A = some J) (hre : jRe J = []) (hsi : jSi J = 0) (ha : jAt J < pNi P) : rpl P (jAt J) (fun c => c ∈ (aL A (jAt J)).flatten) (jSd J) (fun c => okV P A (jAt J) c ∨ okC P A (jAt J) c) := by
  obtain ⟨-, -, -, -, iJ⟩ := id h
  obtain ⟨-, j2, -, -, j5⟩ := iJ J hJ
  obtain ⟨⟨a1, a0⟩, a2, ⟨a3, a4, a5, a6, a6b⟩, -⟩ := j2 ha
  refine rpl_r (fun c => ?_) (rpl_l (fun c => ?_) (rpl_more (K := fun c => c ∈ (aL A (jAt J)).flatten ∧ bt (aC A) (c % 32) = true) a1 (fun x hx c hc e => ?_)))
  · refine or_congr Iff.rfl ⟨fun q => a2 c q.1 q.2, fun q => ⟨?_, q.2.2⟩⟩
    have := (j5 hre).2 ha c q
    rw [a6b hsi] at this
    exact this
  · unfold baseA
    constructor
    · exact fun q => q.elim (fun q => q.1) (fun q => q.1)
    · intro q
      cases e : bt (aC A) (c % 32)
      · exact Or.inl ⟨q, rfl⟩
      · exact Or.inr ⟨q, rfl⟩
  · have := a0 x hx
    rw [← e] at this
    exact b_no hc.2 this
theorem can_halt {J : JB} (hJ : aJ A = some J) (hc : canHalt P A = true) : jDn J = false ∧ jRe J = [] ∧ jSi J = 0 ∧ dblA P A = false := by
  unfold canHalt at hc
  rw [hJ] at hc
  simp only [Bool.and_eq_true, Bool.not_eq_true', decide_eq_true_eq, List.length_eq_zero_iff] at hc
  exact hc
theorem halt_rep (h : INV P A) {J : JB} (hJ : aJ A = some J) (hc : canHalt P A = true) (ha : jAt J < pNi P) : repl P (jAt J) (aL A (jAt J)) (jSd J) := by
  obtain ⟨-, c2, c3, -⟩ := can_halt hJ hc
  exact (rpl_car (h.kl ha) (halt_rpl h hJ c2 c3 ha)).1
theorem halt_B (h : INV P A) : ∀ q, q < aN A → aB A q = -1 ∨ ∃ v, v ≤ 999 ∧ aB A q = nI v := fun q hq => (h.b hq).imp id (fun ⟨v, v1, v2, _⟩ => ⟨v, v1, v2⟩)
theorem halt_inv (h : INV P A) {J : JB} (hJ : aJ A = some J) (hc : canHalt P A = true) : INV P (haltA P A J) := by
  obtain ⟨⟨hP, k1, k2, k3, k4⟩, ⟨iP, iO, iC⟩, iT, iN, iJ⟩ := id h
  obtain ⟨-, c2, c3, c4⟩ := can_halt hJ hc
  have hn := hP.2.1
  obtain ⟨j1, j2, j3, j4, j5⟩ := iJ J hJ
  have hat : ∀ i, isAtA A i = decide (jAt J = i) := fun i => by unfold isAtA; rw [hJ]; exact (show atO (some J) i = decide (jAt J = i) from rfl)
  have hatN : atN (aJ A) = jAt J := by rw [hJ]; rfl
  have eL : ∀ j, aL (haltA P A J) j = if jAt J < pNi P ∧ j = jAt J then (jSd J).foldl (carL P (jAt J)) (aL A (jAt J)) else aL A j := fun j => by
    show aL (carA P A J) j = _
    unfold carA
    by_cases ha : jAt J < pNi P
    · rw [if_pos ha]
      show (if j = jAt J then ((jSd J).foldl (carS P (jAt J)) (aL A (jAt J), aX A)).1 else aL A j) = _
      by_cases e : j = jAt J
      · rw [if_pos e, if_pos ⟨ha, e⟩, carS_L]
      · rw [if_neg e, if_neg (fun q => e q.2)]
    · rw [if_neg ha, if_neg (fun q => ha q.1)]
      rfl
  have eR : aV (haltA P A J) = aV A ∧ aM (haltA P A J) = aM A ∧ aD (haltA P A J) = aD A := by
    unfold haltA endA carA
    split <;> exact ⟨rfl, rfl, rfl⟩
  have hvis : ∀ q, bt (visA (haltA P A J)) q = bt (aD A) q := fun q => by
    by_cases hq : q < 32
    · unfold visA
      rw [eR.2.2, bt_vis _ _ hq]
      show (bt (aD A) q && !bt 0 q) = _
      rw [b_0]
      simp
    · rw [b_big (by omega), b_big (by omega)]
  have hdv : ∀ q, bt (aD A) q = true ↔ bt (visA A) q = true ∨ bt (aC A) q = true := fun q => by
    constructor
    · intro hd
      have hq : q < 30 := by have := k1.2.2.1 q hd; have := k1.1; omega
      unfold visA
      rw [bt_vis _ _ (by omega), hd]
      cases bt (aC A) q <;> simp
    · rintro (g | g)
      · exact (visA_d (by have := (vis_lt k1 g).2; omega) g).1
      · exact k1.2.2.2 q g
  have hV : ∀ {i c : Nat}, i < pNi P → (okV P (haltA P A J) i c ↔ okV P A i c ∨ okC P A i c) := fun {i c} hi => by
    unfold okV okC
    rw [cod_loc (A := A) hP hi (fun _ _ => by rw [eR.1]), bel_loc (A := A) hP (fun _ _ => by rw [eR.1]), hvis, hdv]
    constructor
    · rintro ⟨g1, g2, g3 | g3⟩
      · exact Or.inl ⟨g1, g2, g3⟩
      · exact Or.inr ⟨g1, g2, g3⟩
    · rintro (⟨g1, g2, g3⟩ | ⟨g1, g2, g3⟩)
      · exact ⟨g1, g2, Or.inl g3⟩
      · exact ⟨g1, g2, Or.inr g3⟩
  have eT : aT (haltA P A J) = broughtBack (aT A) (aB A) ∧ aN (haltA P A J) = aN A ∧ aS (haltA P A J) = aS A := ⟨rfl, rfl, rfl⟩
  have hC0 : ∀ q, bt (aC (haltA P A J)) q = false := fun q => b_0 q
  refine ⟨⟨hP, ?_, back_ok k2 (halt_B h), fun i hi => ?_, trivial⟩, ⟨fun p hp1 v hv e => ?_, fun i hi hk2 q w hq hw e => ?_, fun i hi hk2 q w hq hw e => (b_no hq (hC0 q)).elim⟩, fun i hi hia c => ?_, fun _ => ⟨rfl, fun _ _ => rfl⟩, fun J' hJ' => absurd hJ' (by simp [haltA, endA, setT, setJ, aJ])⟩
  · rw [eR.1, eR.2.1, eR.2.2]
    exact ⟨k1.1, k1.2.1, k1.2.2.1, fun q hq => (b_no hq (hC0 q)).elim⟩
  · rw [eL]
    split
    · rename_i g
      exact (rpl_car (h.kl g.1) (halt_rpl h hJ c2 c3 g.1)).2.1
    · exact k3 i hi
  · rw [eT.1] at e
    rw [eT.2.1] at hp1
    rw [eR.1]
    unfold broughtBack at e
    rcases h.b hp1 with g | ⟨w, w1, w2, w3, q, g1, g2⟩
    · rw [if_pos g] at e
      obtain ⟨q, g1, g2⟩ := iP p hp1 v hv e
      exact ⟨q, by rw [hvis]; exact (hdv q).mpr (Or.inl g1), g2⟩
    · rw [if_neg (by rw [w2]; exact n_m1 (by omega)), w2] at e
      have := n_inj (by omega) (by omega) e
      subst this
      exact ⟨q, by rw [hvis]; exact (hdv q).mpr (Or.inr g1), g2⟩
  · rw [hvis] at hq hw
    unfold valA at e
    rw [eR.1] at e
    have hdb : ∀ u x, bt (aC A) u = true → bt (visA A) x = true → aV A u (pCo P i) ≠ aV A x (pCo P i) := fun u x hu hx e2 => by
      have h1 : dblI P A i = false := by
        cases g : dblI P A i
        · rfl
        · have : dblA P A = true := by
            unfold dblA
            rw [List.any_eq_true]
            exact ⟨i, List.mem_range.mpr hi, g⟩
          exact (b_no this c4).elim
      unfold dblI at h1
      rw [hk2] at h1
      have h2 : dblR P A i u = false := by
        cases g : dblR P A i u
        · rfl
        · have : (List.range (aM A)).any (dblR P A i) = true := by
            rw [List.any_eq_true]
            exact ⟨u, List.mem_range.mpr (cho_lt k1 hu).1, g⟩
          rw [this] at h1
          exact absurd h1 (by decide)
      unfold dblR at h2
      rw [hu] at h2
      have h3 : havS (aV A) (visA A) (pCo P i) (valA P A i u) = 0 := by simpa using h2
      exact hav_0.mp h3 x (vis_lt k1 hx).2 hx e2.symm
    rcases (hdv q).mp hq with g1 | g1
    · rcases (hdv w).mp hw with g2 | g2
      · exact iO i hi hk2 q w g1 g2 e
      · exact absurd e.symm (hdb w q g2 g1)
    · rcases (hdv w).mp hw with g2 | g2
      · exact absurd e (hdb q w g1 g2)
      · exact iC i hi hk2 q w g1 g2 e
  · have hno : ¬ (okC P (haltA P A J) i c ∧ atN (aJ (haltA P A J)) < i) := fun q => b_no q.1.2.2 (hC0 _)
    rw [hV hi, eL]
    refine Iff.trans ?_ ⟨Or.inl, fun q => q.resolve_right hno⟩
    by_cases e : jAt J = i
    · have ha : jAt J < pNi P := by omega
      rw [if_pos ⟨ha, e.symm⟩, (rpl_car (h.kl ha) (halt_rpl h hJ c2 c3 ha)).2.2, e]
    · rw [if_neg (fun q => e q.2.symm)]
      have := iT i hi (by rw [hat]; exact decide_eq_false e) c
      rw [hatN] at this
      rw [this]
      refine or_congr Iff.rfl ⟨fun q => q.1, fun q => ⟨q, ?_⟩⟩
      apply Classical.byContradiction
      intro hge
      exact (j5 c2).1 i hi (by omega) c q
/-- what begins: CHOSEN out of the visible ones, none hinders -/
theorem lau_inv (h : INV P A) (hJ : aJ A = none) {w : Int32} (hw : ∀ r, bt w r = true → bt (visA A) r = true) (hh : hindA A w = 0) : INV P (lauA P A w) := by
  obtain ⟨⟨hP, k1, k2, k3, k4⟩, ⟨iP, iO, iC⟩, iT, iN, iJ⟩ := id h
  have hn := hP.2.1
  obtain ⟨n1, n2⟩ := iN hJ
  have hvD : ∀ q, q < 32 → bt (visA A) q = bt (aD A) q := fun q hq => by
    unfold visA
    rw [bt_vis _ _ hq, n1, b_0]
    simp
  have hvis : ∀ q, q < 32 → bt (visA (lauB A w)) q = (bt (visA A) q && !bt w q) := fun q hq => by
    unfold visA
    show bt (visB (aD A) w) q = _
    rw [bt_vis _ _ hq, bt_vis _ _ hq, n1, b_0]
    simp
  have hk1 : okR (aV (lauB A w)) (aM (lauB A w)) (aD (lauB A w)) (aC (lauB A w)) := ⟨k1.1, k1.2.1, k1.2.2.1, fun q hq => by
    have := hw q hq
    exact (visA_d (by have := (vis_lt k1 this).2; omega) this).1⟩
  have hVC : ∀ {i c : Nat}, i < pNi P → (okV P A i c ↔ okV P (lauB A w) i c ∨ okC P (lauB A w) i c) := fun {i c} hi => by
    have h32 : c % 32 < 32 := Nat.mod_lt _ (by decide)
    unfold okV okC
    rw [cod_loc (A := A) (B := lauB A w) hP hi (fun _ _ => rfl), bel_loc (A := A) (B := lauB A w) hP (fun _ _ => rfl), hvis _ h32, show aC (lauB A w) = w from rfl]
    cases g : bt w (c % 32)
    · simp
    · rw [hw _ g]
      simp
  -- the pointers
  have hlost : ∀ p v, v ≤ 999 → aT A p = nI v → (lostP (setR A (aV A) (aM A) (aD A) w) p = true ↔ ∀ q, q < 30 → bt (visA (lauB A w)) q = true → aV A q 0 ≠ v) := fun p v hv e => by
    unfold lostP
    rw [show aT (setR A (aV A) (aM A) (aD A) w) p = nI v from e, nI_tn (by omega), decide_eq_false (n_nneg (by omega))]
    simp only [Bool.not_false, Bool.true_and, decide_eq_true_eq]
    exact hav_0
  have hnl : ∀ p, p < aN A → (aT A p = -1 ∨ aT A p = -2) → lostP (setR A (aV A) (aM A) (aD A) w) p = false := fun p _ e => by
    unfold lostP
    have : aT A p < 0 := by rcases e with e | e <;> rw [e] <;> decide
    rw [show aT (setR A (aV A) (aM A) (aD A) w) p = aT A p from rfl, decide_eq_true this]
    rfl
  have hfirm : ∀ p, p < aN A → ∀ v, v ≤ 999 → aT A p = nI v → aS A p = 0 → lostP (setR A (aV A) (aM A) (aD A) w) p = false := fun p hp1 v hv e hS => by
    cases g : lostP (setR A (aV A) (aM A) (aD A) w) p
    · rfl
    · exfalso
      have hl := (hlost p v hv e).mp g
      obtain ⟨q, q1, q2⟩ := iP p hp1 v hv e
      have hq30 := (vis_lt k1 q1).2
      have h12 : aN A ≤ 12 := k2.1
      have hb := (z_int.mp hh) p (by omega)
      unfold hindA at hb
      rw [bt_msk _ _ (by omega) p (by omega), decide_eq_true hp1] at hb
      have hf : isFirmP (aS A) (aT A) p = true := by
        unfold isFirmP
        rw [hS, e, decide_eq_false (n_nneg (by omega))]
        rfl
      rw [hf, e, nI_tn (by omega)] at hb
      have hz : havS (aV A) (visA A) 0 v &&& (w ^^^ (-1)) = 0 := z_int.mpr (fun u hu => by
        rw [b_and, bt_hav _ _ _ _ hu, bt_not _ hu]
        by_cases h30 : u < 30
        · have := hl u h30
          rw [hvis u hu] at this
          cases g1 : bt (visA A) u
          · simp
          · cases g2 : bt w u
            · have := this (by rw [g1, g2]; rfl)
              simp [this]
            · simp
        · simp [h30])
      have hnz : ¬ havS (aV A) (visA A) 0 v &&& w = 0 := fun q3 => by
        have hbq := (z_int.mp q3) q (by omega)
        rw [b_and, bt_hav _ _ _ _ (by omega), decide_eq_true hq30, q1, q2] at hbq
        have hwq : bt w q = false := by simpa using hbq
        exact hl q hq30 (by rw [hvis q (by omega), q1, hwq]; rfl) q2
      rw [decide_eq_true hz, decide_eq_false hnz] at hb
      exact absurd hb (by decide)
  have eT : ∀ p, p < aN A → aT (lauB A w) p = (if lostP (setR A (aV A) (aM A) (aD A) w) p then ls (aS A p) (aT A p) else aT A p) := fun p hp1 => lowF_lt hp1
  have eB : ∀ p, p < aN A → aB (lauB A w) p = (if lostP (setR A (aV A) (aM A) (aD A) w) p then aT A p else -1) := fun p hp1 => lowF_lt (A := ljB (setR A (aV A) (aM A) (aD A) w)) (B := fun _ => -1) (i := aN A) hp1
  have hkP : okP (aN (lauB A w)) (aS (lauB A w)) (aT (lauB A w)) := ⟨k2.1, fun p hp1 => by
    have := k2.2 p hp1
    refine ⟨this.1, ?_⟩
    rw [eT p hp1]
    split
    · unfold ls
      split
      · exact this.2
      · split
        · exact Or.inl rfl
        · split
          · exact Or.inr (Or.inl rfl)
          · exact this.2
    · exact this.2⟩
  refine come_inv (A := lauB A w) (n := 0) (J := newJ A) hP hk1 hkP k3 (Nat.zero_le _) (fun r hr => absurd hr (by simp [newJ, jRe])) rfl rfl (fun p hp1 v hv e => ?_) (fun i hi hk2 q u hq hu e => ?_) (fun i hi hk2 q u hq hu e => ?_) (fun p hp1 => ?_) (fun i _ hi => absurd hi (by omega)) (fun i hi _ c => ?_) ?_ (fun _ => rfl)
  · rw [eT p hp1] at e
    cases g : lostP (setR A (aV A) (aM A) (aD A) w) p
    · rw [g, if_neg (by decide)] at e
      have hl : ¬ lostP (setR A (aV A) (aM A) (aD A) w) p = true := by rw [g]; decide
      rw [hlost p v hv e] at hl
      have : ∃ q, q < 30 ∧ bt (visA (lauB A w)) q = true ∧ aV A q 0 = v := by
        apply Classical.byContradiction
        intro hn2
        exact hl (fun q q1 q2 q3 => hn2 ⟨q, q1, q2, q3⟩)
      obtain ⟨q, q1, q2, q3⟩ := this
      exact ⟨q, q2, q3⟩
    · rw [g, if_pos rfl] at e
      rcases (k2.2 p hp1).2 with t | t | ⟨u, hu, t⟩
      · exact (b_no g (hnl p hp1 (Or.inl t))).elim
      · exact (b_no g (hnl p hp1 (Or.inr t))).elim
      · have hS := (k2.2 p hp1).1
        unfold ls at e
        rw [t, if_neg (n_nneg (by omega))] at e
        rcases (show aS A p = 0 ∨ aS A p = 1 ∨ aS A p = 2 by omega) with s0 | s0 | s0
        · exact (b_no g (hfirm p hp1 u hu t s0)).elim
        · rw [if_pos s0] at e
          exact absurd e.symm (n_m1 (by omega))
        · rw [if_neg (by omega), if_pos s0] at e
          have : nI v < 0 := by rw [← e]; decide
          exact absurd this (n_nneg (by omega))
  · have lq1 := (vis_lt hk1 hq).2
    have lu1 := (vis_lt hk1 hu).2
    rw [hvis q (by omega)] at hq
    rw [hvis u (by omega)] at hu
    simp only [Bool.and_eq_true] at hq hu
    exact iO i hi hk2 q u hq.1 hu.1 e
  · exact iO i hi hk2 q u (hw q hq) (hw u hu) e
  · rw [eB p hp1, eT p hp1]
    cases g : lostP (setR A (aV A) (aM A) (aD A) w) p
    · exact Or.inl rfl
    · right
      rcases (k2.2 p hp1).2 with t | t | ⟨u, hu, t⟩
      · exact (b_no g (hnl p hp1 (Or.inl t))).elim
      · exact (b_no g (hnl p hp1 (Or.inr t))).elim
      · have hS := (k2.2 p hp1).1
        refine ⟨u, hu, by rw [if_pos rfl]; exact t, ?_, ?_⟩
        · rw [if_pos rfl]
          unfold ls
          rw [t, if_neg (n_nneg (by omega))]
          rcases (show aS A p = 0 ∨ aS A p = 1 ∨ aS A p = 2 by omega) with s0 | s0 | s0
          · exact (b_no g (hfirm p hp1 u hu t s0)).elim
          · exact Or.inl ⟨s0, if_pos s0⟩
          · exact Or.inr ⟨s0, by rw [if_neg (by omega), if_pos s0]⟩
        · obtain ⟨q, q1, q2⟩ := iP p hp1 u hu t
          have hq30 := (vis_lt k1 q1).2
          have hl := (hlost p u hu t).mp g q hq30
          rw [hvis q (by omega), q1] at hl
          cases g2 : bt w q
          · exact absurd q2 (hl (by rw [g2]; rfl))
          · exact ⟨q, g2, q2⟩
  · have := iT i hi (by unfold isAtA; rw [hJ]; rfl) c
    show c ∈ (aL A i).flatten ↔ _
    rw [this, ← hVC hi]
    refine ⟨fun q => q.resolve_right (fun q2 => ?_), Or.inl⟩
    have := q2.1.2.2
    rw [n1, b_0] at this
    exact absurd this (by decide)
  · have := sum_le (P := P) (A := lauB A w) k3 hn
    show 0 + sumL P (lauB A w) ≤ 120
    omega
end INB
