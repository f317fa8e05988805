/-! THE REFERENCE: a stop -/
theorem cnt_2 {p : Nat → Bool} : ∀ {l : List Nat}, l.Nodup → (1 < (l.filter p).length ↔ ∃ a ∈ l, ∃ c ∈ l, a ≠ c ∧ p a = true ∧ p c = true)
  | [], _ => by simp
  | x :: l, h => by
    have h' := List.nodup_cons.mp h
    rw [List.filter_cons]
    cases hx : p x
    · rw [if_neg (by decide), cnt_2 h'.2]
      constructor
      · rintro ⟨a, ha, c, hc, hne, h1, h2⟩
        exact ⟨a, List.mem_cons_of_mem _ ha, c, List.mem_cons_of_mem _ hc, hne, h1, h2⟩
      · rintro ⟨a, ha, c, hc, hne, h1, h2⟩
        have ha2 : a ∈ l := by
          rcases List.mem_cons.mp ha with e | e
          · rw [e, hx] at h1; exact absurd h1 (by decide)
          · exact e
        have hc2 : c ∈ l := by
          rcases List.mem_cons.mp hc with e | e
          · rw [e, hx] at h2; exact absurd h2 (by decide)
          · exact e
        exact ⟨a, ha2, c, hc2, hne, h1, h2⟩
    · rw [if_pos rfl, List.length_cons]
      constructor
      · intro hlt
        have hpos : 0 < (l.filter p).length := by omega
        obtain ⟨c, hc⟩ := List.exists_mem_of_length_pos hpos
        have := List.mem_filter.mp hc
        exact ⟨x, List.mem_cons_self, c, List.mem_cons_of_mem _ this.1, fun e => h'.1 (e ▸ this.1), hx, this.2⟩
      · rintro ⟨a, ha, c, hc, hne, h1, h2⟩
        have : ∃ d ∈ l, p d = true := by
          rcases List.mem_cons.mp ha with e | e
          · rcases List.mem_cons.mp hc with e2 | e2
            · exact absurd (e.trans e2.symm) hne
            · exact ⟨c, e2, h2⟩
          · exact ⟨a, e, h1⟩
        obtain ⟨d, hd, hpd⟩ := this
        have := List.length_pos_of_mem (List.mem_filter.mpr ⟨hd, hpd⟩)
        omega
theorem bc_2 {x : Int32} : 1 < bc x ↔ ∃ a, ∃ c, a < 32 ∧ c < 32 ∧ a ≠ c ∧ bt x a = true ∧ bt x c = true := by
  unfold bc
  rw [cnt_2 List.nodup_range]
  constructor
  · rintro ⟨a, ha, c, hc, hne, h1, h2⟩
    exact ⟨a, c, List.mem_range.mp ha, List.mem_range.mp hc, hne, h1, h2⟩
  · rintro ⟨a, c, ha, hc, hne, h1, h2⟩
    exact ⟨a, List.mem_range.mpr ha, c, List.mem_range.mpr hc, hne, h1, h2⟩
section MDX
variable {G : GG} {b : Nat} {P : PP} {A : AS}
/-- a once index has a value twice, among those that are there -/
def twR (P : PP) (A : AS) (i r : Nat) : Bool := (bt (aD A) r && pKd P i == 2) && decide (1 < bc (havS (aV A) (aD A) (pCo P i) (valA P A i r)))
def twA (P : PP) (A : AS) : Bool := (List.range (pNi P)).any (fun i => (List.range 30).any (twR P A i))
theorem tw_dbl (h : INV P A) : twA P A = dblA P A := by
  obtain ⟨⟨hP, k1, k2, k3, k4⟩, ⟨iP, iO, iC⟩, -⟩ := id h
  have hdv : ∀ q, bt (aD A) q = true ↔ bt (visA A) q = true ∨ bt (aC A) q = true := fun q => by
    constructor
    · intro hd
      have hq : q < 30 := by have := k1.2.2.1 q hd; have := k1.1; omega
      unfold visA
      rw [bt_vis _ _ (by omega), hd]
      cases bt (aC A) q <;> simp
    · rintro (g | g)
      · exact (visA_d (by have := (vis_lt k1 g).2; omega) g).1
      · exact k1.2.2.2 q g
  rw [Bool.eq_iff_iff]
  unfold twA dblA
  rw [List.any_eq_true, List.any_eq_true]
  constructor
  · rintro ⟨i, hi, ht⟩
    refine ⟨i, hi, ?_⟩
    rw [List.any_eq_true] at ht
    obtain ⟨r, hr, ht⟩ := ht
    unfold twR at ht
    simp only [Bool.and_eq_true, decide_eq_true_eq, beq_iff_eq] at ht
    obtain ⟨⟨hD, hk2⟩, h2⟩ := ht
    obtain ⟨a, c, ha, hc, hne, h3, h4⟩ := bc_2.mp h2
    have hini := List.mem_range.mp hi
    rw [bt_hav _ _ _ _ ha] at h3
    rw [bt_hav _ _ _ _ hc] at h4
    simp only [Bool.and_eq_true, decide_eq_true_eq, beq_iff_eq] at h3 h4
    obtain ⟨a30, aD', aV'⟩ := h3
    obtain ⟨c30, cD', cV'⟩ := h4
    have heq : valA P A i a = valA P A i c := aV'.trans cV'.symm
    unfold dblI
    rw [hk2, Bool.and_eq_true, List.any_eq_true]
    refine ⟨rfl, ?_⟩
    have mk : ∀ u v, bt (aC A) u = true → bt (visA A) v = true → valA P A i u = valA P A i v → ∃ x, x ∈ List.range (aM A) ∧ dblR P A i x = true := fun u v hu hv he => by
      refine ⟨u, List.mem_range.mpr (cho_lt k1 hu).1, ?_⟩
      unfold dblR
      rw [hu, decide_eq_false (fun g => hav_0.mp g v (vis_lt k1 hv).2 hv he.symm)]
      rfl
    rcases (hdv a).mp aD' with g1 | g1
    · rcases (hdv c).mp cD' with g2 | g2
      · exact absurd (iO i hini hk2 a c g1 g2 heq) hne
      · exact mk c a g2 g1 heq.symm
    · rcases (hdv c).mp cD' with g2 | g2
      · exact mk a c g1 g2 heq
      · exact absurd (iC i hini hk2 a c g1 g2 heq) hne
  · rintro ⟨i, hi, ht⟩
    refine ⟨i, hi, ?_⟩
    unfold dblI at ht
    simp only [Bool.and_eq_true, beq_iff_eq] at ht
    obtain ⟨hk2, ht⟩ := ht
    rw [List.any_eq_true] at ht
    obtain ⟨r, hr, ht⟩ := ht
    unfold dblR at ht
    simp only [Bool.and_eq_true, Bool.not_eq_true', decide_eq_false_iff_not] at ht
    obtain ⟨hC, hv⟩ := ht
    obtain ⟨q, q30, qv, qe⟩ := hav_1 hv
    have hr30 := (cho_lt k1 hC).2
    rw [List.any_eq_true]
    refine ⟨r, List.mem_range.mpr hr30, ?_⟩
    unfold twR
    have hne : r ≠ q := fun e => by
      have := (visA_d (by omega) qv).2
      rw [← e] at this
      exact b_no hC this
    rw [(hdv r).mpr (Or.inr hC), hk2, decide_eq_true]
    · rfl
    · refine bc_2.mpr ⟨r, q, by omega, by omega, hne, ?_, ?_⟩
      · rw [bt_hav _ _ _ _ (by omega), decide_eq_true hr30, (hdv r).mpr (Or.inr hC)]
        simp [valA]
      · rw [bt_hav _ _ _ _ (by omega), decide_eq_true q30, (hdv q).mpr (Or.inl qv), qe]
        simp
/-- the search for a value twice -/
theorem m_twice (H : MS G b P A) (h : INV P A) {f0 : Nat} (hf0 : 400 < f0) : ∃ g, 30 < g ∧ mm_run p_Md_stopped f0 36 [.ref 618, .int (nI b), .int 0] [] (hp G) = if twA P A then some (some (.int 0), hp G) else mm_run p_Md_stopped g 36 [.ref 618, .int (nI b), .int (nI (pNi P))] [] (hp G) := by
  have hb := H.hb
  have hni := h.ni
  have hm := h.kr.1
  have row : ∀ (i : Nat), i < pNi P → ∀ (j r f : Nat), r + j = 30 → 2 * j + 1 < f → ∃ g, f - 2 * j - 2 ≤ g ∧ mm_run p_Md_stopped f 46 [.ref 618, .int (nI b), .int (nI i), .int (nI r)] [] (hp G) = if ((List.range 30).drop r).any (twR P A i) then some (some (.int 0), hp G) else mm_run p_Md_stopped g 36 [.ref 618, .int (nI b), .int (nI (i + 1))] [] (hp G) := by
    intro i hi j
    have hco := (h.pp.2.2.1 i hi).2
    have hkd := (h.pp.2.2.1 i hi).1
    induction j with
    | zero =>
      intro r f hr hf
      obtain ⟨f, rfl⟩ : ∃ g, f = g + 1 := ⟨f - 1, by omega⟩
      refine ⟨f, by omega, ?_⟩
      rw [e_Md_stopped_46, if_neg (show ¬ nI r < (30 : Int32) from lm (n := 30) (by omega) (by omega)), List.drop_of_length_le (by simp; omega), show nI i + 1 = nI (i + 1) from nI_add i 1]
      rfl
    | succ j ih =>
      intro r f hr hf
      obtain ⟨f, rfl⟩ : ∃ g, f = g + 2 := ⟨f - 2, by omega⟩
      obtain ⟨g, hg, hrun⟩ := ih (r + 1) f (by omega) (by omega)
      have hr30 : r < 30 := by omega
      refine ⟨g, by omega, ?_⟩
      rw [e_Md_stopped_46, if_pos (show nI r < (30 : Int32) from lp (n := 30) hr30 (by decide)), gg_Md_state, Option.bind_some, show mm_li (hp G) 628 (nI b + 0) = _ from rd hb 0 (by omega), Option.bind_some, Nat.add_zero, H.d, s_Md_has _ (by omega), ci_some, drop_cons (l := List.range 30) (i := r) (by simpa using hr30), List.getElem_range, List.any_cons]
      have skip : twR P A i r = false → mm_run p_Md_stopped (f + 1) 81 [.ref 618, .int (nI b), .int (nI i), .int (nI r)] [.int 0] (hp G) = if twR P A i r || ((List.range 30).drop (r + 1)).any (twR P A i) then some (some (.int 0), hp G) else mm_run p_Md_stopped g 36 [.ref 618, .int (nI b), .int (nI (i + 1))] [] (hp G) := fun ht => by
        rw [e_Md_stopped_81, if_pos rfl, show nI r + 1 = nI (r + 1) from nI_add r 1, hrun, ht, Bool.false_or]
      cases hD : bt (aD A) r
      · rw [if_pos (by decide)]
        exact skip (by unfold twR; rw [hD]; rfl)
      · have hrm := h.kr.2.2.1 r hD
        rw [if_neg (by decide), m_kindOf H.hP hni hi, ci_some]
        by_cases e2 : pKd P i = 2
        · rw [if_pos (show nI (pKd P i) = (2 : Int32) from lq (n := 2) e2), e_Md_stopped_81, if_neg (by decide), gg_Md_state, Option.bind_some, show mm_li (hp G) 628 (nI b + 0) = _ from rd hb 0 (by omega), Option.bind_some, Nat.add_zero, H.d, m_columnAt H.hP hni hi, ci_some, m_columnAt H.hP hni hi, ci_some, m_valueOf H h hrm hco, ci_some, m_having H h (fun q hq => h.kr.2.2.1 q hq) hco (by have := h.kr.2.1 r _ hrm hco; omega), ci_some, s_Md_manyOf (fun q hq => by
            by_cases h32 : q < 32
            · rw [bt_hav _ _ _ _ h32] at hq
              simp only [Bool.and_eq_true, decide_eq_true_eq] at hq
              exact hq.1
            · rw [b_big (by omega)] at hq; exact absurd hq (by decide)), ci_some]
          have hbc : bc (havS (aV A) (aD A) (pCo P i) (aV A r (pCo P i))) ≤ 32 := by
            unfold bc
            refine Nat.le_trans (List.length_filter_le _ _) ?_
            simp
          by_cases g1 : 1 < bc (havS (aV A) (aD A) (pCo P i) (aV A r (pCo P i)))
          · have ht : twR P A i r = true := by unfold twR valA; rw [hD, e2, decide_eq_true g1]; rfl
            rw [if_pos (show (1 : Int32) < nI _ from lp (a := 1) g1 (by omega)), ht, Bool.true_or, if_pos rfl]
          · have ht : twR P A i r = false := by unfold twR valA; rw [hD, e2, decide_eq_false g1]; rfl
            rw [if_neg (show ¬ (1 : Int32) < nI _ from lm (a := 1) (by omega) (by omega)), show nI r + 1 = nI (r + 1) from nI_add r 1, hrun, ht, Bool.false_or]
        · rw [if_neg (show ¬ nI (pKd P i) = (2 : Int32) from ln (n := 2) e2 (by omega) (by decide))]
          exact skip (by unfold twR; rw [hD, show (pKd P i == 2) = false by simpa using e2]; rfl)
  have out : ∀ (j i f : Nat), i + j = pNi P → 70 * j + 30 < f → ∃ g, 30 < g ∧ mm_run p_Md_stopped f 36 [.ref 618, .int (nI b), .int (nI i)] [] (hp G) = if ((List.range (pNi P)).drop i).any (fun i => (List.range 30).any (twR P A i)) then some (some (.int 0), hp G) else mm_run p_Md_stopped g 36 [.ref 618, .int (nI b), .int (nI (pNi P))] [] (hp G) := by
    intro j
    induction j with
    | zero =>
      intro i f hi hf
      refine ⟨f, by omega, ?_⟩
      rw [show i = pNi P by omega, List.drop_of_length_le (by simp)]
      rfl
    | succ j ih =>
      intro i f hi hf
      obtain ⟨f, rfl⟩ : ∃ g, f = g + 1 := ⟨f - 1, by omega⟩
      have hil : i < pNi P := by omega
      obtain ⟨g, hg, hrow⟩ := row i hil 30 0 f (by omega) (by omega)
      obtain ⟨g2, hg2, hrun⟩ := ih (i + 1) g (by omega) (by omega)
      refine ⟨g2, hg2, ?_⟩
      rw [e_Md_stopped_36, m_indexes H.hP, ci_some, if_pos (lp hil (by omega)), show mm_run p_Md_stopped f 46 [.ref 618, .int (nI b), .int (nI i), .int 0] [] (hp G) = _ from hrow, drop_cons (l := List.range (pNi P)) (i := i) (by simpa using hil), List.getElem_range, List.any_cons, List.drop_zero]
      cases ht : (List.range 30).any (twR P A i)
      · rw [if_neg (by decide), Bool.false_or, hrun]
      · rw [if_pos rfl, Bool.true_or, if_pos rfl]
  obtain ⟨g, hg, hrun⟩ := out (pNi P) 0 f0 (by omega) (by omega)
  exact ⟨g, hg, hrun⟩
/-- the pointers come back -/
theorem m_back {f0 : Nat} (H1 : MS G b P A) {J : JB} (hJ : aJ A = some J) (hkp : okP (aN A) (aS A) (aT A)) {G1 : GG} (e1 : ∀ k, k ≠ b + 1 → k ≠ b + 5 → G1.1 628 k = G.1 628 k) (hf0 : 20 < f0) : ∃ G', mm_run p_Md_stopped f0 163 [.ref 618, .int (nI b), .int 0] [] (hp G1) = some (some (.int 1), hp G') ∧ (∀ k, ¬ (b + 55 ≤ k ∧ k < b + 67) → G'.1 628 k = G1.1 628 k) ∧ (∀ p, p < aN A → G'.1 628 (b + 55 + p) = broughtBack (aT A) (aB A) p) ∧ mdF (mB b) G1 G' := by
  have hb := H1.hb
  have hn12 := hkp.1
  have hj := H1.j
  rw [hJ] at hj
  obtain ⟨-, -, -, -, w⟩ := hj
  have key : ∀ (j p f : Nat) (G2 : GG), p + j = aN A → j < f → (∀ k, ¬ (b + 55 ≤ k ∧ k < b + 67) → G2.1 628 k = G1.1 628 k) → (∀ q, p ≤ q → q < aN A → G2.1 628 (b + 55 + q) = aT A q) → (∀ q, q < p → G2.1 628 (b + 55 + q) = broughtBack (aT A) (aB A) q) → mdF (mB b) G1 G2 → ∃ G', mm_run p_Md_stopped f 163 [.ref 618, .int (nI b), .int (nI p)] [] (hp G2) = some (some (.int 1), hp G') ∧ (∀ k, ¬ (b + 55 ≤ k ∧ k < b + 67) → G'.1 628 k = G1.1 628 k) ∧ (∀ p, p < aN A → G'.1 628 (b + 55 + p) = broughtBack (aT A) (aB A) p) ∧ mdF (mB b) G1 G' := by
    intro j
    induction j with
    | zero =>
      intro p f G2 hp1 hf a1 a2 a3 q2
      obtain ⟨f, rfl⟩ : ∃ g, f = g + 1 := ⟨f - 1, by omega⟩
      refine ⟨G2, ?_, a1, fun q hq => a3 q (by omega), q2⟩
      rw [e_Md_stopped_163, gg_Md_state, Option.bind_some, show mm_li (hp G2) 628 (nI b + 4) = _ from rd hb 4 (by omega), Option.bind_some, a1 _ (by omega), e1 _ (by omega) (by omega), H1.pt.1, if_neg (lm (by omega) (by omega))]
    | succ j ih =>
      intro p f G2 hp1 hf a1 a2 a3 q2
      obtain ⟨f, rfl⟩ : ∃ g, f = g + 1 := ⟨f - 1, by omega⟩
      have hpn : p < aN A := by omega
      have d43 : G2.1 628 (b + 43 + p) = nI (aS A p) := by rw [a1 _ (by omega), e1 _ (by omega) (by omega)]; exact (H1.pt.2 p hpn).1
      have d55 : G2.1 628 (b + 55 + p) = aT A p := a2 p (Nat.le_refl _) hpn
      have d67 : G2.1 628 (b + 67 + p) = G.1 628 (b + 67 + p) := by rw [a1 _ (by omega), e1 _ (by omega) (by omega)]
      have hw := w p hpn
      generalize G.1 628 (b + 67 + p) = wv at *
      have stay : broughtBack (aT A) (aB A) p = aT A p → ∃ G', mm_run p_Md_stopped f 163 [.ref 618, .int (nI b), .int (nI p + 1)] [] (hp G2) = some (some (.int 1), hp G') ∧ (∀ k, ¬ (b + 55 ≤ k ∧ k < b + 67) → G'.1 628 k = G1.1 628 k) ∧ (∀ p, p < aN A → G'.1 628 (b + 55 + p) = broughtBack (aT A) (aB A) p) ∧ mdF (mB b) G1 G' := fun hbb => by
        rw [show nI p + 1 = nI (p + 1) from nI_add p 1]
        refine ih (p + 1) f G2 (by omega) (by omega) a1 (fun q x1 x2 => a2 q (by omega) x2) (fun q hq => ?_) q2
        by_cases eq : q = p
        · rw [eq, d55, hbb]
        · exact a3 q (by omega)
      have move : broughtBack (aT A) (aB A) p = wv → ∃ G', ((mm_gr 12 14 (hp G2) 618).bind fun r11 => (mm_gr 12 14 (hp G2) 618).bind fun r12 => (mm_li (hp G2) r12 ((nI b + 67) + nI p)).bind fun x13 => (mm_si (hp G2) r11 ((nI b + 55) + nI p) x13).bind fun h14 => mm_run p_Md_stopped f 163 [.ref 618, .int (nI b), .int (nI p + 1)] [] h14) = some (some (.int 1), hp G') ∧ (∀ k, ¬ (b + 55 ≤ k ∧ k < b + 67) → G'.1 628 k = G1.1 628 k) ∧ (∀ p, p < aN A → G'.1 628 (b + 55 + p) = broughtBack (aT A) (aB A) p) ∧ mdF (mB b) G1 G' := fun hbb => by
        rw [gg_Md_state, Option.bind_some, Option.bind_some, show mm_li (hp G2) 628 ((nI b + 67) + nI p) = _ from rd2 hb 67 p (by omega), Option.bind_some, d67, show mm_si (hp G2) 628 ((nI b + 55) + nI p) wv = _ from wr2 hb 55 p (by omega) _, Option.bind_some, show nI p + 1 = nI (p + 1) from nI_add p 1]
        refine ih (p + 1) f _ (by omega) (by omega) (fun k hk => ?_) (fun q x1 x2 => ?_) (fun q hq => ?_) (q2.tr (mdF.cell ⟨by omega, by omega⟩))
        · rw [gsi_i, if_pos rfl, upd_ne _ _ (by omega)]; exact a1 k hk
        · rw [gsi_i, if_pos rfl, upd_ne _ _ (by omega)]; exact a2 q (by omega) x2
        · by_cases eq : q = p
          · rw [eq, gsi_i, if_pos rfl, upd_at, hbb]
          · rw [gsi_i, if_pos rfl, upd_ne _ _ (by omega)]; exact a3 q (by omega)
      rw [e_Md_stopped_163, gg_Md_state, Option.bind_some, show mm_li (hp G2) 628 (nI b + 4) = _ from rd hb 4 (by omega), Option.bind_some, a1 _ (by omega), e1 _ (by omega) (by omega), H1.pt.1, if_pos (lp hpn (by omega)), Option.bind_some, show mm_li (hp G2) 628 ((nI b + 43) + nI p) = _ from rd2 hb 43 p (by omega), Option.bind_some, d43]
      have hb1 : aB A p = -1 → broughtBack (aT A) (aB A) p = aT A p := fun e => if_pos e
      have hb2 : aB A p = wv ∧ aB A p ≠ -1 → broughtBack (aT A) (aB A) p = wv := fun e => by unfold broughtBack; rw [if_neg e.2]; exact e.1
      unfold wasOk at hw
      have hS2 := (hkp.2 p hpn).1
      by_cases eS : aS A p = 1
      · rw [if_pos (show nI (aS A p) = (1 : Int32) from lq (n := 1) eS), Option.bind_some, show mm_li (hp G2) 628 ((nI b + 55) + nI p) = _ from rd2 hb 55 p (by omega), Option.bind_some, d55]
        by_cases eT : aT A p = -2
        · rw [if_pos eT, Option.bind_some, show mm_li (hp G2) 628 ((nI b + 67) + nI p) = _ from rd2 hb 67 p (by omega), Option.bind_some, d67, ite_self]
          rw [if_pos (Or.inr ⟨eS, eT⟩)] at hw
          exact stay (hb1 hw)
        · rw [if_neg eT, Option.bind_some, show mm_li (hp G2) 628 ((nI b + 67) + nI p) = _ from rd2 hb 67 p (by omega), Option.bind_some, d67]
          by_cases e3 : wv = -3
          · rw [if_pos e3]
            rw [if_pos (Or.inl e3)] at hw
            exact stay (hb1 hw)
          · rw [if_neg e3]
            rw [if_neg (fun q => q.elim e3 (fun q => eT q.2))] at hw
            exact move (hb2 hw)
      · rw [if_neg (show ¬ nI (aS A p) = (1 : Int32) from ln (n := 1) eS (by omega) (by decide)), Option.bind_some, show mm_li (hp G2) 628 ((nI b + 67) + nI p) = _ from rd2 hb 67 p (by omega), Option.bind_some, d67]
        by_cases e3 : wv = -3
        · rw [if_pos e3]
          rw [if_pos (Or.inl e3)] at hw
          exact stay (hb1 hw)
        · rw [if_neg e3]
          rw [if_neg (fun q => q.elim e3 (fun q => eS q.1))] at hw
          exact move (hb2 hw)
  exact key (aN A) 0 f0 G1 (by omega) (by omega) (fun k _ => rfl) (fun q _ hq => by rw [e1 _ (by omega) (by omega)]; exact (H1.pt.2 q hq).2) (fun q hq => absurd hq (Nat.not_lt_zero _)) mdF.rf
theorem m_stopped (H : MS G b P A) (h : INV P A) : ∃ G', f_Md_stopped [.ref 618, .int (nI b)] (hp G) = some (some (.int (b2 (haltO P A).1)), hp G') ∧ MS G' b P (haltO P A).2 ∧ mdF (mB b) G G' := by
  have hb := H.hb
  have hni := h.ni
  have hs := h.os
  rw [e_Md_stopped 618 _ _ (ob_Md G), m_isGoing H, ci_some]
  cases hJ : aJ A with
  | none =>
    have hh : haltO P A = (false, A) := by unfold haltO; rw [hJ]
    rw [hh, show runO none = false from rfl, if_pos (by decide)]
    exact ⟨G, rfl, H, mdF.rf⟩
  | some J =>
    have hh : haltO P A = if canHalt P A then (true, haltA P A J) else (false, A) := by unfold haltO; rw [hJ]
    have hcan : canHalt P A = (!jDn J && (decide ((jRe J).length = 0) && (decide (jSi J = 0) && !dblA P A))) := by unfold canHalt; rw [hJ]
    have no : canHalt P A = false → ∃ G', some (some (Value.int 0), hp G) = some (some (.int (b2 (haltO P A).1)), hp G') ∧ MS G' b P (haltO P A).2 ∧ mdF (mB b) G G' := fun hc => by
      rw [hh, hc, if_neg (by decide)]
      exact ⟨G, rfl, H, mdF.rf⟩
    have hj := H.j
    have hk := h.ka.2.2.2
    rw [hJ] at hj hk
    obtain ⟨⟨c5, c6, c7, c8, c9, c10, c11, c12⟩, s, r, t, w⟩ := id hj
    obtain ⟨k1, k2, k3, k4, k5, k6, k7⟩ := hk
    obtain ⟨j1, j2, j3, -⟩ := h.2.2.2.2 J hJ
    cases hd : jDn J
    · rw [show runO (some J) = true by unfold runO; simp [hd], if_neg (by decide), gg_Md_state, Option.bind_some, show mm_li (hp G) 628 (nI b + 10) = _ from rd hb 10 (by omega), Option.bind_some, c10]
      by_cases hre : (jRe J).length = 0
      · rw [if_neg (show ¬ (0 : Int32) < nI (jRe J).length from lm (a := 0) (by omega) (by decide)), Option.bind_some, show mm_li (hp G) 628 (nI b + 8) = _ from rd hb 8 (by omega), Option.bind_some, c8]
        by_cases hsi : jSi J = 0
        · rw [if_neg (show ¬ (0 : Int32) < nI (jSi J) from lm (a := 0) (by omega) (by decide))]
          obtain ⟨g, hg, hrun⟩ := m_twice H h (f0 := mm_fu) (fu_lt (by omega))
          rw [hrun, tw_dbl h]
          cases hdb : dblA P A
          · rw [if_neg (by decide)]
            have hc : canHalt P A = true := by rw [hcan, hd, decide_eq_true hre, decide_eq_true hsi, hdb]; rfl
            rw [hh, hc, if_pos rfl]
            obtain ⟨g, rfl⟩ : ∃ g', g = g' + 1 := ⟨g - 1, by omega⟩
            rw [e_Md_stopped_36, m_indexes H.hP, ci_some, if_neg (lm (Nat.le_refl _) (by omega)), gg_Md_state, Option.bind_some, show mm_li (hp G) 628 (nI b + 6) = _ from rd hb 6 (by omega), Option.bind_some, c6]
            -- the end
            have tail : ∀ (G1 : GG) (A1 : AS), MS G1 b P A1 → okS P A1 → (∃ J1, aJ A1 = some J1 ∧ jSd J1 = []) → mdF (mB b) G G1 → haltA P A J = setT (setJ (setR A1 (aV A1) (aM A1) (aD A1) 0) none) (aN A1) (aS A1) (broughtBack (aT A1) (aB A1)) (fun _ => -1) → ∃ G', mm_cv (f_Md_ends [.ref 618, .int (nI b)] (hp G1)) (fun h7 => mm_run p_Md_stopped g 163 [.ref 618, .int (nI b), .int 0] [] h7) = some (some (.int (b2 true)), hp G') ∧ MS G' b P (haltA P A J) ∧ mdF (mB b) G G' := fun G1 A1 H1 hs1 hJ1 q1 hAe => by
              obtain ⟨J1, hJ1, hsd1⟩ := hJ1
              rw [m_ends hb, cv_some]
              have ev : ∀ k, k ≠ b + 1 → k ≠ b + 5 → (gsi (gsi G1 628 (b + 5) 0) 628 (b + 1) 0).1 628 k = G1.1 628 k := fun k x1 x2 => by rw [gsi_i, if_pos rfl, upd_ne _ _ x1, gsi_i, if_pos rfl, upd_ne _ _ x2]
              obtain ⟨G2, r1, r2, r3, r4⟩ := m_back H1 hJ1 hs1.kp (G1 := gsi (gsi G1 628 (b + 5) 0) 628 (b + 1) 0) ev (f0 := g) (by omega)
              rw [r1]
              have qE : mdF (mB b) G1 (gsi (gsi G1 628 (b + 5) 0) 628 (b + 1) 0) := (mdF.cell ⟨by omega, by omega⟩).tr (mdF.cell ⟨by omega, by omega⟩)
              have q2 : mdF (mB b) G G2 := (q1.tr qE).tr r4
              refine ⟨G2, rfl, ?_, q2⟩
              rw [hAe]
              have hj1 := H1.j
              rw [hJ1] at hj1
              have d12 := hj1.1.2.2.2.2.2.2.2
              rw [hsd1] at d12
              have := H1.none_ hs1 (f' := G2.1 628) (D := aD A1) (T := broughtBack (aT A1) (aB A1)) (B := fun _ => -1) H1.hP (fun k x1 x2 x3 x4 x5 => by rw [r2 k x5, ev k x2 x3]) (by rw [r2 _ (by omega), ev _ (by omega) (by omega)]; exact H1.d) (by rw [r2 _ (by omega), gsi_i, if_pos rfl, upd_at]) (by rw [r2 _ (by omega), gsi_i, if_pos rfl, upd_ne _ _ (by omega), gsi_i, if_pos rfl, upd_at]) (by rw [r2 _ (by omega), ev _ (by omega) (by omega)]; exact d12) r3
              exact ⟨⟨hb, H.hP.fr q2⟩, this⟩
            by_cases ha : jAt J < pNi P
            · rw [if_neg (show ¬ nI (jAt J) = (4 : Int32) from ln (n := 4) (by omega) (by omega) (by decide))]
              obtain ⟨-, c2, c3, -⟩ := can_halt hJ hc
              have hrp := halt_rpl h hJ c2 c3 ha
              obtain ⟨G1, u1, u2, u3⟩ := m_carries H hs hJ ha hrp
              rw [u1, cv_some]
              have hk1 : okS P (carA P A J) := by
                unfold carA
                rw [if_pos ha]
                have t1 := hs.tree (i := jAt J) (L := ((jSd J).foldl (carS P (jAt J)) (aL A (jAt J), aX A)).1) (by rw [carS_L]; exact (rpl_car (h.kl ha) hrp).2.1) ((jSd J).foldl (carS P (jAt J)) (aL A (jAt J), aX A)).2
                exact t1.job (J := jNoSd J) ⟨k1, k2, Nat.zero_le _, k4, k5, k6, k7⟩ (fun _ => show okL (pPg P) (jSt J) from h.st hJ ha) _
              refine tail G1 _ u2 hk1 ⟨jNoSd J, rfl, rfl⟩ u3 ?_
              unfold haltA endA carA
              rw [if_pos ha]
              rfl
            · obtain ⟨b1, b2', -, -⟩ := j1.resolve_left ha
              rw [if_pos (show nI (jAt J) = (4 : Int32) from lq (n := 4) b1)]
              refine tail G A H hs ⟨J, hJ, b2'⟩ mdF.rf ?_
              unfold haltA endA carA
              rw [if_neg ha]
              rfl
          · rw [if_pos rfl]
            exact no (by rw [hcan, hdb]; simp)
        · rw [if_pos (show (0 : Int32) < nI (jSi J) from lp (a := 0) (by omega) (by omega))]
          exact no (by rw [hcan, decide_eq_false hsi]; simp)
      · rw [if_pos (show (0 : Int32) < nI (jRe J).length from lp (a := 0) (by omega) (by omega))]
        exact no (by rw [hcan, decide_eq_false hre]; simp)
    · rw [show runO (some J) = false by unfold runO; simp [hd], if_pos (by decide)]
      exact no (by rw [hcan, hd]; rfl)
end MDX
