/-! THE REFERENCE: a beginning -/
theorem s_Md_manyOf {x : Int32} (hx : ∀ r, bt x r = true → r < 30) (h : mm_H) : f_Md_manyOf [.int x] h = some (some (.int (nI (bc x))), h) := by
  rw [e_Md_manyOf]
  have := fold_loop (n := 30) (g := fun a r => a + (if bt x r then 1 else 0)) (R := fun f r a => mm_run p_Md_manyOf f 4 [.int x, .int (nI a), .int (nI r)] [] h) (fin := fun a => some (some (.int (nI a)), h)) (fun _ _ => True) (fun f r a hr _ => by
    refine ⟨?_, trivial⟩
    show mm_run _ _ _ _ _ _ = mm_run _ _ _ _ _ _
    rw [e_Md_manyOf_4, if_pos (show nI r < (30 : Int32) from lp (n := 30) hr (by decide)), bt_shr1 x (by omega), i01n, i_add, show nI r + 1 = nI (r + 1) from nI_add r 1]) (fun f a _ => by
    show mm_run _ _ _ _ _ _ = _
    rw [e_Md_manyOf_4, if_neg (show ¬ nI 30 < (30 : Int32) by decide)]) trivial (a := 0) (fu_lt (by omega))
  refine this.1.trans ?_
  rw [foldl_count, Nat.zero_add]
  unfold bc
  have e : (List.range 32).filter (bt x) = (List.range 30).filter (bt x) := by
    have : List.range 32 = List.range 30 ++ [30, 31] := by decide
    rw [this, List.filter_append]
    have h0 : bt x 30 = false := by
      cases g : bt x 30
      · rfl
      · exact absurd (hx 30 g) (by omega)
    have h1 : bt x 31 = false := by
      cases g : bt x 31
      · rfl
      · exact absurd (hx 31 g) (by omega)
    simp [h0, h1]
  rw [e]
section MDB
variable {G : GG} {b : Nat} {P : PP} {A : AS}
theorem firm_kept (h : INV P A) (hJ : aJ A = none) {w : Int32} (hw : ∀ r, bt w r = true → bt (visA A) r = true) (hh : hindA A w = 0) {p : Nat} (hp1 : p < aN A) {v : Nat} (hv : v ≤ 999) (e : aT A p = nI v) (hS : aS A p = 0) : ¬ havS (aV A) (visB (aD A) w) 0 v = 0 := by
  obtain ⟨⟨hP, k1, k2, k3, k4⟩, ⟨iP, iO, iC⟩, iT, iN, iJ⟩ := id h
  obtain ⟨n1, n2⟩ := iN hJ
  have hvis : ∀ q, q < 32 → bt (visB (aD A) w) q = (bt (visA A) q && !bt w q) := fun q hq => by
    unfold visA
    rw [bt_vis _ _ hq, bt_vis _ _ hq, n1, b_0]
    simp
  intro g
  have hl := hav_0.mp g
  obtain ⟨q, q1, q2⟩ := iP p hp1 v hv e
  have hq30 := (vis_lt k1 q1).2
  have h12 : aN A ≤ 12 := k2.1
  have hb := (z_int.mp hh) p (by omega)
  unfold hindA at hb
  rw [bt_msk _ _ (by omega) p (by omega), decide_eq_true hp1] at hb
  have hf : isFirmP (aS A) (aT A) p = true := by
    unfold isFirmP
    rw [hS, e, decide_eq_false (n_nneg (by omega))]
    rfl
  rw [hf, e, nI_tn (by omega)] at hb
  have hz : havS (aV A) (visA A) 0 v &&& (w ^^^ (-1)) = 0 := z_int.mpr (fun u hu => by
    rw [b_and, bt_hav _ _ _ _ hu, bt_not _ hu]
    by_cases h30 : u < 30
    · have := hl u h30
      rw [hvis u hu] at this
      cases g1 : bt (visA A) u
      · simp
      · cases g2 : bt w u
        · have := this (by rw [g1, g2]; rfl)
          simp [this]
        · simp
    · simp [h30])
  have hnz : ¬ havS (aV A) (visA A) 0 v &&& w = 0 := fun q3 => by
    have hbq := (z_int.mp q3) q (by omega)
    rw [b_and, bt_hav _ _ _ _ (by omega), decide_eq_true hq30, q1, q2] at hbq
    have hwq : bt w q = false := by simpa using hbq
    exact hl q hq30 (by rw [hvis q (by omega), q1, hwq]; rfl) q2
  rw [decide_eq_true hz, decide_eq_false hnz] at hb
  exact absurd hb (by decide)
theorem m_letsGo {p : Nat} {S : Nat} (hb : b ≤ 9252) (hp1 : p < 12) (h43 : G.1 628 (b + 43 + p) = nI S) (hS : S ≤ 2) : f_Md_letsGo [.ref 618, .int (nI b), .int (nI p)] (hp G) = some (none, hp (gsi G 628 (b + 55 + p) (if S = 1 then -1 else -2))) := by
  rw [e_Md_letsGo 618 _ _ _ (ob_Md G), gg_Md_state, Option.bind_some, Option.bind_some, show mm_li (hp G) 628 ((nI b + 43) + nI p) = _ from rd2 hb 43 p (by omega), Option.bind_some, h43]
  by_cases e : S = 1
  · rw [if_pos (show nI S = (1 : Int32) from lq (n := 1) e), if_pos e, show mm_si (hp G) 628 ((nI b + 55) + nI p) (-1) = _ from wr2 hb 55 p (by omega) _, Option.bind_some]
  · rw [if_neg (show ¬ nI S = (1 : Int32) from ln (n := 1) e (by omega) (by decide)), if_neg e, show mm_si (hp G) 628 ((nI b + 55) + nI p) (-2) = _ from wr2 hb 55 p (by omega) _, Option.bind_some]
def begO (A : AS) (x : Int32) : Int32 := if canLau A x then nI (bc x) else -1
theorem m_begun (H : MS G b P A) (h : INV P A) {x : Int32} (hx : ∀ r, bt x r = true → bt (visA A) r = true) : ∃ G', f_Md_begun [.ref 618, .int (nI b), .int x] (hp G) = some (some (.int (begO A x)), hp G') ∧ MS G' b P (lauO P A x).2 ∧ mdF (mB b) G G' := by
  have hb := H.hb
  have hni := h.ni
  have hs := h.os
  have hn12 := h.kp.1
  have hm30 := h.kr.1
  rw [e_Md_begun 618 _ _ _ (ob_Md G), gg_Md_state, Option.bind_some, show mm_li (hp G) 628 (nI b + 5) = _ from rd hb 5 (by omega), Option.bind_some]
  have hj := H.j
  cases hJ : aJ A with
  | some J =>
    rw [hJ] at hj
    have hc : canLau A x = false := by unfold canLau; rw [hJ]; rfl
    unfold begO lauO
    rw [hc, hj.1.1, if_pos rfl]
    exact ⟨G, rfl, H, mdF.rf⟩
  | none =>
    rw [hJ] at hj
    rw [hj.1, if_neg (by decide)]
    by_cases h0 : x = 0
    · have hc : canLau A x = false := by unfold canLau; rw [hJ, decide_eq_true h0]; rfl
      unfold begO lauO
      rw [hc, if_pos h0]
      exact ⟨G, rfl, H, mdF.rf⟩
    · rw [if_neg h0, m_hindering H h hx, ci_some]
      by_cases hh : hindA A x = 0
      · have hc : canLau A x = true := by unfold canLau; rw [hJ, decide_eq_false h0, decide_eq_true hh]; rfl
        unfold begO lauO
        rw [hc, if_pos hh, if_pos rfl, if_pos rfl, gg_Md_state, Option.bind_some, show mm_si (hp G) 628 (nI b + 5) 1 = _ from wr hb 5 (by omega) _, Option.bind_some, gg_Md_state, Option.bind_some, show mm_si (hp (gsi G 628 (b + 5) 1)) 628 (nI b + 1) x = _ from wr hb 1 (by omega) _, Option.bind_some, gg_Md_state, Option.bind_some, show mm_si (hp (gsi (gsi G 628 (b + 5) 1) 628 (b + 1) x)) 628 (nI b + 10) 0 = _ from wr hb 10 (by omega) _, Option.bind_some, gg_Md_state, Option.bind_some, show mm_si (hp (gsi (gsi (gsi G 628 (b + 5) 1) 628 (b + 1) x) 628 (b + 10) 0)) 628 (nI b + 11) 0 = _ from wr hb 11 (by omega) _, Option.bind_some, gg_Md_state, Option.bind_some, show mm_si (hp (gsi (gsi (gsi (gsi G 628 (b + 5) 1) 628 (b + 1) x) 628 (b + 10) 0) 628 (b + 11) 0)) 628 (nI b + 12) 0 = _ from wr hb 12 (by omega) _, Option.bind_some]
        generalize hG1 : gsi (gsi (gsi (gsi (gsi G 628 (b + 5) 1) 628 (b + 1) x) 628 (b + 10) 0) 628 (b + 11) 0) 628 (b + 12) 0 = G1
        have ev1 : G1.1 628 = upd (upd (upd (upd (upd (G.1 628) (b + 5) 1) (b + 1) x) (b + 10) 0) (b + 11) 0) (b + 12) 0 := by rw [← hG1]; rfl
        have ec1 : ∀ k, k ≠ b + 5 → k ≠ b + 1 → k ≠ b + 10 → k ≠ b + 11 → k ≠ b + 12 → G1.1 628 k = G.1 628 k := fun k x1 x2 x3 x4 x5 => by rw [ev1, upd_ne _ _ x5, upd_ne _ _ x4, upd_ne _ _ x3, upd_ne _ _ x2, upd_ne _ _ x1]
        have q1 : mdF (mB b) G G1 := by
          rw [← hG1]
          exact ((((mdF.cell ⟨by omega, by omega⟩).tr (mdF.cell ⟨by omega, by omega⟩)).tr (mdF.cell ⟨by omega, by omega⟩)).tr (mdF.cell ⟨by omega, by omega⟩)).tr (mdF.cell ⟨by omega, by omega⟩)
        have hinv := lau_inv h hJ hx hh
        -- the pointers
        have key : ∀ (j p f : Nat) (G2 : GG), p + j = aN A → j + 1 < f → (∀ k, ¬ (b + 55 ≤ k ∧ k < b + 79) → G2.1 628 k = G1.1 628 k) → (∀ q, p ≤ q → q < aN A → G2.1 628 (b + 55 + q) = aT A q) → (∀ q, q < p → G2.1 628 (b + 55 + q) = aT (lauB A x) q ∧ wasOk (G2.1 628 (b + 67 + q)) (aS A q) (aT (lauB A x) q) (aB (lauB A x) q)) → mdF (mB b) G G2 → ∃ G3, mm_run p_Md_begun f 77 [.ref 618, .int (nI b), .int x, .int (nI p)] [] (hp G2) = mm_cv (f_Md_comes [.ref 618, .int (nI b), .int 0] (hp G3)) (fun h16 => mm_ci (f_Md_manyOf [.int x] h16) fun x18 h17 => some (some (.int x18), h17)) ∧ (∀ k, ¬ (b + 55 ≤ k ∧ k < b + 79) → G3.1 628 k = G1.1 628 k) ∧ (∀ q, q < aN A → G3.1 628 (b + 55 + q) = aT (lauB A x) q ∧ wasOk (G3.1 628 (b + 67 + q)) (aS A q) (aT (lauB A x) q) (aB (lauB A x) q)) ∧ mdF (mB b) G G3 := by
          intro j
          induction j with
          | zero =>
            intro p f G2 hj2 hf e1 e2 e3 q2
            obtain ⟨f, rfl⟩ : ∃ g, f = g + 1 := ⟨f - 1, by omega⟩
            refine ⟨G2, ?_, e1, fun q hq => e3 q (by omega), q2⟩
            rw [e_Md_begun_77, gg_Md_state, Option.bind_some, show mm_li (hp G2) 628 (nI b + 4) = _ from rd hb 4 (by omega), Option.bind_some, e1 _ (by omega), ec1 _ (by omega) (by omega) (by omega) (by omega) (by omega), H.pt.1, if_neg (lm (by omega) (by omega))]
          | succ j ih =>
            intro p f G2 hj2 hf e1 e2 e3 q2
            obtain ⟨f, rfl⟩ : ∃ g, f = g + 1 := ⟨f - 1, by omega⟩
            have hpn : p < aN A := by omega
            obtain ⟨hS2, hT⟩ := h.kp.2 p hpn
            have hS43 : G2.1 628 (b + 43 + p) = nI (aS A p) := by rw [e1 _ (by omega), ec1 _ (by omega) (by omega) (by omega) (by omega) (by omega)]; exact (H.pt.2 p hpn).1
            have eT : aT (lauB A x) p = (if lostP (setR A (aV A) (aM A) (aD A) x) p then ls (aS A p) (aT A p) else aT A p) := lowF_lt hpn
            have eB : aB (lauB A x) p = (if lostP (setR A (aV A) (aM A) (aD A) x) p then aT A p else -1) := lowF_lt (A := ljB (setR A (aV A) (aM A) (aD A) x)) (B := fun _ => -1) (i := aN A) hpn
            -- nothing but the cell w
            have keepw : lostP (setR A (aV A) (aM A) (aD A) x) p = false → ∃ G3, ((mm_gr 12 14 (hp G2) 618).bind fun r5 => (mm_si (hp G2) r5 ((nI b + 67) + nI p) (-3)).bind fun h6 => mm_run p_Md_begun f 77 [.ref 618, .int (nI b), .int x, .int (nI p + 1)] [] h6) = mm_cv (f_Md_comes [.ref 618, .int (nI b), .int 0] (hp G3)) (fun h16 => mm_ci (f_Md_manyOf [.int x] h16) fun x18 h17 => some (some (.int x18), h17)) ∧ (∀ k, ¬ (b + 55 ≤ k ∧ k < b + 79) → G3.1 628 k = G1.1 628 k) ∧ (∀ q, q < aN A → G3.1 628 (b + 55 + q) = aT (lauB A x) q ∧ wasOk (G3.1 628 (b + 67 + q)) (aS A q) (aT (lauB A x) q) (aB (lauB A x) q)) ∧ mdF (mB b) G G3 := fun hl => by
              rw [gg_Md_state, Option.bind_some, show mm_si (hp G2) 628 ((nI b + 67) + nI p) (-3) = _ from wr2 hb 67 p (by omega) _, Option.bind_some, show nI p + 1 = nI (p + 1) from nI_add p 1]
              rw [hl, if_neg (by decide)] at eT eB
              refine ih (p + 1) f _ (by omega) (by omega) (fun k hk => ?_) (fun q q1 q3 => ?_) (fun q hq => ?_) (q2.tr (mdF.cell ⟨by omega, by omega⟩))
              · rw [gsi_i, if_pos rfl, upd_ne _ _ (by omega)]; exact e1 k hk
              · rw [gsi_i, if_pos rfl, upd_ne _ _ (by omega)]; exact e2 q (by omega) q3
              · rw [gsi_i, if_pos rfl, upd_ne _ _ (by omega)]
                by_cases eq : q = p
                · subst eq
                  refine ⟨by rw [eT]; exact e2 q (Nat.le_refl _) hpn, ?_⟩
                  rw [upd_at]
                  unfold wasOk
                  rw [if_pos (Or.inl rfl)]
                  exact eB
                · rw [upd_ne _ _ (by omega)]
                  exact e3 q (by omega)
            rw [e_Md_begun_77, gg_Md_state, Option.bind_some, show mm_li (hp G2) 628 (nI b + 4) = _ from rd hb 4 (by omega), Option.bind_some, e1 _ (by omega), ec1 _ (by omega) (by omega) (by omega) (by omega) (by omega), H.pt.1, if_pos (lp hpn (by omega)), Option.bind_some, show mm_li (hp G2) 628 ((nI b + 55) + nI p) = _ from rd2 hb 55 p (by omega), Option.bind_some, e2 p (Nat.le_refl _) hpn]
            by_cases hneg : aT A p < 0
            · rw [if_pos hneg]
              refine keepw ?_
              unfold lostP
              rw [show aT (setR A (aV A) (aM A) (aD A) x) p = aT A p from rfl, decide_eq_true hneg]
              rfl
            · have hv : ∃ v, v ≤ 999 ∧ aT A p = nI v := by
                rcases hT with e | e | e
                · rw [e] at hneg; exact absurd (by decide) hneg
                · rw [e] at hneg; exact absurd (by decide) hneg
                · exact e
              obtain ⟨v, hv, eTp⟩ := hv
              have hvis2 : f_Md_visible [.ref 618, .int (nI b)] (hp G2) = some (some (.int (visB (aD A) x)), hp G2) := s_Md_visible hb (by rw [e1 _ (by omega), ec1 _ (by omega) (by omega) (by omega) (by omega) (by omega)]; exact H.d) (by rw [e1 _ (by omega), ev1, upd_ne _ _ (by omega), upd_ne _ _ (by omega), upd_ne _ _ (by omega), upd_at])
              have hMV : isMV G2 b (aV A) (aM A) := fun r hr => by rw [e1 _ (by omega), ec1 _ (by omega) (by omega) (by omega) (by omega) (by omega)]; exact H.v r hr
              have hset : ∀ r, bt (visB (aD A) x) r = true → r < aM A := fun r hr => by
                by_cases h32 : r < 32
                · rw [bt_vis _ _ h32] at hr
                  simp only [Bool.and_eq_true] at hr
                  exact h.kr.2.2.1 r hr.1
                · rw [b_big] at hr
                  · exact absurd hr (by decide)
                  · omega
              have hhav : f_Md_having [.ref 618, .int (nI b), .int (visB (aD A) x), .int 0, .int (nI v)] (hp G2) = some (some (.int (havS (aV A) (visB (aD A) x) 0 v)), hp G2) := s_Md_having (k := 0) hb hMV (okV3_of h.kr) hm30 hset (by decide) (by omega)
              have hlost : lostP (setR A (aV A) (aM A) (aD A) x) p = decide (havS (aV A) (visB (aD A) x) 0 v = 0) := by
                unfold lostP
                rw [show aT (setR A (aV A) (aM A) (aD A) x) p = nI v from eTp, nI_tn (by omega), decide_eq_false (n_nneg (by omega))]
                rfl
              rw [if_neg hneg, hvis2, ci_some, eTp, hhav, ci_some]
              by_cases hz : havS (aV A) (visB (aD A) x) 0 v = 0
              · rw [decide_eq_true hz] at hlost
                have hS1 : aS A p = 1 ∨ aS A p = 2 := by
                  rcases (show aS A p = 0 ∨ aS A p = 1 ∨ aS A p = 2 by omega) with e | e | e
                  · exact absurd hz (firm_kept h hJ hx hh hpn hv eTp e)
                  · exact Or.inl e
                  · exact Or.inr e
                rw [hlost, if_pos rfl] at eT eB
                have eT2 : aT (lauB A x) p = if aS A p = 1 then -1 else -2 := by
                  rw [eT]
                  unfold ls
                  rw [if_neg hneg]
                  rcases hS1 with e | e
                  · rw [if_pos e, if_pos e]
                  · rw [if_neg (by omega), if_pos e, if_neg (by omega)]
                rw [if_pos hz, gg_Md_state, Option.bind_some, show mm_si (hp G2) 628 ((nI b + 67) + nI p) (nI v) = _ from wr2 hb 67 p (by omega) _, Option.bind_some, m_letsGo (S := aS A p) hb (by omega) (by rw [gsi_i, if_pos rfl, upd_ne _ _ (by omega)]; exact hS43) hS2, cv_some, show nI p + 1 = nI (p + 1) from nI_add p 1]
                refine ih (p + 1) f _ (by omega) (by omega) (fun k hk => ?_) (fun q q1 q3 => ?_) (fun q hq => ?_) ((q2.tr (mdF.cell ⟨by omega, by omega⟩)).tr (mdF.cell ⟨by omega, by omega⟩))
                · rw [gsi_i, if_pos rfl, upd_ne _ _ (by omega), gsi_i, if_pos rfl, upd_ne _ _ (by omega)]; exact e1 k hk
                · rw [gsi_i, if_pos rfl, upd_ne _ _ (by omega), gsi_i, if_pos rfl, upd_ne _ _ (by omega)]; exact e2 q (by omega) q3
                · by_cases eq : q = p
                  · subst eq
                    refine ⟨by rw [gsi_i, if_pos rfl, upd_at, eT2], ?_⟩
                    rw [gsi_i, if_pos rfl, upd_ne _ _ (by omega), gsi_i, if_pos rfl, upd_at]
                    unfold wasOk
                    rw [if_neg (fun hor => ?_), eB, eTp]
                    · exact ⟨rfl, n_m1 (by omega)⟩
                    · rcases hor with g | ⟨g1, g2⟩
                      · have : nI v < 0 := by rw [g]; decide
                        exact n_nneg (by omega) this
                      · rw [eT2, if_pos g1] at g2
                        exact absurd g2 (by decide)
                  · rw [gsi_i, if_pos rfl, upd_ne _ _ (by omega), upd_ne _ _ (by omega), gsi_i, if_pos rfl, upd_ne _ _ (by omega), upd_ne _ _ (by omega)]
                    exact e3 q (by omega)
              · rw [decide_eq_false hz] at hlost
                rw [if_neg hz]
                exact keepw hlost
        obtain ⟨G3, r1, r2, r3, r4⟩ := key (aN A) 0 mm_fu G1 (by omega) (fu_lt (by omega)) (fun k _ => rfl) (fun q _ hq => by rw [ec1 _ (by omega) (by omega) (by omega) (by omega) (by omega)]; exact (H.pt.2 q hq).2) (fun q hq => absurd hq (Nat.not_lt_zero _)) q1
        rw [show mm_run p_Md_begun mm_fu 77 [.ref 618, .int (nI b), .int x, .int 0] [] (hp G1) = _ from r1]
        have ec3 : ∀ k, ¬ (b + 55 ≤ k ∧ k < b + 79) → k ≠ b + 5 → k ≠ b + 1 → k ≠ b + 10 → k ≠ b + 11 → k ≠ b + 12 → G3.1 628 k = G.1 628 k := fun k x0 x1 x2 x3 x4 x5 => by rw [r2 k x0, ec1 k x1 x2 x3 x4 x5]
        have hcka : okR (aV (lauB A x)) (aM (lauB A x)) (aD (lauB A x)) (aC (lauB A x)) ∧ okP (aN (lauB A x)) (aS (lauB A x)) (aT (lauB A x)) := by
          have := hinv.ka
          unfold lauA comeA at this
          cases hfd : ((List.range (pNi P)).drop 0).find? (hasLeft (lauB A x)) with
          | none => rw [hfd] at this; exact ⟨this.1, this.2.1⟩
          | some i => rw [hfd] at this; exact ⟨this.1, this.2.1⟩
        have hs3 : okS P (setJ (lauB A x) (some (newJ A))) := ⟨⟨h.pp, hcka.1, hcka.2, h.ka.2.2.1, ⟨Nat.zero_le _, Nat.zero_le _, Nat.zero_le _, Nat.zero_le _, Nat.zero_le _, fun r hr => absurd hr (by simp [newJ, jRe]), Or.inl rfl⟩⟩, fun J' hJ' _ => by
          have e : newJ A = J' := Option.some.inj hJ'
          subst e
          exact ⟨h.pp.1, by simp [newJ, jSt], by simp [newJ, jSt], by simp [newJ, jSt], by simp [newJ, jSt], by simp [newJ, jSt]⟩⟩
        have HM0 : isMS0 (G3.1 628) b P (lauB A x) (newJ A) := by
          refine ⟨⟨by rw [ec3 _ (by omega) (by omega) (by omega) (by omega) (by omega) (by omega)]; exact H.d, ?_, by rw [ec3 _ (by omega) (by omega) (by omega) (by omega) (by omega) (by omega)]; exact H.m, by rw [ec3 _ (by omega) (by omega) (by omega) (by omega) (by omega) (by omega)]; exact H.x⟩, fun r hr => ?_, ⟨by rw [ec3 _ (by omega) (by omega) (by omega) (by omega) (by omega) (by omega)]; exact H.pt.1, fun p hp1 => ⟨?_, (r3 p hp1).1⟩⟩, fun j hj => ?_, ⟨?_, ?_, ?_, ?_⟩, fun k hk => absurd hk (Nat.not_lt_zero _), fun k hk => absurd hk (Nat.not_lt_zero _), fun p hp1 => (r3 p hp1).2⟩
          · rw [r2 _ (by omega), ev1, upd_ne _ _ (by omega), upd_ne _ _ (by omega), upd_ne _ _ (by omega), upd_at]; rfl
          · have hr2 : r < aM A := hr
            rw [ec3 _ (by omega) (by omega) (by omega) (by omega) (by omega) (by omega)]; exact H.v r hr2
          · have hp2 : p < aN A := hp1
            rw [ec3 _ (by omega) (by omega) (by omega) (by omega) (by omega) (by omega)]; exact (H.pt.2 p hp2).1
          · exact ms_tree (A := A) H.2.2.2.2.1 (fun i hi => h.kl hi) hj (fun k k1 k2 => ec3 k (by omega) (by omega) (by omega) (by omega) (by omega) (by omega))
          · rw [r2 _ (by omega), ev1, upd_ne _ _ (by omega), upd_ne _ _ (by omega), upd_ne _ _ (by omega), upd_ne _ _ (by omega), upd_at]
          · rw [r2 _ (by omega), ev1, upd_ne _ _ (by omega), upd_ne _ _ (by omega), upd_at]; rfl
          · rw [r2 _ (by omega), ev1, upd_ne _ _ (by omega), upd_at]; rfl
          · rw [r2 _ (by omega), ev1, upd_at]; rfl
        obtain ⟨G4, v1, v2, v3⟩ := m_comes hb (hP := H.hP.fr r4) HM0 hs3 rfl (n := 0) (Nat.zero_le _)
        rw [show f_Md_comes [.ref 618, .int (nI b), .int 0] (hp G3) = _ from v1, cv_some, s_Md_manyOf (fun r hr => (vis_lt h.kr (hx r hr)).2), ci_some]
        exact ⟨G4, rfl, v2, r4.tr v3⟩
      · have hc : canLau A x = false := by unfold canLau; rw [hJ, decide_eq_false h0, decide_eq_false hh]; rfl
        unfold begO lauO
        rw [hc, if_neg hh]
        exact ⟨G, rfl, H, mdF.rf⟩
end MDB
