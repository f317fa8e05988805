/-! THE REFERENCE: copies, where the JOB comes to -/
def cpy (f : Nat → Int32) (a t n : Nat) : Nat → Int32 := fun k => if t ≤ k ∧ k < t + n then f (a + (k - t)) else f k
theorem cpy_off {f : Nat → Int32} {a t n k : Nat} (h : k < t ∨ t + n ≤ k) : cpy f a t n k = f k := if_neg (by omega)
theorem isMf_cpy {f : Nat → Int32} {a t : Nat} {m : List Nat} (h : isMf f a m) (h30 : m.length ≤ 30) : isMf (cpy f a t 31) t m := by
  refine ⟨?_, fun k hk => ?_⟩
  · unfold cpy
    rw [if_pos (by omega), Nat.sub_self]
    exact h.1
  · show cpy f a t 31 (t + 1 + k) = _
    unfold cpy
    rw [if_pos (by omega), show a + (t + 1 + k - t) = a + 1 + k by omega]
    exact h.2 k hk
section MDO
variable {G : GG} {b : Nat} {P : PP} {A : AS}
theorem m_copies {a t n : Nat} (h1 : a + n ≤ 9766) (h2 : t + n ≤ 9766) (hd : a + n ≤ t ∨ t + n ≤ a) (hn : n ≤ 600) : f_Md_copies [.ref 618, .int (nI a), .int (nI t), .int (nI n)] (hp G) = some (none, hp (gsa G 628 (cpy (G.1 628) a t n))) := by
  rw [e_Md_copies 618 _ _ _ _ (ob_Md G)]
  have key : ∀ (q j f : Nat), j + q = n → q < f → mm_run p_Md_copies f 3 [.ref 618, .int (nI a), .int (nI t), .int (nI n), .int (nI j)] [] (hp (gsa G 628 (cpy (G.1 628) a t j))) = some (none, hp (gsa G 628 (cpy (G.1 628) a t n))) := by
    intro q
    induction q with
    | zero =>
      intro j f hj hf
      obtain ⟨f, rfl⟩ : ∃ g, f = g + 1 := ⟨f - 1, by omega⟩
      rw [e_Md_copies_3, if_neg (lm (by omega) (by omega)), show j = n by omega]
    | succ q ih =>
      intro j f hj hf
      obtain ⟨f, rfl⟩ : ∃ g, f = g + 1 := ⟨f - 1, by omega⟩
      rw [e_Md_copies_3, if_pos (lp (by omega) (by omega)), gg_Md_state, Option.bind_some, Option.bind_some, i_add, rr_Md_state _ (by omega), Option.bind_some, i_add, uu_Md_state _ (by omega), Option.bind_some, gsi_gsa, gsa_i, if_pos rfl, show nI j + 1 = nI (j + 1) from nI_add j 1]
      have e : upd (cpy (G.1 628) a t j) (t + j) (cpy (G.1 628) a t j (a + j)) = cpy (G.1 628) a t (j + 1) := by
        funext k
        by_cases g : k = t + j
        · rw [g, upd_at]
          unfold cpy
          rw [if_neg (by omega), if_pos (by omega), show a + (t + j - t) = a + j by omega]
        · rw [upd_ne _ _ g]
          unfold cpy
          by_cases g2 : t ≤ k ∧ k < t + j
          · rw [if_pos g2, if_pos (by omega)]
          · rw [if_neg g2, if_neg (by omega)]
      rw [e]
      exact ih (j + 1) f (by omega) (by omega)
  have e0 : gsa G 628 (cpy (G.1 628) a t 0) = G := by
    have : cpy (G.1 628) a t 0 = G.1 628 := funext (fun k => cpy_off (by omega))
    rw [this, gsa_self]
  have := key n 0 mm_fu (by omega) (fu_lt (by omega))
  rw [e0] at this
  exact this
theorem m_stands {i : Nat} (hb : b ≤ 9252) (hi : i < 4) (h6 : G.1 628 (b + 6) = nI i) : f_Md_stands [.ref 618, .int (nI b)] (hp G) = some (none, hp (gsa G 628 (cpy (G.1 628) (b + 359 + 31 * i) (b + 483) 31))) := by
  rw [e_Md_stands 618 _ _ (ob_Md G), gg_Md_state, Option.bind_some, show mm_li (hp G) 628 (nI b + 6) = _ from rd hb 6 (by omega), Option.bind_some, h6, s_Md_startOf, ci_some, show nI b + 483 = nI (b + 483) from nI_add b 483, show f_Md_copies [.ref 618, .int (nI (b + 359 + 31 * i)), .int (nI (b + 483)), .int 31] (hp G) = _ from m_copies (n := 31) (by omega) (by omega) (by omega) (by omega), cv_some]
/-- the JOB but for where it is -/
def isMJ0 (f : Nat → Int32) (b : Nat) (A : AS) (J : JB) : Prop := (f (b + 5) = 1 ∧ f (b + 10) = nI (jRe J).length ∧ f (b + 11) = b2 (jDn J) ∧ f (b + 12) = nI (jSd J).length) ∧ (∀ k (h : k < (jSd J).length), f (b + 79 + k) = (jSd J)[k]) ∧ (∀ k (h : k < (jRe J).length), f (b + 119 + 2 * k) = nI (32 * (jRe J)[k].1 + (jRe J)[k].2.1) ∧ f (b + 119 + 2 * k + 1) = (jRe J)[k].2.2) ∧ ∀ p, p < aN A → wasOk (f (b + 67 + p)) (aS A p) (aT A p) (aB A p)
def isMS0 (f : Nat → Int32) (b : Nat) (P : PP) (A : AS) (J : JB) : Prop := (f b = aD A ∧ f (b + 1) = aC A ∧ f (b + 2) = nI (aM A) ∧ f (b + 3) = aX A) ∧ (∀ r, r < aM A → f (b + 13 + r) = nI (pkV (aV A) r)) ∧ (f (b + 4) = nI (aN A) ∧ ∀ p, p < aN A → f (b + 43 + p) = nI (aS A p) ∧ f (b + 55 + p) = aT A p) ∧ (∀ i, i < pNi P → isMf f (b + 359 + 31 * i) (fl (aL A i))) ∧ isMJ0 f b A J
theorem MS.zero (H : MS G b P A) {J : JB} (hJ : aJ A = some J) : isMS0 (G.1 628) b P A J := by
  obtain ⟨-, a1, a2, a3, a4, a5⟩ := H
  rw [hJ] at a5
  obtain ⟨⟨c5, c6, c7, c8, c9, c10, c11, c12⟩, s, r, t, w⟩ := a5
  exact ⟨a1, a2, a3, a4, ⟨c5, c10, c11, c12⟩, s, r, w⟩
/-- from all but where it is, to all -/
theorem ms_of0 {f' : Nat → Int32} {J : JB} (H : isMS0 (G.1 628) b P A J) (hb : b ≤ 9252) (h : okS P (setJ A (some J))) (e : ∀ k, k ≠ b + 3 → ¬ (b + 6 ≤ k ∧ k ≤ b + 9) → ¬ (b + 483 ≤ k ∧ k < b + 514) → f' k = G.1 628 k) {x : Int32} (hx : f' (b + 3) = x) {J' : JB} (hre : jRe J' = jRe J) (hsd : jSd J' = jSd J) (hdn : jDn J' = jDn J) (h6 : f' (b + 6) = nI (jAt J')) (h7 : f' (b + 7) = jWy J') (h8 : f' (b + 8) = nI (jSi J')) (h9 : f' (b + 9) = nI (jGo J')) (hst : jAt J' < pNi P → isMf f' (b + 483) (fl (jSt J'))) : isMS f' b P (setX (setJ A (some J')) x) := by
  have hn := h.ni
  have hr := h.kr.1
  have hp12 := h.kp.1
  have hk := h.ka.2.2.2
  obtain ⟨-, q2, q3, -⟩ := (show okJ J from hk)
  obtain ⟨⟨a0, a1, a2, a3⟩, av, ⟨ap, ap2⟩, at', ⟨⟨c5, c10, c11, c12⟩, s, r, w⟩⟩ := H
  refine ⟨⟨by rw [e b (by omega) (by omega) (by omega)]; exact a0, by rw [e (b + 1) (by omega) (by omega) (by omega)]; exact a1, by rw [e (b + 2) (by omega) (by omega) (by omega)]; exact a2, hx⟩, fun r hr2 => ?_, ⟨by rw [e (b + 4) (by omega) (by omega) (by omega)]; exact ap, fun p hp1 => ?_⟩, fun j hj => ?_, ?_⟩
  · have h2 : r < aM A := hr2
    have h3 : aM A ≤ 30 := hr
    rw [e (b + 13 + r) (by omega) (by omega) (by omega)]; exact av r h2
  · have h2 : p < aN A := hp1
    have h3 : aN A ≤ 12 := hp12
    rw [e (b + 43 + p) (by omega) (by omega) (by omega), e (b + 55 + p) (by omega) (by omega) (by omega)]; exact ap2 p h2
  · exact ms_tree (A := A) at' (fun i hi => h.kl hi) hj (fun k k1 k2 => e k (by omega) (by omega) (by omega))
  · show isMJ f' b P (setX (setJ A (some J')) x) (some J')
    refine ⟨⟨by rw [e (b + 5) (by omega) (by omega) (by omega)]; exact c5, h6, h7, h8, h9, by rw [e (b + 10) (by omega) (by omega) (by omega), hre]; exact c10, by rw [e (b + 11) (by omega) (by omega) (by omega), hdn]; exact c11, by rw [e (b + 12) (by omega) (by omega) (by omega), hsd]; exact c12⟩, ?_, ?_, hst, fun p hp1 => ?_⟩
    · rw [hsd]
      intro k hk2
      rw [e (b + 79 + k) (by omega) (by omega) (by omega)]; exact s k hk2
    · rw [hre]
      intro k hk2
      rw [e (b + 119 + 2 * k) (by omega) (by omega) (by omega), e (b + 119 + 2 * k + 1) (by omega) (by omega) (by omega)]; exact r k hk2
    · have h2 : p < aN A := hp1
      have h3 : aN A ≤ 12 := hp12
      rw [e (b + 67 + p) (by omega) (by omega) (by omega)]; exact w p h2
theorem m_comes {J : JB} (hb : b ≤ 9252) (hP : isMP G P) (H : isMS0 (G.1 628) b P A J) (h : okS P (setJ A (some J))) (hsi : jSi J = 0) {n : Nat} (hn4 : n ≤ pNi P) : ∃ G', f_Md_comes [.ref 618, .int (nI b), .int (nI n)] (hp G) = some (none, hp G') ∧ MS G' b P (comeA P A J n) ∧ mdF (mB b) G G' := by
  have hn := h.ni
  have hkl : ∀ {i : Nat}, i < pNi P → okL (pPg P) (aL A i) := fun hi => h.kl hi
  have htr : ∀ {i : Nat}, i < pNi P → isM G (b + 359 + 31 * i) (fl (aL A i)) := fun hi => H.2.2.2.1 _ hi
  rw [e_Md_comes 618 _ _ _ (ob_Md G), gg_Md_state, Option.bind_some, show mm_li (hp G) 628 (nI b + 1) = _ from rd hb 1 (by omega), Option.bind_some, show G.1 628 (b + 1) = aC A from H.1.2.1]
  unfold comeA
  -- since and done
  have w89 : ∀ {ρ : Type} (k : mm_H → Option ρ), ((mm_gr 12 14 (hp G) 618).bind fun r5 => (mm_si (hp G) r5 (nI b + 8) 0).bind fun h6 => (mm_gr 12 14 h6 618).bind fun r7 => (mm_si h6 r7 (nI b + 9) 0).bind fun h8 => k h8) = k (hp (gsi (gsi G 628 (b + 8) 0) 628 (b + 9) 0)) := fun k => by
    rw [gg_Md_state, Option.bind_some, show mm_si (hp G) 628 (nI b + 8) 0 = _ from wr hb 8 (by omega) 0, Option.bind_some, gg_Md_state, Option.bind_some, show mm_si (hp (gsi G 628 (b + 8) 0)) 628 (nI b + 9) 0 = _ from wr hb 9 (by omega) 0, Option.bind_some]
  generalize hG1 : gsi (gsi G 628 (b + 8) 0) 628 (b + 9) 0 = G1 at w89
  have ev1 : G1.1 628 = upd (upd (G.1 628) (b + 8) 0) (b + 9) 0 := by rw [← hG1]; rfl
  have q1 : mdF (mB b) G G1 := by rw [← hG1]; exact (mdF.cell ⟨by omega, by omega⟩).tr (mdF.cell ⟨by omega, by omega⟩)
  have hP1 := hP.fr q1
  -- the last piece
  have fin : ∀ (i : Nat) (at' : Nat) (f : Nat), (i < pNi P ∧ at' = i ∨ i = pNi P ∧ at' = 4) → ∃ G', mm_run p_Md_comes (f + 1) 78 [.ref 618, .int (nI b), .int (nI i), .int (aC A)] [.int (nI at'), .int (nI b + 6), .ref 628] (hp G1) = some (none, hp G') ∧ MS G' b P (comeAt P A J (if i < pNi P then some i else none)) ∧ mdF (mB b) G G' := fun i at' f hor => by
    rw [e_Md_comes_78, show mm_si (hp G1) 628 (nI b + 6) (nI at') = _ from wr hb 6 (by omega) _, Option.bind_some, gg_Md_state, Option.bind_some, show mm_si (hp (gsi G1 628 (b + 6) (nI at'))) 628 (nI b + 7) (-1) = _ from wr hb 7 (by omega) _, Option.bind_some]
    generalize hG2 : gsi (gsi G1 628 (b + 6) (nI at')) 628 (b + 7) (-1) = G2
    have ev2 : G2.1 628 = upd (upd (upd (upd (G.1 628) (b + 8) 0) (b + 9) 0) (b + 6) (nI at')) (b + 7) (-1) := by rw [← hG2, ← ev1]; rfl
    have q2 : mdF (mB b) G G2 := by rw [← hG2]; exact q1.tr ((mdF.cell ⟨by omega, by omega⟩).tr (mdF.cell ⟨by omega, by omega⟩))
    have hP2 := hP.fr q2
    rw [m_indexes hP2, ci_some]
    rcases hor with ⟨hi, ha⟩ | ⟨hi, ha⟩
    · rw [if_pos (lp hi (by omega)), if_pos hi]
      have tr2 : isM G2 (b + 359 + 31 * i) (fl (aL A i)) := (htr hi).off (okM_fl (hkl hi)).1 (fun k k1 k2 => by rw [ev2, upd_ne _ _ (by omega), upd_ne _ _ (by omega), upd_ne _ _ (by omega), upd_ne _ _ (by omega)])
      rw [s_Md_wayBy hP2.1.1 hb (by omega) tr2 (hkl hi), ci_some, gg_Md_state, Option.bind_some, show mm_si (hp G2) 628 (nI b + 7) (nI (wayN (aC A) (pPg P) (aL A i))) = _ from wr hb 7 (by omega) _, Option.bind_some, gg_Md_state, Option.bind_some]
      generalize hG3 : gsi G2 628 (b + 7) (nI (wayN (aC A) (pPg P) (aL A i))) = G3
      have ev3 : G3.1 628 = upd (G2.1 628) (b + 7) (nI (wayN (aC A) (pPg P) (aL A i))) := by rw [← hG3]; rfl
      have q3 : mdF (mB b) G G3 := by rw [← hG3]; exact q2.tr (mdF.cell ⟨by omega, by omega⟩)
      have hP3 := hP.fr q3
      have tr3 : isM G3 (b + 359 + 31 * i) (fl (aL A i)) := tr2.off (okM_fl (hkl hi)).1 (fun k k1 k2 => by rw [ev3, upd_ne _ _ (by omega)])
      have e3 : G3.1 628 (b + 3) = aX A := by rw [ev3, ev2, upd_ne _ _ (by omega), upd_ne _ _ (by omega), upd_ne _ _ (by omega), upd_ne _ _ (by omega), upd_ne _ _ (by omega)]; exact H.1.2.2.2
      rw [show mm_li (hp G3) 628 (nI b + 3) = _ from rd hb 3 (by omega), Option.bind_some, e3]
      have hpa := passC_le (aC A) (hkl hi)
      have hpr := probeC_le (aC A) (hkl hi)
      -- what it costs
      have last : ∀ (y : Int32), minC P A i = y → ∃ G', ((mm_si (hp G3) 628 (nI b + 3) (aX A + y)).bind fun h14 => mm_cv (f_Md_stands [.ref 618, .int (nI b)] h14) fun h15 => (some (none, h15) : Option (Option Value × mm_H))) = some (none, hp G') ∧ MS G' b P (comeAt P A J (some i)) ∧ mdF (mB b) G G' := fun y hy => by
        rw [show mm_si (hp G3) 628 (nI b + 3) (aX A + y) = _ from wr hb 3 (by omega) _, Option.bind_some]
        have e6 : (gsi G3 628 (b + 3) (aX A + y)).1 628 (b + 6) = nI i := by
          rw [gsi_i, if_pos rfl, upd_ne _ _ (by omega), ev3, ev2, upd_ne _ _ (by omega), upd_ne _ _ (by omega), upd_at, ha]
        rw [m_stands hb (show i < 4 by omega) e6, cv_some]
        have ev4 : (gsi G3 628 (b + 3) (aX A + y)).1 628 = upd (G3.1 628) (b + 3) (aX A + y) := rfl
        refine ⟨_, rfl, ?_, q3.tr ((mdF.cell ⟨by omega, by omega⟩).tr (mdF.arr (fun k hk => by
          unfold mB at hk
          exact cpy_off (by omega))))⟩
        have q5 : mdF (mB b) G (gsa (gsi G3 628 (b + 3) (aX A + y)) 628 (cpy ((gsi G3 628 (b + 3) (aX A + y)).1 628) (b + 359 + 31 * i) (b + 483) 31)) := q3.tr ((mdF.cell ⟨by omega, by omega⟩).tr (mdF.arr (fun k hk => by
          unfold mB at hk
          exact cpy_off (by omega))))
        refine ⟨⟨hb, hP.fr q5⟩, ?_⟩
        rw [gsa_i, if_pos rfl, ev4]
        have base : ∀ k, k ≠ b + 3 → ¬ (b + 6 ≤ k ∧ k ≤ b + 9) → upd (G3.1 628) (b + 3) (aX A + y) k = G.1 628 k := fun k k1 k2 => by
          rw [upd_ne _ _ k1, ev3, ev2, upd_ne _ _ (by omega), upd_ne _ _ (by omega), upd_ne _ _ (by omega), upd_ne _ _ (by omega), upd_ne _ _ (by omega)]
        have trf : isMf (upd (G3.1 628) (b + 3) (aX A + y)) (b + 359 + 31 * i) (fl (aL A i)) := isMf.cong (isM_f.mp tr3) (okM_fl (hkl hi)).1 (fun k k1 k2 => upd_ne _ _ (by omega))
        have := ms_of0 H hb h (f' := cpy (upd (G3.1 628) (b + 3) (aX A + y)) (b + 359 + 31 * i) (b + 483) 31) (fun k k1 k2 k3 => by rw [cpy_off (by omega)]; exact base k k1 k2) (x := aX A + y) (by rw [cpy_off (by omega), upd_at]) (J' := comeJ J i (nI (wayN (aC A) (pPg P) (aL A i))) (aL A i)) rfl rfl rfl (by rw [cpy_off (by omega)]; exact e6) (by rw [cpy_off (by omega), upd_ne _ _ (by omega), ev3, upd_at]; rfl) (by
          show _ = nI (jSi J)
          rw [hsi, cpy_off (by omega), upd_ne _ _ (by omega), ev3, ev2, upd_ne _ _ (by omega), upd_ne _ _ (by omega), upd_ne _ _ (by omega), upd_ne _ _ (by omega), upd_at]; rfl) (by
          show _ = nI 0
          rw [cpy_off (by omega), upd_ne _ _ (by omega), ev3, ev2, upd_ne _ _ (by omega), upd_ne _ _ (by omega), upd_ne _ _ (by omega), upd_at]; rfl) (fun _ => isMf_cpy trf (okM_fl (hkl hi)).1)
        show isMS _ b P (setX (setJ A (some (comeJ J i (nI (wayN (aC A) (pPg P) (aL A i))) (aL A i)))) (aX A + minC P A i))
        rw [hy]
        exact this
      have hmin : minC P A i = nI (if probeC (aC A) (pPg P) (aL A i) < passC (aC A) (pPg P) (aL A i) then probeC (aC A) (pPg P) (aL A i) else passC (aC A) (pPg P) (aL A i)) := n_min (by omega) (by omega)
      by_cases g : probeC (aC A) (pPg P) (aL A i) < passC (aC A) (pPg P) (aL A i)
      · have hw : wayN (aC A) (pPg P) (aL A i) = 1 := if_pos g
        rw [hw, if_neg (show ¬ nI 1 = (0 : Int32) by decide), s_Md_probeCost hP3.1.1 hb (by omega) tr3 (hkl hi), ci_some]
        exact last _ (by rw [hmin, if_pos g])
      · have hw : wayN (aC A) (pPg P) (aL A i) = 0 := if_neg g
        rw [hw, if_pos (show nI 0 = (0 : Int32) from rfl), s_Md_passCost hP3.1.1 hb (by omega) tr3 (hkl hi), ci_some]
        exact last _ (by rw [hmin, if_neg g])
    · rw [if_neg (lm (by omega) (by omega)), if_neg (by omega)]
      refine ⟨G2, rfl, ⟨⟨hb, hP2⟩, ?_⟩, q2⟩
      have base : ∀ k, ¬ (b + 6 ≤ k ∧ k ≤ b + 9) → G2.1 628 k = G.1 628 k := fun k k2 => by
        rw [ev2, upd_ne _ _ (by omega), upd_ne _ _ (by omega), upd_ne _ _ (by omega), upd_ne _ _ (by omega)]
      have := ms_of0 H hb h (f' := G2.1 628) (fun k k1 k2 k3 => base k k2) (x := aX A) (by rw [base _ (by omega)]; exact H.1.2.2.2) (J' := comeJ J 4 (-1) (jSt J)) rfl rfl rfl (by rw [ev2, upd_ne _ _ (by omega), upd_at, ha]; rfl) (by rw [ev2, upd_at]; rfl) (by
        show _ = nI (jSi J)
        rw [hsi, ev2, upd_ne _ _ (by omega), upd_ne _ _ (by omega), upd_ne _ _ (by omega), upd_at]; rfl) (by
        show _ = nI 0
        rw [ev2, upd_ne _ _ (by omega), upd_ne _ _ (by omega), upd_at]; rfl) (fun hlt => absurd (show 4 < pNi P from hlt) (by omega))
      exact this
  -- the search
  have key : ∀ (j n f : Nat), n + j = pNi P ∨ (j = 0 ∧ pNi P ≤ n) → j + 1 < f → n ≤ 4 → (pNi P ≤ n → n = pNi P) → ∃ G', mm_run p_Md_comes f 12 [.ref 618, .int (nI b), .int (nI n), .int (aC A)] [] (hp G) = some (none, hp G') ∧ MS G' b P (comeAt P A J (((List.range (pNi P)).drop n).find? (hasLeft A))) ∧ mdF (mB b) G G' := by
    intro j
    induction j with
    | zero =>
      intro n f hj hf hn4 hex
      have hge : pNi P ≤ n := by omega
      have hne := hex hge
      obtain ⟨f, rfl⟩ : ∃ g, f = g + 2 := ⟨f - 2, by omega⟩
      rw [e_Md_comes_12, m_indexes hP, ci_some, if_neg (lm hge (by omega)), w89, gg_Md_state, Option.bind_some, m_indexes hP1, ci_some, if_pos (lq hne), List.drop_of_length_le (by simp; omega)]
      have := fin n 4 f (Or.inr ⟨hne, rfl⟩)
      rw [if_neg (by omega)] at this
      exact this
    | succ j ih =>
      intro n f hj hf hn4 hex
      have hlt : n < pNi P := by omega
      obtain ⟨f, rfl⟩ : ∃ g, f = g + 2 := ⟨f - 2, by omega⟩
      rw [e_Md_comes_12, m_indexes hP, ci_some, if_pos (lp hlt (by omega)), s_Md_leftMany hb (by omega) (htr hlt) (hkl hlt), ci_some, drop_cons (l := List.range (pNi P)) (i := n) (by simpa using hlt), List.getElem_range, List.find?_cons]
      have hl30 := leftN_le (aC A) (aL A n)
      have hl31 := (hkl hlt).2.1
      rw [has_left (hkl hlt)]
      by_cases e : leftN (aC A) (aL A n) = 0
      · rw [if_pos (show nI (leftN (aC A) (aL A n)) = (0 : Int32) from lq (n := 0) e), decide_eq_true e, show nI n + 1 = nI (n + 1) from nI_add n 1]
        exact ih (n + 1) (f + 1) (by omega) (by omega) (by omega) (fun _ => by omega)
      · rw [if_neg (show ¬ nI (leftN (aC A) (aL A n)) = (0 : Int32) from ln (n := 0) e (by omega) (by decide)), decide_eq_false e, w89, gg_Md_state, Option.bind_some, m_indexes hP1, ci_some, if_neg (ln (by omega) (by omega) (by omega))]
        have := fin n n f (Or.inl ⟨hlt, rfl⟩)
        rw [if_pos hlt] at this
        exact this
  exact key (pNi P - n) n mm_fu (by omega) (by have := fu_lt (n := 100) (by decide); omega) (by omega) (fun _ => by omega)
end MDO
