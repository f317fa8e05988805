/-! THE REFERENCE: a ROW put in -/
def atSum (o : Option JB) (g : Nat → Nat) (n : Nat) : Nat := match o with
  | none => 0
  | some J => if jAt J < n then g (jAt J) else 0
theorem atSum_s (o : Option JB) (g : Nat → Nat) (n : Nat) : atSum o g (n + 1) = atSum o g n + (if atO o n then g n else 0) := by
  cases o with
  | none => rfl
  | some J =>
    show (if jAt J < n + 1 then g (jAt J) else 0) = (if jAt J < n then g (jAt J) else 0) + (if (jAt J == n) then g n else 0)
    by_cases e : jAt J = n
    · rw [if_pos (by omega), if_neg (by omega), if_pos (by simpa using e), Nat.zero_add, e]
    · rw [if_neg (show ¬ (jAt J == n) = true by simpa using e)]
      by_cases e2 : jAt J < n
      · rw [if_pos e2, if_pos (by omega)]; rfl
      · rw [if_neg e2, if_neg (by omega)]
theorem atSum_0 (o : Option JB) (g : Nat → Nat) : atSum o g 0 = 0 := by
  cases o with
  | none => rfl
  | some J =>
    show (if jAt J < 0 then g (jAt J) else 0) = 0
    rw [if_neg (Nat.not_lt_zero _)]
theorem atSum_le {o : Option JB} {g : Nat → Nat} (h : ∀ i, g i ≤ 2) (n : Nat) : atSum o g n ≤ 2 := by
  cases o with
  | none => exact Nat.zero_le _
  | some J =>
    show (if jAt J < n then g (jAt J) else 0) ≤ 2
    split
    · exact h _
    · omega
theorem moreE_le (E F : Nat → Int32) (i : Nat) : moreE E F i ≤ 2 := by
  unfold moreE
  split
  · omega
  · split <;> split <;> omega
section MDN
variable {G : GG} {b : Nat} {P : PP} {A B C : AS} {E F : Nat → Int32} {r n : Nat}
/-- whether what would come on the side fits -/
theorem fit_run (H : MS G b P C) (h : okS P C) (hat : ∀ J, aJ C = some J → jAt J < pNi P ∨ (jAt J = 4 ∧ jSd J = [])) : (40 : Int32) < (G.1 628 (b + 12) * G.1 628 (b + 5)) + nI (atSum (aJ C) (moreE E F) (pNi P)) ↔ fitA P C E F = false := by
  have hj := H.j
  have hni := h.ni
  unfold fitA
  cases hJ : aJ C with
  | none =>
    rw [hJ] at hj
    rw [hj.1, hj.2]
    show (40 : Int32) < 0 * 0 + nI 0 ↔ _
    simp
    decide
  | some J =>
    have hk := h.ka.2.2.2
    rw [hJ] at hj hk
    obtain ⟨-, -, k3, -⟩ := (show okJ J from hk)
    rw [hj.1.1, hj.1.2.2.2.2.2.2.2, show nI (jSd J).length * 1 = nI ((jSd J).length * 1) from n_mul _ 1, Nat.mul_one, i_add]
    show (40 : Int32) < nI ((jSd J).length + (if jAt J < pNi P then moreE E F (jAt J) else 0)) ↔ _
    have h2 := moreE_le E F (jAt J)
    rw [show ((40 : Int32) < nI ((jSd J).length + (if jAt J < pNi P then moreE E F (jAt J) else 0))) = (40 < (jSd J).length + (if jAt J < pNi P then moreE E F (jAt J) else 0)) from n_lt (a := 40) (by decide) (by split <;> omega)]
    dsimp only
    rcases hat J hJ with ha | ⟨ha, hsd⟩
    · rw [if_pos ha, decide_eq_true ha]
      simp only [Bool.not_true, Bool.false_or, decide_eq_false_iff_not]
      omega
    · rw [if_neg (by omega), decide_eq_false (by omega), hsd]
      simp
theorem INV.atO (h : INV P A) : ∀ J, aJ A = some J → jAt J < pNi P ∨ (jAt J = 4 ∧ jSd J = []) := fun J hJ => (h.2.2.2.2 J hJ).1.imp id (fun q => ⟨q.1, q.2.1⟩)
/-- rows as they are, but for cells beyond -/
theorem MS.rowU (H : MS G b P A) (h : okS P A) {k : Nat} {v : Int32} (hk : aM A ≤ k) (hk2 : k < 30) : MS (gsi G 628 (b + 13 + k) v) b P A ∧ mdF (mB b) G (gsi G 628 (b + 13 + k) v) := by
  have hn := h.ni
  have hr := h.kr.1
  have hp12 := h.kp.1
  have q : mdF (mB b) G (gsi G 628 (b + 13 + k) v) := mdF.cell ⟨by omega, by omega⟩
  have e : ∀ j, j ≠ b + 13 + k → (gsi G 628 (b + 13 + k) v).1 628 j = G.1 628 j := fun j hj => by rw [gsi_i, if_pos rfl, upd_ne _ _ hj]
  refine ⟨⟨⟨H.hb, H.hP.fr q⟩, ⟨by rw [e _ (by omega)]; exact H.d, by rw [e _ (by omega)]; exact H.c, by rw [e _ (by omega)]; exact H.m, by rw [e _ (by omega)]; exact H.x⟩, fun r hr2 => by rw [e _ (by omega)]; exact H.v r hr2, ⟨by rw [e _ (by omega)]; exact H.pt.1, fun p hp1 => by rw [e _ (by omega), e _ (by omega)]; exact H.pt.2 p hp1⟩, fun j hj => ms_tree H.2.2.2.2.1 (fun i hi => h.kl hi) hj (fun j k1 k2 => e j (by omega)), H.j.off h.ka.2.2.2 (fun J hJ ha => h.st hJ ha) rfl hp12 (fun j k1 k2 => e _ (by omega)) (fun j k1 k2 => e _ (by omega)) (fun j k1 k2 => e _ (by omega))⟩, q⟩
/-- rows changed: there, how many have come, one's values -/
theorem MS.setRU (H : MS G b P A) (h : okS P A) {f' : Nat → Int32} {V : Nat → Nat → Nat} {m : Nat} {D : Int32} (hm : m ≤ 30) (e : ∀ j, j ≠ b → j ≠ b + 2 → ¬ (b + 13 ≤ j ∧ j < b + 43) → f' j = G.1 628 j) (h0 : f' b = D) (h2 : f' (b + 2) = nI m) (hV : ∀ r, r < m → f' (b + 13 + r) = nI (pkV V r)) : isMS f' b P (setR A V m D (aC A)) := by
  have hn := h.ni
  have hp12 := h.kp.1
  exact ⟨⟨h0, by rw [e _ (by omega) (by omega) (by omega)]; exact H.c, h2, by rw [e _ (by omega) (by omega) (by omega)]; exact H.x⟩, hV, ⟨by rw [e _ (by omega) (by omega) (by omega)]; exact H.pt.1, fun p hp1 => by
    have hp2 : p < aN A := hp1
    rw [e _ (by omega) (by omega) (by omega), e _ (by omega) (by omega) (by omega)]; exact H.pt.2 p hp2⟩, fun j hj => ms_tree (A := A) H.2.2.2.2.1 (fun i hi => h.kl hi) hj (fun j k1 k2 => e j (by omega) (by omega) (by omega)), H.j.off (A' := setR A V m D (aC A)) h.ka.2.2.2 (fun J hJ ha => h.st hJ ha) rfl hp12 (fun j k1 k2 => e _ (by omega) (by omega) (by omega)) (fun j k1 k2 => e _ (by omega) (by omega) (by omega)) (fun j k1 k2 => e _ (by omega) (by omega) (by omega))⟩
theorem m_onceClash (H : MS G b P A) (h : INV P A) {k v : Nat} (hk : k < 3) (hv : v ≤ 999) {y : Int32} (hy : y < 0 ∨ ∃ r, r < 30 ∧ y = nI r ∧ aV A r k ≠ v) : f_Md_onceClash [.ref 618, .int (nI b), .int (nI k), .int (nI v), .int y] (hp G) = some (some (.int (clashA P A k v)), hp G) := by
  have hn := h.ni
  rw [e_Md_onceClash 618 _ _ _ _ _ (ob_Md G)]
  refine msk_loop (n := pNi P) (p := fun i => isOnce P i k && !decide (havS (aV A) (visA A) k v = 0)) (R := fun f i x => mm_run p_Md_onceClash f 6 [.ref 618, .int (nI b), .int (nI k), .int (nI v), .int y, .int x, .int (nI i)] [] (hp G)) (fun f i hi => ?_) (fun f => ?_) (fu_lt (by omega))
  · have hkd := (h.pp.2.2.1 i hi).1
    have hco := (h.pp.2.2.1 i hi).2
    show mm_run _ _ _ _ _ _ = mm_run _ _ _ _ _ _
    rw [e_Md_onceClash_6, m_indexes H.hP, ci_some, if_pos (lp hi (by omega)), m_kindOf H.hP hn hi, ci_some, show nI i + 1 = nI (i + 1) from nI_add i 1, show (1 : Int32) <<< (nI i &&& 31) = sbit i from rfl]
    by_cases e2 : pKd P i = 2
    · rw [if_pos (show nI (pKd P i) = (2 : Int32) from lq (n := 2) e2), m_columnAt H.hP hn hi, ci_some]
      by_cases ek : pCo P i = k
      · have hon : isOnce P i k = true := by unfold isOnce; simp [e2, ek]
        rw [if_pos (lq ek), m_visible H, ci_some, m_havV H h hk (by omega), ci_some]
        have fin : ∀ (z : Int32), (z = 0 ↔ havS (aV A) (visA A) k v = 0) → (if z = 0 then mm_run p_Md_onceClash f 6 [.ref 618, .int (nI b), .int (nI k), .int (nI v), .int y, .int (msk (fun i => isOnce P i k && !decide (havS (aV A) (visA A) k v = 0)) i ||| 0), .int (nI (i + 1))] [] (hp G) else mm_run p_Md_onceClash f 6 [.ref 618, .int (nI b), .int (nI k), .int (nI v), .int y, .int (msk (fun i => isOnce P i k && !decide (havS (aV A) (visA A) k v = 0)) i ||| sbit i), .int (nI (i + 1))] [] (hp G)) = mm_run p_Md_onceClash f 6 [.ref 618, .int (nI b), .int (nI k), .int (nI v), .int y, .int (msk (fun i => isOnce P i k && !decide (havS (aV A) (visA A) k v = 0)) (i + 1)), .int (nI (i + 1))] [] (hp G) := fun z hz => by
          by_cases g : havS (aV A) (visA A) k v = 0
          · rw [if_pos (hz.mpr g), msk_n (by rw [hon, decide_eq_true g]; rfl), or_zero]
          · rw [if_neg (fun q => g (hz.mp q)), msk_y (by rw [hon, decide_eq_false g]; rfl)]
        rcases hy with hneg | ⟨r, hr, ey, hrv⟩
        · rw [if_pos hneg]
          refine fin _ ?_
          have : havS (aV A) (visA A) k v &&& ((0 : Int32) ^^^ (-1)) = havS (aV A) (visA A) k v := b_ext (fun q hq => by rw [b_and, bt_not _ hq, b_0]; simp)
          rw [this]
        · rw [ey, if_neg (n_nneg (by omega)), show (1 : Int32) <<< (nI r &&& 31) = sbit r from rfl]
          have h2 := fin (havS (aV A) (visA A) k v &&& (sbit r ^^^ (-1))) (by
            have : havS (aV A) (visA A) k v &&& (sbit r ^^^ (-1)) = havS (aV A) (visA A) k v := b_ext (fun q hq => by
              rw [b_and, bt_not _ hq, bt_sbit (by omega) hq, bt_hav _ _ _ _ hq]
              by_cases eq : q = r
              · subst eq
                simp [hrv]
              · simp [eq])
            rw [this])
          rw [ey] at h2
          exact h2
      · rw [if_neg (ln ek (by omega) (by omega)), msk_n (by unfold isOnce; simp [ek]), or_zero]
    · rw [if_neg (show ¬ nI (pKd P i) = (2 : Int32) from ln (n := 2) e2 (by omega) (by decide)), msk_n (by unfold isOnce; simp [e2]), or_zero]
  · show mm_run _ _ _ _ _ _ = _
    rw [e_Md_onceClash_6, m_indexes H.hP, ci_some, if_neg (lm (Nat.le_refl _) (by omega))]
    rfl
theorem adm_mvH (h : INV P A) {x y z : Nat} (hx : x ≤ 999) (hy : y ≤ 999) (hz : z ≤ 999) (hm : aM A < 30) (hfit : fitA P (addR A x y z) noE (entsA P (addR A x y z) (aM A) (partA P (addR A x y z) (aM A))) = true) : mvH P A (addR A x y z) noE (entsA P (addR A x y z) (aM A) (partA P (addR A x y z) (aM A))) (aM A) ∧ bt (visA (addR A x y z)) (aM A) = true := by
  have hP := h.pp
  have hk := h.kr
  have hmD : bt (aD A) (aM A) = false := by
    cases q : bt (aD A) (aM A)
    · rfl
    · exact absurd (hk.2.2.1 _ q) (Nat.lt_irrefl _)
  have hmC : bt (aC A) (aM A) = false := by
    cases q : bt (aC A) (aM A)
    · rfl
    · exact (b_no (hk.2.2.2 _ q) hmD).elim
  have hmV : bt (visA A) (aM A) = false := vis_big h (Nat.le_refl _)
  have hval : ∀ q, q ≠ aM A → ∀ k, aV (addR A x y z) q k = aV A q k := fun q hq k => if_neg hq
  have hvis : ∀ q, q < 32 → q ≠ aM A → bt (visA (addR A x y z)) q = bt (visA A) q := fun q hq hne => by
    unfold visA
    show bt (visB (aD A ||| sbit (aM A)) (aC A)) q = _
    rw [bt_vis _ _ hq, bt_vis _ _ hq, b_or, bt_sbit (by omega) hq, decide_eq_false hne, Bool.or_false]
  have hvm : bt (visA (addR A x y z)) (aM A) = true := by
    unfold visA
    show bt (visB (aD A ||| sbit (aM A)) (aC A)) _ = _
    rw [bt_vis _ _ (by omega), b_or, bt_sbit (by omega) (by omega), hmC]
    simp
  have hkR : okR (aV (addR A x y z)) (aM (addR A x y z)) (aD (addR A x y z)) (aC (addR A x y z)) := hk.add hm hx hy hz
  exact ⟨⟨⟨h, hm, hmC⟩, ⟨rfl, rfl, rfl⟩, hfit, fun i hi c hcr => okV_loc hP hi (fun k _ => hval _ hcr k) (hvis _ (Nat.mod_lt _ (by decide)) hcr), ⟨fun i hi => no_ent hmV, fun i hi => ents_ent hi (hkR.2.1 _ _ (Nat.lt_succ_self _) (hP.2.2.1 i hi).2) hm hvm⟩, hkR, h.kp⟩, hvm⟩
theorem m_inserted (H : MS G b P A) (h : INV P A) {x y z : Nat} (hx : x ≤ 999) (hy : y ≤ 999) (hz : z ≤ 999) : ∃ G', f_Md_inserted [.ref 618, .int (nI b), .int (nI x), .int (nI y), .int (nI z)] (hp G) = some (some (.int (admO P A x y z).1), hp G') ∧ MS G' b P (admO P A x y z).2 ∧ mdF (mB b) G G' := by
  have hb := H.hb
  have hni := h.ni
  have hs := h.os
  have hm30 := h.kr.1
  rw [e_Md_inserted 618 _ _ _ _ _ (ob_Md G), gg_Md_state, Option.bind_some, show mm_li (hp G) 628 (nI b + 2) = _ from rd hb 2 (by omega), Option.bind_some, H.m]
  have no : canAdm P A x y z = false → admO P A x y z = (-1, A) := fun hc => by unfold admO; rw [hc]; rfl
  by_cases hm : aM A < 30
  · rw [if_neg (show ¬ nI (aM A) = (30 : Int32) from ln (n := 30) (by omega) (by omega) (by decide)), show f_Md_onceClash [.ref 618, .int (nI b), .int 0, .int (nI x), .int (-1)] (hp G) = _ from m_onceClash H h (k := 0) (by decide) hx (Or.inl (by decide)), ci_some, show f_Md_onceClash [.ref 618, .int (nI b), .int 1, .int (nI y), .int (-1)] (hp G) = _ from m_onceClash H h (k := 1) (by decide) hy (Or.inl (by decide)), ci_some, show f_Md_onceClash [.ref 618, .int (nI b), .int 2, .int (nI z), .int (-1)] (hp G) = _ from m_onceClash H h (k := 2) (by decide) hz (Or.inl (by decide)), ci_some]
    by_cases hcl : (clashA P A 0 x ||| clashA P A 1 y) ||| clashA P A 2 z = 0
    · have epk : (nI x + (1000 * nI y)) + (1000000 * nI z) = nI (x + 1000 * y + 1000000 * z) := by
        rw [show (1000 : Int32) * nI y = nI (1000 * y) from n_mul 1000 y, show (1000000 : Int32) * nI z = nI (1000000 * z) from n_mul 1000000 z, i_add, i_add]
      rw [if_pos hcl, gg_Md_state, Option.bind_some, e_Md_packed, ci_some, epk, i_row, uu_Md_state _ (by omega), Option.bind_some]
      obtain ⟨H1, q1⟩ := H.rowU hs (k := aM A) (v := nI (x + 1000 * y + 1000000 * z)) (Nat.le_refl _) hm
      have hcell : (gsi G 628 (b + 13 + aM A) (nI (x + 1000 * y + 1000000 * z))).1 628 (b + 13 + aM A) = nI (x + 1000 * y + 1000000 * z) := by rw [gsi_i, if_pos rfl, upd_at]
      generalize gsi G 628 (b + 13 + aM A) (nI (x + 1000 * y + 1000000 * z)) = G1 at *
      have hkR : okR (aV (addR A x y z)) (aM (addR A x y z)) (aD (addR A x y z)) (aC (addR A x y z)) := h.kr.add hm hx hy hz
      -- the rows with the one that comes
      have hMV : isMV G1 b (newV (aV A) (aM A) x y z) (aM A + 1) := fun r hr => by
        unfold pkV newV
        by_cases e : r = aM A
        · subst e
          rw [hcell]
          simp
        · simp only [if_neg e]
          exact H1.v r (by omega)
      have hR1 : rowsM G1 b (newV (aV A) (aM A) x y z) (aM A + 1) (aD A) (aC A) (aN A) (aS A) (aT A) := ⟨⟨hb, H1.d, H1.c⟩, hMV, okV3_of hkR, by omega, fun r hr => by have := h.kr.vis hr; omega, H1.pt, h.kp.1⟩
      have hbel : ∀ i, i < pNi P → f_Md_belongs [.ref 618, .int (nI b), .int (nI i), .int (nI (aM A))] (hp G1) = some (some (.int (b2 (belA P (addR A x y z) i (aM A)))), hp G1) := fun i hi => by
        rw [m_belongs0 hR1 H1.hP h.pp hi (Nat.lt_succ_self _)]
        have e1 : holdsW (limN (newV (aV A) (aM A) x y z) (visB (aD A) (aC A)) (aN A) (aT A) (aM A)) (pPa P) = partA P (addR A x y z) (aM A) := by
          have := part_loc (A := addR A x y z) (B := setR A (newV (aV A) (aM A) x y z) (aM A + 1) (aD A) (aC A)) h.pp (r := aM A) (fun _ _ => rfl)
          exact this
        rw [e1]
        rfl
      have hFi : ∀ i, i < pNi P → entsA P (addR A x y z) (aM A) (partA P (addR A x y z) (aM A)) i = if belA P (addR A x y z) i (aM A) then nI (valA P (addR A x y z) i (aM A)) else -1 := fun i hi => ents_i hi
      have hv9 : ∀ i, i < pNi P → valA P (addR A x y z) i (aM A) ≤ 999 := fun i hi => hkR.2.1 _ _ (Nat.lt_succ_self _) (h.pp.2.2.1 i hi).2
      have hmore : ∀ i, i < pNi P → moreE noE (entsA P (addR A x y z) (aM A) (partA P (addR A x y z) (aM A))) i = if belA P (addR A x y z) i (aM A) then 1 else 0 := fun i hi => by
        unfold moreE
        rw [hFi i hi]
        cases belA P (addR A x y z) i (aM A)
        · rfl
        · have hv := hv9 i hi
          rw [if_pos rfl, if_neg (fun e => n_m1 (show valA P (addR A x y z) i (aM A) < 2147483648 by omega) e.symm), if_pos rfl, if_neg (n_m1 (by omega)), if_pos (show noE i = -1 from rfl)]
      have hs1 : okS P A := hs
      generalize hF : entsA P (addR A x y z) (aM A) (partA P (addR A x y z) (aM A)) = F at *
      have loop : ∀ (j i f : Nat), i + j = pNi P → j < f → mm_run p_Md_inserted f 74 [.ref 618, .int (nI b), .int (nI (aM A)), .int (nI (atSum (aJ A) (moreE noE F) i)), .int (nI i)] [] (hp G1) = mm_run p_Md_inserted (f - j) 74 [.ref 618, .int (nI b), .int (nI (aM A)), .int (nI (atSum (aJ A) (moreE noE F) (pNi P))), .int (nI (pNi P))] [] (hp G1) := by
        intro j
        induction j with
        | zero => intro i f hi _; rw [show i = pNi P by omega]; rfl
        | succ j ih =>
          intro i f hi hf
          obtain ⟨f, rfl⟩ : ∃ g, f = g + 1 := ⟨f - 1, by omega⟩
          have hil : i < pNi P := by omega
          rw [e_Md_inserted_74, m_indexes H1.hP, ci_some, if_pos (lp hil (by omega)), hbel i hil, ci_some, show f_Md_asideBy [.ref 618, .int (nI b), .int (nI i), .int 0, .int (b2 (belA P (addR A x y z) i (aM A))), .int 0] (hp G1) = _ from m_asideBy H1 hs1 (by omega) false (belA P (addR A x y z) i (aM A)) false, ci_some, i_add, show nI i + 1 = nI (i + 1) from nI_add i 1]
          have : atSum (aJ A) (moreE noE F) i + (if isAtA A i && !false then (if (false : Bool) then 1 else 0) + (if belA P (addR A x y z) i (aM A) then 1 else 0) else 0) = atSum (aJ A) (moreE noE F) (i + 1) := by
            rw [atSum_s, hmore i hil]
            unfold isAtA
            cases atO (aJ A) i <;> simp
          rw [this, ih (i + 1) f (by omega) (by omega), show f + 1 - (j + 1) = f - j by omega]
      have hl := loop (pNi P) 0 mm_fu (by omega) (fu_lt (by omega))
      have h00 : atSum (aJ A) (moreE noE F) 0 = 0 := atSum_0 _ _
      rw [h00] at hl
      obtain ⟨f1, hf1⟩ : ∃ f, mm_fu - pNi P = f + 2 := ⟨mm_fu - pNi P - 2, by have := fu_lt (n := 100) (by decide); omega⟩
      rw [show mm_run p_Md_inserted mm_fu 74 [.ref 618, .int (nI b), .int (nI (aM A)), .int 0, .int 0] [] (hp G1) = _ from hl, hf1, e_Md_inserted_74, m_indexes H1.hP, ci_some, if_neg (lm (Nat.le_refl _) (by omega)), gg_Md_state, Option.bind_some, show mm_li (hp G1) 628 (nI b + 12) = _ from rd hb 12 (by omega), Option.bind_some, Option.bind_some, show mm_li (hp G1) 628 (nI b + 5) = _ from rd hb 5 (by omega), Option.bind_some]
      have hfr := fit_run (E := noE) (F := F) H1 hs h.atO
      have hfe : fitA P (addR A x y z) noE F = fitA P A noE F := rfl
      by_cases hfit : fitA P A noE F = true
      · have hc : canAdm P A x y z = true := by
          unfold canAdm
          rw [hF, hfe, hfit, decide_eq_true hm, decide_eq_true (show clash3 P A x y z = 0 from hcl)]
          rfl
        have hadm : admO P A x y z = (nI (aM A), admA P A x y z) := by unfold admO; rw [hc]; rfl
        rw [if_neg (fun q => by rw [hfr, hfit] at q; exact absurd q (by decide)), Option.bind_some, show mm_li (hp G1) 628 (nI b + 2) = _ from rd hb 2 (by omega), Option.bind_some, H1.m, show nI (aM A) + 1 = nI (aM A + 1) from nI_add _ 1, show mm_si (hp G1) 628 (nI b + 2) (nI (aM A + 1)) = _ from wr hb 2 (by omega) _, Option.bind_some, gg_Md_state, Option.bind_some, show mm_li (hp (gsi G1 628 (b + 2) (nI (aM A + 1)))) 628 (nI b + 0) = _ from rd hb 0 (by omega), Option.bind_some, show (1 : Int32) <<< (nI (aM A) &&& 31) = sbit (aM A) from rfl]
        have d0 : (gsi G1 628 (b + 2) (nI (aM A + 1))).1 628 (b + 0) = aD A := by rw [Nat.add_zero, gsi_i, if_pos rfl, upd_ne _ _ (by omega)]; exact H1.d
        rw [d0, show mm_si (hp (gsi G1 628 (b + 2) (nI (aM A + 1)))) 628 (nI b + 0) (aD A ||| sbit (aM A)) = _ from wr hb 0 (by omega) _, Option.bind_some]
        generalize hG2 : gsi (gsi G1 628 (b + 2) (nI (aM A + 1))) 628 (b + 0) (aD A ||| sbit (aM A)) = G2
        have ev2 : G2.1 628 = upd (upd (G1.1 628) (b + 2) (nI (aM A + 1))) b (aD A ||| sbit (aM A)) := by rw [← hG2]; rfl
        have q2 : mdF (mB b) G1 G2 := by rw [← hG2]; exact (mdF.cell ⟨by omega, by omega⟩).tr (mdF.cell ⟨by omega, by omega⟩)
        have H2 : MS G2 b P (addR A x y z) := ⟨⟨hb, H1.hP.fr q2⟩, H1.setRU hs (f' := G2.1 628) (V := newV (aV A) (aM A) x y z) (m := aM A + 1) (D := aD A ||| sbit (aM A)) (by omega) (fun j x1 x2 _ => by rw [ev2, upd_ne _ _ x1, upd_ne _ _ x2]) (by rw [ev2, upd_at]) (by rw [ev2, upd_ne _ _ (by omega), upd_at]) (fun r hr => by rw [ev2, upd_ne _ _ (by omega), upd_ne _ _ (by omega)]; exact hMV r hr)⟩
        obtain ⟨hM, hvm⟩ := adm_mvH h hx hy hz hm (by rw [hF, hfe]; exact hfit)
        rw [hF] at hM
        rw [hadm]
        have go : ∀ (j i f : Nat) (G3 : GG) (C : AS), i + j = pNi P → j < f → mvd P noE F (aM A) i (addR A x y z) C → C = (List.range i).foldl (moveE P noE F (aM A)) (addR A x y z) → MS G3 b P C → mdF (mB b) G G3 → ∃ G', mm_run p_Md_inserted f 170 [.ref 618, .int (nI b), .int (nI (aM A)), .int (nI i)] [] (hp G3) = some (some (.int (nI (aM A))), hp G') ∧ MS G' b P (admA P A x y z) ∧ mdF (mB b) G G' := by
          intro j
          induction j with
          | zero =>
            intro i f G3 C hi hf hd hC H3 q3
            obtain ⟨f, rfl⟩ : ∃ g, f = g + 1 := ⟨f - 1, by omega⟩
            rw [e_Md_inserted_170, m_indexes H3.hP, ci_some, if_neg (lm (by omega) (by omega))]
            have : C = admA P A x y z := by
              rw [hC, show i = pNi P by omega]
              unfold admA moveA
              rw [hF]
            rw [this] at H3
            exact ⟨G3, rfl, H3, q3⟩
          | succ j ih =>
            intro i f G3 C hi hf hd hC H3 q3
            obtain ⟨f, rfl⟩ : ∃ g, f = g + 1 := ⟨f - 1, by omega⟩
            have hil : i < pNi P := by omega
            have hs3 := mvd_oks hM (by omega) hd
            have hrC : aM A < aM C := by
              have : aM C = aM (addR A x y z) := by unfold aM; rw [hd.1]
              rw [this]; exact Nat.lt_succ_self _
            have hco := (h.pp.2.2.1 i hil).2
            rw [e_Md_inserted_170, m_indexes H3.hP, ci_some, if_pos (lp hil (by omega)), m_belS H3 hs3 hil hrC, ci_some, bel_eq hd.1 hd.2.1, show nI i + 1 = nI (i + 1) from nI_add i 1]
            have hnext : (List.range (i + 1)).foldl (moveE P noE F (aM A)) (addR A x y z) = moveE P noE F (aM A) C i := by rw [List.range_succ, List.foldl_append, List.foldl_cons, List.foldl_nil, ← hC]
            have hFi' := hFi i hil
            cases hbl : belA P (addR A x y z) i (aM A)
            · rw [hbl] at hFi'
              rw [if_pos (by decide)]
              have hmv : moveE P noE F (aM A) C i = C := by unfold moveE; rw [if_pos (show noE i = F i by rw [hFi']; rfl)]
              exact ih (i + 1) f G3 C (by omega) (by omega) (by have := mvd_s hd; rw [hmv] at this; exact this) (by rw [hnext, hmv]) H3 q3
            · rw [hbl, if_pos rfl] at hFi'
              have hv := hv9 i hil
              have hne : noE i ≠ F i := by rw [hFi']; exact fun e => n_m1 (show valA P (addR A x y z) i (aM A) < 2147483648 by omega) e.symm
              have eval : aV C (aM A) (pCo P i) = valA P (addR A x y z) i (aM A) := by unfold aV valA; rw [hd.1]; rfl
              rw [if_neg (by decide), m_columnAt H3.hP hni hil, ci_some, m_valS H3 hs3 hrC hco, ci_some, eval]
              have etk : takeE P C i (aM A) (noE i) = C := if_pos rfl
              obtain ⟨G4, r1, r2, r3⟩ := mv_enter hM hil hd (by rw [etk]; exact H3) (by rw [etk]; exact hs3) hne hv hFi'
              rw [r1, cv_some]
              exact ih (i + 1) f G4 _ (by omega) (by omega) (mvd_s hd) hnext.symm r2 (q3.tr r3)
        exact go (pNi P) 0 (f1 + 1) G2 _ (by omega) (by have := fu_lt (n := 100) (by decide); omega) mvd_0 rfl H2 (q1.tr q2)
      · have hfit' : fitA P A noE F = false := by simpa using hfit
        rw [if_pos (hfr.mpr hfit'), no (by
          unfold canAdm
          rw [hF, hfe, hfit']
          simp)]
        exact ⟨G1, rfl, H1, q1⟩
    · rw [if_neg hcl, no (by
        unfold canAdm
        rw [decide_eq_false (show ¬ clash3 P A x y z = 0 from hcl)]
        simp)]
      exact ⟨G, rfl, H, mdF.rf⟩
  · rw [if_pos (show nI (aM A) = (30 : Int32) from lq (n := 30) (by omega)), no (by unfold canAdm; rw [decide_eq_false hm]; rfl)]
    exact ⟨G, rfl, H, mdF.rf⟩
end MDN
