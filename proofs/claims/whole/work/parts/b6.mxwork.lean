/-! THE REFERENCE: work -/
theorem i_mul4 (n : Nat) : (4 : Int32) * nI n = nI (4 * n) := (Int32.ofNat_mul 4 n).symm
theorem gsa_gsa (G : GG) (n : Nat) (f g : Nat → Int32) : gsa (gsa G n f) n g = gsa G n g := by
  unfold gsa
  congr 1
  funext n'
  by_cases h : n' = n
  · simp [h]
  · simp [h]
def isMLd (G : GG) (K : List LI) : Prop := ∀ i (h : i < K.length), isMLi G (161 + 4 * i) K[i]
def wkF (G G' : GG) : Prop := (∀ n, n ≠ 618 → n ≠ 627 → G'.1 n = G.1 n) ∧ G'.2 = G.2 ∧ (∀ k, k ≠ 7 → k ≠ 8 → G'.1 618 k = G.1 618 k) ∧ ∀ k, k < 161 → G'.1 627 k = G.1 627 k
theorem wkF.rf {G : GG} : wkF G G := ⟨fun _ _ _ => rfl, rfl, fun _ _ _ => rfl, fun _ _ => rfl⟩
theorem wkF.tr {G1 G2 G3 : GG} (h1 : wkF G1 G2) (h2 : wkF G2 G3) : wkF G1 G3 := ⟨fun n a b => (h2.1 n a b).trans (h1.1 n a b), h2.2.1.trans h1.2.1, fun k a b => (h2.2.2.1 k a b).trans (h1.2.2.1 k a b), fun k a => (h2.2.2.2 k a).trans (h1.2.2.2 k a)⟩
theorem mrE.wk' {G G' : GG} (h : mrE G G') : wkF G G' := ⟨fun n a _ => h.1 n a, h.2.1, h.2.2, fun k _ => by rw [h.1 627 (by decide)]⟩
theorem lwE.wk {i0 : Nat} {G G' : GG} (h : lwE i0 G G') (hi : 161 ≤ i0) : wkF G G' := ⟨h.1, h.2.1, h.2.2.1, fun k hk => h.2.2.2 k (by omega)⟩
theorem wkF.set {G : GG} {k : Nat} {v : Int32} (hk : 161 ≤ k) : wkF G (gsi G 627 k v) := ⟨fun n _ b => f6o _ _ b, rfl, fun _ _ _ => by rw [f6o _ _ (by decide)], fun j hj => by rw [gsi_i, if_pos rfl, upd_ne _ _ (by omega)]⟩
theorem isMLi.cg {G G' : GG} {a b : Nat} {t : LI} (h : isMLi G a t) (e : ∀ k, k < 4 → G'.1 627 (b + k) = G.1 627 (a + k)) : isMLi G' b t := by
  have e0 := e 0 (by decide)
  rw [Nat.add_zero, Nat.add_zero] at e0
  unfold isMLi at h ⊢
  rw [e0, e 1 (by decide), e 2 (by decide), e 3 (by decide)]
  exact h
theorem pNm_j {S : List Nat} {N : List (List Nat × Nat × Nat)} {j i j2 : Nat} (h : pNm S N j = .inr (i, j2)) : j2 = j + 1 := by
  unfold pNm at h
  split at h
  · split at h
    · cases h; rfl
    · cases h
  · cases h
theorem pWk_j {S : List Nat} {N : List (List Nat × Nat × Nat)} {w j : Nat} {t : LI} {j2 : Nat} (h : pWk S N w j = .inr (t, j2)) : j ≤ j2 := by
  unfold pWk at h
  split at h
  · obtain ⟨x, j3, e1, h⟩ := thn_inr h
    obtain ⟨y, j4, e2, h⟩ := thn_inr h
    obtain ⟨z, j5, e3, h⟩ := thn_inr h
    have := pNum_j e1; have := pNum_j e2; have := pNum_j e3
    cases h; omega
  split at h
  · obtain ⟨x, j3, e1, h⟩ := thn_inr h
    have := pNum_j e1
    cases h; omega
  split at h
  · obtain ⟨x, j3, e1, h⟩ := thn_inr h
    obtain ⟨y, j4, e2, h⟩ := thn_inr h
    obtain ⟨z, j5, e3, h⟩ := thn_inr h
    have := pNum_j e1; have := pOne_j e2; have := pNum_j e3
    cases h; omega
  split at h
  · obtain ⟨x, j3, e1, h⟩ := thn_inr h
    have := pNum_j e1
    cases h; omega
  split at h
  · obtain ⟨x, j3, e1, h⟩ := thn_inr h
    have := pNm_j e1
    cases h; omega
  · cases h; omega
section MWL
variable {G G' G0 Z : GG} {S : List Nat} {N : List (List Nat × Nat × Nat)} {P : PP} {T : TT} {A : AS} {U : List AS} {cu : CU} {B : TB}
theorem m_w11 {e j f : Nat} (h : RMd G S e j) (he : e ≠ 0) (v : Int32) (hf : 1 ≤ f) : mm_run p_Md_work f 11 [.ref 618, .int v] [] (hp G) = some (some (.int (nI e)), hp G) := by
  obtain ⟨g, rfl⟩ : ∃ g, f = g + 1 := ⟨f - 1, by omega⟩
  rw [e_Md_work_11, gg_Md_fault, Option.bind_some, if_neg (fun q => he (h.ne.mp q)), Option.bind_some, if_pos (h.pos.mpr he), h.fa, Option.bind_some]
theorem m_w11e {j f n : Nat} (h : RMd G S 0 j) (hs : tso (tk S j) = 0) : mm_run p_Md_work (f + 1) 11 [.ref 618, .int (nI n)] [] (hp G) = mm_run p_Md_work f 128 [.ref 618, .int (nI n), .int 0] [] (hp (gsi G 627 0 (nI n))) := by
  have w1 : mm_si (hp G) 627 0 (nI n) = some (hp (gsi G 627 0 (nI n))) := uu_Md_lines G (i := 0) (by decide) (nI n)
  rw [e_Md_work_11, gg_Md_fault, Option.bind_some, if_pos (h.ne.mpr rfl), gg_Md_sort, Option.bind_some, gg_Md_at, Option.bind_some, h.at, rr_Md_sort _ h.lt, Option.bind_some, h.so, if_pos (show nI (tso (tk S j)) = (0 : Int32) from lq (n := 0) hs), Option.bind_some, if_neg (fun q => h.pos.mp q rfl), gg_Md_lines, Option.bind_some, w1, Option.bind_some]
theorem m_wkl (hS : S.length ≤ 1000) (hN : isMN G0 0 N) (h4 : N.length ≤ 4) (hok : ∀ q ∈ N, okNm q.1) (hd : nDis N) (hP : isMP G0 P) (hPN : pNi P = N.length) : ∀ (m : Nat) (K : List LI) (j : Nat) (G : GG) (f : Nat), 1000 ≤ j + m → m + 400 ≤ f → RMd G S 0 j → isMLd G K → K.length ≤ 40 → wkF G0 G → (∀ e, pWs S N m K j = .inl e → e < 100000 ∧ ∃ G', mm_run p_Md_work f 11 [.ref 618, .int (nI K.length)] [] (hp G) = some (some (.int (nI e)), hp G') ∧ wkF G0 G') ∧ (∀ K' j', pWs S N m K j = .inr (K', j') → ∃ G' f', 300 ≤ f' ∧ mm_run p_Md_work f 11 [.ref 618, .int (nI K.length)] [] (hp G) = mm_run p_Md_work f' 128 [.ref 618, .int (nI K'.length), .int 0] [] (hp (gsi G' 627 0 (nI K'.length))) ∧ isMLd G' K' ∧ K'.length ≤ 40 ∧ wkF G0 G') := by
  intro m
  induction m with
  | zero =>
    intro K j G f hj hf hR hL h40 hE
    obtain ⟨f, rfl⟩ : ∃ g, f = g + 1 := ⟨f - 1, by omega⟩
    refine ⟨fun e q => (by cases q), fun K' j' q => ?_⟩
    cases q
    exact ⟨G, f, by omega, m_w11e hR (tok_end hS (by omega)), hL, h40, hE⟩
  | succ m ih =>
    intro K j G f hj hf hR hL h40 hE
    obtain ⟨f, rfl⟩ : ∃ g, f = g + 1 := ⟨f - 1, by omega⟩
    have h5 := tso_le S j
    by_cases hs : tso (tk S j) = 0
    · unfold pWs
      rw [if_pos hs]
      refine ⟨fun e q => (by cases q), fun K' j' q => ?_⟩
      cases q
      exact ⟨G, f, by omega, m_w11e hR hs, hL, h40, hE⟩
    · rw [e_Md_work_11, gg_Md_fault, Option.bind_some, if_pos (hR.ne.mpr rfl), gg_Md_sort, Option.bind_some, gg_Md_at, Option.bind_some, hR.at, rr_Md_sort _ hR.lt, Option.bind_some, hR.so, if_neg (show ¬ nI (tso (tk S j)) = (0 : Int32) from ln (n := 0) hs (by omega) (by decide)), show f_Md_wordHere [.ref 618, .int 7, .int 9] (hp G) = _ from m_wordHere hR (a := 7) (n := 9) (by decide), ci_some, wh_fol fol_ins]
      unfold pWs
      rw [if_neg hs]
      -- a wrong line ends it
      have bad : ∀ {k : Nat}, 1 ≤ k → k ≤ 5 → ∃ G', (mm_cv (f_Md_wrong [.ref 618, .int (nI k)] (hp G)) fun h11 => mm_cv (f_Md_takeSign [.ref 618, .int 59] h11) fun h12 => mm_run p_Md_work f 11 [.ref 618, .int (nI K.length)] [] h12) = some (some (.int (nI (fau S k j))), hp G') ∧ wkF G0 G' := fun {k} k1 k5 => by
        obtain ⟨G1, w1, w2, w3⟩ := m_wrong hR hS (k := k) k5
        rw [if_pos rfl] at w2
        have he := fau_ne S k1 j
        obtain ⟨G2, s1, s2, s3⟩ := m_mk (x := (.inl (fau S k j) : Nat ⊕ (Unit × Nat))) ⟨he, j, w2⟩ hS
        obtain ⟨-, j2, hx⟩ := s2
        refine ⟨G2, ?_, (hE.tr w3.wk').tr s3.wk'⟩
        rw [w1, cv_some, s1, cv_some]
        exact m_w11 hx he _ (by omega)
      by_cases hb : isB S 9 17 j = true
      · obtain ⟨-, -, w9, w17, -⟩ := isB_wN hb
        rw [if_pos hb, if_neg (show ¬ nI (wN S j - 9) < (0 : Int32) from lm (n := 0) (Nat.zero_le _) (by omega))]
        unfold pWl
        rw [if_pos hb]
        by_cases h40' : K.length = 40
        · rw [if_pos (show nI K.length = (40 : Int32) from lq (n := 40) h40'), if_pos (by omega)]
          obtain ⟨G2, g1, g2⟩ := bad (k := 5) (by decide) (by decide)
          refine ⟨fun e q => ?_, fun K' j' q => (by cases q)⟩
          cases q
          exact ⟨fau_lt S hS (by decide) j, G2, g1, g2⟩
        · have hl : K.length < 40 := by omega
          rw [if_neg (show ¬ nI K.length = (40 : Int32) from ln (n := 40) h40' (by omega) (by decide)), if_neg (by omega), gg_Md_at, Option.bind_some, hR.at, show nI j + 1 = nI (j + 1) from nI_add j 1, ww_Md_at, Option.bind_some, gg_Md_lines, Option.bind_some, i_mul4, show (161 : Int32) + nI (4 * K.length) = nI (161 + 4 * K.length) from i_add 161 _, uu_Md_lines _ (by omega), Option.bind_some]
          have hR1 := (hR.next hs).arr (n := 627) (k := 161 + 4 * K.length) (v := nI (wN S j - 9)) (by decide)
          generalize hH : gsi (gsi G 618 7 (nI (j + 1))) 627 (161 + 4 * K.length) (nI (wN S j - 9)) = H at hR1 ⊢
          have hw0 : H.1 627 (161 + 4 * K.length) = nI (wN S j - 9) := by rw [← hH, gsi_i, if_pos rfl, upd_at]
          have EH : wkF G H := by
            rw [← hH]
            exact (mrE.gsi (Or.inl rfl)).wk'.tr (wkF.set (by omega))
          have E1 := hE.tr EH
          obtain ⟨G1, r1, r2, r3, r4⟩ := m_readsLine hR1 hS (fun i hi => by rw [E1.2.1]; exact hN i hi) h4 hok hd (hP.off (E1.1 624 (by decide) (by decide)) (E1.1 625 (by decide) (by decide)) (E1.2.2.1 16 (by decide) (by decide))) hPN (i0 := 161 + 4 * K.length) (by omega) ⟨w9, w17⟩ hw0
          obtain ⟨G2, s1, s2, s3⟩ := m_mk r2 hS
          have E2 := (E1.tr (r4.wk (by omega))).tr s3.wk'
          rw [r1, cv_some, s1, cv_some]
          cases hp1 : pWk S N (wN S j) (j + 1) with
          | inl e =>
            rw [hp1] at s2
            obtain ⟨he, j2, hx⟩ := s2
            refine ⟨fun e' q => ?_, fun B' j' q => (by cases q)⟩
            cases q
            exact ⟨hx.2.2.2.2, G2, m_w11 hx he _ (by omega), E2⟩
          | inr p1 =>
            obtain ⟨t, j1⟩ := p1
            rw [hp1, thn_r] at s2
            rw [thn_r]
            cases hp2 : pMk S j1 with
            | inl e =>
              rw [hp2] at s2
              obtain ⟨he, j2, hx⟩ := s2
              refine ⟨fun e' q => ?_, fun B' j' q => (by cases q)⟩
              cases q
              exact ⟨hx.2.2.2.2, G2, m_w11 hx he _ (by omega), E2⟩
            | inr p2 =>
              obtain ⟨u, j2⟩ := p2
              rw [hp2] at s2
              rw [thn_r, thn_r]
              have jj := pWk_j hp1
              have jm := pMk_j hp2
              have ht := r3 t j1 hp1
              have hlen : (K ++ [t]).length = K.length + 1 := by rw [List.length_append]; rfl
              have := ih (K ++ [t]) j2 G2 f (by omega) (by omega) s2 (fun i hi => ?_) (by omega) E2
              · rw [hlen] at this
                rw [show nI K.length + 1 = nI (K.length + 1) from nI_add K.length 1]
                exact this
              · have e7 : ∀ k, G2.1 627 k = G1.1 627 k := fun k => by rw [s3.1 627 (by decide)]
                by_cases hi' : i < K.length
                · rw [List.getElem_append_left hi']
                  refine (hL i hi').cg (fun k hk => ?_)
                  rw [e7, r4.2.2.2 _ (by omega), ← hH, gsi_i, if_pos rfl, upd_ne _ _ (by omega), f6o _ _ (by decide)]
                · have hi2 : i = K.length := by omega
                  subst hi2
                  rw [List.getElem_append_right (Nat.le_refl _)]
                  simp only [Nat.sub_self, List.getElem_cons_zero]
                  exact ht.cg (fun k _ => e7 _)
      · rw [if_neg hb, if_pos (show (-1 : Int32) < 0 by decide)]
        unfold pWl
        rw [if_neg hb]
        obtain ⟨G2, g1, g2⟩ := bad (k := 1) (by decide) (by decide)
        refine ⟨fun e q => ?_, fun K' j' q => (by cases q)⟩
        cases q
        exact ⟨fau_lt S hS (by decide) j, G2, g1, g2⟩
theorem m_w128 {n : Nat} (hn : n ≤ 40) : ∀ (m k f : Nat), k + m = 4 * n → m + 1 ≤ f → mm_run p_Md_work f 128 [.ref 618, .int (nI n), .int (nI k)] [] (hp (gsa G 627 (cpy (G.1 627) 161 1 k))) = some (some (.int 0), hp (gsa G 627 (cpy (G.1 627) 161 1 (4 * n)))) := by
  intro m
  induction m with
  | zero =>
    intro k f hk hf
    obtain ⟨f, rfl⟩ : ∃ g, f = g + 1 := ⟨f - 1, by omega⟩
    rw [e_Md_work_128, i_mul4, if_neg (lm (by omega) (by omega)), show k = 4 * n by omega]
  | succ m ih =>
    intro k f hk hf
    obtain ⟨f, rfl⟩ : ∃ g, f = g + 1 := ⟨f - 1, by omega⟩
    have := cpy_s (f := G.1 627) (a := 161) (t := 1) (j := k) (by omega)
    rw [e_Md_work_128, i_mul4, if_pos (lp (by omega) (by omega)), gg_Md_lines, Option.bind_some, Option.bind_some, show (161 : Int32) + nI k = nI (161 + k) from i_add 161 k, rr_Md_lines _ (by omega), Option.bind_some, show (1 : Int32) + nI k = nI (1 + k) from i_add 1 k, uu_Md_lines _ (by omega), Option.bind_some, gsi_gsa, gsa_i, if_pos rfl, this, show nI k + 1 = nI (k + 1) from nI_add k 1, ih (k + 1) f (by omega) (by omega)]
theorem MW.off7 (W : MW Z G P T A U cu) (f : Nat → Int32) : MW (gsa G 627 f) (gsa G 627 f) P T A U cu := by
  obtain ⟨⟨a1, a2⟩, ⟨u1, u2, u3⟩, ⟨t1, t2⟩, c, z⟩ := W
  have e : ∀ n, n ≠ 627 → (gsa G 627 f).1 n = G.1 n := fun n hn => by rw [gsa_i, if_neg hn]
  have ms : ∀ {b : Nat} {A : AS}, MS G b P A → INV P A → MS (gsa G 627 f) b P A := fun {b A} H h => H.copy h.os H.hb (H.hP.off (e 624 (by decide)) (e 625 (by decide)) (by rw [e 618 (by decide)])) (fun k _ => by rw [e 628 (by decide)])
  exact ⟨⟨ms a1 a2, a2⟩, ⟨u1, by rw [e 618 (by decide)]; exact u2, fun j hj => ⟨ms (u3 j hj).1 (u3 j hj).2, (u3 j hj).2⟩⟩, ⟨t1.off (e 624 (by decide)), t2⟩, by rw [e 618 (by decide)]; exact c, fixM.rf⟩
theorem MW.wk (W : MW Z G P T A U cu) (hE : ∀ n, n ≠ 618 → n ≠ 627 → ¬ (619 ≤ n ∧ n ≤ 622) → G'.1 n = G.1 n) (hl : G'.2.1 623 = G.2.1 623 ∧ G'.2.1 626 = G.2.1 626) (h6 : ∀ k, 15 ≤ k → k ≤ 19 → G'.1 618 k = G.1 618 k) : MW G' G' P T A U cu := by
  have e : ∀ n, n ≠ 627 → (gsa G' 627 (G.1 627)).1 n = G'.1 n := fun n hn => by rw [gsa_i, if_neg hn]
  have R : rdC G (gsa G' 627 (G.1 627)) := by
    refine ⟨fun n hn => ?_, hl.1, fun k a b => by rw [e 618 (by decide)]; exact h6 k a b, fun k _ => by rw [e 624 (by decide), hE 624 (by decide) (by decide) (by decide)], fun k _ => by rw [e 625 (by decide), hE 625 (by decide) (by decide) (by decide)], fun k _ => ?_⟩
    · rcases hn with q | q
      · rw [q, gsa_i, if_pos rfl]
      · rw [q, e 628 (by decide), hE 628 (by decide) (by decide) (by decide)]
    · show G'.2.1 626 k = _
      rw [hl.2]
  have := (W.rd R).off7 (G'.1 627)
  rw [gsa_gsa, gsa_self] at this
  exact this
theorem r_work {K : List LI} (M : MX G B K S A U cu) (hB : okTB B) (hd : nDis (tIx B)) (hK : K.length ≤ 40) : (∀ e, pWs S (tIx B) 1000 [] 0 = .inl e → e < 100000 ∧ ∃ G', f_Md_work [.ref 618] (hp G) = some (some (.int (nI e)), hp G') ∧ MX G' B K [] A U cu ∧ eqOff mR G G') ∧ (∀ K' j, pWs S (tIx B) 1000 [] 0 = .inr (K', j) → ∃ G', f_Md_work [.ref 618] (hp G) = some (some (.int 0), hp G') ∧ MX G' B K' [] A U cu ∧ eqOff mR G G') := by
  have hfu : 9999 ≤ mm_fu := Nat.le_of_lt (fu_lt (Nat.le_refl _))
  have hS : S.length ≤ 1000 := M.2.1.1.1.2.1
  obtain ⟨W, ⟨ht, hw⟩, hn, hl⟩ := M
  rw [e_Md_work 618 _ (ob_Md G), ww_Md_thrown, Option.bind_some]
  have ht0 : isMTp (gsi G 618 0 0) S := ht.off (f6n _ _ (by decide)) (f6o _ _ (by decide))
  obtain ⟨G1, n, c1, c2, c3, c4, c5, c6⟩ := m_cutAll ht0
  rw [c1, cv_some]
  have R1 := (rdC.th (G := G) 0).tr c6.rd
  have r0 : RMd G1 S 0 0 := ⟨⟨n, c2, Nat.zero_le _⟩, hw.off R1.2.1, c5, c4, by decide⟩
  have h4 := hB.2.1.1
  have hn1 : isMN G1 0 (tIx B) := fun i hi => by rw [R1.2.2.2.2.2 (0 + i) (by omega)]; exact hn i hi
  have W1 := W.rd R1
  have o1 : eqOff mR G G1 := (eqOff.gsi _ _ mR_618).tr c6.l6
  -- what is so at the end
  have fin : ∀ {H : GG} {K' : List LI}, (∀ n, n ≠ 618 → n ≠ 627 → H.1 n = G1.1 n) → H.2 = G1.2 → (∀ k, k ≠ 7 → k ≠ 8 → H.1 618 k = G1.1 618 k) → isMLn H K' → MX H B K' [] A U cu ∧ eqOff mR G H := fun {H K'} x y z l => by
    refine ⟨⟨W1.wk (fun n a b _ => x n a b) ⟨by rw [y], by rw [y]⟩ (fun k a b => z k (by omega) (by omega)), ⟨isMTp.nil (by rw [z 2 (by decide) (by decide)]; exact c3), (hw.off R1.2.1).off (by rw [y])⟩, fun i hi => by rw [y]; exact hn1 i hi, l⟩, o1.tr (fun n hn => ?_)⟩
    unfold mR at hn
    exact ⟨x n (by omega) (by omega), by rw [y], by rw [y]⟩
  obtain ⟨l1, l2⟩ := m_wkl hS hn1 h4 (fun q hq => (hB.2.1.2 q hq).1) hd W1.ms.hP rfl 1000 [] 0 G1 mm_fu (by decide) (by omega) r0 (fun i hi => absurd hi (Nat.not_lt_zero i)) (Nat.zero_le _) wkF.rf
  refine ⟨fun e he => ?_, fun K' j he => ?_⟩
  · obtain ⟨hb, G', g1, g2⟩ := l1 e he
    obtain ⟨m1, m2⟩ := fin (K' := K) g2.1 g2.2.1 g2.2.2.1 ⟨by rw [g2.2.2.2 0 (by decide), R1.1 627 (Or.inl rfl)]; exact hl.1, fun i hi => (hl.2 i hi).cg (fun k hk => by rw [g2.2.2.2 _ (by omega), R1.1 627 (Or.inl rfl)])⟩
    exact ⟨hb, G', g1, m1, m2⟩
  · obtain ⟨G', f', hf, g1, g2, g3, g4⟩ := l2 K' j he
    have a1 := m_w128 (G := gsi G' 627 0 (nI K'.length)) g3 (4 * K'.length) 0 f' (by omega) (by omega)
    rw [cpy_0, gsa_self] at a1
    generalize hH : gsi G' 627 0 (nI K'.length) = H at g1 a1
    have x7 : H.1 627 = upd (G'.1 627) 0 (nI K'.length) := by rw [← hH, gsi_i, if_pos rfl]
    have lk : ∀ i (hi : i < K'.length) k, k < 4 → (gsa H 627 (cpy (H.1 627) 161 1 (4 * K'.length))).1 627 (1 + 4 * i + k) = G'.1 627 (161 + 4 * i + k) := fun i hi k hk => by
      have := cpy_at (f := H.1 627) (a := 161) (t := 1) (n := 4 * K'.length) (k := 4 * i + k) (by omega)
      rw [gsa_i, if_pos rfl, show 1 + 4 * i + k = 1 + (4 * i + k) by omega, this, x7, upd_ne _ _ (by omega), show 161 + (4 * i + k) = 161 + 4 * i + k by omega]
    obtain ⟨m1, m2⟩ := fin (H := gsa H 627 (cpy (H.1 627) 161 1 (4 * K'.length))) (K' := K') (fun n a b => by rw [gsa_i, if_neg b, ← hH, f6o _ _ b]; exact g4.1 n a b) (by rw [gsa_2, ← hH]; exact g4.2.1) (fun k a b => by rw [gsa_i, if_neg (by decide), ← hH, f6o _ _ (by decide)]; exact g4.2.2.1 k a b) ⟨by rw [gsa_i, if_pos rfl, cpy_off (by omega), x7, upd_at], fun i hi => (g2 i hi).cg (lk i hi)⟩
    exact ⟨_, g1.trans a1, m1, m2⟩
end MWL
