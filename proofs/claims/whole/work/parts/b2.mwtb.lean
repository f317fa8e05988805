/-! THE REFERENCE: a TABLE read -/
theorem pNum_j {S : List Nat} {lo hi j v j2 : Nat} (h : pNum S lo hi j = .inr (v, j2)) : j2 = j + 1 := by
  unfold pNum at h
  split at h
  · split at h
    · cases h
    · cases h; rfl
  · cases h
theorem pOne_j {S : List Nat} {a b j v j2 : Nat} (h : pOne S a b j = .inr (v, j2)) : j2 = j + 1 := by
  unfold pOne at h
  split at h
  · cases h; rfl
  · cases h
theorem pWd_j {S : List Nat} {i j v j2 : Nat} (h : pWd S i j = .inr (v, j2)) : j2 = j + 1 := by
  unfold pWd at h
  split at h
  · cases h; rfl
  · cases h
theorem pMk_j {S : List Nat} {j v j2 : Nat} (h : pMk S j = .inr (v, j2)) : j2 = j + 1 := by
  unfold pMk at h
  split at h
  · cases h; rfl
  · cases h
theorem pCol_j {S : List Nat} {B : TB} {c j v j2 : Nat} (h : pCol S B c j = .inr (v, j2)) : j2 = j + 1 := by
  unfold pCol at h
  split at h
  · cases h
  · exact pNum_j h
theorem mkE_inr {S : List Nat} {x : Nat ⊕ (TB × Nat)} {B : TB} {j2 : Nat} (h : mkE S x = .inr (B, j2)) : ∃ j1, x = .inr (B, j1) ∧ j2 = j1 + 1 := by
  unfold mkE at h
  obtain ⟨B1, j1, e1, e2⟩ := thn_inr h
  obtain ⟨u, j3, e3, e4⟩ := thn_inr e2
  cases e4
  exact ⟨j1, e1, pMk_j e3⟩
theorem pLim_j {S : List Nat} {op no : Bool} {j j2 : Nat} {l : Lim} (h : pLim S op no j = .inr (l, j2)) : j ≤ j2 := by
  unfold pLim at h
  split at h
  · split at h
    · obtain ⟨v, j3, e1, e2⟩ := thn_inr h; have := pOne_j e1; cases e2; omega
    · split at h
      · obtain ⟨v, j3, e1, e2⟩ := thn_inr h; have := pNum_j e1; cases e2; omega
      · obtain ⟨u3, j3, e1, e2⟩ := thn_inr h
        obtain ⟨lo, j4, e3, e4⟩ := thn_inr e2
        obtain ⟨u5, j5, e5, e6⟩ := thn_inr e4
        obtain ⟨hi, j6, e7, e8⟩ := thn_inr e6
        have := pWd_j e1; have := pNum_j e3; have := pWd_j e5; have := pNum_j e7
        cases e8; omega
  · split at h
    · obtain ⟨v, j3, e1, e2⟩ := thn_inr h; have := pNum_j e1; cases e2; omega
    · split at h
      · cases h; omega
      · obtain ⟨v, j3, e1, e2⟩ := thn_inr h; have := pOne_j e1; cases e2; omega
theorem pOpen_j {S : List Nat} {pt no : Bool} {n j j2 : Nat} (h : pOpen S pt n j = .inr (no, j2)) : j ≤ j2 := by
  unfold pOpen at h
  split at h
  · cases h
  · split at h
    · cases h
    · split at h
      · split at h
        · cases h; omega
        · cases h
      · cases h; omega
theorem qWh_j {S : List Nat} {pt : Bool} : ∀ (m : Nat) (op : Bool) (ws : List Lim) (j : Nat) (W : List Lim) (j2 : Nat), qWh S pt m op ws j = .inr (W, j2) → j ≤ j2 := by
  intro m
  induction m with
  | zero => intro op ws j W j2 h; cases h
  | succ m ih =>
    intro op ws j W j2 h
    unfold qWh at h
    obtain ⟨no, j3, e1, e2⟩ := thn_inr h
    obtain ⟨l, j4, e3, e4⟩ := thn_inr e2
    have := pOpen_j e1
    have := pLim_j e3
    split at e4
    · have := ih _ _ _ _ _ e4; omega
    · split at e4
      · have := ih _ _ _ _ _ e4; omega
      · cases e4; omega
theorem qLn_j {S : List Nat} {B B' : TB} {j j2 : Nat} (h : qLn S B j = .inr (B', j2)) : j ≤ j2 := by
  unfold qLn at h
  split at h
  · split at h
    · cases h
    · obtain ⟨v, j3, e1, e2⟩ := thn_inr h; have := pNum_j e1; cases e2; omega
  split at h
  · split at h
    · cases h
    · obtain ⟨v, j3, e1, e2⟩ := thn_inr h; have := pNum_j e1; cases e2; omega
  split at h
  · split at h
    · cases h
    split at h
    · cases h
    unfold qIndex1 at h
    split at h
    · split at h
      · cases h
      · obtain ⟨k, j3, e1, h⟩ := thn_inr h
        obtain ⟨u4, j4, e2, h⟩ := thn_inr h
        obtain ⟨c, j5, e3, h⟩ := thn_inr h
        have := pOne_j e1; have := pWd_j e2; have := pOne_j e3
        cases h; omega
    · cases h
  split at h
  · split at h
    · cases h
    unfold qRow1 at h
    obtain ⟨x, j3, e1, h⟩ := thn_inr h
    obtain ⟨y, j4, e2, h⟩ := thn_inr h
    obtain ⟨z, j5, e3, h⟩ := thn_inr h
    have := pCol_j e1; have := pCol_j e2; have := pCol_j e3
    cases h; omega
  split at h
  · split at h
    · cases h
    unfold qPoint1 at h
    obtain ⟨s, j3, e1, h⟩ := thn_inr h
    obtain ⟨u4, j4, e2, h⟩ := thn_inr h
    split at h
    · cases h
    obtain ⟨v, j5, e3, h⟩ := thn_inr h
    have := pOne_j e1; have := pWd_j e2; have := pNum_j e3
    cases h; omega
  split at h
  · split at h
    · cases h
    · obtain ⟨w, j3, e1, e2⟩ := thn_inr h; have := qWh_j _ _ _ _ _ _ e1; cases e2; omega
  split at h
  · split at h
    · cases h
    · obtain ⟨w, j3, e1, e2⟩ := thn_inr h; have := qWh_j _ _ _ _ _ _ e1; cases e2; omega
  · cases h
theorem pLn_j {S : List Nat} {B B' : TB} {j j2 : Nat} (h : pLn S B j = .inr (B', j2)) : j < j2 := by
  rw [pLn_q] at h
  obtain ⟨j1, e1, e2⟩ := mkE_inr h
  have := qLn_j e1
  omega
theorem cpy_s {f : Nat → Int32} {a t j : Nat} (h : t + j ≤ a) : upd (cpy f a t j) (t + j) (cpy f a t j (a + j)) = cpy f a t (j + 1) := by
  funext k
  by_cases g : k = t + j
  · rw [g, upd_at]
    unfold cpy
    rw [if_neg (by omega), if_pos (by omega), show a + (t + j - t) = a + j by omega]
  · rw [upd_ne _ _ g]
    unfold cpy
    by_cases g2 : t ≤ k ∧ k < t + j
    · rw [if_pos g2, if_pos (by omega)]
    · rw [if_neg g2, if_neg (by omega)]
section MTA
variable {G G' : GG} {S : List Nat} {e j : Nat} {B : TB}
theorem m_tabl (hS : S.length ≤ 1000) {G0 : GG} : ∀ (m : Nat) (B : TB) (j : Nat) (G : GG) (f : Nat), 1000 ≤ j + m → m + 400 ≤ f → RMd G S 0 j → isMB G 53 2 4 B → okTB B → okBn B → nDis (tIx B) → drE G0 G → (∀ e, pTab S m B j = .inl e → (e ≠ 0 ∧ e < 100000) ∧ ∃ G', mm_run p_Md_table f 33 [.ref 618] [] (hp G) = some (some (.int (nI e)), hp G') ∧ drE G0 G') ∧ (∀ B' j', pTab S m B j = .inr (B', j') → ∃ G' f', 300 ≤ f' ∧ mm_run p_Md_table f 33 [.ref 618] [] (hp G) = mm_run p_Md_table f' 79 [.ref 618, .int 0] [] (hp G') ∧ isMB G' 53 2 4 B' ∧ drE G0 G') := by
  intro m
  induction m with
  | zero =>
    intro B j G f hj hf hR hB _ _ _ hE
    obtain ⟨f, rfl⟩ : ∃ g, f = g + 1 := ⟨f - 1, by omega⟩
    have hs := tok_end hS (j := j) (by omega)
    refine ⟨fun e q => (by cases q), fun B' j' q => ?_⟩
    cases q
    rw [e_Md_table_33, gg_Md_fault, Option.bind_some, if_pos (hR.ne.mpr rfl), gg_Md_sort, Option.bind_some, gg_Md_at, Option.bind_some, hR.at, rr_Md_sort _ hR.lt, Option.bind_some, hR.so, if_pos (show nI (tso (tk S j)) = (0 : Int32) from lq (n := 0) hs), Option.bind_some, if_neg (fun q => hR.pos.mp q rfl)]
    exact ⟨G, f, by omega, rfl, hB, hE⟩
  | succ m ih =>
    intro B j G f hj hf hR hB hk hb hd hE
    obtain ⟨f, rfl⟩ : ∃ g, f = g + 1 := ⟨f - 1, by omega⟩
    have h5 := tso_le S j
    rw [e_Md_table_33, gg_Md_fault, Option.bind_some, if_pos (hR.ne.mpr rfl), gg_Md_sort, Option.bind_some, gg_Md_at, Option.bind_some, hR.at, rr_Md_sort _ hR.lt, Option.bind_some, hR.so]
    by_cases hs : tso (tk S j) = 0
    · unfold pTab
      rw [if_pos (show nI (tso (tk S j)) = (0 : Int32) from lq (n := 0) hs), Option.bind_some, if_neg (fun q => hR.pos.mp q rfl), if_pos hs]
      refine ⟨fun e q => (by cases q), fun B' j' q => ?_⟩
      cases q
      exact ⟨G, f, by omega, rfl, hB, hE⟩
    · rw [if_neg (show ¬ nI (tso (tk S j)) = (0 : Int32) from ln (n := 0) hs (by omega) (by decide))]
      obtain ⟨G1, r1, ⟨r2, r2'⟩, r3⟩ := m_readLine hR hB hk hb hd hS
      obtain ⟨G2, s1, s2, s3⟩ := m_mk r2 hS
      have E2 := (hE.tr r3).tr s3.dr
      rw [r1, cv_some, s1, cv_some]
      unfold pTab
      rw [if_neg hs, pLn_q]
      -- a fault ends it
      have bad : ∀ {e : Nat}, e ≠ 0 → (∃ j, RMd G2 S e j) → mm_run p_Md_table f 33 [.ref 618] [] (hp G2) = some (some (.int (nI e)), hp G2) := fun {e} he hx => by
        obtain ⟨j2, hx⟩ := hx
        obtain ⟨g, rfl⟩ : ∃ g, f = g + 1 := ⟨f - 1, by omega⟩
        rw [e_Md_table_33, gg_Md_fault, Option.bind_some, if_neg (fun q => he (hx.ne.mp q)), Option.bind_some, if_pos (hx.pos.mpr he), hx.fa, Option.bind_some]
      cases hp1 : qLn S B j with
      | inl e =>
        rw [hp1] at s2
        refine ⟨fun e' q => ?_, fun B' j' q => (by cases q)⟩
        cases q
        exact ⟨⟨s2.1, s2.2.elim fun _ h => h.2.2.2.2⟩, G2, bad s2.1 s2.2, E2⟩
      | inr p1 =>
        obtain ⟨B1, j1⟩ := p1
        have hB1 := r2' B1 j1 hp1
        rw [hp1, thn_r] at s2
        show (∀ e, thn (thn (pMk S j1) fun _ j => .inr (B1, j)) (fun B j => pTab S m B j) = .inl e → _) ∧ (∀ B' j', thn (thn (pMk S j1) fun _ j => .inr (B1, j)) (fun B j => pTab S m B j) = .inr (B', j') → _)
        cases hp2 : pMk S j1 with
        | inl e =>
          rw [hp2] at s2
          refine ⟨fun e' q => ?_, fun B' j' q => (by cases q)⟩
          cases q
          exact ⟨⟨s2.1, s2.2.elim fun _ h => h.2.2.2.2⟩, G2, bad s2.1 s2.2, E2⟩
        | inr p2 =>
          obtain ⟨u, j2⟩ := p2
          rw [hp2] at s2
          have hpl : pLn S B j = .inr (B1, j2) := by rw [pLn_q, hp1]; show (thn (pMk S j1) fun _ j => .inr (B1, j)) = _; rw [hp2]; rfl
          obtain ⟨k1, k2⟩ := pLn_ok hk hb hpl
          have := pLn_j hpl
          exact ih B1 j2 G2 f (by omega) (by omega) s2 (hB1.mr s3) k1 k2 (pLn_nd hd hpl) E2
/-- what is told is taken over -/
theorem m_79 : ∀ (m k f : Nat), k + m = 53 → m + 1 ≤ f → mm_run p_Md_table f 79 [.ref 618, .int (nI k)] [] (hp (gsa G 624 (cpy (G.1 624) 53 0 k))) = mm_run p_Md_table (f - m - 1) 108 [.ref 618, .int 0] [] (hp (gsa G 624 (cpy (G.1 624) 53 0 53))) := by
  intro m
  induction m with
  | zero =>
    intro k f hk hf
    obtain ⟨f, rfl⟩ : ∃ g, f = g + 1 := ⟨f - 1, by omega⟩
    rw [e_Md_table_79, if_neg (show ¬ nI k < (53 : Int32) from lm (n := 53) (by omega) (by omega)), show k = 53 by omega]
    rfl
  | succ m ih =>
    intro k f hk hf
    obtain ⟨f, rfl⟩ : ∃ g, f = g + 1 := ⟨f - 1, by omega⟩
    have := cpy_s (f := G.1 624) (a := 53) (t := 0) (j := k) (by omega)
    rw [Nat.zero_add] at this
    rw [e_Md_table_79, if_pos (show nI k < (53 : Int32) from lp (n := 53) (by omega) (by decide)), gg_Md_tables, Option.bind_some, Option.bind_some, show (53 : Int32) + nI k = nI (53 + k) from i_add 53 k, rr_Md_tables _ (by omega), Option.bind_some, uu_Md_tables _ (by omega), Option.bind_some, gsi_gsa, gsa_i, if_pos rfl, this, show nI k + 1 = nI (k + 1) from nI_add k 1, ih (k + 1) f (by omega) (by omega), show f + 1 - (m + 1) - 1 = f - m - 1 by omega]
theorem m_108 : ∀ (m k f : Nat), k + m = 146 → m + 1 ≤ f → mm_run p_Md_table f 108 [.ref 618, .int (nI k)] [] (hp (gsa G 625 (cpy (G.1 625) 146 0 k))) = mm_run p_Md_table (f - m - 1) 139 [.ref 618, .int 0] [] (hp (gsa G 625 (cpy (G.1 625) 146 0 146))) := by
  intro m
  induction m with
  | zero =>
    intro k f hk hf
    obtain ⟨f, rfl⟩ : ∃ g, f = g + 1 := ⟨f - 1, by omega⟩
    rw [e_Md_table_108, if_neg (show ¬ nI k < (146 : Int32) from lm (n := 146) (by omega) (by omega)), show k = 146 by omega]
    rfl
  | succ m ih =>
    intro k f hk hf
    obtain ⟨f, rfl⟩ : ∃ g, f = g + 1 := ⟨f - 1, by omega⟩
    have := cpy_s (f := G.1 625) (a := 146) (t := 0) (j := k) (by omega)
    rw [Nat.zero_add] at this
    rw [e_Md_table_108, if_pos (show nI k < (146 : Int32) from lp (n := 146) (by omega) (by decide)), gg_Md_wheres, Option.bind_some, Option.bind_some, show (146 : Int32) + nI k = nI (146 + k) from i_add 146 k, rr_Md_wheres _ (by omega), Option.bind_some, uu_Md_wheres _ (by omega), Option.bind_some, gsi_gsa, gsa_i, if_pos rfl, this, show nI k + 1 = nI (k + 1) from nI_add k 1, ih (k + 1) f (by omega) (by omega), show f + 1 - (m + 1) - 1 = f - m - 1 by omega]
theorem m_139 {f : Nat} (hf : 5 ≤ f) : ∃ G', mm_run p_Md_table f 139 [.ref 618, .int 0] [] (hp G) = (mm_cv (f_Md_begins [.ref 618] (hp G')) fun h5 => some (some (.int 0), h5)) ∧ G'.1 = G.1 ∧ G'.2.2 = G.2.2 ∧ (∀ n, n ≠ 626 → G'.2.1 n = G.2.1 n) ∧ ∀ k, k < 4 → G'.2.1 626 k = G.2.1 626 (4 + k) := by
  obtain ⟨f, rfl⟩ : ∃ g, f = g + 5 := ⟨f - 5, by omega⟩
  have st : ∀ (H : GG) (k g : Nat), k < 4 → mm_run p_Md_table (g + 1) 139 [.ref 618, .int (nI k)] [] (hp H) = mm_run p_Md_table g 139 [.ref 618, .int (nI (k + 1))] [] (hp (gsl H 626 k (H.2.1 626 (4 + k)))) := fun H k g hk => by
    rw [e_Md_table_139, if_pos (show nI k < (4 : Int32) from lp (n := 4) hk (by decide)), gg_Md_names, Option.bind_some, Option.bind_some, show (4 : Int32) + nI k = nI (4 + k) from i_add 4 k, rr_Md_names _ (by omega), Option.bind_some, uu_Md_names _ (by omega), Option.bind_some, show nI k + 1 = nI (k + 1) from nI_add k 1]
  rw [show mm_run p_Md_table (f + 5) 139 [.ref 618, .int 0] [] (hp G) = _ from st G 0 (f + 4) (by decide), st _ 1 (f + 3) (by decide), st _ 2 (f + 2) (by decide), st _ 3 (f + 1) (by decide), e_Md_table_139, if_neg (show ¬ nI (3 + 1) < (4 : Int32) by decide)]
  refine ⟨_, rfl, rfl, rfl, fun n hn => ?_, fun k hk => ?_⟩
  · rw [gsl_l, if_neg hn, gsl_l, if_neg hn, gsl_l, if_neg hn, gsl_l, if_neg hn]
  · have : k = 0 ∨ k = 1 ∨ k = 2 ∨ k = 3 := by omega
    rcases this with e | e | e | e
    · subst e
      rw [gsl_ne _ _ (by decide), gsl_ne _ _ (by decide), gsl_ne _ _ (by decide), gsl_at]
    · subst e
      rw [gsl_ne _ _ (by decide), gsl_ne _ _ (by decide), gsl_at, gsl_ne _ _ (by decide)]
    · subst e
      rw [gsl_ne _ _ (by decide), gsl_at, gsl_ne _ _ (by decide), gsl_ne _ _ (by decide)]
    · subst e
      rw [gsl_at, gsl_ne _ _ (by decide), gsl_ne _ _ (by decide), gsl_ne _ _ (by decide)]
end MTA
