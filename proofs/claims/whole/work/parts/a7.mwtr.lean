/-! THE REFERENCE: a cursor, what would be -/
theorem fold_more {σ : Type} {g : σ → Nat → σ} {m : Nat} (h : ∀ a r, m ≤ r → g a r = a) : ∀ (k : Nat) (a : σ), (List.range (m + k)).foldl g a = (List.range m).foldl g a
  | 0, _ => rfl
  | k + 1, a => by rw [← Nat.add_assoc, List.range_succ, List.foldl_append, fold_more h k]; exact h _ _ (Nat.le_add_right _ _)
def ahS (y : Int32) : List Nat → Nat → Int32
  | [], _ => -1
  | r :: t, k => if nI r = y then nI k else ahS y t (k + 1)
theorem ahS_spec (y : Int32) : ∀ (l : List Nat) (k : Nat), (ahS y l k = -1 ∧ ∀ r ∈ l, nI r ≠ y) ∨ ∃ n r, l[n]? = some r ∧ nI r = y ∧ ahS y l k = nI (k + n)
  | [], k => Or.inl ⟨rfl, fun r hr => absurd hr (by simp)⟩
  | r :: t, k => by
    unfold ahS
    by_cases e : nI r = y
    · rw [if_pos e]
      exact Or.inr ⟨0, r, rfl, e, rfl⟩
    · rw [if_neg e]
      rcases ahS_spec y t (k + 1) with ⟨h1, h2⟩ | ⟨n, q, h1, h2, h3⟩
      · exact Or.inl ⟨h1, fun x hx => by
          rcases List.mem_cons.mp hx with hx | hx
          · rw [hx]; exact e
          · exact h2 x hx⟩
      · exact Or.inr ⟨n + 1, q, by simpa using h1, h2, by rw [h3]; congr 1; omega⟩
theorem lefts_iff {page : Nat} {L : LL} (w : Nat) (d : Int32) (hk : okL page L) (r : Nat) : r ∈ leftsW w d L ↔ r < 30 ∧ bt (rb L &&& d) r = true := by
  have key : ∀ r, r < 32 → (bt (rb L &&& d) r = true ↔ ∃ c ∈ L.flatten, bt d (c % 32) = true ∧ c % 32 = r) := fun r hr => by
    rw [b_and, bt_rb _ hr, Bool.and_eq_true, decide_eq_true_eq, List.mem_map]
    constructor
    · rintro ⟨⟨c, h1, h2⟩, h3⟩
      exact ⟨c, h1, by rw [h2]; exact h3, h2⟩
    · rintro ⟨c, h1, h2, h3⟩
      exact ⟨⟨c, h1, h3⟩, by rw [← h3]; exact h2⟩
  unfold leftsW
  split
  · unfold leftsP
    rw [List.mem_map]
    constructor
    · rintro ⟨c, hc, e⟩
      obtain ⟨h1, h2⟩ := List.mem_filter.mp hc
      have h30 := (hk.2.2.2.1 c h1).2
      exact ⟨by omega, (key r (by omega)).mpr ⟨c, h1, h2, e⟩⟩
    · rintro ⟨h1, h2⟩
      obtain ⟨c, q1, q2, q3⟩ := (key r (by omega)).mp h2
      exact ⟨c, List.mem_filter.mpr ⟨q1, q2⟩, q3⟩
  · unfold leftsR
    rw [List.mem_filter, List.mem_range]
theorem riseO_same (P : PP) (A : AS) : aC (riseO P A).2 = aC A ∧ aL (riseO P A).2 = aL A ∧ (∀ J, aJ A = some J → ∃ J', aJ (riseO P A).2 = some J' ∧ jDn J' = false ∧ jAt J' = jAt J ∧ jWy J' = jWy J) := by
  unfold riseO
  cases hJ : aJ A with
  | none => exact ⟨rfl, rfl, fun J h => by cases h⟩
  | some J =>
    dsimp only
    cases hd : jDn J
    · rw [if_neg (by decide)]
      exact ⟨rfl, rfl, fun J' h => ⟨J, hJ, hd, by rw [Option.some.inj h], by rw [Option.some.inj h]⟩⟩
    · rw [if_pos rfl]
      unfold riseA
      split
      · exact ⟨rfl, rfl, fun J' h => ⟨jDown J false, rfl, rfl, by rw [← Option.some.inj h]; rfl, by rw [← Option.some.inj h]; rfl⟩⟩
      · exact ⟨rfl, rfl, fun J' h => ⟨jDown J false, rfl, rfl, by rw [← Option.some.inj h]; rfl, by rw [← Option.some.inj h]; rfl⟩⟩
theorem riseO_way (P : PP) (A : AS) (i : Nat) : wayX P (riseO P A).2 i = wayX P A i := by
  obtain ⟨h1, h2, h3⟩ := riseO_same P A
  cases hJ : aJ A with
  | none =>
    have : (riseO P A).2 = A := by unfold riseO; rw [hJ]
    rw [this]
  | some J =>
    obtain ⟨J', q1, -, q3, q4⟩ := h3 J hJ
    have d1 : doomA P A = aC A := by unfold doomA; rw [hJ]
    have d2 : doomA P (riseO P A).2 = aC A := by unfold doomA; rw [q1]; exact h1
    unfold wayX
    rw [q1, hJ]
    dsimp only
    rw [q3, q4, d1, d2, h2]
theorem fall_some {P : PP} {A : AS} (h : (aJ A).isNone = false) : (aJ (fallO P A).2).isNone = false := by
  unfold fallO
  cases hJ : aJ A with
  | none => rw [hJ] at h; cases h
  | some J =>
    dsimp only
    split
    · rw [hJ]; rfl
    · rfl
theorem rise_some {P : PP} {A : AS} (h : (aJ A).isNone = false) : (aJ (riseO P A).2).isNone = false := by
  cases hJ : aJ A with
  | none => rw [hJ] at h; cases h
  | some J =>
    obtain ⟨J', q1, -⟩ := (riseO_same P A).2.2 J hJ
    rw [q1]; rfl
section MWT
variable {Z G G' : GG} {b i page : Nat} {P : PP} {T : TT} {A A' B : AS} {U : List AS} {cu : CU} {L : LL}
/-- FETCH -/
theorem r_fetch (W : MW Z G P T A U cu) (hcu : cu.1 = -1 ∨ isIx P cu.1 = true) : ∃ G', f_Md_fetch [.ref 618] (hp G) = some (some (.int (fetW P A cu).1), hp G') ∧ MW Z G' P T A U (fetW P A cu).2 := by
  have hn := W.inv.ni
  have W1 := W.th 0
  rw [e_Md_fetch 618 _ (ob_Md G), ww_Md_thrown, Option.bind_some]
  generalize gsi G 618 0 0 = G1 at W1 ⊢
  have H := W1.ms
  have h := W1.inv
  have hr30 := h.kr.1
  obtain ⟨c17, c18, c19⟩ := W1.2.2.2.1
  rw [gg_Md_cursor, Option.bind_some, c17]
  unfold fetW
  -- none is left
  have none30 : ∀ (v2 : Int32) (f : Nat), mm_run p_Md_fetch (f + 1) 35 [.ref 618, .int (-1), .int v2, .int (nI 30)] [] (hp G1) = some (some (.int (-1)), hp G1) := fun v2 f => by
    rw [e_Md_fetch_35, if_neg (show ¬ nI 30 < (30 : Int32) by decide), if_pos (show (-1 : Int32) < 0 by decide), gg_Md_cursorLast, Option.bind_some, ww_Md_cursorLast, Option.bind_some, gsi_self, if_pos (show (-1 : Int32) < 0 by decide)]
  rcases hcu with hc | hc
  · have hix : isIx P cu.1 = false := by rw [hc]; rfl
    rw [hc, if_pos (by decide), show isIx P (-1) = false from rfl, if_neg (by decide)]
    have key : ∀ (j r f : Nat), r + j = 30 → j < f → mm_run p_Md_fetch f 35 [.ref 618, .int (-1), .int 0, .int (nI r)] [] (hp G1) = some (some (.int (-1)), hp G1) := by
      intro j
      induction j with
      | zero =>
        intro r f hj hf
        obtain ⟨f, rfl⟩ : ∃ g, f = g + 1 := ⟨f - 1, by omega⟩
        rw [show r = 30 by omega]
        exact none30 0 f
      | succ j ih =>
        intro r f hj hf
        obtain ⟨f, rfl⟩ : ∃ g, f = g + 1 := ⟨f - 1, by omega⟩
        rw [e_Md_fetch_35, if_pos (show nI r < (30 : Int32) from lp (n := 30) (by omega) (by decide)), s_Md_has _ (by omega), ci_some, b_0, if_pos (by decide), show nI r + 1 = nI (r + 1) from nI_add r 1]
        exact ih (r + 1) f (by omega) (by omega)
    exact ⟨G1, key 30 0 mm_fu rfl (fu_lt (by omega)), W1⟩
  · obtain ⟨i, hi, hci⟩ := (isIx_iff hn cu.1).mp hc
    have hkd := (h.pp.2.2.1 i hi).1
    have hco := (h.pp.2.2.1 i hi).2
    rw [hci] at c17
    rw [hci, if_neg (n_nneg (by omega)), show f_Md_visible [.ref 618, .int 0] (hp G1) = _ from m_visible H, ci_some, gg_Md_cursor, Option.bind_some, c17, m_belongSet H h hi, ci_some, vis_bel h, if_pos (by rw [← hci]; exact hc), nI_tn (by omega)]
    have key : ∀ (j r f : Nat) (a : Int32), r + j = 30 → 2 * j < f → (a = -1 ∨ ∃ n, n < 32000 ∧ a = nI n) → ∃ f' a', 0 < f' ∧ a' = ((List.range 30).drop r).foldl (fetF P A cu i) a ∧ (a' = -1 ∨ ∃ n, n < 32000 ∧ a' = nI n) ∧ mm_run p_Md_fetch f 35 [.ref 618, .int a, .int (readA P A i), .int (nI r)] [] (hp G1) = mm_run p_Md_fetch f' 35 [.ref 618, .int a', .int (readA P A i), .int (nI 30)] [] (hp G1) := by
      intro j
      induction j with
      | zero =>
        intro r f a hj hf ha
        refine ⟨f, a, by omega, ?_, ha, by rw [show r = 30 by omega]⟩
        rw [show r = 30 by omega]
        rfl
      | succ j ih =>
        intro r f a hj hf ha
        obtain ⟨f, rfl⟩ : ∃ g, f = g + 1 := ⟨f - 1, by omega⟩
        have hd : (List.range 30).drop r = r :: (List.range 30).drop (r + 1) := by
          rw [List.drop_eq_getElem_cons (by simp; omega), List.getElem_range]
        rw [hd, List.foldl_cons]
        have go : ∀ (f2 : Nat) (a2 : Int32), 2 * j < f2 → (a2 = -1 ∨ ∃ n, n < 32000 ∧ a2 = nI n) → fetF P A cu i a r = a2 → mm_run p_Md_fetch (f + 1) 35 [.ref 618, .int a, .int (readA P A i), .int (nI r)] [] (hp G1) = mm_run p_Md_fetch f2 35 [.ref 618, .int a2, .int (readA P A i), .int (nI (r + 1))] [] (hp G1) → ∃ f' a', 0 < f' ∧ a' = ((List.range 30).drop (r + 1)).foldl (fetF P A cu i) (fetF P A cu i a r) ∧ (a' = -1 ∨ ∃ n, n < 32000 ∧ a' = nI n) ∧ mm_run p_Md_fetch (f + 1) 35 [.ref 618, .int a, .int (readA P A i), .int (nI r)] [] (hp G1) = mm_run p_Md_fetch f' 35 [.ref 618, .int a', .int (readA P A i), .int (nI 30)] [] (hp G1) := by
          intro f2 a2 hf2 ha2 e1 e2
          obtain ⟨f', a', q1, q2, q3, q4⟩ := ih (r + 1) f2 a2 (by omega) hf2 ha2
          exact ⟨f', a', q1, by rw [e1]; exact q2, q3, by rw [e2]; exact q4⟩
        have e35 := e_Md_fetch_35 f 618 a (readA P A i) (nI r) (hp G1)
        rw [if_pos (show nI r < (30 : Int32) from lp (n := 30) (by omega) (by decide)), s_Md_has _ (by omega), ci_some, show nI r + 1 = nI (r + 1) from nI_add r 1] at e35
        cases hb : bt (readA P A i) r
        · rw [hb, if_pos (by decide)] at e35
          refine go f a (by omega) ha ?_ e35
          unfold fetF
          rw [hb]; rfl
        · have hm : r < aM A := by
            rw [bt_read h (by omega)] at hb
            simp only [Bool.and_eq_true, decide_eq_true_eq] at hb
            exact hb.1
          have hcod := codA_lt h hi hm
          rw [hb, if_neg (by decide), gg_Md_cursor, Option.bind_some, c17, m_columnAt H.hP hn hi, ci_some, show f_Md_valueOf [.ref 618, .int 0, .int (nI r), .int (nI (pCo P i))] (hp G1) = _ from m_valueOf H h hm hco, ci_some, gg_Md_cursor, Option.bind_some, c17, m_entryNow H h hi hm, ci_some, gg_Md_cursor, Option.bind_some, c17, m_kindOf H.hP hn hi, ci_some, gg_Md_cursorKey, Option.bind_some, Option.bind_some, c18] at e35
          -- not ahead of the key: against the last and the least
          have e109 : ∃ f2 a2, 2 * j < f2 ∧ (a2 = -1 ∨ ∃ n, n < 32000 ∧ a2 = nI n) ∧ (if decide (cu.2.2 < nI (codA P A i r)) && (decide (a = -1) || decide (nI (codA P A i r) < a)) then nI (codA P A i r) else a) = a2 ∧ mm_run p_Md_fetch f 109 [.ref 618, .int a, .int (readA P A i), .int (nI r), .int (nI (codA P A i r))] [] (hp G1) = mm_run p_Md_fetch f2 35 [.ref 618, .int a2, .int (readA P A i), .int (nI (r + 1))] [] (hp G1) := by
            obtain ⟨f, rfl⟩ : ∃ g, f = g + 1 := ⟨f - 1, by omega⟩
            rw [e_Md_fetch_109, gg_Md_cursorLast, Option.bind_some, c19, show nI r + 1 = nI (r + 1) from nI_add r 1]
            by_cases h2 : cu.2.2 < nI (codA P A i r)
            · rw [if_pos h2, decide_eq_true h2, Bool.true_and]
              rcases ha with ha | ⟨n, hn2, ha⟩
              · rw [ha, if_pos (show (decide ((-1 : Int32) = -1) || decide (nI (codA P A i r) < -1)) = true from rfl), if_pos (show (-1 : Int32) < 0 by decide)]
                exact ⟨f, _, by omega, Or.inr ⟨_, hcod, rfl⟩, rfl, rfl⟩
              · rw [ha, if_neg (n_nneg (by omega)), decide_eq_false (n_m1 (show n < 2147483648 by omega)), Bool.false_or]
                by_cases h5 : nI (codA P A i r) < nI n
                · rw [if_pos h5, decide_eq_true h5, if_pos rfl]
                  exact ⟨f, _, by omega, Or.inr ⟨_, hcod, rfl⟩, rfl, rfl⟩
                · rw [if_neg h5, decide_eq_false h5, if_neg (by decide)]
                  exact ⟨f, _, by omega, Or.inr ⟨n, hn2, rfl⟩, rfl, rfl⟩
            · rw [if_neg h2, decide_eq_false h2, Bool.false_and, if_neg (by decide)]
              exact ⟨f, _, by omega, ha, rfl, rfl⟩
          have hF : ∀ (b : Bool), aheadK P A i r cu.2.1 = b → fetF P A cu i a r = if b then a else (if decide (cu.2.2 < nI (codA P A i r)) && (decide (a = -1) || decide (nI (codA P A i r) < a)) then nI (codA P A i r) else a) := fun b e => by
            unfold fetF
            rw [hb, e]
            cases b
            · cases decide (cu.2.2 < nI (codA P A i r)) <;> rfl
            · cases decide (cu.2.2 < nI (codA P A i r)) <;> rfl
          obtain ⟨f2, a2, z1, z2, z3, z4⟩ := e109
          by_cases e : pKd P i = 1
          · rw [if_pos (show nI (pKd P i) = (1 : Int32) from lq (n := 1) e)] at e35
            have hak : aheadK P A i r cu.2.1 = decide (cu.2.1 < nI (aV A r (pCo P i))) := by
              unfold aheadK dnP
              rw [e]; rfl
            by_cases q : cu.2.1 < nI (aV A r (pCo P i))
            · rw [if_pos q] at e35
              refine go f a (by omega) ha ?_ e35
              rw [hF true (by rw [hak]; exact decide_eq_true q)]; rfl
            · rw [if_neg q, z4] at e35
              refine go f2 a2 z1 z2 ?_ e35
              rw [hF false (by rw [hak]; exact decide_eq_false q)]
              exact z3
          · rw [if_neg (show ¬ nI (pKd P i) = (1 : Int32) from ln (n := 1) e (by omega) (by decide))] at e35
            have hak : aheadK P A i r cu.2.1 = decide (nI (aV A r (pCo P i)) < cu.2.1) := by
              unfold aheadK dnP
              rw [show (pKd P i == 1) = false by simpa using e]; rfl
            by_cases q : nI (aV A r (pCo P i)) < cu.2.1
            · rw [if_pos q] at e35
              refine go f a (by omega) ha ?_ e35
              rw [hF true (by rw [hak]; exact decide_eq_true q)]; rfl
            · rw [if_neg q, z4] at e35
              refine go f2 a2 z1 z2 ?_ e35
              rw [hF false (by rw [hak]; exact decide_eq_false q)]
              exact z3
    obtain ⟨f', a', q1, q2, q3, q4⟩ := key 30 0 mm_fu (-1) rfl (fu_lt (by omega)) (Or.inl rfl)
    obtain ⟨f', rfl⟩ : ∃ g, f' = g + 1 := ⟨f' - 1, by omega⟩
    have hB : a' = fetB P A cu i := by
      rw [q2, List.drop_zero]
      unfold fetB
      have := fold_more (g := fetF P A cu i) (m := aM A) (fun a r hr => by
        unfold fetF
        cases hb : bt (readA P A i) r
        · rfl
        · rw [bt_read h (bt_lt hb)] at hb
          simp only [Bool.and_eq_true, decide_eq_true_eq] at hb
          omega) (30 - aM A) (-1)
      rw [show aM A + (30 - aM A) = 30 by omega] at this
      exact this
    rw [show mm_run p_Md_fetch mm_fu 35 [.ref 618, .int (-1), .int (readA P A i), .int 0] [] (hp G1) = _ from q4, ← hB]
    rcases q3 with e | ⟨n, hn2, e⟩
    · rw [e, none30, if_pos rfl]
      exact ⟨G1, rfl, W1⟩
    · rw [e, if_neg (n_m1 (show n < 2147483648 by omega)), e_Md_fetch_35, if_neg (show ¬ nI 30 < (30 : Int32) by decide), if_neg (n_nneg (show n < 2147483648 by omega)), ww_Md_cursorLast, Option.bind_some, if_neg (n_nneg (show n < 2147483648 by omega)), show mm_rem (nI n) (32 : Int32) = nI (n % 32) from n_rem (b := 32) (by omega) (by decide) (by decide), nI_tn (by omega)]
      refine ⟨_, rfl, W1.num (g := upd (G1.1 618) 19 (nI n)) (by rw [upd_ne _ _ (by decide)]; exact W1.2.1.2.1) (upd_ne _ _ (by decide)) ⟨[], by simp⟩ ?_ (fun k hk => upd_ne _ _ (by omega))⟩
      rw [upd_ne _ _ (by decide), upd_ne _ _ (by decide), upd_at]
      exact ⟨c17, c18, rfl⟩
/-- what would be is foretold aside -/
theorem m_fore (W : MW Z G P T A U cu) : ∃ G', f_Md_foretells [.ref 618] (hp G) = some (none, hp G') ∧ MW Z G' P T A U cu ∧ MS G' 8738 P (riseO P A).2 := by
  have hF : mdE (mB 8738) G (gsa G 628 (cpy (G.1 628) 0 8738 514)) := mdE_cpy
  have W1 := W.off (Nat.le_refl _) hF
  have H1 : MS (gsa G 628 (cpy (G.1 628) 0 8738 514)) 8738 P A := W.ms.copy W.inv.os (by decide) (W.ms.hP.fre hF) (fun k hk => by rw [gsa_i, if_pos rfl]; exact cpy_at hk)
  obtain ⟨G2, r1, r2, r3⟩ := m_resumed H1 W.inv
  refine ⟨G2, ?_, W1.off (Nat.le_refl _) r3.e, r2⟩
  rw [e_Md_foretells 618 _ (ob_Md G), show (0 : Int32) = nI 0 from rfl, show (8738 : Int32) = nI 8738 from rfl, show (514 : Int32) = nI 514 from rfl, m_copies (by decide) (by decide) (by decide) (by decide), cv_some, r1, ci_some]
theorem MS.on (H : MS G b P A) : G.1 628 (b + 5) = if (aJ A).isNone then 0 else 1 := by
  have hj := H.j
  cases hJ : aJ A with
  | none => rw [hJ] at hj; exact hj.1
  | some J => rw [hJ] at hj; exact hj.1.1
theorem m_allLeaves (H : MS G b P A) (h : okS P A) : f_Md_allLeaves [.ref 618, .int (nI b)] (hp G) = some (some (.int (nI ((List.range (pNi P)).foldl (fun a i => a + (aL A i).length) 0))), hp G) := by
  have hn := h.ni
  rw [e_Md_allLeaves 618 _ _ (ob_Md G)]
  have := fold_loop (n := pNi P) (g := fun a i => a + (aL A i).length) (R := fun f i a => mm_run p_Md_allLeaves f 4 [.ref 618, .int (nI b), .int (nI a), .int (nI i)] [] (hp G)) (fin := fun a => some (some (Value.int (nI a)), hp G)) (fun _ _ => True) (fun f i a hi _ => by
    refine ⟨?_, trivial⟩
    show mm_run p_Md_allLeaves (f + 1) 4 _ [] (hp G) = mm_run _ _ _ _ _ _
    rw [e_Md_allLeaves_4, m_indexes H.hP, ci_some, if_pos (lp hi (by omega)), H.lvs h hi, ci_some, i_add, show nI i + 1 = nI (i + 1) from nI_add i 1]) (fun f a _ => by
    show mm_run p_Md_allLeaves (f + 1) 4 _ [] (hp G) = _
    rw [e_Md_allLeaves_4, m_indexes H.hP, ci_some, if_neg (lm (Nat.le_refl _) (by omega))]) trivial (a := 0) (f := mm_fu) (fu_lt (by omega))
  exact this.1
theorem in_3 {w : Int32} (h0 : ¬ w < 0) (h3 : ¬ 3 < w) : w = 0 ∨ w = 1 ∨ w = 2 ∨ w = 3 := by
  obtain ⟨n, hn, rfl⟩ := (n_cases w).resolve_left h0
  have q : ¬ 3 < n := fun q => h3 (show (3 : Int32) < nI n from lp (a := 3) q hn)
  have : n = 0 ∨ n = 1 ∨ n = 2 ∨ n = 3 := by omega
  rcases this with e | e | e | e <;> subst e
  · exact Or.inl rfl
  · exact Or.inr (Or.inl rfl)
  · exact Or.inr (Or.inr (Or.inl rfl))
  · exact Or.inr (Or.inr (Or.inr rfl))
/-- AFTER -/
theorem r_after (W : MW Z G P T A U cu) (x w : Int32) : ∃ G', f_Md_after [.ref 618, .int x, .int w] (hp G) = some (some (.int (aftW P A x w)), hp G') ∧ MW Z G' P T A U cu := by
  have W1 := W.th 0
  rw [e_Md_after 618 _ _ _ (ob_Md G), ww_Md_thrown, Option.bind_some]
  generalize gsi G 618 0 0 = G1 at W1 ⊢
  rw [s_withX, ci_some]
  unfold aftW
  by_cases hx : x < 0 ∨ 150 < x
  · rw [wi_no hx, if_pos (show b2 false = 0 from rfl), if_pos (Or.inl hx)]
    exact ⟨G1, rfl, W1⟩
  rw [wi_yes (fun q => hx (Or.inl q)) (fun q => hx (Or.inr q)), if_neg (by decide), s_withX, ci_some]
  by_cases hw : w < 0 ∨ 3 < w
  · rw [wi_no hw, if_pos (show b2 false = 0 from rfl), if_pos (Or.inr hw)]
    exact ⟨G1, rfl, W1⟩
  have w0 : ¬ w < 0 := fun q => hw (Or.inl q)
  have w3 : ¬ 3 < w := fun q => hw (Or.inr q)
  rw [wi_yes w0 w3, if_neg (by decide), if_neg (show ¬ ((x < 0 ∨ 150 < x) ∨ w < 0 ∨ 3 < w) from fun q => q.elim hx hw)]
  obtain ⟨n, hn, rfl⟩ := (n_cases x).resolve_left (fun q => hx (Or.inl q))
  have hn150 : n ≤ 150 := by
    by_cases e : n ≤ 150
    · exact e
    · exact absurd (Or.inr (show (150 : Int32) < nI n from lp (a := 150) (by omega) hn)) hx
  obtain ⟨G2, r1, W2, H2⟩ := m_fore W1
  obtain ⟨G3, s1, s2, s3⟩ := m_goes (show n ≤ 200 by omega) H2 (riseO_inv W1.inv)
  have W3 := W2.off (Nat.le_refl _) s3.e
  have hi3 := goS_inv n (riseO_inv W1.inv)
  rw [r1, cv_some, show f_Md_goes [.ref 618, .int 8738, .int (nI n)] (hp G2) = _ from s1, ci_some, gg_Md_state, Option.bind_some, rd_c G3 8743 (by decide), Option.bind_some, show G3.1 628 8743 = _ from s2.on, nI_tn (by omega)]
  refine ⟨G3, ?_, W3⟩
  generalize (goS P n (riseO P A).2).2 = B at s2 hi3 ⊢
  have hj := s2.j
  have hall : f_Md_allLeaves [.ref 618, .int 8738] (hp G3) = _ := m_allLeaves s2 hi3.os
  have h8741 : G3.1 628 8741 = aX B := s2.x
  unfold aftV
  cases hJ : aJ B with
  | none =>
    rw [show (if (none : Option JB).isNone = true then (0 : Int32) else 1) = 0 from rfl, if_neg (by decide)]
    rcases in_3 w0 w3 with e | e | e | e <;> subst e
    · rw [if_pos rfl, if_pos rfl]
      unfold atV
      rw [hJ]
    · rw [if_neg (show ¬ (1 : Int32) = 0 by decide), if_neg (show ¬ (1 : Int32) = 0 by decide), if_pos rfl, if_pos rfl, Option.bind_some, rd_c G3 8741 (by decide), Option.bind_some, h8741]
    · rw [if_neg (show ¬ (2 : Int32) = 0 by decide), if_neg (show ¬ (2 : Int32) = 0 by decide), if_neg (show ¬ (2 : Int32) = 1 by decide), if_neg (show ¬ (2 : Int32) = 1 by decide), if_pos rfl, if_pos rfl, hall, ci_some]
    · rfl
  | some J =>
    rw [hJ] at hj
    rw [show (if (some J).isNone = true then (0 : Int32) else 1) = 1 from rfl, if_pos rfl]
    rcases in_3 w0 w3 with e | e | e | e <;> subst e
    · rw [if_pos rfl, if_pos rfl, Option.bind_some, rd_c G3 8744 (by decide), Option.bind_some, show G3.1 628 8744 = nI (jAt J) from hj.1.2.1]
      unfold atV
      rw [hJ]
    · rw [if_neg (show ¬ (1 : Int32) = 0 by decide), if_neg (show ¬ (1 : Int32) = 0 by decide), if_pos rfl, if_pos rfl, Option.bind_some, rd_c G3 8741 (by decide), Option.bind_some, h8741]
    · rw [if_neg (show ¬ (2 : Int32) = 0 by decide), if_neg (show ¬ (2 : Int32) = 0 by decide), if_neg (show ¬ (2 : Int32) = 1 by decide), if_neg (show ¬ (2 : Int32) = 1 by decide), if_pos rfl, if_pos rfl, hall, ci_some]
    · rw [if_neg (show ¬ (3 : Int32) = 0 by decide), if_neg (show ¬ (3 : Int32) = 1 by decide), if_neg (show ¬ (3 : Int32) = 2 by decide), Option.bind_some, rd_c G3 8748 (by decide), Option.bind_some, show G3.1 628 8748 = nI (jRe J).length from hj.1.2.2.2.2.2.1]
      rfl
/-- DURING -/
theorem r_during (W : MW Z G P T A U cu) (x a b c w : Int32) : ∃ G', f_Md_during [.ref 618, .int x, .int a, .int b, .int c, .int w] (hp G) = some (some (.int (durW P A x a b c w)), hp G') ∧ MW Z G' P T A U cu := by
  have W1 := W.th 0
  rw [e_Md_during 618 _ _ _ _ _ _ (ob_Md G), ww_Md_thrown, Option.bind_some]
  generalize gsi G 618 0 0 = G1 at W1 ⊢
  rw [s_withX, ci_some]
  unfold durW
  by_cases hx : x < 0 ∨ 150 < x
  · rw [wi_no hx, if_pos (show b2 false = 0 from rfl), if_pos (Or.inl hx)]
    exact ⟨G1, rfl, W1⟩
  rw [wi_yes (fun q => hx (Or.inl q)) (fun q => hx (Or.inr q)), if_neg (by decide), s_Md_isValue, ci_some]
  cases ha : isVal a
  · rw [if_pos (show b2 false = 0 from rfl), if_pos (show (x < 0 ∨ 150 < x) ∨ (w < 0 ∨ 2 < w) ∨ (false && (isVal b && isVal c)) = false from Or.inr (Or.inr rfl))]
    exact ⟨G1, rfl, W1⟩
  rw [if_neg (by decide), s_Md_isValue, ci_some]
  cases hb : isVal b
  · rw [if_pos (show b2 false = 0 from rfl), if_pos (show (x < 0 ∨ 150 < x) ∨ (w < 0 ∨ 2 < w) ∨ (true && (false && isVal c)) = false from Or.inr (Or.inr rfl))]
    exact ⟨G1, rfl, W1⟩
  rw [if_neg (by decide), s_Md_isValue, ci_some]
  cases hc : isVal c
  · rw [if_pos (show b2 false = 0 from rfl), if_pos (show (x < 0 ∨ 150 < x) ∨ (w < 0 ∨ 2 < w) ∨ (true && (true && false)) = false from Or.inr (Or.inr rfl))]
    exact ⟨G1, rfl, W1⟩
  rw [if_neg (by decide), s_withX, ci_some]
  by_cases hw : w < 0 ∨ 2 < w
  · rw [wi_no hw, if_pos (show b2 false = 0 from rfl), if_pos (Or.inr (Or.inl hw))]
    exact ⟨G1, rfl, W1⟩
  have w0 : ¬ w < 0 := fun q => hw (Or.inl q)
  have w2 : ¬ 2 < w := fun q => hw (Or.inr q)
  rw [wi_yes w0 w2, if_neg (by decide), if_neg (show ¬ ((x < 0 ∨ 150 < x) ∨ (w < 0 ∨ 2 < w) ∨ (true && (true && true)) = false) from fun q => q.elim hx (fun q => q.elim hw (fun q => by cases q)))]
  obtain ⟨n, hn, rfl⟩ := (n_cases x).resolve_left (fun q => hx (Or.inl q))
  have hn150 : n ≤ 150 := by
    by_cases e : n ≤ 150
    · exact e
    · exact absurd (Or.inr (show (150 : Int32) < nI n from lp (a := 150) (by omega) hn)) hx
  obtain ⟨ka, hka, rfl⟩ := (isVal_iff a).mp ha
  obtain ⟨kb, hkb, rfl⟩ := (isVal_iff b).mp hb
  obtain ⟨kc, hkc, rfl⟩ := (isVal_iff c).mp hc
  obtain ⟨G2, r1, W2, H2⟩ := m_fore W1
  obtain ⟨G3, s1, s2, s3⟩ := m_goes (show n ≤ 200 by omega) H2 (riseO_inv W1.inv)
  have W3 := W2.off (Nat.le_refl _) s3.e
  have hi3 := goS_inv n (riseO_inv W1.inv)
  rw [r1, cv_some, show f_Md_goes [.ref 618, .int 8738, .int (nI n)] (hp G2) = _ from s1, ci_some, nI_tn (by omega), nI_tn (by omega), nI_tn (by omega), nI_tn (by omega)]
  generalize (goS P n (riseO P A).2).2 = B at s2 hi3 ⊢
  obtain ⟨G4, t1, t2, t3⟩ := m_inserted s2 hi3 hka hkb hkc
  have W4 := W3.off (Nat.le_refl _) t3.e
  have hi4 := admO_inv hi3 hka hkb hkc
  obtain ⟨G5, u1, u2, u3⟩ := m_goes (show 150 ≤ 200 by omega) t2 hi4
  have W5 := W4.off (Nat.le_refl _) u3.e
  have hi5 := goS_inv 150 hi4
  rw [show f_Md_inserted [.ref 618, .int 8738, .int (nI ka), .int (nI kb), .int (nI kc)] (hp G3) = _ from t1, ci_some, show f_Md_goes [.ref 618, .int 8738, .int 150] (hp G4) = _ from u1, ci_some]
  have hrem := remS_le hi4
  have e150 := goS_rem 121 hi4 hrem 150 200 (by decide) (by decide)
  rw [e150] at u2 hi5
  refine ⟨G5, ?_, W5⟩
  rcases in_2 w0 w2 with e | e | e <;> subst e
  · rw [if_pos rfl, if_pos rfl]
  · rw [if_neg (show ¬ (1 : Int32) = 0 by decide), if_neg (show ¬ (1 : Int32) = 0 by decide), if_pos rfl, gg_Md_state, Option.bind_some, rd_c G5 8741 (by decide), Option.bind_some, show G5.1 628 8741 = _ from u2.x]
    rfl
  · rw [if_neg (show ¬ (2 : Int32) = 0 by decide), if_neg (show ¬ (2 : Int32) = 0 by decide), if_neg (show ¬ (2 : Int32) = 1 by decide), show f_Md_allLeaves [.ref 618, .int 8738] (hp G5) = _ from m_allLeaves u2 hi5.os, ci_some]
    rfl
/-- CRASHES -/
theorem MS.set16 (H : MS G b P A) (k : Nat) : MS (gsi G 618 16 (nI k)) b (setB P k) A := by
  obtain ⟨⟨hb, ⟨p1, p2, p3⟩, p4, p5, p6⟩, h⟩ := H
  have e : ∀ n, n ≠ 618 → (gsi G 618 16 (nI k)).1 n = G.1 n := fun n hn => by rw [gsi_i, if_neg hn]
  refine ⟨⟨hb, ⟨by rw [e 624 (by decide)]; exact p1, by rw [e 624 (by decide)]; exact p2, by rw [gsi_i, if_pos rfl, upd_at]; rfl⟩, fun i hi => by rw [e 624 (by decide)]; exact p4 i hi, p5.off (e 625 (by decide)), p6.off (e 625 (by decide))⟩, ?_⟩
  rw [e 628 (by decide)]
  exact h
theorem mdE.g16 {S : Nat → Prop} (h : mdE S G G') (v : Int32) : mdE S (gsi G 618 16 v) (gsi G' 618 16 v) := by
  obtain ⟨h1, h2, h3, h4⟩ := h
  refine ⟨fun n a1 a2 a3 a4 => by rw [gsi_i, if_neg a2, gsi_i, if_neg a2]; exact h1 n a1 a2 a3 a4, h2, fun k a1 a2 => ?_, fun k hk => by rw [gsi_i, if_neg (by decide), gsi_i, if_neg (by decide)]; exact h4 k hk⟩
  rw [gsi_i, if_pos rfl, gsi_i, if_pos rfl]
  by_cases e : k = 16
  · rw [e, upd_at, upd_at]
  · rw [upd_ne _ _ e, upd_ne _ _ e]; exact h3 k a1 a2
theorem r_crashes (W : MW Z G P T A U cu) (x y : Int32) : ∃ G', f_Md_crashes [.ref 618, .int x, .int y] (hp G) = some (some (.int (craW P A x y)), hp G') ∧ MW Z G' P T A U cu := by
  have W1 := W.th 0
  rw [e_Md_crashes 618 _ _ _ (ob_Md G), ww_Md_thrown, Option.bind_some]
  generalize gsi G 618 0 0 = G1 at W1 ⊢
  rw [s_withX, ci_some]
  unfold craW
  by_cases hx : x < 1 ∨ 50 < x
  · rw [wi_no hx, if_pos (show b2 false = 0 from rfl), if_pos (Or.inr (Or.inl hx))]
    exact ⟨G1, rfl, W1⟩
  rw [wi_yes (fun q => hx (Or.inl q)) (fun q => hx (Or.inr q)), if_neg (by decide), s_withX, ci_some]
  by_cases hy : y < 1 ∨ 8 < y
  · rw [wi_no hy, if_pos (show b2 false = 0 from rfl), if_pos (Or.inr (Or.inr hy))]
    exact ⟨G1, rfl, W1⟩
  rw [wi_yes (fun q => hy (Or.inl q)) (fun q => hy (Or.inr q)), if_neg (by decide), gg_Md_state, Option.bind_some, rd_c G1 5 (by decide), Option.bind_some, show G1.1 628 5 = _ from W1.ms.on]
  rcases Bool.eq_false_or_eq_true (aJ A).isNone with hJ | hJ <;> rw [hJ]
  · rw [if_pos (show (if true = true then (0 : Int32) else 1) = 0 from rfl), if_pos (Or.inl rfl)]
    exact ⟨G1, rfl, W1⟩
  have h1 : ¬ x < 1 := fun q => hx (Or.inl q)
  have h2 : ¬ 50 < x := fun q => hx (Or.inr q)
  have h3 : ¬ y < 1 := fun q => hy (Or.inl q)
  have h4 : ¬ 8 < y := fun q => hy (Or.inr q)
  rw [if_neg (show ¬ (if false = true then (0 : Int32) else 1) = 0 by decide), if_neg (show ¬ (false = true ∨ (x < 1 ∨ 50 < x) ∨ (y < 1 ∨ 8 < y)) from fun q => q.elim (fun q => by cases q) (fun q => q.elim hx hy))]
  have h10 : ¬ x < 0 := fun e => h1 (Int32.lt_trans e (by decide))
  have h30 : ¬ y < 0 := fun e => h3 (Int32.lt_trans e (by decide))
  obtain ⟨n, hn, rfl⟩ := (n_cases x).resolve_left h10
  obtain ⟨k, hk, rfl⟩ := (n_cases y).resolve_left h30
  have hn1 : 1 ≤ n := by
    by_cases e : 1 ≤ n
    · exact e
    · exact absurd (show nI n < (1 : Int32) from lp (n := 1) (by omega) (by decide)) h1
  have hk1 : 1 ≤ k := by
    by_cases e : 1 ≤ k
    · exact e
    · exact absurd (show nI k < (1 : Int32) from lp (n := 1) (by omega) (by decide)) h3
  have hn50 : n ≤ 50 := by
    by_cases e : n ≤ 50
    · exact e
    · exact absurd (show (50 : Int32) < nI n from lp (a := 50) (by omega) hn) h2
  have hk8 : k ≤ 8 := by
    by_cases e : k ≤ 8
    · exact e
    · exact absurd (show (8 : Int32) < nI k from lp (a := 8) (by omega) hk) h4
  rw [nI_tn (by omega), nI_tn (by omega)]
  obtain ⟨G2, r1, W2, H2⟩ := m_fore W1
  have hbt : G2.1 618 16 = nI (pBt P) := W2.ms.hP.1.2.2
  rw [r1, cv_some, gg_Md_batch, Option.bind_some, hbt, ww_Md_batch, Option.bind_some]
  have W3 : MW Z (gsi (gsi G2 618 16 (nI k)) 618 16 (nI (pBt P))) P T A U cu := by
    rw [gsi_gsi, ← hbt, gsi_self]
    exact W2
  have H3 := H2.set16 k
  have hi3 : INV (setB P k) (riseO P A).2 := (riseO_inv W1.inv).setB hk1 hk8
  have hs3 : (aJ (riseO P A).2).isNone = false := rise_some hJ
  generalize gsi G2 618 16 (nI k) = G3 at W3 H3 ⊢
  generalize (riseO P A).2 = B at H3 hi3 hs3 ⊢
  -- the end
  have fin : ∀ (f m : Nat) (G4 : GG) (B : AS), MW Z (gsi G4 618 16 (nI (pBt P))) P T A U cu → MS G4 8738 (setB P k) B → (aJ B).isNone = true ∨ m = 200 → ∃ G', mm_run p_Md_crashes (f + 1) 53 [.ref 618, .int (nI n), .int (nI (pBt P)), .int (nI m)] [] (hp G4) = some (some (.int (if (aJ B).isNone then nI m else -1)), hp G') ∧ MW Z G' P T A U cu := by
    intro f m G4 B W4 H4 hc
    have hon : G4.1 628 8743 = if (aJ B).isNone then 0 else 1 := H4.on
    have hon2 : (gsi G4 618 16 (nI (pBt P))).1 628 8743 = if (aJ B).isNone then 0 else 1 := by rw [gsi_i, if_neg (by decide)]; exact hon
    refine ⟨_, ?_, W4⟩
    rw [e_Md_crashes_53, gg_Md_state, Option.bind_some, rd_c G4 8743 (by decide), Option.bind_some, hon, ww_Md_batch, Option.bind_some, gg_Md_state, Option.bind_some, rd_c _ 8743 (by decide), Option.bind_some, hon2]
    rcases Bool.eq_false_or_eq_true (aJ B).isNone with hN | hN <;> rw [hN]
    · rw [if_neg (show ¬ (if true = true then (0 : Int32) else 1) = 1 by decide), if_neg (show ¬ (if true = true then (0 : Int32) else 1) = 1 by decide), if_pos rfl]
      split <;> rfl
    · rw [hN] at hc
      have hm : m = 200 := hc.resolve_left (by decide)
      rw [hm, if_neg (show ¬ nI 200 < (200 : Int32) by decide), if_pos (show (if false = true then (0 : Int32) else 1) = 1 from rfl), if_neg (show ¬ false = true by decide)]
  have key : ∀ (j m f : Nat) (G4 : GG) (B : AS), m + j = 200 → j < f → MW Z (gsi G4 618 16 (nI (pBt P))) P T A U cu → MS G4 8738 (setB P k) B → INV (setB P k) B → (aJ B).isNone = false → ∃ G', mm_run p_Md_crashes f 53 [.ref 618, .int (nI n), .int (nI (pBt P)), .int (nI m)] [] (hp G4) = some (some (.int (craR (setB P k) n j (m + 1) B)), hp G') ∧ MW Z G' P T A U cu := by
    intro j
    induction j with
    | zero =>
      intro m f G4 B hj hf W4 H4 hi4 hs4
      obtain ⟨f, rfl⟩ : ∃ g, f = g + 1 := ⟨f - 1, by omega⟩
      obtain ⟨G', q1, q2⟩ := fin f m G4 B W4 H4 (Or.inr (by omega))
      rw [hs4, if_neg (by decide)] at q1
      exact ⟨G', q1, q2⟩
    | succ j ih =>
      intro m f G4 B hj hf W4 H4 hi4 hs4
      obtain ⟨f, rfl⟩ : ∃ g, f = g + 1 := ⟨f - 1, by omega⟩
      have hon : G4.1 628 8743 = 1 := by have := H4.on; rw [hs4] at this; exact this
      obtain ⟨G5, s1, s2, s3⟩ := m_stepped H4 hi4
      have W5 := W4.off (Nat.le_refl _) (s3.e.g16 (nI (pBt P)))
      have hi5 := stA_inv hi4
      rw [e_Md_crashes_53, if_pos (show nI m < (200 : Int32) from lp (n := 200) (by omega) (by decide)), gg_Md_state, Option.bind_some, rd_c G4 8743 (by decide), Option.bind_some, hon, if_pos rfl, show f_Md_stepped [.ref 618, .int 8738] (hp G4) = _ from s1, ci_some, if_neg (show ¬ nI n = (0 : Int32) from ln (n := 0) (by omega) (by omega) (by decide)), show nI m + 1 = nI (m + 1) from nI_add m 1, n_rem (by omega) (by omega) (by omega)]
      unfold craR
      obtain ⟨f, rfl⟩ : ∃ g, f = g + 1 := ⟨f - 1, by omega⟩
      generalize (stA (setB P k) B).2 = C at s2 hi5 ⊢
      cases hN : (aJ C).isNone
      · rw [if_neg (show ¬ false = true by decide)]
        by_cases hm : (m + 1) % n = 0
        · obtain ⟨G6, u1, u2, u3⟩ := m_crashed s2 hi5
          have W6 := W5.off (Nat.le_refl _) (u3.e.g16 (nI (pBt P)))
          have hi6 := fallO_inv hi5
          obtain ⟨G7, v1, v2, v3⟩ := m_resumed u2 hi6
          have W7 := W6.off (Nat.le_refl _) (v3.e.g16 (nI (pBt P)))
          have hi7 := riseO_inv hi6
          rw [if_pos (show nI ((m + 1) % n) = (0 : Int32) from lq (n := 0) hm), if_pos hm, show f_Md_crashed [.ref 618, .int 8738] (hp G5) = _ from u1, ci_some, show f_Md_resumed [.ref 618, .int 8738] (hp G6) = _ from v1, ci_some]
          exact ih (m + 1) (f + 1) G7 _ (by omega) (by omega) W7 v2 hi7 (rise_some (fall_some hN))
        · have hlt : (m + 1) % n < n := Nat.mod_lt _ (by omega)
          rw [if_neg (show ¬ nI ((m + 1) % n) = (0 : Int32) from ln (n := 0) hm (by omega) (by decide)), if_neg hm]
          exact ih (m + 1) (f + 1) G5 _ (by omega) (by omega) W5 s2 hi5 hN
      · have hJ0 : aJ C = none := Option.isNone_iff_eq_none.mp hN
        have hf0 : (fallO (setB P k) C).2 = C := by unfold fallO; rw [hJ0]
        have hr0 : (riseO (setB P k) C).2 = C := by unfold riseO; rw [hJ0]
        rw [if_pos rfl]
        by_cases hm : (m + 1) % n = 0
        · obtain ⟨G6, u1, u2, u3⟩ := m_crashed s2 hi5
          rw [hf0] at u2
          have W6 := W5.off (Nat.le_refl _) (u3.e.g16 (nI (pBt P)))
          obtain ⟨G7, v1, v2, v3⟩ := m_resumed u2 hi5
          rw [hr0] at v2
          have W7 := W6.off (Nat.le_refl _) (v3.e.g16 (nI (pBt P)))
          rw [if_pos (show nI ((m + 1) % n) = (0 : Int32) from lq (n := 0) hm), show f_Md_crashed [.ref 618, .int 8738] (hp G5) = _ from u1, ci_some, show f_Md_resumed [.ref 618, .int 8738] (hp G6) = _ from v1, ci_some]
          obtain ⟨G', q1, q2⟩ := fin f (m + 1) G7 C W7 v2 (Or.inl hN)
          rw [hN, if_pos rfl] at q1
          exact ⟨G', q1, q2⟩
        · have hlt : (m + 1) % n < n := Nat.mod_lt _ (by omega)
          rw [if_neg (show ¬ nI ((m + 1) % n) = (0 : Int32) from ln (n := 0) hm (by omega) (by decide))]
          obtain ⟨G', q1, q2⟩ := fin f (m + 1) G5 C W5 s2 (Or.inl hN)
          rw [hN, if_pos rfl] at q1
          exact ⟨G', q1, q2⟩
  exact key 200 0 mm_fu G3 B rfl (fu_lt (by omega)) W3 H3 hi3 hs3
/-- WHEN -/
theorem m_aheadOf (H : MS G 0 P A) (h : INV P A) (hi : i < pNi P) (y : Int32) : f_Md_aheadOf [.ref 618, .int (nI i), .int y] (hp G) = some (some (.int (ahS y (leftsW (wayX P A i) (doomA P A) (aL A i)) 0)), hp G) := by
  have hkl := h.kl hi
  have h30 := hkl.2.1
  rw [e_Md_aheadOf 618 _ _ _ (ob_Md G), m_wayAt H h hi, ci_some]
  have hl : (leftsW (wayX P A i) (doomA P A) (aL A i)).length ≤ (aL A i).flatten.length := by
    rw [lefts_len _ _ hkl]
    exact List.length_filter_le _ _
  have key : ∀ (j k f : Nat), k + j = (aL A i).flatten.length → j < f → mm_run p_Md_aheadOf f 10 [.ref 618, .int (nI i), .int y, .int (nI (wayX P A i)), .int (nI k)] [] (hp G) = some (some (.int (ahS y ((leftsW (wayX P A i) (doomA P A) (aL A i)).drop k) k)), hp G) := by
    intro j
    induction j with
    | zero =>
      intro k f hj hf
      obtain ⟨f, rfl⟩ : ∃ g, f = g + 1 := ⟨f - 1, by omega⟩
      rw [e_Md_aheadOf_10, show f_Md_entries [.ref 618, .int 0, .int (nI i)] (hp G) = _ from H.ent h.os hi, ci_some, if_neg (lm (by omega) (by omega)), List.drop_of_length_le (by omega)]
      rfl
    | succ j ih =>
      intro k f hj hf
      obtain ⟨f, rfl⟩ : ∃ g, f = g + 1 := ⟨f - 1, by omega⟩
      rw [e_Md_aheadOf_10, show f_Md_entries [.ref 618, .int 0, .int (nI i)] (hp G) = _ from H.ent h.os hi, ci_some, if_pos (lp (by omega) (by omega)), show f_Md_leftAt [.ref 618, .int 0, .int (nI i), .int (nI (wayX P A i)), .int (nI k)] (hp G) = _ from m_leftAt H h hi (wayX_le P A i) (by omega), ci_some, show nI k + 1 = nI (k + 1) from nI_add k 1]
      have hih := ih (k + 1) f (by omega) (by omega)
      by_cases hk : k < (leftsW (wayX P A i) (doomA P A) (aL A i)).length
      · obtain ⟨q, hq2, e1, e2⟩ := nth_some hkl (List.getElem?_eq_getElem hk) (leftsW_mem (List.getElem_mem hk))
        rw [e2, if_neg (n_nneg (by omega)), show f_Md_rowAt [.ref 618, .int 0, .int (nI i), .int (nI q)] (hp G) = _ from H.rat h.os hi hq2, ci_some, e1, drop_cons hk]
        unfold ahS
        by_cases e : nI (leftsW (wayX P A i) (doomA P A) (aL A i))[k] = y
        · rw [if_pos e, if_pos e]
        · rw [if_neg e, if_neg e]; exact hih
      · rw [nth_none hkl (List.getElem?_eq_none (by omega)), if_pos (by decide), List.drop_of_length_le (by omega)]
        rw [List.drop_of_length_le (by omega)] at hih
        exact hih
  exact key (aL A i).flatten.length 0 mm_fu (by omega) (fu_lt (by omega))
theorem r_when (W : MW Z G P T A U cu) (x y : Int32) : ∃ G', f_Md_when [.ref 618, .int x, .int y] (hp G) = some (some (.int (whnW P A x y)), hp G') ∧ MW Z G' P T A U cu := by
  have hn := W.inv.ni
  have W1 := W.th 0
  rw [e_Md_when 618 _ _ _ (ob_Md G), ww_Md_thrown, Option.bind_some]
  generalize gsi G 618 0 0 = G1 at W1 ⊢
  refine ⟨G1, ?_, W1⟩
  have H := W1.ms
  have h := W1.inv
  obtain ⟨-, c1, -, -, -⟩ := H.c0
  rw [m_isIndex W1, ci_some]
  unfold whnW
  cases hx : isIx P x
  · rw [if_pos (by decide), Bool.false_and, Bool.and_false]; rfl
  obtain ⟨i, hi, rfl⟩ := (isIx_iff hn x).mp hx
  have hkl := h.kl hi
  rw [if_neg (by decide), gg_Md_state, Option.bind_some, rd_c G1 5 (by decide), Option.bind_some, show G1.1 628 5 = _ from H.on, nI_tn (by omega), Bool.true_and]
  cases hJ : aJ A with
  | none => rw [show (if (none : Option JB).isNone = true then (0 : Int32) else 1) = 0 from rfl, if_neg (by decide)]; rfl
  | some J =>
    have hd : doomA P A = aC A := by unfold doomA; rw [hJ]
    rw [show (if (some J).isNone = true then (0 : Int32) else 1) = 1 from rfl, if_pos rfl, m_aheadOf H h hi, ci_some, show (some J).isSome = true from rfl, Bool.true_and]
    rcases ahS_spec y (leftsW (wayX P A i) (doomA P A) (aL A i)) 0 with ⟨h1, h2⟩ | ⟨n, r, h1, h2, h3⟩
    · rw [h1, if_pos (by decide), if_neg]
      intro q
      simp only [Bool.and_eq_true, Bool.not_eq_true', decide_eq_false_iff_not, decide_eq_true_eq] at q
      obtain ⟨⟨q1, q2⟩, q3⟩ := q
      obtain ⟨r, hr, rfl⟩ := (n_cases y).resolve_left q1
      rw [nI_tn (by omega)] at q2 q3
      have hr30 := h.kr.1
      exact h2 r ((lefts_iff _ _ hkl r).mpr ⟨by omega, q3⟩) rfl
    · have hmem := (lefts_iff _ _ hkl r).mp (List.mem_of_getElem? h1)
      have hr32 : r < 32 := by omega
      have hn30 : n < (leftsW (wayX P A i) (doomA P A) (aL A i)).length := (List.getElem?_eq_some_iff.mp h1).1
      rw [lefts_len _ _ hkl, hd] at hn30
      have hcr : bt (aC A) r = true := by
        have := hmem.2
        rw [b_and, Bool.and_eq_true, hd] at this
        exact this.2
      have hrm : r < aM A := h.kr.2.2.1 r (h.kr.2.2.2 r hcr)
      have hsum : ((List.range i).map (fun k => leftN (aC A) (aL A k))).sum + leftN (aC A) (aL A i) ≤ ((List.range (pNi P)).map (fun k => leftN (aC A) (aL A k))).sum := sum_le' (f := fun k => leftN (aC A) (aL A k)) hi
      have hall := sum_le (P := P) (A := A) h.ka.2.2.1 hn
      have hall' : ((List.range (pNi P)).map (fun k => leftN (aC A) (aL A k))).sum ≤ 120 := hall
      rw [h3, Nat.zero_add, if_neg (n_nneg (show n < 2147483648 by omega)), ← h2, decide_eq_false (n_nneg (show r < 2147483648 by omega)), nI_tn (by omega), decide_eq_true hrm, if_pos (show ((!false && true) && bt (leftA P A i) r) = true from hmem.2)]
      -- counted
      have hcount : ∀ (j k f a : Nat), k + j = i → j < f → mm_run p_Md_when f 43 [.ref 618, .int (nI i), .int (nI (a + ((List.range k).map (fun k => leftN (aC A) (aL A k))).sum)), .int (nI k)] [] (hp G1) = some (some (.int (nI (a + ((List.range i).map (fun k => leftN (aC A) (aL A k))).sum + 1))), hp G1) := by
        intro j
        induction j with
        | zero =>
          intro k f a hj hf
          obtain ⟨f, rfl⟩ : ∃ g, f = g + 1 := ⟨f - 1, by omega⟩
          rw [e_Md_when_43, if_neg (lm (by omega) (by omega)), show k = i by omega]
          show some (some (Value.int (nI _ + 1)), hp G1) = _
          rw [show ∀ q, nI q + 1 = nI (q + 1) from fun q => nI_add q 1]
        | succ j ih =>
          intro k f a hj hf
          obtain ⟨f, rfl⟩ : ∃ g, f = g + 1 := ⟨f - 1, by omega⟩
          rw [e_Md_when_43, if_pos (lp (by omega) (by omega)), gg_Md_state, Option.bind_some, rd_c G1 1 (by decide), Option.bind_some, c1, show f_Md_leftMany [.ref 618, .int 0, .int (nI k), .int (aC A)] (hp G1) = _ from s_Md_leftMany H.hb (by omega) (H.tr (by omega)) (h.kl (show k < pNi P by omega)) _, ci_some, i_add, show nI k + 1 = nI (k + 1) from nI_add k 1]
          have := ih (k + 1) f a (by omega) (by omega)
          rw [List.range_succ, List.map_append, List.sum_append] at this
          simp only [List.map_cons, List.map_nil, List.sum_cons, List.sum_nil, Nat.add_zero] at this
          rw [Nat.add_assoc]
          exact this
      have hc0 := hcount i 0 mm_fu n (by omega) (fu_lt (by omega))
      rw [show n + ((List.range 0).map (fun k => leftN (aC A) (aL A k))).sum = n from rfl] at hc0
      rw [show mm_run p_Md_when mm_fu 43 [.ref 618, .int (nI i), .int (nI n), .int 0] [] (hp G1) = _ from hc0]
      obtain ⟨s1, s2, s3⟩ := riseO_same P A
      obtain ⟨J', q1, q2, -, -⟩ := s3 J hJ
      have := whn_run hi hmem.1 _ 200 1 n (riseO_inv h) q1 q2 (by rw [riseO_way, s1, s2, ← hd]; exact h1) rfl (by rw [s1, s2]; omega)
      rw [this, s1, s2, Nat.add_comm 1]
end MWT
