/-! THE REFERENCE: by hand -/
theorem s_withX (x y z : Int32) (h : mm_H) : f_Md_within [.int x, .int y, .int z] h = some (some (.int (b2 (!decide (x < y) && !decide (z < x)))), h) := by
  rw [e_Md_within]
  by_cases h1 : x < y
  · rw [if_pos h1, decide_eq_true h1]; rfl
  · rw [if_neg h1, decide_eq_false h1]
    by_cases h2 : z < x
    · rw [if_pos h2, decide_eq_true h2]; rfl
    · rw [if_neg h2, decide_eq_false h2]; rfl
theorem s_Md_isValue (x : Int32) (h : mm_H) : f_Md_isValue [.int x] h = some (some (.int (b2 (isVal x))), h) := by
  rw [e_Md_isValue, s_withX, ci_some, if_pos (b2_01 _)]
  rfl
theorem gsi_self (G : GG) (n k : Nat) : gsi G n k (G.1 n k) = G := by
  have : upd (G.1 n) k (G.1 n k) = G.1 n := funext (fun j => by
    by_cases e : j = k
    · rw [e, upd_at]
    · rw [upd_ne _ _ e])
  show gsa G n (upd (G.1 n) k (G.1 n k)) = G
  rw [this, gsa_self]
section MWH
variable {Z G G' : GG} {P : PP} {T : TT} {A A' B : AS} {U : List AS} {cu : CU}
theorem m_done (W : MW Z G P T A' U cu) (HB : MS G 9252 P A) (hB : INV P A) (v : Int32) : ∃ G', f_Md_done [.ref 618, .int v] (hp G) = some (some (.int v), hp G') ∧ MW Z G' P T A' (keepI U A v) cu := by
  rw [e_Md_done 618 _ _ (ob_Md G)]
  unfold keepI
  by_cases e : v = -1
  · rw [if_pos e, if_pos e]; exact ⟨G, rfl, W⟩
  · rw [if_neg e, if_neg e]
    obtain ⟨G1, r1, r2⟩ := m_keeps W HB hB
    rw [r1, cv_some]
    exact ⟨G1, rfl, r2⟩
theorem m_isDone (W : MW Z G P T A' U cu) (HB : MS G 9252 P A) (hB : INV P A) (b : Bool) : ∃ G', f_Md_isDone [.ref 618, .int (b2 b)] (hp G) = some (some (.int (b2 b)), hp G') ∧ MW Z G' P T A' (keepB U A b) cu := by
  rw [e_Md_isDone 618 _ _ (ob_Md G)]
  unfold keepB
  cases b
  · rw [if_pos (by decide), if_pos (by decide)]; exact ⟨G, rfl, W⟩
  · obtain ⟨G1, r1, r2⟩ := m_keeps W HB hB
    rw [if_neg (by decide), r1, cv_some, if_pos (by decide), if_pos rfl]
    exact ⟨G1, rfl, r2⟩
/-- thrown is none, what is, is laid aside -/
theorem m_first (W : MW Z G P T A U cu) {ρ : Type} (k : mm_H → Option ρ) : ∃ G', ((mm_pf 12 0 (.int 0) (hp G) 618).bind fun h1 => mm_cv (f_Md_aside [.ref 618] h1) k) = k (hp G') ∧ MW Z G' P T A U cu ∧ MS G' 9252 P A := by
  obtain ⟨G1, r1, r2, r3⟩ := m_aside (W.th 0)
  refine ⟨G1, ?_, r2, r3⟩
  rw [ww_Md_thrown, Option.bind_some, r1, cv_some]
theorem MW.aside9 (HB : MS G 9252 P B) (hB : INV P B) (hF : mdE (mB 0) G G') : MS G' 9252 P B := HB.farE hB.os hF (by omega)
theorem m_isIndex (W : MW Z G P T A U cu) (x : Int32) : f_Md_isIndex [.ref 618, .int x] (hp G) = some (some (.int (b2 (isIx P x))), hp G) := by
  have hn := W.inv.ni
  rw [e_Md_isIndex 618 _ _ (ob_Md G)]
  unfold isIx
  by_cases h : x < 0
  · rw [if_pos h, decide_eq_true h]; rfl
  · obtain ⟨i, hi, rfl⟩ := (n_cases x).resolve_left h
    rw [if_neg h, m_indexes W.ms.hP, ci_some, decide_eq_false h, nI_tn (by omega)]
    by_cases hlt : i < pNi P
    · rw [if_pos (lp hlt (by omega)), decide_eq_true hlt]; rfl
    · rw [if_neg (lm (by omega) hi), decide_eq_false hlt]; rfl
theorem r_insert (W : MW Z G P T A U cu) (x y z : Int32) : ∃ G', f_Md_insert [.ref 618, .int x, .int y, .int z] (hp G) = some (some (.int (insW P A x y z).1), hp G') ∧ MW Z G' P T (insW P A x y z).2 (keepI U A (insW P A x y z).1) cu := by
  rw [e_Md_insert 618 _ _ _ _ (ob_Md G), ww_Md_thrown, Option.bind_some]
  obtain ⟨G1, r1, W1, H9⟩ := m_aside (W.th 0)
  rw [r1, cv_some, s_Md_isValue, ci_some]
  unfold insW
  obtain ⟨G2, d1, d2⟩ := m_done W1 H9 W1.inv (-1)
  cases hx : isVal x
  · rw [if_pos (by decide), d1, ci_some]
    exact ⟨G2, rfl, d2⟩
  rw [if_neg (by decide), s_Md_isValue, ci_some]
  cases hy : isVal y
  · rw [if_pos (by decide), d1, ci_some]
    exact ⟨G2, rfl, d2⟩
  rw [if_neg (by decide), s_Md_isValue, ci_some]
  cases hz : isVal z
  · rw [if_pos (by decide), d1, ci_some]
    exact ⟨G2, rfl, d2⟩
  obtain ⟨a, ha, rfl⟩ := (isVal_iff x).mp hx
  obtain ⟨b, hb, rfl⟩ := (isVal_iff y).mp hy
  obtain ⟨c, hc, rfl⟩ := (isVal_iff z).mp hz
  obtain ⟨G3, s1, s2, s3⟩ := m_inserted W1.ms W1.inv ha hb hc
  have W3 := W1.go s3.e s2 (admO_inv W1.inv ha hb hc)
  obtain ⟨G4, t1, t2⟩ := m_done W3 (MW.aside9 H9 W1.inv s3.e) W1.inv (admO P A a b c).1
  rw [if_neg (by decide), show f_Md_inserted [.ref 618, .int 0, .int (nI a), .int (nI b), .int (nI c)] (hp G1) = _ from s1, ci_some, t1, ci_some, if_pos (show (true && (true && true)) = true from rfl), nI_tn (by omega), nI_tn (by omega), nI_tn (by omega)]
  exact ⟨G4, rfl, t2⟩
theorem m_vis_neg (H : MS G 0 P A) (h : INV P A) {x : Int32} (hx : x < 0) : f_Md_isVisible [.ref 618, .int 0, .int x] (hp G) = some (some (.int 0), hp G) := by
  rw [e_Md_isVisible 618 _ _ _ (ob_Md G), s_withX, ci_some, decide_eq_true hx]
  rfl
theorem r_remove (W : MW Z G P T A U cu) (x : Int32) : ∃ G', f_Md_remove [.ref 618, .int x] (hp G) = some (some (.int (b2 (remW P A x).1)), hp G') ∧ MW Z G' P T (remW P A x).2 (keepB U A (remW P A x).1) cu := by
  rw [e_Md_remove 618 _ _ (ob_Md G), ww_Md_thrown, Option.bind_some]
  obtain ⟨G1, r1, W1, H9⟩ := m_aside (W.th 0)
  rw [r1, cv_some]
  unfold remW
  by_cases hn : x < 0
  · obtain ⟨G2, d1, d2⟩ := m_isDone W1 H9 W1.inv false
    rw [e_Md_removed 618 _ _ _ (ob_Md G1), m_vis_neg W1.ms W1.inv hn, ci_some, if_pos rfl, ci_some, show f_Md_isDone [.ref 618, .int 0] (hp G1) = _ from d1, ci_some, if_pos (b2_01 _), if_pos hn]
    exact ⟨G2, rfl, d2⟩
  · obtain ⟨r, hr, rfl⟩ := (n_cases x).resolve_left hn
    obtain ⟨G3, s1, s2, s3⟩ := m_removed W1.ms W1.inv hr
    have W3 := W1.go s3.e s2 (expO_inv W1.inv r)
    obtain ⟨G4, t1, t2⟩ := m_isDone W3 (MW.aside9 H9 W1.inv s3.e) W1.inv (expO P A r).1
    rw [show f_Md_removed [.ref 618, .int 0, .int (nI r)] (hp G1) = _ from s1, ci_some, t1, ci_some, if_pos (b2_01 _), if_neg hn, nI_tn (by omega)]
    exact ⟨G4, rfl, t2⟩
theorem r_change (W : MW Z G P T A U cu) (x y z : Int32) : ∃ G', f_Md_change [.ref 618, .int x, .int y, .int z] (hp G) = some (some (.int (b2 (chgW P A x y z).1)), hp G') ∧ MW Z G' P T (chgW P A x y z).2 (keepB U A (chgW P A x y z).1) cu := by
  rw [e_Md_change 618 _ _ _ _ (ob_Md G), ww_Md_thrown, Option.bind_some]
  obtain ⟨G1, r1, W1, H9⟩ := m_aside (W.th 0)
  obtain ⟨G2, d1, d2⟩ := m_isDone W1 H9 W1.inv false
  have d1' : f_Md_isDone [.ref 618, .int 0] (hp G1) = some (some (.int 0), hp G2) := d1
  rw [r1, cv_some, s_withX, ci_some]
  unfold chgW
  by_cases hy : y < 0
  · rw [decide_eq_true hy, if_pos (show b2 (!true && !decide (2 < y)) = 0 from rfl), d1', ci_some, if_pos (by decide), if_neg (show ¬ (!decide (x < 0) && (!true && !decide (2 < y)) && isVal z) = true by simp)]
    exact ⟨G2, rfl, d2⟩
  rw [decide_eq_false hy]
  by_cases hy2 : (2 : Int32) < y
  · rw [decide_eq_true hy2, if_pos (by decide), d1', ci_some, if_pos (by decide), if_neg (show ¬ (!decide (x < 0) && (!false && !true) && isVal z) = true by simp)]
    exact ⟨G2, rfl, d2⟩
  rw [decide_eq_false hy2, if_neg (by decide), s_Md_isValue, ci_some]
  cases hz : isVal z
  · rw [if_pos (by decide), d1', ci_some, if_pos (by decide), if_neg (show ¬ (!decide (x < 0) && (!false && !false) && false) = true by simp)]
    exact ⟨G2, rfl, d2⟩
  rw [if_neg (by decide)]
  by_cases hn : x < 0
  · rw [e_Md_changed 618 _ _ _ _ _ (ob_Md G1), m_vis_neg W1.ms W1.inv hn, ci_some, if_pos rfl, ci_some, if_pos rfl, d1', ci_some, if_pos (by decide), decide_eq_true hn, if_neg (show ¬ (!true && (!false && !false) && true) = true by decide)]
    exact ⟨G2, rfl, d2⟩
  obtain ⟨r, hr, rfl⟩ := (n_cases x).resolve_left hn
  obtain ⟨k, hk, rfl⟩ := (n_cases y).resolve_left hy
  obtain ⟨v, hv, rfl⟩ := (isVal_iff z).mp hz
  have hk3 : k < 3 := by
    by_cases e : k < 3
    · exact e
    · exact absurd (show (2 : Int32) < nI k from lp (a := 2) (by omega) hk) hy2
  obtain ⟨G3, s1, s2, s3⟩ := m_changed W1.ms W1.inv hr hk3 hv
  have W3 := W1.go s3 s2 (amdO_inv W1.inv r hk3 hv)
  obtain ⟨G4, t1, t2⟩ := m_isDone W3 (MW.aside9 H9 W1.inv s3) W1.inv (amdO P A r k v).1
  rw [show f_Md_changed [.ref 618, .int 0, .int (nI r), .int (nI k), .int (nI v)] (hp G1) = _ from s1, ci_some, decide_eq_false hn, if_pos (show (!false && (!false && !false) && true) = true from rfl), nI_tn (by omega), nI_tn (by omega), nI_tn (by omega)]
  cases ho : (amdO P A r k v).1
  · rw [ho] at t1 t2
    rw [if_pos (by decide), show f_Md_isDone [.ref 618, .int 0] (hp G3) = _ from t1, ci_some, if_pos (b2_01 _)]
    exact ⟨G4, rfl, t2⟩
  · rw [ho] at t1 t2
    rw [if_neg (by decide), show f_Md_isDone [.ref 618, .int 1] (hp G3) = _ from t1, ci_some, if_pos (b2_01 _)]
    exact ⟨G4, rfl, t2⟩
theorem r_step (W : MW Z G P T A U cu) : ∃ G', f_Md_step [.ref 618] (hp G) = some (some (.int (stA P A).1), hp G') ∧ MW Z G' P T (stA P A).2 (keepI U A (stA P A).1) cu := by
  rw [e_Md_step 618 _ (ob_Md G), ww_Md_thrown, Option.bind_some]
  obtain ⟨G1, r1, W1, H9⟩ := m_aside (W.th 0)
  obtain ⟨G3, s1, s2, s3⟩ := m_stepped W1.ms W1.inv
  have W3 := W1.go s3.e s2 (stA_inv W1.inv)
  obtain ⟨G4, t1, t2⟩ := m_done W3 (MW.aside9 H9 W1.inv s3.e) W1.inv (stA P A).1
  rw [r1, cv_some, show f_Md_stepped [.ref 618, .int 0] (hp G1) = _ from s1, ci_some, t1, ci_some]
  exact ⟨G4, rfl, t2⟩
theorem r_stop (W : MW Z G P T A U cu) : ∃ G', f_Md_stop [.ref 618] (hp G) = some (some (.int (b2 (haltO P A).1)), hp G') ∧ MW Z G' P T (haltO P A).2 (keepB U A (haltO P A).1) cu := by
  rw [e_Md_stop 618 _ (ob_Md G), ww_Md_thrown, Option.bind_some]
  obtain ⟨G1, r1, W1, H9⟩ := m_aside (W.th 0)
  obtain ⟨G3, s1, s2, s3⟩ := m_stopped W1.ms W1.inv
  have W3 := W1.go s3.e s2 (haltO_inv W1.inv)
  obtain ⟨G4, t1, t2⟩ := m_isDone W3 (MW.aside9 H9 W1.inv s3.e) W1.inv (haltO P A).1
  rw [r1, cv_some, show f_Md_stopped [.ref 618, .int 0] (hp G1) = _ from s1, ci_some, t1, ci_some, if_pos (b2_01 _)]
  exact ⟨G4, rfl, t2⟩
theorem resO_keep (P : PP) (A : AS) (U : List AS) (h : INV P A) : keepI U A (resO P A) = keepB U A (riseO P A).1 := by
  unfold keepI keepB resO
  cases (riseO P A).1
  · rfl
  · have hb : leftHere P (riseO P A).2 < 2147483648 := by
      unfold leftHere
      cases aJ (riseO P A).2 with
      | none => exact (by decide : 0 < 2147483648)
      | some J =>
        dsimp only
        split
        · have := bc_le (rb (aL (riseO P A).2 (jAt J)) &&& aC (riseO P A).2); omega
        · omega
    rw [if_pos rfl, if_neg (n_m1 hb), if_pos rfl]
theorem r_resume (W : MW Z G P T A U cu) : ∃ G', f_Md_resume [.ref 618] (hp G) = some (some (.int (resO P A)), hp G') ∧ MW Z G' P T (riseO P A).2 (keepB U A (riseO P A).1) cu := by
  rw [e_Md_resume 618 _ (ob_Md G), ww_Md_thrown, Option.bind_some]
  obtain ⟨G1, r1, W1, H9⟩ := m_aside (W.th 0)
  obtain ⟨G3, s1, s2, s3⟩ := m_resumed W1.ms W1.inv
  have W3 := W1.go s3.e s2 (riseO_inv W1.inv)
  obtain ⟨G4, t1, t2⟩ := m_done W3 (MW.aside9 H9 W1.inv s3.e) W1.inv (resO P A)
  rw [r1, cv_some, show f_Md_resumed [.ref 618, .int 0] (hp G1) = _ from s1, ci_some, t1, ci_some]
  rw [resO_keep P A U W.inv] at t2
  exact ⟨G4, rfl, t2⟩
theorem r_pack (W : MW Z G P T A U cu) (x : Int32) : ∃ G', f_Md_pack [.ref 618, .int x] (hp G) = some (some (.int (packW P A x).1), hp G') ∧ MW Z G' P T (packW P A x).2 (keepI U A (packW P A x).1) cu := by
  have hn := W.inv.ni
  rw [e_Md_pack 618 _ _ (ob_Md G), ww_Md_thrown, Option.bind_some]
  obtain ⟨G1, r1, W1, H9⟩ := m_aside (W.th 0)
  rw [r1, cv_some, m_isIndex W1, ci_some]
  unfold packW
  cases hx : isIx P x
  · obtain ⟨G2, d1, d2⟩ := m_done W1 H9 W1.inv (-1)
    rw [if_pos (by decide), d1, ci_some]
    exact ⟨G2, rfl, d2⟩
  · obtain ⟨i, hi, rfl⟩ := (isIx_iff hn x).mp hx
    obtain ⟨G3, s1, s2, s3⟩ := m_packs W1.ms W1.inv.os hi
    have W3 := W1.go s3.e s2 (joinO_inv W1.inv hi)
    obtain ⟨G4, t1, t2⟩ := m_done W3 (MW.aside9 H9 W1.inv s3.e) W1.inv (joinO P A i).1
    rw [if_neg (by decide), show f_Md_packs [.ref 618, .int 0, .int (nI i)] (hp G1) = _ from s1, ci_some, t1, ci_some, if_pos (show true = true from rfl), nI_tn (by omega)]
    exact ⟨G4, rfl, t2⟩
theorem fallO_ge (h : INV P A) : (fallO P A).1 = -1 ∨ ∃ n, n < 2147483648 ∧ (fallO P A).1 = nI n := by
  unfold fallO
  cases hJ : aJ A with
  | none => exact Or.inl rfl
  | some J =>
    have hk := h.ka.2.2.2
    rw [hJ] at hk
    obtain ⟨-, -, -, -, k5, -⟩ := (show okJ J from hk)
    dsimp only
    split
    · exact Or.inl rfl
    · exact Or.inr ⟨_, by omega, rfl⟩
theorem r_crash (W : MW Z G P T A U cu) : ∃ G', f_Md_crash [.ref 618] (hp G) = some (some (.int (fallO P A).1), hp G') ∧ MW Z G' P T (fallO P A).2 (craU P A U) cu := by
  rw [e_Md_crash 618 _ (ob_Md G), ww_Md_thrown, Option.bind_some]
  have W1 := W.th 0
  obtain ⟨G3, s1, s2, s3⟩ := m_crashed W1.ms W1.inv
  have W3 := W1.go s3.e s2 (fallO_inv W1.inv)
  rw [show f_Md_crashed [.ref 618, .int 0] (hp (gsi G 618 0 0)) = _ from s1, ci_some]
  unfold craU
  rcases fallO_ge W.inv with e | ⟨n, hn, e⟩
  · rw [e, if_pos (by decide), gg_Md_undos, Option.bind_some, ww_Md_undos, Option.bind_some, if_pos rfl, gsi_self]
    exact ⟨G3, rfl, W3⟩
  · rw [e, if_neg (n_nneg hn), ww_Md_undos, Option.bind_some, if_neg (n_m1 hn)]
    refine ⟨_, rfl, W3.num (g := upd (G3.1 618) 15 0) (upd_at _ _ _) (upd_ne _ _ (by decide)) ⟨U, rfl⟩ ?_ (fun k hk => upd_ne _ _ (by omega))⟩
    rw [upd_ne _ _ (by decide), upd_ne _ _ (by decide), upd_ne _ _ (by decide)]
    exact W3.2.2.2.1
theorem r_open (W : MW Z G P T A U cu) (x k : Int32) : ∃ G', f_Md_open [.ref 618, .int x, .int k] (hp G) = some (some (.int (b2 (isIx P x))), hp G') ∧ MW Z G' P T A U (opeC P cu x k) := by
  rw [e_Md_open 618 _ _ _ (ob_Md G), ww_Md_thrown, Option.bind_some]
  have W1 := W.th 0
  rw [m_isIndex W1, ci_some]
  unfold opeC
  cases hx : isIx P x
  · rw [if_pos (by decide)]
    exact ⟨_, rfl, W1⟩
  · rw [if_neg (by decide), ww_Md_cursor, Option.bind_some, ww_Md_cursorKey, Option.bind_some, ww_Md_cursorLast, Option.bind_some]
    generalize hG1 : gsi G 618 0 0 = G1
    rw [hG1] at W1
    have e : gsi (gsi (gsi G1 618 17 x) 618 18 k) 618 19 (-1) = gsa G1 618 (upd (upd (upd (G1.1 618) 17 x) 18 k) 19 (-1)) := by
      refine Prod.ext (funext fun n => ?_) rfl
      rw [gsi_i, gsa_i]
      by_cases hn : n = 618
      · subst hn
        rw [if_pos rfl, if_pos rfl, gsi_i, if_pos rfl, gsi_i, if_pos rfl]
      · rw [if_neg hn, if_neg hn, gsi_i, if_neg hn, gsi_i, if_neg hn]
    rw [e]
    refine ⟨_, rfl, W1.num (by rw [upd_ne _ _ (by decide), upd_ne _ _ (by decide), upd_ne _ _ (by decide)]; exact W1.2.1.2.1) (by rw [upd_ne _ _ (by decide), upd_ne _ _ (by decide), upd_ne _ _ (by decide)]) ⟨[], by simp⟩ ⟨?_, ?_, ?_⟩ (fun k hk => by rw [upd_ne _ _ (by omega), upd_ne _ _ (by omega), upd_ne _ _ (by omega)])⟩
    · rw [upd_ne _ _ (by decide), upd_ne _ _ (by decide), upd_at]; rfl
    · rw [upd_ne _ _ (by decide), upd_at]; rfl
    · rw [upd_at]; rfl
theorem r_undo0 (W : MW Z G P T A [] cu) : ∃ G', f_Md_undo [.ref 618] (hp G) = some (some (.int 0), hp G') ∧ MW Z G' P T A [] cu := by
  have W1 := W.th 0
  refine ⟨_, ?_, W1⟩
  rw [e_Md_undo 618 _ (ob_Md G), ww_Md_thrown, Option.bind_some, gg_Md_undos, Option.bind_some, W1.2.1.2.1, if_pos (show nI ([] : List AS).length = 0 from rfl)]
theorem r_undo1 {B : AS} (W : MW Z G P T A (U ++ [B]) cu) : ∃ G', f_Md_undo [.ref 618] (hp G) = some (some (.int 1), hp G') ∧ MW Z G' P T B U cu := by
  have W1 := W.th 0
  rw [e_Md_undo 618 _ (ob_Md G), ww_Md_thrown, Option.bind_some]
  generalize hG1 : gsi G 618 0 0 = G1
  rw [hG1] at W1
  obtain ⟨u1, u2, u3⟩ := W1.2.1
  have hlen : (U ++ [B]).length = U.length + 1 := by rw [List.length_append]; rfl
  rw [hlen] at u1 u2
  have hBu := u3 U.length (by omega)
  rw [show (U ++ [B])[U.length]'(by omega) = B by simp] at hBu
  obtain ⟨HB, hB⟩ := hBu
  rw [gg_Md_undos, Option.bind_some, u2, if_neg (show ¬ nI (U.length + 1) = (0 : Int32) from ln (n := 0) (by omega) (by omega) (by decide)), Option.bind_some, show nI (U.length + 1) - 1 = nI U.length from n_sub (b := 1) (by omega), ww_Md_undos, Option.bind_some, gg_Md_undos, Option.bind_some, show (gsi G1 618 15 (nI U.length)).1 618 15 = nI U.length by rw [gsi_i, if_pos rfl, upd_at]]
  have W2 : MW Z (gsi G1 618 15 (nI U.length)) P T A U cu := by
    refine W1.num (g := upd (G1.1 618) 15 (nI U.length)) (upd_at _ _ _) (upd_ne _ _ (by decide)) ⟨[B], rfl⟩ ?_ (fun k hk => upd_ne _ _ (by omega))
    rw [upd_ne _ _ (by decide), upd_ne _ _ (by decide), upd_ne _ _ (by decide)]
    exact W1.2.2.2.1
  have HB2 : MS (gsi G1 618 15 (nI U.length)) (514 * (1 + U.length)) P B := HB.fld hB.os (upd_ne _ _ (by decide))
  generalize gsi G1 618 15 (nI U.length) = G2 at W2 HB2
  rw [show (514 : Int32) * (1 + nI U.length) = nI (514 * (1 + U.length)) from by rw [show (1 : Int32) = nI 1 from rfl, i_add, show (514 : Int32) = nI 514 from rfl, n_mul], show (514 : Int32) = nI 514 from rfl, show (0 : Int32) = nI 0 from rfl, m_copies (by omega) (by omega) (by omega) (by decide), cv_some]
  have hF : mdE (mB 0) G2 (gsa G2 628 (cpy (G2.1 628) (514 * (1 + U.length)) 0 514)) := mdE_cpy
  exact ⟨_, rfl, W2.go hF (HB2.copy hB.os (by decide) (HB2.hP.fre hF) (fun k hk => by rw [gsa_i, if_pos rfl]; exact cpy_at hk)) hB⟩
end MWH
