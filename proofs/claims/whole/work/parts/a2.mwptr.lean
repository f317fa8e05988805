/-! THE REFERENCE: pointers, a job begun, the work judged -/
theorem bt_foldIf (p : Nat → Bool) {r : Nat} (hr : r < 32) : ∀ (l : List Nat) (a : Int32), bt (l.foldl (fun a c => if p c then a ||| sbit (c % 32) else a ||| 0) a) r = (bt a r || l.any (fun c => p c && decide (r = c % 32)))
  | [], a => by simp
  | c :: l, a => by
    rw [List.foldl_cons, bt_foldIf p hr l, List.any_cons]
    cases p c
    · rw [if_neg (by decide), b_or, b_0]; simp
    · rw [if_pos rfl, b_or, bt_sbit (Nat.mod_lt _ (by decide)) hr]; simp [Bool.or_assoc]
section MWP
variable {Z G G' : GG} {b : Nat} {P : PP} {T : TT} {A A' B : AS} {U : List AS} {cu : CU} {K : List LI}
theorem MS.ent (H : MS G b P A) (h : okS P A) {i : Nat} (hi : i < pNi P) : f_Md_entries [.ref 618, .int (nI b), .int (nI i)] (hp G) = some (some (.int (nI (aL A i).flatten.length)), hp G) := by
  have hn := h.ni
  rw [s_Md_entries H.hb (by omega) (H.tr hi), fl_len]
theorem MS.eat (H : MS G b P A) (h : okS P A) {i : Nat} (hi : i < pNi P) {k : Nat} (hk : k < (aL A i).flatten.length) : f_Md_entryAt [.ref 618, .int (nI b), .int (nI i), .int (nI k)] (hp G) = some (some (.int (nI (aL A i).flatten[k])), hp G) := by
  have hn := h.ni
  have hk2 : k < (fl (aL A i)).length := by rw [fl_len]; exact hk
  rw [s_Md_entryAt H.hb (by omega) (H.tr hi) (okM_fl (h.kl hi)) hk2, fl_at hk2]
theorem MS.rat (H : MS G b P A) (h : okS P A) {i : Nat} (hi : i < pNi P) {k : Nat} (hk : k < (aL A i).flatten.length) : f_Md_rowAt [.ref 618, .int (nI b), .int (nI i), .int (nI k)] (hp G) = some (some (.int (nI ((aL A i).flatten[k] % 32))), hp G) := by
  have hn := h.ni
  have hk2 : k < (fl (aL A i)).length := by rw [fl_len]; exact hk
  rw [s_Md_rowAt H.hb (by omega) (H.tr hi) (okM_fl (h.kl hi)) hk2, fl_at hk2]
theorem m_valueIn (hP : isMP G P) (hk : okPP P) {i c : Nat} (hi : i < pNi P) (hc : c < 32000) : f_Md_valueIn [.ref 618, .int (nI i), .int (nI c)] (hp G) = some (some (.int (nI (valD (dnP P i) c))), hp G) := by
  have hk3 := (hk.2.2.1 i hi).1
  rw [e_Md_valueIn 618 _ _ _ (ob_Md G), m_kindOf hP hk.2.1 hi, ci_some, show nI c / (32 : Int32) = nI (c / 32) from n_div (b := 32) (by omega) (by decide) (by decide)]
  unfold valD dnP
  by_cases e : pKd P i = 1
  · rw [if_pos (show nI (pKd P i) = (1 : Int32) from lq (n := 1) e), show (pKd P i == 1) = true by simpa using e, if_pos rfl, show (999 : Int32) - nI (c / 32) = nI (999 - c / 32) from n_sub (a := 999) (by omega)]
  · rw [if_neg (show ¬ nI (pKd P i) = (1 : Int32) from ln (n := 1) e (by omega) (by decide)), show (pKd P i == 1) = false by simpa using e, if_neg (by decide)]
/-- POINT -/
theorem r_point (W : MW Z G P T A U cu) (x y : Int32) : ∃ G', f_Md_point [.ref 618, .int x, .int y] (hp G) = some (some (.int (ptW A x y).1), hp G') ∧ MW Z G' P T (ptW A x y).2 (keepI U A (ptW A x y).1) cu := by
  rw [e_Md_point 618 _ _ _ (ob_Md G), ww_Md_thrown, Option.bind_some]
  obtain ⟨G1, r1, W1, H9⟩ := m_aside (W.th 0)
  have hk12 := W1.inv.kp.1
  have H := W1.ms
  have h4 : G1.1 628 4 = nI (aN A) := by have := H.pt.1; rw [Nat.zero_add] at this; exact this
  rw [r1, cv_some, gg_Md_state, Option.bind_some, show mm_li (hp G1) 628 (4 : Int32) = some (G1.1 628 4) from rr_Md_state G1 (i := 4) (by decide), Option.bind_some, h4, s_withX, ci_some]
  have no : canAim A x y = false → ∃ G', (some (some (Value.int (-1)), hp G1) : Option (Option Value × mm_H)) = some (some (Value.int (ptW A x y).1), hp G') ∧ MW Z G' P T (ptW A x y).2 (keepI U A (ptW A x y).1) cu := by
    intro hc
    unfold ptW
    rw [hc]
    exact ⟨G1, rfl, W1⟩
  cases hx : !decide (x < 0) && !decide (2 < x)
  · rw [if_pos (show b2 false = 0 from rfl)]
    exact no (by unfold canAim; rw [hx]; rfl)
  rw [if_neg (show ¬ b2 true = 0 by decide), s_Md_isValue, ci_some]
  cases hy : isVal y
  · rw [if_pos (show b2 false = 0 from rfl)]
    exact no (by unfold canAim; rw [hx, hy]; rfl)
  rw [if_neg (show ¬ b2 true = 0 by decide)]
  by_cases h12 : aN A = 12
  · rw [if_pos (show nI (aN A) = (12 : Int32) from lq (n := 12) h12)]
    exact no (by unfold canAim; rw [decide_eq_false (show ¬ aN A < 12 by omega), Bool.and_false, Bool.and_false, Bool.and_false])
  obtain ⟨v, hv, rfl⟩ := (isVal_iff y).mp hy
  rw [if_neg (show ¬ nI (aN A) = (12 : Int32) from ln (n := 12) h12 (by omega) (by decide)), show f_Md_visible [.ref 618, .int 0] (hp G1) = _ from m_visible H, ci_some, show f_Md_having [.ref 618, .int 0, .int (visA A), .int 0, .int (nI v)] (hp G1) = some (some (.int (havS (aV A) (visA A) 0 v)), hp G1) from m_having H W1.inv (s := visA A) (k := 0) (fun r hr => W1.inv.kr.vis hr) (by decide) (by omega), ci_some]
  by_cases hz : havS (aV A) (visA A) 0 v = 0
  · rw [if_pos hz]
    exact no (by unfold canAim; rw [nI_tn (by omega), decide_eq_true hz]; simp)
  have hc : canAim A x (nI v) = true := by
    unfold canAim
    rw [hx, hy, nI_tn (by omega), decide_eq_false hz, decide_eq_true (show aN A < 12 by omega)]
    rfl
  rw [if_neg hz, gg_Md_state, Option.bind_some, show (43 : Int32) + nI (aN A) = nI (43 + aN A) from nI_add 43 _, uu_Md_state _ (by omega), Option.bind_some, gg_Md_state, Option.bind_some, show (55 : Int32) + nI (aN A) = nI (55 + aN A) from nI_add 55 _, uu_Md_state _ (by omega), Option.bind_some, gg_Md_state, Option.bind_some, show (67 : Int32) + nI (aN A) = nI (67 + aN A) from nI_add 67 _, uu_Md_state _ (by omega), Option.bind_some, gg_Md_state, Option.bind_some]
  simp only [Bool.and_eq_true, Bool.not_eq_true', decide_eq_false_iff_not] at hx
  obtain ⟨s, hs, rfl⟩ := (n_cases x).resolve_left hx.1
  have e3 : ∀ k, k ≠ 43 + aN A → k ≠ 55 + aN A → k ≠ 67 + aN A → (gsi (gsi (gsi G1 628 (43 + aN A) (nI s)) 628 (55 + aN A) (nI v)) 628 (67 + aN A) (-3)).1 628 k = G1.1 628 k := fun k a1 a2 a3 => by
    rw [gsi_i, if_pos rfl, upd_ne _ _ a3, gsi_i, if_pos rfl, upd_ne _ _ a2, gsi_i, if_pos rfl, upd_ne _ _ a1]
  have F3 : mdF (mB 0) G1 (gsi (gsi (gsi G1 628 (43 + aN A) (nI s)) 628 (55 + aN A) (nI v)) 628 (67 + aN A) (-3)) := ((mdF.cell ⟨by omega, by omega⟩).tr (mdF.cell ⟨by omega, by omega⟩)).tr (mdF.cell ⟨by omega, by omega⟩)
  have c43 : (gsi (gsi (gsi G1 628 (43 + aN A) (nI s)) 628 (55 + aN A) (nI v)) 628 (67 + aN A) (-3)).1 628 (43 + aN A) = nI s := by rw [gsi_i, if_pos rfl, upd_ne _ _ (by omega), gsi_i, if_pos rfl, upd_ne _ _ (by omega), gsi_i, if_pos rfl, upd_at]
  have c55 : (gsi (gsi (gsi G1 628 (43 + aN A) (nI s)) 628 (55 + aN A) (nI v)) 628 (67 + aN A) (-3)).1 628 (55 + aN A) = nI v := by rw [gsi_i, if_pos rfl, upd_ne _ _ (by omega), gsi_i, if_pos rfl, upd_at]
  have c67 : (gsi (gsi (gsi G1 628 (43 + aN A) (nI s)) 628 (55 + aN A) (nI v)) 628 (67 + aN A) (-3)).1 628 (67 + aN A) = -3 := by rw [gsi_i, if_pos rfl, upd_at]
  generalize gsi (gsi (gsi G1 628 (43 + aN A) (nI s)) 628 (55 + aN A) (nI v)) 628 (67 + aN A) (-3) = G3 at *
  rw [show mm_li (hp G3) 628 (4 : Int32) = some (G3.1 628 4) from rr_Md_state G3 (i := 4) (by decide), Option.bind_some, e3 4 (by omega) (by omega) (by omega), h4, show nI (aN A) + 1 = nI (aN A + 1) from nI_add _ 1, show mm_si (hp G3) 628 (4 : Int32) (nI (aN A + 1)) = _ from uu_Md_state G3 (i := 4) (by decide) _, Option.bind_some]
  have F4 : mdF (mB 0) G1 (gsi G3 628 4 (nI (aN A + 1))) := F3.tr (mdF.cell ⟨by omega, by omega⟩)
  have H4 : MS (gsi G3 628 4 (nI (aN A + 1))) 0 P (aimA A (nI s) (nI v)) := by
    refine ⟨⟨by decide, H.hP.fr F4⟩, ?_⟩
    unfold aimA
    rw [nI_tn hs]
    refine H.ptU W1.inv.os (by omega) (fun k a1 a2 a3 a4 => ?_) ?_ ?_ ?_ ?_
    · rw [gsi_i, if_pos rfl, upd_ne _ _ (by omega)]; exact e3 k (by omega) (by omega) (by omega)
    · rw [gsi_i, if_pos rfl]; exact upd_at _ _ _
    · rw [gsi_i, if_pos rfl, upd_ne _ _ (by omega), Nat.zero_add]; exact c43
    · rw [gsi_i, if_pos rfl, upd_ne _ _ (by omega), Nat.zero_add]; exact c55
    · rw [gsi_i, if_pos rfl, upd_ne _ _ (by omega), Nat.zero_add]; exact c67
  have W4 := W1.go F4.e H4 (aim_inv W1.inv hc)
  obtain ⟨G5, t1, t2⟩ := m_done W4 (MW.aside9 H9 W1.inv F4.e) W1.inv (nI (aN A))
  unfold ptW
  rw [t1, ci_some, hc]
  exact ⟨G5, rfl, t2⟩
/-- DROP -/
theorem MS.drU (H : MS G b P A) (h : INV P A) {p : Nat} (hp1 : p < aN A) (hT : aT A p ≠ -2) : MS (gsi G 628 (b + 55 + p) (-2)) b P (dropA A p) := by
  have hb := H.hb
  have hni := h.ni
  have hk12 := h.kp.1
  have F : mdF (mB b) G (gsi G 628 (b + 55 + p) (-2)) := mdF.cell ⟨by omega, by omega⟩
  have e : ∀ k, k ≠ b + 55 + p → (gsi G 628 (b + 55 + p) (-2)).1 628 k = G.1 628 k := fun k hk => by rw [gsi_i, if_pos rfl, upd_ne _ _ hk]
  have e55 : (gsi G 628 (b + 55 + p) (-2)).1 628 (b + 55 + p) = -2 := by rw [gsi_i, if_pos rfl, upd_at]
  have hr := h.kr.1
  refine ⟨⟨hb, H.hP.fr F⟩, ⟨by rw [e _ (by omega)]; exact H.d, by rw [e _ (by omega)]; exact H.c, by rw [e _ (by omega)]; exact H.m, by rw [e _ (by omega)]; exact H.x⟩, fun r hr2 => ?_, ⟨by rw [e _ (by omega)]; exact H.pt.1, fun q hq => ?_⟩, fun j hj => ?_, ?_⟩
  · have h2 : r < aM A := hr2
    rw [e _ (by omega)]; exact H.v r h2
  · have h2 : q < aN A := hq
    show _ = nI (aS A q) ∧ _ = setP (aT A) p (-2) q
    rw [e _ (by omega)]
    refine ⟨(H.pt.2 q h2).1, ?_⟩
    by_cases eq : q = p
    · rw [eq, e55]; exact (if_pos rfl).symm
    · rw [e _ (by omega), show setP (aT A) p (-2) q = aT A q from if_neg eq]; exact (H.pt.2 q h2).2
  · exact ms_tree (A := A) H.2.2.2.2.1 (fun i hi => h.kl hi) hj (fun k k1 k2 => e k (by omega))
  · show isMJ _ b P _ (aJ A)
    have hj := H.j
    cases hJ : aJ A with
    | none =>
      rw [hJ] at hj
      exact ⟨by rw [e _ (by omega)]; exact hj.1, by rw [e _ (by omega)]; exact hj.2⟩
    | some J =>
      have hk2 := h.ka.2.2.2
      rw [hJ] at hj hk2
      obtain ⟨-, z2, z3, -⟩ := (show okJ J from hk2)
      obtain ⟨⟨c5, c6, c7, c8, c9, c10, c11, c12⟩, sd, rr, t, w⟩ := hj
      refine ⟨⟨by rw [e _ (by omega)]; exact c5, by rw [e _ (by omega)]; exact c6, by rw [e _ (by omega)]; exact c7, by rw [e _ (by omega)]; exact c8, by rw [e _ (by omega)]; exact c9, by rw [e _ (by omega)]; exact c10, by rw [e _ (by omega)]; exact c11, by rw [e _ (by omega)]; exact c12⟩, fun k hk3 => by rw [e _ (by omega)]; exact sd k hk3, fun k hk3 => by rw [e _ (by omega), e _ (by omega)]; exact rr k hk3, fun ha => (t ha).cong (by rw [fl_len]; exact (h.st hJ ha).2.1) (fun k x1 x2 => e k (by omega)), fun q hq => ?_⟩
      have h2 : q < aN A := hq
      have w0 := w q h2
      show wasOk _ (aS A q) (setP (aT A) p (-2) q) (setP (aB A) p (-1) q)
      rw [e _ (by omega)]
      by_cases eq : q = p
      · subst eq
        rw [show setP (aT A) q (-2) q = -2 from if_pos rfl, show setP (aB A) q (-1) q = -1 from if_pos rfl]
        unfold wasOk at w0 ⊢
        by_cases hs : G.1 628 (b + 67 + q) = -3 ∨ (aS A q = 1 ∧ (-2 : Int32) = -2)
        · rw [if_pos hs]
        · exfalso
          have hs3 : ¬ G.1 628 (b + 67 + q) = -3 := fun x => hs (Or.inl x)
          have hs1 : ¬ aS A q = 1 := fun x => hs (Or.inr ⟨x, rfl⟩)
          rw [if_neg (fun x => x.elim hs3 (fun y => hs1 y.1))] at w0
          rcases h.b h2 with x | ⟨v, -, -, x, -⟩
          · exact w0.2 x
          · rcases x with x | x
            · exact hs1 x.1
            · exact hT x.2
      · rw [show setP (aT A) p (-2) q = aT A q from if_neg eq, show setP (aB A) p (-1) q = aB A q from if_neg eq]
        exact w0
theorem m_isPointer (H : MS G 0 P A) (h : INV P A) (x : Int32) : f_Md_isPointer [.ref 618, .int x] (hp G) = some (some (.int (b2 (!decide (x < 0) && decide (x.toNatClampNeg < aN A)))), hp G) := by
  have hk12 := h.kp.1
  have h4 : G.1 628 4 = nI (aN A) := by have := H.pt.1; rw [Nat.zero_add] at this; exact this
  rw [e_Md_isPointer 618 _ _ (ob_Md G)]
  by_cases hn : x < 0
  · rw [if_pos hn, decide_eq_true hn]; rfl
  · obtain ⟨r, hr, rfl⟩ := (n_cases x).resolve_left hn
    rw [if_neg hn, gg_Md_state, Option.bind_some, show mm_li (hp G) 628 (4 : Int32) = some (G.1 628 4) from rr_Md_state G (i := 4) (by decide), Option.bind_some, h4, decide_eq_false hn, nI_tn (by omega)]
    by_cases hlt : r < aN A
    · rw [if_pos (lp hlt (by omega)), decide_eq_true hlt]; rfl
    · rw [if_neg (lm (by omega) hr), decide_eq_false hlt]; rfl
theorem r_drop (W : MW Z G P T A U cu) (x : Int32) : ∃ G', f_Md_drop [.ref 618, .int x] (hp G) = some (some (.int (b2 (dropW A x).1)), hp G') ∧ MW Z G' P T (dropW A x).2 (keepB U A (dropW A x).1) cu := by
  rw [e_Md_drop 618 _ _ (ob_Md G), ww_Md_thrown, Option.bind_some]
  obtain ⟨G1, r1, W1, H9⟩ := m_aside (W.th 0)
  have hk12 := W1.inv.kp.1
  have H := W1.ms
  rw [r1, cv_some, m_isPointer H W1.inv, ci_some]
  unfold dropW
  rw [← Bool.and_assoc]
  cases hx : !decide (x < 0) && decide (x.toNatClampNeg < aN A)
  · rw [if_pos (show b2 false = 0 from rfl)]
    exact ⟨G1, rfl, W1⟩
  simp only [Bool.and_eq_true, Bool.not_eq_true', decide_eq_false_iff_not, decide_eq_true_eq] at hx
  obtain ⟨r, hr, rfl⟩ := (n_cases x).resolve_left hx.1
  obtain ⟨-, hlt⟩ := hx
  rw [nI_tn (by omega)] at hlt
  have hc : G1.1 628 (55 + r) = aT A r := by have := (H.pt.2 r hlt).2; rw [Nat.zero_add] at this; exact this
  rw [if_neg (show ¬ b2 true = 0 by decide), gg_Md_state, Option.bind_some, show (55 : Int32) + nI r = nI (55 + r) from nI_add 55 _, rr_Md_state _ (by omega), Option.bind_some, hc, nI_tn (by omega)]
  by_cases hT : aT A r = -2
  · rw [if_pos hT, decide_eq_true hT]
    exact ⟨G1, rfl, W1⟩
  rw [if_neg hT, decide_eq_false hT, Option.bind_some, uu_Md_state _ (by omega), Option.bind_some]
  have F : mdF (mB 0) G1 (gsi G1 628 (55 + r) (-2)) := mdF.cell ⟨by omega, by omega⟩
  have H2 := H.drU W1.inv hlt hT
  rw [Nat.zero_add] at H2
  have W2 := W1.go F.e H2 (drop_inv W1.inv r)
  obtain ⟨G3, t1, t2⟩ := m_isDone W2 (MW.aside9 H9 W1.inv F.e) W1.inv true
  rw [show f_Md_isDone [.ref 618, .int 1] (hp (gsi G1 628 (55 + r) (-2))) = _ from t1, ci_some, if_pos (b2_01 _)]
  exact ⟨G3, rfl, t2⟩
/-- BEGIN -/
def begL (P : PP) (A : AS) (i : Nat) (lo hi : Int32) (c : Nat) : Bool := (!decide (nI (valD (dnP P i) c) < lo) && !decide (hi < nI (valD (dnP P i) c))) && bt (wouldA P A) (c % 32)
def begF (P : PP) (A : AS) (i : Nat) (lo hi : Int32) : Int32 := (aL A i).flatten.foldl (fun a c => if begL P A i lo hi c then a ||| sbit (c % 32) else a ||| 0) 0
theorem begF_vis (h : INV P A) {i : Nat} {lo hi : Int32} {r : Nat} (hr : bt (begF P A i lo hi) r = true) : bt (visA A) r = true := by
  have h32 := bt_lt hr
  unfold begF at hr
  rw [bt_foldIf _ h32, b_0, Bool.false_or, List.any_eq_true] at hr
  obtain ⟨c, -, hc2⟩ := hr
  simp only [begL, Bool.and_eq_true, decide_eq_true_eq] at hc2
  rw [hc2.2]
  exact wouldA_vis h hc2.1.2
theorem begF_eq (h : INV P A) (hJ : aJ A = none) {i : Nat} (hi : i < pNi P) (lo hi' : Int32) : begF P A i lo hi' = eligA P A i lo hi' := by
  have hr30 := h.kr.1
  have hat : isAtA A i = false := by unfold isAtA; rw [hJ]; rfl
  have hC : aC A = 0 := (h.2.2.2.1 hJ).1
  have hT := h.2.2.1 i hi hat
  apply b_ext
  intro r h32
  unfold begF
  rw [bt_foldIf _ h32, b_0, Bool.false_or]
  unfold eligA
  rw [bt_msk _ _ (by omega) r h32]
  have hin : ∀ c ∈ (aL A i).flatten, c = codA P A i (c % 32) ∧ bt (visA A) (c % 32) = true := fun c hc => by
    rcases (hT c).mp hc with q | ⟨⟨-, -, q⟩, -⟩
    · exact ⟨q.1, q.2.2⟩
    · rw [hC, b_0] at q; cases q
  have hval : ∀ c ∈ (aL A i).flatten, valD (dnP P i) c = valA P A i (c % 32) := fun c hc => by
    obtain ⟨q1, q2⟩ := hin c hc
    have hm := h.kr.vis q2
    have hv9 : valA P A i (c % 32) ≤ 999 := h.kr.2.1 _ _ hm (h.pp.2.2.1 i hi).2
    have hl := (h.kl hi).2.2.2.1 c hc
    generalize hrr : c % 32 = r' at *
    rw [q1]
    unfold codA codD valD
    cases dnP P i
    · simp only [Bool.false_eq_true, if_false]; omega
    · simp only [if_true]; omega
  rw [Bool.eq_iff_iff, List.any_eq_true]
  simp only [Bool.and_eq_true, decide_eq_true_eq]
  have hw : ∀ q, q < 32 → bt (wouldA P A) q = (decide (q < aM A) && (bt (visA A) q && chooA P A q)) := fun q hq => by
    unfold wouldA
    rw [bt_msk _ _ (by omega) q hq]
  constructor
  · rintro ⟨c, hc, hl, rfl⟩
    obtain ⟨q1, q2⟩ := hin c hc
    unfold begL at hl
    rw [hval c hc, Bool.and_eq_true, hw _ h32] at hl
    simp only [Bool.and_eq_true, decide_eq_true_eq] at hl
    refine ⟨hl.2.1, ⟨hl.2.2.1, ?_⟩, ⟨hl.1.1, hl.1.2⟩, hl.2.2.2⟩
    rw [bt_rb _ h32]
    exact decide_eq_true (List.mem_map.mpr ⟨c, hc, rfl⟩)
  · rintro ⟨hm, ⟨hv, hrb⟩, ⟨hlo, hhi⟩, hch⟩
    rw [bt_rb _ h32, decide_eq_true_eq, List.mem_map] at hrb
    obtain ⟨c, hc, rfl⟩ := hrb
    refine ⟨c, hc, ?_, rfl⟩
    unfold begL
    rw [hval c hc, hw _ h32, hv, hch, decide_eq_true hm, hlo, hhi]
    rfl
theorem begF_lau (h : INV P A) {i : Nat} (hi : i < pNi P) (lo hi' : Int32) : begO A (begF P A i lo hi') = begO A (eligA P A i lo hi') ∧ (lauO P A (begF P A i lo hi')).2 = (lauO P A (eligA P A i lo hi')).2 := by
  cases hJ : aJ A with
  | none => rw [begF_eq h hJ hi]; exact ⟨rfl, rfl⟩
  | some J =>
    have hc : ∀ w, canLau A w = false := fun w => by unfold canLau; rw [hJ]; rfl
    unfold begO lauO
    rw [hc, hc]
    exact ⟨rfl, rfl⟩
theorem r_begin (W : MW Z G P T A U cu) (x lo hi : Int32) : ∃ G', f_Md_begin [.ref 618, .int x, .int lo, .int hi] (hp G) = some (some (.int (begO A (begS P A x lo hi))), hp G') ∧ MW Z G' P T (lauO P A (begS P A x lo hi)).2 (keepI U A (begO A (begS P A x lo hi))) cu := by
  have hni := W.inv.ni
  rw [e_Md_begin 618 _ _ _ _ (ob_Md G), ww_Md_thrown, Option.bind_some]
  obtain ⟨G1, r1, W1, H9⟩ := m_aside (W.th 0)
  have H := W1.ms
  have h := W1.inv
  -- the end
  have fin : ∀ (w : Int32), (∀ r, bt w r = true → bt (visA A) r = true) → ∃ G', (mm_ci (f_Md_begun [.ref 618, .int 0, .int w] (hp G1)) fun x4 h3 => mm_ci (f_Md_done [.ref 618, .int x4] h3) fun x6 h5 => some (some (Value.int x6), h5)) = some (some (Value.int (begO A w)), hp G') ∧ MW Z G' P T (lauO P A w).2 (keepI U A (begO A w)) cu := by
    intro w hw
    obtain ⟨G3, s1, s2, s3⟩ := m_begun H h hw
    have W3 := W1.go s3.e s2 (lauO_inv h hw)
    obtain ⟨G4, t1, t2⟩ := m_done W3 (MW.aside9 H9 h s3.e) h (begO A w)
    rw [show f_Md_begun [.ref 618, .int 0, .int w] (hp G1) = _ from s1, ci_some, t1, ci_some]
    exact ⟨G4, rfl, t2⟩
  obtain ⟨f0, hf0⟩ : ∃ g, mm_fu = g + 1 := ⟨mm_fu - 1, by have := @fu_lt 100 (by omega); omega⟩
  rw [r1, cv_some]
  unfold begS
  by_cases e : x = -1
  · rw [if_pos e, if_pos e, show f_Md_wouldChoose [.ref 618, .int 0] (hp G1) = _ from m_wouldChoose H h, ci_some, hf0, e_Md_begin_28, m_isIndex W1, ci_some, show isIx P x = false by rw [e]; rfl, if_pos (show b2 false = 0 from rfl)]
    exact fin _ (fun r hr => wouldA_vis h hr)
  · rw [if_neg e, if_neg e]
    cases hx : isIx P x
    · rw [hf0, e_Md_begin_28, m_isIndex W1, ci_some, hx, if_pos (show b2 false = 0 from rfl)]
      exact fin 0 (fun r hr => by rw [b_0] at hr; cases hr)
    · obtain ⟨i, hi', rfl⟩ := (isIx_iff hni x).mp hx
      obtain ⟨q1, q2⟩ := begF_lau h hi' lo hi
      rw [if_pos rfl, nI_tn (by omega), ← q1, ← q2]
      have hlen := (h.kl hi').2.1
      have key := for_list (aL A i).flatten (fun f k (a : Int32) => mm_run p_Md_begin f 28 [.ref 618, .int (nI i), .int lo, .int hi, .int a, .int (nI k)] [] (hp G1)) (fun a c => if begL P A i lo hi c then a ||| sbit (c % 32) else a ||| 0) (fun a => mm_ci (f_Md_begun [.ref 618, .int 0, .int a] (hp G1)) fun x4 h3 => mm_ci (f_Md_done [.ref 618, .int x4] h3) fun x6 h5 => some (some (Value.int x6), h5)) (fun f k a hk => by
        have hcl := (h.kl hi').2.2.2.1 _ (List.getElem_mem hk)
        show mm_run p_Md_begin (f + 1) 28 [.ref 618, .int (nI i), .int lo, .int hi, .int a, .int (nI k)] [] (hp G1) = _
        rw [e_Md_begin_28, m_isIndex W1, ci_some, hx, if_neg (show ¬ b2 true = 0 by decide), show f_Md_entries [.ref 618, .int 0, .int (nI i)] (hp G1) = _ from H.ent h.os hi', ci_some, if_pos (lp hk (by omega)), show f_Md_rowAt [.ref 618, .int 0, .int (nI i), .int (nI k)] (hp G1) = _ from H.rat h.os hi' hk, ci_some, show f_Md_entryAt [.ref 618, .int 0, .int (nI i), .int (nI k)] (hp G1) = _ from H.eat h.os hi' hk, ci_some, m_valueIn H.hP h.pp hi' hcl.1, ci_some, s_withX, ci_some, show nI k + 1 = nI (k + 1) from nI_add k 1]
        unfold begL
        cases (!decide (nI (valD (dnP P i) (aL A i).flatten[k]) < lo) && !decide (hi < nI (valD (dnP P i) (aL A i).flatten[k])))
        · rw [if_pos (show b2 false = 0 from rfl), Bool.false_and, if_neg (by decide)]
        · rw [if_neg (show ¬ b2 true = 0 by decide), show f_Md_wouldChoose [.ref 618, .int 0] (hp G1) = _ from m_wouldChoose H h, ci_some, s_Md_has _ (Nat.mod_lt _ (by decide)), ci_some, Bool.true_and]
          cases bt (wouldA P A) ((aL A i).flatten[k] % 32)
          · rw [if_pos (show b2 false = 0 from rfl), if_neg (by decide)]
          · rw [if_neg (show ¬ b2 true = 0 by decide), if_pos rfl]
            rfl) (fun f a => by
        show mm_run p_Md_begin (f + 1) 28 [.ref 618, .int (nI i), .int lo, .int hi, .int a, .int (nI (aL A i).flatten.length)] [] (hp G1) = _
        rw [e_Md_begin_28, m_isIndex W1, ci_some, hx, if_neg (show ¬ b2 true = 0 by decide), show f_Md_entries [.ref 618, .int 0, .int (nI i)] (hp G1) = _ from H.ent h.os hi', ci_some, if_neg (lm (Nat.le_refl _) (by omega))]) 0 (f := mm_fu) (fu_lt (by omega))
      rw [show mm_run p_Md_begin mm_fu 28 [.ref 618, .int (nI i), .int lo, .int hi, .int 0, .int 0] [] (hp G1) = _ from key]
      exact fin _ (fun r hr => begF_vis h hr)
/-- JUDGED -/
theorem jdgR_inv : ∀ (K : List LI), (∀ t ∈ K, okLi P t) → ∀ (i : Nat) (a : Int32) (B : AS), INV P B → INV P (jdgR P K i a B).2
  | [], _, _, _, _, hB => hB
  | t :: K, hK, i, a, B, hB => jdgR_inv K (fun t h => hK t (List.mem_cons_of_mem _ h)) _ _ _ (playO_inv hB (hK t List.mem_cons_self))
theorem r_judged (W : MW Z G P T A U cu) (hL : isMLn Z K) (hK : okWk P K) (w : Int32) : ∃ G', f_Md_judged [.ref 618, .int w] (hp G) = some (some (.int (jdgW P T K w)), hp G') ∧ MW Z G' P T A U cu := by
  rw [e_Md_judged 618 _ _ (ob_Md G), ww_Md_thrown, Option.bind_some]
  have W1 := W.th 0
  generalize gsi G 618 0 0 = G1 at *
  rw [s_withX, ci_some]
  unfold jdgW
  by_cases h0 : w < 0
  · rw [if_pos (Or.inl h0), decide_eq_true h0, if_pos (by rfl)]
    exact ⟨G1, rfl, W1⟩
  by_cases h2 : 2 < w
  · rw [if_pos (Or.inr h2), decide_eq_true h2, Bool.and_comm, if_pos (by rfl)]
    exact ⟨G1, rfl, W1⟩
  rw [if_neg (show ¬ (w < 0 ∨ 2 < w) from fun e => e.elim h0 h2), decide_eq_false h0, decide_eq_false h2, if_neg (show ¬ b2 (!false && !false) = 0 by decide)]
  obtain ⟨hP, hT, hkT⟩ : isMP G1 P ∧ isMT G1 P T ∧ okTd P T := ⟨W1.ms.hP, W1.2.2.1.1, W1.2.2.1.2⟩
  obtain ⟨G2, r1, r2, r3⟩ := m_starts (b := 8738) (by decide) (⟨⟨hP.1.1, hP.1.2.1⟩, hP.2.1, hP.2.2.1, hP.2.2.2⟩ : isMP0 G1 P) W1.inv.pp hT hkT
  rw [show gsi G1 618 16 (nI (pBt P)) = G1 by rw [← hP.1.2.2]; exact gsi_self _ _ _] at r3
  rw [show f_Md_starts [.ref 618, .int 8738] (hp G1) = _ from r1, cv_some]
  have W2 := W1.off (Nat.le_refl _) r3.e
  have hst : INV P (startA P T) := start_inv W1.inv.pp hkT 0
  have key : ∀ (m : List LI) (i f : Nat) (a : Int32) (G3 : GG) (B : AS), i + m.length = K.length → K.drop i = m → m.length < f → (a = -1 ∨ ∃ n, n < 2147483648 ∧ a = nI n) → MW Z G3 P T A U cu → MS G3 8738 P B → INV P B → ∃ G', mm_run p_Md_judged f 28 [.ref 618, .int w, .int a, .int (nI i)] [] (hp G3) = some (some (.int (if w = 0 then (jdgR P m i a B).1 else if w = 1 then nI (bc (visA (jdgR P m i a B).2)) else aX (jdgR P m i a B).2)), hp G') ∧ MW Z G' P T A U cu := by
    intro m
    induction m with
    | nil =>
      intro i f a G3 B hi hd hf ha W3 H3 hB
      obtain ⟨f, rfl⟩ : ∃ g, f = g + 1 := ⟨f - 1, by omega⟩
      have e627 : G3.1 627 = Z.1 627 := W3.fix.1 627 (by decide) (by decide)
      have hk := hK.1
      rw [e_Md_judged_28, gg_Md_lines, Option.bind_some, show mm_li (hp G3) 627 (0 : Int32) = some (G3.1 627 0) from rr_Md_lines G3 (i := 0) (by decide), Option.bind_some, e627, hL.1, if_neg (lm (by simp at hi; omega) (by simp at hi; omega))]
      refine ⟨G3, ?_, W3⟩
      by_cases w0 : w = 0
      · rw [if_pos w0, if_pos w0]; rfl
      rw [if_neg w0, if_neg w0]
      by_cases w1 : w = 1
      · rw [if_pos w1, if_pos w1, show f_Md_visible [.ref 618, .int 8738] (hp G3) = _ from m_visible H3, ci_some, s_Md_manyOf (fun r hr => by have := hB.kr.vis hr; have := hB.kr.1; omega), ci_some]
        rfl
      rw [if_neg w1, if_neg w1, gg_Md_state, Option.bind_some, show mm_li (hp G3) 628 (8741 : Int32) = some (G3.1 628 8741) from rr_Md_state G3 (i := 8741) (by decide), Option.bind_some, show G3.1 628 8741 = aX B from H3.x]
      rfl
    | cons t m ih =>
      intro i f a G3 B hi hd hf ha W3 H3 hB
      obtain ⟨f, rfl⟩ : ∃ g, f = g + 1 := ⟨f - 1, by omega⟩
      have hk := hK.1
      have hlt : i < K.length := by rw [← hi]; simp
      have ht : K[i] = t := by
        rw [List.drop_eq_getElem_cons hlt] at hd
        exact (List.cons.inj hd).1
      have hd2 : K.drop (i + 1) = m := by
        rw [List.drop_eq_getElem_cons hlt] at hd
        exact (List.cons.inj hd).2
      have hkt : okLi P t := hK.2 t (by rw [← ht]; exact List.getElem_mem hlt)
      have e627 : G3.1 627 = Z.1 627 := W3.fix.1 627 (by decide) (by decide)
      have hLi : isMLi G3 (1 + 4 * i) t := by
        have := hL.2 i hlt
        rw [ht] at this
        unfold isMLi at this ⊢
        rw [e627]
        exact this
      obtain ⟨G4, s1, s2, s3⟩ := m_lineDone H3 hB (i0 := 1 + 4 * i) (by omega) hLi hkt
      have W4 := W3.off (Nat.le_refl _) s3
      have hlen : i + 1 + m.length = K.length := by simp at hi; omega
      have hfm : m.length < f := by simp at hf; omega
      rw [e_Md_judged_28, gg_Md_lines, Option.bind_some, show mm_li (hp G3) 627 (0 : Int32) = some (G3.1 627 0) from rr_Md_lines G3 (i := 0) (by decide), Option.bind_some, e627, hL.1, if_pos (lp hlt (by omega)), show (4 : Int32) * nI i = nI (4 * i) from n_mul 4 i, show (1 : Int32) + nI (4 * i) = nI (1 + 4 * i) from nI_add 1 _, show f_Md_lineDone [.ref 618, .int 8738, .int (nI (1 + 4 * i))] (hp G3) = _ from s1, ci_some, show nI i + 1 = nI (i + 1) from nI_add i 1]
      rw [show jdgR P (t :: m) i a B = jdgR P m (i + 1) (if (playO P B t).1 then a else if a = -1 then nI i else a) (playO P B t).2 from rfl]
      cases (playO P B t).1
      · rw [if_pos (show b2 false = 0 from rfl), if_neg (show ¬ false = true by decide)]
        rcases ha with e | ⟨n, hn, e⟩
        · rw [e, if_pos (by decide), if_pos rfl]
          exact ih (i + 1) f _ G4 _ hlen hd2 hfm (Or.inr ⟨i, by omega, rfl⟩) W4 s2 (playO_inv hB hkt)
        · rw [e, if_neg (n_nneg hn), if_neg (n_m1 hn)]
          exact ih (i + 1) f _ G4 _ hlen hd2 hfm (Or.inr ⟨n, hn, rfl⟩) W4 s2 (playO_inv hB hkt)
      · rw [if_neg (show ¬ b2 true = 0 by decide), if_pos rfl]
        exact ih (i + 1) f _ G4 _ hlen hd2 hfm ha W4 s2 (playO_inv hB hkt)
  exact key K 0 mm_fu (-1) G2 _ (by omega) rfl (fu_lt (by have := hK.1; omega)) (Or.inl rfl) W2 r2 hst
end MWP
