/-! THE REFERENCE: rows, pointers, the JOB read -/
theorem in_5 {w : Int32} (h0 : ¬ w < 0) (h5 : ¬ 5 < w) : w = 0 ∨ w = 1 ∨ w = 2 ∨ w = 3 ∨ w = 4 ∨ w = 5 := by
  obtain ⟨n, hn, rfl⟩ := (n_cases w).resolve_left h0
  have q : ¬ 5 < n := fun q => h5 (show (5 : Int32) < nI n from lp (a := 5) q hn)
  have : n = 0 ∨ n = 1 ∨ n = 2 ∨ n = 3 ∨ n = 4 ∨ n = 5 := by omega
  rcases this with e | e | e | e | e | e <;> subst e
  · exact Or.inl rfl
  · exact Or.inr (Or.inl rfl)
  · exact Or.inr (Or.inr (Or.inl rfl))
  · exact Or.inr (Or.inr (Or.inr (Or.inl rfl)))
  · exact Or.inr (Or.inr (Or.inr (Or.inr (Or.inl rfl))))
  · exact Or.inr (Or.inr (Or.inr (Or.inr (Or.inr rfl))))
theorem in_2 {w : Int32} (h0 : ¬ w < 0) (h2 : ¬ 2 < w) : w = 0 ∨ w = 1 ∨ w = 2 := by
  obtain ⟨n, hn, rfl⟩ := (n_cases w).resolve_left h0
  have q : ¬ 2 < n := fun q => h2 (show (2 : Int32) < nI n from lp (a := 2) q hn)
  have : n = 0 ∨ n = 1 ∨ n = 2 := by omega
  rcases this with e | e | e <;> subst e
  · exact Or.inl rfl
  · exact Or.inr (Or.inl rfl)
  · exact Or.inr (Or.inr rfl)
theorem in_1 {w : Int32} (h0 : ¬ w < 0) (h1 : ¬ 1 < w) : w = 0 ∨ w = 1 := by
  obtain ⟨n, hn, rfl⟩ := (n_cases w).resolve_left h0
  have q : ¬ 1 < n := fun q => h1 (show (1 : Int32) < nI n from lp (a := 1) q hn)
  have : n = 0 ∨ n = 1 := by omega
  rcases this with e | e <;> subst e
  · exact Or.inl rfl
  · exact Or.inr rfl
theorem out_ne {w a b c : Int32} (h : w < a ∨ b < w) (h1 : ¬ c < a) (h2 : ¬ b < c) : ¬ w = c := fun e => by
  rw [e] at h
  exact h.elim h1 h2
theorem wi_no {x y z : Int32} (h : x < y ∨ z < x) : (!decide (x < y) && !decide (z < x)) = false := by
  rcases h with h | h
  · rw [decide_eq_true h]; rfl
  · rw [decide_eq_true h, Bool.not_true, Bool.and_false]
theorem wi_yes {x y z : Int32} (h1 : ¬ x < y) (h2 : ¬ z < x) : (!decide (x < y) && !decide (z < x)) = true := by
  rw [decide_eq_false h1, decide_eq_false h2]; rfl
theorem bit_b2 (d : Int32) {r : Nat} (hr : r < 32) : (d >>> (nI r &&& 31)) &&& 1 = b2 (bt d r) := by
  rw [bt_shr1 d hr]
  cases bt d r <;> rfl
section MWO
variable {Z G G' : GG} {b i page : Nat} {P : PP} {T : TT} {A A' B : AS} {U : List AS} {cu : CU} {L : LL}
theorem MS.c0 (H : MS G 0 P A) : G.1 628 0 = aD A ∧ G.1 628 1 = aC A ∧ G.1 628 2 = nI (aM A) ∧ G.1 628 3 = aX A ∧ G.1 628 4 = nI (aN A) := by
  have h1 := H.c
  have h2 := H.m
  have h3 := H.x
  have h4 := H.pt.1
  rw [Nat.zero_add] at h1 h2 h3 h4
  exact ⟨H.d, h1, h2, h3, h4⟩
theorem rd_c (G : GG) (k : Nat) (hk : k < 9766) : mm_li (hp G) 628 (OfNat.ofNat k : Int32) = some (G.1 628 k) := rr_Md_state G hk
/-- ROW -/
theorem r_row (W : MW Z G P T A U cu) (x w : Int32) : ∃ G', f_Md_row [.ref 618, .int x, .int w] (hp G) = some (some (.int (rowW P A x w)), hp G') ∧ MW Z G' P T A U cu := by
  have hn := W.inv.ni
  have W1 := W.th 0
  rw [e_Md_row 618 _ _ _ (ob_Md G), ww_Md_thrown, Option.bind_some]
  generalize gsi G 618 0 0 = G1 at W1 ⊢
  refine ⟨G1, ?_, W1⟩
  have H := W1.ms
  have h := W1.inv
  have hr30 := h.kr.1
  obtain ⟨c0, c1, c2, -, -⟩ := H.c0
  unfold rowW
  by_cases hx : x < 0
  · rw [if_pos hx, decide_eq_true hx]; rfl
  obtain ⟨r, hr, rfl⟩ := (n_cases x).resolve_left hx
  rw [if_neg hx, gg_Md_state, Option.bind_some, rd_c G1 2 (by decide), Option.bind_some, c2, decide_eq_false hx, nI_tn (by omega), Bool.not_false, Bool.true_and]
  by_cases hm' : ¬ r < aM A
  · rw [if_neg (lm (by omega) hr), if_neg (by rw [decide_eq_false hm']; decide)]
  have hm : r < aM A := Decidable.not_not.mp hm'
  rw [if_pos (lp hm (by omega)), if_pos (decide_eq_true hm), s_withX, ci_some]
  by_cases hw : w < 0 ∨ 5 < w
  · rw [wi_no hw, if_pos (by rfl), if_neg (out_ne hw (by decide) (by decide)), if_neg (out_ne hw (by decide) (by decide)), if_neg (out_ne hw (by decide) (by decide)), if_neg (out_ne hw (by decide) (by decide)), if_neg (out_ne hw (by decide) (by decide)), if_neg (out_ne hw (by decide) (by decide))]
  have w0 : ¬ w < 0 := fun q => hw (Or.inl q)
  have w5 : ¬ 5 < w := fun q => hw (Or.inr q)
  rw [wi_yes w0 w5, if_neg (by decide)]
  have hval : ∀ k, k < 3 → f_Md_valueOf [.ref 618, .int 0, .int (nI r), .int (nI k)] (hp G1) = some (some (.int (nI (aV A r k))), hp G1) := fun k hk => m_valueOf H h hm hk
  rcases in_5 w0 w5 with e | e | e | e | e | e <;> subst e
  · rw [if_pos (by decide), show f_Md_valueOf [.ref 618, .int 0, .int (nI r), .int 0] (hp G1) = _ from hval 0 (by decide), ci_some]; rfl
  · rw [if_pos (by decide), show f_Md_valueOf [.ref 618, .int 0, .int (nI r), .int 1] (hp G1) = _ from hval 1 (by decide), ci_some]; rfl
  · rw [if_pos (by decide), show f_Md_valueOf [.ref 618, .int 0, .int (nI r), .int 2] (hp G1) = _ from hval 2 (by decide), ci_some]; rfl
  · rw [if_neg (by decide), if_pos (by decide), gg_Md_state, Option.bind_some, if_pos rfl, rd_c G1 0 (by decide), Option.bind_some, c0, bit_b2 _ (by omega)]; rfl
  · rw [if_neg (by decide), if_pos (by decide), gg_Md_state, Option.bind_some, if_neg (by decide), rd_c G1 1 (by decide), Option.bind_some, c1, bit_b2 _ (by omega)]; rfl
  rw [if_neg (show ¬ (5 : Int32) < 3 by decide), if_neg (show ¬ (5 : Int32) < 5 by decide)]
  show _ = some (some (Value.int (holdA P A r)), hp G1)
  have inner : ∀ (i : Nat) (hi : i < pNi P) (j k f : Nat) (a : Int32), k + j = (aL A i).flatten.length → j < f → mm_run p_Md_row f 85 [.ref 618, .int (nI r), .int a, .int (nI i), .int (nI k)] [] (hp G1) = mm_run p_Md_row (f - j) 85 [.ref 618, .int (nI r), .int (if ((aL A i).flatten.drop k).any (fun c => decide (c % 32 = r)) then a ||| sbit i else a), .int (nI i), .int (nI (aL A i).flatten.length)] [] (hp G1) := by
    intro i hi j
    have h30 := (h.kl hi).2.1
    induction j with
    | zero =>
      intro k f a hk hf
      rw [show k = (aL A i).flatten.length by omega, List.drop_of_length_le (Nat.le_refl _), List.any_nil, if_neg (by decide), Nat.sub_zero]
    | succ j ih =>
      intro k f a hk hf
      obtain ⟨f, rfl⟩ : ∃ g, f = g + 1 := ⟨f - 1, by omega⟩
      have hlt : k < (aL A i).flatten.length := by omega
      have hm32 : (aL A i).flatten[k] % 32 < 32 := Nat.mod_lt _ (by decide)
      rw [e_Md_row_85, show f_Md_entries [.ref 618, .int 0, .int (nI i)] (hp G1) = _ from H.ent h.os hi, ci_some, if_pos (lp hlt (by omega)), show f_Md_rowAt [.ref 618, .int 0, .int (nI i), .int (nI k)] (hp G1) = _ from H.rat h.os hi hlt, ci_some, show nI k + 1 = nI (k + 1) from nI_add k 1, drop_cons hlt, List.any_cons, show f + 1 - (j + 1) = f - j by omega, show (1 : Int32) <<< (nI i &&& 31) = sbit i from rfl]
      by_cases e : (aL A i).flatten[k] % 32 = r
      · rw [if_pos (by rw [e]), decide_eq_true e, Bool.true_or, if_pos rfl, ih (k + 1) f _ (by omega) (by omega)]
        have : (if ((aL A i).flatten.drop (k + 1)).any (fun c => decide (c % 32 = r)) then a ||| sbit i ||| sbit i else a ||| sbit i) = a ||| sbit i := by
          have h2 : a ||| sbit i ||| sbit i = a ||| sbit i := b_ext (fun q hq => by rw [b_or, b_or]; cases bt a q <;> cases bt (sbit i) q <;> rfl)
          rw [h2]
          split <;> rfl
        rw [this]
      · rw [if_neg (ln e (by omega) (by omega)), decide_eq_false e, Bool.false_or, or_zero, ih (k + 1) f _ (by omega) (by omega)]
  have hany : ∀ i, (aL A i).flatten.any (fun c => decide (c % 32 = r)) = bt (rb (aL A i)) r := fun i => by
    rw [bt_rb _ (show r < 32 by omega), Bool.eq_iff_iff, List.any_eq_true, decide_eq_true_eq, List.mem_map]
    simp only [decide_eq_true_eq]
  have key : ∀ (j i f : Nat), i + j = pNi P → 100 * j < f → mm_run p_Md_row f 73 [.ref 618, .int (nI r), .int (msk (fun i => bt (rb (aL A i)) r) i), .int (nI i)] [] (hp G1) = some (some (.int (holdA P A r)), hp G1) := by
    intro j
    induction j with
    | zero =>
      intro i f hj hf
      obtain ⟨f, rfl⟩ : ∃ g, f = g + 1 := ⟨f - 1, by omega⟩
      rw [e_Md_row_73, m_indexes H.hP, ci_some, if_neg (lm (by omega) (by omega)), show i = pNi P by omega]
      rfl
    | succ j ih =>
      intro i f hj hf
      obtain ⟨f, rfl⟩ : ∃ g, f = g + 1 := ⟨f - 1, by omega⟩
      have hi : i < pNi P := by omega
      have h30 := (h.kl hi).2.1
      have hin := inner i hi (aL A i).flatten.length 0 f (msk (fun i => bt (rb (aL A i)) r) i) (by omega) (by omega)
      obtain ⟨f', hf'⟩ : ∃ g, f - (aL A i).flatten.length = g + 1 := ⟨f - (aL A i).flatten.length - 1, by omega⟩
      rw [List.drop_zero, hany, hf'] at hin
      rw [e_Md_row_73, m_indexes H.hP, ci_some, if_pos (lp hi (by omega)), show mm_run p_Md_row f 85 [.ref 618, .int (nI r), .int (msk (fun i => bt (rb (aL A i)) r) i), .int (nI i), .int 0] [] (hp G1) = _ from hin, e_Md_row_85, show f_Md_entries [.ref 618, .int 0, .int (nI i)] (hp G1) = _ from H.ent h.os hi, ci_some, if_neg (lm (Nat.le_refl _) (by omega)), show nI i + 1 = nI (i + 1) from nI_add i 1]
      have := ih (i + 1) f' (by omega) (by omega)
      cases hb : bt (rb (aL A i)) r
      · rw [msk_n (p := fun i => bt (rb (aL A i)) r) hb] at this
        rw [if_neg (by decide)]
        exact this
      · rw [msk_y (p := fun i => bt (rb (aL A i)) r) hb] at this
        rw [if_pos rfl]
        exact this
  exact key (pNi P) 0 mm_fu (by omega) (fu_lt (by omega))
/-- POINTER, NEEDS -/
theorem MS.ptr0 (H : MS G 0 P A) {p : Nat} (hp1 : p < aN A) : G.1 628 (43 + p) = nI (aS A p) ∧ G.1 628 (55 + p) = aT A p := by
  have := H.pt.2 p hp1
  rw [Nat.zero_add, Nat.zero_add] at this
  exact this
theorem r_pointer (W : MW Z G P T A U cu) (x w : Int32) : ∃ G', f_Md_pointer [.ref 618, .int x, .int w] (hp G) = some (some (.int (poiW A x w)), hp G') ∧ MW Z G' P T A U cu := by
  have W1 := W.th 0
  rw [e_Md_pointer 618 _ _ _ (ob_Md G), ww_Md_thrown, Option.bind_some]
  generalize gsi G 618 0 0 = G1 at W1 ⊢
  refine ⟨G1, ?_, W1⟩
  have H := W1.ms
  have h := W1.inv
  have hk12 := h.kp.1
  rw [m_isPointer H h, ci_some]
  unfold poiW
  cases hx : !decide (x < 0) && decide (x.toNatClampNeg < aN A)
  · rw [if_pos (by decide)]; rfl
  simp only [Bool.and_eq_true, Bool.not_eq_true', decide_eq_false_iff_not, decide_eq_true_eq] at hx
  obtain ⟨r, hr, rfl⟩ := (n_cases x).resolve_left hx.1
  obtain ⟨-, hlt⟩ := hx
  rw [nI_tn (by omega)] at hlt ⊢
  obtain ⟨c43, c55⟩ := H.ptr0 hlt
  rw [if_neg (by decide), if_pos (show true = true from rfl), s_withX, ci_some]
  by_cases hw : w < 0 ∨ 1 < w
  · rw [wi_no hw, if_pos (by rfl), if_neg (out_ne hw (by decide) (by decide)), if_neg (out_ne hw (by decide) (by decide))]
  have w0 : ¬ w < 0 := fun q => hw (Or.inl q)
  have w1 : ¬ 1 < w := fun q => hw (Or.inr q)
  rw [wi_yes w0 w1, if_neg (by decide), gg_Md_state, Option.bind_some]
  rcases in_1 w0 w1 with e | e <;> subst e
  · rw [if_pos rfl, show (43 : Int32) + nI r = nI (43 + r) from nI_add 43 _, rr_Md_state _ (by omega), Option.bind_some, c43]; rfl
  · rw [if_neg (by decide), show (55 : Int32) + nI r = nI (55 + r) from nI_add 55 _, rr_Md_state _ (by omega), Option.bind_some, c55]; rfl
theorem r_needs (W : MW Z G P T A U cu) (x : Int32) : ∃ G', f_Md_needs [.ref 618, .int x] (hp G) = some (some (.int (neeW A x)), hp G') ∧ MW Z G' P T A U cu := by
  have W1 := W.th 0
  rw [e_Md_needs 618 _ _ (ob_Md G), ww_Md_thrown, Option.bind_some]
  generalize gsi G 618 0 0 = G1 at W1 ⊢
  refine ⟨G1, ?_, W1⟩
  have H := W1.ms
  have h := W1.inv
  have hk12 := h.kp.1
  rw [m_isPointer H h, ci_some]
  unfold neeW
  cases hx : !decide (x < 0) && decide (x.toNatClampNeg < aN A)
  · rw [if_pos (by decide)]; rfl
  simp only [Bool.and_eq_true, Bool.not_eq_true', decide_eq_false_iff_not, decide_eq_true_eq] at hx
  obtain ⟨r, hr, rfl⟩ := (n_cases x).resolve_left hx.1
  obtain ⟨-, hlt⟩ := hx
  rw [nI_tn (by omega)] at hlt ⊢
  obtain ⟨c43, c55⟩ := H.ptr0 hlt
  rw [if_neg (by decide), if_pos (show true = true from rfl), gg_Md_state, Option.bind_some, show (55 : Int32) + nI r = nI (55 + r) from nI_add 55 _, rr_Md_state _ (by omega), Option.bind_some, c55]
  by_cases hT : aT A r < 0
  · rw [if_pos hT, havX_neg hT (fun q hq => by have := h.kr.2.1 q 0 (h.kr.vis hq) (by decide); omega)]
  · rw [if_neg hT, show f_Md_visible [.ref 618, .int 0] (hp G1) = _ from m_visible H, ci_some, show f_Md_having [.ref 618, .int 0, .int (visA A), .int 0, .int (aT A r)] (hp G1) = some (some (.int (havX (aV A) (visA A) 0 (aT A r))), hp G1) from s_havX H h (k := 0) (fun q hq => h.kr.vis hq) (by decide) _, ci_some]
/-- FITS, HINDERS, FREE, WOULD -/
theorem m_vis0 (H : MS G 0 P A) (h : INV P A) (x : Int32) : f_Md_isVisible [.ref 618, .int 0, .int x] (hp G) = some (some (.int (b2 (!decide (x < 0) && bt (visA A) x.toNatClampNeg))), hp G) := by
  by_cases hx : x < 0
  · rw [m_vis_neg H h hx, decide_eq_true hx]; rfl
  · obtain ⟨r, hr, rfl⟩ := (n_cases x).resolve_left hx
    rw [show f_Md_isVisible [.ref 618, .int 0, .int (nI r)] (hp G) = _ from m_isVisible H h hr, decide_eq_false hx, nI_tn (by omega)]
    rfl
theorem r_fits (W : MW Z G P T A U cu) (x w : Int32) : ∃ G', f_Md_fits [.ref 618, .int x, .int w] (hp G) = some (some (.int (b2 (fitW P A x w))), hp G') ∧ MW Z G' P T A U cu := by
  have W1 := W.th 0
  rw [e_Md_fits 618 _ _ _ (ob_Md G), ww_Md_thrown, Option.bind_some]
  generalize gsi G 618 0 0 = G1 at W1 ⊢
  refine ⟨G1, ?_, W1⟩
  have H := W1.ms
  have h := W1.inv
  rw [s_withX, ci_some]
  unfold fitW
  by_cases hw : w < 0 ∨ 1 < w
  · rw [wi_no hw, if_pos (by rfl), if_neg (out_ne hw (by decide) (by decide)), if_neg (out_ne hw (by decide) (by decide)), Bool.and_false, Bool.and_false]
    rfl
  have w0 : ¬ w < 0 := fun q => hw (Or.inl q)
  have w1 : ¬ 1 < w := fun q => hw (Or.inr q)
  rw [wi_yes w0 w1, if_neg (by decide), m_vis0 H h, ci_some, ← Bool.and_assoc]
  cases hv : !decide (x < 0) && bt (visA A) x.toNatClampNeg
  · rw [if_pos (by decide)]; rfl
  simp only [Bool.and_eq_true, Bool.not_eq_true', decide_eq_false_iff_not] at hv
  obtain ⟨r, hr, rfl⟩ := (n_cases x).resolve_left hv.1
  obtain ⟨-, hv⟩ := hv
  rw [nI_tn (by omega)] at hv ⊢
  have hm := h.kr.vis hv
  have hso0 : f_Md_isSo [.ref 618, .int 0, .int 0, .int (nI r)] (hp G1) = some (some (.int (b2 (chooA P A r))), hp G1) := m_choose (H.rows h) H.hP h.pp hm
  have hso1 : f_Md_isSo [.ref 618, .int 0, .int 1, .int (nI r)] (hp G1) = some (some (.int (b2 (partA P A r))), hp G1) := m_part (H.rows h) H.hP h.pp hm
  rw [if_neg (by decide), Bool.true_and]
  rcases in_1 w0 w1 with e | e <;> subst e
  · rw [hso0, ci_some, if_pos rfl]
    cases chooA P A r
    · rw [if_pos (by decide)]; rfl
    · rw [if_neg (by decide)]; rfl
  · rw [hso1, ci_some, if_neg (show ¬ (1 : Int32) = 0 by decide), if_pos (show (1 : Int32) = 1 from rfl)]
    cases partA P A r
    · rw [if_pos (by decide)]; rfl
    · rw [if_neg (by decide)]; rfl
theorem r_hinders (W : MW Z G P T A U cu) : ∃ G', f_Md_hinders_ [.ref 618] (hp G) = some (some (.int (hindA A (wouldA P A))), hp G') ∧ MW Z G' P T A U cu := by
  have W1 := W.th 0
  rw [e_Md_hinders_ 618 _ (ob_Md G), ww_Md_thrown, Option.bind_some]
  generalize gsi G 618 0 0 = G1 at W1 ⊢
  refine ⟨G1, ?_, W1⟩
  rw [show f_Md_wouldChoose [.ref 618, .int 0] (hp G1) = _ from m_wouldChoose W1.ms W1.inv, ci_some, show f_Md_hindering [.ref 618, .int 0, .int (wouldA P A)] (hp G1) = _ from m_hindering W1.ms W1.inv (fun r hr => would_vis W1.inv hr), ci_some]
theorem r_free (W : MW Z G P T A U cu) (x : Int32) : ∃ G', f_Md_free [.ref 618, .int x] (hp G) = some (some (.int (b2 (freW P A x))), hp G') ∧ MW Z G' P T A U cu := by
  have W1 := W.th 0
  rw [e_Md_free 618 _ _ (ob_Md G), ww_Md_thrown, Option.bind_some]
  generalize gsi G 618 0 0 = G1 at W1 ⊢
  refine ⟨G1, ?_, W1⟩
  have H := W1.ms
  have h := W1.inv
  rw [m_vis0 H h, ci_some]
  unfold freW
  by_cases hx : x < 0
  · rw [decide_eq_true hx]; rfl
  obtain ⟨r, hr, rfl⟩ := (n_cases x).resolve_left hx
  rw [decide_eq_false hx, nI_tn (by omega), Bool.not_false, Bool.true_and, Bool.true_and]
  cases hv : bt (visA A) r
  · rw [if_pos (by decide)]
    unfold canExp
    rw [hv]
    rfl
  · rw [if_neg (by decide), show f_Md_canGo [.ref 618, .int 0, .int (nI r)] (hp G1) = _ from m_canGo H h hv, ci_some]
    cases canExp P A r
    · rw [if_pos (by decide)]; rfl
    · rw [if_neg (by decide)]; rfl
theorem r_would (W : MW Z G P T A U cu) (x y z : Int32) : ∃ G', f_Md_would [.ref 618, .int x, .int y, .int z] (hp G) = some (some (.int (wouW P A x y z)), hp G') ∧ MW Z G' P T A U cu := by
  have W1 := W.th 0
  rw [e_Md_would 618 _ _ _ _ (ob_Md G), ww_Md_thrown, Option.bind_some]
  generalize gsi G 618 0 0 = G1 at W1 ⊢
  refine ⟨G1, ?_, W1⟩
  have H := W1.ms
  have h := W1.inv
  have hr30 := h.kr.1
  obtain ⟨-, -, c2, -, -⟩ := H.c0
  rw [s_Md_isValue, ci_some]
  unfold wouW
  cases hx : isVal x
  · rw [if_pos (by decide)]; rfl
  rw [if_neg (by decide), s_Md_isValue, ci_some]
  cases hy : isVal y
  · rw [if_pos (by decide)]; rfl
  rw [if_neg (by decide), s_Md_isValue, ci_some]
  cases hz : isVal z
  · rw [if_pos (by decide)]; rfl
  obtain ⟨a, ha, rfl⟩ := (isVal_iff x).mp hx
  obtain ⟨b, hb, rfl⟩ := (isVal_iff y).mp hy
  obtain ⟨c, hc, rfl⟩ := (isVal_iff z).mp hz
  rw [if_neg (by decide), if_pos (show (true && (true && true)) = true from rfl), gg_Md_state, Option.bind_some, rd_c G1 2 (by decide), Option.bind_some, c2, nI_tn (by omega), nI_tn (by omega), nI_tn (by omega)]
  by_cases hm : aM A < 30
  · rw [if_neg (show ¬ nI (aM A) = (30 : Int32) from ln (n := 30) (by omega) (by omega) (by decide)), if_pos hm, show f_Md_onceClash [.ref 618, .int 0, .int 0, .int (nI a), .int (-1)] (hp G1) = _ from m_onceClash H h (k := 0) (by decide) ha (Or.inl (by decide)), ci_some, show f_Md_onceClash [.ref 618, .int 0, .int 1, .int (nI b), .int (-1)] (hp G1) = _ from m_onceClash H h (k := 1) (by decide) hb (Or.inl (by decide)), ci_some, show f_Md_onceClash [.ref 618, .int 0, .int 2, .int (nI c), .int (-1)] (hp G1) = _ from m_onceClash H h (k := 2) (by decide) hc (Or.inl (by decide)), ci_some]
  · rw [if_pos (show nI (aM A) = (30 : Int32) from lq (n := 30) (by omega)), if_neg hm, m_indexes H.hP, ci_some]
    rfl
/-- JOB, SIDE, RECORD, STEPS -/
theorem r_job (W : MW Z G P T A U cu) (w : Int32) : ∃ G', f_Md_job [.ref 618, .int w] (hp G) = some (some (.int (jobW A w)), hp G') ∧ MW Z G' P T A U cu := by
  have W1 := W.th 0
  rw [e_Md_job 618 _ _ (ob_Md G), ww_Md_thrown, Option.bind_some]
  generalize gsi G 618 0 0 = G1 at W1 ⊢
  refine ⟨G1, ?_, W1⟩
  have H := W1.ms
  have h := W1.inv
  obtain ⟨-, c1, -, -, -⟩ := H.c0
  rw [gg_Md_state, Option.bind_some, rd_c G1 5 (by decide), Option.bind_some]
  have hj := H.j
  unfold jobW
  cases hJ : aJ A with
  | none =>
    rw [hJ] at hj
    have h5 : G1.1 628 5 = 0 := hj.1
    rw [h5, if_pos rfl]
  | some J =>
    rw [hJ] at hj
    obtain ⟨c5, c6, c7, c8, c9, c10, c11, c12⟩ := hj.1
    rw [Nat.zero_add] at c5 c6 c7 c8 c9 c10 c11 c12
    rw [c5, if_neg (by decide), Option.bind_some]
    show _ = some (some (Value.int (if w = 0 then nI (jAt J) else if w = 1 then jWy J else if w = 2 then aC A else if w = 3 then nI (jSi J) else if w = 4 then nI (jRe J).length else if w = 5 then b2 (jDn J) else if w = 6 then nI (jSd J).length else -1)), hp G1)
    by_cases e0 : w = 0
    · rw [if_pos e0, if_pos e0, rd_c G1 6 (by decide), Option.bind_some, c6]
    rw [if_neg e0, if_neg e0, Option.bind_some]
    by_cases e1 : w = 1
    · rw [if_pos e1, if_pos e1, rd_c G1 7 (by decide), Option.bind_some, c7]
    rw [if_neg e1, if_neg e1, Option.bind_some]
    by_cases e2 : w = 2
    · rw [if_pos e2, if_pos e2, rd_c G1 1 (by decide), Option.bind_some, c1]
    rw [if_neg e2, if_neg e2, Option.bind_some]
    by_cases e3 : w = 3
    · rw [if_pos e3, if_pos e3, rd_c G1 8 (by decide), Option.bind_some, c8]
    rw [if_neg e3, if_neg e3, Option.bind_some]
    by_cases e4 : w = 4
    · rw [if_pos e4, if_pos e4, rd_c G1 10 (by decide), Option.bind_some, c10]
    rw [if_neg e4, if_neg e4, Option.bind_some]
    by_cases e5 : w = 5
    · rw [if_pos e5, if_pos e5, rd_c G1 11 (by decide), Option.bind_some, c11]
    rw [if_neg e5, if_neg e5, Option.bind_some]
    by_cases e6 : w = 6
    · rw [if_pos e6, if_pos e6, rd_c G1 12 (by decide), Option.bind_some, c12]
    rw [if_neg e6, if_neg e6]
theorem r_side (W : MW Z G P T A U cu) (x : Int32) : ∃ G', f_Md_side [.ref 618, .int x] (hp G) = some (some (.int (sidW A x)), hp G') ∧ MW Z G' P T A U cu := by
  have W1 := W.th 0
  rw [e_Md_side 618 _ _ (ob_Md G), ww_Md_thrown, Option.bind_some]
  generalize gsi G 618 0 0 = G1 at W1 ⊢
  refine ⟨G1, ?_, W1⟩
  have H := W1.ms
  have h := W1.inv
  have hj := H.j
  unfold sidW
  by_cases hx : x < 0
  · rw [if_pos hx]
    cases hJ : aJ A with
    | none => rfl
    | some J =>
      show _ = some (some (Value.int (if x < 0 then -2147483648 else (jSd J)[x.toNatClampNeg]?.getD (-2147483648))), hp G1)
      rw [if_pos hx]
  obtain ⟨r, hr, rfl⟩ := (n_cases x).resolve_left hx
  rw [if_neg hx, gg_Md_state, Option.bind_some, rd_c G1 12 (by decide), Option.bind_some]
  cases hJ : aJ A with
  | none =>
    rw [hJ] at hj
    have h12 : G1.1 628 12 = 0 := hj.2
    rw [h12, if_neg hx]
  | some J =>
    rw [hJ] at hj
    have hk := h.ka.2.2.2
    rw [hJ] at hk
    obtain ⟨-, -, k3, -⟩ := (show okJ J from hk)
    obtain ⟨⟨-, -, -, -, -, -, -, c12⟩, sd, -⟩ := hj
    rw [Nat.zero_add] at c12
    show _ = some (some (Value.int (if nI r < 0 then -2147483648 else (jSd J)[(nI r).toNatClampNeg]?.getD (-2147483648))), hp G1)
    rw [c12, if_neg hx, nI_tn (by omega)]
    by_cases hlt : r < (jSd J).length
    · have := sd r hlt
      rw [Nat.zero_add] at this
      rw [if_pos (lp hlt (by omega)), Option.bind_some, show (79 : Int32) + nI r = nI (79 + r) from nI_add 79 _, rr_Md_state _ (by omega), Option.bind_some, this, List.getElem?_eq_getElem hlt]
      rfl
    · rw [if_neg (lm (by omega) hr), List.getElem?_eq_none (by omega)]
      rfl
theorem r_record (W : MW Z G P T A U cu) (x w : Int32) : ∃ G', f_Md_record [.ref 618, .int x, .int w] (hp G) = some (some (.int (recW A x w)), hp G') ∧ MW Z G' P T A U cu := by
  have W1 := W.th 0
  rw [e_Md_record 618 _ _ _ (ob_Md G), ww_Md_thrown, Option.bind_some]
  generalize gsi G 618 0 0 = G1 at W1 ⊢
  refine ⟨G1, ?_, W1⟩
  have H := W1.ms
  have h := W1.inv
  have hj := H.j
  rw [gg_Md_state, Option.bind_some, rd_c G1 5 (by decide), Option.bind_some]
  unfold recW
  cases hJ : aJ A with
  | none =>
    rw [hJ] at hj
    have h5 : G1.1 628 5 = 0 := hj.1
    rw [h5, if_pos rfl]
  | some J =>
    rw [hJ] at hj
    have hk := h.ka.2.2.2
    rw [hJ] at hk
    obtain ⟨-, k2, -, -, -, k4, -⟩ := (show okJ J from hk)
    obtain ⟨⟨c5, -, -, -, -, c10, -, -⟩, -, rr, -⟩ := hj
    rw [Nat.zero_add] at c5 c10
    rw [c5, if_neg (by decide)]
    show _ = some (some (Value.int (if x < 0 then -1 else match (jRe J)[x.toNatClampNeg]? with
      | none => -1
      | some q => if w = 0 then nI q.1 else if w = 1 then nI q.2.1 else if w = 2 then q.2.2 else -1)), hp G1)
    by_cases hx : x < 0
    · rw [if_pos hx, if_pos hx]
    obtain ⟨r, hr, rfl⟩ := (n_cases x).resolve_left hx
    rw [if_neg hx, if_neg hx, Option.bind_some, rd_c G1 10 (by decide), Option.bind_some, c10, nI_tn (by omega)]
    by_cases hlt' : ¬ r < (jRe J).length
    · rw [if_neg (lm (by omega) hr), List.getElem?_eq_none (by omega)]
    have hlt : r < (jRe J).length := Decidable.not_not.mp hlt'
    have hc := rr r hlt
    rw [Nat.zero_add] at hc
    rw [if_pos (lp hlt (by omega)), s_withX, ci_some, List.getElem?_eq_getElem hlt]
    show _ = some (some (Value.int (if w = 0 then nI (jRe J)[r].1 else if w = 1 then nI (jRe J)[r].2.1 else if w = 2 then (jRe J)[r].2.2 else -1)), hp G1)
    by_cases hw : w < 0 ∨ 2 < w
    · rw [wi_no hw, if_pos (by rfl), if_neg (out_ne hw (by decide) (by decide)), if_neg (out_ne hw (by decide) (by decide)), if_neg (out_ne hw (by decide) (by decide))]
    have w0 : ¬ w < 0 := fun q => hw (Or.inl q)
    have w2 : ¬ 2 < w := fun q => hw (Or.inr q)
    have hq := k4 (jRe J)[r] (List.getElem_mem hlt)
    rw [wi_yes w0 w2, if_neg (by decide), show (2 : Int32) * nI r = nI (2 * r) from n_mul 2 _, show (119 : Int32) + nI (2 * r) = nI (119 + 2 * r) from nI_add 119 _, show nI (119 + 2 * r) + 1 = nI (119 + 2 * r + 1) from nI_add _ 1]
    rcases in_2 w0 w2 with e | e | e <;> subst e
    · rw [if_pos rfl, if_pos rfl, gg_Md_state, Option.bind_some, rr_Md_state _ (by omega), Option.bind_some, hc.1, show nI (32 * (jRe J)[r].1 + (jRe J)[r].2.1) / (32 : Int32) = nI ((32 * (jRe J)[r].1 + (jRe J)[r].2.1) / 32) from n_div (b := 32) (by omega) (by decide) (by decide), show (32 * (jRe J)[r].1 + (jRe J)[r].2.1) / 32 = (jRe J)[r].1 by omega]
    · rw [if_neg (show ¬ (1 : Int32) = 0 by decide), if_neg (show ¬ (1 : Int32) = 0 by decide), if_pos (show (1 : Int32) = 1 from rfl), if_pos (show (1 : Int32) = 1 from rfl), gg_Md_state, Option.bind_some, rr_Md_state _ (by omega), Option.bind_some, hc.1, show mm_rem (nI (32 * (jRe J)[r].1 + (jRe J)[r].2.1)) (32 : Int32) = nI ((32 * (jRe J)[r].1 + (jRe J)[r].2.1) % 32) from n_rem (b := 32) (by omega) (by decide) (by decide), show (32 * (jRe J)[r].1 + (jRe J)[r].2.1) % 32 = (jRe J)[r].2.1 by omega]
    · rw [if_neg (show ¬ (2 : Int32) = 0 by decide), if_neg (show ¬ (2 : Int32) = 0 by decide), if_neg (show ¬ (2 : Int32) = 1 by decide), if_neg (show ¬ (2 : Int32) = 1 by decide), if_pos rfl, gg_Md_state, Option.bind_some, rr_Md_state _ (by omega), Option.bind_some, hc.2]
theorem r_steps (W : MW Z G P T A U cu) : ∃ G', f_Md_steps [.ref 618] (hp G) = some (some (.int (steW P A)), hp G') ∧ MW Z G' P T A U cu := by
  have hn := W.inv.ni
  have W1 := W.th 0
  rw [e_Md_steps 618 _ (ob_Md G), ww_Md_thrown, Option.bind_some]
  generalize gsi G 618 0 0 = G1 at W1 ⊢
  refine ⟨G1, ?_, W1⟩
  have H := W1.ms
  have h := W1.inv
  have hj := H.j
  obtain ⟨-, c1, -, -, -⟩ := H.c0
  rw [gg_Md_state, Option.bind_some, rd_c G1 5 (by decide), Option.bind_some]
  unfold steW
  cases hJ : aJ A with
  | none =>
    rw [hJ] at hj
    have h5 : G1.1 628 5 = 0 := hj.1
    rw [h5, if_pos rfl]
  | some J =>
    rw [hJ] at hj
    have c5 := hj.1.1
    rw [Nat.zero_add] at c5
    rw [c5, if_neg (by decide)]
    have hd : doomA P A = aC A := by unfold doomA; rw [hJ]
    have := fold_loop (n := pNi P) (g := fun a i => a + bc (leftA P A i)) (R := fun f i a => mm_run p_Md_steps f 20 [.ref 618, .int (nI (1 + a)), .int (nI i)] [] (hp G1)) (fin := fun a => some (some (Value.int (nI (a + 1))), hp G1)) (fun _ _ => True) (fun f i a hi _ => by
      refine ⟨?_, trivial⟩
      show mm_run p_Md_steps (f + 1) 20 _ [] (hp G1) = mm_run _ _ _ _ _ _
      rw [e_Md_steps_20, m_indexes H.hP, ci_some, if_pos (lp hi (by omega)), gg_Md_state, Option.bind_some, rd_c G1 1 (by decide), Option.bind_some, c1, show f_Md_leftMany [.ref 618, .int 0, .int (nI i), .int (aC A)] (hp G1) = _ from s_Md_leftMany H.hb (by omega) (H.tr hi) (h.kl hi) _, ci_some, ← bc_left _ (h.kl hi), i_add, show nI i + 1 = nI (i + 1) from nI_add i 1]
      unfold leftA
      rw [hd, Nat.add_assoc]) (fun f a _ => by
      show mm_run p_Md_steps (f + 1) 20 _ [] (hp G1) = _
      rw [e_Md_steps_20, m_indexes H.hP, ci_some, if_neg (lm (Nat.le_refl _) (by omega)), Nat.add_comm 1 a]) trivial (a := 0) (f := mm_fu) (fu_lt (by omega))
    exact this.1
end MWO
