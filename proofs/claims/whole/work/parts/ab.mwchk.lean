/-! THE REFERENCE: references looked at -/
def cntE (l : List Nat) (x : Nat) : Nat := (l.filter (fun y => decide (y = x))).length
def geL (l : List Nat) (v : Nat) : List Nat := l.filter (fun y => decide (v ≤ y))
theorem cnt_sum (l : List Nat) : ∀ n, ((List.range n).map (cntE l)).sum = (l.filter (fun y => decide (y < n))).length
  | 0 => by
    rw [List.filter_eq_nil_iff.mpr (fun y _ => by simp)]
    rfl
  | n + 1 => by
    rw [List.range_succ, List.map_append, List.sum_append, cnt_sum l n]
    simp only [List.map_cons, List.map_nil, List.sum_cons, List.sum_nil, Nat.add_zero]
    unfold cntE
    induction l with
    | nil => rfl
    | cons y l ih =>
      rw [List.filter_cons, List.filter_cons, List.filter_cons]
      by_cases h1 : y < n
      · rw [if_pos (decide_eq_true h1), if_neg (by rw [decide_eq_false (by omega)]; decide), if_pos (decide_eq_true (by omega)), List.length_cons, List.length_cons]; omega
      · by_cases h2 : y = n
        · rw [if_neg (by rw [decide_eq_false h1]; decide), if_pos (decide_eq_true h2), if_pos (decide_eq_true (by omega)), List.length_cons, List.length_cons]; omega
        · rw [if_neg (by rw [decide_eq_false h1]; decide), if_neg (by rw [decide_eq_false h2]; decide), if_neg (by rw [decide_eq_false (by omega)]; decide)]; exact ih
theorem geL_0 (l : List Nat) : geL l 0 = l := List.filter_eq_self.mpr (fun y _ => by simp)
theorem geL_top {l : List Nat} {b v : Nat} (h : ∀ y ∈ l, y ≤ b) (hv : b < v) : geL l v = [] := List.filter_eq_nil_iff.mpr (fun y hy => by have := h y hy; simp; omega)
theorem geL_perm (l : List Nat) (v : Nat) : (List.replicate (cntE l v) v ++ geL l (v + 1)).Perm (geL l v) := by
  have h := List.filter_append_perm (fun y => decide (y = v)) (geL l v)
  have e1 : (geL l v).filter (fun y => decide (y = v)) = List.replicate (cntE l v) v := by
    unfold geL cntE
    rw [List.filter_filter, List.eq_replicate_iff]
    refine ⟨?_, fun y hy => ?_⟩
    · congr 1
      apply List.filter_congr
      intro y _
      by_cases e : y = v
      · simp [e]
      · simp [e]
    · have := (List.mem_filter.mp hy).2
      simp only [Bool.and_eq_true, decide_eq_true_eq] at this
      exact this.1
  have e2 : (geL l v).filter (fun y => !decide (y = v)) = geL l (v + 1) := by
    unfold geL
    rw [List.filter_filter]
    apply List.filter_congr
    intro y _
    rw [Bool.eq_iff_iff]
    simp only [Bool.and_eq_true, Bool.not_eq_true', decide_eq_true_eq, decide_eq_false_iff_not]
    omega
  rw [e1, e2] at h
  exact h
theorem geL_so (l : List Nat) (v : Nat) : so (geL l v) = List.replicate (cntE l v) v ++ so (geL l (v + 1)) := by
  refine (so_eq ?_ ((List.Perm.append_left _ (so_perm _)).trans (geL_perm l v))).symm
  rw [List.pairwise_append]
  refine ⟨List.pairwise_replicate.mpr (Or.inr (Nat.le_refl _)), so_sorted _, fun x hx y hy => ?_⟩
  have h1 := List.eq_of_mem_replicate hx
  have h2 := (List.mem_filter.mp ((so_perm _).mem_iff.mp hy)).2
  simp only [decide_eq_true_eq] at h2
  omega
theorem geL_len (l : List Nat) (v : Nat) : (geL l v).length = cntE l v + (geL l (v + 1)).length := by
  have := (geL_perm l v).length_eq
  rw [List.length_append, List.length_replicate] at this
  omega
theorem cmp_p (v : Nat) (P' : List Nat) {Q : List Nat} (hQ : Q ≠ []) (hq : ∀ y ∈ Q, v ≤ y) : ∀ a, cmpL (List.replicate a v ++ P') Q = a + cmpL P' Q
  | 0 => by simp
  | a + 1 => by
    obtain ⟨q, qs, rfl⟩ := List.exists_cons_of_ne_nil hQ
    have h1 := hq q List.mem_cons_self
    rw [List.replicate_succ, List.cons_append, cmpL_cons, if_neg (by omega), cmp_p v P' hQ hq a]
    omega
theorem cmp_q (v : Nat) {P' : List Nat} (hP : P' ≠ []) (hp1 : ∀ y ∈ P', v < y) (Q' : List Nat) : ∀ b, cmpL P' (List.replicate b v ++ Q') = b + cmpL P' Q'
  | 0 => by simp
  | b + 1 => by
    obtain ⟨p, ps, rfl⟩ := List.exists_cons_of_ne_nil hP
    have h1 := hp1 p List.mem_cons_self
    rw [List.replicate_succ, List.cons_append, cmpL_cons, if_pos h1, cmp_q v hP hp1 Q' b]
    omega
/-- value by value -/
theorem cmp_v (P' Q : List Nat) (v : Nat) (hQ : geL Q v ≠ []) : cmpL (so (geL P' v)) (so (geL Q v)) = cntE P' v + if geL P' (v + 1) = [] then 0 else cntE Q v + cmpL (so (geL P' (v + 1))) (so (geL Q (v + 1))) := by
  have hQ2 : so (geL Q v) ≠ [] := fun e => hQ (List.length_eq_zero_iff.mp (by rw [← so_len, e]; rfl))
  rw [geL_so P' v, cmp_p v _ hQ2 (fun y hy => by
    have := (List.mem_filter.mp ((so_perm _).mem_iff.mp hy)).2
    simpa using this)]
  congr 1
  by_cases h : geL P' (v + 1) = []
  · rw [if_pos h, h, show so [] = [] from so_short (by simp), cmpL_nil]
  · rw [if_neg h, geL_so Q v, cmp_q v (fun e => h (List.length_eq_zero_iff.mp (by rw [← so_len, e]; rfl))) (fun y hy => by
      have := (List.mem_filter.mp ((so_perm _).mem_iff.mp hy)).2
      simp only [decide_eq_true_eq] at this
      omega)]
theorem bc_30 {x : Int32} {m : Nat} (hm : m ≤ 32) (h : ∀ r, bt x r = true → r < m) : bc x = ((List.range m).filter (bt x)).length := by
  unfold bc
  have key : ∀ k, ((List.range (m + k)).filter (bt x)).length = ((List.range m).filter (bt x)).length := fun k => by
    induction k with
    | zero => rfl
    | succ k ih =>
      have hb : bt x (m + k) = false := by
        cases e : bt x (m + k)
        · rfl
        · have := h _ e; omega
      rw [← Nat.add_assoc, List.range_succ, List.filter_append, List.filter_cons, hb, if_neg (by decide), List.filter_nil, List.append_nil, ih]
  have h32 : (32 : Nat) = m + (32 - m) := by omega
  rw [h32]
  exact key (32 - m)
section MWC
variable {Z G G' : GG} {i : Nat} {P : PP} {T : TT} {A A' B : AS} {U : List AS} {cu : CU}
theorem m_firmAt (H : MS G 0 P A) (h : INV P A) {v : Nat} (hv : v ≤ 999) : f_Md_firmAt [.ref 618, .int (nI v)] (hp G) = some (some (.int (nI (cntE (ptL A) v))), hp G) := by
  have hk12 := h.kp.1
  obtain ⟨-, -, -, -, c4⟩ := H.c0
  rw [e_Md_firmAt 618 _ _ (ob_Md G)]
  have := fold_loop (n := aN A) (g := fun a p => a + (if isFirmP (aS A) (aT A) p && decide ((aT A p).toNatClampNeg = v) then 1 else 0)) (R := fun f p a => mm_run p_Md_firmAt f 4 [.ref 618, .int (nI v), .int (nI a), .int (nI p)] [] (hp G)) (fin := fun a => some (some (Value.int (nI a)), hp G)) (fun _ _ => True) (fun f p a hpn _ => by
    refine ⟨?_, trivial⟩
    show mm_run p_Md_firmAt (f + 1) 4 _ [] (hp G) = mm_run p_Md_firmAt f 4 _ [] (hp G)
    obtain ⟨c43, c55⟩ := H.ptr0 hpn
    have hS := (h.kp.2 p hpn).1
    rw [e_Md_firmAt_4, gg_Md_state, Option.bind_some, rd_c G 4 (by decide), Option.bind_some, c4, if_pos (lp hpn (by omega)), Option.bind_some, show (43 : Int32) + nI p = nI (43 + p) from nI_add 43 _, rr_Md_state _ (by omega), Option.bind_some, c43, show nI p + 1 = nI (p + 1) from nI_add p 1, show nI a + 1 = nI (a + 1) from nI_add a 1, show nI a + 0 = nI (a + 0) from nI_add a 0]
    unfold isFirmP
    by_cases e : aS A p = 0
    · rw [if_pos (show nI (aS A p) = (0 : Int32) from lq (n := 0) e), Option.bind_some, show (55 : Int32) + nI p = nI (55 + p) from nI_add 55 _, rr_Md_state _ (by omega), Option.bind_some, c55, show (aS A p == 0) = true by simpa using e, Bool.true_and]
      rcases (h.kp.2 p hpn).2 with q | q | ⟨w, hw, q⟩
      · rw [q, if_neg (fun e => n_m1 (show v < 2147483648 by omega) e.symm), show (!decide ((-1 : Int32) < 0) && decide ((-1 : Int32).toNatClampNeg = v)) = false from rfl, if_neg (by decide)]
      · rw [q, if_neg (fun e => n_nneg (show v < 2147483648 by omega) (by rw [← e]; decide)), show (!decide ((-2 : Int32) < 0) && decide ((-2 : Int32).toNatClampNeg = v)) = false from rfl, if_neg (by decide)]
      · rw [q, nI_tn (by omega), decide_eq_false (n_nneg (show w < 2147483648 by omega))]
        by_cases ew : w = v
        · rw [if_pos (by rw [ew]), decide_eq_true ew]; rfl
        · rw [if_neg (ln ew (by omega) (by omega)), decide_eq_false ew]; rfl
    · rw [if_neg (show ¬ nI (aS A p) = (0 : Int32) from ln (n := 0) e (by omega) (by decide)), show (aS A p == 0) = false by simpa using e, Bool.false_and, Bool.false_and]
      rfl) (fun f a _ => by
    show mm_run p_Md_firmAt (f + 1) 4 _ [] (hp G) = _
    rw [e_Md_firmAt_4, gg_Md_state, Option.bind_some, rd_c G 4 (by decide), Option.bind_some, c4, if_neg (lm (Nat.le_refl _) (by omega))]) trivial (a := 0) (f := mm_fu) (fu_lt (by omega))
  rw [foldl_count, Nat.zero_add] at this
  rw [show mm_run p_Md_firmAt mm_fu 4 [.ref 618, .int (nI v), .int 0, .int 0] [] (hp G) = _ from this.1]
  unfold cntE ptL
  rw [List.filter_map, List.length_map, List.filter_filter]
  refine congrArg (fun n : Nat => some (some (Value.int (nI n)), hp G)) (congrArg List.length (List.filter_congr ?_))
  intro p _
  rw [Bool.and_comm]
  rfl
theorem m_bulk (H : MS G 0 P A) (h : INV P A) {d : Int32} (hd : ∀ r, bt d r = true → r < aM A) : f_Md_bulk [.ref 618, .int d] (hp G) = some (some (.int (nI (cmpL (so (ptL A)) (so (rvL A d))))), hp G) := by
  have hr30 := h.kr.1
  have hk12 := h.kp.1
  have hP9 := ptL_le h
  have hQ9 := rvL_le h d
  have hpl : (ptL A).length ≤ 12 := Nat.le_trans (ptK_len A (aN A)) hk12
  have hrl : (rvL A d).length ≤ 30 := Nat.le_trans (rvK_len A d (aM A)) hr30
  have hbc : bc d = (rvL A d).length := by
    rw [bc_30 (by omega) hd]
    unfold rvL
    rw [List.length_map]
  rw [e_Md_bulk 618 _ _ (ob_Md G), s_Md_manyOf (fun r hr => by have := hd r hr; omega), ci_some, hbc]
  -- how many firm ones
  have l1 : ∀ (j v f : Nat), v + j = 1000 → j < f → mm_run p_Md_bulk f 10 [.ref 618, .int d, .int (nI (rvL A d).length), .int (nI ((List.range v).map (cntE (ptL A))).sum), .int (nI v)] [] (hp G) = mm_run p_Md_bulk (f - j) 10 [.ref 618, .int d, .int (nI (rvL A d).length), .int (nI (ptL A).length), .int (nI 1000)] [] (hp G) := by
    intro j
    induction j with
    | zero =>
      intro v f hj hf
      rw [show v = 1000 by omega, cnt_sum, List.filter_eq_self.mpr (fun y hy => by have := hP9 y hy; simp; omega), Nat.sub_zero]
    | succ j ih =>
      intro v f hj hf
      obtain ⟨f, rfl⟩ : ∃ g, f = g + 1 := ⟨f - 1, by omega⟩
      have := ih (v + 1) f (by omega) (by omega)
      rw [List.range_succ, List.map_append, List.sum_append] at this
      simp only [List.map_cons, List.map_nil, List.sum_cons, List.sum_nil, Nat.add_zero] at this
      rw [e_Md_bulk_10, if_neg (show ¬ (999 : Int32) < nI v from lm (a := 999) (by omega) (by decide)), m_firmAt H h (by omega), ci_some, i_add, show nI v + 1 = nI (v + 1) from nI_add v 1, this, show f + 1 - (j + 1) = f - j by omega]
  obtain ⟨f0, hf0, hf0b⟩ : ∃ g, mm_fu - 1000 = g + 1 ∧ 2000 < g := ⟨mm_fu - 1000 - 1, by have := @fu_lt 9999 (by omega); omega, by have := @fu_lt 9999 (by omega); omega⟩
  rw [show mm_run p_Md_bulk mm_fu 10 [.ref 618, .int d, .int (nI (rvL A d).length), .int 0, .int 0] [] (hp G) = _ from l1 1000 0 mm_fu rfl (fu_lt (by omega)), hf0, e_Md_bulk_10, if_pos (show (999 : Int32) < nI 1000 by decide)]
  have hcnt : ∀ v, v ≤ 999 → f_Md_having [.ref 618, .int 0, .int d, .int 0, .int (nI v)] (hp G) = some (some (.int (havX (aV A) d 0 (nI v))), hp G) := fun v _ => s_havX H h (k := 0) hd (by decide) _
  have hmany : ∀ v, v ≤ 999 → f_Md_manyOf [.int (havX (aV A) d 0 (nI v))] (hp G) = some (some (.int (nI (cntE (rvL A d) v))), hp G) := fun v hv => by
    have hb : ∀ r, bt (havX (aV A) d 0 (nI v)) r = (decide (r < aM A) && (bt d r && decide (aV A r 0 = v))) := fun r => by
      by_cases h32 : r < 32
      · unfold havX
        rw [bt_msk _ _ (by decide) r h32]
        cases hbd : bt d r
        · simp
        · have hm := hd r hbd
          have := h.kr.2.1 r 0 hm (by decide)
          rw [decide_eq_true hm, decide_eq_true (show r < 30 by omega), Bool.true_and, Bool.true_and, Bool.true_and, Bool.true_and]
          by_cases e : aV A r 0 = v
          · rw [e, decide_eq_true rfl, decide_eq_true rfl]
          · rw [decide_eq_false (ln e (by omega) (by omega)), decide_eq_false e]
      · rw [b_big (by omega), b_big (by omega)]; simp
    have hlt : ∀ r, bt (havX (aV A) d 0 (nI v)) r = true → r < aM A := fun r hr => by
      rw [hb] at hr
      simp only [Bool.and_eq_true, decide_eq_true_eq] at hr
      exact hr.1
    rw [s_Md_manyOf (fun r hr => by have := hlt r hr; omega), bc_30 (by omega) hlt]
    unfold cntE rvL
    rw [List.filter_map, List.length_map, List.filter_filter]
    refine congrArg (fun n : Nat => some (some (Value.int (nI n)), hp G)) (congrArg List.length (List.filter_congr ?_))
    intro r hr
    rw [hb, decide_eq_true (List.mem_range.mp hr), Bool.true_and, Bool.and_comm]
    rfl
  have l2 : ∀ (j v f a : Nat), v + j = 1000 → j + 1 < f → mm_run p_Md_bulk f 39 [.ref 618, .int d, .int (nI (geL (rvL A d) v).length), .int (nI (geL (ptL A) v).length), .int (nI a), .int (nI v)] [] (hp G) = some (some (.int (nI (a + cmpL (so (geL (ptL A) v)) (so (geL (rvL A d) v))))), hp G) := by
    intro j
    induction j with
    | zero =>
      intro v f a hj hf
      obtain ⟨f, rfl⟩ : ∃ g, f = g + 1 := ⟨f - 1, by omega⟩
      rw [e_Md_bulk_39, if_pos (show (999 : Int32) < nI v from lp (a := 999) (by omega) (by omega)), geL_top hP9 (show 999 < v by omega), show so [] = [] from so_short (by simp), cmpL_nil]
      rfl
    | succ j ih =>
      intro v f a hj hf
      obtain ⟨f, rfl⟩ : ∃ g, f = g + 1 := ⟨f - 1, by omega⟩
      have lq1 := List.length_filter_le (fun y => decide (v ≤ y)) (rvL A d)
      have lp1 := List.length_filter_le (fun y => decide (v ≤ y)) (ptL A)
      have hgq : (geL (rvL A d) v).length ≤ 30 := Nat.le_trans lq1 hrl
      have hgp : (geL (ptL A) v).length ≤ 12 := Nat.le_trans lp1 hpl
      have gq := geL_len (rvL A d) v
      have gp := geL_len (ptL A) v
      rw [e_Md_bulk_39, if_neg (show ¬ (999 : Int32) < nI v from lm (a := 999) (by omega) (by decide))]
      by_cases hq0 : geL (rvL A d) v = []
      · rw [hq0, if_neg (show ¬ (0 : Int32) < nI ([] : List Nat).length by decide), show so [] = [] from so_short (by simp), cmpL_nil2]
        rfl
      · have hqpos := List.length_pos_iff.mpr hq0
        rw [if_pos (show (0 : Int32) < nI (geL (rvL A d) v).length from lp (a := 0) hqpos (by omega))]
        by_cases hp0 : geL (ptL A) v = []
        · rw [hp0, if_neg (show ¬ (0 : Int32) < nI ([] : List Nat).length by decide), show so [] = [] from so_short (by simp), cmpL_nil]
          rfl
        · have hppos := List.length_pos_iff.mpr hp0
          rw [if_pos (show (0 : Int32) < nI (geL (ptL A) v).length from lp (a := 0) hppos (by omega)), m_firmAt H h (by omega), ci_some, hcnt v (by omega), ci_some, hmany v (by omega), ci_some, n_sub (show cntE (ptL A) v ≤ (geL (ptL A) v).length by omega), show (geL (ptL A) v).length - cntE (ptL A) v = (geL (ptL A) (v + 1)).length by omega, cmp_v _ _ _ hq0, i_add, i_add, show nI v + 1 = nI (v + 1) from nI_add v 1]
          by_cases hn : geL (ptL A) (v + 1) = []
          · rw [hn, if_neg (show ¬ (0 : Int32) < nI ([] : List Nat).length by decide), if_pos rfl]
            obtain ⟨f, rfl⟩ : ∃ g, f = g + 1 := ⟨f - 1, by omega⟩
            rw [e_Md_bulk_39, if_neg (show ¬ (0 : Int32) < nI ([] : List Nat).length by decide), Nat.add_zero]
            split
            · rfl
            · split <;> rfl
          · have hnpos := List.length_pos_iff.mpr hn
            rw [if_pos (show (0 : Int32) < nI (geL (ptL A) (v + 1)).length from lp (a := 0) hnpos (by omega)), if_neg hn, n_sub (show cntE (rvL A d) v ≤ (geL (rvL A d) v).length by omega), show (geL (rvL A d) v).length - cntE (rvL A d) v = (geL (rvL A d) (v + 1)).length by omega, ih (v + 1) f _ (by omega) (by omega)]
            generalize cmpL (so (geL (ptL A) (v + 1))) (so (geL (rvL A d) (v + 1))) = X
            rw [show a + cntE (ptL A) v + cntE (rvL A d) v + X = a + (cntE (ptL A) v + (cntE (rvL A d) v + X)) by omega]
  have := l2 1000 0 f0 0 rfl (by omega)
  rw [geL_0, geL_0, Nat.zero_add] at this
  exact this
theorem r_check (W : MW Z G P T A U cu) (w : Int32) : ∃ G', f_Md_check [.ref 618, .int w] (hp G) = some (some (.int (chkW P A w)), hp G') ∧ MW Z G' P T A U cu := by
  have W1 := W.th 0
  rw [e_Md_check 618 _ _ (ob_Md G), ww_Md_thrown, Option.bind_some]
  generalize gsi G 618 0 0 = G1 at W1 ⊢
  refine ⟨G1, ?_, W1⟩
  have H := W1.ms
  have h := W1.inv
  have hn := h.ni
  have hk12 := h.kp.1
  have hr30 := h.kr.1
  obtain ⟨-, -, -, -, c4⟩ := H.c0
  have hd : ∀ r, bt (doomA P A) r = true → r < aM A := fun r hr => by
    unfold doomA at hr
    cases hJ : aJ A with
    | none => rw [hJ] at hr; exact h.kr.vis (would_vis h hr)
    | some J => rw [hJ] at hr; exact h.kr.2.2.1 r (h.kr.2.2.2 r hr)
  rw [show f_Md_chosenBy [.ref 618, .int 0] (hp G1) = _ from m_chosenBy H h, ci_some]
  unfold chkW
  by_cases e0 : w = 0
  · rw [if_pos e0, if_pos e0, m_bulk H h hd, ci_some]
  rw [if_neg e0, if_neg e0, s_Md_manyOf (fun r hr => by have := hd r hr; omega), ci_some, m_indexes H.hP, ci_some]
  -- the pointers
  have l2 : ∀ (j q f : Nat) (v : Nat), q + j = aN A → j < f → mm_run p_Md_check f 84 [.ref 618, .int w, .int (nI v), .int (nI (firmOnes q (aS A) (aT A))), .int (nI q)] [] (hp G1) = some (some (.int (if w = 1 then nI (v * firmOnes (aN A) (aS A) (aT A)) else -1)), hp G1) := by
    intro j
    induction j with
    | zero =>
      intro q f v hj hf
      obtain ⟨f, rfl⟩ : ∃ g, f = g + 1 := ⟨f - 1, by omega⟩
      rw [e_Md_check_84, gg_Md_state, Option.bind_some, rd_c G1 4 (by decide), Option.bind_some, c4, if_neg (lm (by omega) (by omega)), n_mul, show q = aN A by omega]
      split <;> rfl
    | succ j ih =>
      intro q f v hj hf
      obtain ⟨f, rfl⟩ : ∃ g, f = g + 1 := ⟨f - 1, by omega⟩
      have hqn : q < aN A := by omega
      obtain ⟨c43, c55⟩ := H.ptr0 hqn
      have hS := (h.kp.2 q hqn).1
      have hs : firmOnes (q + 1) (aS A) (aT A) = firmOnes q (aS A) (aT A) + if isFirmP (aS A) (aT A) q then 1 else 0 := by
        unfold firmOnes
        rw [List.range_succ, List.filter_append, List.length_append, List.filter_cons, List.filter_nil]
        split <;> rfl
      have := ih (q + 1) f v (by omega) (by omega)
      rw [hs] at this
      rw [e_Md_check_84, gg_Md_state, Option.bind_some, rd_c G1 4 (by decide), Option.bind_some, c4, if_pos (lp hqn (by omega)), Option.bind_some, show (43 : Int32) + nI q = nI (43 + q) from nI_add 43 _, rr_Md_state _ (by omega), Option.bind_some, c43, show nI q + 1 = nI (q + 1) from nI_add q 1, show nI (firmOnes q (aS A) (aT A)) + 1 = nI (firmOnes q (aS A) (aT A) + 1) from nI_add _ 1, show nI (firmOnes q (aS A) (aT A)) + 0 = nI (firmOnes q (aS A) (aT A) + 0) from nI_add _ 0]
      unfold isFirmP at this
      by_cases e : aS A q = 0
      · rw [if_pos (show nI (aS A q) = (0 : Int32) from lq (n := 0) e), Option.bind_some, show (55 : Int32) + nI q = nI (55 + q) from nI_add 55 _, rr_Md_state _ (by omega), Option.bind_some, c55]
        rw [show (aS A q == 0) = true by simpa using e, Bool.true_and] at this
        by_cases hT : aT A q < 0
        · rw [if_pos hT]
          rw [decide_eq_true hT, if_neg (by decide)] at this
          exact this
        · rw [if_neg hT]
          rw [decide_eq_false hT, if_pos (by decide)] at this
          exact this
      · rw [if_neg (show ¬ nI (aS A q) = (0 : Int32) from ln (n := 0) e (by omega) (by decide))]
        rw [show (aS A q == 0) = false by simpa using e, Bool.false_and, if_neg (by decide)] at this
        exact this
  -- the indexes, from the last
  have l1 : ∀ (k f : Nat) (x : Int32) (o : Nat), k ≤ pNi P → k + 40 < f → (x < 0 ∧ k = 0 ∨ x = nI (k - 1) ∧ 1 ≤ k) → mm_run p_Md_check f 34 [.ref 618, .int w, .int (nI o), .int x] [] (hp G1) = some (some (.int (if w = 1 then nI ((match (List.range k).find? (fun i => pCo P i == 0 && !(pKd P i == 3)) with
      | some i => hg (pPg P) (aL A i).length + 1
      | none => o) * firmOnes (aN A) (aS A) (aT A)) else -1)), hp G1) := by
    intro k
    induction k with
    | zero =>
      intro f x o hk hf hx
      obtain ⟨f, rfl⟩ : ∃ g, f = g + 1 := ⟨f - 1, by omega⟩
      have hx0 : x < 0 := by rcases hx with q | q; exact q.1; omega
      rw [e_Md_check_34, if_pos hx0]
      exact l2 (aN A) 0 f o (by omega) (by omega)
    | succ k ih =>
      intro f x o hk hf hx
      obtain ⟨f, rfl⟩ : ∃ g, f = g + 1 := ⟨f - 1, by omega⟩
      have hxe : x = nI k := by rcases hx with q | q; omega; exact q.1
      have hki : k < pNi P := by omega
      have hco := (h.pp.2.2.1 k hki).2
      have hkd := (h.pp.2.2.1 k hki).1
      have hnx : nI k + (-1) < 0 ∧ k = 0 ∨ nI k + (-1) = nI (k - 1) ∧ 1 ≤ k := by
        by_cases e : k = 0
        · exact Or.inl ⟨by rw [e]; decide, e⟩
        · exact Or.inr ⟨n_addneg (b := 1) (by omega), by omega⟩
      have hfind : ∀ {ρ : Type} (g : Nat → ρ) (o1 : ρ), (match (List.range (k + 1)).find? (fun i => pCo P i == 0 && !(pKd P i == 3)) with
          | some i => g i
          | none => o1) = (match (List.range k).find? (fun i => pCo P i == 0 && !(pKd P i == 3)) with
          | some i => g i
          | none => if pCo P k == 0 && !(pKd P k == 3) then g k else o1) := fun g o1 => by
        rw [List.range_succ, List.find?_append]
        cases (List.range k).find? (fun i => pCo P i == 0 && !(pKd P i == 3)) with
        | some i => rfl
        | none =>
          show (match [k].find? (fun i => pCo P i == 0 && !(pKd P i == 3)) with
            | some i => g i
            | none => o1) = if pCo P k == 0 && !(pKd P k == 3) then g k else o1
          rw [List.find?_cons]
          cases (pCo P k == 0 && !(pKd P k == 3)) <;> rfl
      rw [hxe, e_Md_check_34, if_neg (n_nneg (show k < 2147483648 by omega)), m_columnAt H.hP hn hki, ci_some, hfind]
      have hnext := fun (o2 : Nat) => ih f (nI k + (-1)) o2 (by omega) (by omega) hnx
      by_cases ec : pCo P k = 0
      · rw [if_pos (show nI (pCo P k) = (0 : Int32) from lq (n := 0) ec), m_kindOf H.hP hn hki, ci_some, show (pCo P k == 0) = true by simpa using ec, Bool.true_and]
        by_cases ek : pKd P k = 3
        · rw [if_pos (show nI (pKd P k) = (3 : Int32) from lq (n := 3) ek), show (pKd P k == 3) = true by simpa using ek, if_neg (show ¬ (!true) = true by decide)]
          exact hnext o
        · rw [if_neg (show ¬ nI (pKd P k) = (3 : Int32) from ln (n := 3) ek (by omega) (by decide)), show (pKd P k == 3) = false by simpa using ek, if_pos (show (!false) = true from rfl), show f_Md_height [.ref 618, .int 0, .int (nI k)] (hp G1) = _ from H.hgt h.os hki, ci_some, show nI (hg (pPg P) (aL A k).length) + 1 = nI (hg (pPg P) (aL A k).length + 1) from nI_add _ 1]
          exact hnext _
      · rw [if_neg (show ¬ nI (pCo P k) = (0 : Int32) from ln (n := 0) ec (by omega) (by decide)), show (pCo P k == 0) = false by simpa using ec, Bool.false_and, if_neg (show ¬ false = true by decide)]
        exact hnext o
  have := l1 (pNi P) mm_fu (nI (pNi P) - 1) (bc (doomA P A)) (Nat.le_refl _) (fu_lt (by omega)) (by
    by_cases e : pNi P = 0
    · exact Or.inl ⟨by rw [e]; decide, e⟩
    · exact Or.inr ⟨n_sub (b := 1) (by omega), by omega⟩)
  rw [this]
  unfold singA
  cases (List.range (pNi P)).find? (fun i => pCo P i == 0 && !(pKd P i == 3)) <;> rfl
end MWC
