/-! THE REFERENCE: what is read, further -/
theorem leftsW_mem {w : Nat} {d : Int32} {L : LL} {r : Nat} (h : r ∈ leftsW w d L) : ∃ c ∈ L.flatten, c % 32 = r := by
  unfold leftsW at h
  split at h
  · unfold leftsP at h
    obtain ⟨c, hc, e⟩ := List.mem_map.mp h
    exact ⟨c, (List.mem_filter.mp hc).1, e⟩
  · unfold leftsR at h
    obtain ⟨h1, h2⟩ := List.mem_filter.mp h
    have h32 := bt_lt h2
    rw [b_and, Bool.and_eq_true, bt_rb _ h32, decide_eq_true_eq] at h2
    exact List.mem_map.mp h2.1
theorem wayN_0 (pg : Nat) (L : LL) : wayN 0 pg L = 0 := by
  have h1 : leftN 0 L = 0 := by
    unfold leftN
    rw [List.length_eq_zero_iff, List.filter_eq_nil_iff]
    intro c _
    rw [b_0]
    decide
  have h2 : ∀ (l : List (Nat × Nat)), l.foldl (pcS 0) none = none := fun l => by
    induction l with
    | nil => rfl
    | cons q l ih =>
      rw [List.foldl_cons, show pcS 0 none q = none from by unfold pcS; rw [b_0]; rfl, ih]
  unfold wayN probeC passC
  rw [h1, h2]
  rfl
theorem filter_or (x : Int32) {r : Nat} (hr : r < 32) (hb : bt x r = false) : ∀ (l : List Nat), (∀ i ∈ l, i < 32) → l.Nodup → (l.filter (bt (x ||| sbit r))).length = (l.filter (bt x)).length + (if r ∈ l then 1 else 0)
  | [], _, _ => rfl
  | i :: l, h, hd => by
    have h32 := h i List.mem_cons_self
    obtain ⟨h1, h2⟩ := List.nodup_cons.mp hd
    have ih := filter_or x hr hb l (fun j hj => h j (List.mem_cons_of_mem _ hj)) h2
    rw [List.filter_cons, List.filter_cons, b_or, bt_sbit hr h32]
    by_cases e : i = r
    · subst e
      rw [hb, decide_eq_true rfl, if_pos (by rfl), if_neg (by decide), List.length_cons, ih, if_neg h1, if_pos List.mem_cons_self]
    · rw [decide_eq_false e, Bool.or_false]
      have e2 : (if r ∈ i :: l then 1 else 0) = if r ∈ l then 1 else 0 := by
        by_cases hl : r ∈ l
        · rw [if_pos hl, if_pos (List.mem_cons_of_mem _ hl)]
        · rw [if_neg hl, if_neg (fun q => by rcases List.mem_cons.mp q with q | q; exact e q.symm; exact hl q)]
      rw [e2]
      cases bt x i
      · rw [if_neg (by decide), if_neg (by decide)]; exact ih
      · rw [if_pos rfl, if_pos rfl, List.length_cons, List.length_cons, ih]; omega
theorem bc_or (x : Int32) {r : Nat} (hr : r < 32) (hb : bt x r = false) : bc (x ||| sbit r) = bc x + 1 := by
  unfold bc
  rw [filter_or x hr hb _ (fun i hi => List.mem_range.mp hi) List.nodup_range, if_pos (List.mem_range.mpr hr)]
theorem havX_neg {V : Nat → Nat → Nat} {s : Int32} {k : Nat} {x : Int32} (hx : x < 0) (hV : ∀ r, bt s r = true → V r k < 2147483648) : havX V s k x = 0 := by
  apply int_z
  intro i hi
  unfold havX
  rw [bt_msk _ _ (by decide) i hi]
  cases hb : bt s i
  · simp
  · have : ¬ nI (V i k) = x := fun e => by rw [← e] at hx; exact n_nneg (hV i hb) hx
    rw [decide_eq_false this]
    simp
section MWR
variable {Z G G' : GG} {b i page : Nat} {P : PP} {T : TT} {A A' B : AS} {U : List AS} {cu : CU} {L : LL}
/-- FILL, COSTS, WAYS -/
theorem r_fill (W : MW Z G P T A U cu) (x : Int32) : ∃ G', f_Md_fill [.ref 618, .int x] (hp G) = some (some (.int (filW P A x)), hp G') ∧ MW Z G' P T A U cu := by
  have hn := W.inv.ni
  have W1 := W.th 0
  rw [e_Md_fill 618 _ _ (ob_Md G), ww_Md_thrown, Option.bind_some]
  generalize gsi G 618 0 0 = G1 at W1 ⊢
  refine ⟨G1, ?_, W1⟩
  have H := W1.ms
  have h := W1.inv
  rw [m_isIndex W1, ci_some]
  unfold filW
  cases hx : isIx P x
  · rw [if_pos (by decide)]; rfl
  · obtain ⟨i, hi, rfl⟩ := (isIx_iff hn x).mp hx
    have hln := (h.kl hi).len
    have h30 := (h.kl hi).2.1
    have hpg := h.pp.1
    rw [if_neg (by decide), if_pos (show true = true from rfl), nI_tn (by omega), show f_Md_leaves [.ref 618, .int 0, .int (nI i)] (hp G1) = _ from H.lvs h.os hi, ci_some]
    by_cases h0 : 0 < (aL A i).length
    · have hm : (aL A i).length * pPg P ≤ 30 * 8 := Nat.mul_le_mul (by omega) hpg.2
      have hm0 : 0 < (aL A i).length * pPg P := Nat.mul_pos h0 (by omega)
      rw [if_neg (show ¬ nI (aL A i).length = (0 : Int32) from ln (n := 0) (by omega) (by omega) (by decide)), show f_Md_entries [.ref 618, .int 0, .int (nI i)] (hp G1) = _ from H.ent h.os hi, ci_some, s_Md_page H.pg, ci_some, n_mul, if_neg (show ¬ nI ((aL A i).length * pPg P) = (0 : Int32) from ln (n := 0) (by omega) (by omega) (by decide)), show (100 : Int32) * nI (aL A i).flatten.length = nI (100 * (aL A i).flatten.length) from n_mul 100 _, n_div (by omega) (by omega) hm0, if_pos h0]
    · rw [if_pos (show nI (aL A i).length = (0 : Int32) from lq (n := 0) (by omega)), if_neg h0]
theorem r_costs (W : MW Z G P T A U cu) (x w : Int32) : ∃ G', f_Md_costs [.ref 618, .int x, .int w] (hp G) = some (some (.int (cosW P A x w)), hp G') ∧ MW Z G' P T A U cu := by
  have hn := W.inv.ni
  have W1 := W.th 0
  rw [e_Md_costs 618 _ _ _ (ob_Md G), ww_Md_thrown, Option.bind_some]
  generalize gsi G 618 0 0 = G1 at W1 ⊢
  refine ⟨G1, ?_, W1⟩
  have H := W1.ms
  have h := W1.inv
  rw [m_isIndex W1, ci_some]
  unfold cosW
  cases hx : isIx P x
  · rw [if_pos (by decide)]; rfl
  · obtain ⟨i, hi, rfl⟩ := (isIx_iff hn x).mp hx
    rw [if_neg (by decide), if_pos (show true = true from rfl), nI_tn (by omega), s_withX, ci_some]
    by_cases h0 : w < 0
    · have n0 : ¬ w = 0 := fun e => by rw [e] at h0; exact absurd h0 (by decide)
      have n1 : ¬ w = 1 := fun e => by rw [e] at h0; exact absurd h0 (by decide)
      rw [decide_eq_true h0, if_pos (show b2 (!true && !decide (1 < w)) = 0 from rfl), if_neg n0, if_neg n1]
    by_cases h1 : 1 < w
    · have n0 : ¬ w = 0 := fun e => by rw [e] at h1; exact absurd h1 (by decide)
      have n1 : ¬ w = 1 := fun e => by rw [e] at h1; exact absurd h1 (by decide)
      rw [decide_eq_true h1, if_pos (by rw [Bool.not_true, Bool.and_false]; rfl), if_neg n0, if_neg n1]
    rw [decide_eq_false h0, decide_eq_false h1, if_neg (show ¬ b2 (!false && !false) = 0 by decide), show f_Md_chosenBy [.ref 618, .int 0] (hp G1) = _ from m_chosenBy H h, ci_some]
    by_cases e0 : w = 0
    · rw [if_pos e0, if_pos e0, show f_Md_passCost [.ref 618, .int 0, .int (nI i), .int (doomA P A)] (hp G1) = _ from s_Md_passCost H.pg H.hb (by omega) (H.tr hi) (h.kl hi) _, ci_some]
    · have e1 : w = 1 := by
        obtain ⟨n, hn2, rfl⟩ := (n_cases w).resolve_left h0
        have q1 : ¬ 1 < n := fun q => h1 (show (1 : Int32) < nI n from lp (a := 1) q (by omega))
        have q0 : ¬ n = 0 := fun q => e0 (by rw [q]; rfl)
        rw [show n = 1 by omega]; rfl
      rw [if_neg e0, if_neg e0, if_pos e1, show f_Md_probeCost [.ref 618, .int 0, .int (nI i), .int (doomA P A)] (hp G1) = _ from s_Md_probeCost H.pg H.hb (by omega) (H.tr hi) (h.kl hi) _, ci_some]
theorem r_ways (W : MW Z G P T A U cu) : ∃ G', f_Md_ways [.ref 618] (hp G) = some (some (.int (msk (fun i => wayN (doomA P A) (pPg P) (aL A i) == 0) (pNi P))), hp G') ∧ MW Z G' P T A U cu := by
  have hn := W.inv.ni
  have W1 := W.th 0
  rw [e_Md_ways 618 _ (ob_Md G), ww_Md_thrown, Option.bind_some]
  generalize gsi G 618 0 0 = G1 at W1 ⊢
  refine ⟨G1, ?_, W1⟩
  have H := W1.ms
  have h := W1.inv
  rw [show f_Md_chosenBy [.ref 618, .int 0] (hp G1) = _ from m_chosenBy H h, ci_some]
  refine msk_loop (n := pNi P) (p := fun i => wayN (doomA P A) (pPg P) (aL A i) == 0) (R := fun f i x => mm_run p_Md_ways f 15 [.ref 618, .int (doomA P A), .int x, .int (nI i)] [] (hp G1)) (fun f i hi => ?_) (fun f => ?_) (fu_lt (by omega))
  · show mm_run _ _ _ _ _ _ = mm_run _ _ _ _ _ _
    rw [e_Md_ways_15, m_indexes H.hP, ci_some, if_pos (lp hi (by omega)), show f_Md_wayBy [.ref 618, .int 0, .int (nI i), .int (doomA P A)] (hp G1) = _ from s_Md_wayBy H.pg H.hb (by omega) (H.tr hi) (h.kl hi) _, ci_some, show nI i + 1 = nI (i + 1) from nI_add i 1, show (1 : Int32) <<< (nI i &&& 31) = sbit i from rfl]
    have hle := wayN_le (doomA P A) (pPg P) (aL A i)
    by_cases e : wayN (doomA P A) (pPg P) (aL A i) = 0
    · rw [if_pos (show nI (wayN (doomA P A) (pPg P) (aL A i)) = (0 : Int32) from lq (n := 0) e), msk_y (by rw [e]; rfl)]
    · rw [if_neg (show ¬ nI (wayN (doomA P A) (pPg P) (aL A i)) = (0 : Int32) from ln (n := 0) e (by omega) (by decide)), msk_n (by simp [e]), or_zero]
  · show mm_run _ _ _ _ _ _ = _
    rw [e_Md_ways_15, m_indexes H.hP, ci_some, if_neg (lm (Nat.le_refl _) (by omega))]
/-- NEXT -/
theorem wayX_le (P : PP) (A : AS) (i : Nat) : wayX P A i ≤ 1 := by
  unfold wayX
  cases aJ A with
  | none => exact wayN_le _ _ _
  | some J =>
    dsimp only
    split
    · unfold wayOf; split <;> omega
    · exact wayN_le _ _ _
theorem m_wayAt (H : MS G 0 P A) (h : INV P A) (hi : i < pNi P) : f_Md_wayAt [.ref 618, .int 0, .int (nI i)] (hp G) = some (some (.int (nI (wayX P A i))), hp G) := by
  have hn := h.ni
  have hby : f_Md_wayBy [.ref 618, .int 0, .int (nI i), .int (doomA P A)] (hp G) = some (some (.int (nI (wayN (doomA P A) (pPg P) (aL A i)))), hp G) := s_Md_wayBy H.pg H.hb (by omega) (H.tr hi) (h.kl hi) _
  have hch : f_Md_chosenBy [.ref 618, .int 0] (hp G) = some (some (.int (doomA P A)), hp G) := m_chosenBy H h
  have r5 : mm_li (hp G) 628 ((0 : Int32) + 5) = some (G.1 628 5) := rr_Md_state G (i := 5) (by decide)
  have r6 : mm_li (hp G) 628 ((0 : Int32) + 6) = some (G.1 628 6) := rr_Md_state G (i := 6) (by decide)
  have r7 : mm_li (hp G) 628 ((0 : Int32) + 7) = some (G.1 628 7) := rr_Md_state G (i := 7) (by decide)
  rw [e_Md_wayAt 618 _ _ _ (ob_Md G), gg_Md_state, Option.bind_some, r5, Option.bind_some]
  have hj := H.j
  unfold wayX
  cases hJ : aJ A with
  | none =>
    rw [hJ] at hj
    have h5 : G.1 628 5 = 0 := hj.1
    rw [h5, if_neg (by decide), hch, ci_some, hby, ci_some]
  | some J =>
    rw [hJ] at hj
    have hk := h.ka.2.2.2
    rw [hJ] at hk
    obtain ⟨k1, -⟩ := (show okJ J from hk)
    obtain ⟨c5, c6, c7, -⟩ := hj.1
    rw [Nat.zero_add] at c5 c6 c7
    rw [c5, if_pos rfl, Option.bind_some, r6, Option.bind_some, c6]
    show _ = some (some (Value.int (nI (if jAt J = i then wayOf (jWy J) else wayN (doomA P A) (pPg P) (aL A i)))), hp G)
    by_cases e : jAt J = i
    · rw [if_pos (by rw [e]), if_pos e, Option.bind_some, r7, Option.bind_some, c7, ← wy_of (h.wy hJ (by omega))]
    · rw [if_neg (ln e (by omega) (by omega)), if_neg e, hch, ci_some, hby, ci_some]
theorem leftsW_len (w : Nat) (d : Int32) {L : LL} (hk : okL page L) : (leftsW w d L).length ≤ 30 := by
  have := hk.2.1
  unfold leftsW
  split
  · unfold leftsP
    rw [List.length_map]
    exact Nat.le_trans (List.length_filter_le _ _) this
  · unfold leftsR
    refine Nat.le_trans (List.length_filter_le _ _) ?_
    simp
theorem r_next (W : MW Z G P T A U cu) (x v : Int32) : ∃ G', f_Md_next [.ref 618, .int x, .int v] (hp G) = some (some (.int (nexW P A x v)), hp G') ∧ MW Z G' P T A U cu := by
  have hn := W.inv.ni
  have W1 := W.th 0
  rw [e_Md_next 618 _ _ _ (ob_Md G), ww_Md_thrown, Option.bind_some]
  generalize gsi G 618 0 0 = G1 at W1 ⊢
  refine ⟨G1, ?_, W1⟩
  have H := W1.ms
  have h := W1.inv
  rw [m_isIndex W1, ci_some]
  unfold nexW
  cases hx : isIx P x
  · rw [if_pos (by decide)]; rfl
  · obtain ⟨i, hi, rfl⟩ := (isIx_iff hn x).mp hx
    have hkl := h.kl hi
    have hl30 := leftsW_len (wayX P A i) (doomA P A) hkl
    have h30 := hkl.2.1
    rw [if_neg (by decide), if_pos (show true = true from rfl), nI_tn (by omega)]
    by_cases hv : v < 0
    · rw [if_pos hv, lk_neg hv _ _ (by omega)]
    obtain ⟨n, hn2, rfl⟩ := (n_cases v).resolve_left hv
    rw [if_neg hv, m_wayAt H h hi, ci_some, show f_Md_leftAt [.ref 618, .int 0, .int (nI i), .int (nI (wayX P A i)), .int (nI n)] (hp G1) = _ from m_leftAt H h hi (wayX_le P A i) hn2, ci_some, lk_at _ 0 n (by omega) (by omega) hn2, Nat.sub_zero]
    cases hq : (leftsW (wayX P A i) (doomA P A) (aL A i))[n]? with
    | none => rw [nth_none hkl hq, if_pos (by decide)]
    | some r =>
      obtain ⟨k, hk2, e1, e2⟩ := nth_some hkl hq (leftsW_mem (List.mem_of_getElem? hq))
      rw [e2, if_neg (n_nneg (by omega)), show f_Md_rowAt [.ref 618, .int 0, .int (nI i), .int (nI k)] (hp G1) = _ from H.rat h.os hi hk2, ci_some, e1]
/-- SPARSE -/
theorem r_sparse (W : MW Z G P T A U cu) (x : Int32) : ∃ G', f_Md_sparse [.ref 618, .int x] (hp G) = some (some (.int (spaW P A x)), hp G') ∧ MW Z G' P T A U cu := by
  have hn := W.inv.ni
  have W1 := W.th 0
  rw [e_Md_sparse 618 _ _ (ob_Md G), ww_Md_thrown, Option.bind_some]
  generalize gsi G 618 0 0 = G1 at W1 ⊢
  have h := W1.inv
  rw [m_isIndex W1, ci_some]
  unfold spaW
  cases hx : isIx P x
  · rw [if_pos (by decide)]; exact ⟨G1, rfl, W1⟩
  obtain ⟨i, hi, rfl⟩ := (isIx_iff hn x).mp hx
  have hkl := h.kl hi
  have h30 := hkl.2.1
  have hM := okM_fl hkl
  have hpg := h.pp.1
  rw [if_neg (by decide), if_pos (show true = true from rfl), nI_tn (by omega)]
  have skip : ∀ (G2 : GG) (_ : MW Z G2 P T A U cu) (X Y : LL) (l : List Nat), X ++ l :: Y = aL A i → ∀ (a : Int32) (j q f : Nat), q + j = l.length → 1 ≤ q → j < f → mm_run p_Md_sparse f 19 [.ref 618, .int (nI i), .int a, .int (nI (X.flatten.length + q))] [] (hp G2) = mm_run p_Md_sparse (f - j) 19 [.ref 618, .int (nI i), .int a, .int (nI (X.flatten.length + l.length))] [] (hp G2) := by
    intro G2 W2 X Y l e a j
    have ht := W2.ms.tr hi
    have hent := W2.ms.ent h.os hi
    rw [← e] at ht hM hent h30
    have hlen : (fl (X ++ l :: Y)).length = X.flatten.length + (l.length + Y.flatten.length) := by rw [fl_len]; simp
    have hlen2 : (X ++ l :: Y).flatten.length = X.flatten.length + (l.length + Y.flatten.length) := by simp
    induction j with
    | zero => intro q f hq _ _; rw [show q = l.length by omega]; rfl
    | succ j ih =>
      intro q f hq hq1 hf
      obtain ⟨f, rfl⟩ : ∃ g, f = g + 1 := ⟨f - 1, by omega⟩
      have hlt : X.flatten.length + q < (fl (X ++ l :: Y)).length := by omega
      rw [e_Md_sparse_19, show f_Md_entries [.ref 618, .int 0, .int (nI i)] (hp G2) = _ from hent, ci_some, if_pos (lp (by omega) (by omega)), show f_Md_isFirst [.ref 618, .int 0, .int (nI i), .int (nI (X.flatten.length + q))] (hp G2) = _ from s_Md_isFirst W2.ms.hb (by omega) ht hM hlt, ci_some, fl_in hq1 (by omega) hlt, if_pos (show b2 false = 0 from rfl), show nI (X.flatten.length + q) + 1 = nI (X.flatten.length + (q + 1)) from nI_add _ 1, ih (q + 1) f (by omega) (by omega) (by omega), show f + 1 - (j + 1) = f - j by omega]
  have key : ∀ (Y X : LL) (f a : Nat) (G2 : GG), X ++ Y = aL A i → Y.flatten.length + 1 < f → MW Z G2 P T A U cu → ∃ G', mm_run p_Md_sparse f 19 [.ref 618, .int (nI i), .int (nI a), .int (nI X.flatten.length)] [] (hp G2) = some (some (.int (nI (a + (Y.filter (fun l => decide (2 * l.length < pPg P))).length))), hp G') ∧ MW Z G' P T A U cu := by
    intro Y
    induction Y with
    | nil =>
      intro X f a G2 e hf W2
      obtain ⟨f, rfl⟩ : ∃ g, f = g + 1 := ⟨f - 1, by omega⟩
      rw [List.append_nil] at e
      refine ⟨G2, ?_, W2⟩
      rw [e_Md_sparse_19, show f_Md_entries [.ref 618, .int 0, .int (nI i)] (hp G2) = _ from W2.ms.ent h.os hi, ci_some, ← e, if_neg (lm (Nat.le_refl _) (by rw [e]; omega))]
      rfl
    | cons l Y ih =>
      intro X f a G2 e hf W2
      obtain ⟨f, rfl⟩ : ∃ g, f = g + 1 := ⟨f - 1, by omega⟩
      have hl : l ≠ [] := (hkl.2.2.1 l (by rw [← e]; simp)).1
      have hl8 : l.length ≤ pPg P := (hkl.2.2.1 l (by rw [← e]; simp)).2
      have hl1 : 1 ≤ l.length := List.length_pos_iff.mpr hl
      have har := W2.ms.around h.os hi e.symm (q := 0) hl1
      rw [Nat.add_zero] at har
      have ht := W2.ms.tr hi
      have hM2 := hM
      rw [← e] at ht hM2
      have hlt : X.flatten.length < (fl (X ++ l :: Y)).length := by rw [fl_len]; simp; omega
      have hlt2 : X.flatten.length < (aL A i).flatten.length := by rw [← e, ← fl_len (X ++ l :: Y)]; exact hlt
      have hfl : (l :: Y).flatten.length = l.length + Y.flatten.length := by rw [List.flatten_cons, List.length_append]
      rw [e_Md_sparse_19, show f_Md_entries [.ref 618, .int 0, .int (nI i)] (hp G2) = _ from W2.ms.ent h.os hi, ci_some, if_pos (lp hlt2 (by omega)), show f_Md_isFirst [.ref 618, .int 0, .int (nI i), .int (nI X.flatten.length)] (hp G2) = _ from s_Md_isFirst W2.ms.hb (by omega) ht hM2 hlt, ci_some, fl_st hl hlt, if_neg (show ¬ b2 true = 0 by decide), show f_Md_leafAround [.ref 618, .int 0, .int (nI i), .int (nI X.flatten.length)] (hp G2) = _ from har, cv_some]
      have W3 := W2.lh X.flatten.length (X.flatten.length + l.length)
      have e20 := lh_20 G2 X.flatten.length (X.flatten.length + l.length)
      have e21 := lh_21 G2 X.flatten.length (X.flatten.length + l.length)
      generalize lhG G2 X.flatten.length (X.flatten.length + l.length) = G3 at W3 e20 e21 ⊢
      have hnext := fun (c : Nat) => ih (X ++ [l]) (f - (l.length - 1)) c G3 (by rw [← e]; simp) (by omega) W3
      have hsk := fun (c : Nat) => skip G3 W3 X Y l e (nI c) (l.length - 1) 1 f (by omega) (by omega) (by omega)
      rw [gg_Md_high, Option.bind_some, gg_Md_low, Option.bind_some, e20, e21, s_Md_page W3.ms.pg, ci_some, n_sub (by omega), show X.flatten.length + l.length - X.flatten.length = l.length by omega, show (2 : Int32) * nI l.length = nI (2 * l.length) from n_mul 2 _, show nI X.flatten.length + 1 = nI (X.flatten.length + 1) from nI_add _ 1, show nI a + 1 = nI (a + 1) from nI_add a 1, show nI a + 0 = nI (a + 0) from nI_add a 0, List.filter_cons]
      by_cases hs : 2 * l.length < pPg P
      · rw [if_pos (lp hs (by omega)), hsk, if_pos (decide_eq_true hs), List.length_cons]
        obtain ⟨G', q1, q2⟩ := hnext (a + 1)
        rw [show (X ++ [l]).flatten.length = X.flatten.length + l.length by simp] at q1
        exact ⟨G', by rw [q1, show a + 1 + (Y.filter (fun l => decide (2 * l.length < pPg P))).length = a + ((Y.filter (fun l => decide (2 * l.length < pPg P))).length + 1) by omega], q2⟩
      · rw [if_neg (lm (by omega) (by omega)), hsk, if_neg (by rw [decide_eq_false hs]; decide)]
        obtain ⟨G', q1, q2⟩ := hnext (a + 0)
        rw [show (X ++ [l]).flatten.length = X.flatten.length + l.length by simp] at q1
        exact ⟨G', q1, q2⟩
  obtain ⟨G', q1, q2⟩ := key (aL A i) [] mm_fu 0 G1 rfl (fu_lt (by omega)) W1
  rw [Nat.zero_add] at q1
  exact ⟨G', q1, q2⟩
/-- SPLITS -/
theorem r_splits (W : MW Z G P T A U cu) (x v : Int32) : ∃ G', f_Md_splits [.ref 618, .int x, .int v] (hp G) = some (some (.int (b2 (splW P A x v))), hp G') ∧ MW Z G' P T A U cu := by
  have hn := W.inv.ni
  have W1 := W.th 0
  rw [e_Md_splits 618 _ _ _ (ob_Md G), ww_Md_thrown, Option.bind_some]
  generalize gsi G 618 0 0 = G1 at W1 ⊢
  have h := W1.inv
  have H := W1.ms
  rw [m_isIndex W1, ci_some]
  unfold splW
  cases hx : isIx P x
  · rw [if_pos (by decide)]; exact ⟨G1, rfl, W1⟩
  obtain ⟨i, hi, rfl⟩ := (isIx_iff hn x).mp hx
  rw [if_neg (by decide), s_Md_isValue, ci_some, nI_tn (by omega), Bool.true_and]
  cases hv : isVal v
  · rw [if_pos (by decide)]; exact ⟨G1, rfl, W1⟩
  obtain ⟨k, hk, rfl⟩ := (isVal_iff v).mp hv
  have hkl := h.kl hi
  have h30 := hkl.2.1
  have hr30 := h.kr.1
  have h2 : G1.1 628 2 = nI (aM A) := by have := H.m; rw [Nat.zero_add] at this; exact this
  rw [if_neg (by decide), show f_Md_entries [.ref 618, .int 0, .int (nI i)] (hp G1) = _ from H.ent h.os hi, ci_some, Bool.true_and, nI_tn (by omega)]
  unfold splS
  by_cases h0 : aL A i = []
  · rw [h0, if_pos (by rfl)]
    exact ⟨G1, rfl, W1⟩
  have hpos : 0 < (aL A i).flatten.length := by
    obtain ⟨l, Y, e⟩ := List.exists_cons_of_ne_nil h0
    have hl := List.length_pos_iff.mpr (hkl.2.2.1 l (by rw [e]; simp)).1
    rw [e, List.flatten_cons, List.length_append]
    omega
  rw [if_neg (show ¬ nI (aL A i).flatten.length = (0 : Int32) from ln (n := 0) (by omega) (by omega) (by decide)), gg_Md_state, Option.bind_some, show mm_li (hp G1) 628 (2 : Int32) = some (G1.1 628 2) from rr_Md_state G1 (i := 2) (by decide), Option.bind_some, h2, m_entryOf H.hP h.pp hi hk, ci_some]
  have hc : codD (dnP P i) k (aM A) < 32032 := by
    unfold codD
    split <;> omega
  generalize codD (dnP P i) k (aM A) = c at hc ⊢
  obtain ⟨X, l1, l2, Y, e, p1, p2, p3, p4, p5⟩ := cut_dec c h0 (fun l hl => (hkl.2.2.1 l hl).1) hkl.2.2.2.2.1
  have hpl : f_Md_placeFor [.ref 618, .int 0, .int (nI i), .int (nI c)] (hp G1) = some (some (.int (nI (X.flatten.length + l1.length))), hp G1) := by
    have := s_Md_placeFor H.hb (show i < 4 by omega) (H.tr hi) (okM_fl hkl) (e := c) (by omega)
    rw [e, flat_low p1 p2 (fun x hx => by have := p3 x hx; omega) (fun x hx => by have := p4 x hx; omega)] at this
    exact this
  have hlf : lfN c (aL A i) = X.length := by rw [e]; exact lfN_decW p2 p3 p4 p5
  have hgd : (aL A i).getD (lfN c (aL A i)) [] = l1 ++ l2 := by
    rw [hlf, e, List.getD_eq_getElem?_getD, List.getElem?_append_right (Nat.le_refl _), Nat.sub_self]
    rfl
  have hle8 : (l1 ++ l2).length ≤ pPg P := (hkl.2.2.1 (l1 ++ l2) (by rw [e]; simp)).2
  have hne : 0 < (l1 ++ l2).length := List.length_pos_iff.mpr (hkl.2.2.1 (l1 ++ l2) (by rw [e]; simp)).1
  have hpg := h.pp.1
  have hall : X.flatten.length + (l1 ++ l2).length ≤ 30 := by
    have := congrArg (fun L => L.flatten.length) e
    simp only [List.flatten_append, List.flatten_cons, List.length_append] at this ⊢
    omega
  rw [hpl, ci_some, hgd, show (aL A i).isEmpty = false by rw [e]; simp, Bool.not_false, Bool.true_and]
  have fin : ∀ (q : Nat), q < (l1 ++ l2).length → ∃ G', (mm_cv (f_Md_leafAround [.ref 618, .int 0, .int (nI i), .int (nI (X.flatten.length + q))] (hp G1)) fun h14 => (mm_gi 12 21 h14 618).bind fun x15 => (mm_gi 12 20 h14 618).bind fun x16 => mm_ci (f_Md_page [.ref 618] h14) fun x18 h17 => if (x15 - x16) = x18 then (some (some (Value.int 1), h17) : Option (Option Value × mm_H)) else some (some (Value.int 0), h17)) = some (some (Value.int (b2 (decide (pPg P ≤ (l1 ++ l2).length)))), hp G') ∧ MW Z G' P T A U cu := by
    intro q hq
    have har := H.around h.os hi e hq
    rw [show f_Md_leafAround [.ref 618, .int 0, .int (nI i), .int (nI (X.flatten.length + q))] (hp G1) = _ from har, cv_some]
    have W3 := W1.lh X.flatten.length (X.flatten.length + (l1 ++ l2).length)
    have e20 := lh_20 G1 X.flatten.length (X.flatten.length + (l1 ++ l2).length)
    have e21 := lh_21 G1 X.flatten.length (X.flatten.length + (l1 ++ l2).length)
    generalize lhG G1 X.flatten.length (X.flatten.length + (l1 ++ l2).length) = G3 at W3 e20 e21 ⊢
    refine ⟨G3, ?_, W3⟩
    rw [gg_Md_high, Option.bind_some, gg_Md_low, Option.bind_some, e20, e21, s_Md_page W3.ms.pg, ci_some, n_sub (by omega), show X.flatten.length + (l1 ++ l2).length - X.flatten.length = (l1 ++ l2).length by omega]
    by_cases hs : pPg P ≤ (l1 ++ l2).length
    · rw [if_pos (lq (by omega)), decide_eq_true hs]; rfl
    · rw [if_neg (ln (by omega) (by omega) (by omega)), decide_eq_false hs]; rfl
  by_cases hz : X.flatten.length + l1.length = 0
  · rw [if_pos (show nI (X.flatten.length + l1.length) = (0 : Int32) from lq (n := 0) hz)]
    have := fin 0 hne
    rw [show X.flatten.length + 0 = 0 by omega] at this
    exact this
  · have hl1 : 0 < l1.length := by
      cases hl : l1 with
      | nil =>
        have := p5 hl
        rw [hl, this] at hz
        exact absurd rfl hz
      | cons y ys => simp
    rw [if_neg (show ¬ nI (X.flatten.length + l1.length) = (0 : Int32) from ln (n := 0) hz (by rw [List.length_append] at hall; omega) (by decide)), show nI (X.flatten.length + l1.length) - 1 = nI (X.flatten.length + (l1.length - 1)) by rw [show nI (X.flatten.length + l1.length) - 1 = nI (X.flatten.length + l1.length - 1) from n_sub (b := 1) (by omega)]; congr 1; omega]
    exact fin (l1.length - 1) (by rw [List.length_append]; omega)
/-- TURN -/
theorem r_turn (W : MW Z G P T A U cu) (x : Int32) : ∃ G', f_Md_turn [.ref 618, .int x] (hp G) = some (some (.int (turW P A x)), hp G') ∧ MW Z G' P T A U cu := by
  have hn := W.inv.ni
  have W1 := W.th 0
  rw [e_Md_turn 618 _ _ (ob_Md G), ww_Md_thrown, Option.bind_some]
  generalize gsi G 618 0 0 = G1 at W1 ⊢
  refine ⟨G1, ?_, W1⟩
  have h := W1.inv
  have H := W1.ms
  unfold turW
  cases hx : isIx P x
  · obtain ⟨f0, hf0⟩ : ∃ g, mm_fu = g + 1 := ⟨mm_fu - 1, by have := @fu_lt 100 (by omega); omega⟩
    rw [hf0, e_Md_turn_12, m_isIndex W1, ci_some, hx, if_pos (by decide)]; rfl
  obtain ⟨i, hi, rfl⟩ := (isIx_iff hn x).mp hx
  have hkl := h.kl hi
  have h30 := hkl.2.1
  rw [if_pos (show true = true from rfl), nI_tn (by omega)]
  have inner : ∀ (u c : Int32) (r : Nat), r < 30 → ∀ (j k f : Nat) (a : Bool), k + j = (aL A i).flatten.length → j < f → mm_run p_Md_turn f 33 [.ref 618, .int (nI i), .int u, .int c, .int (nI r), .int (b2 a), .int (nI k)] [] (hp G1) = mm_run p_Md_turn (f - j) 33 [.ref 618, .int (nI i), .int u, .int c, .int (nI r), .int (b2 (a || ((aL A i).flatten.drop k).any (fun c => decide (c % 32 = r)))), .int (nI (aL A i).flatten.length)] [] (hp G1) := by
    intro u c r hr j
    induction j with
    | zero =>
      intro k f a hk hf
      rw [show k = (aL A i).flatten.length by omega, List.drop_of_length_le (Nat.le_refl _), List.any_nil, Bool.or_false, Nat.sub_zero]
    | succ j ih =>
      intro k f a hk hf
      obtain ⟨f, rfl⟩ : ∃ g, f = g + 1 := ⟨f - 1, by omega⟩
      have hlt : k < (aL A i).flatten.length := by omega
      rw [e_Md_turn_33, show f_Md_entries [.ref 618, .int 0, .int (nI i)] (hp G1) = _ from H.ent h.os hi, ci_some, if_pos (lp hlt (by omega)), show nI k + 1 = nI (k + 1) from nI_add k 1, drop_cons hlt, List.any_cons, show f + 1 - (j + 1) = f - j by omega]
      cases a
      · have hm : (aL A i).flatten[k] % 32 < 32 := Nat.mod_lt _ (by decide)
        rw [if_pos (show b2 false = 0 from rfl), show f_Md_rowAt [.ref 618, .int 0, .int (nI i), .int (nI k)] (hp G1) = _ from H.rat h.os hi hlt, ci_some, Bool.false_or]
        by_cases e : (aL A i).flatten[k] % 32 = r
        · rw [if_pos (by rw [e]), decide_eq_true e, show mm_run p_Md_turn f 33 [.ref 618, .int (nI i), .int u, .int c, .int (nI r), .int 1, .int (nI (k + 1))] [] (hp G1) = _ from ih (k + 1) f true (by omega) (by omega)]
        · rw [if_neg (ln e (by omega) (by omega)), decide_eq_false e, show mm_run p_Md_turn f 33 [.ref 618, .int (nI i), .int u, .int c, .int (nI r), .int 0, .int (nI (k + 1))] [] (hp G1) = _ from ih (k + 1) f false (by omega) (by omega)]
      · rw [if_neg (show ¬ b2 true = 0 by decide), Bool.true_or, show mm_run p_Md_turn f 33 [.ref 618, .int (nI i), .int u, .int c, .int (nI r), .int 1, .int (nI (k + 1))] [] (hp G1) = _ from ih (k + 1) f true (by omega) (by omega), Bool.true_or]
  have hany : ∀ r, r < 30 → (aL A i).flatten.any (fun c => decide (c % 32 = r)) = bt (rb (aL A i)) r := fun r hr => by
    rw [bt_rb _ (show r < 32 by omega), Bool.eq_iff_iff, List.any_eq_true, decide_eq_true_eq, List.mem_map]
    simp only [decide_eq_true_eq]
  have key : ∀ (j r f : Nat), r + j = 30 → 100 * j < f → wayN (upT (aL A i) r) (pPg P) (aL A i) ≠ 1 → mm_run p_Md_turn f 12 [.ref 618, .int (nI i), .int (upT (aL A i) r), .int (nI (bc (upT (aL A i) r))), .int (nI r)] [] (hp G1) = some (some (.int (turR (pPg P) (aL A i) j r)), hp G1) := by
    intro j
    induction j with
    | zero =>
      intro r f hj hf hw
      obtain ⟨f, rfl⟩ : ∃ g, f = g + 1 := ⟨f - 1, by omega⟩
      rw [e_Md_turn_12, m_isIndex W1, ci_some, hx, if_neg (by decide), if_neg (show ¬ nI r < (30 : Int32) from lm (n := 30) (by omega) (by omega))]
      rfl
    | succ j ih =>
      intro r f hj hf hw
      obtain ⟨f, rfl⟩ : ∃ g, f = g + 1 := ⟨f - 1, by omega⟩
      have hin := inner (upT (aL A i) r) (nI (bc (upT (aL A i) r))) r (by omega) (aL A i).flatten.length 0 f false (by omega) (by omega)
      obtain ⟨f', hf'⟩ : ∃ g, f - (aL A i).flatten.length = g + 1 := ⟨f - (aL A i).flatten.length - 1, by omega⟩
      rw [List.drop_zero, Bool.false_or, hany r (by omega), hf'] at hin
      rw [e_Md_turn_12, m_isIndex W1, ci_some, hx, if_neg (by decide), if_pos (show nI r < (30 : Int32) from lp (n := 30) (by omega) (by decide)), show mm_run p_Md_turn f 33 [.ref 618, .int (nI i), .int (upT (aL A i) r), .int (nI (bc (upT (aL A i) r))), .int (nI r), .int 0, .int 0] [] (hp G1) = _ from hin, e_Md_turn_33, show f_Md_entries [.ref 618, .int 0, .int (nI i)] (hp G1) = _ from H.ent h.os hi, ci_some, if_neg (lm (Nat.le_refl _) (by omega)), show nI r + 1 = nI (r + 1) from nI_add r 1]
      have hus : upT (aL A i) (r + 1) = msk (fun r => bt (rb (aL A i)) r) (r + 1) := rfl
      unfold turR
      cases hb : bt (rb (aL A i)) r
      · have hup : upT (aL A i) (r + 1) = upT (aL A i) r := msk_n (p := fun r => bt (rb (aL A i)) r) hb
        rw [if_pos (show b2 false = 0 from rfl), hup, if_neg hw]
        have := ih (r + 1) f' (by omega) (by omega) (by rw [hup]; exact hw)
        rw [hup] at this
        exact this
      · have hup : upT (aL A i) (r + 1) = upT (aL A i) r ||| sbit r := msk_y (p := fun r => bt (rb (aL A i)) r) hb
        have hbr : bt (upT (aL A i) r) r = false := by
          unfold upT
          rw [bt_msk _ _ (by omega) r (by omega), decide_eq_false (Nat.lt_irrefl r)]
          rfl
        have hbc : bc (upT (aL A i) (r + 1)) = bc (upT (aL A i) r) + 1 := by rw [hup]; exact bc_or _ (by omega) hbr
        have hle := wayN_le (upT (aL A i) (r + 1)) (pPg P) (aL A i)
        rw [if_neg (show ¬ b2 true = 0 by decide), show (1 : Int32) <<< (nI r &&& 31) = sbit r from rfl, ← hup, show f_Md_wayBy [.ref 618, .int 0, .int (nI i), .int (upT (aL A i) (r + 1))] (hp G1) = _ from s_Md_wayBy H.pg H.hb (by omega) (H.tr hi) hkl _, ci_some, show nI (bc (upT (aL A i) r)) + 1 = nI (bc (upT (aL A i) r) + 1) from nI_add _ 1, ← hbc]
        by_cases e : wayN (upT (aL A i) (r + 1)) (pPg P) (aL A i) = 1
        · rw [if_pos (show nI (wayN (upT (aL A i) (r + 1)) (pPg P) (aL A i)) = (1 : Int32) from lq (n := 1) e), if_pos e]
        · rw [if_neg (show ¬ nI (wayN (upT (aL A i) (r + 1)) (pPg P) (aL A i)) = (1 : Int32) from ln (n := 1) e (by omega) (by decide)), if_neg e]
          exact ih (r + 1) f' (by omega) (by omega) e
  have hu0 : upT (aL A i) 0 = 0 := rfl
  have := key 30 0 mm_fu rfl (fu_lt (by omega)) (by rw [hu0, wayN_0]; decide)
  rw [hu0, show bc 0 = 0 from bc_0.mpr rfl] at this
  exact this
end MWR
