/-! STATE (the class): more that it reads -/
/-- the rows of an INDEX between bounds that BEGIN would choose -/
def eligA (P : PP) (A : AS) (i : Nat) (lo hi : Int32) : Int32 := msk (fun r => (bt (visA A) r && bt (rb (aL A i)) r) && (!decide (nI (valA P A i r) < lo) && !decide (hi < nI (valA P A i r)) && chooA P A r)) (aM A)
def staleA (P : PP) (A : AS) (i : Nat) : Int32 := (aL A i).flatten.foldl (fun a c => if bt (aD A) (c % 32) && (decide (codA P A i (c % 32) = c) && belA P A i (c % 32)) then a else a ||| sbit (c % 32)) 0
def missA (P : PP) (A : AS) (i : Nat) : Int32 := msk (fun r => bt (readA P A i) r && !decide (codA P A i r ∈ (aL A i).flatten)) (aM A)
def leftA (P : PP) (A : AS) (i : Nat) : Int32 := rb (aL A i) &&& doomA P A
def leftHere (P : PP) (A : AS) : Nat := match aJ A with
  | none => 0
  | some J => if jAt J < pNi P then bc (rb (aL A (jAt J)) &&& aC A) else 0
section RDS
variable {G : GG} {s p : Nat} {P : PP} {A : AS}
theorem s_St_treesHolding (H : SS G s p P A) {r : Nat} (hr : r < 32) : f_St_treesHolding [.ref s, .int (nI r)] (hp G) = some (some (.int (holdA P A r)), hp G) := by
  have hn := H.ni
  rw [e_St_treesHolding s _ _ (ob_St G H.os)]
  refine msk_loop (n := pNi P) (p := fun i => bt (rb (aL A i)) r) (R := fun f i x => mm_run p_St_treesHolding f 4 [.ref s, .int (nI r), .int x, .int (nI i)] [] (hp G)) (fun f i hi => ?_) (fun f => ?_) (fu_lt (by omega))
  · show mm_run _ _ _ _ _ _ = mm_run _ _ _ _ _ _
    rw [e_St_treesHolding_4, H.gp, Option.bind_some, H.gn, Option.bind_some, if_pos (lp hi (by omega)), gg_St_trees _ H.os, Option.bind_some, H.gt hi, Option.bind_some, s_Lv_rowBits (H.ol hi) (H.tr hi) (H.kl hi).2.1, ci_some, show nI i + 1 = nI (i + 1) from nI_add i 1, bt_shr1 _ hr]
    cases h1 : bt (rb (aL A i)) r
    · rw [msk_n (by exact h1), if_neg (by decide)]
      congr 5
      apply b_ext
      intro k hk
      rw [b_or, b_shl i (by omega) _ hk, b_0, Bool.and_false, Bool.or_false]
    · rw [msk_y (by exact h1), if_pos rfl]
      rfl
  · show mm_run _ _ _ _ _ _ = _
    rw [e_St_treesHolding_4, H.gp, Option.bind_some, H.gn, Option.bind_some, if_neg (lm (Nat.le_refl _) (by omega))]
    rfl
theorem s_St_missingRows (H : SS G s p P A) {i : Nat} (hi : i < pNi P) : f_St_missingRows [.ref s, .int (nI i)] (hp G) = some (some (.int (missA P A i)), hp G) := by
  have hm := H.kr.1
  rw [e_St_missingRows s _ _ (ob_St G H.os), s_St_readable H hi, ci_some]
  refine msk_loop (n := aM A) (p := fun r => bt (readA P A i) r && !decide (codA P A i r ∈ (aL A i).flatten)) (R := fun f r x => mm_run p_St_missingRows f 11 [.ref s, .int (nI i), .int (readA P A i), .int x, .int (nI r)] [] (hp G)) (fun f r hr => ?_) (fun f => ?_) (fu_lt (by omega))
  · show mm_run _ _ _ _ _ _ = mm_run _ _ _ _ _ _
    rw [e_St_missingRows_11, gg_St_rows _ H.os, Option.bind_some, H.gm, Option.bind_some, if_pos (lp hr (by omega)), show nI r + 1 = nI (r + 1) from nI_add r 1, show (1 : Int32) <<< (nI r &&& 31) = sbit r from rfl, bt_shr1 _ (by omega)]
    cases h1 : bt (readA P A i) r
    · rw [if_pos (by decide), msk_n (by rw [h1]; rfl)]
    · have hv := H.va hi hr
      have hc : codA P A i r < 2147483648 := by
        unfold codA codD
        split <;> omega
      rw [if_neg (by decide), gg_St_trees _ H.os, Option.bind_some, H.gt hi, Option.bind_some, s_St_codeOf H hi hr, ci_some, s_Lv_holdsCode (H.ol hi) (H.tr hi) (H.kl hi) hc, ci_some]
      by_cases h2 : codA P A i r ∈ (aL A i).flatten
      · rw [if_pos h2, if_neg (by decide), msk_n (by rw [decide_eq_true h2, h1]; rfl)]
      · rw [if_neg h2, if_pos rfl, msk_y (by rw [decide_eq_false h2, h1]; rfl)]
  · show mm_run _ _ _ _ _ _ = _
    rw [e_St_missingRows_11, gg_St_rows _ H.os, Option.bind_some, H.gm, Option.bind_some, if_neg (lm (Nat.le_refl _) (by omega))]
    rfl
theorem s_St_would (H : SS G s p P A) (lo hi : Int32) : f_St_eligible [.ref s, .int (-1), .int lo, .int hi] (hp G) = some (some (.int (wouldA P A)), hp G) := by
  have hm := H.kr.1
  rw [e_St_eligible s _ _ _ _ (ob_St G H.os), gg_St_rows _ H.os, Option.bind_some, s_Rw_visible H.1.1.rw H.rw, ci_some, if_pos rfl]
  have key : ∀ (j r f : Nat), r + j = aM A → 2 * j < f → mm_run p_St_eligible f 34 [.ref s, .int (-1), .int lo, .int hi, .int (visB (aD A) (aC A)), .int (msk (fun r => bt (visA A) r && chooA P A r) r), .int (nI r)] [] (hp G) = some (some (.int (wouldA P A)), hp G) := by
    intro j
    induction j with
    | zero =>
      intro r f hj hf
      obtain ⟨f, rfl⟩ : ∃ g, f = g + 1 := ⟨f - 1, by omega⟩
      have : r = aM A := by omega
      subst this
      rw [e_St_eligible_34, gg_St_rows _ H.os, Option.bind_some, H.gm, Option.bind_some, if_neg (lm (Nat.le_refl _) (by omega))]
      rfl
    | succ j ih =>
      intro r f hj hf
      obtain ⟨f, rfl⟩ : ∃ g, f = g + 2 := ⟨f - 2, by omega⟩
      have hr : r < aM A := by omega
      rw [e_St_eligible_34, gg_St_rows _ H.os, Option.bind_some, H.gm, Option.bind_some, if_pos (lp hr (by omega)), bt_shr1 _ (by omega), show nI r + 1 = nI (r + 1) from nI_add r 1]
      cases h1 : bt (visB (aD A) (aC A)) r
      · rw [if_pos (by decide)]
        have := ih (r + 1) (f + 1) (by omega) (by omega)
        rw [msk_n (by unfold visA; rw [h1]; rfl)] at this
        exact this
      · rw [if_neg (by decide), if_pos rfl, e_St_eligible_86, if_pos rfl, H.gp, Option.bind_some, gg_Pl_choose _ H.op, Option.bind_some, H.ch hr, ci_some, show nI r + 1 = nI (r + 1) from nI_add r 1, show (1 : Int32) <<< (nI r &&& 31) = sbit r from rfl]
        have := ih (r + 1) f (by omega) (by omega)
        cases h2 : chooA P A r
        · rw [if_pos (by decide)]
          rw [msk_n (by rw [h2, Bool.and_false])] at this
          exact this
        · rw [if_neg (by decide)]
          rw [msk_y (by unfold visA; rw [h1, h2]; rfl)] at this
          exact this
  exact key (aM A) 0 mm_fu (by omega) (fu_lt (by omega))
theorem s_St_eligible (H : SS G s p P A) {i : Nat} (hi : i < pNi P) (lo hi' : Int32) : f_St_eligible [.ref s, .int (nI i), .int lo, .int hi'] (hp G) = some (some (.int (eligA P A i lo hi')), hp G) := by
  have hm := H.kr.1
  have hn := H.ni
  have hne : ¬ nI i = (-1 : Int32) := n_m1 (by omega)
  rw [e_St_eligible s _ _ _ _ (ob_St G H.os), gg_St_rows _ H.os, Option.bind_some, s_Rw_visible H.1.1.rw H.rw, ci_some, if_neg hne, gg_St_trees _ H.os, Option.bind_some, H.gt hi, Option.bind_some, s_Lv_rowBits (H.ol hi) (H.tr hi) (H.kl hi).2.1, ci_some]
  have key : ∀ (j r f : Nat), r + j = aM A → 2 * j < f → mm_run p_St_eligible f 34 [.ref s, .int (nI i), .int lo, .int hi', .int (visB (aD A) (aC A) &&& rb (aL A i)), .int (msk (fun r => (bt (visA A) r && bt (rb (aL A i)) r) && (!decide (nI (valA P A i r) < lo) && !decide (hi' < nI (valA P A i r)) && chooA P A r)) r), .int (nI r)] [] (hp G) = some (some (.int (eligA P A i lo hi')), hp G) := by
    intro j
    induction j with
    | zero =>
      intro r f hj hf
      obtain ⟨f, rfl⟩ : ∃ g, f = g + 1 := ⟨f - 1, by omega⟩
      have : r = aM A := by omega
      subst this
      rw [e_St_eligible_34, gg_St_rows _ H.os, Option.bind_some, H.gm, Option.bind_some, if_neg (lm (Nat.le_refl _) (by omega))]
      rfl
    | succ j ih =>
      intro r f hj hf
      obtain ⟨f, rfl⟩ : ∃ g, f = g + 2 := ⟨f - 2, by omega⟩
      have hr : r < aM A := by omega
      rw [e_St_eligible_34, gg_St_rows _ H.os, Option.bind_some, H.gm, Option.bind_some, if_pos (lp hr (by omega)), bt_shr1 _ (by omega), show nI r + 1 = nI (r + 1) from nI_add r 1, b_and]
      cases h1 : (bt (visB (aD A) (aC A)) r && bt (rb (aL A i)) r)
      · rw [if_pos (by decide)]
        have := ih (r + 1) (f + 1) (by omega) (by omega)
        rw [msk_n (by unfold visA; rw [h1]; rfl)] at this
        exact this
      · rw [if_neg (by decide), if_neg hne, Option.bind_some, H.gp, Option.bind_some, gg_Pl_column _ H.op, Option.bind_some, H.gc hi, Option.bind_some, s_Rw_valueOf H.1.1.rw H.rw H.kr hr (H.co hi), ci_some, e_St_eligible_86, if_neg hne, show nI r + 1 = nI (r + 1) from nI_add r 1, show (1 : Int32) <<< (nI r &&& 31) = sbit r from rfl]
        have := ih (r + 1) f (by omega) (by omega)
        have ev : aV A r (pCo P i) = valA P A i r := rfl
        rw [ev]
        by_cases h3 : nI (valA P A i r) < lo
        · rw [if_pos h3]
          rw [msk_n (by rw [decide_eq_true h3]; simp)] at this
          exact this
        · rw [if_neg h3]
          by_cases h4 : hi' < nI (valA P A i r)
          · rw [if_pos h4]
            rw [msk_n (by rw [decide_eq_true h4]; simp)] at this
            exact this
          · rw [if_neg h4, H.gp, Option.bind_some, gg_Pl_choose _ H.op, Option.bind_some, H.ch hr, ci_some]
            cases h2 : chooA P A r
            · rw [if_pos (by decide)]
              rw [msk_n (by rw [h2]; simp)] at this
              exact this
            · rw [if_neg (by decide)]
              rw [msk_y (by unfold visA; rw [h1, h2, decide_eq_false h3, decide_eq_false h4]; rfl)] at this
              exact this
  exact key (aM A) 0 mm_fu (by omega) (fu_lt (by omega))
theorem s_St_doomed (H : SS G s p P A) : f_St_doomed [.ref s] (hp G) = some (some (.int (doomA P A)), hp G) := by
  have hj := H.jb
  rw [e_St_doomed s _ (ob_St G H.os), gg_St_job _ H.os, Option.bind_some, gg_Jb_on _ H.1.1.jb, Option.bind_some]
  unfold doomA
  cases h : aJ A with
  | none =>
    rw [h] at hj
    rw [hj.1, if_pos rfl, s_St_would H, ci_some]
  | some J =>
    rw [h] at hj
    rw [hj.1.1, if_neg (by decide), gg_St_rows _ H.os, Option.bind_some, gg_Rw_chosen _ H.1.1.rw, Option.bind_some, H.rw.1.2.2]
theorem s_St_leftOf (H : SS G s p P A) {i : Nat} (hi : i < pNi P) : f_St_leftOf [.ref s, .int (nI i)] (hp G) = some (some (.int (leftA P A i)), hp G) := by
  rw [e_St_leftOf s _ _ (ob_St G H.os), gg_St_trees _ H.os, Option.bind_some, H.gt hi, Option.bind_some, s_Lv_rowBits (H.ol hi) (H.tr hi) (H.kl hi).2.1, ci_some, s_St_doomed H, ci_some]
  rfl
theorem s_St_leftWhereAt (H : SS G s p P A) : f_St_leftWhereAt [.ref s] (hp G) = some (some (.int (nI (leftHere P A))), hp G) := by
  have hj := H.jb
  have hk := H.kj
  have hn := H.ni
  rw [e_St_leftWhereAt s _ (ob_St G H.os), gg_St_job _ H.os, Option.bind_some, gg_Jb_on _ H.1.1.jb, Option.bind_some]
  unfold leftHere
  cases h : aJ A with
  | none =>
    rw [h] at hj
    rw [hj.1, if_pos rfl]
    rfl
  | some J =>
    rw [h] at hj hk
    have h4 : jAt J ≤ 4 := hk.1
    rw [hj.1.1, if_neg (by decide), Option.bind_some, gg_Jb_at _ H.1.1.jb, Option.bind_some, H.gp, Option.bind_some, H.gn, Option.bind_some, hj.1.2.2.1]
    by_cases h5 : jAt J < pNi P
    · rw [if_pos (lp h5 (by omega)), gg_St_trees _ H.os, Option.bind_some, Option.bind_some, gg_Jb_at _ H.1.1.jb, Option.bind_some, hj.1.2.2.1, H.gt h5, Option.bind_some, s_Lv_rowBits (H.ol h5) (H.tr h5) (H.kl h5).2.1, ci_some, gg_St_rows _ H.os, Option.bind_some, gg_Rw_chosen _ H.1.1.rw, Option.bind_some, H.rw.1.2.2, s_Ji_bitCount, ci_some]
      simp only [h5, if_true]
    · rw [if_neg (lm (by omega) (by omega))]
      simp only [h5, if_false]
      rfl
theorem s_St_staleRows (H : SS G s p P A) {i : Nat} (hi : i < pNi P) : f_St_staleRows [.ref s, .int (nI i)] (hp G) = some (some (.int (staleA P A i)), hp G) := by
  have hm := H.kr.1
  have hkl := H.kl hi
  have htr := H.tr hi
  have hol := H.ol hi
  rw [e_St_staleRows s _ _ (ob_St G H.os), gg_St_trees _ H.os, Option.bind_some, H.gt hi, Option.bind_some]
  refine for_list (aL A i).flatten (fun f k x => mm_run p_St_staleRows f 12 [.ref s, .int (nI i), .ref (s + 16 + 3 * i), .int x, .int (nI k)] [] (hp G)) (fun a c => if bt (aD A) (c % 32) && (decide (codA P A i (c % 32) = c) && belA P A i (c % 32)) then a else a ||| sbit (c % 32)) (fun x => some (some (.int x), hp G)) (fun f k x hk => ?_) (fun f x => ?_) 0 (fu_lt (by have := hkl.2.1; omega))
  · have h30 := hkl.2.1
    have hc := hkl.cod hk
    have hc32 : (aL A i).flatten[k] % 32 < 32 := Nat.mod_lt _ (by decide)
    show mm_run _ _ _ _ _ _ = mm_run _ _ _ _ _ _
    rw [e_St_staleRows_12, gg_Lv_entries _ hol, Option.bind_some, htr.1.1, if_pos (lp hk (by omega)), gg_Lv_entry _ hol, Option.bind_some, rr_Lv_entry _ hol (by omega), Option.bind_some, htr.2.1 k hk, s_Lv_rowIn, ci_some, gg_St_rows _ H.os, Option.bind_some, gg_Rw_there _ H.1.1.rw, Option.bind_some, H.rw.1.2.1, bt_shr1 _ hc32, show nI k + 1 = nI (k + 1) from nI_add k 1]
    have hcd := htr.2.1 k hk
    generalize (aL A i).flatten[k] = c at *
    rw [show (1 : Int32) <<< (nI (c % 32) &&& 31) = sbit (c % 32) from rfl]
    cases h1 : bt (aD A) (c % 32)
    · rw [if_pos (by decide), Bool.false_and, if_neg (by decide)]
    · have hr : c % 32 < aM A := H.kr.2.2.1 _ h1
      have hv := H.va hi hr
      have hcb : codA P A i (c % 32) < 2147483648 := by
        unfold codA codD
        split <;> omega
      rw [if_neg (by decide), s_St_codeOf H hi hr, ci_some, gg_Lv_entry _ hol, Option.bind_some, rr_Lv_entry _ hol (by omega), Option.bind_some, hcd, Bool.true_and]
      by_cases h2 : codA P A i (c % 32) = c
      · rw [if_pos (lq h2), s_St_belongs H hi hr, ci_some, decide_eq_true h2, Bool.true_and]
        cases h3 : belA P A i (c % 32)
        · rw [if_pos (by decide), if_neg (by decide)]
        · rw [if_neg (by decide), if_pos rfl]
      · rw [if_neg (ln h2 hcb (by omega)), decide_eq_false h2, Bool.false_and, if_neg (by decide)]
  · show mm_run _ _ _ _ _ _ = _
    rw [e_St_staleRows_12, gg_Lv_entries _ hol, Option.bind_some, htr.1.1, if_neg (lm (Nat.le_refl _) (by have := hkl.2.1; omega))]
/-- the first INDEX on the first COLUMN that is not partial -/
def singA (P : PP) (A : AS) : Nat := match (List.range (pNi P)).find? (fun i => pCo P i == 0 && !(pKd P i == 3)) with
  | some i => (hg (pPg P) (aL A i).length + 1) * firmOnes (aN A) (aS A) (aT A)
  | none => bc (doomA P A) * firmOnes (aN A) (aS A) (aT A)
theorem s_St_singlyCost (H : SS G s p P A) : f_St_singlyCost [.ref s] (hp G) = some (some (.int (nI (singA P A))), hp G) := by
  have hn := H.ni
  rw [e_St_singlyCost s _ (ob_St G H.os)]
  have key : ∀ (j i f : Nat), i + j = pNi P → j < f → mm_run p_St_singlyCost f 2 [.ref s, .int (nI i)] [] (hp G) = some (some (.int (nI (match ((List.range (pNi P)).drop i).find? (fun i => pCo P i == 0 && !(pKd P i == 3)) with
    | some i => (hg (pPg P) (aL A i).length + 1) * firmOnes (aN A) (aS A) (aT A)
    | none => bc (doomA P A) * firmOnes (aN A) (aS A) (aT A)))), hp G) := by
    intro j
    induction j with
    | zero =>
      intro i f hj hf
      obtain ⟨f, rfl⟩ : ∃ g, f = g + 1 := ⟨f - 1, by omega⟩
      rw [e_St_singlyCost_2, H.gp, Option.bind_some, H.gn, Option.bind_some, if_neg (lm (by omega) (by omega)), s_St_doomed H, ci_some, s_Ji_bitCount, ci_some, gg_St_points _ H.os, Option.bind_some, s_Pt_firmOnes H.1.1.pt H.pt H.kp, ci_some, List.drop_of_length_le (by simp; omega), n_mul]
      rfl
    | succ j ih =>
      intro i f hj hf
      obtain ⟨f, rfl⟩ : ∃ g, f = g + 1 := ⟨f - 1, by omega⟩
      have hi : i < pNi P := by omega
      have hk := H.kd hi
      have hc := H.co hi
      have := ih (i + 1) f (by omega) (by omega)
      rw [e_St_singlyCost_2, H.gp, Option.bind_some, H.gn, Option.bind_some, if_pos (lp hi (by omega)), Option.bind_some, gg_Pl_column _ H.op, Option.bind_some, H.gc hi, Option.bind_some, show nI i + 1 = nI (i + 1) from nI_add i 1, drop_cons (l := List.range (pNi P)) (i := i) (by simpa using hi), List.find?_cons, List.getElem_range]
      by_cases h1 : pCo P i = 0
      · rw [if_pos (show nI (pCo P i) = (0 : Int32) from lq (n := 0) h1), Option.bind_some, gg_Pl_kind _ H.op, Option.bind_some, H.gk hi, Option.bind_some]
        by_cases h2 : pKd P i = 3
        · rw [if_pos (show nI (pKd P i) = (3 : Int32) from lq (n := 3) h2), this]
          have e : (pCo P i == 0 && !(pKd P i == 3)) = false := by rw [h1, h2]; rfl
          rw [e]
        · rw [if_neg (show ¬ nI (pKd P i) = (3 : Int32) from ln (n := 3) h2 (by omega) (by omega)), gg_St_trees _ H.os, Option.bind_some, H.gt hi, Option.bind_some, s_Lv_height (H.ol hi) (H.tr hi) H.2.1.2.1 (H.kl hi).len, ci_some, gg_St_points _ H.os, Option.bind_some, s_Pt_firmOnes H.1.1.pt H.pt H.kp, ci_some, show nI (hg (pPg P) (aL A i).length) + 1 = nI (hg (pPg P) (aL A i).length + 1) from nI_add _ 1, n_mul]
          have e0 : (pKd P i == 3) = false := by simpa using h2
          have e : (pCo P i == 0 && !(pKd P i == 3)) = true := by rw [h1, e0]; rfl
          rw [e]
      · rw [if_neg (show ¬ nI (pCo P i) = (0 : Int32) from ln (n := 0) h1 (by omega) (by omega)), this]
        have e0 : (pCo P i == 0) = false := by simpa using h1
        have e : (pCo P i == 0 && !(pKd P i == 3)) = false := by rw [e0]; rfl
        rw [e]
  have := key (pNi P) 0 mm_fu (by omega) (fu_lt (by omega))
  exact this
def aloneA (A : AS) (r k : Nat) : Bool := decide (havS (aV A) (visA A) k (aV A r k) &&& (sbit r ^^^ (-1)) = 0)
theorem s_St_isAlone (H : SS G s p P A) {r k : Nat} (hr : r < aM A) (hk : k < 3) : f_St_isAlone [.ref s, .int (nI r), .int (nI k)] (hp G) = some (some (.int (b2 (aloneA A r k))), hp G) := by
  have hv := H.kr.2.1 r k hr hk
  rw [e_St_isAlone s _ _ _ (ob_St G H.os), gg_St_rows _ H.os, Option.bind_some, Option.bind_some, s_Rw_valueOf H.1.1.rw H.rw H.kr hr hk, ci_some, s_Rw_having H.1.1.rw H.rw H.kr hk (by omega), ci_some, show (1 : Int32) <<< (nI r &&& 31) = sbit r from rfl]
  unfold aloneA visA
  by_cases h : havS (aV A) (visB (aD A) (aC A)) k (aV A r k) &&& (sbit r ^^^ (-1)) = 0
  · rw [if_pos h, decide_eq_true h]; rfl
  · rw [if_neg h, decide_eq_false h]; rfl
def heldA (A : AS) (r k : Nat) : Bool := k == 0 && (aloneA A r 0 && anyAt (aN A) (aT A) (nI (aV A r 0)))
theorem s_St_isHeld (H : SS G s p P A) {r k : Nat} (hr : r < aM A) (hk : k < 3) : f_St_isHeld [.ref s, .int (nI r), .int (nI k)] (hp G) = some (some (.int (b2 (heldA A r k))), hp G) := by
  rw [e_St_isHeld s _ _ _ (ob_St G H.os)]
  unfold heldA
  by_cases h : k = 0
  · rw [if_pos (show nI k = (0 : Int32) from lq (n := 0) h), show f_St_isAlone [.ref s, .int (nI r), .int 0] (hp G) = _ from s_St_isAlone (k := 0) H hr (by decide), ci_some]
    cases h2 : aloneA A r 0
    · rw [if_pos (by decide)]; simp [b2]
    · rw [if_neg (by decide), gg_St_points _ H.os, Option.bind_some, gg_St_rows _ H.os, Option.bind_some, show f_Rw_valueOf [.ref (s + 1), .int (nI r), .int 0] (hp G) = _ from s_Rw_valueOf (k := 0) H.1.1.rw H.rw H.kr hr (by decide), ci_some, s_Pt_anyAt H.1.1.pt H.pt H.kp.1, ci_some, h]
      cases anyAt (aN A) (aT A) (nI (aV A r 0))
      · rw [if_pos (by decide)]; rfl
      · rw [if_neg (by decide)]; rfl
  · rw [if_neg (show ¬ nI k = (0 : Int32) from ln (n := 0) h (by omega) (by omega))]
    simp [h, b2]
end RDS
