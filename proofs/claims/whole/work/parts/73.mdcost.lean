/-! THE REFERENCE: what the ways cost -/
theorem s_Md_has (d : Int32) {r : Nat} (hr : r < 32) (h : mm_H) : f_Md_has [.int d, .int (nI r)] h = some (some (.int (b2 (bt d r))), h) := by
  rw [e_Md_has, bt_shr1 d hr]
  cases bt d r
  · rw [if_neg (by decide)]; rfl
  · rw [if_pos (by decide)]; rfl
/-- leaf, first, last, many -/
abbrev PS := Nat × Nat × Nat × Nat
def psS (d : Int32) (a : PS) (x : Nat) : PS := if bt d (x / 2 % 32) && decide (a.2.2.1 < a.1 + x % 2) then (a.1 + x % 2, if a.2.2.2 = 0 then a.1 + x % 2 else a.2.1, a.1 + x % 2, a.2.2.2 + 1) else (a.1 + x % 2, a.2)
def encP : Option (Nat × Nat × Nat) → Nat × Nat × Nat
  | none => (0, 0, 0)
  | some (f, l, n) => (f + 1, l + 1, n)
def okE (k : Nat) (a : Option (Nat × Nat × Nat)) : Prop := ∀ f l n, a = some (f, l, n) → l ≤ k ∧ 1 ≤ n
theorem psS_eq (d : Int32) (j f l n x : Nat) : psS d (j, f, l, n) x = if (bt d (x / 2 % 32) && decide (l < j + x % 2)) = true then (j + x % 2, if n = 0 then j + x % 2 else f, j + x % 2, n + 1) else (j + x % 2, f, l, n) := rfl
theorem pcS_none (d : Int32) (k c : Nat) : pcS d none (k, c) = if bt d (c % 32) = true then some (k, k, 1) else none := rfl
theorem pcS_some (d : Int32) (f l n k c : Nat) : pcS d (some (f, l, n)) (k, c) = if bt d (c % 32) = true then (if l = k then some (f, l, n) else some (f, k, n + 1)) else some (f, l, n) := rfl
theorem encP_some (f l n : Nat) : encP (some (f, l, n)) = (f + 1, l + 1, n) := rfl
theorem ps_one {d : Int32} {k j c x : Nat} {a : Option (Nat × Nat × Nat)} (h : okE k a) (e1 : x / 2 = c) (e2 : j + x % 2 = k + 1) : psS d (j, encP a) x = (k + 1, encP (pcS d a (k, c))) ∧ okE k (pcS d a (k, c)) := by
  cases a with
  | none =>
    rw [show encP none = (0, 0, 0) from rfl, psS_eq, pcS_none, e1, e2]
    cases hb : bt d (c % 32)
    · rw [Bool.false_and, if_neg (by decide), if_neg (by decide)]
      exact ⟨rfl, h⟩
    · rw [if_pos (show (true = true) from rfl), Bool.true_and, if_pos (decide_eq_true (Nat.succ_pos k)), if_pos rfl]
      refine ⟨rfl, fun f l n e => ?_⟩
      have := Option.some.inj e
      simp only [Prod.mk.injEq] at this
      omega
  | some t =>
    obtain ⟨f, l, n⟩ := t
    obtain ⟨h1, h2⟩ := h f l n rfl
    rw [encP_some, psS_eq, pcS_some, e1, e2]
    cases hb : bt d (c % 32)
    · rw [Bool.false_and, if_neg (by decide), if_neg (by decide)]
      exact ⟨rfl, h⟩
    · rw [if_pos (show (true = true) from rfl), Bool.true_and]
      by_cases el : l = k
      · rw [if_neg (show ¬ decide (l + 1 < k + 1) = true by rw [decide_eq_true_eq]; omega), if_pos el]
        exact ⟨rfl, h⟩
      · rw [if_pos (decide_eq_true (show l + 1 < k + 1 by omega)), if_neg el, if_neg (show ¬ n = 0 by omega)]
        refine ⟨rfl, fun f' l' n' e => ?_⟩
        have := Option.some.inj e
        simp only [Prod.mk.injEq] at this
        omega
theorem ps_more {d : Int32} {k : Nat} : ∀ {cs : List Nat} {a : Option (Nat × Nat × Nat)}, okE k a → (cs.map (2 * ·)).foldl (psS d) (k + 1, encP a) = (k + 1, encP ((cs.map (fun c => (k, c))).foldl (pcS d) a)) ∧ okE k ((cs.map (fun c => (k, c))).foldl (pcS d) a)
  | [], a, h => ⟨rfl, h⟩
  | c :: cs, a, h => by
    obtain ⟨q1, q2⟩ := ps_one (d := d) (j := k + 1) (c := c) (x := 2 * c) h (by omega) (by omega)
    rw [List.map_cons, List.foldl_cons, q1, List.map_cons, List.foldl_cons]
    exact ps_more q2
theorem ps_all {d : Int32} : ∀ {L : LL} {k : Nat} {a : Option (Nat × Nat × Nat)}, (∀ l ∈ L, l ≠ []) → okE k a → (fl L).foldl (psS d) (k, encP a) = (k + L.length, encP ((zl k L).foldl (pcS d) a))
  | [], k, a, _, _ => rfl
  | l :: L, k, a, hne, h => by
    cases l with
    | nil => exact absurd rfl (hne [] List.mem_cons_self)
    | cons c cs =>
      obtain ⟨q1, q2⟩ := ps_one (d := d) (j := k) (c := c) (x := 2 * c + 1) h (by omega) (by omega)
      obtain ⟨q3, q4⟩ := ps_more (cs := cs) (d := d) q2
      rw [fl_cons, List.foldl_append]
      show (fl L).foldl (psS d) ((cs.map (2 * ·)).foldl (psS d) (psS d (k, encP a) (2 * c + 1))) = _
      rw [q1, q3]
      show (fl L).foldl (psS d) _ = (k + (L.length + 1), encP ((((c :: cs).map (fun c => (k, c))) ++ zl (k + 1) L).foldl (pcS d) a))
      rw [List.foldl_append, List.map_cons, List.foldl_cons, ps_all (fun x hx => hne x (List.mem_cons_of_mem _ hx)) (fun f l n e => by have := q4 f l n e; omega), show k + 1 + L.length = k + (L.length + 1) by omega]
section MDC
variable {G : GG} {b i page : Nat} {L : LL}
theorem fl_left (d : Int32) : ((fl L).filter (fun x => bt d (x / 2 % 32))).length = leftN d L := by
  unfold leftN
  rw [← fl_code, List.filter_map, List.length_map]
  rfl
theorem fl_row {page : Nat} (hk : okL page L) {k : Nat} (h : k < (fl L).length) : (fl L)[k] / 2 % 32 < 30 := by
  rw [fl_at h]
  exact (hk.2.2.2.1 _ (List.getElem_mem _)).2
theorem s_Md_leftMany (hb : b ≤ 9252) (hi : i < 4) (h : isM G (b + 359 + 31 * i) (fl L)) (hk : okL page L) (d : Int32) : f_Md_leftMany [.ref 618, .int (nI b), .int (nI i), .int d] (hp G) = some (some (.int (nI (leftN d L))), hp G) := by
  have hkM := okM_fl hk
  have h30 := hkM.1
  rw [e_Md_leftMany 618 _ _ _ _ (ob_Md G)]
  have := for_list (fl L) (fun f k a => mm_run p_Md_leftMany f 6 [.ref 618, .int (nI b), .int (nI i), .int d, .int (nI a), .int (nI k)] [] (hp G)) (fun a x => a + (if bt d (x / 2 % 32) then 1 else 0)) (fun a => some (some (.int (nI a)), hp G)) (fun f k a hl => by
    have hr := fl_row hk hl
    show mm_run _ _ _ _ _ _ = mm_run _ _ _ _ _ _
    rw [e_Md_leftMany_6, s_Md_entries hb hi h, ci_some, if_pos (lp hl (by omega)), s_Md_rowAt hb hi h hkM hl, ci_some, s_Md_has d (by omega), ci_some, show nI k + 1 = nI (k + 1) from nI_add k 1]
    cases bt d ((fl L)[k] / 2 % 32)
    · rw [if_pos (by decide), show nI a + 0 = nI (a + 0) from nI_add a 0]; rfl
    · rw [if_neg (by decide), show nI a + 1 = nI (a + 1) from nI_add a 1]; rfl) (fun f a => by
    show mm_run _ _ _ _ _ _ = _
    rw [e_Md_leftMany_6, s_Md_entries hb hi h, ci_some, if_neg (lm (Nat.le_refl _) (by omega))]) 0 (f := mm_fu) (fu_lt (by omega))
  rw [foldl_count, Nat.zero_add, fl_left] at this
  exact this
theorem s_Md_passCost (hp0 : G.1 624 0 = nI page) (hb : b ≤ 9252) (hi : i < 4) (h : isM G (b + 359 + 31 * i) (fl L)) (hk : okL page L) (d : Int32) : f_Md_passCost [.ref 618, .int (nI b), .int (nI i), .int d] (hp G) = some (some (.int (nI (passC d page L))), hp G) := by
  have hkM := okM_fl hk
  have h30 := hkM.1
  have hne : ∀ l ∈ L, l ≠ [] := fun l hl => (hk.2.2.1 l hl).1
  rw [e_Md_passCost 618 _ _ _ _ (ob_Md G)]
  have := for_inv (fl L) (fun f k (a : PS) => mm_run p_Md_passCost f 15 [.ref 618, .int (nI b), .int (nI i), .int d, .int (nI a.1), .int (nI a.2.1), .int (nI a.2.2.1), .int (nI a.2.2.2), .int (nI k)] [] (hp G)) (psS d) (fun k a => a.1 ≤ k ∧ a.2.2.1 ≤ k ∧ a.2.2.2 ≤ k ∧ a.2.1 ≤ k) (fun a => if a.2.2.2 = 0 then some (some (.int 0), hp G) else some (some (.int ((((nI (hg page L.length) + nI a.2.2.1) - nI a.2.1) + 1) + nI a.2.2.2)), hp G)) (fun f k a hl hI => by
    have hr := fl_row hk hl
    obtain ⟨i1, i2, i3, i4⟩ := hI
    have hp2 : (fl L)[k] % 2 = 0 ∨ (fl L)[k] % 2 = 1 := by omega
    refine ⟨?_, ?_⟩
    · show mm_run _ _ _ _ _ _ = mm_run _ _ _ _ _ _
      rw [e_Md_passCost_15, s_Md_entries hb hi h, ci_some, if_pos (lp hl (by omega)), s_Md_isFirst hb hi h hkM hl, ci_some, s_Md_rowAt hb hi h hkM hl, ci_some, s_Md_has d (by omega), ci_some, show nI k + 1 = nI (k + 1) from nI_add k 1]
      unfold psS
      rcases hp2 with e | e
      · rw [e, show ((0 : Nat) == 1) = false from rfl, if_pos (by decide), show nI a.1 + 0 = nI (a.1 + 0) from nI_add _ 0]
        cases bt d ((fl L)[k] / 2 % 32)
        · rw [if_pos (by decide), Bool.false_and, if_neg (by decide)]
        · rw [if_neg (by decide), Bool.true_and]
          by_cases g : a.2.2.1 < a.1 + 0
          · rw [if_pos (lp g (by omega)), decide_eq_true g, if_pos rfl, show nI a.2.2.2 + 1 = nI (a.2.2.2 + 1) from nI_add _ 1]
            by_cases g2 : a.2.2.2 = 0
            · rw [if_pos (show nI a.2.2.2 = (0 : Int32) from lq (n := 0) g2), if_pos g2]
            · rw [if_neg (show ¬ nI a.2.2.2 = (0 : Int32) from ln (n := 0) g2 (by omega) (by decide)), if_neg g2]
          · rw [if_neg (lm (by omega) (by omega)), decide_eq_false g, if_neg (by decide)]
      · rw [e, show ((1 : Nat) == 1) = true from rfl, if_neg (by decide), ci_some, s_Md_has d (by omega), ci_some, show nI a.1 + 1 = nI (a.1 + 1) from nI_add _ 1]
        cases bt d ((fl L)[k] / 2 % 32)
        · rw [if_pos (by decide), Bool.false_and, if_neg (by decide)]
        · rw [if_neg (by decide), Bool.true_and]
          by_cases g : a.2.2.1 < a.1 + 1
          · rw [if_pos (lp g (by omega)), decide_eq_true g, if_pos rfl, show nI a.2.2.2 + 1 = nI (a.2.2.2 + 1) from nI_add _ 1]
            by_cases g2 : a.2.2.2 = 0
            · rw [if_pos (show nI a.2.2.2 = (0 : Int32) from lq (n := 0) g2), if_pos g2]
            · rw [if_neg (show ¬ nI a.2.2.2 = (0 : Int32) from ln (n := 0) g2 (by omega) (by decide)), if_neg g2]
          · rw [if_neg (lm (by omega) (by omega)), decide_eq_false g, if_neg (by decide)]
    · unfold psS
      split
      · refine ⟨?_, ?_, ?_, ?_⟩
        · show a.1 + (fl L)[k] % 2 ≤ k + 1; omega
        · show a.1 + (fl L)[k] % 2 ≤ k + 1; omega
        · show a.2.2.2 + 1 ≤ k + 1; omega
        · show (if a.2.2.2 = 0 then a.1 + (fl L)[k] % 2 else a.2.1) ≤ k + 1
          split <;> omega
      · refine ⟨?_, ?_, ?_, ?_⟩
        · show a.1 + (fl L)[k] % 2 ≤ k + 1; omega
        · show a.2.2.1 ≤ k + 1; omega
        · show a.2.2.2 ≤ k + 1; omega
        · show a.2.1 ≤ k + 1; omega) (fun f a hI => by
    obtain ⟨i1, i2, i3, i4⟩ := hI
    show mm_run _ _ _ _ _ _ = _
    rw [e_Md_passCost_15, s_Md_entries hb hi h, ci_some, if_neg (lm (Nat.le_refl _) (by omega)), s_Md_height hp0 hk.1 hb hi h hkM, ci_some, fl_odd hne]
    by_cases g2 : a.2.2.2 = 0
    · rw [if_pos (show nI a.2.2.2 = (0 : Int32) from lq (n := 0) g2), if_pos g2]
    · rw [if_neg (show ¬ nI a.2.2.2 = (0 : Int32) from ln (n := 0) g2 (by omega) (by decide)), if_neg g2]) (a := ((0, 0, 0, 0) : PS)) ⟨Nat.le_refl _, Nat.le_refl _, Nat.le_refl _, Nat.le_refl _⟩ (f := mm_fu) (fu_lt (by omega))
  have hall := ps_all (d := d) (k := 0) (a := none) hne (fun f l n e => absurd e (by simp))
  have hall' : (fl L).foldl (psS d) (0, 0, 0, 0) = (0 + L.length, encP ((zl 0 L).foldl (pcS d) none)) := hall
  refine this.1.trans ?_
  rw [hall']
  have hok := pc_ok (L := L) d hne
  unfold passC
  cases hz : (zl 0 L).foldl (pcS d) none with
  | none => rfl
  | some t =>
    obtain ⟨f, l, n⟩ := t
    obtain ⟨k1, k2, k3, k4⟩ := hok f l n hz
    show (if n = 0 then _ else _) = _
    rw [if_neg (by omega)]
    show some (some (Value.int ((((nI (hg page L.length) + nI (l + 1)) - nI (f + 1)) + 1) + nI n)), hp G) = _
    rw [i_add, n_sub (by omega), show nI (hg page L.length + (l + 1) - (f + 1)) + 1 = nI (hg page L.length + (l + 1) - (f + 1) + 1) from nI_add _ 1, i_add, show hg page L.length + (l + 1) - (f + 1) + 1 + n = hg page L.length + (l - f + 1) + n by omega]
theorem s_Md_probeCost (hp0 : G.1 624 0 = nI page) (hb : b ≤ 9252) (hi : i < 4) (h : isM G (b + 359 + 31 * i) (fl L)) (hk : okL page L) (d : Int32) : f_Md_probeCost [.ref 618, .int (nI b), .int (nI i), .int d] (hp G) = some (some (.int (nI (probeC d page L))), hp G) := by
  rw [e_Md_probeCost 618 _ _ _ _ (ob_Md G), s_Md_leftMany hb hi h hk d, ci_some, s_Md_height hp0 hk.1 hb hi h (okM_fl hk), ci_some, fl_odd (fun l hl => (hk.2.2.1 l hl).1), show nI (hg page L.length) + 2 = nI (hg page L.length + 2) from nI_add _ 2, n_mul]
  unfold probeC
  rw [Nat.mul_comm]
theorem s_Md_wayBy (hp0 : G.1 624 0 = nI page) (hb : b ≤ 9252) (hi : i < 4) (h : isM G (b + 359 + 31 * i) (fl L)) (hk : okL page L) (d : Int32) : f_Md_wayBy [.ref 618, .int (nI b), .int (nI i), .int d] (hp G) = some (some (.int (nI (wayN d page L))), hp G) := by
  have h1 := passC_le d hk
  have h2 := probeC_le d hk
  rw [e_Md_wayBy 618 _ _ _ _ (ob_Md G), s_Md_passCost hp0 hb hi h hk d, ci_some, s_Md_probeCost hp0 hb hi h hk d, ci_some]
  unfold wayN
  by_cases g : probeC d page L < passC d page L
  · rw [if_pos (lp g (by omega)), if_pos g]; rfl
  · rw [if_neg (lm (by omega) (by omega)), if_neg g]; rfl
end MDC
