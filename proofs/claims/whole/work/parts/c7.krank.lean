/-! RANK of the class -/
theorem filter_r {c : Nat → Bool} {m : Nat} (hm : m ≤ 30) (h : ∀ q, c q = true → q < m) : (List.range 30).filter c = (List.range m).filter c := by
  rw [show List.range 30 = List.range (m + (30 - m)) by rw [Nat.add_sub_cancel' hm], List.range_add, List.filter_append]
  have : ((List.range (30 - m)).map (fun x => m + x)).filter c = [] := by
    rw [List.filter_eq_nil_iff]
    intro x hx hc
    obtain ⟨y, -, rfl⟩ := List.mem_map.mp hx
    have := h _ hc
    omega
  rw [this, List.append_nil]
section KRK
variable {Z G : GG} {p : Nat} {P : PP} {T : TT} {A : AS} {U : List AS} {cu : CU}
theorem k_rank_t (W : CW Z G p P T A U cu) {x y : Int32} (hb : rnkB P A x y = true) : f_Ls_rank [.ref 1, .int x, .int y] (hp G) = some (some (.int (nI (rnkN P A x.toNatClampNeg y.toNatClampNeg))), hp G) := by
  have hn := W.inv.ni
  have h := W.inv
  have hr30 := h.kr.1
  unfold rnkB at hb
  simp only [Bool.and_eq_true, Bool.not_eq_true', decide_eq_false_iff_not] at hb
  obtain ⟨hx, ⟨hy1, hy2⟩, hbt⟩ := hb
  obtain ⟨i, hi, rfl⟩ := (isIx_iff hn x).mp hx
  obtain ⟨r, hr, rfl⟩ := (n_cases y).resolve_left hy1
  rw [nI_tn (show i < 2147483648 by omega), nI_tn hr] at hbt ⊢
  have hrm : ∀ q, bt (readA P A i) q = true → q < aM A := fun q hq => by
    rw [bt_read h (bt_lt hq)] at hq
    simp only [Bool.and_eq_true, decide_eq_true_eq] at hq
    exact hq.1
  have hrr := hrm r hbt
  have hcr := codA_lt h hi hrr
  rw [e_Ls_rank 1 _ _ _ (ob_Ls G), k_isIndex W, ci_some, hx, if_neg (by decide), W.gn, Option.bind_some, s_St_readable W.ss hi, ci_some, W.gn, Option.bind_some, gg_St_rows _ W.ss.os, Option.bind_some, s_Rw_hasCome W.ss.1.1.rw W.ss.rw W.ss.kr hr, ci_some, decide_eq_true hrr, if_neg (by decide), bt_shr1 _ (by omega), hbt, if_pos rfl, if_neg (by decide), W.gn, Option.bind_some, s_St_codeOf W.ss hi hrr, ci_some]
  have := fold_loop (n := aM A) (g := fun a q => a + (if bt (readA P A i) q && decide (codA P A i q < codA P A i r) then 1 else 0)) (R := fun f q a => mm_run p_Ls_rank f 71 [.ref 1, .int (nI i), .int (readA P A i), .int (nI (codA P A i r)), .int (nI a), .int (nI q)] [] (hp G)) (fin := fun a => some (some (Value.int (nI a)), hp G)) (fun _ _ => True) (fun f q a hq _ => by
    refine ⟨?_, trivial⟩
    show mm_run p_Ls_rank (f + 1) 71 _ [] (hp G) = mm_run p_Ls_rank f 71 _ [] (hp G)
    rw [e_Ls_rank_71, W.gn, Option.bind_some, gg_St_rows _ W.ss.os, Option.bind_some, W.ss.gm, Option.bind_some, if_pos (lp hq (by omega)), bt_shr1 _ (by omega), show nI q + 1 = nI (q + 1) from nI_add q 1, show nI a + 1 = nI (a + 1) from nI_add a 1]
    have hcq := codA_lt h hi hq
    cases hbq : bt (readA P A i) q
    · rw [if_pos (by decide), Bool.false_and, if_neg (by decide)]
      rfl
    · rw [if_pos rfl, if_neg (by decide), Option.bind_some, s_St_codeOf W.ss hi hq, ci_some, Bool.true_and]
      by_cases e : codA P A i q < codA P A i r
      · rw [if_pos (lp e (by omega)), if_pos (decide_eq_true e)]
      · rw [if_neg (lm (by omega) (by omega)), if_neg (by rw [decide_eq_false e]; decide)]
        rfl) (fun f a _ => by
    show mm_run p_Ls_rank (f + 1) 71 _ [] (hp G) = _
    rw [e_Ls_rank_71, W.gn, Option.bind_some, gg_St_rows _ W.ss.os, Option.bind_some, W.ss.gm, Option.bind_some, if_neg (lm (Nat.le_refl _) (by omega))]) trivial (a := 0) (f := mm_fu) (fu_lt (by omega))
  rw [foldl_count, Nat.zero_add] at this
  unfold rnkN
  rw [filter_r hr30 (fun q hq => hrm q (by rw [Bool.and_eq_true] at hq; exact hq.1))]
  exact this.1
theorem k_rank_f (W : CW Z G p P T A U cu) {x y : Int32} (hb : rnkB P A x y = false) {ρ : Type} (kr : Option Value → mm_H → Option ρ) (kc : Nat → List Value → List Value → mm_H → Option ρ) : mm_one p_Ls_rank kr kc 0 [.ref 1, .int x, .int y] [] (hp G) = kc 43 [] [] (hp G) := by
  have hn := W.inv.ni
  have h := W.inv
  have hr30 := h.kr.1
  unfold rnkB at hb
  rw [o_Ls_rank, k_isIndex W, ci_some]
  cases hx : isIx P x
  · rw [if_pos (by decide), W.gn, Option.bind_some, gg_St_rows _ W.ss.os, Option.bind_some]
    by_cases h0 : y < 0
    · rw [s_Rw_hasCome_neg W.ss.1.1.rw h0, ci_some, if_pos (by decide)]
    · obtain ⟨r, hr, rfl⟩ := (n_cases y).resolve_left h0
      rw [s_Rw_hasCome W.ss.1.1.rw W.ss.rw W.ss.kr hr, ci_some]
      by_cases hlt : r < aM A
      · rw [decide_eq_true hlt, if_neg (by decide), bt_shr1 _ (by omega), show bt 0 r = false from b_0 r, if_pos (by decide)]
      · rw [decide_eq_false hlt, if_pos (by decide)]
  · obtain ⟨i, hi, rfl⟩ := (isIx_iff hn x).mp hx
    rw [if_neg (by decide), W.gn, Option.bind_some, s_St_readable W.ss hi, ci_some, W.gn, Option.bind_some, gg_St_rows _ W.ss.os, Option.bind_some]
    by_cases h0 : y < 0
    · rw [s_Rw_hasCome_neg W.ss.1.1.rw h0, ci_some, if_pos (by decide)]
    · obtain ⟨r, hr, rfl⟩ := (n_cases y).resolve_left h0
      rw [s_Rw_hasCome W.ss.1.1.rw W.ss.rw W.ss.kr hr, ci_some]
      by_cases hlt : r < aM A
      · rw [decide_eq_true hlt, if_neg (by decide), bt_shr1 _ (by omega)]
        rw [hx, nI_tn (show i < 2147483648 by omega), nI_tn hr, decide_eq_false h0, decide_eq_false (show ¬ (29 : Int32) < nI r from lm (a := 29) (n := r) (by omega) (by decide))] at hb
        have : bt (readA P A i) r = false := hb
        rw [this, if_pos (by decide)]
      · rw [decide_eq_false hlt, if_pos (by decide)]
end KRK
