/-! LEAFSWEEP (the class): sorted in a small memory, merged, looked at -/
abbrev bnR : Nat → Prop := fun n => 31 ≤ n ∧ n ≤ 36
section CWB
variable {Z G G' : GG} {p : Nat} {P : PP} {T : TT} {A A' : AS} {U : List AS} {cu : CU} {L : LL} {t page : Nat} {down : Bool}
theorem CW.bench (W : CW Z G p P T A U cu) (hq : eqOff bnR G G') : CW Z G' p P T A U cu ∧ lsNow G' = lsNow G := by
  obtain ⟨⟨⟨a1, a2, a3⟩, a4, a5⟩, ⟨b1, b2, b3, b4⟩, ⟨H, h⟩, ⟨o, o1, o2, o3, o4, o5⟩, w, c, z⟩ := W
  have hp3 := H.1.2
  have e1 := hq 1 (fun q => by unfold bnR at q; omega)
  have e37 := hq 37 (fun q => by unfold bnR at q; omega)
  have enow : lsNow G' = lsNow G := by unfold lsNow; rw [e1.2.2]
  have esp : lsSp G' = lsSp G := by unfold lsSp; rw [e1.2.2]
  have epa : ∀ k, lsPa G' k = lsPa G k := fun k => by unfold lsPa; rw [e37.2.2]
  have hpo : ∀ o, o ≤ 20 → ¬ bnR (p + o) := fun o ho q => by unfold bnR at q; rcases hp3 with e | e | e <;> omega
  have hss : ∀ {s : Nat} {B : AS}, SS G s p P B → SS G' s p P B := fun {s B} K => by
    have l2 := K.1.1.lo
    exact K.off hq (fun o ho q => by unfold bnR at q; omega) (fun o h1 h2 q => by unfold bnR at q; omega) hpo
  refine ⟨⟨?_, ⟨by rw [e1.2.2]; exact b1, ?_, b3.off hq (fun o ho q => by unfold bnR at q; rcases hp3 with e | e | e <;> omega), b4⟩, ⟨by rw [enow]; exact hss H, h⟩, ⟨o, o1, by rw [e1.1]; exact o2, o3, by rw [e1.1]; exact o4, fun j hj => ?_⟩, fun s hs => ?_, by rw [e1.1]; exact c, z.tr ⟨hq.mono (fun n hn => Or.inr (Or.inl ⟨hn.1, by have := hn.2; omega⟩)), fun k _ _ => by rw [e1.2.2]⟩⟩, enow⟩
  · refine ⟨⟨by rw [enow]; exact a1, by rw [esp]; exact a2, by rw [enow, esp]; exact a3⟩, fun k hk => ?_, fun j k hj hk => by rw [epa, epa]; exact a5 j k hj hk⟩
    rw [epa, enow, esp]; exact a4 k hk
  · have := (hq p (hpo 0 (by omega))).1
    rw [this]; exact b2
  · obtain ⟨q1, q2⟩ := o5 j hj
    rw [epa]
    exact ⟨hss q1, q2⟩
  · have l2 := hs.lo
    exact (w s hs).off hq (fun o h1 h2 q => by unfold bnR at q; omega)
theorem bn_gsi (G : GG) (n k : Nat) (x : Int32) (h : bnR n) : eqOff bnR G (gsi G n k x) := eqOff.gsi k x h
/-- which are queued -/
theorem b_gather (ho : okLv t) (hi : isLv G t page down L) (hk : okL page L) (h86 : 86 ≤ t) (d : Int32) : ∃ G', f_Bn_gather [.ref 31, .ref t, .int d] (hp G) = some (some (.int (nI (qsL d L).length)), hp G') ∧ isAr G' 32 (qsL d L) ∧ eqOff bnR G G' := by
  rw [e_Bn_gather 31 _ _ _ (ob_Bn G)]
  have key : ∀ (j r f : Nat) (G1 : GG), r + j = 30 → j < f → isAr G1 32 ((List.range r).filterMap (qsF d L)) → eqOff bnR G G1 → ∃ G', mm_run p_Bn_gather f 5 [.ref 31, .ref t, .int d, .int (nI ((List.range r).filterMap (qsF d L)).length), .int (nI r)] [] (hp G1) = some (some (.int (nI (qsL d L).length)), hp G') ∧ isAr G' 32 (qsL d L) ∧ eqOff bnR G G' := by
    intro j
    induction j with
    | zero =>
      intro r f G1 hj hf ha hq
      obtain ⟨f, rfl⟩ : ∃ g, f = g + 1 := ⟨f - 1, by omega⟩
      have hr : r = 30 := by omega
      subst hr
      rw [e_Bn_gather_5, if_neg (show ¬ nI 30 < (30 : Int32) by decide)]
      exact ⟨G1, rfl, ha, hq⟩
    | succ j ih =>
      intro r f G1 hj hf ha hq
      obtain ⟨f, rfl⟩ : ∃ g, f = g + 1 := ⟨f - 1, by omega⟩
      have hlen : ((List.range r).filterMap (qsF d L)).length ≤ r := by
        refine Nat.le_trans (List.length_filterMap_le _ _) ?_
        simp
      have hnx : (List.range (r + 1)).filterMap (qsF d L) = (List.range r).filterMap (qsF d L) ++ (qsF d L r).toList := by
        rw [List.range_succ, List.filterMap_append]
        congr 1
      have hi1 : isLv G1 t page down L := hi.off hq (fun i _ q => by unfold bnR at q; omega)
      rw [e_Bn_gather_5, if_pos (show nI r < (30 : Int32) from lp (n := 30) (by omega) (by decide)), bt_shr1 d (by omega), show nI r + 1 = nI (r + 1) from nI_add r 1]
      have hih := fun G2 => ih (r + 1) f G2 (by omega) (by omega)
      rw [hnx] at hih
      cases hb : bt d r
      · rw [if_pos (show (if false = true then (1 : Int32) else 0) = 0 from rfl)]
        have hn : qsF d L r = none := by unfold qsF; rw [hb]; rfl
        rw [hn, show (none : Option Nat).toList = [] from rfl, List.append_nil] at hih
        exact hih G1 ha hq
      · have hn : qsF d L r = L.flatten.find? (fun c => decide (c % 32 = r)) := by unfold qsF; rw [hb]; rfl
        rw [if_neg (show ¬ (if true = true then (1 : Int32) else 0) = 0 by decide), s_Lv_codeWith ho hi1 hk (by omega), ci_some]
        cases hf2 : L.flatten.find? (fun c => decide (c % 32 = r)) with
        | none =>
          rw [hn, hf2, show (none : Option Nat).toList = [] from rfl, List.append_nil] at hih
          rw [if_pos rfl]
          exact hih G1 ha hq
        | some c =>
          have hc := (hk.2.2.2.1 c (List.mem_of_find?_eq_some hf2)).1
          rw [hn, hf2, show (some c).toList = [c] from rfl, List.length_append, show [c].length = 1 from rfl] at hih
          show ∃ G', (if nI c = -1 then _ else _) = _ ∧ _
          rw [if_neg (n_m1 (show c < 2147483648 by omega)), gg_Bn_coming, Option.bind_some, uu_Bn_coming _ (by omega), Option.bind_some, show nI ((List.range r).filterMap (qsF d L)).length + 1 = nI (((List.range r).filterMap (qsF d L)).length + 1) from nI_add _ 1]
          exact hih _ (ha.push c) (hq.tr (bn_gsi _ 32 _ _ (by unfold bnR; omega)))
  exact key 30 0 mm_fu G rfl (fu_lt (by omega)) (fun i h => absurd h (Nat.not_lt_zero _)) eqOff.rf
/-- where the first one stands -/
theorem b_first {M : List Nat} (hM : isAr G 33 M) (h8 : M.length ≤ 8) (hlt : ∀ x ∈ M, x < 32000) {a : Nat} (ha : a ≤ 32000) : f_Bn_firstBehind [.ref 31, .int (lst a), .int (nI M.length)] (hp G) = some (some (.int (fbI (fb M a))), hp G) := by
  rw [e_Bn_firstBehind 31 _ _ _ (ob_Bn G)]
  have hm : ∀ i, i < M.length → M.getD i 0 < 32000 := fun i hi => by rw [getD_get hi]; exact hlt _ (List.getElem_mem hi)
  have := fold_loop (n := M.length) (g := fbF M a) (R := fun f i o => mm_run p_Bn_firstBehind f 5 [.ref 31, .int (lst a), .int (nI M.length), .int (fbI o), .int (nI i)] [] (hp G)) (fin := fun o => some (some (Value.int (fbI o)), hp G)) (fun i o => ∀ b, o = some b → b < i) (fun f i o hi ho => by
    refine ⟨?_, fbF_lt ho⟩
    have h1 := hm i hi
    show mm_run p_Bn_firstBehind (f + 1) 5 _ [] (hp G) = mm_run p_Bn_firstBehind f 5 _ [] (hp G)
    rw [e_Bn_firstBehind_5, if_pos (lp hi (by omega)), gg_Bn_memory, Option.bind_some, rr_Bn_memory _ (by omega), Option.bind_some, hM.at hi, show nI i + 1 = nI (i + 1) from nI_add i 1]
    unfold fbF
    by_cases hc : a ≤ M.getD i 0
    · rw [if_pos (by rw [lst_lt (by omega) (by omega)]; exact hc), if_pos hc]
      cases o with
      | none => rw [if_pos (show fbI none = -1 from rfl)]; rfl
      | some b =>
        have hb := ho b rfl
        have h2 := hm b (by omega)
        show (if nI b = -1 then _ else _) = _
        rw [if_neg (n_m1 (show b < 2147483648 by omega)), Option.bind_some, rr_Bn_memory _ (show i < 8 by omega), Option.bind_some, hM.at hi, Option.bind_some, show mm_li (hp G) 33 (fbI (some b)) = some (G.1 33 b) from rr_Bn_memory G (by omega), Option.bind_some, hM.at (show b < M.length by omega)]
        dsimp only
        by_cases e : M.getD i 0 < M.getD b 0
        · rw [if_pos (lp e (by omega)), if_pos e]; rfl
        · rw [if_neg (lm (by omega) (by omega)), if_neg e]
    · rw [if_neg (by rw [lst_lt (by omega) (by omega)]; exact hc), if_neg hc]) (fun f o ho => by
    show mm_run p_Bn_firstBehind (f + 1) 5 _ [] (hp G) = _
    rw [e_Bn_firstBehind_5, if_neg (lm (Nat.le_refl _) (by omega))]) (a := none) (fun b q => by cases q) (f := mm_fu) (fu_lt (by omega))
  exact this.1
theorem max0 {b : Nat} (hb : b < 2147483648) : mm_max 0 (nI b) = nI b := by
  rw [show (0 : Int32) = nI 0 from rfl, n_max (by decide) hb]
  congr 1
  split <;> omega
/-- SORT -/
theorem b_sort (ho : okLv t) (hi : isLv G t page down L) (hk : okL page L) (h86 : 86 ≤ t) (d : Int32) {room : Nat} (h1 : 1 ≤ room) (h8 : room ≤ 8) : ∃ G', f_Bn_sort [.ref 31, .ref t, .int d, .int (nI room)] (hp G) = some (none, hp G') ∧ isAr G' 34 (srtL d L room) ∧ G'.1 31 5 = nI (srtL d L room).length ∧ eqOff bnR G G' := by
  obtain ⟨G1, r1, r2, r3⟩ := b_gather ho hi hk h86 d
  have hq30 := qsL_len d L
  have hqlt := qsL_lt (d := d) hk
  rw [e_Bn_sort 31 _ _ _ _ (ob_Bn G), r1, ci_some, n_min (by omega) (by omega)]
  unfold srtL
  generalize qsL d L = Q at r1 r2 hq30 hqlt ⊢
  have hheld : (if Q.length < room then Q.length else room) = (Q.take room).length := by rw [List.length_take]; split <;> omega
  rw [hheld]
  -- the memory is filled
  have fill : ∀ (j k f : Nat) (G2 : GG), k + j = (Q.take room).length → j < f → isAr G2 32 Q → isAr G2 33 (Q.take k) → eqOff bnR G G2 → ∃ G3, mm_run p_Bn_sort f 19 [.ref 31, .int (nI Q.length), .int (nI (Q.take room).length), .int (nI k)] [] (hp G2) = mm_run p_Bn_sort (f - j) 19 [.ref 31, .int (nI Q.length), .int (nI (Q.take room).length), .int (nI (Q.take room).length)] [] (hp G3) ∧ isAr G3 32 Q ∧ isAr G3 33 (Q.take room) ∧ eqOff bnR G G3 := by
    intro j
    induction j with
    | zero =>
      intro k f G2 hj hf ha hb hq
      refine ⟨G2, by rw [show k = (Q.take room).length by omega]; rfl, ha, ?_, hq⟩
      have : Q.take k = Q.take room := by
        rw [List.length_take] at hj
        rw [show k = min room Q.length by omega, ← List.take_take, List.take_length]
      rw [← this]; exact hb
    | succ j ih =>
      intro k f G2 hj hf ha hb hq
      obtain ⟨f, rfl⟩ : ∃ g, f = g + 1 := ⟨f - 1, by omega⟩
      have hl := hj
      rw [List.length_take] at hl
      have hkQ : k < Q.length := by omega
      rw [e_Bn_sort_19, if_pos (lp (by omega) (by omega)), gg_Bn_memory, Option.bind_some, gg_Bn_coming, Option.bind_some, rr_Bn_coming _ (by omega), Option.bind_some, ha k hkQ, uu_Bn_memory _ (by omega), Option.bind_some, show nI k + 1 = nI (k + 1) from nI_add k 1]
      have hb2 := hb.push (Q[k])
      rw [show (Q.take k).length = k by rw [List.length_take]; omega, List.take_append_getElem hkQ] at hb2
      obtain ⟨G3, q1, q2, q3, q4⟩ := ih (k + 1) f _ (by omega) (by omega) (ha.oth (by decide) k (nI Q[k])) hb2 (hq.tr (bn_gsi _ 33 _ _ (by unfold bnR; omega)))
      exact ⟨G3, by rw [q1, show f + 1 - (j + 1) = f - j by omega], q2, q3, q4⟩
  obtain ⟨G2, f1, f2, f3, f4⟩ := fill (Q.take room).length 0 mm_fu G1 (by omega) (fu_lt (by rw [List.length_take]; omega)) r2 (fun i h => absurd h (by simp)) r3
  rw [show mm_run p_Bn_sort mm_fu 19 [.ref 31, .int (nI Q.length), .int (nI (Q.take room).length), .int 0] [] (hp G1) = _ from f1]
  obtain ⟨f0, hf0, hf0b⟩ : ∃ g, mm_fu - (Q.take room).length = g + 1 ∧ 100 < g := ⟨mm_fu - (Q.take room).length - 1, by rw [List.length_take]; have := @fu_lt 999 (by omega); omega, by rw [List.length_take]; have := @fu_lt 999 (by omega); omega⟩
  rw [hf0, e_Bn_sort_19, if_neg (lm (Nat.le_refl _) (by rw [List.length_take]; omega)), ww_Bn_runs, Option.bind_some]
  -- one after the other goes out
  have key : ∀ (n : Nat) (M R : List Nat) (a : Nat) (l : List Nat) (f : Nat) (G3 : GG), n ≤ Q.length → M.length + R.length = n → (0 < n → M ≠ []) → M.length ≤ 8 → (∃ pre, Q = pre ++ R) → (∀ x ∈ M, x < 32000) → a ≤ 32000 → l.length + n ≤ 30 → 2 * n < f → isAr G3 32 Q → isAr G3 33 M → isAr G3 34 l → G3.1 31 5 = nI l.length → eqOff bnR G G3 → ∃ G', mm_run p_Bn_sort f 61 [.ref 31, .int (nI Q.length), .int (nI M.length), .int (nI (Q.length - R.length)), .int (lst a), .int (nI (Q.length - n))] [] (hp G3) = some (none, hp G') ∧ isAr G' 34 (srtR n M R a l) ∧ G'.1 31 5 = nI (srtR n M R a l).length ∧ eqOff bnR G G' := by
    intro n
    induction n with
    | zero =>
      intro M R a l f G3 hnq hn h0 hM8 hpre hMl ha hl hf i1 i2 i3 i4 hq
      obtain ⟨f, rfl⟩ : ∃ g, f = g + 1 := ⟨f - 1, by omega⟩
      rw [e_Bn_sort_61, if_neg (lm (by omega) (by omega))]
      exact ⟨G3, rfl, i3, i4, hq⟩
    | succ n ih =>
      intro M R a l f G3 hnq hn h0 hM8 hpre hMl ha hl hf i1 i2 i3 i4 hq
      obtain ⟨f, rfl⟩ : ∃ g, f = g + 1 := ⟨f - 1, by omega⟩
      have hMne := h0 (by omega)
      have hMpos := List.length_pos_iff.mpr hMne
      obtain ⟨pre, epre⟩ := hpre
      have hQlen : Q.length = pre.length + R.length := by rw [epre, List.length_append]
      obtain ⟨k1, k2, k3, k4⟩ := srB_ok hMne a l
      obtain ⟨b0, hb0⟩ := fb0 hMne
      have hb0l := fb_lt hb0
      -- a new run
      have newrun : ∀ (G4 : GG), isAr G4 32 Q → isAr G4 33 M → isAr G4 34 l → G4.1 31 5 = nI l.length → eqOff bnR G G4 → ∃ G5, ((mm_gr 0 2 (hp G4) 31).bind fun r11 => (mm_gi 0 5 (hp G4) 31).bind fun x12 => (mm_si (hp G4) r11 x12 0).bind fun h13 => (mm_gi 0 5 h13 31).bind fun x14 => (mm_pf 0 5 (.int (x14 + 1)) h13 31).bind fun h15 => mm_ci (f_Bn_firstBehind [.ref 31, .int (-1), .int (nI M.length)] h15) fun x17 h16 => mm_run p_Bn_sort f 133 [.ref 31, .int (nI Q.length), .int (nI M.length), .int (nI (Q.length - R.length)), .int (nI (Q.length - (n + 1))), .int (mm_max 0 x17)] [] h16) = mm_run p_Bn_sort f 133 [.ref 31, .int (nI Q.length), .int (nI M.length), .int (nI (Q.length - R.length)), .int (nI (Q.length - (n + 1))), .int (nI ((fb M 0).getD 0))] [] (hp G5) ∧ isAr G5 32 Q ∧ isAr G5 33 M ∧ isAr G5 34 (l ++ [0]) ∧ G5.1 31 5 = nI (l ++ [0]).length ∧ eqOff bnR G G5 := by
        intro G4 j1 j2 j3 j4 jq
        have j33 : isAr (gsi (gsi G4 34 l.length 0) 31 5 (nI (l.length + 1))) 33 M := (j2.oth (by decide) _ _).oth (by decide) _ _
        have hfirst := b_first j33 hM8 hMl (a := 0) (by decide)
        rw [hb0] at hfirst
        refine ⟨gsi (gsi G4 34 l.length 0) 31 5 (nI (l.length + 1)), ?_, (j1.oth (by decide) _ _).oth (by decide) _ _, j33, (j3.push 0).oth (by decide) _ _, ?_, (jq.tr (bn_gsi _ 34 _ _ (by unfold bnR; omega))).tr (bn_gsi _ 31 _ _ (by unfold bnR; omega))⟩
        · rw [gg_Bn_length, Option.bind_some, gg_Bn_runs, Option.bind_some, j4, uu_Bn_length _ (by omega), Option.bind_some, gg_Bn_runs, Option.bind_some, show (gsi G4 34 l.length 0).1 31 5 = nI l.length by rw [gsi_i, if_neg (by decide)]; exact j4, show nI l.length + 1 = nI (l.length + 1) from nI_add _ 1, ww_Bn_runs, Option.bind_some, show f_Bn_firstBehind [.ref 31, .int (-1), .int (nI M.length)] (hp (gsi (gsi G4 34 l.length 0) 31 5 (nI (l.length + 1)))) = _ from hfirst, ci_some, hb0]
          show mm_run p_Bn_sort f 133 [_, _, _, _, _, .int (mm_max 0 (nI b0))] [] _ = _
          rw [max0 (by omega)]
          rfl
        · rw [gsi_i, if_pos rfl, upd_at, List.length_append]
          rfl
      have step1 : ∃ G5, mm_run p_Bn_sort (f + 1) 61 [.ref 31, .int (nI Q.length), .int (nI M.length), .int (nI (Q.length - R.length)), .int (lst a), .int (nI (Q.length - (n + 1)))] [] (hp G3) = mm_run p_Bn_sort f 133 [.ref 31, .int (nI Q.length), .int (nI M.length), .int (nI (Q.length - R.length)), .int (nI (Q.length - (n + 1))), .int (nI (srB M a l).2)] [] (hp G5) ∧ isAr G5 32 Q ∧ isAr G5 33 M ∧ isAr G5 34 (srB M a l).1 ∧ G5.1 31 5 = nI (srB M a l).1.length ∧ eqOff bnR G G5 := by
        rw [e_Bn_sort_61, if_pos (lp (by omega) (by omega)), if_pos (show (0 : Int32) < nI M.length from lp (a := 0) hMpos (by omega)), gg_Bn_runs, Option.bind_some, i4]
        unfold srB
        by_cases hlz : l = []
        · rw [if_pos (show nI l.length = (0 : Int32) from by rw [hlz]; rfl), if_pos hlz]
          obtain ⟨G5, q1, q2⟩ := newrun G3 i1 i2 i3 i4 hq
          rw [gg_Bn_length, Option.bind_some, gg_Bn_runs, Option.bind_some, i4] at q1
          rw [gg_Bn_length, Option.bind_some, Option.bind_some]
          exact ⟨G5, q1, q2⟩
        · have hl1 := List.length_pos_iff.mpr hlz
          rw [if_neg (show ¬ nI l.length = (0 : Int32) from ln (n := 0) (by omega) (by omega) (by decide)), if_neg hlz, b_first i2 hM8 hMl ha, ci_some]
          cases hfb : fb M a with
          | none =>
            rw [if_pos (show fbI none = -1 from rfl)]
            exact newrun G3 i1 i2 i3 i4 hq
          | some b =>
            have hbl := fb_lt hfb
            rw [if_neg (show ¬ fbI (some b) = -1 from n_m1 (show b < 2147483648 by omega))]
            exact ⟨G3, rfl, i1, i2, i3, i4, hq⟩
      obtain ⟨G5, s1, s2, s3, s4, s5, s6⟩ := step1
      rw [s1]
      obtain ⟨f, rfl⟩ : ∃ g, f = g + 1 := ⟨f - 1, by omega⟩
      have hsr : srtR (n + 1) M R a l = srtR n (srN M R (srB M a l).2).1 (srN M R (srB M a l).2).2 (M.getD (srB M a l).2 0 + 1) (inc (srB M a l).1) := rfl
      rw [hsr]
      obtain ⟨t1, t2, t3⟩ := srN_ok (b := (srB M a l).2) hMne hn
      generalize hl1 : (srB M a l).1 = l1 at *
      generalize hb1 : (srB M a l).2 = b at *
      have hl1pos := List.length_pos_iff.mpr k2
      have hlast : l1.length - 1 < l1.length := by omega
      have hMb : M.getD b 0 < 32000 := by rw [getD_get k1]; exact hMl _ (List.getElem_mem k1)
      rw [e_Bn_sort_133, gg_Bn_length, Option.bind_some, gg_Bn_runs, Option.bind_some, s5, show nI l1.length - 1 = nI (l1.length - 1) from n_sub (b := 1) (by omega), rr_Bn_length _ (by omega), Option.bind_some, s4.at hlast, show nI (l1.getD (l1.length - 1) 0) + 1 = nI (l1.getD (l1.length - 1) 0 + 1) from nI_add _ 1, uu_Bn_length _ (by omega), Option.bind_some]
      have u1 : isAr (gsi G5 34 (l1.length - 1) (nI (l1.getD (l1.length - 1) 0 + 1))) 32 Q := s2.oth (by decide) _ _
      have u2 : isAr (gsi G5 34 (l1.length - 1) (nI (l1.getD (l1.length - 1) 0 + 1))) 33 M := s3.oth (by decide) _ _
      have u3 : isAr (gsi G5 34 (l1.length - 1) (nI (l1.getD (l1.length - 1) 0 + 1))) 34 (inc l1) := s4.set _
      have u4 : (gsi G5 34 (l1.length - 1) (nI (l1.getD (l1.length - 1) 0 + 1))).1 31 5 = nI (inc l1).length := by rw [gsi_i, if_neg (by decide), inc_len]; exact s5
      have u5 : eqOff bnR G (gsi G5 34 (l1.length - 1) (nI (l1.getD (l1.length - 1) 0 + 1))) := s6.tr (bn_gsi _ 34 _ _ (by unfold bnR; omega))
      generalize gsi G5 34 (l1.length - 1) (nI (l1.getD (l1.length - 1) 0 + 1)) = G6 at u1 u2 u3 u4 u5 ⊢
      rw [gg_Bn_memory, Option.bind_some, rr_Bn_memory _ (by omega), Option.bind_some, u2.at k1, show nI (M.getD b 0) = lst (M.getD b 0 + 1) from (lst_s _).symm]
      have hlen2 : (inc l1).length + n ≤ 30 := by rw [inc_len]; omega
      cases R with
      | nil =>
        rw [List.length_nil] at hn hQlen
        rw [if_neg (lm (by rw [List.length_nil]; omega) (by rw [List.length_nil]; omega)), Option.bind_some, show nI M.length + (-1) = nI (M.length - 1) from n_addneg (b := 1) (by omega), Option.bind_some, rr_Bn_memory _ (show M.length - 1 < 8 by omega), Option.bind_some, u2.at (show M.length - 1 < M.length by omega), uu_Bn_memory _ (by omega), Option.bind_some]
        have hN : srN M [] b = ((M.set b (M.getD (M.length - 1) 0)).take (M.length - 1), []) := rfl
        rw [hN] at t1 t2 t3 ⊢
        have hml : ((M.set b (M.getD (M.length - 1) 0)).take (M.length - 1)).length = M.length - 1 := by rw [List.length_take, List.length_set]; omega
        have := ih ((M.set b (M.getD (M.length - 1) 0)).take (M.length - 1)) [] (M.getD b 0 + 1) (inc l1) f _ (by omega) t1 t2 (by omega) ⟨Q, by simp⟩ (fun x hx => (srN_lt (M := M) (R := []) (b := b) (by decide) hMl (fun x hx => absurd hx (by simp))).1 x hx) (by omega) hlen2 (by omega) (u1.oth (by decide) b _) ((u2.set _).take _) (u3.oth (by decide) b _) (by rw [gsi_i, if_neg (by decide)]; exact u4) (u5.tr (bn_gsi _ 33 _ _ (by unfold bnR; omega)))
        rw [hml] at this
        rw [show nI (Q.length - (n + 1)) + 1 = nI (Q.length - n) by rw [show nI (Q.length - (n + 1)) + 1 = nI (Q.length - (n + 1) + 1) from nI_add _ 1]; congr 1; omega]
        exact this
      | cons x R =>
        rw [List.length_cons] at hn hQlen
        have hx : Q[Q.length - (R.length + 1)]'(by omega) = x := by
          have : Q[Q.length - (R.length + 1)]? = some x := by
            rw [epre, List.getElem?_append_right (by rw [List.length_append, List.length_cons]; omega)]
            rw [show (pre ++ x :: R).length - (R.length + 1) - pre.length = 0 by rw [List.length_append, List.length_cons]; omega]
            rfl
          rw [List.getElem?_eq_getElem (by omega)] at this
          exact Option.some.inj this
        rw [List.length_cons, if_pos (lp (by omega) (by omega)), Option.bind_some, gg_Bn_coming, Option.bind_some, rr_Bn_coming _ (by omega), Option.bind_some, u1 _ (by omega), hx, uu_Bn_memory _ (by omega), Option.bind_some]
        have hN : srN M (x :: R) b = (M.set b x, R) := rfl
        rw [hN] at t1 t2 t3 ⊢
        have hxl : x < 32000 := hqlt x (by rw [epre]; simp)
        have := ih (M.set b x) R (M.getD b 0 + 1) (inc l1) f _ (by omega) t1 t2 (by rw [List.length_set]; omega) ⟨pre ++ [x], by rw [epre]; simp⟩ (fun y hy => by
          rcases List.mem_or_eq_of_mem_set hy with q | q
          · exact hMl y q
          · rw [q]; exact hxl) (by omega) hlen2 (by omega) (u1.oth (by decide) b _) (u2.set _) (u3.oth (by decide) b _) (by rw [gsi_i, if_neg (by decide)]; exact u4) (u5.tr (bn_gsi _ 33 _ _ (by unfold bnR; omega)))
        rw [List.length_set] at this
        rw [show nI (Q.length - (n + 1)) + 1 = nI (Q.length - n) by rw [show nI (Q.length - (n + 1)) + 1 = nI (Q.length - (n + 1) + 1) from nI_add _ 1]; congr 1; omega, show nI (Q.length - (R.length + 1)) + 1 = nI (Q.length - R.length) by rw [show nI (Q.length - (R.length + 1)) + 1 = nI (Q.length - (R.length + 1) + 1) from nI_add _ 1]; congr 1; omega]
        exact this
  have hlt := List.length_take (i := room) (l := Q)
  have hld := List.length_drop (i := room) (l := Q)
  have := key Q.length (Q.take room) (Q.drop room) 0 [] f0 (gsi G2 31 5 0) (Nat.le_refl _) (by omega) (fun h q => by
    have := congrArg List.length q
    rw [List.length_nil] at this
    omega) (by omega) ⟨Q.take room, (List.take_append_drop room Q).symm⟩ (fun x hx => hqlt x (List.mem_of_mem_take hx)) (by decide) (by simpa using hq30) (by omega) (f2.oth (by decide) _ _) (f3.oth (by decide) _ _) (fun i h => absurd h (Nat.not_lt_zero _)) (by rw [gsi_i, if_pos rfl, upd_at]; rfl) (f4.tr (bn_gsi _ 31 _ _ (by unfold bnR; omega)))
  rw [Nat.sub_self, show Q.length - (Q.drop room).length = (Q.take room).length by omega] at this
  exact this
end CWB
