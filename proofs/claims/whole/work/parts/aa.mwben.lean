/-! THE REFERENCE: sorted in a small memory, merged -/
def meE (G G' : GG) : Prop := (∀ n, ¬ (631 ≤ n ∧ n ≤ 633) → G'.1 n = G.1 n) ∧ G'.2 = G.2
theorem meE.rf {G : GG} : meE G G := ⟨fun _ _ => rfl, rfl⟩
theorem meE.tr {G1 G2 G3 : GG} (h1 : meE G1 G2) (h2 : meE G2 G3) : meE G1 G3 := ⟨fun n hn => (h2.1 n hn).trans (h1.1 n hn), h2.2.trans h1.2⟩
theorem meE.gsi {G : GG} {n k : Nat} {x : Int32} (h : 631 ≤ n ∧ n ≤ 633) : meE G (gsi G n k x) := ⟨fun m hm => by rw [gsi_i, if_neg (fun e => hm (by rw [e]; exact h))], rfl⟩
/-- the one at a place goes, the last takes its place -/
theorem set_last {l : List Nat} {b : Nat} (hb : b < l.length) : l.Perm (l.getD b 0 :: (l.set b (l.getD (l.length - 1) 0)).take (l.length - 1)) := by
  obtain ⟨l1, x, l2, e, hl1⟩ : ∃ l1 x l2, l = l1 ++ x :: l2 ∧ l1.length = b := ⟨l.take b, l[b], l.drop (b + 1), by rw [← drop_cons hb, List.take_append_drop], by rw [List.length_take]; omega⟩
  subst e hl1
  have hx : (l1 ++ x :: l2).getD l1.length 0 = x := by rw [getD_ap2 (Nat.le_refl _), Nat.sub_self]; rfl
  rw [hx]
  by_cases h2 : l2 = []
  · subst h2
    have e1 : (l1 ++ [x]).length - 1 = l1.length := by simp
    rw [e1, hx, List.set_append_right _ _ (Nat.le_refl _), Nat.sub_self]
    have : (l1 ++ [x].set 0 x).take l1.length = l1 := by rw [List.take_append, List.take_of_length_le (Nat.le_refl _)]; simp
    rw [this]
    exact List.perm_append_singleton x l1
  · obtain ⟨l3, z, e3⟩ : ∃ l3 z, l2 = l3 ++ [z] := ⟨l2.dropLast, l2.getLast h2, (List.dropLast_concat_getLast h2).symm⟩
    subst e3
    have e1 : (l1 ++ x :: (l3 ++ [z])).length - 1 = (l1 ++ x :: l3).length := by simp
    have hz : (l1 ++ x :: (l3 ++ [z])).getD (l1 ++ x :: l3).length 0 = z := by
      rw [show l1 ++ x :: (l3 ++ [z]) = (l1 ++ x :: l3) ++ [z] by simp, getD_ap2 (Nat.le_refl _), Nat.sub_self]; rfl
    rw [e1, hz, List.set_append_right _ _ (Nat.le_refl _), Nat.sub_self]
    have : (l1 ++ (x :: (l3 ++ [z])).set 0 z).take (l1 ++ x :: l3).length = l1 ++ z :: l3 := by
      show (l1 ++ z :: (l3 ++ [z])).take (l1 ++ x :: l3).length = _
      rw [show l1 ++ z :: (l3 ++ [z]) = (l1 ++ z :: l3) ++ [z] by simp, show (l1 ++ x :: l3).length = (l1 ++ z :: l3).length by simp, List.take_left']
      rfl
    rw [this]
    have p1 : (l1 ++ x :: (l3 ++ [z])).Perm (x :: (l1 ++ (l3 ++ [z]))) := List.perm_middle
    refine p1.trans (List.Perm.cons _ ?_)
    exact List.Perm.append_left l1 (List.perm_append_singleton z l3)
theorem so_cons {x : Nat} {l : List Nat} (h : ∀ y ∈ l, x ≤ y) : so (x :: l) = x :: so l := (so_eq (List.pairwise_cons.mpr ⟨fun y hy => h y ((so_perm l).mem_iff.mp hy), so_sorted l⟩) (List.Perm.cons x (so_perm l))).symm
/-- where the least stands -/
def lsF (l : List Nat) (b i : Nat) : Nat := if l.getD (i + 1) 0 < l.getD b 0 then i + 1 else b
def lsI (l : List Nat) : Nat := (List.range (l.length - 1)).foldl (lsF l) 0
theorem lsI_ok {l : List Nat} (h : l ≠ []) : lsI l < l.length ∧ ∀ i, i < l.length → l.getD (lsI l) 0 ≤ l.getD i 0 := by
  have hl := List.length_pos_iff.mpr h
  have := fold_I (g := lsF l) (I := fun n b => (b < n + 1 ∧ ∀ i, i < n + 1 → l.getD b 0 ≤ l.getD i 0)) (a := 0) ⟨by omega, fun i hi => by rw [show i = 0 by omega]; exact Nat.le_refl _⟩ (fun n b ⟨h1, h2⟩ => by
    unfold lsF
    split
    · refine ⟨by omega, fun i hi => ?_⟩
      by_cases e : i = n + 1
      · rw [e]; exact Nat.le_refl _
      · have := h2 i (by omega); omega
    · refine ⟨by omega, fun i hi => ?_⟩
      by_cases e : i = n + 1
      · rw [e]; omega
      · exact h2 i (by omega)) (l.length - 1)
  rw [show l.length - 1 + 1 = l.length by omega] at this
  exact this
section MWB
variable {Z G G' : GG} {i : Nat} {P : PP} {T : TT} {A A' B : AS} {U : List AS} {cu : CU} {L : LL}
theorem MW.ben (W : MW Z G P T A U cu) (hq : meE G G') : MW Z G' P T A U cu := by
  obtain ⟨⟨a1, a2⟩, ⟨u1, u2, u3⟩, ⟨t1, t2⟩, c, z⟩ := W
  have e624 := hq.1 624 (by omega)
  have e625 := hq.1 625 (by omega)
  have e618 := hq.1 618 (by omega)
  have e628 := hq.1 628 (by omega)
  have hms : ∀ {b : Nat} {B : AS}, MS G b P B → INV P B → MS G' b P B := fun H h => H.copy h.os H.hb (H.hP.off e624 e625 (by rw [e618])) (fun k _ => by rw [e628])
  refine ⟨⟨hms a1 a2, a2⟩, ⟨u1, by rw [e618]; exact u2, fun j hj => ⟨hms (u3 j hj).1 (u3 j hj).2, (u3 j hj).2⟩⟩, ⟨t1.off e624, t2⟩, by rw [e618]; exact c, z.tr ⟨fun n n1 n2 => hq.1 n (by omega), hq.2, fun k _ => by rw [e618]⟩⟩
/-- which are queued -/
theorem m_queued (W : MW Z G P T A U cu) (hi : i < pNi P) : ∃ G', f_Md_queued [.ref 618, .int (nI i)] (hp G) = some (some (.int (nI (qsL (doomA P A) (aL A i)).length)), hp G') ∧ isAr G' 631 (qsL (doomA P A) (aL A i)) ∧ meE G G' := by
  have h := W.inv
  have hkl := h.kl hi
  have h30 := hkl.2.1
  have hnd := hkl.2.2.2.2.2
  rw [e_Md_queued 618 _ _ (ob_Md G), show f_Md_chosenBy [.ref 618, .int 0] (hp G) = _ from m_chosenBy W.ms h, ci_some]
  generalize doomA P A = d
  have skip : ∀ (r : Nat) (v3 : Int32) (G1 : GG), meE G G1 → r < 30 → ∀ (j k f : Nat), k + j ≤ (aL A i).flatten.length → j < f → (∀ q (hq : q < (aL A i).flatten.length), k ≤ q → q < k + j → (aL A i).flatten[q] % 32 ≠ r ∨ bt d r = false) → mm_run p_Md_queued f 21 [.ref 618, .int (nI i), .int d, .int v3, .int (nI r), .int (nI k)] [] (hp G1) = mm_run p_Md_queued (f - j) 21 [.ref 618, .int (nI i), .int d, .int v3, .int (nI r), .int (nI (k + j))] [] (hp G1) := by
    intro r v3 G1 hq1 hr j
    have W1 := W.ben hq1
    induction j with
    | zero => intro k f _ _ _; rfl
    | succ j ih =>
      intro k f hk hf hno
      obtain ⟨f, rfl⟩ : ∃ g, f = g + 1 := ⟨f - 1, by omega⟩
      have hlt : k < (aL A i).flatten.length := by omega
      have hm : (aL A i).flatten[k] % 32 < 32 := Nat.mod_lt _ (by decide)
      rw [e_Md_queued_21, show f_Md_entries [.ref 618, .int 0, .int (nI i)] (hp G1) = _ from W1.ms.ent h.os hi, ci_some, if_pos (lp hlt (by omega)), show f_Md_rowAt [.ref 618, .int 0, .int (nI i), .int (nI k)] (hp G1) = _ from W1.ms.rat h.os hi hlt, ci_some, show nI k + 1 = nI (k + 1) from nI_add k 1]
      have hih := ih (k + 1) f (by omega) (by omega) (fun q hq h1 h2 => hno q hq (by omega) (by omega))
      rw [show k + 1 + j = k + (j + 1) by omega] at hih
      by_cases e : (aL A i).flatten[k] % 32 = r
      · have hb : bt d r = false := (hno k hlt (by omega) (by omega)).resolve_left (fun q => q e)
        rw [if_pos (by rw [e]), s_Md_has _ (by omega), ci_some, hb, if_pos (by decide), hih, show f + 1 - (j + 1) = f - j by omega]
      · rw [if_neg (ln e (by omega) (by omega)), hih, show f + 1 - (j + 1) = f - j by omega]
  have key : ∀ (j r f : Nat) (G1 : GG), r + j = 30 → 100 * j < f → isAr G1 631 ((List.range r).filterMap (qsF d (aL A i))) → meE G G1 → ∃ G', mm_run p_Md_queued f 11 [.ref 618, .int (nI i), .int d, .int (nI ((List.range r).filterMap (qsF d (aL A i))).length), .int (nI r)] [] (hp G1) = some (some (.int (nI (qsL d (aL A i)).length)), hp G') ∧ isAr G' 631 (qsL d (aL A i)) ∧ meE G G' := by
    intro j
    induction j with
    | zero =>
      intro r f G1 hj hf ha hq
      obtain ⟨f, rfl⟩ : ∃ g, f = g + 1 := ⟨f - 1, by omega⟩
      have hr : r = 30 := by omega
      subst hr
      rw [e_Md_queued_11, if_neg (show ¬ nI 30 < (30 : Int32) by decide)]
      exact ⟨G1, rfl, ha, hq⟩
    | succ j ih =>
      intro r f G1 hj hf ha hq
      obtain ⟨f, rfl⟩ : ∃ g, f = g + 1 := ⟨f - 1, by omega⟩
      have W1 := W.ben hq
      have hr30 : r < 30 := by omega
      have hlen : ((List.range r).filterMap (qsF d (aL A i))).length ≤ r := by
        refine Nat.le_trans (List.length_filterMap_le _ _) ?_
        simp
      have hnx : (List.range (r + 1)).filterMap (qsF d (aL A i)) = (List.range r).filterMap (qsF d (aL A i)) ++ (qsF d (aL A i) r).toList := by
        rw [List.range_succ, List.filterMap_append]
        congr 1
      have hih := fun f' G2 => ih (r + 1) f' G2 (by omega)
      rw [hnx] at hih
      rw [e_Md_queued_11, if_pos (show nI r < (30 : Int32) from lp (n := 30) (by omega) (by decide))]
      -- the end of the inner loop
      have fin : ∀ (f' : Nat) (v3 : Int32) (G2 : GG), meE G G2 → mm_run p_Md_queued (f' + 1) 21 [.ref 618, .int (nI i), .int d, .int v3, .int (nI r), .int (nI (aL A i).flatten.length)] [] (hp G2) = mm_run p_Md_queued f' 11 [.ref 618, .int (nI i), .int d, .int v3, .int (nI (r + 1))] [] (hp G2) := fun f' v3 G2 hq2 => by
        have W2 := W.ben hq2
        rw [e_Md_queued_21, show f_Md_entries [.ref 618, .int 0, .int (nI i)] (hp G2) = _ from W2.ms.ent h.os hi, ci_some, if_neg (lm (Nat.le_refl _) (by omega)), show nI r + 1 = nI (r + 1) from nI_add r 1]
      cases hqf : qsF d (aL A i) r with
      | none =>
        rw [hqf, show (none : Option Nat).toList = [] from rfl, List.append_nil] at hih
        have hno : ∀ q (hq : q < (aL A i).flatten.length), 0 ≤ q → q < 0 + (aL A i).flatten.length → (aL A i).flatten[q] % 32 ≠ r ∨ bt d r = false := fun q hq _ _ => by
          unfold qsF at hqf
          cases hb : bt d r
          · exact Or.inr rfl
          · rw [hb, if_pos rfl] at hqf
            have := List.find?_eq_none.mp hqf _ (List.getElem_mem hq)
            exact Or.inl (fun e => this (decide_eq_true e))
        have hsk := skip r (nI ((List.range r).filterMap (qsF d (aL A i))).length) G1 hq hr30 (aL A i).flatten.length 0 f (by omega) (by omega) hno
        obtain ⟨f', hf'⟩ : ∃ g, f - (aL A i).flatten.length = g + 1 := ⟨f - (aL A i).flatten.length - 1, by omega⟩
        rw [show mm_run p_Md_queued f 21 [.ref 618, .int (nI i), .int d, .int (nI ((List.range r).filterMap (qsF d (aL A i))).length), .int (nI r), .int 0] [] (hp G1) = _ from hsk, Nat.zero_add, hf', fin f' _ G1 hq]
        exact hih f' G1 (by omega) ha hq
      | some c =>
        rw [hqf, show (some c).toList = [c] from rfl, List.length_append, show [c].length = 1 from rfl] at hih
        unfold qsF at hqf
        have hb : bt d r = true := by
          cases hb : bt d r
          · rw [hb, if_neg (by decide)] at hqf; cases hqf
          · rfl
        rw [hb, if_pos rfl] at hqf
        obtain ⟨hpc, q, hq0, ec, hfirst⟩ := List.find?_eq_some_iff_getElem.mp hqf
        have hcr : c % 32 = r := of_decide_eq_true hpc
        have hclt := (hkl.2.2.2.1 c (List.mem_of_find?_eq_some hqf)).1
        have hbef : ∀ k (hk : k < (aL A i).flatten.length), 0 ≤ k → k < 0 + q → (aL A i).flatten[k] % 32 ≠ r ∨ bt d r = false := fun k hk _ h2 => by
          have := hfirst k (by omega)
          exact Or.inl (fun e => by rw [decide_eq_true e] at this; exact absurd this (by decide))
        have haft : ∀ k (hk : k < (aL A i).flatten.length), q + 1 ≤ k → k < q + 1 + ((aL A i).flatten.length - (q + 1)) → (aL A i).flatten[k] % 32 ≠ r ∨ bt d r = false := fun k hk h1 _ => by
          refine Or.inl (fun e => ?_)
          have h1' : ((aL A i).flatten.map (· % 32))[k]'(by rw [List.length_map]; exact hk) = ((aL A i).flatten.map (· % 32))[q]'(by rw [List.length_map]; exact hq0) := by
            rw [List.getElem_map, List.getElem_map, ec, hcr]; exact e
          have := (List.getElem_inj hnd).mp h1'
          omega
        have hsk := skip r (nI ((List.range r).filterMap (qsF d (aL A i))).length) G1 hq hr30 q 0 f (by omega) (by omega) hbef
        obtain ⟨f', hf'⟩ : ∃ g, f - q = g + 1 := ⟨f - q - 1, by omega⟩
        rw [show mm_run p_Md_queued f 21 [.ref 618, .int (nI i), .int d, .int (nI ((List.range r).filterMap (qsF d (aL A i))).length), .int (nI r), .int 0] [] (hp G1) = _ from hsk, Nat.zero_add, hf', e_Md_queued_21, show f_Md_entries [.ref 618, .int 0, .int (nI i)] (hp G1) = _ from W1.ms.ent h.os hi, ci_some, if_pos (lp hq0 (by omega)), show f_Md_rowAt [.ref 618, .int 0, .int (nI i), .int (nI q)] (hp G1) = _ from W1.ms.rat h.os hi hq0, ci_some, ec, hcr, if_pos rfl, s_Md_has _ (by omega), ci_some, hb, if_neg (by decide), gg_Md_queue, Option.bind_some, show f_Md_entryAt [.ref 618, .int 0, .int (nI i), .int (nI q)] (hp G1) = _ from W1.ms.eat h.os hi hq0, ci_some, ec, uu_Md_queue _ (by omega), Option.bind_some, show nI q + 1 = nI (q + 1) from nI_add q 1, show nI ((List.range r).filterMap (qsF d (aL A i))).length + 1 = nI (((List.range r).filterMap (qsF d (aL A i))).length + 1) from nI_add _ 1]
        have hq2 : meE G (gsi G1 631 ((List.range r).filterMap (qsF d (aL A i))).length (nI c)) := hq.tr (meE.gsi (by omega))
        have ha2 := ha.push c
        generalize gsi G1 631 ((List.range r).filterMap (qsF d (aL A i))).length (nI c) = G2 at hq2 ha2 ⊢
        have hsk2 := skip r (nI (((List.range r).filterMap (qsF d (aL A i))).length + 1)) G2 hq2 hr30 ((aL A i).flatten.length - (q + 1)) (q + 1) f' (by omega) (by omega) haft
        obtain ⟨f2, hf2⟩ : ∃ g, f' - ((aL A i).flatten.length - (q + 1)) = g + 1 := ⟨f' - ((aL A i).flatten.length - (q + 1)) - 1, by omega⟩
        rw [hsk2, show q + 1 + ((aL A i).flatten.length - (q + 1)) = (aL A i).flatten.length by omega, hf2, fin f2 _ G2 hq2]
        exact hih f2 G2 (by omega) ha2 hq2
  exact key 30 0 mm_fu G rfl (fu_lt (by omega)) (fun i h => absurd h (Nat.not_lt_zero _)) meE.rf
/-- where the least above stands -/
theorem m_least {M : List Nat} (hM : isAr G 632 M) (h8 : M.length ≤ 8) (hlt : ∀ x ∈ M, x < 32000) {a : Nat} (ha : a ≤ 32000) : f_Md_leastAbove [.ref 618, .int (nI M.length), .int (lst a)] (hp G) = some (some (.int (fbI (fb M a))), hp G) := by
  rw [e_Md_leastAbove 618 _ _ _ (ob_Md G)]
  have hm : ∀ i, i < M.length → M.getD i 0 < 32000 := fun i hi => by rw [getD_get hi]; exact hlt _ (List.getElem_mem hi)
  have := fold_loop (n := M.length) (g := fbF M a) (R := fun f i o => mm_run p_Md_leastAbove f 5 [.ref 618, .int (nI M.length), .int (lst a), .int (fbI o), .int (nI i)] [] (hp G)) (fin := fun o => some (some (Value.int (fbI o)), hp G)) (fun i o => ∀ b, o = some b → b < i) (fun f i o hi ho => by
    refine ⟨?_, fbF_lt ho⟩
    have h1 := hm i hi
    show mm_run p_Md_leastAbove (f + 1) 5 _ [] (hp G) = mm_run p_Md_leastAbove f 5 _ [] (hp G)
    rw [e_Md_leastAbove_5, if_pos (lp hi (by omega)), gg_Md_memory, Option.bind_some, rr_Md_memory _ (by omega), Option.bind_some, hM.at hi, show nI i + 1 = nI (i + 1) from nI_add i 1]
    unfold fbF
    by_cases hc : a ≤ M.getD i 0
    · rw [if_pos (by rw [lst_lt (by omega) (by omega)]; exact hc), if_pos hc]
      cases o with
      | none => rw [if_pos (show fbI none < 0 by decide)]; rfl
      | some b =>
        have hb := ho b rfl
        have h2 := hm b (by omega)
        show (if nI b < 0 then _ else _) = _
        rw [if_neg (n_nneg (show b < 2147483648 by omega)), Option.bind_some, rr_Md_memory _ (show i < 8 by omega), Option.bind_some, hM.at hi, Option.bind_some, show mm_li (hp G) 632 (fbI (some b)) = some (G.1 632 b) from rr_Md_memory G (by omega), Option.bind_some, hM.at (show b < M.length by omega)]
        dsimp only
        by_cases e : M.getD i 0 < M.getD b 0
        · rw [if_pos (lp e (by omega)), if_pos e]; rfl
        · rw [if_neg (lm (by omega) (by omega)), if_neg e]
    · rw [if_neg (by rw [lst_lt (by omega) (by omega)]; exact hc), if_neg hc]) (fun f o ho => by
    show mm_run p_Md_leastAbove (f + 1) 5 _ [] (hp G) = _
    rw [e_Md_leastAbove_5, if_neg (lm (Nat.le_refl _) (by omega))]) (a := none) (fun b q => by cases q) (f := mm_fu) (fu_lt (by omega))
  exact this.1
/-- the runs -/
theorem m_runsOf (W : MW Z G P T A U cu) (hi : i < pNi P) {room : Nat} (h1 : 1 ≤ room) (h8 : room ≤ 8) : ∃ G', f_Md_runsOf [.ref 618, .int (nI i), .int (nI room)] (hp G) = some (some (.int (nI (srtL (doomA P A) (aL A i) room).length)), hp G') ∧ isAr G' 633 (srtL (doomA P A) (aL A i) room) ∧ meE G G' := by
  obtain ⟨G1, r1, r2, r3⟩ := m_queued W hi
  have hkl := W.inv.kl hi
  have hq30 := qsL_len (doomA P A) (aL A i)
  have hqlt := qsL_lt (d := doomA P A) hkl
  rw [e_Md_runsOf 618 _ _ _ (ob_Md G), r1, ci_some]
  unfold srtL
  generalize qsL (doomA P A) (aL A i) = Q at r1 r2 hq30 hqlt ⊢
  have hlt := List.length_take (i := room) (l := Q)
  have hld := List.length_drop (i := room) (l := Q)
  have hstart : (if nI Q.length < nI room then mm_run p_Md_runsOf mm_fu 21 [.ref 618, .int (nI Q.length), .int (nI Q.length), .int 0] [] (hp G1) else mm_run p_Md_runsOf mm_fu 21 [.ref 618, .int (nI Q.length), .int (nI room), .int 0] [] (hp G1)) = mm_run p_Md_runsOf mm_fu 21 [.ref 618, .int (nI Q.length), .int (nI (Q.take room).length), .int 0] [] (hp G1) := by
    by_cases e : Q.length < room
    · rw [if_pos (lp e (by omega)), show (Q.take room).length = Q.length by omega]
    · rw [if_neg (lm (by omega) (by omega)), show (Q.take room).length = room by omega]
  rw [hstart]
  -- the memory is filled
  have fill : ∀ (j k f : Nat) (G2 : GG), k + j = (Q.take room).length → j < f → isAr G2 631 Q → isAr G2 632 (Q.take k) → meE G G2 → ∃ G3, mm_run p_Md_runsOf f 21 [.ref 618, .int (nI Q.length), .int (nI (Q.take room).length), .int (nI k)] [] (hp G2) = mm_run p_Md_runsOf (f - j) 21 [.ref 618, .int (nI Q.length), .int (nI (Q.take room).length), .int (nI (Q.take room).length)] [] (hp G3) ∧ isAr G3 631 Q ∧ isAr G3 632 (Q.take room) ∧ meE G G3 := by
    intro j
    induction j with
    | zero =>
      intro k f G2 hj hf ha hb hq
      refine ⟨G2, by rw [show k = (Q.take room).length by omega]; rfl, ha, ?_, hq⟩
      have : Q.take k = Q.take room := by
        rw [show k = min room Q.length by omega, ← List.take_take, List.take_length]
      rw [← this]; exact hb
    | succ j ih =>
      intro k f G2 hj hf ha hb hq
      obtain ⟨f, rfl⟩ : ∃ g, f = g + 1 := ⟨f - 1, by omega⟩
      have hkQ : k < Q.length := by omega
      rw [e_Md_runsOf_21, if_pos (lp (by omega) (by omega)), gg_Md_memory, Option.bind_some, gg_Md_queue, Option.bind_some, rr_Md_queue _ (by omega), Option.bind_some, ha k hkQ, uu_Md_memory _ (by omega), Option.bind_some, show nI k + 1 = nI (k + 1) from nI_add k 1]
      have hb2 := hb.push (Q[k])
      rw [show (Q.take k).length = k by rw [List.length_take]; omega, List.take_append_getElem hkQ] at hb2
      obtain ⟨G3, q1, q2, q3, q4⟩ := ih (k + 1) f _ (by omega) (by omega) (ha.oth (by decide) k (nI Q[k])) hb2 (hq.tr (meE.gsi (by omega)))
      exact ⟨G3, by rw [q1, show f + 1 - (j + 1) = f - j by omega], q2, q3, q4⟩
  obtain ⟨G2, f1, f2, f3, f4⟩ := fill (Q.take room).length 0 mm_fu G1 (by omega) (fu_lt (by omega)) r2 (fun i h => absurd h (by simp)) r3
  rw [show mm_run p_Md_runsOf mm_fu 21 [.ref 618, .int (nI Q.length), .int (nI (Q.take room).length), .int 0] [] (hp G1) = _ from f1]
  obtain ⟨f0, hf0, hf0b⟩ : ∃ g, mm_fu - (Q.take room).length = g + 1 ∧ 100 < g := ⟨mm_fu - (Q.take room).length - 1, by have := @fu_lt 999 (by omega); omega, by have := @fu_lt 999 (by omega); omega⟩
  rw [hf0, e_Md_runsOf_21, if_neg (lm (Nat.le_refl _) (by omega))]
  have key : ∀ (n : Nat) (M R : List Nat) (a : Nat) (l : List Nat) (f : Nat) (G3 : GG), n ≤ Q.length → (n = Q.length ↔ l = []) → M.length + R.length = n → (0 < n → M ≠ []) → M.length ≤ 8 → (∃ pre, Q = pre ++ R) → (∀ x ∈ M, x < 32000) → a ≤ 32000 → l.length + n ≤ 30 → 2 * n < f → isAr G3 631 Q → isAr G3 632 M → isAr G3 633 l → meE G G3 → ∃ G', mm_run p_Md_runsOf f 61 [.ref 618, .int (nI Q.length), .int (nI (Q.length - R.length)), .int (nI M.length), .int (lst a), .int (nI l.length), .int (nI (Q.length - n))] [] (hp G3) = some (some (.int (nI (srtR n M R a l).length)), hp G') ∧ isAr G' 633 (srtR n M R a l) ∧ meE G G' := by
    intro n
    induction n with
    | zero =>
      intro M R a l f G3 hnq hz hn h0 hM8 hpre hMl ha hl hf i1 i2 i3 hq
      obtain ⟨f, rfl⟩ : ∃ g, f = g + 1 := ⟨f - 1, by omega⟩
      rw [e_Md_runsOf_61, if_neg (lm (by omega) (by omega))]
      exact ⟨G3, rfl, i3, hq⟩
    | succ n ih =>
      intro M R a l f G3 hnq hz hn h0 hM8 hpre hMl ha hl hf i1 i2 i3 hq
      obtain ⟨f, rfl⟩ : ∃ g, f = g + 1 := ⟨f - 1, by omega⟩
      have hMne := h0 (by omega)
      have hMpos := List.length_pos_iff.mpr hMne
      obtain ⟨pre, epre⟩ := hpre
      have hQlen : Q.length = pre.length + R.length := by rw [epre, List.length_append]
      obtain ⟨k1, k2, k3, k4⟩ := srB_ok hMne a l
      obtain ⟨b0, hb0⟩ := fb0 hMne
      have hb0l := fb_lt hb0
      have j33 : isAr (gsi G3 633 l.length 0) 632 M := i2.oth (by decide) _ _
      have newrun : ((mm_gr 12 26 (hp G3) 618).bind fun r3 => (mm_si (hp G3) r3 (nI l.length) 0).bind fun h4 => mm_ci (f_Md_leastAbove [.ref 618, .int (nI M.length), .int (-1)] h4) fun x6 h5 => mm_run p_Md_runsOf f 107 [.ref 618, .int (nI Q.length), .int (nI (Q.length - R.length)), .int (nI M.length), .int (nI l.length + 1), .int (nI (Q.length - (n + 1))), .int x6] [] h5) = mm_run p_Md_runsOf f 107 [.ref 618, .int (nI Q.length), .int (nI (Q.length - R.length)), .int (nI M.length), .int (nI (l ++ [0]).length), .int (nI (Q.length - (n + 1))), .int (nI ((fb M 0).getD 0))] [] (hp (gsi G3 633 l.length 0)) := by
        have hfirst := m_least j33 hM8 hMl (a := 0) (by decide)
        rw [hb0] at hfirst
        rw [gg_Md_longs, Option.bind_some, uu_Md_longs _ (by omega), Option.bind_some, show f_Md_leastAbove [.ref 618, .int (nI M.length), .int (-1)] (hp (gsi G3 633 l.length 0)) = _ from hfirst, ci_some, hb0, List.length_append, show nI l.length + 1 = nI (l.length + 1) from nI_add _ 1]
        rfl
      have step1 : ∃ G5, mm_run p_Md_runsOf (f + 1) 61 [.ref 618, .int (nI Q.length), .int (nI (Q.length - R.length)), .int (nI M.length), .int (lst a), .int (nI l.length), .int (nI (Q.length - (n + 1)))] [] (hp G3) = mm_run p_Md_runsOf f 107 [.ref 618, .int (nI Q.length), .int (nI (Q.length - R.length)), .int (nI M.length), .int (nI (srB M a l).1.length), .int (nI (Q.length - (n + 1))), .int (nI (srB M a l).2)] [] (hp G5) ∧ isAr G5 631 Q ∧ isAr G5 632 M ∧ isAr G5 633 (srB M a l).1 ∧ meE G G5 := by
        rw [e_Md_runsOf_61, if_pos (lp (by omega) (by omega)), m_least i2 hM8 hMl ha, ci_some]
        have hnew : srB M a l = (l ++ [0], (fb M 0).getD 0) → ∃ G5, mm_run p_Md_runsOf f 107 [.ref 618, .int (nI Q.length), .int (nI (Q.length - R.length)), .int (nI M.length), .int (nI (l ++ [0]).length), .int (nI (Q.length - (n + 1))), .int (nI ((fb M 0).getD 0))] [] (hp (gsi G3 633 l.length 0)) = mm_run p_Md_runsOf f 107 [.ref 618, .int (nI Q.length), .int (nI (Q.length - R.length)), .int (nI M.length), .int (nI (srB M a l).1.length), .int (nI (Q.length - (n + 1))), .int (nI (srB M a l).2)] [] (hp G5) ∧ isAr G5 631 Q ∧ isAr G5 632 M ∧ isAr G5 633 (srB M a l).1 ∧ meE G G5 := fun e => by
          rw [e]
          exact ⟨_, rfl, i1.oth (by decide) _ _, j33, i3.push 0, hq.tr (meE.gsi (by omega))⟩
        cases hfb : fb M a with
        | none =>
          rw [if_pos (show fbI none < 0 by decide), newrun]
          refine hnew ?_
          unfold srB
          rw [hfb]
          split <;> rename_i e
          · rfl
          · split at e <;> cases e
        | some b =>
          have hbl := fb_lt hfb
          rw [if_neg (show ¬ fbI (some b) < 0 from n_nneg (show b < 2147483648 by omega))]
          by_cases hlz : l = []
          · rw [if_pos (show nI (Q.length - (n + 1)) = (0 : Int32) from lq (n := 0) (by have := hz.mpr hlz; omega)), newrun]
            refine hnew ?_
            unfold srB
            rw [if_pos hlz]
          · have hne : ¬ Q.length - (n + 1) = 0 := fun e => hlz (hz.mp (by omega))
            rw [if_neg (show ¬ nI (Q.length - (n + 1)) = (0 : Int32) from ln (n := 0) hne (by omega) (by decide))]
            have e : srB M a l = (l, b) := by unfold srB; rw [if_neg hlz, hfb]
            rw [e]
            exact ⟨G3, rfl, i1, i2, i3, hq⟩
      obtain ⟨G5, s1, s2, s3, s4, s6⟩ := step1
      rw [s1]
      obtain ⟨f, rfl⟩ : ∃ g, f = g + 1 := ⟨f - 1, by omega⟩
      have hsr : srtR (n + 1) M R a l = srtR n (srN M R (srB M a l).2).1 (srN M R (srB M a l).2).2 (M.getD (srB M a l).2 0 + 1) (inc (srB M a l).1) := rfl
      rw [hsr]
      obtain ⟨t1, t2, t3⟩ := srN_ok (b := (srB M a l).2) hMne hn
      generalize hl1 : (srB M a l).1 = l1 at *
      generalize hb1 : (srB M a l).2 = b at *
      have hl1pos := List.length_pos_iff.mpr k2
      have hlast : l1.length - 1 < l1.length := by omega
      have hMb : M.getD b 0 < 32000 := by rw [getD_get k1]; exact hMl _ (List.getElem_mem k1)
      have hincne : inc l1 ≠ [] := fun e => by have := congrArg List.length e; rw [inc_len, List.length_nil] at this; omega
      have hz2 : n = Q.length ↔ inc l1 = [] := ⟨fun e => by omega, fun e => absurd e hincne⟩
      rw [e_Md_runsOf_107, gg_Md_memory, Option.bind_some, rr_Md_memory _ (by omega), Option.bind_some, s3.at k1, gg_Md_longs, Option.bind_some, show nI l1.length - 1 = nI (l1.length - 1) from n_sub (b := 1) (by omega), rr_Md_longs _ (by omega), Option.bind_some, s4.at hlast, show nI (l1.getD (l1.length - 1) 0) + 1 = nI (l1.getD (l1.length - 1) 0 + 1) from nI_add _ 1, uu_Md_longs _ (by omega), Option.bind_some, show nI (M.getD b 0) = lst (M.getD b 0 + 1) from (lst_s _).symm]
      have u1 : isAr (gsi G5 633 (l1.length - 1) (nI (l1.getD (l1.length - 1) 0 + 1))) 631 Q := s2.oth (by decide) _ _
      have u2 : isAr (gsi G5 633 (l1.length - 1) (nI (l1.getD (l1.length - 1) 0 + 1))) 632 M := s3.oth (by decide) _ _
      have u3 : isAr (gsi G5 633 (l1.length - 1) (nI (l1.getD (l1.length - 1) 0 + 1))) 633 (inc l1) := s4.set _
      have u5 : meE G (gsi G5 633 (l1.length - 1) (nI (l1.getD (l1.length - 1) 0 + 1))) := s6.tr (meE.gsi (by omega))
      generalize gsi G5 633 (l1.length - 1) (nI (l1.getD (l1.length - 1) 0 + 1)) = G6 at u1 u2 u3 u5 ⊢
      have hlen2 : (inc l1).length + n ≤ 30 := by rw [inc_len]; omega
      have hil := inc_len l1
      cases R with
      | nil =>
        rw [List.length_nil] at hn hQlen
        rw [if_neg (lm (by rw [List.length_nil]; omega) (by omega)), gg_Md_memory, Option.bind_some, Option.bind_some, show nI M.length + (-1) = nI (M.length - 1) from n_addneg (b := 1) (by omega), rr_Md_memory _ (show M.length - 1 < 8 by omega), Option.bind_some, u2.at (show M.length - 1 < M.length by omega), uu_Md_memory _ (by omega), Option.bind_some]
        have hN : srN M [] b = ((M.set b (M.getD (M.length - 1) 0)).take (M.length - 1), []) := rfl
        rw [hN] at t1 t2 t3 ⊢
        have hml : ((M.set b (M.getD (M.length - 1) 0)).take (M.length - 1)).length = M.length - 1 := by rw [List.length_take, List.length_set]; omega
        have := ih ((M.set b (M.getD (M.length - 1) 0)).take (M.length - 1)) [] (M.getD b 0 + 1) (inc l1) f _ (by omega) hz2 t1 t2 (by omega) ⟨Q, by simp⟩ (fun x hx => (srN_lt (M := M) (R := []) (b := b) (by decide) hMl (fun x hx => absurd hx (by simp))).1 x hx) (by omega) hlen2 (by omega) (u1.oth (by decide) b _) ((u2.set _).take _) (u3.oth (by decide) b _) (u5.tr (meE.gsi (by omega)))
        rw [hml, hil] at this
        rw [show nI (Q.length - (n + 1)) + 1 = nI (Q.length - n) by rw [show nI (Q.length - (n + 1)) + 1 = nI (Q.length - (n + 1) + 1) from nI_add _ 1]; congr 1; omega]
        exact this
      | cons x R =>
        rw [List.length_cons] at hn hQlen
        have hx : Q[Q.length - (R.length + 1)]'(by omega) = x := by
          have : Q[Q.length - (R.length + 1)]? = some x := by
            rw [epre, List.getElem?_append_right (by rw [List.length_append, List.length_cons]; omega)]
            rw [show (pre ++ x :: R).length - (R.length + 1) - pre.length = 0 by rw [List.length_append, List.length_cons]; omega]
            rfl
          rw [List.getElem?_eq_getElem (by omega)] at this
          exact Option.some.inj this
        rw [List.length_cons, if_pos (lp (by omega) (by omega)), gg_Md_memory, Option.bind_some, gg_Md_queue, Option.bind_some, rr_Md_queue _ (by omega), Option.bind_some, u1 _ (by omega), hx, uu_Md_memory _ (by omega), Option.bind_some]
        have hN : srN M (x :: R) b = (M.set b x, R) := rfl
        rw [hN] at t1 t2 t3 ⊢
        have hxl : x < 32000 := hqlt x (by rw [epre]; simp)
        have := ih (M.set b x) R (M.getD b 0 + 1) (inc l1) f _ (by omega) hz2 t1 t2 (by rw [List.length_set]; omega) ⟨pre ++ [x], by rw [epre]; simp⟩ (fun y hy => by
          rcases List.mem_or_eq_of_mem_set hy with q | q
          · exact hMl y q
          · rw [q]; exact hxl) (by omega) hlen2 (by omega) (u1.oth (by decide) b _) (u2.set _) (u3.oth (by decide) b _) (u5.tr (meE.gsi (by omega)))
        rw [List.length_set, hil] at this
        rw [show nI (Q.length - (n + 1)) + 1 = nI (Q.length - n) by rw [show nI (Q.length - (n + 1)) + 1 = nI (Q.length - (n + 1) + 1) from nI_add _ 1]; congr 1; omega, show nI (Q.length - (R.length + 1)) + 1 = nI (Q.length - R.length) by rw [show nI (Q.length - (R.length + 1)) + 1 = nI (Q.length - (R.length + 1) + 1) from nI_add _ 1]; congr 1; omega]
        exact this
  have := key Q.length (Q.take room) (Q.drop room) 0 [] f0 G2 (Nat.le_refl _) ⟨fun _ => rfl, fun _ => rfl⟩ (by omega) (fun h q => by
    have := congrArg List.length q
    rw [List.length_nil] at this
    omega) (by omega) ⟨Q.take room, (List.take_append_drop room Q).symm⟩ (fun x hx => hqlt x (List.mem_of_mem_take hx)) (by decide) (by simpa using hq30) (by omega) f2 f3 (fun i h => absurd h (Nat.not_lt_zero _)) f4
  rw [Nat.sub_self, show Q.length - (Q.drop room).length = (Q.take room).length by omega] at this
  exact this
/-- RUNS, RUN -/
theorem m_room (W : MW Z G P T A U cu) {x m : Int32} (hc : isRm P x m = true) : ∃ i k, i < pNi P ∧ x = nI i ∧ 1 ≤ k ∧ k ≤ 8 ∧ m = nI k := by
  unfold isRm at hc
  simp only [Bool.and_eq_true, Bool.not_eq_true', decide_eq_false_iff_not] at hc
  obtain ⟨hx, h1, h8⟩ := hc
  obtain ⟨i, hi, rfl⟩ := (isIx_iff W.inv.ni x).mp hx
  obtain ⟨k, hk, rfl⟩ := (n_cases m).resolve_left (fun e => h1 (Int32.lt_trans e (by decide)))
  refine ⟨i, k, hi, rfl, ?_, ?_, rfl⟩
  · by_cases e : 1 ≤ k
    · exact e
    · exact absurd (show nI k < (1 : Int32) from lp (n := 1) (by omega) (by decide)) h1
  · by_cases e : k ≤ 8
    · exact e
    · exact absurd (show (8 : Int32) < nI k from lp (a := 8) (by omega) hk) h8
theorem r_runs (W : MW Z G P T A U cu) (x m : Int32) : ∃ G', f_Md_runs [.ref 618, .int x, .int m] (hp G) = some (some (.int (runsW P A x m)), hp G') ∧ MW Z G' P T A U cu := by
  have W1 := W.th 0
  have hn := W.inv.ni
  rw [e_Md_runs 618 _ _ _ (ob_Md G), ww_Md_thrown, Option.bind_some]
  generalize gsi G 618 0 0 = G1 at W1 ⊢
  rw [m_isIndex W1, ci_some]
  unfold runsW
  cases hx : isIx P x
  · have : isRm P x m = false := by unfold isRm; rw [hx]; rfl
    rw [if_pos (by decide), this]
    exact ⟨G1, rfl, W1⟩
  rw [if_neg (by decide), s_withX, ci_some]
  cases hw : !decide (m < 1) && !decide (8 < m)
  · have : isRm P x m = false := by unfold isRm; rw [hx, hw]; rfl
    rw [if_pos (by decide), this]
    exact ⟨G1, rfl, W1⟩
  have hc : isRm P x m = true := by unfold isRm; rw [hx, hw]; rfl
  obtain ⟨i, k, hi, rfl, hk1, hk8, rfl⟩ := m_room W hc
  obtain ⟨G2, r1, r2, r3⟩ := m_runsOf W1 hi hk1 hk8
  rw [if_neg (by decide), r1, ci_some, hc, if_pos rfl, nI_tn (by omega), nI_tn (by omega)]
  exact ⟨G2, rfl, W1.ben r3⟩
theorem r_run (W : MW Z G P T A U cu) (x m v : Int32) : ∃ G', f_Md_run [.ref 618, .int x, .int m, .int v] (hp G) = some (some (.int (runW P A x m v)), hp G') ∧ MW Z G' P T A U cu := by
  have W1 := W.th 0
  have hn := W.inv.ni
  rw [e_Md_run 618 _ _ _ _ (ob_Md G), ww_Md_thrown, Option.bind_some]
  generalize gsi G 618 0 0 = G1 at W1 ⊢
  rw [m_isIndex W1, ci_some]
  unfold runW
  cases hx : isIx P x
  · have : isRm P x m = false := by unfold isRm; rw [hx]; rfl
    rw [if_pos (by decide), this]
    refine ⟨G1, ?_, W1⟩
    by_cases hv : v < 0
    · rw [if_pos hv]; rfl
    · rw [if_neg hv, if_neg hv]; rfl
  rw [if_neg (by decide), s_withX, ci_some]
  cases hw : !decide (m < 1) && !decide (8 < m)
  · have : isRm P x m = false := by unfold isRm; rw [hx, hw]; rfl
    rw [if_pos (by decide), this]
    refine ⟨G1, ?_, W1⟩
    by_cases hv : v < 0
    · rw [if_pos hv]; rfl
    · rw [if_neg hv, if_neg hv]; rfl
  have hc : isRm P x m = true := by unfold isRm; rw [hx, hw]; rfl
  obtain ⟨i, k, hi, rfl, hk1, hk8, rfl⟩ := m_room W hc
  obtain ⟨G2, r1, r2, r3⟩ := m_runsOf W1 hi hk1 hk8
  have hok := srtL_ok (doomA P A) (aL A i) hk1
  rw [if_neg (by decide), r1, ci_some, hc, if_pos (show true = true from rfl), nI_tn (show i < 2147483648 by omega), nI_tn (show k < 2147483648 by omega)]
  refine ⟨G2, ?_, W1.ben r3⟩
  generalize srtL (doomA P A) (aL A i) k = l at *
  by_cases hv : v < 0
  · rw [if_pos hv, if_pos hv]
  obtain ⟨q, hq, rfl⟩ := (n_cases v).resolve_left hv
  rw [if_neg hv, if_neg hv, nI_tn (show q < 2147483648 by omega)]
  by_cases hlt : q < l.length
  · rw [if_pos (lp hlt (by omega)), gg_Md_longs, Option.bind_some, rr_Md_longs _ (by omega), Option.bind_some, r2 q hlt, List.getElem?_eq_getElem hlt]
  · rw [if_neg (lm (by omega) hq), List.getElem?_eq_none (by omega)]
/-- MERGED -/
theorem m_takeLeast {l : List Nat} (hl : isAr G 633 l) (h0 : l ≠ []) (h30 : l.length ≤ 30) (hs : ∀ x ∈ l, x ≤ 1000) : ∃ x l', f_Md_takeLeast [.ref 618, .int (nI l.length)] (hp G) = some (some (.int (nI x)), hp (gsi G 633 (lsI l) (nI (l.getD (l.length - 1) 0)))) ∧ isAr (gsi G 633 (lsI l) (nI (l.getD (l.length - 1) 0))) 633 l' ∧ l.Perm (x :: l') ∧ l'.length + 1 = l.length ∧ ∀ y ∈ l', x ≤ y := by
  have hpos := List.length_pos_iff.mpr h0
  obtain ⟨k1, k2⟩ := lsI_ok h0
  have hm : ∀ i, i < l.length → l.getD i 0 ≤ 1000 := fun i hi => by rw [getD_get hi]; exact hs _ (List.getElem_mem hi)
  refine ⟨l.getD (lsI l) 0, (l.set (lsI l) (l.getD (l.length - 1) 0)).take (l.length - 1), ?_, (hl.set _).take _, set_last k1, by rw [List.length_take, List.length_set]; omega, fun y hy => ?_⟩
  · rw [e_Md_takeLeast 618 _ _ (ob_Md G)]
    have := fold_loop (n := l.length - 1) (g := lsF l) (R := fun f i b => mm_run p_Md_takeLeast f 4 [.ref 618, .int (nI l.length), .int (nI b), .int (nI (i + 1))] [] (hp G)) (fin := fun b => (mm_gr 12 26 (hp G) 618).bind fun r5 => (mm_li (hp G) r5 (nI b)).bind fun x6 => (mm_gr 12 26 (hp G) 618).bind fun r7 => (mm_gr 12 26 (hp G) 618).bind fun r8 => (mm_li (hp G) r8 (nI l.length - 1)).bind fun x9 => (mm_si (hp G) r7 (nI b) x9).bind fun h10 => some (some (Value.int x6), h10)) (fun i b => b < i + 1) (fun f i b hi hb => by
      refine ⟨?_, ?_⟩
      · show mm_run p_Md_takeLeast (f + 1) 4 _ [] (hp G) = mm_run p_Md_takeLeast f 4 _ [] (hp G)
        have q1 := hm (i + 1) (by omega)
        have q2 := hm b (by omega)
        rw [e_Md_takeLeast_4, if_pos (lp (by omega) (by omega)), gg_Md_longs, Option.bind_some, rr_Md_longs _ (by omega), Option.bind_some, Option.bind_some, rr_Md_longs _ (by omega), Option.bind_some, hl.at (show i + 1 < l.length by omega), hl.at (show b < l.length by omega), show nI (i + 1) + 1 = nI (i + 1 + 1) from nI_add _ 1]
        unfold lsF
        by_cases e : l.getD (i + 1) 0 < l.getD b 0
        · rw [if_pos (lp e (by omega)), if_pos e]
        · rw [if_neg (lm (by omega) (by omega)), if_neg e]
      · unfold lsF
        split <;> omega) (fun f b hb => by
      show mm_run p_Md_takeLeast (f + 1) 4 _ [] (hp G) = _
      rw [e_Md_takeLeast_4, if_neg (lm (by omega) (by omega))]) (a := 0) (by omega) (f := mm_fu) (fu_lt (by omega))
    rw [show mm_run p_Md_takeLeast mm_fu 4 [.ref 618, .int (nI l.length), .int 0, .int 1] [] (hp G) = _ from this.1]
    show ((mm_gr 12 26 (hp G) 618).bind fun r5 => (mm_li (hp G) r5 (nI (lsI l))).bind fun x6 => (mm_gr 12 26 (hp G) 618).bind fun r7 => (mm_gr 12 26 (hp G) 618).bind fun r8 => (mm_li (hp G) r8 (nI l.length - 1)).bind fun x9 => (mm_si (hp G) r7 (nI (lsI l)) x9).bind fun h10 => some (some (Value.int x6), h10)) = _
    rw [gg_Md_longs, Option.bind_some, rr_Md_longs _ (by omega), Option.bind_some, Option.bind_some, Option.bind_some, show nI l.length - 1 = nI (l.length - 1) from n_sub (b := 1) (by omega), rr_Md_longs _ (by omega), Option.bind_some, hl.at (show l.length - 1 < l.length by omega), uu_Md_longs _ (by omega), Option.bind_some, hl.at k1]
  · have hmem : y ∈ l := (set_last k1).mem_iff.mpr (List.mem_cons_of_mem _ hy)
    obtain ⟨j, hj, ej⟩ := List.mem_iff_getElem.mp hmem
    have := k2 j hj
    rw [getD_get hj, ej] at this
    exact this
theorem r_merged (W : MW Z G P T A U cu) (x m : Int32) : ∃ G', f_Md_merged [.ref 618, .int x, .int m] (hp G) = some (some (.int (merW P A x m)), hp G') ∧ MW Z G' P T A U cu := by
  have W1 := W.th 0
  have hn := W.inv.ni
  rw [e_Md_merged 618 _ _ _ (ob_Md G), ww_Md_thrown, Option.bind_some]
  generalize gsi G 618 0 0 = G1 at W1 ⊢
  rw [m_isIndex W1, ci_some]
  unfold merW
  cases hx : isIx P x
  · have : isRm P x m = false := by unfold isRm; rw [hx]; rfl
    rw [if_pos (by decide), this]
    exact ⟨G1, rfl, W1⟩
  rw [if_neg (by decide), s_withX, ci_some]
  cases hw : !decide (m < 1) && !decide (8 < m)
  · have : isRm P x m = false := by unfold isRm; rw [hx, hw]; rfl
    rw [if_pos (by decide), this]
    exact ⟨G1, rfl, W1⟩
  have hc : isRm P x m = true := by unfold isRm; rw [hx, hw]; rfl
  obtain ⟨i, k, hi, rfl, hk1, hk8, rfl⟩ := m_room W hc
  obtain ⟨G2, r1, r2, r3⟩ := m_runsOf W1 hi hk1 hk8
  have hok := srtL_ok (doomA P A) (aL A i) hk1
  rw [if_neg (by decide), r1, ci_some, hc, if_pos (show true = true from rfl), nI_tn (show i < 2147483648 by omega), nI_tn (show k < 2147483648 by omega)]
  generalize srtL (doomA P A) (aL A i) k = l at *
  have hsum : l.sum ≤ 1000 := by
    have h1 := sum_bd hok.2
    have h2 : 30 * l.length ≤ 30 * 30 := Nat.mul_le_mul_left _ hok.1
    omega
  have key : ∀ (n : Nat) (l : List Nat) (f c : Nat) (G3 : GG), l.length ≤ 30 → l.sum ≤ 1000 → l.length ≤ n + 1 → n < f → isAr G3 633 l → meE G1 G3 → ∃ G', mm_run p_Md_merged f 35 [.ref 618, .int (nI c), .int (nI l.length)] [] (hp G3) = some (some (.int (nI (c + mcR n l))), hp G') ∧ meE G1 G' := by
    intro n
    induction n with
    | zero =>
      intro l f c G3 h30 hs hn hf hA hq
      obtain ⟨f, rfl⟩ : ∃ g, f = g + 1 := ⟨f - 1, by omega⟩
      rw [e_Md_merged_35, if_neg (show ¬ (1 : Int32) < nI l.length from lm (a := 1) (by omega) (by decide))]
      exact ⟨G3, rfl, hq⟩
    | succ n ih =>
      intro l f c G3 h30 hs hn hf hA hq
      obtain ⟨f, rfl⟩ : ∃ g, f = g + 1 := ⟨f - 1, by omega⟩
      by_cases h1 : l.length ≤ 1
      · rw [e_Md_merged_35, if_neg (show ¬ (1 : Int32) < nI l.length from lm (a := 1) (by omega) (by decide)), mcR_short h1]
        exact ⟨G3, rfl, hq⟩
      · obtain ⟨x, l1, t1, t2, t3, t4, t5⟩ := m_takeLeast hA (fun e => by rw [e] at h1; simp at h1) h30 (fun y hy => by have := mem_sum hy; omega)
        have hq1 : meE G1 (gsi G3 633 (lsI l) (nI (l.getD (l.length - 1) 0))) := hq.tr (meE.gsi (by omega))
        generalize gsi G3 633 (lsI l) (nI (l.getD (l.length - 1) 0)) = G4 at t1 t2 hq1
        have hs1 := perm_sum t3
        rw [List.sum_cons] at hs1
        obtain ⟨y, l2, v1, v2, v3, v4, v5⟩ := m_takeLeast t2 (fun e => by rw [e] at t4; simp at t4; omega) (by omega) (fun y hy => by have := mem_sum hy; omega)
        have hq2 : meE G1 (gsi G4 633 (lsI l1) (nI (l1.getD (l1.length - 1) 0))) := hq1.tr (meE.gsi (by omega))
        generalize gsi G4 633 (lsI l1) (nI (l1.getD (l1.length - 1) 0)) = G5 at v1 v2 hq2
        have hs2 := perm_sum v3
        rw [List.sum_cons] at hs2
        rw [e_Md_merged_35, if_pos (show (1 : Int32) < nI l.length from lp (a := 1) (by omega) (by omega)), t1, ci_some, show nI l.length - 1 = nI (l.length - 1) from n_sub (b := 1) (by omega), show l.length - 1 = l1.length by omega, v1, ci_some, gg_Md_longs, Option.bind_some, show nI l.length - 2 = nI (l.length - 2) from n_sub (b := 2) (by omega), show l.length - 2 = l2.length by omega, i_add, uu_Md_longs _ (by omega), Option.bind_some, i_add, show nI l.length + (-1) = nI (l.length - 1) from n_addneg (b := 1) (by omega)]
        have hso : so l = x :: y :: so l2 := by
          rw [so_congr t3, so_cons t5, so_congr v3, so_cons v5]
        have hperm : (l2 ++ [x + y]).Perm ((x + y) :: so l2) := (List.perm_append_singleton (x + y) l2).trans (List.Perm.cons _ (so_perm l2).symm)
        have hlen : (l2 ++ [x + y]).length = l.length - 1 := by rw [List.length_append]; show l2.length + 1 = _; omega
        obtain ⟨G', w1, w2⟩ := ih (l2 ++ [x + y]) f (c + (x + y)) _ (by omega) (by rw [perm_sum hperm, List.sum_cons, perm_sum (so_perm l2)]; omega) (by omega) (by omega) (v2.push (x + y)) (hq2.tr (meE.gsi (by omega)))
        rw [hlen] at w1
        rw [w1, mcR_2 hso, mcR_congr hperm, Nat.add_assoc c]
        exact ⟨G', rfl, w2⟩
  obtain ⟨G', v1, v2⟩ := key l.length l mm_fu 0 G2 hok.1 hsum (by omega) (fu_lt (by omega)) r2 r3
  rw [Nat.zero_add] at v1
  exact ⟨G', v1, W1.ben v2⟩
end MWB
